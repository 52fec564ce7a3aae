noncomputable def x11_chance_J56 (t : St) (w0 : Int32) : Option (Int32 × St) :=
  (x2_putThousandths_12 t w0 (gI t 6) (gI t 803)).bind (fun q1 => some ((1 : Int32), q1))
theorem mm_x11_chance_J56 (t : St) (w0 : Int32) : MR (x11_chance_J56 t w0) t (fun (a : Int32 × St) => a.2) := by
  unfold x11_chance_J56
  exact MR_bind (mm_x2_putThousandths_12 t w0 (gI t 6) (gI t 803)) (fun q1 hq1 => MR_some hq1)
noncomputable def x11_chance_J35 (t : St) (w0 : Int32) : Option (Int32 × St) :=
  if w0 = 0 then (some ((-5 : Int32), t)) else ((x0_takeOdds t (0 : Int32)).bind (fun q4 => (x0_work q4).bind (fun q6 => x11_chance_J56 q6.2 q6.1)))
theorem mm_x11_chance_J35 (t : St) (w0 : Int32) : MR (x11_chance_J35 t w0) t (fun (a : Int32 × St) => a.2) := by
  unfold x11_chance_J35
  exact MR_ite (MR_some mle.rfl) (MR_bind (mm_x0_takeOdds t (0 : Int32)) (fun q4 hq4 => MR_bind (mm_x0_work q4) (fun q6 hq6 => MR_wk (mle.trans hq4 hq6) (mm_x11_chance_J56 q6.2 q6.1))))
noncomputable def x11_chance (t0 : St) (a1 : Int32) : Option (Int32 × St) :=
  (x11_noNet t0 a1).bind (fun q8 => if q8 = 0 then (gd a1 (gN t0 602) (nm (gA t0 602 (a1).toNatClampNeg) (fun x13 : Int32 => if 0 ≤ x13 then ((x0_mayWork t0 x13).bind (fun q15 => x11_chance_J35 q15.2 q15.1)) else (some ((-3 : Int32), t0))))) else (some ((-2 : Int32), t0)))
theorem mm_x11_chance (t0 : St) (a1 : Int32) : MR (x11_chance t0 a1) t0 (fun (a : Int32 × St) => a.2) := by
  unfold x11_chance
  exact MR_bindn (fun q8 => MR_ite (MR_gd (MR_nm (fun x13 _ => MR_ite (MR_bind (mm_x0_mayWork t0 x13) (fun q15 hq15 => MR_wk hq15 (mm_x11_chance_J35 q15.2 q15.1))) (MR_some mle.rfl)))) (MR_some mle.rfl))
set_option maxHeartbeats 4000000 in
set_option maxRecDepth 100000 in
theorem c_x11_chance (l : Launch) {D : va_G} {cI cJ cZ cR : ClassId} {am gm : Nat → Nat} {st : Nat} (sz : Nat) (t0 : St) (a1 : Int32) {r : Int32} {t' : St} (ho : x11_chance t0 a1 = some (r, t')) : Met l yX11_chance (.code yX11_chance cX11_chance 4 (some .int) :: wsAll) (rmA 6 142 t0 t') (va_Pc [.ref (am 2011), .int a1] (prX D (tyX cI cJ cZ cR) (wX cI cJ cZ cR am gm t0) sz st)) (qIa r D (tyX cI cJ cZ cR) (fun gm => wX cI cJ cZ cR am gm t') (va_A (wX cI cJ cZ cR am gm t0) sz)) (mC t0 t') (mS t0 t') (va_A (wX cI cJ cZ cR am gm t0) sz) := by
  refine Met.ofW (cc := cX11_chance) (maxL := 4) (ret := (some .int)) (by decide) rfl ?_
  intro p e s m args below meth c s₁ B hml hv
  obtain ⟨rfl, ⟨hsz, hP, hK, hD0⟩, hsx⟩ := hv
  have hx := B.exec
  have hb := B.bytes
  have hts := atoms_spec (ws := (.code yX11_chance cX11_chance 4 (some .int) :: wsAll)) B.pre
  have hta := fun w h => hts w (List.mem_cons_of_mem _ h)
  have hown : s.vm.findClass RX11 = some m.cls := findClass_of_methodNamed B.named
  have hlocks := B.notSynchronized
  subst hsz
  have hD := hD0.self (sz := s.heap.size)
  generalize hAe : va_A (wX cI cJ cZ cR am gm t0) s.heap.size = A at hD ⊢
  have hA : ∀ q : Nat, s.heap.size ≤ q → A q := fun q h => by rw [← hAe]; exact Or.inr h
  have C0 : cxX p s m ([.ref (am 2011), .int a1].toArray) meth c cX11_chance RX11 4 (some .int) D (tyX cI cJ cZ cR) st A := ⟨⟨hx, hb, B.returns, hml, hown, hta, hlocks, hK, hA⟩, by rw [← hAe]; exact hsx⟩
  have hW : wl D A s (wX cI cJ cZ cR am gm t0) s.heap [] := ⟨hP, hD, va_S.rf⟩
  have hl := lv_entry [.ref (am 2011), .int a1] (n := 4) (Nat.le_of_ble_eq_true rfl)
  rw [lg_entry_eq]
  generalize (lg_sl [.ref (am 2011), .int a1] ++ List.replicate (4 - (lg_sl [.ref (am 2011), .int a1]).length) Slot.unset).toArray = ls at hl ⊢
  have hl : lv_has ls 4 [(0, .ref (am 2011)), (1, .int a1)] := hl
  clear hAe hD hP hD0 hts
  have J56 : ∀ (gm : Nat → Nat) (t : St) (w0 : Int32) (_ : x11_chance_J56 t w0 = some (r, t')) (_ : mle t0 t) (H : Heap) (locs : List Loc) (ls : Array Slot), wl D A s (wX cI cJ cZ cR am gm t) H locs → lv_has ls 4 [(0, .ref (am 2011))] → W p l e (rmA 6 142 t0 t') s m ([.ref (am 2011), .int a1].toArray) below meth c H locs (mC t0 t) (mS t0 t) (MQ below (qIa r D (tyX cI cJ cZ cR) (fun gm => wX cI cJ cZ cR am gm t') A) ([.ref (am 2011), .int a1].toArray) s (mC t0 t') (mS t0 t') A) (F0 m 56 ls [.int w0]) := by
    intro gm t w0 ho h0 H locs ls hW hl
    have hE : mle t t' := (mm_x11_chance_J56 _ _ _ ho)
    have hR := hR_of (t0 := t0) hE
    unfold x11_chance_J56 at ho
    refine lv_istore_n (lv' := [(3, .int w0), (0, .ref (am 2011))]) hx hb dX11_chance_56 rfl hl (by decide) rfl (fun ls hl => ?_)
    refine lv_aload_n hx hb dX11_chance_57 rfl (lv_at hl 1 rfl) ?_
    refine xGET_1105 C0 kw_596 hW dX11_chance_58 ?_
    refine lv_aload_n hx hb dX11_chance_61 rfl (lv_at hl 1 rfl) ?_
    refine xGET_1106 C0 kw_597 hW dX11_chance_62 ?_
    refine xGET_12 C0 kw_398 hW dX11_chance_65 ?_
    refine lv_iload_n hx hb dX11_chance_68 rfl (lv_at hl 0 rfl) ?_
    refine lv_aload_n hx hb dX11_chance_69 rfl (lv_at hl 1 rfl) ?_
    refine xGET_1106 C0 kw_597 hW dX11_chance_70 ?_
    refine xGET_6 C0 kw_390 hW dX11_chance_73 ?_
    refine lv_aload_n hx hb dX11_chance_76 rfl (lv_at hl 1 rfl) ?_
    refine xGET_1103 C0 kw_594 hW dX11_chance_77 ?_
    refine xGET_803 C0 kw_277 hW dX11_chance_80 ?_
    obtain ⟨q1, hc2, ho⟩ := bd_some ho
    have hq1 := mm_x2_putThousandths_12 t w0 (gI t 6) (gI t 803) _ hc2
    refine bkV C0.1 hW (runVX (As := [.ref (gm 12), .int w0, .int (gI t 6), .int (gI t 803)]) (rest := []) C0 hW (c_x2_putThousandths_12 l _ t w0 (gI t 6) (gI t 803) (t' := q1) hc2) cb_X11_X2_putThousandths_215 2 2 rfl rfl rfl rfl rfl ⟨rfl, rfl⟩ ⟨Nat.le_of_ble_eq_true rfl, Nat.le_of_ble_eq_true rfl⟩ (Nat.le_of_ble_eq_true rfl) hl.1 dX11_chance_83 ⟨hR.1, hR.2⟩) (fun H locs hW => ?_)
    refine lv_iconst (v := (1 : Int32)) hx hb dX11_chance_86 (by decide) ?_
    refine W_up h0 hq1 ?_
    cases ho
    exact rtIa gm C0.1 hW dX11_chance_87
  have J35 : ∀ (gm : Nat → Nat) (t : St) (w0 : Int32) (_ : x11_chance_J35 t w0 = some (r, t')) (_ : mle t0 t) (H : Heap) (locs : List Loc) (ls : Array Slot), wl D A s (wX cI cJ cZ cR am gm t) H locs → lv_has ls 4 [(0, .ref (am 2011))] → W p l e (rmA 6 142 t0 t') s m ([.ref (am 2011), .int a1].toArray) below meth c H locs (mC t0 t) (mS t0 t) (MQ below (qIa r D (tyX cI cJ cZ cR) (fun gm => wX cI cJ cZ cR am gm t') A) ([.ref (am 2011), .int a1].toArray) s (mC t0 t') (mS t0 t') A) (F0 m 35 ls [.int w0]) := by
    intro gm t w0 ho h0 H locs ls hW hl
    have hE : mle t t' := (mm_x11_chance_J35 _ _ _ ho)
    have hR := hR_of (t0 := t0) hE
    unfold x11_chance_J35 at ho
    refine lv_if_ne (tgt := 41) hx hb dX11_chance_35 (by decide) (fun c3 => ?_) (fun c3 => ?_)
    · replace ho := ite_f c3 ho
      refine lv_aload_n hx hb dX11_chance_41 rfl (lv_at hl 0 rfl) ?_
      refine xGET_1106 C0 kw_597 hW dX11_chance_42 ?_
      refine lv_iconst (v := (0 : Int32)) hx hb dX11_chance_45 (by decide) ?_
      obtain ⟨q4, hc5, ho⟩ := bd_some ho
      have hq4 := mm_x0_takeOdds t (0 : Int32) _ hc5
      refine bkV C0.1 hW (runVX (As := [.int (0 : Int32)]) (rest := []) C0 hW (c_x0_takeOdds l _ t (0 : Int32) (t' := q4) hc5) cb_X11_X0_takeOdds_200 0 0 rfl rfl rfl rfl rfl ⟨rfl, rfl⟩ ⟨Nat.le_of_ble_eq_true rfl, Nat.le_of_ble_eq_true rfl⟩ (Nat.le_of_ble_eq_true rfl) hl.1 dX11_chance_46 ⟨hR.1, hR.2⟩) (fun H locs hW => ?_)
      refine lv_aload_n hx hb dX11_chance_49 rfl (lv_at hl 0 rfl) ?_
      refine xGET_1106 C0 kw_597 hW dX11_chance_50 ?_
      obtain ⟨q6, hc7, ho⟩ := bd_some ho
      have hq6 := mm_x0_work q4 _ hc7
      have hEq6 := (mm_x11_chance_J56 _ _ _ ho)
      refine W_up h0 hq4 ?_
      have h0 := (mle.trans h0 hq4)
      refine bkIa C0.1 hW h0 hq6 (runVX (As := []) (rest := []) C0 hW (c_x0_work l _ q4 (r := q6.1) (t' := q6.2) hc7) cb_X11_X0_work_203 0 0 rfl rfl rfl rfl rfl ⟨rfl, rfl⟩ ⟨Nat.le_of_ble_eq_true rfl, Nat.le_of_ble_eq_true rfl⟩ (Nat.le_of_ble_eq_true rfl) hl.1 dX11_chance_53 (hf_of h0 hq6 hEq6)) (fun gm H locs hW => ?_)
      have h0 := mle.trans h0 hq6
      exact J56 gm _ _ ho h0 _ _ _ hW (lv_sub hl [0] rfl)
    · replace ho := ite_t c3 ho
      refine lv_bipush (v := (-5 : Int32)) hx hb dX11_chance_38 (by decide) ?_
      cases ho
      exact rtIa gm C0.1 hW dX11_chance_40
  have hE : mle t0 t' := mm_x11_chance _ _ _ ho
  have hR := hR_of (t0 := t0) hE
  have h0 : mle t0 t0 := mle.rfl
  refine W_0 (t0 := t0) ?_
  unfold x11_chance at ho
  refine lv_iload_n hx hb dX11_chance_0 rfl (lv_at hl 1 rfl) ?_
  obtain ⟨q8, hc9, ho⟩ := bd_some ho
  refine bkZ C0.1 hW (runSX (As := [.int a1]) (rest := []) C0 hW (c_x11_noNet l _ t0 a1 (r := q8) hc9) cb_X11_X11_noNet_124 rfl rfl ⟨rfl, rfl⟩ ⟨Nat.le_of_ble_eq_true rfl, Nat.le_of_ble_eq_true rfl⟩ (Nat.le_of_ble_eq_true rfl) hl.1 dX11_chance_1 ⟨hR.1, hR.2⟩) (fun z10 H locs hW => ?_)
  refine lv_if_eq (tgt := 10) hx hb dX11_chance_4 (by decide) (fun c11 => ?_) (fun c11 => ?_)
  · replace ho := ite_t c11 ho
    refine lv_aload_n hx hb dX11_chance_10 rfl (lv_at hl 0 rfl) ?_
    refine xGET_1101 C0 kw_592 hW dX11_chance_11 ?_
    refine xGET_602 C0 kw_184 hW dX11_chance_14 ?_
    refine lv_iload_n hx hb dX11_chance_17 rfl (lv_at hl 1 rfl) ?_
    obtain ⟨g12, ho⟩ := gd_some ho
    refine xLD_602 C0 hW g12 dX11_chance_18 ?_
    refine lv_nmi ho (fun x13 ho => ?_)
    refine lv_istore_n (lv' := [(2, .int x13), (0, .ref (am 2011)), (1, .int a1)]) hx hb dX11_chance_19 rfl hl (by decide) rfl (fun ls hl => ?_)
    refine lv_iload_n hx hb dX11_chance_20 rfl (lv_at hl 0 rfl) ?_
    refine lv_if_ge (tgt := 27) hx hb dX11_chance_21 (by decide) (fun c14 => ?_) (fun c14 => ?_)
    · replace ho := ite_t c14 ho
      refine lv_aload_n hx hb dX11_chance_27 rfl (lv_at hl 1 rfl) ?_
      refine xGET_1106 C0 kw_597 hW dX11_chance_28 ?_
      refine lv_iload_n hx hb dX11_chance_31 rfl (lv_at hl 0 rfl) ?_
      obtain ⟨q15, hc16, ho⟩ := bd_some ho
      have hq15 := mm_x0_mayWork t0 x13 _ hc16
      have hEq15 := (mm_x11_chance_J35 _ _ _ ho)
      refine bkZa C0.1 hW h0 hq15 (runVX (As := [.int x13]) (rest := []) C0 hW (c_x0_mayWork l _ t0 x13 (r := q15.1) (t' := q15.2) hc16) cb_X11_X0_mayWork_197 0 0 rfl rfl rfl rfl rfl ⟨rfl, rfl⟩ ⟨Nat.le_of_ble_eq_true rfl, Nat.le_of_ble_eq_true rfl⟩ (Nat.le_of_ble_eq_true rfl) hl.1 dX11_chance_32 (hf_of h0 hq15 hEq15)) (fun z17 gm H locs hW => ?_)
      have h0 := mle.trans h0 hq15
      exact J35 gm _ _ ho h0 _ _ _ hW (lv_sub hl [1] rfl)
    · replace ho := ite_f c14 ho
      refine lv_bipush (v := (-3 : Int32)) hx hb dX11_chance_24 (by decide) ?_
      cases ho
      exact rtIa gm C0.1 hW dX11_chance_26
  · replace ho := ite_f c11 ho
    refine lv_bipush (v := (-2 : Int32)) hx hb dX11_chance_7 (by decide) ?_
    cases ho
    exact rtIa gm C0.1 hW dX11_chance_9
noncomputable def j7_fill_53178_13_B5 (v1 : Int32) (v3 : Int32) (v2 : Int32) (t : St) : Option ((Int32 × St) ⊕ (St)) :=
  if v3 ≤ v2 then (some (.inr t)) else (gd v2 (gN t 13) (nm (sA t 13 v2 v1) (fun t3 : St => nm (v2 + (1 : Int32)) (fun x4 : Int32 => some (.inl (x4, t3))))))
theorem mm_j7_fill_53178_13_B5 (v1 : Int32) (v3 : Int32) (v2 : Int32) (t : St) : MR (j7_fill_53178_13_B5 v1 v3 v2 t) t (Sum.elim (fun (x : Int32 × St) => x.2) (fun (y : St) => y)) := by
  unfold j7_fill_53178_13_B5
  exact MR_ite (MR_some mle.rfl) (MR_gd (MR_nmS mle_sA (fun t3 ht3 => MR_nm (fun x4 _ => MR_some ht3))))
theorem mm_j7_fill_53178_13_L5 (v1 : Int32) (v3 : Int32) (v2 : Int32) (t : St) : MR (lp (fun x => j7_fill_53178_13_B5 v1 v3 x.1 x.2) (v2, t)) t (fun (y : St) => y) := MR_lp (p := (fun (x : Int32 × St) => x.2)) (q := (fun (y : St) => y)) (fun x => mm_j7_fill_53178_13_B5 v1 v3 x.1 x.2) (v2, t)
noncomputable def j7_fill_53178_13 (t : St) (a1 : Int32) : Option (St) :=
  nm (Int32.ofNat (gN t 13)) (fun x5 : Int32 => (lp (fun x => j7_fill_53178_13_B5 a1 x5 x.1 x.2) ((0 : Int32), t)).bind (fun y6 => some y6))
theorem mm_j7_fill_53178_13 (t : St) (a1 : Int32) : MR (j7_fill_53178_13 t a1) t (fun (a : St) => a) := by
  unfold j7_fill_53178_13
  exact MR_nm (fun x5 _ => MR_bind (mm_j7_fill_53178_13_L5 a1 x5 (0 : Int32) t) (fun y6 hm7 => MR_some hm7))
set_option maxHeartbeats 4000000 in
set_option maxRecDepth 100000 in
theorem j7_fill_53178_13_L5 {p : Program} {l : Launch} {e : Env} {s : State} {m : MethodId} {args : Array Value} {below : List Frame} {meth : Method} {c : Code} {Q : State → Prop} {D : va_G} {cI cJ cZ cR : ClassId} {am gm : Nat → Nat} {st : Nat} {A : Nat → Prop} (C0 : cxX p s m args meth c cJ7_fill_53178 RJ7 4 none D (tyX cI cJ cZ cR) st A) {v1 : Int32} {v3 : Int32} {y : St} (hK0 : ∀ (H : Heap) (locs : List Loc) (ls : Array Slot), wl D A s (wX cI cJ cZ cR am gm y) H locs → lv_has ls 4 [] → W p l e (rmN 0 0) s m args below meth c H locs 0 0 Q (F0 m 20 ls [])) :
    ∀ (n : Nat) (v2 : Int32) (t : St), lpn (fun x => j7_fill_53178_13_B5 v1 v3 x.1 x.2) n (v2, t) = some y → ∀ (H : Heap) (locs : List Loc) (ls : Array Slot), wl D A s (wX cI cJ cZ cR am gm t) H locs → lv_has ls 4 [(0, .ref (am 13)), (1, .int v1), (2, .int v2), (3, .int v3)] → W p l e (rmN 0 0) s m args below meth c H locs 0 0 Q (F0 m 5 ls []) := by
  have hx := C0.1.1
  have hb := C0.1.2.1
  have hta := C0.1.2.2.2.2.2.1
  have hown := C0.1.2.2.2.2.1
  intro n
  induction n with
  | zero => intro _ _ h; cases h
  | succ n ih =>
    intro v2 t hrun H locs ls hW hl
    obtain ⟨o, ho, hrun⟩ := bd_some hrun
    unfold j7_fill_53178_13_B5 at ho
    refine lv_iload_n hx hb dJ7_fill_53178_5 rfl (lv_at hl 2 rfl) ?_
    refine lv_iload_n hx hb dJ7_fill_53178_6 rfl (lv_at hl 3 rfl) ?_
    refine lv_icmp_ge (tgt := 20) hx hb dJ7_fill_53178_7 (by decide) (fun c1 => ?_) (fun c1 => ?_)
    · replace ho := ite_t c1 ho
      cases ho
      cases hrun
      exact hK0 _ _ _ hW (lv_sub hl [] rfl)
    · replace ho := ite_f c1 ho
      refine lv_aload_n hx hb dJ7_fill_53178_10 rfl (lv_at hl 0 rfl) ?_
      refine lv_iload_n hx hb dJ7_fill_53178_11 rfl (lv_at hl 2 rfl) ?_
      refine lv_iload_n hx hb dJ7_fill_53178_12 rfl (lv_at hl 1 rfl) ?_
      obtain ⟨g2, ho⟩ := gd_some ho
      refine xST_13 C0 hW g2 dJ7_fill_53178_13 (fun H locs hW => ?_)
      obtain ⟨t3, ho, hW⟩ := nm_w (P := fun t => wl D A s (wX cI cJ cZ cR am gm t) H locs) ho hW
      obtain ⟨x4, ex4, ho⟩ := nm_x ho
      refine lv_iinc (v := x4) (lv' := [(2, .int x4), (0, .ref (am 13)), (1, .int v1), (3, .int v3)]) hx hb dJ7_fill_53178_14 hl (k := 2) rfl (by rw [ex4]; rfl) (by decide) rfl (fun ls hl => ?_)
      clear ex4
      refine lv_goto (tgt := 5) hx hb dJ7_fill_53178_17 (by decide) ?_
      cases ho
      exact ih _ _ hrun _ _ _ hW (lv_sub hl [1, 2, 0, 3] rfl)
set_option maxHeartbeats 4000000 in
set_option maxRecDepth 100000 in
theorem c_j7_fill_53178_13 (l : Launch) {D : va_G} {cI cJ cZ cR : ClassId} {am gm : Nat → Nat} {st : Nat} (sz : Nat) (t : St) (a1 : Int32) {t' : St} (ho : j7_fill_53178_13 t a1 = some t') : Met l yJ7_fill_53178 (.code yJ7_fill_53178 cJ7_fill_53178 4 none :: wsAll) (rmN 0 0) (va_Pc [.ref (am 13), .int a1] (prX D (tyX cI cJ cZ cR) (wX cI cJ cZ cR am gm t) sz st)) (qV D (tyX cI cJ cZ cR) (wX cI cJ cZ cR am gm t') (va_A (wX cI cJ cZ cR am gm t) sz)) 0 0 (va_A (wX cI cJ cZ cR am gm t) sz) := by
  refine Met.ofW (cc := cJ7_fill_53178) (maxL := 4) (ret := none) (by decide) rfl ?_
  intro p e s m args below meth c s₁ B hml hv
  obtain ⟨rfl, ⟨hsz, hP, hK, hD0⟩, hsx⟩ := hv
  have hx := B.exec
  have hb := B.bytes
  have hts := atoms_spec (ws := (.code yJ7_fill_53178 cJ7_fill_53178 4 none :: wsAll)) B.pre
  have hta := fun w h => hts w (List.mem_cons_of_mem _ h)
  have hown : s.vm.findClass RJ7 = some m.cls := findClass_of_methodNamed B.named
  have hlocks := B.notSynchronized
  subst hsz
  have hD := hD0.self (sz := s.heap.size)
  generalize hAe : va_A (wX cI cJ cZ cR am gm t) s.heap.size = A at hD ⊢
  have hA : ∀ q : Nat, s.heap.size ≤ q → A q := fun q h => by rw [← hAe]; exact Or.inr h
  have C0 : cxX p s m ([.ref (am 13), .int a1].toArray) meth c cJ7_fill_53178 RJ7 4 none D (tyX cI cJ cZ cR) st A := ⟨⟨hx, hb, B.returns, hml, hown, hta, hlocks, hK, hA⟩, by rw [← hAe]; exact hsx⟩
  have hW : wl D A s (wX cI cJ cZ cR am gm t) s.heap [] := ⟨hP, hD, va_S.rf⟩
  have hl := lv_entry [.ref (am 13), .int a1] (n := 4) (Nat.le_of_ble_eq_true rfl)
  rw [lg_entry_eq]
  generalize (lg_sl [.ref (am 13), .int a1] ++ List.replicate (4 - (lg_sl [.ref (am 13), .int a1]).length) Slot.unset).toArray = ls at hl ⊢
  have hl : lv_has ls 4 [(0, .ref (am 13)), (1, .int a1)] := hl
  unfold j7_fill_53178_13 at ho
  refine lv_iconst (v := (0 : Int32)) hx hb dJ7_fill_53178_0 (by decide) ?_
  refine lv_istore_n (lv' := [(2, .int (0 : Int32)), (0, .ref (am 13)), (1, .int a1)]) hx hb dJ7_fill_53178_1 rfl hl (by decide) rfl (fun ls hl => ?_)
  refine lv_aload_n hx hb dJ7_fill_53178_2 rfl (lv_at hl 1 rfl) ?_
  refine xLEN_13 C0 hW dJ7_fill_53178_3 ?_
  refine lv_nmi ho (fun x5 ho => ?_)
  refine lv_istore_n (lv' := [(3, .int x5), (2, .int (0 : Int32)), (0, .ref (am 13)), (1, .int a1)]) hx hb dJ7_fill_53178_4 rfl hl (by decide) rfl (fun ls hl => ?_)
  obtain ⟨y6, hc8, ho⟩ := bd_some ho
  obtain ⟨ny6, hc8⟩ := lp_to hc8
  refine j7_fill_53178_13_L5 C0 ?_ ny6 _ _ hc8 _ _ _ hW (lv_sub hl [2, 3, 1, 0] rfl)
  intro H locs ls hW hl
  cases ho
  exact rtV C0.1 hW dJ7_fill_53178_20
noncomputable def x8_narrowed_B4 (t : St) (v1 : Int32) (v2 : Int32) (v3 : Int32) : Option ((Int32 × Int32) ⊕ (Int32)) :=
  if (gI t 803) ≤ v3 then (some (.inr v2)) else (gd v3 (gN t 801) (nm (v2 ||| (((v1 >>> ((gA t 801 (v3).toNatClampNeg) &&& 31)) &&& (1 : Int32)) <<< (v3 &&& 31))) (fun x3 : Int32 => nm (v3 + (1 : Int32)) (fun x4 : Int32 => some (.inl (x3, x4))))))
noncomputable def x8_narrowed (t : St) (a1 : Int32) : Option (Int32) :=
  (lp (fun x => x8_narrowed_B4 t a1 x.1 x.2) ((0 : Int32), (0 : Int32))).bind (fun y5 => some y5)
set_option maxHeartbeats 4000000 in
set_option maxRecDepth 100000 in
theorem x8_narrowed_L4 {p : Program} {l : Launch} {e : Env} {s : State} {m : MethodId} {args : Array Value} {below : List Frame} {meth : Method} {c : Code} {Q : State → Prop} {D : va_G} {cI cJ cZ cR : ClassId} {am gm : Nat → Nat} {st : Nat} {A : Nat → Prop} (C0 : cxX p s m args meth c cX8_narrowed RX8 4 (some .int) D (tyX cI cJ cZ cR) st A) {t : St} {v1 : Int32} {y : Int32} (hK0 : ∀ (H : Heap) (locs : List Loc) (ls : Array Slot), wl D A s (wX cI cJ cZ cR am gm t) H locs → lv_has ls 4 [(0, .ref (am 2008)), (2, .int y)] → W p l e (rmN 0 0) s m args below meth c H locs 0 0 Q (F0 m 33 ls [])) :
    ∀ (n : Nat) (v2 : Int32) (v3 : Int32), lpn (fun x => x8_narrowed_B4 t v1 x.1 x.2) n (v2, v3) = some y → ∀ (H : Heap) (locs : List Loc) (ls : Array Slot), wl D A s (wX cI cJ cZ cR am gm t) H locs → lv_has ls 4 [(0, .ref (am 2008)), (1, .int v1), (2, .int v2), (3, .int v3)] → W p l e (rmN 0 0) s m args below meth c H locs 0 0 Q (F0 m 4 ls []) := by
  have hx := C0.1.1
  have hb := C0.1.2.1
  have hta := C0.1.2.2.2.2.2.1
  have hown := C0.1.2.2.2.2.1
  intro n
  induction n with
  | zero => intro _ _ h; cases h
  | succ n ih =>
    intro v2 v3 hrun H locs ls hW hl
    obtain ⟨o, ho, hrun⟩ := bd_some hrun
    unfold x8_narrowed_B4 at ho
    refine lv_iload_n hx hb dX8_narrowed_4 rfl (lv_at hl 3 rfl) ?_
    refine lv_aload_n hx hb dX8_narrowed_5 rfl (lv_at hl 0 rfl) ?_
    refine xGET_803 C0 kw_274 hW dX8_narrowed_6 ?_
    refine lv_icmp_ge (tgt := 33) hx hb dX8_narrowed_9 (by decide) (fun c1 => ?_) (fun c1 => ?_)
    · replace ho := ite_t c1 ho
      cases ho
      cases hrun
      exact hK0 _ _ _ hW (lv_sub hl [0, 2] rfl)
    · replace ho := ite_f c1 ho
      refine lv_iload_n hx hb dX8_narrowed_12 rfl (lv_at hl 2 rfl) ?_
      refine lv_iload_n hx hb dX8_narrowed_13 rfl (lv_at hl 1 rfl) ?_
      refine lv_aload_n hx hb dX8_narrowed_14 rfl (lv_at hl 0 rfl) ?_
      refine xGET_801 C0 kw_270 hW dX8_narrowed_15 ?_
      refine lv_iload_n hx hb dX8_narrowed_18 rfl (lv_at hl 3 rfl) ?_
      obtain ⟨g2, ho⟩ := gd_some ho
      refine xLD_801 C0 hW g2 dX8_narrowed_19 ?_
      refine lv_ishr hx hb dX8_narrowed_20 ?_
      refine lv_iconst (v := (1 : Int32)) hx hb dX8_narrowed_21 (by decide) ?_
      refine lv_iand hx hb dX8_narrowed_22 ?_
      refine lv_iload_n hx hb dX8_narrowed_23 rfl (lv_at hl 3 rfl) ?_
      refine lv_ishl hx hb dX8_narrowed_24 ?_
      refine lv_ior hx hb dX8_narrowed_25 ?_
      refine lv_nmi ho (fun x3 ho => ?_)
      refine lv_istore_n (lv' := [(2, .int x3), (0, .ref (am 2008)), (1, .int v1), (3, .int v3)]) hx hb dX8_narrowed_26 rfl hl (by decide) rfl (fun ls hl => ?_)
      obtain ⟨x4, ex4, ho⟩ := nm_x ho
      refine lv_iinc (v := x4) (lv' := [(3, .int x4), (2, .int x3), (0, .ref (am 2008)), (1, .int v1)]) hx hb dX8_narrowed_27 hl (k := 3) rfl (by rw [ex4]; rfl) (by decide) rfl (fun ls hl => ?_)
      clear ex4
      refine lv_goto (tgt := 4) hx hb dX8_narrowed_30 (by decide) ?_
      cases ho
      exact ih _ _ hrun _ _ _ hW (lv_sub hl [2, 3, 1, 0] rfl)
set_option maxHeartbeats 4000000 in
set_option maxRecDepth 100000 in
theorem c_x8_narrowed (l : Launch) {D : va_G} {cI cJ cZ cR : ClassId} {am gm : Nat → Nat} {st : Nat} (sz : Nat) (t : St) (a1 : Int32) {r : Int32} (ho : x8_narrowed t a1 = some r) : Met l yX8_narrowed (.code yX8_narrowed cX8_narrowed 4 (some .int) :: wsAll) (rmN 0 0) (va_Pc [.ref (am 2008), .int a1] (prX D (tyX cI cJ cZ cR) (wX cI cJ cZ cR am gm t) sz st)) (qI r D (tyX cI cJ cZ cR) (wX cI cJ cZ cR am gm t) (va_A (wX cI cJ cZ cR am gm t) sz)) 0 0 (va_A (wX cI cJ cZ cR am gm t) sz) := by
  refine Met.ofW (cc := cX8_narrowed) (maxL := 4) (ret := (some .int)) (by decide) rfl ?_
  intro p e s m args below meth c s₁ B hml hv
  obtain ⟨rfl, ⟨hsz, hP, hK, hD0⟩, hsx⟩ := hv
  have hx := B.exec
  have hb := B.bytes
  have hts := atoms_spec (ws := (.code yX8_narrowed cX8_narrowed 4 (some .int) :: wsAll)) B.pre
  have hta := fun w h => hts w (List.mem_cons_of_mem _ h)
  have hown : s.vm.findClass RX8 = some m.cls := findClass_of_methodNamed B.named
  have hlocks := B.notSynchronized
  subst hsz
  have hD := hD0.self (sz := s.heap.size)
  generalize hAe : va_A (wX cI cJ cZ cR am gm t) s.heap.size = A at hD ⊢
  have hA : ∀ q : Nat, s.heap.size ≤ q → A q := fun q h => by rw [← hAe]; exact Or.inr h
  have C0 : cxX p s m ([.ref (am 2008), .int a1].toArray) meth c cX8_narrowed RX8 4 (some .int) D (tyX cI cJ cZ cR) st A := ⟨⟨hx, hb, B.returns, hml, hown, hta, hlocks, hK, hA⟩, by rw [← hAe]; exact hsx⟩
  have hW : wl D A s (wX cI cJ cZ cR am gm t) s.heap [] := ⟨hP, hD, va_S.rf⟩
  have hl := lv_entry [.ref (am 2008), .int a1] (n := 4) (Nat.le_of_ble_eq_true rfl)
  rw [lg_entry_eq]
  generalize (lg_sl [.ref (am 2008), .int a1] ++ List.replicate (4 - (lg_sl [.ref (am 2008), .int a1]).length) Slot.unset).toArray = ls at hl ⊢
  have hl : lv_has ls 4 [(0, .ref (am 2008)), (1, .int a1)] := hl
  unfold x8_narrowed at ho
  refine lv_iconst (v := (0 : Int32)) hx hb dX8_narrowed_0 (by decide) ?_
  refine lv_istore_n (lv' := [(2, .int (0 : Int32)), (0, .ref (am 2008)), (1, .int a1)]) hx hb dX8_narrowed_1 rfl hl (by decide) rfl (fun ls hl => ?_)
  refine lv_iconst (v := (0 : Int32)) hx hb dX8_narrowed_2 (by decide) ?_
  refine lv_istore_n (lv' := [(3, .int (0 : Int32)), (2, .int (0 : Int32)), (0, .ref (am 2008)), (1, .int a1)]) hx hb dX8_narrowed_3 rfl hl (by decide) rfl (fun ls hl => ?_)
  obtain ⟨y5, hc7, ho⟩ := bd_some ho
  obtain ⟨ny5, hc7⟩ := lp_to hc7
  refine x8_narrowed_L4 C0 ?_ ny5 _ _ hc7 _ _ _ hW (lv_sub hl [2, 3, 1, 0] rfl)
  intro H locs ls hW hl
  refine lv_iload_n hx hb dX8_narrowed_33 rfl (lv_at hl 1 rfl) ?_
  cases ho
  exact rtI C0.1 hW dX8_narrowed_34
noncomputable def x2_subtract_13_12_B6 (v2 : Int32) (v3 : Int32) (v4 : Int64) (v6 : Int32) (t : St) : Option ((Int64 × Int32 × St) ⊕ (St)) :=
  if v3 ≤ v6 then (some (.inr t)) else (gd v6 (gN t 13) (gd (v2 + v6) (gN t 12) (nm (v4 + (((gA t 13 (v6).toNatClampNeg) - (gA t 12 ((v2 + v6)).toNatClampNeg))).toInt64) (fun x4 : Int64 => gd v6 (gN t 13) (nm (sA t 13 v6 ((x4 &&& (1073741823 : Int64))).toInt32) (fun t6 : St => nm ((x4 >>> (((30 : Int32)).toInt64 &&& 63))) (fun x7 : Int64 => nm (v6 + (1 : Int32)) (fun x8 : Int32 => some (.inl (x7, x8, t6))))))))))
theorem mm_x2_subtract_13_12_B6 (v2 : Int32) (v3 : Int32) (v4 : Int64) (v6 : Int32) (t : St) : MR (x2_subtract_13_12_B6 v2 v3 v4 v6 t) t (Sum.elim (fun (x : Int64 × Int32 × St) => x.2.2) (fun (y : St) => y)) := by
  unfold x2_subtract_13_12_B6
  exact MR_ite (MR_some mle.rfl) (MR_gd (MR_gd (MR_nm (fun x4 _ => MR_gd (MR_nmS mle_sA (fun t6 ht6 => MR_nm (fun x7 _ => MR_nm (fun x8 _ => MR_some ht6))))))))
theorem mm_x2_subtract_13_12_L6 (v2 : Int32) (v3 : Int32) (v4 : Int64) (v6 : Int32) (t : St) : MR (lp (fun x => x2_subtract_13_12_B6 v2 v3 x.1 x.2.1 x.2.2) (v4, v6, t)) t (fun (y : St) => y) := MR_lp (p := (fun (x : Int64 × Int32 × St) => x.2.2)) (q := (fun (y : St) => y)) (fun x => mm_x2_subtract_13_12_B6 v2 v3 x.1 x.2.1 x.2.2) (v4, v6, t)
noncomputable def x2_subtract_13_12 (t : St) (a2 : Int32) (a3 : Int32) : Option (St) :=
  (lp (fun x => x2_subtract_13_12_B6 a2 a3 x.1 x.2.1 x.2.2) ((0 : Int64), (0 : Int32), t)).bind (fun y9 => some y9)
theorem mm_x2_subtract_13_12 (t : St) (a2 : Int32) (a3 : Int32) : MR (x2_subtract_13_12 t a2 a3) t (fun (a : St) => a) := by
  unfold x2_subtract_13_12
  exact MR_bind (mm_x2_subtract_13_12_L6 a2 a3 (0 : Int64) (0 : Int32) t) (fun y9 hm10 => MR_some hm10)
set_option maxHeartbeats 4000000 in
set_option maxRecDepth 100000 in
theorem x2_subtract_13_12_L6 {p : Program} {l : Launch} {e : Env} {s : State} {m : MethodId} {args : Array Value} {below : List Frame} {meth : Method} {c : Code} {Q : State → Prop} {D : va_G} {cI cJ cZ cR : ClassId} {am gm : Nat → Nat} {st : Nat} {A : Nat → Prop} (C0 : cxX p s m args meth c cX2_subtract RX2 7 none D (tyX cI cJ cZ cR) st A) {v2 : Int32} {v3 : Int32} {y : St} (hK0 : ∀ (H : Heap) (locs : List Loc) (ls : Array Slot), wl D A s (wX cI cJ cZ cR am gm y) H locs → lv_has ls 7 [] → W p l e (rmN 0 0) s m args below meth c H locs 0 0 Q (F0 m 53 ls [])) :
    ∀ (n : Nat) (v4 : Int64) (v6 : Int32) (t : St), lpn (fun x => x2_subtract_13_12_B6 v2 v3 x.1 x.2.1 x.2.2) n (v4, v6, t) = some y → ∀ (H : Heap) (locs : List Loc) (ls : Array Slot), wl D A s (wX cI cJ cZ cR am gm t) H locs → lv_has ls 7 [(0, .ref (am 13)), (1, .ref (gm 12)), (2, .int v2), (3, .int v3), (4, .long v4), (6, .int v6)] → W p l e (rmN 0 0) s m args below meth c H locs 0 0 Q (F0 m 6 ls []) := by
  have hx := C0.1.1
  have hb := C0.1.2.1
  have hta := C0.1.2.2.2.2.2.1
  have hown := C0.1.2.2.2.2.1
  intro n
  induction n with
  | zero => intro _ _ _ h; cases h
  | succ n ih =>
    intro v4 v6 t hrun H locs ls hW hl
    obtain ⟨o, ho, hrun⟩ := bd_some hrun
    unfold x2_subtract_13_12_B6 at ho
    refine lv_iload hx hb dX2_subtract_6 (lv_at hl 5 rfl) ?_
    refine lv_iload_n hx hb dX2_subtract_8 rfl (lv_at hl 3 rfl) ?_
    refine lv_icmp_ge (tgt := 53) hx hb dX2_subtract_9 (by decide) (fun c1 => ?_) (fun c1 => ?_)
    · replace ho := ite_t c1 ho
      cases ho
      cases hrun
      exact hK0 _ _ _ hW (lv_sub hl [] rfl)
    · replace ho := ite_f c1 ho
      refine lv_lload hx hb dX2_subtract_12 (lv_at hl 4 rfl) ?_
      refine lv_aload_n hx hb dX2_subtract_14 rfl (lv_at hl 0 rfl) ?_
      refine lv_iload hx hb dX2_subtract_15 (lv_at hl 5 rfl) ?_
      obtain ⟨g2, ho⟩ := gd_some ho
      refine xLD_13 C0 hW g2 dX2_subtract_17 ?_
      refine lv_aload_n hx hb dX2_subtract_18 rfl (lv_at hl 1 rfl) ?_
      refine lv_iload_n hx hb dX2_subtract_19 rfl (lv_at hl 2 rfl) ?_
      refine lv_iload hx hb dX2_subtract_20 (lv_at hl 5 rfl) ?_
      refine lv_iadd hx hb dX2_subtract_22 ?_
      obtain ⟨g3, ho⟩ := gd_some ho
      refine xLD_12 C0 hW g3 dX2_subtract_23 ?_
      refine lv_isub hx hb dX2_subtract_24 ?_
      refine lv_i2l hx hb dX2_subtract_25 rfl ?_
      refine lv_ladd hx hb dX2_subtract_26 ?_
      refine lv_nml ho (fun x4 ho => ?_)
      refine lv_lstore (lv' := [(4, .long x4), (0, .ref (am 13)), (1, .ref (gm 12)), (2, .int v2), (3, .int v3), (6, .int v6)]) hx hb dX2_subtract_27 hl (by decide) rfl (fun ls hl => ?_)
      refine lv_aload_n hx hb dX2_subtract_29 rfl (lv_at hl 1 rfl) ?_
      refine lv_iload hx hb dX2_subtract_30 (lv_at hl 5 rfl) ?_
      refine lv_lload hx hb dX2_subtract_32 (lv_at hl 0 rfl) ?_
      refine lv_ldc2 hx hb hown (hta _ kw_996) dX2_subtract_34 ?_
      refine lv_land hx hb dX2_subtract_37 ?_
      refine lv_l2i hx hb dX2_subtract_38 rfl ?_
      obtain ⟨g5, ho⟩ := gd_some ho
      refine xST_13 C0 hW g5 dX2_subtract_39 (fun H locs hW => ?_)
      obtain ⟨t6, ho, hW⟩ := nm_w (P := fun t => wl D A s (wX cI cJ cZ cR am gm t) H locs) ho hW
      refine lv_lload hx hb dX2_subtract_40 (lv_at hl 0 rfl) ?_
      refine lv_bipush (v := (30 : Int32)) hx hb dX2_subtract_42 (by decide) ?_
      refine lv_lshr hx hb dX2_subtract_44 rfl ?_
      refine lv_nml ho (fun x7 ho => ?_)
      refine lv_lstore (lv' := [(4, .long x7), (0, .ref (am 13)), (1, .ref (gm 12)), (2, .int v2), (3, .int v3), (6, .int v6)]) hx hb dX2_subtract_45 hl (by decide) rfl (fun ls hl => ?_)
      obtain ⟨x8, ex8, ho⟩ := nm_x ho
      refine lv_iinc (v := x8) (lv' := [(6, .int x8), (4, .long x7), (0, .ref (am 13)), (1, .ref (gm 12)), (2, .int v2), (3, .int v3)]) hx hb dX2_subtract_47 hl (k := 5) rfl (by rw [ex8]; rfl) (by decide) rfl (fun ls hl => ?_)
      clear ex8
      refine lv_goto (tgt := 6) hx hb dX2_subtract_50 (by decide) ?_
      cases ho
      exact ih _ _ _ hrun _ _ _ hW (lv_sub hl [2, 3, 4, 5, 1, 0] rfl)
set_option maxHeartbeats 4000000 in
set_option maxRecDepth 100000 in
theorem c_x2_subtract_13_12 (l : Launch) {D : va_G} {cI cJ cZ cR : ClassId} {am gm : Nat → Nat} {st : Nat} (sz : Nat) (t : St) (a2 : Int32) (a3 : Int32) {t' : St} (ho : x2_subtract_13_12 t a2 a3 = some t') : Met l yX2_subtract (.code yX2_subtract cX2_subtract 7 none :: wsAll) (rmN 0 0) (va_Pc [.ref (am 13), .ref (gm 12), .int a2, .int a3] (prX D (tyX cI cJ cZ cR) (wX cI cJ cZ cR am gm t) sz st)) (qV D (tyX cI cJ cZ cR) (wX cI cJ cZ cR am gm t') (va_A (wX cI cJ cZ cR am gm t) sz)) 0 0 (va_A (wX cI cJ cZ cR am gm t) sz) := by
  refine Met.ofW (cc := cX2_subtract) (maxL := 7) (ret := none) (by decide) rfl ?_
  intro p e s m args below meth c s₁ B hml hv
  obtain ⟨rfl, ⟨hsz, hP, hK, hD0⟩, hsx⟩ := hv
  have hx := B.exec
  have hb := B.bytes
  have hts := atoms_spec (ws := (.code yX2_subtract cX2_subtract 7 none :: wsAll)) B.pre
  have hta := fun w h => hts w (List.mem_cons_of_mem _ h)
  have hown : s.vm.findClass RX2 = some m.cls := findClass_of_methodNamed B.named
  have hlocks := B.notSynchronized
  subst hsz
  have hD := hD0.self (sz := s.heap.size)
  generalize hAe : va_A (wX cI cJ cZ cR am gm t) s.heap.size = A at hD ⊢
  have hA : ∀ q : Nat, s.heap.size ≤ q → A q := fun q h => by rw [← hAe]; exact Or.inr h
  have C0 : cxX p s m ([.ref (am 13), .ref (gm 12), .int a2, .int a3].toArray) meth c cX2_subtract RX2 7 none D (tyX cI cJ cZ cR) st A := ⟨⟨hx, hb, B.returns, hml, hown, hta, hlocks, hK, hA⟩, by rw [← hAe]; exact hsx⟩
  have hW : wl D A s (wX cI cJ cZ cR am gm t) s.heap [] := ⟨hP, hD, va_S.rf⟩
  have hl := lv_entry [.ref (am 13), .ref (gm 12), .int a2, .int a3] (n := 7) (Nat.le_of_ble_eq_true rfl)
  rw [lg_entry_eq]
  generalize (lg_sl [.ref (am 13), .ref (gm 12), .int a2, .int a3] ++ List.replicate (7 - (lg_sl [.ref (am 13), .ref (gm 12), .int a2, .int a3]).length) Slot.unset).toArray = ls at hl ⊢
  have hl : lv_has ls 7 [(0, .ref (am 13)), (1, .ref (gm 12)), (2, .int a2), (3, .int a3)] := hl
  unfold x2_subtract_13_12 at ho
  refine lv_lconst (v := (0 : Int64)) hx hb dX2_subtract_0 (by decide) ?_
  refine lv_lstore (lv' := [(4, .long (0 : Int64)), (0, .ref (am 13)), (1, .ref (gm 12)), (2, .int a2), (3, .int a3)]) hx hb dX2_subtract_1 hl (by decide) rfl (fun ls hl => ?_)
  refine lv_iconst (v := (0 : Int32)) hx hb dX2_subtract_3 (by decide) ?_
  refine lv_istore (lv' := [(6, .int (0 : Int32)), (4, .long (0 : Int64)), (0, .ref (am 13)), (1, .ref (gm 12)), (2, .int a2), (3, .int a3)]) hx hb dX2_subtract_4 hl (by decide) rfl (fun ls hl => ?_)
  obtain ⟨y9, hc11, ho⟩ := bd_some ho
  obtain ⟨ny9, hc11⟩ := lp_to hc11
  refine x2_subtract_13_12_L6 C0 ?_ ny9 _ _ _ hc11 _ _ _ hW (lv_sub hl [2, 3, 4, 5, 1, 0] rfl)
  intro H locs ls hW hl
  cases ho
  exact rtV C0.1 hW dX2_subtract_53
noncomputable def x0_workWeight_J79 (t : St) (w0 : Int32) : Option (St) :=
  (x2_subtract_13_12 t w0 (gI t 6)).bind (fun q1 => some q1)
theorem mm_x0_workWeight_J79 (t : St) (w0 : Int32) : MR (x0_workWeight_J79 t w0) t (fun (a : St) => a) := by
  unfold x0_workWeight_J79
  exact MR_bind (mm_x2_subtract_13_12 t w0 (gI t 6)) (fun q1 hq1 => MR_some hq1)
noncomputable def x0_workWeight_J50 (t : St) (v2 : Int32) (w0 : Int32) : Option (St) :=
  cpk w0 (0 : Int32) (gI t 6) (gN t 12) (gN t 13) (nm (sAr t 13 (va_cpy (gA t 12) (gA t 13) (w0).toNatClampNeg ((0 : Int32)).toNatClampNeg ((gI t 6)).toNatClampNeg)) (fun t4 : St => gd v2 (gN t4 14) (nm (sA t4 14 v2 (0 : Int32)) (fun t6 : St => (x0_work t6).bind (fun q7 => x0_workWeight_J79 q7.2 q7.1)))))
theorem mm_x0_workWeight_J50 (t : St) (v2 : Int32) (w0 : Int32) : MR (x0_workWeight_J50 t v2 w0) t (fun (a : St) => a) := by
  unfold x0_workWeight_J50
  exact MR_cpk (MR_nmS mle_sAr (fun t4 ht4 => MR_gd (MR_nmS mle_sA (fun t6 ht6 => MR_bind (mm_x0_work t6) (fun q7 hq7 => MR_wk (mle.trans (mle.trans ht4 ht6) hq7) (mm_x0_workWeight_J79 q7.2 q7.1))))))
noncomputable def x0_workWeight (t0 : St) (a1 : Int32) : Option (St) :=
  (j7_fill_53178_13 t0 (0 : Int32)).bind (fun q9 => (x8_narrowed q9 ((1 : Int32) <<< (a1 &&& 31))).bind (fun q11 => if q11 = 0 then (some q9) else ((x0_takeOdds q9 (0 : Int32)).bind (fun q14 => gd a1 (gN q14 802) (nm (gA q14 802 (a1).toNatClampNeg) (fun x17 : Int32 => gd x17 (gN q14 14) (nm (sA q14 14 x17 (1000 : Int32)) (fun t19 : St => (x0_work t19).bind (fun q20 => x0_workWeight_J50 q20.2 x17 q20.1)))))))))
theorem mm_x0_workWeight (t0 : St) (a1 : Int32) : MR (x0_workWeight t0 a1) t0 (fun (a : St) => a) := by
  unfold x0_workWeight
  exact MR_bind (mm_j7_fill_53178_13 t0 (0 : Int32)) (fun q9 hq9 => MR_bindn (fun q11 => MR_ite (MR_some hq9) (MR_bind (mm_x0_takeOdds q9 (0 : Int32)) (fun q14 hq14 => MR_gd (MR_nm (fun x17 _ => MR_gd (MR_nmS mle_sA (fun t19 ht19 => MR_bind (mm_x0_work t19) (fun q20 hq20 => MR_wk (mle.trans (mle.trans (mle.trans hq9 hq14) ht19) hq20) (mm_x0_workWeight_J50 q20.2 x17 q20.1))))))))))
set_option maxHeartbeats 4000000 in
set_option maxRecDepth 100000 in
theorem c_x0_workWeight (l : Launch) {D : va_G} {cI cJ cZ cR : ClassId} {am gm : Nat → Nat} {st : Nat} (sz : Nat) (t0 : St) (a1 : Int32) {t' : St} (ho : x0_workWeight t0 a1 = some t') : Met l yX0_workWeight (.code yX0_workWeight cX0_workWeight 4 none :: wsAll) (rmA 3 71 t0 t') (va_Pc [.ref (am 2000), .int a1] (prX D (tyX cI cJ cZ cR) (wX cI cJ cZ cR am gm t0) sz st)) (qVa D (tyX cI cJ cZ cR) (fun gm => wX cI cJ cZ cR am gm t') (va_A (wX cI cJ cZ cR am gm t0) sz)) (mC t0 t') (mS t0 t') (va_A (wX cI cJ cZ cR am gm t0) sz) := by
  refine Met.ofW (cc := cX0_workWeight) (maxL := 4) (ret := none) (by decide) rfl ?_
  intro p e s m args below meth c s₁ B hml hv
  obtain ⟨rfl, ⟨hsz, hP, hK, hD0⟩, hsx⟩ := hv
  have hx := B.exec
  have hb := B.bytes
  have hts := atoms_spec (ws := (.code yX0_workWeight cX0_workWeight 4 none :: wsAll)) B.pre
  have hta := fun w h => hts w (List.mem_cons_of_mem _ h)
  have hown : s.vm.findClass RX0 = some m.cls := findClass_of_methodNamed B.named
  have hlocks := B.notSynchronized
  subst hsz
  have hD := hD0.self (sz := s.heap.size)
  generalize hAe : va_A (wX cI cJ cZ cR am gm t0) s.heap.size = A at hD ⊢
  have hA : ∀ q : Nat, s.heap.size ≤ q → A q := fun q h => by rw [← hAe]; exact Or.inr h
  have C0 : cxX p s m ([.ref (am 2000), .int a1].toArray) meth c cX0_workWeight RX0 4 none D (tyX cI cJ cZ cR) st A := ⟨⟨hx, hb, B.returns, hml, hown, hta, hlocks, hK, hA⟩, by rw [← hAe]; exact hsx⟩
  have hW : wl D A s (wX cI cJ cZ cR am gm t0) s.heap [] := ⟨hP, hD, va_S.rf⟩
  have hl := lv_entry [.ref (am 2000), .int a1] (n := 4) (Nat.le_of_ble_eq_true rfl)
  rw [lg_entry_eq]
  generalize (lg_sl [.ref (am 2000), .int a1] ++ List.replicate (4 - (lg_sl [.ref (am 2000), .int a1]).length) Slot.unset).toArray = ls at hl ⊢
  have hl : lv_has ls 4 [(0, .ref (am 2000)), (1, .int a1)] := hl
  clear hAe hD hP hD0 hts
  have J79 : ∀ (gm : Nat → Nat) (t : St) (w0 : Int32) (_ : x0_workWeight_J79 t w0 = some t') (_ : mle t0 t) (H : Heap) (locs : List Loc) (ls : Array Slot), wl D A s (wX cI cJ cZ cR am gm t) H locs → lv_has ls 4 [(0, .ref (am 2000))] → W p l e (rmA 3 71 t0 t') s m ([.ref (am 2000), .int a1].toArray) below meth c H locs (mC t0 t) (mS t0 t) (MQ below (qVa D (tyX cI cJ cZ cR) (fun gm => wX cI cJ cZ cR am gm t') A) ([.ref (am 2000), .int a1].toArray) s (mC t0 t') (mS t0 t') A) (F0 m 79 ls [.int w0]) := by
    intro gm t w0 ho h0 H locs ls hW hl
    have hE : mle t t' := (mm_x0_workWeight_J79 _ _ _ ho)
    have hR := hR_of (t0 := t0) hE
    unfold x0_workWeight_J79 at ho
    refine lv_istore_n (lv' := [(3, .int w0), (0, .ref (am 2000))]) hx hb dX0_workWeight_79 rfl hl (by decide) rfl (fun ls hl => ?_)
    refine lv_aload_n hx hb dX0_workWeight_80 rfl (lv_at hl 1 rfl) ?_
    refine xGET_13 C0 kw_399 hW dX0_workWeight_81 ?_
    refine lv_aload_n hx hb dX0_workWeight_84 rfl (lv_at hl 1 rfl) ?_
    refine xGET_12 C0 kw_396 hW dX0_workWeight_85 ?_
    refine lv_iload_n hx hb dX0_workWeight_88 rfl (lv_at hl 0 rfl) ?_
    refine lv_aload_n hx hb dX0_workWeight_89 rfl (lv_at hl 1 rfl) ?_
    refine xGET_6 C0 kw_388 hW dX0_workWeight_90 ?_
    obtain ⟨q1, hc2, ho⟩ := bd_some ho
    have hq1 := mm_x2_subtract_13_12 t w0 (gI t 6) _ hc2
    refine bkV C0.1 hW (runSX (As := [.ref (am 13), .ref (gm 12), .int w0, .int (gI t 6)]) (rest := []) C0 hW (c_x2_subtract_13_12 l _ t w0 (gI t 6) (t' := q1) hc2) cb_X0_X2_subtract_144 rfl rfl ⟨rfl, rfl⟩ ⟨Nat.le_of_ble_eq_true rfl, Nat.le_of_ble_eq_true rfl⟩ (Nat.le_of_ble_eq_true rfl) hl.1 dX0_workWeight_93 ⟨hR.1, hR.2⟩) (fun H locs hW => ?_)
    refine W_up h0 hq1 ?_
    cases ho
    exact rtVa gm C0.1 hW dX0_workWeight_96
  have J50 : ∀ (gm : Nat → Nat) (t : St) (v2 : Int32) (w0 : Int32) (_ : x0_workWeight_J50 t v2 w0 = some t') (_ : mle t0 t) (H : Heap) (locs : List Loc) (ls : Array Slot), wl D A s (wX cI cJ cZ cR am gm t) H locs → lv_has ls 4 [(0, .ref (am 2000)), (2, .int v2)] → W p l e (rmA 3 71 t0 t') s m ([.ref (am 2000), .int a1].toArray) below meth c H locs (mC t0 t) (mS t0 t) (MQ below (qVa D (tyX cI cJ cZ cR) (fun gm => wX cI cJ cZ cR am gm t') A) ([.ref (am 2000), .int a1].toArray) s (mC t0 t') (mS t0 t') A) (F0 m 50 ls [.int w0]) := by
    intro gm t v2 w0 ho h0 H locs ls hW hl
    have hE : mle t t' := (mm_x0_workWeight_J50 _ _ _ _ ho)
    have hR := hR_of (t0 := t0) hE
    unfold x0_workWeight_J50 at ho
    refine lv_istore_n (lv' := [(3, .int w0), (0, .ref (am 2000)), (2, .int v2)]) hx hb dX0_workWeight_50 rfl hl (by decide) rfl (fun ls hl => ?_)
    refine lv_aload_n hx hb dX0_workWeight_51 rfl (lv_at hl 1 rfl) ?_
    refine xGET_12 C0 kw_396 hW dX0_workWeight_52 ?_
    refine lv_iload_n hx hb dX0_workWeight_55 rfl (lv_at hl 0 rfl) ?_
    refine lv_aload_n hx hb dX0_workWeight_56 rfl (lv_at hl 1 rfl) ?_
    refine xGET_13 C0 kw_399 hW dX0_workWeight_57 ?_
    refine lv_iconst (v := (0 : Int32)) hx hb dX0_workWeight_60 (by decide) ?_
    refine lv_aload_n hx hb dX0_workWeight_61 rfl (lv_at hl 1 rfl) ?_
    refine xGET_6 C0 kw_388 hW dX0_workWeight_62 ?_
    obtain ⟨g3, ho⟩ := cpk_some ho
    refine xCPY_12_13 (rest := []) C0 kw_1036 kw_752 kw_751 kw_137 hl.1 hW g3 (Nat.le_of_ble_eq_true rfl) (Nat.le_of_ble_eq_true rfl) dX0_workWeight_65 (fun H locs hW => ?_)
    obtain ⟨t4, ht4, ho, hW⟩ := nm_wm (P := fun t => wl D A s (wX cI cJ cZ cR am gm t) H locs) mle_sAr ho hW
    refine lv_aload_n hx hb dX0_workWeight_68 rfl (lv_at hl 1 rfl) ?_
    refine xGET_14 C0 kw_401 hW dX0_workWeight_69 ?_
    refine lv_iload_n hx hb dX0_workWeight_72 rfl (lv_at hl 2 rfl) ?_
    refine lv_iconst (v := (0 : Int32)) hx hb dX0_workWeight_73 (by decide) ?_
    obtain ⟨g5, ho⟩ := gd_some ho
    refine xST_14 C0 hW g5 dX0_workWeight_74 (fun H locs hW => ?_)
    obtain ⟨t6, ht6, ho, hW⟩ := nm_wm (P := fun t => wl D A s (wX cI cJ cZ cR am gm t) H locs) mle_sA ho hW
    refine lv_aload_n hx hb dX0_workWeight_75 rfl (lv_at hl 1 rfl) ?_
    obtain ⟨q7, hc8, ho⟩ := bd_some ho
    have hq7 := mm_x0_work t6 _ hc8
    have hEq7 := (mm_x0_workWeight_J79 _ _ _ ho)
    refine W_up h0 (mle.trans ht4 ht6) ?_
    have h0 := (mle.trans h0 (mle.trans ht4 ht6))
    refine bkIa C0.1 hW h0 hq7 (runVX (As := []) (rest := []) C0 hW (c_x0_work l _ t6 (r := q7.1) (t' := q7.2) hc8) cb_X0_X0_work_135 0 0 rfl rfl rfl rfl rfl ⟨rfl, rfl⟩ ⟨Nat.le_of_ble_eq_true rfl, Nat.le_of_ble_eq_true rfl⟩ (Nat.le_of_ble_eq_true rfl) hl.1 dX0_workWeight_76 (hf_of h0 hq7 hEq7)) (fun gm H locs hW => ?_)
    have h0 := mle.trans h0 hq7
    exact J79 gm _ _ ho h0 _ _ _ hW (lv_sub hl [1] rfl)
  have hE : mle t0 t' := mm_x0_workWeight _ _ _ ho
  have hR := hR_of (t0 := t0) hE
  have h0 : mle t0 t0 := mle.rfl
  refine W_0 (t0 := t0) ?_
  unfold x0_workWeight at ho
  refine lv_aload_n hx hb dX0_workWeight_0 rfl (lv_at hl 0 rfl) ?_
  refine xGET_13 C0 kw_399 hW dX0_workWeight_1 ?_
  refine lv_iconst (v := (0 : Int32)) hx hb dX0_workWeight_4 (by decide) ?_
  obtain ⟨q9, hc10, ho⟩ := bd_some ho
  have hq9 := mm_j7_fill_53178_13 t0 (0 : Int32) _ hc10
  refine bkV C0.1 hW (runSX (As := [.ref (am 13), .int (0 : Int32)]) (rest := []) C0 hW (c_j7_fill_53178_13 l _ t0 (0 : Int32) (t' := q9) hc10) cb_X0_J7_fill_53178_120 rfl rfl ⟨rfl, rfl⟩ ⟨Nat.le_of_ble_eq_true rfl, Nat.le_of_ble_eq_true rfl⟩ (Nat.le_of_ble_eq_true rfl) hl.1 dX0_workWeight_5 ⟨hR.1, hR.2⟩) (fun H locs hW => ?_)
  refine lv_aload_n hx hb dX0_workWeight_8 rfl (lv_at hl 0 rfl) ?_
  refine xGET_1 C0 kw_383 hW dX0_workWeight_9 ?_
  refine lv_iconst (v := (1 : Int32)) hx hb dX0_workWeight_12 (by decide) ?_
  refine lv_iload_n hx hb dX0_workWeight_13 rfl (lv_at hl 1 rfl) ?_
  refine lv_ishl hx hb dX0_workWeight_14 ?_
  obtain ⟨q11, hc12, ho⟩ := bd_some ho
  refine bkI C0.1 hW (runVX (As := [.int ((1 : Int32) <<< (a1 &&& 31))]) (rest := []) C0 hW (c_x8_narrowed l _ q9 ((1 : Int32) <<< (a1 &&& 31)) (r := q11) hc12) cb_X0_X8_narrowed_126 8 8 rfl rfl rfl rfl rfl ⟨rfl, rfl⟩ ⟨Nat.le_of_ble_eq_true rfl, Nat.le_of_ble_eq_true rfl⟩ (Nat.le_of_ble_eq_true rfl) hl.1 dX0_workWeight_15 ⟨hR.1, hR.2⟩) (fun H locs hW => ?_)
  refine lv_if_ne (tgt := 22) hx hb dX0_workWeight_18 (by decide) (fun c13 => ?_) (fun c13 => ?_)
  · replace ho := ite_f c13 ho
    refine lv_aload_n hx hb dX0_workWeight_22 rfl (lv_at hl 0 rfl) ?_
    refine lv_iconst (v := (0 : Int32)) hx hb dX0_workWeight_23 (by decide) ?_
    obtain ⟨q14, hc15, ho⟩ := bd_some ho
    have hq14 := mm_x0_takeOdds q9 (0 : Int32) _ hc15
    refine bkV C0.1 hW (runVX (As := [.int (0 : Int32)]) (rest := []) C0 hW (c_x0_takeOdds l _ q9 (0 : Int32) (t' := q14) hc15) cb_X0_X0_takeOdds_129 0 0 rfl rfl rfl rfl rfl ⟨rfl, rfl⟩ ⟨Nat.le_of_ble_eq_true rfl, Nat.le_of_ble_eq_true rfl⟩ (Nat.le_of_ble_eq_true rfl) hl.1 dX0_workWeight_24 ⟨hR.1, hR.2⟩) (fun H locs hW => ?_)
    refine lv_aload_n hx hb dX0_workWeight_27 rfl (lv_at hl 0 rfl) ?_
    refine xGET_1 C0 kw_383 hW dX0_workWeight_28 ?_
    refine xGET_802 C0 kw_273 hW dX0_workWeight_31 ?_
    refine lv_iload_n hx hb dX0_workWeight_34 rfl (lv_at hl 1 rfl) ?_
    obtain ⟨g16, ho⟩ := gd_some ho
    refine xLD_802 C0 hW g16 dX0_workWeight_35 ?_
    refine lv_nmi ho (fun x17 ho => ?_)
    refine lv_istore_n (lv' := [(2, .int x17), (0, .ref (am 2000)), (1, .int a1)]) hx hb dX0_workWeight_36 rfl hl (by decide) rfl (fun ls hl => ?_)
    refine lv_aload_n hx hb dX0_workWeight_37 rfl (lv_at hl 1 rfl) ?_
    refine xGET_14 C0 kw_401 hW dX0_workWeight_38 ?_
    refine lv_iload_n hx hb dX0_workWeight_41 rfl (lv_at hl 0 rfl) ?_
    refine lv_sipush (v := (1000 : Int32)) hx hb dX0_workWeight_42 (by decide) ?_
    obtain ⟨g18, ho⟩ := gd_some ho
    refine xST_14 C0 hW g18 dX0_workWeight_45 (fun H locs hW => ?_)
    obtain ⟨t19, ht19, ho, hW⟩ := nm_wm (P := fun t => wl D A s (wX cI cJ cZ cR am gm t) H locs) mle_sA ho hW
    refine lv_aload_n hx hb dX0_workWeight_46 rfl (lv_at hl 1 rfl) ?_
    obtain ⟨q20, hc21, ho⟩ := bd_some ho
    have hq20 := mm_x0_work t19 _ hc21
    have hEq20 := (mm_x0_workWeight_J50 _ _ _ _ ho)
    refine W_up h0 (mle.trans (mle.trans hq9 hq14) ht19) ?_
    have h0 := (mle.trans h0 (mle.trans (mle.trans hq9 hq14) ht19))
    refine bkIa C0.1 hW h0 hq20 (runVX (As := []) (rest := []) C0 hW (c_x0_work l _ t19 (r := q20.1) (t' := q20.2) hc21) cb_X0_X0_work_135 0 0 rfl rfl rfl rfl rfl ⟨rfl, rfl⟩ ⟨Nat.le_of_ble_eq_true rfl, Nat.le_of_ble_eq_true rfl⟩ (Nat.le_of_ble_eq_true rfl) hl.1 dX0_workWeight_47 (hf_of h0 hq20 hEq20)) (fun gm H locs hW => ?_)
    have h0 := mle.trans h0 hq20
    exact J50 gm _ _ _ ho h0 _ _ _ hW (lv_sub hl [1, 0] rfl)
  · replace ho := ite_t c13 ho
    refine W_up h0 hq9 ?_
    cases ho
    exact rtVa gm C0.1 hW dX0_workWeight_21
noncomputable def x2_putThousandths_13_B123 (v5 : Int32) (v6 : Int32) (v7 : Int32) (t : St) : Option ((Int32 × St) ⊕ (St)) :=
  if v5 ≤ v7 then (some (.inr t)) else ((x2_multiply_201 t (0 : Int32) (6 : Int32) (2 : Int32)).bind (fun q2 => nm (v7 + (1 : Int32)) (fun x4 : Int32 => some (.inl (x4, q2)))))
theorem mm_x2_putThousandths_13_B123 (v5 : Int32) (v6 : Int32) (v7 : Int32) (t : St) : MR (x2_putThousandths_13_B123 v5 v6 v7 t) t (Sum.elim (fun (x : Int32 × St) => x.2) (fun (y : St) => y)) := by
  unfold x2_putThousandths_13_B123
  exact MR_ite (MR_some mle.rfl) (MR_bind (mm_x2_multiply_201 t (0 : Int32) (6 : Int32) (2 : Int32)) (fun q2 hq2 => MR_nm (fun x4 _ => MR_some hq2)))
theorem mm_x2_putThousandths_13_L123 (v5 : Int32) (v6 : Int32) (v7 : Int32) (t : St) : MR (lp (fun x => x2_putThousandths_13_B123 v5 v6 x.1 x.2) (v7, t)) t (fun (y : St) => y) := MR_lp (p := (fun (x : Int32 × St) => x.2)) (q := (fun (y : St) => y)) (fun x => mm_x2_putThousandths_13_B123 v5 v6 x.1 x.2) (v7, t)
noncomputable def x2_putThousandths_13_B150 (v6 : Int32) (v7 : Int32) (t : St) : Option ((Int32 × St) ⊕ (St)) :=
  if v6 ≤ v7 then (some (.inr t)) else ((x2_multiply_201 t (0 : Int32) (6 : Int32) (5 : Int32)).bind (fun q6 => nm (v7 + (1 : Int32)) (fun x8 : Int32 => some (.inl (x8, q6)))))
theorem mm_x2_putThousandths_13_B150 (v6 : Int32) (v7 : Int32) (t : St) : MR (x2_putThousandths_13_B150 v6 v7 t) t (Sum.elim (fun (x : Int32 × St) => x.2) (fun (y : St) => y)) := by
  unfold x2_putThousandths_13_B150
  exact MR_ite (MR_some mle.rfl) (MR_bind (mm_x2_multiply_201 t (0 : Int32) (6 : Int32) (5 : Int32)) (fun q6 hq6 => MR_nm (fun x8 _ => MR_some hq6)))
theorem mm_x2_putThousandths_13_L150 (v6 : Int32) (v7 : Int32) (t : St) : MR (lp (fun x => x2_putThousandths_13_B150 v6 x.1 x.2) (v7, t)) t (fun (y : St) => y) := MR_lp (p := (fun (x : Int32 × St) => x.2)) (q := (fun (y : St) => y)) (fun x => mm_x2_putThousandths_13_B150 v6 x.1 x.2) (v7, t)
noncomputable def x2_putThousandths_13_B45 (v6 : Int32) (v5 : Int32) (t : St) : Option ((Int32 × St) ⊕ (Int32 × St)) :=
  if v5 ≤ 0 then (some (.inr (v5, t))) else ((x2_remainder_200 t (2 : Int32)).bind (fun q10 => if q10 = 0 then ((x2_divide_200 t (2 : Int32)).bind (fun q13 => nm (v5 + (-1 : Int32)) (fun x15 : Int32 => some (.inl (x15, q13))))) else (some (.inr (v5, t)))))
theorem mm_x2_putThousandths_13_B45 (v6 : Int32) (v5 : Int32) (t : St) : MR (x2_putThousandths_13_B45 v6 v5 t) t (Sum.elim (fun (x : Int32 × St) => x.2) (fun (y : Int32 × St) => y.2)) := by
  unfold x2_putThousandths_13_B45
  exact MR_ite (MR_some mle.rfl) (MR_bindn (fun q10 => MR_ite (MR_bind (mm_x2_divide_200 t (2 : Int32)) (fun q13 hq13 => MR_nm (fun x15 _ => MR_some hq13))) (MR_some mle.rfl)))
theorem mm_x2_putThousandths_13_L45 (v6 : Int32) (v5 : Int32) (t : St) : MR (lp (fun x => x2_putThousandths_13_B45 v6 x.1 x.2) (v5, t)) t (fun (y : Int32 × St) => y.2) := MR_lp (p := (fun (x : Int32 × St) => x.2)) (q := (fun (y : Int32 × St) => y.2)) (fun x => mm_x2_putThousandths_13_B45 v6 x.1 x.2) (v5, t)
noncomputable def x2_putThousandths_13_B75 (v5 : Int32) (v6 : Int32) (t : St) : Option ((Int32 × St) ⊕ (Int32 × St)) :=
  if v6 ≤ 0 then (some (.inr (v6, t))) else ((x2_remainder_200 t (5 : Int32)).bind (fun q17 => if q17 = 0 then ((x2_divide_200 t (5 : Int32)).bind (fun q20 => nm (v6 + (-1 : Int32)) (fun x22 : Int32 => some (.inl (x22, q20))))) else (some (.inr (v6, t)))))
theorem mm_x2_putThousandths_13_B75 (v5 : Int32) (v6 : Int32) (t : St) : MR (x2_putThousandths_13_B75 v5 v6 t) t (Sum.elim (fun (x : Int32 × St) => x.2) (fun (y : Int32 × St) => y.2)) := by
  unfold x2_putThousandths_13_B75
  exact MR_ite (MR_some mle.rfl) (MR_bindn (fun q17 => MR_ite (MR_bind (mm_x2_divide_200 t (5 : Int32)) (fun q20 hq20 => MR_nm (fun x22 _ => MR_some hq20))) (MR_some mle.rfl)))
theorem mm_x2_putThousandths_13_L75 (v5 : Int32) (v6 : Int32) (t : St) : MR (lp (fun x => x2_putThousandths_13_B75 v5 x.1 x.2) (v6, t)) t (fun (y : Int32 × St) => y.2) := MR_lp (p := (fun (x : Int32 × St) => x.2)) (q := (fun (y : Int32 × St) => y.2)) (fun x => mm_x2_putThousandths_13_B75 v5 x.1 x.2) (v6, t)
noncomputable def x2_putThousandths_13_J39 (t : St) (w0 : Int32) : Option (St) :=
  (lp (fun x => x2_putThousandths_13_B45 w0 x.1 x.2) (w0, t)).bind (fun y23 => (lp (fun x => x2_putThousandths_13_B75 y23.1 x.1 x.2) (w0, y23.2)).bind (fun y26 => (j7_fill_53178_201 y26.2 (0 : Int32)).bind (fun q29 => gd (0 : Int32) (gN q29 201) (nm (sA q29 201 (0 : Int32) (1 : Int32)) (fun t32 : St => (lp (fun x => x2_putThousandths_13_B123 y23.1 y26.1 x.1 x.2) ((0 : Int32), t32)).bind (fun y33 => (lp (fun x => x2_putThousandths_13_B150 y26.1 x.1 x.2) ((0 : Int32), y33)).bind (fun y36 => some y36)))))))
theorem mm_x2_putThousandths_13_J39 (t : St) (w0 : Int32) : MR (x2_putThousandths_13_J39 t w0) t (fun (a : St) => a) := by
  unfold x2_putThousandths_13_J39
  exact MR_bind (mm_x2_putThousandths_13_L45 w0 w0 t) (fun y23 hm24 => MR_bind (mm_x2_putThousandths_13_L75 y23.1 w0 y23.2) (fun y26 hm27 => MR_bind (mm_j7_fill_53178_201 y26.2 (0 : Int32)) (fun q29 hq29 => MR_gd (MR_nmS mle_sA (fun t32 ht32 => MR_bind (mm_x2_putThousandths_13_L123 y23.1 y26.1 (0 : Int32) t32) (fun y33 hm34 => MR_bind (mm_x2_putThousandths_13_L150 y26.1 (0 : Int32) y33) (fun y36 hm37 => MR_some (mle.trans (mle.trans (mle.trans (mle.trans (mle.trans hm24 hm27) hq29) ht32) hm34) hm37))))))))
noncomputable def x2_putThousandths_13 (t : St) (a2 : Int32) (a3 : Int32) (a4 : Int32) : Option (St) :=
  (j7_fill_53178_200 t (0 : Int32)).bind (fun q39 => cpk a2 (0 : Int32) (if (6 : Int32) < a3 then (6 : Int32) else a3) (gN q39 13) (gN q39 200) (nm (sAr q39 200 (va_cpy (gA q39 13) (gA q39 200) (a2).toNatClampNeg ((0 : Int32)).toNatClampNeg ((if (6 : Int32) < a3 then (6 : Int32) else a3)).toNatClampNeg)) (fun t42 : St => (x2_isZero t42).bind (fun q43 => if q43 = 0 then (x2_putThousandths_13_J39 t42 ((3 : Int32) * a4)) else (x2_putThousandths_13_J39 t42 (0 : Int32))))))
theorem mm_x2_putThousandths_13 (t : St) (a2 : Int32) (a3 : Int32) (a4 : Int32) : MR (x2_putThousandths_13 t a2 a3 a4) t (fun (a : St) => a) := by
  unfold x2_putThousandths_13
  exact MR_bind (mm_j7_fill_53178_200 t (0 : Int32)) (fun q39 hq39 => MR_cpk (MR_nmS mle_sAr (fun t42 ht42 => MR_bindn (fun q43 => MR_ite (MR_wk (mle.trans hq39 ht42) (mm_x2_putThousandths_13_J39 t42 ((3 : Int32) * a4))) (MR_wk (mle.trans hq39 ht42) (mm_x2_putThousandths_13_J39 t42 (0 : Int32)))))))
set_option maxHeartbeats 4000000 in
set_option maxRecDepth 100000 in
theorem x2_putThousandths_13_L123 {p : Program} {l : Launch} {e : Env} {s : State} {m : MethodId} {args : Array Value} {below : List Frame} {meth : Method} {c : Code} {Q : State → Prop} {D : va_G} {cI cJ cZ cR : ClassId} {am gm : Nat → Nat} {st : Nat} {A : Nat → Prop} (C0 : cxX p s m args meth c cX2_putThousandths RX2 8 none D (tyX cI cJ cZ cR) st A) {v5 : Int32} {v6 : Int32} {y : St} (hK0 : ∀ (H : Heap) (locs : List Loc) (ls : Array Slot), wl D A s (wX cI cJ cZ cR am gm y) H locs → lv_has ls 8 [(0, .ref (am 2002)), (6, .int v6)] → W p l e (rmN 2 60) s m args below meth c H locs 0 0 Q (F0 m 147 ls [])) :
    ∀ (n : Nat) (v7 : Int32) (t : St), lpn (fun x => x2_putThousandths_13_B123 v5 v6 x.1 x.2) n (v7, t) = some y → ∀ (H : Heap) (locs : List Loc) (ls : Array Slot), wl D A s (wX cI cJ cZ cR am gm t) H locs → lv_has ls 8 [(0, .ref (am 2002)), (5, .int v5), (6, .int v6), (7, .int v7)] → W p l e (rmN 2 60) s m args below meth c H locs 0 0 Q (F0 m 123 ls []) := by
  have hx := C0.1.1
  have hb := C0.1.2.1
  have hta := C0.1.2.2.2.2.2.1
  have hown := C0.1.2.2.2.2.1
  intro n
  induction n with
  | zero => intro _ _ h; cases h
  | succ n ih =>
    intro v7 t hrun H locs ls hW hl
    obtain ⟨o, ho, hrun⟩ := bd_some hrun
    unfold x2_putThousandths_13_B123 at ho
    refine lv_iload hx hb dX2_putThousandths_123 (lv_at hl 3 rfl) ?_
    refine lv_iload hx hb dX2_putThousandths_125 (lv_at hl 1 rfl) ?_
    refine lv_icmp_ge (tgt := 147) hx hb dX2_putThousandths_127 (by decide) (fun c1 => ?_) (fun c1 => ?_)
    · replace ho := ite_t c1 ho
      cases ho
      cases hrun
      exact hK0 _ _ _ hW (lv_sub hl [0, 2] rfl)
    · replace ho := ite_f c1 ho
      refine lv_aload_n hx hb dX2_putThousandths_130 rfl (lv_at hl 0 rfl) ?_
      refine xGET_201 C0 kw_370 hW dX2_putThousandths_131 ?_
      refine lv_iconst (v := (0 : Int32)) hx hb dX2_putThousandths_134 (by decide) ?_
      refine lv_bipush (v := (6 : Int32)) hx hb dX2_putThousandths_135 (by decide) ?_
      refine lv_iconst (v := (2 : Int32)) hx hb dX2_putThousandths_137 (by decide) ?_
      obtain ⟨q2, hc3, ho⟩ := bd_some ho
      refine bkV C0.1 hW (runSX (As := [.ref (am 201), .int (0 : Int32), .int (6 : Int32), .int (2 : Int32)]) (rest := []) C0 hW (c_x2_multiply_201 l _ t (0 : Int32) (6 : Int32) (2 : Int32) (t' := q2) hc3) cb_X2_X2_multiply_51 rfl rfl ⟨rfl, rfl⟩ ⟨Nat.le_of_ble_eq_true rfl, Nat.le_of_ble_eq_true rfl⟩ (Nat.le_of_ble_eq_true rfl) hl.1 dX2_putThousandths_138 ⟨Nat.le_of_ble_eq_true rfl, Nat.le_of_ble_eq_true rfl⟩) (fun H locs hW => ?_)
      obtain ⟨x4, ex4, ho⟩ := nm_x ho
      refine lv_iinc (v := x4) (lv' := [(7, .int x4), (0, .ref (am 2002)), (5, .int v5), (6, .int v6)]) hx hb dX2_putThousandths_141 hl (k := 3) rfl (by rw [ex4]; rfl) (by decide) rfl (fun ls hl => ?_)
      clear ex4
      refine lv_goto (tgt := 123) hx hb dX2_putThousandths_144 (by decide) ?_
      cases ho
      exact ih _ _ hrun _ _ _ hW (lv_sub hl [1, 2, 3, 0] rfl)
set_option maxHeartbeats 4000000 in
set_option maxRecDepth 100000 in
theorem x2_putThousandths_13_L150 {p : Program} {l : Launch} {e : Env} {s : State} {m : MethodId} {args : Array Value} {below : List Frame} {meth : Method} {c : Code} {Q : State → Prop} {D : va_G} {cI cJ cZ cR : ClassId} {am gm : Nat → Nat} {st : Nat} {A : Nat → Prop} (C0 : cxX p s m args meth c cX2_putThousandths RX2 8 none D (tyX cI cJ cZ cR) st A) {v6 : Int32} {y : St} (hK0 : ∀ (H : Heap) (locs : List Loc) (ls : Array Slot), wl D A s (wX cI cJ cZ cR am gm y) H locs → lv_has ls 8 [(0, .ref (am 2002))] → W p l e (rmN 2 60) s m args below meth c H locs 0 0 Q (F0 m 174 ls [])) :
    ∀ (n : Nat) (v7 : Int32) (t : St), lpn (fun x => x2_putThousandths_13_B150 v6 x.1 x.2) n (v7, t) = some y → ∀ (H : Heap) (locs : List Loc) (ls : Array Slot), wl D A s (wX cI cJ cZ cR am gm t) H locs → lv_has ls 8 [(0, .ref (am 2002)), (6, .int v6), (7, .int v7)] → W p l e (rmN 2 60) s m args below meth c H locs 0 0 Q (F0 m 150 ls []) := by
  have hx := C0.1.1
  have hb := C0.1.2.1
  have hta := C0.1.2.2.2.2.2.1
  have hown := C0.1.2.2.2.2.1
  intro n
  induction n with
  | zero => intro _ _ h; cases h
  | succ n ih =>
    intro v7 t hrun H locs ls hW hl
    obtain ⟨o, ho, hrun⟩ := bd_some hrun
    unfold x2_putThousandths_13_B150 at ho
    refine lv_iload hx hb dX2_putThousandths_150 (lv_at hl 2 rfl) ?_
    refine lv_iload hx hb dX2_putThousandths_152 (lv_at hl 1 rfl) ?_
    refine lv_icmp_ge (tgt := 174) hx hb dX2_putThousandths_154 (by decide) (fun c5 => ?_) (fun c5 => ?_)
    · replace ho := ite_t c5 ho
      cases ho
      cases hrun
      exact hK0 _ _ _ hW (lv_sub hl [0] rfl)
    · replace ho := ite_f c5 ho
      refine lv_aload_n hx hb dX2_putThousandths_157 rfl (lv_at hl 0 rfl) ?_
      refine xGET_201 C0 kw_370 hW dX2_putThousandths_158 ?_
      refine lv_iconst (v := (0 : Int32)) hx hb dX2_putThousandths_161 (by decide) ?_
      refine lv_bipush (v := (6 : Int32)) hx hb dX2_putThousandths_162 (by decide) ?_
      refine lv_iconst (v := (5 : Int32)) hx hb dX2_putThousandths_164 (by decide) ?_
      obtain ⟨q6, hc7, ho⟩ := bd_some ho
      refine bkV C0.1 hW (runSX (As := [.ref (am 201), .int (0 : Int32), .int (6 : Int32), .int (5 : Int32)]) (rest := []) C0 hW (c_x2_multiply_201 l _ t (0 : Int32) (6 : Int32) (5 : Int32) (t' := q6) hc7) cb_X2_X2_multiply_51 rfl rfl ⟨rfl, rfl⟩ ⟨Nat.le_of_ble_eq_true rfl, Nat.le_of_ble_eq_true rfl⟩ (Nat.le_of_ble_eq_true rfl) hl.1 dX2_putThousandths_165 ⟨Nat.le_of_ble_eq_true rfl, Nat.le_of_ble_eq_true rfl⟩) (fun H locs hW => ?_)
      obtain ⟨x8, ex8, ho⟩ := nm_x ho
      refine lv_iinc (v := x8) (lv' := [(7, .int x8), (0, .ref (am 2002)), (6, .int v6)]) hx hb dX2_putThousandths_168 hl (k := 2) rfl (by rw [ex8]; rfl) (by decide) rfl (fun ls hl => ?_)
      clear ex8
      refine lv_goto (tgt := 150) hx hb dX2_putThousandths_171 (by decide) ?_
      cases ho
      exact ih _ _ hrun _ _ _ hW (lv_sub hl [1, 2, 0] rfl)
set_option maxHeartbeats 4000000 in
set_option maxRecDepth 100000 in
theorem x2_putThousandths_13_L45 {p : Program} {l : Launch} {e : Env} {s : State} {m : MethodId} {args : Array Value} {below : List Frame} {meth : Method} {c : Code} {Q : State → Prop} {D : va_G} {cI cJ cZ cR : ClassId} {am gm : Nat → Nat} {st : Nat} {A : Nat → Prop} (C0 : cxX p s m args meth c cX2_putThousandths RX2 8 none D (tyX cI cJ cZ cR) st A) {v6 : Int32} {y : Int32 × St} (hK0 : ∀ (H : Heap) (locs : List Loc) (ls : Array Slot), wl D A s (wX cI cJ cZ cR am gm y.2) H locs → lv_has ls 8 [(0, .ref (am 2002)), (5, .int y.1), (6, .int v6)] → W p l e (rmN 2 60) s m args below meth c H locs 0 0 Q (F0 m 75 ls [])) :
    ∀ (n : Nat) (v5 : Int32) (t : St), lpn (fun x => x2_putThousandths_13_B45 v6 x.1 x.2) n (v5, t) = some y → ∀ (H : Heap) (locs : List Loc) (ls : Array Slot), wl D A s (wX cI cJ cZ cR am gm t) H locs → lv_has ls 8 [(0, .ref (am 2002)), (5, .int v5), (6, .int v6)] → W p l e (rmN 2 60) s m args below meth c H locs 0 0 Q (F0 m 45 ls []) := by
  have hx := C0.1.1
  have hb := C0.1.2.1
  have hta := C0.1.2.2.2.2.2.1
  have hown := C0.1.2.2.2.2.1
  intro n
  induction n with
  | zero => intro _ _ h; cases h
  | succ n ih =>
    intro v5 t hrun H locs ls hW hl
    obtain ⟨o, ho, hrun⟩ := bd_some hrun
    unfold x2_putThousandths_13_B45 at ho
    refine lv_iload hx hb dX2_putThousandths_45 (lv_at hl 1 rfl) ?_
    refine lv_if_le (tgt := 75) hx hb dX2_putThousandths_47 (by decide) (fun c9 => ?_) (fun c9 => ?_)
    · replace ho := ite_t c9 ho
      cases ho
      cases hrun
      exact hK0 _ _ _ hW (lv_sub hl [0, 1, 2] rfl)
    · replace ho := ite_f c9 ho
      refine lv_aload_n hx hb dX2_putThousandths_50 rfl (lv_at hl 0 rfl) ?_
      refine xGET_200 C0 kw_369 hW dX2_putThousandths_51 ?_
      refine lv_iconst (v := (2 : Int32)) hx hb dX2_putThousandths_54 (by decide) ?_
      obtain ⟨q10, hc11, ho⟩ := bd_some ho
      refine bkI C0.1 hW (runSX (As := [.ref (am 200), .int (2 : Int32)]) (rest := []) C0 hW (c_x2_remainder_200 l _ t (2 : Int32) (r := q10) hc11) cb_X2_X2_remainder_44 rfl rfl ⟨rfl, rfl⟩ ⟨Nat.le_of_ble_eq_true rfl, Nat.le_of_ble_eq_true rfl⟩ (Nat.le_of_ble_eq_true rfl) hl.1 dX2_putThousandths_55 ⟨Nat.le_of_ble_eq_true rfl, Nat.le_of_ble_eq_true rfl⟩) (fun H locs hW => ?_)
      refine lv_if_ne (tgt := 75) hx hb dX2_putThousandths_58 (by decide) (fun c12 => ?_) (fun c12 => ?_)
      · replace ho := ite_f c12 ho
        cases ho
        cases hrun
        exact hK0 _ _ _ hW (lv_sub hl [0, 1, 2] rfl)
      · replace ho := ite_t c12 ho
        refine lv_aload_n hx hb dX2_putThousandths_61 rfl (lv_at hl 0 rfl) ?_
        refine xGET_200 C0 kw_369 hW dX2_putThousandths_62 ?_
        refine lv_iconst (v := (2 : Int32)) hx hb dX2_putThousandths_65 (by decide) ?_
        obtain ⟨q13, hc14, ho⟩ := bd_some ho
        refine bkV C0.1 hW (runSX (As := [.ref (am 200), .int (2 : Int32)]) (rest := []) C0 hW (c_x2_divide_200 l _ t (2 : Int32) (t' := q13) hc14) cb_X2_X2_divide_48 rfl rfl ⟨rfl, rfl⟩ ⟨Nat.le_of_ble_eq_true rfl, Nat.le_of_ble_eq_true rfl⟩ (Nat.le_of_ble_eq_true rfl) hl.1 dX2_putThousandths_66 ⟨Nat.le_of_ble_eq_true rfl, Nat.le_of_ble_eq_true rfl⟩) (fun H locs hW => ?_)
        obtain ⟨x15, ex15, ho⟩ := nm_x ho
        refine lv_iinc (v := x15) (lv' := [(5, .int x15), (0, .ref (am 2002)), (6, .int v6)]) hx hb dX2_putThousandths_69 hl (k := 1) rfl (by rw [ex15]; rfl) (by decide) rfl (fun ls hl => ?_)
        clear ex15
        refine lv_goto (tgt := 45) hx hb dX2_putThousandths_72 (by decide) ?_
        cases ho
        exact ih _ _ hrun _ _ _ hW (lv_sub hl [1, 0, 2] rfl)
set_option maxHeartbeats 4000000 in
set_option maxRecDepth 100000 in
theorem x2_putThousandths_13_L75 {p : Program} {l : Launch} {e : Env} {s : State} {m : MethodId} {args : Array Value} {below : List Frame} {meth : Method} {c : Code} {Q : State → Prop} {D : va_G} {cI cJ cZ cR : ClassId} {am gm : Nat → Nat} {st : Nat} {A : Nat → Prop} (C0 : cxX p s m args meth c cX2_putThousandths RX2 8 none D (tyX cI cJ cZ cR) st A) {v5 : Int32} {y : Int32 × St} (hK0 : ∀ (H : Heap) (locs : List Loc) (ls : Array Slot), wl D A s (wX cI cJ cZ cR am gm y.2) H locs → lv_has ls 8 [(0, .ref (am 2002)), (5, .int v5), (6, .int y.1)] → W p l e (rmN 2 60) s m args below meth c H locs 0 0 Q (F0 m 105 ls [])) :
    ∀ (n : Nat) (v6 : Int32) (t : St), lpn (fun x => x2_putThousandths_13_B75 v5 x.1 x.2) n (v6, t) = some y → ∀ (H : Heap) (locs : List Loc) (ls : Array Slot), wl D A s (wX cI cJ cZ cR am gm t) H locs → lv_has ls 8 [(0, .ref (am 2002)), (5, .int v5), (6, .int v6)] → W p l e (rmN 2 60) s m args below meth c H locs 0 0 Q (F0 m 75 ls []) := by
  have hx := C0.1.1
  have hb := C0.1.2.1
  have hta := C0.1.2.2.2.2.2.1
  have hown := C0.1.2.2.2.2.1
  intro n
  induction n with
  | zero => intro _ _ h; cases h
  | succ n ih =>
    intro v6 t hrun H locs ls hW hl
    obtain ⟨o, ho, hrun⟩ := bd_some hrun
    unfold x2_putThousandths_13_B75 at ho
    refine lv_iload hx hb dX2_putThousandths_75 (lv_at hl 2 rfl) ?_
    refine lv_if_le (tgt := 105) hx hb dX2_putThousandths_77 (by decide) (fun c16 => ?_) (fun c16 => ?_)
    · replace ho := ite_t c16 ho
      cases ho
      cases hrun
      exact hK0 _ _ _ hW (lv_sub hl [0, 1, 2] rfl)
    · replace ho := ite_f c16 ho
      refine lv_aload_n hx hb dX2_putThousandths_80 rfl (lv_at hl 0 rfl) ?_
      refine xGET_200 C0 kw_369 hW dX2_putThousandths_81 ?_
      refine lv_iconst (v := (5 : Int32)) hx hb dX2_putThousandths_84 (by decide) ?_
      obtain ⟨q17, hc18, ho⟩ := bd_some ho
      refine bkI C0.1 hW (runSX (As := [.ref (am 200), .int (5 : Int32)]) (rest := []) C0 hW (c_x2_remainder_200 l _ t (5 : Int32) (r := q17) hc18) cb_X2_X2_remainder_44 rfl rfl ⟨rfl, rfl⟩ ⟨Nat.le_of_ble_eq_true rfl, Nat.le_of_ble_eq_true rfl⟩ (Nat.le_of_ble_eq_true rfl) hl.1 dX2_putThousandths_85 ⟨Nat.le_of_ble_eq_true rfl, Nat.le_of_ble_eq_true rfl⟩) (fun H locs hW => ?_)
      refine lv_if_ne (tgt := 105) hx hb dX2_putThousandths_88 (by decide) (fun c19 => ?_) (fun c19 => ?_)
      · replace ho := ite_f c19 ho
        cases ho
        cases hrun
        exact hK0 _ _ _ hW (lv_sub hl [0, 1, 2] rfl)
      · replace ho := ite_t c19 ho
        refine lv_aload_n hx hb dX2_putThousandths_91 rfl (lv_at hl 0 rfl) ?_
        refine xGET_200 C0 kw_369 hW dX2_putThousandths_92 ?_
        refine lv_iconst (v := (5 : Int32)) hx hb dX2_putThousandths_95 (by decide) ?_
        obtain ⟨q20, hc21, ho⟩ := bd_some ho
        refine bkV C0.1 hW (runSX (As := [.ref (am 200), .int (5 : Int32)]) (rest := []) C0 hW (c_x2_divide_200 l _ t (5 : Int32) (t' := q20) hc21) cb_X2_X2_divide_48 rfl rfl ⟨rfl, rfl⟩ ⟨Nat.le_of_ble_eq_true rfl, Nat.le_of_ble_eq_true rfl⟩ (Nat.le_of_ble_eq_true rfl) hl.1 dX2_putThousandths_96 ⟨Nat.le_of_ble_eq_true rfl, Nat.le_of_ble_eq_true rfl⟩) (fun H locs hW => ?_)
        obtain ⟨x22, ex22, ho⟩ := nm_x ho
        refine lv_iinc (v := x22) (lv' := [(6, .int x22), (0, .ref (am 2002)), (5, .int v5)]) hx hb dX2_putThousandths_99 hl (k := 2) rfl (by rw [ex22]; rfl) (by decide) rfl (fun ls hl => ?_)
        clear ex22
        refine lv_goto (tgt := 75) hx hb dX2_putThousandths_102 (by decide) ?_
        cases ho
        exact ih _ _ hrun _ _ _ hW (lv_sub hl [1, 2, 0] rfl)
set_option maxHeartbeats 4000000 in
set_option maxRecDepth 100000 in
theorem c_x2_putThousandths_13 (l : Launch) {D : va_G} {cI cJ cZ cR : ClassId} {am gm : Nat → Nat} {st : Nat} (sz : Nat) (t : St) (a2 : Int32) (a3 : Int32) (a4 : Int32) {t' : St} (ho : x2_putThousandths_13 t a2 a3 a4 = some t') : Met l yX2_putThousandths (.code yX2_putThousandths cX2_putThousandths 8 none :: wsAll) (rmN 2 60) (va_Pc [.ref (am 2002), .ref (am 13), .int a2, .int a3, .int a4] (prX D (tyX cI cJ cZ cR) (wX cI cJ cZ cR am gm t) sz st)) (qV D (tyX cI cJ cZ cR) (wX cI cJ cZ cR am gm t') (va_A (wX cI cJ cZ cR am gm t) sz)) 0 0 (va_A (wX cI cJ cZ cR am gm t) sz) := by
  refine Met.ofW (cc := cX2_putThousandths) (maxL := 8) (ret := none) (by decide) rfl ?_
  intro p e s m args below meth c s₁ B hml hv
  obtain ⟨rfl, ⟨hsz, hP, hK, hD0⟩, hsx⟩ := hv
  have hx := B.exec
  have hb := B.bytes
  have hts := atoms_spec (ws := (.code yX2_putThousandths cX2_putThousandths 8 none :: wsAll)) B.pre
  have hta := fun w h => hts w (List.mem_cons_of_mem _ h)
  have hown : s.vm.findClass RX2 = some m.cls := findClass_of_methodNamed B.named
  have hlocks := B.notSynchronized
  subst hsz
  have hD := hD0.self (sz := s.heap.size)
  generalize hAe : va_A (wX cI cJ cZ cR am gm t) s.heap.size = A at hD ⊢
  have hA : ∀ q : Nat, s.heap.size ≤ q → A q := fun q h => by rw [← hAe]; exact Or.inr h
  have C0 : cxX p s m ([.ref (am 2002), .ref (am 13), .int a2, .int a3, .int a4].toArray) meth c cX2_putThousandths RX2 8 none D (tyX cI cJ cZ cR) st A := ⟨⟨hx, hb, B.returns, hml, hown, hta, hlocks, hK, hA⟩, by rw [← hAe]; exact hsx⟩
  have hW : wl D A s (wX cI cJ cZ cR am gm t) s.heap [] := ⟨hP, hD, va_S.rf⟩
  have hl := lv_entry [.ref (am 2002), .ref (am 13), .int a2, .int a3, .int a4] (n := 8) (Nat.le_of_ble_eq_true rfl)
  rw [lg_entry_eq]
  generalize (lg_sl [.ref (am 2002), .ref (am 13), .int a2, .int a3, .int a4] ++ List.replicate (8 - (lg_sl [.ref (am 2002), .ref (am 13), .int a2, .int a3, .int a4]).length) Slot.unset).toArray = ls at hl ⊢
  have hl : lv_has ls 8 [(0, .ref (am 2002)), (1, .ref (am 13)), (2, .int a2), (3, .int a3), (4, .int a4)] := hl
  clear hAe hD hP hD0 hts
  have J39 : ∀ (t : St) (w0 : Int32) (_ : x2_putThousandths_13_J39 t w0 = some t') (H : Heap) (locs : List Loc) (ls : Array Slot), wl D A s (wX cI cJ cZ cR am gm t) H locs → lv_has ls 8 [(0, .ref (am 2002))] → W p l e (rmN 2 60) s m ([.ref (am 2002), .ref (am 13), .int a2, .int a3, .int a4].toArray) below meth c H locs 0 0 (MQ below (qV D (tyX cI cJ cZ cR) (wX cI cJ cZ cR am gm t') A) ([.ref (am 2002), .ref (am 13), .int a2, .int a3, .int a4].toArray) s 0 0 A) (F0 m 39 ls [.int w0]) := by
    intro t w0 ho H locs ls hW hl
    unfold x2_putThousandths_13_J39 at ho
    refine lv_istore (lv' := [(5, .int w0), (0, .ref (am 2002))]) hx hb dX2_putThousandths_39 hl (by decide) rfl (fun ls hl => ?_)
    refine lv_iload hx hb dX2_putThousandths_41 (lv_at hl 0 rfl) ?_
    refine lv_istore (lv' := [(6, .int w0), (5, .int w0), (0, .ref (am 2002))]) hx hb dX2_putThousandths_43 hl (by decide) rfl (fun ls hl => ?_)
    obtain ⟨y23, hc25, ho⟩ := bd_some ho
    obtain ⟨ny23, hc25⟩ := lp_to hc25
    refine x2_putThousandths_13_L45 C0 ?_ ny23 _ _ hc25 _ _ _ hW (lv_sub hl [2, 1, 0] rfl)
    intro H locs ls hW hl
    obtain ⟨y26, hc28, ho⟩ := bd_some ho
    obtain ⟨ny26, hc28⟩ := lp_to hc28
    refine x2_putThousandths_13_L75 C0 ?_ ny26 _ _ hc28 _ _ _ hW (lv_sub hl [0, 1, 2] rfl)
    intro H locs ls hW hl
    refine lv_aload_n hx hb dX2_putThousandths_105 rfl (lv_at hl 0 rfl) ?_
    refine xGET_201 C0 kw_370 hW dX2_putThousandths_106 ?_
    refine lv_iconst (v := (0 : Int32)) hx hb dX2_putThousandths_109 (by decide) ?_
    obtain ⟨q29, hc30, ho⟩ := bd_some ho
    refine bkV C0.1 hW (runSX (As := [.ref (am 201), .int (0 : Int32)]) (rest := []) C0 hW (c_j7_fill_53178_201 l _ y26.2 (0 : Int32) (t' := q29) hc30) cb_X2_J7_fill_53178_22 rfl rfl ⟨rfl, rfl⟩ ⟨Nat.le_of_ble_eq_true rfl, Nat.le_of_ble_eq_true rfl⟩ (Nat.le_of_ble_eq_true rfl) hl.1 dX2_putThousandths_110 ⟨Nat.le_of_ble_eq_true rfl, Nat.le_of_ble_eq_true rfl⟩) (fun H locs hW => ?_)
    refine lv_aload_n hx hb dX2_putThousandths_113 rfl (lv_at hl 0 rfl) ?_
    refine xGET_201 C0 kw_370 hW dX2_putThousandths_114 ?_
    refine lv_iconst (v := (0 : Int32)) hx hb dX2_putThousandths_117 (by decide) ?_
    refine lv_iconst (v := (1 : Int32)) hx hb dX2_putThousandths_118 (by decide) ?_
    obtain ⟨g31, ho⟩ := gd_some ho
    refine xST_201 C0 hW g31 dX2_putThousandths_119 (fun H locs hW => ?_)
    obtain ⟨t32, ho, hW⟩ := nm_w (P := fun t => wl D A s (wX cI cJ cZ cR am gm t) H locs) ho hW
    refine lv_iconst (v := (0 : Int32)) hx hb dX2_putThousandths_120 (by decide) ?_
    refine lv_istore (lv' := [(7, .int (0 : Int32)), (0, .ref (am 2002)), (5, .int y23.1), (6, .int y26.1)]) hx hb dX2_putThousandths_121 hl (by decide) rfl (fun ls hl => ?_)
    obtain ⟨y33, hc35, ho⟩ := bd_some ho
    obtain ⟨ny33, hc35⟩ := lp_to hc35
    refine x2_putThousandths_13_L123 C0 ?_ ny33 _ _ hc35 _ _ _ hW (lv_sub hl [1, 2, 3, 0] rfl)
    intro H locs ls hW hl
    refine lv_iconst (v := (0 : Int32)) hx hb dX2_putThousandths_147 (by decide) ?_
    refine lv_istore (lv' := [(7, .int (0 : Int32)), (0, .ref (am 2002)), (6, .int y26.1)]) hx hb dX2_putThousandths_148 hl (by decide) rfl (fun ls hl => ?_)
    obtain ⟨y36, hc38, ho⟩ := bd_some ho
    obtain ⟨ny36, hc38⟩ := lp_to hc38
    refine x2_putThousandths_13_L150 C0 ?_ ny36 _ _ hc38 _ _ _ hW (lv_sub hl [1, 2, 0] rfl)
    intro H locs ls hW hl
    cases ho
    exact rtV C0.1 hW dX2_putThousandths_174
  unfold x2_putThousandths_13 at ho
  refine lv_aload_n hx hb dX2_putThousandths_0 rfl (lv_at hl 0 rfl) ?_
  refine xGET_200 C0 kw_369 hW dX2_putThousandths_1 ?_
  refine lv_iconst (v := (0 : Int32)) hx hb dX2_putThousandths_4 (by decide) ?_
  obtain ⟨q39, hc40, ho⟩ := bd_some ho
  refine bkV C0.1 hW (runSX (As := [.ref (am 200), .int (0 : Int32)]) (rest := []) C0 hW (c_j7_fill_53178_200 l _ t (0 : Int32) (t' := q39) hc40) cb_X2_J7_fill_53178_22 rfl rfl ⟨rfl, rfl⟩ ⟨Nat.le_of_ble_eq_true rfl, Nat.le_of_ble_eq_true rfl⟩ (Nat.le_of_ble_eq_true rfl) hl.1 dX2_putThousandths_5 ⟨Nat.le_of_ble_eq_true rfl, Nat.le_of_ble_eq_true rfl⟩) (fun H locs hW => ?_)
  refine lv_aload_n hx hb dX2_putThousandths_8 rfl (lv_at hl 1 rfl) ?_
  refine lv_iload_n hx hb dX2_putThousandths_9 rfl (lv_at hl 2 rfl) ?_
  refine lv_aload_n hx hb dX2_putThousandths_10 rfl (lv_at hl 0 rfl) ?_
  refine xGET_200 C0 kw_369 hW dX2_putThousandths_11 ?_
  refine lv_iconst (v := (0 : Int32)) hx hb dX2_putThousandths_14 (by decide) ?_
  refine lv_iload_n hx hb dX2_putThousandths_15 rfl (lv_at hl 3 rfl) ?_
  refine lv_bipush (v := (6 : Int32)) hx hb dX2_putThousandths_16 (by decide) ?_
  refine va_mmin (rest := [.int (0 : Int32), .ref (am 200), .int a2, .ref (am 13)]) hx hb (C0.1.2.2.2.1.trans hl.1.symm) hown (hta _ kw_1006) (hta _ kw_748) (hta _ kw_136) (hta _ kw_749) (Nat.le_of_ble_eq_true rfl) (Nat.le_of_ble_eq_true rfl) (Nat.le_of_ble_eq_true rfl) (Nat.le_of_ble_eq_true rfl) dX2_putThousandths_18 ?_
  obtain ⟨g41, ho⟩ := cpk_some ho
  refine xCPY_13_200 (rest := []) C0 kw_1007 kw_752 kw_751 kw_137 hl.1 hW g41 (Nat.le_of_ble_eq_true rfl) (Nat.le_of_ble_eq_true rfl) dX2_putThousandths_21 (fun H locs hW => ?_)
  obtain ⟨t42, ho, hW⟩ := nm_w (P := fun t => wl D A s (wX cI cJ cZ cR am gm t) H locs) ho hW
  refine lv_aload_n hx hb dX2_putThousandths_24 rfl (lv_at hl 0 rfl) ?_
  obtain ⟨q43, hc44, ho⟩ := bd_some ho
  refine bkZ C0.1 hW (runVX (As := []) (rest := []) C0 hW (c_x2_isZero l _ t42 (r := q43) hc44) cb_X2_X2_isZero_40 2 2 rfl rfl rfl rfl rfl ⟨rfl, rfl⟩ ⟨Nat.le_of_ble_eq_true rfl, Nat.le_of_ble_eq_true rfl⟩ (Nat.le_of_ble_eq_true rfl) hl.1 dX2_putThousandths_25 ⟨Nat.le_of_ble_eq_true rfl, Nat.le_of_ble_eq_true rfl⟩) (fun z45 H locs hW => ?_)
  refine lv_if_eq (tgt := 35) hx hb dX2_putThousandths_28 (by decide) (fun c46 => ?_) (fun c46 => ?_)
  · replace ho := ite_t c46 ho
    refine lv_iconst (v := (3 : Int32)) hx hb dX2_putThousandths_35 (by decide) ?_
    refine lv_iload hx hb dX2_putThousandths_36 (lv_at hl 4 rfl) ?_
    refine lv_imul hx hb dX2_putThousandths_38 ?_
    exact J39 _ _ ho _ _ _ hW (lv_sub hl [0] rfl)
  · replace ho := ite_f c46 ho
    refine lv_iconst (v := (0 : Int32)) hx hb dX2_putThousandths_31 (by decide) ?_
    refine lv_goto (tgt := 39) hx hb dX2_putThousandths_32 (by decide) ?_
    exact J39 _ _ ho _ _ _ hW (lv_sub hl [0] rfl)
noncomputable def x11_weight_J56 (t : St) : Option (Int32 × St) :=
  (x2_putThousandths_13 t (0 : Int32) (gI t 6) (gI t 803)).bind (fun q1 => (x2_isZero q1).bind (fun q3 => if q3 = 0 then (some ((1 : Int32), q1)) else (some ((0 : Int32), q1))))
theorem mm_x11_weight_J56 (t : St) : MR (x11_weight_J56 t) t (fun (a : Int32 × St) => a.2) := by
  unfold x11_weight_J56
  exact MR_bind (mm_x2_putThousandths_13 t (0 : Int32) (gI t 6) (gI t 803)) (fun q1 hq1 => MR_bindn (fun q3 => MR_ite (MR_some hq1) (MR_some hq1)))
noncomputable def x11_weight_J42 (t : St) (v2 : Int32) (w0 : Int32) : Option (Int32 × St) :=
  if w0 = 0 then (some ((-5 : Int32), t)) else ((x0_workWeight t v2).bind (fun q8 => x11_weight_J56 q8))
theorem mm_x11_weight_J42 (t : St) (v2 : Int32) (w0 : Int32) : MR (x11_weight_J42 t v2 w0) t (fun (a : Int32 × St) => a.2) := by
  unfold x11_weight_J42
  exact MR_ite (MR_some mle.rfl) (MR_bind (mm_x0_workWeight t v2) (fun q8 hq8 => MR_wk hq8 (mm_x11_weight_J56 q8)))
noncomputable def x11_weight (t0 : St) (a1 : Int32) (a2 : Int32) : Option (Int32 × St) :=
  (x11_noNet t0 a1).bind (fun q10 => if q10 = 0 then ((x11_noStep t0 a2).bind (fun q14 => if q14 = 0 then (gd a1 (gN t0 602) (nm (gA t0 602 (a1).toNatClampNeg) (fun x19 : Int32 => if 0 ≤ x19 then ((x0_mayWork t0 x19).bind (fun q21 => x11_weight_J42 q21.2 a2 q21.1)) else (some ((-3 : Int32), t0))))) else (some ((-2 : Int32), t0)))) else (some ((-2 : Int32), t0)))
theorem mm_x11_weight (t0 : St) (a1 : Int32) (a2 : Int32) : MR (x11_weight t0 a1 a2) t0 (fun (a : Int32 × St) => a.2) := by
  unfold x11_weight
  exact MR_bindn (fun q10 => MR_ite (MR_bindn (fun q14 => MR_ite (MR_gd (MR_nm (fun x19 _ => MR_ite (MR_bind (mm_x0_mayWork t0 x19) (fun q21 hq21 => MR_wk hq21 (mm_x11_weight_J42 q21.2 a2 q21.1))) (MR_some mle.rfl)))) (MR_some mle.rfl))) (MR_some mle.rfl))
set_option maxHeartbeats 4000000 in
set_option maxRecDepth 100000 in
theorem c_x11_weight (l : Launch) {D : va_G} {cI cJ cZ cR : ClassId} {am gm : Nat → Nat} {st : Nat} (sz : Nat) (t0 : St) (a1 : Int32) (a2 : Int32) {r : Int32} {t' : St} (ho : x11_weight t0 a1 a2 = some (r, t')) : Met l yX11_weight (.code yX11_weight cX11_weight 4 (some .int) :: wsAll) (rmA 6 142 t0 t') (va_Pc [.ref (am 2011), .int a1, .int a2] (prX D (tyX cI cJ cZ cR) (wX cI cJ cZ cR am gm t0) sz st)) (qIa r D (tyX cI cJ cZ cR) (fun gm => wX cI cJ cZ cR am gm t') (va_A (wX cI cJ cZ cR am gm t0) sz)) (mC t0 t') (mS t0 t') (va_A (wX cI cJ cZ cR am gm t0) sz) := by
  refine Met.ofW (cc := cX11_weight) (maxL := 4) (ret := (some .int)) (by decide) rfl ?_
  intro p e s m args below meth c s₁ B hml hv
  obtain ⟨rfl, ⟨hsz, hP, hK, hD0⟩, hsx⟩ := hv
  have hx := B.exec
  have hb := B.bytes
  have hts := atoms_spec (ws := (.code yX11_weight cX11_weight 4 (some .int) :: wsAll)) B.pre
  have hta := fun w h => hts w (List.mem_cons_of_mem _ h)
  have hown : s.vm.findClass RX11 = some m.cls := findClass_of_methodNamed B.named
  have hlocks := B.notSynchronized
  subst hsz
  have hD := hD0.self (sz := s.heap.size)
  generalize hAe : va_A (wX cI cJ cZ cR am gm t0) s.heap.size = A at hD ⊢
  have hA : ∀ q : Nat, s.heap.size ≤ q → A q := fun q h => by rw [← hAe]; exact Or.inr h
  have C0 : cxX p s m ([.ref (am 2011), .int a1, .int a2].toArray) meth c cX11_weight RX11 4 (some .int) D (tyX cI cJ cZ cR) st A := ⟨⟨hx, hb, B.returns, hml, hown, hta, hlocks, hK, hA⟩, by rw [← hAe]; exact hsx⟩
  have hW : wl D A s (wX cI cJ cZ cR am gm t0) s.heap [] := ⟨hP, hD, va_S.rf⟩
  have hl := lv_entry [.ref (am 2011), .int a1, .int a2] (n := 4) (Nat.le_of_ble_eq_true rfl)
  rw [lg_entry_eq]
  generalize (lg_sl [.ref (am 2011), .int a1, .int a2] ++ List.replicate (4 - (lg_sl [.ref (am 2011), .int a1, .int a2]).length) Slot.unset).toArray = ls at hl ⊢
  have hl : lv_has ls 4 [(0, .ref (am 2011)), (1, .int a1), (2, .int a2)] := hl
  clear hAe hD hP hD0 hts
  have J56 : ∀ (gm : Nat → Nat) (t : St) (_ : x11_weight_J56 t = some (r, t')) (_ : mle t0 t) (H : Heap) (locs : List Loc) (ls : Array Slot), wl D A s (wX cI cJ cZ cR am gm t) H locs → lv_has ls 4 [(0, .ref (am 2011))] → W p l e (rmA 6 142 t0 t') s m ([.ref (am 2011), .int a1, .int a2].toArray) below meth c H locs (mC t0 t) (mS t0 t) (MQ below (qIa r D (tyX cI cJ cZ cR) (fun gm => wX cI cJ cZ cR am gm t') A) ([.ref (am 2011), .int a1, .int a2].toArray) s (mC t0 t') (mS t0 t') A) (F0 m 56 ls []) := by
    intro gm t ho h0 H locs ls hW hl
    have hE : mle t t' := (mm_x11_weight_J56 _ _ ho)
    have hR := hR_of (t0 := t0) hE
    unfold x11_weight_J56 at ho
    refine lv_aload_n hx hb dX11_weight_56 rfl (lv_at hl 0 rfl) ?_
    refine xGET_1105 C0 kw_596 hW dX11_weight_57 ?_
    refine lv_aload_n hx hb dX11_weight_60 rfl (lv_at hl 0 rfl) ?_
    refine xGET_1106 C0 kw_597 hW dX11_weight_61 ?_
    refine xGET_13 C0 kw_400 hW dX11_weight_64 ?_
    refine lv_iconst (v := (0 : Int32)) hx hb dX11_weight_67 (by decide) ?_
    refine lv_aload_n hx hb dX11_weight_68 rfl (lv_at hl 0 rfl) ?_
    refine xGET_1106 C0 kw_597 hW dX11_weight_69 ?_
    refine xGET_6 C0 kw_390 hW dX11_weight_72 ?_
    refine lv_aload_n hx hb dX11_weight_75 rfl (lv_at hl 0 rfl) ?_
    refine xGET_1103 C0 kw_594 hW dX11_weight_76 ?_
    refine xGET_803 C0 kw_277 hW dX11_weight_79 ?_
    obtain ⟨q1, hc2, ho⟩ := bd_some ho
    have hq1 := mm_x2_putThousandths_13 t (0 : Int32) (gI t 6) (gI t 803) _ hc2
    refine bkV C0.1 hW (runVX (As := [.ref (am 13), .int (0 : Int32), .int (gI t 6), .int (gI t 803)]) (rest := []) C0 hW (c_x2_putThousandths_13 l _ t (0 : Int32) (gI t 6) (gI t 803) (t' := q1) hc2) cb_X11_X2_putThousandths_215 2 2 rfl rfl rfl rfl rfl ⟨rfl, rfl⟩ ⟨Nat.le_of_ble_eq_true rfl, Nat.le_of_ble_eq_true rfl⟩ (Nat.le_of_ble_eq_true rfl) hl.1 dX11_weight_82 ⟨hR.1, hR.2⟩) (fun H locs hW => ?_)
    refine lv_aload_n hx hb dX11_weight_85 rfl (lv_at hl 0 rfl) ?_
    refine xGET_1105 C0 kw_596 hW dX11_weight_86 ?_
    obtain ⟨q3, hc4, ho⟩ := bd_some ho
    refine bkZ C0.1 hW (runVX (As := []) (rest := []) C0 hW (c_x2_isZero l _ q1 (r := q3) hc4) cb_X11_X2_isZero_225 2 2 rfl rfl rfl rfl rfl ⟨rfl, rfl⟩ ⟨Nat.le_of_ble_eq_true rfl, Nat.le_of_ble_eq_true rfl⟩ (Nat.le_of_ble_eq_true rfl) hl.1 dX11_weight_89 ⟨hR.1, hR.2⟩) (fun z5 H locs hW => ?_)
    refine lv_if_eq (tgt := 99) hx hb dX11_weight_92 (by decide) (fun c6 => ?_) (fun c6 => ?_)
    · replace ho := ite_t c6 ho
      refine lv_iconst (v := (1 : Int32)) hx hb dX11_weight_99 (by decide) ?_
      refine W_up h0 hq1 ?_
      cases ho
      exact rtIa gm C0.1 hW dX11_weight_100
    · replace ho := ite_f c6 ho
      refine lv_iconst (v := (0 : Int32)) hx hb dX11_weight_95 (by decide) ?_
      refine lv_goto (tgt := 100) hx hb dX11_weight_96 (by decide) ?_
      refine W_up h0 hq1 ?_
      cases ho
      exact rtIa gm C0.1 hW dX11_weight_100
  have J42 : ∀ (gm : Nat → Nat) (t : St) (v2 : Int32) (w0 : Int32) (_ : x11_weight_J42 t v2 w0 = some (r, t')) (_ : mle t0 t) (H : Heap) (locs : List Loc) (ls : Array Slot), wl D A s (wX cI cJ cZ cR am gm t) H locs → lv_has ls 4 [(0, .ref (am 2011)), (2, .int v2)] → W p l e (rmA 6 142 t0 t') s m ([.ref (am 2011), .int a1, .int a2].toArray) below meth c H locs (mC t0 t) (mS t0 t) (MQ below (qIa r D (tyX cI cJ cZ cR) (fun gm => wX cI cJ cZ cR am gm t') A) ([.ref (am 2011), .int a1, .int a2].toArray) s (mC t0 t') (mS t0 t') A) (F0 m 42 ls [.int w0]) := by
    intro gm t v2 w0 ho h0 H locs ls hW hl
    have hE : mle t t' := (mm_x11_weight_J42 _ _ _ _ ho)
    have hR := hR_of (t0 := t0) hE
    unfold x11_weight_J42 at ho
    refine lv_if_ne (tgt := 48) hx hb dX11_weight_42 (by decide) (fun c7 => ?_) (fun c7 => ?_)
    · replace ho := ite_f c7 ho
      refine lv_aload_n hx hb dX11_weight_48 rfl (lv_at hl 0 rfl) ?_
      refine xGET_1106 C0 kw_597 hW dX11_weight_49 ?_
      refine lv_iload_n hx hb dX11_weight_52 rfl (lv_at hl 1 rfl) ?_
      obtain ⟨q8, hc9, ho⟩ := bd_some ho
      have hq8 := mm_x0_workWeight t v2 _ hc9
      have hEq8 := (mm_x11_weight_J56 _ _ ho)
      refine bkVa C0.1 hW h0 hq8 (runVX (As := [.int v2]) (rest := []) C0 hW (c_x0_workWeight l _ t v2 (t' := q8) hc9) cb_X11_X0_workWeight_219 0 0 rfl rfl rfl rfl rfl ⟨rfl, rfl⟩ ⟨Nat.le_of_ble_eq_true rfl, Nat.le_of_ble_eq_true rfl⟩ (Nat.le_of_ble_eq_true rfl) hl.1 dX11_weight_53 (hf_of h0 hq8 hEq8)) (fun gm H locs hW => ?_)
      have h0 := mle.trans h0 hq8
      exact J56 gm _ ho h0 _ _ _ hW (lv_sub hl [0] rfl)
    · replace ho := ite_t c7 ho
      refine lv_bipush (v := (-5 : Int32)) hx hb dX11_weight_45 (by decide) ?_
      cases ho
      exact rtIa gm C0.1 hW dX11_weight_47
  have hE : mle t0 t' := mm_x11_weight _ _ _ _ ho
  have hR := hR_of (t0 := t0) hE
  have h0 : mle t0 t0 := mle.rfl
  refine W_0 (t0 := t0) ?_
  unfold x11_weight at ho
  refine lv_iload_n hx hb dX11_weight_0 rfl (lv_at hl 1 rfl) ?_
  obtain ⟨q10, hc11, ho⟩ := bd_some ho
  refine bkZ C0.1 hW (runSX (As := [.int a1]) (rest := []) C0 hW (c_x11_noNet l _ t0 a1 (r := q10) hc11) cb_X11_X11_noNet_124 rfl rfl ⟨rfl, rfl⟩ ⟨Nat.le_of_ble_eq_true rfl, Nat.le_of_ble_eq_true rfl⟩ (Nat.le_of_ble_eq_true rfl) hl.1 dX11_weight_1 ⟨hR.1, hR.2⟩) (fun z12 H locs hW => ?_)
  refine lv_if_ne (tgt := 14) hx hb dX11_weight_4 (by decide) (fun c13 => ?_) (fun c13 => ?_)
  · replace ho := ite_f c13 ho
    refine lv_bipush (v := (-2 : Int32)) hx hb dX11_weight_14 (by decide) ?_
    cases ho
    exact rtIa gm C0.1 hW dX11_weight_16
  · replace ho := ite_t c13 ho
    refine lv_iload_n hx hb dX11_weight_7 rfl (lv_at hl 2 rfl) ?_
    obtain ⟨q14, hc15, ho⟩ := bd_some ho
    refine bkZ C0.1 hW (runSX (As := [.int a2]) (rest := []) C0 hW (c_x11_noStep l _ t0 a2 (r := q14) hc15) cb_X11_X11_noStep_98 rfl rfl ⟨rfl, rfl⟩ ⟨Nat.le_of_ble_eq_true rfl, Nat.le_of_ble_eq_true rfl⟩ (Nat.le_of_ble_eq_true rfl) hl.1 dX11_weight_8 ⟨hR.1, hR.2⟩) (fun z16 H locs hW => ?_)
    refine lv_if_eq (tgt := 17) hx hb dX11_weight_11 (by decide) (fun c17 => ?_) (fun c17 => ?_)
    · replace ho := ite_t c17 ho
      refine lv_aload_n hx hb dX11_weight_17 rfl (lv_at hl 0 rfl) ?_
      refine xGET_1101 C0 kw_592 hW dX11_weight_18 ?_
      refine xGET_602 C0 kw_184 hW dX11_weight_21 ?_
      refine lv_iload_n hx hb dX11_weight_24 rfl (lv_at hl 1 rfl) ?_
      obtain ⟨g18, ho⟩ := gd_some ho
      refine xLD_602 C0 hW g18 dX11_weight_25 ?_
      refine lv_nmi ho (fun x19 ho => ?_)
      refine lv_istore_n (lv' := [(3, .int x19), (0, .ref (am 2011)), (1, .int a1), (2, .int a2)]) hx hb dX11_weight_26 rfl hl (by decide) rfl (fun ls hl => ?_)
      refine lv_iload_n hx hb dX11_weight_27 rfl (lv_at hl 0 rfl) ?_
      refine lv_if_ge (tgt := 34) hx hb dX11_weight_28 (by decide) (fun c20 => ?_) (fun c20 => ?_)
      · replace ho := ite_t c20 ho
        refine lv_aload_n hx hb dX11_weight_34 rfl (lv_at hl 1 rfl) ?_
        refine xGET_1106 C0 kw_597 hW dX11_weight_35 ?_
        refine lv_iload_n hx hb dX11_weight_38 rfl (lv_at hl 0 rfl) ?_
        obtain ⟨q21, hc22, ho⟩ := bd_some ho
        have hq21 := mm_x0_mayWork t0 x19 _ hc22
        have hEq21 := (mm_x11_weight_J42 _ _ _ _ ho)
        refine bkZa C0.1 hW h0 hq21 (runVX (As := [.int x19]) (rest := []) C0 hW (c_x0_mayWork l _ t0 x19 (r := q21.1) (t' := q21.2) hc22) cb_X11_X0_mayWork_197 0 0 rfl rfl rfl rfl rfl ⟨rfl, rfl⟩ ⟨Nat.le_of_ble_eq_true rfl, Nat.le_of_ble_eq_true rfl⟩ (Nat.le_of_ble_eq_true rfl) hl.1 dX11_weight_39 (hf_of h0 hq21 hEq21)) (fun z23 gm H locs hW => ?_)
        have h0 := mle.trans h0 hq21
        exact J42 gm _ _ _ ho h0 _ _ _ hW (lv_sub hl [1, 3] rfl)
      · replace ho := ite_f c20 ho
        refine lv_bipush (v := (-3 : Int32)) hx hb dX11_weight_31 (by decide) ?_
        cases ho
        exact rtIa gm C0.1 hW dX11_weight_33
    · replace ho := ite_f c17 ho
      refine lv_bipush (v := (-2 : Int32)) hx hb dX11_weight_14 (by decide) ?_
      cases ho
      exact rtIa gm C0.1 hW dX11_weight_16
noncomputable def x0_workSets_B34 (v1 : Int32) (v2 : Int32) (t : St) : Option ((Int32 × St) ⊕ (St)) :=
  if v1 ≤ v2 then (some (.inr t)) else ((x8_bit t v2).bind (fun q2 => if q2 = (1 : Int32) then ((x2_putPower_12 t (v2 * (gI t 6)) (gI t 6) (gI t 803)).bind (fun q8 => nm (v2 + (1 : Int32)) (fun x10 : Int32 => some (.inl (x10, q8))))) else ((x2_wipe_12 t (v2 * (gI t 6)) (gI t 6)).bind (fun q5 => nm (v2 + (1 : Int32)) (fun x7 : Int32 => some (.inl (x7, q5)))))))
theorem mm_x0_workSets_B34 (v1 : Int32) (v2 : Int32) (t : St) : MR (x0_workSets_B34 v1 v2 t) t (Sum.elim (fun (x : Int32 × St) => x.2) (fun (y : St) => y)) := by
  unfold x0_workSets_B34
  exact MR_ite (MR_some mle.rfl) (MR_bindn (fun q2 => MR_ite (MR_bind (mm_x2_putPower_12 t (v2 * (gI t 6)) (gI t 6) (gI t 803)) (fun q8 hq8 => MR_nm (fun x10 _ => MR_some hq8))) (MR_bind (mm_x2_wipe_12 t (v2 * (gI t 6)) (gI t 6)) (fun q5 hq5 => MR_nm (fun x7 _ => MR_some hq5)))))
theorem mm_x0_workSets_L34 (v1 : Int32) (v2 : Int32) (t : St) : MR (lp (fun x => x0_workSets_B34 v1 x.1 x.2) (v2, t)) t (fun (y : St) => y) := MR_lp (p := (fun (x : Int32 × St) => x.2)) (q := (fun (y : St) => y)) (fun x => mm_x0_workSets_B34 v1 x.1 x.2) (v2, t)
noncomputable def x0_workSets_B116 (v1 : Int32) (v2 : Int32) (v3 : Int32) (t : St) : Option ((Int32 × St) ⊕ (St)) :=
  if v1 ≤ v3 then (some (.inr t)) else (if ((v3 >>> (v2 &&& 31)) &&& (1 : Int32)) = 0 then (nm (v3 + (1 : Int32)) (fun x18 : Int32 => some (.inl (x18, t)))) else (nm (v3 * (gI t 6)) (fun x13 : Int32 => gd v2 (gN t 14) ((x2_blend_12 t x13 x13 ((v3 ^^^ ((1 : Int32) <<< (v2 &&& 31))) * (gI t 6)) (gA t 14 (v2).toNatClampNeg) (gI t 6)).bind (fun q15 => nm (v3 + (1 : Int32)) (fun x17 : Int32 => some (.inl (x17, q15))))))))
theorem mm_x0_workSets_B116 (v1 : Int32) (v2 : Int32) (v3 : Int32) (t : St) : MR (x0_workSets_B116 v1 v2 v3 t) t (Sum.elim (fun (x : Int32 × St) => x.2) (fun (y : St) => y)) := by
  unfold x0_workSets_B116
  exact MR_ite (MR_some mle.rfl) (MR_ite (MR_nm (fun x18 _ => MR_some mle.rfl)) (MR_nm (fun x13 _ => MR_gd (MR_bind (mm_x2_blend_12 t x13 x13 ((v3 ^^^ ((1 : Int32) <<< (v2 &&& 31))) * (gI t 6)) (gA t 14 (v2).toNatClampNeg) (gI t 6)) (fun q15 hq15 => MR_nm (fun x17 _ => MR_some hq15))))))
theorem mm_x0_workSets_L116 (v1 : Int32) (v2 : Int32) (v3 : Int32) (t : St) : MR (lp (fun x => x0_workSets_B116 v1 v2 x.1 x.2) (v3, t)) t (fun (y : St) => y) := MR_lp (p := (fun (x : Int32 × St) => x.2)) (q := (fun (y : St) => y)) (fun x => mm_x0_workSets_B116 v1 v2 x.1 x.2) (v3, t)
noncomputable def x0_workSets_B103 (v1 : Int32) (v2 : Int32) (t : St) : Option ((Int32 × St) ⊕ (St)) :=
  if (gI t 803) ≤ v2 then (some (.inr t)) else ((lp (fun x => x0_workSets_B116 v1 v2 x.1 x.2) ((0 : Int32), t)).bind (fun y20 => nm (v2 + (1 : Int32)) (fun x23 : Int32 => some (.inl (x23, y20)))))
theorem mm_x0_workSets_B103 (v1 : Int32) (v2 : Int32) (t : St) : MR (x0_workSets_B103 v1 v2 t) t (Sum.elim (fun (x : Int32 × St) => x.2) (fun (y : St) => y)) := by
  unfold x0_workSets_B103
  exact MR_ite (MR_some mle.rfl) (MR_bind (mm_x0_workSets_L116 v1 v2 (0 : Int32) t) (fun y20 hm21 => MR_nm (fun x23 _ => MR_some hm21)))
theorem mm_x0_workSets_L103 (v1 : Int32) (v2 : Int32) (t : St) : MR (lp (fun x => x0_workSets_B103 v1 x.1 x.2) (v2, t)) t (fun (y : St) => y) := MR_lp (p := (fun (x : Int32 × St) => x.2)) (q := (fun (y : St) => y)) (fun x => mm_x0_workSets_B103 v1 x.1 x.2) (v2, t)
noncomputable def x0_workSets_J27 (t : St) (v1 : Int32) : Option (St) :=
  (x0_takeOdds t (0 : Int32)).bind (fun q24 => (lp (fun x => x0_workSets_B34 v1 x.1 x.2) ((0 : Int32), q24)).bind (fun y26 => (lp (fun x => x0_workSets_B103 v1 x.1 x.2) ((0 : Int32), y26)).bind (fun y29 => some y29)))
theorem mm_x0_workSets_J27 (t : St) (v1 : Int32) : MR (x0_workSets_J27 t v1) t (fun (a : St) => a) := by
  unfold x0_workSets_J27
  exact MR_bind (mm_x0_takeOdds t (0 : Int32)) (fun q24 hq24 => MR_bind (mm_x0_workSets_L34 v1 (0 : Int32) q24) (fun y26 hm27 => MR_bind (mm_x0_workSets_L103 v1 (0 : Int32) y26) (fun y29 hm30 => MR_some (mle.trans (mle.trans hq24 hm27) hm30))))
noncomputable def x0_workSets (t0 : St) : Option (St) :=
  nm ((1 : Int32) <<< ((gI t0 803) &&& 31)) (fun x32 : Int32 => grw t0 12 (x32 * (gI t0 6)) (fun t33 : St => x0_workSets_J27 t33 x32))
theorem mm_x0_workSets (t0 : St) : MR (x0_workSets t0) t0 (fun (a : St) => a) := by
  unfold x0_workSets
  exact MR_nm (fun x32 _ => MR_grw (fun t33 ht33 => MR_wk ht33 (mm_x0_workSets_J27 t33 x32)))
set_option maxHeartbeats 4000000 in
set_option maxRecDepth 100000 in
theorem x0_workSets_L34 {p : Program} {l : Launch} {e : Env} {s : State} {m : MethodId} {args : Array Value} {below : List Frame} {meth : Method} {c : Code} {Q : State → Prop} {D : va_G} {cI cJ cZ cR : ClassId} {am gm : Nat → Nat} {st : Nat} {A : Nat → Prop} (C0 : cxX p s m args meth c cX0_workSets RX0 5 none D (tyX cI cJ cZ cR) st A) {t0 t' : St} {cells slots : Nat} (hR : cells ≤ mC t0 t' ∧ slots ≤ mS t0 t') {v1 : Int32} {y : St} (hK0 : ∀ (H : Heap) (locs : List Loc) (ls : Array Slot), wl D A s (wX cI cJ cZ cR am gm y) H locs → lv_has ls 5 [(0, .ref (am 2000)), (1, .int v1)] → W p l e (rmA 2 50 t0 t') s m args below meth c H locs cells slots Q (F0 m 101 ls [])) :
    ∀ (n : Nat) (v2 : Int32) (t : St), lpn (fun x => x0_workSets_B34 v1 x.1 x.2) n (v2, t) = some y → ∀ (H : Heap) (locs : List Loc) (ls : Array Slot), wl D A s (wX cI cJ cZ cR am gm t) H locs → lv_has ls 5 [(0, .ref (am 2000)), (1, .int v1), (2, .int v2)] → W p l e (rmA 2 50 t0 t') s m args below meth c H locs cells slots Q (F0 m 34 ls []) := by
  have hx := C0.1.1
  have hb := C0.1.2.1
  have hta := C0.1.2.2.2.2.2.1
  have hown := C0.1.2.2.2.2.1
  intro n
  induction n with
  | zero => intro _ _ h; cases h
  | succ n ih =>
    intro v2 t hrun H locs ls hW hl
    obtain ⟨o, ho, hrun⟩ := bd_some hrun
    unfold x0_workSets_B34 at ho
    refine lv_iload_n hx hb dX0_workSets_34 rfl (lv_at hl 2 rfl) ?_
    refine lv_iload_n hx hb dX0_workSets_35 rfl (lv_at hl 1 rfl) ?_
    refine lv_icmp_ge (tgt := 101) hx hb dX0_workSets_36 (by decide) (fun c1 => ?_) (fun c1 => ?_)
    · replace ho := ite_t c1 ho
      cases ho
      cases hrun
      exact hK0 _ _ _ hW (lv_sub hl [0, 1] rfl)
    · replace ho := ite_f c1 ho
      refine lv_aload_n hx hb dX0_workSets_39 rfl (lv_at hl 0 rfl) ?_
      refine xGET_1 C0 kw_383 hW dX0_workSets_40 ?_
      refine lv_iload_n hx hb dX0_workSets_43 rfl (lv_at hl 2 rfl) ?_
      obtain ⟨q2, hc3, ho⟩ := bd_some ho
      refine bkI C0.1 hW (runVX (As := [.int v2]) (rest := []) C0 hW (c_x8_bit l _ t v2 (r := q2) hc3) cb_X0_X8_bit_74 8 8 rfl rfl rfl rfl rfl ⟨rfl, rfl⟩ ⟨Nat.le_of_ble_eq_true rfl, Nat.le_of_ble_eq_true rfl⟩ (Nat.le_of_ble_eq_true rfl) hl.1 dX0_workSets_44 ⟨hR.1, hR.2⟩) (fun H locs hW => ?_)
      refine lv_iconst (v := (1 : Int32)) hx hb dX0_workSets_47 (by decide) ?_
      refine lv_icmp_ne (tgt := 78) hx hb dX0_workSets_48 (by decide) (fun c4 => ?_) (fun c4 => ?_)
      · replace ho := ite_f c4 ho
        refine lv_aload_n hx hb dX0_workSets_78 rfl (lv_at hl 0 rfl) ?_
        refine xGET_12 C0 kw_396 hW dX0_workSets_79 ?_
        refine lv_iload_n hx hb dX0_workSets_82 rfl (lv_at hl 2 rfl) ?_
        refine lv_aload_n hx hb dX0_workSets_83 rfl (lv_at hl 0 rfl) ?_
        refine xGET_6 C0 kw_388 hW dX0_workSets_84 ?_
        refine lv_imul hx hb dX0_workSets_87 ?_
        refine lv_aload_n hx hb dX0_workSets_88 rfl (lv_at hl 0 rfl) ?_
        refine xGET_6 C0 kw_388 hW dX0_workSets_89 ?_
        obtain ⟨q5, hc6, ho⟩ := bd_some ho
        have hq5 := mm_x2_wipe_12 t (v2 * (gI t 6)) (gI t 6) _ hc6
        refine bkV C0.1 hW (runSX (As := [.ref (gm 12), .int (v2 * (gI t 6)), .int (gI t 6)]) (rest := []) C0 hW (c_x2_wipe_12 l _ t (v2 * (gI t 6)) (gI t 6) (t' := q5) hc6) cb_X0_X2_wipe_92 rfl rfl ⟨rfl, rfl⟩ ⟨Nat.le_of_ble_eq_true rfl, Nat.le_of_ble_eq_true rfl⟩ (Nat.le_of_ble_eq_true rfl) hl.1 dX0_workSets_92 ⟨hR.1, hR.2⟩) (fun H locs hW => ?_)
        obtain ⟨x7, ex7, ho⟩ := nm_x ho
        refine lv_iinc (v := x7) (lv' := [(2, .int x7), (0, .ref (am 2000)), (1, .int v1)]) hx hb dX0_workSets_95 hl (k := 2) rfl (by rw [ex7]; rfl) (by decide) rfl (fun ls hl => ?_)
        clear ex7
        refine lv_goto (tgt := 34) hx hb dX0_workSets_98 (by decide) ?_
        cases ho
        exact ih _ _ hrun _ _ _ hW (lv_sub hl [1, 2, 0] rfl)
      · replace ho := ite_t c4 ho
        refine lv_aload_n hx hb dX0_workSets_51 rfl (lv_at hl 0 rfl) ?_
        refine xGET_12 C0 kw_396 hW dX0_workSets_52 ?_
        refine lv_iload_n hx hb dX0_workSets_55 rfl (lv_at hl 2 rfl) ?_
        refine lv_aload_n hx hb dX0_workSets_56 rfl (lv_at hl 0 rfl) ?_
        refine xGET_6 C0 kw_388 hW dX0_workSets_57 ?_
        refine lv_imul hx hb dX0_workSets_60 ?_
        refine lv_aload_n hx hb dX0_workSets_61 rfl (lv_at hl 0 rfl) ?_
        refine xGET_6 C0 kw_388 hW dX0_workSets_62 ?_
        refine lv_aload_n hx hb dX0_workSets_65 rfl (lv_at hl 0 rfl) ?_
        refine xGET_1 C0 kw_383 hW dX0_workSets_66 ?_
        refine xGET_803 C0 kw_275 hW dX0_workSets_69 ?_
        obtain ⟨q8, hc9, ho⟩ := bd_some ho
        have hq8 := mm_x2_putPower_12 t (v2 * (gI t 6)) (gI t 6) (gI t 803) _ hc9
        refine bkV C0.1 hW (runSX (As := [.ref (gm 12), .int (v2 * (gI t 6)), .int (gI t 6), .int (gI t 803)]) (rest := []) C0 hW (c_x2_putPower_12 l _ t (v2 * (gI t 6)) (gI t 6) (gI t 803) (t' := q8) hc9) cb_X0_X2_putPower_112 rfl rfl ⟨rfl, rfl⟩ ⟨Nat.le_of_ble_eq_true rfl, Nat.le_of_ble_eq_true rfl⟩ (Nat.le_of_ble_eq_true rfl) hl.1 dX0_workSets_72 ⟨hR.1, hR.2⟩) (fun H locs hW => ?_)
        refine lv_goto (tgt := 95) hx hb dX0_workSets_75 (by decide) ?_
        obtain ⟨x10, ex10, ho⟩ := nm_x ho
        refine lv_iinc (v := x10) (lv' := [(2, .int x10), (0, .ref (am 2000)), (1, .int v1)]) hx hb dX0_workSets_95 hl (k := 2) rfl (by rw [ex10]; rfl) (by decide) rfl (fun ls hl => ?_)
        clear ex10
        refine lv_goto (tgt := 34) hx hb dX0_workSets_98 (by decide) ?_
        cases ho
        exact ih _ _ hrun _ _ _ hW (lv_sub hl [1, 2, 0] rfl)
set_option maxHeartbeats 4000000 in
set_option maxRecDepth 100000 in
theorem x0_workSets_L116 {p : Program} {l : Launch} {e : Env} {s : State} {m : MethodId} {args : Array Value} {below : List Frame} {meth : Method} {c : Code} {Q : State → Prop} {D : va_G} {cI cJ cZ cR : ClassId} {am gm : Nat → Nat} {st : Nat} {A : Nat → Prop} (C0 : cxX p s m args meth c cX0_workSets RX0 5 none D (tyX cI cJ cZ cR) st A) {t0 t' : St} {cells slots : Nat} (hR : cells ≤ mC t0 t' ∧ slots ≤ mS t0 t') {v1 : Int32} {v2 : Int32} {y : St} (hK0 : ∀ (H : Heap) (locs : List Loc) (ls : Array Slot), wl D A s (wX cI cJ cZ cR am gm y) H locs → lv_has ls 5 [(0, .ref (am 2000)), (1, .int v1), (2, .int v2)] → W p l e (rmA 2 50 t0 t') s m args below meth c H locs cells slots Q (F0 m 177 ls [])) :
    ∀ (n : Nat) (v3 : Int32) (t : St), lpn (fun x => x0_workSets_B116 v1 v2 x.1 x.2) n (v3, t) = some y → ∀ (H : Heap) (locs : List Loc) (ls : Array Slot), wl D A s (wX cI cJ cZ cR am gm t) H locs → lv_has ls 5 [(0, .ref (am 2000)), (1, .int v1), (2, .int v2), (3, .int v3)] → W p l e (rmA 2 50 t0 t') s m args below meth c H locs cells slots Q (F0 m 116 ls []) := by
  have hx := C0.1.1
  have hb := C0.1.2.1
  have hta := C0.1.2.2.2.2.2.1
  have hown := C0.1.2.2.2.2.1
  intro n
  induction n with
  | zero => intro _ _ h; cases h
  | succ n ih =>
    intro v3 t hrun H locs ls hW hl
    obtain ⟨o, ho, hrun⟩ := bd_some hrun
    unfold x0_workSets_B116 at ho
    refine lv_iload_n hx hb dX0_workSets_116 rfl (lv_at hl 3 rfl) ?_
    refine lv_iload_n hx hb dX0_workSets_117 rfl (lv_at hl 1 rfl) ?_
    refine lv_icmp_ge (tgt := 177) hx hb dX0_workSets_118 (by decide) (fun c11 => ?_) (fun c11 => ?_)
    · replace ho := ite_t c11 ho
      cases ho
      cases hrun
      exact hK0 _ _ _ hW (lv_sub hl [0, 1, 2] rfl)
    · replace ho := ite_f c11 ho
      refine lv_iload_n hx hb dX0_workSets_121 rfl (lv_at hl 3 rfl) ?_
      refine lv_iload_n hx hb dX0_workSets_122 rfl (lv_at hl 2 rfl) ?_
      refine lv_ishr hx hb dX0_workSets_123 ?_
      refine lv_iconst (v := (1 : Int32)) hx hb dX0_workSets_124 (by decide) ?_
      refine lv_iand hx hb dX0_workSets_125 ?_
      refine lv_if_ne (tgt := 132) hx hb dX0_workSets_126 (by decide) (fun c12 => ?_) (fun c12 => ?_)
      · replace ho := ite_f c12 ho
        refine lv_iload_n hx hb dX0_workSets_132 rfl (lv_at hl 3 rfl) ?_
        refine lv_aload_n hx hb dX0_workSets_133 rfl (lv_at hl 0 rfl) ?_
        refine xGET_6 C0 kw_388 hW dX0_workSets_134 ?_
        refine lv_imul hx hb dX0_workSets_137 ?_
        refine lv_nmi ho (fun x13 ho => ?_)
        refine lv_istore (lv' := [(4, .int x13), (0, .ref (am 2000)), (1, .int v1), (2, .int v2), (3, .int v3)]) hx hb dX0_workSets_138 hl (by decide) rfl (fun ls hl => ?_)
        refine lv_aload_n hx hb dX0_workSets_140 rfl (lv_at hl 1 rfl) ?_
        refine xGET_12 C0 kw_396 hW dX0_workSets_141 ?_
        refine lv_iload hx hb dX0_workSets_144 (lv_at hl 0 rfl) ?_
        refine lv_iload hx hb dX0_workSets_146 (lv_at hl 0 rfl) ?_
        refine lv_iload_n hx hb dX0_workSets_148 rfl (lv_at hl 4 rfl) ?_
        refine lv_iconst (v := (1 : Int32)) hx hb dX0_workSets_149 (by decide) ?_
        refine lv_iload_n hx hb dX0_workSets_150 rfl (lv_at hl 3 rfl) ?_
        refine lv_ishl hx hb dX0_workSets_151 ?_
        refine lv_ixor hx hb dX0_workSets_152 ?_
        refine lv_aload_n hx hb dX0_workSets_153 rfl (lv_at hl 1 rfl) ?_
        refine xGET_6 C0 kw_388 hW dX0_workSets_154 ?_
        refine lv_imul hx hb dX0_workSets_157 ?_
        refine lv_aload_n hx hb dX0_workSets_158 rfl (lv_at hl 1 rfl) ?_
        refine xGET_14 C0 kw_401 hW dX0_workSets_159 ?_
        refine lv_iload_n hx hb dX0_workSets_162 rfl (lv_at hl 3 rfl) ?_
        obtain ⟨g14, ho⟩ := gd_some ho
        refine xLD_14 C0 hW g14 dX0_workSets_163 ?_
        refine lv_aload_n hx hb dX0_workSets_164 rfl (lv_at hl 1 rfl) ?_
        refine xGET_6 C0 kw_388 hW dX0_workSets_165 ?_
        obtain ⟨q15, hc16, ho⟩ := bd_some ho
        have hq15 := mm_x2_blend_12 t x13 x13 ((v3 ^^^ ((1 : Int32) <<< (v2 &&& 31))) * (gI t 6)) (gA t 14 (v2).toNatClampNeg) (gI t 6) _ hc16
        refine bkV C0.1 hW (runSX (As := [.ref (gm 12), .int x13, .int x13, .int ((v3 ^^^ ((1 : Int32) <<< (v2 &&& 31))) * (gI t 6)), .int (gA t 14 (v2).toNatClampNeg), .int (gI t 6)]) (rest := []) C0 hW (c_x2_blend_12 l _ t x13 x13 ((v3 ^^^ ((1 : Int32) <<< (v2 &&& 31))) * (gI t 6)) (gA t 14 (v2).toNatClampNeg) (gI t 6) (t' := q15) hc16) cb_X0_X2_blend_116 rfl rfl ⟨rfl, rfl⟩ ⟨Nat.le_of_ble_eq_true rfl, Nat.le_of_ble_eq_true rfl⟩ (Nat.le_of_ble_eq_true rfl) hl.1 dX0_workSets_168 ⟨hR.1, hR.2⟩) (fun H locs hW => ?_)
        obtain ⟨x17, ex17, ho⟩ := nm_x ho
        refine lv_iinc (v := x17) (lv' := [(3, .int x17), (4, .int x13), (0, .ref (am 2000)), (1, .int v1), (2, .int v2)]) hx hb dX0_workSets_171 hl (k := 4) rfl (by rw [ex17]; rfl) (by decide) rfl (fun ls hl => ?_)
        clear ex17
        refine lv_goto (tgt := 116) hx hb dX0_workSets_174 (by decide) ?_
        cases ho
        exact ih _ _ hrun _ _ _ hW (lv_sub hl [2, 3, 4, 0] rfl)
      · replace ho := ite_t c12 ho
        refine lv_goto (tgt := 171) hx hb dX0_workSets_129 (by decide) ?_
        obtain ⟨x18, ex18, ho⟩ := nm_x ho
        refine lv_iinc (v := x18) (lv' := [(3, .int x18), (0, .ref (am 2000)), (1, .int v1), (2, .int v2)]) hx hb dX0_workSets_171 hl (k := 3) rfl (by rw [ex18]; rfl) (by decide) rfl (fun ls hl => ?_)
        clear ex18
        refine lv_goto (tgt := 116) hx hb dX0_workSets_174 (by decide) ?_
        cases ho
        exact ih _ _ hrun _ _ _ hW (lv_sub hl [1, 2, 3, 0] rfl)
set_option maxHeartbeats 4000000 in
set_option maxRecDepth 100000 in
theorem x0_workSets_L103 {p : Program} {l : Launch} {e : Env} {s : State} {m : MethodId} {args : Array Value} {below : List Frame} {meth : Method} {c : Code} {Q : State → Prop} {D : va_G} {cI cJ cZ cR : ClassId} {am gm : Nat → Nat} {st : Nat} {A : Nat → Prop} (C0 : cxX p s m args meth c cX0_workSets RX0 5 none D (tyX cI cJ cZ cR) st A) {t0 t' : St} {cells slots : Nat} (hR : cells ≤ mC t0 t' ∧ slots ≤ mS t0 t') {v1 : Int32} {y : St} (hK0 : ∀ (H : Heap) (locs : List Loc) (ls : Array Slot), wl D A s (wX cI cJ cZ cR am gm y) H locs → lv_has ls 5 [(0, .ref (am 2000))] → W p l e (rmA 2 50 t0 t') s m args below meth c H locs cells slots Q (F0 m 183 ls [])) :
    ∀ (n : Nat) (v2 : Int32) (t : St), lpn (fun x => x0_workSets_B103 v1 x.1 x.2) n (v2, t) = some y → ∀ (H : Heap) (locs : List Loc) (ls : Array Slot), wl D A s (wX cI cJ cZ cR am gm t) H locs → lv_has ls 5 [(0, .ref (am 2000)), (1, .int v1), (2, .int v2)] → W p l e (rmA 2 50 t0 t') s m args below meth c H locs cells slots Q (F0 m 103 ls []) := by
  have hx := C0.1.1
  have hb := C0.1.2.1
  have hta := C0.1.2.2.2.2.2.1
  have hown := C0.1.2.2.2.2.1
  intro n
  induction n with
  | zero => intro _ _ h; cases h
  | succ n ih =>
    intro v2 t hrun H locs ls hW hl
    obtain ⟨o, ho, hrun⟩ := bd_some hrun
    unfold x0_workSets_B103 at ho
    refine lv_iload_n hx hb dX0_workSets_103 rfl (lv_at hl 2 rfl) ?_
    refine lv_aload_n hx hb dX0_workSets_104 rfl (lv_at hl 0 rfl) ?_
    refine xGET_1 C0 kw_383 hW dX0_workSets_105 ?_
    refine xGET_803 C0 kw_275 hW dX0_workSets_108 ?_
    refine lv_icmp_ge (tgt := 183) hx hb dX0_workSets_111 (by decide) (fun c19 => ?_) (fun c19 => ?_)
    · replace ho := ite_t c19 ho
      cases ho
      cases hrun
      exact hK0 _ _ _ hW (lv_sub hl [0] rfl)
    · replace ho := ite_f c19 ho
      refine lv_iconst (v := (0 : Int32)) hx hb dX0_workSets_114 (by decide) ?_
      refine lv_istore_n (lv' := [(3, .int (0 : Int32)), (0, .ref (am 2000)), (1, .int v1), (2, .int v2)]) hx hb dX0_workSets_115 rfl hl (by decide) rfl (fun ls hl => ?_)
      obtain ⟨y20, hc22, ho⟩ := bd_some ho
      have hm21 := mm_x0_workSets_L116 v1 v2 (0 : Int32) t _ hc22
      obtain ⟨ny20, hc22⟩ := lp_to hc22
      refine x0_workSets_L116 C0 hR ?_ ny20 _ _ hc22 _ _ _ hW (lv_sub hl [1, 2, 3, 0] rfl)
      intro H locs ls hW hl
      obtain ⟨x23, ex23, ho⟩ := nm_x ho
      refine lv_iinc (v := x23) (lv' := [(2, .int x23), (0, .ref (am 2000)), (1, .int v1)]) hx hb dX0_workSets_177 hl (k := 2) rfl (by rw [ex23]; rfl) (by decide) rfl (fun ls hl => ?_)
      clear ex23
      refine lv_goto (tgt := 103) hx hb dX0_workSets_180 (by decide) ?_
      cases ho
      exact ih _ _ hrun _ _ _ hW (lv_sub hl [1, 2, 0] rfl)
set_option maxHeartbeats 4000000 in
set_option maxRecDepth 100000 in
theorem c_x0_workSets (l : Launch) {D : va_G} {cI cJ cZ cR : ClassId} {am gm : Nat → Nat} {st : Nat} (sz : Nat) (t0 : St) {t' : St} (ho : x0_workSets t0 = some t') : Met l yX0_workSets (.code yX0_workSets cX0_workSets 5 none :: wsAll) (rmA 2 50 t0 t') (va_Pc [.ref (am 2000)] (prX D (tyX cI cJ cZ cR) (wX cI cJ cZ cR am gm t0) sz st)) (qVa D (tyX cI cJ cZ cR) (fun gm => wX cI cJ cZ cR am gm t') (va_A (wX cI cJ cZ cR am gm t0) sz)) (mC t0 t') (mS t0 t') (va_A (wX cI cJ cZ cR am gm t0) sz) := by
  refine Met.ofW (cc := cX0_workSets) (maxL := 5) (ret := none) (by decide) rfl ?_
  intro p e s m args below meth c s₁ B hml hv
  obtain ⟨rfl, ⟨hsz, hP, hK, hD0⟩, hsx⟩ := hv
  have hx := B.exec
  have hb := B.bytes
  have hts := atoms_spec (ws := (.code yX0_workSets cX0_workSets 5 none :: wsAll)) B.pre
  have hta := fun w h => hts w (List.mem_cons_of_mem _ h)
  have hown : s.vm.findClass RX0 = some m.cls := findClass_of_methodNamed B.named
  have hlocks := B.notSynchronized
  subst hsz
  have hD := hD0.self (sz := s.heap.size)
  generalize hAe : va_A (wX cI cJ cZ cR am gm t0) s.heap.size = A at hD ⊢
  have hA : ∀ q : Nat, s.heap.size ≤ q → A q := fun q h => by rw [← hAe]; exact Or.inr h
  have C0 : cxX p s m ([.ref (am 2000)].toArray) meth c cX0_workSets RX0 5 none D (tyX cI cJ cZ cR) st A := ⟨⟨hx, hb, B.returns, hml, hown, hta, hlocks, hK, hA⟩, by rw [← hAe]; exact hsx⟩
  have hW : wl D A s (wX cI cJ cZ cR am gm t0) s.heap [] := ⟨hP, hD, va_S.rf⟩
  have hl := lv_entry [.ref (am 2000)] (n := 5) (Nat.le_of_ble_eq_true rfl)
  rw [lg_entry_eq]
  generalize (lg_sl [.ref (am 2000)] ++ List.replicate (5 - (lg_sl [.ref (am 2000)]).length) Slot.unset).toArray = ls at hl ⊢
  have hl : lv_has ls 5 [(0, .ref (am 2000))] := hl
  clear hAe hD hP hD0 hts
  have J27 : ∀ (gm : Nat → Nat) (t : St) (v1 : Int32) (_ : x0_workSets_J27 t v1 = some t') (_ : mle t0 t) (H : Heap) (locs : List Loc) (ls : Array Slot), wl D A s (wX cI cJ cZ cR am gm t) H locs → lv_has ls 5 [(0, .ref (am 2000)), (1, .int v1)] → W p l e (rmA 2 50 t0 t') s m ([.ref (am 2000)].toArray) below meth c H locs (mC t0 t) (mS t0 t) (MQ below (qVa D (tyX cI cJ cZ cR) (fun gm => wX cI cJ cZ cR am gm t') A) ([.ref (am 2000)].toArray) s (mC t0 t') (mS t0 t') A) (F0 m 27 ls []) := by
    intro gm t v1 ho h0 H locs ls hW hl
    have hE : mle t t' := (mm_x0_workSets_J27 _ _ _ ho)
    have hR := hR_of (t0 := t0) hE
    unfold x0_workSets_J27 at ho
    refine lv_aload_n hx hb dX0_workSets_27 rfl (lv_at hl 0 rfl) ?_
    refine lv_iconst (v := (0 : Int32)) hx hb dX0_workSets_28 (by decide) ?_
    obtain ⟨q24, hc25, ho⟩ := bd_some ho
    have hq24 := mm_x0_takeOdds t (0 : Int32) _ hc25
    refine bkV C0.1 hW (runVX (As := [.int (0 : Int32)]) (rest := []) C0 hW (c_x0_takeOdds l _ t (0 : Int32) (t' := q24) hc25) cb_X0_X0_takeOdds_129 0 0 rfl rfl rfl rfl rfl ⟨rfl, rfl⟩ ⟨Nat.le_of_ble_eq_true rfl, Nat.le_of_ble_eq_true rfl⟩ (Nat.le_of_ble_eq_true rfl) hl.1 dX0_workSets_29 ⟨hR.1, hR.2⟩) (fun H locs hW => ?_)
    refine lv_iconst (v := (0 : Int32)) hx hb dX0_workSets_32 (by decide) ?_
    refine lv_istore_n (lv' := [(2, .int (0 : Int32)), (0, .ref (am 2000)), (1, .int v1)]) hx hb dX0_workSets_33 rfl hl (by decide) rfl (fun ls hl => ?_)
    obtain ⟨y26, hc28, ho⟩ := bd_some ho
    have hm27 := mm_x0_workSets_L34 v1 (0 : Int32) q24 _ hc28
    obtain ⟨ny26, hc28⟩ := lp_to hc28
    refine x0_workSets_L34 C0 hR ?_ ny26 _ _ hc28 _ _ _ hW (lv_sub hl [1, 2, 0] rfl)
    intro H locs ls hW hl
    refine lv_iconst (v := (0 : Int32)) hx hb dX0_workSets_101 (by decide) ?_
    refine lv_istore_n (lv' := [(2, .int (0 : Int32)), (0, .ref (am 2000)), (1, .int v1)]) hx hb dX0_workSets_102 rfl hl (by decide) rfl (fun ls hl => ?_)
    obtain ⟨y29, hc31, ho⟩ := bd_some ho
    have hm30 := mm_x0_workSets_L103 v1 (0 : Int32) y26 _ hc31
    obtain ⟨ny29, hc31⟩ := lp_to hc31
    refine x0_workSets_L103 C0 hR ?_ ny29 _ _ hc31 _ _ _ hW (lv_sub hl [1, 2, 0] rfl)
    intro H locs ls hW hl
    refine W_up h0 (mle.trans (mle.trans hq24 hm27) hm30) ?_
    cases ho
    exact rtVa gm C0.1 hW dX0_workSets_183
  have hE : mle t0 t' := mm_x0_workSets _ _ ho
  have hR := hR_of (t0 := t0) hE
  have h0 : mle t0 t0 := mle.rfl
  refine W_0 (t0 := t0) ?_
  unfold x0_workSets at ho
  refine lv_iconst (v := (1 : Int32)) hx hb dX0_workSets_0 (by decide) ?_
  refine lv_aload_n hx hb dX0_workSets_1 rfl (lv_at hl 0 rfl) ?_
  refine xGET_1 C0 kw_383 hW dX0_workSets_2 ?_
  refine xGET_803 C0 kw_275 hW dX0_workSets_5 ?_
  refine lv_ishl hx hb dX0_workSets_8 ?_
  refine lv_nmi ho (fun x32 ho => ?_)
  refine lv_istore_n (lv' := [(1, .int x32), (0, .ref (am 2000))]) hx hb dX0_workSets_9 rfl hl (by decide) rfl (fun ls hl => ?_)
  refine lv_aload_n hx hb dX0_workSets_10 rfl (lv_at hl 1 rfl) ?_
  refine lv_aload_n hx hb dX0_workSets_11 rfl (lv_at hl 1 rfl) ?_
  refine xGET_12 C0 kw_396 hW dX0_workSets_12 ?_
  refine lv_iload_n hx hb dX0_workSets_15 rfl (lv_at hl 0 rfl) ?_
  refine lv_aload_n hx hb dX0_workSets_16 rfl (lv_at hl 1 rfl) ?_
  refine xGET_6 C0 kw_388 hW dX0_workSets_17 ?_
  refine lv_imul hx hb dX0_workSets_20 ?_
  obtain ⟨t33, g34, ho⟩ := grw_some ho
  have ht33 := g34.mle
  have hEt33 := (mm_x0_workSets_J27 _ _ _ ho)
  refine xGROW_12 (rest := []) C0 cb_X0_X2_grown_88 kw_396 hl.1 hW g34 h0 hEt33 (Nat.le_of_ble_eq_true rfl) (Nat.le_of_ble_eq_true rfl) (Nat.le_of_ble_eq_true rfl) dX0_workSets_21 dX0_workSets_24 (fun gm H locs hW => ?_)
  have h0 := mle.trans h0 ht33
  exact J27 gm _ _ ho h0 _ _ _ hW (lv_sub hl [1, 0] rfl)
noncomputable def x2_compareRows_12_B5 (t : St) (v1 : Int32) (v2 : Int32) (v4 : Int32) : Option ((Int32) ⊕ ((Int32) ⊕ (Unit))) :=
  if v4 < 0 then (some (.inr (.inr ()))) else (gd (v1 + v4) (gN t 12) (gd (v2 + v4) (gN t 12) (if (gA t 12 ((v1 + v4)).toNatClampNeg) = (gA t 12 ((v2 + v4)).toNatClampNeg) then (nm (v4 + (-1 : Int32)) (fun x5 : Int32 => some (.inl x5))) else (some (.inr (.inl v4))))))
noncomputable def x2_compareRows_12 (t : St) (a1 : Int32) (a2 : Int32) (a3 : Int32) : Option (Int32) :=
  nm (a3 - (1 : Int32)) (fun x6 : Int32 => (lp (fun x => x2_compareRows_12_B5 t a1 a2 x) x6).bind (fun y7 => (Sum.elim (fun u10 => gd (a1 + u10) (gN t 12) (gd (a2 + u10) (gN t 12) (if (gA t 12 ((a2 + u10)).toNatClampNeg) ≤ (gA t 12 ((a1 + u10)).toNatClampNeg) then (some (1 : Int32)) else (some (-1 : Int32))))) (fun u10 => some (0 : Int32))) y7))
set_option maxHeartbeats 4000000 in
set_option maxRecDepth 100000 in
theorem x2_compareRows_12_L5 {p : Program} {l : Launch} {e : Env} {s : State} {m : MethodId} {args : Array Value} {below : List Frame} {meth : Method} {c : Code} {Q : State → Prop} {D : va_G} {cI cJ cZ cR : ClassId} {am gm : Nat → Nat} {st : Nat} {A : Nat → Prop} (C0 : cxX p s m args meth c cX2_compareRows RX2 5 (some .int) D (tyX cI cJ cZ cR) st A) {t : St} {v1 : Int32} {v2 : Int32} {y : (Int32) ⊕ (Unit)} (hK0 : ∀ u, y = (.inl u) → ∀ (H : Heap) (locs : List Loc) (ls : Array Slot), wl D A s (wX cI cJ cZ cR am gm t) H locs → lv_has ls 5 [(0, .ref (gm 12)), (1, .int v1), (2, .int v2), (4, .int u)] → W p l e (rmN 0 0) s m args below meth c H locs 0 0 Q (F0 m 25 ls [])) (hK1 : ∀ u, y = (.inr u) → ∀ (H : Heap) (locs : List Loc) (ls : Array Slot), wl D A s (wX cI cJ cZ cR am gm t) H locs → lv_has ls 5 [] → W p l e (rmN 0 0) s m args below meth c H locs 0 0 Q (F0 m 52 ls [])) :
    ∀ (n : Nat) (v4 : Int32), lpn (fun x => x2_compareRows_12_B5 t v1 v2 x) n v4 = some y → ∀ (H : Heap) (locs : List Loc) (ls : Array Slot), wl D A s (wX cI cJ cZ cR am gm t) H locs → lv_has ls 5 [(0, .ref (gm 12)), (1, .int v1), (2, .int v2), (4, .int v4)] → W p l e (rmN 0 0) s m args below meth c H locs 0 0 Q (F0 m 5 ls []) := by
  have hx := C0.1.1
  have hb := C0.1.2.1
  have hta := C0.1.2.2.2.2.2.1
  have hown := C0.1.2.2.2.2.1
  intro n
  induction n with
  | zero => intro _ h; cases h
  | succ n ih =>
    intro v4 hrun H locs ls hW hl
    obtain ⟨o, ho, hrun⟩ := bd_some hrun
    unfold x2_compareRows_12_B5 at ho
    refine lv_iload hx hb dX2_compareRows_5 (lv_at hl 3 rfl) ?_
    refine lv_if_lt (tgt := 52) hx hb dX2_compareRows_7 (by decide) (fun c1 => ?_) (fun c1 => ?_)
    · replace ho := ite_t c1 ho
      cases ho
      cases hrun
      exact hK1 _ rfl _ _ _ hW (lv_sub hl [] rfl)
    · replace ho := ite_f c1 ho
      refine lv_aload_n hx hb dX2_compareRows_10 rfl (lv_at hl 0 rfl) ?_
      refine lv_iload_n hx hb dX2_compareRows_11 rfl (lv_at hl 1 rfl) ?_
      refine lv_iload hx hb dX2_compareRows_12 (lv_at hl 3 rfl) ?_
      refine lv_iadd hx hb dX2_compareRows_14 ?_
      obtain ⟨g2, ho⟩ := gd_some ho
      refine xLD_12 C0 hW g2 dX2_compareRows_15 ?_
      refine lv_aload_n hx hb dX2_compareRows_16 rfl (lv_at hl 0 rfl) ?_
      refine lv_iload_n hx hb dX2_compareRows_17 rfl (lv_at hl 2 rfl) ?_
      refine lv_iload hx hb dX2_compareRows_18 (lv_at hl 3 rfl) ?_
      refine lv_iadd hx hb dX2_compareRows_20 ?_
      obtain ⟨g3, ho⟩ := gd_some ho
      refine xLD_12 C0 hW g3 dX2_compareRows_21 ?_
      refine lv_icmp_eq (tgt := 46) hx hb dX2_compareRows_22 (by decide) (fun c4 => ?_) (fun c4 => ?_)
      · replace ho := ite_t c4 ho
        obtain ⟨x5, ex5, ho⟩ := nm_x ho
        refine lv_iinc (v := x5) (lv' := [(4, .int x5), (0, .ref (gm 12)), (1, .int v1), (2, .int v2)]) hx hb dX2_compareRows_46 hl (k := 3) rfl (by rw [ex5]; rfl) (by decide) rfl (fun ls hl => ?_)
        clear ex5
        refine lv_goto (tgt := 5) hx hb dX2_compareRows_49 (by decide) ?_
        cases ho
        exact ih _ hrun _ _ _ hW (lv_sub hl [1, 2, 3, 0] rfl)
      · replace ho := ite_f c4 ho
        cases ho
        cases hrun
        exact hK0 _ rfl _ _ _ hW (lv_sub hl [0, 1, 2, 3] rfl)
set_option maxHeartbeats 4000000 in
set_option maxRecDepth 100000 in
theorem c_x2_compareRows_12 (l : Launch) {D : va_G} {cI cJ cZ cR : ClassId} {am gm : Nat → Nat} {st : Nat} (sz : Nat) (t : St) (a1 : Int32) (a2 : Int32) (a3 : Int32) {r : Int32} (ho : x2_compareRows_12 t a1 a2 a3 = some r) : Met l yX2_compareRows (.code yX2_compareRows cX2_compareRows 5 (some .int) :: wsAll) (rmN 0 0) (va_Pc [.ref (gm 12), .int a1, .int a2, .int a3] (prX D (tyX cI cJ cZ cR) (wX cI cJ cZ cR am gm t) sz st)) (qI r D (tyX cI cJ cZ cR) (wX cI cJ cZ cR am gm t) (va_A (wX cI cJ cZ cR am gm t) sz)) 0 0 (va_A (wX cI cJ cZ cR am gm t) sz) := by
  refine Met.ofW (cc := cX2_compareRows) (maxL := 5) (ret := (some .int)) (by decide) rfl ?_
  intro p e s m args below meth c s₁ B hml hv
  obtain ⟨rfl, ⟨hsz, hP, hK, hD0⟩, hsx⟩ := hv
  have hx := B.exec
  have hb := B.bytes
  have hts := atoms_spec (ws := (.code yX2_compareRows cX2_compareRows 5 (some .int) :: wsAll)) B.pre
  have hta := fun w h => hts w (List.mem_cons_of_mem _ h)
  have hown : s.vm.findClass RX2 = some m.cls := findClass_of_methodNamed B.named
  have hlocks := B.notSynchronized
  subst hsz
  have hD := hD0.self (sz := s.heap.size)
  generalize hAe : va_A (wX cI cJ cZ cR am gm t) s.heap.size = A at hD ⊢
  have hA : ∀ q : Nat, s.heap.size ≤ q → A q := fun q h => by rw [← hAe]; exact Or.inr h
  have C0 : cxX p s m ([.ref (gm 12), .int a1, .int a2, .int a3].toArray) meth c cX2_compareRows RX2 5 (some .int) D (tyX cI cJ cZ cR) st A := ⟨⟨hx, hb, B.returns, hml, hown, hta, hlocks, hK, hA⟩, by rw [← hAe]; exact hsx⟩
  have hW : wl D A s (wX cI cJ cZ cR am gm t) s.heap [] := ⟨hP, hD, va_S.rf⟩
  have hl := lv_entry [.ref (gm 12), .int a1, .int a2, .int a3] (n := 5) (Nat.le_of_ble_eq_true rfl)
  rw [lg_entry_eq]
  generalize (lg_sl [.ref (gm 12), .int a1, .int a2, .int a3] ++ List.replicate (5 - (lg_sl [.ref (gm 12), .int a1, .int a2, .int a3]).length) Slot.unset).toArray = ls at hl ⊢
  have hl : lv_has ls 5 [(0, .ref (gm 12)), (1, .int a1), (2, .int a2), (3, .int a3)] := hl
  unfold x2_compareRows_12 at ho
  refine lv_iload_n hx hb dX2_compareRows_0 rfl (lv_at hl 3 rfl) ?_
  refine lv_iconst (v := (1 : Int32)) hx hb dX2_compareRows_1 (by decide) ?_
  refine lv_isub hx hb dX2_compareRows_2 ?_
  refine lv_nmi ho (fun x6 ho => ?_)
  refine lv_istore (lv' := [(4, .int x6), (0, .ref (gm 12)), (1, .int a1), (2, .int a2), (3, .int a3)]) hx hb dX2_compareRows_3 hl (by decide) rfl (fun ls hl => ?_)
  obtain ⟨y7, hc9, ho⟩ := bd_some ho
  obtain ⟨ny7, hc9⟩ := lp_to hc9
  refine x2_compareRows_12_L5 C0 ?_ ?_ ny7 _ hc9 _ _ _ hW (lv_sub hl [1, 2, 3, 0] rfl)
  · intro u10 hy H locs ls hW hl
    subst hy
    replace ho := sum_l ho
    refine lv_aload_n hx hb dX2_compareRows_25 rfl (lv_at hl 0 rfl) ?_
    refine lv_iload_n hx hb dX2_compareRows_26 rfl (lv_at hl 1 rfl) ?_
    refine lv_iload hx hb dX2_compareRows_27 (lv_at hl 3 rfl) ?_
    refine lv_iadd hx hb dX2_compareRows_29 ?_
    obtain ⟨g11, ho⟩ := gd_some ho
    refine xLD_12 C0 hW g11 dX2_compareRows_30 ?_
    refine lv_aload_n hx hb dX2_compareRows_31 rfl (lv_at hl 0 rfl) ?_
    refine lv_iload_n hx hb dX2_compareRows_32 rfl (lv_at hl 2 rfl) ?_
    refine lv_iload hx hb dX2_compareRows_33 (lv_at hl 3 rfl) ?_
    refine lv_iadd hx hb dX2_compareRows_35 ?_
    obtain ⟨g12, ho⟩ := gd_some ho
    refine xLD_12 C0 hW g12 dX2_compareRows_36 ?_
    refine lv_icmp_ge (tgt := 44) hx hb dX2_compareRows_37 (by decide) (fun c13 => ?_) (fun c13 => ?_)
    · replace ho := ite_t c13 ho
      refine lv_iconst (v := (1 : Int32)) hx hb dX2_compareRows_44 (by decide) ?_
      cases ho
      exact rtI C0.1 hW dX2_compareRows_45
    · replace ho := ite_f c13 ho
      refine lv_iconst (v := (-1 : Int32)) hx hb dX2_compareRows_40 (by decide) ?_
      refine lv_goto (tgt := 45) hx hb dX2_compareRows_41 (by decide) ?_
      cases ho
      exact rtI C0.1 hW dX2_compareRows_45
  · intro u10 hy H locs ls hW hl
    subst hy
    replace ho := sum_r ho
    refine lv_iconst (v := (0 : Int32)) hx hb dX2_compareRows_52 (by decide) ?_
    cases ho
    exact rtI C0.1 hW dX2_compareRows_53
noncomputable def x0_bestSet_J95 (t : St) (v1 : Int32) (v4 : Int32) (v5 : Int32) : Option ((Int32 × Int32 × Int32) ⊕ (Int32)) :=
  nm (v4 + (1 : Int32)) (fun x1 : Int32 => some (.inl (v4, v5, x1)))
noncomputable def x0_bestSet_B11 (t : St) (v1 : Int32) (v2 : Int32) (v3 : Int32) (v4 : Int32) : Option ((Int32 × Int32 × Int32) ⊕ (Int32)) :=
  if ((1 : Int32) <<< ((gI t 803) &&& 31)) ≤ v4 then (some (.inr v2)) else ((x8_widened t v4).bind (fun q3 => (x5_sumOf t q3 (0 : Int32)).bind (fun q5 => if q5 ≤ v1 then ((x2_compareRows_12 t (v4 * (gI t 6)) (v2 * (gI t 6)) (gI t 6)).bind (fun q8 => if 0 < q8 then (x0_bestSet_J95 t v1 v4 q5) else (if q8 = 0 then (if v3 ≤ q5 then (nm (v4 + (1 : Int32)) (fun x14 : Int32 => some (.inl (v2, v3, x14)))) else (x0_bestSet_J95 t v1 v4 q5)) else (nm (v4 + (1 : Int32)) (fun x12 : Int32 => some (.inl (v2, v3, x12))))))) else (nm (v4 + (1 : Int32)) (fun x15 : Int32 => some (.inl (v2, v3, x15)))))))
noncomputable def x0_bestSet_J4 (t : St) (v1 : Int32) : Option (Int32 × St) :=
  (lp (fun x => x0_bestSet_B11 t v1 x.1 x.2.1 x.2.2) ((0 : Int32), (0 : Int32), (1 : Int32))).bind (fun y16 => some (y16, t))
theorem mm_x0_bestSet_J4 (t : St) (v1 : Int32) : MR (x0_bestSet_J4 t v1) t (fun (a : Int32 × St) => a.2) := by
  unfold x0_bestSet_J4
  exact MR_bindn (fun y16 => MR_some mle.rfl)
noncomputable def x0_bestSet (t0 : St) (a1 : Int32) : Option (Int32 × St) :=
  (x0_workSets t0).bind (fun q19 => x0_bestSet_J4 q19 a1)
theorem mm_x0_bestSet (t0 : St) (a1 : Int32) : MR (x0_bestSet t0 a1) t0 (fun (a : Int32 × St) => a.2) := by
  unfold x0_bestSet
  exact MR_bind (mm_x0_workSets t0) (fun q19 hq19 => MR_wk hq19 (mm_x0_bestSet_J4 q19 a1))
set_option maxHeartbeats 4000000 in
set_option maxRecDepth 100000 in
theorem x0_bestSet_L11 {p : Program} {l : Launch} {e : Env} {s : State} {m : MethodId} {args : Array Value} {below : List Frame} {meth : Method} {c : Code} {Q : State → Prop} {D : va_G} {cI cJ cZ cR : ClassId} {am gm : Nat → Nat} {st : Nat} {A : Nat → Prop} (C0 : cxX p s m args meth c cX0_bestSet RX0 7 (some .int) D (tyX cI cJ cZ cR) st A) {t0 t' : St} {cells slots : Nat} (hR : cells ≤ mC t0 t' ∧ slots ≤ mS t0 t') {t : St} {v1 : Int32} {y : Int32} (hK0 : ∀ (H : Heap) (locs : List Loc) (ls : Array Slot), wl D A s (wX cI cJ cZ cR am gm t) H locs → lv_has ls 7 [(0, .ref (am 2000)), (2, .int y)] → W p l e (rmA 3 74 t0 t') s m args below meth c H locs cells slots Q (F0 m 107 ls [])) :
    ∀ (n : Nat) (v2 : Int32) (v3 : Int32) (v4 : Int32), lpn (fun x => x0_bestSet_B11 t v1 x.1 x.2.1 x.2.2) n (v2, v3, v4) = some y → ∀ (H : Heap) (locs : List Loc) (ls : Array Slot), wl D A s (wX cI cJ cZ cR am gm t) H locs → lv_has ls 7 [(0, .ref (am 2000)), (1, .int v1), (2, .int v2), (3, .int v3), (4, .int v4)] → W p l e (rmA 3 74 t0 t') s m args below meth c H locs cells slots Q (F0 m 11 ls []) := by
  have hx := C0.1.1
  have hb := C0.1.2.1
  have hta := C0.1.2.2.2.2.2.1
  have hown := C0.1.2.2.2.2.1
  intro n
  induction n with
  | zero => intro _ _ _ h; cases h
  | succ n ih =>
    intro v2 v3 v4 hrun H locs ls hW hl
    obtain ⟨o, ho, hrun⟩ := bd_some hrun
    have J95 : ∀ (v4 : Int32) (v5 : Int32) (_ : x0_bestSet_J95 t v1 v4 v5 = some o) (H : Heap) (locs : List Loc) (ls : Array Slot), wl D A s (wX cI cJ cZ cR am gm t) H locs → lv_has ls 7 [(0, .ref (am 2000)), (1, .int v1), (4, .int v4), (5, .int v5)] → W p l e (rmA 3 74 t0 t') s m args below meth c H locs cells slots Q (F0 m 95 ls []) := by
      intro v4 v5 ho H locs ls hW hl
      unfold x0_bestSet_J95 at ho
      refine lv_iload hx hb dX0_bestSet_95 (lv_at hl 2 rfl) ?_
      refine lv_istore_n (lv' := [(2, .int v4), (0, .ref (am 2000)), (1, .int v1), (4, .int v4), (5, .int v5)]) hx hb dX0_bestSet_97 rfl hl (by decide) rfl (fun ls hl => ?_)
      refine lv_iload hx hb dX0_bestSet_98 (lv_at hl 4 rfl) ?_
      refine lv_istore_n (lv' := [(3, .int v5), (2, .int v4), (0, .ref (am 2000)), (1, .int v1), (4, .int v4), (5, .int v5)]) hx hb dX0_bestSet_100 rfl hl (by decide) rfl (fun ls hl => ?_)
      obtain ⟨x1, ex1, ho⟩ := nm_x ho
      refine lv_iinc (v := x1) (lv' := [(4, .int x1), (3, .int v5), (2, .int v4), (0, .ref (am 2000)), (1, .int v1), (5, .int v5)]) hx hb dX0_bestSet_101 hl (k := 4) rfl (by rw [ex1]; rfl) (by decide) rfl (fun ls hl => ?_)
      clear ex1
      refine lv_goto (tgt := 11) hx hb dX0_bestSet_104 (by decide) ?_
      cases ho
      exact ih _ _ _ hrun _ _ _ hW (lv_sub hl [3, 4, 2, 1, 0] rfl)
    unfold x0_bestSet_B11 at ho
    refine lv_iload hx hb dX0_bestSet_11 (lv_at hl 4 rfl) ?_
    refine lv_iconst (v := (1 : Int32)) hx hb dX0_bestSet_13 (by decide) ?_
    refine lv_aload_n hx hb dX0_bestSet_14 rfl (lv_at hl 0 rfl) ?_
    refine xGET_1 C0 kw_383 hW dX0_bestSet_15 ?_
    refine xGET_803 C0 kw_275 hW dX0_bestSet_18 ?_
    refine lv_ishl hx hb dX0_bestSet_21 ?_
    refine lv_icmp_ge (tgt := 107) hx hb dX0_bestSet_22 (by decide) (fun c2 => ?_) (fun c2 => ?_)
    · replace ho := ite_t c2 ho
      cases ho
      cases hrun
      exact hK0 _ _ _ hW (lv_sub hl [0, 2] rfl)
    · replace ho := ite_f c2 ho
      refine lv_aload_n hx hb dX0_bestSet_25 rfl (lv_at hl 0 rfl) ?_
      refine xGET_0 C0 kw_382 hW dX0_bestSet_26 ?_
      refine lv_aload_n hx hb dX0_bestSet_29 rfl (lv_at hl 0 rfl) ?_
      refine xGET_1 C0 kw_383 hW dX0_bestSet_30 ?_
      refine lv_iload hx hb dX0_bestSet_33 (lv_at hl 4 rfl) ?_
      obtain ⟨q3, hc4, ho⟩ := bd_some ho
      refine bkI C0.1 hW (runVX (As := [.int v4]) (rest := [.ref (am 2005)]) C0 hW (c_x8_widened l _ t v4 (r := q3) hc4) cb_X0_X8_widened_151 8 8 rfl rfl rfl rfl rfl ⟨rfl, rfl⟩ ⟨Nat.le_of_ble_eq_true rfl, Nat.le_of_ble_eq_true rfl⟩ (Nat.le_of_ble_eq_true rfl) hl.1 dX0_bestSet_35 ⟨hR.1, hR.2⟩) (fun H locs hW => ?_)
      refine lv_iconst (v := (0 : Int32)) hx hb dX0_bestSet_38 (by decide) ?_
      obtain ⟨q5, hc6, ho⟩ := bd_some ho
      refine bkI C0.1 hW (runVX (As := [.int q3, .int (0 : Int32)]) (rest := []) C0 hW (c_x5_sumOf l _ t q3 (0 : Int32) (r := q5) hc6) cb_X0_X5_sumOf_154 5 5 rfl rfl rfl rfl rfl ⟨rfl, rfl⟩ ⟨Nat.le_of_ble_eq_true rfl, Nat.le_of_ble_eq_true rfl⟩ (Nat.le_of_ble_eq_true rfl) hl.1 dX0_bestSet_39 ⟨hR.1, hR.2⟩) (fun H locs hW => ?_)
      refine lv_istore (lv' := [(5, .int q5), (0, .ref (am 2000)), (1, .int v1), (2, .int v2), (3, .int v3), (4, .int v4)]) hx hb dX0_bestSet_42 hl (by decide) rfl (fun ls hl => ?_)
      refine lv_iload hx hb dX0_bestSet_44 (lv_at hl 0 rfl) ?_
      refine lv_iload_n hx hb dX0_bestSet_46 rfl (lv_at hl 2 rfl) ?_
      refine lv_icmp_le (tgt := 53) hx hb dX0_bestSet_47 (by decide) (fun c7 => ?_) (fun c7 => ?_)
      · replace ho := ite_t c7 ho
        refine lv_aload_n hx hb dX0_bestSet_53 rfl (lv_at hl 1 rfl) ?_
        refine xGET_12 C0 kw_396 hW dX0_bestSet_54 ?_
        refine lv_iload hx hb dX0_bestSet_57 (lv_at hl 5 rfl) ?_
        refine lv_aload_n hx hb dX0_bestSet_59 rfl (lv_at hl 1 rfl) ?_
        refine xGET_6 C0 kw_388 hW dX0_bestSet_60 ?_
        refine lv_imul hx hb dX0_bestSet_63 ?_
        refine lv_iload_n hx hb dX0_bestSet_64 rfl (lv_at hl 3 rfl) ?_
        refine lv_aload_n hx hb dX0_bestSet_65 rfl (lv_at hl 1 rfl) ?_
        refine xGET_6 C0 kw_388 hW dX0_bestSet_66 ?_
        refine lv_imul hx hb dX0_bestSet_69 ?_
        refine lv_aload_n hx hb dX0_bestSet_70 rfl (lv_at hl 1 rfl) ?_
        refine xGET_6 C0 kw_388 hW dX0_bestSet_71 ?_
        obtain ⟨q8, hc9, ho⟩ := bd_some ho
        refine bkI C0.1 hW (runSX (As := [.ref (gm 12), .int (v4 * (gI t 6)), .int (v2 * (gI t 6)), .int (gI t 6)]) (rest := []) C0 hW (c_x2_compareRows_12 l _ t (v4 * (gI t 6)) (v2 * (gI t 6)) (gI t 6) (r := q8) hc9) cb_X0_X2_compareRows_157 rfl rfl ⟨rfl, rfl⟩ ⟨Nat.le_of_ble_eq_true rfl, Nat.le_of_ble_eq_true rfl⟩ (Nat.le_of_ble_eq_true rfl) hl.1 dX0_bestSet_74 ⟨hR.1, hR.2⟩) (fun H locs hW => ?_)
        refine lv_istore (lv' := [(6, .int q8), (5, .int q5), (0, .ref (am 2000)), (1, .int v1), (2, .int v2), (3, .int v3), (4, .int v4)]) hx hb dX0_bestSet_77 hl (by decide) rfl (fun ls hl => ?_)
        refine lv_iload hx hb dX0_bestSet_79 (lv_at hl 0 rfl) ?_
        refine lv_if_gt (tgt := 95) hx hb dX0_bestSet_81 (by decide) (fun c10 => ?_) (fun c10 => ?_)
        · replace ho := ite_t c10 ho
          exact J95 _ _ ho _ _ _ hW (lv_sub hl [2, 3, 6, 1] rfl)
        · replace ho := ite_f c10 ho
          refine lv_iload hx hb dX0_bestSet_84 (lv_at hl 0 rfl) ?_
          refine lv_if_ne (tgt := 101) hx hb dX0_bestSet_86 (by decide) (fun c11 => ?_) (fun c11 => ?_)
          · replace ho := ite_f c11 ho
            obtain ⟨x12, ex12, ho⟩ := nm_x ho
            refine lv_iinc (v := x12) (lv' := [(4, .int x12), (6, .int q8), (5, .int q5), (0, .ref (am 2000)), (1, .int v1), (2, .int v2), (3, .int v3)]) hx hb dX0_bestSet_101 hl (k := 6) rfl (by rw [ex12]; rfl) (by decide) rfl (fun ls hl => ?_)
            clear ex12
            refine lv_goto (tgt := 11) hx hb dX0_bestSet_104 (by decide) ?_
            cases ho
            exact ih _ _ _ hrun _ _ _ hW (lv_sub hl [3, 4, 5, 6, 0] rfl)
          · replace ho := ite_t c11 ho
            refine lv_iload hx hb dX0_bestSet_89 (lv_at hl 1 rfl) ?_
            refine lv_iload_n hx hb dX0_bestSet_91 rfl (lv_at hl 5 rfl) ?_
            refine lv_icmp_ge (tgt := 101) hx hb dX0_bestSet_92 (by decide) (fun c13 => ?_) (fun c13 => ?_)
            · replace ho := ite_t c13 ho
              obtain ⟨x14, ex14, ho⟩ := nm_x ho
              refine lv_iinc (v := x14) (lv' := [(4, .int x14), (6, .int q8), (5, .int q5), (0, .ref (am 2000)), (1, .int v1), (2, .int v2), (3, .int v3)]) hx hb dX0_bestSet_101 hl (k := 6) rfl (by rw [ex14]; rfl) (by decide) rfl (fun ls hl => ?_)
              clear ex14
              refine lv_goto (tgt := 11) hx hb dX0_bestSet_104 (by decide) ?_
              cases ho
              exact ih _ _ _ hrun _ _ _ hW (lv_sub hl [3, 4, 5, 6, 0] rfl)
            · replace ho := ite_f c13 ho
              exact J95 _ _ ho _ _ _ hW (lv_sub hl [2, 3, 6, 1] rfl)
      · replace ho := ite_f c7 ho
        refine lv_goto (tgt := 101) hx hb dX0_bestSet_50 (by decide) ?_
        obtain ⟨x15, ex15, ho⟩ := nm_x ho
        refine lv_iinc (v := x15) (lv' := [(4, .int x15), (5, .int q5), (0, .ref (am 2000)), (1, .int v1), (2, .int v2), (3, .int v3)]) hx hb dX0_bestSet_101 hl (k := 5) rfl (by rw [ex15]; rfl) (by decide) rfl (fun ls hl => ?_)
        clear ex15
        refine lv_goto (tgt := 11) hx hb dX0_bestSet_104 (by decide) ?_
        cases ho
        exact ih _ _ _ hrun _ _ _ hW (lv_sub hl [2, 3, 4, 5, 0] rfl)
set_option maxHeartbeats 4000000 in
set_option maxRecDepth 100000 in
theorem c_x0_bestSet (l : Launch) {D : va_G} {cI cJ cZ cR : ClassId} {am gm : Nat → Nat} {st : Nat} (sz : Nat) (t0 : St) (a1 : Int32) {r : Int32} {t' : St} (ho : x0_bestSet t0 a1 = some (r, t')) : Met l yX0_bestSet (.code yX0_bestSet cX0_bestSet 7 (some .int) :: wsAll) (rmA 3 74 t0 t') (va_Pc [.ref (am 2000), .int a1] (prX D (tyX cI cJ cZ cR) (wX cI cJ cZ cR am gm t0) sz st)) (qIa r D (tyX cI cJ cZ cR) (fun gm => wX cI cJ cZ cR am gm t') (va_A (wX cI cJ cZ cR am gm t0) sz)) (mC t0 t') (mS t0 t') (va_A (wX cI cJ cZ cR am gm t0) sz) := by
  refine Met.ofW (cc := cX0_bestSet) (maxL := 7) (ret := (some .int)) (by decide) rfl ?_
  intro p e s m args below meth c s₁ B hml hv
  obtain ⟨rfl, ⟨hsz, hP, hK, hD0⟩, hsx⟩ := hv
  have hx := B.exec
  have hb := B.bytes
  have hts := atoms_spec (ws := (.code yX0_bestSet cX0_bestSet 7 (some .int) :: wsAll)) B.pre
  have hta := fun w h => hts w (List.mem_cons_of_mem _ h)
  have hown : s.vm.findClass RX0 = some m.cls := findClass_of_methodNamed B.named
  have hlocks := B.notSynchronized
  subst hsz
  have hD := hD0.self (sz := s.heap.size)
  generalize hAe : va_A (wX cI cJ cZ cR am gm t0) s.heap.size = A at hD ⊢
  have hA : ∀ q : Nat, s.heap.size ≤ q → A q := fun q h => by rw [← hAe]; exact Or.inr h
  have C0 : cxX p s m ([.ref (am 2000), .int a1].toArray) meth c cX0_bestSet RX0 7 (some .int) D (tyX cI cJ cZ cR) st A := ⟨⟨hx, hb, B.returns, hml, hown, hta, hlocks, hK, hA⟩, by rw [← hAe]; exact hsx⟩
  have hW : wl D A s (wX cI cJ cZ cR am gm t0) s.heap [] := ⟨hP, hD, va_S.rf⟩
  have hl := lv_entry [.ref (am 2000), .int a1] (n := 7) (Nat.le_of_ble_eq_true rfl)
  rw [lg_entry_eq]
  generalize (lg_sl [.ref (am 2000), .int a1] ++ List.replicate (7 - (lg_sl [.ref (am 2000), .int a1]).length) Slot.unset).toArray = ls at hl ⊢
  have hl : lv_has ls 7 [(0, .ref (am 2000)), (1, .int a1)] := hl
  clear hAe hD hP hD0 hts
  have J4 : ∀ (gm : Nat → Nat) (t : St) (v1 : Int32) (_ : x0_bestSet_J4 t v1 = some (r, t')) (_ : mle t0 t) (H : Heap) (locs : List Loc) (ls : Array Slot), wl D A s (wX cI cJ cZ cR am gm t) H locs → lv_has ls 7 [(0, .ref (am 2000)), (1, .int v1)] → W p l e (rmA 3 74 t0 t') s m ([.ref (am 2000), .int a1].toArray) below meth c H locs (mC t0 t) (mS t0 t) (MQ below (qIa r D (tyX cI cJ cZ cR) (fun gm => wX cI cJ cZ cR am gm t') A) ([.ref (am 2000), .int a1].toArray) s (mC t0 t') (mS t0 t') A) (F0 m 4 ls []) := by
    intro gm t v1 ho h0 H locs ls hW hl
    have hE : mle t t' := (mm_x0_bestSet_J4 _ _ _ ho)
    have hR := hR_of (t0 := t0) hE
    unfold x0_bestSet_J4 at ho
    refine lv_iconst (v := (0 : Int32)) hx hb dX0_bestSet_4 (by decide) ?_
    refine lv_istore_n (lv' := [(2, .int (0 : Int32)), (0, .ref (am 2000)), (1, .int v1)]) hx hb dX0_bestSet_5 rfl hl (by decide) rfl (fun ls hl => ?_)
    refine lv_iconst (v := (0 : Int32)) hx hb dX0_bestSet_6 (by decide) ?_
    refine lv_istore_n (lv' := [(3, .int (0 : Int32)), (2, .int (0 : Int32)), (0, .ref (am 2000)), (1, .int v1)]) hx hb dX0_bestSet_7 rfl hl (by decide) rfl (fun ls hl => ?_)
    refine lv_iconst (v := (1 : Int32)) hx hb dX0_bestSet_8 (by decide) ?_
    refine lv_istore (lv' := [(4, .int (1 : Int32)), (3, .int (0 : Int32)), (2, .int (0 : Int32)), (0, .ref (am 2000)), (1, .int v1)]) hx hb dX0_bestSet_9 hl (by decide) rfl (fun ls hl => ?_)
    obtain ⟨y16, hc18, ho⟩ := bd_some ho
    obtain ⟨ny16, hc18⟩ := lp_to hc18
    refine x0_bestSet_L11 C0 hR ?_ ny16 _ _ _ hc18 _ _ _ hW (lv_sub hl [3, 4, 2, 1, 0] rfl)
    intro H locs ls hW hl
    refine lv_iload_n hx hb dX0_bestSet_107 rfl (lv_at hl 1 rfl) ?_
    cases ho
    exact rtIa gm C0.1 hW dX0_bestSet_108
  have hE : mle t0 t' := mm_x0_bestSet _ _ _ ho
  have hR := hR_of (t0 := t0) hE
  have h0 : mle t0 t0 := mle.rfl
  refine W_0 (t0 := t0) ?_
  unfold x0_bestSet at ho
  refine lv_aload_n hx hb dX0_bestSet_0 rfl (lv_at hl 0 rfl) ?_
  obtain ⟨q19, hc20, ho⟩ := bd_some ho
  have hq19 := mm_x0_workSets t0 _ hc20
  have hEq19 := (mm_x0_bestSet_J4 _ _ _ ho)
  refine bkVa C0.1 hW h0 hq19 (runVX (As := []) (rest := []) C0 hW (c_x0_workSets l _ t0 (t' := q19) hc20) cb_X0_X0_workSets_148 0 0 rfl rfl rfl rfl rfl ⟨rfl, rfl⟩ ⟨Nat.le_of_ble_eq_true rfl, Nat.le_of_ble_eq_true rfl⟩ (Nat.le_of_ble_eq_true rfl) hl.1 dX0_bestSet_1 (hf_of h0 hq19 hEq19)) (fun gm H locs hW => ?_)
  have h0 := mle.trans h0 hq19
  exact J4 gm _ _ ho h0 _ _ _ hW (lv_sub hl [0, 1] rfl)
noncomputable def x11_best_J77 (t : St) (w0 : Int32) : Option (Int32 × St) :=
  (x2_putThousandths_12 t (w0 * (gI t 6)) (gI t 6) (gI t 803)).bind (fun q1 => (x8_widened q1 w0).bind (fun q3 => some (q3, q1)))
theorem mm_x11_best_J77 (t : St) (w0 : Int32) : MR (x11_best_J77 t w0) t (fun (a : Int32 × St) => a.2) := by
  unfold x11_best_J77
  exact MR_bind (mm_x2_putThousandths_12 t (w0 * (gI t 6)) (gI t 6) (gI t 803)) (fun q1 hq1 => MR_bindn (fun q3 => MR_some hq1))
noncomputable def x11_best_J63 (t : St) (v2 : Int32) (w0 : Int32) : Option (Int32 × St) :=
  if w0 = 0 then (some ((-5 : Int32), t)) else ((x0_bestSet t v2).bind (fun q6 => x11_best_J77 q6.2 q6.1))
theorem mm_x11_best_J63 (t : St) (v2 : Int32) (w0 : Int32) : MR (x11_best_J63 t v2 w0) t (fun (a : Int32 × St) => a.2) := by
  unfold x11_best_J63
  exact MR_ite (MR_some mle.rfl) (MR_bind (mm_x0_bestSet t v2) (fun q6 hq6 => MR_wk hq6 (mm_x11_best_J77 q6.2 q6.1)))
noncomputable def x11_best (t0 : St) (a1 : Int32) (a2 : Int32) : Option (Int32 × St) :=
  (x11_noNet t0 a1).bind (fun q8 => if q8 = 0 then ((x11_outside t0 a2 (0 : Int32) (16000 : Int32)).bind (fun q12 => if q12 = 0 then (gd a1 (gN t0 602) (nm (gA t0 602 (a1).toNatClampNeg) (fun x17 : Int32 => if x17 < 0 then (some ((-3 : Int32), t0)) else (gd x17 (gN t0 607) ((j6_bitCount_0f7a4 t0 (gA t0 607 (x17).toNatClampNeg)).bind (fun q20 => if q20 ≤ (12 : Int32) then ((x0_mayWork t0 x17).bind (fun q23 => x11_best_J63 q23.2 a2 q23.1)) else (some ((-3 : Int32), t0)))))))) else (some ((-2 : Int32), t0)))) else (some ((-2 : Int32), t0)))
theorem mm_x11_best (t0 : St) (a1 : Int32) (a2 : Int32) : MR (x11_best t0 a1 a2) t0 (fun (a : Int32 × St) => a.2) := by
  unfold x11_best
  exact MR_bindn (fun q8 => MR_ite (MR_bindn (fun q12 => MR_ite (MR_gd (MR_nm (fun x17 _ => MR_ite (MR_some mle.rfl) (MR_gd (MR_bindn (fun q20 => MR_ite (MR_bind (mm_x0_mayWork t0 x17) (fun q23 hq23 => MR_wk hq23 (mm_x11_best_J63 q23.2 a2 q23.1))) (MR_some mle.rfl))))))) (MR_some mle.rfl))) (MR_some mle.rfl))
set_option maxHeartbeats 4000000 in
set_option maxRecDepth 100000 in
theorem c_x11_best (l : Launch) {D : va_G} {cI cJ cZ cR : ClassId} {am gm : Nat → Nat} {st : Nat} (sz : Nat) (t0 : St) (a1 : Int32) (a2 : Int32) {r : Int32} {t' : St} (ho : x11_best t0 a1 a2 = some (r, t')) : Met l yX11_best (.code yX11_best cX11_best 5 (some .int) :: wsAll) (rmA 6 142 t0 t') (va_Pc [.ref (am 2011), .int a1, .int a2] (prX D (tyX cI cJ cZ cR) (wX cI cJ cZ cR am gm t0) sz st)) (qIa r D (tyX cI cJ cZ cR) (fun gm => wX cI cJ cZ cR am gm t') (va_A (wX cI cJ cZ cR am gm t0) sz)) (mC t0 t') (mS t0 t') (va_A (wX cI cJ cZ cR am gm t0) sz) := by
  refine Met.ofW (cc := cX11_best) (maxL := 5) (ret := (some .int)) (by decide) rfl ?_
  intro p e s m args below meth c s₁ B hml hv
  obtain ⟨rfl, ⟨hsz, hP, hK, hD0⟩, hsx⟩ := hv
  have hx := B.exec
  have hb := B.bytes
  have hts := atoms_spec (ws := (.code yX11_best cX11_best 5 (some .int) :: wsAll)) B.pre
  have hta := fun w h => hts w (List.mem_cons_of_mem _ h)
  have hown : s.vm.findClass RX11 = some m.cls := findClass_of_methodNamed B.named
  have hlocks := B.notSynchronized
  subst hsz
  have hD := hD0.self (sz := s.heap.size)
  generalize hAe : va_A (wX cI cJ cZ cR am gm t0) s.heap.size = A at hD ⊢
  have hA : ∀ q : Nat, s.heap.size ≤ q → A q := fun q h => by rw [← hAe]; exact Or.inr h
  have C0 : cxX p s m ([.ref (am 2011), .int a1, .int a2].toArray) meth c cX11_best RX11 5 (some .int) D (tyX cI cJ cZ cR) st A := ⟨⟨hx, hb, B.returns, hml, hown, hta, hlocks, hK, hA⟩, by rw [← hAe]; exact hsx⟩
  have hW : wl D A s (wX cI cJ cZ cR am gm t0) s.heap [] := ⟨hP, hD, va_S.rf⟩
  have hl := lv_entry [.ref (am 2011), .int a1, .int a2] (n := 5) (Nat.le_of_ble_eq_true rfl)
  rw [lg_entry_eq]
  generalize (lg_sl [.ref (am 2011), .int a1, .int a2] ++ List.replicate (5 - (lg_sl [.ref (am 2011), .int a1, .int a2]).length) Slot.unset).toArray = ls at hl ⊢
  have hl : lv_has ls 5 [(0, .ref (am 2011)), (1, .int a1), (2, .int a2)] := hl
  clear hAe hD hP hD0 hts
  have J77 : ∀ (gm : Nat → Nat) (t : St) (w0 : Int32) (_ : x11_best_J77 t w0 = some (r, t')) (_ : mle t0 t) (H : Heap) (locs : List Loc) (ls : Array Slot), wl D A s (wX cI cJ cZ cR am gm t) H locs → lv_has ls 5 [(0, .ref (am 2011))] → W p l e (rmA 6 142 t0 t') s m ([.ref (am 2011), .int a1, .int a2].toArray) below meth c H locs (mC t0 t) (mS t0 t) (MQ below (qIa r D (tyX cI cJ cZ cR) (fun gm => wX cI cJ cZ cR am gm t') A) ([.ref (am 2011), .int a1, .int a2].toArray) s (mC t0 t') (mS t0 t') A) (F0 m 77 ls [.int w0]) := by
    intro gm t w0 ho h0 H locs ls hW hl
    have hE : mle t t' := (mm_x11_best_J77 _ _ _ ho)
    have hR := hR_of (t0 := t0) hE
    unfold x11_best_J77 at ho
    refine lv_istore (lv' := [(4, .int w0), (0, .ref (am 2011))]) hx hb dX11_best_77 hl (by decide) rfl (fun ls hl => ?_)
    refine lv_aload_n hx hb dX11_best_79 rfl (lv_at hl 1 rfl) ?_
    refine xGET_1105 C0 kw_596 hW dX11_best_80 ?_
    refine lv_aload_n hx hb dX11_best_83 rfl (lv_at hl 1 rfl) ?_
    refine xGET_1106 C0 kw_597 hW dX11_best_84 ?_
    refine xGET_12 C0 kw_398 hW dX11_best_87 ?_
    refine lv_iload hx hb dX11_best_90 (lv_at hl 0 rfl) ?_
    refine lv_aload_n hx hb dX11_best_92 rfl (lv_at hl 1 rfl) ?_
    refine xGET_1106 C0 kw_597 hW dX11_best_93 ?_
    refine xGET_6 C0 kw_390 hW dX11_best_96 ?_
    refine lv_imul hx hb dX11_best_99 ?_
    refine lv_aload_n hx hb dX11_best_100 rfl (lv_at hl 1 rfl) ?_
    refine xGET_1106 C0 kw_597 hW dX11_best_101 ?_
    refine xGET_6 C0 kw_390 hW dX11_best_104 ?_
    refine lv_aload_n hx hb dX11_best_107 rfl (lv_at hl 1 rfl) ?_
    refine xGET_1103 C0 kw_594 hW dX11_best_108 ?_
    refine xGET_803 C0 kw_277 hW dX11_best_111 ?_
    obtain ⟨q1, hc2, ho⟩ := bd_some ho
    have hq1 := mm_x2_putThousandths_12 t (w0 * (gI t 6)) (gI t 6) (gI t 803) _ hc2
    refine bkV C0.1 hW (runVX (As := [.ref (gm 12), .int (w0 * (gI t 6)), .int (gI t 6), .int (gI t 803)]) (rest := []) C0 hW (c_x2_putThousandths_12 l _ t (w0 * (gI t 6)) (gI t 6) (gI t 803) (t' := q1) hc2) cb_X11_X2_putThousandths_215 2 2 rfl rfl rfl rfl rfl ⟨rfl, rfl⟩ ⟨Nat.le_of_ble_eq_true rfl, Nat.le_of_ble_eq_true rfl⟩ (Nat.le_of_ble_eq_true rfl) hl.1 dX11_best_114 ⟨hR.1, hR.2⟩) (fun H locs hW => ?_)
    refine lv_aload_n hx hb dX11_best_117 rfl (lv_at hl 1 rfl) ?_
    refine xGET_1103 C0 kw_594 hW dX11_best_118 ?_
    refine lv_iload hx hb dX11_best_121 (lv_at hl 0 rfl) ?_
    obtain ⟨q3, hc4, ho⟩ := bd_some ho
    refine bkI C0.1 hW (runVX (As := [.int w0]) (rest := []) C0 hW (c_x8_widened l _ q1 w0 (r := q3) hc4) cb_X11_X8_widened_237 8 8 rfl rfl rfl rfl rfl ⟨rfl, rfl⟩ ⟨Nat.le_of_ble_eq_true rfl, Nat.le_of_ble_eq_true rfl⟩ (Nat.le_of_ble_eq_true rfl) hl.1 dX11_best_123 ⟨hR.1, hR.2⟩) (fun H locs hW => ?_)
    refine W_up h0 hq1 ?_
    cases ho
    exact rtIa gm C0.1 hW dX11_best_126
  have J63 : ∀ (gm : Nat → Nat) (t : St) (v2 : Int32) (w0 : Int32) (_ : x11_best_J63 t v2 w0 = some (r, t')) (_ : mle t0 t) (H : Heap) (locs : List Loc) (ls : Array Slot), wl D A s (wX cI cJ cZ cR am gm t) H locs → lv_has ls 5 [(0, .ref (am 2011)), (2, .int v2)] → W p l e (rmA 6 142 t0 t') s m ([.ref (am 2011), .int a1, .int a2].toArray) below meth c H locs (mC t0 t) (mS t0 t) (MQ below (qIa r D (tyX cI cJ cZ cR) (fun gm => wX cI cJ cZ cR am gm t') A) ([.ref (am 2011), .int a1, .int a2].toArray) s (mC t0 t') (mS t0 t') A) (F0 m 63 ls [.int w0]) := by
    intro gm t v2 w0 ho h0 H locs ls hW hl
    have hE : mle t t' := (mm_x11_best_J63 _ _ _ _ ho)
    have hR := hR_of (t0 := t0) hE
    unfold x11_best_J63 at ho
    refine lv_if_ne (tgt := 69) hx hb dX11_best_63 (by decide) (fun c5 => ?_) (fun c5 => ?_)
    · replace ho := ite_f c5 ho
      refine lv_aload_n hx hb dX11_best_69 rfl (lv_at hl 0 rfl) ?_
      refine xGET_1106 C0 kw_597 hW dX11_best_70 ?_
      refine lv_iload_n hx hb dX11_best_73 rfl (lv_at hl 1 rfl) ?_
      obtain ⟨q6, hc7, ho⟩ := bd_some ho
      have hq6 := mm_x0_bestSet t v2 _ hc7
      have hEq6 := (mm_x11_best_J77 _ _ _ ho)
      refine bkIa C0.1 hW h0 hq6 (runVX (As := [.int v2]) (rest := []) C0 hW (c_x0_bestSet l _ t v2 (r := q6.1) (t' := q6.2) hc7) cb_X11_X0_bestSet_234 0 0 rfl rfl rfl rfl rfl ⟨rfl, rfl⟩ ⟨Nat.le_of_ble_eq_true rfl, Nat.le_of_ble_eq_true rfl⟩ (Nat.le_of_ble_eq_true rfl) hl.1 dX11_best_74 (hf_of h0 hq6 hEq6)) (fun gm H locs hW => ?_)
      have h0 := mle.trans h0 hq6
      exact J77 gm _ _ ho h0 _ _ _ hW (lv_sub hl [0] rfl)
    · replace ho := ite_t c5 ho
      refine lv_bipush (v := (-5 : Int32)) hx hb dX11_best_66 (by decide) ?_
      cases ho
      exact rtIa gm C0.1 hW dX11_best_68
  have hE : mle t0 t' := mm_x11_best _ _ _ _ ho
  have hR := hR_of (t0 := t0) hE
  have h0 : mle t0 t0 := mle.rfl
  refine W_0 (t0 := t0) ?_
  unfold x11_best at ho
  refine lv_iload_n hx hb dX11_best_0 rfl (lv_at hl 1 rfl) ?_
  obtain ⟨q8, hc9, ho⟩ := bd_some ho
  refine bkZ C0.1 hW (runSX (As := [.int a1]) (rest := []) C0 hW (c_x11_noNet l _ t0 a1 (r := q8) hc9) cb_X11_X11_noNet_124 rfl rfl ⟨rfl, rfl⟩ ⟨Nat.le_of_ble_eq_true rfl, Nat.le_of_ble_eq_true rfl⟩ (Nat.le_of_ble_eq_true rfl) hl.1 dX11_best_1 ⟨hR.1, hR.2⟩) (fun z10 H locs hW => ?_)
  refine lv_if_ne (tgt := 18) hx hb dX11_best_4 (by decide) (fun c11 => ?_) (fun c11 => ?_)
  · replace ho := ite_f c11 ho
    refine lv_bipush (v := (-2 : Int32)) hx hb dX11_best_18 (by decide) ?_
    cases ho
    exact rtIa gm C0.1 hW dX11_best_20
  · replace ho := ite_t c11 ho
    refine lv_iload_n hx hb dX11_best_7 rfl (lv_at hl 2 rfl) ?_
    refine lv_iconst (v := (0 : Int32)) hx hb dX11_best_8 (by decide) ?_
    refine lv_sipush (v := (16000 : Int32)) hx hb dX11_best_9 (by decide) ?_
    obtain ⟨q12, hc13, ho⟩ := bd_some ho
    refine bkZ C0.1 hW (runSX (As := [.int a2, .int (0 : Int32), .int (16000 : Int32)]) (rest := []) C0 hW (c_x11_outside l _ t0 a2 (0 : Int32) (16000 : Int32) (r := q12) hc13) cb_X11_X11_outside_102 rfl rfl ⟨rfl, rfl⟩ ⟨Nat.le_of_ble_eq_true rfl, Nat.le_of_ble_eq_true rfl⟩ (Nat.le_of_ble_eq_true rfl) hl.1 dX11_best_12 ⟨hR.1, hR.2⟩) (fun z14 H locs hW => ?_)
    refine lv_if_eq (tgt := 21) hx hb dX11_best_15 (by decide) (fun c15 => ?_) (fun c15 => ?_)
    · replace ho := ite_t c15 ho
      refine lv_aload_n hx hb dX11_best_21 rfl (lv_at hl 0 rfl) ?_
      refine xGET_1101 C0 kw_592 hW dX11_best_22 ?_
      refine xGET_602 C0 kw_184 hW dX11_best_25 ?_
      refine lv_iload_n hx hb dX11_best_28 rfl (lv_at hl 1 rfl) ?_
      obtain ⟨g16, ho⟩ := gd_some ho
      refine xLD_602 C0 hW g16 dX11_best_29 ?_
      refine lv_nmi ho (fun x17 ho => ?_)
      refine lv_istore_n (lv' := [(3, .int x17), (0, .ref (am 2011)), (1, .int a1), (2, .int a2)]) hx hb dX11_best_30 rfl hl (by decide) rfl (fun ls hl => ?_)
      refine lv_iload_n hx hb dX11_best_31 rfl (lv_at hl 0 rfl) ?_
      refine lv_if_lt (tgt := 52) hx hb dX11_best_32 (by decide) (fun c18 => ?_) (fun c18 => ?_)
      · replace ho := ite_t c18 ho
        refine lv_bipush (v := (-3 : Int32)) hx hb dX11_best_52 (by decide) ?_
        cases ho
        exact rtIa gm C0.1 hW dX11_best_54
      · replace ho := ite_f c18 ho
        refine lv_aload_n hx hb dX11_best_35 rfl (lv_at hl 1 rfl) ?_
        refine xGET_1101 C0 kw_592 hW dX11_best_36 ?_
        refine xGET_607 C0 kw_201 hW dX11_best_39 ?_
        refine lv_iload_n hx hb dX11_best_42 rfl (lv_at hl 0 rfl) ?_
        obtain ⟨g19, ho⟩ := gd_some ho
        refine xLD_607 C0 hW g19 dX11_best_43 ?_
        obtain ⟨q20, hc21, ho⟩ := bd_some ho
        refine bkI C0.1 hW (runSX (As := [.int (gA t0 607 (x17).toNatClampNeg)]) (rest := []) C0 hW (c_j6_bitCount_0f7a4 l _ t0 (gA t0 607 (x17).toNatClampNeg) (r := q20) hc21) cb_X11_J6_bitCount_0f7a4_229 rfl rfl ⟨rfl, rfl⟩ ⟨Nat.le_of_ble_eq_true rfl, Nat.le_of_ble_eq_true rfl⟩ (Nat.le_of_ble_eq_true rfl) hl.1 dX11_best_44 ⟨hR.1, hR.2⟩) (fun H locs hW => ?_)
        refine lv_bipush (v := (12 : Int32)) hx hb dX11_best_47 (by decide) ?_
        refine lv_icmp_le (tgt := 55) hx hb dX11_best_49 (by decide) (fun c22 => ?_) (fun c22 => ?_)
        · replace ho := ite_t c22 ho
          refine lv_aload_n hx hb dX11_best_55 rfl (lv_at hl 1 rfl) ?_
          refine xGET_1106 C0 kw_597 hW dX11_best_56 ?_
          refine lv_iload_n hx hb dX11_best_59 rfl (lv_at hl 0 rfl) ?_
          obtain ⟨q23, hc24, ho⟩ := bd_some ho
          have hq23 := mm_x0_mayWork t0 x17 _ hc24
          have hEq23 := (mm_x11_best_J63 _ _ _ _ ho)
          refine bkZa C0.1 hW h0 hq23 (runVX (As := [.int x17]) (rest := []) C0 hW (c_x0_mayWork l _ t0 x17 (r := q23.1) (t' := q23.2) hc24) cb_X11_X0_mayWork_197 0 0 rfl rfl rfl rfl rfl ⟨rfl, rfl⟩ ⟨Nat.le_of_ble_eq_true rfl, Nat.le_of_ble_eq_true rfl⟩ (Nat.le_of_ble_eq_true rfl) hl.1 dX11_best_60 (hf_of h0 hq23 hEq23)) (fun z25 gm H locs hW => ?_)
          have h0 := mle.trans h0 hq23
          exact J63 gm _ _ _ ho h0 _ _ _ hW (lv_sub hl [1, 3] rfl)
        · replace ho := ite_f c22 ho
          refine lv_bipush (v := (-3 : Int32)) hx hb dX11_best_52 (by decide) ?_
          cases ho
          exact rtIa gm C0.1 hW dX11_best_54
    · replace ho := ite_f c15 ho
      refine lv_bipush (v := (-2 : Int32)) hx hb dX11_best_18 (by decide) ?_
      cases ho
      exact rtIa gm C0.1 hW dX11_best_20
noncomputable def x2_limbsOf_B19 (t : St) (v3 : Int32) : Option ((Int32) ⊕ (Int32)) :=
  if v3 ≤ 0 then (some (.inr v3)) else (gd (v3 - (1 : Int32)) (gN t 201) (if (gA t 201 ((v3 - (1 : Int32))).toNatClampNeg) = 0 then (nm (v3 + (-1 : Int32)) (fun x4 : Int32 => some (.inl x4))) else (some (.inr v3))))
noncomputable def x2_limbsOf_B100019 (t : St) (v3 : Int32) : Option ((Int32) ⊕ (Int32)) :=
  if v3 ≤ 0 then (some (.inr v3)) else (gd (v3 - (1 : Int32)) (gN t 200) (if (gA t 200 ((v3 - (1 : Int32))).toNatClampNeg) = 0 then (nm (v3 + (-1 : Int32)) (fun x8 : Int32 => some (.inl x8))) else (some (.inr v3))))
noncomputable def x2_limbsOf (t : St) (a1 : Int32) : Option (Int32) :=
  if a1 = 0 then ((lp (fun x => x2_limbsOf_B100019 t x) (6 : Int32)).bind (fun y13 => some y13)) else ((lp (fun x => x2_limbsOf_B19 t x) (6 : Int32)).bind (fun y10 => some y10))
set_option maxHeartbeats 4000000 in
set_option maxRecDepth 100000 in
theorem x2_limbsOf_L19 {p : Program} {l : Launch} {e : Env} {s : State} {m : MethodId} {args : Array Value} {below : List Frame} {meth : Method} {c : Code} {Q : State → Prop} {D : va_G} {cI cJ cZ cR : ClassId} {am gm : Nat → Nat} {st : Nat} {A : Nat → Prop} (C0 : cxX p s m args meth c cX2_limbsOf RX2 4 (some .int) D (tyX cI cJ cZ cR) st A) {t : St} {y : Int32} (hK0 : ∀ (H : Heap) (locs : List Loc) (ls : Array Slot), wl D A s (wX cI cJ cZ cR am gm t) H locs → lv_has ls 4 [(0, .ref (am 2002)), (3, .int y)] → W p l e (rmN 0 0) s m args below meth c H locs 0 0 Q (F0 m 37 ls [])) :
    ∀ (n : Nat) (v3 : Int32), lpn (fun x => x2_limbsOf_B19 t x) n v3 = some y → ∀ (H : Heap) (locs : List Loc) (ls : Array Slot), wl D A s (wX cI cJ cZ cR am gm t) H locs → lv_has ls 4 [(0, .ref (am 2002)), (2, .ref (am 201)), (3, .int v3)] → W p l e (rmN 0 0) s m args below meth c H locs 0 0 Q (F0 m 19 ls []) := by
  have hx := C0.1.1
  have hb := C0.1.2.1
  have hta := C0.1.2.2.2.2.2.1
  have hown := C0.1.2.2.2.2.1
  intro n
  induction n with
  | zero => intro _ h; cases h
  | succ n ih =>
    intro v3 hrun H locs ls hW hl
    obtain ⟨o, ho, hrun⟩ := bd_some hrun
    unfold x2_limbsOf_B19 at ho
    refine lv_iload_n hx hb dX2_limbsOf_19 rfl (lv_at hl 2 rfl) ?_
    refine lv_if_le (tgt := 37) hx hb dX2_limbsOf_20 (by decide) (fun c1 => ?_) (fun c1 => ?_)
    · replace ho := ite_t c1 ho
      cases ho
      cases hrun
      exact hK0 _ _ _ hW (lv_sub hl [0, 2] rfl)
    · replace ho := ite_f c1 ho
      refine lv_aload_n hx hb dX2_limbsOf_23 rfl (lv_at hl 1 rfl) ?_
      refine lv_iload_n hx hb dX2_limbsOf_24 rfl (lv_at hl 2 rfl) ?_
      refine lv_iconst (v := (1 : Int32)) hx hb dX2_limbsOf_25 (by decide) ?_
      refine lv_isub hx hb dX2_limbsOf_26 ?_
      obtain ⟨g2, ho⟩ := gd_some ho
      refine xLD_201 C0 hW g2 dX2_limbsOf_27 ?_
      refine lv_if_ne (tgt := 37) hx hb dX2_limbsOf_28 (by decide) (fun c3 => ?_) (fun c3 => ?_)
      · replace ho := ite_f c3 ho
        cases ho
        cases hrun
        exact hK0 _ _ _ hW (lv_sub hl [0, 2] rfl)
      · replace ho := ite_t c3 ho
        obtain ⟨x4, ex4, ho⟩ := nm_x ho
        refine lv_iinc (v := x4) (lv' := [(3, .int x4), (0, .ref (am 2002)), (2, .ref (am 201))]) hx hb dX2_limbsOf_31 hl (k := 2) rfl (by rw [ex4]; rfl) (by decide) rfl (fun ls hl => ?_)
        clear ex4
        refine lv_goto (tgt := 19) hx hb dX2_limbsOf_34 (by decide) ?_
        cases ho
        exact ih _ hrun _ _ _ hW (lv_sub hl [1, 2, 0] rfl)
set_option maxHeartbeats 4000000 in
set_option maxRecDepth 100000 in
theorem x2_limbsOf_L100019 {p : Program} {l : Launch} {e : Env} {s : State} {m : MethodId} {args : Array Value} {below : List Frame} {meth : Method} {c : Code} {Q : State → Prop} {D : va_G} {cI cJ cZ cR : ClassId} {am gm : Nat → Nat} {st : Nat} {A : Nat → Prop} (C0 : cxX p s m args meth c cX2_limbsOf RX2 4 (some .int) D (tyX cI cJ cZ cR) st A) {t : St} {y : Int32} (hK0 : ∀ (H : Heap) (locs : List Loc) (ls : Array Slot), wl D A s (wX cI cJ cZ cR am gm t) H locs → lv_has ls 4 [(0, .ref (am 2002)), (3, .int y)] → W p l e (rmN 0 0) s m args below meth c H locs 0 0 Q (F0 m 37 ls [])) :
    ∀ (n : Nat) (v3 : Int32), lpn (fun x => x2_limbsOf_B100019 t x) n v3 = some y → ∀ (H : Heap) (locs : List Loc) (ls : Array Slot), wl D A s (wX cI cJ cZ cR am gm t) H locs → lv_has ls 4 [(0, .ref (am 2002)), (2, .ref (am 200)), (3, .int v3)] → W p l e (rmN 0 0) s m args below meth c H locs 0 0 Q (F0 m 19 ls []) := by
  have hx := C0.1.1
  have hb := C0.1.2.1
  have hta := C0.1.2.2.2.2.2.1
  have hown := C0.1.2.2.2.2.1
  intro n
  induction n with
  | zero => intro _ h; cases h
  | succ n ih =>
    intro v3 hrun H locs ls hW hl
    obtain ⟨o, ho, hrun⟩ := bd_some hrun
    unfold x2_limbsOf_B100019 at ho
    refine lv_iload_n hx hb dX2_limbsOf_19 rfl (lv_at hl 2 rfl) ?_
    refine lv_if_le (tgt := 37) hx hb dX2_limbsOf_20 (by decide) (fun c5 => ?_) (fun c5 => ?_)
    · replace ho := ite_t c5 ho
      cases ho
      cases hrun
      exact hK0 _ _ _ hW (lv_sub hl [0, 2] rfl)
    · replace ho := ite_f c5 ho
      refine lv_aload_n hx hb dX2_limbsOf_23 rfl (lv_at hl 1 rfl) ?_
      refine lv_iload_n hx hb dX2_limbsOf_24 rfl (lv_at hl 2 rfl) ?_
      refine lv_iconst (v := (1 : Int32)) hx hb dX2_limbsOf_25 (by decide) ?_
      refine lv_isub hx hb dX2_limbsOf_26 ?_
      obtain ⟨g6, ho⟩ := gd_some ho
      refine xLD_200 C0 hW g6 dX2_limbsOf_27 ?_
      refine lv_if_ne (tgt := 37) hx hb dX2_limbsOf_28 (by decide) (fun c7 => ?_) (fun c7 => ?_)
      · replace ho := ite_f c7 ho
        cases ho
        cases hrun
        exact hK0 _ _ _ hW (lv_sub hl [0, 2] rfl)
      · replace ho := ite_t c7 ho
        obtain ⟨x8, ex8, ho⟩ := nm_x ho
        refine lv_iinc (v := x8) (lv' := [(3, .int x8), (0, .ref (am 2002)), (2, .ref (am 200))]) hx hb dX2_limbsOf_31 hl (k := 2) rfl (by rw [ex8]; rfl) (by decide) rfl (fun ls hl => ?_)
        clear ex8
        refine lv_goto (tgt := 19) hx hb dX2_limbsOf_34 (by decide) ?_
        cases ho
        exact ih _ hrun _ _ _ hW (lv_sub hl [1, 2, 0] rfl)
set_option maxHeartbeats 4000000 in
set_option maxRecDepth 100000 in
theorem c_x2_limbsOf (l : Launch) {D : va_G} {cI cJ cZ cR : ClassId} {am gm : Nat → Nat} {st : Nat} (sz : Nat) (t : St) (a1 : Int32) {r : Int32} (ho : x2_limbsOf t a1 = some r) : Met l yX2_limbsOf (.code yX2_limbsOf cX2_limbsOf 4 (some .int) :: wsAll) (rmN 0 0) (va_Pc [.ref (am 2002), .int a1] (prX D (tyX cI cJ cZ cR) (wX cI cJ cZ cR am gm t) sz st)) (qI r D (tyX cI cJ cZ cR) (wX cI cJ cZ cR am gm t) (va_A (wX cI cJ cZ cR am gm t) sz)) 0 0 (va_A (wX cI cJ cZ cR am gm t) sz) := by
  refine Met.ofW (cc := cX2_limbsOf) (maxL := 4) (ret := (some .int)) (by decide) rfl ?_
  intro p e s m args below meth c s₁ B hml hv
  obtain ⟨rfl, ⟨hsz, hP, hK, hD0⟩, hsx⟩ := hv
  have hx := B.exec
  have hb := B.bytes
  have hts := atoms_spec (ws := (.code yX2_limbsOf cX2_limbsOf 4 (some .int) :: wsAll)) B.pre
  have hta := fun w h => hts w (List.mem_cons_of_mem _ h)
  have hown : s.vm.findClass RX2 = some m.cls := findClass_of_methodNamed B.named
  have hlocks := B.notSynchronized
  subst hsz
  have hD := hD0.self (sz := s.heap.size)
  generalize hAe : va_A (wX cI cJ cZ cR am gm t) s.heap.size = A at hD ⊢
  have hA : ∀ q : Nat, s.heap.size ≤ q → A q := fun q h => by rw [← hAe]; exact Or.inr h
  have C0 : cxX p s m ([.ref (am 2002), .int a1].toArray) meth c cX2_limbsOf RX2 4 (some .int) D (tyX cI cJ cZ cR) st A := ⟨⟨hx, hb, B.returns, hml, hown, hta, hlocks, hK, hA⟩, by rw [← hAe]; exact hsx⟩
  have hW : wl D A s (wX cI cJ cZ cR am gm t) s.heap [] := ⟨hP, hD, va_S.rf⟩
  have hl := lv_entry [.ref (am 2002), .int a1] (n := 4) (Nat.le_of_ble_eq_true rfl)
  rw [lg_entry_eq]
  generalize (lg_sl [.ref (am 2002), .int a1] ++ List.replicate (4 - (lg_sl [.ref (am 2002), .int a1]).length) Slot.unset).toArray = ls at hl ⊢
  have hl : lv_has ls 4 [(0, .ref (am 2002)), (1, .int a1)] := hl
  unfold x2_limbsOf at ho
  refine lv_iload_n hx hb dX2_limbsOf_0 rfl (lv_at hl 1 rfl) ?_
  refine lv_if_ne (tgt := 11) hx hb dX2_limbsOf_1 (by decide) (fun c9 => ?_) (fun c9 => ?_)
  · replace ho := ite_f c9 ho
    refine lv_aload_n hx hb dX2_limbsOf_11 rfl (lv_at hl 0 rfl) ?_
    refine xGET_201 C0 kw_370 hW dX2_limbsOf_12 ?_
    refine lv_astore_n (lv' := [(2, .ref (am 201)), (0, .ref (am 2002)), (1, .int a1)]) hx hb dX2_limbsOf_15 rfl hl (by decide) rfl (fun ls hl => ?_)
    refine lv_bipush (v := (6 : Int32)) hx hb dX2_limbsOf_16 (by decide) ?_
    refine lv_istore_n (lv' := [(3, .int (6 : Int32)), (2, .ref (am 201)), (0, .ref (am 2002)), (1, .int a1)]) hx hb dX2_limbsOf_18 rfl hl (by decide) rfl (fun ls hl => ?_)
    obtain ⟨y10, hc12, ho⟩ := bd_some ho
    obtain ⟨ny10, hc12⟩ := lp_to hc12
    refine x2_limbsOf_L19 C0 ?_ ny10 _ hc12 _ _ _ hW (lv_sub hl [2, 1, 0] rfl)
    intro H locs ls hW hl
    refine lv_iload_n hx hb dX2_limbsOf_37 rfl (lv_at hl 1 rfl) ?_
    cases ho
    exact rtI C0.1 hW dX2_limbsOf_38
  · replace ho := ite_t c9 ho
    refine lv_aload_n hx hb dX2_limbsOf_4 rfl (lv_at hl 0 rfl) ?_
    refine xGET_200 C0 kw_369 hW dX2_limbsOf_5 ?_
    refine lv_goto (tgt := 15) hx hb dX2_limbsOf_8 (by decide) ?_
    refine lv_astore_n (lv' := [(2, .ref (am 200)), (0, .ref (am 2002)), (1, .int a1)]) hx hb dX2_limbsOf_15 rfl hl (by decide) rfl (fun ls hl => ?_)
    refine lv_bipush (v := (6 : Int32)) hx hb dX2_limbsOf_16 (by decide) ?_
    refine lv_istore_n (lv' := [(3, .int (6 : Int32)), (2, .ref (am 200)), (0, .ref (am 2002)), (1, .int a1)]) hx hb dX2_limbsOf_18 rfl hl (by decide) rfl (fun ls hl => ?_)
    obtain ⟨y13, hc15, ho⟩ := bd_some ho
    obtain ⟨ny13, hc15⟩ := lp_to hc15
    refine x2_limbsOf_L100019 C0 ?_ ny13 _ hc15 _ _ _ hW (lv_sub hl [2, 1, 0] rfl)
    intro H locs ls hW hl
    refine lv_iload_n hx hb dX2_limbsOf_37 rfl (lv_at hl 1 rfl) ?_
    cases ho
    exact rtI C0.1 hW dX2_limbsOf_38
