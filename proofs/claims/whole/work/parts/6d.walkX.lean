noncomputable def j6_bitCount_0f7a4 (t : St) (a0 : Int32) : Option (Int32) :=
  nm (a0 - ((((a0).toUInt32 >>> (((1 : Int32)).toUInt32 &&& Int32.toUInt32 31)).toInt32) &&& (1431655765 : Int32))) (fun x1 : Int32 => nm ((x1 &&& (858993459 : Int32)) + ((((x1).toUInt32 >>> (((2 : Int32)).toUInt32 &&& Int32.toUInt32 31)).toInt32) &&& (858993459 : Int32))) (fun x2 : Int32 => nm ((x2 + (((x2).toUInt32 >>> (((4 : Int32)).toUInt32 &&& Int32.toUInt32 31)).toInt32)) &&& (252645135 : Int32)) (fun x3 : Int32 => nm (x3 + (((x3).toUInt32 >>> (((8 : Int32)).toUInt32 &&& Int32.toUInt32 31)).toInt32)) (fun x4 : Int32 => nm (x4 + (((x4).toUInt32 >>> (((16 : Int32)).toUInt32 &&& Int32.toUInt32 31)).toInt32)) (fun x5 : Int32 => some (x5 &&& (63 : Int32)))))))
set_option maxHeartbeats 4000000 in
set_option maxRecDepth 100000 in
theorem c_j6_bitCount_0f7a4 (l : Launch) {D : va_G} {cI cJ cZ cR : ClassId} {am gm : Nat → Nat} {st : Nat} (sz : Nat) (t : St) (a0 : Int32) {r : Int32} (ho : j6_bitCount_0f7a4 t a0 = some r) : Met l yJ6_bitCount_0f7a4 (.code yJ6_bitCount_0f7a4 cJ6_bitCount_0f7a4 1 (some .int) :: wsAll) (rmN 0 0) (va_Pc [.int a0] (prX D (tyX cI cJ cZ cR) (wX cI cJ cZ cR am gm t) sz st)) (qI r D (tyX cI cJ cZ cR) (wX cI cJ cZ cR am gm t) (va_A (wX cI cJ cZ cR am gm t) sz)) 0 0 (va_A (wX cI cJ cZ cR am gm t) sz) := by
  refine Met.ofW (cc := cJ6_bitCount_0f7a4) (maxL := 1) (ret := (some .int)) (by decide) rfl ?_
  intro p e s m args below meth c s₁ B hml hv
  obtain ⟨rfl, ⟨hsz, hP, hK, hD0⟩, hsx⟩ := hv
  have hx := B.exec
  have hb := B.bytes
  have hts := atoms_spec (ws := (.code yJ6_bitCount_0f7a4 cJ6_bitCount_0f7a4 1 (some .int) :: wsAll)) B.pre
  have hta := fun w h => hts w (List.mem_cons_of_mem _ h)
  have hown : s.vm.findClass RJ6 = some m.cls := findClass_of_methodNamed B.named
  have hlocks := B.notSynchronized
  subst hsz
  have hD := hD0.self (sz := s.heap.size)
  generalize hAe : va_A (wX cI cJ cZ cR am gm t) s.heap.size = A at hD ⊢
  have hA : ∀ q : Nat, s.heap.size ≤ q → A q := fun q h => by rw [← hAe]; exact Or.inr h
  have C0 : cxX p s m ([.int a0].toArray) meth c cJ6_bitCount_0f7a4 RJ6 1 (some .int) D (tyX cI cJ cZ cR) st A := ⟨⟨hx, hb, B.returns, hml, hown, hta, hlocks, hK, hA⟩, by rw [← hAe]; exact hsx⟩
  have hW : wl D A s (wX cI cJ cZ cR am gm t) s.heap [] := ⟨hP, hD, va_S.rf⟩
  have hl := lv_entry [.int a0] (n := 1) (Nat.le_of_ble_eq_true rfl)
  rw [lg_entry_eq]
  generalize (lg_sl [.int a0] ++ List.replicate (1 - (lg_sl [.int a0]).length) Slot.unset).toArray = ls at hl ⊢
  have hl : lv_has ls 1 [(0, .int a0)] := hl
  unfold j6_bitCount_0f7a4 at ho
  refine lv_iload_n hx hb dJ6_bitCount_0f7a4_0 rfl (lv_at hl 0 rfl) ?_
  refine lv_iload_n hx hb dJ6_bitCount_0f7a4_1 rfl (lv_at hl 0 rfl) ?_
  refine lv_iconst (v := (1 : Int32)) hx hb dJ6_bitCount_0f7a4_2 (by decide) ?_
  refine lv_iushr hx hb dJ6_bitCount_0f7a4_3 rfl ?_
  refine lv_ldcw hx hb hown (hta _ kw_889) dJ6_bitCount_0f7a4_4 ?_
  refine lv_iand hx hb dJ6_bitCount_0f7a4_7 ?_
  refine lv_isub hx hb dJ6_bitCount_0f7a4_8 ?_
  refine lv_nmi ho (fun x1 ho => ?_)
  refine lv_istore_n (lv' := [(0, .int x1)]) hx hb dJ6_bitCount_0f7a4_9 rfl hl (by decide) rfl (fun ls hl => ?_)
  refine lv_iload_n hx hb dJ6_bitCount_0f7a4_10 rfl (lv_at hl 0 rfl) ?_
  refine lv_ldcw hx hb hown (hta _ kw_890) dJ6_bitCount_0f7a4_11 ?_
  refine lv_iand hx hb dJ6_bitCount_0f7a4_14 ?_
  refine lv_iload_n hx hb dJ6_bitCount_0f7a4_15 rfl (lv_at hl 0 rfl) ?_
  refine lv_iconst (v := (2 : Int32)) hx hb dJ6_bitCount_0f7a4_16 (by decide) ?_
  refine lv_iushr hx hb dJ6_bitCount_0f7a4_17 rfl ?_
  refine lv_ldcw hx hb hown (hta _ kw_890) dJ6_bitCount_0f7a4_18 ?_
  refine lv_iand hx hb dJ6_bitCount_0f7a4_21 ?_
  refine lv_iadd hx hb dJ6_bitCount_0f7a4_22 ?_
  refine lv_nmi ho (fun x2 ho => ?_)
  refine lv_istore_n (lv' := [(0, .int x2)]) hx hb dJ6_bitCount_0f7a4_23 rfl hl (by decide) rfl (fun ls hl => ?_)
  refine lv_iload_n hx hb dJ6_bitCount_0f7a4_24 rfl (lv_at hl 0 rfl) ?_
  refine lv_iload_n hx hb dJ6_bitCount_0f7a4_25 rfl (lv_at hl 0 rfl) ?_
  refine lv_iconst (v := (4 : Int32)) hx hb dJ6_bitCount_0f7a4_26 (by decide) ?_
  refine lv_iushr hx hb dJ6_bitCount_0f7a4_27 rfl ?_
  refine lv_iadd hx hb dJ6_bitCount_0f7a4_28 ?_
  refine lv_ldcw hx hb hown (hta _ kw_891) dJ6_bitCount_0f7a4_29 ?_
  refine lv_iand hx hb dJ6_bitCount_0f7a4_32 ?_
  refine lv_nmi ho (fun x3 ho => ?_)
  refine lv_istore_n (lv' := [(0, .int x3)]) hx hb dJ6_bitCount_0f7a4_33 rfl hl (by decide) rfl (fun ls hl => ?_)
  refine lv_iload_n hx hb dJ6_bitCount_0f7a4_34 rfl (lv_at hl 0 rfl) ?_
  refine lv_iload_n hx hb dJ6_bitCount_0f7a4_35 rfl (lv_at hl 0 rfl) ?_
  refine lv_bipush (v := (8 : Int32)) hx hb dJ6_bitCount_0f7a4_36 (by decide) ?_
  refine lv_iushr hx hb dJ6_bitCount_0f7a4_38 rfl ?_
  refine lv_iadd hx hb dJ6_bitCount_0f7a4_39 ?_
  refine lv_nmi ho (fun x4 ho => ?_)
  refine lv_istore_n (lv' := [(0, .int x4)]) hx hb dJ6_bitCount_0f7a4_40 rfl hl (by decide) rfl (fun ls hl => ?_)
  refine lv_iload_n hx hb dJ6_bitCount_0f7a4_41 rfl (lv_at hl 0 rfl) ?_
  refine lv_iload_n hx hb dJ6_bitCount_0f7a4_42 rfl (lv_at hl 0 rfl) ?_
  refine lv_bipush (v := (16 : Int32)) hx hb dJ6_bitCount_0f7a4_43 (by decide) ?_
  refine lv_iushr hx hb dJ6_bitCount_0f7a4_45 rfl ?_
  refine lv_iadd hx hb dJ6_bitCount_0f7a4_46 ?_
  refine lv_nmi ho (fun x5 ho => ?_)
  refine lv_istore_n (lv' := [(0, .int x5)]) hx hb dJ6_bitCount_0f7a4_47 rfl hl (by decide) rfl (fun ls hl => ?_)
  refine lv_iload_n hx hb dJ6_bitCount_0f7a4_48 rfl (lv_at hl 0 rfl) ?_
  refine lv_bipush (v := (63 : Int32)) hx hb dJ6_bitCount_0f7a4_49 (by decide) ?_
  refine lv_iand hx hb dJ6_bitCount_0f7a4_51 ?_
  cases ho
  exact rtI C0.1 hW dJ6_bitCount_0f7a4_52
noncomputable def x10_sortBySize_B15 (v1 : Int32) (v2 : Int32) (v3 : Int32) (t : St) : Option ((Int32 × St) ⊕ (St)) :=
  if v1 ≤ v3 then (some (.inr t)) else (gd v3 (gN t 1003) ((j6_bitCount_0f7a4 t (gA t 1003 (v3).toNatClampNeg)).bind (fun q3 => if q3 = v2 then (gd v3 (gN t 1003) (gd (gI t 1004) (gN t 1002) (nm (sA t 1002 (gI t 1004) (gA t 1003 (v3).toNatClampNeg)) (fun t9 : St => nm (sI t9 1004 ((gI t9 1004) + (1 : Int32))) (fun t10 : St => nm (v3 + (1 : Int32)) (fun x11 : Int32 => some (.inl (x11, t10)))))))) else (nm (v3 + (1 : Int32)) (fun x6 : Int32 => some (.inl (x6, t)))))))
theorem mm_x10_sortBySize_B15 (v1 : Int32) (v2 : Int32) (v3 : Int32) (t : St) : MR (x10_sortBySize_B15 v1 v2 v3 t) t (Sum.elim (fun (x : Int32 × St) => x.2) (fun (y : St) => y)) := by
  unfold x10_sortBySize_B15
  exact MR_ite (MR_some mle.rfl) (MR_gd (MR_bindn (fun q3 => MR_ite (MR_gd (MR_gd (MR_nmS mle_sA (fun t9 ht9 => MR_nmS mle_sI (fun t10 ht10 => MR_nm (fun x11 _ => MR_some (mle.trans ht9 ht10))))))) (MR_nm (fun x6 _ => MR_some mle.rfl)))))
theorem mm_x10_sortBySize_L15 (v1 : Int32) (v2 : Int32) (v3 : Int32) (t : St) : MR (lp (fun x => x10_sortBySize_B15 v1 v2 x.1 x.2) (v3, t)) t (fun (y : St) => y) := MR_lp (p := (fun (x : Int32 × St) => x.2)) (q := (fun (y : St) => y)) (fun x => mm_x10_sortBySize_B15 v1 v2 x.1 x.2) (v3, t)
noncomputable def x10_sortBySize_B7 (v1 : Int32) (v2 : Int32) (t : St) : Option ((Int32 × St) ⊕ (St)) :=
  if (16 : Int32) < v2 then (some (.inr t)) else ((lp (fun x => x10_sortBySize_B15 v1 v2 x.1 x.2) ((0 : Int32), t)).bind (fun y13 => nm (v2 + (1 : Int32)) (fun x16 : Int32 => some (.inl (x16, y13)))))
theorem mm_x10_sortBySize_B7 (v1 : Int32) (v2 : Int32) (t : St) : MR (x10_sortBySize_B7 v1 v2 t) t (Sum.elim (fun (x : Int32 × St) => x.2) (fun (y : St) => y)) := by
  unfold x10_sortBySize_B7
  exact MR_ite (MR_some mle.rfl) (MR_bind (mm_x10_sortBySize_L15 v1 v2 (0 : Int32) t) (fun y13 hm14 => MR_nm (fun x16 _ => MR_some hm14)))
theorem mm_x10_sortBySize_L7 (v1 : Int32) (v2 : Int32) (t : St) : MR (lp (fun x => x10_sortBySize_B7 v1 x.1 x.2) (v2, t)) t (fun (y : St) => y) := MR_lp (p := (fun (x : Int32 × St) => x.2)) (q := (fun (y : St) => y)) (fun x => mm_x10_sortBySize_B7 v1 x.1 x.2) (v2, t)
noncomputable def x10_sortBySize (t : St) (a1 : Int32) : Option (St) :=
  nm (sI t 1004 (0 : Int32)) (fun t17 : St => (lp (fun x => x10_sortBySize_B7 a1 x.1 x.2) ((1 : Int32), t17)).bind (fun y18 => some y18))
theorem mm_x10_sortBySize (t : St) (a1 : Int32) : MR (x10_sortBySize t a1) t (fun (a : St) => a) := by
  unfold x10_sortBySize
  exact MR_nmS mle_sI (fun t17 ht17 => MR_bind (mm_x10_sortBySize_L7 a1 (1 : Int32) t17) (fun y18 hm19 => MR_some (mle.trans ht17 hm19)))
set_option maxHeartbeats 4000000 in
set_option maxRecDepth 100000 in
theorem x10_sortBySize_L15 {p : Program} {l : Launch} {e : Env} {s : State} {m : MethodId} {args : Array Value} {below : List Frame} {meth : Method} {c : Code} {Q : State → Prop} {D : va_G} {cI cJ cZ cR : ClassId} {am gm : Nat → Nat} {st : Nat} {A : Nat → Prop} (C0 : cxX p s m args meth c cX10_sortBySize RX10 4 none D (tyX cI cJ cZ cR) st A) {v1 : Int32} {v2 : Int32} {y : St} (hK0 : ∀ (H : Heap) (locs : List Loc) (ls : Array Slot), wl D A s (wX cI cJ cZ cR am gm y) H locs → lv_has ls 4 [(0, .ref (am 2010)), (1, .int v1), (2, .int v2)] → W p l e (rmN 1 20) s m args below meth c H locs 0 0 Q (F0 m 64 ls [])) :
    ∀ (n : Nat) (v3 : Int32) (t : St), lpn (fun x => x10_sortBySize_B15 v1 v2 x.1 x.2) n (v3, t) = some y → ∀ (H : Heap) (locs : List Loc) (ls : Array Slot), wl D A s (wX cI cJ cZ cR am gm t) H locs → lv_has ls 4 [(0, .ref (am 2010)), (1, .int v1), (2, .int v2), (3, .int v3)] → W p l e (rmN 1 20) s m args below meth c H locs 0 0 Q (F0 m 15 ls []) := by
  have hx := C0.1.1
  have hb := C0.1.2.1
  have hta := C0.1.2.2.2.2.2.1
  have hown := C0.1.2.2.2.2.1
  intro n
  induction n with
  | zero => intro _ _ h; cases h
  | succ n ih =>
    intro v3 t hrun H locs ls hW hl
    obtain ⟨o, ho, hrun⟩ := bd_some hrun
    unfold x10_sortBySize_B15 at ho
    refine lv_iload_n hx hb dX10_sortBySize_15 rfl (lv_at hl 3 rfl) ?_
    refine lv_iload_n hx hb dX10_sortBySize_16 rfl (lv_at hl 1 rfl) ?_
    refine lv_icmp_ge (tgt := 64) hx hb dX10_sortBySize_17 (by decide) (fun c1 => ?_) (fun c1 => ?_)
    · replace ho := ite_t c1 ho
      cases ho
      cases hrun
      exact hK0 _ _ _ hW (lv_sub hl [0, 1, 2] rfl)
    · replace ho := ite_f c1 ho
      refine lv_aload_n hx hb dX10_sortBySize_20 rfl (lv_at hl 0 rfl) ?_
      refine xGET_1003 C0 kw_335 hW dX10_sortBySize_21 ?_
      refine lv_iload_n hx hb dX10_sortBySize_24 rfl (lv_at hl 3 rfl) ?_
      obtain ⟨g2, ho⟩ := gd_some ho
      refine xLD_1003 C0 hW g2 dX10_sortBySize_25 ?_
      obtain ⟨q3, hc4, ho⟩ := bd_some ho
      refine bkI C0.1 hW (runSX (As := [.int (gA t 1003 (v3).toNatClampNeg)]) (rest := []) C0 hW (c_j6_bitCount_0f7a4 l _ t (gA t 1003 (v3).toNatClampNeg) (r := q3) hc4) cb_X10_J6_bitCount_0f7a4_73 rfl rfl ⟨rfl, rfl⟩ ⟨Nat.le_of_ble_eq_true rfl, Nat.le_of_ble_eq_true rfl⟩ (Nat.le_of_ble_eq_true rfl) hl.1 dX10_sortBySize_26 ⟨Nat.le_of_ble_eq_true rfl, Nat.le_of_ble_eq_true rfl⟩) (fun H locs hW => ?_)
      refine lv_iload_n hx hb dX10_sortBySize_29 rfl (lv_at hl 2 rfl) ?_
      refine lv_icmp_ne (tgt := 58) hx hb dX10_sortBySize_30 (by decide) (fun c5 => ?_) (fun c5 => ?_)
      · replace ho := ite_f c5 ho
        obtain ⟨x6, ex6, ho⟩ := nm_x ho
        refine lv_iinc (v := x6) (lv' := [(3, .int x6), (0, .ref (am 2010)), (1, .int v1), (2, .int v2)]) hx hb dX10_sortBySize_58 hl (k := 3) rfl (by rw [ex6]; rfl) (by decide) rfl (fun ls hl => ?_)
        clear ex6
        refine lv_goto (tgt := 15) hx hb dX10_sortBySize_61 (by decide) ?_
        cases ho
        exact ih _ _ hrun _ _ _ hW (lv_sub hl [1, 2, 3, 0] rfl)
      · replace ho := ite_t c5 ho
        refine lv_aload_n hx hb dX10_sortBySize_33 rfl (lv_at hl 0 rfl) ?_
        refine xGET_1002 C0 kw_332 hW dX10_sortBySize_34 ?_
        refine lv_aload_n hx hb dX10_sortBySize_37 rfl (lv_at hl 0 rfl) ?_
        refine xGET_1004 C0 kw_336 hW dX10_sortBySize_38 ?_
        refine lv_aload_n hx hb dX10_sortBySize_41 rfl (lv_at hl 0 rfl) ?_
        refine xGET_1003 C0 kw_335 hW dX10_sortBySize_42 ?_
        refine lv_iload_n hx hb dX10_sortBySize_45 rfl (lv_at hl 3 rfl) ?_
        obtain ⟨g7, ho⟩ := gd_some ho
        refine xLD_1003 C0 hW g7 dX10_sortBySize_46 ?_
        obtain ⟨g8, ho⟩ := gd_some ho
        refine xST_1002 C0 hW g8 dX10_sortBySize_47 (fun H locs hW => ?_)
        obtain ⟨t9, ho, hW⟩ := nm_w (P := fun t => wl D A s (wX cI cJ cZ cR am gm t) H locs) ho hW
        refine lv_aload_n hx hb dX10_sortBySize_48 rfl (lv_at hl 0 rfl) ?_
        refine lv_dup hx hb dX10_sortBySize_49 rfl ?_
        refine xGET_1004 C0 kw_336 hW dX10_sortBySize_50 ?_
        refine lv_iconst (v := (1 : Int32)) hx hb dX10_sortBySize_53 (by decide) ?_
        refine lv_iadd hx hb dX10_sortBySize_54 ?_
        refine xPUT_1004 C0 kw_336 hW dX10_sortBySize_55 (fun H locs hW => ?_)
        obtain ⟨t10, ho, hW⟩ := nm_w (P := fun t => wl D A s (wX cI cJ cZ cR am gm t) H locs) ho hW
        obtain ⟨x11, ex11, ho⟩ := nm_x ho
        refine lv_iinc (v := x11) (lv' := [(3, .int x11), (0, .ref (am 2010)), (1, .int v1), (2, .int v2)]) hx hb dX10_sortBySize_58 hl (k := 3) rfl (by rw [ex11]; rfl) (by decide) rfl (fun ls hl => ?_)
        clear ex11
        refine lv_goto (tgt := 15) hx hb dX10_sortBySize_61 (by decide) ?_
        cases ho
        exact ih _ _ hrun _ _ _ hW (lv_sub hl [1, 2, 3, 0] rfl)
set_option maxHeartbeats 4000000 in
set_option maxRecDepth 100000 in
theorem x10_sortBySize_L7 {p : Program} {l : Launch} {e : Env} {s : State} {m : MethodId} {args : Array Value} {below : List Frame} {meth : Method} {c : Code} {Q : State → Prop} {D : va_G} {cI cJ cZ cR : ClassId} {am gm : Nat → Nat} {st : Nat} {A : Nat → Prop} (C0 : cxX p s m args meth c cX10_sortBySize RX10 4 none D (tyX cI cJ cZ cR) st A) {v1 : Int32} {y : St} (hK0 : ∀ (H : Heap) (locs : List Loc) (ls : Array Slot), wl D A s (wX cI cJ cZ cR am gm y) H locs → lv_has ls 4 [(0, .ref (am 2010))] → W p l e (rmN 1 20) s m args below meth c H locs 0 0 Q (F0 m 70 ls [])) :
    ∀ (n : Nat) (v2 : Int32) (t : St), lpn (fun x => x10_sortBySize_B7 v1 x.1 x.2) n (v2, t) = some y → ∀ (H : Heap) (locs : List Loc) (ls : Array Slot), wl D A s (wX cI cJ cZ cR am gm t) H locs → lv_has ls 4 [(0, .ref (am 2010)), (1, .int v1), (2, .int v2)] → W p l e (rmN 1 20) s m args below meth c H locs 0 0 Q (F0 m 7 ls []) := by
  have hx := C0.1.1
  have hb := C0.1.2.1
  have hta := C0.1.2.2.2.2.2.1
  have hown := C0.1.2.2.2.2.1
  intro n
  induction n with
  | zero => intro _ _ h; cases h
  | succ n ih =>
    intro v2 t hrun H locs ls hW hl
    obtain ⟨o, ho, hrun⟩ := bd_some hrun
    unfold x10_sortBySize_B7 at ho
    refine lv_iload_n hx hb dX10_sortBySize_7 rfl (lv_at hl 2 rfl) ?_
    refine lv_bipush (v := (16 : Int32)) hx hb dX10_sortBySize_8 (by decide) ?_
    refine lv_icmp_gt (tgt := 70) hx hb dX10_sortBySize_10 (by decide) (fun c12 => ?_) (fun c12 => ?_)
    · replace ho := ite_t c12 ho
      cases ho
      cases hrun
      exact hK0 _ _ _ hW (lv_sub hl [0] rfl)
    · replace ho := ite_f c12 ho
      refine lv_iconst (v := (0 : Int32)) hx hb dX10_sortBySize_13 (by decide) ?_
      refine lv_istore_n (lv' := [(3, .int (0 : Int32)), (0, .ref (am 2010)), (1, .int v1), (2, .int v2)]) hx hb dX10_sortBySize_14 rfl hl (by decide) rfl (fun ls hl => ?_)
      obtain ⟨y13, hc15, ho⟩ := bd_some ho
      obtain ⟨ny13, hc15⟩ := lp_to hc15
      refine x10_sortBySize_L15 C0 ?_ ny13 _ _ hc15 _ _ _ hW (lv_sub hl [1, 2, 3, 0] rfl)
      intro H locs ls hW hl
      obtain ⟨x16, ex16, ho⟩ := nm_x ho
      refine lv_iinc (v := x16) (lv' := [(2, .int x16), (0, .ref (am 2010)), (1, .int v1)]) hx hb dX10_sortBySize_64 hl (k := 2) rfl (by rw [ex16]; rfl) (by decide) rfl (fun ls hl => ?_)
      clear ex16
      refine lv_goto (tgt := 7) hx hb dX10_sortBySize_67 (by decide) ?_
      cases ho
      exact ih _ _ hrun _ _ _ hW (lv_sub hl [1, 2, 0] rfl)
set_option maxHeartbeats 4000000 in
set_option maxRecDepth 100000 in
theorem c_x10_sortBySize (l : Launch) {D : va_G} {cI cJ cZ cR : ClassId} {am gm : Nat → Nat} {st : Nat} (sz : Nat) (t : St) (a1 : Int32) {t' : St} (ho : x10_sortBySize t a1 = some t') : Met l yX10_sortBySize (.code yX10_sortBySize cX10_sortBySize 4 none :: wsAll) (rmN 1 20) (va_Pc [.ref (am 2010), .int a1] (prX D (tyX cI cJ cZ cR) (wX cI cJ cZ cR am gm t) sz st)) (qV D (tyX cI cJ cZ cR) (wX cI cJ cZ cR am gm t') (va_A (wX cI cJ cZ cR am gm t) sz)) 0 0 (va_A (wX cI cJ cZ cR am gm t) sz) := by
  refine Met.ofW (cc := cX10_sortBySize) (maxL := 4) (ret := none) (by decide) rfl ?_
  intro p e s m args below meth c s₁ B hml hv
  obtain ⟨rfl, ⟨hsz, hP, hK, hD0⟩, hsx⟩ := hv
  have hx := B.exec
  have hb := B.bytes
  have hts := atoms_spec (ws := (.code yX10_sortBySize cX10_sortBySize 4 none :: wsAll)) B.pre
  have hta := fun w h => hts w (List.mem_cons_of_mem _ h)
  have hown : s.vm.findClass RX10 = some m.cls := findClass_of_methodNamed B.named
  have hlocks := B.notSynchronized
  subst hsz
  have hD := hD0.self (sz := s.heap.size)
  generalize hAe : va_A (wX cI cJ cZ cR am gm t) s.heap.size = A at hD ⊢
  have hA : ∀ q : Nat, s.heap.size ≤ q → A q := fun q h => by rw [← hAe]; exact Or.inr h
  have C0 : cxX p s m ([.ref (am 2010), .int a1].toArray) meth c cX10_sortBySize RX10 4 none D (tyX cI cJ cZ cR) st A := ⟨⟨hx, hb, B.returns, hml, hown, hta, hlocks, hK, hA⟩, by rw [← hAe]; exact hsx⟩
  have hW : wl D A s (wX cI cJ cZ cR am gm t) s.heap [] := ⟨hP, hD, va_S.rf⟩
  have hl := lv_entry [.ref (am 2010), .int a1] (n := 4) (Nat.le_of_ble_eq_true rfl)
  rw [lg_entry_eq]
  generalize (lg_sl [.ref (am 2010), .int a1] ++ List.replicate (4 - (lg_sl [.ref (am 2010), .int a1]).length) Slot.unset).toArray = ls at hl ⊢
  have hl : lv_has ls 4 [(0, .ref (am 2010)), (1, .int a1)] := hl
  unfold x10_sortBySize at ho
  refine lv_aload_n hx hb dX10_sortBySize_0 rfl (lv_at hl 0 rfl) ?_
  refine lv_iconst (v := (0 : Int32)) hx hb dX10_sortBySize_1 (by decide) ?_
  refine xPUT_1004 C0 kw_336 hW dX10_sortBySize_2 (fun H locs hW => ?_)
  obtain ⟨t17, ho, hW⟩ := nm_w (P := fun t => wl D A s (wX cI cJ cZ cR am gm t) H locs) ho hW
  refine lv_iconst (v := (1 : Int32)) hx hb dX10_sortBySize_5 (by decide) ?_
  refine lv_istore_n (lv' := [(2, .int (1 : Int32)), (0, .ref (am 2010)), (1, .int a1)]) hx hb dX10_sortBySize_6 rfl hl (by decide) rfl (fun ls hl => ?_)
  obtain ⟨y18, hc20, ho⟩ := bd_some ho
  obtain ⟨ny18, hc20⟩ := lp_to hc20
  refine x10_sortBySize_L7 C0 ?_ ny18 _ _ hc20 _ _ _ hW (lv_sub hl [1, 2, 0] rfl)
  intro H locs ls hW hl
  cases ho
  exact rtV C0.1 hW dX10_sortBySize_70
noncomputable def x10_listAll_J8 (t : St) (v1 : Int32) : Option (Int32 × St) :=
  if (gI t 807) = 0 then (if (gI t 1005) = v1 then (some ((1 : Int32), t)) else (nm (sI t 1005 v1) (fun t3 : St => (x10_findAll t3).bind (fun q4 => (x10_sortBySize q4.2 q4.1).bind (fun q6 => some ((1 : Int32), q6)))))) else (some ((0 : Int32), t))
theorem mm_x10_listAll_J8 (t : St) (v1 : Int32) : MR (x10_listAll_J8 t v1) t (fun (a : Int32 × St) => a.2) := by
  unfold x10_listAll_J8
  exact MR_ite (MR_ite (MR_some mle.rfl) (MR_nmS mle_sI (fun t3 ht3 => MR_bind (mm_x10_findAll t3) (fun q4 hq4 => MR_bind (mm_x10_sortBySize q4.2 q4.1) (fun q6 hq6 => MR_some (mle.trans (mle.trans ht3 hq4) hq6)))))) (MR_some mle.rfl)
noncomputable def x10_listAll (t0 : St) (a1 : Int32) : Option (Int32 × St) :=
  (x8_fillFor t0 a1).bind (fun q8 => x10_listAll_J8 q8 a1)
theorem mm_x10_listAll (t0 : St) (a1 : Int32) : MR (x10_listAll t0 a1) t0 (fun (a : Int32 × St) => a.2) := by
  unfold x10_listAll
  exact MR_bind (mm_x8_fillFor t0 a1) (fun q8 hq8 => MR_wk hq8 (mm_x10_listAll_J8 q8 a1))
set_option maxHeartbeats 4000000 in
set_option maxRecDepth 100000 in
theorem c_x10_listAll (l : Launch) {D : va_G} {cI cJ cZ cR : ClassId} {am gm : Nat → Nat} {st : Nat} (sz : Nat) (t0 : St) (a1 : Int32) {r : Int32} {t' : St} (ho : x10_listAll t0 a1 = some (r, t')) : Met l yX10_listAll (.code yX10_listAll cX10_listAll 2 (some .boolean) :: wsAll) (rmA 4 97 t0 t') (va_Pc [.ref (am 2010), .int a1] (prX D (tyX cI cJ cZ cR) (wX cI cJ cZ cR am gm t0) sz st)) (qZa r D (tyX cI cJ cZ cR) (fun gm => wX cI cJ cZ cR am gm t') (va_A (wX cI cJ cZ cR am gm t0) sz)) (mC t0 t') (mS t0 t') (va_A (wX cI cJ cZ cR am gm t0) sz) := by
  refine Met.ofW (cc := cX10_listAll) (maxL := 2) (ret := (some .boolean)) (by decide) rfl ?_
  intro p e s m args below meth c s₁ B hml hv
  obtain ⟨rfl, ⟨hsz, hP, hK, hD0⟩, hsx⟩ := hv
  have hx := B.exec
  have hb := B.bytes
  have hts := atoms_spec (ws := (.code yX10_listAll cX10_listAll 2 (some .boolean) :: wsAll)) B.pre
  have hta := fun w h => hts w (List.mem_cons_of_mem _ h)
  have hown : s.vm.findClass RX10 = some m.cls := findClass_of_methodNamed B.named
  have hlocks := B.notSynchronized
  subst hsz
  have hD := hD0.self (sz := s.heap.size)
  generalize hAe : va_A (wX cI cJ cZ cR am gm t0) s.heap.size = A at hD ⊢
  have hA : ∀ q : Nat, s.heap.size ≤ q → A q := fun q h => by rw [← hAe]; exact Or.inr h
  have C0 : cxX p s m ([.ref (am 2010), .int a1].toArray) meth c cX10_listAll RX10 2 (some .boolean) D (tyX cI cJ cZ cR) st A := ⟨⟨hx, hb, B.returns, hml, hown, hta, hlocks, hK, hA⟩, by rw [← hAe]; exact hsx⟩
  have hW : wl D A s (wX cI cJ cZ cR am gm t0) s.heap [] := ⟨hP, hD, va_S.rf⟩
  have hl := lv_entry [.ref (am 2010), .int a1] (n := 2) (Nat.le_of_ble_eq_true rfl)
  rw [lg_entry_eq]
  generalize (lg_sl [.ref (am 2010), .int a1] ++ List.replicate (2 - (lg_sl [.ref (am 2010), .int a1]).length) Slot.unset).toArray = ls at hl ⊢
  have hl : lv_has ls 2 [(0, .ref (am 2010)), (1, .int a1)] := hl
  clear hAe hD hP hD0 hts
  have J8 : ∀ (gm : Nat → Nat) (t : St) (v1 : Int32) (_ : x10_listAll_J8 t v1 = some (r, t')) (_ : mle t0 t) (H : Heap) (locs : List Loc) (ls : Array Slot), wl D A s (wX cI cJ cZ cR am gm t) H locs → lv_has ls 2 [(0, .ref (am 2010)), (1, .int v1)] → W p l e (rmA 4 97 t0 t') s m ([.ref (am 2010), .int a1].toArray) below meth c H locs (mC t0 t) (mS t0 t) (MQ below (qZa r D (tyX cI cJ cZ cR) (fun gm => wX cI cJ cZ cR am gm t') A) ([.ref (am 2010), .int a1].toArray) s (mC t0 t') (mS t0 t') A) (F0 m 8 ls []) := by
    intro gm t v1 ho h0 H locs ls hW hl
    have hE : mle t t' := (mm_x10_listAll_J8 _ _ _ ho)
    have hR := hR_of (t0 := t0) hE
    unfold x10_listAll_J8 at ho
    refine lv_aload_n hx hb dX10_listAll_8 rfl (lv_at hl 0 rfl) ?_
    refine xGET_1001 C0 kw_331 hW dX10_listAll_9 ?_
    refine xGET_807 C0 kw_284 hW dX10_listAll_12 ?_
    refine lv_if_eq (tgt := 20) hx hb dX10_listAll_15 (by decide) (fun c1 => ?_) (fun c1 => ?_)
    · replace ho := ite_t c1 ho
      refine lv_aload_n hx hb dX10_listAll_20 rfl (lv_at hl 0 rfl) ?_
      refine xGET_1005 C0 kw_339 hW dX10_listAll_21 ?_
      refine lv_iload_n hx hb dX10_listAll_24 rfl (lv_at hl 1 rfl) ?_
      refine lv_icmp_eq (tgt := 41) hx hb dX10_listAll_25 (by decide) (fun c2 => ?_) (fun c2 => ?_)
      · replace ho := ite_t c2 ho
        refine lv_iconst (v := (1 : Int32)) hx hb dX10_listAll_41 (by decide) ?_
        cases ho
        exact rtZa gm C0.1 hW (Or.inr (rfl : (1 : Int32) = 1)) dX10_listAll_42
      · replace ho := ite_f c2 ho
        refine lv_aload_n hx hb dX10_listAll_28 rfl (lv_at hl 0 rfl) ?_
        refine lv_iload_n hx hb dX10_listAll_29 rfl (lv_at hl 1 rfl) ?_
        refine xPUT_1005 C0 kw_339 hW dX10_listAll_30 (fun H locs hW => ?_)
        obtain ⟨t3, ht3, ho, hW⟩ := nm_wm (P := fun t => wl D A s (wX cI cJ cZ cR am gm t) H locs) mle_sI ho hW
        refine lv_aload_n hx hb dX10_listAll_33 rfl (lv_at hl 0 rfl) ?_
        refine lv_aload_n hx hb dX10_listAll_34 rfl (lv_at hl 0 rfl) ?_
        obtain ⟨q4, hc5, ho⟩ := bd_some ho
        have hq4 := mm_x10_findAll t3 _ hc5
        refine bkI C0.1 hW (runVX (As := []) (rest := [.ref (am 2010)]) C0 hW (c_x10_findAll l _ t3 (r := q4.1) (t' := q4.2) hc5) cb_X10_X10_findAll_52 10 10 rfl rfl rfl rfl rfl ⟨rfl, rfl⟩ ⟨Nat.le_of_ble_eq_true rfl, Nat.le_of_ble_eq_true rfl⟩ (Nat.le_of_ble_eq_true rfl) hl.1 dX10_listAll_35 ⟨hR.1, hR.2⟩) (fun H locs hW => ?_)
        obtain ⟨q6, hc7, ho⟩ := bd_some ho
        have hq6 := mm_x10_sortBySize q4.2 q4.1 _ hc7
        refine bkV C0.1 hW (runVX (As := [.int q4.1]) (rest := []) C0 hW (c_x10_sortBySize l _ q4.2 q4.1 (t' := q6) hc7) cb_X10_X10_sortBySize_56 10 10 rfl rfl rfl rfl rfl ⟨rfl, rfl⟩ ⟨Nat.le_of_ble_eq_true rfl, Nat.le_of_ble_eq_true rfl⟩ (Nat.le_of_ble_eq_true rfl) hl.1 dX10_listAll_38 ⟨hR.1, hR.2⟩) (fun H locs hW => ?_)
        refine lv_iconst (v := (1 : Int32)) hx hb dX10_listAll_41 (by decide) ?_
        refine W_up h0 (mle.trans (mle.trans ht3 hq4) hq6) ?_
        cases ho
        exact rtZa gm C0.1 hW (Or.inr (rfl : (1 : Int32) = 1)) dX10_listAll_42
    · replace ho := ite_f c1 ho
      refine lv_iconst (v := (0 : Int32)) hx hb dX10_listAll_18 (by decide) ?_
      cases ho
      exact rtZa gm C0.1 hW (Or.inl (rfl : (0 : Int32) = 0)) dX10_listAll_19
  have hE : mle t0 t' := mm_x10_listAll _ _ _ ho
  have hR := hR_of (t0 := t0) hE
  have h0 : mle t0 t0 := mle.rfl
  refine W_0 (t0 := t0) ?_
  unfold x10_listAll at ho
  refine lv_aload_n hx hb dX10_listAll_0 rfl (lv_at hl 0 rfl) ?_
  refine xGET_1001 C0 kw_331 hW dX10_listAll_1 ?_
  refine lv_iload_n hx hb dX10_listAll_4 rfl (lv_at hl 1 rfl) ?_
  obtain ⟨q8, hc9, ho⟩ := bd_some ho
  have hq8 := mm_x8_fillFor t0 a1 _ hc9
  have hEq8 := (mm_x10_listAll_J8 _ _ _ ho)
  refine bkVa C0.1 hW h0 hq8 (runVX (As := [.int a1]) (rest := []) C0 hW (c_x8_fillFor l _ t0 a1 (t' := q8) hc9) cb_X10_X8_fillFor_44 8 8 rfl rfl rfl rfl rfl ⟨rfl, rfl⟩ ⟨Nat.le_of_ble_eq_true rfl, Nat.le_of_ble_eq_true rfl⟩ (Nat.le_of_ble_eq_true rfl) hl.1 dX10_listAll_5 (hf_of h0 hq8 hEq8)) (fun gm H locs hW => ?_)
  have h0 := mle.trans h0 hq8
  exact J8 gm _ _ ho h0 _ _ _ hW (lv_sub hl [0, 1] rfl)
noncomputable def x11_ways_J35 (t : St) (w0 : Int32) : Option (Int32 × St) :=
  if w0 = 0 then (some ((-5 : Int32), t)) else (some ((gI t 1004), t))
theorem mm_x11_ways_J35 (t : St) (w0 : Int32) : MR (x11_ways_J35 t w0) t (fun (a : Int32 × St) => a.2) := by
  unfold x11_ways_J35
  exact MR_ite (MR_some mle.rfl) (MR_some mle.rfl)
noncomputable def x11_ways (t0 : St) (a1 : Int32) : Option (Int32 × St) :=
  (x11_noNet t0 a1).bind (fun q2 => if q2 = 0 then (gd a1 (gN t0 602) (nm (gA t0 602 (a1).toNatClampNeg) (fun x7 : Int32 => if 0 ≤ x7 then ((x10_listAll t0 x7).bind (fun q9 => x11_ways_J35 q9.2 q9.1)) else (some ((-3 : Int32), t0))))) else (some ((-2 : Int32), t0)))
theorem mm_x11_ways (t0 : St) (a1 : Int32) : MR (x11_ways t0 a1) t0 (fun (a : Int32 × St) => a.2) := by
  unfold x11_ways
  exact MR_bindn (fun q2 => MR_ite (MR_gd (MR_nm (fun x7 _ => MR_ite (MR_bind (mm_x10_listAll t0 x7) (fun q9 hq9 => MR_wk hq9 (mm_x11_ways_J35 q9.2 q9.1))) (MR_some mle.rfl)))) (MR_some mle.rfl))
set_option maxHeartbeats 4000000 in
set_option maxRecDepth 100000 in
theorem c_x11_ways (l : Launch) {D : va_G} {cI cJ cZ cR : ClassId} {am gm : Nat → Nat} {st : Nat} (sz : Nat) (t0 : St) (a1 : Int32) {r : Int32} {t' : St} (ho : x11_ways t0 a1 = some (r, t')) : Met l yX11_ways (.code yX11_ways cX11_ways 3 (some .int) :: wsAll) (rmA 5 118 t0 t') (va_Pc [.ref (am 2011), .int a1] (prX D (tyX cI cJ cZ cR) (wX cI cJ cZ cR am gm t0) sz st)) (qIa r D (tyX cI cJ cZ cR) (fun gm => wX cI cJ cZ cR am gm t') (va_A (wX cI cJ cZ cR am gm t0) sz)) (mC t0 t') (mS t0 t') (va_A (wX cI cJ cZ cR am gm t0) sz) := by
  refine Met.ofW (cc := cX11_ways) (maxL := 3) (ret := (some .int)) (by decide) rfl ?_
  intro p e s m args below meth c s₁ B hml hv
  obtain ⟨rfl, ⟨hsz, hP, hK, hD0⟩, hsx⟩ := hv
  have hx := B.exec
  have hb := B.bytes
  have hts := atoms_spec (ws := (.code yX11_ways cX11_ways 3 (some .int) :: wsAll)) B.pre
  have hta := fun w h => hts w (List.mem_cons_of_mem _ h)
  have hown : s.vm.findClass RX11 = some m.cls := findClass_of_methodNamed B.named
  have hlocks := B.notSynchronized
  subst hsz
  have hD := hD0.self (sz := s.heap.size)
  generalize hAe : va_A (wX cI cJ cZ cR am gm t0) s.heap.size = A at hD ⊢
  have hA : ∀ q : Nat, s.heap.size ≤ q → A q := fun q h => by rw [← hAe]; exact Or.inr h
  have C0 : cxX p s m ([.ref (am 2011), .int a1].toArray) meth c cX11_ways RX11 3 (some .int) D (tyX cI cJ cZ cR) st A := ⟨⟨hx, hb, B.returns, hml, hown, hta, hlocks, hK, hA⟩, by rw [← hAe]; exact hsx⟩
  have hW : wl D A s (wX cI cJ cZ cR am gm t0) s.heap [] := ⟨hP, hD, va_S.rf⟩
  have hl := lv_entry [.ref (am 2011), .int a1] (n := 3) (Nat.le_of_ble_eq_true rfl)
  rw [lg_entry_eq]
  generalize (lg_sl [.ref (am 2011), .int a1] ++ List.replicate (3 - (lg_sl [.ref (am 2011), .int a1]).length) Slot.unset).toArray = ls at hl ⊢
  have hl : lv_has ls 3 [(0, .ref (am 2011)), (1, .int a1)] := hl
  clear hAe hD hP hD0 hts
  have J35 : ∀ (gm : Nat → Nat) (t : St) (w0 : Int32) (_ : x11_ways_J35 t w0 = some (r, t')) (_ : mle t0 t) (H : Heap) (locs : List Loc) (ls : Array Slot), wl D A s (wX cI cJ cZ cR am gm t) H locs → lv_has ls 3 [(0, .ref (am 2011))] → W p l e (rmA 5 118 t0 t') s m ([.ref (am 2011), .int a1].toArray) below meth c H locs (mC t0 t) (mS t0 t) (MQ below (qIa r D (tyX cI cJ cZ cR) (fun gm => wX cI cJ cZ cR am gm t') A) ([.ref (am 2011), .int a1].toArray) s (mC t0 t') (mS t0 t') A) (F0 m 35 ls [.int w0]) := by
    intro gm t w0 ho h0 H locs ls hW hl
    have hE : mle t t' := (mm_x11_ways_J35 _ _ _ ho)
    have hR := hR_of (t0 := t0) hE
    unfold x11_ways_J35 at ho
    refine lv_if_eq (tgt := 48) hx hb dX11_ways_35 (by decide) (fun c1 => ?_) (fun c1 => ?_)
    · replace ho := ite_t c1 ho
      refine lv_bipush (v := (-5 : Int32)) hx hb dX11_ways_48 (by decide) ?_
      cases ho
      exact rtIa gm C0.1 hW dX11_ways_50
    · replace ho := ite_f c1 ho
      refine lv_aload_n hx hb dX11_ways_38 rfl (lv_at hl 0 rfl) ?_
      refine xGET_1104 C0 kw_595 hW dX11_ways_39 ?_
      refine xGET_1004 C0 kw_338 hW dX11_ways_42 ?_
      refine lv_goto (tgt := 50) hx hb dX11_ways_45 (by decide) ?_
      cases ho
      exact rtIa gm C0.1 hW dX11_ways_50
  have hE : mle t0 t' := mm_x11_ways _ _ _ ho
  have hR := hR_of (t0 := t0) hE
  have h0 : mle t0 t0 := mle.rfl
  refine W_0 (t0 := t0) ?_
  unfold x11_ways at ho
  refine lv_iload_n hx hb dX11_ways_0 rfl (lv_at hl 1 rfl) ?_
  obtain ⟨q2, hc3, ho⟩ := bd_some ho
  refine bkZ C0.1 hW (runSX (As := [.int a1]) (rest := []) C0 hW (c_x11_noNet l _ t0 a1 (r := q2) hc3) cb_X11_X11_noNet_124 rfl rfl ⟨rfl, rfl⟩ ⟨Nat.le_of_ble_eq_true rfl, Nat.le_of_ble_eq_true rfl⟩ (Nat.le_of_ble_eq_true rfl) hl.1 dX11_ways_1 ⟨hR.1, hR.2⟩) (fun z4 H locs hW => ?_)
  refine lv_if_eq (tgt := 10) hx hb dX11_ways_4 (by decide) (fun c5 => ?_) (fun c5 => ?_)
  · replace ho := ite_t c5 ho
    refine lv_aload_n hx hb dX11_ways_10 rfl (lv_at hl 0 rfl) ?_
    refine xGET_1101 C0 kw_592 hW dX11_ways_11 ?_
    refine xGET_602 C0 kw_184 hW dX11_ways_14 ?_
    refine lv_iload_n hx hb dX11_ways_17 rfl (lv_at hl 1 rfl) ?_
    obtain ⟨g6, ho⟩ := gd_some ho
    refine xLD_602 C0 hW g6 dX11_ways_18 ?_
    refine lv_nmi ho (fun x7 ho => ?_)
    refine lv_istore_n (lv' := [(2, .int x7), (0, .ref (am 2011)), (1, .int a1)]) hx hb dX11_ways_19 rfl hl (by decide) rfl (fun ls hl => ?_)
    refine lv_iload_n hx hb dX11_ways_20 rfl (lv_at hl 0 rfl) ?_
    refine lv_if_ge (tgt := 27) hx hb dX11_ways_21 (by decide) (fun c8 => ?_) (fun c8 => ?_)
    · replace ho := ite_t c8 ho
      refine lv_aload_n hx hb dX11_ways_27 rfl (lv_at hl 1 rfl) ?_
      refine xGET_1104 C0 kw_595 hW dX11_ways_28 ?_
      refine lv_iload_n hx hb dX11_ways_31 rfl (lv_at hl 0 rfl) ?_
      obtain ⟨q9, hc10, ho⟩ := bd_some ho
      have hq9 := mm_x10_listAll t0 x7 _ hc10
      have hEq9 := (mm_x11_ways_J35 _ _ _ ho)
      refine bkZa C0.1 hW h0 hq9 (runVX (As := [.int x7]) (rest := []) C0 hW (c_x10_listAll l _ t0 x7 (r := q9.1) (t' := q9.2) hc10) cb_X11_X10_listAll_167 10 10 rfl rfl rfl rfl rfl ⟨rfl, rfl⟩ ⟨Nat.le_of_ble_eq_true rfl, Nat.le_of_ble_eq_true rfl⟩ (Nat.le_of_ble_eq_true rfl) hl.1 dX11_ways_32 (hf_of h0 hq9 hEq9)) (fun z11 gm H locs hW => ?_)
      have h0 := mle.trans h0 hq9
      exact J35 gm _ _ ho h0 _ _ _ hW (lv_sub hl [1] rfl)
    · replace ho := ite_f c8 ho
      refine lv_bipush (v := (-3 : Int32)) hx hb dX11_ways_24 (by decide) ?_
      cases ho
      exact rtIa gm C0.1 hW dX11_ways_26
  · replace ho := ite_f c5 ho
    refine lv_bipush (v := (-2 : Int32)) hx hb dX11_ways_7 (by decide) ?_
    cases ho
    exact rtIa gm C0.1 hW dX11_ways_9
noncomputable def x11_wayAt_J39 (t : St) (v2 : Int32) (w0 : Int32) : Option (Int32 × St) :=
  if w0 = 0 then (some ((-5 : Int32), t)) else (if (gI t 1004) ≤ v2 then (some ((-1 : Int32), t)) else (gd v2 (gN t 1002) (some ((gA t 1002 (v2).toNatClampNeg), t))))
theorem mm_x11_wayAt_J39 (t : St) (v2 : Int32) (w0 : Int32) : MR (x11_wayAt_J39 t v2 w0) t (fun (a : Int32 × St) => a.2) := by
  unfold x11_wayAt_J39
  exact MR_ite (MR_some mle.rfl) (MR_ite (MR_some mle.rfl) (MR_gd (MR_some mle.rfl)))
noncomputable def x11_wayAt (t0 : St) (a1 : Int32) (a2 : Int32) : Option (Int32 × St) :=
  (x11_noNet t0 a1).bind (fun q4 => if q4 = 0 then (if 0 ≤ a2 then (gd a1 (gN t0 602) (nm (gA t0 602 (a1).toNatClampNeg) (fun x10 : Int32 => if 0 ≤ x10 then ((x10_listAll t0 x10).bind (fun q12 => x11_wayAt_J39 q12.2 a2 q12.1)) else (some ((-3 : Int32), t0))))) else (some ((-2 : Int32), t0))) else (some ((-2 : Int32), t0)))
theorem mm_x11_wayAt (t0 : St) (a1 : Int32) (a2 : Int32) : MR (x11_wayAt t0 a1 a2) t0 (fun (a : Int32 × St) => a.2) := by
  unfold x11_wayAt
  exact MR_bindn (fun q4 => MR_ite (MR_ite (MR_gd (MR_nm (fun x10 _ => MR_ite (MR_bind (mm_x10_listAll t0 x10) (fun q12 hq12 => MR_wk hq12 (mm_x11_wayAt_J39 q12.2 a2 q12.1))) (MR_some mle.rfl)))) (MR_some mle.rfl)) (MR_some mle.rfl))
set_option maxHeartbeats 4000000 in
set_option maxRecDepth 100000 in
theorem c_x11_wayAt (l : Launch) {D : va_G} {cI cJ cZ cR : ClassId} {am gm : Nat → Nat} {st : Nat} (sz : Nat) (t0 : St) (a1 : Int32) (a2 : Int32) {r : Int32} {t' : St} (ho : x11_wayAt t0 a1 a2 = some (r, t')) : Met l yX11_wayAt (.code yX11_wayAt cX11_wayAt 4 (some .int) :: wsAll) (rmA 5 118 t0 t') (va_Pc [.ref (am 2011), .int a1, .int a2] (prX D (tyX cI cJ cZ cR) (wX cI cJ cZ cR am gm t0) sz st)) (qIa r D (tyX cI cJ cZ cR) (fun gm => wX cI cJ cZ cR am gm t') (va_A (wX cI cJ cZ cR am gm t0) sz)) (mC t0 t') (mS t0 t') (va_A (wX cI cJ cZ cR am gm t0) sz) := by
  refine Met.ofW (cc := cX11_wayAt) (maxL := 4) (ret := (some .int)) (by decide) rfl ?_
  intro p e s m args below meth c s₁ B hml hv
  obtain ⟨rfl, ⟨hsz, hP, hK, hD0⟩, hsx⟩ := hv
  have hx := B.exec
  have hb := B.bytes
  have hts := atoms_spec (ws := (.code yX11_wayAt cX11_wayAt 4 (some .int) :: wsAll)) B.pre
  have hta := fun w h => hts w (List.mem_cons_of_mem _ h)
  have hown : s.vm.findClass RX11 = some m.cls := findClass_of_methodNamed B.named
  have hlocks := B.notSynchronized
  subst hsz
  have hD := hD0.self (sz := s.heap.size)
  generalize hAe : va_A (wX cI cJ cZ cR am gm t0) s.heap.size = A at hD ⊢
  have hA : ∀ q : Nat, s.heap.size ≤ q → A q := fun q h => by rw [← hAe]; exact Or.inr h
  have C0 : cxX p s m ([.ref (am 2011), .int a1, .int a2].toArray) meth c cX11_wayAt RX11 4 (some .int) D (tyX cI cJ cZ cR) st A := ⟨⟨hx, hb, B.returns, hml, hown, hta, hlocks, hK, hA⟩, by rw [← hAe]; exact hsx⟩
  have hW : wl D A s (wX cI cJ cZ cR am gm t0) s.heap [] := ⟨hP, hD, va_S.rf⟩
  have hl := lv_entry [.ref (am 2011), .int a1, .int a2] (n := 4) (Nat.le_of_ble_eq_true rfl)
  rw [lg_entry_eq]
  generalize (lg_sl [.ref (am 2011), .int a1, .int a2] ++ List.replicate (4 - (lg_sl [.ref (am 2011), .int a1, .int a2]).length) Slot.unset).toArray = ls at hl ⊢
  have hl : lv_has ls 4 [(0, .ref (am 2011)), (1, .int a1), (2, .int a2)] := hl
  clear hAe hD hP hD0 hts
  have J39 : ∀ (gm : Nat → Nat) (t : St) (v2 : Int32) (w0 : Int32) (_ : x11_wayAt_J39 t v2 w0 = some (r, t')) (_ : mle t0 t) (H : Heap) (locs : List Loc) (ls : Array Slot), wl D A s (wX cI cJ cZ cR am gm t) H locs → lv_has ls 4 [(0, .ref (am 2011)), (2, .int v2)] → W p l e (rmA 5 118 t0 t') s m ([.ref (am 2011), .int a1, .int a2].toArray) below meth c H locs (mC t0 t) (mS t0 t) (MQ below (qIa r D (tyX cI cJ cZ cR) (fun gm => wX cI cJ cZ cR am gm t') A) ([.ref (am 2011), .int a1, .int a2].toArray) s (mC t0 t') (mS t0 t') A) (F0 m 39 ls [.int w0]) := by
    intro gm t v2 w0 ho h0 H locs ls hW hl
    have hE : mle t t' := (mm_x11_wayAt_J39 _ _ _ _ ho)
    have hR := hR_of (t0 := t0) hE
    unfold x11_wayAt_J39 at ho
    refine lv_if_ne (tgt := 45) hx hb dX11_wayAt_39 (by decide) (fun c1 => ?_) (fun c1 => ?_)
    · replace ho := ite_f c1 ho
      refine lv_iload_n hx hb dX11_wayAt_45 rfl (lv_at hl 1 rfl) ?_
      refine lv_aload_n hx hb dX11_wayAt_46 rfl (lv_at hl 0 rfl) ?_
      refine xGET_1104 C0 kw_595 hW dX11_wayAt_47 ?_
      refine xGET_1004 C0 kw_338 hW dX11_wayAt_50 ?_
      refine lv_icmp_ge (tgt := 68) hx hb dX11_wayAt_53 (by decide) (fun c2 => ?_) (fun c2 => ?_)
      · replace ho := ite_t c2 ho
        refine lv_iconst (v := (-1 : Int32)) hx hb dX11_wayAt_68 (by decide) ?_
        cases ho
        exact rtIa gm C0.1 hW dX11_wayAt_69
      · replace ho := ite_f c2 ho
        refine lv_aload_n hx hb dX11_wayAt_56 rfl (lv_at hl 0 rfl) ?_
        refine xGET_1104 C0 kw_595 hW dX11_wayAt_57 ?_
        refine xGET_1002 C0 kw_334 hW dX11_wayAt_60 ?_
        refine lv_iload_n hx hb dX11_wayAt_63 rfl (lv_at hl 1 rfl) ?_
        obtain ⟨g3, ho⟩ := gd_some ho
        refine xLD_1002 C0 hW g3 dX11_wayAt_64 ?_
        refine lv_goto (tgt := 69) hx hb dX11_wayAt_65 (by decide) ?_
        cases ho
        exact rtIa gm C0.1 hW dX11_wayAt_69
    · replace ho := ite_t c1 ho
      refine lv_bipush (v := (-5 : Int32)) hx hb dX11_wayAt_42 (by decide) ?_
      cases ho
      exact rtIa gm C0.1 hW dX11_wayAt_44
  have hE : mle t0 t' := mm_x11_wayAt _ _ _ _ ho
  have hR := hR_of (t0 := t0) hE
  have h0 : mle t0 t0 := mle.rfl
  refine W_0 (t0 := t0) ?_
  unfold x11_wayAt at ho
  refine lv_iload_n hx hb dX11_wayAt_0 rfl (lv_at hl 1 rfl) ?_
  obtain ⟨q4, hc5, ho⟩ := bd_some ho
  refine bkZ C0.1 hW (runSX (As := [.int a1]) (rest := []) C0 hW (c_x11_noNet l _ t0 a1 (r := q4) hc5) cb_X11_X11_noNet_124 rfl rfl ⟨rfl, rfl⟩ ⟨Nat.le_of_ble_eq_true rfl, Nat.le_of_ble_eq_true rfl⟩ (Nat.le_of_ble_eq_true rfl) hl.1 dX11_wayAt_1 ⟨hR.1, hR.2⟩) (fun z6 H locs hW => ?_)
  refine lv_if_ne (tgt := 11) hx hb dX11_wayAt_4 (by decide) (fun c7 => ?_) (fun c7 => ?_)
  · replace ho := ite_f c7 ho
    refine lv_bipush (v := (-2 : Int32)) hx hb dX11_wayAt_11 (by decide) ?_
    cases ho
    exact rtIa gm C0.1 hW dX11_wayAt_13
  · replace ho := ite_t c7 ho
    refine lv_iload_n hx hb dX11_wayAt_7 rfl (lv_at hl 2 rfl) ?_
    refine lv_if_ge (tgt := 14) hx hb dX11_wayAt_8 (by decide) (fun c8 => ?_) (fun c8 => ?_)
    · replace ho := ite_t c8 ho
      refine lv_aload_n hx hb dX11_wayAt_14 rfl (lv_at hl 0 rfl) ?_
      refine xGET_1101 C0 kw_592 hW dX11_wayAt_15 ?_
      refine xGET_602 C0 kw_184 hW dX11_wayAt_18 ?_
      refine lv_iload_n hx hb dX11_wayAt_21 rfl (lv_at hl 1 rfl) ?_
      obtain ⟨g9, ho⟩ := gd_some ho
      refine xLD_602 C0 hW g9 dX11_wayAt_22 ?_
      refine lv_nmi ho (fun x10 ho => ?_)
      refine lv_istore_n (lv' := [(3, .int x10), (0, .ref (am 2011)), (1, .int a1), (2, .int a2)]) hx hb dX11_wayAt_23 rfl hl (by decide) rfl (fun ls hl => ?_)
      refine lv_iload_n hx hb dX11_wayAt_24 rfl (lv_at hl 0 rfl) ?_
      refine lv_if_ge (tgt := 31) hx hb dX11_wayAt_25 (by decide) (fun c11 => ?_) (fun c11 => ?_)
      · replace ho := ite_t c11 ho
        refine lv_aload_n hx hb dX11_wayAt_31 rfl (lv_at hl 1 rfl) ?_
        refine xGET_1104 C0 kw_595 hW dX11_wayAt_32 ?_
        refine lv_iload_n hx hb dX11_wayAt_35 rfl (lv_at hl 0 rfl) ?_
        obtain ⟨q12, hc13, ho⟩ := bd_some ho
        have hq12 := mm_x10_listAll t0 x10 _ hc13
        have hEq12 := (mm_x11_wayAt_J39 _ _ _ _ ho)
        refine bkZa C0.1 hW h0 hq12 (runVX (As := [.int x10]) (rest := []) C0 hW (c_x10_listAll l _ t0 x10 (r := q12.1) (t' := q12.2) hc13) cb_X11_X10_listAll_167 10 10 rfl rfl rfl rfl rfl ⟨rfl, rfl⟩ ⟨Nat.le_of_ble_eq_true rfl, Nat.le_of_ble_eq_true rfl⟩ (Nat.le_of_ble_eq_true rfl) hl.1 dX11_wayAt_36 (hf_of h0 hq12 hEq12)) (fun z14 gm H locs hW => ?_)
        have h0 := mle.trans h0 hq12
        exact J39 gm _ _ _ ho h0 _ _ _ hW (lv_sub hl [1, 3] rfl)
      · replace ho := ite_f c11 ho
        refine lv_bipush (v := (-3 : Int32)) hx hb dX11_wayAt_28 (by decide) ?_
        cases ho
        exact rtIa gm C0.1 hW dX11_wayAt_30
    · replace ho := ite_f c8 ho
      refine lv_bipush (v := (-2 : Int32)) hx hb dX11_wayAt_11 (by decide) ?_
      cases ho
      exact rtIa gm C0.1 hW dX11_wayAt_13
noncomputable def x5_sumOf_B5 (t : St) (v1 : Int32) (v2 : Int32) (v3 : Int32) (v4 : Int32) : Option ((Int32 × Int32) ⊕ (Int32)) :=
  if (16 : Int32) ≤ v4 then (some (.inr v3)) else (if ((v1 >>> (v4 &&& 31)) &&& (1 : Int32)) = (1 : Int32) then ((x5_get t v4 v2).bind (fun q4 => nm (v3 + q4) (fun x6 : Int32 => nm (v4 + (1 : Int32)) (fun x7 : Int32 => some (.inl (x6, x7)))))) else (nm (v4 + (1 : Int32)) (fun x3 : Int32 => some (.inl (v3, x3)))))
noncomputable def x5_sumOf (t : St) (a1 : Int32) (a2 : Int32) : Option (Int32) :=
  (lp (fun x => x5_sumOf_B5 t a1 a2 x.1 x.2) ((0 : Int32), (0 : Int32))).bind (fun y8 => some y8)
set_option maxHeartbeats 4000000 in
set_option maxRecDepth 100000 in
theorem x5_sumOf_L5 {p : Program} {l : Launch} {e : Env} {s : State} {m : MethodId} {args : Array Value} {below : List Frame} {meth : Method} {c : Code} {Q : State → Prop} {D : va_G} {cI cJ cZ cR : ClassId} {am gm : Nat → Nat} {st : Nat} {A : Nat → Prop} (C0 : cxX p s m args meth c cX5_sumOf RX5 5 (some .int) D (tyX cI cJ cZ cR) st A) {t : St} {v1 : Int32} {v2 : Int32} {y : Int32} (hK0 : ∀ (H : Heap) (locs : List Loc) (ls : Array Slot), wl D A s (wX cI cJ cZ cR am gm t) H locs → lv_has ls 5 [(0, .ref (am 2005)), (3, .int y)] → W p l e (rmN 1 22) s m args below meth c H locs 0 0 Q (F0 m 38 ls [])) :
    ∀ (n : Nat) (v3 : Int32) (v4 : Int32), lpn (fun x => x5_sumOf_B5 t v1 v2 x.1 x.2) n (v3, v4) = some y → ∀ (H : Heap) (locs : List Loc) (ls : Array Slot), wl D A s (wX cI cJ cZ cR am gm t) H locs → lv_has ls 5 [(0, .ref (am 2005)), (1, .int v1), (2, .int v2), (3, .int v3), (4, .int v4)] → W p l e (rmN 1 22) s m args below meth c H locs 0 0 Q (F0 m 5 ls []) := by
  have hx := C0.1.1
  have hb := C0.1.2.1
  have hta := C0.1.2.2.2.2.2.1
  have hown := C0.1.2.2.2.2.1
  intro n
  induction n with
  | zero => intro _ _ h; cases h
  | succ n ih =>
    intro v3 v4 hrun H locs ls hW hl
    obtain ⟨o, ho, hrun⟩ := bd_some hrun
    unfold x5_sumOf_B5 at ho
    refine lv_iload hx hb dX5_sumOf_5 (lv_at hl 4 rfl) ?_
    refine lv_bipush (v := (16 : Int32)) hx hb dX5_sumOf_7 (by decide) ?_
    refine lv_icmp_ge (tgt := 38) hx hb dX5_sumOf_9 (by decide) (fun c1 => ?_) (fun c1 => ?_)
    · replace ho := ite_t c1 ho
      cases ho
      cases hrun
      exact hK0 _ _ _ hW (lv_sub hl [0, 3] rfl)
    · replace ho := ite_f c1 ho
      refine lv_iload_n hx hb dX5_sumOf_12 rfl (lv_at hl 1 rfl) ?_
      refine lv_iload hx hb dX5_sumOf_13 (lv_at hl 4 rfl) ?_
      refine lv_ishr hx hb dX5_sumOf_15 ?_
      refine lv_iconst (v := (1 : Int32)) hx hb dX5_sumOf_16 (by decide) ?_
      refine lv_iand hx hb dX5_sumOf_17 ?_
      refine lv_iconst (v := (1 : Int32)) hx hb dX5_sumOf_18 (by decide) ?_
      refine lv_icmp_ne (tgt := 32) hx hb dX5_sumOf_19 (by decide) (fun c2 => ?_) (fun c2 => ?_)
      · replace ho := ite_f c2 ho
        obtain ⟨x3, ex3, ho⟩ := nm_x ho
        refine lv_iinc (v := x3) (lv' := [(4, .int x3), (0, .ref (am 2005)), (1, .int v1), (2, .int v2), (3, .int v3)]) hx hb dX5_sumOf_32 hl (k := 4) rfl (by rw [ex3]; rfl) (by decide) rfl (fun ls hl => ?_)
        clear ex3
        refine lv_goto (tgt := 5) hx hb dX5_sumOf_35 (by decide) ?_
        cases ho
        exact ih _ _ hrun _ _ _ hW (lv_sub hl [1, 2, 3, 4, 0] rfl)
      · replace ho := ite_t c2 ho
        refine lv_iload_n hx hb dX5_sumOf_22 rfl (lv_at hl 3 rfl) ?_
        refine lv_aload_n hx hb dX5_sumOf_23 rfl (lv_at hl 0 rfl) ?_
        refine lv_iload hx hb dX5_sumOf_24 (lv_at hl 4 rfl) ?_
        refine lv_iload_n hx hb dX5_sumOf_26 rfl (lv_at hl 2 rfl) ?_
        obtain ⟨q4, hc5, ho⟩ := bd_some ho
        refine bkI C0.1 hW (runVX (As := [.int v4, .int v2]) (rest := [.int v3]) C0 hW (c_x5_get l _ t v4 v2 (r := q4) hc5) cb_X5_X5_get_24 5 5 rfl rfl rfl rfl rfl ⟨rfl, rfl⟩ ⟨Nat.le_of_ble_eq_true rfl, Nat.le_of_ble_eq_true rfl⟩ (Nat.le_of_ble_eq_true rfl) hl.1 dX5_sumOf_27 ⟨Nat.le_of_ble_eq_true rfl, Nat.le_of_ble_eq_true rfl⟩) (fun H locs hW => ?_)
        refine lv_iadd hx hb dX5_sumOf_30 ?_
        refine lv_nmi ho (fun x6 ho => ?_)
        refine lv_istore_n (lv' := [(3, .int x6), (0, .ref (am 2005)), (1, .int v1), (2, .int v2), (4, .int v4)]) hx hb dX5_sumOf_31 rfl hl (by decide) rfl (fun ls hl => ?_)
        obtain ⟨x7, ex7, ho⟩ := nm_x ho
        refine lv_iinc (v := x7) (lv' := [(4, .int x7), (3, .int x6), (0, .ref (am 2005)), (1, .int v1), (2, .int v2)]) hx hb dX5_sumOf_32 hl (k := 4) rfl (by rw [ex7]; rfl) (by decide) rfl (fun ls hl => ?_)
        clear ex7
        refine lv_goto (tgt := 5) hx hb dX5_sumOf_35 (by decide) ?_
        cases ho
        exact ih _ _ hrun _ _ _ hW (lv_sub hl [2, 3, 4, 1, 0] rfl)
set_option maxHeartbeats 4000000 in
set_option maxRecDepth 100000 in
theorem c_x5_sumOf (l : Launch) {D : va_G} {cI cJ cZ cR : ClassId} {am gm : Nat → Nat} {st : Nat} (sz : Nat) (t : St) (a1 : Int32) (a2 : Int32) {r : Int32} (ho : x5_sumOf t a1 a2 = some r) : Met l yX5_sumOf (.code yX5_sumOf cX5_sumOf 5 (some .int) :: wsAll) (rmN 1 22) (va_Pc [.ref (am 2005), .int a1, .int a2] (prX D (tyX cI cJ cZ cR) (wX cI cJ cZ cR am gm t) sz st)) (qI r D (tyX cI cJ cZ cR) (wX cI cJ cZ cR am gm t) (va_A (wX cI cJ cZ cR am gm t) sz)) 0 0 (va_A (wX cI cJ cZ cR am gm t) sz) := by
  refine Met.ofW (cc := cX5_sumOf) (maxL := 5) (ret := (some .int)) (by decide) rfl ?_
  intro p e s m args below meth c s₁ B hml hv
  obtain ⟨rfl, ⟨hsz, hP, hK, hD0⟩, hsx⟩ := hv
  have hx := B.exec
  have hb := B.bytes
  have hts := atoms_spec (ws := (.code yX5_sumOf cX5_sumOf 5 (some .int) :: wsAll)) B.pre
  have hta := fun w h => hts w (List.mem_cons_of_mem _ h)
  have hown : s.vm.findClass RX5 = some m.cls := findClass_of_methodNamed B.named
  have hlocks := B.notSynchronized
  subst hsz
  have hD := hD0.self (sz := s.heap.size)
  generalize hAe : va_A (wX cI cJ cZ cR am gm t) s.heap.size = A at hD ⊢
  have hA : ∀ q : Nat, s.heap.size ≤ q → A q := fun q h => by rw [← hAe]; exact Or.inr h
  have C0 : cxX p s m ([.ref (am 2005), .int a1, .int a2].toArray) meth c cX5_sumOf RX5 5 (some .int) D (tyX cI cJ cZ cR) st A := ⟨⟨hx, hb, B.returns, hml, hown, hta, hlocks, hK, hA⟩, by rw [← hAe]; exact hsx⟩
  have hW : wl D A s (wX cI cJ cZ cR am gm t) s.heap [] := ⟨hP, hD, va_S.rf⟩
  have hl := lv_entry [.ref (am 2005), .int a1, .int a2] (n := 5) (Nat.le_of_ble_eq_true rfl)
  rw [lg_entry_eq]
  generalize (lg_sl [.ref (am 2005), .int a1, .int a2] ++ List.replicate (5 - (lg_sl [.ref (am 2005), .int a1, .int a2]).length) Slot.unset).toArray = ls at hl ⊢
  have hl : lv_has ls 5 [(0, .ref (am 2005)), (1, .int a1), (2, .int a2)] := hl
  unfold x5_sumOf at ho
  refine lv_iconst (v := (0 : Int32)) hx hb dX5_sumOf_0 (by decide) ?_
  refine lv_istore_n (lv' := [(3, .int (0 : Int32)), (0, .ref (am 2005)), (1, .int a1), (2, .int a2)]) hx hb dX5_sumOf_1 rfl hl (by decide) rfl (fun ls hl => ?_)
  refine lv_iconst (v := (0 : Int32)) hx hb dX5_sumOf_2 (by decide) ?_
  refine lv_istore (lv' := [(4, .int (0 : Int32)), (3, .int (0 : Int32)), (0, .ref (am 2005)), (1, .int a1), (2, .int a2)]) hx hb dX5_sumOf_3 hl (by decide) rfl (fun ls hl => ?_)
  obtain ⟨y8, hc10, ho⟩ := bd_some ho
  obtain ⟨ny8, hc10⟩ := lp_to hc10
  refine x5_sumOf_L5 C0 ?_ ny8 _ _ hc10 _ _ _ hW (lv_sub hl [2, 3, 4, 1, 0] rfl)
  intro H locs ls hW hl
  refine lv_iload_n hx hb dX5_sumOf_38 rfl (lv_at hl 1 rfl) ?_
  cases ho
  exact rtI C0.1 hW dX5_sumOf_39
noncomputable def x10_firstLeast_B9 (t : St) (v1 : Int32) (v2 : Int32) (v3 : Int32) (v4 : Int32) : Option ((Int32 × Int32 × Int32) ⊕ (Int32)) :=
  if (gI t 1004) ≤ v4 then (some (.inr v2)) else (gd v4 (gN t 1002) ((x5_sumOf t (gA t 1002 (v4).toNatClampNeg) v1).bind (fun q3 => if v3 ≤ q3 then (nm (v4 + (1 : Int32)) (fun x6 : Int32 => some (.inl (v2, v3, x6)))) else (gd v4 (gN t 1002) (nm (gA t 1002 (v4).toNatClampNeg) (fun x8 : Int32 => nm (v4 + (1 : Int32)) (fun x9 : Int32 => some (.inl (x8, q3, x9)))))))))
noncomputable def x10_firstLeast (t : St) (a1 : Int32) : Option (Int32) :=
  (lp (fun x => x10_firstLeast_B9 t a1 x.1 x.2.1 x.2.2) ((0 : Int32), (16001 : Int32), (0 : Int32))).bind (fun y10 => some y10)
set_option maxHeartbeats 4000000 in
set_option maxRecDepth 100000 in
theorem x10_firstLeast_L9 {p : Program} {l : Launch} {e : Env} {s : State} {m : MethodId} {args : Array Value} {below : List Frame} {meth : Method} {c : Code} {Q : State → Prop} {D : va_G} {cI cJ cZ cR : ClassId} {am gm : Nat → Nat} {st : Nat} {A : Nat → Prop} (C0 : cxX p s m args meth c cX10_firstLeast RX10 6 (some .int) D (tyX cI cJ cZ cR) st A) {t : St} {v1 : Int32} {y : Int32} (hK0 : ∀ (H : Heap) (locs : List Loc) (ls : Array Slot), wl D A s (wX cI cJ cZ cR am gm t) H locs → lv_has ls 6 [(0, .ref (am 2010)), (2, .int y)] → W p l e (rmN 2 46) s m args below meth c H locs 0 0 Q (F0 m 58 ls [])) :
    ∀ (n : Nat) (v2 : Int32) (v3 : Int32) (v4 : Int32), lpn (fun x => x10_firstLeast_B9 t v1 x.1 x.2.1 x.2.2) n (v2, v3, v4) = some y → ∀ (H : Heap) (locs : List Loc) (ls : Array Slot), wl D A s (wX cI cJ cZ cR am gm t) H locs → lv_has ls 6 [(0, .ref (am 2010)), (1, .int v1), (2, .int v2), (3, .int v3), (4, .int v4)] → W p l e (rmN 2 46) s m args below meth c H locs 0 0 Q (F0 m 9 ls []) := by
  have hx := C0.1.1
  have hb := C0.1.2.1
  have hta := C0.1.2.2.2.2.2.1
  have hown := C0.1.2.2.2.2.1
  intro n
  induction n with
  | zero => intro _ _ _ h; cases h
  | succ n ih =>
    intro v2 v3 v4 hrun H locs ls hW hl
    obtain ⟨o, ho, hrun⟩ := bd_some hrun
    unfold x10_firstLeast_B9 at ho
    refine lv_iload hx hb dX10_firstLeast_9 (lv_at hl 4 rfl) ?_
    refine lv_aload_n hx hb dX10_firstLeast_11 rfl (lv_at hl 0 rfl) ?_
    refine xGET_1004 C0 kw_336 hW dX10_firstLeast_12 ?_
    refine lv_icmp_ge (tgt := 58) hx hb dX10_firstLeast_15 (by decide) (fun c1 => ?_) (fun c1 => ?_)
    · replace ho := ite_t c1 ho
      cases ho
      cases hrun
      exact hK0 _ _ _ hW (lv_sub hl [0, 2] rfl)
    · replace ho := ite_f c1 ho
      refine lv_aload_n hx hb dX10_firstLeast_18 rfl (lv_at hl 0 rfl) ?_
      refine xGET_1000 C0 kw_330 hW dX10_firstLeast_19 ?_
      refine lv_aload_n hx hb dX10_firstLeast_22 rfl (lv_at hl 0 rfl) ?_
      refine xGET_1002 C0 kw_332 hW dX10_firstLeast_23 ?_
      refine lv_iload hx hb dX10_firstLeast_26 (lv_at hl 4 rfl) ?_
      obtain ⟨g2, ho⟩ := gd_some ho
      refine xLD_1002 C0 hW g2 dX10_firstLeast_28 ?_
      refine lv_iload_n hx hb dX10_firstLeast_29 rfl (lv_at hl 1 rfl) ?_
      obtain ⟨q3, hc4, ho⟩ := bd_some ho
      refine bkI C0.1 hW (runVX (As := [.int (gA t 1002 (v4).toNatClampNeg), .int v1]) (rest := []) C0 hW (c_x5_sumOf l _ t (gA t 1002 (v4).toNatClampNeg) v1 (r := q3) hc4) cb_X10_X5_sumOf_80 5 5 rfl rfl rfl rfl rfl ⟨rfl, rfl⟩ ⟨Nat.le_of_ble_eq_true rfl, Nat.le_of_ble_eq_true rfl⟩ (Nat.le_of_ble_eq_true rfl) hl.1 dX10_firstLeast_30 ⟨Nat.le_of_ble_eq_true rfl, Nat.le_of_ble_eq_true rfl⟩) (fun H locs hW => ?_)
      refine lv_istore (lv' := [(5, .int q3), (0, .ref (am 2010)), (1, .int v1), (2, .int v2), (3, .int v3), (4, .int v4)]) hx hb dX10_firstLeast_33 hl (by decide) rfl (fun ls hl => ?_)
      refine lv_iload hx hb dX10_firstLeast_35 (lv_at hl 0 rfl) ?_
      refine lv_iload_n hx hb dX10_firstLeast_37 rfl (lv_at hl 4 rfl) ?_
      refine lv_icmp_ge (tgt := 52) hx hb dX10_firstLeast_38 (by decide) (fun c5 => ?_) (fun c5 => ?_)
      · replace ho := ite_t c5 ho
        obtain ⟨x6, ex6, ho⟩ := nm_x ho
        refine lv_iinc (v := x6) (lv' := [(4, .int x6), (5, .int q3), (0, .ref (am 2010)), (1, .int v1), (2, .int v2), (3, .int v3)]) hx hb dX10_firstLeast_52 hl (k := 5) rfl (by rw [ex6]; rfl) (by decide) rfl (fun ls hl => ?_)
        clear ex6
        refine lv_goto (tgt := 9) hx hb dX10_firstLeast_55 (by decide) ?_
        cases ho
        exact ih _ _ _ hrun _ _ _ hW (lv_sub hl [2, 3, 4, 5, 0] rfl)
      · replace ho := ite_f c5 ho
        refine lv_iload hx hb dX10_firstLeast_41 (lv_at hl 0 rfl) ?_
        refine lv_istore_n (lv' := [(3, .int q3), (5, .int q3), (0, .ref (am 2010)), (1, .int v1), (2, .int v2), (4, .int v4)]) hx hb dX10_firstLeast_43 rfl hl (by decide) rfl (fun ls hl => ?_)
        refine lv_aload_n hx hb dX10_firstLeast_44 rfl (lv_at hl 2 rfl) ?_
        refine xGET_1002 C0 kw_332 hW dX10_firstLeast_45 ?_
        refine lv_iload hx hb dX10_firstLeast_48 (lv_at hl 5 rfl) ?_
        obtain ⟨g7, ho⟩ := gd_some ho
        refine xLD_1002 C0 hW g7 dX10_firstLeast_50 ?_
        refine lv_nmi ho (fun x8 ho => ?_)
        refine lv_istore_n (lv' := [(2, .int x8), (3, .int q3), (5, .int q3), (0, .ref (am 2010)), (1, .int v1), (4, .int v4)]) hx hb dX10_firstLeast_51 rfl hl (by decide) rfl (fun ls hl => ?_)
        obtain ⟨x9, ex9, ho⟩ := nm_x ho
        refine lv_iinc (v := x9) (lv' := [(4, .int x9), (2, .int x8), (3, .int q3), (5, .int q3), (0, .ref (am 2010)), (1, .int v1)]) hx hb dX10_firstLeast_52 hl (k := 5) rfl (by rw [ex9]; rfl) (by decide) rfl (fun ls hl => ?_)
        clear ex9
        refine lv_goto (tgt := 9) hx hb dX10_firstLeast_55 (by decide) ?_
        cases ho
        exact ih _ _ _ hrun _ _ _ hW (lv_sub hl [4, 5, 1, 2, 0] rfl)
set_option maxHeartbeats 4000000 in
set_option maxRecDepth 100000 in
theorem c_x10_firstLeast (l : Launch) {D : va_G} {cI cJ cZ cR : ClassId} {am gm : Nat → Nat} {st : Nat} (sz : Nat) (t : St) (a1 : Int32) {r : Int32} (ho : x10_firstLeast t a1 = some r) : Met l yX10_firstLeast (.code yX10_firstLeast cX10_firstLeast 6 (some .int) :: wsAll) (rmN 2 46) (va_Pc [.ref (am 2010), .int a1] (prX D (tyX cI cJ cZ cR) (wX cI cJ cZ cR am gm t) sz st)) (qI r D (tyX cI cJ cZ cR) (wX cI cJ cZ cR am gm t) (va_A (wX cI cJ cZ cR am gm t) sz)) 0 0 (va_A (wX cI cJ cZ cR am gm t) sz) := by
  refine Met.ofW (cc := cX10_firstLeast) (maxL := 6) (ret := (some .int)) (by decide) rfl ?_
  intro p e s m args below meth c s₁ B hml hv
  obtain ⟨rfl, ⟨hsz, hP, hK, hD0⟩, hsx⟩ := hv
  have hx := B.exec
  have hb := B.bytes
  have hts := atoms_spec (ws := (.code yX10_firstLeast cX10_firstLeast 6 (some .int) :: wsAll)) B.pre
  have hta := fun w h => hts w (List.mem_cons_of_mem _ h)
  have hown : s.vm.findClass RX10 = some m.cls := findClass_of_methodNamed B.named
  have hlocks := B.notSynchronized
  subst hsz
  have hD := hD0.self (sz := s.heap.size)
  generalize hAe : va_A (wX cI cJ cZ cR am gm t) s.heap.size = A at hD ⊢
  have hA : ∀ q : Nat, s.heap.size ≤ q → A q := fun q h => by rw [← hAe]; exact Or.inr h
  have C0 : cxX p s m ([.ref (am 2010), .int a1].toArray) meth c cX10_firstLeast RX10 6 (some .int) D (tyX cI cJ cZ cR) st A := ⟨⟨hx, hb, B.returns, hml, hown, hta, hlocks, hK, hA⟩, by rw [← hAe]; exact hsx⟩
  have hW : wl D A s (wX cI cJ cZ cR am gm t) s.heap [] := ⟨hP, hD, va_S.rf⟩
  have hl := lv_entry [.ref (am 2010), .int a1] (n := 6) (Nat.le_of_ble_eq_true rfl)
  rw [lg_entry_eq]
  generalize (lg_sl [.ref (am 2010), .int a1] ++ List.replicate (6 - (lg_sl [.ref (am 2010), .int a1]).length) Slot.unset).toArray = ls at hl ⊢
  have hl : lv_has ls 6 [(0, .ref (am 2010)), (1, .int a1)] := hl
  unfold x10_firstLeast at ho
  refine lv_iconst (v := (0 : Int32)) hx hb dX10_firstLeast_0 (by decide) ?_
  refine lv_istore_n (lv' := [(2, .int (0 : Int32)), (0, .ref (am 2010)), (1, .int a1)]) hx hb dX10_firstLeast_1 rfl hl (by decide) rfl (fun ls hl => ?_)
  refine lv_sipush (v := (16001 : Int32)) hx hb dX10_firstLeast_2 (by decide) ?_
  refine lv_istore_n (lv' := [(3, .int (16001 : Int32)), (2, .int (0 : Int32)), (0, .ref (am 2010)), (1, .int a1)]) hx hb dX10_firstLeast_5 rfl hl (by decide) rfl (fun ls hl => ?_)
  refine lv_iconst (v := (0 : Int32)) hx hb dX10_firstLeast_6 (by decide) ?_
  refine lv_istore (lv' := [(4, .int (0 : Int32)), (3, .int (16001 : Int32)), (2, .int (0 : Int32)), (0, .ref (am 2010)), (1, .int a1)]) hx hb dX10_firstLeast_7 hl (by decide) rfl (fun ls hl => ?_)
  obtain ⟨y10, hc12, ho⟩ := bd_some ho
  obtain ⟨ny10, hc12⟩ := lp_to hc12
  refine x10_firstLeast_L9 C0 ?_ ny10 _ _ _ hc12 _ _ _ hW (lv_sub hl [3, 4, 2, 1, 0] rfl)
  intro H locs ls hW hl
  refine lv_iload_n hx hb dX10_firstLeast_58 rfl (lv_at hl 1 rfl) ?_
  cases ho
  exact rtI C0.1 hW dX10_firstLeast_59
noncomputable def x11_leastWay_J44 (t : St) (v2 : Int32) (w0 : Int32) : Option (Int32 × St) :=
  if w0 = 0 then (some ((-5 : Int32), t)) else ((x10_firstLeast t v2).bind (fun q2 => some (q2, t)))
theorem mm_x11_leastWay_J44 (t : St) (v2 : Int32) (w0 : Int32) : MR (x11_leastWay_J44 t v2 w0) t (fun (a : Int32 × St) => a.2) := by
  unfold x11_leastWay_J44
  exact MR_ite (MR_some mle.rfl) (MR_bindn (fun q2 => MR_some mle.rfl))
noncomputable def x11_leastWay (t0 : St) (a1 : Int32) (a2 : Int32) : Option (Int32 × St) :=
  (x11_noNet t0 a1).bind (fun q4 => if q4 = 0 then ((x11_outside t0 a2 (0 : Int32) (1 : Int32)).bind (fun q8 => if q8 = 0 then (gd a1 (gN t0 602) (nm (gA t0 602 (a1).toNatClampNeg) (fun x13 : Int32 => if 0 ≤ x13 then ((x10_listAll t0 x13).bind (fun q15 => x11_leastWay_J44 q15.2 a2 q15.1)) else (some ((-3 : Int32), t0))))) else (some ((-2 : Int32), t0)))) else (some ((-2 : Int32), t0)))
theorem mm_x11_leastWay (t0 : St) (a1 : Int32) (a2 : Int32) : MR (x11_leastWay t0 a1 a2) t0 (fun (a : Int32 × St) => a.2) := by
  unfold x11_leastWay
  exact MR_bindn (fun q4 => MR_ite (MR_bindn (fun q8 => MR_ite (MR_gd (MR_nm (fun x13 _ => MR_ite (MR_bind (mm_x10_listAll t0 x13) (fun q15 hq15 => MR_wk hq15 (mm_x11_leastWay_J44 q15.2 a2 q15.1))) (MR_some mle.rfl)))) (MR_some mle.rfl))) (MR_some mle.rfl))
set_option maxHeartbeats 4000000 in
set_option maxRecDepth 100000 in
theorem c_x11_leastWay (l : Launch) {D : va_G} {cI cJ cZ cR : ClassId} {am gm : Nat → Nat} {st : Nat} (sz : Nat) (t0 : St) (a1 : Int32) (a2 : Int32) {r : Int32} {t' : St} (ho : x11_leastWay t0 a1 a2 = some (r, t')) : Met l yX11_leastWay (.code yX11_leastWay cX11_leastWay 4 (some .int) :: wsAll) (rmA 5 118 t0 t') (va_Pc [.ref (am 2011), .int a1, .int a2] (prX D (tyX cI cJ cZ cR) (wX cI cJ cZ cR am gm t0) sz st)) (qIa r D (tyX cI cJ cZ cR) (fun gm => wX cI cJ cZ cR am gm t') (va_A (wX cI cJ cZ cR am gm t0) sz)) (mC t0 t') (mS t0 t') (va_A (wX cI cJ cZ cR am gm t0) sz) := by
  refine Met.ofW (cc := cX11_leastWay) (maxL := 4) (ret := (some .int)) (by decide) rfl ?_
  intro p e s m args below meth c s₁ B hml hv
  obtain ⟨rfl, ⟨hsz, hP, hK, hD0⟩, hsx⟩ := hv
  have hx := B.exec
  have hb := B.bytes
  have hts := atoms_spec (ws := (.code yX11_leastWay cX11_leastWay 4 (some .int) :: wsAll)) B.pre
  have hta := fun w h => hts w (List.mem_cons_of_mem _ h)
  have hown : s.vm.findClass RX11 = some m.cls := findClass_of_methodNamed B.named
  have hlocks := B.notSynchronized
  subst hsz
  have hD := hD0.self (sz := s.heap.size)
  generalize hAe : va_A (wX cI cJ cZ cR am gm t0) s.heap.size = A at hD ⊢
  have hA : ∀ q : Nat, s.heap.size ≤ q → A q := fun q h => by rw [← hAe]; exact Or.inr h
  have C0 : cxX p s m ([.ref (am 2011), .int a1, .int a2].toArray) meth c cX11_leastWay RX11 4 (some .int) D (tyX cI cJ cZ cR) st A := ⟨⟨hx, hb, B.returns, hml, hown, hta, hlocks, hK, hA⟩, by rw [← hAe]; exact hsx⟩
  have hW : wl D A s (wX cI cJ cZ cR am gm t0) s.heap [] := ⟨hP, hD, va_S.rf⟩
  have hl := lv_entry [.ref (am 2011), .int a1, .int a2] (n := 4) (Nat.le_of_ble_eq_true rfl)
  rw [lg_entry_eq]
  generalize (lg_sl [.ref (am 2011), .int a1, .int a2] ++ List.replicate (4 - (lg_sl [.ref (am 2011), .int a1, .int a2]).length) Slot.unset).toArray = ls at hl ⊢
  have hl : lv_has ls 4 [(0, .ref (am 2011)), (1, .int a1), (2, .int a2)] := hl
  clear hAe hD hP hD0 hts
  have J44 : ∀ (gm : Nat → Nat) (t : St) (v2 : Int32) (w0 : Int32) (_ : x11_leastWay_J44 t v2 w0 = some (r, t')) (_ : mle t0 t) (H : Heap) (locs : List Loc) (ls : Array Slot), wl D A s (wX cI cJ cZ cR am gm t) H locs → lv_has ls 4 [(0, .ref (am 2011)), (2, .int v2)] → W p l e (rmA 5 118 t0 t') s m ([.ref (am 2011), .int a1, .int a2].toArray) below meth c H locs (mC t0 t) (mS t0 t) (MQ below (qIa r D (tyX cI cJ cZ cR) (fun gm => wX cI cJ cZ cR am gm t') A) ([.ref (am 2011), .int a1, .int a2].toArray) s (mC t0 t') (mS t0 t') A) (F0 m 44 ls [.int w0]) := by
    intro gm t v2 w0 ho h0 H locs ls hW hl
    have hE : mle t t' := (mm_x11_leastWay_J44 _ _ _ _ ho)
    have hR := hR_of (t0 := t0) hE
    unfold x11_leastWay_J44 at ho
    refine lv_if_eq (tgt := 58) hx hb dX11_leastWay_44 (by decide) (fun c1 => ?_) (fun c1 => ?_)
    · replace ho := ite_t c1 ho
      refine lv_bipush (v := (-5 : Int32)) hx hb dX11_leastWay_58 (by decide) ?_
      cases ho
      exact rtIa gm C0.1 hW dX11_leastWay_60
    · replace ho := ite_f c1 ho
      refine lv_aload_n hx hb dX11_leastWay_47 rfl (lv_at hl 0 rfl) ?_
      refine xGET_1104 C0 kw_595 hW dX11_leastWay_48 ?_
      refine lv_iload_n hx hb dX11_leastWay_51 rfl (lv_at hl 1 rfl) ?_
      obtain ⟨q2, hc3, ho⟩ := bd_some ho
      refine bkI C0.1 hW (runVX (As := [.int v2]) (rest := []) C0 hW (c_x10_firstLeast l _ t v2 (r := q2) hc3) cb_X11_X10_firstLeast_182 10 10 rfl rfl rfl rfl rfl ⟨rfl, rfl⟩ ⟨Nat.le_of_ble_eq_true rfl, Nat.le_of_ble_eq_true rfl⟩ (Nat.le_of_ble_eq_true rfl) hl.1 dX11_leastWay_52 ⟨hR.1, hR.2⟩) (fun H locs hW => ?_)
      refine lv_goto (tgt := 60) hx hb dX11_leastWay_55 (by decide) ?_
      cases ho
      exact rtIa gm C0.1 hW dX11_leastWay_60
  have hE : mle t0 t' := mm_x11_leastWay _ _ _ _ ho
  have hR := hR_of (t0 := t0) hE
  have h0 : mle t0 t0 := mle.rfl
  refine W_0 (t0 := t0) ?_
  unfold x11_leastWay at ho
  refine lv_iload_n hx hb dX11_leastWay_0 rfl (lv_at hl 1 rfl) ?_
  obtain ⟨q4, hc5, ho⟩ := bd_some ho
  refine bkZ C0.1 hW (runSX (As := [.int a1]) (rest := []) C0 hW (c_x11_noNet l _ t0 a1 (r := q4) hc5) cb_X11_X11_noNet_124 rfl rfl ⟨rfl, rfl⟩ ⟨Nat.le_of_ble_eq_true rfl, Nat.le_of_ble_eq_true rfl⟩ (Nat.le_of_ble_eq_true rfl) hl.1 dX11_leastWay_1 ⟨hR.1, hR.2⟩) (fun z6 H locs hW => ?_)
  refine lv_if_ne (tgt := 16) hx hb dX11_leastWay_4 (by decide) (fun c7 => ?_) (fun c7 => ?_)
  · replace ho := ite_f c7 ho
    refine lv_bipush (v := (-2 : Int32)) hx hb dX11_leastWay_16 (by decide) ?_
    cases ho
    exact rtIa gm C0.1 hW dX11_leastWay_18
  · replace ho := ite_t c7 ho
    refine lv_iload_n hx hb dX11_leastWay_7 rfl (lv_at hl 2 rfl) ?_
    refine lv_iconst (v := (0 : Int32)) hx hb dX11_leastWay_8 (by decide) ?_
    refine lv_iconst (v := (1 : Int32)) hx hb dX11_leastWay_9 (by decide) ?_
    obtain ⟨q8, hc9, ho⟩ := bd_some ho
    refine bkZ C0.1 hW (runSX (As := [.int a2, .int (0 : Int32), .int (1 : Int32)]) (rest := []) C0 hW (c_x11_outside l _ t0 a2 (0 : Int32) (1 : Int32) (r := q8) hc9) cb_X11_X11_outside_102 rfl rfl ⟨rfl, rfl⟩ ⟨Nat.le_of_ble_eq_true rfl, Nat.le_of_ble_eq_true rfl⟩ (Nat.le_of_ble_eq_true rfl) hl.1 dX11_leastWay_10 ⟨hR.1, hR.2⟩) (fun z10 H locs hW => ?_)
    refine lv_if_eq (tgt := 19) hx hb dX11_leastWay_13 (by decide) (fun c11 => ?_) (fun c11 => ?_)
    · replace ho := ite_t c11 ho
      refine lv_aload_n hx hb dX11_leastWay_19 rfl (lv_at hl 0 rfl) ?_
      refine xGET_1101 C0 kw_592 hW dX11_leastWay_20 ?_
      refine xGET_602 C0 kw_184 hW dX11_leastWay_23 ?_
      refine lv_iload_n hx hb dX11_leastWay_26 rfl (lv_at hl 1 rfl) ?_
      obtain ⟨g12, ho⟩ := gd_some ho
      refine xLD_602 C0 hW g12 dX11_leastWay_27 ?_
      refine lv_nmi ho (fun x13 ho => ?_)
      refine lv_istore_n (lv' := [(3, .int x13), (0, .ref (am 2011)), (1, .int a1), (2, .int a2)]) hx hb dX11_leastWay_28 rfl hl (by decide) rfl (fun ls hl => ?_)
      refine lv_iload_n hx hb dX11_leastWay_29 rfl (lv_at hl 0 rfl) ?_
      refine lv_if_ge (tgt := 36) hx hb dX11_leastWay_30 (by decide) (fun c14 => ?_) (fun c14 => ?_)
      · replace ho := ite_t c14 ho
        refine lv_aload_n hx hb dX11_leastWay_36 rfl (lv_at hl 1 rfl) ?_
        refine xGET_1104 C0 kw_595 hW dX11_leastWay_37 ?_
        refine lv_iload_n hx hb dX11_leastWay_40 rfl (lv_at hl 0 rfl) ?_
        obtain ⟨q15, hc16, ho⟩ := bd_some ho
        have hq15 := mm_x10_listAll t0 x13 _ hc16
        have hEq15 := (mm_x11_leastWay_J44 _ _ _ _ ho)
        refine bkZa C0.1 hW h0 hq15 (runVX (As := [.int x13]) (rest := []) C0 hW (c_x10_listAll l _ t0 x13 (r := q15.1) (t' := q15.2) hc16) cb_X11_X10_listAll_167 10 10 rfl rfl rfl rfl rfl ⟨rfl, rfl⟩ ⟨Nat.le_of_ble_eq_true rfl, Nat.le_of_ble_eq_true rfl⟩ (Nat.le_of_ble_eq_true rfl) hl.1 dX11_leastWay_41 (hf_of h0 hq15 hEq15)) (fun z17 gm H locs hW => ?_)
        have h0 := mle.trans h0 hq15
        exact J44 gm _ _ _ ho h0 _ _ _ hW (lv_sub hl [1, 3] rfl)
      · replace ho := ite_f c14 ho
        refine lv_bipush (v := (-3 : Int32)) hx hb dX11_leastWay_33 (by decide) ?_
        cases ho
        exact rtIa gm C0.1 hW dX11_leastWay_35
    · replace ho := ite_f c11 ho
      refine lv_bipush (v := (-2 : Int32)) hx hb dX11_leastWay_16 (by decide) ?_
      cases ho
      exact rtIa gm C0.1 hW dX11_leastWay_18
noncomputable def x11_least_J6 (t : St) (v2 : Int32) (w0 : Int32) : Option (Int32 × St) :=
  if 0 ≤ w0 then ((x5_sumOf t w0 v2).bind (fun q2 => some (q2, t))) else (some (w0, t))
theorem mm_x11_least_J6 (t : St) (v2 : Int32) (w0 : Int32) : MR (x11_least_J6 t v2 w0) t (fun (a : Int32 × St) => a.2) := by
  unfold x11_least_J6
  exact MR_ite (MR_bindn (fun q2 => MR_some mle.rfl)) (MR_some mle.rfl)
noncomputable def x11_least (t0 : St) (a1 : Int32) (a2 : Int32) : Option (Int32 × St) :=
  (x11_leastWay t0 a1 a2).bind (fun q4 => x11_least_J6 q4.2 a2 q4.1)
theorem mm_x11_least (t0 : St) (a1 : Int32) (a2 : Int32) : MR (x11_least t0 a1 a2) t0 (fun (a : Int32 × St) => a.2) := by
  unfold x11_least
  exact MR_bind (mm_x11_leastWay t0 a1 a2) (fun q4 hq4 => MR_wk hq4 (mm_x11_least_J6 q4.2 a2 q4.1))
set_option maxHeartbeats 4000000 in
set_option maxRecDepth 100000 in
theorem c_x11_least (l : Launch) {D : va_G} {cI cJ cZ cR : ClassId} {am gm : Nat → Nat} {st : Nat} (sz : Nat) (t0 : St) (a1 : Int32) (a2 : Int32) {r : Int32} {t' : St} (ho : x11_least t0 a1 a2 = some (r, t')) : Met l yX11_least (.code yX11_least cX11_least 4 (some .int) :: wsAll) (rmA 6 141 t0 t') (va_Pc [.ref (am 2011), .int a1, .int a2] (prX D (tyX cI cJ cZ cR) (wX cI cJ cZ cR am gm t0) sz st)) (qIa r D (tyX cI cJ cZ cR) (fun gm => wX cI cJ cZ cR am gm t') (va_A (wX cI cJ cZ cR am gm t0) sz)) (mC t0 t') (mS t0 t') (va_A (wX cI cJ cZ cR am gm t0) sz) := by
  refine Met.ofW (cc := cX11_least) (maxL := 4) (ret := (some .int)) (by decide) rfl ?_
  intro p e s m args below meth c s₁ B hml hv
  obtain ⟨rfl, ⟨hsz, hP, hK, hD0⟩, hsx⟩ := hv
  have hx := B.exec
  have hb := B.bytes
  have hts := atoms_spec (ws := (.code yX11_least cX11_least 4 (some .int) :: wsAll)) B.pre
  have hta := fun w h => hts w (List.mem_cons_of_mem _ h)
  have hown : s.vm.findClass RX11 = some m.cls := findClass_of_methodNamed B.named
  have hlocks := B.notSynchronized
  subst hsz
  have hD := hD0.self (sz := s.heap.size)
  generalize hAe : va_A (wX cI cJ cZ cR am gm t0) s.heap.size = A at hD ⊢
  have hA : ∀ q : Nat, s.heap.size ≤ q → A q := fun q h => by rw [← hAe]; exact Or.inr h
  have C0 : cxX p s m ([.ref (am 2011), .int a1, .int a2].toArray) meth c cX11_least RX11 4 (some .int) D (tyX cI cJ cZ cR) st A := ⟨⟨hx, hb, B.returns, hml, hown, hta, hlocks, hK, hA⟩, by rw [← hAe]; exact hsx⟩
  have hW : wl D A s (wX cI cJ cZ cR am gm t0) s.heap [] := ⟨hP, hD, va_S.rf⟩
  have hl := lv_entry [.ref (am 2011), .int a1, .int a2] (n := 4) (Nat.le_of_ble_eq_true rfl)
  rw [lg_entry_eq]
  generalize (lg_sl [.ref (am 2011), .int a1, .int a2] ++ List.replicate (4 - (lg_sl [.ref (am 2011), .int a1, .int a2]).length) Slot.unset).toArray = ls at hl ⊢
  have hl : lv_has ls 4 [(0, .ref (am 2011)), (1, .int a1), (2, .int a2)] := hl
  clear hAe hD hP hD0 hts
  have J6 : ∀ (gm : Nat → Nat) (t : St) (v2 : Int32) (w0 : Int32) (_ : x11_least_J6 t v2 w0 = some (r, t')) (_ : mle t0 t) (H : Heap) (locs : List Loc) (ls : Array Slot), wl D A s (wX cI cJ cZ cR am gm t) H locs → lv_has ls 4 [(0, .ref (am 2011)), (2, .int v2)] → W p l e (rmA 6 141 t0 t') s m ([.ref (am 2011), .int a1, .int a2].toArray) below meth c H locs (mC t0 t) (mS t0 t) (MQ below (qIa r D (tyX cI cJ cZ cR) (fun gm => wX cI cJ cZ cR am gm t') A) ([.ref (am 2011), .int a1, .int a2].toArray) s (mC t0 t') (mS t0 t') A) (F0 m 6 ls [.int w0]) := by
    intro gm t v2 w0 ho h0 H locs ls hW hl
    have hE : mle t t' := (mm_x11_least_J6 _ _ _ _ ho)
    have hR := hR_of (t0 := t0) hE
    unfold x11_least_J6 at ho
    refine lv_istore_n (lv' := [(3, .int w0), (0, .ref (am 2011)), (2, .int v2)]) hx hb dX11_least_6 rfl hl (by decide) rfl (fun ls hl => ?_)
    refine lv_iload_n hx hb dX11_least_7 rfl (lv_at hl 0 rfl) ?_
    refine lv_if_ge (tgt := 15) hx hb dX11_least_8 (by decide) (fun c1 => ?_) (fun c1 => ?_)
    · replace ho := ite_t c1 ho
      refine lv_aload_n hx hb dX11_least_15 rfl (lv_at hl 1 rfl) ?_
      refine xGET_1100 C0 kw_591 hW dX11_least_16 ?_
      refine lv_iload_n hx hb dX11_least_19 rfl (lv_at hl 0 rfl) ?_
      refine lv_iload_n hx hb dX11_least_20 rfl (lv_at hl 2 rfl) ?_
      obtain ⟨q2, hc3, ho⟩ := bd_some ho
      refine bkI C0.1 hW (runVX (As := [.int w0, .int v2]) (rest := []) C0 hW (c_x5_sumOf l _ t w0 v2 (r := q2) hc3) cb_X11_X5_sumOf_179 5 5 rfl rfl rfl rfl rfl ⟨rfl, rfl⟩ ⟨Nat.le_of_ble_eq_true rfl, Nat.le_of_ble_eq_true rfl⟩ (Nat.le_of_ble_eq_true rfl) hl.1 dX11_least_21 ⟨hR.1, hR.2⟩) (fun H locs hW => ?_)
      cases ho
      exact rtIa gm C0.1 hW dX11_least_24
    · replace ho := ite_f c1 ho
      refine lv_iload_n hx hb dX11_least_11 rfl (lv_at hl 0 rfl) ?_
      refine lv_goto (tgt := 24) hx hb dX11_least_12 (by decide) ?_
      cases ho
      exact rtIa gm C0.1 hW dX11_least_24
  have hE : mle t0 t' := mm_x11_least _ _ _ _ ho
  have hR := hR_of (t0 := t0) hE
  have h0 : mle t0 t0 := mle.rfl
  refine W_0 (t0 := t0) ?_
  unfold x11_least at ho
  refine lv_aload_n hx hb dX11_least_0 rfl (lv_at hl 0 rfl) ?_
  refine lv_iload_n hx hb dX11_least_1 rfl (lv_at hl 1 rfl) ?_
  refine lv_iload_n hx hb dX11_least_2 rfl (lv_at hl 2 rfl) ?_
  obtain ⟨q4, hc5, ho⟩ := bd_some ho
  have hq4 := mm_x11_leastWay t0 a1 a2 _ hc5
  have hEq4 := (mm_x11_least_J6 _ _ _ _ ho)
  refine bkIa C0.1 hW h0 hq4 (runVX (As := [.int a1, .int a2]) (rest := []) C0 hW (c_x11_leastWay l _ t0 a1 a2 (r := q4.1) (t' := q4.2) hc5) cb_X11_X11_leastWay_176 11 11 rfl rfl rfl rfl rfl ⟨rfl, rfl⟩ ⟨Nat.le_of_ble_eq_true rfl, Nat.le_of_ble_eq_true rfl⟩ (Nat.le_of_ble_eq_true rfl) hl.1 dX11_least_3 (hf_of h0 hq4 hEq4)) (fun gm H locs hW => ?_)
  have h0 := mle.trans h0 hq4
  exact J6 gm _ _ _ ho h0 _ _ _ hW (lv_sub hl [0, 2] rfl)
noncomputable def x6_risingAt_613_B15 (v1 : Int32) (v2 : Int32) (v3 : Int32) (v4 : Int32) (v5 : Int32) (t : St) : Option ((Int32 × St) ⊕ (Int32 × St)) :=
  if v5 ≤ 0 then (some (.inr (v5, t))) else (gd (v5 - (1 : Int32)) (gN t 613) (if (gA t 613 ((v5 - (1 : Int32))).toNatClampNeg) ≤ v4 then (some (.inr (v5, t))) else (gd (v5 - (1 : Int32)) (gN t 613) (gd v5 (gN t 613) (nm (sA t 613 v5 (gA t 613 ((v5 - (1 : Int32))).toNatClampNeg)) (fun t6 : St => nm (v5 + (-1 : Int32)) (fun x7 : Int32 => some (.inl (x7, t6)))))))))
theorem mm_x6_risingAt_613_B15 (v1 : Int32) (v2 : Int32) (v3 : Int32) (v4 : Int32) (v5 : Int32) (t : St) : MR (x6_risingAt_613_B15 v1 v2 v3 v4 v5 t) t (Sum.elim (fun (x : Int32 × St) => x.2) (fun (y : Int32 × St) => y.2)) := by
  unfold x6_risingAt_613_B15
  exact MR_ite (MR_some mle.rfl) (MR_gd (MR_ite (MR_some mle.rfl) (MR_gd (MR_gd (MR_nmS mle_sA (fun t6 ht6 => MR_nm (fun x7 _ => MR_some ht6)))))))
theorem mm_x6_risingAt_613_L15 (v1 : Int32) (v2 : Int32) (v3 : Int32) (v4 : Int32) (v5 : Int32) (t : St) : MR (lp (fun x => x6_risingAt_613_B15 v1 v2 v3 v4 x.1 x.2) (v5, t)) t (fun (y : Int32 × St) => y.2) := MR_lp (p := (fun (x : Int32 × St) => x.2)) (q := (fun (y : Int32 × St) => y.2)) (fun x => mm_x6_risingAt_613_B15 v1 v2 v3 v4 x.1 x.2) (v5, t)
noncomputable def x6_risingAt_613_B2 (v1 : Int32) (v2 : Int32) (v3 : Int32) (t : St) : Option ((Int32 × St) ⊕ (St)) :=
  if v1 ≤ v3 then (some (.inr t)) else (gd v3 (gN t 613) (nm (gA t 613 (v3).toNatClampNeg) (fun x10 : Int32 => (lp (fun x => x6_risingAt_613_B15 v1 v2 v3 x10 x.1 x.2) (v3, t)).bind (fun y11 => gd y11.1 (gN y11.2 613) (nm (sA y11.2 613 y11.1 x10) (fun t15 : St => nm (v3 + (1 : Int32)) (fun x16 : Int32 => some (.inl (x16, t15)))))))))
theorem mm_x6_risingAt_613_B2 (v1 : Int32) (v2 : Int32) (v3 : Int32) (t : St) : MR (x6_risingAt_613_B2 v1 v2 v3 t) t (Sum.elim (fun (x : Int32 × St) => x.2) (fun (y : St) => y)) := by
  unfold x6_risingAt_613_B2
  exact MR_ite (MR_some mle.rfl) (MR_gd (MR_nm (fun x10 _ => MR_bind (mm_x6_risingAt_613_L15 v1 v2 v3 x10 v3 t) (fun y11 hm12 => MR_gd (MR_nmS mle_sA (fun t15 ht15 => MR_nm (fun x16 _ => MR_some (mle.trans hm12 ht15))))))))
theorem mm_x6_risingAt_613_L2 (v1 : Int32) (v2 : Int32) (v3 : Int32) (t : St) : MR (lp (fun x => x6_risingAt_613_B2 v1 v2 x.1 x.2) (v3, t)) t (fun (y : St) => y) := MR_lp (p := (fun (x : Int32 × St) => x.2)) (q := (fun (y : St) => y)) (fun x => mm_x6_risingAt_613_B2 v1 v2 x.1 x.2) (v3, t)
noncomputable def x6_risingAt_613 (t : St) (a1 : Int32) (a2 : Int32) : Option (Int32 × St) :=
  (lp (fun x => x6_risingAt_613_B2 a1 a2 x.1 x.2) ((1 : Int32), t)).bind (fun y17 => gd (a2 - (1 : Int32)) (gN y17 613) (some ((gA y17 613 ((a2 - (1 : Int32))).toNatClampNeg), y17)))
theorem mm_x6_risingAt_613 (t : St) (a1 : Int32) (a2 : Int32) : MR (x6_risingAt_613 t a1 a2) t (fun (a : Int32 × St) => a.2) := by
  unfold x6_risingAt_613
  exact MR_bind (mm_x6_risingAt_613_L2 a1 a2 (1 : Int32) t) (fun y17 hm18 => MR_gd (MR_some hm18))
set_option maxHeartbeats 4000000 in
set_option maxRecDepth 100000 in
theorem x6_risingAt_613_L15 {p : Program} {l : Launch} {e : Env} {s : State} {m : MethodId} {args : Array Value} {below : List Frame} {meth : Method} {c : Code} {Q : State → Prop} {D : va_G} {cI cJ cZ cR : ClassId} {am gm : Nat → Nat} {st : Nat} {A : Nat → Prop} (C0 : cxX p s m args meth c cX6_risingAt RX6 6 (some .int) D (tyX cI cJ cZ cR) st A) {v1 : Int32} {v2 : Int32} {v3 : Int32} {v4 : Int32} {y : Int32 × St} (hK0 : ∀ (H : Heap) (locs : List Loc) (ls : Array Slot), wl D A s (wX cI cJ cZ cR am gm y.2) H locs → lv_has ls 6 [(0, .ref (am 613)), (1, .int v1), (2, .int v2), (3, .int v3), (4, .int v4), (5, .int y.1)] → W p l e (rmN 0 0) s m args below meth c H locs 0 0 Q (F0 m 47 ls [])) :
    ∀ (n : Nat) (v5 : Int32) (t : St), lpn (fun x => x6_risingAt_613_B15 v1 v2 v3 v4 x.1 x.2) n (v5, t) = some y → ∀ (H : Heap) (locs : List Loc) (ls : Array Slot), wl D A s (wX cI cJ cZ cR am gm t) H locs → lv_has ls 6 [(0, .ref (am 613)), (1, .int v1), (2, .int v2), (3, .int v3), (4, .int v4), (5, .int v5)] → W p l e (rmN 0 0) s m args below meth c H locs 0 0 Q (F0 m 15 ls []) := by
  have hx := C0.1.1
  have hb := C0.1.2.1
  have hta := C0.1.2.2.2.2.2.1
  have hown := C0.1.2.2.2.2.1
  intro n
  induction n with
  | zero => intro _ _ h; cases h
  | succ n ih =>
    intro v5 t hrun H locs ls hW hl
    obtain ⟨o, ho, hrun⟩ := bd_some hrun
    unfold x6_risingAt_613_B15 at ho
    refine lv_iload hx hb dX6_risingAt_15 (lv_at hl 5 rfl) ?_
    refine lv_if_le (tgt := 47) hx hb dX6_risingAt_17 (by decide) (fun c1 => ?_) (fun c1 => ?_)
    · replace ho := ite_t c1 ho
      cases ho
      cases hrun
      exact hK0 _ _ _ hW (lv_sub hl [0, 1, 2, 3, 4, 5] rfl)
    · replace ho := ite_f c1 ho
      refine lv_aload_n hx hb dX6_risingAt_20 rfl (lv_at hl 0 rfl) ?_
      refine lv_iload hx hb dX6_risingAt_21 (lv_at hl 5 rfl) ?_
      refine lv_iconst (v := (1 : Int32)) hx hb dX6_risingAt_23 (by decide) ?_
      refine lv_isub hx hb dX6_risingAt_24 ?_
      obtain ⟨g2, ho⟩ := gd_some ho
      refine xLD_613 C0 hW g2 dX6_risingAt_25 ?_
      refine lv_iload hx hb dX6_risingAt_26 (lv_at hl 4 rfl) ?_
      refine lv_icmp_le (tgt := 47) hx hb dX6_risingAt_28 (by decide) (fun c3 => ?_) (fun c3 => ?_)
      · replace ho := ite_t c3 ho
        cases ho
        cases hrun
        exact hK0 _ _ _ hW (lv_sub hl [0, 1, 2, 3, 4, 5] rfl)
      · replace ho := ite_f c3 ho
        refine lv_aload_n hx hb dX6_risingAt_31 rfl (lv_at hl 0 rfl) ?_
        refine lv_iload hx hb dX6_risingAt_32 (lv_at hl 5 rfl) ?_
        refine lv_aload_n hx hb dX6_risingAt_34 rfl (lv_at hl 0 rfl) ?_
        refine lv_iload hx hb dX6_risingAt_35 (lv_at hl 5 rfl) ?_
        refine lv_iconst (v := (1 : Int32)) hx hb dX6_risingAt_37 (by decide) ?_
        refine lv_isub hx hb dX6_risingAt_38 ?_
        obtain ⟨g4, ho⟩ := gd_some ho
        refine xLD_613 C0 hW g4 dX6_risingAt_39 ?_
        obtain ⟨g5, ho⟩ := gd_some ho
        refine xST_613 C0 hW g5 dX6_risingAt_40 (fun H locs hW => ?_)
        obtain ⟨t6, ho, hW⟩ := nm_w (P := fun t => wl D A s (wX cI cJ cZ cR am gm t) H locs) ho hW
        obtain ⟨x7, ex7, ho⟩ := nm_x ho
        refine lv_iinc (v := x7) (lv' := [(5, .int x7), (0, .ref (am 613)), (1, .int v1), (2, .int v2), (3, .int v3), (4, .int v4)]) hx hb dX6_risingAt_41 hl (k := 5) rfl (by rw [ex7]; rfl) (by decide) rfl (fun ls hl => ?_)
        clear ex7
        refine lv_goto (tgt := 15) hx hb dX6_risingAt_44 (by decide) ?_
        cases ho
        exact ih _ _ hrun _ _ _ hW (lv_sub hl [1, 2, 3, 4, 5, 0] rfl)
set_option maxHeartbeats 4000000 in
set_option maxRecDepth 100000 in
theorem x6_risingAt_613_L2 {p : Program} {l : Launch} {e : Env} {s : State} {m : MethodId} {args : Array Value} {below : List Frame} {meth : Method} {c : Code} {Q : State → Prop} {D : va_G} {cI cJ cZ cR : ClassId} {am gm : Nat → Nat} {st : Nat} {A : Nat → Prop} (C0 : cxX p s m args meth c cX6_risingAt RX6 6 (some .int) D (tyX cI cJ cZ cR) st A) {v1 : Int32} {v2 : Int32} {y : St} (hK0 : ∀ (H : Heap) (locs : List Loc) (ls : Array Slot), wl D A s (wX cI cJ cZ cR am gm y) H locs → lv_has ls 6 [(0, .ref (am 613)), (2, .int v2)] → W p l e (rmN 0 0) s m args below meth c H locs 0 0 Q (F0 m 59 ls [])) :
    ∀ (n : Nat) (v3 : Int32) (t : St), lpn (fun x => x6_risingAt_613_B2 v1 v2 x.1 x.2) n (v3, t) = some y → ∀ (H : Heap) (locs : List Loc) (ls : Array Slot), wl D A s (wX cI cJ cZ cR am gm t) H locs → lv_has ls 6 [(0, .ref (am 613)), (1, .int v1), (2, .int v2), (3, .int v3)] → W p l e (rmN 0 0) s m args below meth c H locs 0 0 Q (F0 m 2 ls []) := by
  have hx := C0.1.1
  have hb := C0.1.2.1
  have hta := C0.1.2.2.2.2.2.1
  have hown := C0.1.2.2.2.2.1
  intro n
  induction n with
  | zero => intro _ _ h; cases h
  | succ n ih =>
    intro v3 t hrun H locs ls hW hl
    obtain ⟨o, ho, hrun⟩ := bd_some hrun
    unfold x6_risingAt_613_B2 at ho
    refine lv_iload_n hx hb dX6_risingAt_2 rfl (lv_at hl 3 rfl) ?_
    refine lv_iload_n hx hb dX6_risingAt_3 rfl (lv_at hl 1 rfl) ?_
    refine lv_icmp_ge (tgt := 59) hx hb dX6_risingAt_4 (by decide) (fun c8 => ?_) (fun c8 => ?_)
    · replace ho := ite_t c8 ho
      cases ho
      cases hrun
      exact hK0 _ _ _ hW (lv_sub hl [0, 2] rfl)
    · replace ho := ite_f c8 ho
      refine lv_aload_n hx hb dX6_risingAt_7 rfl (lv_at hl 0 rfl) ?_
      refine lv_iload_n hx hb dX6_risingAt_8 rfl (lv_at hl 3 rfl) ?_
      obtain ⟨g9, ho⟩ := gd_some ho
      refine xLD_613 C0 hW g9 dX6_risingAt_9 ?_
      refine lv_nmi ho (fun x10 ho => ?_)
      refine lv_istore (lv' := [(4, .int x10), (0, .ref (am 613)), (1, .int v1), (2, .int v2), (3, .int v3)]) hx hb dX6_risingAt_10 hl (by decide) rfl (fun ls hl => ?_)
      refine lv_iload_n hx hb dX6_risingAt_12 rfl (lv_at hl 4 rfl) ?_
      refine lv_istore (lv' := [(5, .int v3), (4, .int x10), (0, .ref (am 613)), (1, .int v1), (2, .int v2), (3, .int v3)]) hx hb dX6_risingAt_13 hl (by decide) rfl (fun ls hl => ?_)
      obtain ⟨y11, hc13, ho⟩ := bd_some ho
      obtain ⟨ny11, hc13⟩ := lp_to hc13
      refine x6_risingAt_613_L15 C0 ?_ ny11 _ _ hc13 _ _ _ hW (lv_sub hl [2, 3, 4, 5, 1, 0] rfl)
      intro H locs ls hW hl
      refine lv_aload_n hx hb dX6_risingAt_47 rfl (lv_at hl 0 rfl) ?_
      refine lv_iload hx hb dX6_risingAt_48 (lv_at hl 5 rfl) ?_
      refine lv_iload hx hb dX6_risingAt_50 (lv_at hl 4 rfl) ?_
      obtain ⟨g14, ho⟩ := gd_some ho
      refine xST_613 C0 hW g14 dX6_risingAt_52 (fun H locs hW => ?_)
      obtain ⟨t15, ho, hW⟩ := nm_w (P := fun t => wl D A s (wX cI cJ cZ cR am gm t) H locs) ho hW
      obtain ⟨x16, ex16, ho⟩ := nm_x ho
      refine lv_iinc (v := x16) (lv' := [(3, .int x16), (0, .ref (am 613)), (1, .int v1), (2, .int v2), (4, .int x10), (5, .int y11.1)]) hx hb dX6_risingAt_53 hl (k := 3) rfl (by rw [ex16]; rfl) (by decide) rfl (fun ls hl => ?_)
      clear ex16
      refine lv_goto (tgt := 2) hx hb dX6_risingAt_56 (by decide) ?_
      cases ho
      exact ih _ _ hrun _ _ _ hW (lv_sub hl [1, 2, 3, 0] rfl)
set_option maxHeartbeats 4000000 in
set_option maxRecDepth 100000 in
theorem c_x6_risingAt_613 (l : Launch) {D : va_G} {cI cJ cZ cR : ClassId} {am gm : Nat → Nat} {st : Nat} (sz : Nat) (t : St) (a1 : Int32) (a2 : Int32) {r : Int32} {t' : St} (ho : x6_risingAt_613 t a1 a2 = some (r, t')) : Met l yX6_risingAt (.code yX6_risingAt cX6_risingAt 6 (some .int) :: wsAll) (rmN 0 0) (va_Pc [.ref (am 613), .int a1, .int a2] (prX D (tyX cI cJ cZ cR) (wX cI cJ cZ cR am gm t) sz st)) (qI r D (tyX cI cJ cZ cR) (wX cI cJ cZ cR am gm t') (va_A (wX cI cJ cZ cR am gm t) sz)) 0 0 (va_A (wX cI cJ cZ cR am gm t) sz) := by
  refine Met.ofW (cc := cX6_risingAt) (maxL := 6) (ret := (some .int)) (by decide) rfl ?_
  intro p e s m args below meth c s₁ B hml hv
  obtain ⟨rfl, ⟨hsz, hP, hK, hD0⟩, hsx⟩ := hv
  have hx := B.exec
  have hb := B.bytes
  have hts := atoms_spec (ws := (.code yX6_risingAt cX6_risingAt 6 (some .int) :: wsAll)) B.pre
  have hta := fun w h => hts w (List.mem_cons_of_mem _ h)
  have hown : s.vm.findClass RX6 = some m.cls := findClass_of_methodNamed B.named
  have hlocks := B.notSynchronized
  subst hsz
  have hD := hD0.self (sz := s.heap.size)
  generalize hAe : va_A (wX cI cJ cZ cR am gm t) s.heap.size = A at hD ⊢
  have hA : ∀ q : Nat, s.heap.size ≤ q → A q := fun q h => by rw [← hAe]; exact Or.inr h
  have C0 : cxX p s m ([.ref (am 613), .int a1, .int a2].toArray) meth c cX6_risingAt RX6 6 (some .int) D (tyX cI cJ cZ cR) st A := ⟨⟨hx, hb, B.returns, hml, hown, hta, hlocks, hK, hA⟩, by rw [← hAe]; exact hsx⟩
  have hW : wl D A s (wX cI cJ cZ cR am gm t) s.heap [] := ⟨hP, hD, va_S.rf⟩
  have hl := lv_entry [.ref (am 613), .int a1, .int a2] (n := 6) (Nat.le_of_ble_eq_true rfl)
  rw [lg_entry_eq]
  generalize (lg_sl [.ref (am 613), .int a1, .int a2] ++ List.replicate (6 - (lg_sl [.ref (am 613), .int a1, .int a2]).length) Slot.unset).toArray = ls at hl ⊢
  have hl : lv_has ls 6 [(0, .ref (am 613)), (1, .int a1), (2, .int a2)] := hl
  unfold x6_risingAt_613 at ho
  refine lv_iconst (v := (1 : Int32)) hx hb dX6_risingAt_0 (by decide) ?_
  refine lv_istore_n (lv' := [(3, .int (1 : Int32)), (0, .ref (am 613)), (1, .int a1), (2, .int a2)]) hx hb dX6_risingAt_1 rfl hl (by decide) rfl (fun ls hl => ?_)
  obtain ⟨y17, hc19, ho⟩ := bd_some ho
  obtain ⟨ny17, hc19⟩ := lp_to hc19
  refine x6_risingAt_613_L2 C0 ?_ ny17 _ _ hc19 _ _ _ hW (lv_sub hl [1, 2, 3, 0] rfl)
  intro H locs ls hW hl
  refine lv_aload_n hx hb dX6_risingAt_59 rfl (lv_at hl 0 rfl) ?_
  refine lv_iload_n hx hb dX6_risingAt_60 rfl (lv_at hl 1 rfl) ?_
  refine lv_iconst (v := (1 : Int32)) hx hb dX6_risingAt_61 (by decide) ?_
  refine lv_isub hx hb dX6_risingAt_62 ?_
  obtain ⟨g20, ho⟩ := gd_some ho
  refine xLD_613 C0 hW g20 dX6_risingAt_63 ?_
  cases ho
  exact rtI C0.1 hW dX6_risingAt_64
noncomputable def x6_someTime_B17 (v1 : Int32) (v2 : Int32) (v3 : Int32) (t : St) : Option ((Int32 × St) ⊕ (St)) :=
  if v2 ≤ v3 then (some (.inr t)) else ((x6_partOf t v1 v3).bind (fun q2 => gd q2 (gN t 612) (gd v3 (gN t 613) (nm (sA t 613 v3 (gA t 612 (q2).toNatClampNeg)) (fun t6 : St => nm (v3 + (1 : Int32)) (fun x7 : Int32 => some (.inl (x7, t6))))))))
theorem mm_x6_someTime_B17 (v1 : Int32) (v2 : Int32) (v3 : Int32) (t : St) : MR (x6_someTime_B17 v1 v2 v3 t) t (Sum.elim (fun (x : Int32 × St) => x.2) (fun (y : St) => y)) := by
  unfold x6_someTime_B17
  exact MR_ite (MR_some mle.rfl) (MR_bindn (fun q2 => MR_gd (MR_gd (MR_nmS mle_sA (fun t6 ht6 => MR_nm (fun x7 _ => MR_some ht6))))))
theorem mm_x6_someTime_L17 (v1 : Int32) (v2 : Int32) (v3 : Int32) (t : St) : MR (lp (fun x => x6_someTime_B17 v1 v2 x.1 x.2) (v3, t)) t (fun (y : St) => y) := MR_lp (p := (fun (x : Int32 × St) => x.2)) (q := (fun (y : St) => y)) (fun x => mm_x6_someTime_B17 v1 v2 x.1 x.2) (v3, t)
noncomputable def x6_someTime (t : St) (a1 : Int32) : Option (Int32 × St) :=
  gd a1 (gN t 604) (nm (if (Int32.ofNat (gN t 613)) < (gA t 604 (a1).toNatClampNeg) then (Int32.ofNat (gN t 613)) else (gA t 604 (a1).toNatClampNeg)) (fun x9 : Int32 => (lp (fun x => x6_someTime_B17 a1 x9 x.1 x.2) ((0 : Int32), t)).bind (fun y10 => gd a1 (gN y10 605) ((x6_risingAt_613 y10 x9 (gA y10 605 (a1).toNatClampNeg)).bind (fun q14 => some (q14.1, q14.2))))))
theorem mm_x6_someTime (t : St) (a1 : Int32) : MR (x6_someTime t a1) t (fun (a : Int32 × St) => a.2) := by
  unfold x6_someTime
  exact MR_gd (MR_nm (fun x9 _ => MR_bind (mm_x6_someTime_L17 a1 x9 (0 : Int32) t) (fun y10 hm11 => MR_gd (MR_bind (mm_x6_risingAt_613 y10 x9 (gA y10 605 (a1).toNatClampNeg)) (fun q14 hq14 => MR_some (mle.trans hm11 hq14))))))
set_option maxHeartbeats 4000000 in
set_option maxRecDepth 100000 in
theorem x6_someTime_L17 {p : Program} {l : Launch} {e : Env} {s : State} {m : MethodId} {args : Array Value} {below : List Frame} {meth : Method} {c : Code} {Q : State → Prop} {D : va_G} {cI cJ cZ cR : ClassId} {am gm : Nat → Nat} {st : Nat} {A : Nat → Prop} (C0 : cxX p s m args meth c cX6_someTime RX6 4 (some .int) D (tyX cI cJ cZ cR) st A) {v1 : Int32} {v2 : Int32} {y : St} (hK0 : ∀ (H : Heap) (locs : List Loc) (ls : Array Slot), wl D A s (wX cI cJ cZ cR am gm y) H locs → lv_has ls 4 [(0, .ref (am 2006)), (1, .int v1), (2, .int v2)] → W p l e (rmN 1 25) s m args below meth c H locs 0 0 Q (F0 m 45 ls [])) :
    ∀ (n : Nat) (v3 : Int32) (t : St), lpn (fun x => x6_someTime_B17 v1 v2 x.1 x.2) n (v3, t) = some y → ∀ (H : Heap) (locs : List Loc) (ls : Array Slot), wl D A s (wX cI cJ cZ cR am gm t) H locs → lv_has ls 4 [(0, .ref (am 2006)), (1, .int v1), (2, .int v2), (3, .int v3)] → W p l e (rmN 1 25) s m args below meth c H locs 0 0 Q (F0 m 17 ls []) := by
  have hx := C0.1.1
  have hb := C0.1.2.1
  have hta := C0.1.2.2.2.2.2.1
  have hown := C0.1.2.2.2.2.1
  intro n
  induction n with
  | zero => intro _ _ h; cases h
  | succ n ih =>
    intro v3 t hrun H locs ls hW hl
    obtain ⟨o, ho, hrun⟩ := bd_some hrun
    unfold x6_someTime_B17 at ho
    refine lv_iload_n hx hb dX6_someTime_17 rfl (lv_at hl 3 rfl) ?_
    refine lv_iload_n hx hb dX6_someTime_18 rfl (lv_at hl 2 rfl) ?_
    refine lv_icmp_ge (tgt := 45) hx hb dX6_someTime_19 (by decide) (fun c1 => ?_) (fun c1 => ?_)
    · replace ho := ite_t c1 ho
      cases ho
      cases hrun
      exact hK0 _ _ _ hW (lv_sub hl [0, 1, 2] rfl)
    · replace ho := ite_f c1 ho
      refine lv_aload_n hx hb dX6_someTime_22 rfl (lv_at hl 0 rfl) ?_
      refine xGET_613 C0 kw_210 hW dX6_someTime_23 ?_
      refine lv_iload_n hx hb dX6_someTime_26 rfl (lv_at hl 3 rfl) ?_
      refine lv_aload_n hx hb dX6_someTime_27 rfl (lv_at hl 0 rfl) ?_
      refine xGET_612 C0 kw_209 hW dX6_someTime_28 ?_
      refine lv_aload_n hx hb dX6_someTime_31 rfl (lv_at hl 0 rfl) ?_
      refine lv_iload_n hx hb dX6_someTime_32 rfl (lv_at hl 1 rfl) ?_
      refine lv_iload_n hx hb dX6_someTime_33 rfl (lv_at hl 3 rfl) ?_
      obtain ⟨q2, hc3, ho⟩ := bd_some ho
      refine bkI C0.1 hW (runVX (As := [.int v1, .int v3]) (rest := [.ref (am 612), .int v3, .ref (am 613)]) C0 hW (c_x6_partOf l _ t v1 v3 (r := q2) hc3) cb_X6_X6_partOf_86 6 6 rfl rfl rfl rfl rfl ⟨rfl, rfl⟩ ⟨Nat.le_of_ble_eq_true rfl, Nat.le_of_ble_eq_true rfl⟩ (Nat.le_of_ble_eq_true rfl) hl.1 dX6_someTime_34 ⟨Nat.le_of_ble_eq_true rfl, Nat.le_of_ble_eq_true rfl⟩) (fun H locs hW => ?_)
      obtain ⟨g4, ho⟩ := gd_some ho
      refine xLD_612 C0 hW g4 dX6_someTime_37 ?_
      obtain ⟨g5, ho⟩ := gd_some ho
      refine xST_613 C0 hW g5 dX6_someTime_38 (fun H locs hW => ?_)
      obtain ⟨t6, ho, hW⟩ := nm_w (P := fun t => wl D A s (wX cI cJ cZ cR am gm t) H locs) ho hW
      obtain ⟨x7, ex7, ho⟩ := nm_x ho
      refine lv_iinc (v := x7) (lv' := [(3, .int x7), (0, .ref (am 2006)), (1, .int v1), (2, .int v2)]) hx hb dX6_someTime_39 hl (k := 3) rfl (by rw [ex7]; rfl) (by decide) rfl (fun ls hl => ?_)
      clear ex7
      refine lv_goto (tgt := 17) hx hb dX6_someTime_42 (by decide) ?_
      cases ho
      exact ih _ _ hrun _ _ _ hW (lv_sub hl [1, 2, 3, 0] rfl)
set_option maxHeartbeats 4000000 in
set_option maxRecDepth 100000 in
theorem c_x6_someTime (l : Launch) {D : va_G} {cI cJ cZ cR : ClassId} {am gm : Nat → Nat} {st : Nat} (sz : Nat) (t : St) (a1 : Int32) {r : Int32} {t' : St} (ho : x6_someTime t a1 = some (r, t')) : Met l yX6_someTime (.code yX6_someTime cX6_someTime 4 (some .int) :: wsAll) (rmN 1 25) (va_Pc [.ref (am 2006), .int a1] (prX D (tyX cI cJ cZ cR) (wX cI cJ cZ cR am gm t) sz st)) (qI r D (tyX cI cJ cZ cR) (wX cI cJ cZ cR am gm t') (va_A (wX cI cJ cZ cR am gm t) sz)) 0 0 (va_A (wX cI cJ cZ cR am gm t) sz) := by
  refine Met.ofW (cc := cX6_someTime) (maxL := 4) (ret := (some .int)) (by decide) rfl ?_
  intro p e s m args below meth c s₁ B hml hv
  obtain ⟨rfl, ⟨hsz, hP, hK, hD0⟩, hsx⟩ := hv
  have hx := B.exec
  have hb := B.bytes
  have hts := atoms_spec (ws := (.code yX6_someTime cX6_someTime 4 (some .int) :: wsAll)) B.pre
  have hta := fun w h => hts w (List.mem_cons_of_mem _ h)
  have hown : s.vm.findClass RX6 = some m.cls := findClass_of_methodNamed B.named
  have hlocks := B.notSynchronized
  subst hsz
  have hD := hD0.self (sz := s.heap.size)
  generalize hAe : va_A (wX cI cJ cZ cR am gm t) s.heap.size = A at hD ⊢
  have hA : ∀ q : Nat, s.heap.size ≤ q → A q := fun q h => by rw [← hAe]; exact Or.inr h
  have C0 : cxX p s m ([.ref (am 2006), .int a1].toArray) meth c cX6_someTime RX6 4 (some .int) D (tyX cI cJ cZ cR) st A := ⟨⟨hx, hb, B.returns, hml, hown, hta, hlocks, hK, hA⟩, by rw [← hAe]; exact hsx⟩
  have hW : wl D A s (wX cI cJ cZ cR am gm t) s.heap [] := ⟨hP, hD, va_S.rf⟩
  have hl := lv_entry [.ref (am 2006), .int a1] (n := 4) (Nat.le_of_ble_eq_true rfl)
  rw [lg_entry_eq]
  generalize (lg_sl [.ref (am 2006), .int a1] ++ List.replicate (4 - (lg_sl [.ref (am 2006), .int a1]).length) Slot.unset).toArray = ls at hl ⊢
  have hl : lv_has ls 4 [(0, .ref (am 2006)), (1, .int a1)] := hl
  unfold x6_someTime at ho
  refine lv_aload_n hx hb dX6_someTime_0 rfl (lv_at hl 0 rfl) ?_
  refine xGET_604 C0 kw_190 hW dX6_someTime_1 ?_
  refine lv_iload_n hx hb dX6_someTime_4 rfl (lv_at hl 1 rfl) ?_
  obtain ⟨g8, ho⟩ := gd_some ho
  refine xLD_604 C0 hW g8 dX6_someTime_5 ?_
  refine lv_aload_n hx hb dX6_someTime_6 rfl (lv_at hl 0 rfl) ?_
  refine xGET_613 C0 kw_210 hW dX6_someTime_7 ?_
  refine xLEN_613 C0 hW dX6_someTime_10 ?_
  refine va_mmin (rest := []) hx hb (C0.1.2.2.2.1.trans hl.1.symm) hown (hta _ kw_932) (hta _ kw_748) (hta _ kw_136) (hta _ kw_749) (Nat.le_of_ble_eq_true rfl) (Nat.le_of_ble_eq_true rfl) (Nat.le_of_ble_eq_true rfl) (Nat.le_of_ble_eq_true rfl) dX6_someTime_11 ?_
  refine lv_nmi ho (fun x9 ho => ?_)
  refine lv_istore_n (lv' := [(2, .int x9), (0, .ref (am 2006)), (1, .int a1)]) hx hb dX6_someTime_14 rfl hl (by decide) rfl (fun ls hl => ?_)
  refine lv_iconst (v := (0 : Int32)) hx hb dX6_someTime_15 (by decide) ?_
  refine lv_istore_n (lv' := [(3, .int (0 : Int32)), (2, .int x9), (0, .ref (am 2006)), (1, .int a1)]) hx hb dX6_someTime_16 rfl hl (by decide) rfl (fun ls hl => ?_)
  obtain ⟨y10, hc12, ho⟩ := bd_some ho
  obtain ⟨ny10, hc12⟩ := lp_to hc12
  refine x6_someTime_L17 C0 ?_ ny10 _ _ hc12 _ _ _ hW (lv_sub hl [2, 3, 1, 0] rfl)
  intro H locs ls hW hl
  refine lv_aload_n hx hb dX6_someTime_45 rfl (lv_at hl 0 rfl) ?_
  refine xGET_613 C0 kw_210 hW dX6_someTime_46 ?_
  refine lv_iload_n hx hb dX6_someTime_49 rfl (lv_at hl 2 rfl) ?_
  refine lv_aload_n hx hb dX6_someTime_50 rfl (lv_at hl 0 rfl) ?_
  refine xGET_605 C0 kw_194 hW dX6_someTime_51 ?_
  refine lv_iload_n hx hb dX6_someTime_54 rfl (lv_at hl 1 rfl) ?_
  obtain ⟨g13, ho⟩ := gd_some ho
  refine xLD_605 C0 hW g13 dX6_someTime_55 ?_
  obtain ⟨q14, hc15, ho⟩ := bd_some ho
  refine bkI C0.1 hW (runSX (As := [.ref (am 613), .int x9, .int (gA y10 605 (a1).toNatClampNeg)]) (rest := []) C0 hW (c_x6_risingAt_613 l _ y10 x9 (gA y10 605 (a1).toNatClampNeg) (r := q14.1) (t' := q14.2) hc15) cb_X6_X6_risingAt_107 rfl rfl ⟨rfl, rfl⟩ ⟨Nat.le_of_ble_eq_true rfl, Nat.le_of_ble_eq_true rfl⟩ (Nat.le_of_ble_eq_true rfl) hl.1 dX6_someTime_56 ⟨Nat.le_of_ble_eq_true rfl, Nat.le_of_ble_eq_true rfl⟩) (fun H locs hW => ?_)
  cases ho
  exact rtI C0.1 hW dX6_someTime_59
noncomputable def x6_rowTime_B30 (t : St) (v1 : Int32) (v2 : Int32) (v3 : Int32) : Option ((Int32 × Int32) ⊕ (Int32)) :=
  gd v1 (gN t 604) (if (gA t 604 (v1).toNatClampNeg) ≤ v3 then (some (.inr v2)) else ((x6_partOf t v1 v3).bind (fun q3 => gd q3 (gN t 612) (nm (gA t 612 (q3).toNatClampNeg) (fun x6 : Int32 => gd v1 (gN t 603) (if (gA t 603 (v1).toNatClampNeg) = (2 : Int32) then (nm (v2 + x6) (fun x15 : Int32 => nm (v3 + (1 : Int32)) (fun x16 : Int32 => some (.inl (x15, x16))))) else (gd v1 (gN t 603) (if (gA t 603 (v1).toNatClampNeg) = (1 : Int32) then (nm (if x6 < v2 then x6 else v2) (fun x13 : Int32 => nm (v3 + (1 : Int32)) (fun x14 : Int32 => some (.inl (x13, x14))))) else (nm (if v2 < x6 then x6 else v2) (fun x11 : Int32 => nm (v3 + (1 : Int32)) (fun x12 : Int32 => some (.inl (x11, x12)))))))))))))
noncomputable def x6_rowTime (t : St) (a1 : Int32) : Option (Int32 × St) :=
  gd a1 (gN t 603) (if (gA t 603 (a1).toNatClampNeg) = (4 : Int32) then ((x6_someTime t a1).bind (fun q26 => some (q26.1, q26.2))) else ((x6_partOf t a1 (0 : Int32)).bind (fun q19 => gd q19 (gN t 612) (nm (gA t 612 (q19).toNatClampNeg) (fun x22 : Int32 => (lp (fun x => x6_rowTime_B30 t a1 x.1 x.2) (x22, (1 : Int32))).bind (fun y23 => some (y23, t)))))))
theorem mm_x6_rowTime (t : St) (a1 : Int32) : MR (x6_rowTime t a1) t (fun (a : Int32 × St) => a.2) := by
  unfold x6_rowTime
  exact MR_gd (MR_ite (MR_bind (mm_x6_someTime t a1) (fun q26 hq26 => MR_some hq26)) (MR_bindn (fun q19 => MR_gd (MR_nm (fun x22 _ => MR_bindn (fun y23 => MR_some mle.rfl))))))
set_option maxHeartbeats 4000000 in
set_option maxRecDepth 100000 in
theorem x6_rowTime_L30 {p : Program} {l : Launch} {e : Env} {s : State} {m : MethodId} {args : Array Value} {below : List Frame} {meth : Method} {c : Code} {Q : State → Prop} {D : va_G} {cI cJ cZ cR : ClassId} {am gm : Nat → Nat} {st : Nat} {A : Nat → Prop} (C0 : cxX p s m args meth c cX6_rowTime RX6 5 (some .int) D (tyX cI cJ cZ cR) st A) {t : St} {v1 : Int32} {y : Int32} (hK0 : ∀ (H : Heap) (locs : List Loc) (ls : Array Slot), wl D A s (wX cI cJ cZ cR am gm t) H locs → lv_has ls 5 [(0, .ref (am 2006)), (2, .int y)] → W p l e (rmN 2 48) s m args below meth c H locs 0 0 Q (F0 m 103 ls [])) :
    ∀ (n : Nat) (v2 : Int32) (v3 : Int32), lpn (fun x => x6_rowTime_B30 t v1 x.1 x.2) n (v2, v3) = some y → ∀ (H : Heap) (locs : List Loc) (ls : Array Slot), wl D A s (wX cI cJ cZ cR am gm t) H locs → lv_has ls 5 [(0, .ref (am 2006)), (1, .int v1), (2, .int v2), (3, .int v3)] → W p l e (rmN 2 48) s m args below meth c H locs 0 0 Q (F0 m 30 ls []) := by
  have hx := C0.1.1
  have hb := C0.1.2.1
  have hta := C0.1.2.2.2.2.2.1
  have hown := C0.1.2.2.2.2.1
  intro n
  induction n with
  | zero => intro _ _ h; cases h
  | succ n ih =>
    intro v2 v3 hrun H locs ls hW hl
    obtain ⟨o, ho, hrun⟩ := bd_some hrun
    unfold x6_rowTime_B30 at ho
    refine lv_iload_n hx hb dX6_rowTime_30 rfl (lv_at hl 3 rfl) ?_
    refine lv_aload_n hx hb dX6_rowTime_31 rfl (lv_at hl 0 rfl) ?_
    refine xGET_604 C0 kw_190 hW dX6_rowTime_32 ?_
    refine lv_iload_n hx hb dX6_rowTime_35 rfl (lv_at hl 1 rfl) ?_
    obtain ⟨g1, ho⟩ := gd_some ho
    refine xLD_604 C0 hW g1 dX6_rowTime_36 ?_
    refine lv_icmp_ge (tgt := 103) hx hb dX6_rowTime_37 (by decide) (fun c2 => ?_) (fun c2 => ?_)
    · replace ho := ite_t c2 ho
      cases ho
      cases hrun
      exact hK0 _ _ _ hW (lv_sub hl [0, 2] rfl)
    · replace ho := ite_f c2 ho
      refine lv_aload_n hx hb dX6_rowTime_40 rfl (lv_at hl 0 rfl) ?_
      refine xGET_612 C0 kw_209 hW dX6_rowTime_41 ?_
      refine lv_aload_n hx hb dX6_rowTime_44 rfl (lv_at hl 0 rfl) ?_
      refine lv_iload_n hx hb dX6_rowTime_45 rfl (lv_at hl 1 rfl) ?_
      refine lv_iload_n hx hb dX6_rowTime_46 rfl (lv_at hl 3 rfl) ?_
      obtain ⟨q3, hc4, ho⟩ := bd_some ho
      refine bkI C0.1 hW (runVX (As := [.int v1, .int v3]) (rest := [.ref (am 612)]) C0 hW (c_x6_partOf l _ t v1 v3 (r := q3) hc4) cb_X6_X6_partOf_86 6 6 rfl rfl rfl rfl rfl ⟨rfl, rfl⟩ ⟨Nat.le_of_ble_eq_true rfl, Nat.le_of_ble_eq_true rfl⟩ (Nat.le_of_ble_eq_true rfl) hl.1 dX6_rowTime_47 ⟨Nat.le_of_ble_eq_true rfl, Nat.le_of_ble_eq_true rfl⟩) (fun H locs hW => ?_)
      obtain ⟨g5, ho⟩ := gd_some ho
      refine xLD_612 C0 hW g5 dX6_rowTime_50 ?_
      refine lv_nmi ho (fun x6 ho => ?_)
      refine lv_istore (lv' := [(4, .int x6), (0, .ref (am 2006)), (1, .int v1), (2, .int v2), (3, .int v3)]) hx hb dX6_rowTime_51 hl (by decide) rfl (fun ls hl => ?_)
      refine lv_aload_n hx hb dX6_rowTime_53 rfl (lv_at hl 1 rfl) ?_
      refine xGET_603 C0 kw_186 hW dX6_rowTime_54 ?_
      refine lv_iload_n hx hb dX6_rowTime_57 rfl (lv_at hl 2 rfl) ?_
      obtain ⟨g7, ho⟩ := gd_some ho
      refine xLD_603 C0 hW g7 dX6_rowTime_58 ?_
      refine lv_iconst (v := (2 : Int32)) hx hb dX6_rowTime_59 (by decide) ?_
      refine lv_icmp_ne (tgt := 71) hx hb dX6_rowTime_60 (by decide) (fun c8 => ?_) (fun c8 => ?_)
      · replace ho := ite_f c8 ho
        refine lv_aload_n hx hb dX6_rowTime_71 rfl (lv_at hl 1 rfl) ?_
        refine xGET_603 C0 kw_186 hW dX6_rowTime_72 ?_
        refine lv_iload_n hx hb dX6_rowTime_75 rfl (lv_at hl 2 rfl) ?_
        obtain ⟨g9, ho⟩ := gd_some ho
        refine xLD_603 C0 hW g9 dX6_rowTime_76 ?_
        refine lv_iconst (v := (1 : Int32)) hx hb dX6_rowTime_77 (by decide) ?_
        refine lv_icmp_ne (tgt := 90) hx hb dX6_rowTime_78 (by decide) (fun c10 => ?_) (fun c10 => ?_)
        · replace ho := ite_f c10 ho
          refine lv_iload_n hx hb dX6_rowTime_90 rfl (lv_at hl 3 rfl) ?_
          refine lv_iload hx hb dX6_rowTime_91 (lv_at hl 0 rfl) ?_
          refine va_mmax (rest := []) hx hb (C0.1.2.2.2.1.trans hl.1.symm) hown (hta _ kw_734) (hta _ kw_735) (hta _ kw_136) (hta _ kw_736) (Nat.le_of_ble_eq_true rfl) (Nat.le_of_ble_eq_true rfl) (Nat.le_of_ble_eq_true rfl) (Nat.le_of_ble_eq_true rfl) dX6_rowTime_93 ?_
          refine lv_nmi ho (fun x11 ho => ?_)
          refine lv_istore_n (lv' := [(2, .int x11), (4, .int x6), (0, .ref (am 2006)), (1, .int v1), (3, .int v3)]) hx hb dX6_rowTime_96 rfl hl (by decide) rfl (fun ls hl => ?_)
          obtain ⟨x12, ex12, ho⟩ := nm_x ho
          refine lv_iinc (v := x12) (lv' := [(3, .int x12), (2, .int x11), (4, .int x6), (0, .ref (am 2006)), (1, .int v1)]) hx hb dX6_rowTime_97 hl (k := 4) rfl (by rw [ex12]; rfl) (by decide) rfl (fun ls hl => ?_)
          clear ex12
          refine lv_goto (tgt := 30) hx hb dX6_rowTime_100 (by decide) ?_
          cases ho
          exact ih _ _ hrun _ _ _ hW (lv_sub hl [3, 4, 1, 0] rfl)
        · replace ho := ite_t c10 ho
          refine lv_iload_n hx hb dX6_rowTime_81 rfl (lv_at hl 3 rfl) ?_
          refine lv_iload hx hb dX6_rowTime_82 (lv_at hl 0 rfl) ?_
          refine va_mmin (rest := []) hx hb (C0.1.2.2.2.1.trans hl.1.symm) hown (hta _ kw_932) (hta _ kw_748) (hta _ kw_136) (hta _ kw_749) (Nat.le_of_ble_eq_true rfl) (Nat.le_of_ble_eq_true rfl) (Nat.le_of_ble_eq_true rfl) (Nat.le_of_ble_eq_true rfl) dX6_rowTime_84 ?_
          refine lv_goto (tgt := 96) hx hb dX6_rowTime_87 (by decide) ?_
          refine lv_nmi ho (fun x13 ho => ?_)
          refine lv_istore_n (lv' := [(2, .int x13), (4, .int x6), (0, .ref (am 2006)), (1, .int v1), (3, .int v3)]) hx hb dX6_rowTime_96 rfl hl (by decide) rfl (fun ls hl => ?_)
          obtain ⟨x14, ex14, ho⟩ := nm_x ho
          refine lv_iinc (v := x14) (lv' := [(3, .int x14), (2, .int x13), (4, .int x6), (0, .ref (am 2006)), (1, .int v1)]) hx hb dX6_rowTime_97 hl (k := 4) rfl (by rw [ex14]; rfl) (by decide) rfl (fun ls hl => ?_)
          clear ex14
          refine lv_goto (tgt := 30) hx hb dX6_rowTime_100 (by decide) ?_
          cases ho
          exact ih _ _ hrun _ _ _ hW (lv_sub hl [3, 4, 1, 0] rfl)
      · replace ho := ite_t c8 ho
        refine lv_iload_n hx hb dX6_rowTime_63 rfl (lv_at hl 3 rfl) ?_
        refine lv_iload hx hb dX6_rowTime_64 (lv_at hl 0 rfl) ?_
        refine lv_iadd hx hb dX6_rowTime_66 ?_
        refine lv_nmi ho (fun x15 ho => ?_)
        refine lv_istore_n (lv' := [(2, .int x15), (4, .int x6), (0, .ref (am 2006)), (1, .int v1), (3, .int v3)]) hx hb dX6_rowTime_67 rfl hl (by decide) rfl (fun ls hl => ?_)
        refine lv_goto (tgt := 97) hx hb dX6_rowTime_68 (by decide) ?_
        obtain ⟨x16, ex16, ho⟩ := nm_x ho
        refine lv_iinc (v := x16) (lv' := [(3, .int x16), (2, .int x15), (4, .int x6), (0, .ref (am 2006)), (1, .int v1)]) hx hb dX6_rowTime_97 hl (k := 4) rfl (by rw [ex16]; rfl) (by decide) rfl (fun ls hl => ?_)
        clear ex16
        refine lv_goto (tgt := 30) hx hb dX6_rowTime_100 (by decide) ?_
        cases ho
        exact ih _ _ hrun _ _ _ hW (lv_sub hl [3, 4, 1, 0] rfl)
set_option maxHeartbeats 4000000 in
set_option maxRecDepth 100000 in
theorem c_x6_rowTime (l : Launch) {D : va_G} {cI cJ cZ cR : ClassId} {am gm : Nat → Nat} {st : Nat} (sz : Nat) (t : St) (a1 : Int32) {r : Int32} {t' : St} (ho : x6_rowTime t a1 = some (r, t')) : Met l yX6_rowTime (.code yX6_rowTime cX6_rowTime 5 (some .int) :: wsAll) (rmN 2 48) (va_Pc [.ref (am 2006), .int a1] (prX D (tyX cI cJ cZ cR) (wX cI cJ cZ cR am gm t) sz st)) (qI r D (tyX cI cJ cZ cR) (wX cI cJ cZ cR am gm t') (va_A (wX cI cJ cZ cR am gm t) sz)) 0 0 (va_A (wX cI cJ cZ cR am gm t) sz) := by
  refine Met.ofW (cc := cX6_rowTime) (maxL := 5) (ret := (some .int)) (by decide) rfl ?_
  intro p e s m args below meth c s₁ B hml hv
  obtain ⟨rfl, ⟨hsz, hP, hK, hD0⟩, hsx⟩ := hv
  have hx := B.exec
  have hb := B.bytes
  have hts := atoms_spec (ws := (.code yX6_rowTime cX6_rowTime 5 (some .int) :: wsAll)) B.pre
  have hta := fun w h => hts w (List.mem_cons_of_mem _ h)
  have hown : s.vm.findClass RX6 = some m.cls := findClass_of_methodNamed B.named
  have hlocks := B.notSynchronized
  subst hsz
  have hD := hD0.self (sz := s.heap.size)
  generalize hAe : va_A (wX cI cJ cZ cR am gm t) s.heap.size = A at hD ⊢
  have hA : ∀ q : Nat, s.heap.size ≤ q → A q := fun q h => by rw [← hAe]; exact Or.inr h
  have C0 : cxX p s m ([.ref (am 2006), .int a1].toArray) meth c cX6_rowTime RX6 5 (some .int) D (tyX cI cJ cZ cR) st A := ⟨⟨hx, hb, B.returns, hml, hown, hta, hlocks, hK, hA⟩, by rw [← hAe]; exact hsx⟩
  have hW : wl D A s (wX cI cJ cZ cR am gm t) s.heap [] := ⟨hP, hD, va_S.rf⟩
  have hl := lv_entry [.ref (am 2006), .int a1] (n := 5) (Nat.le_of_ble_eq_true rfl)
  rw [lg_entry_eq]
  generalize (lg_sl [.ref (am 2006), .int a1] ++ List.replicate (5 - (lg_sl [.ref (am 2006), .int a1]).length) Slot.unset).toArray = ls at hl ⊢
  have hl : lv_has ls 5 [(0, .ref (am 2006)), (1, .int a1)] := hl
  unfold x6_rowTime at ho
  refine lv_aload_n hx hb dX6_rowTime_0 rfl (lv_at hl 0 rfl) ?_
  refine xGET_603 C0 kw_186 hW dX6_rowTime_1 ?_
  refine lv_iload_n hx hb dX6_rowTime_4 rfl (lv_at hl 1 rfl) ?_
  obtain ⟨g17, ho⟩ := gd_some ho
  refine xLD_603 C0 hW g17 dX6_rowTime_5 ?_
  refine lv_iconst (v := (4 : Int32)) hx hb dX6_rowTime_6 (by decide) ?_
  refine lv_icmp_ne (tgt := 16) hx hb dX6_rowTime_7 (by decide) (fun c18 => ?_) (fun c18 => ?_)
  · replace ho := ite_f c18 ho
    refine lv_aload_n hx hb dX6_rowTime_16 rfl (lv_at hl 0 rfl) ?_
    refine xGET_612 C0 kw_209 hW dX6_rowTime_17 ?_
    refine lv_aload_n hx hb dX6_rowTime_20 rfl (lv_at hl 0 rfl) ?_
    refine lv_iload_n hx hb dX6_rowTime_21 rfl (lv_at hl 1 rfl) ?_
    refine lv_iconst (v := (0 : Int32)) hx hb dX6_rowTime_22 (by decide) ?_
    obtain ⟨q19, hc20, ho⟩ := bd_some ho
    refine bkI C0.1 hW (runVX (As := [.int a1, .int (0 : Int32)]) (rest := [.ref (am 612)]) C0 hW (c_x6_partOf l _ t a1 (0 : Int32) (r := q19) hc20) cb_X6_X6_partOf_86 6 6 rfl rfl rfl rfl rfl ⟨rfl, rfl⟩ ⟨Nat.le_of_ble_eq_true rfl, Nat.le_of_ble_eq_true rfl⟩ (Nat.le_of_ble_eq_true rfl) hl.1 dX6_rowTime_23 ⟨Nat.le_of_ble_eq_true rfl, Nat.le_of_ble_eq_true rfl⟩) (fun H locs hW => ?_)
    obtain ⟨g21, ho⟩ := gd_some ho
    refine xLD_612 C0 hW g21 dX6_rowTime_26 ?_
    refine lv_nmi ho (fun x22 ho => ?_)
    refine lv_istore_n (lv' := [(2, .int x22), (0, .ref (am 2006)), (1, .int a1)]) hx hb dX6_rowTime_27 rfl hl (by decide) rfl (fun ls hl => ?_)
    refine lv_iconst (v := (1 : Int32)) hx hb dX6_rowTime_28 (by decide) ?_
    refine lv_istore_n (lv' := [(3, .int (1 : Int32)), (2, .int x22), (0, .ref (am 2006)), (1, .int a1)]) hx hb dX6_rowTime_29 rfl hl (by decide) rfl (fun ls hl => ?_)
    obtain ⟨y23, hc25, ho⟩ := bd_some ho
    obtain ⟨ny23, hc25⟩ := lp_to hc25
    refine x6_rowTime_L30 C0 ?_ ny23 _ _ hc25 _ _ _ hW (lv_sub hl [2, 3, 1, 0] rfl)
    intro H locs ls hW hl
    refine lv_iload_n hx hb dX6_rowTime_103 rfl (lv_at hl 1 rfl) ?_
    cases ho
    exact rtI C0.1 hW dX6_rowTime_104
  · replace ho := ite_t c18 ho
    refine lv_aload_n hx hb dX6_rowTime_10 rfl (lv_at hl 0 rfl) ?_
    refine lv_iload_n hx hb dX6_rowTime_11 rfl (lv_at hl 1 rfl) ?_
    obtain ⟨q26, hc27, ho⟩ := bd_some ho
    refine bkI C0.1 hW (runVX (As := [.int a1]) (rest := []) C0 hW (c_x6_someTime l _ t a1 (r := q26.1) (t' := q26.2) hc27) cb_X6_X6_someTime_101 6 6 rfl rfl rfl rfl rfl ⟨rfl, rfl⟩ ⟨Nat.le_of_ble_eq_true rfl, Nat.le_of_ble_eq_true rfl⟩ (Nat.le_of_ble_eq_true rfl) hl.1 dX6_rowTime_12 ⟨Nat.le_of_ble_eq_true rfl, Nat.le_of_ble_eq_true rfl⟩) (fun H locs hW => ?_)
    cases ho
    exact rtI C0.1 hW dX6_rowTime_15
noncomputable def x6_timeByMany_J40 (t : St) (v1 : Int32) (v3 : Int32) (w1 : Int32) (w2 : Int32) : Option ((Int32 × St) ⊕ (St)) :=
  gd w1 (gN t 612) (nm (sA t 612 w1 w2) (fun t2 : St => nm (v3 + (1 : Int32)) (fun x3 : Int32 => some (.inl (x3, t2)))))
theorem mm_x6_timeByMany_J40 (t : St) (v1 : Int32) (v3 : Int32) (w1 : Int32) (w2 : Int32) : MR (x6_timeByMany_J40 t v1 v3 w1 w2) t (Sum.elim (fun (x : Int32 × St) => x.2) (fun (y : St) => y)) := by
  unfold x6_timeByMany_J40
  exact MR_gd (MR_nmS mle_sA (fun t2 ht2 => MR_nm (fun x3 _ => MR_some ht2)))
noncomputable def x6_timeByMany_B2 (v1 : Int32) (v3 : Int32) (t : St) : Option ((Int32 × St) ⊕ (St)) :=
  if v1 < v3 then (some (.inr t)) else (gd v3 (gN t 603) (if (gA t 603 (v3).toNatClampNeg) = 0 then (gd v3 (gN t 604) ((x5_get t (gA t 604 (v3).toNatClampNeg) (1 : Int32)).bind (fun q10 => x6_timeByMany_J40 t v1 v3 v3 q10))) else ((x6_rowTime t v3).bind (fun q7 => x6_timeByMany_J40 q7.2 v1 v3 v3 q7.1))))
theorem mm_x6_timeByMany_B2 (v1 : Int32) (v3 : Int32) (t : St) : MR (x6_timeByMany_B2 v1 v3 t) t (Sum.elim (fun (x : Int32 × St) => x.2) (fun (y : St) => y)) := by
  unfold x6_timeByMany_B2
  exact MR_ite (MR_some mle.rfl) (MR_gd (MR_ite (MR_gd (MR_bindn (fun q10 => MR_wk mle.rfl (mm_x6_timeByMany_J40 t v1 v3 v3 q10)))) (MR_bind (mm_x6_rowTime t v3) (fun q7 hq7 => MR_wk hq7 (mm_x6_timeByMany_J40 q7.2 v1 v3 v3 q7.1)))))
theorem mm_x6_timeByMany_L2 (v1 : Int32) (v3 : Int32) (t : St) : MR (lp (fun x => x6_timeByMany_B2 v1 x.1 x.2) (v3, t)) t (fun (y : St) => y) := MR_lp (p := (fun (x : Int32 × St) => x.2)) (q := (fun (y : St) => y)) (fun x => mm_x6_timeByMany_B2 v1 x.1 x.2) (v3, t)
noncomputable def x6_timeByMany (t : St) (a1 : Int32) : Option (Int32 × St) :=
  (lp (fun x => x6_timeByMany_B2 a1 x.1 x.2) ((0 : Int32), t)).bind (fun y12 => gd a1 (gN y12 612) (some ((gA y12 612 (a1).toNatClampNeg), y12)))
theorem mm_x6_timeByMany (t : St) (a1 : Int32) : MR (x6_timeByMany t a1) t (fun (a : Int32 × St) => a.2) := by
  unfold x6_timeByMany
  exact MR_bind (mm_x6_timeByMany_L2 a1 (0 : Int32) t) (fun y12 hm13 => MR_gd (MR_some hm13))
set_option maxHeartbeats 4000000 in
set_option maxRecDepth 100000 in
theorem x6_timeByMany_L2 {p : Program} {l : Launch} {e : Env} {s : State} {m : MethodId} {args : Array Value} {below : List Frame} {meth : Method} {c : Code} {Q : State → Prop} {D : va_G} {cI cJ cZ cR : ClassId} {am gm : Nat → Nat} {st : Nat} {A : Nat → Prop} (C0 : cxX p s m args meth c cX6_timeByMany RX6 4 (some .int) D (tyX cI cJ cZ cR) st A) {v1 : Int32} {y : St} (hK0 : ∀ (H : Heap) (locs : List Loc) (ls : Array Slot), wl D A s (wX cI cJ cZ cR am gm y) H locs → lv_has ls 4 [(0, .ref (am 2006)), (1, .int v1)] → W p l e (rmN 3 72) s m args below meth c H locs 0 0 Q (F0 m 47 ls [])) :
    ∀ (n : Nat) (v3 : Int32) (t : St), lpn (fun x => x6_timeByMany_B2 v1 x.1 x.2) n (v3, t) = some y → ∀ (H : Heap) (locs : List Loc) (ls : Array Slot), wl D A s (wX cI cJ cZ cR am gm t) H locs → lv_has ls 4 [(0, .ref (am 2006)), (1, .int v1), (2, .ref (am 2005)), (3, .int v3)] → W p l e (rmN 3 72) s m args below meth c H locs 0 0 Q (F0 m 2 ls []) := by
  have hx := C0.1.1
  have hb := C0.1.2.1
  have hta := C0.1.2.2.2.2.2.1
  have hown := C0.1.2.2.2.2.1
  intro n
  induction n with
  | zero => intro _ _ h; cases h
  | succ n ih =>
    intro v3 t hrun H locs ls hW hl
    obtain ⟨o, ho, hrun⟩ := bd_some hrun
    have J40 : ∀ (t : St) (v3 : Int32) (w1 : Int32) (w2 : Int32) (_ : x6_timeByMany_J40 t v1 v3 w1 w2 = some o) (H : Heap) (locs : List Loc) (ls : Array Slot), wl D A s (wX cI cJ cZ cR am gm t) H locs → lv_has ls 4 [(0, .ref (am 2006)), (1, .int v1), (2, .ref (am 2005)), (3, .int v3)] → W p l e (rmN 3 72) s m args below meth c H locs 0 0 Q (F0 m 40 ls [.int w2, .int w1, .ref (am 612)]) := by
      intro t v3 w1 w2 ho H locs ls hW hl
      unfold x6_timeByMany_J40 at ho
      obtain ⟨g1, ho⟩ := gd_some ho
      refine xST_612 C0 hW g1 dX6_timeByMany_40 (fun H locs hW => ?_)
      obtain ⟨t2, ho, hW⟩ := nm_w (P := fun t => wl D A s (wX cI cJ cZ cR am gm t) H locs) ho hW
      obtain ⟨x3, ex3, ho⟩ := nm_x ho
      refine lv_iinc (v := x3) (lv' := [(3, .int x3), (0, .ref (am 2006)), (1, .int v1), (2, .ref (am 2005))]) hx hb dX6_timeByMany_41 hl (k := 3) rfl (by rw [ex3]; rfl) (by decide) rfl (fun ls hl => ?_)
      clear ex3
      refine lv_goto (tgt := 2) hx hb dX6_timeByMany_44 (by decide) ?_
      cases ho
      exact ih _ _ hrun _ _ _ hW (lv_sub hl [1, 2, 3, 0] rfl)
    unfold x6_timeByMany_B2 at ho
    refine lv_iload_n hx hb dX6_timeByMany_2 rfl (lv_at hl 3 rfl) ?_
    refine lv_iload_n hx hb dX6_timeByMany_3 rfl (lv_at hl 1 rfl) ?_
    refine lv_icmp_gt (tgt := 47) hx hb dX6_timeByMany_4 (by decide) (fun c4 => ?_) (fun c4 => ?_)
    · replace ho := ite_t c4 ho
      cases ho
      cases hrun
      exact hK0 _ _ _ hW (lv_sub hl [0, 1] rfl)
    · replace ho := ite_f c4 ho
      refine lv_aload_n hx hb dX6_timeByMany_7 rfl (lv_at hl 0 rfl) ?_
      refine xGET_612 C0 kw_209 hW dX6_timeByMany_8 ?_
      refine lv_iload_n hx hb dX6_timeByMany_11 rfl (lv_at hl 3 rfl) ?_
      refine lv_aload_n hx hb dX6_timeByMany_12 rfl (lv_at hl 0 rfl) ?_
      refine xGET_603 C0 kw_186 hW dX6_timeByMany_13 ?_
      refine lv_iload_n hx hb dX6_timeByMany_16 rfl (lv_at hl 3 rfl) ?_
      obtain ⟨g5, ho⟩ := gd_some ho
      refine xLD_603 C0 hW g5 dX6_timeByMany_17 ?_
      refine lv_if_ne (tgt := 35) hx hb dX6_timeByMany_18 (by decide) (fun c6 => ?_) (fun c6 => ?_)
      · replace ho := ite_f c6 ho
        refine lv_aload_n hx hb dX6_timeByMany_35 rfl (lv_at hl 0 rfl) ?_
        refine lv_iload_n hx hb dX6_timeByMany_36 rfl (lv_at hl 3 rfl) ?_
        obtain ⟨q7, hc8, ho⟩ := bd_some ho
        refine bkI C0.1 hW (runVX (As := [.int v3]) (rest := [.int v3, .ref (am 612)]) C0 hW (c_x6_rowTime l _ t v3 (r := q7.1) (t' := q7.2) hc8) cb_X6_X6_rowTime_98 6 6 rfl rfl rfl rfl rfl ⟨rfl, rfl⟩ ⟨Nat.le_of_ble_eq_true rfl, Nat.le_of_ble_eq_true rfl⟩ (Nat.le_of_ble_eq_true rfl) hl.1 dX6_timeByMany_37 ⟨Nat.le_of_ble_eq_true rfl, Nat.le_of_ble_eq_true rfl⟩) (fun H locs hW => ?_)
        exact J40 _ _ _ _ ho _ _ _ hW (lv_sub hl [0, 1, 2, 3] rfl)
      · replace ho := ite_t c6 ho
        refine lv_aload_n hx hb dX6_timeByMany_21 rfl (lv_at hl 2 rfl) ?_
        refine lv_aload_n hx hb dX6_timeByMany_22 rfl (lv_at hl 0 rfl) ?_
        refine xGET_604 C0 kw_190 hW dX6_timeByMany_23 ?_
        refine lv_iload_n hx hb dX6_timeByMany_26 rfl (lv_at hl 3 rfl) ?_
        obtain ⟨g9, ho⟩ := gd_some ho
        refine xLD_604 C0 hW g9 dX6_timeByMany_27 ?_
        refine lv_iconst (v := (1 : Int32)) hx hb dX6_timeByMany_28 (by decide) ?_
        obtain ⟨q10, hc11, ho⟩ := bd_some ho
        refine bkI C0.1 hW (runVX (As := [.int (gA t 604 (v3).toNatClampNeg), .int (1 : Int32)]) (rest := [.int v3, .ref (am 612)]) C0 hW (c_x5_get l _ t (gA t 604 (v3).toNatClampNeg) (1 : Int32) (r := q10) hc11) cb_X6_X5_get_95 5 5 rfl rfl rfl rfl rfl ⟨rfl, rfl⟩ ⟨Nat.le_of_ble_eq_true rfl, Nat.le_of_ble_eq_true rfl⟩ (Nat.le_of_ble_eq_true rfl) hl.1 dX6_timeByMany_29 ⟨Nat.le_of_ble_eq_true rfl, Nat.le_of_ble_eq_true rfl⟩) (fun H locs hW => ?_)
        refine lv_goto (tgt := 40) hx hb dX6_timeByMany_32 (by decide) ?_
        exact J40 _ _ _ _ ho _ _ _ hW (lv_sub hl [0, 1, 2, 3] rfl)
set_option maxHeartbeats 4000000 in
set_option maxRecDepth 100000 in
theorem c_x6_timeByMany (l : Launch) {D : va_G} {cI cJ cZ cR : ClassId} {am gm : Nat → Nat} {st : Nat} (sz : Nat) (t : St) (a1 : Int32) {r : Int32} {t' : St} (ho : x6_timeByMany t a1 = some (r, t')) : Met l yX6_timeByMany (.code yX6_timeByMany cX6_timeByMany 4 (some .int) :: wsAll) (rmN 3 72) (va_Pc [.ref (am 2006), .int a1, .ref (am 2005)] (prX D (tyX cI cJ cZ cR) (wX cI cJ cZ cR am gm t) sz st)) (qI r D (tyX cI cJ cZ cR) (wX cI cJ cZ cR am gm t') (va_A (wX cI cJ cZ cR am gm t) sz)) 0 0 (va_A (wX cI cJ cZ cR am gm t) sz) := by
  refine Met.ofW (cc := cX6_timeByMany) (maxL := 4) (ret := (some .int)) (by decide) rfl ?_
  intro p e s m args below meth c s₁ B hml hv
  obtain ⟨rfl, ⟨hsz, hP, hK, hD0⟩, hsx⟩ := hv
  have hx := B.exec
  have hb := B.bytes
  have hts := atoms_spec (ws := (.code yX6_timeByMany cX6_timeByMany 4 (some .int) :: wsAll)) B.pre
  have hta := fun w h => hts w (List.mem_cons_of_mem _ h)
  have hown : s.vm.findClass RX6 = some m.cls := findClass_of_methodNamed B.named
  have hlocks := B.notSynchronized
  subst hsz
  have hD := hD0.self (sz := s.heap.size)
  generalize hAe : va_A (wX cI cJ cZ cR am gm t) s.heap.size = A at hD ⊢
  have hA : ∀ q : Nat, s.heap.size ≤ q → A q := fun q h => by rw [← hAe]; exact Or.inr h
  have C0 : cxX p s m ([.ref (am 2006), .int a1, .ref (am 2005)].toArray) meth c cX6_timeByMany RX6 4 (some .int) D (tyX cI cJ cZ cR) st A := ⟨⟨hx, hb, B.returns, hml, hown, hta, hlocks, hK, hA⟩, by rw [← hAe]; exact hsx⟩
  have hW : wl D A s (wX cI cJ cZ cR am gm t) s.heap [] := ⟨hP, hD, va_S.rf⟩
  have hl := lv_entry [.ref (am 2006), .int a1, .ref (am 2005)] (n := 4) (Nat.le_of_ble_eq_true rfl)
  rw [lg_entry_eq]
  generalize (lg_sl [.ref (am 2006), .int a1, .ref (am 2005)] ++ List.replicate (4 - (lg_sl [.ref (am 2006), .int a1, .ref (am 2005)]).length) Slot.unset).toArray = ls at hl ⊢
  have hl : lv_has ls 4 [(0, .ref (am 2006)), (1, .int a1), (2, .ref (am 2005))] := hl
  unfold x6_timeByMany at ho
  refine lv_iconst (v := (0 : Int32)) hx hb dX6_timeByMany_0 (by decide) ?_
  refine lv_istore_n (lv' := [(3, .int (0 : Int32)), (0, .ref (am 2006)), (1, .int a1), (2, .ref (am 2005))]) hx hb dX6_timeByMany_1 rfl hl (by decide) rfl (fun ls hl => ?_)
  obtain ⟨y12, hc14, ho⟩ := bd_some ho
  obtain ⟨ny12, hc14⟩ := lp_to hc14
  refine x6_timeByMany_L2 C0 ?_ ny12 _ _ hc14 _ _ _ hW (lv_sub hl [1, 2, 3, 0] rfl)
  intro H locs ls hW hl
  refine lv_aload_n hx hb dX6_timeByMany_47 rfl (lv_at hl 0 rfl) ?_
  refine xGET_612 C0 kw_209 hW dX6_timeByMany_48 ?_
  refine lv_iload_n hx hb dX6_timeByMany_51 rfl (lv_at hl 1 rfl) ?_
  obtain ⟨g15, ho⟩ := gd_some ho
  refine xLD_612 C0 hW g15 dX6_timeByMany_52 ?_
  cases ho
  exact rtI C0.1 hW dX6_timeByMany_53
noncomputable def x11_many (t : St) (a1 : Int32) : Option (Int32 × St) :=
  (x11_noNet t a1).bind (fun q1 => if q1 = 0 then (gd a1 (gN t 602) (nm (gA t 602 (a1).toNatClampNeg) (fun x6 : Int32 => if 0 ≤ x6 then ((x6_timeByMany t x6).bind (fun q8 => some (q8.1, q8.2))) else (some ((-3 : Int32), t))))) else (some ((-2 : Int32), t)))
theorem mm_x11_many (t : St) (a1 : Int32) : MR (x11_many t a1) t (fun (a : Int32 × St) => a.2) := by
  unfold x11_many
  exact MR_bindn (fun q1 => MR_ite (MR_gd (MR_nm (fun x6 _ => MR_ite (MR_bind (mm_x6_timeByMany t x6) (fun q8 hq8 => MR_some hq8)) (MR_some mle.rfl)))) (MR_some mle.rfl))
set_option maxHeartbeats 4000000 in
set_option maxRecDepth 100000 in
theorem c_x11_many (l : Launch) {D : va_G} {cI cJ cZ cR : ClassId} {am gm : Nat → Nat} {st : Nat} (sz : Nat) (t : St) (a1 : Int32) {r : Int32} {t' : St} (ho : x11_many t a1 = some (r, t')) : Met l yX11_many (.code yX11_many cX11_many 3 (some .int) :: wsAll) (rmN 4 95) (va_Pc [.ref (am 2011), .int a1] (prX D (tyX cI cJ cZ cR) (wX cI cJ cZ cR am gm t) sz st)) (qI r D (tyX cI cJ cZ cR) (wX cI cJ cZ cR am gm t') (va_A (wX cI cJ cZ cR am gm t) sz)) 0 0 (va_A (wX cI cJ cZ cR am gm t) sz) := by
  refine Met.ofW (cc := cX11_many) (maxL := 3) (ret := (some .int)) (by decide) rfl ?_
  intro p e s m args below meth c s₁ B hml hv
  obtain ⟨rfl, ⟨hsz, hP, hK, hD0⟩, hsx⟩ := hv
  have hx := B.exec
  have hb := B.bytes
  have hts := atoms_spec (ws := (.code yX11_many cX11_many 3 (some .int) :: wsAll)) B.pre
  have hta := fun w h => hts w (List.mem_cons_of_mem _ h)
  have hown : s.vm.findClass RX11 = some m.cls := findClass_of_methodNamed B.named
  have hlocks := B.notSynchronized
  subst hsz
  have hD := hD0.self (sz := s.heap.size)
  generalize hAe : va_A (wX cI cJ cZ cR am gm t) s.heap.size = A at hD ⊢
  have hA : ∀ q : Nat, s.heap.size ≤ q → A q := fun q h => by rw [← hAe]; exact Or.inr h
  have C0 : cxX p s m ([.ref (am 2011), .int a1].toArray) meth c cX11_many RX11 3 (some .int) D (tyX cI cJ cZ cR) st A := ⟨⟨hx, hb, B.returns, hml, hown, hta, hlocks, hK, hA⟩, by rw [← hAe]; exact hsx⟩
  have hW : wl D A s (wX cI cJ cZ cR am gm t) s.heap [] := ⟨hP, hD, va_S.rf⟩
  have hl := lv_entry [.ref (am 2011), .int a1] (n := 3) (Nat.le_of_ble_eq_true rfl)
  rw [lg_entry_eq]
  generalize (lg_sl [.ref (am 2011), .int a1] ++ List.replicate (3 - (lg_sl [.ref (am 2011), .int a1]).length) Slot.unset).toArray = ls at hl ⊢
  have hl : lv_has ls 3 [(0, .ref (am 2011)), (1, .int a1)] := hl
  unfold x11_many at ho
  refine lv_iload_n hx hb dX11_many_0 rfl (lv_at hl 1 rfl) ?_
  obtain ⟨q1, hc2, ho⟩ := bd_some ho
  refine bkZ C0.1 hW (runSX (As := [.int a1]) (rest := []) C0 hW (c_x11_noNet l _ t a1 (r := q1) hc2) cb_X11_X11_noNet_124 rfl rfl ⟨rfl, rfl⟩ ⟨Nat.le_of_ble_eq_true rfl, Nat.le_of_ble_eq_true rfl⟩ (Nat.le_of_ble_eq_true rfl) hl.1 dX11_many_1 ⟨Nat.le_of_ble_eq_true rfl, Nat.le_of_ble_eq_true rfl⟩) (fun z3 H locs hW => ?_)
  refine lv_if_eq (tgt := 10) hx hb dX11_many_4 (by decide) (fun c4 => ?_) (fun c4 => ?_)
  · replace ho := ite_t c4 ho
    refine lv_aload_n hx hb dX11_many_10 rfl (lv_at hl 0 rfl) ?_
    refine xGET_1101 C0 kw_592 hW dX11_many_11 ?_
    refine xGET_602 C0 kw_184 hW dX11_many_14 ?_
    refine lv_iload_n hx hb dX11_many_17 rfl (lv_at hl 1 rfl) ?_
    obtain ⟨g5, ho⟩ := gd_some ho
    refine xLD_602 C0 hW g5 dX11_many_18 ?_
    refine lv_nmi ho (fun x6 ho => ?_)
    refine lv_istore_n (lv' := [(2, .int x6), (0, .ref (am 2011)), (1, .int a1)]) hx hb dX11_many_19 rfl hl (by decide) rfl (fun ls hl => ?_)
    refine lv_iload_n hx hb dX11_many_20 rfl (lv_at hl 0 rfl) ?_
    refine lv_if_ge (tgt := 29) hx hb dX11_many_21 (by decide) (fun c7 => ?_) (fun c7 => ?_)
    · replace ho := ite_t c7 ho
      refine lv_aload_n hx hb dX11_many_29 rfl (lv_at hl 1 rfl) ?_
      refine xGET_1101 C0 kw_592 hW dX11_many_30 ?_
      refine lv_iload_n hx hb dX11_many_33 rfl (lv_at hl 0 rfl) ?_
      refine lv_aload_n hx hb dX11_many_34 rfl (lv_at hl 1 rfl) ?_
      refine xGET_1100 C0 kw_591 hW dX11_many_35 ?_
      obtain ⟨q8, hc9, ho⟩ := bd_some ho
      refine bkI C0.1 hW (runVX (As := [.int x6, .ref (am 2005)]) (rest := []) C0 hW (c_x6_timeByMany l _ t x6 (r := q8.1) (t' := q8.2) hc9) cb_X11_X6_timeByMany_186 6 6 rfl rfl rfl rfl rfl ⟨rfl, rfl⟩ ⟨Nat.le_of_ble_eq_true rfl, Nat.le_of_ble_eq_true rfl⟩ (Nat.le_of_ble_eq_true rfl) hl.1 dX11_many_38 ⟨Nat.le_of_ble_eq_true rfl, Nat.le_of_ble_eq_true rfl⟩) (fun H locs hW => ?_)
      cases ho
      exact rtI C0.1 hW dX11_many_41
    · replace ho := ite_f c7 ho
      refine lv_bipush (v := (-3 : Int32)) hx hb dX11_many_24 (by decide) ?_
      refine lv_goto (tgt := 41) hx hb dX11_many_26 (by decide) ?_
      cases ho
      exact rtI C0.1 hW dX11_many_41
  · replace ho := ite_f c4 ho
    refine lv_bipush (v := (-2 : Int32)) hx hb dX11_many_7 (by decide) ?_
    cases ho
    exact rtI C0.1 hW dX11_many_9
noncomputable def x2_wipe_8_B2 (v1 : Int32) (v2 : Int32) (v3 : Int32) (t : St) : Option ((Int32 × St) ⊕ (St)) :=
  if v2 ≤ v3 then (some (.inr t)) else (gd (v1 + v3) (gN t 8) (nm (sA t 8 (v1 + v3) (0 : Int32)) (fun t3 : St => nm (v3 + (1 : Int32)) (fun x4 : Int32 => some (.inl (x4, t3))))))
theorem mm_x2_wipe_8_B2 (v1 : Int32) (v2 : Int32) (v3 : Int32) (t : St) : MR (x2_wipe_8_B2 v1 v2 v3 t) t (Sum.elim (fun (x : Int32 × St) => x.2) (fun (y : St) => y)) := by
  unfold x2_wipe_8_B2
  exact MR_ite (MR_some mle.rfl) (MR_gd (MR_nmS mle_sA (fun t3 ht3 => MR_nm (fun x4 _ => MR_some ht3))))
theorem mm_x2_wipe_8_L2 (v1 : Int32) (v2 : Int32) (v3 : Int32) (t : St) : MR (lp (fun x => x2_wipe_8_B2 v1 v2 x.1 x.2) (v3, t)) t (fun (y : St) => y) := MR_lp (p := (fun (x : Int32 × St) => x.2)) (q := (fun (y : St) => y)) (fun x => mm_x2_wipe_8_B2 v1 v2 x.1 x.2) (v3, t)
noncomputable def x2_wipe_8 (t : St) (a1 : Int32) (a2 : Int32) : Option (St) :=
  (lp (fun x => x2_wipe_8_B2 a1 a2 x.1 x.2) ((0 : Int32), t)).bind (fun y5 => some y5)
theorem mm_x2_wipe_8 (t : St) (a1 : Int32) (a2 : Int32) : MR (x2_wipe_8 t a1 a2) t (fun (a : St) => a) := by
  unfold x2_wipe_8
  exact MR_bind (mm_x2_wipe_8_L2 a1 a2 (0 : Int32) t) (fun y5 hm6 => MR_some hm6)
set_option maxHeartbeats 4000000 in
set_option maxRecDepth 100000 in
theorem x2_wipe_8_L2 {p : Program} {l : Launch} {e : Env} {s : State} {m : MethodId} {args : Array Value} {below : List Frame} {meth : Method} {c : Code} {Q : State → Prop} {D : va_G} {cI cJ cZ cR : ClassId} {am gm : Nat → Nat} {st : Nat} {A : Nat → Prop} (C0 : cxX p s m args meth c cX2_wipe RX2 4 none D (tyX cI cJ cZ cR) st A) {v1 : Int32} {v2 : Int32} {y : St} (hK0 : ∀ (H : Heap) (locs : List Loc) (ls : Array Slot), wl D A s (wX cI cJ cZ cR am gm y) H locs → lv_has ls 4 [] → W p l e (rmN 0 0) s m args below meth c H locs 0 0 Q (F0 m 19 ls [])) :
    ∀ (n : Nat) (v3 : Int32) (t : St), lpn (fun x => x2_wipe_8_B2 v1 v2 x.1 x.2) n (v3, t) = some y → ∀ (H : Heap) (locs : List Loc) (ls : Array Slot), wl D A s (wX cI cJ cZ cR am gm t) H locs → lv_has ls 4 [(0, .ref (gm 8)), (1, .int v1), (2, .int v2), (3, .int v3)] → W p l e (rmN 0 0) s m args below meth c H locs 0 0 Q (F0 m 2 ls []) := by
  have hx := C0.1.1
  have hb := C0.1.2.1
  have hta := C0.1.2.2.2.2.2.1
  have hown := C0.1.2.2.2.2.1
  intro n
  induction n with
  | zero => intro _ _ h; cases h
  | succ n ih =>
    intro v3 t hrun H locs ls hW hl
    obtain ⟨o, ho, hrun⟩ := bd_some hrun
    unfold x2_wipe_8_B2 at ho
    refine lv_iload_n hx hb dX2_wipe_2 rfl (lv_at hl 3 rfl) ?_
    refine lv_iload_n hx hb dX2_wipe_3 rfl (lv_at hl 2 rfl) ?_
    refine lv_icmp_ge (tgt := 19) hx hb dX2_wipe_4 (by decide) (fun c1 => ?_) (fun c1 => ?_)
    · replace ho := ite_t c1 ho
      cases ho
      cases hrun
      exact hK0 _ _ _ hW (lv_sub hl [] rfl)
    · replace ho := ite_f c1 ho
      refine lv_aload_n hx hb dX2_wipe_7 rfl (lv_at hl 0 rfl) ?_
      refine lv_iload_n hx hb dX2_wipe_8 rfl (lv_at hl 1 rfl) ?_
      refine lv_iload_n hx hb dX2_wipe_9 rfl (lv_at hl 3 rfl) ?_
      refine lv_iadd hx hb dX2_wipe_10 ?_
      refine lv_iconst (v := (0 : Int32)) hx hb dX2_wipe_11 (by decide) ?_
      obtain ⟨g2, ho⟩ := gd_some ho
      refine xST_8 C0 hW g2 dX2_wipe_12 (fun H locs hW => ?_)
      obtain ⟨t3, ho, hW⟩ := nm_w (P := fun t => wl D A s (wX cI cJ cZ cR am gm t) H locs) ho hW
      obtain ⟨x4, ex4, ho⟩ := nm_x ho
      refine lv_iinc (v := x4) (lv' := [(3, .int x4), (0, .ref (gm 8)), (1, .int v1), (2, .int v2)]) hx hb dX2_wipe_13 hl (k := 3) rfl (by rw [ex4]; rfl) (by decide) rfl (fun ls hl => ?_)
      clear ex4
      refine lv_goto (tgt := 2) hx hb dX2_wipe_16 (by decide) ?_
      cases ho
      exact ih _ _ hrun _ _ _ hW (lv_sub hl [1, 2, 3, 0] rfl)
set_option maxHeartbeats 4000000 in
set_option maxRecDepth 100000 in
theorem c_x2_wipe_8 (l : Launch) {D : va_G} {cI cJ cZ cR : ClassId} {am gm : Nat → Nat} {st : Nat} (sz : Nat) (t : St) (a1 : Int32) (a2 : Int32) {t' : St} (ho : x2_wipe_8 t a1 a2 = some t') : Met l yX2_wipe (.code yX2_wipe cX2_wipe 4 none :: wsAll) (rmN 0 0) (va_Pc [.ref (gm 8), .int a1, .int a2] (prX D (tyX cI cJ cZ cR) (wX cI cJ cZ cR am gm t) sz st)) (qV D (tyX cI cJ cZ cR) (wX cI cJ cZ cR am gm t') (va_A (wX cI cJ cZ cR am gm t) sz)) 0 0 (va_A (wX cI cJ cZ cR am gm t) sz) := by
  refine Met.ofW (cc := cX2_wipe) (maxL := 4) (ret := none) (by decide) rfl ?_
  intro p e s m args below meth c s₁ B hml hv
  obtain ⟨rfl, ⟨hsz, hP, hK, hD0⟩, hsx⟩ := hv
  have hx := B.exec
  have hb := B.bytes
  have hts := atoms_spec (ws := (.code yX2_wipe cX2_wipe 4 none :: wsAll)) B.pre
  have hta := fun w h => hts w (List.mem_cons_of_mem _ h)
  have hown : s.vm.findClass RX2 = some m.cls := findClass_of_methodNamed B.named
  have hlocks := B.notSynchronized
  subst hsz
  have hD := hD0.self (sz := s.heap.size)
  generalize hAe : va_A (wX cI cJ cZ cR am gm t) s.heap.size = A at hD ⊢
  have hA : ∀ q : Nat, s.heap.size ≤ q → A q := fun q h => by rw [← hAe]; exact Or.inr h
  have C0 : cxX p s m ([.ref (gm 8), .int a1, .int a2].toArray) meth c cX2_wipe RX2 4 none D (tyX cI cJ cZ cR) st A := ⟨⟨hx, hb, B.returns, hml, hown, hta, hlocks, hK, hA⟩, by rw [← hAe]; exact hsx⟩
  have hW : wl D A s (wX cI cJ cZ cR am gm t) s.heap [] := ⟨hP, hD, va_S.rf⟩
  have hl := lv_entry [.ref (gm 8), .int a1, .int a2] (n := 4) (Nat.le_of_ble_eq_true rfl)
  rw [lg_entry_eq]
  generalize (lg_sl [.ref (gm 8), .int a1, .int a2] ++ List.replicate (4 - (lg_sl [.ref (gm 8), .int a1, .int a2]).length) Slot.unset).toArray = ls at hl ⊢
  have hl : lv_has ls 4 [(0, .ref (gm 8)), (1, .int a1), (2, .int a2)] := hl
  unfold x2_wipe_8 at ho
  refine lv_iconst (v := (0 : Int32)) hx hb dX2_wipe_0 (by decide) ?_
  refine lv_istore_n (lv' := [(3, .int (0 : Int32)), (0, .ref (gm 8)), (1, .int a1), (2, .int a2)]) hx hb dX2_wipe_1 rfl hl (by decide) rfl (fun ls hl => ?_)
  obtain ⟨y5, hc7, ho⟩ := bd_some ho
  obtain ⟨ny5, hc7⟩ := lp_to hc7
  refine x2_wipe_8_L2 C0 ?_ ny5 _ _ hc7 _ _ _ hW (lv_sub hl [1, 2, 3, 0] rfl)
  intro H locs ls hW hl
  cases ho
  exact rtV C0.1 hW dX2_wipe_19
noncomputable def x0_makeRoom_J86 (t : St) (v1 : Int32) (v3 : Int32) : Option (St) :=
  (x2_wipe_8 t (0 : Int32) v3).bind (fun q1 => nm (sI q1 5 (v3 - (1 : Int32))) (fun t3 : St => nm (sI t3 3 (2 : Int32)) (fun t4 : St => nm (sI t4 6 ((v1 + (2 : Int32)) / (3 : Int32))) (fun t5 : St => some t5))))
theorem mm_x0_makeRoom_J86 (t : St) (v1 : Int32) (v3 : Int32) : MR (x0_makeRoom_J86 t v1 v3) t (fun (a : St) => a) := by
  unfold x0_makeRoom_J86
  exact MR_bind (mm_x2_wipe_8 t (0 : Int32) v3) (fun q1 hq1 => MR_nmS mle_sI (fun t3 ht3 => MR_nmS mle_sI (fun t4 ht4 => MR_nmS mle_sI (fun t5 ht5 => MR_some (mle.trans (mle.trans (mle.trans hq1 ht3) ht4) ht5)))))
noncomputable def x0_makeRoom_J74 (t : St) (v1 : Int32) (v3 : Int32) : Option (St) :=
  grw t 8 v3 (fun t6 : St => x0_makeRoom_J86 t6 v1 v3)
theorem mm_x0_makeRoom_J74 (t : St) (v1 : Int32) (v3 : Int32) : MR (x0_makeRoom_J74 t v1 v3) t (fun (a : St) => a) := by
  unfold x0_makeRoom_J74
  exact MR_grw (fun t6 ht6 => MR_wk ht6 (mm_x0_makeRoom_J86 t6 v1 v3))
noncomputable def x0_makeRoom_J62 (t : St) (v1 : Int32) (v2 : Int32) (v3 : Int32) : Option (St) :=
  grw t 11 v2 (fun t8 : St => x0_makeRoom_J74 t8 v1 v3)
theorem mm_x0_makeRoom_J62 (t : St) (v1 : Int32) (v2 : Int32) (v3 : Int32) : MR (x0_makeRoom_J62 t v1 v2 v3) t (fun (a : St) => a) := by
  unfold x0_makeRoom_J62
  exact MR_grw (fun t8 ht8 => MR_wk ht8 (mm_x0_makeRoom_J74 t8 v1 v3))
noncomputable def x0_makeRoom_J50 (t : St) (v1 : Int32) (v2 : Int32) (v3 : Int32) : Option (St) :=
  grw t 10 v2 (fun t10 : St => x0_makeRoom_J62 t10 v1 v2 v3)
theorem mm_x0_makeRoom_J50 (t : St) (v1 : Int32) (v2 : Int32) (v3 : Int32) : MR (x0_makeRoom_J50 t v1 v2 v3) t (fun (a : St) => a) := by
  unfold x0_makeRoom_J50
  exact MR_grw (fun t10 ht10 => MR_wk ht10 (mm_x0_makeRoom_J62 t10 v1 v2 v3))
noncomputable def x0_makeRoom_J38 (t : St) (v1 : Int32) (v2 : Int32) (v3 : Int32) : Option (St) :=
  grw t 9 v2 (fun t12 : St => x0_makeRoom_J50 t12 v1 v2 v3)
theorem mm_x0_makeRoom_J38 (t : St) (v1 : Int32) (v2 : Int32) (v3 : Int32) : MR (x0_makeRoom_J38 t v1 v2 v3) t (fun (a : St) => a) := by
  unfold x0_makeRoom_J38
  exact MR_grw (fun t12 ht12 => MR_wk ht12 (mm_x0_makeRoom_J50 t12 v1 v2 v3))
noncomputable def x0_makeRoom (t0 : St) (a1 : Int32) : Option (St) :=
  nm (if (((1 : Int32) <<< (a1 &&& 31)) + (2 : Int32)) < (4400 : Int32) then (((1 : Int32) <<< (a1 &&& 31)) + (2 : Int32)) else (4400 : Int32)) (fun x14 : Int32 => nm (if ((2 : Int32) <<< (a1 &&& 31)) < (8192 : Int32) then ((2 : Int32) <<< (a1 &&& 31)) else (8192 : Int32)) (fun x15 : Int32 => grw t0 7 ((1 : Int32) <<< ((a1 - (1 : Int32)) &&& 31)) (fun t16 : St => x0_makeRoom_J38 t16 a1 x14 x15)))
theorem mm_x0_makeRoom (t0 : St) (a1 : Int32) : MR (x0_makeRoom t0 a1) t0 (fun (a : St) => a) := by
  unfold x0_makeRoom
  exact MR_nm (fun x14 _ => MR_nm (fun x15 _ => MR_grw (fun t16 ht16 => MR_wk ht16 (mm_x0_makeRoom_J38 t16 a1 x14 x15))))
set_option maxHeartbeats 4000000 in
set_option maxRecDepth 100000 in
theorem c_x0_makeRoom (l : Launch) {D : va_G} {cI cJ cZ cR : ClassId} {am gm : Nat → Nat} {st : Nat} (sz : Nat) (t0 : St) (a1 : Int32) {t' : St} (ho : x0_makeRoom t0 a1 = some t') : Met l yX0_makeRoom (.code yX0_makeRoom cX0_makeRoom 4 none :: wsAll) (rmA 2 42 t0 t') (va_Pc [.ref (am 2000), .int a1] (prX D (tyX cI cJ cZ cR) (wX cI cJ cZ cR am gm t0) sz st)) (qVa D (tyX cI cJ cZ cR) (fun gm => wX cI cJ cZ cR am gm t') (va_A (wX cI cJ cZ cR am gm t0) sz)) (mC t0 t') (mS t0 t') (va_A (wX cI cJ cZ cR am gm t0) sz) := by
  refine Met.ofW (cc := cX0_makeRoom) (maxL := 4) (ret := none) (by decide) rfl ?_
  intro p e s m args below meth c s₁ B hml hv
  obtain ⟨rfl, ⟨hsz, hP, hK, hD0⟩, hsx⟩ := hv
  have hx := B.exec
  have hb := B.bytes
  have hts := atoms_spec (ws := (.code yX0_makeRoom cX0_makeRoom 4 none :: wsAll)) B.pre
  have hta := fun w h => hts w (List.mem_cons_of_mem _ h)
  have hown : s.vm.findClass RX0 = some m.cls := findClass_of_methodNamed B.named
  have hlocks := B.notSynchronized
  subst hsz
  have hD := hD0.self (sz := s.heap.size)
  generalize hAe : va_A (wX cI cJ cZ cR am gm t0) s.heap.size = A at hD ⊢
  have hA : ∀ q : Nat, s.heap.size ≤ q → A q := fun q h => by rw [← hAe]; exact Or.inr h
  have C0 : cxX p s m ([.ref (am 2000), .int a1].toArray) meth c cX0_makeRoom RX0 4 none D (tyX cI cJ cZ cR) st A := ⟨⟨hx, hb, B.returns, hml, hown, hta, hlocks, hK, hA⟩, by rw [← hAe]; exact hsx⟩
  have hW : wl D A s (wX cI cJ cZ cR am gm t0) s.heap [] := ⟨hP, hD, va_S.rf⟩
  have hl := lv_entry [.ref (am 2000), .int a1] (n := 4) (Nat.le_of_ble_eq_true rfl)
  rw [lg_entry_eq]
  generalize (lg_sl [.ref (am 2000), .int a1] ++ List.replicate (4 - (lg_sl [.ref (am 2000), .int a1]).length) Slot.unset).toArray = ls at hl ⊢
  have hl : lv_has ls 4 [(0, .ref (am 2000)), (1, .int a1)] := hl
  clear hAe hD hP hD0 hts
  have J86 : ∀ (gm : Nat → Nat) (t : St) (v1 : Int32) (v3 : Int32) (_ : x0_makeRoom_J86 t v1 v3 = some t') (_ : mle t0 t) (H : Heap) (locs : List Loc) (ls : Array Slot), wl D A s (wX cI cJ cZ cR am gm t) H locs → lv_has ls 4 [(0, .ref (am 2000)), (1, .int v1), (3, .int v3)] → W p l e (rmA 2 42 t0 t') s m ([.ref (am 2000), .int a1].toArray) below meth c H locs (mC t0 t) (mS t0 t) (MQ below (qVa D (tyX cI cJ cZ cR) (fun gm => wX cI cJ cZ cR am gm t') A) ([.ref (am 2000), .int a1].toArray) s (mC t0 t') (mS t0 t') A) (F0 m 86 ls []) := by
    intro gm t v1 v3 ho h0 H locs ls hW hl
    have hE : mle t t' := (mm_x0_makeRoom_J86 _ _ _ _ ho)
    have hR := hR_of (t0 := t0) hE
    unfold x0_makeRoom_J86 at ho
    refine lv_aload_n hx hb dX0_makeRoom_86 rfl (lv_at hl 0 rfl) ?_
    refine xGET_8 C0 kw_392 hW dX0_makeRoom_87 ?_
    refine lv_iconst (v := (0 : Int32)) hx hb dX0_makeRoom_90 (by decide) ?_
    refine lv_iload_n hx hb dX0_makeRoom_91 rfl (lv_at hl 2 rfl) ?_
    obtain ⟨q1, hc2, ho⟩ := bd_some ho
    have hq1 := mm_x2_wipe_8 t (0 : Int32) v3 _ hc2
    refine bkV C0.1 hW (runSX (As := [.ref (gm 8), .int (0 : Int32), .int v3]) (rest := []) C0 hW (c_x2_wipe_8 l _ t (0 : Int32) v3 (t' := q1) hc2) cb_X0_X2_wipe_92 rfl rfl ⟨rfl, rfl⟩ ⟨Nat.le_of_ble_eq_true rfl, Nat.le_of_ble_eq_true rfl⟩ (Nat.le_of_ble_eq_true rfl) hl.1 dX0_makeRoom_92 ⟨hR.1, hR.2⟩) (fun H locs hW => ?_)
    refine lv_aload_n hx hb dX0_makeRoom_95 rfl (lv_at hl 0 rfl) ?_
    refine lv_iload_n hx hb dX0_makeRoom_96 rfl (lv_at hl 2 rfl) ?_
    refine lv_iconst (v := (1 : Int32)) hx hb dX0_makeRoom_97 (by decide) ?_
    refine lv_isub hx hb dX0_makeRoom_98 ?_
    refine xPUT_5 C0 kw_387 hW dX0_makeRoom_99 (fun H locs hW => ?_)
    obtain ⟨t3, ht3, ho, hW⟩ := nm_wm (P := fun t => wl D A s (wX cI cJ cZ cR am gm t) H locs) mle_sI ho hW
    refine lv_aload_n hx hb dX0_makeRoom_102 rfl (lv_at hl 0 rfl) ?_
    refine lv_iconst (v := (2 : Int32)) hx hb dX0_makeRoom_103 (by decide) ?_
    refine xPUT_3 C0 kw_385 hW dX0_makeRoom_104 (fun H locs hW => ?_)
    obtain ⟨t4, ht4, ho, hW⟩ := nm_wm (P := fun t => wl D A s (wX cI cJ cZ cR am gm t) H locs) mle_sI ho hW
    refine lv_aload_n hx hb dX0_makeRoom_107 rfl (lv_at hl 0 rfl) ?_
    refine lv_iload_n hx hb dX0_makeRoom_108 rfl (lv_at hl 1 rfl) ?_
    refine lv_iconst (v := (2 : Int32)) hx hb dX0_makeRoom_109 (by decide) ?_
    refine lv_iadd hx hb dX0_makeRoom_110 ?_
    refine lv_iconst (v := (3 : Int32)) hx hb dX0_makeRoom_111 (by decide) ?_
    refine lv_idiv hx hb dX0_makeRoom_112 (by decide) ?_
    refine xPUT_6 C0 kw_388 hW dX0_makeRoom_113 (fun H locs hW => ?_)
    obtain ⟨t5, ht5, ho, hW⟩ := nm_wm (P := fun t => wl D A s (wX cI cJ cZ cR am gm t) H locs) mle_sI ho hW
    refine W_up h0 (mle.trans (mle.trans (mle.trans hq1 ht3) ht4) ht5) ?_
    cases ho
    exact rtVa gm C0.1 hW dX0_makeRoom_116
  have J74 : ∀ (gm : Nat → Nat) (t : St) (v1 : Int32) (v3 : Int32) (_ : x0_makeRoom_J74 t v1 v3 = some t') (_ : mle t0 t) (H : Heap) (locs : List Loc) (ls : Array Slot), wl D A s (wX cI cJ cZ cR am gm t) H locs → lv_has ls 4 [(0, .ref (am 2000)), (1, .int v1), (3, .int v3)] → W p l e (rmA 2 42 t0 t') s m ([.ref (am 2000), .int a1].toArray) below meth c H locs (mC t0 t) (mS t0 t) (MQ below (qVa D (tyX cI cJ cZ cR) (fun gm => wX cI cJ cZ cR am gm t') A) ([.ref (am 2000), .int a1].toArray) s (mC t0 t') (mS t0 t') A) (F0 m 74 ls []) := by
    intro gm t v1 v3 ho h0 H locs ls hW hl
    have hE : mle t t' := (mm_x0_makeRoom_J74 _ _ _ _ ho)
    have hR := hR_of (t0 := t0) hE
    unfold x0_makeRoom_J74 at ho
    refine lv_aload_n hx hb dX0_makeRoom_74 rfl (lv_at hl 0 rfl) ?_
    refine lv_aload_n hx hb dX0_makeRoom_75 rfl (lv_at hl 0 rfl) ?_
    refine xGET_8 C0 kw_392 hW dX0_makeRoom_76 ?_
    refine lv_iload_n hx hb dX0_makeRoom_79 rfl (lv_at hl 2 rfl) ?_
    obtain ⟨t6, g7, ho⟩ := grw_some ho
    have ht6 := g7.mle
    have hEt6 := (mm_x0_makeRoom_J86 _ _ _ _ ho)
    refine xGROW_8 (rest := []) C0 cb_X0_X2_grown_88 kw_392 hl.1 hW g7 h0 hEt6 (Nat.le_of_ble_eq_true rfl) (Nat.le_of_ble_eq_true rfl) (Nat.le_of_ble_eq_true rfl) dX0_makeRoom_80 dX0_makeRoom_83 (fun gm H locs hW => ?_)
    have h0 := mle.trans h0 ht6
    exact J86 gm _ _ _ ho h0 _ _ _ hW (lv_sub hl [0, 1, 2] rfl)
  have J62 : ∀ (gm : Nat → Nat) (t : St) (v1 : Int32) (v2 : Int32) (v3 : Int32) (_ : x0_makeRoom_J62 t v1 v2 v3 = some t') (_ : mle t0 t) (H : Heap) (locs : List Loc) (ls : Array Slot), wl D A s (wX cI cJ cZ cR am gm t) H locs → lv_has ls 4 [(0, .ref (am 2000)), (1, .int v1), (2, .int v2), (3, .int v3)] → W p l e (rmA 2 42 t0 t') s m ([.ref (am 2000), .int a1].toArray) below meth c H locs (mC t0 t) (mS t0 t) (MQ below (qVa D (tyX cI cJ cZ cR) (fun gm => wX cI cJ cZ cR am gm t') A) ([.ref (am 2000), .int a1].toArray) s (mC t0 t') (mS t0 t') A) (F0 m 62 ls []) := by
    intro gm t v1 v2 v3 ho h0 H locs ls hW hl
    have hE : mle t t' := (mm_x0_makeRoom_J62 _ _ _ _ _ ho)
    have hR := hR_of (t0 := t0) hE
    unfold x0_makeRoom_J62 at ho
    refine lv_aload_n hx hb dX0_makeRoom_62 rfl (lv_at hl 0 rfl) ?_
    refine lv_aload_n hx hb dX0_makeRoom_63 rfl (lv_at hl 0 rfl) ?_
    refine xGET_11 C0 kw_395 hW dX0_makeRoom_64 ?_
    refine lv_iload_n hx hb dX0_makeRoom_67 rfl (lv_at hl 2 rfl) ?_
    obtain ⟨t8, g9, ho⟩ := grw_some ho
    have ht8 := g9.mle
    have hEt8 := (mm_x0_makeRoom_J74 _ _ _ _ ho)
    refine xGROW_11 (rest := []) C0 cb_X0_X2_grown_88 kw_395 hl.1 hW g9 h0 hEt8 (Nat.le_of_ble_eq_true rfl) (Nat.le_of_ble_eq_true rfl) (Nat.le_of_ble_eq_true rfl) dX0_makeRoom_68 dX0_makeRoom_71 (fun gm H locs hW => ?_)
    have h0 := mle.trans h0 ht8
    exact J74 gm _ _ _ ho h0 _ _ _ hW (lv_sub hl [0, 1, 3] rfl)
  have J50 : ∀ (gm : Nat → Nat) (t : St) (v1 : Int32) (v2 : Int32) (v3 : Int32) (_ : x0_makeRoom_J50 t v1 v2 v3 = some t') (_ : mle t0 t) (H : Heap) (locs : List Loc) (ls : Array Slot), wl D A s (wX cI cJ cZ cR am gm t) H locs → lv_has ls 4 [(0, .ref (am 2000)), (1, .int v1), (2, .int v2), (3, .int v3)] → W p l e (rmA 2 42 t0 t') s m ([.ref (am 2000), .int a1].toArray) below meth c H locs (mC t0 t) (mS t0 t) (MQ below (qVa D (tyX cI cJ cZ cR) (fun gm => wX cI cJ cZ cR am gm t') A) ([.ref (am 2000), .int a1].toArray) s (mC t0 t') (mS t0 t') A) (F0 m 50 ls []) := by
    intro gm t v1 v2 v3 ho h0 H locs ls hW hl
    have hE : mle t t' := (mm_x0_makeRoom_J50 _ _ _ _ _ ho)
    have hR := hR_of (t0 := t0) hE
    unfold x0_makeRoom_J50 at ho
    refine lv_aload_n hx hb dX0_makeRoom_50 rfl (lv_at hl 0 rfl) ?_
    refine lv_aload_n hx hb dX0_makeRoom_51 rfl (lv_at hl 0 rfl) ?_
    refine xGET_10 C0 kw_394 hW dX0_makeRoom_52 ?_
    refine lv_iload_n hx hb dX0_makeRoom_55 rfl (lv_at hl 2 rfl) ?_
    obtain ⟨t10, g11, ho⟩ := grw_some ho
    have ht10 := g11.mle
    have hEt10 := (mm_x0_makeRoom_J62 _ _ _ _ _ ho)
    refine xGROW_10 (rest := []) C0 cb_X0_X2_grown_88 kw_394 hl.1 hW g11 h0 hEt10 (Nat.le_of_ble_eq_true rfl) (Nat.le_of_ble_eq_true rfl) (Nat.le_of_ble_eq_true rfl) dX0_makeRoom_56 dX0_makeRoom_59 (fun gm H locs hW => ?_)
    have h0 := mle.trans h0 ht10
    exact J62 gm _ _ _ _ ho h0 _ _ _ hW (lv_sub hl [0, 1, 2, 3] rfl)
  have J38 : ∀ (gm : Nat → Nat) (t : St) (v1 : Int32) (v2 : Int32) (v3 : Int32) (_ : x0_makeRoom_J38 t v1 v2 v3 = some t') (_ : mle t0 t) (H : Heap) (locs : List Loc) (ls : Array Slot), wl D A s (wX cI cJ cZ cR am gm t) H locs → lv_has ls 4 [(0, .ref (am 2000)), (1, .int v1), (2, .int v2), (3, .int v3)] → W p l e (rmA 2 42 t0 t') s m ([.ref (am 2000), .int a1].toArray) below meth c H locs (mC t0 t) (mS t0 t) (MQ below (qVa D (tyX cI cJ cZ cR) (fun gm => wX cI cJ cZ cR am gm t') A) ([.ref (am 2000), .int a1].toArray) s (mC t0 t') (mS t0 t') A) (F0 m 38 ls []) := by
    intro gm t v1 v2 v3 ho h0 H locs ls hW hl
    have hE : mle t t' := (mm_x0_makeRoom_J38 _ _ _ _ _ ho)
    have hR := hR_of (t0 := t0) hE
    unfold x0_makeRoom_J38 at ho
    refine lv_aload_n hx hb dX0_makeRoom_38 rfl (lv_at hl 0 rfl) ?_
    refine lv_aload_n hx hb dX0_makeRoom_39 rfl (lv_at hl 0 rfl) ?_
    refine xGET_9 C0 kw_393 hW dX0_makeRoom_40 ?_
    refine lv_iload_n hx hb dX0_makeRoom_43 rfl (lv_at hl 2 rfl) ?_
    obtain ⟨t12, g13, ho⟩ := grw_some ho
    have ht12 := g13.mle
    have hEt12 := (mm_x0_makeRoom_J50 _ _ _ _ _ ho)
    refine xGROW_9 (rest := []) C0 cb_X0_X2_grown_88 kw_393 hl.1 hW g13 h0 hEt12 (Nat.le_of_ble_eq_true rfl) (Nat.le_of_ble_eq_true rfl) (Nat.le_of_ble_eq_true rfl) dX0_makeRoom_44 dX0_makeRoom_47 (fun gm H locs hW => ?_)
    have h0 := mle.trans h0 ht12
    exact J50 gm _ _ _ _ ho h0 _ _ _ hW (lv_sub hl [0, 1, 2, 3] rfl)
  have hE : mle t0 t' := mm_x0_makeRoom _ _ _ ho
  have hR := hR_of (t0 := t0) hE
  have h0 : mle t0 t0 := mle.rfl
  refine W_0 (t0 := t0) ?_
  unfold x0_makeRoom at ho
  refine lv_sipush (v := (4400 : Int32)) hx hb dX0_makeRoom_0 (by decide) ?_
  refine lv_iconst (v := (1 : Int32)) hx hb dX0_makeRoom_3 (by decide) ?_
  refine lv_iload_n hx hb dX0_makeRoom_4 rfl (lv_at hl 1 rfl) ?_
  refine lv_ishl hx hb dX0_makeRoom_5 ?_
  refine lv_iconst (v := (2 : Int32)) hx hb dX0_makeRoom_6 (by decide) ?_
  refine lv_iadd hx hb dX0_makeRoom_7 ?_
  refine va_mmin (rest := []) hx hb (C0.1.2.2.2.1.trans hl.1.symm) hown (hta _ kw_949) (hta _ kw_748) (hta _ kw_136) (hta _ kw_749) (Nat.le_of_ble_eq_true rfl) (Nat.le_of_ble_eq_true rfl) hR.1 hR.2 dX0_makeRoom_8 ?_
  refine lv_nmi ho (fun x14 ho => ?_)
  refine lv_istore_n (lv' := [(2, .int x14), (0, .ref (am 2000)), (1, .int a1)]) hx hb dX0_makeRoom_11 rfl hl (by decide) rfl (fun ls hl => ?_)
  refine lv_sipush (v := (8192 : Int32)) hx hb dX0_makeRoom_12 (by decide) ?_
  refine lv_iconst (v := (2 : Int32)) hx hb dX0_makeRoom_15 (by decide) ?_
  refine lv_iload_n hx hb dX0_makeRoom_16 rfl (lv_at hl 2 rfl) ?_
  refine lv_ishl hx hb dX0_makeRoom_17 ?_
  refine va_mmin (rest := []) hx hb (C0.1.2.2.2.1.trans hl.1.symm) hown (hta _ kw_949) (hta _ kw_748) (hta _ kw_136) (hta _ kw_749) (Nat.le_of_ble_eq_true rfl) (Nat.le_of_ble_eq_true rfl) hR.1 hR.2 dX0_makeRoom_18 ?_
  refine lv_nmi ho (fun x15 ho => ?_)
  refine lv_istore_n (lv' := [(3, .int x15), (2, .int x14), (0, .ref (am 2000)), (1, .int a1)]) hx hb dX0_makeRoom_21 rfl hl (by decide) rfl (fun ls hl => ?_)
  refine lv_aload_n hx hb dX0_makeRoom_22 rfl (lv_at hl 2 rfl) ?_
  refine lv_aload_n hx hb dX0_makeRoom_23 rfl (lv_at hl 2 rfl) ?_
  refine xGET_7 C0 kw_391 hW dX0_makeRoom_24 ?_
  refine lv_iconst (v := (1 : Int32)) hx hb dX0_makeRoom_27 (by decide) ?_
  refine lv_iload_n hx hb dX0_makeRoom_28 rfl (lv_at hl 3 rfl) ?_
  refine lv_iconst (v := (1 : Int32)) hx hb dX0_makeRoom_29 (by decide) ?_
  refine lv_isub hx hb dX0_makeRoom_30 ?_
  refine lv_ishl hx hb dX0_makeRoom_31 ?_
  obtain ⟨t16, g17, ho⟩ := grw_some ho
  have ht16 := g17.mle
  have hEt16 := (mm_x0_makeRoom_J38 _ _ _ _ _ ho)
  refine xGROW_7 (rest := []) C0 cb_X0_X2_grown_88 kw_391 hl.1 hW g17 h0 hEt16 (Nat.le_of_ble_eq_true rfl) (Nat.le_of_ble_eq_true rfl) (Nat.le_of_ble_eq_true rfl) dX0_makeRoom_32 dX0_makeRoom_35 (fun gm H locs hW => ?_)
  have h0 := mle.trans h0 ht16
  exact J38 gm _ _ _ _ ho h0 _ _ _ hW (lv_sub hl [2, 3, 1, 0] rfl)
noncomputable def x0_nodeFor_J93 (t : St) (v1 : Int32) (v2 : Int32) (v3 : Int32) (v4 : Int32) (v5 : Int32) : Option ((Int32 × Int32) ⊕ ((Int32) ⊕ (Int32))) :=
  nm ((v4 + (1 : Int32)) &&& (gI t 5)) (fun x1 : Int32 => nm (v5 + (1 : Int32)) (fun x2 : Int32 => some (.inl (x1, x2))))
noncomputable def x0_nodeFor_B29 (t : St) (v1 : Int32) (v2 : Int32) (v3 : Int32) (v4 : Int32) (v5 : Int32) : Option ((Int32 × Int32) ⊕ ((Int32) ⊕ (Int32))) :=
  if (gI t 5) < v5 then (some (.inr (.inr v4))) else (gd v4 (gN t 8) (if (gA t 8 (v4).toNatClampNeg) = 0 then (some (.inr (.inr v4))) else (gd v4 (gN t 8) (nm (gA t 8 (v4).toNatClampNeg) (fun x7 : Int32 => gd x7 (gN t 10) (if (gA t 10 (x7).toNatClampNeg) = v2 then (gd x7 (gN t 11) (if (gA t 11 (x7).toNatClampNeg) = v3 then (gd x7 (gN t 9) (if (gA t 9 (x7).toNatClampNeg) = v1 then (some (.inr (.inl x7))) else (x0_nodeFor_J93 t v1 v2 v3 v4 v5))) else (x0_nodeFor_J93 t v1 v2 v3 v4 v5))) else (x0_nodeFor_J93 t v1 v2 v3 v4 v5)))))))
noncomputable def x0_nodeFor (t : St) (a1 : Int32) (a2 : Int32) (a3 : Int32) : Option (Int32 × St) :=
  if a2 = a3 then (some (a2, t)) else (nm ((((a2 * (40503 : Int32)) + (a3 * (30011 : Int32))) + a1) &&& (gI t 5)) (fun x15 : Int32 => (lp (fun x => x0_nodeFor_B29 t a1 a2 a3 x.1 x.2) (x15, (0 : Int32))).bind (fun y16 => (Sum.elim (fun u19 => some (u19, t)) (fun u19 => if (gI t 3) < (Int32.ofNat (gN t 9)) then (gd (gI t 3) (gN t 9) (nm (sA t 9 (gI t 3) a1) (fun t22 : St => gd (gI t22 3) (gN t22 10) (nm (sA t22 10 (gI t22 3) a2) (fun t24 : St => gd (gI t24 3) (gN t24 11) (nm (sA t24 11 (gI t24 3) a3) (fun t26 : St => gd u19 (gN t26 8) (nm (sA t26 8 u19 (gI t26 3)) (fun t28 : St => nm (sI t28 3 ((gI t28 3) + (1 : Int32))) (fun t29 : St => some (((gI t29 3) - (1 : Int32)), t29))))))))))) else (some (a2, t)))) y16)))
theorem mm_x0_nodeFor (t : St) (a1 : Int32) (a2 : Int32) (a3 : Int32) : MR (x0_nodeFor t a1 a2 a3) t (fun (a : Int32 × St) => a.2) := by
  unfold x0_nodeFor
  exact MR_ite (MR_some mle.rfl) (MR_nm (fun x15 _ => MR_bindn (fun y16 => (MR_sumn y16 (fun u19 => MR_some mle.rfl) (fun u19 => MR_ite (MR_gd (MR_nmS mle_sA (fun t22 ht22 => MR_gd (MR_nmS mle_sA (fun t24 ht24 => MR_gd (MR_nmS mle_sA (fun t26 ht26 => MR_gd (MR_nmS mle_sA (fun t28 ht28 => MR_nmS mle_sI (fun t29 ht29 => MR_some (mle.trans (mle.trans (mle.trans (mle.trans ht22 ht24) ht26) ht28) ht29))))))))))) (MR_some mle.rfl))))))
set_option maxHeartbeats 4000000 in
set_option maxRecDepth 100000 in
theorem x0_nodeFor_L29 {p : Program} {l : Launch} {e : Env} {s : State} {m : MethodId} {args : Array Value} {below : List Frame} {meth : Method} {c : Code} {Q : State → Prop} {D : va_G} {cI cJ cZ cR : ClassId} {am gm : Nat → Nat} {st : Nat} {A : Nat → Prop} (C0 : cxX p s m args meth c cX0_nodeFor RX0 7 (some .int) D (tyX cI cJ cZ cR) st A) {t : St} {v1 : Int32} {v2 : Int32} {v3 : Int32} {y : (Int32) ⊕ (Int32)} (hK0 : ∀ u, y = (.inl u) → ∀ (H : Heap) (locs : List Loc) (ls : Array Slot), wl D A s (wX cI cJ cZ cR am gm t) H locs → lv_has ls 7 [(0, .ref (am 2000)), (6, .int u)] → W p l e (rmN 0 0) s m args below meth c H locs 0 0 Q (F0 m 90 ls [])) (hK1 : ∀ u, y = (.inr u) → ∀ (H : Heap) (locs : List Loc) (ls : Array Slot), wl D A s (wX cI cJ cZ cR am gm t) H locs → lv_has ls 7 [(0, .ref (am 2000)), (1, .int v1), (2, .int v2), (3, .int v3), (4, .int u)] → W p l e (rmN 0 0) s m args below meth c H locs 0 0 Q (F0 m 110 ls [])) :
    ∀ (n : Nat) (v4 : Int32) (v5 : Int32), lpn (fun x => x0_nodeFor_B29 t v1 v2 v3 x.1 x.2) n (v4, v5) = some y → ∀ (H : Heap) (locs : List Loc) (ls : Array Slot), wl D A s (wX cI cJ cZ cR am gm t) H locs → lv_has ls 7 [(0, .ref (am 2000)), (1, .int v1), (2, .int v2), (3, .int v3), (4, .int v4), (5, .int v5)] → W p l e (rmN 0 0) s m args below meth c H locs 0 0 Q (F0 m 29 ls []) := by
  have hx := C0.1.1
  have hb := C0.1.2.1
  have hta := C0.1.2.2.2.2.2.1
  have hown := C0.1.2.2.2.2.1
  intro n
  induction n with
  | zero => intro _ _ h; cases h
  | succ n ih =>
    intro v4 v5 hrun H locs ls hW hl
    obtain ⟨o, ho, hrun⟩ := bd_some hrun
    have J93 : ∀ (v4 : Int32) (v5 : Int32) (_ : x0_nodeFor_J93 t v1 v2 v3 v4 v5 = some o) (H : Heap) (locs : List Loc) (ls : Array Slot), wl D A s (wX cI cJ cZ cR am gm t) H locs → lv_has ls 7 [(0, .ref (am 2000)), (1, .int v1), (2, .int v2), (3, .int v3), (4, .int v4), (5, .int v5)] → W p l e (rmN 0 0) s m args below meth c H locs 0 0 Q (F0 m 93 ls []) := by
      intro v4 v5 ho H locs ls hW hl
      unfold x0_nodeFor_J93 at ho
      refine lv_iload hx hb dX0_nodeFor_93 (lv_at hl 4 rfl) ?_
      refine lv_iconst (v := (1 : Int32)) hx hb dX0_nodeFor_95 (by decide) ?_
      refine lv_iadd hx hb dX0_nodeFor_96 ?_
      refine lv_aload_n hx hb dX0_nodeFor_97 rfl (lv_at hl 0 rfl) ?_
      refine xGET_5 C0 kw_387 hW dX0_nodeFor_98 ?_
      refine lv_iand hx hb dX0_nodeFor_101 ?_
      refine lv_nmi ho (fun x1 ho => ?_)
      refine lv_istore (lv' := [(4, .int x1), (0, .ref (am 2000)), (1, .int v1), (2, .int v2), (3, .int v3), (5, .int v5)]) hx hb dX0_nodeFor_102 hl (by decide) rfl (fun ls hl => ?_)
      obtain ⟨x2, ex2, ho⟩ := nm_x ho
      refine lv_iinc (v := x2) (lv' := [(5, .int x2), (4, .int x1), (0, .ref (am 2000)), (1, .int v1), (2, .int v2), (3, .int v3)]) hx hb dX0_nodeFor_104 hl (k := 5) rfl (by rw [ex2]; rfl) (by decide) rfl (fun ls hl => ?_)
      clear ex2
      refine lv_goto (tgt := 29) hx hb dX0_nodeFor_107 (by decide) ?_
      cases ho
      exact ih _ _ hrun _ _ _ hW (lv_sub hl [2, 3, 4, 5, 1, 0] rfl)
    unfold x0_nodeFor_B29 at ho
    refine lv_iload hx hb dX0_nodeFor_29 (lv_at hl 5 rfl) ?_
    refine lv_aload_n hx hb dX0_nodeFor_31 rfl (lv_at hl 0 rfl) ?_
    refine xGET_5 C0 kw_387 hW dX0_nodeFor_32 ?_
    refine lv_icmp_gt (tgt := 110) hx hb dX0_nodeFor_35 (by decide) (fun c3 => ?_) (fun c3 => ?_)
    · replace ho := ite_t c3 ho
      cases ho
      cases hrun
      exact hK1 _ rfl _ _ _ hW (lv_sub hl [0, 1, 2, 3, 4] rfl)
    · replace ho := ite_f c3 ho
      refine lv_aload_n hx hb dX0_nodeFor_38 rfl (lv_at hl 0 rfl) ?_
      refine xGET_8 C0 kw_392 hW dX0_nodeFor_39 ?_
      refine lv_iload hx hb dX0_nodeFor_42 (lv_at hl 4 rfl) ?_
      obtain ⟨g4, ho⟩ := gd_some ho
      refine xLD_8 C0 hW g4 dX0_nodeFor_44 ?_
      refine lv_if_eq (tgt := 110) hx hb dX0_nodeFor_45 (by decide) (fun c5 => ?_) (fun c5 => ?_)
      · replace ho := ite_t c5 ho
        cases ho
        cases hrun
        exact hK1 _ rfl _ _ _ hW (lv_sub hl [0, 1, 2, 3, 4] rfl)
      · replace ho := ite_f c5 ho
        refine lv_aload_n hx hb dX0_nodeFor_48 rfl (lv_at hl 0 rfl) ?_
        refine xGET_8 C0 kw_392 hW dX0_nodeFor_49 ?_
        refine lv_iload hx hb dX0_nodeFor_52 (lv_at hl 4 rfl) ?_
        obtain ⟨g6, ho⟩ := gd_some ho
        refine xLD_8 C0 hW g6 dX0_nodeFor_54 ?_
        refine lv_nmi ho (fun x7 ho => ?_)
        refine lv_istore (lv' := [(6, .int x7), (0, .ref (am 2000)), (1, .int v1), (2, .int v2), (3, .int v3), (4, .int v4), (5, .int v5)]) hx hb dX0_nodeFor_55 hl (by decide) rfl (fun ls hl => ?_)
        refine lv_aload_n hx hb dX0_nodeFor_57 rfl (lv_at hl 1 rfl) ?_
        refine xGET_10 C0 kw_394 hW dX0_nodeFor_58 ?_
        refine lv_iload hx hb dX0_nodeFor_61 (lv_at hl 0 rfl) ?_
        obtain ⟨g8, ho⟩ := gd_some ho
        refine xLD_10 C0 hW g8 dX0_nodeFor_63 ?_
        refine lv_iload_n hx hb dX0_nodeFor_64 rfl (lv_at hl 3 rfl) ?_
        refine lv_icmp_ne (tgt := 93) hx hb dX0_nodeFor_65 (by decide) (fun c9 => ?_) (fun c9 => ?_)
        · replace ho := ite_f c9 ho
          exact J93 _ _ ho _ _ _ hW (lv_sub hl [1, 2, 3, 4, 5, 6] rfl)
        · replace ho := ite_t c9 ho
          refine lv_aload_n hx hb dX0_nodeFor_68 rfl (lv_at hl 1 rfl) ?_
          refine xGET_11 C0 kw_395 hW dX0_nodeFor_69 ?_
          refine lv_iload hx hb dX0_nodeFor_72 (lv_at hl 0 rfl) ?_
          obtain ⟨g10, ho⟩ := gd_some ho
          refine xLD_11 C0 hW g10 dX0_nodeFor_74 ?_
          refine lv_iload_n hx hb dX0_nodeFor_75 rfl (lv_at hl 4 rfl) ?_
          refine lv_icmp_ne (tgt := 93) hx hb dX0_nodeFor_76 (by decide) (fun c11 => ?_) (fun c11 => ?_)
          · replace ho := ite_f c11 ho
            exact J93 _ _ ho _ _ _ hW (lv_sub hl [1, 2, 3, 4, 5, 6] rfl)
          · replace ho := ite_t c11 ho
            refine lv_aload_n hx hb dX0_nodeFor_79 rfl (lv_at hl 1 rfl) ?_
            refine xGET_9 C0 kw_393 hW dX0_nodeFor_80 ?_
            refine lv_iload hx hb dX0_nodeFor_83 (lv_at hl 0 rfl) ?_
            obtain ⟨g12, ho⟩ := gd_some ho
            refine xLD_9 C0 hW g12 dX0_nodeFor_85 ?_
            refine lv_iload_n hx hb dX0_nodeFor_86 rfl (lv_at hl 2 rfl) ?_
            refine lv_icmp_ne (tgt := 93) hx hb dX0_nodeFor_87 (by decide) (fun c13 => ?_) (fun c13 => ?_)
            · replace ho := ite_f c13 ho
              exact J93 _ _ ho _ _ _ hW (lv_sub hl [1, 2, 3, 4, 5, 6] rfl)
            · replace ho := ite_t c13 ho
              cases ho
              cases hrun
              exact hK0 _ rfl _ _ _ hW (lv_sub hl [1, 0] rfl)
set_option maxHeartbeats 4000000 in
set_option maxRecDepth 100000 in
theorem c_x0_nodeFor (l : Launch) {D : va_G} {cI cJ cZ cR : ClassId} {am gm : Nat → Nat} {st : Nat} (sz : Nat) (t : St) (a1 : Int32) (a2 : Int32) (a3 : Int32) {r : Int32} {t' : St} (ho : x0_nodeFor t a1 a2 a3 = some (r, t')) : Met l yX0_nodeFor (.code yX0_nodeFor cX0_nodeFor 7 (some .int) :: wsAll) (rmN 0 0) (va_Pc [.ref (am 2000), .int a1, .int a2, .int a3] (prX D (tyX cI cJ cZ cR) (wX cI cJ cZ cR am gm t) sz st)) (qI r D (tyX cI cJ cZ cR) (wX cI cJ cZ cR am gm t') (va_A (wX cI cJ cZ cR am gm t) sz)) 0 0 (va_A (wX cI cJ cZ cR am gm t) sz) := by
  refine Met.ofW (cc := cX0_nodeFor) (maxL := 7) (ret := (some .int)) (by decide) rfl ?_
  intro p e s m args below meth c s₁ B hml hv
  obtain ⟨rfl, ⟨hsz, hP, hK, hD0⟩, hsx⟩ := hv
  have hx := B.exec
  have hb := B.bytes
  have hts := atoms_spec (ws := (.code yX0_nodeFor cX0_nodeFor 7 (some .int) :: wsAll)) B.pre
  have hta := fun w h => hts w (List.mem_cons_of_mem _ h)
  have hown : s.vm.findClass RX0 = some m.cls := findClass_of_methodNamed B.named
  have hlocks := B.notSynchronized
  subst hsz
  have hD := hD0.self (sz := s.heap.size)
  generalize hAe : va_A (wX cI cJ cZ cR am gm t) s.heap.size = A at hD ⊢
  have hA : ∀ q : Nat, s.heap.size ≤ q → A q := fun q h => by rw [← hAe]; exact Or.inr h
  have C0 : cxX p s m ([.ref (am 2000), .int a1, .int a2, .int a3].toArray) meth c cX0_nodeFor RX0 7 (some .int) D (tyX cI cJ cZ cR) st A := ⟨⟨hx, hb, B.returns, hml, hown, hta, hlocks, hK, hA⟩, by rw [← hAe]; exact hsx⟩
  have hW : wl D A s (wX cI cJ cZ cR am gm t) s.heap [] := ⟨hP, hD, va_S.rf⟩
  have hl := lv_entry [.ref (am 2000), .int a1, .int a2, .int a3] (n := 7) (Nat.le_of_ble_eq_true rfl)
  rw [lg_entry_eq]
  generalize (lg_sl [.ref (am 2000), .int a1, .int a2, .int a3] ++ List.replicate (7 - (lg_sl [.ref (am 2000), .int a1, .int a2, .int a3]).length) Slot.unset).toArray = ls at hl ⊢
  have hl : lv_has ls 7 [(0, .ref (am 2000)), (1, .int a1), (2, .int a2), (3, .int a3)] := hl
  unfold x0_nodeFor at ho
  refine lv_iload_n hx hb dX0_nodeFor_0 rfl (lv_at hl 2 rfl) ?_
  refine lv_iload_n hx hb dX0_nodeFor_1 rfl (lv_at hl 3 rfl) ?_
  refine lv_icmp_ne (tgt := 7) hx hb dX0_nodeFor_2 (by decide) (fun c14 => ?_) (fun c14 => ?_)
  · replace ho := ite_f c14 ho
    refine lv_iload_n hx hb dX0_nodeFor_7 rfl (lv_at hl 2 rfl) ?_
    refine lv_ldc hx hb hown (hta _ kw_965) dX0_nodeFor_8 ?_
    refine lv_imul hx hb dX0_nodeFor_10 ?_
    refine lv_iload_n hx hb dX0_nodeFor_11 rfl (lv_at hl 3 rfl) ?_
    refine lv_sipush (v := (30011 : Int32)) hx hb dX0_nodeFor_12 (by decide) ?_
    refine lv_imul hx hb dX0_nodeFor_15 ?_
    refine lv_iadd hx hb dX0_nodeFor_16 ?_
    refine lv_iload_n hx hb dX0_nodeFor_17 rfl (lv_at hl 1 rfl) ?_
    refine lv_iadd hx hb dX0_nodeFor_18 ?_
    refine lv_aload_n hx hb dX0_nodeFor_19 rfl (lv_at hl 0 rfl) ?_
    refine xGET_5 C0 kw_387 hW dX0_nodeFor_20 ?_
    refine lv_iand hx hb dX0_nodeFor_23 ?_
    refine lv_nmi ho (fun x15 ho => ?_)
    refine lv_istore (lv' := [(4, .int x15), (0, .ref (am 2000)), (1, .int a1), (2, .int a2), (3, .int a3)]) hx hb dX0_nodeFor_24 hl (by decide) rfl (fun ls hl => ?_)
    refine lv_iconst (v := (0 : Int32)) hx hb dX0_nodeFor_26 (by decide) ?_
    refine lv_istore (lv' := [(5, .int (0 : Int32)), (4, .int x15), (0, .ref (am 2000)), (1, .int a1), (2, .int a2), (3, .int a3)]) hx hb dX0_nodeFor_27 hl (by decide) rfl (fun ls hl => ?_)
    obtain ⟨y16, hc18, ho⟩ := bd_some ho
    obtain ⟨ny16, hc18⟩ := lp_to hc18
    refine x0_nodeFor_L29 C0 ?_ ?_ ny16 _ _ hc18 _ _ _ hW (lv_sub hl [2, 3, 4, 5, 1, 0] rfl)
    · intro u19 hy H locs ls hW hl
      subst hy
      replace ho := sum_l ho
      refine lv_iload hx hb dX0_nodeFor_90 (lv_at hl 1 rfl) ?_
      cases ho
      exact rtI C0.1 hW dX0_nodeFor_92
    · intro u19 hy H locs ls hW hl
      subst hy
      replace ho := sum_r ho
      refine lv_aload_n hx hb dX0_nodeFor_110 rfl (lv_at hl 0 rfl) ?_
      refine xGET_3 C0 kw_385 hW dX0_nodeFor_111 ?_
      refine lv_aload_n hx hb dX0_nodeFor_114 rfl (lv_at hl 0 rfl) ?_
      refine xGET_9 C0 kw_393 hW dX0_nodeFor_115 ?_
      refine xLEN_9 C0 hW dX0_nodeFor_118 ?_
      refine lv_icmp_lt (tgt := 124) hx hb dX0_nodeFor_119 (by decide) (fun c20 => ?_) (fun c20 => ?_)
      · replace ho := ite_t c20 ho
        refine lv_aload_n hx hb dX0_nodeFor_124 rfl (lv_at hl 0 rfl) ?_
        refine xGET_9 C0 kw_393 hW dX0_nodeFor_125 ?_
        refine lv_aload_n hx hb dX0_nodeFor_128 rfl (lv_at hl 0 rfl) ?_
        refine xGET_3 C0 kw_385 hW dX0_nodeFor_129 ?_
        refine lv_iload_n hx hb dX0_nodeFor_132 rfl (lv_at hl 1 rfl) ?_
        obtain ⟨g21, ho⟩ := gd_some ho
        refine xST_9 C0 hW g21 dX0_nodeFor_133 (fun H locs hW => ?_)
        obtain ⟨t22, ho, hW⟩ := nm_w (P := fun t => wl D A s (wX cI cJ cZ cR am gm t) H locs) ho hW
        refine lv_aload_n hx hb dX0_nodeFor_134 rfl (lv_at hl 0 rfl) ?_
        refine xGET_10 C0 kw_394 hW dX0_nodeFor_135 ?_
        refine lv_aload_n hx hb dX0_nodeFor_138 rfl (lv_at hl 0 rfl) ?_
        refine xGET_3 C0 kw_385 hW dX0_nodeFor_139 ?_
        refine lv_iload_n hx hb dX0_nodeFor_142 rfl (lv_at hl 2 rfl) ?_
        obtain ⟨g23, ho⟩ := gd_some ho
        refine xST_10 C0 hW g23 dX0_nodeFor_143 (fun H locs hW => ?_)
        obtain ⟨t24, ho, hW⟩ := nm_w (P := fun t => wl D A s (wX cI cJ cZ cR am gm t) H locs) ho hW
        refine lv_aload_n hx hb dX0_nodeFor_144 rfl (lv_at hl 0 rfl) ?_
        refine xGET_11 C0 kw_395 hW dX0_nodeFor_145 ?_
        refine lv_aload_n hx hb dX0_nodeFor_148 rfl (lv_at hl 0 rfl) ?_
        refine xGET_3 C0 kw_385 hW dX0_nodeFor_149 ?_
        refine lv_iload_n hx hb dX0_nodeFor_152 rfl (lv_at hl 3 rfl) ?_
        obtain ⟨g25, ho⟩ := gd_some ho
        refine xST_11 C0 hW g25 dX0_nodeFor_153 (fun H locs hW => ?_)
        obtain ⟨t26, ho, hW⟩ := nm_w (P := fun t => wl D A s (wX cI cJ cZ cR am gm t) H locs) ho hW
        refine lv_aload_n hx hb dX0_nodeFor_154 rfl (lv_at hl 0 rfl) ?_
        refine xGET_8 C0 kw_392 hW dX0_nodeFor_155 ?_
        refine lv_iload hx hb dX0_nodeFor_158 (lv_at hl 4 rfl) ?_
        refine lv_aload_n hx hb dX0_nodeFor_160 rfl (lv_at hl 0 rfl) ?_
        refine xGET_3 C0 kw_385 hW dX0_nodeFor_161 ?_
        obtain ⟨g27, ho⟩ := gd_some ho
        refine xST_8 C0 hW g27 dX0_nodeFor_164 (fun H locs hW => ?_)
        obtain ⟨t28, ho, hW⟩ := nm_w (P := fun t => wl D A s (wX cI cJ cZ cR am gm t) H locs) ho hW
        refine lv_aload_n hx hb dX0_nodeFor_165 rfl (lv_at hl 0 rfl) ?_
        refine lv_dup hx hb dX0_nodeFor_166 rfl ?_
        refine xGET_3 C0 kw_385 hW dX0_nodeFor_167 ?_
        refine lv_iconst (v := (1 : Int32)) hx hb dX0_nodeFor_170 (by decide) ?_
        refine lv_iadd hx hb dX0_nodeFor_171 ?_
        refine xPUT_3 C0 kw_385 hW dX0_nodeFor_172 (fun H locs hW => ?_)
        obtain ⟨t29, ho, hW⟩ := nm_w (P := fun t => wl D A s (wX cI cJ cZ cR am gm t) H locs) ho hW
        refine lv_aload_n hx hb dX0_nodeFor_175 rfl (lv_at hl 0 rfl) ?_
        refine xGET_3 C0 kw_385 hW dX0_nodeFor_176 ?_
        refine lv_iconst (v := (1 : Int32)) hx hb dX0_nodeFor_179 (by decide) ?_
        refine lv_isub hx hb dX0_nodeFor_180 ?_
        cases ho
        exact rtI C0.1 hW dX0_nodeFor_181
      · replace ho := ite_f c20 ho
        refine lv_iload_n hx hb dX0_nodeFor_122 rfl (lv_at hl 2 rfl) ?_
        cases ho
        exact rtI C0.1 hW dX0_nodeFor_123
  · replace ho := ite_t c14 ho
    refine lv_iload_n hx hb dX0_nodeFor_5 rfl (lv_at hl 2 rfl) ?_
    cases ho
    exact rtI C0.1 hW dX0_nodeFor_6
