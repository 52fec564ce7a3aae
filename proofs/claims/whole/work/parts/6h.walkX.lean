noncomputable def x8_fillKnot_B3 (t : St) (v1 : Int32) (v2 : Int32) : Option ((Int32) ⊕ (Int32)) :=
  if (55 : Int32) ≤ v2 then (some (.inr v2)) else (gd v2 (gN t 809) (if (gA t 809 (v2).toNatClampNeg) = 0 then (some (.inr v2)) else (nm (v2 + (1 : Int32)) (fun x4 : Int32 => some (.inl x4)))))
noncomputable def x8_fillKnot_B66 (v1 : Int32) (v3 : Int32) (t : St) : Option ((Int32 × St) ⊕ (St)) :=
  gd v1 (gN t 604) (if (gA t 604 (v1).toNatClampNeg) ≤ v3 then (some (.inr t)) else ((x6_partOf t v1 v3).bind (fun q7 => gd q7 (gN t 603) (if (gA t 603 (q7).toNatClampNeg) = 0 then (nm (v3 + (1 : Int32)) (fun x11 : Int32 => some (.inl (x11, t)))) else (gd q7 (gN t 811) (if (gA t 811 (q7).toNatClampNeg) = v1 then (gd q7 (gN t 812) (gd (gA t 812 (q7).toNatClampNeg) (gN t 809) (nm (sA t 809 (gA t 812 (q7).toNatClampNeg) (vp_nar .boolean (0 : Int32))) (fun t17 : St => nm (v3 + (1 : Int32)) (fun x18 : Int32 => some (.inl (x18, t17))))))) else (nm (v3 + (1 : Int32)) (fun x14 : Int32 => some (.inl (x14, t))))))))))
noncomputable def x8_fillKnot_J64 (t : St) (v1 : Int32) : Option (St) :=
  (lp (fun x => x8_fillKnot_B66 v1 x.1 x.2) ((0 : Int32), t)).bind (fun y19 => some y19)
noncomputable def x8_fillKnot (t : St) (a1 : Int32) : Option (St) :=
  (lp (fun x => x8_fillKnot_B3 t a1 x) (16 : Int32)).bind (fun y21 => gd y21 (gN t 809) (nm (sA t 809 y21 (vp_nar .boolean (1 : Int32))) (fun t24 : St => gd a1 (gN t24 812) (nm (sA t24 812 a1 y21) (fun t26 : St => gd a1 (gN t26 603) (if (gA t26 603 (a1).toNatClampNeg) = (4 : Int32) then ((x8_fillSome t26 a1).bind (fun q31 => x8_fillKnot_J64 q31 a1)) else ((x8_fillRow t26 a1).bind (fun q29 => x8_fillKnot_J64 q29 a1))))))))
set_option maxHeartbeats 4000000 in
set_option maxRecDepth 100000 in
theorem x8_fillKnot_L3 {p : Program} {l : Launch} {e : Env} {s : State} {m : MethodId} {args : Array Value} {below : List Frame} {meth : Method} {c : Code} {Q : State → Prop} {D : va_G} {cI cJ cZ cR : ClassId} {am gm : Nat → Nat} {st : Nat} {A : Nat → Prop} (C0 : cxX p s m args meth c cX8_fillKnot RX8 5 none D (tyX cI cJ cZ cR) st A) {t : St} {v1 : Int32} {y : Int32} (hK0 : ∀ (H : Heap) (locs : List Loc) (ls : Array Slot), wl D A s (wX cI cJ cZ cR am gm t) H locs → lv_has ls 5 [(0, .ref (am 1008)), (1, .int v1), (2, .int y)] → W p l e (rmN 2 51) s m args below meth c H locs 0 0 Q (F0 m 24 ls [])) :
    ∀ (n : Nat) (v2 : Int32), lpn (fun x => x8_fillKnot_B3 t v1 x) n v2 = some y → ∀ (H : Heap) (locs : List Loc) (ls : Array Slot), wl D A s (wX cI cJ cZ cR am gm t) H locs → lv_has ls 5 [(0, .ref (am 1008)), (1, .int v1), (2, .int v2)] → W p l e (rmN 2 51) s m args below meth c H locs 0 0 Q (F0 m 3 ls []) := by
  have hx := C0.1.1
  have hb := C0.1.2.1
  have hta := C0.1.2.2.2.2.2.1
  have hown := C0.1.2.2.2.2.1
  intro n
  induction n with
  | zero => intro _ h; cases h
  | succ n ih =>
    intro v2 hrun H locs ls hW hl
    obtain ⟨o, ho, hrun⟩ := bd_some hrun
    unfold x8_fillKnot_B3 at ho
    refine lv_iload_n hx hb dX8_fillKnot_3 rfl (lv_at hl 2 rfl) ?_
    refine lv_bipush (v := (55 : Int32)) hx hb dX8_fillKnot_4 (by decide) ?_
    refine lv_icmp_ge (tgt := 24) hx hb dX8_fillKnot_6 (by decide) (fun c1 => ?_) (fun c1 => ?_)
    · replace ho := ite_t c1 ho
      cases ho
      cases hrun
      exact hK0 _ _ _ hW (lv_sub hl [0, 1, 2] rfl)
    · replace ho := ite_f c1 ho
      refine lv_aload_n hx hb dX8_fillKnot_9 rfl (lv_at hl 0 rfl) ?_
      refine xGET_809 C0 kw_286 hW dX8_fillKnot_10 ?_
      refine lv_iload_n hx hb dX8_fillKnot_13 rfl (lv_at hl 2 rfl) ?_
      obtain ⟨g2, ho⟩ := gd_some ho
      refine xLD_809 C0 hW g2 dX8_fillKnot_14 ?_
      refine lv_if_eq (tgt := 24) hx hb dX8_fillKnot_15 (by decide) (fun c3 => ?_) (fun c3 => ?_)
      · replace ho := ite_t c3 ho
        cases ho
        cases hrun
        exact hK0 _ _ _ hW (lv_sub hl [0, 1, 2] rfl)
      · replace ho := ite_f c3 ho
        obtain ⟨x4, ex4, ho⟩ := nm_x ho
        refine lv_iinc (v := x4) (lv' := [(2, .int x4), (0, .ref (am 1008)), (1, .int v1)]) hx hb dX8_fillKnot_18 hl (k := 2) rfl (by rw [ex4]; rfl) (by decide) rfl (fun ls hl => ?_)
        clear ex4
        refine lv_goto (tgt := 3) hx hb dX8_fillKnot_21 (by decide) ?_
        cases ho
        exact ih _ hrun _ _ _ hW (lv_sub hl [1, 2, 0] rfl)
set_option maxHeartbeats 4000000 in
set_option maxRecDepth 100000 in
theorem x8_fillKnot_L66 {p : Program} {l : Launch} {e : Env} {s : State} {m : MethodId} {args : Array Value} {below : List Frame} {meth : Method} {c : Code} {Q : State → Prop} {D : va_G} {cI cJ cZ cR : ClassId} {am gm : Nat → Nat} {st : Nat} {A : Nat → Prop} (C0 : cxX p s m args meth c cX8_fillKnot RX8 5 none D (tyX cI cJ cZ cR) st A) {v1 : Int32} {y : St} (hK0 : ∀ (H : Heap) (locs : List Loc) (ls : Array Slot), wl D A s (wX cI cJ cZ cR am gm y) H locs → lv_has ls 5 [(0, .ref (am 1008))] → W p l e (rmN 2 51) s m args below meth c H locs 0 0 Q (F0 m 133 ls [])) :
    ∀ (n : Nat) (v3 : Int32) (t : St), lpn (fun x => x8_fillKnot_B66 v1 x.1 x.2) n (v3, t) = some y → ∀ (H : Heap) (locs : List Loc) (ls : Array Slot), wl D A s (wX cI cJ cZ cR am gm t) H locs → lv_has ls 5 [(0, .ref (am 1008)), (1, .int v1), (3, .int v3)] → W p l e (rmN 2 51) s m args below meth c H locs 0 0 Q (F0 m 66 ls []) := by
  have hx := C0.1.1
  have hb := C0.1.2.1
  have hta := C0.1.2.2.2.2.2.1
  have hown := C0.1.2.2.2.2.1
  intro n
  induction n with
  | zero => intro _ _ h; cases h
  | succ n ih =>
    intro v3 t hrun H locs ls hW hl
    obtain ⟨o, ho, hrun⟩ := bd_some hrun
    unfold x8_fillKnot_B66 at ho
    refine lv_iload_n hx hb dX8_fillKnot_66 rfl (lv_at hl 2 rfl) ?_
    refine lv_aload_n hx hb dX8_fillKnot_67 rfl (lv_at hl 0 rfl) ?_
    refine xGET_800 C0 kw_269 hW dX8_fillKnot_68 ?_
    refine xGET_604 C0 kw_191 hW dX8_fillKnot_71 ?_
    refine lv_iload_n hx hb dX8_fillKnot_74 rfl (lv_at hl 1 rfl) ?_
    obtain ⟨g5, ho⟩ := gd_some ho
    refine xLD_604 C0 hW g5 dX8_fillKnot_75 ?_
    refine lv_icmp_ge (tgt := 133) hx hb dX8_fillKnot_76 (by decide) (fun c6 => ?_) (fun c6 => ?_)
    · replace ho := ite_t c6 ho
      cases ho
      cases hrun
      exact hK0 _ _ _ hW (lv_sub hl [0] rfl)
    · replace ho := ite_f c6 ho
      refine lv_aload_n hx hb dX8_fillKnot_79 rfl (lv_at hl 0 rfl) ?_
      refine xGET_800 C0 kw_269 hW dX8_fillKnot_80 ?_
      refine lv_iload_n hx hb dX8_fillKnot_83 rfl (lv_at hl 1 rfl) ?_
      refine lv_iload_n hx hb dX8_fillKnot_84 rfl (lv_at hl 2 rfl) ?_
      obtain ⟨q7, hc8, ho⟩ := bd_some ho
      refine bkI C0.1 hW (runVX (As := [.int v1, .int v3]) (rest := []) C0 hW (c_x6_partOf l _ t v1 v3 (r := q7) hc8) cb_X8_X6_partOf_107 6 6 rfl rfl rfl rfl rfl ⟨rfl, rfl⟩ ⟨Nat.le_of_ble_eq_true rfl, Nat.le_of_ble_eq_true rfl⟩ (Nat.le_of_ble_eq_true rfl) hl.1 dX8_fillKnot_85 ⟨Nat.le_of_ble_eq_true rfl, Nat.le_of_ble_eq_true rfl⟩) (fun H locs hW => ?_)
      refine lv_istore (lv' := [(4, .int q7), (0, .ref (am 1008)), (1, .int v1), (3, .int v3)]) hx hb dX8_fillKnot_88 hl (by decide) rfl (fun ls hl => ?_)
      refine lv_aload_n hx hb dX8_fillKnot_90 rfl (lv_at hl 1 rfl) ?_
      refine xGET_800 C0 kw_269 hW dX8_fillKnot_91 ?_
      refine xGET_603 C0 kw_187 hW dX8_fillKnot_94 ?_
      refine lv_iload hx hb dX8_fillKnot_97 (lv_at hl 0 rfl) ?_
      obtain ⟨g9, ho⟩ := gd_some ho
      refine xLD_603 C0 hW g9 dX8_fillKnot_99 ?_
      refine lv_if_eq (tgt := 127) hx hb dX8_fillKnot_100 (by decide) (fun c10 => ?_) (fun c10 => ?_)
      · replace ho := ite_t c10 ho
        obtain ⟨x11, ex11, ho⟩ := nm_x ho
        refine lv_iinc (v := x11) (lv' := [(3, .int x11), (4, .int q7), (0, .ref (am 1008)), (1, .int v1)]) hx hb dX8_fillKnot_127 hl (k := 3) rfl (by rw [ex11]; rfl) (by decide) rfl (fun ls hl => ?_)
        clear ex11
        refine lv_goto (tgt := 66) hx hb dX8_fillKnot_130 (by decide) ?_
        cases ho
        exact ih _ _ hrun _ _ _ hW (lv_sub hl [2, 3, 0] rfl)
      · replace ho := ite_f c10 ho
        refine lv_aload_n hx hb dX8_fillKnot_103 rfl (lv_at hl 1 rfl) ?_
        refine xGET_811 C0 kw_288 hW dX8_fillKnot_104 ?_
        refine lv_iload hx hb dX8_fillKnot_107 (lv_at hl 0 rfl) ?_
        obtain ⟨g12, ho⟩ := gd_some ho
        refine xLD_811 C0 hW g12 dX8_fillKnot_109 ?_
        refine lv_iload_n hx hb dX8_fillKnot_110 rfl (lv_at hl 2 rfl) ?_
        refine lv_icmp_ne (tgt := 127) hx hb dX8_fillKnot_111 (by decide) (fun c13 => ?_) (fun c13 => ?_)
        · replace ho := ite_f c13 ho
          obtain ⟨x14, ex14, ho⟩ := nm_x ho
          refine lv_iinc (v := x14) (lv' := [(3, .int x14), (4, .int q7), (0, .ref (am 1008)), (1, .int v1)]) hx hb dX8_fillKnot_127 hl (k := 3) rfl (by rw [ex14]; rfl) (by decide) rfl (fun ls hl => ?_)
          clear ex14
          refine lv_goto (tgt := 66) hx hb dX8_fillKnot_130 (by decide) ?_
          cases ho
          exact ih _ _ hrun _ _ _ hW (lv_sub hl [2, 3, 0] rfl)
        · replace ho := ite_t c13 ho
          refine lv_aload_n hx hb dX8_fillKnot_114 rfl (lv_at hl 1 rfl) ?_
          refine xGET_809 C0 kw_286 hW dX8_fillKnot_115 ?_
          refine lv_aload_n hx hb dX8_fillKnot_118 rfl (lv_at hl 1 rfl) ?_
          refine xGET_812 C0 kw_289 hW dX8_fillKnot_119 ?_
          refine lv_iload hx hb dX8_fillKnot_122 (lv_at hl 0 rfl) ?_
          obtain ⟨g15, ho⟩ := gd_some ho
          refine xLD_812 C0 hW g15 dX8_fillKnot_124 ?_
          refine lv_iconst (v := (0 : Int32)) hx hb dX8_fillKnot_125 (by decide) ?_
          obtain ⟨g16, ho⟩ := gd_some ho
          refine xST_809 C0 hW g16 dX8_fillKnot_126 (fun H locs hW => ?_)
          obtain ⟨t17, ho, hW⟩ := nm_w (P := fun t => wl D A s (wX cI cJ cZ cR am gm t) H locs) ho hW
          obtain ⟨x18, ex18, ho⟩ := nm_x ho
          refine lv_iinc (v := x18) (lv' := [(3, .int x18), (4, .int q7), (0, .ref (am 1008)), (1, .int v1)]) hx hb dX8_fillKnot_127 hl (k := 3) rfl (by rw [ex18]; rfl) (by decide) rfl (fun ls hl => ?_)
          clear ex18
          refine lv_goto (tgt := 66) hx hb dX8_fillKnot_130 (by decide) ?_
          cases ho
          exact ih _ _ hrun _ _ _ hW (lv_sub hl [2, 3, 0] rfl)
set_option maxHeartbeats 4000000 in
set_option maxRecDepth 100000 in
theorem c_x8_fillKnot (l : Launch) {D : va_G} {cI cJ cZ cR : ClassId} {am gm : Nat → Nat} {st : Nat} (sz : Nat) (t : St) (a1 : Int32) {t' : St} (ho : x8_fillKnot t a1 = some t') : Met l yX8_fillKnot (.code yX8_fillKnot cX8_fillKnot 5 none :: wsAll) (rmN 2 51) (va_Pc [.ref (am 1008), .int a1] (prX D (tyX cI cJ cZ cR) (wX cI cJ cZ cR am gm t) sz st)) (qV D (tyX cI cJ cZ cR) (wX cI cJ cZ cR am gm t') (va_A (wX cI cJ cZ cR am gm t) sz)) 0 0 (va_A (wX cI cJ cZ cR am gm t) sz) := by
  refine Met.ofW (cc := cX8_fillKnot) (maxL := 5) (ret := none) (by decide) rfl ?_
  intro p e s m args below meth c s₁ B hml hv
  obtain ⟨rfl, ⟨hsz, hP, hK, hD0⟩, hsx⟩ := hv
  have hx := B.exec
  have hb := B.bytes
  have hts := atoms_spec (ws := (.code yX8_fillKnot cX8_fillKnot 5 none :: wsAll)) B.pre
  have hta := fun w h => hts w (List.mem_cons_of_mem _ h)
  have hown : s.vm.findClass RX8 = some m.cls := findClass_of_methodNamed B.named
  have hlocks := B.notSynchronized
  subst hsz
  have hD := hD0.self (sz := s.heap.size)
  generalize hAe : va_A (wX cI cJ cZ cR am gm t) s.heap.size = A at hD ⊢
  have hA : ∀ q : Nat, s.heap.size ≤ q → A q := fun q h => by rw [← hAe]; exact Or.inr h
  have C0 : cxX p s m ([.ref (am 1008), .int a1].toArray) meth c cX8_fillKnot RX8 5 none D (tyX cI cJ cZ cR) st A := ⟨⟨hx, hb, B.returns, hml, hown, hta, hlocks, hK, hA⟩, by rw [← hAe]; exact hsx⟩
  have hW : wl D A s (wX cI cJ cZ cR am gm t) s.heap [] := ⟨hP, hD, va_S.rf⟩
  have hl := lv_entry [.ref (am 1008), .int a1] (n := 5) (Nat.le_of_ble_eq_true rfl)
  rw [lg_entry_eq]
  generalize (lg_sl [.ref (am 1008), .int a1] ++ List.replicate (5 - (lg_sl [.ref (am 1008), .int a1]).length) Slot.unset).toArray = ls at hl ⊢
  have hl : lv_has ls 5 [(0, .ref (am 1008)), (1, .int a1)] := hl
  clear hAe hD hP hD0 hts
  have J64 : ∀ (t : St) (v1 : Int32) (_ : x8_fillKnot_J64 t v1 = some t') (H : Heap) (locs : List Loc) (ls : Array Slot), wl D A s (wX cI cJ cZ cR am gm t) H locs → lv_has ls 5 [(0, .ref (am 1008)), (1, .int v1)] → W p l e (rmN 2 51) s m ([.ref (am 1008), .int a1].toArray) below meth c H locs 0 0 (MQ below (qV D (tyX cI cJ cZ cR) (wX cI cJ cZ cR am gm t') A) ([.ref (am 1008), .int a1].toArray) s 0 0 A) (F0 m 64 ls []) := by
    intro t v1 ho H locs ls hW hl
    unfold x8_fillKnot_J64 at ho
    refine lv_iconst (v := (0 : Int32)) hx hb dX8_fillKnot_64 (by decide) ?_
    refine lv_istore_n (lv' := [(3, .int (0 : Int32)), (0, .ref (am 1008)), (1, .int v1)]) hx hb dX8_fillKnot_65 rfl hl (by decide) rfl (fun ls hl => ?_)
    obtain ⟨y19, hc20, ho⟩ := bd_some ho
    obtain ⟨ny19, hc20⟩ := lp_to hc20
    refine x8_fillKnot_L66 C0 ?_ ny19 _ _ hc20 _ _ _ hW (lv_sub hl [1, 2, 0] rfl)
    intro H locs ls hW hl
    cases ho
    exact rtV C0.1 hW dX8_fillKnot_133
  unfold x8_fillKnot at ho
  refine lv_bipush (v := (16 : Int32)) hx hb dX8_fillKnot_0 (by decide) ?_
  refine lv_istore_n (lv' := [(2, .int (16 : Int32)), (0, .ref (am 1008)), (1, .int a1)]) hx hb dX8_fillKnot_2 rfl hl (by decide) rfl (fun ls hl => ?_)
  obtain ⟨y21, hc22, ho⟩ := bd_some ho
  obtain ⟨ny21, hc22⟩ := lp_to hc22
  refine x8_fillKnot_L3 C0 ?_ ny21 _ hc22 _ _ _ hW (lv_sub hl [1, 2, 0] rfl)
  intro H locs ls hW hl
  refine lv_aload_n hx hb dX8_fillKnot_24 rfl (lv_at hl 0 rfl) ?_
  refine xGET_809 C0 kw_286 hW dX8_fillKnot_25 ?_
  refine lv_iload_n hx hb dX8_fillKnot_28 rfl (lv_at hl 2 rfl) ?_
  refine lv_iconst (v := (1 : Int32)) hx hb dX8_fillKnot_29 (by decide) ?_
  obtain ⟨g23, ho⟩ := gd_some ho
  refine xST_809 C0 hW g23 dX8_fillKnot_30 (fun H locs hW => ?_)
  obtain ⟨t24, ho, hW⟩ := nm_w (P := fun t => wl D A s (wX cI cJ cZ cR am gm t) H locs) ho hW
  refine lv_aload_n hx hb dX8_fillKnot_31 rfl (lv_at hl 0 rfl) ?_
  refine xGET_812 C0 kw_289 hW dX8_fillKnot_32 ?_
  refine lv_iload_n hx hb dX8_fillKnot_35 rfl (lv_at hl 1 rfl) ?_
  refine lv_iload_n hx hb dX8_fillKnot_36 rfl (lv_at hl 2 rfl) ?_
  obtain ⟨g25, ho⟩ := gd_some ho
  refine xST_812 C0 hW g25 dX8_fillKnot_37 (fun H locs hW => ?_)
  obtain ⟨t26, ho, hW⟩ := nm_w (P := fun t => wl D A s (wX cI cJ cZ cR am gm t) H locs) ho hW
  refine lv_aload_n hx hb dX8_fillKnot_38 rfl (lv_at hl 0 rfl) ?_
  refine xGET_800 C0 kw_269 hW dX8_fillKnot_39 ?_
  refine xGET_603 C0 kw_187 hW dX8_fillKnot_42 ?_
  refine lv_iload_n hx hb dX8_fillKnot_45 rfl (lv_at hl 1 rfl) ?_
  obtain ⟨g27, ho⟩ := gd_some ho
  refine xLD_603 C0 hW g27 dX8_fillKnot_46 ?_
  refine lv_iconst (v := (4 : Int32)) hx hb dX8_fillKnot_47 (by decide) ?_
  refine lv_icmp_ne (tgt := 59) hx hb dX8_fillKnot_48 (by decide) (fun c28 => ?_) (fun c28 => ?_)
  · replace ho := ite_f c28 ho
    refine lv_aload_n hx hb dX8_fillKnot_59 rfl (lv_at hl 0 rfl) ?_
    refine lv_iload_n hx hb dX8_fillKnot_60 rfl (lv_at hl 1 rfl) ?_
    obtain ⟨q29, hc30, ho⟩ := bd_some ho
    refine bkV C0.1 hW (runVX (As := [.int a1]) (rest := []) C0 hW (c_x8_fillRow l _ t26 a1 (t' := q29) hc30) cb_X8_X8_fillRow_114 8 8 rfl rfl rfl rfl rfl ⟨rfl, rfl⟩ ⟨Nat.le_of_ble_eq_true rfl, Nat.le_of_ble_eq_true rfl⟩ (Nat.le_of_ble_eq_true rfl) hl.1 dX8_fillKnot_61 ⟨Nat.le_of_ble_eq_true rfl, Nat.le_of_ble_eq_true rfl⟩) (fun H locs hW => ?_)
    exact J64 _ _ ho _ _ _ hW (lv_sub hl [0, 1] rfl)
  · replace ho := ite_t c28 ho
    refine lv_aload_n hx hb dX8_fillKnot_51 rfl (lv_at hl 0 rfl) ?_
    refine lv_iload_n hx hb dX8_fillKnot_52 rfl (lv_at hl 1 rfl) ?_
    obtain ⟨q31, hc32, ho⟩ := bd_some ho
    refine bkV C0.1 hW (runVX (As := [.int a1]) (rest := []) C0 hW (c_x8_fillSome l _ t26 a1 (t' := q31) hc32) cb_X8_X8_fillSome_111 8 8 rfl rfl rfl rfl rfl ⟨rfl, rfl⟩ ⟨Nat.le_of_ble_eq_true rfl, Nat.le_of_ble_eq_true rfl⟩ (Nat.le_of_ble_eq_true rfl) hl.1 dX8_fillKnot_53 ⟨Nat.le_of_ble_eq_true rfl, Nat.le_of_ble_eq_true rfl⟩) (fun H locs hW => ?_)
    refine lv_goto (tgt := 64) hx hb dX8_fillKnot_56 (by decide) ?_
    exact J64 _ _ ho _ _ _ hW (lv_sub hl [0, 1] rfl)
noncomputable def x8_countLeast_B4 (t : St) (v1 : Int32) (v2 : Int32) (v3 : Int32) : Option ((Int32 × Int32) ⊕ (Int32)) :=
  if (gI t 804) ≤ v3 then (some (.inr v2)) else (if (200 : Int32) < v2 then (some (.inr v2)) else ((x8_leastWord t v1 v3).bind (fun q3 => (j13_bitCount_95d88 t q3).bind (fun q5 => nm (v2 + q5) (fun x7 : Int32 => nm (v3 + (1 : Int32)) (fun x8 : Int32 => some (.inl (x7, x8))))))))
noncomputable def x8_countLeast (t : St) (a1 : Int32) : Option (Int32) :=
  (lp (fun x => x8_countLeast_B4 t a1 x.1 x.2) ((0 : Int32), (0 : Int32))).bind (fun y9 => some y9)
set_option maxHeartbeats 4000000 in
set_option maxRecDepth 100000 in
theorem x8_countLeast_L4 {p : Program} {l : Launch} {e : Env} {s : State} {m : MethodId} {args : Array Value} {below : List Frame} {meth : Method} {c : Code} {Q : State → Prop} {D : va_G} {cI cJ cZ cR : ClassId} {am gm : Nat → Nat} {st : Nat} {A : Nat → Prop} (C0 : cxX p s m args meth c cX8_countLeast RX8 4 (some .int) D (tyX cI cJ cZ cR) st A) {t : St} {v1 : Int32} {y : Int32} (hK0 : ∀ (H : Heap) (locs : List Loc) (ls : Array Slot), wl D A s (wX cI cJ cZ cR am gm t) H locs → lv_has ls 4 [(0, .ref (am 1008)), (2, .int y)] → W p l e (rmN 2 49) s m args below meth c H locs 0 0 Q (F0 m 37 ls [])) :
    ∀ (n : Nat) (v2 : Int32) (v3 : Int32), lpn (fun x => x8_countLeast_B4 t v1 x.1 x.2) n (v2, v3) = some y → ∀ (H : Heap) (locs : List Loc) (ls : Array Slot), wl D A s (wX cI cJ cZ cR am gm t) H locs → lv_has ls 4 [(0, .ref (am 1008)), (1, .int v1), (2, .int v2), (3, .int v3)] → W p l e (rmN 2 49) s m args below meth c H locs 0 0 Q (F0 m 4 ls []) := by
  have hx := C0.1.1
  have hb := C0.1.2.1
  have hta := C0.1.2.2.2.2.2.1
  have hown := C0.1.2.2.2.2.1
  intro n
  induction n with
  | zero => intro _ _ h; cases h
  | succ n ih =>
    intro v2 v3 hrun H locs ls hW hl
    obtain ⟨o, ho, hrun⟩ := bd_some hrun
    unfold x8_countLeast_B4 at ho
    refine lv_iload_n hx hb dX8_countLeast_4 rfl (lv_at hl 3 rfl) ?_
    refine lv_aload_n hx hb dX8_countLeast_5 rfl (lv_at hl 0 rfl) ?_
    refine xGET_804 C0 kw_278 hW dX8_countLeast_6 ?_
    refine lv_icmp_ge (tgt := 37) hx hb dX8_countLeast_9 (by decide) (fun c1 => ?_) (fun c1 => ?_)
    · replace ho := ite_t c1 ho
      cases ho
      cases hrun
      exact hK0 _ _ _ hW (lv_sub hl [0, 2] rfl)
    · replace ho := ite_f c1 ho
      refine lv_iload_n hx hb dX8_countLeast_12 rfl (lv_at hl 2 rfl) ?_
      refine lv_sipush (v := (200 : Int32)) hx hb dX8_countLeast_13 (by decide) ?_
      refine lv_icmp_gt (tgt := 37) hx hb dX8_countLeast_16 (by decide) (fun c2 => ?_) (fun c2 => ?_)
      · replace ho := ite_t c2 ho
        cases ho
        cases hrun
        exact hK0 _ _ _ hW (lv_sub hl [0, 2] rfl)
      · replace ho := ite_f c2 ho
        refine lv_iload_n hx hb dX8_countLeast_19 rfl (lv_at hl 2 rfl) ?_
        refine lv_aload_n hx hb dX8_countLeast_20 rfl (lv_at hl 0 rfl) ?_
        refine lv_iload_n hx hb dX8_countLeast_21 rfl (lv_at hl 1 rfl) ?_
        refine lv_iload_n hx hb dX8_countLeast_22 rfl (lv_at hl 3 rfl) ?_
        obtain ⟨q3, hc4, ho⟩ := bd_some ho
        refine bkJ C0.1 hW (runVX (As := [.int v1, .int v3]) (rest := [.int v2]) C0 hW (c_x8_leastWord l _ t v1 v3 (r := q3) hc4) cb_X8_X8_leastWord_128 8 8 rfl rfl rfl rfl rfl ⟨rfl, rfl⟩ ⟨Nat.le_of_ble_eq_true rfl, Nat.le_of_ble_eq_true rfl⟩ (Nat.le_of_ble_eq_true rfl) hl.1 dX8_countLeast_23 ⟨Nat.le_of_ble_eq_true rfl, Nat.le_of_ble_eq_true rfl⟩) (fun H locs hW => ?_)
        obtain ⟨q5, hc6, ho⟩ := bd_some ho
        refine bkI C0.1 hW (runSX (As := [.long q3]) (rest := [.int v2]) C0 hW (c_j13_bitCount_95d88 l _ t q3 (r := q5) hc6) cb_X8_J13_bitCount_95d88_132 rfl rfl ⟨rfl, rfl⟩ ⟨Nat.le_of_ble_eq_true rfl, Nat.le_of_ble_eq_true rfl⟩ (Nat.le_of_ble_eq_true rfl) hl.1 dX8_countLeast_26 ⟨Nat.le_of_ble_eq_true rfl, Nat.le_of_ble_eq_true rfl⟩) (fun H locs hW => ?_)
        refine lv_iadd hx hb dX8_countLeast_29 ?_
        refine lv_nmi ho (fun x7 ho => ?_)
        refine lv_istore_n (lv' := [(2, .int x7), (0, .ref (am 1008)), (1, .int v1), (3, .int v3)]) hx hb dX8_countLeast_30 rfl hl (by decide) rfl (fun ls hl => ?_)
        obtain ⟨x8, ex8, ho⟩ := nm_x ho
        refine lv_iinc (v := x8) (lv' := [(3, .int x8), (2, .int x7), (0, .ref (am 1008)), (1, .int v1)]) hx hb dX8_countLeast_31 hl (k := 3) rfl (by rw [ex8]; rfl) (by decide) rfl (fun ls hl => ?_)
        clear ex8
        refine lv_goto (tgt := 4) hx hb dX8_countLeast_34 (by decide) ?_
        cases ho
        exact ih _ _ hrun _ _ _ hW (lv_sub hl [2, 3, 1, 0] rfl)
set_option maxHeartbeats 4000000 in
set_option maxRecDepth 100000 in
theorem c_x8_countLeast (l : Launch) {D : va_G} {cI cJ cZ cR : ClassId} {am gm : Nat → Nat} {st : Nat} (sz : Nat) (t : St) (a1 : Int32) {r : Int32} (ho : x8_countLeast t a1 = some r) : Met l yX8_countLeast (.code yX8_countLeast cX8_countLeast 4 (some .int) :: wsAll) (rmN 2 49) (va_Pc [.ref (am 1008), .int a1] (prX D (tyX cI cJ cZ cR) (wX cI cJ cZ cR am gm t) sz st)) (qI r D (tyX cI cJ cZ cR) (wX cI cJ cZ cR am gm t) (va_A (wX cI cJ cZ cR am gm t) sz)) 0 0 (va_A (wX cI cJ cZ cR am gm t) sz) := by
  refine Met.ofW (cc := cX8_countLeast) (maxL := 4) (ret := (some .int)) (by decide) rfl ?_
  intro p e s m args below meth c s₁ B hml hv
  obtain ⟨rfl, ⟨hsz, hP, hK, hD0⟩, hsx⟩ := hv
  have hx := B.exec
  have hb := B.bytes
  have hts := atoms_spec (ws := (.code yX8_countLeast cX8_countLeast 4 (some .int) :: wsAll)) B.pre
  have hta := fun w h => hts w (List.mem_cons_of_mem _ h)
  have hown : s.vm.findClass RX8 = some m.cls := findClass_of_methodNamed B.named
  have hlocks := B.notSynchronized
  subst hsz
  have hD := hD0.self (sz := s.heap.size)
  generalize hAe : va_A (wX cI cJ cZ cR am gm t) s.heap.size = A at hD ⊢
  have hA : ∀ q : Nat, s.heap.size ≤ q → A q := fun q h => by rw [← hAe]; exact Or.inr h
  have C0 : cxX p s m ([.ref (am 1008), .int a1].toArray) meth c cX8_countLeast RX8 4 (some .int) D (tyX cI cJ cZ cR) st A := ⟨⟨hx, hb, B.returns, hml, hown, hta, hlocks, hK, hA⟩, by rw [← hAe]; exact hsx⟩
  have hW : wl D A s (wX cI cJ cZ cR am gm t) s.heap [] := ⟨hP, hD, va_S.rf⟩
  have hl := lv_entry [.ref (am 1008), .int a1] (n := 4) (Nat.le_of_ble_eq_true rfl)
  rw [lg_entry_eq]
  generalize (lg_sl [.ref (am 1008), .int a1] ++ List.replicate (4 - (lg_sl [.ref (am 1008), .int a1]).length) Slot.unset).toArray = ls at hl ⊢
  have hl : lv_has ls 4 [(0, .ref (am 1008)), (1, .int a1)] := hl
  unfold x8_countLeast at ho
  refine lv_iconst (v := (0 : Int32)) hx hb dX8_countLeast_0 (by decide) ?_
  refine lv_istore_n (lv' := [(2, .int (0 : Int32)), (0, .ref (am 1008)), (1, .int a1)]) hx hb dX8_countLeast_1 rfl hl (by decide) rfl (fun ls hl => ?_)
  refine lv_iconst (v := (0 : Int32)) hx hb dX8_countLeast_2 (by decide) ?_
  refine lv_istore_n (lv' := [(3, .int (0 : Int32)), (2, .int (0 : Int32)), (0, .ref (am 1008)), (1, .int a1)]) hx hb dX8_countLeast_3 rfl hl (by decide) rfl (fun ls hl => ?_)
  obtain ⟨y9, hc10, ho⟩ := bd_some ho
  obtain ⟨ny9, hc10⟩ := lp_to hc10
  refine x8_countLeast_L4 C0 ?_ ny9 _ _ hc10 _ _ _ hW (lv_sub hl [2, 3, 1, 0] rfl)
  intro H locs ls hW hl
  refine lv_iload_n hx hb dX8_countLeast_37 rfl (lv_at hl 1 rfl) ?_
  cases ho
  exact rtI C0.1 hW dX8_countLeast_38
noncomputable def x9_lookRound_B18 (v2 : Int32) (v3 : Int32) (t : St) : Option ((Int32 × St) ⊕ (St)) :=
  if (3 : Int32) < v3 then (some (.inr t)) else ((x9_placeOf t v3 v2).bind (fun q2 => if q2 < 0 then (nm (v3 + (1 : Int32)) (fun x5 : Int32 => some (.inl (x5, t)))) else (gd v2 (gN t 903) (gd v2 (gN t 903) (nm (sA t 903 v2 ((gA t 903 (v2).toNatClampNeg) ||| ((1 : Int32) <<< (q2 &&& 31)))) (fun t8 : St => nm (v3 + (1 : Int32)) (fun x9 : Int32 => some (.inl (x9, t8)))))))))
noncomputable def x9_lookRound_B2 (v2 : Int32) (t : St) : Option ((Int32 × St) ⊕ (St)) :=
  if (600 : Int32) ≤ v2 then (some (.inr t)) else (gd v2 (gN t 903) (nm (sA t 903 v2 (0 : Int32)) (fun t12 : St => (lp (fun x => x9_lookRound_B18 v2 x.1 x.2) ((0 : Int32), t12)).bind (fun y13 => nm (v2 + (1 : Int32)) (fun x15 : Int32 => some (.inl (x15, y13)))))))
noncomputable def x9_lookRound (t : St) (a1 : Int32) : Option (St) :=
  (lp (fun x => x9_lookRound_B2 x.1 x.2) (a1, t)).bind (fun y16 => some y16)
set_option maxHeartbeats 4000000 in
set_option maxRecDepth 100000 in
theorem x9_lookRound_L18 {p : Program} {l : Launch} {e : Env} {s : State} {m : MethodId} {args : Array Value} {below : List Frame} {meth : Method} {c : Code} {Q : State → Prop} {D : va_G} {cI cJ cZ cR : ClassId} {am gm : Nat → Nat} {st : Nat} {A : Nat → Prop} (C0 : cxX p s m args meth c cX9_lookRound RX9 5 none D (tyX cI cJ cZ cR) st A) {v2 : Int32} {y : St} (hK0 : ∀ (H : Heap) (locs : List Loc) (ls : Array Slot), wl D A s (wX cI cJ cZ cR am gm y) H locs → lv_has ls 5 [(0, .ref (am 1009)), (2, .int v2)] → W p l e (rmN 1 22) s m args below meth c H locs 0 0 Q (F0 m 55 ls [])) :
    ∀ (n : Nat) (v3 : Int32) (t : St), lpn (fun x => x9_lookRound_B18 v2 x.1 x.2) n (v3, t) = some y → ∀ (H : Heap) (locs : List Loc) (ls : Array Slot), wl D A s (wX cI cJ cZ cR am gm t) H locs → lv_has ls 5 [(0, .ref (am 1009)), (2, .int v2), (3, .int v3)] → W p l e (rmN 1 22) s m args below meth c H locs 0 0 Q (F0 m 18 ls []) := by
  have hx := C0.1.1
  have hb := C0.1.2.1
  have hta := C0.1.2.2.2.2.2.1
  have hown := C0.1.2.2.2.2.1
  intro n
  induction n with
  | zero => intro _ _ h; cases h
  | succ n ih =>
    intro v3 t hrun H locs ls hW hl
    obtain ⟨o, ho, hrun⟩ := bd_some hrun
    unfold x9_lookRound_B18 at ho
    refine lv_iload_n hx hb dX9_lookRound_18 rfl (lv_at hl 2 rfl) ?_
    refine lv_iconst (v := (3 : Int32)) hx hb dX9_lookRound_19 (by decide) ?_
    refine lv_icmp_gt (tgt := 55) hx hb dX9_lookRound_20 (by decide) (fun c1 => ?_) (fun c1 => ?_)
    · replace ho := ite_t c1 ho
      cases ho
      cases hrun
      exact hK0 _ _ _ hW (lv_sub hl [0, 1] rfl)
    · replace ho := ite_f c1 ho
      refine lv_aload_n hx hb dX9_lookRound_23 rfl (lv_at hl 0 rfl) ?_
      refine lv_iload_n hx hb dX9_lookRound_24 rfl (lv_at hl 2 rfl) ?_
      refine lv_iload_n hx hb dX9_lookRound_25 rfl (lv_at hl 1 rfl) ?_
      obtain ⟨q2, hc3, ho⟩ := bd_some ho
      refine bkI C0.1 hW (runVX (As := [.int v3, .int v2]) (rest := []) C0 hW (c_x9_placeOf l _ t v3 v2 (r := q2) hc3) cb_X9_X9_placeOf_38 9 9 rfl rfl rfl rfl rfl ⟨rfl, rfl⟩ ⟨Nat.le_of_ble_eq_true rfl, Nat.le_of_ble_eq_true rfl⟩ (Nat.le_of_ble_eq_true rfl) hl.1 dX9_lookRound_26 ⟨Nat.le_of_ble_eq_true rfl, Nat.le_of_ble_eq_true rfl⟩) (fun H locs hW => ?_)
      refine lv_istore (lv' := [(4, .int q2), (0, .ref (am 1009)), (2, .int v2), (3, .int v3)]) hx hb dX9_lookRound_29 hl (by decide) rfl (fun ls hl => ?_)
      refine lv_iload hx hb dX9_lookRound_31 (lv_at hl 0 rfl) ?_
      refine lv_if_lt (tgt := 49) hx hb dX9_lookRound_33 (by decide) (fun c4 => ?_) (fun c4 => ?_)
      · replace ho := ite_t c4 ho
        obtain ⟨x5, ex5, ho⟩ := nm_x ho
        refine lv_iinc (v := x5) (lv' := [(3, .int x5), (4, .int q2), (0, .ref (am 1009)), (2, .int v2)]) hx hb dX9_lookRound_49 hl (k := 3) rfl (by rw [ex5]; rfl) (by decide) rfl (fun ls hl => ?_)
        clear ex5
        refine lv_goto (tgt := 18) hx hb dX9_lookRound_52 (by decide) ?_
        cases ho
        exact ih _ _ hrun _ _ _ hW (lv_sub hl [2, 3, 0] rfl)
      · replace ho := ite_f c4 ho
        refine lv_aload_n hx hb dX9_lookRound_36 rfl (lv_at hl 1 rfl) ?_
        refine xGET_903 C0 kw_569 hW dX9_lookRound_37 ?_
        refine lv_iload_n hx hb dX9_lookRound_40 rfl (lv_at hl 2 rfl) ?_
        refine lv_dup2_11 hx hb dX9_lookRound_41 rfl rfl ?_
        obtain ⟨g6, ho⟩ := gd_some ho
        refine xLD_903 C0 hW g6 dX9_lookRound_42 ?_
        refine lv_iconst (v := (1 : Int32)) hx hb dX9_lookRound_43 (by decide) ?_
        refine lv_iload hx hb dX9_lookRound_44 (lv_at hl 0 rfl) ?_
        refine lv_ishl hx hb dX9_lookRound_46 ?_
        refine lv_ior hx hb dX9_lookRound_47 ?_
        obtain ⟨g7, ho⟩ := gd_some ho
        refine xST_903 C0 hW g7 dX9_lookRound_48 (fun H locs hW => ?_)
        obtain ⟨t8, ho, hW⟩ := nm_w (P := fun t => wl D A s (wX cI cJ cZ cR am gm t) H locs) ho hW
        obtain ⟨x9, ex9, ho⟩ := nm_x ho
        refine lv_iinc (v := x9) (lv' := [(3, .int x9), (4, .int q2), (0, .ref (am 1009)), (2, .int v2)]) hx hb dX9_lookRound_49 hl (k := 3) rfl (by rw [ex9]; rfl) (by decide) rfl (fun ls hl => ?_)
        clear ex9
        refine lv_goto (tgt := 18) hx hb dX9_lookRound_52 (by decide) ?_
        cases ho
        exact ih _ _ hrun _ _ _ hW (lv_sub hl [2, 3, 0] rfl)
set_option maxHeartbeats 4000000 in
set_option maxRecDepth 100000 in
theorem x9_lookRound_L2 {p : Program} {l : Launch} {e : Env} {s : State} {m : MethodId} {args : Array Value} {below : List Frame} {meth : Method} {c : Code} {Q : State → Prop} {D : va_G} {cI cJ cZ cR : ClassId} {am gm : Nat → Nat} {st : Nat} {A : Nat → Prop} (C0 : cxX p s m args meth c cX9_lookRound RX9 5 none D (tyX cI cJ cZ cR) st A) {y : St} (hK0 : ∀ (H : Heap) (locs : List Loc) (ls : Array Slot), wl D A s (wX cI cJ cZ cR am gm y) H locs → lv_has ls 5 [(0, .ref (am 1009))] → W p l e (rmN 1 22) s m args below meth c H locs 0 0 Q (F0 m 61 ls [])) :
    ∀ (n : Nat) (v2 : Int32) (t : St), lpn (fun x => x9_lookRound_B2 x.1 x.2) n (v2, t) = some y → ∀ (H : Heap) (locs : List Loc) (ls : Array Slot), wl D A s (wX cI cJ cZ cR am gm t) H locs → lv_has ls 5 [(0, .ref (am 1009)), (2, .int v2)] → W p l e (rmN 1 22) s m args below meth c H locs 0 0 Q (F0 m 2 ls []) := by
  have hx := C0.1.1
  have hb := C0.1.2.1
  have hta := C0.1.2.2.2.2.2.1
  have hown := C0.1.2.2.2.2.1
  intro n
  induction n with
  | zero => intro _ _ h; cases h
  | succ n ih =>
    intro v2 t hrun H locs ls hW hl
    obtain ⟨o, ho, hrun⟩ := bd_some hrun
    unfold x9_lookRound_B2 at ho
    refine lv_iload_n hx hb dX9_lookRound_2 rfl (lv_at hl 1 rfl) ?_
    refine lv_sipush (v := (600 : Int32)) hx hb dX9_lookRound_3 (by decide) ?_
    refine lv_icmp_ge (tgt := 61) hx hb dX9_lookRound_6 (by decide) (fun c10 => ?_) (fun c10 => ?_)
    · replace ho := ite_t c10 ho
      cases ho
      cases hrun
      exact hK0 _ _ _ hW (lv_sub hl [0] rfl)
    · replace ho := ite_f c10 ho
      refine lv_aload_n hx hb dX9_lookRound_9 rfl (lv_at hl 0 rfl) ?_
      refine xGET_903 C0 kw_569 hW dX9_lookRound_10 ?_
      refine lv_iload_n hx hb dX9_lookRound_13 rfl (lv_at hl 1 rfl) ?_
      refine lv_iconst (v := (0 : Int32)) hx hb dX9_lookRound_14 (by decide) ?_
      obtain ⟨g11, ho⟩ := gd_some ho
      refine xST_903 C0 hW g11 dX9_lookRound_15 (fun H locs hW => ?_)
      obtain ⟨t12, ho, hW⟩ := nm_w (P := fun t => wl D A s (wX cI cJ cZ cR am gm t) H locs) ho hW
      refine lv_iconst (v := (0 : Int32)) hx hb dX9_lookRound_16 (by decide) ?_
      refine lv_istore_n (lv' := [(3, .int (0 : Int32)), (0, .ref (am 1009)), (2, .int v2)]) hx hb dX9_lookRound_17 rfl hl (by decide) rfl (fun ls hl => ?_)
      obtain ⟨y13, hc14, ho⟩ := bd_some ho
      obtain ⟨ny13, hc14⟩ := lp_to hc14
      refine x9_lookRound_L18 C0 ?_ ny13 _ _ hc14 _ _ _ hW (lv_sub hl [1, 2, 0] rfl)
      intro H locs ls hW hl
      obtain ⟨x15, ex15, ho⟩ := nm_x ho
      refine lv_iinc (v := x15) (lv' := [(2, .int x15), (0, .ref (am 1009))]) hx hb dX9_lookRound_55 hl (k := 1) rfl (by rw [ex15]; rfl) (by decide) rfl (fun ls hl => ?_)
      clear ex15
      refine lv_goto (tgt := 2) hx hb dX9_lookRound_58 (by decide) ?_
      cases ho
      exact ih _ _ hrun _ _ _ hW (lv_sub hl [1, 0] rfl)
set_option maxHeartbeats 4000000 in
set_option maxRecDepth 100000 in
theorem c_x9_lookRound (l : Launch) {D : va_G} {cI cJ cZ cR : ClassId} {am gm : Nat → Nat} {st : Nat} (sz : Nat) (t : St) (a1 : Int32) {t' : St} (ho : x9_lookRound t a1 = some t') : Met l yX9_lookRound (.code yX9_lookRound cX9_lookRound 5 none :: wsAll) (rmN 1 22) (va_Pc [.ref (am 1009), .int a1] (prX D (tyX cI cJ cZ cR) (wX cI cJ cZ cR am gm t) sz st)) (qV D (tyX cI cJ cZ cR) (wX cI cJ cZ cR am gm t') (va_A (wX cI cJ cZ cR am gm t) sz)) 0 0 (va_A (wX cI cJ cZ cR am gm t) sz) := by
  refine Met.ofW (cc := cX9_lookRound) (maxL := 5) (ret := none) (by decide) rfl ?_
  intro p e s m args below meth c s₁ B hml hv
  obtain ⟨rfl, ⟨hsz, hP, hK, hD0⟩, hsx⟩ := hv
  have hx := B.exec
  have hb := B.bytes
  have hts := atoms_spec (ws := (.code yX9_lookRound cX9_lookRound 5 none :: wsAll)) B.pre
  have hta := fun w h => hts w (List.mem_cons_of_mem _ h)
  have hown : s.vm.findClass RX9 = some m.cls := findClass_of_methodNamed B.named
  have hlocks := B.notSynchronized
  subst hsz
  have hD := hD0.self (sz := s.heap.size)
  generalize hAe : va_A (wX cI cJ cZ cR am gm t) s.heap.size = A at hD ⊢
  have hA : ∀ q : Nat, s.heap.size ≤ q → A q := fun q h => by rw [← hAe]; exact Or.inr h
  have C0 : cxX p s m ([.ref (am 1009), .int a1].toArray) meth c cX9_lookRound RX9 5 none D (tyX cI cJ cZ cR) st A := ⟨⟨hx, hb, B.returns, hml, hown, hta, hlocks, hK, hA⟩, by rw [← hAe]; exact hsx⟩
  have hW : wl D A s (wX cI cJ cZ cR am gm t) s.heap [] := ⟨hP, hD, va_S.rf⟩
  have hl := lv_entry [.ref (am 1009), .int a1] (n := 5) (Nat.le_of_ble_eq_true rfl)
  rw [lg_entry_eq]
  generalize (lg_sl [.ref (am 1009), .int a1] ++ List.replicate (5 - (lg_sl [.ref (am 1009), .int a1]).length) Slot.unset).toArray = ls at hl ⊢
  have hl : lv_has ls 5 [(0, .ref (am 1009)), (1, .int a1)] := hl
  unfold x9_lookRound at ho
  refine lv_iload_n hx hb dX9_lookRound_0 rfl (lv_at hl 1 rfl) ?_
  refine lv_istore_n (lv' := [(2, .int a1), (0, .ref (am 1009)), (1, .int a1)]) hx hb dX9_lookRound_1 rfl hl (by decide) rfl (fun ls hl => ?_)
  obtain ⟨y16, hc17, ho⟩ := bd_some ho
  obtain ⟨ny16, hc17⟩ := lp_to hc17
  refine x9_lookRound_L2 C0 ?_ ny16 _ _ hc17 _ _ _ hW (lv_sub hl [1, 0] rfl)
  intro H locs ls hW hl
  cases ho
  exact rtV C0.1 hW dX9_lookRound_61
noncomputable def x9_findEnds_J128 (t : St) (v1 : Int32) (v2 : Int32) (v3 : Int32) (v4 : Int32) (v5 : Int32) (v6 : Int32) (w1 : Int32) (w2 : Int32) : Option ((Int32 × Int32 × St) ⊕ (St)) :=
  gd w1 (gN t 906) (nm (sA t 906 w1 w2) (fun t2 : St => nm (v6 + (-1 : Int32)) (fun x3 : Int32 => some (.inl (v5, x3, t2)))))
noncomputable def x9_findEnds_J84 (t : St) (v1 : Int32) (v2 : Int32) (v3 : Int32) (v4 : Int32) (v6 : Int32) (w0 : Int32) : Option ((Int32 × Int32 × St) ⊕ (St)) :=
  if w0 < v4 then (gd (((v1 * (601 : Int32)) + v6) + (1 : Int32)) (gN t 906) (x9_findEnds_J128 t v1 v2 v3 v4 w0 v6 ((v1 * (601 : Int32)) + v6) (gA t 906 ((((v1 * (601 : Int32)) + v6) + (1 : Int32))).toNatClampNeg))) else (x9_findEnds_J128 t v1 v2 v3 v4 w0 v6 ((v1 * (601 : Int32)) + v6) (v6 + v4))
noncomputable def x9_findEnds_B56 (v1 : Int32) (v2 : Int32) (v3 : Int32) (v4 : Int32) (v5 : Int32) (v6 : Int32) (t : St) : Option ((Int32 × Int32 × St) ⊕ (St)) :=
  if v6 < v2 then (some (.inr t)) else (gd v6 (gN t 903) (if (((gA t 903 (v6).toNatClampNeg) >>> (v3 &&& 31)) &&& (1 : Int32)) = 0 then (x9_findEnds_J84 t v1 v2 v3 v4 v6 (v5 + (1 : Int32))) else (x9_findEnds_J84 t v1 v2 v3 v4 v6 (0 : Int32))))
noncomputable def x9_findEnds (t : St) (a1 : Int32) (a2 : Int32) : Option (St) :=
  gd a1 (gN t 904) ((x5_get t (gA t 904 (a1).toNatClampNeg) (4 : Int32)).bind (fun q10 => gd a1 (gN t 904) ((x5_get t (gA t 904 (a1).toNatClampNeg) (1 : Int32)).bind (fun q13 => gd ((a1 * (601 : Int32)) + (600 : Int32)) (gN t 906) (nm (sA t 906 ((a1 * (601 : Int32)) + (600 : Int32)) (601 : Int32)) (fun t16 : St => (lp (fun x => x9_findEnds_B56 a1 a2 q10 q13 x.1 x.2.1 x.2.2) ((0 : Int32), (599 : Int32), t16)).bind (fun y17 => some y17)))))))
set_option maxHeartbeats 4000000 in
set_option maxRecDepth 100000 in
theorem x9_findEnds_L56 {p : Program} {l : Launch} {e : Env} {s : State} {m : MethodId} {args : Array Value} {below : List Frame} {meth : Method} {c : Code} {Q : State → Prop} {D : va_G} {cI cJ cZ cR : ClassId} {am gm : Nat → Nat} {st : Nat} {A : Nat → Prop} (C0 : cxX p s m args meth c cX9_findEnds RX9 7 none D (tyX cI cJ cZ cR) st A) {v1 : Int32} {v2 : Int32} {v3 : Int32} {v4 : Int32} {y : St} (hK0 : ∀ (H : Heap) (locs : List Loc) (ls : Array Slot), wl D A s (wX cI cJ cZ cR am gm y) H locs → lv_has ls 7 [(0, .ref (am 1009))] → W p l e (rmN 1 22) s m args below meth c H locs 0 0 Q (F0 m 135 ls [])) :
    ∀ (n : Nat) (v5 : Int32) (v6 : Int32) (t : St), lpn (fun x => x9_findEnds_B56 v1 v2 v3 v4 x.1 x.2.1 x.2.2) n (v5, v6, t) = some y → ∀ (H : Heap) (locs : List Loc) (ls : Array Slot), wl D A s (wX cI cJ cZ cR am gm t) H locs → lv_has ls 7 [(0, .ref (am 1009)), (1, .int v1), (2, .int v2), (3, .int v3), (4, .int v4), (5, .int v5), (6, .int v6)] → W p l e (rmN 1 22) s m args below meth c H locs 0 0 Q (F0 m 56 ls []) := by
  have hx := C0.1.1
  have hb := C0.1.2.1
  have hta := C0.1.2.2.2.2.2.1
  have hown := C0.1.2.2.2.2.1
  intro n
  induction n with
  | zero => intro _ _ _ h; cases h
  | succ n ih =>
    intro v5 v6 t hrun H locs ls hW hl
    obtain ⟨o, ho, hrun⟩ := bd_some hrun
    have J128 : ∀ (t : St) (v5 : Int32) (v6 : Int32) (w1 : Int32) (w2 : Int32) (_ : x9_findEnds_J128 t v1 v2 v3 v4 v5 v6 w1 w2 = some o) (H : Heap) (locs : List Loc) (ls : Array Slot), wl D A s (wX cI cJ cZ cR am gm t) H locs → lv_has ls 7 [(0, .ref (am 1009)), (1, .int v1), (2, .int v2), (3, .int v3), (4, .int v4), (5, .int v5), (6, .int v6)] → W p l e (rmN 1 22) s m args below meth c H locs 0 0 Q (F0 m 128 ls [.int w2, .int w1, .ref (gm 906)]) := by
      intro t v5 v6 w1 w2 ho H locs ls hW hl
      unfold x9_findEnds_J128 at ho
      obtain ⟨g1, ho⟩ := gd_some ho
      refine xST_906 C0 hW g1 dX9_findEnds_128 (fun H locs hW => ?_)
      obtain ⟨t2, ho, hW⟩ := nm_w (P := fun t => wl D A s (wX cI cJ cZ cR am gm t) H locs) ho hW
      obtain ⟨x3, ex3, ho⟩ := nm_x ho
      refine lv_iinc (v := x3) (lv' := [(6, .int x3), (0, .ref (am 1009)), (1, .int v1), (2, .int v2), (3, .int v3), (4, .int v4), (5, .int v5)]) hx hb dX9_findEnds_129 hl (k := 6) rfl (by rw [ex3]; rfl) (by decide) rfl (fun ls hl => ?_)
      clear ex3
      refine lv_goto (tgt := 56) hx hb dX9_findEnds_132 (by decide) ?_
      cases ho
      exact ih _ _ _ hrun _ _ _ hW (lv_sub hl [1, 2, 3, 4, 5, 6, 0] rfl)
    have J84 : ∀ (t : St) (v6 : Int32) (w0 : Int32) (_ : x9_findEnds_J84 t v1 v2 v3 v4 v6 w0 = some o) (H : Heap) (locs : List Loc) (ls : Array Slot), wl D A s (wX cI cJ cZ cR am gm t) H locs → lv_has ls 7 [(0, .ref (am 1009)), (1, .int v1), (2, .int v2), (3, .int v3), (4, .int v4), (6, .int v6)] → W p l e (rmN 1 22) s m args below meth c H locs 0 0 Q (F0 m 84 ls [.int w0]) := by
      intro t v6 w0 ho H locs ls hW hl
      unfold x9_findEnds_J84 at ho
      refine lv_istore (lv' := [(5, .int w0), (0, .ref (am 1009)), (1, .int v1), (2, .int v2), (3, .int v3), (4, .int v4), (6, .int v6)]) hx hb dX9_findEnds_84 hl (by decide) rfl (fun ls hl => ?_)
      refine lv_aload_n hx hb dX9_findEnds_86 rfl (lv_at hl 1 rfl) ?_
      refine xGET_906 C0 kw_572 hW dX9_findEnds_87 ?_
      refine lv_iload_n hx hb dX9_findEnds_90 rfl (lv_at hl 2 rfl) ?_
      refine lv_sipush (v := (601 : Int32)) hx hb dX9_findEnds_91 (by decide) ?_
      refine lv_imul hx hb dX9_findEnds_94 ?_
      refine lv_iload hx hb dX9_findEnds_95 (lv_at hl 6 rfl) ?_
      refine lv_iadd hx hb dX9_findEnds_97 ?_
      refine lv_iload hx hb dX9_findEnds_98 (lv_at hl 0 rfl) ?_
      refine lv_iload hx hb dX9_findEnds_100 (lv_at hl 5 rfl) ?_
      refine lv_icmp_lt (tgt := 113) hx hb dX9_findEnds_102 (by decide) (fun c4 => ?_) (fun c4 => ?_)
      · replace ho := ite_t c4 ho
        refine lv_aload_n hx hb dX9_findEnds_113 rfl (lv_at hl 1 rfl) ?_
        refine xGET_906 C0 kw_572 hW dX9_findEnds_114 ?_
        refine lv_iload_n hx hb dX9_findEnds_117 rfl (lv_at hl 2 rfl) ?_
        refine lv_sipush (v := (601 : Int32)) hx hb dX9_findEnds_118 (by decide) ?_
        refine lv_imul hx hb dX9_findEnds_121 ?_
        refine lv_iload hx hb dX9_findEnds_122 (lv_at hl 6 rfl) ?_
        refine lv_iadd hx hb dX9_findEnds_124 ?_
        refine lv_iconst (v := (1 : Int32)) hx hb dX9_findEnds_125 (by decide) ?_
        refine lv_iadd hx hb dX9_findEnds_126 ?_
        obtain ⟨g5, ho⟩ := gd_some ho
        refine xLD_906 C0 hW g5 dX9_findEnds_127 ?_
        exact J128 _ _ _ _ _ ho _ _ _ hW (lv_sub hl [1, 2, 3, 4, 5, 0, 6] rfl)
      · replace ho := ite_f c4 ho
        refine lv_iload hx hb dX9_findEnds_105 (lv_at hl 6 rfl) ?_
        refine lv_iload hx hb dX9_findEnds_107 (lv_at hl 5 rfl) ?_
        refine lv_iadd hx hb dX9_findEnds_109 ?_
        refine lv_goto (tgt := 128) hx hb dX9_findEnds_110 (by decide) ?_
        exact J128 _ _ _ _ _ ho _ _ _ hW (lv_sub hl [1, 2, 3, 4, 5, 0, 6] rfl)
    unfold x9_findEnds_B56 at ho
    refine lv_iload hx hb dX9_findEnds_56 (lv_at hl 6 rfl) ?_
    refine lv_iload_n hx hb dX9_findEnds_58 rfl (lv_at hl 2 rfl) ?_
    refine lv_icmp_lt (tgt := 135) hx hb dX9_findEnds_59 (by decide) (fun c6 => ?_) (fun c6 => ?_)
    · replace ho := ite_t c6 ho
      cases ho
      cases hrun
      exact hK0 _ _ _ hW (lv_sub hl [0] rfl)
    · replace ho := ite_f c6 ho
      refine lv_aload_n hx hb dX9_findEnds_62 rfl (lv_at hl 0 rfl) ?_
      refine xGET_903 C0 kw_569 hW dX9_findEnds_63 ?_
      refine lv_iload hx hb dX9_findEnds_66 (lv_at hl 6 rfl) ?_
      obtain ⟨g7, ho⟩ := gd_some ho
      refine xLD_903 C0 hW g7 dX9_findEnds_68 ?_
      refine lv_iload_n hx hb dX9_findEnds_69 rfl (lv_at hl 3 rfl) ?_
      refine lv_ishr hx hb dX9_findEnds_70 ?_
      refine lv_iconst (v := (1 : Int32)) hx hb dX9_findEnds_71 (by decide) ?_
      refine lv_iand hx hb dX9_findEnds_72 ?_
      refine lv_if_ne (tgt := 83) hx hb dX9_findEnds_73 (by decide) (fun c8 => ?_) (fun c8 => ?_)
      · replace ho := ite_f c8 ho
        refine lv_iconst (v := (0 : Int32)) hx hb dX9_findEnds_83 (by decide) ?_
        exact J84 _ _ _ ho _ _ _ hW (lv_sub hl [0, 1, 2, 3, 4, 6] rfl)
      · replace ho := ite_t c8 ho
        refine lv_iload hx hb dX9_findEnds_76 (lv_at hl 5 rfl) ?_
        refine lv_iconst (v := (1 : Int32)) hx hb dX9_findEnds_78 (by decide) ?_
        refine lv_iadd hx hb dX9_findEnds_79 ?_
        refine lv_goto (tgt := 84) hx hb dX9_findEnds_80 (by decide) ?_
        exact J84 _ _ _ ho _ _ _ hW (lv_sub hl [0, 1, 2, 3, 4, 6] rfl)
set_option maxHeartbeats 4000000 in
set_option maxRecDepth 100000 in
theorem c_x9_findEnds (l : Launch) {D : va_G} {cI cJ cZ cR : ClassId} {am gm : Nat → Nat} {st : Nat} (sz : Nat) (t : St) (a1 : Int32) (a2 : Int32) {t' : St} (ho : x9_findEnds t a1 a2 = some t') : Met l yX9_findEnds (.code yX9_findEnds cX9_findEnds 7 none :: wsAll) (rmN 1 22) (va_Pc [.ref (am 1009), .int a1, .int a2] (prX D (tyX cI cJ cZ cR) (wX cI cJ cZ cR am gm t) sz st)) (qV D (tyX cI cJ cZ cR) (wX cI cJ cZ cR am gm t') (va_A (wX cI cJ cZ cR am gm t) sz)) 0 0 (va_A (wX cI cJ cZ cR am gm t) sz) := by
  refine Met.ofW (cc := cX9_findEnds) (maxL := 7) (ret := none) (by decide) rfl ?_
  intro p e s m args below meth c s₁ B hml hv
  obtain ⟨rfl, ⟨hsz, hP, hK, hD0⟩, hsx⟩ := hv
  have hx := B.exec
  have hb := B.bytes
  have hts := atoms_spec (ws := (.code yX9_findEnds cX9_findEnds 7 none :: wsAll)) B.pre
  have hta := fun w h => hts w (List.mem_cons_of_mem _ h)
  have hown : s.vm.findClass RX9 = some m.cls := findClass_of_methodNamed B.named
  have hlocks := B.notSynchronized
  subst hsz
  have hD := hD0.self (sz := s.heap.size)
  generalize hAe : va_A (wX cI cJ cZ cR am gm t) s.heap.size = A at hD ⊢
  have hA : ∀ q : Nat, s.heap.size ≤ q → A q := fun q h => by rw [← hAe]; exact Or.inr h
  have C0 : cxX p s m ([.ref (am 1009), .int a1, .int a2].toArray) meth c cX9_findEnds RX9 7 none D (tyX cI cJ cZ cR) st A := ⟨⟨hx, hb, B.returns, hml, hown, hta, hlocks, hK, hA⟩, by rw [← hAe]; exact hsx⟩
  have hW : wl D A s (wX cI cJ cZ cR am gm t) s.heap [] := ⟨hP, hD, va_S.rf⟩
  have hl := lv_entry [.ref (am 1009), .int a1, .int a2] (n := 7) (Nat.le_of_ble_eq_true rfl)
  rw [lg_entry_eq]
  generalize (lg_sl [.ref (am 1009), .int a1, .int a2] ++ List.replicate (7 - (lg_sl [.ref (am 1009), .int a1, .int a2]).length) Slot.unset).toArray = ls at hl ⊢
  have hl : lv_has ls 7 [(0, .ref (am 1009)), (1, .int a1), (2, .int a2)] := hl
  unfold x9_findEnds at ho
  refine lv_aload_n hx hb dX9_findEnds_0 rfl (lv_at hl 0 rfl) ?_
  refine xGET_900 C0 kw_565 hW dX9_findEnds_1 ?_
  refine lv_aload_n hx hb dX9_findEnds_4 rfl (lv_at hl 0 rfl) ?_
  refine xGET_904 C0 kw_570 hW dX9_findEnds_5 ?_
  refine lv_iload_n hx hb dX9_findEnds_8 rfl (lv_at hl 1 rfl) ?_
  obtain ⟨g9, ho⟩ := gd_some ho
  refine xLD_904 C0 hW g9 dX9_findEnds_9 ?_
  refine lv_iconst (v := (4 : Int32)) hx hb dX9_findEnds_10 (by decide) ?_
  obtain ⟨q10, hc11, ho⟩ := bd_some ho
  refine bkI C0.1 hW (runVX (As := [.int (gA t 904 (a1).toNatClampNeg), .int (4 : Int32)]) (rest := []) C0 hW (c_x5_get l _ t (gA t 904 (a1).toNatClampNeg) (4 : Int32) (r := q10) hc11) cb_X9_X5_get_44 5 5 rfl rfl rfl rfl rfl ⟨rfl, rfl⟩ ⟨Nat.le_of_ble_eq_true rfl, Nat.le_of_ble_eq_true rfl⟩ (Nat.le_of_ble_eq_true rfl) hl.1 dX9_findEnds_11 ⟨Nat.le_of_ble_eq_true rfl, Nat.le_of_ble_eq_true rfl⟩) (fun H locs hW => ?_)
  refine lv_istore_n (lv' := [(3, .int q10), (0, .ref (am 1009)), (1, .int a1), (2, .int a2)]) hx hb dX9_findEnds_14 rfl hl (by decide) rfl (fun ls hl => ?_)
  refine lv_aload_n hx hb dX9_findEnds_15 rfl (lv_at hl 1 rfl) ?_
  refine xGET_900 C0 kw_565 hW dX9_findEnds_16 ?_
  refine lv_aload_n hx hb dX9_findEnds_19 rfl (lv_at hl 1 rfl) ?_
  refine xGET_904 C0 kw_570 hW dX9_findEnds_20 ?_
  refine lv_iload_n hx hb dX9_findEnds_23 rfl (lv_at hl 2 rfl) ?_
  obtain ⟨g12, ho⟩ := gd_some ho
  refine xLD_904 C0 hW g12 dX9_findEnds_24 ?_
  refine lv_iconst (v := (1 : Int32)) hx hb dX9_findEnds_25 (by decide) ?_
  obtain ⟨q13, hc14, ho⟩ := bd_some ho
  refine bkI C0.1 hW (runVX (As := [.int (gA t 904 (a1).toNatClampNeg), .int (1 : Int32)]) (rest := []) C0 hW (c_x5_get l _ t (gA t 904 (a1).toNatClampNeg) (1 : Int32) (r := q13) hc14) cb_X9_X5_get_44 5 5 rfl rfl rfl rfl rfl ⟨rfl, rfl⟩ ⟨Nat.le_of_ble_eq_true rfl, Nat.le_of_ble_eq_true rfl⟩ (Nat.le_of_ble_eq_true rfl) hl.1 dX9_findEnds_26 ⟨Nat.le_of_ble_eq_true rfl, Nat.le_of_ble_eq_true rfl⟩) (fun H locs hW => ?_)
  refine lv_istore (lv' := [(4, .int q13), (3, .int q10), (0, .ref (am 1009)), (1, .int a1), (2, .int a2)]) hx hb dX9_findEnds_29 hl (by decide) rfl (fun ls hl => ?_)
  refine lv_iconst (v := (0 : Int32)) hx hb dX9_findEnds_31 (by decide) ?_
  refine lv_istore (lv' := [(5, .int (0 : Int32)), (4, .int q13), (3, .int q10), (0, .ref (am 1009)), (1, .int a1), (2, .int a2)]) hx hb dX9_findEnds_32 hl (by decide) rfl (fun ls hl => ?_)
  refine lv_aload_n hx hb dX9_findEnds_34 rfl (lv_at hl 3 rfl) ?_
  refine xGET_906 C0 kw_572 hW dX9_findEnds_35 ?_
  refine lv_iload_n hx hb dX9_findEnds_38 rfl (lv_at hl 4 rfl) ?_
  refine lv_sipush (v := (601 : Int32)) hx hb dX9_findEnds_39 (by decide) ?_
  refine lv_imul hx hb dX9_findEnds_42 ?_
  refine lv_sipush (v := (600 : Int32)) hx hb dX9_findEnds_43 (by decide) ?_
  refine lv_iadd hx hb dX9_findEnds_46 ?_
  refine lv_sipush (v := (601 : Int32)) hx hb dX9_findEnds_47 (by decide) ?_
  obtain ⟨g15, ho⟩ := gd_some ho
  refine xST_906 C0 hW g15 dX9_findEnds_50 (fun H locs hW => ?_)
  obtain ⟨t16, ho, hW⟩ := nm_w (P := fun t => wl D A s (wX cI cJ cZ cR am gm t) H locs) ho hW
  refine lv_sipush (v := (599 : Int32)) hx hb dX9_findEnds_51 (by decide) ?_
  refine lv_istore (lv' := [(6, .int (599 : Int32)), (5, .int (0 : Int32)), (4, .int q13), (3, .int q10), (0, .ref (am 1009)), (1, .int a1), (2, .int a2)]) hx hb dX9_findEnds_54 hl (by decide) rfl (fun ls hl => ?_)
  obtain ⟨y17, hc18, ho⟩ := bd_some ho
  obtain ⟨ny17, hc18⟩ := lp_to hc18
  refine x9_findEnds_L56 C0 ?_ ny17 _ _ _ hc18 _ _ _ hW (lv_sub hl [4, 5, 6, 3, 2, 1, 0] rfl)
  intro H locs ls hW hl
  cases ho
  exact rtV C0.1 hW dX9_findEnds_135
