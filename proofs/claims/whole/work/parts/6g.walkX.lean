noncomputable def x11_digest_B6 (t : St) (v1 : Int64) (v3 : Int32) : Option ((Int64 × Int32) ⊕ (Int64)) :=
  if (6 : Int32) < v3 then (some (.inr v1)) else ((x11_count t v3).bind (fun q2 => nm (((31 : Int64) * v1) + (q2).toInt64) (fun x4 : Int64 => nm (v3 + (1 : Int32)) (fun x5 : Int32 => some (.inl (x4, x5))))))
noncomputable def x11_digest (t : St) : Option (Int64) :=
  (lp (fun x => x11_digest_B6 t x.1 x.2) ((269 : Int64), (0 : Int32))).bind (fun y6 => (x5_mixInto t y6).bind (fun q8 => (x6_mixInto t q8).bind (fun q10 => (x4_mixInto t q10).bind (fun q12 => (x3_mixInto t q12).bind (fun q14 => (x10_mixInto t q14).bind (fun q16 => (x1_mixInto t q16).bind (fun q18 => (x9_mixInto t q18).bind (fun q20 => some q20))))))))
set_option maxHeartbeats 4000000 in
set_option maxRecDepth 100000 in
theorem x11_digest_L6 {p : Program} {l : Launch} {e : Env} {s : State} {m : MethodId} {args : Array Value} {below : List Frame} {meth : Method} {c : Code} {Q : State → Prop} {D : va_G} {cI cJ cZ cR : ClassId} {am gm : Nat → Nat} {st : Nat} {A : Nat → Prop} (C0 : cxX p s m args meth c cX11_digest RX11 4 (some .long) D (tyX cI cJ cZ cR) st A) {t : St} {y : Int64} (hK0 : ∀ (H : Heap) (locs : List Loc) (ls : Array Slot), wl D A s (wX cI cJ cZ cR am gm t) H locs → lv_has ls 4 [(0, .ref (am 1011)), (1, .long y)] → W p l e (rmN 2 47) s m args below meth c H locs 0 0 Q (F0 m 31 ls [])) :
    ∀ (n : Nat) (v1 : Int64) (v3 : Int32), lpn (fun x => x11_digest_B6 t x.1 x.2) n (v1, v3) = some y → ∀ (H : Heap) (locs : List Loc) (ls : Array Slot), wl D A s (wX cI cJ cZ cR am gm t) H locs → lv_has ls 4 [(0, .ref (am 1011)), (1, .long v1), (3, .int v3)] → W p l e (rmN 2 47) s m args below meth c H locs 0 0 Q (F0 m 6 ls []) := by
  have hx := C0.1.1
  have hb := C0.1.2.1
  have hta := C0.1.2.2.2.2.2.1
  have hown := C0.1.2.2.2.2.1
  intro n
  induction n with
  | zero => intro _ _ h; cases h
  | succ n ih =>
    intro v1 v3 hrun H locs ls hW hl
    obtain ⟨o, ho, hrun⟩ := bd_some hrun
    unfold x11_digest_B6 at ho
    refine lv_iload_n hx hb dX11_digest_6 rfl (lv_at hl 2 rfl) ?_
    refine lv_bipush (v := (6 : Int32)) hx hb dX11_digest_7 (by decide) ?_
    refine lv_icmp_gt (tgt := 31) hx hb dX11_digest_9 (by decide) (fun c1 => ?_) (fun c1 => ?_)
    · replace ho := ite_t c1 ho
      cases ho
      cases hrun
      exact hK0 _ _ _ hW (lv_sub hl [0, 1] rfl)
    · replace ho := ite_f c1 ho
      refine lv_ldc2 hx hb hown (hta _ kw_1453) dX11_digest_12 ?_
      refine lv_lload_n hx hb dX11_digest_15 rfl (lv_at hl 1 rfl) ?_
      refine lv_lmul hx hb dX11_digest_16 ?_
      refine lv_aload_n hx hb dX11_digest_17 rfl (lv_at hl 0 rfl) ?_
      refine lv_iload_n hx hb dX11_digest_18 rfl (lv_at hl 2 rfl) ?_
      obtain ⟨q2, hc3, ho⟩ := bd_some ho
      refine bkI C0.1 hW (runVX (As := [.int v3]) (rest := [.long ((31 : Int64) * v1)]) C0 hW (c_x11_count l _ t v3 (r := q2) hc3) cb_X11_X11_count_375 11 11 rfl rfl rfl rfl rfl ⟨rfl, rfl⟩ ⟨Nat.le_of_ble_eq_true rfl, Nat.le_of_ble_eq_true rfl⟩ (Nat.le_of_ble_eq_true rfl) hl.1 dX11_digest_19 ⟨Nat.le_of_ble_eq_true rfl, Nat.le_of_ble_eq_true rfl⟩) (fun H locs hW => ?_)
      refine lv_i2l hx hb dX11_digest_22 rfl ?_
      refine lv_ladd hx hb dX11_digest_23 ?_
      refine lv_nml ho (fun x4 ho => ?_)
      refine lv_lstore_n (lv' := [(1, .long x4), (0, .ref (am 1011)), (3, .int v3)]) hx hb dX11_digest_24 rfl hl (by decide) rfl (fun ls hl => ?_)
      obtain ⟨x5, ex5, ho⟩ := nm_x ho
      refine lv_iinc (v := x5) (lv' := [(3, .int x5), (1, .long x4), (0, .ref (am 1011))]) hx hb dX11_digest_25 hl (k := 2) rfl (by rw [ex5]; rfl) (by decide) rfl (fun ls hl => ?_)
      clear ex5
      refine lv_goto (tgt := 6) hx hb dX11_digest_28 (by decide) ?_
      cases ho
      exact ih _ _ hrun _ _ _ hW (lv_sub hl [2, 1, 0] rfl)
set_option maxHeartbeats 4000000 in
set_option maxRecDepth 100000 in
theorem c_x11_digest (l : Launch) {D : va_G} {cI cJ cZ cR : ClassId} {am gm : Nat → Nat} {st : Nat} (sz : Nat) (t : St) {r : Int64} (ho : x11_digest t = some r) : Met l yX11_digest (.code yX11_digest cX11_digest 4 (some .long) :: wsAll) (rmN 2 47) (va_Pc [.ref (am 1011)] (prX D (tyX cI cJ cZ cR) (wX cI cJ cZ cR am gm t) sz st)) (qJ r D (tyX cI cJ cZ cR) (wX cI cJ cZ cR am gm t) (va_A (wX cI cJ cZ cR am gm t) sz)) 0 0 (va_A (wX cI cJ cZ cR am gm t) sz) := by
  refine Met.ofW (cc := cX11_digest) (maxL := 4) (ret := (some .long)) (by decide) rfl ?_
  intro p e s m args below meth c s₁ B hml hv
  obtain ⟨rfl, ⟨hsz, hP, hK, hD0⟩, hsx⟩ := hv
  have hx := B.exec
  have hb := B.bytes
  have hts := atoms_spec (ws := (.code yX11_digest cX11_digest 4 (some .long) :: wsAll)) B.pre
  have hta := fun w h => hts w (List.mem_cons_of_mem _ h)
  have hown : s.vm.findClass RX11 = some m.cls := findClass_of_methodNamed B.named
  have hlocks := B.notSynchronized
  subst hsz
  have hD := hD0.self (sz := s.heap.size)
  generalize hAe : va_A (wX cI cJ cZ cR am gm t) s.heap.size = A at hD ⊢
  have hA : ∀ q : Nat, s.heap.size ≤ q → A q := fun q h => by rw [← hAe]; exact Or.inr h
  have C0 : cxX p s m ([.ref (am 1011)].toArray) meth c cX11_digest RX11 4 (some .long) D (tyX cI cJ cZ cR) st A := ⟨⟨hx, hb, B.returns, hml, hown, hta, hlocks, hK, hA⟩, by rw [← hAe]; exact hsx⟩
  have hW : wl D A s (wX cI cJ cZ cR am gm t) s.heap [] := ⟨hP, hD, va_S.rf⟩
  have hl := lv_entry [.ref (am 1011)] (n := 4) (Nat.le_of_ble_eq_true rfl)
  rw [lg_entry_eq]
  generalize (lg_sl [.ref (am 1011)] ++ List.replicate (4 - (lg_sl [.ref (am 1011)]).length) Slot.unset).toArray = ls at hl ⊢
  have hl : lv_has ls 4 [(0, .ref (am 1011))] := hl
  unfold x11_digest at ho
  refine lv_ldc2 hx hb hown (hta _ kw_1452) dX11_digest_0 ?_
  refine lv_lstore_n (lv' := [(1, .long (269 : Int64)), (0, .ref (am 1011))]) hx hb dX11_digest_3 rfl hl (by decide) rfl (fun ls hl => ?_)
  refine lv_iconst (v := (0 : Int32)) hx hb dX11_digest_4 (by decide) ?_
  refine lv_istore_n (lv' := [(3, .int (0 : Int32)), (1, .long (269 : Int64)), (0, .ref (am 1011))]) hx hb dX11_digest_5 rfl hl (by decide) rfl (fun ls hl => ?_)
  obtain ⟨y6, hc7, ho⟩ := bd_some ho
  obtain ⟨ny6, hc7⟩ := lp_to hc7
  refine x11_digest_L6 C0 ?_ ny6 _ _ hc7 _ _ _ hW (lv_sub hl [2, 1, 0] rfl)
  intro H locs ls hW hl
  refine lv_aload_n hx hb dX11_digest_31 rfl (lv_at hl 0 rfl) ?_
  refine xGET_1100 C0 kw_591 hW dX11_digest_32 ?_
  refine lv_lload_n hx hb dX11_digest_35 rfl (lv_at hl 1 rfl) ?_
  obtain ⟨q8, hc9, ho⟩ := bd_some ho
  refine bkJ C0.1 hW (runVX (As := [.long y6]) (rest := []) C0 hW (c_x5_mixInto l _ t y6 (r := q8) hc9) cb_X11_X5_mixInto_378 5 5 rfl rfl rfl rfl rfl ⟨rfl, rfl⟩ ⟨Nat.le_of_ble_eq_true rfl, Nat.le_of_ble_eq_true rfl⟩ (Nat.le_of_ble_eq_true rfl) hl.1 dX11_digest_36 ⟨Nat.le_of_ble_eq_true rfl, Nat.le_of_ble_eq_true rfl⟩) (fun H locs hW => ?_)
  refine lv_lstore_n (lv' := [(1, .long q8), (0, .ref (am 1011))]) hx hb dX11_digest_39 rfl hl (by decide) rfl (fun ls hl => ?_)
  refine lv_aload_n hx hb dX11_digest_40 rfl (lv_at hl 1 rfl) ?_
  refine xGET_1101 C0 kw_592 hW dX11_digest_41 ?_
  refine lv_lload_n hx hb dX11_digest_44 rfl (lv_at hl 0 rfl) ?_
  obtain ⟨q10, hc11, ho⟩ := bd_some ho
  refine bkJ C0.1 hW (runVX (As := [.long q8]) (rest := []) C0 hW (c_x6_mixInto l _ t q8 (r := q10) hc11) cb_X11_X6_mixInto_382 6 6 rfl rfl rfl rfl rfl ⟨rfl, rfl⟩ ⟨Nat.le_of_ble_eq_true rfl, Nat.le_of_ble_eq_true rfl⟩ (Nat.le_of_ble_eq_true rfl) hl.1 dX11_digest_45 ⟨Nat.le_of_ble_eq_true rfl, Nat.le_of_ble_eq_true rfl⟩) (fun H locs hW => ?_)
  refine lv_lstore_n (lv' := [(1, .long q10), (0, .ref (am 1011))]) hx hb dX11_digest_48 rfl hl (by decide) rfl (fun ls hl => ?_)
  refine lv_aload_n hx hb dX11_digest_49 rfl (lv_at hl 1 rfl) ?_
  refine xGET_1107 C0 kw_598 hW dX11_digest_50 ?_
  refine lv_lload_n hx hb dX11_digest_53 rfl (lv_at hl 0 rfl) ?_
  obtain ⟨q12, hc13, ho⟩ := bd_some ho
  refine bkJ C0.1 hW (runVX (As := [.long q10]) (rest := []) C0 hW (c_x4_mixInto l _ t q10 (r := q12) hc13) cb_X11_X4_mixInto_383 4 4 rfl rfl rfl rfl rfl ⟨rfl, rfl⟩ ⟨Nat.le_of_ble_eq_true rfl, Nat.le_of_ble_eq_true rfl⟩ (Nat.le_of_ble_eq_true rfl) hl.1 dX11_digest_54 ⟨Nat.le_of_ble_eq_true rfl, Nat.le_of_ble_eq_true rfl⟩) (fun H locs hW => ?_)
  refine lv_lstore_n (lv' := [(1, .long q12), (0, .ref (am 1011))]) hx hb dX11_digest_57 rfl hl (by decide) rfl (fun ls hl => ?_)
  refine lv_aload_n hx hb dX11_digest_58 rfl (lv_at hl 1 rfl) ?_
  refine xGET_1108 C0 kw_599 hW dX11_digest_59 ?_
  refine lv_lload_n hx hb dX11_digest_62 rfl (lv_at hl 0 rfl) ?_
  obtain ⟨q14, hc15, ho⟩ := bd_some ho
  refine bkJ C0.1 hW (runVX (As := [.long q12]) (rest := []) C0 hW (c_x3_mixInto l _ t q12 (r := q14) hc15) cb_X11_X3_mixInto_384 3 3 rfl rfl rfl rfl rfl ⟨rfl, rfl⟩ ⟨Nat.le_of_ble_eq_true rfl, Nat.le_of_ble_eq_true rfl⟩ (Nat.le_of_ble_eq_true rfl) hl.1 dX11_digest_63 ⟨Nat.le_of_ble_eq_true rfl, Nat.le_of_ble_eq_true rfl⟩) (fun H locs hW => ?_)
  refine lv_lstore_n (lv' := [(1, .long q14), (0, .ref (am 1011))]) hx hb dX11_digest_66 rfl hl (by decide) rfl (fun ls hl => ?_)
  refine lv_aload_n hx hb dX11_digest_67 rfl (lv_at hl 1 rfl) ?_
  refine xGET_1104 C0 kw_595 hW dX11_digest_68 ?_
  refine lv_lload_n hx hb dX11_digest_71 rfl (lv_at hl 0 rfl) ?_
  obtain ⟨q16, hc17, ho⟩ := bd_some ho
  refine bkJ C0.1 hW (runVX (As := [.long q14]) (rest := []) C0 hW (c_x10_mixInto l _ t q14 (r := q16) hc17) cb_X11_X10_mixInto_385 10 10 rfl rfl rfl rfl rfl ⟨rfl, rfl⟩ ⟨Nat.le_of_ble_eq_true rfl, Nat.le_of_ble_eq_true rfl⟩ (Nat.le_of_ble_eq_true rfl) hl.1 dX11_digest_72 ⟨Nat.le_of_ble_eq_true rfl, Nat.le_of_ble_eq_true rfl⟩) (fun H locs hW => ?_)
  refine lv_lstore_n (lv' := [(1, .long q16), (0, .ref (am 1011))]) hx hb dX11_digest_75 rfl hl (by decide) rfl (fun ls hl => ?_)
  refine lv_aload_n hx hb dX11_digest_76 rfl (lv_at hl 1 rfl) ?_
  refine xGET_1109 C0 kw_600 hW dX11_digest_77 ?_
  refine lv_lload_n hx hb dX11_digest_80 rfl (lv_at hl 0 rfl) ?_
  obtain ⟨q18, hc19, ho⟩ := bd_some ho
  refine bkJ C0.1 hW (runVX (As := [.long q16]) (rest := []) C0 hW (c_x1_mixInto l _ t q16 (r := q18) hc19) cb_X11_X1_mixInto_386 1 1 rfl rfl rfl rfl rfl ⟨rfl, rfl⟩ ⟨Nat.le_of_ble_eq_true rfl, Nat.le_of_ble_eq_true rfl⟩ (Nat.le_of_ble_eq_true rfl) hl.1 dX11_digest_81 ⟨Nat.le_of_ble_eq_true rfl, Nat.le_of_ble_eq_true rfl⟩) (fun H locs hW => ?_)
  refine lv_lstore_n (lv' := [(1, .long q18), (0, .ref (am 1011))]) hx hb dX11_digest_84 rfl hl (by decide) rfl (fun ls hl => ?_)
  refine lv_aload_n hx hb dX11_digest_85 rfl (lv_at hl 1 rfl) ?_
  refine xGET_1110 C0 kw_601 hW dX11_digest_86 ?_
  refine lv_lload_n hx hb dX11_digest_89 rfl (lv_at hl 0 rfl) ?_
  obtain ⟨q20, hc21, ho⟩ := bd_some ho
  refine bkJ C0.1 hW (runVX (As := [.long q18]) (rest := []) C0 hW (c_x9_mixInto l _ t q18 (r := q20) hc21) cb_X11_X9_mixInto_387 9 9 rfl rfl rfl rfl rfl ⟨rfl, rfl⟩ ⟨Nat.le_of_ble_eq_true rfl, Nat.le_of_ble_eq_true rfl⟩ (Nat.le_of_ble_eq_true rfl) hl.1 dX11_digest_90 ⟨Nat.le_of_ble_eq_true rfl, Nat.le_of_ble_eq_true rfl⟩) (fun H locs hW => ?_)
  cases ho
  exact rtJ C0.1 hW dX11_digest_93
noncomputable def x1_letterEvent_B2 (t : St) (v1 : Int32) (v3 : Int32) : Option ((Int32) ⊕ ((Int32) ⊕ (Unit))) :=
  if (gI t 104) ≤ v3 then (some (.inr (.inr ()))) else (gd v3 (gN t 102) (if (gA t 102 (v3).toNatClampNeg) = v1 then (some (.inr (.inl v3))) else (nm (v3 + (1 : Int32)) (fun x4 : Int32 => some (.inl x4)))))
noncomputable def x1_letterEvent (t : St) (a1 : Int32) (a2 : Int32) : Option (Int32) :=
  (lp (fun x => x1_letterEvent_B2 t a1 x) a2).bind (fun y5 => (Sum.elim (fun u7 => some u7) (fun u7 => some (-1 : Int32))) y5)
set_option maxHeartbeats 4000000 in
set_option maxRecDepth 100000 in
theorem x1_letterEvent_L2 {p : Program} {l : Launch} {e : Env} {s : State} {m : MethodId} {args : Array Value} {below : List Frame} {meth : Method} {c : Code} {Q : State → Prop} {D : va_G} {cI cJ cZ cR : ClassId} {am gm : Nat → Nat} {st : Nat} {A : Nat → Prop} (C0 : cxX p s m args meth c cX1_letterEvent RX1 4 (some .int) D (tyX cI cJ cZ cR) st A) {t : St} {v1 : Int32} {y : (Int32) ⊕ (Unit)} (hK0 : ∀ u, y = (.inl u) → ∀ (H : Heap) (locs : List Loc) (ls : Array Slot), wl D A s (wX cI cJ cZ cR am gm t) H locs → lv_has ls 4 [(0, .ref (am 1001)), (3, .int u)] → W p l e (rmN 0 0) s m args below meth c H locs 0 0 Q (F0 m 20 ls [])) (hK1 : ∀ u, y = (.inr u) → ∀ (H : Heap) (locs : List Loc) (ls : Array Slot), wl D A s (wX cI cJ cZ cR am gm t) H locs → lv_has ls 4 [(0, .ref (am 1001))] → W p l e (rmN 0 0) s m args below meth c H locs 0 0 Q (F0 m 28 ls [])) :
    ∀ (n : Nat) (v3 : Int32), lpn (fun x => x1_letterEvent_B2 t v1 x) n v3 = some y → ∀ (H : Heap) (locs : List Loc) (ls : Array Slot), wl D A s (wX cI cJ cZ cR am gm t) H locs → lv_has ls 4 [(0, .ref (am 1001)), (1, .int v1), (3, .int v3)] → W p l e (rmN 0 0) s m args below meth c H locs 0 0 Q (F0 m 2 ls []) := by
  have hx := C0.1.1
  have hb := C0.1.2.1
  have hta := C0.1.2.2.2.2.2.1
  have hown := C0.1.2.2.2.2.1
  intro n
  induction n with
  | zero => intro _ h; cases h
  | succ n ih =>
    intro v3 hrun H locs ls hW hl
    obtain ⟨o, ho, hrun⟩ := bd_some hrun
    unfold x1_letterEvent_B2 at ho
    refine lv_iload_n hx hb dX1_letterEvent_2 rfl (lv_at hl 2 rfl) ?_
    refine lv_aload_n hx hb dX1_letterEvent_3 rfl (lv_at hl 0 rfl) ?_
    refine xGET_104 C0 kw_537 hW dX1_letterEvent_4 ?_
    refine lv_icmp_ge (tgt := 28) hx hb dX1_letterEvent_7 (by decide) (fun c1 => ?_) (fun c1 => ?_)
    · replace ho := ite_t c1 ho
      cases ho
      cases hrun
      exact hK1 _ rfl _ _ _ hW (lv_sub hl [0] rfl)
    · replace ho := ite_f c1 ho
      refine lv_aload_n hx hb dX1_letterEvent_10 rfl (lv_at hl 0 rfl) ?_
      refine xGET_102 C0 kw_535 hW dX1_letterEvent_11 ?_
      refine lv_iload_n hx hb dX1_letterEvent_14 rfl (lv_at hl 2 rfl) ?_
      obtain ⟨g2, ho⟩ := gd_some ho
      refine xLD_102 C0 hW g2 dX1_letterEvent_15 ?_
      refine lv_iload_n hx hb dX1_letterEvent_16 rfl (lv_at hl 1 rfl) ?_
      refine lv_icmp_ne (tgt := 22) hx hb dX1_letterEvent_17 (by decide) (fun c3 => ?_) (fun c3 => ?_)
      · replace ho := ite_f c3 ho
        obtain ⟨x4, ex4, ho⟩ := nm_x ho
        refine lv_iinc (v := x4) (lv' := [(3, .int x4), (0, .ref (am 1001)), (1, .int v1)]) hx hb dX1_letterEvent_22 hl (k := 2) rfl (by rw [ex4]; rfl) (by decide) rfl (fun ls hl => ?_)
        clear ex4
        refine lv_goto (tgt := 2) hx hb dX1_letterEvent_25 (by decide) ?_
        cases ho
        exact ih _ hrun _ _ _ hW (lv_sub hl [1, 2, 0] rfl)
      · replace ho := ite_t c3 ho
        cases ho
        cases hrun
        exact hK0 _ rfl _ _ _ hW (lv_sub hl [0, 2] rfl)
set_option maxHeartbeats 4000000 in
set_option maxRecDepth 100000 in
theorem c_x1_letterEvent (l : Launch) {D : va_G} {cI cJ cZ cR : ClassId} {am gm : Nat → Nat} {st : Nat} (sz : Nat) (t : St) (a1 : Int32) (a2 : Int32) {r : Int32} (ho : x1_letterEvent t a1 a2 = some r) : Met l yX1_letterEvent (.code yX1_letterEvent cX1_letterEvent 4 (some .int) :: wsAll) (rmN 0 0) (va_Pc [.ref (am 1001), .int a1, .int a2] (prX D (tyX cI cJ cZ cR) (wX cI cJ cZ cR am gm t) sz st)) (qI r D (tyX cI cJ cZ cR) (wX cI cJ cZ cR am gm t) (va_A (wX cI cJ cZ cR am gm t) sz)) 0 0 (va_A (wX cI cJ cZ cR am gm t) sz) := by
  refine Met.ofW (cc := cX1_letterEvent) (maxL := 4) (ret := (some .int)) (by decide) rfl ?_
  intro p e s m args below meth c s₁ B hml hv
  obtain ⟨rfl, ⟨hsz, hP, hK, hD0⟩, hsx⟩ := hv
  have hx := B.exec
  have hb := B.bytes
  have hts := atoms_spec (ws := (.code yX1_letterEvent cX1_letterEvent 4 (some .int) :: wsAll)) B.pre
  have hta := fun w h => hts w (List.mem_cons_of_mem _ h)
  have hown : s.vm.findClass RX1 = some m.cls := findClass_of_methodNamed B.named
  have hlocks := B.notSynchronized
  subst hsz
  have hD := hD0.self (sz := s.heap.size)
  generalize hAe : va_A (wX cI cJ cZ cR am gm t) s.heap.size = A at hD ⊢
  have hA : ∀ q : Nat, s.heap.size ≤ q → A q := fun q h => by rw [← hAe]; exact Or.inr h
  have C0 : cxX p s m ([.ref (am 1001), .int a1, .int a2].toArray) meth c cX1_letterEvent RX1 4 (some .int) D (tyX cI cJ cZ cR) st A := ⟨⟨hx, hb, B.returns, hml, hown, hta, hlocks, hK, hA⟩, by rw [← hAe]; exact hsx⟩
  have hW : wl D A s (wX cI cJ cZ cR am gm t) s.heap [] := ⟨hP, hD, va_S.rf⟩
  have hl := lv_entry [.ref (am 1001), .int a1, .int a2] (n := 4) (Nat.le_of_ble_eq_true rfl)
  rw [lg_entry_eq]
  generalize (lg_sl [.ref (am 1001), .int a1, .int a2] ++ List.replicate (4 - (lg_sl [.ref (am 1001), .int a1, .int a2]).length) Slot.unset).toArray = ls at hl ⊢
  have hl : lv_has ls 4 [(0, .ref (am 1001)), (1, .int a1), (2, .int a2)] := hl
  unfold x1_letterEvent at ho
  refine lv_iload_n hx hb dX1_letterEvent_0 rfl (lv_at hl 2 rfl) ?_
  refine lv_istore_n (lv' := [(3, .int a2), (0, .ref (am 1001)), (1, .int a1), (2, .int a2)]) hx hb dX1_letterEvent_1 rfl hl (by decide) rfl (fun ls hl => ?_)
  obtain ⟨y5, hc6, ho⟩ := bd_some ho
  obtain ⟨ny5, hc6⟩ := lp_to hc6
  refine x1_letterEvent_L2 C0 ?_ ?_ ny5 _ hc6 _ _ _ hW (lv_sub hl [1, 2, 0] rfl)
  · intro u7 hy H locs ls hW hl
    subst hy
    replace ho := sum_l ho
    refine lv_iload_n hx hb dX1_letterEvent_20 rfl (lv_at hl 1 rfl) ?_
    cases ho
    exact rtI C0.1 hW dX1_letterEvent_21
  · intro u7 hy H locs ls hW hl
    subst hy
    replace ho := sum_r ho
    refine lv_iconst (v := (-1 : Int32)) hx hb dX1_letterEvent_28 (by decide) ?_
    cases ho
    exact rtI C0.1 hW dX1_letterEvent_29
noncomputable def x6_risingAt_107_B15 (v1 : Int32) (v2 : Int32) (v3 : Int32) (v4 : Int32) (v5 : Int32) (t : St) : Option ((Int32 × St) ⊕ (Int32 × St)) :=
  if v5 ≤ 0 then (some (.inr (v5, t))) else (gd (v5 - (1 : Int32)) (gN t 107) (if (gA t 107 ((v5 - (1 : Int32))).toNatClampNeg) ≤ v4 then (some (.inr (v5, t))) else (gd (v5 - (1 : Int32)) (gN t 107) (gd v5 (gN t 107) (nm (sA t 107 v5 (gA t 107 ((v5 - (1 : Int32))).toNatClampNeg)) (fun t6 : St => nm (v5 + (-1 : Int32)) (fun x7 : Int32 => some (.inl (x7, t6)))))))))
noncomputable def x6_risingAt_107_B2 (v1 : Int32) (v2 : Int32) (v3 : Int32) (t : St) : Option ((Int32 × St) ⊕ (St)) :=
  if v1 ≤ v3 then (some (.inr t)) else (gd v3 (gN t 107) (nm (gA t 107 (v3).toNatClampNeg) (fun x10 : Int32 => (lp (fun x => x6_risingAt_107_B15 v1 v2 v3 x10 x.1 x.2) (v3, t)).bind (fun y11 => gd y11.1 (gN y11.2 107) (nm (sA y11.2 107 y11.1 x10) (fun t14 : St => nm (v3 + (1 : Int32)) (fun x15 : Int32 => some (.inl (x15, t14)))))))))
noncomputable def x6_risingAt_107 (t : St) (a1 : Int32) (a2 : Int32) : Option (Int32 × St) :=
  (lp (fun x => x6_risingAt_107_B2 a1 a2 x.1 x.2) ((1 : Int32), t)).bind (fun y16 => gd (a2 - (1 : Int32)) (gN y16 107) (some ((gA y16 107 ((a2 - (1 : Int32))).toNatClampNeg), y16)))
set_option maxHeartbeats 4000000 in
set_option maxRecDepth 100000 in
theorem x6_risingAt_107_L15 {p : Program} {l : Launch} {e : Env} {s : State} {m : MethodId} {args : Array Value} {below : List Frame} {meth : Method} {c : Code} {Q : State → Prop} {D : va_G} {cI cJ cZ cR : ClassId} {am gm : Nat → Nat} {st : Nat} {A : Nat → Prop} (C0 : cxX p s m args meth c cX6_risingAt RX6 6 (some .int) D (tyX cI cJ cZ cR) st A) {v1 : Int32} {v2 : Int32} {v3 : Int32} {v4 : Int32} {y : Int32 × St} (hK0 : ∀ (H : Heap) (locs : List Loc) (ls : Array Slot), wl D A s (wX cI cJ cZ cR am gm y.2) H locs → lv_has ls 6 [(0, .ref (am 107)), (1, .int v1), (2, .int v2), (3, .int v3), (4, .int v4), (5, .int y.1)] → W p l e (rmN 0 0) s m args below meth c H locs 0 0 Q (F0 m 47 ls [])) :
    ∀ (n : Nat) (v5 : Int32) (t : St), lpn (fun x => x6_risingAt_107_B15 v1 v2 v3 v4 x.1 x.2) n (v5, t) = some y → ∀ (H : Heap) (locs : List Loc) (ls : Array Slot), wl D A s (wX cI cJ cZ cR am gm t) H locs → lv_has ls 6 [(0, .ref (am 107)), (1, .int v1), (2, .int v2), (3, .int v3), (4, .int v4), (5, .int v5)] → W p l e (rmN 0 0) s m args below meth c H locs 0 0 Q (F0 m 15 ls []) := by
  have hx := C0.1.1
  have hb := C0.1.2.1
  have hta := C0.1.2.2.2.2.2.1
  have hown := C0.1.2.2.2.2.1
  intro n
  induction n with
  | zero => intro _ _ h; cases h
  | succ n ih =>
    intro v5 t hrun H locs ls hW hl
    obtain ⟨o, ho, hrun⟩ := bd_some hrun
    unfold x6_risingAt_107_B15 at ho
    refine lv_iload hx hb dX6_risingAt_15 (lv_at hl 5 rfl) ?_
    refine lv_if_le (tgt := 47) hx hb dX6_risingAt_17 (by decide) (fun c1 => ?_) (fun c1 => ?_)
    · replace ho := ite_t c1 ho
      cases ho
      cases hrun
      exact hK0 _ _ _ hW (lv_sub hl [0, 1, 2, 3, 4, 5] rfl)
    · replace ho := ite_f c1 ho
      refine lv_aload_n hx hb dX6_risingAt_20 rfl (lv_at hl 0 rfl) ?_
      refine lv_iload hx hb dX6_risingAt_21 (lv_at hl 5 rfl) ?_
      refine lv_iconst (v := (1 : Int32)) hx hb dX6_risingAt_23 (by decide) ?_
      refine lv_isub hx hb dX6_risingAt_24 ?_
      obtain ⟨g2, ho⟩ := gd_some ho
      refine xLD_107 C0 hW g2 dX6_risingAt_25 ?_
      refine lv_iload hx hb dX6_risingAt_26 (lv_at hl 4 rfl) ?_
      refine lv_icmp_le (tgt := 47) hx hb dX6_risingAt_28 (by decide) (fun c3 => ?_) (fun c3 => ?_)
      · replace ho := ite_t c3 ho
        cases ho
        cases hrun
        exact hK0 _ _ _ hW (lv_sub hl [0, 1, 2, 3, 4, 5] rfl)
      · replace ho := ite_f c3 ho
        refine lv_aload_n hx hb dX6_risingAt_31 rfl (lv_at hl 0 rfl) ?_
        refine lv_iload hx hb dX6_risingAt_32 (lv_at hl 5 rfl) ?_
        refine lv_aload_n hx hb dX6_risingAt_34 rfl (lv_at hl 0 rfl) ?_
        refine lv_iload hx hb dX6_risingAt_35 (lv_at hl 5 rfl) ?_
        refine lv_iconst (v := (1 : Int32)) hx hb dX6_risingAt_37 (by decide) ?_
        refine lv_isub hx hb dX6_risingAt_38 ?_
        obtain ⟨g4, ho⟩ := gd_some ho
        refine xLD_107 C0 hW g4 dX6_risingAt_39 ?_
        obtain ⟨g5, ho⟩ := gd_some ho
        refine xST_107 C0 hW g5 dX6_risingAt_40 (fun H locs hW => ?_)
        obtain ⟨t6, ho, hW⟩ := nm_w (P := fun t => wl D A s (wX cI cJ cZ cR am gm t) H locs) ho hW
        obtain ⟨x7, ex7, ho⟩ := nm_x ho
        refine lv_iinc (v := x7) (lv' := [(5, .int x7), (0, .ref (am 107)), (1, .int v1), (2, .int v2), (3, .int v3), (4, .int v4)]) hx hb dX6_risingAt_41 hl (k := 5) rfl (by rw [ex7]; rfl) (by decide) rfl (fun ls hl => ?_)
        clear ex7
        refine lv_goto (tgt := 15) hx hb dX6_risingAt_44 (by decide) ?_
        cases ho
        exact ih _ _ hrun _ _ _ hW (lv_sub hl [1, 2, 3, 4, 5, 0] rfl)
set_option maxHeartbeats 4000000 in
set_option maxRecDepth 100000 in
theorem x6_risingAt_107_L2 {p : Program} {l : Launch} {e : Env} {s : State} {m : MethodId} {args : Array Value} {below : List Frame} {meth : Method} {c : Code} {Q : State → Prop} {D : va_G} {cI cJ cZ cR : ClassId} {am gm : Nat → Nat} {st : Nat} {A : Nat → Prop} (C0 : cxX p s m args meth c cX6_risingAt RX6 6 (some .int) D (tyX cI cJ cZ cR) st A) {v1 : Int32} {v2 : Int32} {y : St} (hK0 : ∀ (H : Heap) (locs : List Loc) (ls : Array Slot), wl D A s (wX cI cJ cZ cR am gm y) H locs → lv_has ls 6 [(0, .ref (am 107)), (2, .int v2)] → W p l e (rmN 0 0) s m args below meth c H locs 0 0 Q (F0 m 59 ls [])) :
    ∀ (n : Nat) (v3 : Int32) (t : St), lpn (fun x => x6_risingAt_107_B2 v1 v2 x.1 x.2) n (v3, t) = some y → ∀ (H : Heap) (locs : List Loc) (ls : Array Slot), wl D A s (wX cI cJ cZ cR am gm t) H locs → lv_has ls 6 [(0, .ref (am 107)), (1, .int v1), (2, .int v2), (3, .int v3)] → W p l e (rmN 0 0) s m args below meth c H locs 0 0 Q (F0 m 2 ls []) := by
  have hx := C0.1.1
  have hb := C0.1.2.1
  have hta := C0.1.2.2.2.2.2.1
  have hown := C0.1.2.2.2.2.1
  intro n
  induction n with
  | zero => intro _ _ h; cases h
  | succ n ih =>
    intro v3 t hrun H locs ls hW hl
    obtain ⟨o, ho, hrun⟩ := bd_some hrun
    unfold x6_risingAt_107_B2 at ho
    refine lv_iload_n hx hb dX6_risingAt_2 rfl (lv_at hl 3 rfl) ?_
    refine lv_iload_n hx hb dX6_risingAt_3 rfl (lv_at hl 1 rfl) ?_
    refine lv_icmp_ge (tgt := 59) hx hb dX6_risingAt_4 (by decide) (fun c8 => ?_) (fun c8 => ?_)
    · replace ho := ite_t c8 ho
      cases ho
      cases hrun
      exact hK0 _ _ _ hW (lv_sub hl [0, 2] rfl)
    · replace ho := ite_f c8 ho
      refine lv_aload_n hx hb dX6_risingAt_7 rfl (lv_at hl 0 rfl) ?_
      refine lv_iload_n hx hb dX6_risingAt_8 rfl (lv_at hl 3 rfl) ?_
      obtain ⟨g9, ho⟩ := gd_some ho
      refine xLD_107 C0 hW g9 dX6_risingAt_9 ?_
      refine lv_nmi ho (fun x10 ho => ?_)
      refine lv_istore (lv' := [(4, .int x10), (0, .ref (am 107)), (1, .int v1), (2, .int v2), (3, .int v3)]) hx hb dX6_risingAt_10 hl (by decide) rfl (fun ls hl => ?_)
      refine lv_iload_n hx hb dX6_risingAt_12 rfl (lv_at hl 4 rfl) ?_
      refine lv_istore (lv' := [(5, .int v3), (4, .int x10), (0, .ref (am 107)), (1, .int v1), (2, .int v2), (3, .int v3)]) hx hb dX6_risingAt_13 hl (by decide) rfl (fun ls hl => ?_)
      obtain ⟨y11, hc12, ho⟩ := bd_some ho
      obtain ⟨ny11, hc12⟩ := lp_to hc12
      refine x6_risingAt_107_L15 C0 ?_ ny11 _ _ hc12 _ _ _ hW (lv_sub hl [2, 3, 4, 5, 1, 0] rfl)
      intro H locs ls hW hl
      refine lv_aload_n hx hb dX6_risingAt_47 rfl (lv_at hl 0 rfl) ?_
      refine lv_iload hx hb dX6_risingAt_48 (lv_at hl 5 rfl) ?_
      refine lv_iload hx hb dX6_risingAt_50 (lv_at hl 4 rfl) ?_
      obtain ⟨g13, ho⟩ := gd_some ho
      refine xST_107 C0 hW g13 dX6_risingAt_52 (fun H locs hW => ?_)
      obtain ⟨t14, ho, hW⟩ := nm_w (P := fun t => wl D A s (wX cI cJ cZ cR am gm t) H locs) ho hW
      obtain ⟨x15, ex15, ho⟩ := nm_x ho
      refine lv_iinc (v := x15) (lv' := [(3, .int x15), (0, .ref (am 107)), (1, .int v1), (2, .int v2), (4, .int x10), (5, .int y11.1)]) hx hb dX6_risingAt_53 hl (k := 3) rfl (by rw [ex15]; rfl) (by decide) rfl (fun ls hl => ?_)
      clear ex15
      refine lv_goto (tgt := 2) hx hb dX6_risingAt_56 (by decide) ?_
      cases ho
      exact ih _ _ hrun _ _ _ hW (lv_sub hl [1, 2, 3, 0] rfl)
set_option maxHeartbeats 4000000 in
set_option maxRecDepth 100000 in
theorem c_x6_risingAt_107 (l : Launch) {D : va_G} {cI cJ cZ cR : ClassId} {am gm : Nat → Nat} {st : Nat} (sz : Nat) (t : St) (a1 : Int32) (a2 : Int32) {r : Int32} {t' : St} (ho : x6_risingAt_107 t a1 a2 = some (r, t')) : Met l yX6_risingAt (.code yX6_risingAt cX6_risingAt 6 (some .int) :: wsAll) (rmN 0 0) (va_Pc [.ref (am 107), .int a1, .int a2] (prX D (tyX cI cJ cZ cR) (wX cI cJ cZ cR am gm t) sz st)) (qI r D (tyX cI cJ cZ cR) (wX cI cJ cZ cR am gm t') (va_A (wX cI cJ cZ cR am gm t) sz)) 0 0 (va_A (wX cI cJ cZ cR am gm t) sz) := by
  refine Met.ofW (cc := cX6_risingAt) (maxL := 6) (ret := (some .int)) (by decide) rfl ?_
  intro p e s m args below meth c s₁ B hml hv
  obtain ⟨rfl, ⟨hsz, hP, hK, hD0⟩, hsx⟩ := hv
  have hx := B.exec
  have hb := B.bytes
  have hts := atoms_spec (ws := (.code yX6_risingAt cX6_risingAt 6 (some .int) :: wsAll)) B.pre
  have hta := fun w h => hts w (List.mem_cons_of_mem _ h)
  have hown : s.vm.findClass RX6 = some m.cls := findClass_of_methodNamed B.named
  have hlocks := B.notSynchronized
  subst hsz
  have hD := hD0.self (sz := s.heap.size)
  generalize hAe : va_A (wX cI cJ cZ cR am gm t) s.heap.size = A at hD ⊢
  have hA : ∀ q : Nat, s.heap.size ≤ q → A q := fun q h => by rw [← hAe]; exact Or.inr h
  have C0 : cxX p s m ([.ref (am 107), .int a1, .int a2].toArray) meth c cX6_risingAt RX6 6 (some .int) D (tyX cI cJ cZ cR) st A := ⟨⟨hx, hb, B.returns, hml, hown, hta, hlocks, hK, hA⟩, by rw [← hAe]; exact hsx⟩
  have hW : wl D A s (wX cI cJ cZ cR am gm t) s.heap [] := ⟨hP, hD, va_S.rf⟩
  have hl := lv_entry [.ref (am 107), .int a1, .int a2] (n := 6) (Nat.le_of_ble_eq_true rfl)
  rw [lg_entry_eq]
  generalize (lg_sl [.ref (am 107), .int a1, .int a2] ++ List.replicate (6 - (lg_sl [.ref (am 107), .int a1, .int a2]).length) Slot.unset).toArray = ls at hl ⊢
  have hl : lv_has ls 6 [(0, .ref (am 107)), (1, .int a1), (2, .int a2)] := hl
  unfold x6_risingAt_107 at ho
  refine lv_iconst (v := (1 : Int32)) hx hb dX6_risingAt_0 (by decide) ?_
  refine lv_istore_n (lv' := [(3, .int (1 : Int32)), (0, .ref (am 107)), (1, .int a1), (2, .int a2)]) hx hb dX6_risingAt_1 rfl hl (by decide) rfl (fun ls hl => ?_)
  obtain ⟨y16, hc17, ho⟩ := bd_some ho
  obtain ⟨ny16, hc17⟩ := lp_to hc17
  refine x6_risingAt_107_L2 C0 ?_ ny16 _ _ hc17 _ _ _ hW (lv_sub hl [1, 2, 3, 0] rfl)
  intro H locs ls hW hl
  refine lv_aload_n hx hb dX6_risingAt_59 rfl (lv_at hl 0 rfl) ?_
  refine lv_iload_n hx hb dX6_risingAt_60 rfl (lv_at hl 1 rfl) ?_
  refine lv_iconst (v := (1 : Int32)) hx hb dX6_risingAt_61 (by decide) ?_
  refine lv_isub hx hb dX6_risingAt_62 ?_
  obtain ⟨g18, ho⟩ := gd_some ho
  refine xLD_107 C0 hW g18 dX6_risingAt_63 ?_
  cases ho
  exact rtI C0.1 hW dX6_risingAt_64
noncomputable def x1_partEvent (t : St) (a1 : Int32) (a2 : Int32) (a3 : Int32) : Option (Int32) :=
  (x6_partOf t a1 a2).bind (fun q1 => gd ((q1 * (gI t 106)) + a3) (gN t 105) (some (gA t 105 (((q1 * (gI t 106)) + a3)).toNatClampNeg)))
set_option maxHeartbeats 4000000 in
set_option maxRecDepth 100000 in
theorem c_x1_partEvent (l : Launch) {D : va_G} {cI cJ cZ cR : ClassId} {am gm : Nat → Nat} {st : Nat} (sz : Nat) (t : St) (a1 : Int32) (a2 : Int32) (a3 : Int32) {r : Int32} (ho : x1_partEvent t a1 a2 a3 = some r) : Met l yX1_partEvent (.code yX1_partEvent cX1_partEvent 4 (some .int) :: wsAll) (rmN 1 22) (va_Pc [.ref (am 1001), .int a1, .int a2, .int a3] (prX D (tyX cI cJ cZ cR) (wX cI cJ cZ cR am gm t) sz st)) (qI r D (tyX cI cJ cZ cR) (wX cI cJ cZ cR am gm t) (va_A (wX cI cJ cZ cR am gm t) sz)) 0 0 (va_A (wX cI cJ cZ cR am gm t) sz) := by
  refine Met.ofW (cc := cX1_partEvent) (maxL := 4) (ret := (some .int)) (by decide) rfl ?_
  intro p e s m args below meth c s₁ B hml hv
  obtain ⟨rfl, ⟨hsz, hP, hK, hD0⟩, hsx⟩ := hv
  have hx := B.exec
  have hb := B.bytes
  have hts := atoms_spec (ws := (.code yX1_partEvent cX1_partEvent 4 (some .int) :: wsAll)) B.pre
  have hta := fun w h => hts w (List.mem_cons_of_mem _ h)
  have hown : s.vm.findClass RX1 = some m.cls := findClass_of_methodNamed B.named
  have hlocks := B.notSynchronized
  subst hsz
  have hD := hD0.self (sz := s.heap.size)
  generalize hAe : va_A (wX cI cJ cZ cR am gm t) s.heap.size = A at hD ⊢
  have hA : ∀ q : Nat, s.heap.size ≤ q → A q := fun q h => by rw [← hAe]; exact Or.inr h
  have C0 : cxX p s m ([.ref (am 1001), .int a1, .int a2, .int a3].toArray) meth c cX1_partEvent RX1 4 (some .int) D (tyX cI cJ cZ cR) st A := ⟨⟨hx, hb, B.returns, hml, hown, hta, hlocks, hK, hA⟩, by rw [← hAe]; exact hsx⟩
  have hW : wl D A s (wX cI cJ cZ cR am gm t) s.heap [] := ⟨hP, hD, va_S.rf⟩
  have hl := lv_entry [.ref (am 1001), .int a1, .int a2, .int a3] (n := 4) (Nat.le_of_ble_eq_true rfl)
  rw [lg_entry_eq]
  generalize (lg_sl [.ref (am 1001), .int a1, .int a2, .int a3] ++ List.replicate (4 - (lg_sl [.ref (am 1001), .int a1, .int a2, .int a3]).length) Slot.unset).toArray = ls at hl ⊢
  have hl : lv_has ls 4 [(0, .ref (am 1001)), (1, .int a1), (2, .int a2), (3, .int a3)] := hl
  unfold x1_partEvent at ho
  refine lv_aload_n hx hb dX1_partEvent_0 rfl (lv_at hl 0 rfl) ?_
  refine xGET_105 C0 kw_539 hW dX1_partEvent_1 ?_
  refine lv_aload_n hx hb dX1_partEvent_4 rfl (lv_at hl 0 rfl) ?_
  refine xGET_101 C0 kw_534 hW dX1_partEvent_5 ?_
  refine lv_iload_n hx hb dX1_partEvent_8 rfl (lv_at hl 1 rfl) ?_
  refine lv_iload_n hx hb dX1_partEvent_9 rfl (lv_at hl 2 rfl) ?_
  obtain ⟨q1, hc2, ho⟩ := bd_some ho
  refine bkI C0.1 hW (runVX (As := [.int a1, .int a2]) (rest := [.ref (gm 105)]) C0 hW (c_x6_partOf l _ t a1 a2 (r := q1) hc2) cb_X1_X6_partOf_79 6 6 rfl rfl rfl rfl rfl ⟨rfl, rfl⟩ ⟨Nat.le_of_ble_eq_true rfl, Nat.le_of_ble_eq_true rfl⟩ (Nat.le_of_ble_eq_true rfl) hl.1 dX1_partEvent_10 ⟨Nat.le_of_ble_eq_true rfl, Nat.le_of_ble_eq_true rfl⟩) (fun H locs hW => ?_)
  refine lv_aload_n hx hb dX1_partEvent_13 rfl (lv_at hl 0 rfl) ?_
  refine xGET_106 C0 kw_540 hW dX1_partEvent_14 ?_
  refine lv_imul hx hb dX1_partEvent_17 ?_
  refine lv_iload_n hx hb dX1_partEvent_18 rfl (lv_at hl 3 rfl) ?_
  refine lv_iadd hx hb dX1_partEvent_19 ?_
  obtain ⟨g3, ho⟩ := gd_some ho
  refine xLD_105 C0 hW g3 dX1_partEvent_20 ?_
  cases ho
  exact rtI C0.1 hW dX1_partEvent_21
noncomputable def x1_someEvent_B5 (v1 : Int32) (v2 : Int32) (v3 : Int32) (v4 : Int32) (t : St) : Option ((Int32 × Int32 × St) ⊕ (Int32 × St)) :=
  gd v1 (gN t 604) (if (gA t 604 (v1).toNatClampNeg) ≤ v4 then (some (.inr (v3, t))) else (if (Int32.ofNat (gN t 107)) ≤ v3 then (some (.inr (v3, t))) else ((x1_partEvent t v1 v4 v2).bind (fun q4 => if q4 < 0 then (nm (v4 + (1 : Int32)) (fun x7 : Int32 => some (.inl (v3, x7, t)))) else (gd v3 (gN t 107) (nm (sA t 107 v3 q4) (fun t9 : St => nm (v3 + (1 : Int32)) (fun x10 : Int32 => nm (v4 + (1 : Int32)) (fun x11 : Int32 => some (.inl (x10, x11, t9)))))))))))
noncomputable def x1_someEvent (t : St) (a1 : Int32) (a2 : Int32) : Option (Int32 × St) :=
  (lp (fun x => x1_someEvent_B5 a1 a2 x.1 x.2.1 x.2.2) ((0 : Int32), (0 : Int32), t)).bind (fun y12 => gd a1 (gN y12.2 605) (if (gA y12.2 605 (a1).toNatClampNeg) ≤ y12.1 then (gd a1 (gN y12.2 605) ((x6_risingAt_107 y12.2 y12.1 (gA y12.2 605 (a1).toNatClampNeg)).bind (fun q17 => some (q17.1, q17.2)))) else (some ((-1 : Int32), y12.2))))
set_option maxHeartbeats 4000000 in
set_option maxRecDepth 100000 in
theorem x1_someEvent_L5 {p : Program} {l : Launch} {e : Env} {s : State} {m : MethodId} {args : Array Value} {below : List Frame} {meth : Method} {c : Code} {Q : State → Prop} {D : va_G} {cI cJ cZ cR : ClassId} {am gm : Nat → Nat} {st : Nat} {A : Nat → Prop} (C0 : cxX p s m args meth c cX1_someEvent RX1 6 (some .int) D (tyX cI cJ cZ cR) st A) {v1 : Int32} {v2 : Int32} {y : Int32 × St} (hK0 : ∀ (H : Heap) (locs : List Loc) (ls : Array Slot), wl D A s (wX cI cJ cZ cR am gm y.2) H locs → lv_has ls 6 [(0, .ref (am 1001)), (1, .int v1), (3, .int y.1)] → W p l e (rmN 2 45) s m args below meth c H locs 0 0 Q (F0 m 60 ls [])) :
    ∀ (n : Nat) (v3 : Int32) (v4 : Int32) (t : St), lpn (fun x => x1_someEvent_B5 v1 v2 x.1 x.2.1 x.2.2) n (v3, v4, t) = some y → ∀ (H : Heap) (locs : List Loc) (ls : Array Slot), wl D A s (wX cI cJ cZ cR am gm t) H locs → lv_has ls 6 [(0, .ref (am 1001)), (1, .int v1), (2, .int v2), (3, .int v3), (4, .int v4)] → W p l e (rmN 2 45) s m args below meth c H locs 0 0 Q (F0 m 5 ls []) := by
  have hx := C0.1.1
  have hb := C0.1.2.1
  have hta := C0.1.2.2.2.2.2.1
  have hown := C0.1.2.2.2.2.1
  intro n
  induction n with
  | zero => intro _ _ _ h; cases h
  | succ n ih =>
    intro v3 v4 t hrun H locs ls hW hl
    obtain ⟨o, ho, hrun⟩ := bd_some hrun
    unfold x1_someEvent_B5 at ho
    refine lv_iload hx hb dX1_someEvent_5 (lv_at hl 4 rfl) ?_
    refine lv_aload_n hx hb dX1_someEvent_7 rfl (lv_at hl 0 rfl) ?_
    refine xGET_101 C0 kw_534 hW dX1_someEvent_8 ?_
    refine xGET_604 C0 kw_192 hW dX1_someEvent_11 ?_
    refine lv_iload_n hx hb dX1_someEvent_14 rfl (lv_at hl 1 rfl) ?_
    obtain ⟨g1, ho⟩ := gd_some ho
    refine xLD_604 C0 hW g1 dX1_someEvent_15 ?_
    refine lv_icmp_ge (tgt := 60) hx hb dX1_someEvent_16 (by decide) (fun c2 => ?_) (fun c2 => ?_)
    · replace ho := ite_t c2 ho
      cases ho
      cases hrun
      exact hK0 _ _ _ hW (lv_sub hl [0, 1, 3] rfl)
    · replace ho := ite_f c2 ho
      refine lv_iload_n hx hb dX1_someEvent_19 rfl (lv_at hl 3 rfl) ?_
      refine lv_aload_n hx hb dX1_someEvent_20 rfl (lv_at hl 0 rfl) ?_
      refine xGET_107 C0 kw_541 hW dX1_someEvent_21 ?_
      refine xLEN_107 C0 hW dX1_someEvent_24 ?_
      refine lv_icmp_ge (tgt := 60) hx hb dX1_someEvent_25 (by decide) (fun c3 => ?_) (fun c3 => ?_)
      · replace ho := ite_t c3 ho
        cases ho
        cases hrun
        exact hK0 _ _ _ hW (lv_sub hl [0, 1, 3] rfl)
      · replace ho := ite_f c3 ho
        refine lv_aload_n hx hb dX1_someEvent_28 rfl (lv_at hl 0 rfl) ?_
        refine lv_iload_n hx hb dX1_someEvent_29 rfl (lv_at hl 1 rfl) ?_
        refine lv_iload hx hb dX1_someEvent_30 (lv_at hl 4 rfl) ?_
        refine lv_iload_n hx hb dX1_someEvent_32 rfl (lv_at hl 2 rfl) ?_
        obtain ⟨q4, hc5, ho⟩ := bd_some ho
        refine bkI C0.1 hW (runVX (As := [.int v1, .int v4, .int v2]) (rest := []) C0 hW (c_x1_partEvent l _ t v1 v4 v2 (r := q4) hc5) cb_X1_X1_partEvent_82 1 1 rfl rfl rfl rfl rfl ⟨rfl, rfl⟩ ⟨Nat.le_of_ble_eq_true rfl, Nat.le_of_ble_eq_true rfl⟩ (Nat.le_of_ble_eq_true rfl) hl.1 dX1_someEvent_33 ⟨Nat.le_of_ble_eq_true rfl, Nat.le_of_ble_eq_true rfl⟩) (fun H locs hW => ?_)
        refine lv_istore (lv' := [(5, .int q4), (0, .ref (am 1001)), (1, .int v1), (2, .int v2), (3, .int v3), (4, .int v4)]) hx hb dX1_someEvent_36 hl (by decide) rfl (fun ls hl => ?_)
        refine lv_iload hx hb dX1_someEvent_38 (lv_at hl 0 rfl) ?_
        refine lv_if_lt (tgt := 54) hx hb dX1_someEvent_40 (by decide) (fun c6 => ?_) (fun c6 => ?_)
        · replace ho := ite_t c6 ho
          obtain ⟨x7, ex7, ho⟩ := nm_x ho
          refine lv_iinc (v := x7) (lv' := [(4, .int x7), (5, .int q4), (0, .ref (am 1001)), (1, .int v1), (2, .int v2), (3, .int v3)]) hx hb dX1_someEvent_54 hl (k := 5) rfl (by rw [ex7]; rfl) (by decide) rfl (fun ls hl => ?_)
          clear ex7
          refine lv_goto (tgt := 5) hx hb dX1_someEvent_57 (by decide) ?_
          cases ho
          exact ih _ _ _ hrun _ _ _ hW (lv_sub hl [2, 3, 4, 5, 0] rfl)
        · replace ho := ite_f c6 ho
          refine lv_aload_n hx hb dX1_someEvent_43 rfl (lv_at hl 1 rfl) ?_
          refine xGET_107 C0 kw_541 hW dX1_someEvent_44 ?_
          refine lv_iload_n hx hb dX1_someEvent_47 rfl (lv_at hl 4 rfl) ?_
          refine lv_iload hx hb dX1_someEvent_48 (lv_at hl 0 rfl) ?_
          obtain ⟨g8, ho⟩ := gd_some ho
          refine xST_107 C0 hW g8 dX1_someEvent_50 (fun H locs hW => ?_)
          obtain ⟨t9, ho, hW⟩ := nm_w (P := fun t => wl D A s (wX cI cJ cZ cR am gm t) H locs) ho hW
          obtain ⟨x10, ex10, ho⟩ := nm_x ho
          refine lv_iinc (v := x10) (lv' := [(3, .int x10), (5, .int q4), (0, .ref (am 1001)), (1, .int v1), (2, .int v2), (4, .int v4)]) hx hb dX1_someEvent_51 hl (k := 4) rfl (by rw [ex10]; rfl) (by decide) rfl (fun ls hl => ?_)
          clear ex10
          obtain ⟨x11, ex11, ho⟩ := nm_x ho
          refine lv_iinc (v := x11) (lv' := [(4, .int x11), (3, .int x10), (5, .int q4), (0, .ref (am 1001)), (1, .int v1), (2, .int v2)]) hx hb dX1_someEvent_54 hl (k := 5) rfl (by rw [ex11]; rfl) (by decide) rfl (fun ls hl => ?_)
          clear ex11
          refine lv_goto (tgt := 5) hx hb dX1_someEvent_57 (by decide) ?_
          cases ho
          exact ih _ _ _ hrun _ _ _ hW (lv_sub hl [3, 4, 5, 1, 0] rfl)
set_option maxHeartbeats 4000000 in
set_option maxRecDepth 100000 in
theorem c_x1_someEvent (l : Launch) {D : va_G} {cI cJ cZ cR : ClassId} {am gm : Nat → Nat} {st : Nat} (sz : Nat) (t : St) (a1 : Int32) (a2 : Int32) {r : Int32} {t' : St} (ho : x1_someEvent t a1 a2 = some (r, t')) : Met l yX1_someEvent (.code yX1_someEvent cX1_someEvent 6 (some .int) :: wsAll) (rmN 2 45) (va_Pc [.ref (am 1001), .int a1, .int a2] (prX D (tyX cI cJ cZ cR) (wX cI cJ cZ cR am gm t) sz st)) (qI r D (tyX cI cJ cZ cR) (wX cI cJ cZ cR am gm t') (va_A (wX cI cJ cZ cR am gm t) sz)) 0 0 (va_A (wX cI cJ cZ cR am gm t) sz) := by
  refine Met.ofW (cc := cX1_someEvent) (maxL := 6) (ret := (some .int)) (by decide) rfl ?_
  intro p e s m args below meth c s₁ B hml hv
  obtain ⟨rfl, ⟨hsz, hP, hK, hD0⟩, hsx⟩ := hv
  have hx := B.exec
  have hb := B.bytes
  have hts := atoms_spec (ws := (.code yX1_someEvent cX1_someEvent 6 (some .int) :: wsAll)) B.pre
  have hta := fun w h => hts w (List.mem_cons_of_mem _ h)
  have hown : s.vm.findClass RX1 = some m.cls := findClass_of_methodNamed B.named
  have hlocks := B.notSynchronized
  subst hsz
  have hD := hD0.self (sz := s.heap.size)
  generalize hAe : va_A (wX cI cJ cZ cR am gm t) s.heap.size = A at hD ⊢
  have hA : ∀ q : Nat, s.heap.size ≤ q → A q := fun q h => by rw [← hAe]; exact Or.inr h
  have C0 : cxX p s m ([.ref (am 1001), .int a1, .int a2].toArray) meth c cX1_someEvent RX1 6 (some .int) D (tyX cI cJ cZ cR) st A := ⟨⟨hx, hb, B.returns, hml, hown, hta, hlocks, hK, hA⟩, by rw [← hAe]; exact hsx⟩
  have hW : wl D A s (wX cI cJ cZ cR am gm t) s.heap [] := ⟨hP, hD, va_S.rf⟩
  have hl := lv_entry [.ref (am 1001), .int a1, .int a2] (n := 6) (Nat.le_of_ble_eq_true rfl)
  rw [lg_entry_eq]
  generalize (lg_sl [.ref (am 1001), .int a1, .int a2] ++ List.replicate (6 - (lg_sl [.ref (am 1001), .int a1, .int a2]).length) Slot.unset).toArray = ls at hl ⊢
  have hl : lv_has ls 6 [(0, .ref (am 1001)), (1, .int a1), (2, .int a2)] := hl
  unfold x1_someEvent at ho
  refine lv_iconst (v := (0 : Int32)) hx hb dX1_someEvent_0 (by decide) ?_
  refine lv_istore_n (lv' := [(3, .int (0 : Int32)), (0, .ref (am 1001)), (1, .int a1), (2, .int a2)]) hx hb dX1_someEvent_1 rfl hl (by decide) rfl (fun ls hl => ?_)
  refine lv_iconst (v := (0 : Int32)) hx hb dX1_someEvent_2 (by decide) ?_
  refine lv_istore (lv' := [(4, .int (0 : Int32)), (3, .int (0 : Int32)), (0, .ref (am 1001)), (1, .int a1), (2, .int a2)]) hx hb dX1_someEvent_3 hl (by decide) rfl (fun ls hl => ?_)
  obtain ⟨y12, hc13, ho⟩ := bd_some ho
  obtain ⟨ny12, hc13⟩ := lp_to hc13
  refine x1_someEvent_L5 C0 ?_ ny12 _ _ _ hc13 _ _ _ hW (lv_sub hl [2, 3, 4, 1, 0] rfl)
  intro H locs ls hW hl
  refine lv_iload_n hx hb dX1_someEvent_60 rfl (lv_at hl 2 rfl) ?_
  refine lv_aload_n hx hb dX1_someEvent_61 rfl (lv_at hl 0 rfl) ?_
  refine xGET_101 C0 kw_534 hW dX1_someEvent_62 ?_
  refine xGET_605 C0 kw_197 hW dX1_someEvent_65 ?_
  refine lv_iload_n hx hb dX1_someEvent_68 rfl (lv_at hl 1 rfl) ?_
  obtain ⟨g14, ho⟩ := gd_some ho
  refine xLD_605 C0 hW g14 dX1_someEvent_69 ?_
  refine lv_icmp_ge (tgt := 77) hx hb dX1_someEvent_70 (by decide) (fun c15 => ?_) (fun c15 => ?_)
  · replace ho := ite_t c15 ho
    refine lv_aload_n hx hb dX1_someEvent_77 rfl (lv_at hl 0 rfl) ?_
    refine xGET_107 C0 kw_541 hW dX1_someEvent_78 ?_
    refine lv_iload_n hx hb dX1_someEvent_81 rfl (lv_at hl 2 rfl) ?_
    refine lv_aload_n hx hb dX1_someEvent_82 rfl (lv_at hl 0 rfl) ?_
    refine xGET_101 C0 kw_534 hW dX1_someEvent_83 ?_
    refine xGET_605 C0 kw_197 hW dX1_someEvent_86 ?_
    refine lv_iload_n hx hb dX1_someEvent_89 rfl (lv_at hl 1 rfl) ?_
    obtain ⟨g16, ho⟩ := gd_some ho
    refine xLD_605 C0 hW g16 dX1_someEvent_90 ?_
    obtain ⟨q17, hc18, ho⟩ := bd_some ho
    refine bkI C0.1 hW (runSX (As := [.ref (am 107), .int y12.1, .int (gA y12.2 605 (a1).toNatClampNeg)]) (rest := []) C0 hW (c_x6_risingAt_107 l _ y12.2 y12.1 (gA y12.2 605 (a1).toNatClampNeg) (r := q17.1) (t' := q17.2) hc18) cb_X1_X6_risingAt_94 rfl rfl ⟨rfl, rfl⟩ ⟨Nat.le_of_ble_eq_true rfl, Nat.le_of_ble_eq_true rfl⟩ (Nat.le_of_ble_eq_true rfl) hl.1 dX1_someEvent_91 ⟨Nat.le_of_ble_eq_true rfl, Nat.le_of_ble_eq_true rfl⟩) (fun H locs hW => ?_)
    cases ho
    exact rtI C0.1 hW dX1_someEvent_94
  · replace ho := ite_f c15 ho
    refine lv_iconst (v := (-1 : Int32)) hx hb dX1_someEvent_73 (by decide) ?_
    refine lv_goto (tgt := 94) hx hb dX1_someEvent_74 (by decide) ?_
    cases ho
    exact rtI C0.1 hW dX1_someEvent_94
noncomputable def x1_lastEvent_B5 (t : St) (v1 : Int32) (v2 : Int32) (v3 : Int32) (v4 : Int32) : Option ((Int32 × Int32) ⊕ ((Unit) ⊕ (Int32))) :=
  gd v1 (gN t 604) (if (gA t 604 (v1).toNatClampNeg) ≤ v4 then (some (.inr (.inr v3))) else ((x1_partEvent t v1 v4 v2).bind (fun q3 => if 0 ≤ q3 then (nm (if v3 < q3 then q3 else v3) (fun x6 : Int32 => nm (v4 + (1 : Int32)) (fun x7 : Int32 => some (.inl (x6, x7))))) else (some (.inr (.inl ()))))))
noncomputable def x1_lastEvent (t : St) (a1 : Int32) (a2 : Int32) : Option (Int32) :=
  (lp (fun x => x1_lastEvent_B5 t a1 a2 x.1 x.2) ((-1 : Int32), (0 : Int32))).bind (fun y8 => (Sum.elim (fun u10 => some (-1 : Int32)) (fun u10 => some u10)) y8)
set_option maxHeartbeats 4000000 in
set_option maxRecDepth 100000 in
theorem x1_lastEvent_L5 {p : Program} {l : Launch} {e : Env} {s : State} {m : MethodId} {args : Array Value} {below : List Frame} {meth : Method} {c : Code} {Q : State → Prop} {D : va_G} {cI cJ cZ cR : ClassId} {am gm : Nat → Nat} {st : Nat} {A : Nat → Prop} (C0 : cxX p s m args meth c cX1_lastEvent RX1 6 (some .int) D (tyX cI cJ cZ cR) st A) {t : St} {v1 : Int32} {v2 : Int32} {y : (Unit) ⊕ (Int32)} (hK0 : ∀ u, y = (.inl u) → ∀ (H : Heap) (locs : List Loc) (ls : Array Slot), wl D A s (wX cI cJ cZ cR am gm t) H locs → lv_has ls 6 [(0, .ref (am 1001))] → W p l e (rmN 2 45) s m args below meth c H locs 0 0 Q (F0 m 34 ls [])) (hK1 : ∀ u, y = (.inr u) → ∀ (H : Heap) (locs : List Loc) (ls : Array Slot), wl D A s (wX cI cJ cZ cR am gm t) H locs → lv_has ls 6 [(0, .ref (am 1001)), (3, .int u)] → W p l e (rmN 2 45) s m args below meth c H locs 0 0 Q (F0 m 49 ls [])) :
    ∀ (n : Nat) (v3 : Int32) (v4 : Int32), lpn (fun x => x1_lastEvent_B5 t v1 v2 x.1 x.2) n (v3, v4) = some y → ∀ (H : Heap) (locs : List Loc) (ls : Array Slot), wl D A s (wX cI cJ cZ cR am gm t) H locs → lv_has ls 6 [(0, .ref (am 1001)), (1, .int v1), (2, .int v2), (3, .int v3), (4, .int v4)] → W p l e (rmN 2 45) s m args below meth c H locs 0 0 Q (F0 m 5 ls []) := by
  have hx := C0.1.1
  have hb := C0.1.2.1
  have hta := C0.1.2.2.2.2.2.1
  have hown := C0.1.2.2.2.2.1
  intro n
  induction n with
  | zero => intro _ _ h; cases h
  | succ n ih =>
    intro v3 v4 hrun H locs ls hW hl
    obtain ⟨o, ho, hrun⟩ := bd_some hrun
    unfold x1_lastEvent_B5 at ho
    refine lv_iload hx hb dX1_lastEvent_5 (lv_at hl 4 rfl) ?_
    refine lv_aload_n hx hb dX1_lastEvent_7 rfl (lv_at hl 0 rfl) ?_
    refine xGET_101 C0 kw_534 hW dX1_lastEvent_8 ?_
    refine xGET_604 C0 kw_192 hW dX1_lastEvent_11 ?_
    refine lv_iload_n hx hb dX1_lastEvent_14 rfl (lv_at hl 1 rfl) ?_
    obtain ⟨g1, ho⟩ := gd_some ho
    refine xLD_604 C0 hW g1 dX1_lastEvent_15 ?_
    refine lv_icmp_ge (tgt := 49) hx hb dX1_lastEvent_16 (by decide) (fun c2 => ?_) (fun c2 => ?_)
    · replace ho := ite_t c2 ho
      cases ho
      cases hrun
      exact hK1 _ rfl _ _ _ hW (lv_sub hl [0, 3] rfl)
    · replace ho := ite_f c2 ho
      refine lv_aload_n hx hb dX1_lastEvent_19 rfl (lv_at hl 0 rfl) ?_
      refine lv_iload_n hx hb dX1_lastEvent_20 rfl (lv_at hl 1 rfl) ?_
      refine lv_iload hx hb dX1_lastEvent_21 (lv_at hl 4 rfl) ?_
      refine lv_iload_n hx hb dX1_lastEvent_23 rfl (lv_at hl 2 rfl) ?_
      obtain ⟨q3, hc4, ho⟩ := bd_some ho
      refine bkI C0.1 hW (runVX (As := [.int v1, .int v4, .int v2]) (rest := []) C0 hW (c_x1_partEvent l _ t v1 v4 v2 (r := q3) hc4) cb_X1_X1_partEvent_82 1 1 rfl rfl rfl rfl rfl ⟨rfl, rfl⟩ ⟨Nat.le_of_ble_eq_true rfl, Nat.le_of_ble_eq_true rfl⟩ (Nat.le_of_ble_eq_true rfl) hl.1 dX1_lastEvent_24 ⟨Nat.le_of_ble_eq_true rfl, Nat.le_of_ble_eq_true rfl⟩) (fun H locs hW => ?_)
      refine lv_istore (lv' := [(5, .int q3), (0, .ref (am 1001)), (1, .int v1), (2, .int v2), (3, .int v3), (4, .int v4)]) hx hb dX1_lastEvent_27 hl (by decide) rfl (fun ls hl => ?_)
      refine lv_iload hx hb dX1_lastEvent_29 (lv_at hl 0 rfl) ?_
      refine lv_if_ge (tgt := 36) hx hb dX1_lastEvent_31 (by decide) (fun c5 => ?_) (fun c5 => ?_)
      · replace ho := ite_t c5 ho
        refine lv_iload_n hx hb dX1_lastEvent_36 rfl (lv_at hl 4 rfl) ?_
        refine lv_iload hx hb dX1_lastEvent_37 (lv_at hl 0 rfl) ?_
        refine va_mmax (rest := []) hx hb (C0.1.2.2.2.1.trans hl.1.symm) hown (hta _ kw_1337) (hta _ kw_735) (hta _ kw_136) (hta _ kw_736) (Nat.le_of_ble_eq_true rfl) (Nat.le_of_ble_eq_true rfl) (Nat.le_of_ble_eq_true rfl) (Nat.le_of_ble_eq_true rfl) dX1_lastEvent_39 ?_
        refine lv_nmi ho (fun x6 ho => ?_)
        refine lv_istore_n (lv' := [(3, .int x6), (5, .int q3), (0, .ref (am 1001)), (1, .int v1), (2, .int v2), (4, .int v4)]) hx hb dX1_lastEvent_42 rfl hl (by decide) rfl (fun ls hl => ?_)
        obtain ⟨x7, ex7, ho⟩ := nm_x ho
        refine lv_iinc (v := x7) (lv' := [(4, .int x7), (3, .int x6), (5, .int q3), (0, .ref (am 1001)), (1, .int v1), (2, .int v2)]) hx hb dX1_lastEvent_43 hl (k := 5) rfl (by rw [ex7]; rfl) (by decide) rfl (fun ls hl => ?_)
        clear ex7
        refine lv_goto (tgt := 5) hx hb dX1_lastEvent_46 (by decide) ?_
        cases ho
        exact ih _ _ hrun _ _ _ hW (lv_sub hl [3, 4, 5, 1, 0] rfl)
      · replace ho := ite_f c5 ho
        cases ho
        cases hrun
        exact hK0 _ rfl _ _ _ hW (lv_sub hl [1] rfl)
set_option maxHeartbeats 4000000 in
set_option maxRecDepth 100000 in
theorem c_x1_lastEvent (l : Launch) {D : va_G} {cI cJ cZ cR : ClassId} {am gm : Nat → Nat} {st : Nat} (sz : Nat) (t : St) (a1 : Int32) (a2 : Int32) {r : Int32} (ho : x1_lastEvent t a1 a2 = some r) : Met l yX1_lastEvent (.code yX1_lastEvent cX1_lastEvent 6 (some .int) :: wsAll) (rmN 2 45) (va_Pc [.ref (am 1001), .int a1, .int a2] (prX D (tyX cI cJ cZ cR) (wX cI cJ cZ cR am gm t) sz st)) (qI r D (tyX cI cJ cZ cR) (wX cI cJ cZ cR am gm t) (va_A (wX cI cJ cZ cR am gm t) sz)) 0 0 (va_A (wX cI cJ cZ cR am gm t) sz) := by
  refine Met.ofW (cc := cX1_lastEvent) (maxL := 6) (ret := (some .int)) (by decide) rfl ?_
  intro p e s m args below meth c s₁ B hml hv
  obtain ⟨rfl, ⟨hsz, hP, hK, hD0⟩, hsx⟩ := hv
  have hx := B.exec
  have hb := B.bytes
  have hts := atoms_spec (ws := (.code yX1_lastEvent cX1_lastEvent 6 (some .int) :: wsAll)) B.pre
  have hta := fun w h => hts w (List.mem_cons_of_mem _ h)
  have hown : s.vm.findClass RX1 = some m.cls := findClass_of_methodNamed B.named
  have hlocks := B.notSynchronized
  subst hsz
  have hD := hD0.self (sz := s.heap.size)
  generalize hAe : va_A (wX cI cJ cZ cR am gm t) s.heap.size = A at hD ⊢
  have hA : ∀ q : Nat, s.heap.size ≤ q → A q := fun q h => by rw [← hAe]; exact Or.inr h
  have C0 : cxX p s m ([.ref (am 1001), .int a1, .int a2].toArray) meth c cX1_lastEvent RX1 6 (some .int) D (tyX cI cJ cZ cR) st A := ⟨⟨hx, hb, B.returns, hml, hown, hta, hlocks, hK, hA⟩, by rw [← hAe]; exact hsx⟩
  have hW : wl D A s (wX cI cJ cZ cR am gm t) s.heap [] := ⟨hP, hD, va_S.rf⟩
  have hl := lv_entry [.ref (am 1001), .int a1, .int a2] (n := 6) (Nat.le_of_ble_eq_true rfl)
  rw [lg_entry_eq]
  generalize (lg_sl [.ref (am 1001), .int a1, .int a2] ++ List.replicate (6 - (lg_sl [.ref (am 1001), .int a1, .int a2]).length) Slot.unset).toArray = ls at hl ⊢
  have hl : lv_has ls 6 [(0, .ref (am 1001)), (1, .int a1), (2, .int a2)] := hl
  unfold x1_lastEvent at ho
  refine lv_iconst (v := (-1 : Int32)) hx hb dX1_lastEvent_0 (by decide) ?_
  refine lv_istore_n (lv' := [(3, .int (-1 : Int32)), (0, .ref (am 1001)), (1, .int a1), (2, .int a2)]) hx hb dX1_lastEvent_1 rfl hl (by decide) rfl (fun ls hl => ?_)
  refine lv_iconst (v := (0 : Int32)) hx hb dX1_lastEvent_2 (by decide) ?_
  refine lv_istore (lv' := [(4, .int (0 : Int32)), (3, .int (-1 : Int32)), (0, .ref (am 1001)), (1, .int a1), (2, .int a2)]) hx hb dX1_lastEvent_3 hl (by decide) rfl (fun ls hl => ?_)
  obtain ⟨y8, hc9, ho⟩ := bd_some ho
  obtain ⟨ny8, hc9⟩ := lp_to hc9
  refine x1_lastEvent_L5 C0 ?_ ?_ ny8 _ _ hc9 _ _ _ hW (lv_sub hl [2, 3, 4, 1, 0] rfl)
  · intro u10 hy H locs ls hW hl
    subst hy
    replace ho := sum_l ho
    refine lv_iconst (v := (-1 : Int32)) hx hb dX1_lastEvent_34 (by decide) ?_
    cases ho
    exact rtI C0.1 hW dX1_lastEvent_35
  · intro u10 hy H locs ls hW hl
    subst hy
    replace ho := sum_r ho
    refine lv_iload_n hx hb dX1_lastEvent_49 rfl (lv_at hl 1 rfl) ?_
    cases ho
    exact rtI C0.1 hW dX1_lastEvent_50
noncomputable def x1_chainEvent_B7 (t : St) (v1 : Int32) (v3 : Int32) (v4 : Int32) : Option ((Int32 × Int32) ⊕ ((Unit) ⊕ (Int32))) :=
  gd v1 (gN t 604) (if (gA t 604 (v1).toNatClampNeg) ≤ v4 then (some (.inr (.inr v3))) else ((x1_partEvent t v1 v4 (v3 + (1 : Int32))).bind (fun q3 => if 0 ≤ q3 then (nm (v4 + (1 : Int32)) (fun x6 : Int32 => some (.inl (q3, x6)))) else (some (.inr (.inl ()))))))
noncomputable def x1_chainEvent (t : St) (a1 : Int32) (a2 : Int32) : Option (Int32) :=
  nm (a2 - (1 : Int32)) (fun x7 : Int32 => (lp (fun x => x1_chainEvent_B7 t a1 x.1 x.2) (x7, (0 : Int32))).bind (fun y8 => (Sum.elim (fun u10 => some (-1 : Int32)) (fun u10 => some u10)) y8))
set_option maxHeartbeats 4000000 in
set_option maxRecDepth 100000 in
theorem x1_chainEvent_L7 {p : Program} {l : Launch} {e : Env} {s : State} {m : MethodId} {args : Array Value} {below : List Frame} {meth : Method} {c : Code} {Q : State → Prop} {D : va_G} {cI cJ cZ cR : ClassId} {am gm : Nat → Nat} {st : Nat} {A : Nat → Prop} (C0 : cxX p s m args meth c cX1_chainEvent RX1 5 (some .int) D (tyX cI cJ cZ cR) st A) {t : St} {v1 : Int32} {y : (Unit) ⊕ (Int32)} (hK0 : ∀ u, y = (.inl u) → ∀ (H : Heap) (locs : List Loc) (ls : Array Slot), wl D A s (wX cI cJ cZ cR am gm t) H locs → lv_has ls 5 [(0, .ref (am 1001))] → W p l e (rmN 2 45) s m args below meth c H locs 0 0 Q (F0 m 36 ls [])) (hK1 : ∀ u, y = (.inr u) → ∀ (H : Heap) (locs : List Loc) (ls : Array Slot), wl D A s (wX cI cJ cZ cR am gm t) H locs → lv_has ls 5 [(0, .ref (am 1001)), (3, .int u)] → W p l e (rmN 2 45) s m args below meth c H locs 0 0 Q (F0 m 44 ls [])) :
    ∀ (n : Nat) (v3 : Int32) (v4 : Int32), lpn (fun x => x1_chainEvent_B7 t v1 x.1 x.2) n (v3, v4) = some y → ∀ (H : Heap) (locs : List Loc) (ls : Array Slot), wl D A s (wX cI cJ cZ cR am gm t) H locs → lv_has ls 5 [(0, .ref (am 1001)), (1, .int v1), (3, .int v3), (4, .int v4)] → W p l e (rmN 2 45) s m args below meth c H locs 0 0 Q (F0 m 7 ls []) := by
  have hx := C0.1.1
  have hb := C0.1.2.1
  have hta := C0.1.2.2.2.2.2.1
  have hown := C0.1.2.2.2.2.1
  intro n
  induction n with
  | zero => intro _ _ h; cases h
  | succ n ih =>
    intro v3 v4 hrun H locs ls hW hl
    obtain ⟨o, ho, hrun⟩ := bd_some hrun
    unfold x1_chainEvent_B7 at ho
    refine lv_iload hx hb dX1_chainEvent_7 (lv_at hl 3 rfl) ?_
    refine lv_aload_n hx hb dX1_chainEvent_9 rfl (lv_at hl 0 rfl) ?_
    refine xGET_101 C0 kw_534 hW dX1_chainEvent_10 ?_
    refine xGET_604 C0 kw_192 hW dX1_chainEvent_13 ?_
    refine lv_iload_n hx hb dX1_chainEvent_16 rfl (lv_at hl 1 rfl) ?_
    obtain ⟨g1, ho⟩ := gd_some ho
    refine xLD_604 C0 hW g1 dX1_chainEvent_17 ?_
    refine lv_icmp_ge (tgt := 44) hx hb dX1_chainEvent_18 (by decide) (fun c2 => ?_) (fun c2 => ?_)
    · replace ho := ite_t c2 ho
      cases ho
      cases hrun
      exact hK1 _ rfl _ _ _ hW (lv_sub hl [0, 2] rfl)
    · replace ho := ite_f c2 ho
      refine lv_aload_n hx hb dX1_chainEvent_21 rfl (lv_at hl 0 rfl) ?_
      refine lv_iload_n hx hb dX1_chainEvent_22 rfl (lv_at hl 1 rfl) ?_
      refine lv_iload hx hb dX1_chainEvent_23 (lv_at hl 3 rfl) ?_
      refine lv_iload_n hx hb dX1_chainEvent_25 rfl (lv_at hl 2 rfl) ?_
      refine lv_iconst (v := (1 : Int32)) hx hb dX1_chainEvent_26 (by decide) ?_
      refine lv_iadd hx hb dX1_chainEvent_27 ?_
      obtain ⟨q3, hc4, ho⟩ := bd_some ho
      refine bkI C0.1 hW (runVX (As := [.int v1, .int v4, .int (v3 + (1 : Int32))]) (rest := []) C0 hW (c_x1_partEvent l _ t v1 v4 (v3 + (1 : Int32)) (r := q3) hc4) cb_X1_X1_partEvent_82 1 1 rfl rfl rfl rfl rfl ⟨rfl, rfl⟩ ⟨Nat.le_of_ble_eq_true rfl, Nat.le_of_ble_eq_true rfl⟩ (Nat.le_of_ble_eq_true rfl) hl.1 dX1_chainEvent_28 ⟨Nat.le_of_ble_eq_true rfl, Nat.le_of_ble_eq_true rfl⟩) (fun H locs hW => ?_)
      refine lv_istore_n (lv' := [(3, .int q3), (0, .ref (am 1001)), (1, .int v1), (4, .int v4)]) hx hb dX1_chainEvent_31 rfl hl (by decide) rfl (fun ls hl => ?_)
      refine lv_iload_n hx hb dX1_chainEvent_32 rfl (lv_at hl 0 rfl) ?_
      refine lv_if_ge (tgt := 38) hx hb dX1_chainEvent_33 (by decide) (fun c5 => ?_) (fun c5 => ?_)
      · replace ho := ite_t c5 ho
        obtain ⟨x6, ex6, ho⟩ := nm_x ho
        refine lv_iinc (v := x6) (lv' := [(4, .int x6), (3, .int q3), (0, .ref (am 1001)), (1, .int v1)]) hx hb dX1_chainEvent_38 hl (k := 3) rfl (by rw [ex6]; rfl) (by decide) rfl (fun ls hl => ?_)
        clear ex6
        refine lv_goto (tgt := 7) hx hb dX1_chainEvent_41 (by decide) ?_
        cases ho
        exact ih _ _ hrun _ _ _ hW (lv_sub hl [2, 3, 1, 0] rfl)
      · replace ho := ite_f c5 ho
        cases ho
        cases hrun
        exact hK0 _ rfl _ _ _ hW (lv_sub hl [1] rfl)
set_option maxHeartbeats 4000000 in
set_option maxRecDepth 100000 in
theorem c_x1_chainEvent (l : Launch) {D : va_G} {cI cJ cZ cR : ClassId} {am gm : Nat → Nat} {st : Nat} (sz : Nat) (t : St) (a1 : Int32) (a2 : Int32) {r : Int32} (ho : x1_chainEvent t a1 a2 = some r) : Met l yX1_chainEvent (.code yX1_chainEvent cX1_chainEvent 5 (some .int) :: wsAll) (rmN 2 45) (va_Pc [.ref (am 1001), .int a1, .int a2] (prX D (tyX cI cJ cZ cR) (wX cI cJ cZ cR am gm t) sz st)) (qI r D (tyX cI cJ cZ cR) (wX cI cJ cZ cR am gm t) (va_A (wX cI cJ cZ cR am gm t) sz)) 0 0 (va_A (wX cI cJ cZ cR am gm t) sz) := by
  refine Met.ofW (cc := cX1_chainEvent) (maxL := 5) (ret := (some .int)) (by decide) rfl ?_
  intro p e s m args below meth c s₁ B hml hv
  obtain ⟨rfl, ⟨hsz, hP, hK, hD0⟩, hsx⟩ := hv
  have hx := B.exec
  have hb := B.bytes
  have hts := atoms_spec (ws := (.code yX1_chainEvent cX1_chainEvent 5 (some .int) :: wsAll)) B.pre
  have hta := fun w h => hts w (List.mem_cons_of_mem _ h)
  have hown : s.vm.findClass RX1 = some m.cls := findClass_of_methodNamed B.named
  have hlocks := B.notSynchronized
  subst hsz
  have hD := hD0.self (sz := s.heap.size)
  generalize hAe : va_A (wX cI cJ cZ cR am gm t) s.heap.size = A at hD ⊢
  have hA : ∀ q : Nat, s.heap.size ≤ q → A q := fun q h => by rw [← hAe]; exact Or.inr h
  have C0 : cxX p s m ([.ref (am 1001), .int a1, .int a2].toArray) meth c cX1_chainEvent RX1 5 (some .int) D (tyX cI cJ cZ cR) st A := ⟨⟨hx, hb, B.returns, hml, hown, hta, hlocks, hK, hA⟩, by rw [← hAe]; exact hsx⟩
  have hW : wl D A s (wX cI cJ cZ cR am gm t) s.heap [] := ⟨hP, hD, va_S.rf⟩
  have hl := lv_entry [.ref (am 1001), .int a1, .int a2] (n := 5) (Nat.le_of_ble_eq_true rfl)
  rw [lg_entry_eq]
  generalize (lg_sl [.ref (am 1001), .int a1, .int a2] ++ List.replicate (5 - (lg_sl [.ref (am 1001), .int a1, .int a2]).length) Slot.unset).toArray = ls at hl ⊢
  have hl : lv_has ls 5 [(0, .ref (am 1001)), (1, .int a1), (2, .int a2)] := hl
  unfold x1_chainEvent at ho
  refine lv_iload_n hx hb dX1_chainEvent_0 rfl (lv_at hl 2 rfl) ?_
  refine lv_iconst (v := (1 : Int32)) hx hb dX1_chainEvent_1 (by decide) ?_
  refine lv_isub hx hb dX1_chainEvent_2 ?_
  refine lv_nmi ho (fun x7 ho => ?_)
  refine lv_istore_n (lv' := [(3, .int x7), (0, .ref (am 1001)), (1, .int a1), (2, .int a2)]) hx hb dX1_chainEvent_3 rfl hl (by decide) rfl (fun ls hl => ?_)
  refine lv_iconst (v := (0 : Int32)) hx hb dX1_chainEvent_4 (by decide) ?_
  refine lv_istore (lv' := [(4, .int (0 : Int32)), (3, .int x7), (0, .ref (am 1001)), (1, .int a1), (2, .int a2)]) hx hb dX1_chainEvent_5 hl (by decide) rfl (fun ls hl => ?_)
  obtain ⟨y8, hc9, ho⟩ := bd_some ho
  obtain ⟨ny8, hc9⟩ := lp_to hc9
  refine x1_chainEvent_L7 C0 ?_ ?_ ny8 _ _ hc9 _ _ _ hW (lv_sub hl [2, 3, 1, 0] rfl)
  · intro u10 hy H locs ls hW hl
    subst hy
    replace ho := sum_l ho
    refine lv_iconst (v := (-1 : Int32)) hx hb dX1_chainEvent_36 (by decide) ?_
    cases ho
    exact rtI C0.1 hW dX1_chainEvent_37
  · intro u10 hy H locs ls hW hl
    subst hy
    replace ho := sum_r ho
    refine lv_iload_n hx hb dX1_chainEvent_44 rfl (lv_at hl 1 rfl) ?_
    cases ho
    exact rtI C0.1 hW dX1_chainEvent_45
noncomputable def x1_firstEvent_B5 (t : St) (v1 : Int32) (v2 : Int32) (v3 : Int32) (v4 : Int32) : Option ((Int32 × Int32) ⊕ (Int32)) :=
  gd v1 (gN t 604) (if (gA t 604 (v1).toNatClampNeg) ≤ v4 then (some (.inr v3)) else ((x1_partEvent t v1 v4 v2).bind (fun q3 => if q3 < 0 then (nm (v4 + (1 : Int32)) (fun x6 : Int32 => some (.inl (v3, x6)))) else (if v3 < 0 then (nm (v4 + (1 : Int32)) (fun x8 : Int32 => some (.inl (q3, x8)))) else (if v3 ≤ q3 then (nm (v4 + (1 : Int32)) (fun x10 : Int32 => some (.inl (v3, x10)))) else (nm (v4 + (1 : Int32)) (fun x11 : Int32 => some (.inl (q3, x11)))))))))
noncomputable def x1_firstEvent (t : St) (a1 : Int32) (a2 : Int32) : Option (Int32) :=
  (lp (fun x => x1_firstEvent_B5 t a1 a2 x.1 x.2) ((-1 : Int32), (0 : Int32))).bind (fun y12 => some y12)
set_option maxHeartbeats 4000000 in
set_option maxRecDepth 100000 in
theorem x1_firstEvent_L5 {p : Program} {l : Launch} {e : Env} {s : State} {m : MethodId} {args : Array Value} {below : List Frame} {meth : Method} {c : Code} {Q : State → Prop} {D : va_G} {cI cJ cZ cR : ClassId} {am gm : Nat → Nat} {st : Nat} {A : Nat → Prop} (C0 : cxX p s m args meth c cX1_firstEvent RX1 6 (some .int) D (tyX cI cJ cZ cR) st A) {t : St} {v1 : Int32} {v2 : Int32} {y : Int32} (hK0 : ∀ (H : Heap) (locs : List Loc) (ls : Array Slot), wl D A s (wX cI cJ cZ cR am gm t) H locs → lv_has ls 6 [(0, .ref (am 1001)), (3, .int y)] → W p l e (rmN 2 45) s m args below meth c H locs 0 0 Q (F0 m 53 ls [])) :
    ∀ (n : Nat) (v3 : Int32) (v4 : Int32), lpn (fun x => x1_firstEvent_B5 t v1 v2 x.1 x.2) n (v3, v4) = some y → ∀ (H : Heap) (locs : List Loc) (ls : Array Slot), wl D A s (wX cI cJ cZ cR am gm t) H locs → lv_has ls 6 [(0, .ref (am 1001)), (1, .int v1), (2, .int v2), (3, .int v3), (4, .int v4)] → W p l e (rmN 2 45) s m args below meth c H locs 0 0 Q (F0 m 5 ls []) := by
  have hx := C0.1.1
  have hb := C0.1.2.1
  have hta := C0.1.2.2.2.2.2.1
  have hown := C0.1.2.2.2.2.1
  intro n
  induction n with
  | zero => intro _ _ h; cases h
  | succ n ih =>
    intro v3 v4 hrun H locs ls hW hl
    obtain ⟨o, ho, hrun⟩ := bd_some hrun
    unfold x1_firstEvent_B5 at ho
    refine lv_iload hx hb dX1_firstEvent_5 (lv_at hl 4 rfl) ?_
    refine lv_aload_n hx hb dX1_firstEvent_7 rfl (lv_at hl 0 rfl) ?_
    refine xGET_101 C0 kw_534 hW dX1_firstEvent_8 ?_
    refine xGET_604 C0 kw_192 hW dX1_firstEvent_11 ?_
    refine lv_iload_n hx hb dX1_firstEvent_14 rfl (lv_at hl 1 rfl) ?_
    obtain ⟨g1, ho⟩ := gd_some ho
    refine xLD_604 C0 hW g1 dX1_firstEvent_15 ?_
    refine lv_icmp_ge (tgt := 53) hx hb dX1_firstEvent_16 (by decide) (fun c2 => ?_) (fun c2 => ?_)
    · replace ho := ite_t c2 ho
      cases ho
      cases hrun
      exact hK0 _ _ _ hW (lv_sub hl [0, 3] rfl)
    · replace ho := ite_f c2 ho
      refine lv_aload_n hx hb dX1_firstEvent_19 rfl (lv_at hl 0 rfl) ?_
      refine lv_iload_n hx hb dX1_firstEvent_20 rfl (lv_at hl 1 rfl) ?_
      refine lv_iload hx hb dX1_firstEvent_21 (lv_at hl 4 rfl) ?_
      refine lv_iload_n hx hb dX1_firstEvent_23 rfl (lv_at hl 2 rfl) ?_
      obtain ⟨q3, hc4, ho⟩ := bd_some ho
      refine bkI C0.1 hW (runVX (As := [.int v1, .int v4, .int v2]) (rest := []) C0 hW (c_x1_partEvent l _ t v1 v4 v2 (r := q3) hc4) cb_X1_X1_partEvent_82 1 1 rfl rfl rfl rfl rfl ⟨rfl, rfl⟩ ⟨Nat.le_of_ble_eq_true rfl, Nat.le_of_ble_eq_true rfl⟩ (Nat.le_of_ble_eq_true rfl) hl.1 dX1_firstEvent_24 ⟨Nat.le_of_ble_eq_true rfl, Nat.le_of_ble_eq_true rfl⟩) (fun H locs hW => ?_)
      refine lv_istore (lv' := [(5, .int q3), (0, .ref (am 1001)), (1, .int v1), (2, .int v2), (3, .int v3), (4, .int v4)]) hx hb dX1_firstEvent_27 hl (by decide) rfl (fun ls hl => ?_)
      refine lv_iload hx hb dX1_firstEvent_29 (lv_at hl 0 rfl) ?_
      refine lv_if_lt (tgt := 47) hx hb dX1_firstEvent_31 (by decide) (fun c5 => ?_) (fun c5 => ?_)
      · replace ho := ite_t c5 ho
        obtain ⟨x6, ex6, ho⟩ := nm_x ho
        refine lv_iinc (v := x6) (lv' := [(4, .int x6), (5, .int q3), (0, .ref (am 1001)), (1, .int v1), (2, .int v2), (3, .int v3)]) hx hb dX1_firstEvent_47 hl (k := 5) rfl (by rw [ex6]; rfl) (by decide) rfl (fun ls hl => ?_)
        clear ex6
        refine lv_goto (tgt := 5) hx hb dX1_firstEvent_50 (by decide) ?_
        cases ho
        exact ih _ _ hrun _ _ _ hW (lv_sub hl [2, 3, 4, 5, 0] rfl)
      · replace ho := ite_f c5 ho
        refine lv_iload_n hx hb dX1_firstEvent_34 rfl (lv_at hl 4 rfl) ?_
        refine lv_if_lt (tgt := 44) hx hb dX1_firstEvent_35 (by decide) (fun c7 => ?_) (fun c7 => ?_)
        · replace ho := ite_t c7 ho
          refine lv_iload hx hb dX1_firstEvent_44 (lv_at hl 0 rfl) ?_
          refine lv_istore_n (lv' := [(3, .int q3), (5, .int q3), (0, .ref (am 1001)), (1, .int v1), (2, .int v2), (4, .int v4)]) hx hb dX1_firstEvent_46 rfl hl (by decide) rfl (fun ls hl => ?_)
          obtain ⟨x8, ex8, ho⟩ := nm_x ho
          refine lv_iinc (v := x8) (lv' := [(4, .int x8), (3, .int q3), (5, .int q3), (0, .ref (am 1001)), (1, .int v1), (2, .int v2)]) hx hb dX1_firstEvent_47 hl (k := 5) rfl (by rw [ex8]; rfl) (by decide) rfl (fun ls hl => ?_)
          clear ex8
          refine lv_goto (tgt := 5) hx hb dX1_firstEvent_50 (by decide) ?_
          cases ho
          exact ih _ _ hrun _ _ _ hW (lv_sub hl [3, 4, 5, 1, 0] rfl)
        · replace ho := ite_f c7 ho
          refine lv_iload hx hb dX1_firstEvent_38 (lv_at hl 0 rfl) ?_
          refine lv_iload_n hx hb dX1_firstEvent_40 rfl (lv_at hl 4 rfl) ?_
          refine lv_icmp_ge (tgt := 47) hx hb dX1_firstEvent_41 (by decide) (fun c9 => ?_) (fun c9 => ?_)
          · replace ho := ite_t c9 ho
            obtain ⟨x10, ex10, ho⟩ := nm_x ho
            refine lv_iinc (v := x10) (lv' := [(4, .int x10), (5, .int q3), (0, .ref (am 1001)), (1, .int v1), (2, .int v2), (3, .int v3)]) hx hb dX1_firstEvent_47 hl (k := 5) rfl (by rw [ex10]; rfl) (by decide) rfl (fun ls hl => ?_)
            clear ex10
            refine lv_goto (tgt := 5) hx hb dX1_firstEvent_50 (by decide) ?_
            cases ho
            exact ih _ _ hrun _ _ _ hW (lv_sub hl [2, 3, 4, 5, 0] rfl)
          · replace ho := ite_f c9 ho
            refine lv_iload hx hb dX1_firstEvent_44 (lv_at hl 0 rfl) ?_
            refine lv_istore_n (lv' := [(3, .int q3), (5, .int q3), (0, .ref (am 1001)), (1, .int v1), (2, .int v2), (4, .int v4)]) hx hb dX1_firstEvent_46 rfl hl (by decide) rfl (fun ls hl => ?_)
            obtain ⟨x11, ex11, ho⟩ := nm_x ho
            refine lv_iinc (v := x11) (lv' := [(4, .int x11), (3, .int q3), (5, .int q3), (0, .ref (am 1001)), (1, .int v1), (2, .int v2)]) hx hb dX1_firstEvent_47 hl (k := 5) rfl (by rw [ex11]; rfl) (by decide) rfl (fun ls hl => ?_)
            clear ex11
            refine lv_goto (tgt := 5) hx hb dX1_firstEvent_50 (by decide) ?_
            cases ho
            exact ih _ _ hrun _ _ _ hW (lv_sub hl [3, 4, 5, 1, 0] rfl)
set_option maxHeartbeats 4000000 in
set_option maxRecDepth 100000 in
theorem c_x1_firstEvent (l : Launch) {D : va_G} {cI cJ cZ cR : ClassId} {am gm : Nat → Nat} {st : Nat} (sz : Nat) (t : St) (a1 : Int32) (a2 : Int32) {r : Int32} (ho : x1_firstEvent t a1 a2 = some r) : Met l yX1_firstEvent (.code yX1_firstEvent cX1_firstEvent 6 (some .int) :: wsAll) (rmN 2 45) (va_Pc [.ref (am 1001), .int a1, .int a2] (prX D (tyX cI cJ cZ cR) (wX cI cJ cZ cR am gm t) sz st)) (qI r D (tyX cI cJ cZ cR) (wX cI cJ cZ cR am gm t) (va_A (wX cI cJ cZ cR am gm t) sz)) 0 0 (va_A (wX cI cJ cZ cR am gm t) sz) := by
  refine Met.ofW (cc := cX1_firstEvent) (maxL := 6) (ret := (some .int)) (by decide) rfl ?_
  intro p e s m args below meth c s₁ B hml hv
  obtain ⟨rfl, ⟨hsz, hP, hK, hD0⟩, hsx⟩ := hv
  have hx := B.exec
  have hb := B.bytes
  have hts := atoms_spec (ws := (.code yX1_firstEvent cX1_firstEvent 6 (some .int) :: wsAll)) B.pre
  have hta := fun w h => hts w (List.mem_cons_of_mem _ h)
  have hown : s.vm.findClass RX1 = some m.cls := findClass_of_methodNamed B.named
  have hlocks := B.notSynchronized
  subst hsz
  have hD := hD0.self (sz := s.heap.size)
  generalize hAe : va_A (wX cI cJ cZ cR am gm t) s.heap.size = A at hD ⊢
  have hA : ∀ q : Nat, s.heap.size ≤ q → A q := fun q h => by rw [← hAe]; exact Or.inr h
  have C0 : cxX p s m ([.ref (am 1001), .int a1, .int a2].toArray) meth c cX1_firstEvent RX1 6 (some .int) D (tyX cI cJ cZ cR) st A := ⟨⟨hx, hb, B.returns, hml, hown, hta, hlocks, hK, hA⟩, by rw [← hAe]; exact hsx⟩
  have hW : wl D A s (wX cI cJ cZ cR am gm t) s.heap [] := ⟨hP, hD, va_S.rf⟩
  have hl := lv_entry [.ref (am 1001), .int a1, .int a2] (n := 6) (Nat.le_of_ble_eq_true rfl)
  rw [lg_entry_eq]
  generalize (lg_sl [.ref (am 1001), .int a1, .int a2] ++ List.replicate (6 - (lg_sl [.ref (am 1001), .int a1, .int a2]).length) Slot.unset).toArray = ls at hl ⊢
  have hl : lv_has ls 6 [(0, .ref (am 1001)), (1, .int a1), (2, .int a2)] := hl
  unfold x1_firstEvent at ho
  refine lv_iconst (v := (-1 : Int32)) hx hb dX1_firstEvent_0 (by decide) ?_
  refine lv_istore_n (lv' := [(3, .int (-1 : Int32)), (0, .ref (am 1001)), (1, .int a1), (2, .int a2)]) hx hb dX1_firstEvent_1 rfl hl (by decide) rfl (fun ls hl => ?_)
  refine lv_iconst (v := (0 : Int32)) hx hb dX1_firstEvent_2 (by decide) ?_
  refine lv_istore (lv' := [(4, .int (0 : Int32)), (3, .int (-1 : Int32)), (0, .ref (am 1001)), (1, .int a1), (2, .int a2)]) hx hb dX1_firstEvent_3 hl (by decide) rfl (fun ls hl => ?_)
  obtain ⟨y12, hc13, ho⟩ := bd_some ho
  obtain ⟨ny12, hc13⟩ := lp_to hc13
  refine x1_firstEvent_L5 C0 ?_ ny12 _ _ hc13 _ _ _ hW (lv_sub hl [2, 3, 4, 1, 0] rfl)
  intro H locs ls hW hl
  refine lv_iload_n hx hb dX1_firstEvent_53 rfl (lv_at hl 1 rfl) ?_
  cases ho
  exact rtI C0.1 hW dX1_firstEvent_54
noncomputable def x1_knotEvent (t : St) (a1 : Int32) (a2 : Int32) : Option (Int32 × St) :=
  gd a1 (gN t 603) (if (gA t 603 (a1).toNatClampNeg) = (0 : Int32) then (gd a1 (gN t 604) ((x1_letterEvent t (gA t 604 (a1).toNatClampNeg) a2).bind (fun q4 => some (q4, t)))) else if (gA t 603 (a1).toNatClampNeg) = (1 : Int32) then ((x1_firstEvent t a1 a2).bind (fun q7 => some (q7, t))) else if (gA t 603 (a1).toNatClampNeg) = (2 : Int32) then ((x1_chainEvent t a1 a2).bind (fun q10 => some (q10, t))) else if (gA t 603 (a1).toNatClampNeg) = (3 : Int32) then ((x1_lastEvent t a1 a2).bind (fun q13 => some (q13, t))) else ((x1_someEvent t a1 a2).bind (fun q15 => some (q15.1, q15.2))))
set_option maxHeartbeats 4000000 in
set_option maxRecDepth 100000 in
theorem c_x1_knotEvent (l : Launch) {D : va_G} {cI cJ cZ cR : ClassId} {am gm : Nat → Nat} {st : Nat} (sz : Nat) (t : St) (a1 : Int32) (a2 : Int32) {r : Int32} {t' : St} (ho : x1_knotEvent t a1 a2 = some (r, t')) : Met l yX1_knotEvent (.code yX1_knotEvent cX1_knotEvent 3 (some .int) :: wsAll) (rmN 3 70) (va_Pc [.ref (am 1001), .int a1, .int a2] (prX D (tyX cI cJ cZ cR) (wX cI cJ cZ cR am gm t) sz st)) (qI r D (tyX cI cJ cZ cR) (wX cI cJ cZ cR am gm t') (va_A (wX cI cJ cZ cR am gm t) sz)) 0 0 (va_A (wX cI cJ cZ cR am gm t) sz) := by
  refine Met.ofW (cc := cX1_knotEvent) (maxL := 3) (ret := (some .int)) (by decide) rfl ?_
  intro p e s m args below meth c s₁ B hml hv
  obtain ⟨rfl, ⟨hsz, hP, hK, hD0⟩, hsx⟩ := hv
  have hx := B.exec
  have hb := B.bytes
  have hts := atoms_spec (ws := (.code yX1_knotEvent cX1_knotEvent 3 (some .int) :: wsAll)) B.pre
  have hta := fun w h => hts w (List.mem_cons_of_mem _ h)
  have hown : s.vm.findClass RX1 = some m.cls := findClass_of_methodNamed B.named
  have hlocks := B.notSynchronized
  subst hsz
  have hD := hD0.self (sz := s.heap.size)
  generalize hAe : va_A (wX cI cJ cZ cR am gm t) s.heap.size = A at hD ⊢
  have hA : ∀ q : Nat, s.heap.size ≤ q → A q := fun q h => by rw [← hAe]; exact Or.inr h
  have C0 : cxX p s m ([.ref (am 1001), .int a1, .int a2].toArray) meth c cX1_knotEvent RX1 3 (some .int) D (tyX cI cJ cZ cR) st A := ⟨⟨hx, hb, B.returns, hml, hown, hta, hlocks, hK, hA⟩, by rw [← hAe]; exact hsx⟩
  have hW : wl D A s (wX cI cJ cZ cR am gm t) s.heap [] := ⟨hP, hD, va_S.rf⟩
  have hl := lv_entry [.ref (am 1001), .int a1, .int a2] (n := 3) (Nat.le_of_ble_eq_true rfl)
  rw [lg_entry_eq]
  generalize (lg_sl [.ref (am 1001), .int a1, .int a2] ++ List.replicate (3 - (lg_sl [.ref (am 1001), .int a1, .int a2]).length) Slot.unset).toArray = ls at hl ⊢
  have hl : lv_has ls 3 [(0, .ref (am 1001)), (1, .int a1), (2, .int a2)] := hl
  unfold x1_knotEvent at ho
  refine lv_aload_n hx hb dX1_knotEvent_0 rfl (lv_at hl 0 rfl) ?_
  refine xGET_101 C0 kw_534 hW dX1_knotEvent_1 ?_
  refine xGET_603 C0 kw_188 hW dX1_knotEvent_4 ?_
  refine lv_iload_n hx hb dX1_knotEvent_7 rfl (lv_at hl 1 rfl) ?_
  obtain ⟨g1, ho⟩ := gd_some ho
  refine xLD_603 C0 hW g1 dX1_knotEvent_8 ?_
  by_cases c2 : (gA t 603 (a1).toNatClampNeg) = (0 : Int32)
  · replace ho := ite_t c2 ho
    refine lv_tableIn (tgt := 40) (off := 31) hx hb dX1_knotEvent_9 (by rw [c2]; decide) (by rw [c2]; decide) (by rw [c2]; rfl) (by decide) ?_
    refine lv_aload_n hx hb dX1_knotEvent_40 rfl (lv_at hl 0 rfl) ?_
    refine lv_aload_n hx hb dX1_knotEvent_41 rfl (lv_at hl 0 rfl) ?_
    refine xGET_101 C0 kw_534 hW dX1_knotEvent_42 ?_
    refine xGET_604 C0 kw_192 hW dX1_knotEvent_45 ?_
    refine lv_iload_n hx hb dX1_knotEvent_48 rfl (lv_at hl 1 rfl) ?_
    obtain ⟨g3, ho⟩ := gd_some ho
    refine xLD_604 C0 hW g3 dX1_knotEvent_49 ?_
    refine lv_iload_n hx hb dX1_knotEvent_50 rfl (lv_at hl 2 rfl) ?_
    obtain ⟨q4, hc5, ho⟩ := bd_some ho
    refine bkI C0.1 hW (runVX (As := [.int (gA t 604 (a1).toNatClampNeg), .int a2]) (rest := []) C0 hW (c_x1_letterEvent l _ t (gA t 604 (a1).toNatClampNeg) a2 (r := q4) hc5) cb_X1_X1_letterEvent_64 1 1 rfl rfl rfl rfl rfl ⟨rfl, rfl⟩ ⟨Nat.le_of_ble_eq_true rfl, Nat.le_of_ble_eq_true rfl⟩ (Nat.le_of_ble_eq_true rfl) hl.1 dX1_knotEvent_51 ⟨Nat.le_of_ble_eq_true rfl, Nat.le_of_ble_eq_true rfl⟩) (fun H locs hW => ?_)
    cases ho
    exact rtI C0.1 hW dX1_knotEvent_54
  replace ho := ite_f c2 ho
  by_cases c6 : (gA t 603 (a1).toNatClampNeg) = (1 : Int32)
  · replace ho := ite_t c6 ho
    refine lv_tableIn (tgt := 55) (off := 46) hx hb dX1_knotEvent_9 (by rw [c6]; decide) (by rw [c6]; decide) (by rw [c6]; rfl) (by decide) ?_
    refine lv_aload_n hx hb dX1_knotEvent_55 rfl (lv_at hl 0 rfl) ?_
    refine lv_iload_n hx hb dX1_knotEvent_56 rfl (lv_at hl 1 rfl) ?_
    refine lv_iload_n hx hb dX1_knotEvent_57 rfl (lv_at hl 2 rfl) ?_
    obtain ⟨q7, hc8, ho⟩ := bd_some ho
    refine bkI C0.1 hW (runVX (As := [.int a1, .int a2]) (rest := []) C0 hW (c_x1_firstEvent l _ t a1 a2 (r := q7) hc8) cb_X1_X1_firstEvent_67 1 1 rfl rfl rfl rfl rfl ⟨rfl, rfl⟩ ⟨Nat.le_of_ble_eq_true rfl, Nat.le_of_ble_eq_true rfl⟩ (Nat.le_of_ble_eq_true rfl) hl.1 dX1_knotEvent_58 ⟨Nat.le_of_ble_eq_true rfl, Nat.le_of_ble_eq_true rfl⟩) (fun H locs hW => ?_)
    cases ho
    exact rtI C0.1 hW dX1_knotEvent_61
  replace ho := ite_f c6 ho
  by_cases c9 : (gA t 603 (a1).toNatClampNeg) = (2 : Int32)
  · replace ho := ite_t c9 ho
    refine lv_tableIn (tgt := 62) (off := 53) hx hb dX1_knotEvent_9 (by rw [c9]; decide) (by rw [c9]; decide) (by rw [c9]; rfl) (by decide) ?_
    refine lv_aload_n hx hb dX1_knotEvent_62 rfl (lv_at hl 0 rfl) ?_
    refine lv_iload_n hx hb dX1_knotEvent_63 rfl (lv_at hl 1 rfl) ?_
    refine lv_iload_n hx hb dX1_knotEvent_64 rfl (lv_at hl 2 rfl) ?_
    obtain ⟨q10, hc11, ho⟩ := bd_some ho
    refine bkI C0.1 hW (runVX (As := [.int a1, .int a2]) (rest := []) C0 hW (c_x1_chainEvent l _ t a1 a2 (r := q10) hc11) cb_X1_X1_chainEvent_70 1 1 rfl rfl rfl rfl rfl ⟨rfl, rfl⟩ ⟨Nat.le_of_ble_eq_true rfl, Nat.le_of_ble_eq_true rfl⟩ (Nat.le_of_ble_eq_true rfl) hl.1 dX1_knotEvent_65 ⟨Nat.le_of_ble_eq_true rfl, Nat.le_of_ble_eq_true rfl⟩) (fun H locs hW => ?_)
    cases ho
    exact rtI C0.1 hW dX1_knotEvent_68
  replace ho := ite_f c9 ho
  by_cases c12 : (gA t 603 (a1).toNatClampNeg) = (3 : Int32)
  · replace ho := ite_t c12 ho
    refine lv_tableIn (tgt := 69) (off := 60) hx hb dX1_knotEvent_9 (by rw [c12]; decide) (by rw [c12]; decide) (by rw [c12]; rfl) (by decide) ?_
    refine lv_aload_n hx hb dX1_knotEvent_69 rfl (lv_at hl 0 rfl) ?_
    refine lv_iload_n hx hb dX1_knotEvent_70 rfl (lv_at hl 1 rfl) ?_
    refine lv_iload_n hx hb dX1_knotEvent_71 rfl (lv_at hl 2 rfl) ?_
    obtain ⟨q13, hc14, ho⟩ := bd_some ho
    refine bkI C0.1 hW (runVX (As := [.int a1, .int a2]) (rest := []) C0 hW (c_x1_lastEvent l _ t a1 a2 (r := q13) hc14) cb_X1_X1_lastEvent_73 1 1 rfl rfl rfl rfl rfl ⟨rfl, rfl⟩ ⟨Nat.le_of_ble_eq_true rfl, Nat.le_of_ble_eq_true rfl⟩ (Nat.le_of_ble_eq_true rfl) hl.1 dX1_knotEvent_72 ⟨Nat.le_of_ble_eq_true rfl, Nat.le_of_ble_eq_true rfl⟩) (fun H locs hW => ?_)
    cases ho
    exact rtI C0.1 hW dX1_knotEvent_75
  replace ho := ite_f c12 ho
  refine lv_tableOut (tgt := 76) hx hb dX1_knotEvent_9 (tsw_3 c2 c6 c9 c12) (by decide) ?_
  refine lv_aload_n hx hb dX1_knotEvent_76 rfl (lv_at hl 0 rfl) ?_
  refine lv_iload_n hx hb dX1_knotEvent_77 rfl (lv_at hl 1 rfl) ?_
  refine lv_iload_n hx hb dX1_knotEvent_78 rfl (lv_at hl 2 rfl) ?_
  obtain ⟨q15, hc16, ho⟩ := bd_some ho
  refine bkI C0.1 hW (runVX (As := [.int a1, .int a2]) (rest := []) C0 hW (c_x1_someEvent l _ t a1 a2 (r := q15.1) (t' := q15.2) hc16) cb_X1_X1_someEvent_76 1 1 rfl rfl rfl rfl rfl ⟨rfl, rfl⟩ ⟨Nat.le_of_ble_eq_true rfl, Nat.le_of_ble_eq_true rfl⟩ (Nat.le_of_ble_eq_true rfl) hl.1 dX1_knotEvent_79 ⟨Nat.le_of_ble_eq_true rfl, Nat.le_of_ble_eq_true rfl⟩) (fun H locs hW => ?_)
  cases ho
  exact rtI C0.1 hW dX1_knotEvent_82
noncomputable def x4_hasIdler_B16 (t : St) (v1 : Int32) (v2 : Int32) (v3 : Int32) : Option ((Int32) ⊕ ((Unit) ⊕ (Unit))) :=
  if (gI t 402) ≤ v3 then (some (.inr (.inr ()))) else (if ((v1 >>> (v3 &&& 31)) &&& (1 : Int32)) = (1 : Int32) then (gd (v1 ^^^ ((1 : Int32) <<< (v3 &&& 31))) (gN t 403) ((x8_narrowed t (gA t 403 ((v1 ^^^ ((1 : Int32) <<< (v3 &&& 31)))).toNatClampNeg)).bind (fun q5 => if q5 = v2 then (some (.inr (.inl ()))) else (nm (v3 + (1 : Int32)) (fun x8 : Int32 => some (.inl x8)))))) else (nm (v3 + (1 : Int32)) (fun x3 : Int32 => some (.inl x3))))
noncomputable def x4_hasIdler (t : St) (a1 : Int32) : Option (Int32) :=
  gd a1 (gN t 403) ((x8_narrowed t (gA t 403 (a1).toNatClampNeg)).bind (fun q10 => (lp (fun x => x4_hasIdler_B16 t a1 q10 x) (0 : Int32)).bind (fun y12 => (Sum.elim (fun u14 => some (1 : Int32)) (fun u14 => some (0 : Int32))) y12)))
set_option maxHeartbeats 4000000 in
set_option maxRecDepth 100000 in
theorem x4_hasIdler_L16 {p : Program} {l : Launch} {e : Env} {s : State} {m : MethodId} {args : Array Value} {below : List Frame} {meth : Method} {c : Code} {Q : State → Prop} {D : va_G} {cI cJ cZ cR : ClassId} {am gm : Nat → Nat} {st : Nat} {A : Nat → Prop} (C0 : cxX p s m args meth c cX4_hasIdler RX4 4 (some .boolean) D (tyX cI cJ cZ cR) st A) {t : St} {v1 : Int32} {v2 : Int32} {y : (Unit) ⊕ (Unit)} (hK0 : ∀ u, y = (.inl u) → ∀ (H : Heap) (locs : List Loc) (ls : Array Slot), wl D A s (wX cI cJ cZ cR am gm t) H locs → lv_has ls 4 [(0, .ref (am 1004))] → W p l e (rmN 1 23) s m args below meth c H locs 0 0 Q (F0 m 54 ls [])) (hK1 : ∀ u, y = (.inr u) → ∀ (H : Heap) (locs : List Loc) (ls : Array Slot), wl D A s (wX cI cJ cZ cR am gm t) H locs → lv_has ls 4 [(0, .ref (am 1004))] → W p l e (rmN 1 23) s m args below meth c H locs 0 0 Q (F0 m 62 ls [])) :
    ∀ (n : Nat) (v3 : Int32), lpn (fun x => x4_hasIdler_B16 t v1 v2 x) n v3 = some y → ∀ (H : Heap) (locs : List Loc) (ls : Array Slot), wl D A s (wX cI cJ cZ cR am gm t) H locs → lv_has ls 4 [(0, .ref (am 1004)), (1, .int v1), (2, .int v2), (3, .int v3)] → W p l e (rmN 1 23) s m args below meth c H locs 0 0 Q (F0 m 16 ls []) := by
  have hx := C0.1.1
  have hb := C0.1.2.1
  have hta := C0.1.2.2.2.2.2.1
  have hown := C0.1.2.2.2.2.1
  intro n
  induction n with
  | zero => intro _ h; cases h
  | succ n ih =>
    intro v3 hrun H locs ls hW hl
    obtain ⟨o, ho, hrun⟩ := bd_some hrun
    unfold x4_hasIdler_B16 at ho
    refine lv_iload_n hx hb dX4_hasIdler_16 rfl (lv_at hl 3 rfl) ?_
    refine lv_aload_n hx hb dX4_hasIdler_17 rfl (lv_at hl 0 rfl) ?_
    refine xGET_402 C0 kw_441 hW dX4_hasIdler_18 ?_
    refine lv_icmp_ge (tgt := 62) hx hb dX4_hasIdler_21 (by decide) (fun c1 => ?_) (fun c1 => ?_)
    · replace ho := ite_t c1 ho
      cases ho
      cases hrun
      exact hK1 _ rfl _ _ _ hW (lv_sub hl [0] rfl)
    · replace ho := ite_f c1 ho
      refine lv_iload_n hx hb dX4_hasIdler_24 rfl (lv_at hl 1 rfl) ?_
      refine lv_iload_n hx hb dX4_hasIdler_25 rfl (lv_at hl 3 rfl) ?_
      refine lv_ishr hx hb dX4_hasIdler_26 ?_
      refine lv_iconst (v := (1 : Int32)) hx hb dX4_hasIdler_27 (by decide) ?_
      refine lv_iand hx hb dX4_hasIdler_28 ?_
      refine lv_iconst (v := (1 : Int32)) hx hb dX4_hasIdler_29 (by decide) ?_
      refine lv_icmp_ne (tgt := 56) hx hb dX4_hasIdler_30 (by decide) (fun c2 => ?_) (fun c2 => ?_)
      · replace ho := ite_f c2 ho
        obtain ⟨x3, ex3, ho⟩ := nm_x ho
        refine lv_iinc (v := x3) (lv' := [(3, .int x3), (0, .ref (am 1004)), (1, .int v1), (2, .int v2)]) hx hb dX4_hasIdler_56 hl (k := 3) rfl (by rw [ex3]; rfl) (by decide) rfl (fun ls hl => ?_)
        clear ex3
        refine lv_goto (tgt := 16) hx hb dX4_hasIdler_59 (by decide) ?_
        cases ho
        exact ih _ hrun _ _ _ hW (lv_sub hl [1, 2, 3, 0] rfl)
      · replace ho := ite_t c2 ho
        refine lv_aload_n hx hb dX4_hasIdler_33 rfl (lv_at hl 0 rfl) ?_
        refine xGET_400 C0 kw_439 hW dX4_hasIdler_34 ?_
        refine lv_aload_n hx hb dX4_hasIdler_37 rfl (lv_at hl 0 rfl) ?_
        refine xGET_403 C0 kw_443 hW dX4_hasIdler_38 ?_
        refine lv_iload_n hx hb dX4_hasIdler_41 rfl (lv_at hl 1 rfl) ?_
        refine lv_iconst (v := (1 : Int32)) hx hb dX4_hasIdler_42 (by decide) ?_
        refine lv_iload_n hx hb dX4_hasIdler_43 rfl (lv_at hl 3 rfl) ?_
        refine lv_ishl hx hb dX4_hasIdler_44 ?_
        refine lv_ixor hx hb dX4_hasIdler_45 ?_
        obtain ⟨g4, ho⟩ := gd_some ho
        refine xLD_403 C0 hW g4 dX4_hasIdler_46 ?_
        obtain ⟨q5, hc6, ho⟩ := bd_some ho
        refine bkI C0.1 hW (runVX (As := [.int (gA t 403 ((v1 ^^^ ((1 : Int32) <<< (v3 &&& 31)))).toNatClampNeg)]) (rest := []) C0 hW (c_x8_narrowed l _ t (gA t 403 ((v1 ^^^ ((1 : Int32) <<< (v3 &&& 31)))).toNatClampNeg) (r := q5) hc6) cb_X4_X8_narrowed_71 8 8 rfl rfl rfl rfl rfl ⟨rfl, rfl⟩ ⟨Nat.le_of_ble_eq_true rfl, Nat.le_of_ble_eq_true rfl⟩ (Nat.le_of_ble_eq_true rfl) hl.1 dX4_hasIdler_47 ⟨Nat.le_of_ble_eq_true rfl, Nat.le_of_ble_eq_true rfl⟩) (fun H locs hW => ?_)
        refine lv_iload_n hx hb dX4_hasIdler_50 rfl (lv_at hl 2 rfl) ?_
        refine lv_icmp_ne (tgt := 56) hx hb dX4_hasIdler_51 (by decide) (fun c7 => ?_) (fun c7 => ?_)
        · replace ho := ite_f c7 ho
          obtain ⟨x8, ex8, ho⟩ := nm_x ho
          refine lv_iinc (v := x8) (lv' := [(3, .int x8), (0, .ref (am 1004)), (1, .int v1), (2, .int v2)]) hx hb dX4_hasIdler_56 hl (k := 3) rfl (by rw [ex8]; rfl) (by decide) rfl (fun ls hl => ?_)
          clear ex8
          refine lv_goto (tgt := 16) hx hb dX4_hasIdler_59 (by decide) ?_
          cases ho
          exact ih _ hrun _ _ _ hW (lv_sub hl [1, 2, 3, 0] rfl)
        · replace ho := ite_t c7 ho
          cases ho
          cases hrun
          exact hK0 _ rfl _ _ _ hW (lv_sub hl [0] rfl)
set_option maxHeartbeats 4000000 in
set_option maxRecDepth 100000 in
theorem c_x4_hasIdler (l : Launch) {D : va_G} {cI cJ cZ cR : ClassId} {am gm : Nat → Nat} {st : Nat} (sz : Nat) (t : St) (a1 : Int32) {r : Int32} (ho : x4_hasIdler t a1 = some r) : Met l yX4_hasIdler (.code yX4_hasIdler cX4_hasIdler 4 (some .boolean) :: wsAll) (rmN 1 23) (va_Pc [.ref (am 1004), .int a1] (prX D (tyX cI cJ cZ cR) (wX cI cJ cZ cR am gm t) sz st)) (qZ r D (tyX cI cJ cZ cR) (wX cI cJ cZ cR am gm t) (va_A (wX cI cJ cZ cR am gm t) sz)) 0 0 (va_A (wX cI cJ cZ cR am gm t) sz) := by
  refine Met.ofW (cc := cX4_hasIdler) (maxL := 4) (ret := (some .boolean)) (by decide) rfl ?_
  intro p e s m args below meth c s₁ B hml hv
  obtain ⟨rfl, ⟨hsz, hP, hK, hD0⟩, hsx⟩ := hv
  have hx := B.exec
  have hb := B.bytes
  have hts := atoms_spec (ws := (.code yX4_hasIdler cX4_hasIdler 4 (some .boolean) :: wsAll)) B.pre
  have hta := fun w h => hts w (List.mem_cons_of_mem _ h)
  have hown : s.vm.findClass RX4 = some m.cls := findClass_of_methodNamed B.named
  have hlocks := B.notSynchronized
  subst hsz
  have hD := hD0.self (sz := s.heap.size)
  generalize hAe : va_A (wX cI cJ cZ cR am gm t) s.heap.size = A at hD ⊢
  have hA : ∀ q : Nat, s.heap.size ≤ q → A q := fun q h => by rw [← hAe]; exact Or.inr h
  have C0 : cxX p s m ([.ref (am 1004), .int a1].toArray) meth c cX4_hasIdler RX4 4 (some .boolean) D (tyX cI cJ cZ cR) st A := ⟨⟨hx, hb, B.returns, hml, hown, hta, hlocks, hK, hA⟩, by rw [← hAe]; exact hsx⟩
  have hW : wl D A s (wX cI cJ cZ cR am gm t) s.heap [] := ⟨hP, hD, va_S.rf⟩
  have hl := lv_entry [.ref (am 1004), .int a1] (n := 4) (Nat.le_of_ble_eq_true rfl)
  rw [lg_entry_eq]
  generalize (lg_sl [.ref (am 1004), .int a1] ++ List.replicate (4 - (lg_sl [.ref (am 1004), .int a1]).length) Slot.unset).toArray = ls at hl ⊢
  have hl : lv_has ls 4 [(0, .ref (am 1004)), (1, .int a1)] := hl
  unfold x4_hasIdler at ho
  refine lv_aload_n hx hb dX4_hasIdler_0 rfl (lv_at hl 0 rfl) ?_
  refine xGET_400 C0 kw_439 hW dX4_hasIdler_1 ?_
  refine lv_aload_n hx hb dX4_hasIdler_4 rfl (lv_at hl 0 rfl) ?_
  refine xGET_403 C0 kw_443 hW dX4_hasIdler_5 ?_
  refine lv_iload_n hx hb dX4_hasIdler_8 rfl (lv_at hl 1 rfl) ?_
  obtain ⟨g9, ho⟩ := gd_some ho
  refine xLD_403 C0 hW g9 dX4_hasIdler_9 ?_
  obtain ⟨q10, hc11, ho⟩ := bd_some ho
  refine bkI C0.1 hW (runVX (As := [.int (gA t 403 (a1).toNatClampNeg)]) (rest := []) C0 hW (c_x8_narrowed l _ t (gA t 403 (a1).toNatClampNeg) (r := q10) hc11) cb_X4_X8_narrowed_71 8 8 rfl rfl rfl rfl rfl ⟨rfl, rfl⟩ ⟨Nat.le_of_ble_eq_true rfl, Nat.le_of_ble_eq_true rfl⟩ (Nat.le_of_ble_eq_true rfl) hl.1 dX4_hasIdler_10 ⟨Nat.le_of_ble_eq_true rfl, Nat.le_of_ble_eq_true rfl⟩) (fun H locs hW => ?_)
  refine lv_istore_n (lv' := [(2, .int q10), (0, .ref (am 1004)), (1, .int a1)]) hx hb dX4_hasIdler_13 rfl hl (by decide) rfl (fun ls hl => ?_)
  refine lv_iconst (v := (0 : Int32)) hx hb dX4_hasIdler_14 (by decide) ?_
  refine lv_istore_n (lv' := [(3, .int (0 : Int32)), (2, .int q10), (0, .ref (am 1004)), (1, .int a1)]) hx hb dX4_hasIdler_15 rfl hl (by decide) rfl (fun ls hl => ?_)
  obtain ⟨y12, hc13, ho⟩ := bd_some ho
  obtain ⟨ny12, hc13⟩ := lp_to hc13
  refine x4_hasIdler_L16 C0 ?_ ?_ ny12 _ hc13 _ _ _ hW (lv_sub hl [2, 3, 1, 0] rfl)
  · intro u14 hy H locs ls hW hl
    subst hy
    replace ho := sum_l ho
    refine lv_iconst (v := (1 : Int32)) hx hb dX4_hasIdler_54 (by decide) ?_
    cases ho
    exact rtZ C0.1 hW (Or.inr (rfl : (1 : Int32) = 1)) dX4_hasIdler_55
  · intro u14 hy H locs ls hW hl
    subst hy
    replace ho := sum_r ho
    refine lv_iconst (v := (0 : Int32)) hx hb dX4_hasIdler_62 (by decide) ?_
    cases ho
    exact rtZ C0.1 hW (Or.inl (rfl : (0 : Int32) = 0)) dX4_hasIdler_63
noncomputable def x8_rankSteps_B7 (v1 : Int32) (v2 : Int32) (t : St) : Option ((Int32 × St) ⊕ (St)) :=
  if (16 : Int32) ≤ v2 then (some (.inr t)) else (if ((v1 >>> (v2 &&& 31)) &&& (1 : Int32)) = (1 : Int32) then (gd (gI t 803) (gN t 801) (nm (sA t 801 (gI t 803) v2) (fun t5 : St => gd v2 (gN t5 802) (nm (sA t5 802 v2 (gI t5 803)) (fun t7 : St => nm (sI t7 803 ((gI t7 803) + (1 : Int32))) (fun t8 : St => nm (v2 + (1 : Int32)) (fun x9 : Int32 => some (.inl (x9, t8))))))))) else (nm (v2 + (1 : Int32)) (fun x3 : Int32 => some (.inl (x3, t)))))
noncomputable def x8_rankSteps (t : St) (a1 : Int32) : Option (St) :=
  nm (sI t 803 (0 : Int32)) (fun t10 : St => (lp (fun x => x8_rankSteps_B7 a1 x.1 x.2) ((0 : Int32), t10)).bind (fun y11 => some y11))
set_option maxHeartbeats 4000000 in
set_option maxRecDepth 100000 in
theorem x8_rankSteps_L7 {p : Program} {l : Launch} {e : Env} {s : State} {m : MethodId} {args : Array Value} {below : List Frame} {meth : Method} {c : Code} {Q : State → Prop} {D : va_G} {cI cJ cZ cR : ClassId} {am gm : Nat → Nat} {st : Nat} {A : Nat → Prop} (C0 : cxX p s m args meth c cX8_rankSteps RX8 3 none D (tyX cI cJ cZ cR) st A) {v1 : Int32} {y : St} (hK0 : ∀ (H : Heap) (locs : List Loc) (ls : Array Slot), wl D A s (wX cI cJ cZ cR am gm y) H locs → lv_has ls 3 [(0, .ref (am 1008))] → W p l e (rmN 0 0) s m args below meth c H locs 0 0 Q (F0 m 58 ls [])) :
    ∀ (n : Nat) (v2 : Int32) (t : St), lpn (fun x => x8_rankSteps_B7 v1 x.1 x.2) n (v2, t) = some y → ∀ (H : Heap) (locs : List Loc) (ls : Array Slot), wl D A s (wX cI cJ cZ cR am gm t) H locs → lv_has ls 3 [(0, .ref (am 1008)), (1, .int v1), (2, .int v2)] → W p l e (rmN 0 0) s m args below meth c H locs 0 0 Q (F0 m 7 ls []) := by
  have hx := C0.1.1
  have hb := C0.1.2.1
  have hta := C0.1.2.2.2.2.2.1
  have hown := C0.1.2.2.2.2.1
  intro n
  induction n with
  | zero => intro _ _ h; cases h
  | succ n ih =>
    intro v2 t hrun H locs ls hW hl
    obtain ⟨o, ho, hrun⟩ := bd_some hrun
    unfold x8_rankSteps_B7 at ho
    refine lv_iload_n hx hb dX8_rankSteps_7 rfl (lv_at hl 2 rfl) ?_
    refine lv_bipush (v := (16 : Int32)) hx hb dX8_rankSteps_8 (by decide) ?_
    refine lv_icmp_ge (tgt := 58) hx hb dX8_rankSteps_10 (by decide) (fun c1 => ?_) (fun c1 => ?_)
    · replace ho := ite_t c1 ho
      cases ho
      cases hrun
      exact hK0 _ _ _ hW (lv_sub hl [0] rfl)
    · replace ho := ite_f c1 ho
      refine lv_iload_n hx hb dX8_rankSteps_13 rfl (lv_at hl 1 rfl) ?_
      refine lv_iload_n hx hb dX8_rankSteps_14 rfl (lv_at hl 2 rfl) ?_
      refine lv_ishr hx hb dX8_rankSteps_15 ?_
      refine lv_iconst (v := (1 : Int32)) hx hb dX8_rankSteps_16 (by decide) ?_
      refine lv_iand hx hb dX8_rankSteps_17 ?_
      refine lv_iconst (v := (1 : Int32)) hx hb dX8_rankSteps_18 (by decide) ?_
      refine lv_icmp_ne (tgt := 52) hx hb dX8_rankSteps_19 (by decide) (fun c2 => ?_) (fun c2 => ?_)
      · replace ho := ite_f c2 ho
        obtain ⟨x3, ex3, ho⟩ := nm_x ho
        refine lv_iinc (v := x3) (lv' := [(2, .int x3), (0, .ref (am 1008)), (1, .int v1)]) hx hb dX8_rankSteps_52 hl (k := 2) rfl (by rw [ex3]; rfl) (by decide) rfl (fun ls hl => ?_)
        clear ex3
        refine lv_goto (tgt := 7) hx hb dX8_rankSteps_55 (by decide) ?_
        cases ho
        exact ih _ _ hrun _ _ _ hW (lv_sub hl [1, 2, 0] rfl)
      · replace ho := ite_t c2 ho
        refine lv_aload_n hx hb dX8_rankSteps_22 rfl (lv_at hl 0 rfl) ?_
        refine xGET_801 C0 kw_270 hW dX8_rankSteps_23 ?_
        refine lv_aload_n hx hb dX8_rankSteps_26 rfl (lv_at hl 0 rfl) ?_
        refine xGET_803 C0 kw_274 hW dX8_rankSteps_27 ?_
        refine lv_iload_n hx hb dX8_rankSteps_30 rfl (lv_at hl 2 rfl) ?_
        obtain ⟨g4, ho⟩ := gd_some ho
        refine xST_801 C0 hW g4 dX8_rankSteps_31 (fun H locs hW => ?_)
        obtain ⟨t5, ho, hW⟩ := nm_w (P := fun t => wl D A s (wX cI cJ cZ cR am gm t) H locs) ho hW
        refine lv_aload_n hx hb dX8_rankSteps_32 rfl (lv_at hl 0 rfl) ?_
        refine xGET_802 C0 kw_272 hW dX8_rankSteps_33 ?_
        refine lv_iload_n hx hb dX8_rankSteps_36 rfl (lv_at hl 2 rfl) ?_
        refine lv_aload_n hx hb dX8_rankSteps_37 rfl (lv_at hl 0 rfl) ?_
        refine xGET_803 C0 kw_274 hW dX8_rankSteps_38 ?_
        obtain ⟨g6, ho⟩ := gd_some ho
        refine xST_802 C0 hW g6 dX8_rankSteps_41 (fun H locs hW => ?_)
        obtain ⟨t7, ho, hW⟩ := nm_w (P := fun t => wl D A s (wX cI cJ cZ cR am gm t) H locs) ho hW
        refine lv_aload_n hx hb dX8_rankSteps_42 rfl (lv_at hl 0 rfl) ?_
        refine lv_dup hx hb dX8_rankSteps_43 rfl ?_
        refine xGET_803 C0 kw_274 hW dX8_rankSteps_44 ?_
        refine lv_iconst (v := (1 : Int32)) hx hb dX8_rankSteps_47 (by decide) ?_
        refine lv_iadd hx hb dX8_rankSteps_48 ?_
        refine xPUT_803 C0 kw_274 hW dX8_rankSteps_49 (fun H locs hW => ?_)
        obtain ⟨t8, ho, hW⟩ := nm_w (P := fun t => wl D A s (wX cI cJ cZ cR am gm t) H locs) ho hW
        obtain ⟨x9, ex9, ho⟩ := nm_x ho
        refine lv_iinc (v := x9) (lv' := [(2, .int x9), (0, .ref (am 1008)), (1, .int v1)]) hx hb dX8_rankSteps_52 hl (k := 2) rfl (by rw [ex9]; rfl) (by decide) rfl (fun ls hl => ?_)
        clear ex9
        refine lv_goto (tgt := 7) hx hb dX8_rankSteps_55 (by decide) ?_
        cases ho
        exact ih _ _ hrun _ _ _ hW (lv_sub hl [1, 2, 0] rfl)
set_option maxHeartbeats 4000000 in
set_option maxRecDepth 100000 in
theorem c_x8_rankSteps (l : Launch) {D : va_G} {cI cJ cZ cR : ClassId} {am gm : Nat → Nat} {st : Nat} (sz : Nat) (t : St) (a1 : Int32) {t' : St} (ho : x8_rankSteps t a1 = some t') : Met l yX8_rankSteps (.code yX8_rankSteps cX8_rankSteps 3 none :: wsAll) (rmN 0 0) (va_Pc [.ref (am 1008), .int a1] (prX D (tyX cI cJ cZ cR) (wX cI cJ cZ cR am gm t) sz st)) (qV D (tyX cI cJ cZ cR) (wX cI cJ cZ cR am gm t') (va_A (wX cI cJ cZ cR am gm t) sz)) 0 0 (va_A (wX cI cJ cZ cR am gm t) sz) := by
  refine Met.ofW (cc := cX8_rankSteps) (maxL := 3) (ret := none) (by decide) rfl ?_
  intro p e s m args below meth c s₁ B hml hv
  obtain ⟨rfl, ⟨hsz, hP, hK, hD0⟩, hsx⟩ := hv
  have hx := B.exec
  have hb := B.bytes
  have hts := atoms_spec (ws := (.code yX8_rankSteps cX8_rankSteps 3 none :: wsAll)) B.pre
  have hta := fun w h => hts w (List.mem_cons_of_mem _ h)
  have hown : s.vm.findClass RX8 = some m.cls := findClass_of_methodNamed B.named
  have hlocks := B.notSynchronized
  subst hsz
  have hD := hD0.self (sz := s.heap.size)
  generalize hAe : va_A (wX cI cJ cZ cR am gm t) s.heap.size = A at hD ⊢
  have hA : ∀ q : Nat, s.heap.size ≤ q → A q := fun q h => by rw [← hAe]; exact Or.inr h
  have C0 : cxX p s m ([.ref (am 1008), .int a1].toArray) meth c cX8_rankSteps RX8 3 none D (tyX cI cJ cZ cR) st A := ⟨⟨hx, hb, B.returns, hml, hown, hta, hlocks, hK, hA⟩, by rw [← hAe]; exact hsx⟩
  have hW : wl D A s (wX cI cJ cZ cR am gm t) s.heap [] := ⟨hP, hD, va_S.rf⟩
  have hl := lv_entry [.ref (am 1008), .int a1] (n := 3) (Nat.le_of_ble_eq_true rfl)
  rw [lg_entry_eq]
  generalize (lg_sl [.ref (am 1008), .int a1] ++ List.replicate (3 - (lg_sl [.ref (am 1008), .int a1]).length) Slot.unset).toArray = ls at hl ⊢
  have hl : lv_has ls 3 [(0, .ref (am 1008)), (1, .int a1)] := hl
  unfold x8_rankSteps at ho
  refine lv_aload_n hx hb dX8_rankSteps_0 rfl (lv_at hl 0 rfl) ?_
  refine lv_iconst (v := (0 : Int32)) hx hb dX8_rankSteps_1 (by decide) ?_
  refine xPUT_803 C0 kw_274 hW dX8_rankSteps_2 (fun H locs hW => ?_)
  obtain ⟨t10, ho, hW⟩ := nm_w (P := fun t => wl D A s (wX cI cJ cZ cR am gm t) H locs) ho hW
  refine lv_iconst (v := (0 : Int32)) hx hb dX8_rankSteps_5 (by decide) ?_
  refine lv_istore_n (lv' := [(2, .int (0 : Int32)), (0, .ref (am 1008)), (1, .int a1)]) hx hb dX8_rankSteps_6 rfl hl (by decide) rfl (fun ls hl => ?_)
  obtain ⟨y11, hc12, ho⟩ := bd_some ho
  obtain ⟨ny11, hc12⟩ := lp_to hc12
  refine x8_rankSteps_L7 C0 ?_ ny11 _ _ hc12 _ _ _ hW (lv_sub hl [1, 2, 0] rfl)
  intro H locs ls hW hl
  cases ho
  exact rtV C0.1 hW dX8_rankSteps_58
noncomputable def x8_fillStep_J66 (t : St) (v1 : Int32) (v2 : Int32) (w1 : Int32) (w2 : Int64) : Option ((Int32 × St) ⊕ (St)) :=
  gd w1 (gN t 808) (nm (sB t 808 w1 w2) (fun t2 : St => nm (v2 + (1 : Int32)) (fun x3 : Int32 => some (.inl (x3, t2)))))
noncomputable def x8_fillStep_B2 (v1 : Int32) (v2 : Int32) (t : St) : Option ((Int32 × St) ⊕ (St)) :=
  if (gI t 804) ≤ v2 then (some (.inr t)) else (if (6 : Int32) ≤ v1 then ((x8_hasRank t v2 v1).bind (fun q6 => if q6 = 0 then (x8_fillStep_J66 t v1 v2 ((v1 * (gI t 804)) + v2) (0 : Int64)) else (x8_fillStep_J66 t v1 v2 ((v1 * (gI t 804)) + v2) (-1 : Int64)))) else (gd v1 6 (gd ((v1 * (gI t 804)) + v2) (gN t 808) (nm (sB t 808 ((v1 * (gI t 804)) + v2) (stL (v1).toNatClampNeg)) (fun t12 : St => nm (v2 + (1 : Int32)) (fun x13 : Int32 => some (.inl (x13, t12))))))))
noncomputable def x8_fillStep (t : St) (a1 : Int32) : Option (St) :=
  (lp (fun x => x8_fillStep_B2 a1 x.1 x.2) ((0 : Int32), t)).bind (fun y14 => some y14)
set_option maxHeartbeats 4000000 in
set_option maxRecDepth 100000 in
theorem x8_fillStep_L2 {p : Program} {l : Launch} {e : Env} {s : State} {m : MethodId} {args : Array Value} {below : List Frame} {meth : Method} {c : Code} {Q : State → Prop} {D : va_G} {cI cJ cZ cR : ClassId} {am gm : Nat → Nat} {st : Nat} {A : Nat → Prop} (C0 : cxX p s m args meth c cX8_fillStep RX8 3 none D (tyX cI cJ cZ cR) st A) {v1 : Int32} {y : St} (hK0 : ∀ (H : Heap) (locs : List Loc) (ls : Array Slot), wl D A s (wX cI cJ cZ cR am gm y) H locs → lv_has ls 3 [(0, .ref (am 1008))] → W p l e (rmN 1 21) s m args below meth c H locs 0 0 Q (F0 m 73 ls [])) :
    ∀ (n : Nat) (v2 : Int32) (t : St), lpn (fun x => x8_fillStep_B2 v1 x.1 x.2) n (v2, t) = some y → ∀ (H : Heap) (locs : List Loc) (ls : Array Slot), wl D A s (wX cI cJ cZ cR am gm t) H locs → lv_has ls 3 [(0, .ref (am 1008)), (1, .int v1), (2, .int v2)] → W p l e (rmN 1 21) s m args below meth c H locs 0 0 Q (F0 m 2 ls []) := by
  have hx := C0.1.1
  have hb := C0.1.2.1
  have hta := C0.1.2.2.2.2.2.1
  have hown := C0.1.2.2.2.2.1
  intro n
  induction n with
  | zero => intro _ _ h; cases h
  | succ n ih =>
    intro v2 t hrun H locs ls hW hl
    obtain ⟨o, ho, hrun⟩ := bd_some hrun
    have J66 : ∀ (t : St) (v2 : Int32) (w1 : Int32) (w2 : Int64) (_ : x8_fillStep_J66 t v1 v2 w1 w2 = some o) (H : Heap) (locs : List Loc) (ls : Array Slot), wl D A s (wX cI cJ cZ cR am gm t) H locs → lv_has ls 3 [(0, .ref (am 1008)), (1, .int v1), (2, .int v2)] → W p l e (rmN 1 21) s m args below meth c H locs 0 0 Q (F0 m 66 ls [.long w2, .int w1, .ref (gm 808)]) := by
      intro t v2 w1 w2 ho H locs ls hW hl
      unfold x8_fillStep_J66 at ho
      obtain ⟨g1, ho⟩ := gd_some ho
      refine xST_808 C0 hW g1 dX8_fillStep_66 (fun H locs hW => ?_)
      obtain ⟨t2, ho, hW⟩ := nm_w (P := fun t => wl D A s (wX cI cJ cZ cR am gm t) H locs) ho hW
      obtain ⟨x3, ex3, ho⟩ := nm_x ho
      refine lv_iinc (v := x3) (lv' := [(2, .int x3), (0, .ref (am 1008)), (1, .int v1)]) hx hb dX8_fillStep_67 hl (k := 2) rfl (by rw [ex3]; rfl) (by decide) rfl (fun ls hl => ?_)
      clear ex3
      refine lv_goto (tgt := 2) hx hb dX8_fillStep_70 (by decide) ?_
      cases ho
      exact ih _ _ hrun _ _ _ hW (lv_sub hl [1, 2, 0] rfl)
    unfold x8_fillStep_B2 at ho
    refine lv_iload_n hx hb dX8_fillStep_2 rfl (lv_at hl 2 rfl) ?_
    refine lv_aload_n hx hb dX8_fillStep_3 rfl (lv_at hl 0 rfl) ?_
    refine xGET_804 C0 kw_278 hW dX8_fillStep_4 ?_
    refine lv_icmp_ge (tgt := 73) hx hb dX8_fillStep_7 (by decide) (fun c4 => ?_) (fun c4 => ?_)
    · replace ho := ite_t c4 ho
      cases ho
      cases hrun
      exact hK0 _ _ _ hW (lv_sub hl [0] rfl)
    · replace ho := ite_f c4 ho
      refine lv_iload_n hx hb dX8_fillStep_10 rfl (lv_at hl 1 rfl) ?_
      refine xSTR C0 kw_832 hW dX8_fillStep_11 ?_
      refine xSTRlen C0 hW dX8_fillStep_14 ?_
      refine lv_icmp_ge (tgt := 39) hx hb dX8_fillStep_15 (by decide) (fun c5 => ?_) (fun c5 => ?_)
      · replace ho := ite_t c5 ho
        refine lv_aload_n hx hb dX8_fillStep_39 rfl (lv_at hl 0 rfl) ?_
        refine xGET_808 C0 kw_285 hW dX8_fillStep_40 ?_
        refine lv_iload_n hx hb dX8_fillStep_43 rfl (lv_at hl 1 rfl) ?_
        refine lv_aload_n hx hb dX8_fillStep_44 rfl (lv_at hl 0 rfl) ?_
        refine xGET_804 C0 kw_278 hW dX8_fillStep_45 ?_
        refine lv_imul hx hb dX8_fillStep_48 ?_
        refine lv_iload_n hx hb dX8_fillStep_49 rfl (lv_at hl 2 rfl) ?_
        refine lv_iadd hx hb dX8_fillStep_50 ?_
        refine lv_iload_n hx hb dX8_fillStep_51 rfl (lv_at hl 2 rfl) ?_
        refine lv_iload_n hx hb dX8_fillStep_52 rfl (lv_at hl 1 rfl) ?_
        obtain ⟨q6, hc7, ho⟩ := bd_some ho
        refine bkZ C0.1 hW (runSX (As := [.int v2, .int v1]) (rest := [.int ((v1 * (gI t 804)) + v2), .ref (gm 808)]) C0 hW (c_x8_hasRank l _ t v2 v1 (r := q6) hc7) cb_X8_X8_hasRank_101 rfl rfl ⟨rfl, rfl⟩ ⟨Nat.le_of_ble_eq_true rfl, Nat.le_of_ble_eq_true rfl⟩ (Nat.le_of_ble_eq_true rfl) hl.1 dX8_fillStep_53 ⟨Nat.le_of_ble_eq_true rfl, Nat.le_of_ble_eq_true rfl⟩) (fun z8 H locs hW => ?_)
        refine lv_if_eq (tgt := 65) hx hb dX8_fillStep_56 (by decide) (fun c9 => ?_) (fun c9 => ?_)
        · replace ho := ite_t c9 ho
          refine lv_lconst (v := (0 : Int64)) hx hb dX8_fillStep_65 (by decide) ?_
          exact J66 _ _ _ _ ho _ _ _ hW (lv_sub hl [0, 1, 2] rfl)
        · replace ho := ite_f c9 ho
          refine lv_ldc2 hx hb hown (hta _ kw_837) dX8_fillStep_59 ?_
          refine lv_goto (tgt := 66) hx hb dX8_fillStep_62 (by decide) ?_
          exact J66 _ _ _ _ ho _ _ _ hW (lv_sub hl [0, 1, 2] rfl)
      · replace ho := ite_f c5 ho
        refine lv_aload_n hx hb dX8_fillStep_18 rfl (lv_at hl 0 rfl) ?_
        refine xGET_808 C0 kw_285 hW dX8_fillStep_19 ?_
        refine lv_iload_n hx hb dX8_fillStep_22 rfl (lv_at hl 1 rfl) ?_
        refine lv_aload_n hx hb dX8_fillStep_23 rfl (lv_at hl 0 rfl) ?_
        refine xGET_804 C0 kw_278 hW dX8_fillStep_24 ?_
        refine lv_imul hx hb dX8_fillStep_27 ?_
        refine lv_iload_n hx hb dX8_fillStep_28 rfl (lv_at hl 2 rfl) ?_
        refine lv_iadd hx hb dX8_fillStep_29 ?_
        refine xSTR C0 kw_832 hW dX8_fillStep_30 ?_
        refine lv_iload_n hx hb dX8_fillStep_33 rfl (lv_at hl 1 rfl) ?_
        obtain ⟨g10, ho⟩ := gd_some ho
        refine xSTRld C0 hW g10 dX8_fillStep_34 ?_
        obtain ⟨g11, ho⟩ := gd_some ho
        refine xST_808 C0 hW g11 dX8_fillStep_35 (fun H locs hW => ?_)
        obtain ⟨t12, ho, hW⟩ := nm_w (P := fun t => wl D A s (wX cI cJ cZ cR am gm t) H locs) ho hW
        refine lv_goto (tgt := 67) hx hb dX8_fillStep_36 (by decide) ?_
        obtain ⟨x13, ex13, ho⟩ := nm_x ho
        refine lv_iinc (v := x13) (lv' := [(2, .int x13), (0, .ref (am 1008)), (1, .int v1)]) hx hb dX8_fillStep_67 hl (k := 2) rfl (by rw [ex13]; rfl) (by decide) rfl (fun ls hl => ?_)
        clear ex13
        refine lv_goto (tgt := 2) hx hb dX8_fillStep_70 (by decide) ?_
        cases ho
        exact ih _ _ hrun _ _ _ hW (lv_sub hl [1, 2, 0] rfl)
set_option maxHeartbeats 4000000 in
set_option maxRecDepth 100000 in
theorem c_x8_fillStep (l : Launch) {D : va_G} {cI cJ cZ cR : ClassId} {am gm : Nat → Nat} {st : Nat} (sz : Nat) (t : St) (a1 : Int32) {t' : St} (ho : x8_fillStep t a1 = some t') : Met l yX8_fillStep (.code yX8_fillStep cX8_fillStep 3 none :: wsAll) (rmN 1 21) (va_Pc [.ref (am 1008), .int a1] (prX D (tyX cI cJ cZ cR) (wX cI cJ cZ cR am gm t) sz st)) (qV D (tyX cI cJ cZ cR) (wX cI cJ cZ cR am gm t') (va_A (wX cI cJ cZ cR am gm t) sz)) 0 0 (va_A (wX cI cJ cZ cR am gm t) sz) := by
  refine Met.ofW (cc := cX8_fillStep) (maxL := 3) (ret := none) (by decide) rfl ?_
  intro p e s m args below meth c s₁ B hml hv
  obtain ⟨rfl, ⟨hsz, hP, hK, hD0⟩, hsx⟩ := hv
  have hx := B.exec
  have hb := B.bytes
  have hts := atoms_spec (ws := (.code yX8_fillStep cX8_fillStep 3 none :: wsAll)) B.pre
  have hta := fun w h => hts w (List.mem_cons_of_mem _ h)
  have hown : s.vm.findClass RX8 = some m.cls := findClass_of_methodNamed B.named
  have hlocks := B.notSynchronized
  subst hsz
  have hD := hD0.self (sz := s.heap.size)
  generalize hAe : va_A (wX cI cJ cZ cR am gm t) s.heap.size = A at hD ⊢
  have hA : ∀ q : Nat, s.heap.size ≤ q → A q := fun q h => by rw [← hAe]; exact Or.inr h
  have C0 : cxX p s m ([.ref (am 1008), .int a1].toArray) meth c cX8_fillStep RX8 3 none D (tyX cI cJ cZ cR) st A := ⟨⟨hx, hb, B.returns, hml, hown, hta, hlocks, hK, hA⟩, by rw [← hAe]; exact hsx⟩
  have hW : wl D A s (wX cI cJ cZ cR am gm t) s.heap [] := ⟨hP, hD, va_S.rf⟩
  have hl := lv_entry [.ref (am 1008), .int a1] (n := 3) (Nat.le_of_ble_eq_true rfl)
  rw [lg_entry_eq]
  generalize (lg_sl [.ref (am 1008), .int a1] ++ List.replicate (3 - (lg_sl [.ref (am 1008), .int a1]).length) Slot.unset).toArray = ls at hl ⊢
  have hl : lv_has ls 3 [(0, .ref (am 1008)), (1, .int a1)] := hl
  unfold x8_fillStep at ho
  refine lv_iconst (v := (0 : Int32)) hx hb dX8_fillStep_0 (by decide) ?_
  refine lv_istore_n (lv' := [(2, .int (0 : Int32)), (0, .ref (am 1008)), (1, .int a1)]) hx hb dX8_fillStep_1 rfl hl (by decide) rfl (fun ls hl => ?_)
  obtain ⟨y14, hc15, ho⟩ := bd_some ho
  obtain ⟨ny14, hc15⟩ := lp_to hc15
  refine x8_fillStep_L2 C0 ?_ ny14 _ _ hc15 _ _ _ hW (lv_sub hl [1, 2, 0] rfl)
  intro H locs ls hW hl
  cases ho
  exact rtV C0.1 hW dX8_fillStep_73
noncomputable def x8_markNeeded_B2 (v1 : Int32) (t : St) : Option ((Int32 × St) ⊕ (St)) :=
  if (gI t 805) ≤ v1 then (some (.inr t)) else (gd v1 (gN t 810) (nm (sA t 810 v1 (vp_nar .boolean (0 : Int32))) (fun t3 : St => nm (v1 + (1 : Int32)) (fun x4 : Int32 => some (.inl (x4, t3))))))
noncomputable def x8_markNeeded_J113 (t : St) (v1 : Int32) (v2 : Int32) (v3 : Int32) (v4 : Int32) : Option ((Int32 × St) ⊕ (St)) :=
  gd v4 (gN t 810) (nm (sA t 810 v4 (vp_nar .boolean (1 : Int32))) (fun t6 : St => nm (v3 + (1 : Int32)) (fun x7 : Int32 => some (.inl (x7, t6)))))
noncomputable def x8_markNeeded_B79 (v1 : Int32) (v2 : Int32) (v3 : Int32) (t : St) : Option ((Int32 × St) ⊕ (St)) :=
  if v2 ≤ v3 then (some (.inr t)) else ((x6_partOf t v1 v3).bind (fun q9 => gd q9 (gN t 810) (if (gA t 810 (q9).toNatClampNeg) = 0 then (gd q9 (gN t 811) (nm (sA t 811 q9 v1) (fun t14 : St => x8_markNeeded_J113 t14 v1 v2 v3 q9))) else (x8_markNeeded_J113 t v1 v2 v3 q9))))
noncomputable def x8_markNeeded_J76 (t : St) (v1 : Int32) (w0 : Int32) : Option ((Int32 × St) ⊕ (St)) :=
  (lp (fun x => x8_markNeeded_B79 v1 w0 x.1 x.2) ((0 : Int32), t)).bind (fun y15 => nm (v1 + (-1 : Int32)) (fun x17 : Int32 => some (.inl (x17, y15))))
noncomputable def x8_markNeeded_J75 (t : St) (v1 : Int32) : Option ((Int32 × St) ⊕ (St)) :=
  x8_markNeeded_J76 t v1 (0 : Int32)
noncomputable def x8_markNeeded_B38 (v1 : Int32) (t : St) : Option ((Int32 × St) ⊕ (St)) :=
  if v1 < 0 then (some (.inr t)) else (gd v1 (gN t 810) (if (gA t 810 (v1).toNatClampNeg) = 0 then (x8_markNeeded_J75 t v1) else (gd v1 (gN t 603) (if (gA t 603 (v1).toNatClampNeg) = 0 then (x8_markNeeded_J75 t v1) else (gd v1 (gN t 604) (x8_markNeeded_J76 t v1 (gA t 604 (v1).toNatClampNeg)))))))
noncomputable def x8_markNeeded (t : St) : Option (St) :=
  (lp (fun x => x8_markNeeded_B2 x.1 x.2) ((0 : Int32), t)).bind (fun y24 => gd (gI y24 805) (gN y24 810) (nm (sA y24 810 (gI y24 805) (vp_nar .boolean (1 : Int32))) (fun t27 : St => nm (gI t27 805) (fun x28 : Int32 => (lp (fun x => x8_markNeeded_B38 x.1 x.2) (x28, t27)).bind (fun y29 => some y29)))))
set_option maxHeartbeats 4000000 in
set_option maxRecDepth 100000 in
theorem x8_markNeeded_L2 {p : Program} {l : Launch} {e : Env} {s : State} {m : MethodId} {args : Array Value} {below : List Frame} {meth : Method} {c : Code} {Q : State → Prop} {D : va_G} {cI cJ cZ cR : ClassId} {am gm : Nat → Nat} {st : Nat} {A : Nat → Prop} (C0 : cxX p s m args meth c cX8_markNeeded RX8 5 none D (tyX cI cJ cZ cR) st A) {y : St} (hK0 : ∀ (H : Heap) (locs : List Loc) (ls : Array Slot), wl D A s (wX cI cJ cZ cR am gm y) H locs → lv_has ls 5 [(0, .ref (am 1008))] → W p l e (rmN 1 22) s m args below meth c H locs 0 0 Q (F0 m 23 ls [])) :
    ∀ (n : Nat) (v1 : Int32) (t : St), lpn (fun x => x8_markNeeded_B2 x.1 x.2) n (v1, t) = some y → ∀ (H : Heap) (locs : List Loc) (ls : Array Slot), wl D A s (wX cI cJ cZ cR am gm t) H locs → lv_has ls 5 [(0, .ref (am 1008)), (1, .int v1)] → W p l e (rmN 1 22) s m args below meth c H locs 0 0 Q (F0 m 2 ls []) := by
  have hx := C0.1.1
  have hb := C0.1.2.1
  have hta := C0.1.2.2.2.2.2.1
  have hown := C0.1.2.2.2.2.1
  intro n
  induction n with
  | zero => intro _ _ h; cases h
  | succ n ih =>
    intro v1 t hrun H locs ls hW hl
    obtain ⟨o, ho, hrun⟩ := bd_some hrun
    unfold x8_markNeeded_B2 at ho
    refine lv_iload_n hx hb dX8_markNeeded_2 rfl (lv_at hl 1 rfl) ?_
    refine lv_aload_n hx hb dX8_markNeeded_3 rfl (lv_at hl 0 rfl) ?_
    refine xGET_805 C0 kw_280 hW dX8_markNeeded_4 ?_
    refine lv_icmp_ge (tgt := 23) hx hb dX8_markNeeded_7 (by decide) (fun c1 => ?_) (fun c1 => ?_)
    · replace ho := ite_t c1 ho
      cases ho
      cases hrun
      exact hK0 _ _ _ hW (lv_sub hl [0] rfl)
    · replace ho := ite_f c1 ho
      refine lv_aload_n hx hb dX8_markNeeded_10 rfl (lv_at hl 0 rfl) ?_
      refine xGET_810 C0 kw_287 hW dX8_markNeeded_11 ?_
      refine lv_iload_n hx hb dX8_markNeeded_14 rfl (lv_at hl 1 rfl) ?_
      refine lv_iconst (v := (0 : Int32)) hx hb dX8_markNeeded_15 (by decide) ?_
      obtain ⟨g2, ho⟩ := gd_some ho
      refine xST_810 C0 hW g2 dX8_markNeeded_16 (fun H locs hW => ?_)
      obtain ⟨t3, ho, hW⟩ := nm_w (P := fun t => wl D A s (wX cI cJ cZ cR am gm t) H locs) ho hW
      obtain ⟨x4, ex4, ho⟩ := nm_x ho
      refine lv_iinc (v := x4) (lv' := [(1, .int x4), (0, .ref (am 1008))]) hx hb dX8_markNeeded_17 hl (k := 1) rfl (by rw [ex4]; rfl) (by decide) rfl (fun ls hl => ?_)
      clear ex4
      refine lv_goto (tgt := 2) hx hb dX8_markNeeded_20 (by decide) ?_
      cases ho
      exact ih _ _ hrun _ _ _ hW (lv_sub hl [1, 0] rfl)
set_option maxHeartbeats 4000000 in
set_option maxRecDepth 100000 in
theorem x8_markNeeded_L79 {p : Program} {l : Launch} {e : Env} {s : State} {m : MethodId} {args : Array Value} {below : List Frame} {meth : Method} {c : Code} {Q : State → Prop} {D : va_G} {cI cJ cZ cR : ClassId} {am gm : Nat → Nat} {st : Nat} {A : Nat → Prop} (C0 : cxX p s m args meth c cX8_markNeeded RX8 5 none D (tyX cI cJ cZ cR) st A) {v1 : Int32} {v2 : Int32} {y : St} (hK0 : ∀ (H : Heap) (locs : List Loc) (ls : Array Slot), wl D A s (wX cI cJ cZ cR am gm y) H locs → lv_has ls 5 [(0, .ref (am 1008)), (1, .int v1)] → W p l e (rmN 1 22) s m args below meth c H locs 0 0 Q (F0 m 127 ls [])) :
    ∀ (n : Nat) (v3 : Int32) (t : St), lpn (fun x => x8_markNeeded_B79 v1 v2 x.1 x.2) n (v3, t) = some y → ∀ (H : Heap) (locs : List Loc) (ls : Array Slot), wl D A s (wX cI cJ cZ cR am gm t) H locs → lv_has ls 5 [(0, .ref (am 1008)), (1, .int v1), (2, .int v2), (3, .int v3)] → W p l e (rmN 1 22) s m args below meth c H locs 0 0 Q (F0 m 79 ls []) := by
  have hx := C0.1.1
  have hb := C0.1.2.1
  have hta := C0.1.2.2.2.2.2.1
  have hown := C0.1.2.2.2.2.1
  intro n
  induction n with
  | zero => intro _ _ h; cases h
  | succ n ih =>
    intro v3 t hrun H locs ls hW hl
    obtain ⟨o, ho, hrun⟩ := bd_some hrun
    have J113 : ∀ (t : St) (v3 : Int32) (v4 : Int32) (_ : x8_markNeeded_J113 t v1 v2 v3 v4 = some o) (H : Heap) (locs : List Loc) (ls : Array Slot), wl D A s (wX cI cJ cZ cR am gm t) H locs → lv_has ls 5 [(0, .ref (am 1008)), (1, .int v1), (2, .int v2), (3, .int v3), (4, .int v4)] → W p l e (rmN 1 22) s m args below meth c H locs 0 0 Q (F0 m 113 ls []) := by
      intro t v3 v4 ho H locs ls hW hl
      unfold x8_markNeeded_J113 at ho
      refine lv_aload_n hx hb dX8_markNeeded_113 rfl (lv_at hl 0 rfl) ?_
      refine xGET_810 C0 kw_287 hW dX8_markNeeded_114 ?_
      refine lv_iload hx hb dX8_markNeeded_117 (lv_at hl 4 rfl) ?_
      refine lv_iconst (v := (1 : Int32)) hx hb dX8_markNeeded_119 (by decide) ?_
      obtain ⟨g5, ho⟩ := gd_some ho
      refine xST_810 C0 hW g5 dX8_markNeeded_120 (fun H locs hW => ?_)
      obtain ⟨t6, ho, hW⟩ := nm_w (P := fun t => wl D A s (wX cI cJ cZ cR am gm t) H locs) ho hW
      obtain ⟨x7, ex7, ho⟩ := nm_x ho
      refine lv_iinc (v := x7) (lv' := [(3, .int x7), (0, .ref (am 1008)), (1, .int v1), (2, .int v2), (4, .int v4)]) hx hb dX8_markNeeded_121 hl (k := 3) rfl (by rw [ex7]; rfl) (by decide) rfl (fun ls hl => ?_)
      clear ex7
      refine lv_goto (tgt := 79) hx hb dX8_markNeeded_124 (by decide) ?_
      cases ho
      exact ih _ _ hrun _ _ _ hW (lv_sub hl [1, 2, 3, 0] rfl)
    unfold x8_markNeeded_B79 at ho
    refine lv_iload_n hx hb dX8_markNeeded_79 rfl (lv_at hl 3 rfl) ?_
    refine lv_iload_n hx hb dX8_markNeeded_80 rfl (lv_at hl 2 rfl) ?_
    refine lv_icmp_ge (tgt := 127) hx hb dX8_markNeeded_81 (by decide) (fun c8 => ?_) (fun c8 => ?_)
    · replace ho := ite_t c8 ho
      cases ho
      cases hrun
      exact hK0 _ _ _ hW (lv_sub hl [0, 1] rfl)
    · replace ho := ite_f c8 ho
      refine lv_aload_n hx hb dX8_markNeeded_84 rfl (lv_at hl 0 rfl) ?_
      refine xGET_800 C0 kw_269 hW dX8_markNeeded_85 ?_
      refine lv_iload_n hx hb dX8_markNeeded_88 rfl (lv_at hl 1 rfl) ?_
      refine lv_iload_n hx hb dX8_markNeeded_89 rfl (lv_at hl 3 rfl) ?_
      obtain ⟨q9, hc10, ho⟩ := bd_some ho
      refine bkI C0.1 hW (runVX (As := [.int v1, .int v3]) (rest := []) C0 hW (c_x6_partOf l _ t v1 v3 (r := q9) hc10) cb_X8_X6_partOf_107 6 6 rfl rfl rfl rfl rfl ⟨rfl, rfl⟩ ⟨Nat.le_of_ble_eq_true rfl, Nat.le_of_ble_eq_true rfl⟩ (Nat.le_of_ble_eq_true rfl) hl.1 dX8_markNeeded_90 ⟨Nat.le_of_ble_eq_true rfl, Nat.le_of_ble_eq_true rfl⟩) (fun H locs hW => ?_)
      refine lv_istore (lv' := [(4, .int q9), (0, .ref (am 1008)), (1, .int v1), (2, .int v2), (3, .int v3)]) hx hb dX8_markNeeded_93 hl (by decide) rfl (fun ls hl => ?_)
      refine lv_aload_n hx hb dX8_markNeeded_95 rfl (lv_at hl 1 rfl) ?_
      refine xGET_810 C0 kw_287 hW dX8_markNeeded_96 ?_
      refine lv_iload hx hb dX8_markNeeded_99 (lv_at hl 0 rfl) ?_
      obtain ⟨g11, ho⟩ := gd_some ho
      refine xLD_810 C0 hW g11 dX8_markNeeded_101 ?_
      refine lv_if_ne (tgt := 113) hx hb dX8_markNeeded_102 (by decide) (fun c12 => ?_) (fun c12 => ?_)
      · replace ho := ite_f c12 ho
        exact J113 _ _ _ ho _ _ _ hW (lv_sub hl [1, 2, 3, 4, 0] rfl)
      · replace ho := ite_t c12 ho
        refine lv_aload_n hx hb dX8_markNeeded_105 rfl (lv_at hl 1 rfl) ?_
        refine xGET_811 C0 kw_288 hW dX8_markNeeded_106 ?_
        refine lv_iload hx hb dX8_markNeeded_109 (lv_at hl 0 rfl) ?_
        refine lv_iload_n hx hb dX8_markNeeded_111 rfl (lv_at hl 2 rfl) ?_
        obtain ⟨g13, ho⟩ := gd_some ho
        refine xST_811 C0 hW g13 dX8_markNeeded_112 (fun H locs hW => ?_)
        obtain ⟨t14, ho, hW⟩ := nm_w (P := fun t => wl D A s (wX cI cJ cZ cR am gm t) H locs) ho hW
        exact J113 _ _ _ ho _ _ _ hW (lv_sub hl [1, 2, 3, 4, 0] rfl)
set_option maxHeartbeats 4000000 in
set_option maxRecDepth 100000 in
theorem x8_markNeeded_L38 {p : Program} {l : Launch} {e : Env} {s : State} {m : MethodId} {args : Array Value} {below : List Frame} {meth : Method} {c : Code} {Q : State → Prop} {D : va_G} {cI cJ cZ cR : ClassId} {am gm : Nat → Nat} {st : Nat} {A : Nat → Prop} (C0 : cxX p s m args meth c cX8_markNeeded RX8 5 none D (tyX cI cJ cZ cR) st A) {y : St} (hK0 : ∀ (H : Heap) (locs : List Loc) (ls : Array Slot), wl D A s (wX cI cJ cZ cR am gm y) H locs → lv_has ls 5 [(0, .ref (am 1008))] → W p l e (rmN 1 22) s m args below meth c H locs 0 0 Q (F0 m 133 ls [])) :
    ∀ (n : Nat) (v1 : Int32) (t : St), lpn (fun x => x8_markNeeded_B38 x.1 x.2) n (v1, t) = some y → ∀ (H : Heap) (locs : List Loc) (ls : Array Slot), wl D A s (wX cI cJ cZ cR am gm t) H locs → lv_has ls 5 [(0, .ref (am 1008)), (1, .int v1)] → W p l e (rmN 1 22) s m args below meth c H locs 0 0 Q (F0 m 38 ls []) := by
  have hx := C0.1.1
  have hb := C0.1.2.1
  have hta := C0.1.2.2.2.2.2.1
  have hown := C0.1.2.2.2.2.1
  intro n
  induction n with
  | zero => intro _ _ h; cases h
  | succ n ih =>
    intro v1 t hrun H locs ls hW hl
    obtain ⟨o, ho, hrun⟩ := bd_some hrun
    have J76 : ∀ (t : St) (v1 : Int32) (w0 : Int32) (_ : x8_markNeeded_J76 t v1 w0 = some o) (H : Heap) (locs : List Loc) (ls : Array Slot), wl D A s (wX cI cJ cZ cR am gm t) H locs → lv_has ls 5 [(0, .ref (am 1008)), (1, .int v1)] → W p l e (rmN 1 22) s m args below meth c H locs 0 0 Q (F0 m 76 ls [.int w0]) := by
      intro t v1 w0 ho H locs ls hW hl
      unfold x8_markNeeded_J76 at ho
      refine lv_istore_n (lv' := [(2, .int w0), (0, .ref (am 1008)), (1, .int v1)]) hx hb dX8_markNeeded_76 rfl hl (by decide) rfl (fun ls hl => ?_)
      refine lv_iconst (v := (0 : Int32)) hx hb dX8_markNeeded_77 (by decide) ?_
      refine lv_istore_n (lv' := [(3, .int (0 : Int32)), (2, .int w0), (0, .ref (am 1008)), (1, .int v1)]) hx hb dX8_markNeeded_78 rfl hl (by decide) rfl (fun ls hl => ?_)
      obtain ⟨y15, hc16, ho⟩ := bd_some ho
      obtain ⟨ny15, hc16⟩ := lp_to hc16
      refine x8_markNeeded_L79 C0 ?_ ny15 _ _ hc16 _ _ _ hW (lv_sub hl [2, 3, 1, 0] rfl)
      intro H locs ls hW hl
      obtain ⟨x17, ex17, ho⟩ := nm_x ho
      refine lv_iinc (v := x17) (lv' := [(1, .int x17), (0, .ref (am 1008))]) hx hb dX8_markNeeded_127 hl (k := 1) rfl (by rw [ex17]; rfl) (by decide) rfl (fun ls hl => ?_)
      clear ex17
      refine lv_goto (tgt := 38) hx hb dX8_markNeeded_130 (by decide) ?_
      cases ho
      exact ih _ _ hrun _ _ _ hW (lv_sub hl [1, 0] rfl)
    have J75 : ∀ (t : St) (v1 : Int32) (_ : x8_markNeeded_J75 t v1 = some o) (H : Heap) (locs : List Loc) (ls : Array Slot), wl D A s (wX cI cJ cZ cR am gm t) H locs → lv_has ls 5 [(0, .ref (am 1008)), (1, .int v1)] → W p l e (rmN 1 22) s m args below meth c H locs 0 0 Q (F0 m 75 ls []) := by
      intro t v1 ho H locs ls hW hl
      unfold x8_markNeeded_J75 at ho
      refine lv_iconst (v := (0 : Int32)) hx hb dX8_markNeeded_75 (by decide) ?_
      exact J76 _ _ _ ho _ _ _ hW (lv_sub hl [0, 1] rfl)
    unfold x8_markNeeded_B38 at ho
    refine lv_iload_n hx hb dX8_markNeeded_38 rfl (lv_at hl 1 rfl) ?_
    refine lv_if_lt (tgt := 133) hx hb dX8_markNeeded_39 (by decide) (fun c18 => ?_) (fun c18 => ?_)
    · replace ho := ite_t c18 ho
      cases ho
      cases hrun
      exact hK0 _ _ _ hW (lv_sub hl [0] rfl)
    · replace ho := ite_f c18 ho
      refine lv_aload_n hx hb dX8_markNeeded_42 rfl (lv_at hl 0 rfl) ?_
      refine xGET_810 C0 kw_287 hW dX8_markNeeded_43 ?_
      refine lv_iload_n hx hb dX8_markNeeded_46 rfl (lv_at hl 1 rfl) ?_
      obtain ⟨g19, ho⟩ := gd_some ho
      refine xLD_810 C0 hW g19 dX8_markNeeded_47 ?_
      refine lv_if_eq (tgt := 75) hx hb dX8_markNeeded_48 (by decide) (fun c20 => ?_) (fun c20 => ?_)
      · replace ho := ite_t c20 ho
        exact J75 _ _ ho _ _ _ hW (lv_sub hl [0, 1] rfl)
      · replace ho := ite_f c20 ho
        refine lv_aload_n hx hb dX8_markNeeded_51 rfl (lv_at hl 0 rfl) ?_
        refine xGET_800 C0 kw_269 hW dX8_markNeeded_52 ?_
        refine xGET_603 C0 kw_187 hW dX8_markNeeded_55 ?_
        refine lv_iload_n hx hb dX8_markNeeded_58 rfl (lv_at hl 1 rfl) ?_
        obtain ⟨g21, ho⟩ := gd_some ho
        refine xLD_603 C0 hW g21 dX8_markNeeded_59 ?_
        refine lv_if_eq (tgt := 75) hx hb dX8_markNeeded_60 (by decide) (fun c22 => ?_) (fun c22 => ?_)
        · replace ho := ite_t c22 ho
          exact J75 _ _ ho _ _ _ hW (lv_sub hl [0, 1] rfl)
        · replace ho := ite_f c22 ho
          refine lv_aload_n hx hb dX8_markNeeded_63 rfl (lv_at hl 0 rfl) ?_
          refine xGET_800 C0 kw_269 hW dX8_markNeeded_64 ?_
          refine xGET_604 C0 kw_191 hW dX8_markNeeded_67 ?_
          refine lv_iload_n hx hb dX8_markNeeded_70 rfl (lv_at hl 1 rfl) ?_
          obtain ⟨g23, ho⟩ := gd_some ho
          refine xLD_604 C0 hW g23 dX8_markNeeded_71 ?_
          refine lv_goto (tgt := 76) hx hb dX8_markNeeded_72 (by decide) ?_
          exact J76 _ _ _ ho _ _ _ hW (lv_sub hl [0, 1] rfl)
set_option maxHeartbeats 4000000 in
set_option maxRecDepth 100000 in
theorem c_x8_markNeeded (l : Launch) {D : va_G} {cI cJ cZ cR : ClassId} {am gm : Nat → Nat} {st : Nat} (sz : Nat) (t : St) {t' : St} (ho : x8_markNeeded t = some t') : Met l yX8_markNeeded (.code yX8_markNeeded cX8_markNeeded 5 none :: wsAll) (rmN 1 22) (va_Pc [.ref (am 1008)] (prX D (tyX cI cJ cZ cR) (wX cI cJ cZ cR am gm t) sz st)) (qV D (tyX cI cJ cZ cR) (wX cI cJ cZ cR am gm t') (va_A (wX cI cJ cZ cR am gm t) sz)) 0 0 (va_A (wX cI cJ cZ cR am gm t) sz) := by
  refine Met.ofW (cc := cX8_markNeeded) (maxL := 5) (ret := none) (by decide) rfl ?_
  intro p e s m args below meth c s₁ B hml hv
  obtain ⟨rfl, ⟨hsz, hP, hK, hD0⟩, hsx⟩ := hv
  have hx := B.exec
  have hb := B.bytes
  have hts := atoms_spec (ws := (.code yX8_markNeeded cX8_markNeeded 5 none :: wsAll)) B.pre
  have hta := fun w h => hts w (List.mem_cons_of_mem _ h)
  have hown : s.vm.findClass RX8 = some m.cls := findClass_of_methodNamed B.named
  have hlocks := B.notSynchronized
  subst hsz
  have hD := hD0.self (sz := s.heap.size)
  generalize hAe : va_A (wX cI cJ cZ cR am gm t) s.heap.size = A at hD ⊢
  have hA : ∀ q : Nat, s.heap.size ≤ q → A q := fun q h => by rw [← hAe]; exact Or.inr h
  have C0 : cxX p s m ([.ref (am 1008)].toArray) meth c cX8_markNeeded RX8 5 none D (tyX cI cJ cZ cR) st A := ⟨⟨hx, hb, B.returns, hml, hown, hta, hlocks, hK, hA⟩, by rw [← hAe]; exact hsx⟩
  have hW : wl D A s (wX cI cJ cZ cR am gm t) s.heap [] := ⟨hP, hD, va_S.rf⟩
  have hl := lv_entry [.ref (am 1008)] (n := 5) (Nat.le_of_ble_eq_true rfl)
  rw [lg_entry_eq]
  generalize (lg_sl [.ref (am 1008)] ++ List.replicate (5 - (lg_sl [.ref (am 1008)]).length) Slot.unset).toArray = ls at hl ⊢
  have hl : lv_has ls 5 [(0, .ref (am 1008))] := hl
  unfold x8_markNeeded at ho
  refine lv_iconst (v := (0 : Int32)) hx hb dX8_markNeeded_0 (by decide) ?_
  refine lv_istore_n (lv' := [(1, .int (0 : Int32)), (0, .ref (am 1008))]) hx hb dX8_markNeeded_1 rfl hl (by decide) rfl (fun ls hl => ?_)
  obtain ⟨y24, hc25, ho⟩ := bd_some ho
  obtain ⟨ny24, hc25⟩ := lp_to hc25
  refine x8_markNeeded_L2 C0 ?_ ny24 _ _ hc25 _ _ _ hW (lv_sub hl [1, 0] rfl)
  intro H locs ls hW hl
  refine lv_aload_n hx hb dX8_markNeeded_23 rfl (lv_at hl 0 rfl) ?_
  refine xGET_810 C0 kw_287 hW dX8_markNeeded_24 ?_
  refine lv_aload_n hx hb dX8_markNeeded_27 rfl (lv_at hl 0 rfl) ?_
  refine xGET_805 C0 kw_280 hW dX8_markNeeded_28 ?_
  refine lv_iconst (v := (1 : Int32)) hx hb dX8_markNeeded_31 (by decide) ?_
  obtain ⟨g26, ho⟩ := gd_some ho
  refine xST_810 C0 hW g26 dX8_markNeeded_32 (fun H locs hW => ?_)
  obtain ⟨t27, ho, hW⟩ := nm_w (P := fun t => wl D A s (wX cI cJ cZ cR am gm t) H locs) ho hW
  refine lv_aload_n hx hb dX8_markNeeded_33 rfl (lv_at hl 0 rfl) ?_
  refine xGET_805 C0 kw_280 hW dX8_markNeeded_34 ?_
  refine lv_nmi ho (fun x28 ho => ?_)
  refine lv_istore_n (lv' := [(1, .int x28), (0, .ref (am 1008))]) hx hb dX8_markNeeded_37 rfl hl (by decide) rfl (fun ls hl => ?_)
  obtain ⟨y29, hc30, ho⟩ := bd_some ho
  obtain ⟨ny29, hc30⟩ := lp_to hc30
  refine x8_markNeeded_L38 C0 ?_ ny29 _ _ hc30 _ _ _ hW (lv_sub hl [1, 0] rfl)
  intro H locs ls hW hl
  cases ho
  exact rtV C0.1 hW dX8_markNeeded_133
noncomputable def x8_fillRow_J62 (t : St) (v1 : Int32) (v2 : Int32) (v3 : Int32) (v4 : Int32) (w1 : Int32) (w2 : Int64) : Option ((Int32 × St) ⊕ (St)) :=
  gd w1 (gN t 808) (nm (sB t 808 w1 w2) (fun t2 : St => nm (v4 + (1 : Int32)) (fun x3 : Int32 => some (.inl (x3, t2)))))
noncomputable def x8_fillRow_B34 (v1 : Int32) (v2 : Int32) (v3 : Int32) (v4 : Int32) (t : St) : Option ((Int32 × St) ⊕ (St)) :=
  if (gI t 804) ≤ v4 then (some (.inr t)) else (if v3 = 0 then (x8_fillRow_J62 t v1 v2 v3 v4 (v2 + v4) (-1 : Int64)) else (x8_fillRow_J62 t v1 v2 v3 v4 (v2 + v4) (0 : Int64)))
noncomputable def x8_fillRow_B111 (v1 : Int32) (v2 : Int32) (v3 : Int32) (v4 : Int32) (v5 : Int32) (v6 : Int32) (t : St) : Option ((Int32 × St) ⊕ (St)) :=
  if (gI t 804) ≤ v6 then (some (.inr t)) else (if v3 = 0 then (gd (v2 + v6) (gN t 808) (gd (v5 + v6) (gN t 808) (gd (v2 + v6) (gN t 808) (nm (sB t 808 (v2 + v6) ((gB t 808 ((v2 + v6)).toNatClampNeg) &&& (gB t 808 ((v5 + v6)).toNatClampNeg))) (fun t11 : St => nm (v6 + (1 : Int32)) (fun x12 : Int32 => some (.inl (x12, t11)))))))) else (gd (v2 + v6) (gN t 808) (gd (v5 + v6) (gN t 808) (gd (v2 + v6) (gN t 808) (nm (sB t 808 (v2 + v6) ((gB t 808 ((v2 + v6)).toNatClampNeg) ||| (gB t 808 ((v5 + v6)).toNatClampNeg))) (fun t16 : St => nm (v6 + (1 : Int32)) (fun x17 : Int32 => some (.inl (x17, t16)))))))))
noncomputable def x8_fillRow_B72 (v1 : Int32) (v2 : Int32) (v3 : Int32) (v4 : Int32) (t : St) : Option ((Int32 × St) ⊕ (St)) :=
  gd v1 (gN t 604) (if (gA t 604 (v1).toNatClampNeg) ≤ v4 then (some (.inr t)) else ((x6_partOf t v1 v4).bind (fun q20 => gd q20 (gN t 812) (nm ((gA t 812 (q20).toNatClampNeg) * (gI t 804)) (fun x23 : Int32 => (lp (fun x => x8_fillRow_B111 v1 v2 v3 v4 x23 x.1 x.2) ((0 : Int32), t)).bind (fun y24 => nm (v4 + (1 : Int32)) (fun x26 : Int32 => some (.inl (x26, y24)))))))))
noncomputable def x8_fillRow_J30 (t : St) (v1 : Int32) (v2 : Int32) (w0 : Int32) : Option (St) :=
  (lp (fun x => x8_fillRow_B34 v1 v2 w0 x.1 x.2) ((0 : Int32), t)).bind (fun y27 => (lp (fun x => x8_fillRow_B72 v1 v2 w0 x.1 x.2) ((0 : Int32), y27)).bind (fun y29 => some y29))
noncomputable def x8_fillRow (t : St) (a1 : Int32) : Option (St) :=
  gd a1 (gN t 812) (nm ((gA t 812 (a1).toNatClampNeg) * (gI t 804)) (fun x32 : Int32 => gd a1 (gN t 603) (if (gA t 603 (a1).toNatClampNeg) = (1 : Int32) then (x8_fillRow_J30 t a1 x32 (1 : Int32)) else (x8_fillRow_J30 t a1 x32 (0 : Int32)))))
set_option maxHeartbeats 4000000 in
set_option maxRecDepth 100000 in
theorem x8_fillRow_L34 {p : Program} {l : Launch} {e : Env} {s : State} {m : MethodId} {args : Array Value} {below : List Frame} {meth : Method} {c : Code} {Q : State → Prop} {D : va_G} {cI cJ cZ cR : ClassId} {am gm : Nat → Nat} {st : Nat} {A : Nat → Prop} (C0 : cxX p s m args meth c cX8_fillRow RX8 7 none D (tyX cI cJ cZ cR) st A) {v1 : Int32} {v2 : Int32} {v3 : Int32} {y : St} (hK0 : ∀ (H : Heap) (locs : List Loc) (ls : Array Slot), wl D A s (wX cI cJ cZ cR am gm y) H locs → lv_has ls 7 [(0, .ref (am 1008)), (1, .int v1), (2, .int v2), (3, .int v3)] → W p l e (rmN 1 22) s m args below meth c H locs 0 0 Q (F0 m 69 ls [])) :
    ∀ (n : Nat) (v4 : Int32) (t : St), lpn (fun x => x8_fillRow_B34 v1 v2 v3 x.1 x.2) n (v4, t) = some y → ∀ (H : Heap) (locs : List Loc) (ls : Array Slot), wl D A s (wX cI cJ cZ cR am gm t) H locs → lv_has ls 7 [(0, .ref (am 1008)), (1, .int v1), (2, .int v2), (3, .int v3), (4, .int v4)] → W p l e (rmN 1 22) s m args below meth c H locs 0 0 Q (F0 m 34 ls []) := by
  have hx := C0.1.1
  have hb := C0.1.2.1
  have hta := C0.1.2.2.2.2.2.1
  have hown := C0.1.2.2.2.2.1
  intro n
  induction n with
  | zero => intro _ _ h; cases h
  | succ n ih =>
    intro v4 t hrun H locs ls hW hl
    obtain ⟨o, ho, hrun⟩ := bd_some hrun
    have J62 : ∀ (t : St) (v4 : Int32) (w1 : Int32) (w2 : Int64) (_ : x8_fillRow_J62 t v1 v2 v3 v4 w1 w2 = some o) (H : Heap) (locs : List Loc) (ls : Array Slot), wl D A s (wX cI cJ cZ cR am gm t) H locs → lv_has ls 7 [(0, .ref (am 1008)), (1, .int v1), (2, .int v2), (3, .int v3), (4, .int v4)] → W p l e (rmN 1 22) s m args below meth c H locs 0 0 Q (F0 m 62 ls [.long w2, .int w1, .ref (gm 808)]) := by
      intro t v4 w1 w2 ho H locs ls hW hl
      unfold x8_fillRow_J62 at ho
      obtain ⟨g1, ho⟩ := gd_some ho
      refine xST_808 C0 hW g1 dX8_fillRow_62 (fun H locs hW => ?_)
      obtain ⟨t2, ho, hW⟩ := nm_w (P := fun t => wl D A s (wX cI cJ cZ cR am gm t) H locs) ho hW
      obtain ⟨x3, ex3, ho⟩ := nm_x ho
      refine lv_iinc (v := x3) (lv' := [(4, .int x3), (0, .ref (am 1008)), (1, .int v1), (2, .int v2), (3, .int v3)]) hx hb dX8_fillRow_63 hl (k := 4) rfl (by rw [ex3]; rfl) (by decide) rfl (fun ls hl => ?_)
      clear ex3
      refine lv_goto (tgt := 34) hx hb dX8_fillRow_66 (by decide) ?_
      cases ho
      exact ih _ _ hrun _ _ _ hW (lv_sub hl [1, 2, 3, 4, 0] rfl)
    unfold x8_fillRow_B34 at ho
    refine lv_iload hx hb dX8_fillRow_34 (lv_at hl 4 rfl) ?_
    refine lv_aload_n hx hb dX8_fillRow_36 rfl (lv_at hl 0 rfl) ?_
    refine xGET_804 C0 kw_278 hW dX8_fillRow_37 ?_
    refine lv_icmp_ge (tgt := 69) hx hb dX8_fillRow_40 (by decide) (fun c4 => ?_) (fun c4 => ?_)
    · replace ho := ite_t c4 ho
      cases ho
      cases hrun
      exact hK0 _ _ _ hW (lv_sub hl [0, 1, 2, 3] rfl)
    · replace ho := ite_f c4 ho
      refine lv_aload_n hx hb dX8_fillRow_43 rfl (lv_at hl 0 rfl) ?_
      refine xGET_808 C0 kw_285 hW dX8_fillRow_44 ?_
      refine lv_iload_n hx hb dX8_fillRow_47 rfl (lv_at hl 2 rfl) ?_
      refine lv_iload hx hb dX8_fillRow_48 (lv_at hl 4 rfl) ?_
      refine lv_iadd hx hb dX8_fillRow_50 ?_
      refine lv_iload_n hx hb dX8_fillRow_51 rfl (lv_at hl 3 rfl) ?_
      refine lv_if_eq (tgt := 59) hx hb dX8_fillRow_52 (by decide) (fun c5 => ?_) (fun c5 => ?_)
      · replace ho := ite_t c5 ho
        refine lv_ldc2 hx hb hown (hta _ kw_837) dX8_fillRow_59 ?_
        exact J62 _ _ _ _ ho _ _ _ hW (lv_sub hl [0, 1, 2, 3, 4] rfl)
      · replace ho := ite_f c5 ho
        refine lv_lconst (v := (0 : Int64)) hx hb dX8_fillRow_55 (by decide) ?_
        refine lv_goto (tgt := 62) hx hb dX8_fillRow_56 (by decide) ?_
        exact J62 _ _ _ _ ho _ _ _ hW (lv_sub hl [0, 1, 2, 3, 4] rfl)
set_option maxHeartbeats 4000000 in
set_option maxRecDepth 100000 in
theorem x8_fillRow_L111 {p : Program} {l : Launch} {e : Env} {s : State} {m : MethodId} {args : Array Value} {below : List Frame} {meth : Method} {c : Code} {Q : State → Prop} {D : va_G} {cI cJ cZ cR : ClassId} {am gm : Nat → Nat} {st : Nat} {A : Nat → Prop} (C0 : cxX p s m args meth c cX8_fillRow RX8 7 none D (tyX cI cJ cZ cR) st A) {v1 : Int32} {v2 : Int32} {v3 : Int32} {v4 : Int32} {v5 : Int32} {y : St} (hK0 : ∀ (H : Heap) (locs : List Loc) (ls : Array Slot), wl D A s (wX cI cJ cZ cR am gm y) H locs → lv_has ls 7 [(0, .ref (am 1008)), (1, .int v1), (2, .int v2), (3, .int v3), (4, .int v4)] → W p l e (rmN 1 22) s m args below meth c H locs 0 0 Q (F0 m 177 ls [])) :
    ∀ (n : Nat) (v6 : Int32) (t : St), lpn (fun x => x8_fillRow_B111 v1 v2 v3 v4 v5 x.1 x.2) n (v6, t) = some y → ∀ (H : Heap) (locs : List Loc) (ls : Array Slot), wl D A s (wX cI cJ cZ cR am gm t) H locs → lv_has ls 7 [(0, .ref (am 1008)), (1, .int v1), (2, .int v2), (3, .int v3), (4, .int v4), (5, .int v5), (6, .int v6)] → W p l e (rmN 1 22) s m args below meth c H locs 0 0 Q (F0 m 111 ls []) := by
  have hx := C0.1.1
  have hb := C0.1.2.1
  have hta := C0.1.2.2.2.2.2.1
  have hown := C0.1.2.2.2.2.1
  intro n
  induction n with
  | zero => intro _ _ h; cases h
  | succ n ih =>
    intro v6 t hrun H locs ls hW hl
    obtain ⟨o, ho, hrun⟩ := bd_some hrun
    unfold x8_fillRow_B111 at ho
    refine lv_iload hx hb dX8_fillRow_111 (lv_at hl 6 rfl) ?_
    refine lv_aload_n hx hb dX8_fillRow_113 rfl (lv_at hl 0 rfl) ?_
    refine xGET_804 C0 kw_278 hW dX8_fillRow_114 ?_
    refine lv_icmp_ge (tgt := 177) hx hb dX8_fillRow_117 (by decide) (fun c6 => ?_) (fun c6 => ?_)
    · replace ho := ite_t c6 ho
      cases ho
      cases hrun
      exact hK0 _ _ _ hW (lv_sub hl [0, 1, 2, 3, 4] rfl)
    · replace ho := ite_f c6 ho
      refine lv_iload_n hx hb dX8_fillRow_120 rfl (lv_at hl 3 rfl) ?_
      refine lv_if_eq (tgt := 149) hx hb dX8_fillRow_121 (by decide) (fun c7 => ?_) (fun c7 => ?_)
      · replace ho := ite_t c7 ho
        refine lv_aload_n hx hb dX8_fillRow_149 rfl (lv_at hl 0 rfl) ?_
        refine xGET_808 C0 kw_285 hW dX8_fillRow_150 ?_
        refine lv_iload_n hx hb dX8_fillRow_153 rfl (lv_at hl 2 rfl) ?_
        refine lv_iload hx hb dX8_fillRow_154 (lv_at hl 6 rfl) ?_
        refine lv_iadd hx hb dX8_fillRow_156 ?_
        refine lv_dup2_11 hx hb dX8_fillRow_157 rfl rfl ?_
        obtain ⟨g8, ho⟩ := gd_some ho
        refine xLD_808 C0 hW g8 dX8_fillRow_158 ?_
        refine lv_aload_n hx hb dX8_fillRow_159 rfl (lv_at hl 0 rfl) ?_
        refine xGET_808 C0 kw_285 hW dX8_fillRow_160 ?_
        refine lv_iload hx hb dX8_fillRow_163 (lv_at hl 5 rfl) ?_
        refine lv_iload hx hb dX8_fillRow_165 (lv_at hl 6 rfl) ?_
        refine lv_iadd hx hb dX8_fillRow_167 ?_
        obtain ⟨g9, ho⟩ := gd_some ho
        refine xLD_808 C0 hW g9 dX8_fillRow_168 ?_
        refine lv_land hx hb dX8_fillRow_169 ?_
        obtain ⟨g10, ho⟩ := gd_some ho
        refine xST_808 C0 hW g10 dX8_fillRow_170 (fun H locs hW => ?_)
        obtain ⟨t11, ho, hW⟩ := nm_w (P := fun t => wl D A s (wX cI cJ cZ cR am gm t) H locs) ho hW
        obtain ⟨x12, ex12, ho⟩ := nm_x ho
        refine lv_iinc (v := x12) (lv' := [(6, .int x12), (0, .ref (am 1008)), (1, .int v1), (2, .int v2), (3, .int v3), (4, .int v4), (5, .int v5)]) hx hb dX8_fillRow_171 hl (k := 6) rfl (by rw [ex12]; rfl) (by decide) rfl (fun ls hl => ?_)
        clear ex12
        refine lv_goto (tgt := 111) hx hb dX8_fillRow_174 (by decide) ?_
        cases ho
        exact ih _ _ hrun _ _ _ hW (lv_sub hl [1, 2, 3, 4, 5, 6, 0] rfl)
      · replace ho := ite_f c7 ho
        refine lv_aload_n hx hb dX8_fillRow_124 rfl (lv_at hl 0 rfl) ?_
        refine xGET_808 C0 kw_285 hW dX8_fillRow_125 ?_
        refine lv_iload_n hx hb dX8_fillRow_128 rfl (lv_at hl 2 rfl) ?_
        refine lv_iload hx hb dX8_fillRow_129 (lv_at hl 6 rfl) ?_
        refine lv_iadd hx hb dX8_fillRow_131 ?_
        refine lv_dup2_11 hx hb dX8_fillRow_132 rfl rfl ?_
        obtain ⟨g13, ho⟩ := gd_some ho
        refine xLD_808 C0 hW g13 dX8_fillRow_133 ?_
        refine lv_aload_n hx hb dX8_fillRow_134 rfl (lv_at hl 0 rfl) ?_
        refine xGET_808 C0 kw_285 hW dX8_fillRow_135 ?_
        refine lv_iload hx hb dX8_fillRow_138 (lv_at hl 5 rfl) ?_
        refine lv_iload hx hb dX8_fillRow_140 (lv_at hl 6 rfl) ?_
        refine lv_iadd hx hb dX8_fillRow_142 ?_
        obtain ⟨g14, ho⟩ := gd_some ho
        refine xLD_808 C0 hW g14 dX8_fillRow_143 ?_
        refine lv_lor hx hb dX8_fillRow_144 ?_
        obtain ⟨g15, ho⟩ := gd_some ho
        refine xST_808 C0 hW g15 dX8_fillRow_145 (fun H locs hW => ?_)
        obtain ⟨t16, ho, hW⟩ := nm_w (P := fun t => wl D A s (wX cI cJ cZ cR am gm t) H locs) ho hW
        refine lv_goto (tgt := 171) hx hb dX8_fillRow_146 (by decide) ?_
        obtain ⟨x17, ex17, ho⟩ := nm_x ho
        refine lv_iinc (v := x17) (lv' := [(6, .int x17), (0, .ref (am 1008)), (1, .int v1), (2, .int v2), (3, .int v3), (4, .int v4), (5, .int v5)]) hx hb dX8_fillRow_171 hl (k := 6) rfl (by rw [ex17]; rfl) (by decide) rfl (fun ls hl => ?_)
        clear ex17
        refine lv_goto (tgt := 111) hx hb dX8_fillRow_174 (by decide) ?_
        cases ho
        exact ih _ _ hrun _ _ _ hW (lv_sub hl [1, 2, 3, 4, 5, 6, 0] rfl)
set_option maxHeartbeats 4000000 in
set_option maxRecDepth 100000 in
theorem x8_fillRow_L72 {p : Program} {l : Launch} {e : Env} {s : State} {m : MethodId} {args : Array Value} {below : List Frame} {meth : Method} {c : Code} {Q : State → Prop} {D : va_G} {cI cJ cZ cR : ClassId} {am gm : Nat → Nat} {st : Nat} {A : Nat → Prop} (C0 : cxX p s m args meth c cX8_fillRow RX8 7 none D (tyX cI cJ cZ cR) st A) {v1 : Int32} {v2 : Int32} {v3 : Int32} {y : St} (hK0 : ∀ (H : Heap) (locs : List Loc) (ls : Array Slot), wl D A s (wX cI cJ cZ cR am gm y) H locs → lv_has ls 7 [(0, .ref (am 1008))] → W p l e (rmN 1 22) s m args below meth c H locs 0 0 Q (F0 m 183 ls [])) :
    ∀ (n : Nat) (v4 : Int32) (t : St), lpn (fun x => x8_fillRow_B72 v1 v2 v3 x.1 x.2) n (v4, t) = some y → ∀ (H : Heap) (locs : List Loc) (ls : Array Slot), wl D A s (wX cI cJ cZ cR am gm t) H locs → lv_has ls 7 [(0, .ref (am 1008)), (1, .int v1), (2, .int v2), (3, .int v3), (4, .int v4)] → W p l e (rmN 1 22) s m args below meth c H locs 0 0 Q (F0 m 72 ls []) := by
  have hx := C0.1.1
  have hb := C0.1.2.1
  have hta := C0.1.2.2.2.2.2.1
  have hown := C0.1.2.2.2.2.1
  intro n
  induction n with
  | zero => intro _ _ h; cases h
  | succ n ih =>
    intro v4 t hrun H locs ls hW hl
    obtain ⟨o, ho, hrun⟩ := bd_some hrun
    unfold x8_fillRow_B72 at ho
    refine lv_iload hx hb dX8_fillRow_72 (lv_at hl 4 rfl) ?_
    refine lv_aload_n hx hb dX8_fillRow_74 rfl (lv_at hl 0 rfl) ?_
    refine xGET_800 C0 kw_269 hW dX8_fillRow_75 ?_
    refine xGET_604 C0 kw_191 hW dX8_fillRow_78 ?_
    refine lv_iload_n hx hb dX8_fillRow_81 rfl (lv_at hl 1 rfl) ?_
    obtain ⟨g18, ho⟩ := gd_some ho
    refine xLD_604 C0 hW g18 dX8_fillRow_82 ?_
    refine lv_icmp_ge (tgt := 183) hx hb dX8_fillRow_83 (by decide) (fun c19 => ?_) (fun c19 => ?_)
    · replace ho := ite_t c19 ho
      cases ho
      cases hrun
      exact hK0 _ _ _ hW (lv_sub hl [0] rfl)
    · replace ho := ite_f c19 ho
      refine lv_aload_n hx hb dX8_fillRow_86 rfl (lv_at hl 0 rfl) ?_
      refine xGET_812 C0 kw_289 hW dX8_fillRow_87 ?_
      refine lv_aload_n hx hb dX8_fillRow_90 rfl (lv_at hl 0 rfl) ?_
      refine xGET_800 C0 kw_269 hW dX8_fillRow_91 ?_
      refine lv_iload_n hx hb dX8_fillRow_94 rfl (lv_at hl 1 rfl) ?_
      refine lv_iload hx hb dX8_fillRow_95 (lv_at hl 4 rfl) ?_
      obtain ⟨q20, hc21, ho⟩ := bd_some ho
      refine bkI C0.1 hW (runVX (As := [.int v1, .int v4]) (rest := [.ref (am 812)]) C0 hW (c_x6_partOf l _ t v1 v4 (r := q20) hc21) cb_X8_X6_partOf_107 6 6 rfl rfl rfl rfl rfl ⟨rfl, rfl⟩ ⟨Nat.le_of_ble_eq_true rfl, Nat.le_of_ble_eq_true rfl⟩ (Nat.le_of_ble_eq_true rfl) hl.1 dX8_fillRow_97 ⟨Nat.le_of_ble_eq_true rfl, Nat.le_of_ble_eq_true rfl⟩) (fun H locs hW => ?_)
      obtain ⟨g22, ho⟩ := gd_some ho
      refine xLD_812 C0 hW g22 dX8_fillRow_100 ?_
      refine lv_aload_n hx hb dX8_fillRow_101 rfl (lv_at hl 0 rfl) ?_
      refine xGET_804 C0 kw_278 hW dX8_fillRow_102 ?_
      refine lv_imul hx hb dX8_fillRow_105 ?_
      refine lv_nmi ho (fun x23 ho => ?_)
      refine lv_istore (lv' := [(5, .int x23), (0, .ref (am 1008)), (1, .int v1), (2, .int v2), (3, .int v3), (4, .int v4)]) hx hb dX8_fillRow_106 hl (by decide) rfl (fun ls hl => ?_)
      refine lv_iconst (v := (0 : Int32)) hx hb dX8_fillRow_108 (by decide) ?_
      refine lv_istore (lv' := [(6, .int (0 : Int32)), (5, .int x23), (0, .ref (am 1008)), (1, .int v1), (2, .int v2), (3, .int v3), (4, .int v4)]) hx hb dX8_fillRow_109 hl (by decide) rfl (fun ls hl => ?_)
      obtain ⟨y24, hc25, ho⟩ := bd_some ho
      obtain ⟨ny24, hc25⟩ := lp_to hc25
      refine x8_fillRow_L111 C0 ?_ ny24 _ _ hc25 _ _ _ hW (lv_sub hl [2, 3, 4, 5, 6, 1, 0] rfl)
      intro H locs ls hW hl
      obtain ⟨x26, ex26, ho⟩ := nm_x ho
      refine lv_iinc (v := x26) (lv' := [(4, .int x26), (0, .ref (am 1008)), (1, .int v1), (2, .int v2), (3, .int v3)]) hx hb dX8_fillRow_177 hl (k := 4) rfl (by rw [ex26]; rfl) (by decide) rfl (fun ls hl => ?_)
      clear ex26
      refine lv_goto (tgt := 72) hx hb dX8_fillRow_180 (by decide) ?_
      cases ho
      exact ih _ _ hrun _ _ _ hW (lv_sub hl [1, 2, 3, 4, 0] rfl)
set_option maxHeartbeats 4000000 in
set_option maxRecDepth 100000 in
theorem c_x8_fillRow (l : Launch) {D : va_G} {cI cJ cZ cR : ClassId} {am gm : Nat → Nat} {st : Nat} (sz : Nat) (t : St) (a1 : Int32) {t' : St} (ho : x8_fillRow t a1 = some t') : Met l yX8_fillRow (.code yX8_fillRow cX8_fillRow 7 none :: wsAll) (rmN 1 22) (va_Pc [.ref (am 1008), .int a1] (prX D (tyX cI cJ cZ cR) (wX cI cJ cZ cR am gm t) sz st)) (qV D (tyX cI cJ cZ cR) (wX cI cJ cZ cR am gm t') (va_A (wX cI cJ cZ cR am gm t) sz)) 0 0 (va_A (wX cI cJ cZ cR am gm t) sz) := by
  refine Met.ofW (cc := cX8_fillRow) (maxL := 7) (ret := none) (by decide) rfl ?_
  intro p e s m args below meth c s₁ B hml hv
  obtain ⟨rfl, ⟨hsz, hP, hK, hD0⟩, hsx⟩ := hv
  have hx := B.exec
  have hb := B.bytes
  have hts := atoms_spec (ws := (.code yX8_fillRow cX8_fillRow 7 none :: wsAll)) B.pre
  have hta := fun w h => hts w (List.mem_cons_of_mem _ h)
  have hown : s.vm.findClass RX8 = some m.cls := findClass_of_methodNamed B.named
  have hlocks := B.notSynchronized
  subst hsz
  have hD := hD0.self (sz := s.heap.size)
  generalize hAe : va_A (wX cI cJ cZ cR am gm t) s.heap.size = A at hD ⊢
  have hA : ∀ q : Nat, s.heap.size ≤ q → A q := fun q h => by rw [← hAe]; exact Or.inr h
  have C0 : cxX p s m ([.ref (am 1008), .int a1].toArray) meth c cX8_fillRow RX8 7 none D (tyX cI cJ cZ cR) st A := ⟨⟨hx, hb, B.returns, hml, hown, hta, hlocks, hK, hA⟩, by rw [← hAe]; exact hsx⟩
  have hW : wl D A s (wX cI cJ cZ cR am gm t) s.heap [] := ⟨hP, hD, va_S.rf⟩
  have hl := lv_entry [.ref (am 1008), .int a1] (n := 7) (Nat.le_of_ble_eq_true rfl)
  rw [lg_entry_eq]
  generalize (lg_sl [.ref (am 1008), .int a1] ++ List.replicate (7 - (lg_sl [.ref (am 1008), .int a1]).length) Slot.unset).toArray = ls at hl ⊢
  have hl : lv_has ls 7 [(0, .ref (am 1008)), (1, .int a1)] := hl
  clear hAe hD hP hD0 hts
  have J30 : ∀ (t : St) (v1 : Int32) (v2 : Int32) (w0 : Int32) (_ : x8_fillRow_J30 t v1 v2 w0 = some t') (H : Heap) (locs : List Loc) (ls : Array Slot), wl D A s (wX cI cJ cZ cR am gm t) H locs → lv_has ls 7 [(0, .ref (am 1008)), (1, .int v1), (2, .int v2)] → W p l e (rmN 1 22) s m ([.ref (am 1008), .int a1].toArray) below meth c H locs 0 0 (MQ below (qV D (tyX cI cJ cZ cR) (wX cI cJ cZ cR am gm t') A) ([.ref (am 1008), .int a1].toArray) s 0 0 A) (F0 m 30 ls [.int w0]) := by
    intro t v1 v2 w0 ho H locs ls hW hl
    unfold x8_fillRow_J30 at ho
    refine lv_istore_n (lv' := [(3, .int w0), (0, .ref (am 1008)), (1, .int v1), (2, .int v2)]) hx hb dX8_fillRow_30 rfl hl (by decide) rfl (fun ls hl => ?_)
    refine lv_iconst (v := (0 : Int32)) hx hb dX8_fillRow_31 (by decide) ?_
    refine lv_istore (lv' := [(4, .int (0 : Int32)), (3, .int w0), (0, .ref (am 1008)), (1, .int v1), (2, .int v2)]) hx hb dX8_fillRow_32 hl (by decide) rfl (fun ls hl => ?_)
    obtain ⟨y27, hc28, ho⟩ := bd_some ho
    obtain ⟨ny27, hc28⟩ := lp_to hc28
    refine x8_fillRow_L34 C0 ?_ ny27 _ _ hc28 _ _ _ hW (lv_sub hl [2, 3, 4, 1, 0] rfl)
    intro H locs ls hW hl
    refine lv_iconst (v := (0 : Int32)) hx hb dX8_fillRow_69 (by decide) ?_
    refine lv_istore (lv' := [(4, .int (0 : Int32)), (0, .ref (am 1008)), (1, .int v1), (2, .int v2), (3, .int w0)]) hx hb dX8_fillRow_70 hl (by decide) rfl (fun ls hl => ?_)
    obtain ⟨y29, hc30, ho⟩ := bd_some ho
    obtain ⟨ny29, hc30⟩ := lp_to hc30
    refine x8_fillRow_L72 C0 ?_ ny29 _ _ hc30 _ _ _ hW (lv_sub hl [1, 2, 3, 4, 0] rfl)
    intro H locs ls hW hl
    cases ho
    exact rtV C0.1 hW dX8_fillRow_183
  unfold x8_fillRow at ho
  refine lv_aload_n hx hb dX8_fillRow_0 rfl (lv_at hl 0 rfl) ?_
  refine xGET_812 C0 kw_289 hW dX8_fillRow_1 ?_
  refine lv_iload_n hx hb dX8_fillRow_4 rfl (lv_at hl 1 rfl) ?_
  obtain ⟨g31, ho⟩ := gd_some ho
  refine xLD_812 C0 hW g31 dX8_fillRow_5 ?_
  refine lv_aload_n hx hb dX8_fillRow_6 rfl (lv_at hl 0 rfl) ?_
  refine xGET_804 C0 kw_278 hW dX8_fillRow_7 ?_
  refine lv_imul hx hb dX8_fillRow_10 ?_
  refine lv_nmi ho (fun x32 ho => ?_)
  refine lv_istore_n (lv' := [(2, .int x32), (0, .ref (am 1008)), (1, .int a1)]) hx hb dX8_fillRow_11 rfl hl (by decide) rfl (fun ls hl => ?_)
  refine lv_aload_n hx hb dX8_fillRow_12 rfl (lv_at hl 1 rfl) ?_
  refine xGET_800 C0 kw_269 hW dX8_fillRow_13 ?_
  refine xGET_603 C0 kw_187 hW dX8_fillRow_16 ?_
  refine lv_iload_n hx hb dX8_fillRow_19 rfl (lv_at hl 2 rfl) ?_
  obtain ⟨g33, ho⟩ := gd_some ho
  refine xLD_603 C0 hW g33 dX8_fillRow_20 ?_
  refine lv_iconst (v := (1 : Int32)) hx hb dX8_fillRow_21 (by decide) ?_
  refine lv_icmp_ne (tgt := 29) hx hb dX8_fillRow_22 (by decide) (fun c34 => ?_) (fun c34 => ?_)
  · replace ho := ite_f c34 ho
    refine lv_iconst (v := (0 : Int32)) hx hb dX8_fillRow_29 (by decide) ?_
    exact J30 _ _ _ _ ho _ _ _ hW (lv_sub hl [1, 2, 0] rfl)
  · replace ho := ite_t c34 ho
    refine lv_iconst (v := (1 : Int32)) hx hb dX8_fillRow_25 (by decide) ?_
    refine lv_goto (tgt := 30) hx hb dX8_fillRow_26 (by decide) ?_
    exact J30 _ _ _ _ ho _ _ _ hW (lv_sub hl [1, 2, 0] rfl)
noncomputable def j7_fill_d0a16_814_B6 (v1 : Int64) (v4 : Int32) (v3 : Int32) (t : St) : Option ((Int32 × St) ⊕ (St)) :=
  if v4 ≤ v3 then (some (.inr t)) else (gd v3 (gN t 814) (nm (sB t 814 v3 v1) (fun t3 : St => nm (v3 + (1 : Int32)) (fun x4 : Int32 => some (.inl (x4, t3))))))
noncomputable def j7_fill_d0a16_814 (t : St) (a1 : Int64) : Option (St) :=
  nm (Int32.ofNat (gN t 814)) (fun x5 : Int32 => (lp (fun x => j7_fill_d0a16_814_B6 a1 x5 x.1 x.2) ((0 : Int32), t)).bind (fun y6 => some y6))
set_option maxHeartbeats 4000000 in
set_option maxRecDepth 100000 in
theorem j7_fill_d0a16_814_L6 {p : Program} {l : Launch} {e : Env} {s : State} {m : MethodId} {args : Array Value} {below : List Frame} {meth : Method} {c : Code} {Q : State → Prop} {D : va_G} {cI cJ cZ cR : ClassId} {am gm : Nat → Nat} {st : Nat} {A : Nat → Prop} (C0 : cxX p s m args meth c cJ7_fill_d0a16 RJ7 5 none D (tyX cI cJ cZ cR) st A) {v1 : Int64} {v4 : Int32} {y : St} (hK0 : ∀ (H : Heap) (locs : List Loc) (ls : Array Slot), wl D A s (wX cI cJ cZ cR am gm y) H locs → lv_has ls 5 [] → W p l e (rmN 0 0) s m args below meth c H locs 0 0 Q (F0 m 22 ls [])) :
    ∀ (n : Nat) (v3 : Int32) (t : St), lpn (fun x => j7_fill_d0a16_814_B6 v1 v4 x.1 x.2) n (v3, t) = some y → ∀ (H : Heap) (locs : List Loc) (ls : Array Slot), wl D A s (wX cI cJ cZ cR am gm t) H locs → lv_has ls 5 [(0, .ref (am 814)), (1, .long v1), (3, .int v3), (4, .int v4)] → W p l e (rmN 0 0) s m args below meth c H locs 0 0 Q (F0 m 6 ls []) := by
  have hx := C0.1.1
  have hb := C0.1.2.1
  have hta := C0.1.2.2.2.2.2.1
  have hown := C0.1.2.2.2.2.1
  intro n
  induction n with
  | zero => intro _ _ h; cases h
  | succ n ih =>
    intro v3 t hrun H locs ls hW hl
    obtain ⟨o, ho, hrun⟩ := bd_some hrun
    unfold j7_fill_d0a16_814_B6 at ho
    refine lv_iload_n hx hb dJ7_fill_d0a16_6 rfl (lv_at hl 2 rfl) ?_
    refine lv_iload hx hb dJ7_fill_d0a16_7 (lv_at hl 3 rfl) ?_
    refine lv_icmp_ge (tgt := 22) hx hb dJ7_fill_d0a16_9 (by decide) (fun c1 => ?_) (fun c1 => ?_)
    · replace ho := ite_t c1 ho
      cases ho
      cases hrun
      exact hK0 _ _ _ hW (lv_sub hl [] rfl)
    · replace ho := ite_f c1 ho
      refine lv_aload_n hx hb dJ7_fill_d0a16_12 rfl (lv_at hl 0 rfl) ?_
      refine lv_iload_n hx hb dJ7_fill_d0a16_13 rfl (lv_at hl 2 rfl) ?_
      refine lv_lload_n hx hb dJ7_fill_d0a16_14 rfl (lv_at hl 1 rfl) ?_
      obtain ⟨g2, ho⟩ := gd_some ho
      refine xST_814 C0 hW g2 dJ7_fill_d0a16_15 (fun H locs hW => ?_)
      obtain ⟨t3, ho, hW⟩ := nm_w (P := fun t => wl D A s (wX cI cJ cZ cR am gm t) H locs) ho hW
      obtain ⟨x4, ex4, ho⟩ := nm_x ho
      refine lv_iinc (v := x4) (lv' := [(3, .int x4), (0, .ref (am 814)), (1, .long v1), (4, .int v4)]) hx hb dJ7_fill_d0a16_16 hl (k := 2) rfl (by rw [ex4]; rfl) (by decide) rfl (fun ls hl => ?_)
      clear ex4
      refine lv_goto (tgt := 6) hx hb dJ7_fill_d0a16_19 (by decide) ?_
      cases ho
      exact ih _ _ hrun _ _ _ hW (lv_sub hl [1, 2, 0, 3] rfl)
set_option maxHeartbeats 4000000 in
set_option maxRecDepth 100000 in
theorem c_j7_fill_d0a16_814 (l : Launch) {D : va_G} {cI cJ cZ cR : ClassId} {am gm : Nat → Nat} {st : Nat} (sz : Nat) (t : St) (a1 : Int64) {t' : St} (ho : j7_fill_d0a16_814 t a1 = some t') : Met l yJ7_fill_d0a16 (.code yJ7_fill_d0a16 cJ7_fill_d0a16 5 none :: wsAll) (rmN 0 0) (va_Pc [.ref (am 814), .long a1] (prX D (tyX cI cJ cZ cR) (wX cI cJ cZ cR am gm t) sz st)) (qV D (tyX cI cJ cZ cR) (wX cI cJ cZ cR am gm t') (va_A (wX cI cJ cZ cR am gm t) sz)) 0 0 (va_A (wX cI cJ cZ cR am gm t) sz) := by
  refine Met.ofW (cc := cJ7_fill_d0a16) (maxL := 5) (ret := none) (by decide) rfl ?_
  intro p e s m args below meth c s₁ B hml hv
  obtain ⟨rfl, ⟨hsz, hP, hK, hD0⟩, hsx⟩ := hv
  have hx := B.exec
  have hb := B.bytes
  have hts := atoms_spec (ws := (.code yJ7_fill_d0a16 cJ7_fill_d0a16 5 none :: wsAll)) B.pre
  have hta := fun w h => hts w (List.mem_cons_of_mem _ h)
  have hown : s.vm.findClass RJ7 = some m.cls := findClass_of_methodNamed B.named
  have hlocks := B.notSynchronized
  subst hsz
  have hD := hD0.self (sz := s.heap.size)
  generalize hAe : va_A (wX cI cJ cZ cR am gm t) s.heap.size = A at hD ⊢
  have hA : ∀ q : Nat, s.heap.size ≤ q → A q := fun q h => by rw [← hAe]; exact Or.inr h
  have C0 : cxX p s m ([.ref (am 814), .long a1].toArray) meth c cJ7_fill_d0a16 RJ7 5 none D (tyX cI cJ cZ cR) st A := ⟨⟨hx, hb, B.returns, hml, hown, hta, hlocks, hK, hA⟩, by rw [← hAe]; exact hsx⟩
  have hW : wl D A s (wX cI cJ cZ cR am gm t) s.heap [] := ⟨hP, hD, va_S.rf⟩
  have hl := lv_entry [.ref (am 814), .long a1] (n := 5) (Nat.le_of_ble_eq_true rfl)
  rw [lg_entry_eq]
  generalize (lg_sl [.ref (am 814), .long a1] ++ List.replicate (5 - (lg_sl [.ref (am 814), .long a1]).length) Slot.unset).toArray = ls at hl ⊢
  have hl : lv_has ls 5 [(0, .ref (am 814)), (1, .long a1)] := hl
  unfold j7_fill_d0a16_814 at ho
  refine lv_iconst (v := (0 : Int32)) hx hb dJ7_fill_d0a16_0 (by decide) ?_
  refine lv_istore_n (lv' := [(3, .int (0 : Int32)), (0, .ref (am 814)), (1, .long a1)]) hx hb dJ7_fill_d0a16_1 rfl hl (by decide) rfl (fun ls hl => ?_)
  refine lv_aload_n hx hb dJ7_fill_d0a16_2 rfl (lv_at hl 1 rfl) ?_
  refine xLEN_814 C0 hW dJ7_fill_d0a16_3 ?_
  refine lv_nmi ho (fun x5 ho => ?_)
  refine lv_istore (lv' := [(4, .int x5), (3, .int (0 : Int32)), (0, .ref (am 814)), (1, .long a1)]) hx hb dJ7_fill_d0a16_4 hl (by decide) rfl (fun ls hl => ?_)
  obtain ⟨y6, hc7, ho⟩ := bd_some ho
  obtain ⟨ny6, hc7⟩ := lp_to hc7
  refine j7_fill_d0a16_814_L6 C0 ?_ ny6 _ _ hc7 _ _ _ hW (lv_sub hl [2, 3, 1, 0] rfl)
  intro H locs ls hW hl
  cases ho
  exact rtV C0.1 hW dJ7_fill_d0a16_22
noncomputable def x8_fillSome_B96 (v1 : Int32) (v2 : Int32) (v3 : Int32) (v4 : Int32) (v5 : Int64) (v7 : Int32) (t : St) : Option ((Int32 × St) ⊕ (St)) :=
  if v7 ≤ 0 then (some (.inr t)) else (gd v7 (gN t 814) (gd (v7 - (1 : Int32)) (gN t 814) (gd v7 (gN t 814) (nm (sB t 814 v7 ((gB t 814 (v7).toNatClampNeg) ||| ((gB t 814 ((v7 - (1 : Int32))).toNatClampNeg) &&& v5))) (fun t5 : St => nm (v7 + (-1 : Int32)) (fun x6 : Int32 => some (.inl (x6, t5))))))))
noncomputable def x8_fillSome_B50 (v1 : Int32) (v2 : Int32) (v3 : Int32) (v4 : Int32) (t : St) : Option ((Int32 × St) ⊕ (St)) :=
  gd v1 (gN t 604) (if (gA t 604 (v1).toNatClampNeg) ≤ v4 then (some (.inr t)) else ((x6_partOf t v1 v4).bind (fun q9 => gd q9 (gN t 812) (gd (((gA t 812 (q9).toNatClampNeg) * (gI t 804)) + v3) (gN t 808) (nm (gB t 808 ((((gA t 812 (q9).toNatClampNeg) * (gI t 804)) + v3)).toNatClampNeg) (fun x13 : Int64 => (lp (fun x => x8_fillSome_B96 v1 v2 v3 v4 x13 x.1 x.2) (v2, t)).bind (fun y14 => nm (v4 + (1 : Int32)) (fun x16 : Int32 => some (.inl (x16, y14))))))))))
noncomputable def x8_fillSome_B22 (v1 : Int32) (v2 : Int32) (v3 : Int32) (t : St) : Option ((Int32 × St) ⊕ (St)) :=
  if (gI t 804) ≤ v3 then (some (.inr t)) else ((j7_fill_d0a16_814 t (0 : Int64)).bind (fun q18 => gd (0 : Int32) (gN q18 814) (nm (sB q18 814 (0 : Int32) (-1 : Int64)) (fun t21 : St => (lp (fun x => x8_fillSome_B50 v1 v2 v3 x.1 x.2) ((0 : Int32), t21)).bind (fun y22 => gd v1 (gN y22 812) (gd v2 (gN y22 814) (gd (((gA y22 812 (v1).toNatClampNeg) * (gI y22 804)) + v3) (gN y22 808) (nm (sB y22 808 (((gA y22 812 (v1).toNatClampNeg) * (gI y22 804)) + v3) (gB y22 814 (v2).toNatClampNeg)) (fun t27 : St => nm (v3 + (1 : Int32)) (fun x28 : Int32 => some (.inl (x28, t27))))))))))))
noncomputable def x8_fillSome (t : St) (a1 : Int32) : Option (St) :=
  gd a1 (gN t 605) (nm (if ((Int32.ofNat (gN t 814)) - (1 : Int32)) < (gA t 605 (a1).toNatClampNeg) then ((Int32.ofNat (gN t 814)) - (1 : Int32)) else (gA t 605 (a1).toNatClampNeg)) (fun x30 : Int32 => (lp (fun x => x8_fillSome_B22 a1 x30 x.1 x.2) ((0 : Int32), t)).bind (fun y31 => some y31)))
set_option maxHeartbeats 4000000 in
set_option maxRecDepth 100000 in
theorem x8_fillSome_L96 {p : Program} {l : Launch} {e : Env} {s : State} {m : MethodId} {args : Array Value} {below : List Frame} {meth : Method} {c : Code} {Q : State → Prop} {D : va_G} {cI cJ cZ cR : ClassId} {am gm : Nat → Nat} {st : Nat} {A : Nat → Prop} (C0 : cxX p s m args meth c cX8_fillSome RX8 8 none D (tyX cI cJ cZ cR) st A) {v1 : Int32} {v2 : Int32} {v3 : Int32} {v4 : Int32} {v5 : Int64} {y : St} (hK0 : ∀ (H : Heap) (locs : List Loc) (ls : Array Slot), wl D A s (wX cI cJ cZ cR am gm y) H locs → lv_has ls 8 [(0, .ref (am 1008)), (1, .int v1), (2, .int v2), (3, .int v3), (4, .int v4)] → W p l e (rmN 1 24) s m args below meth c H locs 0 0 Q (F0 m 129 ls [])) :
    ∀ (n : Nat) (v7 : Int32) (t : St), lpn (fun x => x8_fillSome_B96 v1 v2 v3 v4 v5 x.1 x.2) n (v7, t) = some y → ∀ (H : Heap) (locs : List Loc) (ls : Array Slot), wl D A s (wX cI cJ cZ cR am gm t) H locs → lv_has ls 8 [(0, .ref (am 1008)), (1, .int v1), (2, .int v2), (3, .int v3), (4, .int v4), (5, .long v5), (7, .int v7)] → W p l e (rmN 1 24) s m args below meth c H locs 0 0 Q (F0 m 96 ls []) := by
  have hx := C0.1.1
  have hb := C0.1.2.1
  have hta := C0.1.2.2.2.2.2.1
  have hown := C0.1.2.2.2.2.1
  intro n
  induction n with
  | zero => intro _ _ h; cases h
  | succ n ih =>
    intro v7 t hrun H locs ls hW hl
    obtain ⟨o, ho, hrun⟩ := bd_some hrun
    unfold x8_fillSome_B96 at ho
    refine lv_iload hx hb dX8_fillSome_96 (lv_at hl 6 rfl) ?_
    refine lv_if_le (tgt := 129) hx hb dX8_fillSome_98 (by decide) (fun c1 => ?_) (fun c1 => ?_)
    · replace ho := ite_t c1 ho
      cases ho
      cases hrun
      exact hK0 _ _ _ hW (lv_sub hl [0, 1, 2, 3, 4] rfl)
    · replace ho := ite_f c1 ho
      refine lv_aload_n hx hb dX8_fillSome_101 rfl (lv_at hl 0 rfl) ?_
      refine xGET_814 C0 kw_291 hW dX8_fillSome_102 ?_
      refine lv_iload hx hb dX8_fillSome_105 (lv_at hl 6 rfl) ?_
      refine lv_dup2_11 hx hb dX8_fillSome_107 rfl rfl ?_
      obtain ⟨g2, ho⟩ := gd_some ho
      refine xLD_814 C0 hW g2 dX8_fillSome_108 ?_
      refine lv_aload_n hx hb dX8_fillSome_109 rfl (lv_at hl 0 rfl) ?_
      refine xGET_814 C0 kw_291 hW dX8_fillSome_110 ?_
      refine lv_iload hx hb dX8_fillSome_113 (lv_at hl 6 rfl) ?_
      refine lv_iconst (v := (1 : Int32)) hx hb dX8_fillSome_115 (by decide) ?_
      refine lv_isub hx hb dX8_fillSome_116 ?_
      obtain ⟨g3, ho⟩ := gd_some ho
      refine xLD_814 C0 hW g3 dX8_fillSome_117 ?_
      refine lv_lload hx hb dX8_fillSome_118 (lv_at hl 5 rfl) ?_
      refine lv_land hx hb dX8_fillSome_120 ?_
      refine lv_lor hx hb dX8_fillSome_121 ?_
      obtain ⟨g4, ho⟩ := gd_some ho
      refine xST_814 C0 hW g4 dX8_fillSome_122 (fun H locs hW => ?_)
      obtain ⟨t5, ho, hW⟩ := nm_w (P := fun t => wl D A s (wX cI cJ cZ cR am gm t) H locs) ho hW
      obtain ⟨x6, ex6, ho⟩ := nm_x ho
      refine lv_iinc (v := x6) (lv' := [(7, .int x6), (0, .ref (am 1008)), (1, .int v1), (2, .int v2), (3, .int v3), (4, .int v4), (5, .long v5)]) hx hb dX8_fillSome_123 hl (k := 6) rfl (by rw [ex6]; rfl) (by decide) rfl (fun ls hl => ?_)
      clear ex6
      refine lv_goto (tgt := 96) hx hb dX8_fillSome_126 (by decide) ?_
      cases ho
      exact ih _ _ hrun _ _ _ hW (lv_sub hl [1, 2, 3, 4, 5, 6, 0] rfl)
set_option maxHeartbeats 4000000 in
set_option maxRecDepth 100000 in
theorem x8_fillSome_L50 {p : Program} {l : Launch} {e : Env} {s : State} {m : MethodId} {args : Array Value} {below : List Frame} {meth : Method} {c : Code} {Q : State → Prop} {D : va_G} {cI cJ cZ cR : ClassId} {am gm : Nat → Nat} {st : Nat} {A : Nat → Prop} (C0 : cxX p s m args meth c cX8_fillSome RX8 8 none D (tyX cI cJ cZ cR) st A) {v1 : Int32} {v2 : Int32} {v3 : Int32} {y : St} (hK0 : ∀ (H : Heap) (locs : List Loc) (ls : Array Slot), wl D A s (wX cI cJ cZ cR am gm y) H locs → lv_has ls 8 [(0, .ref (am 1008)), (1, .int v1), (2, .int v2), (3, .int v3)] → W p l e (rmN 1 24) s m args below meth c H locs 0 0 Q (F0 m 135 ls [])) :
    ∀ (n : Nat) (v4 : Int32) (t : St), lpn (fun x => x8_fillSome_B50 v1 v2 v3 x.1 x.2) n (v4, t) = some y → ∀ (H : Heap) (locs : List Loc) (ls : Array Slot), wl D A s (wX cI cJ cZ cR am gm t) H locs → lv_has ls 8 [(0, .ref (am 1008)), (1, .int v1), (2, .int v2), (3, .int v3), (4, .int v4)] → W p l e (rmN 1 24) s m args below meth c H locs 0 0 Q (F0 m 50 ls []) := by
  have hx := C0.1.1
  have hb := C0.1.2.1
  have hta := C0.1.2.2.2.2.2.1
  have hown := C0.1.2.2.2.2.1
  intro n
  induction n with
  | zero => intro _ _ h; cases h
  | succ n ih =>
    intro v4 t hrun H locs ls hW hl
    obtain ⟨o, ho, hrun⟩ := bd_some hrun
    unfold x8_fillSome_B50 at ho
    refine lv_iload hx hb dX8_fillSome_50 (lv_at hl 4 rfl) ?_
    refine lv_aload_n hx hb dX8_fillSome_52 rfl (lv_at hl 0 rfl) ?_
    refine xGET_800 C0 kw_269 hW dX8_fillSome_53 ?_
    refine xGET_604 C0 kw_191 hW dX8_fillSome_56 ?_
    refine lv_iload_n hx hb dX8_fillSome_59 rfl (lv_at hl 1 rfl) ?_
    obtain ⟨g7, ho⟩ := gd_some ho
    refine xLD_604 C0 hW g7 dX8_fillSome_60 ?_
    refine lv_icmp_ge (tgt := 135) hx hb dX8_fillSome_61 (by decide) (fun c8 => ?_) (fun c8 => ?_)
    · replace ho := ite_t c8 ho
      cases ho
      cases hrun
      exact hK0 _ _ _ hW (lv_sub hl [0, 1, 2, 3] rfl)
    · replace ho := ite_f c8 ho
      refine lv_aload_n hx hb dX8_fillSome_64 rfl (lv_at hl 0 rfl) ?_
      refine xGET_808 C0 kw_285 hW dX8_fillSome_65 ?_
      refine lv_aload_n hx hb dX8_fillSome_68 rfl (lv_at hl 0 rfl) ?_
      refine xGET_812 C0 kw_289 hW dX8_fillSome_69 ?_
      refine lv_aload_n hx hb dX8_fillSome_72 rfl (lv_at hl 0 rfl) ?_
      refine xGET_800 C0 kw_269 hW dX8_fillSome_73 ?_
      refine lv_iload_n hx hb dX8_fillSome_76 rfl (lv_at hl 1 rfl) ?_
      refine lv_iload hx hb dX8_fillSome_77 (lv_at hl 4 rfl) ?_
      obtain ⟨q9, hc10, ho⟩ := bd_some ho
      refine bkI C0.1 hW (runVX (As := [.int v1, .int v4]) (rest := [.ref (am 812), .ref (gm 808)]) C0 hW (c_x6_partOf l _ t v1 v4 (r := q9) hc10) cb_X8_X6_partOf_107 6 6 rfl rfl rfl rfl rfl ⟨rfl, rfl⟩ ⟨Nat.le_of_ble_eq_true rfl, Nat.le_of_ble_eq_true rfl⟩ (Nat.le_of_ble_eq_true rfl) hl.1 dX8_fillSome_79 ⟨Nat.le_of_ble_eq_true rfl, Nat.le_of_ble_eq_true rfl⟩) (fun H locs hW => ?_)
      obtain ⟨g11, ho⟩ := gd_some ho
      refine xLD_812 C0 hW g11 dX8_fillSome_82 ?_
      refine lv_aload_n hx hb dX8_fillSome_83 rfl (lv_at hl 0 rfl) ?_
      refine xGET_804 C0 kw_278 hW dX8_fillSome_84 ?_
      refine lv_imul hx hb dX8_fillSome_87 ?_
      refine lv_iload_n hx hb dX8_fillSome_88 rfl (lv_at hl 3 rfl) ?_
      refine lv_iadd hx hb dX8_fillSome_89 ?_
      obtain ⟨g12, ho⟩ := gd_some ho
      refine xLD_808 C0 hW g12 dX8_fillSome_90 ?_
      refine lv_nml ho (fun x13 ho => ?_)
      refine lv_lstore (lv' := [(5, .long x13), (0, .ref (am 1008)), (1, .int v1), (2, .int v2), (3, .int v3), (4, .int v4)]) hx hb dX8_fillSome_91 hl (by decide) rfl (fun ls hl => ?_)
      refine lv_iload_n hx hb dX8_fillSome_93 rfl (lv_at hl 3 rfl) ?_
      refine lv_istore (lv' := [(7, .int v2), (5, .long x13), (0, .ref (am 1008)), (1, .int v1), (2, .int v2), (3, .int v3), (4, .int v4)]) hx hb dX8_fillSome_94 hl (by decide) rfl (fun ls hl => ?_)
      obtain ⟨y14, hc15, ho⟩ := bd_some ho
      obtain ⟨ny14, hc15⟩ := lp_to hc15
      refine x8_fillSome_L96 C0 ?_ ny14 _ _ hc15 _ _ _ hW (lv_sub hl [2, 3, 4, 5, 6, 1, 0] rfl)
      intro H locs ls hW hl
      obtain ⟨x16, ex16, ho⟩ := nm_x ho
      refine lv_iinc (v := x16) (lv' := [(4, .int x16), (0, .ref (am 1008)), (1, .int v1), (2, .int v2), (3, .int v3)]) hx hb dX8_fillSome_129 hl (k := 4) rfl (by rw [ex16]; rfl) (by decide) rfl (fun ls hl => ?_)
      clear ex16
      refine lv_goto (tgt := 50) hx hb dX8_fillSome_132 (by decide) ?_
      cases ho
      exact ih _ _ hrun _ _ _ hW (lv_sub hl [1, 2, 3, 4, 0] rfl)
set_option maxHeartbeats 4000000 in
set_option maxRecDepth 100000 in
theorem x8_fillSome_L22 {p : Program} {l : Launch} {e : Env} {s : State} {m : MethodId} {args : Array Value} {below : List Frame} {meth : Method} {c : Code} {Q : State → Prop} {D : va_G} {cI cJ cZ cR : ClassId} {am gm : Nat → Nat} {st : Nat} {A : Nat → Prop} (C0 : cxX p s m args meth c cX8_fillSome RX8 8 none D (tyX cI cJ cZ cR) st A) {v1 : Int32} {v2 : Int32} {y : St} (hK0 : ∀ (H : Heap) (locs : List Loc) (ls : Array Slot), wl D A s (wX cI cJ cZ cR am gm y) H locs → lv_has ls 8 [(0, .ref (am 1008))] → W p l e (rmN 1 24) s m args below meth c H locs 0 0 Q (F0 m 165 ls [])) :
    ∀ (n : Nat) (v3 : Int32) (t : St), lpn (fun x => x8_fillSome_B22 v1 v2 x.1 x.2) n (v3, t) = some y → ∀ (H : Heap) (locs : List Loc) (ls : Array Slot), wl D A s (wX cI cJ cZ cR am gm t) H locs → lv_has ls 8 [(0, .ref (am 1008)), (1, .int v1), (2, .int v2), (3, .int v3)] → W p l e (rmN 1 24) s m args below meth c H locs 0 0 Q (F0 m 22 ls []) := by
  have hx := C0.1.1
  have hb := C0.1.2.1
  have hta := C0.1.2.2.2.2.2.1
  have hown := C0.1.2.2.2.2.1
  intro n
  induction n with
  | zero => intro _ _ h; cases h
  | succ n ih =>
    intro v3 t hrun H locs ls hW hl
    obtain ⟨o, ho, hrun⟩ := bd_some hrun
    unfold x8_fillSome_B22 at ho
    refine lv_iload_n hx hb dX8_fillSome_22 rfl (lv_at hl 3 rfl) ?_
    refine lv_aload_n hx hb dX8_fillSome_23 rfl (lv_at hl 0 rfl) ?_
    refine xGET_804 C0 kw_278 hW dX8_fillSome_24 ?_
    refine lv_icmp_ge (tgt := 165) hx hb dX8_fillSome_27 (by decide) (fun c17 => ?_) (fun c17 => ?_)
    · replace ho := ite_t c17 ho
      cases ho
      cases hrun
      exact hK0 _ _ _ hW (lv_sub hl [0] rfl)
    · replace ho := ite_f c17 ho
      refine lv_aload_n hx hb dX8_fillSome_30 rfl (lv_at hl 0 rfl) ?_
      refine xGET_814 C0 kw_291 hW dX8_fillSome_31 ?_
      refine lv_lconst (v := (0 : Int64)) hx hb dX8_fillSome_34 (by decide) ?_
      obtain ⟨q18, hc19, ho⟩ := bd_some ho
      refine bkV C0.1 hW (runSX (As := [.ref (am 814), .long (0 : Int64)]) (rest := []) C0 hW (c_j7_fill_d0a16_814 l _ t (0 : Int64) (t' := q18) hc19) cb_X8_J7_fill_d0a16_125 rfl rfl ⟨rfl, rfl⟩ ⟨Nat.le_of_ble_eq_true rfl, Nat.le_of_ble_eq_true rfl⟩ (Nat.le_of_ble_eq_true rfl) hl.1 dX8_fillSome_35 ⟨Nat.le_of_ble_eq_true rfl, Nat.le_of_ble_eq_true rfl⟩) (fun H locs hW => ?_)
      refine lv_aload_n hx hb dX8_fillSome_38 rfl (lv_at hl 0 rfl) ?_
      refine xGET_814 C0 kw_291 hW dX8_fillSome_39 ?_
      refine lv_iconst (v := (0 : Int32)) hx hb dX8_fillSome_42 (by decide) ?_
      refine lv_ldc2 hx hb hown (hta _ kw_837) dX8_fillSome_43 ?_
      obtain ⟨g20, ho⟩ := gd_some ho
      refine xST_814 C0 hW g20 dX8_fillSome_46 (fun H locs hW => ?_)
      obtain ⟨t21, ho, hW⟩ := nm_w (P := fun t => wl D A s (wX cI cJ cZ cR am gm t) H locs) ho hW
      refine lv_iconst (v := (0 : Int32)) hx hb dX8_fillSome_47 (by decide) ?_
      refine lv_istore (lv' := [(4, .int (0 : Int32)), (0, .ref (am 1008)), (1, .int v1), (2, .int v2), (3, .int v3)]) hx hb dX8_fillSome_48 hl (by decide) rfl (fun ls hl => ?_)
      obtain ⟨y22, hc23, ho⟩ := bd_some ho
      obtain ⟨ny22, hc23⟩ := lp_to hc23
      refine x8_fillSome_L50 C0 ?_ ny22 _ _ hc23 _ _ _ hW (lv_sub hl [1, 2, 3, 4, 0] rfl)
      intro H locs ls hW hl
      refine lv_aload_n hx hb dX8_fillSome_135 rfl (lv_at hl 0 rfl) ?_
      refine xGET_808 C0 kw_285 hW dX8_fillSome_136 ?_
      refine lv_aload_n hx hb dX8_fillSome_139 rfl (lv_at hl 0 rfl) ?_
      refine xGET_812 C0 kw_289 hW dX8_fillSome_140 ?_
      refine lv_iload_n hx hb dX8_fillSome_143 rfl (lv_at hl 1 rfl) ?_
      obtain ⟨g24, ho⟩ := gd_some ho
      refine xLD_812 C0 hW g24 dX8_fillSome_144 ?_
      refine lv_aload_n hx hb dX8_fillSome_145 rfl (lv_at hl 0 rfl) ?_
      refine xGET_804 C0 kw_278 hW dX8_fillSome_146 ?_
      refine lv_imul hx hb dX8_fillSome_149 ?_
      refine lv_iload_n hx hb dX8_fillSome_150 rfl (lv_at hl 3 rfl) ?_
      refine lv_iadd hx hb dX8_fillSome_151 ?_
      refine lv_aload_n hx hb dX8_fillSome_152 rfl (lv_at hl 0 rfl) ?_
      refine xGET_814 C0 kw_291 hW dX8_fillSome_153 ?_
      refine lv_iload_n hx hb dX8_fillSome_156 rfl (lv_at hl 2 rfl) ?_
      obtain ⟨g25, ho⟩ := gd_some ho
      refine xLD_814 C0 hW g25 dX8_fillSome_157 ?_
      obtain ⟨g26, ho⟩ := gd_some ho
      refine xST_808 C0 hW g26 dX8_fillSome_158 (fun H locs hW => ?_)
      obtain ⟨t27, ho, hW⟩ := nm_w (P := fun t => wl D A s (wX cI cJ cZ cR am gm t) H locs) ho hW
      obtain ⟨x28, ex28, ho⟩ := nm_x ho
      refine lv_iinc (v := x28) (lv' := [(3, .int x28), (0, .ref (am 1008)), (1, .int v1), (2, .int v2)]) hx hb dX8_fillSome_159 hl (k := 3) rfl (by rw [ex28]; rfl) (by decide) rfl (fun ls hl => ?_)
      clear ex28
      refine lv_goto (tgt := 22) hx hb dX8_fillSome_162 (by decide) ?_
      cases ho
      exact ih _ _ hrun _ _ _ hW (lv_sub hl [1, 2, 3, 0] rfl)
set_option maxHeartbeats 4000000 in
set_option maxRecDepth 100000 in
theorem c_x8_fillSome (l : Launch) {D : va_G} {cI cJ cZ cR : ClassId} {am gm : Nat → Nat} {st : Nat} (sz : Nat) (t : St) (a1 : Int32) {t' : St} (ho : x8_fillSome t a1 = some t') : Met l yX8_fillSome (.code yX8_fillSome cX8_fillSome 8 none :: wsAll) (rmN 1 24) (va_Pc [.ref (am 1008), .int a1] (prX D (tyX cI cJ cZ cR) (wX cI cJ cZ cR am gm t) sz st)) (qV D (tyX cI cJ cZ cR) (wX cI cJ cZ cR am gm t') (va_A (wX cI cJ cZ cR am gm t) sz)) 0 0 (va_A (wX cI cJ cZ cR am gm t) sz) := by
  refine Met.ofW (cc := cX8_fillSome) (maxL := 8) (ret := none) (by decide) rfl ?_
  intro p e s m args below meth c s₁ B hml hv
  obtain ⟨rfl, ⟨hsz, hP, hK, hD0⟩, hsx⟩ := hv
  have hx := B.exec
  have hb := B.bytes
  have hts := atoms_spec (ws := (.code yX8_fillSome cX8_fillSome 8 none :: wsAll)) B.pre
  have hta := fun w h => hts w (List.mem_cons_of_mem _ h)
  have hown : s.vm.findClass RX8 = some m.cls := findClass_of_methodNamed B.named
  have hlocks := B.notSynchronized
  subst hsz
  have hD := hD0.self (sz := s.heap.size)
  generalize hAe : va_A (wX cI cJ cZ cR am gm t) s.heap.size = A at hD ⊢
  have hA : ∀ q : Nat, s.heap.size ≤ q → A q := fun q h => by rw [← hAe]; exact Or.inr h
  have C0 : cxX p s m ([.ref (am 1008), .int a1].toArray) meth c cX8_fillSome RX8 8 none D (tyX cI cJ cZ cR) st A := ⟨⟨hx, hb, B.returns, hml, hown, hta, hlocks, hK, hA⟩, by rw [← hAe]; exact hsx⟩
  have hW : wl D A s (wX cI cJ cZ cR am gm t) s.heap [] := ⟨hP, hD, va_S.rf⟩
  have hl := lv_entry [.ref (am 1008), .int a1] (n := 8) (Nat.le_of_ble_eq_true rfl)
  rw [lg_entry_eq]
  generalize (lg_sl [.ref (am 1008), .int a1] ++ List.replicate (8 - (lg_sl [.ref (am 1008), .int a1]).length) Slot.unset).toArray = ls at hl ⊢
  have hl : lv_has ls 8 [(0, .ref (am 1008)), (1, .int a1)] := hl
  unfold x8_fillSome at ho
  refine lv_aload_n hx hb dX8_fillSome_0 rfl (lv_at hl 0 rfl) ?_
  refine xGET_800 C0 kw_269 hW dX8_fillSome_1 ?_
  refine xGET_605 C0 kw_196 hW dX8_fillSome_4 ?_
  refine lv_iload_n hx hb dX8_fillSome_7 rfl (lv_at hl 1 rfl) ?_
  obtain ⟨g29, ho⟩ := gd_some ho
  refine xLD_605 C0 hW g29 dX8_fillSome_8 ?_
  refine lv_aload_n hx hb dX8_fillSome_9 rfl (lv_at hl 0 rfl) ?_
  refine xGET_814 C0 kw_291 hW dX8_fillSome_10 ?_
  refine xLEN_814 C0 hW dX8_fillSome_13 ?_
  refine lv_iconst (v := (1 : Int32)) hx hb dX8_fillSome_14 (by decide) ?_
  refine lv_isub hx hb dX8_fillSome_15 ?_
  refine va_mmin (rest := []) hx hb (C0.1.2.2.2.1.trans hl.1.symm) hown (hta _ kw_851) (hta _ kw_748) (hta _ kw_136) (hta _ kw_749) (Nat.le_of_ble_eq_true rfl) (Nat.le_of_ble_eq_true rfl) (Nat.le_of_ble_eq_true rfl) (Nat.le_of_ble_eq_true rfl) dX8_fillSome_16 ?_
  refine lv_nmi ho (fun x30 ho => ?_)
  refine lv_istore_n (lv' := [(2, .int x30), (0, .ref (am 1008)), (1, .int a1)]) hx hb dX8_fillSome_19 rfl hl (by decide) rfl (fun ls hl => ?_)
  refine lv_iconst (v := (0 : Int32)) hx hb dX8_fillSome_20 (by decide) ?_
  refine lv_istore_n (lv' := [(3, .int (0 : Int32)), (2, .int x30), (0, .ref (am 1008)), (1, .int a1)]) hx hb dX8_fillSome_21 rfl hl (by decide) rfl (fun ls hl => ?_)
  obtain ⟨y31, hc32, ho⟩ := bd_some ho
  obtain ⟨ny31, hc32⟩ := lp_to hc32
  refine x8_fillSome_L22 C0 ?_ ny31 _ _ hc32 _ _ _ hW (lv_sub hl [2, 3, 1, 0] rfl)
  intro H locs ls hW hl
  cases ho
  exact rtV C0.1 hW dX8_fillSome_165
