noncomputable def x11_digest_B6 (t : St) (v1 : Int64) (v3 : Int32) : Option ((Int64 × Int32) ⊕ (Int64)) :=
  if (6 : Int32) < v3 then (some (.inr v1)) else ((x11_count t v3).bind (fun q2 => nm (((31 : Int64) * v1) + (q2).toInt64) (fun x4 : Int64 => nm (v3 + (1 : Int32)) (fun x5 : Int32 => some (.inl (x4, x5))))))
noncomputable def x11_digest (t : St) : Option (Int64) :=
  (lp (fun x => x11_digest_B6 t x.1 x.2) ((269 : Int64), (0 : Int32))).bind (fun y6 => (x5_mixInto t y6).bind (fun q9 => (x6_mixInto t q9).bind (fun q11 => (x4_mixInto t q11).bind (fun q13 => (x3_mixInto t q13).bind (fun q15 => (x10_mixInto t q15).bind (fun q17 => (x1_mixInto t q17).bind (fun q19 => (x9_mixInto t q19).bind (fun q21 => some q21))))))))
set_option maxHeartbeats 4000000 in
set_option maxRecDepth 100000 in
theorem x11_digest_L6 {p : Program} {l : Launch} {e : Env} {s : State} {m : MethodId} {args : Array Value} {below : List Frame} {meth : Method} {c : Code} {Q : State → Prop} {D : va_G} {cI cJ cZ cR : ClassId} {am gm : Nat → Nat} {st : Nat} {A : Nat → Prop} (C0 : cxX p s m args meth c cX11_digest RX11 4 (some .long) D (tyX cI cJ cZ cR) st A) {t : St} {y : Int64} (hK0 : ∀ (H : Heap) (locs : List Loc) (ls : Array Slot), wl D A s (wX cI cJ cZ cR am gm t) H locs → lv_has ls 4 [(0, .ref (am 1011)), (1, .long y)] → W p l e (rmN 2 47) s m args below meth c H locs 0 0 Q (F0 m 31 ls [])) :
    ∀ (n : Nat) (v1 : Int64) (v3 : Int32), lpn (fun x => x11_digest_B6 t x.1 x.2) n (v1, v3) = some y → ∀ (H : Heap) (locs : List Loc) (ls : Array Slot), wl D A s (wX cI cJ cZ cR am gm t) H locs → lv_has ls 4 [(0, .ref (am 1011)), (1, .long v1), (3, .int v3)] → W p l e (rmN 2 47) s m args below meth c H locs 0 0 Q (F0 m 6 ls []) := by
  have hx := C0.1.1
  have hb := C0.1.2.1
  have hta := C0.1.2.2.2.2.2.1
  have hown := C0.1.2.2.2.2.1
  intro n
  induction n with
  | zero => intro _ _ h; cases h
  | succ n ih =>
    intro v1 v3 hrun H locs ls hW hl
    obtain ⟨o, ho, hrun⟩ := bd_some hrun
    unfold x11_digest_B6 at ho
    refine lv_iload_n hx hb dX11_digest_6 rfl (lv_at hl 2 rfl) ?_
    refine lv_bipush (v := (6 : Int32)) hx hb dX11_digest_7 (by decide) ?_
    refine lv_icmp_gt (tgt := 31) hx hb dX11_digest_9 (by decide) (fun c1 => ?_) (fun c1 => ?_)
    · replace ho := ite_t c1 ho
      cases ho
      cases hrun
      exact hK0 _ _ _ hW (lv_sub hl [0, 1] rfl)
    · replace ho := ite_f c1 ho
      refine lv_ldc2 hx hb hown (hta _ kw_1453) dX11_digest_12 ?_
      refine lv_lload_n hx hb dX11_digest_15 rfl (lv_at hl 1 rfl) ?_
      refine lv_lmul hx hb dX11_digest_16 ?_
      refine lv_aload_n hx hb dX11_digest_17 rfl (lv_at hl 0 rfl) ?_
      refine lv_iload_n hx hb dX11_digest_18 rfl (lv_at hl 2 rfl) ?_
      obtain ⟨q2, hc3, ho⟩ := bd_some ho
      refine bkI C0.1 hW (runVX (As := [.int v3]) (rest := [.long ((31 : Int64) * v1)]) C0 hW (c_x11_count l _ t v3 (r := q2) hc3) cb_X11_X11_count_375 11 11 rfl rfl rfl rfl rfl ⟨rfl, rfl⟩ ⟨Nat.le_of_ble_eq_true rfl, Nat.le_of_ble_eq_true rfl⟩ (Nat.le_of_ble_eq_true rfl) hl.1 dX11_digest_19 ⟨Nat.le_of_ble_eq_true rfl, Nat.le_of_ble_eq_true rfl⟩) (fun H locs hW => ?_)
      refine lv_i2l hx hb dX11_digest_22 rfl ?_
      refine lv_ladd hx hb dX11_digest_23 ?_
      refine lv_nml ho (fun x4 ho => ?_)
      refine lv_lstore_n (lv' := [(1, .long x4), (0, .ref (am 1011)), (3, .int v3)]) hx hb dX11_digest_24 rfl hl (by decide) rfl (fun ls hl => ?_)
      obtain ⟨x5, ex5, ho⟩ := nm_x ho
      refine lv_iinc (v := x5) (lv' := [(3, .int x5), (1, .long x4), (0, .ref (am 1011))]) hx hb dX11_digest_25 hl (k := 2) rfl (by rw [ex5]; rfl) (by decide) rfl (fun ls hl => ?_)
      clear ex5
      refine lv_goto (tgt := 6) hx hb dX11_digest_28 (by decide) ?_
      cases ho
      exact ih _ _ hrun _ _ _ hW (lv_sub hl [2, 1, 0] rfl)
set_option maxHeartbeats 4000000 in
set_option maxRecDepth 100000 in
theorem c_x11_digest (l : Launch) {D : va_G} {cI cJ cZ cR : ClassId} {am gm : Nat → Nat} {st : Nat} (sz : Nat) (t : St) {r : Int64} (ho : x11_digest t = some r) : Met l yX11_digest (.code yX11_digest cX11_digest 4 (some .long) :: wsAll) (rmN 2 47) (va_Pc [.ref (am 1011)] (prX D (tyX cI cJ cZ cR) (wX cI cJ cZ cR am gm t) sz st)) (qJ r D (tyX cI cJ cZ cR) (wX cI cJ cZ cR am gm t) (va_A (wX cI cJ cZ cR am gm t) sz)) 0 0 (va_A (wX cI cJ cZ cR am gm t) sz) := by
  refine Met.ofW (cc := cX11_digest) (maxL := 4) (ret := (some .long)) (by decide) rfl ?_
  intro p e s m args below meth c s₁ B hml hv
  obtain ⟨rfl, ⟨hsz, hP, hK, hD0⟩, hsx⟩ := hv
  have hx := B.exec
  have hb := B.bytes
  have hts := atoms_spec (ws := (.code yX11_digest cX11_digest 4 (some .long) :: wsAll)) B.pre
  have hta := fun w h => hts w (List.mem_cons_of_mem _ h)
  have hown : s.vm.findClass RX11 = some m.cls := findClass_of_methodNamed B.named
  have hlocks := B.notSynchronized
  subst hsz
  have hD := hD0.self (sz := s.heap.size)
  generalize hAe : va_A (wX cI cJ cZ cR am gm t) s.heap.size = A at hD ⊢
  have hA : ∀ q : Nat, s.heap.size ≤ q → A q := fun q h => by rw [← hAe]; exact Or.inr h
  have C0 : cxX p s m ([.ref (am 1011)].toArray) meth c cX11_digest RX11 4 (some .long) D (tyX cI cJ cZ cR) st A := ⟨⟨hx, hb, B.returns, hml, hown, hta, hlocks, hK, hA⟩, by rw [← hAe]; exact hsx⟩
  have hW : wl D A s (wX cI cJ cZ cR am gm t) s.heap [] := ⟨hP, hD, va_S.rf⟩
  have hl := lv_entry [.ref (am 1011)] (n := 4) (Nat.le_of_ble_eq_true rfl)
  rw [lg_entry_eq]
  generalize (lg_sl [.ref (am 1011)] ++ List.replicate (4 - (lg_sl [.ref (am 1011)]).length) Slot.unset).toArray = ls at hl ⊢
  have hl : lv_has ls 4 [(0, .ref (am 1011))] := hl
  unfold x11_digest at ho
  refine lv_ldc2 hx hb hown (hta _ kw_1452) dX11_digest_0 ?_
  refine lv_lstore_n (lv' := [(1, .long (269 : Int64)), (0, .ref (am 1011))]) hx hb dX11_digest_3 rfl hl (by decide) rfl (fun ls hl => ?_)
  refine lv_iconst (v := (0 : Int32)) hx hb dX11_digest_4 (by decide) ?_
  refine lv_istore_n (lv' := [(3, .int (0 : Int32)), (1, .long (269 : Int64)), (0, .ref (am 1011))]) hx hb dX11_digest_5 rfl hl (by decide) rfl (fun ls hl => ?_)
  obtain ⟨y6, hc8, ho⟩ := bd_some ho
  obtain ⟨ny6, hc8⟩ := lp_to hc8
  refine x11_digest_L6 C0 ?_ ny6 _ _ hc8 _ _ _ hW (lv_sub hl [2, 1, 0] rfl)
  intro H locs ls hW hl
  refine lv_aload_n hx hb dX11_digest_31 rfl (lv_at hl 0 rfl) ?_
  refine xGET_1100 C0 kw_591 hW dX11_digest_32 ?_
  refine lv_lload_n hx hb dX11_digest_35 rfl (lv_at hl 1 rfl) ?_
  obtain ⟨q9, hc10, ho⟩ := bd_some ho
  refine bkJ C0.1 hW (runVX (As := [.long y6]) (rest := []) C0 hW (c_x5_mixInto l _ t y6 (r := q9) hc10) cb_X11_X5_mixInto_378 5 5 rfl rfl rfl rfl rfl ⟨rfl, rfl⟩ ⟨Nat.le_of_ble_eq_true rfl, Nat.le_of_ble_eq_true rfl⟩ (Nat.le_of_ble_eq_true rfl) hl.1 dX11_digest_36 ⟨Nat.le_of_ble_eq_true rfl, Nat.le_of_ble_eq_true rfl⟩) (fun H locs hW => ?_)
  refine lv_lstore_n (lv' := [(1, .long q9), (0, .ref (am 1011))]) hx hb dX11_digest_39 rfl hl (by decide) rfl (fun ls hl => ?_)
  refine lv_aload_n hx hb dX11_digest_40 rfl (lv_at hl 1 rfl) ?_
  refine xGET_1101 C0 kw_592 hW dX11_digest_41 ?_
  refine lv_lload_n hx hb dX11_digest_44 rfl (lv_at hl 0 rfl) ?_
  obtain ⟨q11, hc12, ho⟩ := bd_some ho
  refine bkJ C0.1 hW (runVX (As := [.long q9]) (rest := []) C0 hW (c_x6_mixInto l _ t q9 (r := q11) hc12) cb_X11_X6_mixInto_382 6 6 rfl rfl rfl rfl rfl ⟨rfl, rfl⟩ ⟨Nat.le_of_ble_eq_true rfl, Nat.le_of_ble_eq_true rfl⟩ (Nat.le_of_ble_eq_true rfl) hl.1 dX11_digest_45 ⟨Nat.le_of_ble_eq_true rfl, Nat.le_of_ble_eq_true rfl⟩) (fun H locs hW => ?_)
  refine lv_lstore_n (lv' := [(1, .long q11), (0, .ref (am 1011))]) hx hb dX11_digest_48 rfl hl (by decide) rfl (fun ls hl => ?_)
  refine lv_aload_n hx hb dX11_digest_49 rfl (lv_at hl 1 rfl) ?_
  refine xGET_1107 C0 kw_598 hW dX11_digest_50 ?_
  refine lv_lload_n hx hb dX11_digest_53 rfl (lv_at hl 0 rfl) ?_
  obtain ⟨q13, hc14, ho⟩ := bd_some ho
  refine bkJ C0.1 hW (runVX (As := [.long q11]) (rest := []) C0 hW (c_x4_mixInto l _ t q11 (r := q13) hc14) cb_X11_X4_mixInto_383 4 4 rfl rfl rfl rfl rfl ⟨rfl, rfl⟩ ⟨Nat.le_of_ble_eq_true rfl, Nat.le_of_ble_eq_true rfl⟩ (Nat.le_of_ble_eq_true rfl) hl.1 dX11_digest_54 ⟨Nat.le_of_ble_eq_true rfl, Nat.le_of_ble_eq_true rfl⟩) (fun H locs hW => ?_)
  refine lv_lstore_n (lv' := [(1, .long q13), (0, .ref (am 1011))]) hx hb dX11_digest_57 rfl hl (by decide) rfl (fun ls hl => ?_)
  refine lv_aload_n hx hb dX11_digest_58 rfl (lv_at hl 1 rfl) ?_
  refine xGET_1108 C0 kw_599 hW dX11_digest_59 ?_
  refine lv_lload_n hx hb dX11_digest_62 rfl (lv_at hl 0 rfl) ?_
  obtain ⟨q15, hc16, ho⟩ := bd_some ho
  refine bkJ C0.1 hW (runVX (As := [.long q13]) (rest := []) C0 hW (c_x3_mixInto l _ t q13 (r := q15) hc16) cb_X11_X3_mixInto_384 3 3 rfl rfl rfl rfl rfl ⟨rfl, rfl⟩ ⟨Nat.le_of_ble_eq_true rfl, Nat.le_of_ble_eq_true rfl⟩ (Nat.le_of_ble_eq_true rfl) hl.1 dX11_digest_63 ⟨Nat.le_of_ble_eq_true rfl, Nat.le_of_ble_eq_true rfl⟩) (fun H locs hW => ?_)
  refine lv_lstore_n (lv' := [(1, .long q15), (0, .ref (am 1011))]) hx hb dX11_digest_66 rfl hl (by decide) rfl (fun ls hl => ?_)
  refine lv_aload_n hx hb dX11_digest_67 rfl (lv_at hl 1 rfl) ?_
  refine xGET_1104 C0 kw_595 hW dX11_digest_68 ?_
  refine lv_lload_n hx hb dX11_digest_71 rfl (lv_at hl 0 rfl) ?_
  obtain ⟨q17, hc18, ho⟩ := bd_some ho
  refine bkJ C0.1 hW (runVX (As := [.long q15]) (rest := []) C0 hW (c_x10_mixInto l _ t q15 (r := q17) hc18) cb_X11_X10_mixInto_385 10 10 rfl rfl rfl rfl rfl ⟨rfl, rfl⟩ ⟨Nat.le_of_ble_eq_true rfl, Nat.le_of_ble_eq_true rfl⟩ (Nat.le_of_ble_eq_true rfl) hl.1 dX11_digest_72 ⟨Nat.le_of_ble_eq_true rfl, Nat.le_of_ble_eq_true rfl⟩) (fun H locs hW => ?_)
  refine lv_lstore_n (lv' := [(1, .long q17), (0, .ref (am 1011))]) hx hb dX11_digest_75 rfl hl (by decide) rfl (fun ls hl => ?_)
  refine lv_aload_n hx hb dX11_digest_76 rfl (lv_at hl 1 rfl) ?_
  refine xGET_1109 C0 kw_600 hW dX11_digest_77 ?_
  refine lv_lload_n hx hb dX11_digest_80 rfl (lv_at hl 0 rfl) ?_
  obtain ⟨q19, hc20, ho⟩ := bd_some ho
  refine bkJ C0.1 hW (runVX (As := [.long q17]) (rest := []) C0 hW (c_x1_mixInto l _ t q17 (r := q19) hc20) cb_X11_X1_mixInto_386 1 1 rfl rfl rfl rfl rfl ⟨rfl, rfl⟩ ⟨Nat.le_of_ble_eq_true rfl, Nat.le_of_ble_eq_true rfl⟩ (Nat.le_of_ble_eq_true rfl) hl.1 dX11_digest_81 ⟨Nat.le_of_ble_eq_true rfl, Nat.le_of_ble_eq_true rfl⟩) (fun H locs hW => ?_)
  refine lv_lstore_n (lv' := [(1, .long q19), (0, .ref (am 1011))]) hx hb dX11_digest_84 rfl hl (by decide) rfl (fun ls hl => ?_)
  refine lv_aload_n hx hb dX11_digest_85 rfl (lv_at hl 1 rfl) ?_
  refine xGET_1110 C0 kw_601 hW dX11_digest_86 ?_
  refine lv_lload_n hx hb dX11_digest_89 rfl (lv_at hl 0 rfl) ?_
  obtain ⟨q21, hc22, ho⟩ := bd_some ho
  refine bkJ C0.1 hW (runVX (As := [.long q19]) (rest := []) C0 hW (c_x9_mixInto l _ t q19 (r := q21) hc22) cb_X11_X9_mixInto_387 9 9 rfl rfl rfl rfl rfl ⟨rfl, rfl⟩ ⟨Nat.le_of_ble_eq_true rfl, Nat.le_of_ble_eq_true rfl⟩ (Nat.le_of_ble_eq_true rfl) hl.1 dX11_digest_90 ⟨Nat.le_of_ble_eq_true rfl, Nat.le_of_ble_eq_true rfl⟩) (fun H locs hW => ?_)
  cases ho
  exact rtJ C0.1 hW dX11_digest_93
