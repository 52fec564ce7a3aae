noncomputable def x11_reaches (t : St) (a1 : Int32) (a2 : Int32) : Option (Int32 × St) :=
  (x11_noNet t a1).bind (fun q1 => if q1 = 0 then ((x11_outside t a2 (0 : Int32) (65535 : Int32)).bind (fun q5 => if q5 = 0 then (gd a1 (gN t 602) (nm (gA t 602 (a1).toNatClampNeg) (fun x10 : Int32 => if 0 ≤ x10 then ((x6_isReachedBy t x10 a2).bind (fun q12 => if q12.1 = 0 then (some ((0 : Int32), q12.2)) else (some ((1 : Int32), q12.2)))) else (some ((-3 : Int32), t))))) else (some ((-2 : Int32), t)))) else (some ((-2 : Int32), t)))
set_option maxHeartbeats 4000000 in
set_option maxRecDepth 100000 in
theorem c_x11_reaches (l : Launch) {D : va_G} {cI cJ cZ cR : ClassId} {am gm : Nat → Nat} {st : Nat} (sz : Nat) (t : St) (a1 : Int32) (a2 : Int32) {r : Int32} {t' : St} (ho : x11_reaches t a1 a2 = some (r, t')) : Met l yX11_reaches (.code yX11_reaches cX11_reaches 4 (some .int) :: wsAll) (rmN 3 69) (va_Pc [.ref (am 1011), .int a1, .int a2] (prX D (tyX cI cJ cZ cR) (wX cI cJ cZ cR am gm t) sz st)) (qI r D (tyX cI cJ cZ cR) (wX cI cJ cZ cR am gm t') (va_A (wX cI cJ cZ cR am gm t) sz)) 0 0 (va_A (wX cI cJ cZ cR am gm t) sz) := by
  refine Met.ofW (cc := cX11_reaches) (maxL := 4) (ret := (some .int)) (by decide) rfl ?_
  intro p e s m args below meth c s₁ B hml hv
  obtain ⟨rfl, ⟨hsz, hP, hK, hD0⟩, hsx⟩ := hv
  have hx := B.exec
  have hb := B.bytes
  have hts := atoms_spec (ws := (.code yX11_reaches cX11_reaches 4 (some .int) :: wsAll)) B.pre
  have hta := fun w h => hts w (List.mem_cons_of_mem _ h)
  have hown : s.vm.findClass RX11 = some m.cls := findClass_of_methodNamed B.named
  have hlocks := B.notSynchronized
  subst hsz
  have hD := hD0.self (sz := s.heap.size)
  generalize hAe : va_A (wX cI cJ cZ cR am gm t) s.heap.size = A at hD ⊢
  have hA : ∀ q : Nat, s.heap.size ≤ q → A q := fun q h => by rw [← hAe]; exact Or.inr h
  have C0 : cxX p s m ([.ref (am 1011), .int a1, .int a2].toArray) meth c cX11_reaches RX11 4 (some .int) D (tyX cI cJ cZ cR) st A := ⟨⟨hx, hb, B.returns, hml, hown, hta, hlocks, hK, hA⟩, by rw [← hAe]; exact hsx⟩
  have hW : wl D A s (wX cI cJ cZ cR am gm t) s.heap [] := ⟨hP, hD, va_S.rf⟩
  have hl := lv_entry [.ref (am 1011), .int a1, .int a2] (n := 4) (Nat.le_of_ble_eq_true rfl)
  rw [lg_entry_eq]
  generalize (lg_sl [.ref (am 1011), .int a1, .int a2] ++ List.replicate (4 - (lg_sl [.ref (am 1011), .int a1, .int a2]).length) Slot.unset).toArray = ls at hl ⊢
  have hl : lv_has ls 4 [(0, .ref (am 1011)), (1, .int a1), (2, .int a2)] := hl
  unfold x11_reaches at ho
  refine lv_iload_n hx hb dX11_reaches_0 rfl (lv_at hl 1 rfl) ?_
  obtain ⟨q1, hc2, ho⟩ := bd_some ho
  refine bkZ C0.1 hW (runSX (As := [.int a1]) (rest := []) C0 hW (c_x11_noNet l _ t a1 (r := q1) hc2) cb_X11_X11_noNet_124 rfl rfl ⟨rfl, rfl⟩ ⟨Nat.le_of_ble_eq_true rfl, Nat.le_of_ble_eq_true rfl⟩ (Nat.le_of_ble_eq_true rfl) hl.1 dX11_reaches_1 ⟨Nat.le_of_ble_eq_true rfl, Nat.le_of_ble_eq_true rfl⟩) (fun z3 H locs hW => ?_)
  refine lv_if_ne (tgt := 17) hx hb dX11_reaches_4 (by decide) (fun c4 => ?_) (fun c4 => ?_)
  · replace ho := ite_f c4 ho
    refine lv_bipush (v := (-2 : Int32)) hx hb dX11_reaches_17 (by decide) ?_
    cases ho
    exact rtI C0.1 hW dX11_reaches_19
  · replace ho := ite_t c4 ho
    refine lv_iload_n hx hb dX11_reaches_7 rfl (lv_at hl 2 rfl) ?_
    refine lv_iconst (v := (0 : Int32)) hx hb dX11_reaches_8 (by decide) ?_
    refine lv_ldc hx hb hown (hta _ kw_798) dX11_reaches_9 ?_
    obtain ⟨q5, hc6, ho⟩ := bd_some ho
    refine bkZ C0.1 hW (runSX (As := [.int a2, .int (0 : Int32), .int (65535 : Int32)]) (rest := []) C0 hW (c_x11_outside l _ t a2 (0 : Int32) (65535 : Int32) (r := q5) hc6) cb_X11_X11_outside_102 rfl rfl ⟨rfl, rfl⟩ ⟨Nat.le_of_ble_eq_true rfl, Nat.le_of_ble_eq_true rfl⟩ (Nat.le_of_ble_eq_true rfl) hl.1 dX11_reaches_11 ⟨Nat.le_of_ble_eq_true rfl, Nat.le_of_ble_eq_true rfl⟩) (fun z7 H locs hW => ?_)
    refine lv_if_eq (tgt := 20) hx hb dX11_reaches_14 (by decide) (fun c8 => ?_) (fun c8 => ?_)
    · replace ho := ite_t c8 ho
      refine lv_aload_n hx hb dX11_reaches_20 rfl (lv_at hl 0 rfl) ?_
      refine xGET_1101 C0 kw_592 hW dX11_reaches_21 ?_
      refine xGET_602 C0 kw_184 hW dX11_reaches_24 ?_
      refine lv_iload_n hx hb dX11_reaches_27 rfl (lv_at hl 1 rfl) ?_
      obtain ⟨g9, ho⟩ := gd_some ho
      refine xLD_602 C0 hW g9 dX11_reaches_28 ?_
      refine lv_nmi ho (fun x10 ho => ?_)
      refine lv_istore_n (lv' := [(3, .int x10), (0, .ref (am 1011)), (1, .int a1), (2, .int a2)]) hx hb dX11_reaches_29 rfl hl (by decide) rfl (fun ls hl => ?_)
      refine lv_iload_n hx hb dX11_reaches_30 rfl (lv_at hl 0 rfl) ?_
      refine lv_if_ge (tgt := 37) hx hb dX11_reaches_31 (by decide) (fun c11 => ?_) (fun c11 => ?_)
      · replace ho := ite_t c11 ho
        refine lv_aload_n hx hb dX11_reaches_37 rfl (lv_at hl 1 rfl) ?_
        refine xGET_1101 C0 kw_592 hW dX11_reaches_38 ?_
        refine lv_iload_n hx hb dX11_reaches_41 rfl (lv_at hl 0 rfl) ?_
        refine lv_iload_n hx hb dX11_reaches_42 rfl (lv_at hl 3 rfl) ?_
        obtain ⟨q12, hc13, ho⟩ := bd_some ho
        refine bkZ C0.1 hW (runVX (As := [.int x10, .int a2]) (rest := []) C0 hW (c_x6_isReachedBy l _ t x10 a2 (r := q12.1) (t' := q12.2) hc13) cb_X11_X6_isReachedBy_163 6 6 rfl rfl rfl rfl rfl ⟨rfl, rfl⟩ ⟨Nat.le_of_ble_eq_true rfl, Nat.le_of_ble_eq_true rfl⟩ (Nat.le_of_ble_eq_true rfl) hl.1 dX11_reaches_43 ⟨Nat.le_of_ble_eq_true rfl, Nat.le_of_ble_eq_true rfl⟩) (fun z14 H locs hW => ?_)
        refine lv_if_eq (tgt := 53) hx hb dX11_reaches_46 (by decide) (fun c15 => ?_) (fun c15 => ?_)
        · replace ho := ite_t c15 ho
          refine lv_iconst (v := (0 : Int32)) hx hb dX11_reaches_53 (by decide) ?_
          cases ho
          exact rtI C0.1 hW dX11_reaches_54
        · replace ho := ite_f c15 ho
          refine lv_iconst (v := (1 : Int32)) hx hb dX11_reaches_49 (by decide) ?_
          refine lv_goto (tgt := 54) hx hb dX11_reaches_50 (by decide) ?_
          cases ho
          exact rtI C0.1 hW dX11_reaches_54
      · replace ho := ite_f c11 ho
        refine lv_bipush (v := (-3 : Int32)) hx hb dX11_reaches_34 (by decide) ?_
        cases ho
        exact rtI C0.1 hW dX11_reaches_36
    · replace ho := ite_f c8 ho
      refine lv_bipush (v := (-2 : Int32)) hx hb dX11_reaches_17 (by decide) ?_
      cases ho
      exact rtI C0.1 hW dX11_reaches_19
noncomputable def x8_hasRank (t : St) (a0 : Int32) (a1 : Int32) : Option (Int32) :=
  if ((a0 >>> ((a1 - (6 : Int32)) &&& 31)) &&& (1 : Int32)) = (1 : Int32) then (some (1 : Int32)) else (some (0 : Int32))
set_option maxHeartbeats 4000000 in
set_option maxRecDepth 100000 in
theorem c_x8_hasRank (l : Launch) {D : va_G} {cI cJ cZ cR : ClassId} {am gm : Nat → Nat} {st : Nat} (sz : Nat) (t : St) (a0 : Int32) (a1 : Int32) {r : Int32} (ho : x8_hasRank t a0 a1 = some r) : Met l yX8_hasRank (.code yX8_hasRank cX8_hasRank 2 (some .boolean) :: wsAll) (rmN 0 0) (va_Pc [.int a0, .int a1] (prX D (tyX cI cJ cZ cR) (wX cI cJ cZ cR am gm t) sz st)) (qZ r D (tyX cI cJ cZ cR) (wX cI cJ cZ cR am gm t) (va_A (wX cI cJ cZ cR am gm t) sz)) 0 0 (va_A (wX cI cJ cZ cR am gm t) sz) := by
  refine Met.ofW (cc := cX8_hasRank) (maxL := 2) (ret := (some .boolean)) (by decide) rfl ?_
  intro p e s m args below meth c s₁ B hml hv
  obtain ⟨rfl, ⟨hsz, hP, hK, hD0⟩, hsx⟩ := hv
  have hx := B.exec
  have hb := B.bytes
  have hts := atoms_spec (ws := (.code yX8_hasRank cX8_hasRank 2 (some .boolean) :: wsAll)) B.pre
  have hta := fun w h => hts w (List.mem_cons_of_mem _ h)
  have hown : s.vm.findClass RX8 = some m.cls := findClass_of_methodNamed B.named
  have hlocks := B.notSynchronized
  subst hsz
  have hD := hD0.self (sz := s.heap.size)
  generalize hAe : va_A (wX cI cJ cZ cR am gm t) s.heap.size = A at hD ⊢
  have hA : ∀ q : Nat, s.heap.size ≤ q → A q := fun q h => by rw [← hAe]; exact Or.inr h
  have C0 : cxX p s m ([.int a0, .int a1].toArray) meth c cX8_hasRank RX8 2 (some .boolean) D (tyX cI cJ cZ cR) st A := ⟨⟨hx, hb, B.returns, hml, hown, hta, hlocks, hK, hA⟩, by rw [← hAe]; exact hsx⟩
  have hW : wl D A s (wX cI cJ cZ cR am gm t) s.heap [] := ⟨hP, hD, va_S.rf⟩
  have hl := lv_entry [.int a0, .int a1] (n := 2) (Nat.le_of_ble_eq_true rfl)
  rw [lg_entry_eq]
  generalize (lg_sl [.int a0, .int a1] ++ List.replicate (2 - (lg_sl [.int a0, .int a1]).length) Slot.unset).toArray = ls at hl ⊢
  have hl : lv_has ls 2 [(0, .int a0), (1, .int a1)] := hl
  unfold x8_hasRank at ho
  refine lv_iload_n hx hb dX8_hasRank_0 rfl (lv_at hl 0 rfl) ?_
  refine lv_iload_n hx hb dX8_hasRank_1 rfl (lv_at hl 1 rfl) ?_
  refine xSTR C0 kw_832 hW dX8_hasRank_2 ?_
  refine xSTRlen C0 hW dX8_hasRank_5 ?_
  refine lv_isub hx hb dX8_hasRank_6 ?_
  refine lv_ishr hx hb dX8_hasRank_7 ?_
  refine lv_iconst (v := (1 : Int32)) hx hb dX8_hasRank_8 (by decide) ?_
  refine lv_iand hx hb dX8_hasRank_9 ?_
  refine lv_iconst (v := (1 : Int32)) hx hb dX8_hasRank_10 (by decide) ?_
  refine lv_icmp_ne (tgt := 18) hx hb dX8_hasRank_11 (by decide) (fun c1 => ?_) (fun c1 => ?_)
  · replace ho := ite_f c1 ho
    refine lv_iconst (v := (0 : Int32)) hx hb dX8_hasRank_18 (by decide) ?_
    cases ho
    exact rtZ C0.1 hW (Or.inl (rfl : (0 : Int32) = 0)) dX8_hasRank_19
  · replace ho := ite_t c1 ho
    refine lv_iconst (v := (1 : Int32)) hx hb dX8_hasRank_14 (by decide) ?_
    refine lv_goto (tgt := 19) hx hb dX8_hasRank_15 (by decide) ?_
    cases ho
    exact rtZ C0.1 hW (Or.inr (rfl : (1 : Int32) = 1)) dX8_hasRank_19
noncomputable def x8_leastWord_B15 (t : St) (v1 : Int32) (v2 : Int32) (v3 : Int64) (v5 : Int64) (v7 : Int32) : Option ((Int64 × Int32) ⊕ (Int64)) :=
  if (gI t 803) ≤ v7 then (some (.inr v5)) else (if (6 : Int32) ≤ v7 then ((x8_hasRank t v2 v7).bind (fun q3 => if q3 = 0 then (nm (v7 + (1 : Int32)) (fun x7 : Int32 => some (.inl (v5, x7)))) else (gd ((v1 + v2) - ((1 : Int32) <<< ((v7 - (6 : Int32)) &&& 31))) (gN t 808) (nm (v5 ||| (gB t 808 (((v1 + v2) - ((1 : Int32) <<< ((v7 - (6 : Int32)) &&& 31)))).toNatClampNeg)) (fun x9 : Int64 => nm (v7 + (1 : Int32)) (fun x10 : Int32 => some (.inl (x9, x10)))))))) else (gd v7 6 (nm (v5 ||| (((v3 <<< ((((1 : Int32) <<< (v7 &&& 31))).toInt64 &&& 63))) &&& (stL (v7).toNatClampNeg))) (fun x12 : Int64 => nm (v7 + (1 : Int32)) (fun x13 : Int32 => some (.inl (x12, x13)))))))
noncomputable def x8_leastWord_J119 (t : St) (v3 : Int64) (v5 : Int64) (w0 : Int64) : Option (Int64) :=
  some ((v3 &&& (v5 ^^^ (-1 : Int64))) &&& w0)
noncomputable def x8_leastWord (t : St) (a1 : Int32) (a2 : Int32) : Option (Int64) :=
  gd (a1 + a2) (gN t 808) (nm (gB t 808 ((a1 + a2)).toNatClampNeg) (fun x15 : Int64 => (lp (fun x => x8_leastWord_B15 t a1 a2 x15 x.1 x.2) ((0 : Int64), (0 : Int32))).bind (fun y16 => if (6 : Int32) ≤ (gI t 803) then (x8_leastWord_J119 t x15 y16 (-1 : Int64)) else (x8_leastWord_J119 t x15 y16 ((((1 : Int64) <<< ((((1 : Int32) <<< ((gI t 803) &&& 31))).toInt64 &&& 63))) - (1 : Int64))))))
set_option maxHeartbeats 4000000 in
set_option maxRecDepth 100000 in
theorem x8_leastWord_L15 {p : Program} {l : Launch} {e : Env} {s : State} {m : MethodId} {args : Array Value} {below : List Frame} {meth : Method} {c : Code} {Q : State → Prop} {D : va_G} {cI cJ cZ cR : ClassId} {am gm : Nat → Nat} {st : Nat} {A : Nat → Prop} (C0 : cxX p s m args meth c cX8_leastWord RX8 9 (some .long) D (tyX cI cJ cZ cR) st A) {t : St} {v1 : Int32} {v2 : Int32} {v3 : Int64} {y : Int64} (hK0 : ∀ (H : Heap) (locs : List Loc) (ls : Array Slot), wl D A s (wX cI cJ cZ cR am gm t) H locs → lv_has ls 9 [(0, .ref (am 1008)), (3, .long v3), (5, .long y)] → W p l e (rmN 1 21) s m args below meth c H locs 0 0 Q (F0 m 92 ls [])) :
    ∀ (n : Nat) (v5 : Int64) (v7 : Int32), lpn (fun x => x8_leastWord_B15 t v1 v2 v3 x.1 x.2) n (v5, v7) = some y → ∀ (H : Heap) (locs : List Loc) (ls : Array Slot), wl D A s (wX cI cJ cZ cR am gm t) H locs → lv_has ls 9 [(0, .ref (am 1008)), (1, .int v1), (2, .int v2), (3, .long v3), (5, .long v5), (7, .int v7)] → W p l e (rmN 1 21) s m args below meth c H locs 0 0 Q (F0 m 15 ls []) := by
  have hx := C0.1.1
  have hb := C0.1.2.1
  have hta := C0.1.2.2.2.2.2.1
  have hown := C0.1.2.2.2.2.1
  intro n
  induction n with
  | zero => intro _ _ h; cases h
  | succ n ih =>
    intro v5 v7 hrun H locs ls hW hl
    obtain ⟨o, ho, hrun⟩ := bd_some hrun
    unfold x8_leastWord_B15 at ho
    refine lv_iload hx hb dX8_leastWord_15 (lv_at hl 5 rfl) ?_
    refine lv_aload_n hx hb dX8_leastWord_17 rfl (lv_at hl 0 rfl) ?_
    refine xGET_803 C0 kw_274 hW dX8_leastWord_18 ?_
    refine lv_icmp_ge (tgt := 92) hx hb dX8_leastWord_21 (by decide) (fun c1 => ?_) (fun c1 => ?_)
    · replace ho := ite_t c1 ho
      cases ho
      cases hrun
      exact hK0 _ _ _ hW (lv_sub hl [0, 3, 4] rfl)
    · replace ho := ite_f c1 ho
      refine lv_iload hx hb dX8_leastWord_24 (lv_at hl 5 rfl) ?_
      refine xSTR C0 kw_832 hW dX8_leastWord_26 ?_
      refine xSTRlen C0 hW dX8_leastWord_29 ?_
      refine lv_icmp_ge (tgt := 54) hx hb dX8_leastWord_30 (by decide) (fun c2 => ?_) (fun c2 => ?_)
      · replace ho := ite_t c2 ho
        refine lv_iload_n hx hb dX8_leastWord_54 rfl (lv_at hl 2 rfl) ?_
        refine lv_iload hx hb dX8_leastWord_55 (lv_at hl 5 rfl) ?_
        obtain ⟨q3, hc4, ho⟩ := bd_some ho
        refine bkZ C0.1 hW (runSX (As := [.int v2, .int v7]) (rest := []) C0 hW (c_x8_hasRank l _ t v2 v7 (r := q3) hc4) cb_X8_X8_hasRank_101 rfl rfl ⟨rfl, rfl⟩ ⟨Nat.le_of_ble_eq_true rfl, Nat.le_of_ble_eq_true rfl⟩ (Nat.le_of_ble_eq_true rfl) hl.1 dX8_leastWord_57 ⟨Nat.le_of_ble_eq_true rfl, Nat.le_of_ble_eq_true rfl⟩) (fun z5 H locs hW => ?_)
        refine lv_if_eq (tgt := 86) hx hb dX8_leastWord_60 (by decide) (fun c6 => ?_) (fun c6 => ?_)
        · replace ho := ite_t c6 ho
          obtain ⟨x7, ex7, ho⟩ := nm_x ho
          refine lv_iinc (v := x7) (lv' := [(7, .int x7), (0, .ref (am 1008)), (1, .int v1), (2, .int v2), (3, .long v3), (5, .long v5)]) hx hb dX8_leastWord_86 hl (k := 5) rfl (by rw [ex7]; rfl) (by decide) rfl (fun ls hl => ?_)
          clear ex7
          refine lv_goto (tgt := 15) hx hb dX8_leastWord_89 (by decide) ?_
          cases ho
          exact ih _ _ hrun _ _ _ hW (lv_sub hl [1, 2, 3, 4, 5, 0] rfl)
        · replace ho := ite_f c6 ho
          refine lv_lload hx hb dX8_leastWord_63 (lv_at hl 4 rfl) ?_
          refine lv_aload_n hx hb dX8_leastWord_65 rfl (lv_at hl 0 rfl) ?_
          refine xGET_808 C0 kw_285 hW dX8_leastWord_66 ?_
          refine lv_iload_n hx hb dX8_leastWord_69 rfl (lv_at hl 1 rfl) ?_
          refine lv_iload_n hx hb dX8_leastWord_70 rfl (lv_at hl 2 rfl) ?_
          refine lv_iadd hx hb dX8_leastWord_71 ?_
          refine lv_iconst (v := (1 : Int32)) hx hb dX8_leastWord_72 (by decide) ?_
          refine lv_iload hx hb dX8_leastWord_73 (lv_at hl 5 rfl) ?_
          refine xSTR C0 kw_832 hW dX8_leastWord_75 ?_
          refine xSTRlen C0 hW dX8_leastWord_78 ?_
          refine lv_isub hx hb dX8_leastWord_79 ?_
          refine lv_ishl hx hb dX8_leastWord_80 ?_
          refine lv_isub hx hb dX8_leastWord_81 ?_
          obtain ⟨g8, ho⟩ := gd_some ho
          refine xLD_808 C0 hW g8 dX8_leastWord_82 ?_
          refine lv_lor hx hb dX8_leastWord_83 ?_
          refine lv_nml ho (fun x9 ho => ?_)
          refine lv_lstore (lv' := [(5, .long x9), (0, .ref (am 1008)), (1, .int v1), (2, .int v2), (3, .long v3), (7, .int v7)]) hx hb dX8_leastWord_84 hl (by decide) rfl (fun ls hl => ?_)
          obtain ⟨x10, ex10, ho⟩ := nm_x ho
          refine lv_iinc (v := x10) (lv' := [(7, .int x10), (5, .long x9), (0, .ref (am 1008)), (1, .int v1), (2, .int v2), (3, .long v3)]) hx hb dX8_leastWord_86 hl (k := 5) rfl (by rw [ex10]; rfl) (by decide) rfl (fun ls hl => ?_)
          clear ex10
          refine lv_goto (tgt := 15) hx hb dX8_leastWord_89 (by decide) ?_
          cases ho
          exact ih _ _ hrun _ _ _ hW (lv_sub hl [2, 3, 4, 5, 1, 0] rfl)
      · replace ho := ite_f c2 ho
        refine lv_lload hx hb dX8_leastWord_33 (lv_at hl 4 rfl) ?_
        refine lv_lload_n hx hb dX8_leastWord_35 rfl (lv_at hl 3 rfl) ?_
        refine lv_iconst (v := (1 : Int32)) hx hb dX8_leastWord_36 (by decide) ?_
        refine lv_iload hx hb dX8_leastWord_37 (lv_at hl 5 rfl) ?_
        refine lv_ishl hx hb dX8_leastWord_39 ?_
        refine lv_lshl hx hb dX8_leastWord_40 rfl ?_
        refine xSTR C0 kw_832 hW dX8_leastWord_41 ?_
        refine lv_iload hx hb dX8_leastWord_44 (lv_at hl 5 rfl) ?_
        obtain ⟨g11, ho⟩ := gd_some ho
        refine xSTRld C0 hW g11 dX8_leastWord_46 ?_
        refine lv_land hx hb dX8_leastWord_47 ?_
        refine lv_lor hx hb dX8_leastWord_48 ?_
        refine lv_nml ho (fun x12 ho => ?_)
        refine lv_lstore (lv' := [(5, .long x12), (0, .ref (am 1008)), (1, .int v1), (2, .int v2), (3, .long v3), (7, .int v7)]) hx hb dX8_leastWord_49 hl (by decide) rfl (fun ls hl => ?_)
        refine lv_goto (tgt := 86) hx hb dX8_leastWord_51 (by decide) ?_
        obtain ⟨x13, ex13, ho⟩ := nm_x ho
        refine lv_iinc (v := x13) (lv' := [(7, .int x13), (5, .long x12), (0, .ref (am 1008)), (1, .int v1), (2, .int v2), (3, .long v3)]) hx hb dX8_leastWord_86 hl (k := 5) rfl (by rw [ex13]; rfl) (by decide) rfl (fun ls hl => ?_)
        clear ex13
        refine lv_goto (tgt := 15) hx hb dX8_leastWord_89 (by decide) ?_
        cases ho
        exact ih _ _ hrun _ _ _ hW (lv_sub hl [2, 3, 4, 5, 1, 0] rfl)
set_option maxHeartbeats 4000000 in
set_option maxRecDepth 100000 in
theorem c_x8_leastWord (l : Launch) {D : va_G} {cI cJ cZ cR : ClassId} {am gm : Nat → Nat} {st : Nat} (sz : Nat) (t : St) (a1 : Int32) (a2 : Int32) {r : Int64} (ho : x8_leastWord t a1 a2 = some r) : Met l yX8_leastWord (.code yX8_leastWord cX8_leastWord 9 (some .long) :: wsAll) (rmN 1 21) (va_Pc [.ref (am 1008), .int a1, .int a2] (prX D (tyX cI cJ cZ cR) (wX cI cJ cZ cR am gm t) sz st)) (qJ r D (tyX cI cJ cZ cR) (wX cI cJ cZ cR am gm t) (va_A (wX cI cJ cZ cR am gm t) sz)) 0 0 (va_A (wX cI cJ cZ cR am gm t) sz) := by
  refine Met.ofW (cc := cX8_leastWord) (maxL := 9) (ret := (some .long)) (by decide) rfl ?_
  intro p e s m args below meth c s₁ B hml hv
  obtain ⟨rfl, ⟨hsz, hP, hK, hD0⟩, hsx⟩ := hv
  have hx := B.exec
  have hb := B.bytes
  have hts := atoms_spec (ws := (.code yX8_leastWord cX8_leastWord 9 (some .long) :: wsAll)) B.pre
  have hta := fun w h => hts w (List.mem_cons_of_mem _ h)
  have hown : s.vm.findClass RX8 = some m.cls := findClass_of_methodNamed B.named
  have hlocks := B.notSynchronized
  subst hsz
  have hD := hD0.self (sz := s.heap.size)
  generalize hAe : va_A (wX cI cJ cZ cR am gm t) s.heap.size = A at hD ⊢
  have hA : ∀ q : Nat, s.heap.size ≤ q → A q := fun q h => by rw [← hAe]; exact Or.inr h
  have C0 : cxX p s m ([.ref (am 1008), .int a1, .int a2].toArray) meth c cX8_leastWord RX8 9 (some .long) D (tyX cI cJ cZ cR) st A := ⟨⟨hx, hb, B.returns, hml, hown, hta, hlocks, hK, hA⟩, by rw [← hAe]; exact hsx⟩
  have hW : wl D A s (wX cI cJ cZ cR am gm t) s.heap [] := ⟨hP, hD, va_S.rf⟩
  have hl := lv_entry [.ref (am 1008), .int a1, .int a2] (n := 9) (Nat.le_of_ble_eq_true rfl)
  rw [lg_entry_eq]
  generalize (lg_sl [.ref (am 1008), .int a1, .int a2] ++ List.replicate (9 - (lg_sl [.ref (am 1008), .int a1, .int a2]).length) Slot.unset).toArray = ls at hl ⊢
  have hl : lv_has ls 9 [(0, .ref (am 1008)), (1, .int a1), (2, .int a2)] := hl
  clear hAe hD hP hD0 hts
  have J119 : ∀ (v3 : Int64) (v5 : Int64) (w0 : Int64) (_ : x8_leastWord_J119 t v3 v5 w0 = some r) (H : Heap) (locs : List Loc) (ls : Array Slot), wl D A s (wX cI cJ cZ cR am gm t) H locs → lv_has ls 9 [(0, .ref (am 1008)), (3, .long v3), (5, .long v5)] → W p l e (rmN 1 21) s m ([.ref (am 1008), .int a1, .int a2].toArray) below meth c H locs 0 0 (MQ below (qJ r D (tyX cI cJ cZ cR) (wX cI cJ cZ cR am gm t) A) ([.ref (am 1008), .int a1, .int a2].toArray) s 0 0 A) (F0 m 119 ls [.long w0]) := by
    intro v3 v5 w0 ho H locs ls hW hl
    unfold x8_leastWord_J119 at ho
    refine lv_lstore (lv' := [(7, .long w0), (0, .ref (am 1008)), (3, .long v3), (5, .long v5)]) hx hb dX8_leastWord_119 hl (by decide) rfl (fun ls hl => ?_)
    refine lv_lload_n hx hb dX8_leastWord_121 rfl (lv_at hl 2 rfl) ?_
    refine lv_lload hx hb dX8_leastWord_122 (lv_at hl 3 rfl) ?_
    refine lv_ldc2 hx hb hown (hta _ kw_837) dX8_leastWord_124 ?_
    refine lv_lxor hx hb dX8_leastWord_127 ?_
    refine lv_land hx hb dX8_leastWord_128 ?_
    refine lv_lload hx hb dX8_leastWord_129 (lv_at hl 0 rfl) ?_
    refine lv_land hx hb dX8_leastWord_131 ?_
    cases ho
    exact rtJ C0.1 hW dX8_leastWord_132
  unfold x8_leastWord at ho
  refine lv_aload_n hx hb dX8_leastWord_0 rfl (lv_at hl 0 rfl) ?_
  refine xGET_808 C0 kw_285 hW dX8_leastWord_1 ?_
  refine lv_iload_n hx hb dX8_leastWord_4 rfl (lv_at hl 1 rfl) ?_
  refine lv_iload_n hx hb dX8_leastWord_5 rfl (lv_at hl 2 rfl) ?_
  refine lv_iadd hx hb dX8_leastWord_6 ?_
  obtain ⟨g14, ho⟩ := gd_some ho
  refine xLD_808 C0 hW g14 dX8_leastWord_7 ?_
  refine lv_nml ho (fun x15 ho => ?_)
  refine lv_lstore_n (lv' := [(3, .long x15), (0, .ref (am 1008)), (1, .int a1), (2, .int a2)]) hx hb dX8_leastWord_8 rfl hl (by decide) rfl (fun ls hl => ?_)
  refine lv_lconst (v := (0 : Int64)) hx hb dX8_leastWord_9 (by decide) ?_
  refine lv_lstore (lv' := [(5, .long (0 : Int64)), (3, .long x15), (0, .ref (am 1008)), (1, .int a1), (2, .int a2)]) hx hb dX8_leastWord_10 hl (by decide) rfl (fun ls hl => ?_)
  refine lv_iconst (v := (0 : Int32)) hx hb dX8_leastWord_12 (by decide) ?_
  refine lv_istore (lv' := [(7, .int (0 : Int32)), (5, .long (0 : Int64)), (3, .long x15), (0, .ref (am 1008)), (1, .int a1), (2, .int a2)]) hx hb dX8_leastWord_13 hl (by decide) rfl (fun ls hl => ?_)
  obtain ⟨y16, hc17, ho⟩ := bd_some ho
  obtain ⟨ny16, hc17⟩ := lp_to hc17
  refine x8_leastWord_L15 C0 ?_ ny16 _ _ hc17 _ _ _ hW (lv_sub hl [3, 4, 5, 2, 1, 0] rfl)
  intro H locs ls hW hl
  refine lv_aload_n hx hb dX8_leastWord_92 rfl (lv_at hl 0 rfl) ?_
  refine xGET_803 C0 kw_274 hW dX8_leastWord_93 ?_
  refine xSTR C0 kw_832 hW dX8_leastWord_96 ?_
  refine xSTRlen C0 hW dX8_leastWord_99 ?_
  refine lv_icmp_ge (tgt := 116) hx hb dX8_leastWord_100 (by decide) (fun c18 => ?_) (fun c18 => ?_)
  · replace ho := ite_t c18 ho
    refine lv_ldc2 hx hb hown (hta _ kw_837) dX8_leastWord_116 ?_
    exact J119 _ _ _ ho _ _ _ hW (lv_sub hl [0, 1, 2] rfl)
  · replace ho := ite_f c18 ho
    refine lv_lconst (v := (1 : Int64)) hx hb dX8_leastWord_103 (by decide) ?_
    refine lv_iconst (v := (1 : Int32)) hx hb dX8_leastWord_104 (by decide) ?_
    refine lv_aload_n hx hb dX8_leastWord_105 rfl (lv_at hl 0 rfl) ?_
    refine xGET_803 C0 kw_274 hW dX8_leastWord_106 ?_
    refine lv_ishl hx hb dX8_leastWord_109 ?_
    refine lv_lshl hx hb dX8_leastWord_110 rfl ?_
    refine lv_lconst (v := (1 : Int64)) hx hb dX8_leastWord_111 (by decide) ?_
    refine lv_lsub hx hb dX8_leastWord_112 ?_
    refine lv_goto (tgt := 119) hx hb dX8_leastWord_113 (by decide) ?_
    exact J119 _ _ _ ho _ _ _ hW (lv_sub hl [0, 1, 2] rfl)
noncomputable def x8_widened_B4 (t : St) (v1 : Int32) (v2 : Int32) (v3 : Int32) : Option ((Int32 × Int32) ⊕ (Int32)) :=
  if (gI t 803) ≤ v3 then (some (.inr v2)) else (gd v3 (gN t 801) (nm (v2 ||| (((v1 >>> (v3 &&& 31)) &&& (1 : Int32)) <<< ((gA t 801 (v3).toNatClampNeg) &&& 31))) (fun x3 : Int32 => nm (v3 + (1 : Int32)) (fun x4 : Int32 => some (.inl (x3, x4))))))
noncomputable def x8_widened (t : St) (a1 : Int32) : Option (Int32) :=
  (lp (fun x => x8_widened_B4 t a1 x.1 x.2) ((0 : Int32), (0 : Int32))).bind (fun y5 => some y5)
set_option maxHeartbeats 4000000 in
set_option maxRecDepth 100000 in
theorem x8_widened_L4 {p : Program} {l : Launch} {e : Env} {s : State} {m : MethodId} {args : Array Value} {below : List Frame} {meth : Method} {c : Code} {Q : State → Prop} {D : va_G} {cI cJ cZ cR : ClassId} {am gm : Nat → Nat} {st : Nat} {A : Nat → Prop} (C0 : cxX p s m args meth c cX8_widened RX8 4 (some .int) D (tyX cI cJ cZ cR) st A) {t : St} {v1 : Int32} {y : Int32} (hK0 : ∀ (H : Heap) (locs : List Loc) (ls : Array Slot), wl D A s (wX cI cJ cZ cR am gm t) H locs → lv_has ls 4 [(0, .ref (am 1008)), (2, .int y)] → W p l e (rmN 0 0) s m args below meth c H locs 0 0 Q (F0 m 33 ls [])) :
    ∀ (n : Nat) (v2 : Int32) (v3 : Int32), lpn (fun x => x8_widened_B4 t v1 x.1 x.2) n (v2, v3) = some y → ∀ (H : Heap) (locs : List Loc) (ls : Array Slot), wl D A s (wX cI cJ cZ cR am gm t) H locs → lv_has ls 4 [(0, .ref (am 1008)), (1, .int v1), (2, .int v2), (3, .int v3)] → W p l e (rmN 0 0) s m args below meth c H locs 0 0 Q (F0 m 4 ls []) := by
  have hx := C0.1.1
  have hb := C0.1.2.1
  have hta := C0.1.2.2.2.2.2.1
  have hown := C0.1.2.2.2.2.1
  intro n
  induction n with
  | zero => intro _ _ h; cases h
  | succ n ih =>
    intro v2 v3 hrun H locs ls hW hl
    obtain ⟨o, ho, hrun⟩ := bd_some hrun
    unfold x8_widened_B4 at ho
    refine lv_iload_n hx hb dX8_widened_4 rfl (lv_at hl 3 rfl) ?_
    refine lv_aload_n hx hb dX8_widened_5 rfl (lv_at hl 0 rfl) ?_
    refine xGET_803 C0 kw_274 hW dX8_widened_6 ?_
    refine lv_icmp_ge (tgt := 33) hx hb dX8_widened_9 (by decide) (fun c1 => ?_) (fun c1 => ?_)
    · replace ho := ite_t c1 ho
      cases ho
      cases hrun
      exact hK0 _ _ _ hW (lv_sub hl [0, 2] rfl)
    · replace ho := ite_f c1 ho
      refine lv_iload_n hx hb dX8_widened_12 rfl (lv_at hl 2 rfl) ?_
      refine lv_iload_n hx hb dX8_widened_13 rfl (lv_at hl 1 rfl) ?_
      refine lv_iload_n hx hb dX8_widened_14 rfl (lv_at hl 3 rfl) ?_
      refine lv_ishr hx hb dX8_widened_15 ?_
      refine lv_iconst (v := (1 : Int32)) hx hb dX8_widened_16 (by decide) ?_
      refine lv_iand hx hb dX8_widened_17 ?_
      refine lv_aload_n hx hb dX8_widened_18 rfl (lv_at hl 0 rfl) ?_
      refine xGET_801 C0 kw_270 hW dX8_widened_19 ?_
      refine lv_iload_n hx hb dX8_widened_22 rfl (lv_at hl 3 rfl) ?_
      obtain ⟨g2, ho⟩ := gd_some ho
      refine xLD_801 C0 hW g2 dX8_widened_23 ?_
      refine lv_ishl hx hb dX8_widened_24 ?_
      refine lv_ior hx hb dX8_widened_25 ?_
      refine lv_nmi ho (fun x3 ho => ?_)
      refine lv_istore_n (lv' := [(2, .int x3), (0, .ref (am 1008)), (1, .int v1), (3, .int v3)]) hx hb dX8_widened_26 rfl hl (by decide) rfl (fun ls hl => ?_)
      obtain ⟨x4, ex4, ho⟩ := nm_x ho
      refine lv_iinc (v := x4) (lv' := [(3, .int x4), (2, .int x3), (0, .ref (am 1008)), (1, .int v1)]) hx hb dX8_widened_27 hl (k := 3) rfl (by rw [ex4]; rfl) (by decide) rfl (fun ls hl => ?_)
      clear ex4
      refine lv_goto (tgt := 4) hx hb dX8_widened_30 (by decide) ?_
      cases ho
      exact ih _ _ hrun _ _ _ hW (lv_sub hl [2, 3, 1, 0] rfl)
set_option maxHeartbeats 4000000 in
set_option maxRecDepth 100000 in
theorem c_x8_widened (l : Launch) {D : va_G} {cI cJ cZ cR : ClassId} {am gm : Nat → Nat} {st : Nat} (sz : Nat) (t : St) (a1 : Int32) {r : Int32} (ho : x8_widened t a1 = some r) : Met l yX8_widened (.code yX8_widened cX8_widened 4 (some .int) :: wsAll) (rmN 0 0) (va_Pc [.ref (am 1008), .int a1] (prX D (tyX cI cJ cZ cR) (wX cI cJ cZ cR am gm t) sz st)) (qI r D (tyX cI cJ cZ cR) (wX cI cJ cZ cR am gm t) (va_A (wX cI cJ cZ cR am gm t) sz)) 0 0 (va_A (wX cI cJ cZ cR am gm t) sz) := by
  refine Met.ofW (cc := cX8_widened) (maxL := 4) (ret := (some .int)) (by decide) rfl ?_
  intro p e s m args below meth c s₁ B hml hv
  obtain ⟨rfl, ⟨hsz, hP, hK, hD0⟩, hsx⟩ := hv
  have hx := B.exec
  have hb := B.bytes
  have hts := atoms_spec (ws := (.code yX8_widened cX8_widened 4 (some .int) :: wsAll)) B.pre
  have hta := fun w h => hts w (List.mem_cons_of_mem _ h)
  have hown : s.vm.findClass RX8 = some m.cls := findClass_of_methodNamed B.named
  have hlocks := B.notSynchronized
  subst hsz
  have hD := hD0.self (sz := s.heap.size)
  generalize hAe : va_A (wX cI cJ cZ cR am gm t) s.heap.size = A at hD ⊢
  have hA : ∀ q : Nat, s.heap.size ≤ q → A q := fun q h => by rw [← hAe]; exact Or.inr h
  have C0 : cxX p s m ([.ref (am 1008), .int a1].toArray) meth c cX8_widened RX8 4 (some .int) D (tyX cI cJ cZ cR) st A := ⟨⟨hx, hb, B.returns, hml, hown, hta, hlocks, hK, hA⟩, by rw [← hAe]; exact hsx⟩
  have hW : wl D A s (wX cI cJ cZ cR am gm t) s.heap [] := ⟨hP, hD, va_S.rf⟩
  have hl := lv_entry [.ref (am 1008), .int a1] (n := 4) (Nat.le_of_ble_eq_true rfl)
  rw [lg_entry_eq]
  generalize (lg_sl [.ref (am 1008), .int a1] ++ List.replicate (4 - (lg_sl [.ref (am 1008), .int a1]).length) Slot.unset).toArray = ls at hl ⊢
  have hl : lv_has ls 4 [(0, .ref (am 1008)), (1, .int a1)] := hl
  unfold x8_widened at ho
  refine lv_iconst (v := (0 : Int32)) hx hb dX8_widened_0 (by decide) ?_
  refine lv_istore_n (lv' := [(2, .int (0 : Int32)), (0, .ref (am 1008)), (1, .int a1)]) hx hb dX8_widened_1 rfl hl (by decide) rfl (fun ls hl => ?_)
  refine lv_iconst (v := (0 : Int32)) hx hb dX8_widened_2 (by decide) ?_
  refine lv_istore_n (lv' := [(3, .int (0 : Int32)), (2, .int (0 : Int32)), (0, .ref (am 1008)), (1, .int a1)]) hx hb dX8_widened_3 rfl hl (by decide) rfl (fun ls hl => ?_)
  obtain ⟨y5, hc6, ho⟩ := bd_some ho
  obtain ⟨ny5, hc6⟩ := lp_to hc6
  refine x8_widened_L4 C0 ?_ ny5 _ _ hc6 _ _ _ hW (lv_sub hl [2, 3, 1, 0] rfl)
  intro H locs ls hW hl
  refine lv_iload_n hx hb dX8_widened_33 rfl (lv_at hl 1 rfl) ?_
  cases ho
  exact rtI C0.1 hW dX8_widened_34
noncomputable def x10_findAll_B34 (v2 : Int32) (v3 : Int64) (v1 : Int32) (v5 : Int32) (t : St) : Option ((Int32 × Int32 × St) ⊕ (Int32 × St)) :=
  if (64 : Int32) ≤ v5 then (some (.inr (v1, t))) else (if (lg_cmp v3 (0 : Int64)) = 0 then (some (.inr (v1, t))) else (if (lg_cmp ((((v3).toUInt64 >>> ((v5).toInt64.toUInt64 &&& Int64.toUInt64 63)).toInt64) &&& (1 : Int64)) (1 : Int64)) = 0 then (if (Int32.ofNat (gN t 1003)) ≤ v1 then (nm (v5 + (1 : Int32)) (fun x6 : Int32 => some (.inl (v1, x6, t)))) else ((x8_widened t ((v2 * (64 : Int32)) + v5)).bind (fun q7 => gd v1 (gN t 1003) (nm (sA t 1003 v1 q7) (fun t10 : St => nm (v1 + (1 : Int32)) (fun x11 : Int32 => nm (v5 + (1 : Int32)) (fun x12 : Int32 => some (.inl (x11, x12, t10))))))))) else (nm (v5 + (1 : Int32)) (fun x4 : Int32 => some (.inl (v1, x4, t))))))
noncomputable def x10_findAll_B4 (v1 : Int32) (v2 : Int32) (t : St) : Option ((Int32 × Int32 × St) ⊕ (Int32 × St)) :=
  if (gI t 804) ≤ v2 then (some (.inr (v1, t))) else ((x8_leastWord t (gI t 806) v2).bind (fun q14 => (lp (fun x => x10_findAll_B34 v2 q14 x.1 x.2.1 x.2.2) (v1, (0 : Int32), t)).bind (fun y16 => nm (v2 + (1 : Int32)) (fun x18 : Int32 => some (.inl (y16.1, x18, y16.2))))))
noncomputable def x10_findAll (t : St) : Option (Int32 × St) :=
  (lp (fun x => x10_findAll_B4 x.1 x.2.1 x.2.2) ((0 : Int32), (0 : Int32), t)).bind (fun y19 => some (y19.1, y19.2))
set_option maxHeartbeats 4000000 in
set_option maxRecDepth 100000 in
theorem x10_findAll_L34 {p : Program} {l : Launch} {e : Env} {s : State} {m : MethodId} {args : Array Value} {below : List Frame} {meth : Method} {c : Code} {Q : State → Prop} {D : va_G} {cI cJ cZ cR : ClassId} {am gm : Nat → Nat} {st : Nat} {A : Nat → Prop} (C0 : cxX p s m args meth c cX10_findAll RX10 6 (some .int) D (tyX cI cJ cZ cR) st A) {v2 : Int32} {v3 : Int64} {y : Int32 × St} (hK0 : ∀ (H : Heap) (locs : List Loc) (ls : Array Slot), wl D A s (wX cI cJ cZ cR am gm y.2) H locs → lv_has ls 6 [(0, .ref (am 1010)), (1, .int y.1), (2, .int v2)] → W p l e (rmN 2 49) s m args below meth c H locs 0 0 Q (F0 m 96 ls [])) :
    ∀ (n : Nat) (v1 : Int32) (v5 : Int32) (t : St), lpn (fun x => x10_findAll_B34 v2 v3 x.1 x.2.1 x.2.2) n (v1, v5, t) = some y → ∀ (H : Heap) (locs : List Loc) (ls : Array Slot), wl D A s (wX cI cJ cZ cR am gm t) H locs → lv_has ls 6 [(0, .ref (am 1010)), (1, .int v1), (2, .int v2), (3, .long v3), (5, .int v5)] → W p l e (rmN 2 49) s m args below meth c H locs 0 0 Q (F0 m 34 ls []) := by
  have hx := C0.1.1
  have hb := C0.1.2.1
  have hta := C0.1.2.2.2.2.2.1
  have hown := C0.1.2.2.2.2.1
  intro n
  induction n with
  | zero => intro _ _ _ h; cases h
  | succ n ih =>
    intro v1 v5 t hrun H locs ls hW hl
    obtain ⟨o, ho, hrun⟩ := bd_some hrun
    unfold x10_findAll_B34 at ho
    refine lv_iload hx hb dX10_findAll_34 (lv_at hl 4 rfl) ?_
    refine lv_bipush (v := (64 : Int32)) hx hb dX10_findAll_36 (by decide) ?_
    refine lv_icmp_ge (tgt := 96) hx hb dX10_findAll_38 (by decide) (fun c1 => ?_) (fun c1 => ?_)
    · replace ho := ite_t c1 ho
      cases ho
      cases hrun
      exact hK0 _ _ _ hW (lv_sub hl [0, 1, 2] rfl)
    · replace ho := ite_f c1 ho
      refine lv_lload_n hx hb dX10_findAll_41 rfl (lv_at hl 3 rfl) ?_
      refine lv_lconst (v := (0 : Int64)) hx hb dX10_findAll_42 (by decide) ?_
      refine W.lcmp hx hb dX10_findAll_43 ?_
      refine lv_if_eq (tgt := 96) hx hb dX10_findAll_44 (by decide) (fun c2 => ?_) (fun c2 => ?_)
      · replace ho := ite_t c2 ho
        cases ho
        cases hrun
        exact hK0 _ _ _ hW (lv_sub hl [0, 1, 2] rfl)
      · replace ho := ite_f c2 ho
        refine lv_lload_n hx hb dX10_findAll_47 rfl (lv_at hl 3 rfl) ?_
        refine lv_iload hx hb dX10_findAll_48 (lv_at hl 4 rfl) ?_
        refine lv_lushr hx hb dX10_findAll_50 rfl ?_
        refine lv_lconst (v := (1 : Int64)) hx hb dX10_findAll_51 (by decide) ?_
        refine lv_land hx hb dX10_findAll_52 ?_
        refine lv_lconst (v := (1 : Int64)) hx hb dX10_findAll_53 (by decide) ?_
        refine W.lcmp hx hb dX10_findAll_54 ?_
        refine lv_if_ne (tgt := 90) hx hb dX10_findAll_55 (by decide) (fun c3 => ?_) (fun c3 => ?_)
        · replace ho := ite_f c3 ho
          obtain ⟨x4, ex4, ho⟩ := nm_x ho
          refine lv_iinc (v := x4) (lv' := [(5, .int x4), (0, .ref (am 1010)), (1, .int v1), (2, .int v2), (3, .long v3)]) hx hb dX10_findAll_90 hl (k := 4) rfl (by rw [ex4]; rfl) (by decide) rfl (fun ls hl => ?_)
          clear ex4
          refine lv_goto (tgt := 34) hx hb dX10_findAll_93 (by decide) ?_
          cases ho
          exact ih _ _ _ hrun _ _ _ hW (lv_sub hl [1, 2, 3, 4, 0] rfl)
        · replace ho := ite_t c3 ho
          refine lv_iload_n hx hb dX10_findAll_58 rfl (lv_at hl 1 rfl) ?_
          refine lv_aload_n hx hb dX10_findAll_59 rfl (lv_at hl 0 rfl) ?_
          refine xGET_1003 C0 kw_335 hW dX10_findAll_60 ?_
          refine xLEN_1003 C0 hW dX10_findAll_63 ?_
          refine lv_icmp_ge (tgt := 90) hx hb dX10_findAll_64 (by decide) (fun c5 => ?_) (fun c5 => ?_)
          · replace ho := ite_t c5 ho
            obtain ⟨x6, ex6, ho⟩ := nm_x ho
            refine lv_iinc (v := x6) (lv' := [(5, .int x6), (0, .ref (am 1010)), (1, .int v1), (2, .int v2), (3, .long v3)]) hx hb dX10_findAll_90 hl (k := 4) rfl (by rw [ex6]; rfl) (by decide) rfl (fun ls hl => ?_)
            clear ex6
            refine lv_goto (tgt := 34) hx hb dX10_findAll_93 (by decide) ?_
            cases ho
            exact ih _ _ _ hrun _ _ _ hW (lv_sub hl [1, 2, 3, 4, 0] rfl)
          · replace ho := ite_f c5 ho
            refine lv_aload_n hx hb dX10_findAll_67 rfl (lv_at hl 0 rfl) ?_
            refine xGET_1003 C0 kw_335 hW dX10_findAll_68 ?_
            refine lv_iload_n hx hb dX10_findAll_71 rfl (lv_at hl 1 rfl) ?_
            refine lv_aload_n hx hb dX10_findAll_72 rfl (lv_at hl 0 rfl) ?_
            refine xGET_1001 C0 kw_331 hW dX10_findAll_73 ?_
            refine lv_iload_n hx hb dX10_findAll_76 rfl (lv_at hl 2 rfl) ?_
            refine lv_bipush (v := (64 : Int32)) hx hb dX10_findAll_77 (by decide) ?_
            refine lv_imul hx hb dX10_findAll_79 ?_
            refine lv_iload hx hb dX10_findAll_80 (lv_at hl 4 rfl) ?_
            refine lv_iadd hx hb dX10_findAll_82 ?_
            obtain ⟨q7, hc8, ho⟩ := bd_some ho
            refine bkI C0.1 hW (runVX (As := [.int ((v2 * (64 : Int32)) + v5)]) (rest := [.int v1, .ref (am 1003)]) C0 hW (c_x8_widened l _ t ((v2 * (64 : Int32)) + v5) (r := q7) hc8) cb_X10_X8_widened_69 8 8 rfl rfl rfl rfl rfl ⟨rfl, rfl⟩ ⟨Nat.le_of_ble_eq_true rfl, Nat.le_of_ble_eq_true rfl⟩ (Nat.le_of_ble_eq_true rfl) hl.1 dX10_findAll_83 ⟨Nat.le_of_ble_eq_true rfl, Nat.le_of_ble_eq_true rfl⟩) (fun H locs hW => ?_)
            obtain ⟨g9, ho⟩ := gd_some ho
            refine xST_1003 C0 hW g9 dX10_findAll_86 (fun H locs hW => ?_)
            obtain ⟨t10, ho, hW⟩ := nm_w (P := fun t => wl D A s (wX cI cJ cZ cR am gm t) H locs) ho hW
            obtain ⟨x11, ex11, ho⟩ := nm_x ho
            refine lv_iinc (v := x11) (lv' := [(1, .int x11), (0, .ref (am 1010)), (2, .int v2), (3, .long v3), (5, .int v5)]) hx hb dX10_findAll_87 hl (k := 1) rfl (by rw [ex11]; rfl) (by decide) rfl (fun ls hl => ?_)
            clear ex11
            obtain ⟨x12, ex12, ho⟩ := nm_x ho
            refine lv_iinc (v := x12) (lv' := [(5, .int x12), (1, .int x11), (0, .ref (am 1010)), (2, .int v2), (3, .long v3)]) hx hb dX10_findAll_90 hl (k := 4) rfl (by rw [ex12]; rfl) (by decide) rfl (fun ls hl => ?_)
            clear ex12
            refine lv_goto (tgt := 34) hx hb dX10_findAll_93 (by decide) ?_
            cases ho
            exact ih _ _ _ hrun _ _ _ hW (lv_sub hl [2, 1, 3, 4, 0] rfl)
set_option maxHeartbeats 4000000 in
set_option maxRecDepth 100000 in
theorem x10_findAll_L4 {p : Program} {l : Launch} {e : Env} {s : State} {m : MethodId} {args : Array Value} {below : List Frame} {meth : Method} {c : Code} {Q : State → Prop} {D : va_G} {cI cJ cZ cR : ClassId} {am gm : Nat → Nat} {st : Nat} {A : Nat → Prop} (C0 : cxX p s m args meth c cX10_findAll RX10 6 (some .int) D (tyX cI cJ cZ cR) st A) {y : Int32 × St} (hK0 : ∀ (H : Heap) (locs : List Loc) (ls : Array Slot), wl D A s (wX cI cJ cZ cR am gm y.2) H locs → lv_has ls 6 [(0, .ref (am 1010)), (1, .int y.1)] → W p l e (rmN 2 49) s m args below meth c H locs 0 0 Q (F0 m 102 ls [])) :
    ∀ (n : Nat) (v1 : Int32) (v2 : Int32) (t : St), lpn (fun x => x10_findAll_B4 x.1 x.2.1 x.2.2) n (v1, v2, t) = some y → ∀ (H : Heap) (locs : List Loc) (ls : Array Slot), wl D A s (wX cI cJ cZ cR am gm t) H locs → lv_has ls 6 [(0, .ref (am 1010)), (1, .int v1), (2, .int v2)] → W p l e (rmN 2 49) s m args below meth c H locs 0 0 Q (F0 m 4 ls []) := by
  have hx := C0.1.1
  have hb := C0.1.2.1
  have hta := C0.1.2.2.2.2.2.1
  have hown := C0.1.2.2.2.2.1
  intro n
  induction n with
  | zero => intro _ _ _ h; cases h
  | succ n ih =>
    intro v1 v2 t hrun H locs ls hW hl
    obtain ⟨o, ho, hrun⟩ := bd_some hrun
    unfold x10_findAll_B4 at ho
    refine lv_iload_n hx hb dX10_findAll_4 rfl (lv_at hl 2 rfl) ?_
    refine lv_aload_n hx hb dX10_findAll_5 rfl (lv_at hl 0 rfl) ?_
    refine xGET_1001 C0 kw_331 hW dX10_findAll_6 ?_
    refine xGET_804 C0 kw_279 hW dX10_findAll_9 ?_
    refine lv_icmp_ge (tgt := 102) hx hb dX10_findAll_12 (by decide) (fun c13 => ?_) (fun c13 => ?_)
    · replace ho := ite_t c13 ho
      cases ho
      cases hrun
      exact hK0 _ _ _ hW (lv_sub hl [0, 1] rfl)
    · replace ho := ite_f c13 ho
      refine lv_aload_n hx hb dX10_findAll_15 rfl (lv_at hl 0 rfl) ?_
      refine xGET_1001 C0 kw_331 hW dX10_findAll_16 ?_
      refine lv_aload_n hx hb dX10_findAll_19 rfl (lv_at hl 0 rfl) ?_
      refine xGET_1001 C0 kw_331 hW dX10_findAll_20 ?_
      refine xGET_806 C0 kw_282 hW dX10_findAll_23 ?_
      refine lv_iload_n hx hb dX10_findAll_26 rfl (lv_at hl 2 rfl) ?_
      obtain ⟨q14, hc15, ho⟩ := bd_some ho
      refine bkJ C0.1 hW (runVX (As := [.int (gI t 806), .int v2]) (rest := []) C0 hW (c_x8_leastWord l _ t (gI t 806) v2 (r := q14) hc15) cb_X10_X8_leastWord_65 8 8 rfl rfl rfl rfl rfl ⟨rfl, rfl⟩ ⟨Nat.le_of_ble_eq_true rfl, Nat.le_of_ble_eq_true rfl⟩ (Nat.le_of_ble_eq_true rfl) hl.1 dX10_findAll_27 ⟨Nat.le_of_ble_eq_true rfl, Nat.le_of_ble_eq_true rfl⟩) (fun H locs hW => ?_)
      refine lv_lstore_n (lv' := [(3, .long q14), (0, .ref (am 1010)), (1, .int v1), (2, .int v2)]) hx hb dX10_findAll_30 rfl hl (by decide) rfl (fun ls hl => ?_)
      refine lv_iconst (v := (0 : Int32)) hx hb dX10_findAll_31 (by decide) ?_
      refine lv_istore (lv' := [(5, .int (0 : Int32)), (3, .long q14), (0, .ref (am 1010)), (1, .int v1), (2, .int v2)]) hx hb dX10_findAll_32 hl (by decide) rfl (fun ls hl => ?_)
      obtain ⟨y16, hc17, ho⟩ := bd_some ho
      obtain ⟨ny16, hc17⟩ := lp_to hc17
      refine x10_findAll_L34 C0 ?_ ny16 _ _ _ hc17 _ _ _ hW (lv_sub hl [2, 3, 4, 1, 0] rfl)
      intro H locs ls hW hl
      obtain ⟨x18, ex18, ho⟩ := nm_x ho
      refine lv_iinc (v := x18) (lv' := [(2, .int x18), (0, .ref (am 1010)), (1, .int y16.1)]) hx hb dX10_findAll_96 hl (k := 2) rfl (by rw [ex18]; rfl) (by decide) rfl (fun ls hl => ?_)
      clear ex18
      refine lv_goto (tgt := 4) hx hb dX10_findAll_99 (by decide) ?_
      cases ho
      exact ih _ _ _ hrun _ _ _ hW (lv_sub hl [1, 2, 0] rfl)
set_option maxHeartbeats 4000000 in
set_option maxRecDepth 100000 in
theorem c_x10_findAll (l : Launch) {D : va_G} {cI cJ cZ cR : ClassId} {am gm : Nat → Nat} {st : Nat} (sz : Nat) (t : St) {r : Int32} {t' : St} (ho : x10_findAll t = some (r, t')) : Met l yX10_findAll (.code yX10_findAll cX10_findAll 6 (some .int) :: wsAll) (rmN 2 49) (va_Pc [.ref (am 1010)] (prX D (tyX cI cJ cZ cR) (wX cI cJ cZ cR am gm t) sz st)) (qI r D (tyX cI cJ cZ cR) (wX cI cJ cZ cR am gm t') (va_A (wX cI cJ cZ cR am gm t) sz)) 0 0 (va_A (wX cI cJ cZ cR am gm t) sz) := by
  refine Met.ofW (cc := cX10_findAll) (maxL := 6) (ret := (some .int)) (by decide) rfl ?_
  intro p e s m args below meth c s₁ B hml hv
  obtain ⟨rfl, ⟨hsz, hP, hK, hD0⟩, hsx⟩ := hv
  have hx := B.exec
  have hb := B.bytes
  have hts := atoms_spec (ws := (.code yX10_findAll cX10_findAll 6 (some .int) :: wsAll)) B.pre
  have hta := fun w h => hts w (List.mem_cons_of_mem _ h)
  have hown : s.vm.findClass RX10 = some m.cls := findClass_of_methodNamed B.named
  have hlocks := B.notSynchronized
  subst hsz
  have hD := hD0.self (sz := s.heap.size)
  generalize hAe : va_A (wX cI cJ cZ cR am gm t) s.heap.size = A at hD ⊢
  have hA : ∀ q : Nat, s.heap.size ≤ q → A q := fun q h => by rw [← hAe]; exact Or.inr h
  have C0 : cxX p s m ([.ref (am 1010)].toArray) meth c cX10_findAll RX10 6 (some .int) D (tyX cI cJ cZ cR) st A := ⟨⟨hx, hb, B.returns, hml, hown, hta, hlocks, hK, hA⟩, by rw [← hAe]; exact hsx⟩
  have hW : wl D A s (wX cI cJ cZ cR am gm t) s.heap [] := ⟨hP, hD, va_S.rf⟩
  have hl := lv_entry [.ref (am 1010)] (n := 6) (Nat.le_of_ble_eq_true rfl)
  rw [lg_entry_eq]
  generalize (lg_sl [.ref (am 1010)] ++ List.replicate (6 - (lg_sl [.ref (am 1010)]).length) Slot.unset).toArray = ls at hl ⊢
  have hl : lv_has ls 6 [(0, .ref (am 1010))] := hl
  unfold x10_findAll at ho
  refine lv_iconst (v := (0 : Int32)) hx hb dX10_findAll_0 (by decide) ?_
  refine lv_istore_n (lv' := [(1, .int (0 : Int32)), (0, .ref (am 1010))]) hx hb dX10_findAll_1 rfl hl (by decide) rfl (fun ls hl => ?_)
  refine lv_iconst (v := (0 : Int32)) hx hb dX10_findAll_2 (by decide) ?_
  refine lv_istore_n (lv' := [(2, .int (0 : Int32)), (1, .int (0 : Int32)), (0, .ref (am 1010))]) hx hb dX10_findAll_3 rfl hl (by decide) rfl (fun ls hl => ?_)
  obtain ⟨y19, hc20, ho⟩ := bd_some ho
  obtain ⟨ny19, hc20⟩ := lp_to hc20
  refine x10_findAll_L4 C0 ?_ ny19 _ _ _ hc20 _ _ _ hW (lv_sub hl [2, 1, 0] rfl)
  intro H locs ls hW hl
  refine lv_iload_n hx hb dX10_findAll_102 rfl (lv_at hl 1 rfl) ?_
  cases ho
  exact rtI C0.1 hW dX10_findAll_103
noncomputable def j6_bitCount_0f7a4 (t : St) (a0 : Int32) : Option (Int32) :=
  nm (a0 - ((((a0).toUInt32 >>> (((1 : Int32)).toUInt32 &&& Int32.toUInt32 31)).toInt32) &&& (1431655765 : Int32))) (fun x1 : Int32 => nm ((x1 &&& (858993459 : Int32)) + ((((x1).toUInt32 >>> (((2 : Int32)).toUInt32 &&& Int32.toUInt32 31)).toInt32) &&& (858993459 : Int32))) (fun x2 : Int32 => nm ((x2 + (((x2).toUInt32 >>> (((4 : Int32)).toUInt32 &&& Int32.toUInt32 31)).toInt32)) &&& (252645135 : Int32)) (fun x3 : Int32 => nm (x3 + (((x3).toUInt32 >>> (((8 : Int32)).toUInt32 &&& Int32.toUInt32 31)).toInt32)) (fun x4 : Int32 => nm (x4 + (((x4).toUInt32 >>> (((16 : Int32)).toUInt32 &&& Int32.toUInt32 31)).toInt32)) (fun x5 : Int32 => some (x5 &&& (63 : Int32)))))))
set_option maxHeartbeats 4000000 in
set_option maxRecDepth 100000 in
theorem c_j6_bitCount_0f7a4 (l : Launch) {D : va_G} {cI cJ cZ cR : ClassId} {am gm : Nat → Nat} {st : Nat} (sz : Nat) (t : St) (a0 : Int32) {r : Int32} (ho : j6_bitCount_0f7a4 t a0 = some r) : Met l yJ6_bitCount_0f7a4 (.code yJ6_bitCount_0f7a4 cJ6_bitCount_0f7a4 1 (some .int) :: wsAll) (rmN 0 0) (va_Pc [.int a0] (prX D (tyX cI cJ cZ cR) (wX cI cJ cZ cR am gm t) sz st)) (qI r D (tyX cI cJ cZ cR) (wX cI cJ cZ cR am gm t) (va_A (wX cI cJ cZ cR am gm t) sz)) 0 0 (va_A (wX cI cJ cZ cR am gm t) sz) := by
  refine Met.ofW (cc := cJ6_bitCount_0f7a4) (maxL := 1) (ret := (some .int)) (by decide) rfl ?_
  intro p e s m args below meth c s₁ B hml hv
  obtain ⟨rfl, ⟨hsz, hP, hK, hD0⟩, hsx⟩ := hv
  have hx := B.exec
  have hb := B.bytes
  have hts := atoms_spec (ws := (.code yJ6_bitCount_0f7a4 cJ6_bitCount_0f7a4 1 (some .int) :: wsAll)) B.pre
  have hta := fun w h => hts w (List.mem_cons_of_mem _ h)
  have hown : s.vm.findClass RJ6 = some m.cls := findClass_of_methodNamed B.named
  have hlocks := B.notSynchronized
  subst hsz
  have hD := hD0.self (sz := s.heap.size)
  generalize hAe : va_A (wX cI cJ cZ cR am gm t) s.heap.size = A at hD ⊢
  have hA : ∀ q : Nat, s.heap.size ≤ q → A q := fun q h => by rw [← hAe]; exact Or.inr h
  have C0 : cxX p s m ([.int a0].toArray) meth c cJ6_bitCount_0f7a4 RJ6 1 (some .int) D (tyX cI cJ cZ cR) st A := ⟨⟨hx, hb, B.returns, hml, hown, hta, hlocks, hK, hA⟩, by rw [← hAe]; exact hsx⟩
  have hW : wl D A s (wX cI cJ cZ cR am gm t) s.heap [] := ⟨hP, hD, va_S.rf⟩
  have hl := lv_entry [.int a0] (n := 1) (Nat.le_of_ble_eq_true rfl)
  rw [lg_entry_eq]
  generalize (lg_sl [.int a0] ++ List.replicate (1 - (lg_sl [.int a0]).length) Slot.unset).toArray = ls at hl ⊢
  have hl : lv_has ls 1 [(0, .int a0)] := hl
  unfold j6_bitCount_0f7a4 at ho
  refine lv_iload_n hx hb dJ6_bitCount_0f7a4_0 rfl (lv_at hl 0 rfl) ?_
  refine lv_iload_n hx hb dJ6_bitCount_0f7a4_1 rfl (lv_at hl 0 rfl) ?_
  refine lv_iconst (v := (1 : Int32)) hx hb dJ6_bitCount_0f7a4_2 (by decide) ?_
  refine lv_iushr hx hb dJ6_bitCount_0f7a4_3 rfl ?_
  refine lv_ldcw hx hb hown (hta _ kw_889) dJ6_bitCount_0f7a4_4 ?_
  refine lv_iand hx hb dJ6_bitCount_0f7a4_7 ?_
  refine lv_isub hx hb dJ6_bitCount_0f7a4_8 ?_
  refine lv_nmi ho (fun x1 ho => ?_)
  refine lv_istore_n (lv' := [(0, .int x1)]) hx hb dJ6_bitCount_0f7a4_9 rfl hl (by decide) rfl (fun ls hl => ?_)
  refine lv_iload_n hx hb dJ6_bitCount_0f7a4_10 rfl (lv_at hl 0 rfl) ?_
  refine lv_ldcw hx hb hown (hta _ kw_890) dJ6_bitCount_0f7a4_11 ?_
  refine lv_iand hx hb dJ6_bitCount_0f7a4_14 ?_
  refine lv_iload_n hx hb dJ6_bitCount_0f7a4_15 rfl (lv_at hl 0 rfl) ?_
  refine lv_iconst (v := (2 : Int32)) hx hb dJ6_bitCount_0f7a4_16 (by decide) ?_
  refine lv_iushr hx hb dJ6_bitCount_0f7a4_17 rfl ?_
  refine lv_ldcw hx hb hown (hta _ kw_890) dJ6_bitCount_0f7a4_18 ?_
  refine lv_iand hx hb dJ6_bitCount_0f7a4_21 ?_
  refine lv_iadd hx hb dJ6_bitCount_0f7a4_22 ?_
  refine lv_nmi ho (fun x2 ho => ?_)
  refine lv_istore_n (lv' := [(0, .int x2)]) hx hb dJ6_bitCount_0f7a4_23 rfl hl (by decide) rfl (fun ls hl => ?_)
  refine lv_iload_n hx hb dJ6_bitCount_0f7a4_24 rfl (lv_at hl 0 rfl) ?_
  refine lv_iload_n hx hb dJ6_bitCount_0f7a4_25 rfl (lv_at hl 0 rfl) ?_
  refine lv_iconst (v := (4 : Int32)) hx hb dJ6_bitCount_0f7a4_26 (by decide) ?_
  refine lv_iushr hx hb dJ6_bitCount_0f7a4_27 rfl ?_
  refine lv_iadd hx hb dJ6_bitCount_0f7a4_28 ?_
  refine lv_ldcw hx hb hown (hta _ kw_891) dJ6_bitCount_0f7a4_29 ?_
  refine lv_iand hx hb dJ6_bitCount_0f7a4_32 ?_
  refine lv_nmi ho (fun x3 ho => ?_)
  refine lv_istore_n (lv' := [(0, .int x3)]) hx hb dJ6_bitCount_0f7a4_33 rfl hl (by decide) rfl (fun ls hl => ?_)
  refine lv_iload_n hx hb dJ6_bitCount_0f7a4_34 rfl (lv_at hl 0 rfl) ?_
  refine lv_iload_n hx hb dJ6_bitCount_0f7a4_35 rfl (lv_at hl 0 rfl) ?_
  refine lv_bipush (v := (8 : Int32)) hx hb dJ6_bitCount_0f7a4_36 (by decide) ?_
  refine lv_iushr hx hb dJ6_bitCount_0f7a4_38 rfl ?_
  refine lv_iadd hx hb dJ6_bitCount_0f7a4_39 ?_
  refine lv_nmi ho (fun x4 ho => ?_)
  refine lv_istore_n (lv' := [(0, .int x4)]) hx hb dJ6_bitCount_0f7a4_40 rfl hl (by decide) rfl (fun ls hl => ?_)
  refine lv_iload_n hx hb dJ6_bitCount_0f7a4_41 rfl (lv_at hl 0 rfl) ?_
  refine lv_iload_n hx hb dJ6_bitCount_0f7a4_42 rfl (lv_at hl 0 rfl) ?_
  refine lv_bipush (v := (16 : Int32)) hx hb dJ6_bitCount_0f7a4_43 (by decide) ?_
  refine lv_iushr hx hb dJ6_bitCount_0f7a4_45 rfl ?_
  refine lv_iadd hx hb dJ6_bitCount_0f7a4_46 ?_
  refine lv_nmi ho (fun x5 ho => ?_)
  refine lv_istore_n (lv' := [(0, .int x5)]) hx hb dJ6_bitCount_0f7a4_47 rfl hl (by decide) rfl (fun ls hl => ?_)
  refine lv_iload_n hx hb dJ6_bitCount_0f7a4_48 rfl (lv_at hl 0 rfl) ?_
  refine lv_bipush (v := (63 : Int32)) hx hb dJ6_bitCount_0f7a4_49 (by decide) ?_
  refine lv_iand hx hb dJ6_bitCount_0f7a4_51 ?_
  cases ho
  exact rtI C0.1 hW dJ6_bitCount_0f7a4_52
noncomputable def x10_sortBySize_B15 (v1 : Int32) (v2 : Int32) (v3 : Int32) (t : St) : Option ((Int32 × St) ⊕ (St)) :=
  if v1 ≤ v3 then (some (.inr t)) else (gd v3 (gN t 1003) ((j6_bitCount_0f7a4 t (gA t 1003 (v3).toNatClampNeg)).bind (fun q3 => if q3 = v2 then (gd v3 (gN t 1003) (gd (gI t 1004) (gN t 1002) (nm (sA t 1002 (gI t 1004) (gA t 1003 (v3).toNatClampNeg)) (fun t9 : St => nm (sI t9 1004 ((gI t9 1004) + (1 : Int32))) (fun t10 : St => nm (v3 + (1 : Int32)) (fun x11 : Int32 => some (.inl (x11, t10)))))))) else (nm (v3 + (1 : Int32)) (fun x6 : Int32 => some (.inl (x6, t)))))))
noncomputable def x10_sortBySize_B7 (v1 : Int32) (v2 : Int32) (t : St) : Option ((Int32 × St) ⊕ (St)) :=
  if (16 : Int32) < v2 then (some (.inr t)) else ((lp (fun x => x10_sortBySize_B15 v1 v2 x.1 x.2) ((0 : Int32), t)).bind (fun y13 => nm (v2 + (1 : Int32)) (fun x15 : Int32 => some (.inl (x15, y13)))))
noncomputable def x10_sortBySize (t : St) (a1 : Int32) : Option (St) :=
  nm (sI t 1004 (0 : Int32)) (fun t16 : St => (lp (fun x => x10_sortBySize_B7 a1 x.1 x.2) ((1 : Int32), t16)).bind (fun y17 => some y17))
set_option maxHeartbeats 4000000 in
set_option maxRecDepth 100000 in
theorem x10_sortBySize_L15 {p : Program} {l : Launch} {e : Env} {s : State} {m : MethodId} {args : Array Value} {below : List Frame} {meth : Method} {c : Code} {Q : State → Prop} {D : va_G} {cI cJ cZ cR : ClassId} {am gm : Nat → Nat} {st : Nat} {A : Nat → Prop} (C0 : cxX p s m args meth c cX10_sortBySize RX10 4 none D (tyX cI cJ cZ cR) st A) {v1 : Int32} {v2 : Int32} {y : St} (hK0 : ∀ (H : Heap) (locs : List Loc) (ls : Array Slot), wl D A s (wX cI cJ cZ cR am gm y) H locs → lv_has ls 4 [(0, .ref (am 1010)), (1, .int v1), (2, .int v2)] → W p l e (rmN 1 20) s m args below meth c H locs 0 0 Q (F0 m 64 ls [])) :
    ∀ (n : Nat) (v3 : Int32) (t : St), lpn (fun x => x10_sortBySize_B15 v1 v2 x.1 x.2) n (v3, t) = some y → ∀ (H : Heap) (locs : List Loc) (ls : Array Slot), wl D A s (wX cI cJ cZ cR am gm t) H locs → lv_has ls 4 [(0, .ref (am 1010)), (1, .int v1), (2, .int v2), (3, .int v3)] → W p l e (rmN 1 20) s m args below meth c H locs 0 0 Q (F0 m 15 ls []) := by
  have hx := C0.1.1
  have hb := C0.1.2.1
  have hta := C0.1.2.2.2.2.2.1
  have hown := C0.1.2.2.2.2.1
  intro n
  induction n with
  | zero => intro _ _ h; cases h
  | succ n ih =>
    intro v3 t hrun H locs ls hW hl
    obtain ⟨o, ho, hrun⟩ := bd_some hrun
    unfold x10_sortBySize_B15 at ho
    refine lv_iload_n hx hb dX10_sortBySize_15 rfl (lv_at hl 3 rfl) ?_
    refine lv_iload_n hx hb dX10_sortBySize_16 rfl (lv_at hl 1 rfl) ?_
    refine lv_icmp_ge (tgt := 64) hx hb dX10_sortBySize_17 (by decide) (fun c1 => ?_) (fun c1 => ?_)
    · replace ho := ite_t c1 ho
      cases ho
      cases hrun
      exact hK0 _ _ _ hW (lv_sub hl [0, 1, 2] rfl)
    · replace ho := ite_f c1 ho
      refine lv_aload_n hx hb dX10_sortBySize_20 rfl (lv_at hl 0 rfl) ?_
      refine xGET_1003 C0 kw_335 hW dX10_sortBySize_21 ?_
      refine lv_iload_n hx hb dX10_sortBySize_24 rfl (lv_at hl 3 rfl) ?_
      obtain ⟨g2, ho⟩ := gd_some ho
      refine xLD_1003 C0 hW g2 dX10_sortBySize_25 ?_
      obtain ⟨q3, hc4, ho⟩ := bd_some ho
      refine bkI C0.1 hW (runSX (As := [.int (gA t 1003 (v3).toNatClampNeg)]) (rest := []) C0 hW (c_j6_bitCount_0f7a4 l _ t (gA t 1003 (v3).toNatClampNeg) (r := q3) hc4) cb_X10_J6_bitCount_0f7a4_73 rfl rfl ⟨rfl, rfl⟩ ⟨Nat.le_of_ble_eq_true rfl, Nat.le_of_ble_eq_true rfl⟩ (Nat.le_of_ble_eq_true rfl) hl.1 dX10_sortBySize_26 ⟨Nat.le_of_ble_eq_true rfl, Nat.le_of_ble_eq_true rfl⟩) (fun H locs hW => ?_)
      refine lv_iload_n hx hb dX10_sortBySize_29 rfl (lv_at hl 2 rfl) ?_
      refine lv_icmp_ne (tgt := 58) hx hb dX10_sortBySize_30 (by decide) (fun c5 => ?_) (fun c5 => ?_)
      · replace ho := ite_f c5 ho
        obtain ⟨x6, ex6, ho⟩ := nm_x ho
        refine lv_iinc (v := x6) (lv' := [(3, .int x6), (0, .ref (am 1010)), (1, .int v1), (2, .int v2)]) hx hb dX10_sortBySize_58 hl (k := 3) rfl (by rw [ex6]; rfl) (by decide) rfl (fun ls hl => ?_)
        clear ex6
        refine lv_goto (tgt := 15) hx hb dX10_sortBySize_61 (by decide) ?_
        cases ho
        exact ih _ _ hrun _ _ _ hW (lv_sub hl [1, 2, 3, 0] rfl)
      · replace ho := ite_t c5 ho
        refine lv_aload_n hx hb dX10_sortBySize_33 rfl (lv_at hl 0 rfl) ?_
        refine xGET_1002 C0 kw_332 hW dX10_sortBySize_34 ?_
        refine lv_aload_n hx hb dX10_sortBySize_37 rfl (lv_at hl 0 rfl) ?_
        refine xGET_1004 C0 kw_336 hW dX10_sortBySize_38 ?_
        refine lv_aload_n hx hb dX10_sortBySize_41 rfl (lv_at hl 0 rfl) ?_
        refine xGET_1003 C0 kw_335 hW dX10_sortBySize_42 ?_
        refine lv_iload_n hx hb dX10_sortBySize_45 rfl (lv_at hl 3 rfl) ?_
        obtain ⟨g7, ho⟩ := gd_some ho
        refine xLD_1003 C0 hW g7 dX10_sortBySize_46 ?_
        obtain ⟨g8, ho⟩ := gd_some ho
        refine xST_1002 C0 hW g8 dX10_sortBySize_47 (fun H locs hW => ?_)
        obtain ⟨t9, ho, hW⟩ := nm_w (P := fun t => wl D A s (wX cI cJ cZ cR am gm t) H locs) ho hW
        refine lv_aload_n hx hb dX10_sortBySize_48 rfl (lv_at hl 0 rfl) ?_
        refine lv_dup hx hb dX10_sortBySize_49 rfl ?_
        refine xGET_1004 C0 kw_336 hW dX10_sortBySize_50 ?_
        refine lv_iconst (v := (1 : Int32)) hx hb dX10_sortBySize_53 (by decide) ?_
        refine lv_iadd hx hb dX10_sortBySize_54 ?_
        refine xPUT_1004 C0 kw_336 hW dX10_sortBySize_55 (fun H locs hW => ?_)
        obtain ⟨t10, ho, hW⟩ := nm_w (P := fun t => wl D A s (wX cI cJ cZ cR am gm t) H locs) ho hW
        obtain ⟨x11, ex11, ho⟩ := nm_x ho
        refine lv_iinc (v := x11) (lv' := [(3, .int x11), (0, .ref (am 1010)), (1, .int v1), (2, .int v2)]) hx hb dX10_sortBySize_58 hl (k := 3) rfl (by rw [ex11]; rfl) (by decide) rfl (fun ls hl => ?_)
        clear ex11
        refine lv_goto (tgt := 15) hx hb dX10_sortBySize_61 (by decide) ?_
        cases ho
        exact ih _ _ hrun _ _ _ hW (lv_sub hl [1, 2, 3, 0] rfl)
set_option maxHeartbeats 4000000 in
set_option maxRecDepth 100000 in
theorem x10_sortBySize_L7 {p : Program} {l : Launch} {e : Env} {s : State} {m : MethodId} {args : Array Value} {below : List Frame} {meth : Method} {c : Code} {Q : State → Prop} {D : va_G} {cI cJ cZ cR : ClassId} {am gm : Nat → Nat} {st : Nat} {A : Nat → Prop} (C0 : cxX p s m args meth c cX10_sortBySize RX10 4 none D (tyX cI cJ cZ cR) st A) {v1 : Int32} {y : St} (hK0 : ∀ (H : Heap) (locs : List Loc) (ls : Array Slot), wl D A s (wX cI cJ cZ cR am gm y) H locs → lv_has ls 4 [(0, .ref (am 1010))] → W p l e (rmN 1 20) s m args below meth c H locs 0 0 Q (F0 m 70 ls [])) :
    ∀ (n : Nat) (v2 : Int32) (t : St), lpn (fun x => x10_sortBySize_B7 v1 x.1 x.2) n (v2, t) = some y → ∀ (H : Heap) (locs : List Loc) (ls : Array Slot), wl D A s (wX cI cJ cZ cR am gm t) H locs → lv_has ls 4 [(0, .ref (am 1010)), (1, .int v1), (2, .int v2)] → W p l e (rmN 1 20) s m args below meth c H locs 0 0 Q (F0 m 7 ls []) := by
  have hx := C0.1.1
  have hb := C0.1.2.1
  have hta := C0.1.2.2.2.2.2.1
  have hown := C0.1.2.2.2.2.1
  intro n
  induction n with
  | zero => intro _ _ h; cases h
  | succ n ih =>
    intro v2 t hrun H locs ls hW hl
    obtain ⟨o, ho, hrun⟩ := bd_some hrun
    unfold x10_sortBySize_B7 at ho
    refine lv_iload_n hx hb dX10_sortBySize_7 rfl (lv_at hl 2 rfl) ?_
    refine lv_bipush (v := (16 : Int32)) hx hb dX10_sortBySize_8 (by decide) ?_
    refine lv_icmp_gt (tgt := 70) hx hb dX10_sortBySize_10 (by decide) (fun c12 => ?_) (fun c12 => ?_)
    · replace ho := ite_t c12 ho
      cases ho
      cases hrun
      exact hK0 _ _ _ hW (lv_sub hl [0] rfl)
    · replace ho := ite_f c12 ho
      refine lv_iconst (v := (0 : Int32)) hx hb dX10_sortBySize_13 (by decide) ?_
      refine lv_istore_n (lv' := [(3, .int (0 : Int32)), (0, .ref (am 1010)), (1, .int v1), (2, .int v2)]) hx hb dX10_sortBySize_14 rfl hl (by decide) rfl (fun ls hl => ?_)
      obtain ⟨y13, hc14, ho⟩ := bd_some ho
      obtain ⟨ny13, hc14⟩ := lp_to hc14
      refine x10_sortBySize_L15 C0 ?_ ny13 _ _ hc14 _ _ _ hW (lv_sub hl [1, 2, 3, 0] rfl)
      intro H locs ls hW hl
      obtain ⟨x15, ex15, ho⟩ := nm_x ho
      refine lv_iinc (v := x15) (lv' := [(2, .int x15), (0, .ref (am 1010)), (1, .int v1)]) hx hb dX10_sortBySize_64 hl (k := 2) rfl (by rw [ex15]; rfl) (by decide) rfl (fun ls hl => ?_)
      clear ex15
      refine lv_goto (tgt := 7) hx hb dX10_sortBySize_67 (by decide) ?_
      cases ho
      exact ih _ _ hrun _ _ _ hW (lv_sub hl [1, 2, 0] rfl)
set_option maxHeartbeats 4000000 in
set_option maxRecDepth 100000 in
theorem c_x10_sortBySize (l : Launch) {D : va_G} {cI cJ cZ cR : ClassId} {am gm : Nat → Nat} {st : Nat} (sz : Nat) (t : St) (a1 : Int32) {t' : St} (ho : x10_sortBySize t a1 = some t') : Met l yX10_sortBySize (.code yX10_sortBySize cX10_sortBySize 4 none :: wsAll) (rmN 1 20) (va_Pc [.ref (am 1010), .int a1] (prX D (tyX cI cJ cZ cR) (wX cI cJ cZ cR am gm t) sz st)) (qV D (tyX cI cJ cZ cR) (wX cI cJ cZ cR am gm t') (va_A (wX cI cJ cZ cR am gm t) sz)) 0 0 (va_A (wX cI cJ cZ cR am gm t) sz) := by
  refine Met.ofW (cc := cX10_sortBySize) (maxL := 4) (ret := none) (by decide) rfl ?_
  intro p e s m args below meth c s₁ B hml hv
  obtain ⟨rfl, ⟨hsz, hP, hK, hD0⟩, hsx⟩ := hv
  have hx := B.exec
  have hb := B.bytes
  have hts := atoms_spec (ws := (.code yX10_sortBySize cX10_sortBySize 4 none :: wsAll)) B.pre
  have hta := fun w h => hts w (List.mem_cons_of_mem _ h)
  have hown : s.vm.findClass RX10 = some m.cls := findClass_of_methodNamed B.named
  have hlocks := B.notSynchronized
  subst hsz
  have hD := hD0.self (sz := s.heap.size)
  generalize hAe : va_A (wX cI cJ cZ cR am gm t) s.heap.size = A at hD ⊢
  have hA : ∀ q : Nat, s.heap.size ≤ q → A q := fun q h => by rw [← hAe]; exact Or.inr h
  have C0 : cxX p s m ([.ref (am 1010), .int a1].toArray) meth c cX10_sortBySize RX10 4 none D (tyX cI cJ cZ cR) st A := ⟨⟨hx, hb, B.returns, hml, hown, hta, hlocks, hK, hA⟩, by rw [← hAe]; exact hsx⟩
  have hW : wl D A s (wX cI cJ cZ cR am gm t) s.heap [] := ⟨hP, hD, va_S.rf⟩
  have hl := lv_entry [.ref (am 1010), .int a1] (n := 4) (Nat.le_of_ble_eq_true rfl)
  rw [lg_entry_eq]
  generalize (lg_sl [.ref (am 1010), .int a1] ++ List.replicate (4 - (lg_sl [.ref (am 1010), .int a1]).length) Slot.unset).toArray = ls at hl ⊢
  have hl : lv_has ls 4 [(0, .ref (am 1010)), (1, .int a1)] := hl
  unfold x10_sortBySize at ho
  refine lv_aload_n hx hb dX10_sortBySize_0 rfl (lv_at hl 0 rfl) ?_
  refine lv_iconst (v := (0 : Int32)) hx hb dX10_sortBySize_1 (by decide) ?_
  refine xPUT_1004 C0 kw_336 hW dX10_sortBySize_2 (fun H locs hW => ?_)
  obtain ⟨t16, ho, hW⟩ := nm_w (P := fun t => wl D A s (wX cI cJ cZ cR am gm t) H locs) ho hW
  refine lv_iconst (v := (1 : Int32)) hx hb dX10_sortBySize_5 (by decide) ?_
  refine lv_istore_n (lv' := [(2, .int (1 : Int32)), (0, .ref (am 1010)), (1, .int a1)]) hx hb dX10_sortBySize_6 rfl hl (by decide) rfl (fun ls hl => ?_)
  obtain ⟨y17, hc18, ho⟩ := bd_some ho
  obtain ⟨ny17, hc18⟩ := lp_to hc18
  refine x10_sortBySize_L7 C0 ?_ ny17 _ _ hc18 _ _ _ hW (lv_sub hl [1, 2, 0] rfl)
  intro H locs ls hW hl
  cases ho
  exact rtV C0.1 hW dX10_sortBySize_70
noncomputable def x5_sumOf_B5 (t : St) (v1 : Int32) (v2 : Int32) (v3 : Int32) (v4 : Int32) : Option ((Int32 × Int32) ⊕ (Int32)) :=
  if (16 : Int32) ≤ v4 then (some (.inr v3)) else (if ((v1 >>> (v4 &&& 31)) &&& (1 : Int32)) = (1 : Int32) then ((x5_get t v4 v2).bind (fun q4 => nm (v3 + q4) (fun x6 : Int32 => nm (v4 + (1 : Int32)) (fun x7 : Int32 => some (.inl (x6, x7)))))) else (nm (v4 + (1 : Int32)) (fun x3 : Int32 => some (.inl (v3, x3)))))
noncomputable def x5_sumOf (t : St) (a1 : Int32) (a2 : Int32) : Option (Int32) :=
  (lp (fun x => x5_sumOf_B5 t a1 a2 x.1 x.2) ((0 : Int32), (0 : Int32))).bind (fun y8 => some y8)
set_option maxHeartbeats 4000000 in
set_option maxRecDepth 100000 in
theorem x5_sumOf_L5 {p : Program} {l : Launch} {e : Env} {s : State} {m : MethodId} {args : Array Value} {below : List Frame} {meth : Method} {c : Code} {Q : State → Prop} {D : va_G} {cI cJ cZ cR : ClassId} {am gm : Nat → Nat} {st : Nat} {A : Nat → Prop} (C0 : cxX p s m args meth c cX5_sumOf RX5 5 (some .int) D (tyX cI cJ cZ cR) st A) {t : St} {v1 : Int32} {v2 : Int32} {y : Int32} (hK0 : ∀ (H : Heap) (locs : List Loc) (ls : Array Slot), wl D A s (wX cI cJ cZ cR am gm t) H locs → lv_has ls 5 [(0, .ref (am 1005)), (3, .int y)] → W p l e (rmN 1 22) s m args below meth c H locs 0 0 Q (F0 m 38 ls [])) :
    ∀ (n : Nat) (v3 : Int32) (v4 : Int32), lpn (fun x => x5_sumOf_B5 t v1 v2 x.1 x.2) n (v3, v4) = some y → ∀ (H : Heap) (locs : List Loc) (ls : Array Slot), wl D A s (wX cI cJ cZ cR am gm t) H locs → lv_has ls 5 [(0, .ref (am 1005)), (1, .int v1), (2, .int v2), (3, .int v3), (4, .int v4)] → W p l e (rmN 1 22) s m args below meth c H locs 0 0 Q (F0 m 5 ls []) := by
  have hx := C0.1.1
  have hb := C0.1.2.1
  have hta := C0.1.2.2.2.2.2.1
  have hown := C0.1.2.2.2.2.1
  intro n
  induction n with
  | zero => intro _ _ h; cases h
  | succ n ih =>
    intro v3 v4 hrun H locs ls hW hl
    obtain ⟨o, ho, hrun⟩ := bd_some hrun
    unfold x5_sumOf_B5 at ho
    refine lv_iload hx hb dX5_sumOf_5 (lv_at hl 4 rfl) ?_
    refine lv_bipush (v := (16 : Int32)) hx hb dX5_sumOf_7 (by decide) ?_
    refine lv_icmp_ge (tgt := 38) hx hb dX5_sumOf_9 (by decide) (fun c1 => ?_) (fun c1 => ?_)
    · replace ho := ite_t c1 ho
      cases ho
      cases hrun
      exact hK0 _ _ _ hW (lv_sub hl [0, 3] rfl)
    · replace ho := ite_f c1 ho
      refine lv_iload_n hx hb dX5_sumOf_12 rfl (lv_at hl 1 rfl) ?_
      refine lv_iload hx hb dX5_sumOf_13 (lv_at hl 4 rfl) ?_
      refine lv_ishr hx hb dX5_sumOf_15 ?_
      refine lv_iconst (v := (1 : Int32)) hx hb dX5_sumOf_16 (by decide) ?_
      refine lv_iand hx hb dX5_sumOf_17 ?_
      refine lv_iconst (v := (1 : Int32)) hx hb dX5_sumOf_18 (by decide) ?_
      refine lv_icmp_ne (tgt := 32) hx hb dX5_sumOf_19 (by decide) (fun c2 => ?_) (fun c2 => ?_)
      · replace ho := ite_f c2 ho
        obtain ⟨x3, ex3, ho⟩ := nm_x ho
        refine lv_iinc (v := x3) (lv' := [(4, .int x3), (0, .ref (am 1005)), (1, .int v1), (2, .int v2), (3, .int v3)]) hx hb dX5_sumOf_32 hl (k := 4) rfl (by rw [ex3]; rfl) (by decide) rfl (fun ls hl => ?_)
        clear ex3
        refine lv_goto (tgt := 5) hx hb dX5_sumOf_35 (by decide) ?_
        cases ho
        exact ih _ _ hrun _ _ _ hW (lv_sub hl [1, 2, 3, 4, 0] rfl)
      · replace ho := ite_t c2 ho
        refine lv_iload_n hx hb dX5_sumOf_22 rfl (lv_at hl 3 rfl) ?_
        refine lv_aload_n hx hb dX5_sumOf_23 rfl (lv_at hl 0 rfl) ?_
        refine lv_iload hx hb dX5_sumOf_24 (lv_at hl 4 rfl) ?_
        refine lv_iload_n hx hb dX5_sumOf_26 rfl (lv_at hl 2 rfl) ?_
        obtain ⟨q4, hc5, ho⟩ := bd_some ho
        refine bkI C0.1 hW (runVX (As := [.int v4, .int v2]) (rest := [.int v3]) C0 hW (c_x5_get l _ t v4 v2 (r := q4) hc5) cb_X5_X5_get_24 5 5 rfl rfl rfl rfl rfl ⟨rfl, rfl⟩ ⟨Nat.le_of_ble_eq_true rfl, Nat.le_of_ble_eq_true rfl⟩ (Nat.le_of_ble_eq_true rfl) hl.1 dX5_sumOf_27 ⟨Nat.le_of_ble_eq_true rfl, Nat.le_of_ble_eq_true rfl⟩) (fun H locs hW => ?_)
        refine lv_iadd hx hb dX5_sumOf_30 ?_
        refine lv_nmi ho (fun x6 ho => ?_)
        refine lv_istore_n (lv' := [(3, .int x6), (0, .ref (am 1005)), (1, .int v1), (2, .int v2), (4, .int v4)]) hx hb dX5_sumOf_31 rfl hl (by decide) rfl (fun ls hl => ?_)
        obtain ⟨x7, ex7, ho⟩ := nm_x ho
        refine lv_iinc (v := x7) (lv' := [(4, .int x7), (3, .int x6), (0, .ref (am 1005)), (1, .int v1), (2, .int v2)]) hx hb dX5_sumOf_32 hl (k := 4) rfl (by rw [ex7]; rfl) (by decide) rfl (fun ls hl => ?_)
        clear ex7
        refine lv_goto (tgt := 5) hx hb dX5_sumOf_35 (by decide) ?_
        cases ho
        exact ih _ _ hrun _ _ _ hW (lv_sub hl [2, 3, 4, 1, 0] rfl)
set_option maxHeartbeats 4000000 in
set_option maxRecDepth 100000 in
theorem c_x5_sumOf (l : Launch) {D : va_G} {cI cJ cZ cR : ClassId} {am gm : Nat → Nat} {st : Nat} (sz : Nat) (t : St) (a1 : Int32) (a2 : Int32) {r : Int32} (ho : x5_sumOf t a1 a2 = some r) : Met l yX5_sumOf (.code yX5_sumOf cX5_sumOf 5 (some .int) :: wsAll) (rmN 1 22) (va_Pc [.ref (am 1005), .int a1, .int a2] (prX D (tyX cI cJ cZ cR) (wX cI cJ cZ cR am gm t) sz st)) (qI r D (tyX cI cJ cZ cR) (wX cI cJ cZ cR am gm t) (va_A (wX cI cJ cZ cR am gm t) sz)) 0 0 (va_A (wX cI cJ cZ cR am gm t) sz) := by
  refine Met.ofW (cc := cX5_sumOf) (maxL := 5) (ret := (some .int)) (by decide) rfl ?_
  intro p e s m args below meth c s₁ B hml hv
  obtain ⟨rfl, ⟨hsz, hP, hK, hD0⟩, hsx⟩ := hv
  have hx := B.exec
  have hb := B.bytes
  have hts := atoms_spec (ws := (.code yX5_sumOf cX5_sumOf 5 (some .int) :: wsAll)) B.pre
  have hta := fun w h => hts w (List.mem_cons_of_mem _ h)
  have hown : s.vm.findClass RX5 = some m.cls := findClass_of_methodNamed B.named
  have hlocks := B.notSynchronized
  subst hsz
  have hD := hD0.self (sz := s.heap.size)
  generalize hAe : va_A (wX cI cJ cZ cR am gm t) s.heap.size = A at hD ⊢
  have hA : ∀ q : Nat, s.heap.size ≤ q → A q := fun q h => by rw [← hAe]; exact Or.inr h
  have C0 : cxX p s m ([.ref (am 1005), .int a1, .int a2].toArray) meth c cX5_sumOf RX5 5 (some .int) D (tyX cI cJ cZ cR) st A := ⟨⟨hx, hb, B.returns, hml, hown, hta, hlocks, hK, hA⟩, by rw [← hAe]; exact hsx⟩
  have hW : wl D A s (wX cI cJ cZ cR am gm t) s.heap [] := ⟨hP, hD, va_S.rf⟩
  have hl := lv_entry [.ref (am 1005), .int a1, .int a2] (n := 5) (Nat.le_of_ble_eq_true rfl)
  rw [lg_entry_eq]
  generalize (lg_sl [.ref (am 1005), .int a1, .int a2] ++ List.replicate (5 - (lg_sl [.ref (am 1005), .int a1, .int a2]).length) Slot.unset).toArray = ls at hl ⊢
  have hl : lv_has ls 5 [(0, .ref (am 1005)), (1, .int a1), (2, .int a2)] := hl
  unfold x5_sumOf at ho
  refine lv_iconst (v := (0 : Int32)) hx hb dX5_sumOf_0 (by decide) ?_
  refine lv_istore_n (lv' := [(3, .int (0 : Int32)), (0, .ref (am 1005)), (1, .int a1), (2, .int a2)]) hx hb dX5_sumOf_1 rfl hl (by decide) rfl (fun ls hl => ?_)
  refine lv_iconst (v := (0 : Int32)) hx hb dX5_sumOf_2 (by decide) ?_
  refine lv_istore (lv' := [(4, .int (0 : Int32)), (3, .int (0 : Int32)), (0, .ref (am 1005)), (1, .int a1), (2, .int a2)]) hx hb dX5_sumOf_3 hl (by decide) rfl (fun ls hl => ?_)
  obtain ⟨y8, hc9, ho⟩ := bd_some ho
  obtain ⟨ny8, hc9⟩ := lp_to hc9
  refine x5_sumOf_L5 C0 ?_ ny8 _ _ hc9 _ _ _ hW (lv_sub hl [2, 3, 4, 1, 0] rfl)
  intro H locs ls hW hl
  refine lv_iload_n hx hb dX5_sumOf_38 rfl (lv_at hl 1 rfl) ?_
  cases ho
  exact rtI C0.1 hW dX5_sumOf_39
noncomputable def x10_firstLeast_B8 (t : St) (v1 : Int32) (v2 : Int32) (v3 : Int32) (v4 : Int32) : Option ((Int32 × Int32 × Int32) ⊕ (Int32)) :=
  if (gI t 1004) ≤ v4 then (some (.inr v2)) else (gd v4 (gN t 1002) ((x5_sumOf t (gA t 1002 (v4).toNatClampNeg) v1).bind (fun q3 => if v3 ≤ q3 then (nm (v4 + (1 : Int32)) (fun x6 : Int32 => some (.inl (v2, v3, x6)))) else (gd v4 (gN t 1002) (nm (gA t 1002 (v4).toNatClampNeg) (fun x8 : Int32 => nm (v4 + (1 : Int32)) (fun x9 : Int32 => some (.inl (x8, q3, x9)))))))))
noncomputable def x10_firstLeast (t : St) (a1 : Int32) : Option (Int32) :=
  (lp (fun x => x10_firstLeast_B8 t a1 x.1 x.2.1 x.2.2) ((0 : Int32), (2147483647 : Int32), (0 : Int32))).bind (fun y10 => some y10)
set_option maxHeartbeats 4000000 in
set_option maxRecDepth 100000 in
theorem x10_firstLeast_L8 {p : Program} {l : Launch} {e : Env} {s : State} {m : MethodId} {args : Array Value} {below : List Frame} {meth : Method} {c : Code} {Q : State → Prop} {D : va_G} {cI cJ cZ cR : ClassId} {am gm : Nat → Nat} {st : Nat} {A : Nat → Prop} (C0 : cxX p s m args meth c cX10_firstLeast RX10 6 (some .int) D (tyX cI cJ cZ cR) st A) {t : St} {v1 : Int32} {y : Int32} (hK0 : ∀ (H : Heap) (locs : List Loc) (ls : Array Slot), wl D A s (wX cI cJ cZ cR am gm t) H locs → lv_has ls 6 [(0, .ref (am 1010)), (2, .int y)] → W p l e (rmN 2 46) s m args below meth c H locs 0 0 Q (F0 m 57 ls [])) :
    ∀ (n : Nat) (v2 : Int32) (v3 : Int32) (v4 : Int32), lpn (fun x => x10_firstLeast_B8 t v1 x.1 x.2.1 x.2.2) n (v2, v3, v4) = some y → ∀ (H : Heap) (locs : List Loc) (ls : Array Slot), wl D A s (wX cI cJ cZ cR am gm t) H locs → lv_has ls 6 [(0, .ref (am 1010)), (1, .int v1), (2, .int v2), (3, .int v3), (4, .int v4)] → W p l e (rmN 2 46) s m args below meth c H locs 0 0 Q (F0 m 8 ls []) := by
  have hx := C0.1.1
  have hb := C0.1.2.1
  have hta := C0.1.2.2.2.2.2.1
  have hown := C0.1.2.2.2.2.1
  intro n
  induction n with
  | zero => intro _ _ _ h; cases h
  | succ n ih =>
    intro v2 v3 v4 hrun H locs ls hW hl
    obtain ⟨o, ho, hrun⟩ := bd_some hrun
    unfold x10_firstLeast_B8 at ho
    refine lv_iload hx hb dX10_firstLeast_8 (lv_at hl 4 rfl) ?_
    refine lv_aload_n hx hb dX10_firstLeast_10 rfl (lv_at hl 0 rfl) ?_
    refine xGET_1004 C0 kw_336 hW dX10_firstLeast_11 ?_
    refine lv_icmp_ge (tgt := 57) hx hb dX10_firstLeast_14 (by decide) (fun c1 => ?_) (fun c1 => ?_)
    · replace ho := ite_t c1 ho
      cases ho
      cases hrun
      exact hK0 _ _ _ hW (lv_sub hl [0, 2] rfl)
    · replace ho := ite_f c1 ho
      refine lv_aload_n hx hb dX10_firstLeast_17 rfl (lv_at hl 0 rfl) ?_
      refine xGET_1000 C0 kw_330 hW dX10_firstLeast_18 ?_
      refine lv_aload_n hx hb dX10_firstLeast_21 rfl (lv_at hl 0 rfl) ?_
      refine xGET_1002 C0 kw_332 hW dX10_firstLeast_22 ?_
      refine lv_iload hx hb dX10_firstLeast_25 (lv_at hl 4 rfl) ?_
      obtain ⟨g2, ho⟩ := gd_some ho
      refine xLD_1002 C0 hW g2 dX10_firstLeast_27 ?_
      refine lv_iload_n hx hb dX10_firstLeast_28 rfl (lv_at hl 1 rfl) ?_
      obtain ⟨q3, hc4, ho⟩ := bd_some ho
      refine bkI C0.1 hW (runVX (As := [.int (gA t 1002 (v4).toNatClampNeg), .int v1]) (rest := []) C0 hW (c_x5_sumOf l _ t (gA t 1002 (v4).toNatClampNeg) v1 (r := q3) hc4) cb_X10_X5_sumOf_79 5 5 rfl rfl rfl rfl rfl ⟨rfl, rfl⟩ ⟨Nat.le_of_ble_eq_true rfl, Nat.le_of_ble_eq_true rfl⟩ (Nat.le_of_ble_eq_true rfl) hl.1 dX10_firstLeast_29 ⟨Nat.le_of_ble_eq_true rfl, Nat.le_of_ble_eq_true rfl⟩) (fun H locs hW => ?_)
      refine lv_istore (lv' := [(5, .int q3), (0, .ref (am 1010)), (1, .int v1), (2, .int v2), (3, .int v3), (4, .int v4)]) hx hb dX10_firstLeast_32 hl (by decide) rfl (fun ls hl => ?_)
      refine lv_iload hx hb dX10_firstLeast_34 (lv_at hl 0 rfl) ?_
      refine lv_iload_n hx hb dX10_firstLeast_36 rfl (lv_at hl 4 rfl) ?_
      refine lv_icmp_ge (tgt := 51) hx hb dX10_firstLeast_37 (by decide) (fun c5 => ?_) (fun c5 => ?_)
      · replace ho := ite_t c5 ho
        obtain ⟨x6, ex6, ho⟩ := nm_x ho
        refine lv_iinc (v := x6) (lv' := [(4, .int x6), (5, .int q3), (0, .ref (am 1010)), (1, .int v1), (2, .int v2), (3, .int v3)]) hx hb dX10_firstLeast_51 hl (k := 5) rfl (by rw [ex6]; rfl) (by decide) rfl (fun ls hl => ?_)
        clear ex6
        refine lv_goto (tgt := 8) hx hb dX10_firstLeast_54 (by decide) ?_
        cases ho
        exact ih _ _ _ hrun _ _ _ hW (lv_sub hl [2, 3, 4, 5, 0] rfl)
      · replace ho := ite_f c5 ho
        refine lv_iload hx hb dX10_firstLeast_40 (lv_at hl 0 rfl) ?_
        refine lv_istore_n (lv' := [(3, .int q3), (5, .int q3), (0, .ref (am 1010)), (1, .int v1), (2, .int v2), (4, .int v4)]) hx hb dX10_firstLeast_42 rfl hl (by decide) rfl (fun ls hl => ?_)
        refine lv_aload_n hx hb dX10_firstLeast_43 rfl (lv_at hl 2 rfl) ?_
        refine xGET_1002 C0 kw_332 hW dX10_firstLeast_44 ?_
        refine lv_iload hx hb dX10_firstLeast_47 (lv_at hl 5 rfl) ?_
        obtain ⟨g7, ho⟩ := gd_some ho
        refine xLD_1002 C0 hW g7 dX10_firstLeast_49 ?_
        refine lv_nmi ho (fun x8 ho => ?_)
        refine lv_istore_n (lv' := [(2, .int x8), (3, .int q3), (5, .int q3), (0, .ref (am 1010)), (1, .int v1), (4, .int v4)]) hx hb dX10_firstLeast_50 rfl hl (by decide) rfl (fun ls hl => ?_)
        obtain ⟨x9, ex9, ho⟩ := nm_x ho
        refine lv_iinc (v := x9) (lv' := [(4, .int x9), (2, .int x8), (3, .int q3), (5, .int q3), (0, .ref (am 1010)), (1, .int v1)]) hx hb dX10_firstLeast_51 hl (k := 5) rfl (by rw [ex9]; rfl) (by decide) rfl (fun ls hl => ?_)
        clear ex9
        refine lv_goto (tgt := 8) hx hb dX10_firstLeast_54 (by decide) ?_
        cases ho
        exact ih _ _ _ hrun _ _ _ hW (lv_sub hl [4, 5, 1, 2, 0] rfl)
set_option maxHeartbeats 4000000 in
set_option maxRecDepth 100000 in
theorem c_x10_firstLeast (l : Launch) {D : va_G} {cI cJ cZ cR : ClassId} {am gm : Nat → Nat} {st : Nat} (sz : Nat) (t : St) (a1 : Int32) {r : Int32} (ho : x10_firstLeast t a1 = some r) : Met l yX10_firstLeast (.code yX10_firstLeast cX10_firstLeast 6 (some .int) :: wsAll) (rmN 2 46) (va_Pc [.ref (am 1010), .int a1] (prX D (tyX cI cJ cZ cR) (wX cI cJ cZ cR am gm t) sz st)) (qI r D (tyX cI cJ cZ cR) (wX cI cJ cZ cR am gm t) (va_A (wX cI cJ cZ cR am gm t) sz)) 0 0 (va_A (wX cI cJ cZ cR am gm t) sz) := by
  refine Met.ofW (cc := cX10_firstLeast) (maxL := 6) (ret := (some .int)) (by decide) rfl ?_
  intro p e s m args below meth c s₁ B hml hv
  obtain ⟨rfl, ⟨hsz, hP, hK, hD0⟩, hsx⟩ := hv
  have hx := B.exec
  have hb := B.bytes
  have hts := atoms_spec (ws := (.code yX10_firstLeast cX10_firstLeast 6 (some .int) :: wsAll)) B.pre
  have hta := fun w h => hts w (List.mem_cons_of_mem _ h)
  have hown : s.vm.findClass RX10 = some m.cls := findClass_of_methodNamed B.named
  have hlocks := B.notSynchronized
  subst hsz
  have hD := hD0.self (sz := s.heap.size)
  generalize hAe : va_A (wX cI cJ cZ cR am gm t) s.heap.size = A at hD ⊢
  have hA : ∀ q : Nat, s.heap.size ≤ q → A q := fun q h => by rw [← hAe]; exact Or.inr h
  have C0 : cxX p s m ([.ref (am 1010), .int a1].toArray) meth c cX10_firstLeast RX10 6 (some .int) D (tyX cI cJ cZ cR) st A := ⟨⟨hx, hb, B.returns, hml, hown, hta, hlocks, hK, hA⟩, by rw [← hAe]; exact hsx⟩
  have hW : wl D A s (wX cI cJ cZ cR am gm t) s.heap [] := ⟨hP, hD, va_S.rf⟩
  have hl := lv_entry [.ref (am 1010), .int a1] (n := 6) (Nat.le_of_ble_eq_true rfl)
  rw [lg_entry_eq]
  generalize (lg_sl [.ref (am 1010), .int a1] ++ List.replicate (6 - (lg_sl [.ref (am 1010), .int a1]).length) Slot.unset).toArray = ls at hl ⊢
  have hl : lv_has ls 6 [(0, .ref (am 1010)), (1, .int a1)] := hl
  unfold x10_firstLeast at ho
  refine lv_iconst (v := (0 : Int32)) hx hb dX10_firstLeast_0 (by decide) ?_
  refine lv_istore_n (lv' := [(2, .int (0 : Int32)), (0, .ref (am 1010)), (1, .int a1)]) hx hb dX10_firstLeast_1 rfl hl (by decide) rfl (fun ls hl => ?_)
  refine lv_ldc hx hb hown (hta _ kw_908) dX10_firstLeast_2 ?_
  refine lv_istore_n (lv' := [(3, .int (2147483647 : Int32)), (2, .int (0 : Int32)), (0, .ref (am 1010)), (1, .int a1)]) hx hb dX10_firstLeast_4 rfl hl (by decide) rfl (fun ls hl => ?_)
  refine lv_iconst (v := (0 : Int32)) hx hb dX10_firstLeast_5 (by decide) ?_
  refine lv_istore (lv' := [(4, .int (0 : Int32)), (3, .int (2147483647 : Int32)), (2, .int (0 : Int32)), (0, .ref (am 1010)), (1, .int a1)]) hx hb dX10_firstLeast_6 hl (by decide) rfl (fun ls hl => ?_)
  obtain ⟨y10, hc11, ho⟩ := bd_some ho
  obtain ⟨ny10, hc11⟩ := lp_to hc11
  refine x10_firstLeast_L8 C0 ?_ ny10 _ _ _ hc11 _ _ _ hW (lv_sub hl [3, 4, 2, 1, 0] rfl)
  intro H locs ls hW hl
  refine lv_iload_n hx hb dX10_firstLeast_57 rfl (lv_at hl 1 rfl) ?_
  cases ho
  exact rtI C0.1 hW dX10_firstLeast_58
noncomputable def x6_risingAt_613_B15 (v1 : Int32) (v2 : Int32) (v3 : Int32) (v4 : Int32) (v5 : Int32) (t : St) : Option ((Int32 × St) ⊕ (Int32 × St)) :=
  if v5 ≤ 0 then (some (.inr (v5, t))) else (gd (v5 - (1 : Int32)) (gN t 613) (if (gA t 613 ((v5 - (1 : Int32))).toNatClampNeg) ≤ v4 then (some (.inr (v5, t))) else (gd (v5 - (1 : Int32)) (gN t 613) (gd v5 (gN t 613) (nm (sA t 613 v5 (gA t 613 ((v5 - (1 : Int32))).toNatClampNeg)) (fun t6 : St => nm (v5 + (-1 : Int32)) (fun x7 : Int32 => some (.inl (x7, t6)))))))))
noncomputable def x6_risingAt_613_B2 (v1 : Int32) (v2 : Int32) (v3 : Int32) (t : St) : Option ((Int32 × St) ⊕ (St)) :=
  if v1 ≤ v3 then (some (.inr t)) else (gd v3 (gN t 613) (nm (gA t 613 (v3).toNatClampNeg) (fun x10 : Int32 => (lp (fun x => x6_risingAt_613_B15 v1 v2 v3 x10 x.1 x.2) (v3, t)).bind (fun y11 => gd y11.1 (gN y11.2 613) (nm (sA y11.2 613 y11.1 x10) (fun t14 : St => nm (v3 + (1 : Int32)) (fun x15 : Int32 => some (.inl (x15, t14)))))))))
noncomputable def x6_risingAt_613 (t : St) (a1 : Int32) (a2 : Int32) : Option (Int32 × St) :=
  (lp (fun x => x6_risingAt_613_B2 a1 a2 x.1 x.2) ((1 : Int32), t)).bind (fun y16 => gd (a2 - (1 : Int32)) (gN y16 613) (some ((gA y16 613 ((a2 - (1 : Int32))).toNatClampNeg), y16)))
set_option maxHeartbeats 4000000 in
set_option maxRecDepth 100000 in
theorem x6_risingAt_613_L15 {p : Program} {l : Launch} {e : Env} {s : State} {m : MethodId} {args : Array Value} {below : List Frame} {meth : Method} {c : Code} {Q : State → Prop} {D : va_G} {cI cJ cZ cR : ClassId} {am gm : Nat → Nat} {st : Nat} {A : Nat → Prop} (C0 : cxX p s m args meth c cX6_risingAt RX6 6 (some .int) D (tyX cI cJ cZ cR) st A) {v1 : Int32} {v2 : Int32} {v3 : Int32} {v4 : Int32} {y : Int32 × St} (hK0 : ∀ (H : Heap) (locs : List Loc) (ls : Array Slot), wl D A s (wX cI cJ cZ cR am gm y.2) H locs → lv_has ls 6 [(0, .ref (am 613)), (1, .int v1), (2, .int v2), (3, .int v3), (4, .int v4), (5, .int y.1)] → W p l e (rmN 0 0) s m args below meth c H locs 0 0 Q (F0 m 47 ls [])) :
    ∀ (n : Nat) (v5 : Int32) (t : St), lpn (fun x => x6_risingAt_613_B15 v1 v2 v3 v4 x.1 x.2) n (v5, t) = some y → ∀ (H : Heap) (locs : List Loc) (ls : Array Slot), wl D A s (wX cI cJ cZ cR am gm t) H locs → lv_has ls 6 [(0, .ref (am 613)), (1, .int v1), (2, .int v2), (3, .int v3), (4, .int v4), (5, .int v5)] → W p l e (rmN 0 0) s m args below meth c H locs 0 0 Q (F0 m 15 ls []) := by
  have hx := C0.1.1
  have hb := C0.1.2.1
  have hta := C0.1.2.2.2.2.2.1
  have hown := C0.1.2.2.2.2.1
  intro n
  induction n with
  | zero => intro _ _ h; cases h
  | succ n ih =>
    intro v5 t hrun H locs ls hW hl
    obtain ⟨o, ho, hrun⟩ := bd_some hrun
    unfold x6_risingAt_613_B15 at ho
    refine lv_iload hx hb dX6_risingAt_15 (lv_at hl 5 rfl) ?_
    refine lv_if_le (tgt := 47) hx hb dX6_risingAt_17 (by decide) (fun c1 => ?_) (fun c1 => ?_)
    · replace ho := ite_t c1 ho
      cases ho
      cases hrun
      exact hK0 _ _ _ hW (lv_sub hl [0, 1, 2, 3, 4, 5] rfl)
    · replace ho := ite_f c1 ho
      refine lv_aload_n hx hb dX6_risingAt_20 rfl (lv_at hl 0 rfl) ?_
      refine lv_iload hx hb dX6_risingAt_21 (lv_at hl 5 rfl) ?_
      refine lv_iconst (v := (1 : Int32)) hx hb dX6_risingAt_23 (by decide) ?_
      refine lv_isub hx hb dX6_risingAt_24 ?_
      obtain ⟨g2, ho⟩ := gd_some ho
      refine xLD_613 C0 hW g2 dX6_risingAt_25 ?_
      refine lv_iload hx hb dX6_risingAt_26 (lv_at hl 4 rfl) ?_
      refine lv_icmp_le (tgt := 47) hx hb dX6_risingAt_28 (by decide) (fun c3 => ?_) (fun c3 => ?_)
      · replace ho := ite_t c3 ho
        cases ho
        cases hrun
        exact hK0 _ _ _ hW (lv_sub hl [0, 1, 2, 3, 4, 5] rfl)
      · replace ho := ite_f c3 ho
        refine lv_aload_n hx hb dX6_risingAt_31 rfl (lv_at hl 0 rfl) ?_
        refine lv_iload hx hb dX6_risingAt_32 (lv_at hl 5 rfl) ?_
        refine lv_aload_n hx hb dX6_risingAt_34 rfl (lv_at hl 0 rfl) ?_
        refine lv_iload hx hb dX6_risingAt_35 (lv_at hl 5 rfl) ?_
        refine lv_iconst (v := (1 : Int32)) hx hb dX6_risingAt_37 (by decide) ?_
        refine lv_isub hx hb dX6_risingAt_38 ?_
        obtain ⟨g4, ho⟩ := gd_some ho
        refine xLD_613 C0 hW g4 dX6_risingAt_39 ?_
        obtain ⟨g5, ho⟩ := gd_some ho
        refine xST_613 C0 hW g5 dX6_risingAt_40 (fun H locs hW => ?_)
        obtain ⟨t6, ho, hW⟩ := nm_w (P := fun t => wl D A s (wX cI cJ cZ cR am gm t) H locs) ho hW
        obtain ⟨x7, ex7, ho⟩ := nm_x ho
        refine lv_iinc (v := x7) (lv' := [(5, .int x7), (0, .ref (am 613)), (1, .int v1), (2, .int v2), (3, .int v3), (4, .int v4)]) hx hb dX6_risingAt_41 hl (k := 5) rfl (by rw [ex7]; rfl) (by decide) rfl (fun ls hl => ?_)
        clear ex7
        refine lv_goto (tgt := 15) hx hb dX6_risingAt_44 (by decide) ?_
        cases ho
        exact ih _ _ hrun _ _ _ hW (lv_sub hl [1, 2, 3, 4, 5, 0] rfl)
set_option maxHeartbeats 4000000 in
set_option maxRecDepth 100000 in
theorem x6_risingAt_613_L2 {p : Program} {l : Launch} {e : Env} {s : State} {m : MethodId} {args : Array Value} {below : List Frame} {meth : Method} {c : Code} {Q : State → Prop} {D : va_G} {cI cJ cZ cR : ClassId} {am gm : Nat → Nat} {st : Nat} {A : Nat → Prop} (C0 : cxX p s m args meth c cX6_risingAt RX6 6 (some .int) D (tyX cI cJ cZ cR) st A) {v1 : Int32} {v2 : Int32} {y : St} (hK0 : ∀ (H : Heap) (locs : List Loc) (ls : Array Slot), wl D A s (wX cI cJ cZ cR am gm y) H locs → lv_has ls 6 [(0, .ref (am 613)), (2, .int v2)] → W p l e (rmN 0 0) s m args below meth c H locs 0 0 Q (F0 m 59 ls [])) :
    ∀ (n : Nat) (v3 : Int32) (t : St), lpn (fun x => x6_risingAt_613_B2 v1 v2 x.1 x.2) n (v3, t) = some y → ∀ (H : Heap) (locs : List Loc) (ls : Array Slot), wl D A s (wX cI cJ cZ cR am gm t) H locs → lv_has ls 6 [(0, .ref (am 613)), (1, .int v1), (2, .int v2), (3, .int v3)] → W p l e (rmN 0 0) s m args below meth c H locs 0 0 Q (F0 m 2 ls []) := by
  have hx := C0.1.1
  have hb := C0.1.2.1
  have hta := C0.1.2.2.2.2.2.1
  have hown := C0.1.2.2.2.2.1
  intro n
  induction n with
  | zero => intro _ _ h; cases h
  | succ n ih =>
    intro v3 t hrun H locs ls hW hl
    obtain ⟨o, ho, hrun⟩ := bd_some hrun
    unfold x6_risingAt_613_B2 at ho
    refine lv_iload_n hx hb dX6_risingAt_2 rfl (lv_at hl 3 rfl) ?_
    refine lv_iload_n hx hb dX6_risingAt_3 rfl (lv_at hl 1 rfl) ?_
    refine lv_icmp_ge (tgt := 59) hx hb dX6_risingAt_4 (by decide) (fun c8 => ?_) (fun c8 => ?_)
    · replace ho := ite_t c8 ho
      cases ho
      cases hrun
      exact hK0 _ _ _ hW (lv_sub hl [0, 2] rfl)
    · replace ho := ite_f c8 ho
      refine lv_aload_n hx hb dX6_risingAt_7 rfl (lv_at hl 0 rfl) ?_
      refine lv_iload_n hx hb dX6_risingAt_8 rfl (lv_at hl 3 rfl) ?_
      obtain ⟨g9, ho⟩ := gd_some ho
      refine xLD_613 C0 hW g9 dX6_risingAt_9 ?_
      refine lv_nmi ho (fun x10 ho => ?_)
      refine lv_istore (lv' := [(4, .int x10), (0, .ref (am 613)), (1, .int v1), (2, .int v2), (3, .int v3)]) hx hb dX6_risingAt_10 hl (by decide) rfl (fun ls hl => ?_)
      refine lv_iload_n hx hb dX6_risingAt_12 rfl (lv_at hl 4 rfl) ?_
      refine lv_istore (lv' := [(5, .int v3), (4, .int x10), (0, .ref (am 613)), (1, .int v1), (2, .int v2), (3, .int v3)]) hx hb dX6_risingAt_13 hl (by decide) rfl (fun ls hl => ?_)
      obtain ⟨y11, hc12, ho⟩ := bd_some ho
      obtain ⟨ny11, hc12⟩ := lp_to hc12
      refine x6_risingAt_613_L15 C0 ?_ ny11 _ _ hc12 _ _ _ hW (lv_sub hl [2, 3, 4, 5, 1, 0] rfl)
      intro H locs ls hW hl
      refine lv_aload_n hx hb dX6_risingAt_47 rfl (lv_at hl 0 rfl) ?_
      refine lv_iload hx hb dX6_risingAt_48 (lv_at hl 5 rfl) ?_
      refine lv_iload hx hb dX6_risingAt_50 (lv_at hl 4 rfl) ?_
      obtain ⟨g13, ho⟩ := gd_some ho
      refine xST_613 C0 hW g13 dX6_risingAt_52 (fun H locs hW => ?_)
      obtain ⟨t14, ho, hW⟩ := nm_w (P := fun t => wl D A s (wX cI cJ cZ cR am gm t) H locs) ho hW
      obtain ⟨x15, ex15, ho⟩ := nm_x ho
      refine lv_iinc (v := x15) (lv' := [(3, .int x15), (0, .ref (am 613)), (1, .int v1), (2, .int v2), (4, .int x10), (5, .int y11.1)]) hx hb dX6_risingAt_53 hl (k := 3) rfl (by rw [ex15]; rfl) (by decide) rfl (fun ls hl => ?_)
      clear ex15
      refine lv_goto (tgt := 2) hx hb dX6_risingAt_56 (by decide) ?_
      cases ho
      exact ih _ _ hrun _ _ _ hW (lv_sub hl [1, 2, 3, 0] rfl)
set_option maxHeartbeats 4000000 in
set_option maxRecDepth 100000 in
theorem c_x6_risingAt_613 (l : Launch) {D : va_G} {cI cJ cZ cR : ClassId} {am gm : Nat → Nat} {st : Nat} (sz : Nat) (t : St) (a1 : Int32) (a2 : Int32) {r : Int32} {t' : St} (ho : x6_risingAt_613 t a1 a2 = some (r, t')) : Met l yX6_risingAt (.code yX6_risingAt cX6_risingAt 6 (some .int) :: wsAll) (rmN 0 0) (va_Pc [.ref (am 613), .int a1, .int a2] (prX D (tyX cI cJ cZ cR) (wX cI cJ cZ cR am gm t) sz st)) (qI r D (tyX cI cJ cZ cR) (wX cI cJ cZ cR am gm t') (va_A (wX cI cJ cZ cR am gm t) sz)) 0 0 (va_A (wX cI cJ cZ cR am gm t) sz) := by
  refine Met.ofW (cc := cX6_risingAt) (maxL := 6) (ret := (some .int)) (by decide) rfl ?_
  intro p e s m args below meth c s₁ B hml hv
  obtain ⟨rfl, ⟨hsz, hP, hK, hD0⟩, hsx⟩ := hv
  have hx := B.exec
  have hb := B.bytes
  have hts := atoms_spec (ws := (.code yX6_risingAt cX6_risingAt 6 (some .int) :: wsAll)) B.pre
  have hta := fun w h => hts w (List.mem_cons_of_mem _ h)
  have hown : s.vm.findClass RX6 = some m.cls := findClass_of_methodNamed B.named
  have hlocks := B.notSynchronized
  subst hsz
  have hD := hD0.self (sz := s.heap.size)
  generalize hAe : va_A (wX cI cJ cZ cR am gm t) s.heap.size = A at hD ⊢
  have hA : ∀ q : Nat, s.heap.size ≤ q → A q := fun q h => by rw [← hAe]; exact Or.inr h
  have C0 : cxX p s m ([.ref (am 613), .int a1, .int a2].toArray) meth c cX6_risingAt RX6 6 (some .int) D (tyX cI cJ cZ cR) st A := ⟨⟨hx, hb, B.returns, hml, hown, hta, hlocks, hK, hA⟩, by rw [← hAe]; exact hsx⟩
  have hW : wl D A s (wX cI cJ cZ cR am gm t) s.heap [] := ⟨hP, hD, va_S.rf⟩
  have hl := lv_entry [.ref (am 613), .int a1, .int a2] (n := 6) (Nat.le_of_ble_eq_true rfl)
  rw [lg_entry_eq]
  generalize (lg_sl [.ref (am 613), .int a1, .int a2] ++ List.replicate (6 - (lg_sl [.ref (am 613), .int a1, .int a2]).length) Slot.unset).toArray = ls at hl ⊢
  have hl : lv_has ls 6 [(0, .ref (am 613)), (1, .int a1), (2, .int a2)] := hl
  unfold x6_risingAt_613 at ho
  refine lv_iconst (v := (1 : Int32)) hx hb dX6_risingAt_0 (by decide) ?_
  refine lv_istore_n (lv' := [(3, .int (1 : Int32)), (0, .ref (am 613)), (1, .int a1), (2, .int a2)]) hx hb dX6_risingAt_1 rfl hl (by decide) rfl (fun ls hl => ?_)
  obtain ⟨y16, hc17, ho⟩ := bd_some ho
  obtain ⟨ny16, hc17⟩ := lp_to hc17
  refine x6_risingAt_613_L2 C0 ?_ ny16 _ _ hc17 _ _ _ hW (lv_sub hl [1, 2, 3, 0] rfl)
  intro H locs ls hW hl
  refine lv_aload_n hx hb dX6_risingAt_59 rfl (lv_at hl 0 rfl) ?_
  refine lv_iload_n hx hb dX6_risingAt_60 rfl (lv_at hl 1 rfl) ?_
  refine lv_iconst (v := (1 : Int32)) hx hb dX6_risingAt_61 (by decide) ?_
  refine lv_isub hx hb dX6_risingAt_62 ?_
  obtain ⟨g18, ho⟩ := gd_some ho
  refine xLD_613 C0 hW g18 dX6_risingAt_63 ?_
  cases ho
  exact rtI C0.1 hW dX6_risingAt_64
noncomputable def x6_someTime_B17 (v1 : Int32) (v2 : Int32) (v3 : Int32) (t : St) : Option ((Int32 × St) ⊕ (St)) :=
  if v2 ≤ v3 then (some (.inr t)) else ((x6_partOf t v1 v3).bind (fun q2 => gd q2 (gN t 612) (gd v3 (gN t 613) (nm (sA t 613 v3 (gA t 612 (q2).toNatClampNeg)) (fun t6 : St => nm (v3 + (1 : Int32)) (fun x7 : Int32 => some (.inl (x7, t6))))))))
noncomputable def x6_someTime (t : St) (a1 : Int32) : Option (Int32 × St) :=
  gd a1 (gN t 604) (nm (if (Int32.ofNat (gN t 613)) < (gA t 604 (a1).toNatClampNeg) then (Int32.ofNat (gN t 613)) else (gA t 604 (a1).toNatClampNeg)) (fun x9 : Int32 => (lp (fun x => x6_someTime_B17 a1 x9 x.1 x.2) ((0 : Int32), t)).bind (fun y10 => gd a1 (gN y10 605) ((x6_risingAt_613 y10 x9 (gA y10 605 (a1).toNatClampNeg)).bind (fun q13 => some (q13.1, q13.2))))))
set_option maxHeartbeats 4000000 in
set_option maxRecDepth 100000 in
theorem x6_someTime_L17 {p : Program} {l : Launch} {e : Env} {s : State} {m : MethodId} {args : Array Value} {below : List Frame} {meth : Method} {c : Code} {Q : State → Prop} {D : va_G} {cI cJ cZ cR : ClassId} {am gm : Nat → Nat} {st : Nat} {A : Nat → Prop} (C0 : cxX p s m args meth c cX6_someTime RX6 4 (some .int) D (tyX cI cJ cZ cR) st A) {v1 : Int32} {v2 : Int32} {y : St} (hK0 : ∀ (H : Heap) (locs : List Loc) (ls : Array Slot), wl D A s (wX cI cJ cZ cR am gm y) H locs → lv_has ls 4 [(0, .ref (am 1006)), (1, .int v1), (2, .int v2)] → W p l e (rmN 1 25) s m args below meth c H locs 0 0 Q (F0 m 45 ls [])) :
    ∀ (n : Nat) (v3 : Int32) (t : St), lpn (fun x => x6_someTime_B17 v1 v2 x.1 x.2) n (v3, t) = some y → ∀ (H : Heap) (locs : List Loc) (ls : Array Slot), wl D A s (wX cI cJ cZ cR am gm t) H locs → lv_has ls 4 [(0, .ref (am 1006)), (1, .int v1), (2, .int v2), (3, .int v3)] → W p l e (rmN 1 25) s m args below meth c H locs 0 0 Q (F0 m 17 ls []) := by
  have hx := C0.1.1
  have hb := C0.1.2.1
  have hta := C0.1.2.2.2.2.2.1
  have hown := C0.1.2.2.2.2.1
  intro n
  induction n with
  | zero => intro _ _ h; cases h
  | succ n ih =>
    intro v3 t hrun H locs ls hW hl
    obtain ⟨o, ho, hrun⟩ := bd_some hrun
    unfold x6_someTime_B17 at ho
    refine lv_iload_n hx hb dX6_someTime_17 rfl (lv_at hl 3 rfl) ?_
    refine lv_iload_n hx hb dX6_someTime_18 rfl (lv_at hl 2 rfl) ?_
    refine lv_icmp_ge (tgt := 45) hx hb dX6_someTime_19 (by decide) (fun c1 => ?_) (fun c1 => ?_)
    · replace ho := ite_t c1 ho
      cases ho
      cases hrun
      exact hK0 _ _ _ hW (lv_sub hl [0, 1, 2] rfl)
    · replace ho := ite_f c1 ho
      refine lv_aload_n hx hb dX6_someTime_22 rfl (lv_at hl 0 rfl) ?_
      refine xGET_613 C0 kw_210 hW dX6_someTime_23 ?_
      refine lv_iload_n hx hb dX6_someTime_26 rfl (lv_at hl 3 rfl) ?_
      refine lv_aload_n hx hb dX6_someTime_27 rfl (lv_at hl 0 rfl) ?_
      refine xGET_612 C0 kw_209 hW dX6_someTime_28 ?_
      refine lv_aload_n hx hb dX6_someTime_31 rfl (lv_at hl 0 rfl) ?_
      refine lv_iload_n hx hb dX6_someTime_32 rfl (lv_at hl 1 rfl) ?_
      refine lv_iload_n hx hb dX6_someTime_33 rfl (lv_at hl 3 rfl) ?_
      obtain ⟨q2, hc3, ho⟩ := bd_some ho
      refine bkI C0.1 hW (runVX (As := [.int v1, .int v3]) (rest := [.ref (am 612), .int v3, .ref (am 613)]) C0 hW (c_x6_partOf l _ t v1 v3 (r := q2) hc3) cb_X6_X6_partOf_86 6 6 rfl rfl rfl rfl rfl ⟨rfl, rfl⟩ ⟨Nat.le_of_ble_eq_true rfl, Nat.le_of_ble_eq_true rfl⟩ (Nat.le_of_ble_eq_true rfl) hl.1 dX6_someTime_34 ⟨Nat.le_of_ble_eq_true rfl, Nat.le_of_ble_eq_true rfl⟩) (fun H locs hW => ?_)
      obtain ⟨g4, ho⟩ := gd_some ho
      refine xLD_612 C0 hW g4 dX6_someTime_37 ?_
      obtain ⟨g5, ho⟩ := gd_some ho
      refine xST_613 C0 hW g5 dX6_someTime_38 (fun H locs hW => ?_)
      obtain ⟨t6, ho, hW⟩ := nm_w (P := fun t => wl D A s (wX cI cJ cZ cR am gm t) H locs) ho hW
      obtain ⟨x7, ex7, ho⟩ := nm_x ho
      refine lv_iinc (v := x7) (lv' := [(3, .int x7), (0, .ref (am 1006)), (1, .int v1), (2, .int v2)]) hx hb dX6_someTime_39 hl (k := 3) rfl (by rw [ex7]; rfl) (by decide) rfl (fun ls hl => ?_)
      clear ex7
      refine lv_goto (tgt := 17) hx hb dX6_someTime_42 (by decide) ?_
      cases ho
      exact ih _ _ hrun _ _ _ hW (lv_sub hl [1, 2, 3, 0] rfl)
set_option maxHeartbeats 4000000 in
set_option maxRecDepth 100000 in
theorem c_x6_someTime (l : Launch) {D : va_G} {cI cJ cZ cR : ClassId} {am gm : Nat → Nat} {st : Nat} (sz : Nat) (t : St) (a1 : Int32) {r : Int32} {t' : St} (ho : x6_someTime t a1 = some (r, t')) : Met l yX6_someTime (.code yX6_someTime cX6_someTime 4 (some .int) :: wsAll) (rmN 1 25) (va_Pc [.ref (am 1006), .int a1] (prX D (tyX cI cJ cZ cR) (wX cI cJ cZ cR am gm t) sz st)) (qI r D (tyX cI cJ cZ cR) (wX cI cJ cZ cR am gm t') (va_A (wX cI cJ cZ cR am gm t) sz)) 0 0 (va_A (wX cI cJ cZ cR am gm t) sz) := by
  refine Met.ofW (cc := cX6_someTime) (maxL := 4) (ret := (some .int)) (by decide) rfl ?_
  intro p e s m args below meth c s₁ B hml hv
  obtain ⟨rfl, ⟨hsz, hP, hK, hD0⟩, hsx⟩ := hv
  have hx := B.exec
  have hb := B.bytes
  have hts := atoms_spec (ws := (.code yX6_someTime cX6_someTime 4 (some .int) :: wsAll)) B.pre
  have hta := fun w h => hts w (List.mem_cons_of_mem _ h)
  have hown : s.vm.findClass RX6 = some m.cls := findClass_of_methodNamed B.named
  have hlocks := B.notSynchronized
  subst hsz
  have hD := hD0.self (sz := s.heap.size)
  generalize hAe : va_A (wX cI cJ cZ cR am gm t) s.heap.size = A at hD ⊢
  have hA : ∀ q : Nat, s.heap.size ≤ q → A q := fun q h => by rw [← hAe]; exact Or.inr h
  have C0 : cxX p s m ([.ref (am 1006), .int a1].toArray) meth c cX6_someTime RX6 4 (some .int) D (tyX cI cJ cZ cR) st A := ⟨⟨hx, hb, B.returns, hml, hown, hta, hlocks, hK, hA⟩, by rw [← hAe]; exact hsx⟩
  have hW : wl D A s (wX cI cJ cZ cR am gm t) s.heap [] := ⟨hP, hD, va_S.rf⟩
  have hl := lv_entry [.ref (am 1006), .int a1] (n := 4) (Nat.le_of_ble_eq_true rfl)
  rw [lg_entry_eq]
  generalize (lg_sl [.ref (am 1006), .int a1] ++ List.replicate (4 - (lg_sl [.ref (am 1006), .int a1]).length) Slot.unset).toArray = ls at hl ⊢
  have hl : lv_has ls 4 [(0, .ref (am 1006)), (1, .int a1)] := hl
  unfold x6_someTime at ho
  refine lv_aload_n hx hb dX6_someTime_0 rfl (lv_at hl 0 rfl) ?_
  refine xGET_604 C0 kw_190 hW dX6_someTime_1 ?_
  refine lv_iload_n hx hb dX6_someTime_4 rfl (lv_at hl 1 rfl) ?_
  obtain ⟨g8, ho⟩ := gd_some ho
  refine xLD_604 C0 hW g8 dX6_someTime_5 ?_
  refine lv_aload_n hx hb dX6_someTime_6 rfl (lv_at hl 0 rfl) ?_
  refine xGET_613 C0 kw_210 hW dX6_someTime_7 ?_
  refine xLEN_613 C0 hW dX6_someTime_10 ?_
  refine va_mmin (rest := []) hx hb (C0.1.2.2.2.1.trans hl.1.symm) hown (hta _ kw_933) (hta _ kw_748) (hta _ kw_136) (hta _ kw_749) (Nat.le_of_ble_eq_true rfl) (Nat.le_of_ble_eq_true rfl) (Nat.le_of_ble_eq_true rfl) (Nat.le_of_ble_eq_true rfl) dX6_someTime_11 ?_
  refine lv_nmi ho (fun x9 ho => ?_)
  refine lv_istore_n (lv' := [(2, .int x9), (0, .ref (am 1006)), (1, .int a1)]) hx hb dX6_someTime_14 rfl hl (by decide) rfl (fun ls hl => ?_)
  refine lv_iconst (v := (0 : Int32)) hx hb dX6_someTime_15 (by decide) ?_
  refine lv_istore_n (lv' := [(3, .int (0 : Int32)), (2, .int x9), (0, .ref (am 1006)), (1, .int a1)]) hx hb dX6_someTime_16 rfl hl (by decide) rfl (fun ls hl => ?_)
  obtain ⟨y10, hc11, ho⟩ := bd_some ho
  obtain ⟨ny10, hc11⟩ := lp_to hc11
  refine x6_someTime_L17 C0 ?_ ny10 _ _ hc11 _ _ _ hW (lv_sub hl [2, 3, 1, 0] rfl)
  intro H locs ls hW hl
  refine lv_aload_n hx hb dX6_someTime_45 rfl (lv_at hl 0 rfl) ?_
  refine xGET_613 C0 kw_210 hW dX6_someTime_46 ?_
  refine lv_iload_n hx hb dX6_someTime_49 rfl (lv_at hl 2 rfl) ?_
  refine lv_aload_n hx hb dX6_someTime_50 rfl (lv_at hl 0 rfl) ?_
  refine xGET_605 C0 kw_194 hW dX6_someTime_51 ?_
  refine lv_iload_n hx hb dX6_someTime_54 rfl (lv_at hl 1 rfl) ?_
  obtain ⟨g12, ho⟩ := gd_some ho
  refine xLD_605 C0 hW g12 dX6_someTime_55 ?_
  obtain ⟨q13, hc14, ho⟩ := bd_some ho
  refine bkI C0.1 hW (runSX (As := [.ref (am 613), .int x9, .int (gA y10 605 (a1).toNatClampNeg)]) (rest := []) C0 hW (c_x6_risingAt_613 l _ y10 x9 (gA y10 605 (a1).toNatClampNeg) (r := q13.1) (t' := q13.2) hc14) cb_X6_X6_risingAt_107 rfl rfl ⟨rfl, rfl⟩ ⟨Nat.le_of_ble_eq_true rfl, Nat.le_of_ble_eq_true rfl⟩ (Nat.le_of_ble_eq_true rfl) hl.1 dX6_someTime_56 ⟨Nat.le_of_ble_eq_true rfl, Nat.le_of_ble_eq_true rfl⟩) (fun H locs hW => ?_)
  cases ho
  exact rtI C0.1 hW dX6_someTime_59
noncomputable def x6_rowTime_B30 (t : St) (v1 : Int32) (v2 : Int32) (v3 : Int32) : Option ((Int32 × Int32) ⊕ (Int32)) :=
  gd v1 (gN t 604) (if (gA t 604 (v1).toNatClampNeg) ≤ v3 then (some (.inr v2)) else ((x6_partOf t v1 v3).bind (fun q3 => gd q3 (gN t 612) (nm (gA t 612 (q3).toNatClampNeg) (fun x6 : Int32 => gd v1 (gN t 603) (if (gA t 603 (v1).toNatClampNeg) = (2 : Int32) then (nm (v2 + x6) (fun x15 : Int32 => nm (v3 + (1 : Int32)) (fun x16 : Int32 => some (.inl (x15, x16))))) else (gd v1 (gN t 603) (if (gA t 603 (v1).toNatClampNeg) = (1 : Int32) then (nm (if x6 < v2 then x6 else v2) (fun x13 : Int32 => nm (v3 + (1 : Int32)) (fun x14 : Int32 => some (.inl (x13, x14))))) else (nm (if v2 < x6 then x6 else v2) (fun x11 : Int32 => nm (v3 + (1 : Int32)) (fun x12 : Int32 => some (.inl (x11, x12)))))))))))))
noncomputable def x6_rowTime (t : St) (a1 : Int32) : Option (Int32 × St) :=
  gd a1 (gN t 603) (if (gA t 603 (a1).toNatClampNeg) = (4 : Int32) then ((x6_someTime t a1).bind (fun q25 => some (q25.1, q25.2))) else ((x6_partOf t a1 (0 : Int32)).bind (fun q19 => gd q19 (gN t 612) (nm (gA t 612 (q19).toNatClampNeg) (fun x22 : Int32 => (lp (fun x => x6_rowTime_B30 t a1 x.1 x.2) (x22, (1 : Int32))).bind (fun y23 => some (y23, t)))))))
set_option maxHeartbeats 4000000 in
set_option maxRecDepth 100000 in
theorem x6_rowTime_L30 {p : Program} {l : Launch} {e : Env} {s : State} {m : MethodId} {args : Array Value} {below : List Frame} {meth : Method} {c : Code} {Q : State → Prop} {D : va_G} {cI cJ cZ cR : ClassId} {am gm : Nat → Nat} {st : Nat} {A : Nat → Prop} (C0 : cxX p s m args meth c cX6_rowTime RX6 5 (some .int) D (tyX cI cJ cZ cR) st A) {t : St} {v1 : Int32} {y : Int32} (hK0 : ∀ (H : Heap) (locs : List Loc) (ls : Array Slot), wl D A s (wX cI cJ cZ cR am gm t) H locs → lv_has ls 5 [(0, .ref (am 1006)), (2, .int y)] → W p l e (rmN 2 48) s m args below meth c H locs 0 0 Q (F0 m 103 ls [])) :
    ∀ (n : Nat) (v2 : Int32) (v3 : Int32), lpn (fun x => x6_rowTime_B30 t v1 x.1 x.2) n (v2, v3) = some y → ∀ (H : Heap) (locs : List Loc) (ls : Array Slot), wl D A s (wX cI cJ cZ cR am gm t) H locs → lv_has ls 5 [(0, .ref (am 1006)), (1, .int v1), (2, .int v2), (3, .int v3)] → W p l e (rmN 2 48) s m args below meth c H locs 0 0 Q (F0 m 30 ls []) := by
  have hx := C0.1.1
  have hb := C0.1.2.1
  have hta := C0.1.2.2.2.2.2.1
  have hown := C0.1.2.2.2.2.1
  intro n
  induction n with
  | zero => intro _ _ h; cases h
  | succ n ih =>
    intro v2 v3 hrun H locs ls hW hl
    obtain ⟨o, ho, hrun⟩ := bd_some hrun
    unfold x6_rowTime_B30 at ho
    refine lv_iload_n hx hb dX6_rowTime_30 rfl (lv_at hl 3 rfl) ?_
    refine lv_aload_n hx hb dX6_rowTime_31 rfl (lv_at hl 0 rfl) ?_
    refine xGET_604 C0 kw_190 hW dX6_rowTime_32 ?_
    refine lv_iload_n hx hb dX6_rowTime_35 rfl (lv_at hl 1 rfl) ?_
    obtain ⟨g1, ho⟩ := gd_some ho
    refine xLD_604 C0 hW g1 dX6_rowTime_36 ?_
    refine lv_icmp_ge (tgt := 103) hx hb dX6_rowTime_37 (by decide) (fun c2 => ?_) (fun c2 => ?_)
    · replace ho := ite_t c2 ho
      cases ho
      cases hrun
      exact hK0 _ _ _ hW (lv_sub hl [0, 2] rfl)
    · replace ho := ite_f c2 ho
      refine lv_aload_n hx hb dX6_rowTime_40 rfl (lv_at hl 0 rfl) ?_
      refine xGET_612 C0 kw_209 hW dX6_rowTime_41 ?_
      refine lv_aload_n hx hb dX6_rowTime_44 rfl (lv_at hl 0 rfl) ?_
      refine lv_iload_n hx hb dX6_rowTime_45 rfl (lv_at hl 1 rfl) ?_
      refine lv_iload_n hx hb dX6_rowTime_46 rfl (lv_at hl 3 rfl) ?_
      obtain ⟨q3, hc4, ho⟩ := bd_some ho
      refine bkI C0.1 hW (runVX (As := [.int v1, .int v3]) (rest := [.ref (am 612)]) C0 hW (c_x6_partOf l _ t v1 v3 (r := q3) hc4) cb_X6_X6_partOf_86 6 6 rfl rfl rfl rfl rfl ⟨rfl, rfl⟩ ⟨Nat.le_of_ble_eq_true rfl, Nat.le_of_ble_eq_true rfl⟩ (Nat.le_of_ble_eq_true rfl) hl.1 dX6_rowTime_47 ⟨Nat.le_of_ble_eq_true rfl, Nat.le_of_ble_eq_true rfl⟩) (fun H locs hW => ?_)
      obtain ⟨g5, ho⟩ := gd_some ho
      refine xLD_612 C0 hW g5 dX6_rowTime_50 ?_
      refine lv_nmi ho (fun x6 ho => ?_)
      refine lv_istore (lv' := [(4, .int x6), (0, .ref (am 1006)), (1, .int v1), (2, .int v2), (3, .int v3)]) hx hb dX6_rowTime_51 hl (by decide) rfl (fun ls hl => ?_)
      refine lv_aload_n hx hb dX6_rowTime_53 rfl (lv_at hl 1 rfl) ?_
      refine xGET_603 C0 kw_186 hW dX6_rowTime_54 ?_
      refine lv_iload_n hx hb dX6_rowTime_57 rfl (lv_at hl 2 rfl) ?_
      obtain ⟨g7, ho⟩ := gd_some ho
      refine xLD_603 C0 hW g7 dX6_rowTime_58 ?_
      refine lv_iconst (v := (2 : Int32)) hx hb dX6_rowTime_59 (by decide) ?_
      refine lv_icmp_ne (tgt := 71) hx hb dX6_rowTime_60 (by decide) (fun c8 => ?_) (fun c8 => ?_)
      · replace ho := ite_f c8 ho
        refine lv_aload_n hx hb dX6_rowTime_71 rfl (lv_at hl 1 rfl) ?_
        refine xGET_603 C0 kw_186 hW dX6_rowTime_72 ?_
        refine lv_iload_n hx hb dX6_rowTime_75 rfl (lv_at hl 2 rfl) ?_
        obtain ⟨g9, ho⟩ := gd_some ho
        refine xLD_603 C0 hW g9 dX6_rowTime_76 ?_
        refine lv_iconst (v := (1 : Int32)) hx hb dX6_rowTime_77 (by decide) ?_
        refine lv_icmp_ne (tgt := 90) hx hb dX6_rowTime_78 (by decide) (fun c10 => ?_) (fun c10 => ?_)
        · replace ho := ite_f c10 ho
          refine lv_iload_n hx hb dX6_rowTime_90 rfl (lv_at hl 3 rfl) ?_
          refine lv_iload hx hb dX6_rowTime_91 (lv_at hl 0 rfl) ?_
          refine va_mmax (rest := []) hx hb (C0.1.2.2.2.1.trans hl.1.symm) hown (hta _ kw_734) (hta _ kw_735) (hta _ kw_136) (hta _ kw_736) (Nat.le_of_ble_eq_true rfl) (Nat.le_of_ble_eq_true rfl) (Nat.le_of_ble_eq_true rfl) (Nat.le_of_ble_eq_true rfl) dX6_rowTime_93 ?_
          refine lv_nmi ho (fun x11 ho => ?_)
          refine lv_istore_n (lv' := [(2, .int x11), (4, .int x6), (0, .ref (am 1006)), (1, .int v1), (3, .int v3)]) hx hb dX6_rowTime_96 rfl hl (by decide) rfl (fun ls hl => ?_)
          obtain ⟨x12, ex12, ho⟩ := nm_x ho
          refine lv_iinc (v := x12) (lv' := [(3, .int x12), (2, .int x11), (4, .int x6), (0, .ref (am 1006)), (1, .int v1)]) hx hb dX6_rowTime_97 hl (k := 4) rfl (by rw [ex12]; rfl) (by decide) rfl (fun ls hl => ?_)
          clear ex12
          refine lv_goto (tgt := 30) hx hb dX6_rowTime_100 (by decide) ?_
          cases ho
          exact ih _ _ hrun _ _ _ hW (lv_sub hl [3, 4, 1, 0] rfl)
        · replace ho := ite_t c10 ho
          refine lv_iload_n hx hb dX6_rowTime_81 rfl (lv_at hl 3 rfl) ?_
          refine lv_iload hx hb dX6_rowTime_82 (lv_at hl 0 rfl) ?_
          refine va_mmin (rest := []) hx hb (C0.1.2.2.2.1.trans hl.1.symm) hown (hta _ kw_933) (hta _ kw_748) (hta _ kw_136) (hta _ kw_749) (Nat.le_of_ble_eq_true rfl) (Nat.le_of_ble_eq_true rfl) (Nat.le_of_ble_eq_true rfl) (Nat.le_of_ble_eq_true rfl) dX6_rowTime_84 ?_
          refine lv_goto (tgt := 96) hx hb dX6_rowTime_87 (by decide) ?_
          refine lv_nmi ho (fun x13 ho => ?_)
          refine lv_istore_n (lv' := [(2, .int x13), (4, .int x6), (0, .ref (am 1006)), (1, .int v1), (3, .int v3)]) hx hb dX6_rowTime_96 rfl hl (by decide) rfl (fun ls hl => ?_)
          obtain ⟨x14, ex14, ho⟩ := nm_x ho
          refine lv_iinc (v := x14) (lv' := [(3, .int x14), (2, .int x13), (4, .int x6), (0, .ref (am 1006)), (1, .int v1)]) hx hb dX6_rowTime_97 hl (k := 4) rfl (by rw [ex14]; rfl) (by decide) rfl (fun ls hl => ?_)
          clear ex14
          refine lv_goto (tgt := 30) hx hb dX6_rowTime_100 (by decide) ?_
          cases ho
          exact ih _ _ hrun _ _ _ hW (lv_sub hl [3, 4, 1, 0] rfl)
      · replace ho := ite_t c8 ho
        refine lv_iload_n hx hb dX6_rowTime_63 rfl (lv_at hl 3 rfl) ?_
        refine lv_iload hx hb dX6_rowTime_64 (lv_at hl 0 rfl) ?_
        refine lv_iadd hx hb dX6_rowTime_66 ?_
        refine lv_nmi ho (fun x15 ho => ?_)
        refine lv_istore_n (lv' := [(2, .int x15), (4, .int x6), (0, .ref (am 1006)), (1, .int v1), (3, .int v3)]) hx hb dX6_rowTime_67 rfl hl (by decide) rfl (fun ls hl => ?_)
        refine lv_goto (tgt := 97) hx hb dX6_rowTime_68 (by decide) ?_
        obtain ⟨x16, ex16, ho⟩ := nm_x ho
        refine lv_iinc (v := x16) (lv' := [(3, .int x16), (2, .int x15), (4, .int x6), (0, .ref (am 1006)), (1, .int v1)]) hx hb dX6_rowTime_97 hl (k := 4) rfl (by rw [ex16]; rfl) (by decide) rfl (fun ls hl => ?_)
        clear ex16
        refine lv_goto (tgt := 30) hx hb dX6_rowTime_100 (by decide) ?_
        cases ho
        exact ih _ _ hrun _ _ _ hW (lv_sub hl [3, 4, 1, 0] rfl)
set_option maxHeartbeats 4000000 in
set_option maxRecDepth 100000 in
theorem c_x6_rowTime (l : Launch) {D : va_G} {cI cJ cZ cR : ClassId} {am gm : Nat → Nat} {st : Nat} (sz : Nat) (t : St) (a1 : Int32) {r : Int32} {t' : St} (ho : x6_rowTime t a1 = some (r, t')) : Met l yX6_rowTime (.code yX6_rowTime cX6_rowTime 5 (some .int) :: wsAll) (rmN 2 48) (va_Pc [.ref (am 1006), .int a1] (prX D (tyX cI cJ cZ cR) (wX cI cJ cZ cR am gm t) sz st)) (qI r D (tyX cI cJ cZ cR) (wX cI cJ cZ cR am gm t') (va_A (wX cI cJ cZ cR am gm t) sz)) 0 0 (va_A (wX cI cJ cZ cR am gm t) sz) := by
  refine Met.ofW (cc := cX6_rowTime) (maxL := 5) (ret := (some .int)) (by decide) rfl ?_
  intro p e s m args below meth c s₁ B hml hv
  obtain ⟨rfl, ⟨hsz, hP, hK, hD0⟩, hsx⟩ := hv
  have hx := B.exec
  have hb := B.bytes
  have hts := atoms_spec (ws := (.code yX6_rowTime cX6_rowTime 5 (some .int) :: wsAll)) B.pre
  have hta := fun w h => hts w (List.mem_cons_of_mem _ h)
  have hown : s.vm.findClass RX6 = some m.cls := findClass_of_methodNamed B.named
  have hlocks := B.notSynchronized
  subst hsz
  have hD := hD0.self (sz := s.heap.size)
  generalize hAe : va_A (wX cI cJ cZ cR am gm t) s.heap.size = A at hD ⊢
  have hA : ∀ q : Nat, s.heap.size ≤ q → A q := fun q h => by rw [← hAe]; exact Or.inr h
  have C0 : cxX p s m ([.ref (am 1006), .int a1].toArray) meth c cX6_rowTime RX6 5 (some .int) D (tyX cI cJ cZ cR) st A := ⟨⟨hx, hb, B.returns, hml, hown, hta, hlocks, hK, hA⟩, by rw [← hAe]; exact hsx⟩
  have hW : wl D A s (wX cI cJ cZ cR am gm t) s.heap [] := ⟨hP, hD, va_S.rf⟩
  have hl := lv_entry [.ref (am 1006), .int a1] (n := 5) (Nat.le_of_ble_eq_true rfl)
  rw [lg_entry_eq]
  generalize (lg_sl [.ref (am 1006), .int a1] ++ List.replicate (5 - (lg_sl [.ref (am 1006), .int a1]).length) Slot.unset).toArray = ls at hl ⊢
  have hl : lv_has ls 5 [(0, .ref (am 1006)), (1, .int a1)] := hl
  unfold x6_rowTime at ho
  refine lv_aload_n hx hb dX6_rowTime_0 rfl (lv_at hl 0 rfl) ?_
  refine xGET_603 C0 kw_186 hW dX6_rowTime_1 ?_
  refine lv_iload_n hx hb dX6_rowTime_4 rfl (lv_at hl 1 rfl) ?_
  obtain ⟨g17, ho⟩ := gd_some ho
  refine xLD_603 C0 hW g17 dX6_rowTime_5 ?_
  refine lv_iconst (v := (4 : Int32)) hx hb dX6_rowTime_6 (by decide) ?_
  refine lv_icmp_ne (tgt := 16) hx hb dX6_rowTime_7 (by decide) (fun c18 => ?_) (fun c18 => ?_)
  · replace ho := ite_f c18 ho
    refine lv_aload_n hx hb dX6_rowTime_16 rfl (lv_at hl 0 rfl) ?_
    refine xGET_612 C0 kw_209 hW dX6_rowTime_17 ?_
    refine lv_aload_n hx hb dX6_rowTime_20 rfl (lv_at hl 0 rfl) ?_
    refine lv_iload_n hx hb dX6_rowTime_21 rfl (lv_at hl 1 rfl) ?_
    refine lv_iconst (v := (0 : Int32)) hx hb dX6_rowTime_22 (by decide) ?_
    obtain ⟨q19, hc20, ho⟩ := bd_some ho
    refine bkI C0.1 hW (runVX (As := [.int a1, .int (0 : Int32)]) (rest := [.ref (am 612)]) C0 hW (c_x6_partOf l _ t a1 (0 : Int32) (r := q19) hc20) cb_X6_X6_partOf_86 6 6 rfl rfl rfl rfl rfl ⟨rfl, rfl⟩ ⟨Nat.le_of_ble_eq_true rfl, Nat.le_of_ble_eq_true rfl⟩ (Nat.le_of_ble_eq_true rfl) hl.1 dX6_rowTime_23 ⟨Nat.le_of_ble_eq_true rfl, Nat.le_of_ble_eq_true rfl⟩) (fun H locs hW => ?_)
    obtain ⟨g21, ho⟩ := gd_some ho
    refine xLD_612 C0 hW g21 dX6_rowTime_26 ?_
    refine lv_nmi ho (fun x22 ho => ?_)
    refine lv_istore_n (lv' := [(2, .int x22), (0, .ref (am 1006)), (1, .int a1)]) hx hb dX6_rowTime_27 rfl hl (by decide) rfl (fun ls hl => ?_)
    refine lv_iconst (v := (1 : Int32)) hx hb dX6_rowTime_28 (by decide) ?_
    refine lv_istore_n (lv' := [(3, .int (1 : Int32)), (2, .int x22), (0, .ref (am 1006)), (1, .int a1)]) hx hb dX6_rowTime_29 rfl hl (by decide) rfl (fun ls hl => ?_)
    obtain ⟨y23, hc24, ho⟩ := bd_some ho
    obtain ⟨ny23, hc24⟩ := lp_to hc24
    refine x6_rowTime_L30 C0 ?_ ny23 _ _ hc24 _ _ _ hW (lv_sub hl [2, 3, 1, 0] rfl)
    intro H locs ls hW hl
    refine lv_iload_n hx hb dX6_rowTime_103 rfl (lv_at hl 1 rfl) ?_
    cases ho
    exact rtI C0.1 hW dX6_rowTime_104
  · replace ho := ite_t c18 ho
    refine lv_aload_n hx hb dX6_rowTime_10 rfl (lv_at hl 0 rfl) ?_
    refine lv_iload_n hx hb dX6_rowTime_11 rfl (lv_at hl 1 rfl) ?_
    obtain ⟨q25, hc26, ho⟩ := bd_some ho
    refine bkI C0.1 hW (runVX (As := [.int a1]) (rest := []) C0 hW (c_x6_someTime l _ t a1 (r := q25.1) (t' := q25.2) hc26) cb_X6_X6_someTime_101 6 6 rfl rfl rfl rfl rfl ⟨rfl, rfl⟩ ⟨Nat.le_of_ble_eq_true rfl, Nat.le_of_ble_eq_true rfl⟩ (Nat.le_of_ble_eq_true rfl) hl.1 dX6_rowTime_12 ⟨Nat.le_of_ble_eq_true rfl, Nat.le_of_ble_eq_true rfl⟩) (fun H locs hW => ?_)
    cases ho
    exact rtI C0.1 hW dX6_rowTime_15
noncomputable def x6_timeByMany_J40 (t : St) (v1 : Int32) (v3 : Int32) (w1 : Int32) (w2 : Int32) : Option ((Int32 × St) ⊕ (St)) :=
  gd w1 (gN t 612) (nm (sA t 612 w1 w2) (fun t2 : St => nm (v3 + (1 : Int32)) (fun x3 : Int32 => some (.inl (x3, t2)))))
noncomputable def x6_timeByMany_B2 (v1 : Int32) (v3 : Int32) (t : St) : Option ((Int32 × St) ⊕ (St)) :=
  if v1 < v3 then (some (.inr t)) else (gd v3 (gN t 603) (if (gA t 603 (v3).toNatClampNeg) = 0 then (gd v3 (gN t 604) ((x5_get t (gA t 604 (v3).toNatClampNeg) (1 : Int32)).bind (fun q10 => x6_timeByMany_J40 t v1 v3 v3 q10))) else ((x6_rowTime t v3).bind (fun q7 => x6_timeByMany_J40 q7.2 v1 v3 v3 q7.1))))
noncomputable def x6_timeByMany (t : St) (a1 : Int32) : Option (Int32 × St) :=
  (lp (fun x => x6_timeByMany_B2 a1 x.1 x.2) ((0 : Int32), t)).bind (fun y12 => gd a1 (gN y12 612) (some ((gA y12 612 (a1).toNatClampNeg), y12)))
set_option maxHeartbeats 4000000 in
set_option maxRecDepth 100000 in
theorem x6_timeByMany_L2 {p : Program} {l : Launch} {e : Env} {s : State} {m : MethodId} {args : Array Value} {below : List Frame} {meth : Method} {c : Code} {Q : State → Prop} {D : va_G} {cI cJ cZ cR : ClassId} {am gm : Nat → Nat} {st : Nat} {A : Nat → Prop} (C0 : cxX p s m args meth c cX6_timeByMany RX6 4 (some .int) D (tyX cI cJ cZ cR) st A) {v1 : Int32} {y : St} (hK0 : ∀ (H : Heap) (locs : List Loc) (ls : Array Slot), wl D A s (wX cI cJ cZ cR am gm y) H locs → lv_has ls 4 [(0, .ref (am 1006)), (1, .int v1)] → W p l e (rmN 3 72) s m args below meth c H locs 0 0 Q (F0 m 47 ls [])) :
    ∀ (n : Nat) (v3 : Int32) (t : St), lpn (fun x => x6_timeByMany_B2 v1 x.1 x.2) n (v3, t) = some y → ∀ (H : Heap) (locs : List Loc) (ls : Array Slot), wl D A s (wX cI cJ cZ cR am gm t) H locs → lv_has ls 4 [(0, .ref (am 1006)), (1, .int v1), (2, .ref (am 1005)), (3, .int v3)] → W p l e (rmN 3 72) s m args below meth c H locs 0 0 Q (F0 m 2 ls []) := by
  have hx := C0.1.1
  have hb := C0.1.2.1
  have hta := C0.1.2.2.2.2.2.1
  have hown := C0.1.2.2.2.2.1
  intro n
  induction n with
  | zero => intro _ _ h; cases h
  | succ n ih =>
    intro v3 t hrun H locs ls hW hl
    obtain ⟨o, ho, hrun⟩ := bd_some hrun
    have J40 : ∀ (t : St) (v3 : Int32) (w1 : Int32) (w2 : Int32) (_ : x6_timeByMany_J40 t v1 v3 w1 w2 = some o) (H : Heap) (locs : List Loc) (ls : Array Slot), wl D A s (wX cI cJ cZ cR am gm t) H locs → lv_has ls 4 [(0, .ref (am 1006)), (1, .int v1), (2, .ref (am 1005)), (3, .int v3)] → W p l e (rmN 3 72) s m args below meth c H locs 0 0 Q (F0 m 40 ls [.int w2, .int w1, .ref (am 612)]) := by
      intro t v3 w1 w2 ho H locs ls hW hl
      unfold x6_timeByMany_J40 at ho
      obtain ⟨g1, ho⟩ := gd_some ho
      refine xST_612 C0 hW g1 dX6_timeByMany_40 (fun H locs hW => ?_)
      obtain ⟨t2, ho, hW⟩ := nm_w (P := fun t => wl D A s (wX cI cJ cZ cR am gm t) H locs) ho hW
      obtain ⟨x3, ex3, ho⟩ := nm_x ho
      refine lv_iinc (v := x3) (lv' := [(3, .int x3), (0, .ref (am 1006)), (1, .int v1), (2, .ref (am 1005))]) hx hb dX6_timeByMany_41 hl (k := 3) rfl (by rw [ex3]; rfl) (by decide) rfl (fun ls hl => ?_)
      clear ex3
      refine lv_goto (tgt := 2) hx hb dX6_timeByMany_44 (by decide) ?_
      cases ho
      exact ih _ _ hrun _ _ _ hW (lv_sub hl [1, 2, 3, 0] rfl)
    unfold x6_timeByMany_B2 at ho
    refine lv_iload_n hx hb dX6_timeByMany_2 rfl (lv_at hl 3 rfl) ?_
    refine lv_iload_n hx hb dX6_timeByMany_3 rfl (lv_at hl 1 rfl) ?_
    refine lv_icmp_gt (tgt := 47) hx hb dX6_timeByMany_4 (by decide) (fun c4 => ?_) (fun c4 => ?_)
    · replace ho := ite_t c4 ho
      cases ho
      cases hrun
      exact hK0 _ _ _ hW (lv_sub hl [0, 1] rfl)
    · replace ho := ite_f c4 ho
      refine lv_aload_n hx hb dX6_timeByMany_7 rfl (lv_at hl 0 rfl) ?_
      refine xGET_612 C0 kw_209 hW dX6_timeByMany_8 ?_
      refine lv_iload_n hx hb dX6_timeByMany_11 rfl (lv_at hl 3 rfl) ?_
      refine lv_aload_n hx hb dX6_timeByMany_12 rfl (lv_at hl 0 rfl) ?_
      refine xGET_603 C0 kw_186 hW dX6_timeByMany_13 ?_
      refine lv_iload_n hx hb dX6_timeByMany_16 rfl (lv_at hl 3 rfl) ?_
      obtain ⟨g5, ho⟩ := gd_some ho
      refine xLD_603 C0 hW g5 dX6_timeByMany_17 ?_
      refine lv_if_ne (tgt := 35) hx hb dX6_timeByMany_18 (by decide) (fun c6 => ?_) (fun c6 => ?_)
      · replace ho := ite_f c6 ho
        refine lv_aload_n hx hb dX6_timeByMany_35 rfl (lv_at hl 0 rfl) ?_
        refine lv_iload_n hx hb dX6_timeByMany_36 rfl (lv_at hl 3 rfl) ?_
        obtain ⟨q7, hc8, ho⟩ := bd_some ho
        refine bkI C0.1 hW (runVX (As := [.int v3]) (rest := [.int v3, .ref (am 612)]) C0 hW (c_x6_rowTime l _ t v3 (r := q7.1) (t' := q7.2) hc8) cb_X6_X6_rowTime_98 6 6 rfl rfl rfl rfl rfl ⟨rfl, rfl⟩ ⟨Nat.le_of_ble_eq_true rfl, Nat.le_of_ble_eq_true rfl⟩ (Nat.le_of_ble_eq_true rfl) hl.1 dX6_timeByMany_37 ⟨Nat.le_of_ble_eq_true rfl, Nat.le_of_ble_eq_true rfl⟩) (fun H locs hW => ?_)
        exact J40 _ _ _ _ ho _ _ _ hW (lv_sub hl [0, 1, 2, 3] rfl)
      · replace ho := ite_t c6 ho
        refine lv_aload_n hx hb dX6_timeByMany_21 rfl (lv_at hl 2 rfl) ?_
        refine lv_aload_n hx hb dX6_timeByMany_22 rfl (lv_at hl 0 rfl) ?_
        refine xGET_604 C0 kw_190 hW dX6_timeByMany_23 ?_
        refine lv_iload_n hx hb dX6_timeByMany_26 rfl (lv_at hl 3 rfl) ?_
        obtain ⟨g9, ho⟩ := gd_some ho
        refine xLD_604 C0 hW g9 dX6_timeByMany_27 ?_
        refine lv_iconst (v := (1 : Int32)) hx hb dX6_timeByMany_28 (by decide) ?_
        obtain ⟨q10, hc11, ho⟩ := bd_some ho
        refine bkI C0.1 hW (runVX (As := [.int (gA t 604 (v3).toNatClampNeg), .int (1 : Int32)]) (rest := [.int v3, .ref (am 612)]) C0 hW (c_x5_get l _ t (gA t 604 (v3).toNatClampNeg) (1 : Int32) (r := q10) hc11) cb_X6_X5_get_95 5 5 rfl rfl rfl rfl rfl ⟨rfl, rfl⟩ ⟨Nat.le_of_ble_eq_true rfl, Nat.le_of_ble_eq_true rfl⟩ (Nat.le_of_ble_eq_true rfl) hl.1 dX6_timeByMany_29 ⟨Nat.le_of_ble_eq_true rfl, Nat.le_of_ble_eq_true rfl⟩) (fun H locs hW => ?_)
        refine lv_goto (tgt := 40) hx hb dX6_timeByMany_32 (by decide) ?_
        exact J40 _ _ _ _ ho _ _ _ hW (lv_sub hl [0, 1, 2, 3] rfl)
set_option maxHeartbeats 4000000 in
set_option maxRecDepth 100000 in
theorem c_x6_timeByMany (l : Launch) {D : va_G} {cI cJ cZ cR : ClassId} {am gm : Nat → Nat} {st : Nat} (sz : Nat) (t : St) (a1 : Int32) {r : Int32} {t' : St} (ho : x6_timeByMany t a1 = some (r, t')) : Met l yX6_timeByMany (.code yX6_timeByMany cX6_timeByMany 4 (some .int) :: wsAll) (rmN 3 72) (va_Pc [.ref (am 1006), .int a1, .ref (am 1005)] (prX D (tyX cI cJ cZ cR) (wX cI cJ cZ cR am gm t) sz st)) (qI r D (tyX cI cJ cZ cR) (wX cI cJ cZ cR am gm t') (va_A (wX cI cJ cZ cR am gm t) sz)) 0 0 (va_A (wX cI cJ cZ cR am gm t) sz) := by
  refine Met.ofW (cc := cX6_timeByMany) (maxL := 4) (ret := (some .int)) (by decide) rfl ?_
  intro p e s m args below meth c s₁ B hml hv
  obtain ⟨rfl, ⟨hsz, hP, hK, hD0⟩, hsx⟩ := hv
  have hx := B.exec
  have hb := B.bytes
  have hts := atoms_spec (ws := (.code yX6_timeByMany cX6_timeByMany 4 (some .int) :: wsAll)) B.pre
  have hta := fun w h => hts w (List.mem_cons_of_mem _ h)
  have hown : s.vm.findClass RX6 = some m.cls := findClass_of_methodNamed B.named
  have hlocks := B.notSynchronized
  subst hsz
  have hD := hD0.self (sz := s.heap.size)
  generalize hAe : va_A (wX cI cJ cZ cR am gm t) s.heap.size = A at hD ⊢
  have hA : ∀ q : Nat, s.heap.size ≤ q → A q := fun q h => by rw [← hAe]; exact Or.inr h
  have C0 : cxX p s m ([.ref (am 1006), .int a1, .ref (am 1005)].toArray) meth c cX6_timeByMany RX6 4 (some .int) D (tyX cI cJ cZ cR) st A := ⟨⟨hx, hb, B.returns, hml, hown, hta, hlocks, hK, hA⟩, by rw [← hAe]; exact hsx⟩
  have hW : wl D A s (wX cI cJ cZ cR am gm t) s.heap [] := ⟨hP, hD, va_S.rf⟩
  have hl := lv_entry [.ref (am 1006), .int a1, .ref (am 1005)] (n := 4) (Nat.le_of_ble_eq_true rfl)
  rw [lg_entry_eq]
  generalize (lg_sl [.ref (am 1006), .int a1, .ref (am 1005)] ++ List.replicate (4 - (lg_sl [.ref (am 1006), .int a1, .ref (am 1005)]).length) Slot.unset).toArray = ls at hl ⊢
  have hl : lv_has ls 4 [(0, .ref (am 1006)), (1, .int a1), (2, .ref (am 1005))] := hl
  unfold x6_timeByMany at ho
  refine lv_iconst (v := (0 : Int32)) hx hb dX6_timeByMany_0 (by decide) ?_
  refine lv_istore_n (lv' := [(3, .int (0 : Int32)), (0, .ref (am 1006)), (1, .int a1), (2, .ref (am 1005))]) hx hb dX6_timeByMany_1 rfl hl (by decide) rfl (fun ls hl => ?_)
  obtain ⟨y12, hc13, ho⟩ := bd_some ho
  obtain ⟨ny12, hc13⟩ := lp_to hc13
  refine x6_timeByMany_L2 C0 ?_ ny12 _ _ hc13 _ _ _ hW (lv_sub hl [1, 2, 3, 0] rfl)
  intro H locs ls hW hl
  refine lv_aload_n hx hb dX6_timeByMany_47 rfl (lv_at hl 0 rfl) ?_
  refine xGET_612 C0 kw_209 hW dX6_timeByMany_48 ?_
  refine lv_iload_n hx hb dX6_timeByMany_51 rfl (lv_at hl 1 rfl) ?_
  obtain ⟨g14, ho⟩ := gd_some ho
  refine xLD_612 C0 hW g14 dX6_timeByMany_52 ?_
  cases ho
  exact rtI C0.1 hW dX6_timeByMany_53
noncomputable def x11_many (t : St) (a1 : Int32) : Option (Int32 × St) :=
  (x11_noNet t a1).bind (fun q1 => if q1 = 0 then (gd a1 (gN t 602) (nm (gA t 602 (a1).toNatClampNeg) (fun x6 : Int32 => if 0 ≤ x6 then ((x6_timeByMany t x6).bind (fun q8 => some (q8.1, q8.2))) else (some ((-3 : Int32), t))))) else (some ((-2 : Int32), t)))
set_option maxHeartbeats 4000000 in
set_option maxRecDepth 100000 in
theorem c_x11_many (l : Launch) {D : va_G} {cI cJ cZ cR : ClassId} {am gm : Nat → Nat} {st : Nat} (sz : Nat) (t : St) (a1 : Int32) {r : Int32} {t' : St} (ho : x11_many t a1 = some (r, t')) : Met l yX11_many (.code yX11_many cX11_many 3 (some .int) :: wsAll) (rmN 4 95) (va_Pc [.ref (am 1011), .int a1] (prX D (tyX cI cJ cZ cR) (wX cI cJ cZ cR am gm t) sz st)) (qI r D (tyX cI cJ cZ cR) (wX cI cJ cZ cR am gm t') (va_A (wX cI cJ cZ cR am gm t) sz)) 0 0 (va_A (wX cI cJ cZ cR am gm t) sz) := by
  refine Met.ofW (cc := cX11_many) (maxL := 3) (ret := (some .int)) (by decide) rfl ?_
  intro p e s m args below meth c s₁ B hml hv
  obtain ⟨rfl, ⟨hsz, hP, hK, hD0⟩, hsx⟩ := hv
  have hx := B.exec
  have hb := B.bytes
  have hts := atoms_spec (ws := (.code yX11_many cX11_many 3 (some .int) :: wsAll)) B.pre
  have hta := fun w h => hts w (List.mem_cons_of_mem _ h)
  have hown : s.vm.findClass RX11 = some m.cls := findClass_of_methodNamed B.named
  have hlocks := B.notSynchronized
  subst hsz
  have hD := hD0.self (sz := s.heap.size)
  generalize hAe : va_A (wX cI cJ cZ cR am gm t) s.heap.size = A at hD ⊢
  have hA : ∀ q : Nat, s.heap.size ≤ q → A q := fun q h => by rw [← hAe]; exact Or.inr h
  have C0 : cxX p s m ([.ref (am 1011), .int a1].toArray) meth c cX11_many RX11 3 (some .int) D (tyX cI cJ cZ cR) st A := ⟨⟨hx, hb, B.returns, hml, hown, hta, hlocks, hK, hA⟩, by rw [← hAe]; exact hsx⟩
  have hW : wl D A s (wX cI cJ cZ cR am gm t) s.heap [] := ⟨hP, hD, va_S.rf⟩
  have hl := lv_entry [.ref (am 1011), .int a1] (n := 3) (Nat.le_of_ble_eq_true rfl)
  rw [lg_entry_eq]
  generalize (lg_sl [.ref (am 1011), .int a1] ++ List.replicate (3 - (lg_sl [.ref (am 1011), .int a1]).length) Slot.unset).toArray = ls at hl ⊢
  have hl : lv_has ls 3 [(0, .ref (am 1011)), (1, .int a1)] := hl
  unfold x11_many at ho
  refine lv_iload_n hx hb dX11_many_0 rfl (lv_at hl 1 rfl) ?_
  obtain ⟨q1, hc2, ho⟩ := bd_some ho
  refine bkZ C0.1 hW (runSX (As := [.int a1]) (rest := []) C0 hW (c_x11_noNet l _ t a1 (r := q1) hc2) cb_X11_X11_noNet_124 rfl rfl ⟨rfl, rfl⟩ ⟨Nat.le_of_ble_eq_true rfl, Nat.le_of_ble_eq_true rfl⟩ (Nat.le_of_ble_eq_true rfl) hl.1 dX11_many_1 ⟨Nat.le_of_ble_eq_true rfl, Nat.le_of_ble_eq_true rfl⟩) (fun z3 H locs hW => ?_)
  refine lv_if_eq (tgt := 10) hx hb dX11_many_4 (by decide) (fun c4 => ?_) (fun c4 => ?_)
  · replace ho := ite_t c4 ho
    refine lv_aload_n hx hb dX11_many_10 rfl (lv_at hl 0 rfl) ?_
    refine xGET_1101 C0 kw_592 hW dX11_many_11 ?_
    refine xGET_602 C0 kw_184 hW dX11_many_14 ?_
    refine lv_iload_n hx hb dX11_many_17 rfl (lv_at hl 1 rfl) ?_
    obtain ⟨g5, ho⟩ := gd_some ho
    refine xLD_602 C0 hW g5 dX11_many_18 ?_
    refine lv_nmi ho (fun x6 ho => ?_)
    refine lv_istore_n (lv' := [(2, .int x6), (0, .ref (am 1011)), (1, .int a1)]) hx hb dX11_many_19 rfl hl (by decide) rfl (fun ls hl => ?_)
    refine lv_iload_n hx hb dX11_many_20 rfl (lv_at hl 0 rfl) ?_
    refine lv_if_ge (tgt := 29) hx hb dX11_many_21 (by decide) (fun c7 => ?_) (fun c7 => ?_)
    · replace ho := ite_t c7 ho
      refine lv_aload_n hx hb dX11_many_29 rfl (lv_at hl 1 rfl) ?_
      refine xGET_1101 C0 kw_592 hW dX11_many_30 ?_
      refine lv_iload_n hx hb dX11_many_33 rfl (lv_at hl 0 rfl) ?_
      refine lv_aload_n hx hb dX11_many_34 rfl (lv_at hl 1 rfl) ?_
      refine xGET_1100 C0 kw_591 hW dX11_many_35 ?_
      obtain ⟨q8, hc9, ho⟩ := bd_some ho
      refine bkI C0.1 hW (runVX (As := [.int x6, .ref (am 1005)]) (rest := []) C0 hW (c_x6_timeByMany l _ t x6 (r := q8.1) (t' := q8.2) hc9) cb_X11_X6_timeByMany_186 6 6 rfl rfl rfl rfl rfl ⟨rfl, rfl⟩ ⟨Nat.le_of_ble_eq_true rfl, Nat.le_of_ble_eq_true rfl⟩ (Nat.le_of_ble_eq_true rfl) hl.1 dX11_many_38 ⟨Nat.le_of_ble_eq_true rfl, Nat.le_of_ble_eq_true rfl⟩) (fun H locs hW => ?_)
      cases ho
      exact rtI C0.1 hW dX11_many_41
    · replace ho := ite_f c7 ho
      refine lv_bipush (v := (-3 : Int32)) hx hb dX11_many_24 (by decide) ?_
      refine lv_goto (tgt := 41) hx hb dX11_many_26 (by decide) ?_
      cases ho
      exact rtI C0.1 hW dX11_many_41
  · replace ho := ite_f c4 ho
    refine lv_bipush (v := (-2 : Int32)) hx hb dX11_many_7 (by decide) ?_
    cases ho
    exact rtI C0.1 hW dX11_many_9
noncomputable def x0_nodeFor_J93 (t : St) (v1 : Int32) (v2 : Int32) (v3 : Int32) (v4 : Int32) (v5 : Int32) : Option ((Int32 × Int32) ⊕ ((Int32) ⊕ (Int32))) :=
  nm ((v4 + (1 : Int32)) &&& (gI t 5)) (fun x1 : Int32 => nm (v5 + (1 : Int32)) (fun x2 : Int32 => some (.inl (x1, x2))))
noncomputable def x0_nodeFor_B29 (t : St) (v1 : Int32) (v2 : Int32) (v3 : Int32) (v4 : Int32) (v5 : Int32) : Option ((Int32 × Int32) ⊕ ((Int32) ⊕ (Int32))) :=
  if (gI t 5) < v5 then (some (.inr (.inr v4))) else (gd v4 (gN t 8) (if (gA t 8 (v4).toNatClampNeg) = 0 then (some (.inr (.inr v4))) else (gd v4 (gN t 8) (nm (gA t 8 (v4).toNatClampNeg) (fun x7 : Int32 => gd x7 (gN t 10) (if (gA t 10 (x7).toNatClampNeg) = v2 then (gd x7 (gN t 11) (if (gA t 11 (x7).toNatClampNeg) = v3 then (gd x7 (gN t 9) (if (gA t 9 (x7).toNatClampNeg) = v1 then (some (.inr (.inl x7))) else (x0_nodeFor_J93 t v1 v2 v3 v4 v5))) else (x0_nodeFor_J93 t v1 v2 v3 v4 v5))) else (x0_nodeFor_J93 t v1 v2 v3 v4 v5)))))))
noncomputable def x0_nodeFor (t : St) (a1 : Int32) (a2 : Int32) (a3 : Int32) : Option (Int32 × St) :=
  if a2 = a3 then (some (a2, t)) else (nm ((((a2 * (40503 : Int32)) + (a3 * (30011 : Int32))) + a1) &&& (gI t 5)) (fun x15 : Int32 => (lp (fun x => x0_nodeFor_B29 t a1 a2 a3 x.1 x.2) (x15, (0 : Int32))).bind (fun y16 => (Sum.elim (fun u18 => some (u18, t)) (fun u18 => if (gI t 3) < (Int32.ofNat (gN t 9)) then (gd (gI t 3) (gN t 9) (nm (sA t 9 (gI t 3) a1) (fun t21 : St => gd (gI t21 3) (gN t21 10) (nm (sA t21 10 (gI t21 3) a2) (fun t23 : St => gd (gI t23 3) (gN t23 11) (nm (sA t23 11 (gI t23 3) a3) (fun t25 : St => gd u18 (gN t25 8) (nm (sA t25 8 u18 (gI t25 3)) (fun t27 : St => nm (sI t27 3 ((gI t27 3) + (1 : Int32))) (fun t28 : St => some (((gI t28 3) - (1 : Int32)), t28))))))))))) else (some (a2, t)))) y16)))
set_option maxHeartbeats 4000000 in
set_option maxRecDepth 100000 in
theorem x0_nodeFor_L29 {p : Program} {l : Launch} {e : Env} {s : State} {m : MethodId} {args : Array Value} {below : List Frame} {meth : Method} {c : Code} {Q : State → Prop} {D : va_G} {cI cJ cZ cR : ClassId} {am gm : Nat → Nat} {st : Nat} {A : Nat → Prop} (C0 : cxX p s m args meth c cX0_nodeFor RX0 7 (some .int) D (tyX cI cJ cZ cR) st A) {t : St} {v1 : Int32} {v2 : Int32} {v3 : Int32} {y : (Int32) ⊕ (Int32)} (hK0 : ∀ u, y = (.inl u) → ∀ (H : Heap) (locs : List Loc) (ls : Array Slot), wl D A s (wX cI cJ cZ cR am gm t) H locs → lv_has ls 7 [(0, .ref (am 1000)), (6, .int u)] → W p l e (rmN 0 0) s m args below meth c H locs 0 0 Q (F0 m 90 ls [])) (hK1 : ∀ u, y = (.inr u) → ∀ (H : Heap) (locs : List Loc) (ls : Array Slot), wl D A s (wX cI cJ cZ cR am gm t) H locs → lv_has ls 7 [(0, .ref (am 1000)), (1, .int v1), (2, .int v2), (3, .int v3), (4, .int u)] → W p l e (rmN 0 0) s m args below meth c H locs 0 0 Q (F0 m 110 ls [])) :
    ∀ (n : Nat) (v4 : Int32) (v5 : Int32), lpn (fun x => x0_nodeFor_B29 t v1 v2 v3 x.1 x.2) n (v4, v5) = some y → ∀ (H : Heap) (locs : List Loc) (ls : Array Slot), wl D A s (wX cI cJ cZ cR am gm t) H locs → lv_has ls 7 [(0, .ref (am 1000)), (1, .int v1), (2, .int v2), (3, .int v3), (4, .int v4), (5, .int v5)] → W p l e (rmN 0 0) s m args below meth c H locs 0 0 Q (F0 m 29 ls []) := by
  have hx := C0.1.1
  have hb := C0.1.2.1
  have hta := C0.1.2.2.2.2.2.1
  have hown := C0.1.2.2.2.2.1
  intro n
  induction n with
  | zero => intro _ _ h; cases h
  | succ n ih =>
    intro v4 v5 hrun H locs ls hW hl
    obtain ⟨o, ho, hrun⟩ := bd_some hrun
    have J93 : ∀ (v4 : Int32) (v5 : Int32) (_ : x0_nodeFor_J93 t v1 v2 v3 v4 v5 = some o) (H : Heap) (locs : List Loc) (ls : Array Slot), wl D A s (wX cI cJ cZ cR am gm t) H locs → lv_has ls 7 [(0, .ref (am 1000)), (1, .int v1), (2, .int v2), (3, .int v3), (4, .int v4), (5, .int v5)] → W p l e (rmN 0 0) s m args below meth c H locs 0 0 Q (F0 m 93 ls []) := by
      intro v4 v5 ho H locs ls hW hl
      unfold x0_nodeFor_J93 at ho
      refine lv_iload hx hb dX0_nodeFor_93 (lv_at hl 4 rfl) ?_
      refine lv_iconst (v := (1 : Int32)) hx hb dX0_nodeFor_95 (by decide) ?_
      refine lv_iadd hx hb dX0_nodeFor_96 ?_
      refine lv_aload_n hx hb dX0_nodeFor_97 rfl (lv_at hl 0 rfl) ?_
      refine xGET_5 C0 kw_387 hW dX0_nodeFor_98 ?_
      refine lv_iand hx hb dX0_nodeFor_101 ?_
      refine lv_nmi ho (fun x1 ho => ?_)
      refine lv_istore (lv' := [(4, .int x1), (0, .ref (am 1000)), (1, .int v1), (2, .int v2), (3, .int v3), (5, .int v5)]) hx hb dX0_nodeFor_102 hl (by decide) rfl (fun ls hl => ?_)
      obtain ⟨x2, ex2, ho⟩ := nm_x ho
      refine lv_iinc (v := x2) (lv' := [(5, .int x2), (4, .int x1), (0, .ref (am 1000)), (1, .int v1), (2, .int v2), (3, .int v3)]) hx hb dX0_nodeFor_104 hl (k := 5) rfl (by rw [ex2]; rfl) (by decide) rfl (fun ls hl => ?_)
      clear ex2
      refine lv_goto (tgt := 29) hx hb dX0_nodeFor_107 (by decide) ?_
      cases ho
      exact ih _ _ hrun _ _ _ hW (lv_sub hl [2, 3, 4, 5, 1, 0] rfl)
    unfold x0_nodeFor_B29 at ho
    refine lv_iload hx hb dX0_nodeFor_29 (lv_at hl 5 rfl) ?_
    refine lv_aload_n hx hb dX0_nodeFor_31 rfl (lv_at hl 0 rfl) ?_
    refine xGET_5 C0 kw_387 hW dX0_nodeFor_32 ?_
    refine lv_icmp_gt (tgt := 110) hx hb dX0_nodeFor_35 (by decide) (fun c3 => ?_) (fun c3 => ?_)
    · replace ho := ite_t c3 ho
      cases ho
      cases hrun
      exact hK1 _ rfl _ _ _ hW (lv_sub hl [0, 1, 2, 3, 4] rfl)
    · replace ho := ite_f c3 ho
      refine lv_aload_n hx hb dX0_nodeFor_38 rfl (lv_at hl 0 rfl) ?_
      refine xGET_8 C0 kw_392 hW dX0_nodeFor_39 ?_
      refine lv_iload hx hb dX0_nodeFor_42 (lv_at hl 4 rfl) ?_
      obtain ⟨g4, ho⟩ := gd_some ho
      refine xLD_8 C0 hW g4 dX0_nodeFor_44 ?_
      refine lv_if_eq (tgt := 110) hx hb dX0_nodeFor_45 (by decide) (fun c5 => ?_) (fun c5 => ?_)
      · replace ho := ite_t c5 ho
        cases ho
        cases hrun
        exact hK1 _ rfl _ _ _ hW (lv_sub hl [0, 1, 2, 3, 4] rfl)
      · replace ho := ite_f c5 ho
        refine lv_aload_n hx hb dX0_nodeFor_48 rfl (lv_at hl 0 rfl) ?_
        refine xGET_8 C0 kw_392 hW dX0_nodeFor_49 ?_
        refine lv_iload hx hb dX0_nodeFor_52 (lv_at hl 4 rfl) ?_
        obtain ⟨g6, ho⟩ := gd_some ho
        refine xLD_8 C0 hW g6 dX0_nodeFor_54 ?_
        refine lv_nmi ho (fun x7 ho => ?_)
        refine lv_istore (lv' := [(6, .int x7), (0, .ref (am 1000)), (1, .int v1), (2, .int v2), (3, .int v3), (4, .int v4), (5, .int v5)]) hx hb dX0_nodeFor_55 hl (by decide) rfl (fun ls hl => ?_)
        refine lv_aload_n hx hb dX0_nodeFor_57 rfl (lv_at hl 1 rfl) ?_
        refine xGET_10 C0 kw_394 hW dX0_nodeFor_58 ?_
        refine lv_iload hx hb dX0_nodeFor_61 (lv_at hl 0 rfl) ?_
        obtain ⟨g8, ho⟩ := gd_some ho
        refine xLD_10 C0 hW g8 dX0_nodeFor_63 ?_
        refine lv_iload_n hx hb dX0_nodeFor_64 rfl (lv_at hl 3 rfl) ?_
        refine lv_icmp_ne (tgt := 93) hx hb dX0_nodeFor_65 (by decide) (fun c9 => ?_) (fun c9 => ?_)
        · replace ho := ite_f c9 ho
          exact J93 _ _ ho _ _ _ hW (lv_sub hl [1, 2, 3, 4, 5, 6] rfl)
        · replace ho := ite_t c9 ho
          refine lv_aload_n hx hb dX0_nodeFor_68 rfl (lv_at hl 1 rfl) ?_
          refine xGET_11 C0 kw_395 hW dX0_nodeFor_69 ?_
          refine lv_iload hx hb dX0_nodeFor_72 (lv_at hl 0 rfl) ?_
          obtain ⟨g10, ho⟩ := gd_some ho
          refine xLD_11 C0 hW g10 dX0_nodeFor_74 ?_
          refine lv_iload_n hx hb dX0_nodeFor_75 rfl (lv_at hl 4 rfl) ?_
          refine lv_icmp_ne (tgt := 93) hx hb dX0_nodeFor_76 (by decide) (fun c11 => ?_) (fun c11 => ?_)
          · replace ho := ite_f c11 ho
            exact J93 _ _ ho _ _ _ hW (lv_sub hl [1, 2, 3, 4, 5, 6] rfl)
          · replace ho := ite_t c11 ho
            refine lv_aload_n hx hb dX0_nodeFor_79 rfl (lv_at hl 1 rfl) ?_
            refine xGET_9 C0 kw_393 hW dX0_nodeFor_80 ?_
            refine lv_iload hx hb dX0_nodeFor_83 (lv_at hl 0 rfl) ?_
            obtain ⟨g12, ho⟩ := gd_some ho
            refine xLD_9 C0 hW g12 dX0_nodeFor_85 ?_
            refine lv_iload_n hx hb dX0_nodeFor_86 rfl (lv_at hl 2 rfl) ?_
            refine lv_icmp_ne (tgt := 93) hx hb dX0_nodeFor_87 (by decide) (fun c13 => ?_) (fun c13 => ?_)
            · replace ho := ite_f c13 ho
              exact J93 _ _ ho _ _ _ hW (lv_sub hl [1, 2, 3, 4, 5, 6] rfl)
            · replace ho := ite_t c13 ho
              cases ho
              cases hrun
              exact hK0 _ rfl _ _ _ hW (lv_sub hl [1, 0] rfl)
set_option maxHeartbeats 4000000 in
set_option maxRecDepth 100000 in
theorem c_x0_nodeFor (l : Launch) {D : va_G} {cI cJ cZ cR : ClassId} {am gm : Nat → Nat} {st : Nat} (sz : Nat) (t : St) (a1 : Int32) (a2 : Int32) (a3 : Int32) {r : Int32} {t' : St} (ho : x0_nodeFor t a1 a2 a3 = some (r, t')) : Met l yX0_nodeFor (.code yX0_nodeFor cX0_nodeFor 7 (some .int) :: wsAll) (rmN 0 0) (va_Pc [.ref (am 1000), .int a1, .int a2, .int a3] (prX D (tyX cI cJ cZ cR) (wX cI cJ cZ cR am gm t) sz st)) (qI r D (tyX cI cJ cZ cR) (wX cI cJ cZ cR am gm t') (va_A (wX cI cJ cZ cR am gm t) sz)) 0 0 (va_A (wX cI cJ cZ cR am gm t) sz) := by
  refine Met.ofW (cc := cX0_nodeFor) (maxL := 7) (ret := (some .int)) (by decide) rfl ?_
  intro p e s m args below meth c s₁ B hml hv
  obtain ⟨rfl, ⟨hsz, hP, hK, hD0⟩, hsx⟩ := hv
  have hx := B.exec
  have hb := B.bytes
  have hts := atoms_spec (ws := (.code yX0_nodeFor cX0_nodeFor 7 (some .int) :: wsAll)) B.pre
  have hta := fun w h => hts w (List.mem_cons_of_mem _ h)
  have hown : s.vm.findClass RX0 = some m.cls := findClass_of_methodNamed B.named
  have hlocks := B.notSynchronized
  subst hsz
  have hD := hD0.self (sz := s.heap.size)
  generalize hAe : va_A (wX cI cJ cZ cR am gm t) s.heap.size = A at hD ⊢
  have hA : ∀ q : Nat, s.heap.size ≤ q → A q := fun q h => by rw [← hAe]; exact Or.inr h
  have C0 : cxX p s m ([.ref (am 1000), .int a1, .int a2, .int a3].toArray) meth c cX0_nodeFor RX0 7 (some .int) D (tyX cI cJ cZ cR) st A := ⟨⟨hx, hb, B.returns, hml, hown, hta, hlocks, hK, hA⟩, by rw [← hAe]; exact hsx⟩
  have hW : wl D A s (wX cI cJ cZ cR am gm t) s.heap [] := ⟨hP, hD, va_S.rf⟩
  have hl := lv_entry [.ref (am 1000), .int a1, .int a2, .int a3] (n := 7) (Nat.le_of_ble_eq_true rfl)
  rw [lg_entry_eq]
  generalize (lg_sl [.ref (am 1000), .int a1, .int a2, .int a3] ++ List.replicate (7 - (lg_sl [.ref (am 1000), .int a1, .int a2, .int a3]).length) Slot.unset).toArray = ls at hl ⊢
  have hl : lv_has ls 7 [(0, .ref (am 1000)), (1, .int a1), (2, .int a2), (3, .int a3)] := hl
  unfold x0_nodeFor at ho
  refine lv_iload_n hx hb dX0_nodeFor_0 rfl (lv_at hl 2 rfl) ?_
  refine lv_iload_n hx hb dX0_nodeFor_1 rfl (lv_at hl 3 rfl) ?_
  refine lv_icmp_ne (tgt := 7) hx hb dX0_nodeFor_2 (by decide) (fun c14 => ?_) (fun c14 => ?_)
  · replace ho := ite_f c14 ho
    refine lv_iload_n hx hb dX0_nodeFor_7 rfl (lv_at hl 2 rfl) ?_
    refine lv_ldc hx hb hown (hta _ kw_965) dX0_nodeFor_8 ?_
    refine lv_imul hx hb dX0_nodeFor_10 ?_
    refine lv_iload_n hx hb dX0_nodeFor_11 rfl (lv_at hl 3 rfl) ?_
    refine lv_sipush (v := (30011 : Int32)) hx hb dX0_nodeFor_12 (by decide) ?_
    refine lv_imul hx hb dX0_nodeFor_15 ?_
    refine lv_iadd hx hb dX0_nodeFor_16 ?_
    refine lv_iload_n hx hb dX0_nodeFor_17 rfl (lv_at hl 1 rfl) ?_
    refine lv_iadd hx hb dX0_nodeFor_18 ?_
    refine lv_aload_n hx hb dX0_nodeFor_19 rfl (lv_at hl 0 rfl) ?_
    refine xGET_5 C0 kw_387 hW dX0_nodeFor_20 ?_
    refine lv_iand hx hb dX0_nodeFor_23 ?_
    refine lv_nmi ho (fun x15 ho => ?_)
    refine lv_istore (lv' := [(4, .int x15), (0, .ref (am 1000)), (1, .int a1), (2, .int a2), (3, .int a3)]) hx hb dX0_nodeFor_24 hl (by decide) rfl (fun ls hl => ?_)
    refine lv_iconst (v := (0 : Int32)) hx hb dX0_nodeFor_26 (by decide) ?_
    refine lv_istore (lv' := [(5, .int (0 : Int32)), (4, .int x15), (0, .ref (am 1000)), (1, .int a1), (2, .int a2), (3, .int a3)]) hx hb dX0_nodeFor_27 hl (by decide) rfl (fun ls hl => ?_)
    obtain ⟨y16, hc17, ho⟩ := bd_some ho
    obtain ⟨ny16, hc17⟩ := lp_to hc17
    refine x0_nodeFor_L29 C0 ?_ ?_ ny16 _ _ hc17 _ _ _ hW (lv_sub hl [2, 3, 4, 5, 1, 0] rfl)
    · intro u18 hy H locs ls hW hl
      subst hy
      replace ho := sum_l ho
      refine lv_iload hx hb dX0_nodeFor_90 (lv_at hl 1 rfl) ?_
      cases ho
      exact rtI C0.1 hW dX0_nodeFor_92
    · intro u18 hy H locs ls hW hl
      subst hy
      replace ho := sum_r ho
      refine lv_aload_n hx hb dX0_nodeFor_110 rfl (lv_at hl 0 rfl) ?_
      refine xGET_3 C0 kw_385 hW dX0_nodeFor_111 ?_
      refine lv_aload_n hx hb dX0_nodeFor_114 rfl (lv_at hl 0 rfl) ?_
      refine xGET_9 C0 kw_393 hW dX0_nodeFor_115 ?_
      refine xLEN_9 C0 hW dX0_nodeFor_118 ?_
      refine lv_icmp_lt (tgt := 124) hx hb dX0_nodeFor_119 (by decide) (fun c19 => ?_) (fun c19 => ?_)
      · replace ho := ite_t c19 ho
        refine lv_aload_n hx hb dX0_nodeFor_124 rfl (lv_at hl 0 rfl) ?_
        refine xGET_9 C0 kw_393 hW dX0_nodeFor_125 ?_
        refine lv_aload_n hx hb dX0_nodeFor_128 rfl (lv_at hl 0 rfl) ?_
        refine xGET_3 C0 kw_385 hW dX0_nodeFor_129 ?_
        refine lv_iload_n hx hb dX0_nodeFor_132 rfl (lv_at hl 1 rfl) ?_
        obtain ⟨g20, ho⟩ := gd_some ho
        refine xST_9 C0 hW g20 dX0_nodeFor_133 (fun H locs hW => ?_)
        obtain ⟨t21, ho, hW⟩ := nm_w (P := fun t => wl D A s (wX cI cJ cZ cR am gm t) H locs) ho hW
        refine lv_aload_n hx hb dX0_nodeFor_134 rfl (lv_at hl 0 rfl) ?_
        refine xGET_10 C0 kw_394 hW dX0_nodeFor_135 ?_
        refine lv_aload_n hx hb dX0_nodeFor_138 rfl (lv_at hl 0 rfl) ?_
        refine xGET_3 C0 kw_385 hW dX0_nodeFor_139 ?_
        refine lv_iload_n hx hb dX0_nodeFor_142 rfl (lv_at hl 2 rfl) ?_
        obtain ⟨g22, ho⟩ := gd_some ho
        refine xST_10 C0 hW g22 dX0_nodeFor_143 (fun H locs hW => ?_)
        obtain ⟨t23, ho, hW⟩ := nm_w (P := fun t => wl D A s (wX cI cJ cZ cR am gm t) H locs) ho hW
        refine lv_aload_n hx hb dX0_nodeFor_144 rfl (lv_at hl 0 rfl) ?_
        refine xGET_11 C0 kw_395 hW dX0_nodeFor_145 ?_
        refine lv_aload_n hx hb dX0_nodeFor_148 rfl (lv_at hl 0 rfl) ?_
        refine xGET_3 C0 kw_385 hW dX0_nodeFor_149 ?_
        refine lv_iload_n hx hb dX0_nodeFor_152 rfl (lv_at hl 3 rfl) ?_
        obtain ⟨g24, ho⟩ := gd_some ho
        refine xST_11 C0 hW g24 dX0_nodeFor_153 (fun H locs hW => ?_)
        obtain ⟨t25, ho, hW⟩ := nm_w (P := fun t => wl D A s (wX cI cJ cZ cR am gm t) H locs) ho hW
        refine lv_aload_n hx hb dX0_nodeFor_154 rfl (lv_at hl 0 rfl) ?_
        refine xGET_8 C0 kw_392 hW dX0_nodeFor_155 ?_
        refine lv_iload hx hb dX0_nodeFor_158 (lv_at hl 4 rfl) ?_
        refine lv_aload_n hx hb dX0_nodeFor_160 rfl (lv_at hl 0 rfl) ?_
        refine xGET_3 C0 kw_385 hW dX0_nodeFor_161 ?_
        obtain ⟨g26, ho⟩ := gd_some ho
        refine xST_8 C0 hW g26 dX0_nodeFor_164 (fun H locs hW => ?_)
        obtain ⟨t27, ho, hW⟩ := nm_w (P := fun t => wl D A s (wX cI cJ cZ cR am gm t) H locs) ho hW
        refine lv_aload_n hx hb dX0_nodeFor_165 rfl (lv_at hl 0 rfl) ?_
        refine lv_dup hx hb dX0_nodeFor_166 rfl ?_
        refine xGET_3 C0 kw_385 hW dX0_nodeFor_167 ?_
        refine lv_iconst (v := (1 : Int32)) hx hb dX0_nodeFor_170 (by decide) ?_
        refine lv_iadd hx hb dX0_nodeFor_171 ?_
        refine xPUT_3 C0 kw_385 hW dX0_nodeFor_172 (fun H locs hW => ?_)
        obtain ⟨t28, ho, hW⟩ := nm_w (P := fun t => wl D A s (wX cI cJ cZ cR am gm t) H locs) ho hW
        refine lv_aload_n hx hb dX0_nodeFor_175 rfl (lv_at hl 0 rfl) ?_
        refine xGET_3 C0 kw_385 hW dX0_nodeFor_176 ?_
        refine lv_iconst (v := (1 : Int32)) hx hb dX0_nodeFor_179 (by decide) ?_
        refine lv_isub hx hb dX0_nodeFor_180 ?_
        cases ho
        exact rtI C0.1 hW dX0_nodeFor_181
      · replace ho := ite_f c19 ho
        refine lv_iload_n hx hb dX0_nodeFor_122 rfl (lv_at hl 2 rfl) ?_
        cases ho
        exact rtI C0.1 hW dX0_nodeFor_123
  · replace ho := ite_t c14 ho
    refine lv_iload_n hx hb dX0_nodeFor_5 rfl (lv_at hl 2 rfl) ?_
    cases ho
    exact rtI C0.1 hW dX0_nodeFor_6
noncomputable def x8_bit (t : St) (a1 : Int32) : Option (Int32) :=
  gd ((gI t 806) + (a1 >>> ((6 : Int32) &&& 31))) (gN t 808) (some ((((((gB t 808 (((gI t 806) + (a1 >>> ((6 : Int32) &&& 31)))).toNatClampNeg)).toUInt64 >>> (((a1 &&& (63 : Int32))).toInt64.toUInt64 &&& Int64.toUInt64 63)).toInt64) &&& (1 : Int64))).toInt32)
set_option maxHeartbeats 4000000 in
set_option maxRecDepth 100000 in
theorem c_x8_bit (l : Launch) {D : va_G} {cI cJ cZ cR : ClassId} {am gm : Nat → Nat} {st : Nat} (sz : Nat) (t : St) (a1 : Int32) {r : Int32} (ho : x8_bit t a1 = some r) : Met l yX8_bit (.code yX8_bit cX8_bit 2 (some .int) :: wsAll) (rmN 0 0) (va_Pc [.ref (am 1008), .int a1] (prX D (tyX cI cJ cZ cR) (wX cI cJ cZ cR am gm t) sz st)) (qI r D (tyX cI cJ cZ cR) (wX cI cJ cZ cR am gm t) (va_A (wX cI cJ cZ cR am gm t) sz)) 0 0 (va_A (wX cI cJ cZ cR am gm t) sz) := by
  refine Met.ofW (cc := cX8_bit) (maxL := 2) (ret := (some .int)) (by decide) rfl ?_
  intro p e s m args below meth c s₁ B hml hv
  obtain ⟨rfl, ⟨hsz, hP, hK, hD0⟩, hsx⟩ := hv
  have hx := B.exec
  have hb := B.bytes
  have hts := atoms_spec (ws := (.code yX8_bit cX8_bit 2 (some .int) :: wsAll)) B.pre
  have hta := fun w h => hts w (List.mem_cons_of_mem _ h)
  have hown : s.vm.findClass RX8 = some m.cls := findClass_of_methodNamed B.named
  have hlocks := B.notSynchronized
  subst hsz
  have hD := hD0.self (sz := s.heap.size)
  generalize hAe : va_A (wX cI cJ cZ cR am gm t) s.heap.size = A at hD ⊢
  have hA : ∀ q : Nat, s.heap.size ≤ q → A q := fun q h => by rw [← hAe]; exact Or.inr h
  have C0 : cxX p s m ([.ref (am 1008), .int a1].toArray) meth c cX8_bit RX8 2 (some .int) D (tyX cI cJ cZ cR) st A := ⟨⟨hx, hb, B.returns, hml, hown, hta, hlocks, hK, hA⟩, by rw [← hAe]; exact hsx⟩
  have hW : wl D A s (wX cI cJ cZ cR am gm t) s.heap [] := ⟨hP, hD, va_S.rf⟩
  have hl := lv_entry [.ref (am 1008), .int a1] (n := 2) (Nat.le_of_ble_eq_true rfl)
  rw [lg_entry_eq]
  generalize (lg_sl [.ref (am 1008), .int a1] ++ List.replicate (2 - (lg_sl [.ref (am 1008), .int a1]).length) Slot.unset).toArray = ls at hl ⊢
  have hl : lv_has ls 2 [(0, .ref (am 1008)), (1, .int a1)] := hl
  unfold x8_bit at ho
  refine lv_aload_n hx hb dX8_bit_0 rfl (lv_at hl 0 rfl) ?_
  refine xGET_808 C0 kw_285 hW dX8_bit_1 ?_
  refine lv_aload_n hx hb dX8_bit_4 rfl (lv_at hl 0 rfl) ?_
  refine xGET_806 C0 kw_281 hW dX8_bit_5 ?_
  refine lv_iload_n hx hb dX8_bit_8 rfl (lv_at hl 1 rfl) ?_
  refine lv_bipush (v := (6 : Int32)) hx hb dX8_bit_9 (by decide) ?_
  refine lv_ishr hx hb dX8_bit_11 ?_
  refine lv_iadd hx hb dX8_bit_12 ?_
  obtain ⟨g1, ho⟩ := gd_some ho
  refine xLD_808 C0 hW g1 dX8_bit_13 ?_
  refine lv_iload_n hx hb dX8_bit_14 rfl (lv_at hl 1 rfl) ?_
  refine lv_bipush (v := (63 : Int32)) hx hb dX8_bit_15 (by decide) ?_
  refine lv_iand hx hb dX8_bit_17 ?_
  refine lv_lushr hx hb dX8_bit_18 rfl ?_
  refine lv_lconst (v := (1 : Int64)) hx hb dX8_bit_19 (by decide) ?_
  refine lv_land hx hb dX8_bit_20 ?_
  refine lv_l2i hx hb dX8_bit_21 rfl ?_
  cases ho
  exact rtI C0.1 hW dX8_bit_22
noncomputable def x0_drawnSize (t : St) : Option (Int32) :=
  some ((gI t 3) - (2 : Int32))
set_option maxHeartbeats 4000000 in
set_option maxRecDepth 100000 in
theorem c_x0_drawnSize (l : Launch) {D : va_G} {cI cJ cZ cR : ClassId} {am gm : Nat → Nat} {st : Nat} (sz : Nat) (t : St) {r : Int32} (ho : x0_drawnSize t = some r) : Met l yX0_drawnSize (.code yX0_drawnSize cX0_drawnSize 1 (some .int) :: wsAll) (rmN 0 0) (va_Pc [.ref (am 1000)] (prX D (tyX cI cJ cZ cR) (wX cI cJ cZ cR am gm t) sz st)) (qI r D (tyX cI cJ cZ cR) (wX cI cJ cZ cR am gm t) (va_A (wX cI cJ cZ cR am gm t) sz)) 0 0 (va_A (wX cI cJ cZ cR am gm t) sz) := by
  refine Met.ofW (cc := cX0_drawnSize) (maxL := 1) (ret := (some .int)) (by decide) rfl ?_
  intro p e s m args below meth c s₁ B hml hv
  obtain ⟨rfl, ⟨hsz, hP, hK, hD0⟩, hsx⟩ := hv
  have hx := B.exec
  have hb := B.bytes
  have hts := atoms_spec (ws := (.code yX0_drawnSize cX0_drawnSize 1 (some .int) :: wsAll)) B.pre
  have hta := fun w h => hts w (List.mem_cons_of_mem _ h)
  have hown : s.vm.findClass RX0 = some m.cls := findClass_of_methodNamed B.named
  have hlocks := B.notSynchronized
  subst hsz
  have hD := hD0.self (sz := s.heap.size)
  generalize hAe : va_A (wX cI cJ cZ cR am gm t) s.heap.size = A at hD ⊢
  have hA : ∀ q : Nat, s.heap.size ≤ q → A q := fun q h => by rw [← hAe]; exact Or.inr h
  have C0 : cxX p s m ([.ref (am 1000)].toArray) meth c cX0_drawnSize RX0 1 (some .int) D (tyX cI cJ cZ cR) st A := ⟨⟨hx, hb, B.returns, hml, hown, hta, hlocks, hK, hA⟩, by rw [← hAe]; exact hsx⟩
  have hW : wl D A s (wX cI cJ cZ cR am gm t) s.heap [] := ⟨hP, hD, va_S.rf⟩
  have hl := lv_entry [.ref (am 1000)] (n := 1) (Nat.le_of_ble_eq_true rfl)
  rw [lg_entry_eq]
  generalize (lg_sl [.ref (am 1000)] ++ List.replicate (1 - (lg_sl [.ref (am 1000)]).length) Slot.unset).toArray = ls at hl ⊢
  have hl : lv_has ls 1 [(0, .ref (am 1000))] := hl
  unfold x0_drawnSize at ho
  refine lv_aload_n hx hb dX0_drawnSize_0 rfl (lv_at hl 0 rfl) ?_
  refine xGET_3 C0 kw_385 hW dX0_drawnSize_1 ?_
  refine lv_iconst (v := (2 : Int32)) hx hb dX0_drawnSize_4 (by decide) ?_
  refine lv_isub hx hb dX0_drawnSize_5 ?_
  cases ho
  exact rtI C0.1 hW dX0_drawnSize_6
noncomputable def x0_takeOdds_J50 (t : St) (v1 : Int32) (v2 : Int32) (w1 : Int32) (w2 : Int32) : Option ((Int32 × St) ⊕ (St)) :=
  gd w1 (gN t 14) (nm (sA t 14 w1 w2) (fun t2 : St => nm (v2 + (1 : Int32)) (fun x3 : Int32 => some (.inl (x3, t2)))))
noncomputable def x0_takeOdds_B2 (v1 : Int32) (v2 : Int32) (t : St) : Option ((Int32 × St) ⊕ (St)) :=
  if (gI t 803) ≤ v2 then (some (.inr t)) else (gd v2 (gN t 801) (nm (gA t 801 (v2).toNatClampNeg) (fun x6 : Int32 => if ((v1 >>> (x6 &&& 31)) &&& (1 : Int32)) = (1 : Int32) then (x0_takeOdds_J50 t v1 v2 v2 (0 : Int32)) else ((x5_get t x6 (2 : Int32)).bind (fun q8 => x0_takeOdds_J50 t v1 v2 v2 q8)))))
noncomputable def x0_takeOdds (t : St) (a1 : Int32) : Option (St) :=
  (lp (fun x => x0_takeOdds_B2 a1 x.1 x.2) ((0 : Int32), t)).bind (fun y10 => some y10)
set_option maxHeartbeats 4000000 in
set_option maxRecDepth 100000 in
theorem x0_takeOdds_L2 {p : Program} {l : Launch} {e : Env} {s : State} {m : MethodId} {args : Array Value} {below : List Frame} {meth : Method} {c : Code} {Q : State → Prop} {D : va_G} {cI cJ cZ cR : ClassId} {am gm : Nat → Nat} {st : Nat} {A : Nat → Prop} (C0 : cxX p s m args meth c cX0_takeOdds RX0 4 none D (tyX cI cJ cZ cR) st A) {v1 : Int32} {y : St} (hK0 : ∀ (H : Heap) (locs : List Loc) (ls : Array Slot), wl D A s (wX cI cJ cZ cR am gm y) H locs → lv_has ls 4 [(0, .ref (am 1000))] → W p l e (rmN 1 22) s m args below meth c H locs 0 0 Q (F0 m 57 ls [])) :
    ∀ (n : Nat) (v2 : Int32) (t : St), lpn (fun x => x0_takeOdds_B2 v1 x.1 x.2) n (v2, t) = some y → ∀ (H : Heap) (locs : List Loc) (ls : Array Slot), wl D A s (wX cI cJ cZ cR am gm t) H locs → lv_has ls 4 [(0, .ref (am 1000)), (1, .int v1), (2, .int v2)] → W p l e (rmN 1 22) s m args below meth c H locs 0 0 Q (F0 m 2 ls []) := by
  have hx := C0.1.1
  have hb := C0.1.2.1
  have hta := C0.1.2.2.2.2.2.1
  have hown := C0.1.2.2.2.2.1
  intro n
  induction n with
  | zero => intro _ _ h; cases h
  | succ n ih =>
    intro v2 t hrun H locs ls hW hl
    obtain ⟨o, ho, hrun⟩ := bd_some hrun
    have J50 : ∀ (t : St) (v2 : Int32) (w1 : Int32) (w2 : Int32) (_ : x0_takeOdds_J50 t v1 v2 w1 w2 = some o) (H : Heap) (locs : List Loc) (ls : Array Slot), wl D A s (wX cI cJ cZ cR am gm t) H locs → lv_has ls 4 [(0, .ref (am 1000)), (1, .int v1), (2, .int v2)] → W p l e (rmN 1 22) s m args below meth c H locs 0 0 Q (F0 m 50 ls [.int w2, .int w1, .ref (am 14)]) := by
      intro t v2 w1 w2 ho H locs ls hW hl
      unfold x0_takeOdds_J50 at ho
      obtain ⟨g1, ho⟩ := gd_some ho
      refine xST_14 C0 hW g1 dX0_takeOdds_50 (fun H locs hW => ?_)
      obtain ⟨t2, ho, hW⟩ := nm_w (P := fun t => wl D A s (wX cI cJ cZ cR am gm t) H locs) ho hW
      obtain ⟨x3, ex3, ho⟩ := nm_x ho
      refine lv_iinc (v := x3) (lv' := [(2, .int x3), (0, .ref (am 1000)), (1, .int v1)]) hx hb dX0_takeOdds_51 hl (k := 2) rfl (by rw [ex3]; rfl) (by decide) rfl (fun ls hl => ?_)
      clear ex3
      refine lv_goto (tgt := 2) hx hb dX0_takeOdds_54 (by decide) ?_
      cases ho
      exact ih _ _ hrun _ _ _ hW (lv_sub hl [1, 2, 0] rfl)
    unfold x0_takeOdds_B2 at ho
    refine lv_iload_n hx hb dX0_takeOdds_2 rfl (lv_at hl 2 rfl) ?_
    refine lv_aload_n hx hb dX0_takeOdds_3 rfl (lv_at hl 0 rfl) ?_
    refine xGET_1 C0 kw_383 hW dX0_takeOdds_4 ?_
    refine xGET_803 C0 kw_275 hW dX0_takeOdds_7 ?_
    refine lv_icmp_ge (tgt := 57) hx hb dX0_takeOdds_10 (by decide) (fun c4 => ?_) (fun c4 => ?_)
    · replace ho := ite_t c4 ho
      cases ho
      cases hrun
      exact hK0 _ _ _ hW (lv_sub hl [0] rfl)
    · replace ho := ite_f c4 ho
      refine lv_aload_n hx hb dX0_takeOdds_13 rfl (lv_at hl 0 rfl) ?_
      refine xGET_1 C0 kw_383 hW dX0_takeOdds_14 ?_
      refine xGET_801 C0 kw_271 hW dX0_takeOdds_17 ?_
      refine lv_iload_n hx hb dX0_takeOdds_20 rfl (lv_at hl 2 rfl) ?_
      obtain ⟨g5, ho⟩ := gd_some ho
      refine xLD_801 C0 hW g5 dX0_takeOdds_21 ?_
      refine lv_nmi ho (fun x6 ho => ?_)
      refine lv_istore_n (lv' := [(3, .int x6), (0, .ref (am 1000)), (1, .int v1), (2, .int v2)]) hx hb dX0_takeOdds_22 rfl hl (by decide) rfl (fun ls hl => ?_)
      refine lv_aload_n hx hb dX0_takeOdds_23 rfl (lv_at hl 1 rfl) ?_
      refine xGET_14 C0 kw_401 hW dX0_takeOdds_24 ?_
      refine lv_iload_n hx hb dX0_takeOdds_27 rfl (lv_at hl 3 rfl) ?_
      refine lv_iload_n hx hb dX0_takeOdds_28 rfl (lv_at hl 2 rfl) ?_
      refine lv_iload_n hx hb dX0_takeOdds_29 rfl (lv_at hl 0 rfl) ?_
      refine lv_ishr hx hb dX0_takeOdds_30 ?_
      refine lv_iconst (v := (1 : Int32)) hx hb dX0_takeOdds_31 (by decide) ?_
      refine lv_iand hx hb dX0_takeOdds_32 ?_
      refine lv_iconst (v := (1 : Int32)) hx hb dX0_takeOdds_33 (by decide) ?_
      refine lv_icmp_ne (tgt := 41) hx hb dX0_takeOdds_34 (by decide) (fun c7 => ?_) (fun c7 => ?_)
      · replace ho := ite_f c7 ho
        refine lv_aload_n hx hb dX0_takeOdds_41 rfl (lv_at hl 1 rfl) ?_
        refine xGET_0 C0 kw_382 hW dX0_takeOdds_42 ?_
        refine lv_iload_n hx hb dX0_takeOdds_45 rfl (lv_at hl 0 rfl) ?_
        refine lv_iconst (v := (2 : Int32)) hx hb dX0_takeOdds_46 (by decide) ?_
        obtain ⟨q8, hc9, ho⟩ := bd_some ho
        refine bkI C0.1 hW (runVX (As := [.int x6, .int (2 : Int32)]) (rest := [.int v2, .ref (am 14)]) C0 hW (c_x5_get l _ t x6 (2 : Int32) (r := q8) hc9) cb_X0_X5_get_109 5 5 rfl rfl rfl rfl rfl ⟨rfl, rfl⟩ ⟨Nat.le_of_ble_eq_true rfl, Nat.le_of_ble_eq_true rfl⟩ (Nat.le_of_ble_eq_true rfl) hl.1 dX0_takeOdds_47 ⟨Nat.le_of_ble_eq_true rfl, Nat.le_of_ble_eq_true rfl⟩) (fun H locs hW => ?_)
        exact J50 _ _ _ _ ho _ _ _ hW (lv_sub hl [1, 2, 3] rfl)
      · replace ho := ite_t c7 ho
        refine lv_iconst (v := (0 : Int32)) hx hb dX0_takeOdds_37 (by decide) ?_
        refine lv_goto (tgt := 50) hx hb dX0_takeOdds_38 (by decide) ?_
        exact J50 _ _ _ _ ho _ _ _ hW (lv_sub hl [1, 2, 3] rfl)
set_option maxHeartbeats 4000000 in
set_option maxRecDepth 100000 in
theorem c_x0_takeOdds (l : Launch) {D : va_G} {cI cJ cZ cR : ClassId} {am gm : Nat → Nat} {st : Nat} (sz : Nat) (t : St) (a1 : Int32) {t' : St} (ho : x0_takeOdds t a1 = some t') : Met l yX0_takeOdds (.code yX0_takeOdds cX0_takeOdds 4 none :: wsAll) (rmN 1 22) (va_Pc [.ref (am 1000), .int a1] (prX D (tyX cI cJ cZ cR) (wX cI cJ cZ cR am gm t) sz st)) (qV D (tyX cI cJ cZ cR) (wX cI cJ cZ cR am gm t') (va_A (wX cI cJ cZ cR am gm t) sz)) 0 0 (va_A (wX cI cJ cZ cR am gm t) sz) := by
  refine Met.ofW (cc := cX0_takeOdds) (maxL := 4) (ret := none) (by decide) rfl ?_
  intro p e s m args below meth c s₁ B hml hv
  obtain ⟨rfl, ⟨hsz, hP, hK, hD0⟩, hsx⟩ := hv
  have hx := B.exec
  have hb := B.bytes
  have hts := atoms_spec (ws := (.code yX0_takeOdds cX0_takeOdds 4 none :: wsAll)) B.pre
  have hta := fun w h => hts w (List.mem_cons_of_mem _ h)
  have hown : s.vm.findClass RX0 = some m.cls := findClass_of_methodNamed B.named
  have hlocks := B.notSynchronized
  subst hsz
  have hD := hD0.self (sz := s.heap.size)
  generalize hAe : va_A (wX cI cJ cZ cR am gm t) s.heap.size = A at hD ⊢
  have hA : ∀ q : Nat, s.heap.size ≤ q → A q := fun q h => by rw [← hAe]; exact Or.inr h
  have C0 : cxX p s m ([.ref (am 1000), .int a1].toArray) meth c cX0_takeOdds RX0 4 none D (tyX cI cJ cZ cR) st A := ⟨⟨hx, hb, B.returns, hml, hown, hta, hlocks, hK, hA⟩, by rw [← hAe]; exact hsx⟩
  have hW : wl D A s (wX cI cJ cZ cR am gm t) s.heap [] := ⟨hP, hD, va_S.rf⟩
  have hl := lv_entry [.ref (am 1000), .int a1] (n := 4) (Nat.le_of_ble_eq_true rfl)
  rw [lg_entry_eq]
  generalize (lg_sl [.ref (am 1000), .int a1] ++ List.replicate (4 - (lg_sl [.ref (am 1000), .int a1]).length) Slot.unset).toArray = ls at hl ⊢
  have hl : lv_has ls 4 [(0, .ref (am 1000)), (1, .int a1)] := hl
  unfold x0_takeOdds at ho
  refine lv_iconst (v := (0 : Int32)) hx hb dX0_takeOdds_0 (by decide) ?_
  refine lv_istore_n (lv' := [(2, .int (0 : Int32)), (0, .ref (am 1000)), (1, .int a1)]) hx hb dX0_takeOdds_1 rfl hl (by decide) rfl (fun ls hl => ?_)
  obtain ⟨y10, hc11, ho⟩ := bd_some ho
  obtain ⟨ny10, hc11⟩ := lp_to hc11
  refine x0_takeOdds_L2 C0 ?_ ny10 _ _ hc11 _ _ _ hW (lv_sub hl [1, 2, 0] rfl)
  intro H locs ls hW hl
  cases ho
  exact rtV C0.1 hW dX0_takeOdds_57
