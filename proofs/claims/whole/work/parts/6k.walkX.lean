noncomputable def x9_firstBegin_J53 (t : St) (v3 : Int32) (v4 : Int32) (v6 : Int32) (w0 : Int32) : Option ((Int32 × Int32) ⊕ ((Int32) ⊕ (Unit))) :=
  if w0 = v4 then (some (.inr (.inl v6))) else (nm (v6 + (1 : Int32)) (fun x2 : Int32 => some (.inl (w0, x2))))
noncomputable def x9_firstBegin_B27 (t : St) (v3 : Int32) (v4 : Int32) (v5 : Int32) (v6 : Int32) : Option ((Int32 × Int32) ⊕ ((Int32) ⊕ (Unit))) :=
  if (600 : Int32) ≤ v6 then (some (.inr (.inr ()))) else ((x9_menAt t v3 v6).bind (fun q4 => if q4 = 0 then (x9_firstBegin_J53 t v3 v4 v6 (v5 + (1 : Int32))) else (x9_firstBegin_J53 t v3 v4 v6 (0 : Int32))))
noncomputable def x9_firstBegin (t : St) (a1 : Int32) (a2 : Int32) : Option (Int32) :=
  (x5_get t a1 (4 : Int32)).bind (fun q7 => (x5_get t a1 (1 : Int32)).bind (fun q9 => (lp (fun x => x9_firstBegin_B27 t q7 q9 x.1 x.2) ((0 : Int32), a2)).bind (fun y11 => (Sum.elim (fun u14 => some ((u14 + (1 : Int32)) - q9)) (fun u14 => some (-1 : Int32))) y11)))
set_option maxHeartbeats 4000000 in
set_option maxRecDepth 100000 in
theorem x9_firstBegin_L27 {p : Program} {l : Launch} {e : Env} {s : State} {m : MethodId} {args : Array Value} {below : List Frame} {meth : Method} {c : Code} {Q : State → Prop} {D : va_G} {cI cJ cZ cR : ClassId} {am gm : Nat → Nat} {st : Nat} {A : Nat → Prop} (C0 : cxX p s m args meth c cX9_firstBegin RX9 7 (some .int) D (tyX cI cJ cZ cR) st A) {t : St} {v3 : Int32} {v4 : Int32} {y : (Int32) ⊕ (Unit)} (hK0 : ∀ u, y = (.inl u) → ∀ (H : Heap) (locs : List Loc) (ls : Array Slot), wl D A s (wX cI cJ cZ cR am gm t) H locs → lv_has ls 7 [(0, .ref (am 2009)), (4, .int v4), (6, .int u)] → W p l e (rmN 2 46) s m args below meth c H locs 0 0 Q (F0 m 62 ls [])) (hK1 : ∀ u, y = (.inr u) → ∀ (H : Heap) (locs : List Loc) (ls : Array Slot), wl D A s (wX cI cJ cZ cR am gm t) H locs → lv_has ls 7 [(0, .ref (am 2009))] → W p l e (rmN 2 46) s m args below meth c H locs 0 0 Q (F0 m 76 ls [])) :
    ∀ (n : Nat) (v5 : Int32) (v6 : Int32), lpn (fun x => x9_firstBegin_B27 t v3 v4 x.1 x.2) n (v5, v6) = some y → ∀ (H : Heap) (locs : List Loc) (ls : Array Slot), wl D A s (wX cI cJ cZ cR am gm t) H locs → lv_has ls 7 [(0, .ref (am 2009)), (3, .int v3), (4, .int v4), (5, .int v5), (6, .int v6)] → W p l e (rmN 2 46) s m args below meth c H locs 0 0 Q (F0 m 27 ls []) := by
  have hx := C0.1.1
  have hb := C0.1.2.1
  have hta := C0.1.2.2.2.2.2.1
  have hown := C0.1.2.2.2.2.1
  intro n
  induction n with
  | zero => intro _ _ h; cases h
  | succ n ih =>
    intro v5 v6 hrun H locs ls hW hl
    obtain ⟨o, ho, hrun⟩ := bd_some hrun
    have J53 : ∀ (v6 : Int32) (w0 : Int32) (_ : x9_firstBegin_J53 t v3 v4 v6 w0 = some o) (H : Heap) (locs : List Loc) (ls : Array Slot), wl D A s (wX cI cJ cZ cR am gm t) H locs → lv_has ls 7 [(0, .ref (am 2009)), (3, .int v3), (4, .int v4), (6, .int v6)] → W p l e (rmN 2 46) s m args below meth c H locs 0 0 Q (F0 m 53 ls [.int w0]) := by
      intro v6 w0 ho H locs ls hW hl
      unfold x9_firstBegin_J53 at ho
      refine lv_istore (lv' := [(5, .int w0), (0, .ref (am 2009)), (3, .int v3), (4, .int v4), (6, .int v6)]) hx hb dX9_firstBegin_53 hl (by decide) rfl (fun ls hl => ?_)
      refine lv_iload hx hb dX9_firstBegin_55 (lv_at hl 0 rfl) ?_
      refine lv_iload hx hb dX9_firstBegin_57 (lv_at hl 3 rfl) ?_
      refine lv_icmp_ne (tgt := 70) hx hb dX9_firstBegin_59 (by decide) (fun c1 => ?_) (fun c1 => ?_)
      · replace ho := ite_f c1 ho
        obtain ⟨x2, ex2, ho⟩ := nm_x ho
        refine lv_iinc (v := x2) (lv' := [(6, .int x2), (5, .int w0), (0, .ref (am 2009)), (3, .int v3), (4, .int v4)]) hx hb dX9_firstBegin_70 hl (k := 4) rfl (by rw [ex2]; rfl) (by decide) rfl (fun ls hl => ?_)
        clear ex2
        refine lv_goto (tgt := 27) hx hb dX9_firstBegin_73 (by decide) ?_
        cases ho
        exact ih _ _ hrun _ _ _ hW (lv_sub hl [2, 3, 4, 1, 0] rfl)
      · replace ho := ite_t c1 ho
        cases ho
        cases hrun
        exact hK0 _ rfl _ _ _ hW (lv_sub hl [1, 3, 4] rfl)
    unfold x9_firstBegin_B27 at ho
    refine lv_iload hx hb dX9_firstBegin_27 (lv_at hl 4 rfl) ?_
    refine lv_sipush (v := (600 : Int32)) hx hb dX9_firstBegin_29 (by decide) ?_
    refine lv_icmp_ge (tgt := 76) hx hb dX9_firstBegin_32 (by decide) (fun c3 => ?_) (fun c3 => ?_)
    · replace ho := ite_t c3 ho
      cases ho
      cases hrun
      exact hK1 _ rfl _ _ _ hW (lv_sub hl [0] rfl)
    · replace ho := ite_f c3 ho
      refine lv_aload_n hx hb dX9_firstBegin_35 rfl (lv_at hl 0 rfl) ?_
      refine lv_iload_n hx hb dX9_firstBegin_36 rfl (lv_at hl 1 rfl) ?_
      refine lv_iload hx hb dX9_firstBegin_37 (lv_at hl 4 rfl) ?_
      obtain ⟨q4, hc5, ho⟩ := bd_some ho
      refine bkI C0.1 hW (runVX (As := [.int v3, .int v6]) (rest := []) C0 hW (c_x9_menAt l _ t v3 v6 (r := q4) hc5) cb_X9_X9_menAt_47 9 9 rfl rfl rfl rfl rfl ⟨rfl, rfl⟩ ⟨Nat.le_of_ble_eq_true rfl, Nat.le_of_ble_eq_true rfl⟩ (Nat.le_of_ble_eq_true rfl) hl.1 dX9_firstBegin_39 ⟨Nat.le_of_ble_eq_true rfl, Nat.le_of_ble_eq_true rfl⟩) (fun H locs hW => ?_)
      refine lv_if_ne (tgt := 52) hx hb dX9_firstBegin_42 (by decide) (fun c6 => ?_) (fun c6 => ?_)
      · replace ho := ite_f c6 ho
        refine lv_iconst (v := (0 : Int32)) hx hb dX9_firstBegin_52 (by decide) ?_
        exact J53 _ _ ho _ _ _ hW (lv_sub hl [0, 1, 2, 4] rfl)
      · replace ho := ite_t c6 ho
        refine lv_iload hx hb dX9_firstBegin_45 (lv_at hl 3 rfl) ?_
        refine lv_iconst (v := (1 : Int32)) hx hb dX9_firstBegin_47 (by decide) ?_
        refine lv_iadd hx hb dX9_firstBegin_48 ?_
        refine lv_goto (tgt := 53) hx hb dX9_firstBegin_49 (by decide) ?_
        exact J53 _ _ ho _ _ _ hW (lv_sub hl [0, 1, 2, 4] rfl)
set_option maxHeartbeats 4000000 in
set_option maxRecDepth 100000 in
theorem c_x9_firstBegin (l : Launch) {D : va_G} {cI cJ cZ cR : ClassId} {am gm : Nat → Nat} {st : Nat} (sz : Nat) (t : St) (a1 : Int32) (a2 : Int32) {r : Int32} (ho : x9_firstBegin t a1 a2 = some r) : Met l yX9_firstBegin (.code yX9_firstBegin cX9_firstBegin 7 (some .int) :: wsAll) (rmN 2 46) (va_Pc [.ref (am 2009), .int a1, .int a2] (prX D (tyX cI cJ cZ cR) (wX cI cJ cZ cR am gm t) sz st)) (qI r D (tyX cI cJ cZ cR) (wX cI cJ cZ cR am gm t) (va_A (wX cI cJ cZ cR am gm t) sz)) 0 0 (va_A (wX cI cJ cZ cR am gm t) sz) := by
  refine Met.ofW (cc := cX9_firstBegin) (maxL := 7) (ret := (some .int)) (by decide) rfl ?_
  intro p e s m args below meth c s₁ B hml hv
  obtain ⟨rfl, ⟨hsz, hP, hK, hD0⟩, hsx⟩ := hv
  have hx := B.exec
  have hb := B.bytes
  have hts := atoms_spec (ws := (.code yX9_firstBegin cX9_firstBegin 7 (some .int) :: wsAll)) B.pre
  have hta := fun w h => hts w (List.mem_cons_of_mem _ h)
  have hown : s.vm.findClass RX9 = some m.cls := findClass_of_methodNamed B.named
  have hlocks := B.notSynchronized
  subst hsz
  have hD := hD0.self (sz := s.heap.size)
  generalize hAe : va_A (wX cI cJ cZ cR am gm t) s.heap.size = A at hD ⊢
  have hA : ∀ q : Nat, s.heap.size ≤ q → A q := fun q h => by rw [← hAe]; exact Or.inr h
  have C0 : cxX p s m ([.ref (am 2009), .int a1, .int a2].toArray) meth c cX9_firstBegin RX9 7 (some .int) D (tyX cI cJ cZ cR) st A := ⟨⟨hx, hb, B.returns, hml, hown, hta, hlocks, hK, hA⟩, by rw [← hAe]; exact hsx⟩
  have hW : wl D A s (wX cI cJ cZ cR am gm t) s.heap [] := ⟨hP, hD, va_S.rf⟩
  have hl := lv_entry [.ref (am 2009), .int a1, .int a2] (n := 7) (Nat.le_of_ble_eq_true rfl)
  rw [lg_entry_eq]
  generalize (lg_sl [.ref (am 2009), .int a1, .int a2] ++ List.replicate (7 - (lg_sl [.ref (am 2009), .int a1, .int a2]).length) Slot.unset).toArray = ls at hl ⊢
  have hl : lv_has ls 7 [(0, .ref (am 2009)), (1, .int a1), (2, .int a2)] := hl
  unfold x9_firstBegin at ho
  refine lv_aload_n hx hb dX9_firstBegin_0 rfl (lv_at hl 0 rfl) ?_
  refine xGET_900 C0 kw_565 hW dX9_firstBegin_1 ?_
  refine lv_iload_n hx hb dX9_firstBegin_4 rfl (lv_at hl 1 rfl) ?_
  refine lv_iconst (v := (4 : Int32)) hx hb dX9_firstBegin_5 (by decide) ?_
  obtain ⟨q7, hc8, ho⟩ := bd_some ho
  refine bkI C0.1 hW (runVX (As := [.int a1, .int (4 : Int32)]) (rest := []) C0 hW (c_x5_get l _ t a1 (4 : Int32) (r := q7) hc8) cb_X9_X5_get_44 5 5 rfl rfl rfl rfl rfl ⟨rfl, rfl⟩ ⟨Nat.le_of_ble_eq_true rfl, Nat.le_of_ble_eq_true rfl⟩ (Nat.le_of_ble_eq_true rfl) hl.1 dX9_firstBegin_6 ⟨Nat.le_of_ble_eq_true rfl, Nat.le_of_ble_eq_true rfl⟩) (fun H locs hW => ?_)
  refine lv_istore_n (lv' := [(3, .int q7), (0, .ref (am 2009)), (1, .int a1), (2, .int a2)]) hx hb dX9_firstBegin_9 rfl hl (by decide) rfl (fun ls hl => ?_)
  refine lv_aload_n hx hb dX9_firstBegin_10 rfl (lv_at hl 1 rfl) ?_
  refine xGET_900 C0 kw_565 hW dX9_firstBegin_11 ?_
  refine lv_iload_n hx hb dX9_firstBegin_14 rfl (lv_at hl 2 rfl) ?_
  refine lv_iconst (v := (1 : Int32)) hx hb dX9_firstBegin_15 (by decide) ?_
  obtain ⟨q9, hc10, ho⟩ := bd_some ho
  refine bkI C0.1 hW (runVX (As := [.int a1, .int (1 : Int32)]) (rest := []) C0 hW (c_x5_get l _ t a1 (1 : Int32) (r := q9) hc10) cb_X9_X5_get_44 5 5 rfl rfl rfl rfl rfl ⟨rfl, rfl⟩ ⟨Nat.le_of_ble_eq_true rfl, Nat.le_of_ble_eq_true rfl⟩ (Nat.le_of_ble_eq_true rfl) hl.1 dX9_firstBegin_16 ⟨Nat.le_of_ble_eq_true rfl, Nat.le_of_ble_eq_true rfl⟩) (fun H locs hW => ?_)
  refine lv_istore (lv' := [(4, .int q9), (3, .int q7), (0, .ref (am 2009)), (1, .int a1), (2, .int a2)]) hx hb dX9_firstBegin_19 hl (by decide) rfl (fun ls hl => ?_)
  refine lv_iconst (v := (0 : Int32)) hx hb dX9_firstBegin_21 (by decide) ?_
  refine lv_istore (lv' := [(5, .int (0 : Int32)), (4, .int q9), (3, .int q7), (0, .ref (am 2009)), (1, .int a1), (2, .int a2)]) hx hb dX9_firstBegin_22 hl (by decide) rfl (fun ls hl => ?_)
  refine lv_iload_n hx hb dX9_firstBegin_24 rfl (lv_at hl 5 rfl) ?_
  refine lv_istore (lv' := [(6, .int a2), (5, .int (0 : Int32)), (4, .int q9), (3, .int q7), (0, .ref (am 2009)), (1, .int a1), (2, .int a2)]) hx hb dX9_firstBegin_25 hl (by decide) rfl (fun ls hl => ?_)
  obtain ⟨y11, hc13, ho⟩ := bd_some ho
  obtain ⟨ny11, hc13⟩ := lp_to hc13
  refine x9_firstBegin_L27 C0 ?_ ?_ ny11 _ _ hc13 _ _ _ hW (lv_sub hl [4, 3, 2, 1, 0] rfl)
  · intro u14 hy H locs ls hW hl
    subst hy
    replace ho := sum_l ho
    refine lv_iload hx hb dX9_firstBegin_62 (lv_at hl 2 rfl) ?_
    refine lv_iconst (v := (1 : Int32)) hx hb dX9_firstBegin_64 (by decide) ?_
    refine lv_iadd hx hb dX9_firstBegin_65 ?_
    refine lv_iload hx hb dX9_firstBegin_66 (lv_at hl 1 rfl) ?_
    refine lv_isub hx hb dX9_firstBegin_68 ?_
    cases ho
    exact rtI C0.1 hW dX9_firstBegin_69
  · intro u14 hy H locs ls hW hl
    subst hy
    replace ho := sum_r ho
    refine lv_iconst (v := (-1 : Int32)) hx hb dX9_firstBegin_76 (by decide) ?_
    cases ho
    exact rtI C0.1 hW dX9_firstBegin_77
noncomputable def x11_begins (t : St) (a1 : Int32) (a2 : Int32) : Option (Int32) :=
  (x11_noStep t a1).bind (fun q1 => if q1 = 0 then ((x11_outside t a2 (0 : Int32) (600 : Int32)).bind (fun q5 => if q5 = 0 then ((x9_firstBegin t a1 a2).bind (fun q9 => some q9)) else (some (-2 : Int32)))) else (some (-2 : Int32)))
set_option maxHeartbeats 4000000 in
set_option maxRecDepth 100000 in
theorem c_x11_begins (l : Launch) {D : va_G} {cI cJ cZ cR : ClassId} {am gm : Nat → Nat} {st : Nat} (sz : Nat) (t : St) (a1 : Int32) (a2 : Int32) {r : Int32} (ho : x11_begins t a1 a2 = some r) : Met l yX11_begins (.code yX11_begins cX11_begins 3 (some .int) :: wsAll) (rmN 3 72) (va_Pc [.ref (am 2011), .int a1, .int a2] (prX D (tyX cI cJ cZ cR) (wX cI cJ cZ cR am gm t) sz st)) (qI r D (tyX cI cJ cZ cR) (wX cI cJ cZ cR am gm t) (va_A (wX cI cJ cZ cR am gm t) sz)) 0 0 (va_A (wX cI cJ cZ cR am gm t) sz) := by
  refine Met.ofW (cc := cX11_begins) (maxL := 3) (ret := (some .int)) (by decide) rfl ?_
  intro p e s m args below meth c s₁ B hml hv
  obtain ⟨rfl, ⟨hsz, hP, hK, hD0⟩, hsx⟩ := hv
  have hx := B.exec
  have hb := B.bytes
  have hts := atoms_spec (ws := (.code yX11_begins cX11_begins 3 (some .int) :: wsAll)) B.pre
  have hta := fun w h => hts w (List.mem_cons_of_mem _ h)
  have hown : s.vm.findClass RX11 = some m.cls := findClass_of_methodNamed B.named
  have hlocks := B.notSynchronized
  subst hsz
  have hD := hD0.self (sz := s.heap.size)
  generalize hAe : va_A (wX cI cJ cZ cR am gm t) s.heap.size = A at hD ⊢
  have hA : ∀ q : Nat, s.heap.size ≤ q → A q := fun q h => by rw [← hAe]; exact Or.inr h
  have C0 : cxX p s m ([.ref (am 2011), .int a1, .int a2].toArray) meth c cX11_begins RX11 3 (some .int) D (tyX cI cJ cZ cR) st A := ⟨⟨hx, hb, B.returns, hml, hown, hta, hlocks, hK, hA⟩, by rw [← hAe]; exact hsx⟩
  have hW : wl D A s (wX cI cJ cZ cR am gm t) s.heap [] := ⟨hP, hD, va_S.rf⟩
  have hl := lv_entry [.ref (am 2011), .int a1, .int a2] (n := 3) (Nat.le_of_ble_eq_true rfl)
  rw [lg_entry_eq]
  generalize (lg_sl [.ref (am 2011), .int a1, .int a2] ++ List.replicate (3 - (lg_sl [.ref (am 2011), .int a1, .int a2]).length) Slot.unset).toArray = ls at hl ⊢
  have hl : lv_has ls 3 [(0, .ref (am 2011)), (1, .int a1), (2, .int a2)] := hl
  unfold x11_begins at ho
  refine lv_iload_n hx hb dX11_begins_0 rfl (lv_at hl 1 rfl) ?_
  obtain ⟨q1, hc2, ho⟩ := bd_some ho
  refine bkZ C0.1 hW (runSX (As := [.int a1]) (rest := []) C0 hW (c_x11_noStep l _ t a1 (r := q1) hc2) cb_X11_X11_noStep_98 rfl rfl ⟨rfl, rfl⟩ ⟨Nat.le_of_ble_eq_true rfl, Nat.le_of_ble_eq_true rfl⟩ (Nat.le_of_ble_eq_true rfl) hl.1 dX11_begins_1 ⟨Nat.le_of_ble_eq_true rfl, Nat.le_of_ble_eq_true rfl⟩) (fun z3 H locs hW => ?_)
  refine lv_if_ne (tgt := 18) hx hb dX11_begins_4 (by decide) (fun c4 => ?_) (fun c4 => ?_)
  · replace ho := ite_f c4 ho
    refine lv_bipush (v := (-2 : Int32)) hx hb dX11_begins_18 (by decide) ?_
    cases ho
    exact rtI C0.1 hW dX11_begins_20
  · replace ho := ite_t c4 ho
    refine lv_iload_n hx hb dX11_begins_7 rfl (lv_at hl 2 rfl) ?_
    refine lv_iconst (v := (0 : Int32)) hx hb dX11_begins_8 (by decide) ?_
    refine lv_sipush (v := (600 : Int32)) hx hb dX11_begins_9 (by decide) ?_
    obtain ⟨q5, hc6, ho⟩ := bd_some ho
    refine bkZ C0.1 hW (runSX (As := [.int a2, .int (0 : Int32), .int (600 : Int32)]) (rest := []) C0 hW (c_x11_outside l _ t a2 (0 : Int32) (600 : Int32) (r := q5) hc6) cb_X11_X11_outside_102 rfl rfl ⟨rfl, rfl⟩ ⟨Nat.le_of_ble_eq_true rfl, Nat.le_of_ble_eq_true rfl⟩ (Nat.le_of_ble_eq_true rfl) hl.1 dX11_begins_12 ⟨Nat.le_of_ble_eq_true rfl, Nat.le_of_ble_eq_true rfl⟩) (fun z7 H locs hW => ?_)
    refine lv_if_eq (tgt := 21) hx hb dX11_begins_15 (by decide) (fun c8 => ?_) (fun c8 => ?_)
    · replace ho := ite_t c8 ho
      refine lv_aload_n hx hb dX11_begins_21 rfl (lv_at hl 0 rfl) ?_
      refine xGET_1110 C0 kw_601 hW dX11_begins_22 ?_
      refine lv_iload_n hx hb dX11_begins_25 rfl (lv_at hl 1 rfl) ?_
      refine lv_iload_n hx hb dX11_begins_26 rfl (lv_at hl 2 rfl) ?_
      obtain ⟨q9, hc10, ho⟩ := bd_some ho
      refine bkI C0.1 hW (runVX (As := [.int a1, .int a2]) (rest := []) C0 hW (c_x9_firstBegin l _ t a1 a2 (r := q9) hc10) cb_X11_X9_firstBegin_345 9 9 rfl rfl rfl rfl rfl ⟨rfl, rfl⟩ ⟨Nat.le_of_ble_eq_true rfl, Nat.le_of_ble_eq_true rfl⟩ (Nat.le_of_ble_eq_true rfl) hl.1 dX11_begins_27 ⟨Nat.le_of_ble_eq_true rfl, Nat.le_of_ble_eq_true rfl⟩) (fun H locs hW => ?_)
      cases ho
      exact rtI C0.1 hW dX11_begins_30
    · replace ho := ite_f c8 ho
      refine lv_bipush (v := (-2 : Int32)) hx hb dX11_begins_18 (by decide) ?_
      cases ho
      exact rtI C0.1 hW dX11_begins_20
noncomputable def x9_findEnds_J128 (t : St) (v1 : Int32) (v2 : Int32) (v3 : Int32) (v4 : Int32) (v5 : Int32) (v6 : Int32) (w1 : Int32) (w2 : Int32) : Option ((Int32 × Int32 × St) ⊕ (St)) :=
  gd w1 (gN t 906) (nm (sA t 906 w1 w2) (fun t2 : St => nm (v6 + (-1 : Int32)) (fun x3 : Int32 => some (.inl (v5, x3, t2)))))
theorem mm_x9_findEnds_J128 (t : St) (v1 : Int32) (v2 : Int32) (v3 : Int32) (v4 : Int32) (v5 : Int32) (v6 : Int32) (w1 : Int32) (w2 : Int32) : MR (x9_findEnds_J128 t v1 v2 v3 v4 v5 v6 w1 w2) t (Sum.elim (fun (x : Int32 × Int32 × St) => x.2.2) (fun (y : St) => y)) := by
  unfold x9_findEnds_J128
  exact MR_gd (MR_nmS mle_sA (fun t2 ht2 => MR_nm (fun x3 _ => MR_some ht2)))
noncomputable def x9_findEnds_J84 (t : St) (v1 : Int32) (v2 : Int32) (v3 : Int32) (v4 : Int32) (v6 : Int32) (w0 : Int32) : Option ((Int32 × Int32 × St) ⊕ (St)) :=
  if w0 < v4 then (gd (((v1 * (601 : Int32)) + v6) + (1 : Int32)) (gN t 906) (x9_findEnds_J128 t v1 v2 v3 v4 w0 v6 ((v1 * (601 : Int32)) + v6) (gA t 906 ((((v1 * (601 : Int32)) + v6) + (1 : Int32))).toNatClampNeg))) else (x9_findEnds_J128 t v1 v2 v3 v4 w0 v6 ((v1 * (601 : Int32)) + v6) (v6 + v4))
theorem mm_x9_findEnds_J84 (t : St) (v1 : Int32) (v2 : Int32) (v3 : Int32) (v4 : Int32) (v6 : Int32) (w0 : Int32) : MR (x9_findEnds_J84 t v1 v2 v3 v4 v6 w0) t (Sum.elim (fun (x : Int32 × Int32 × St) => x.2.2) (fun (y : St) => y)) := by
  unfold x9_findEnds_J84
  exact MR_ite (MR_gd (MR_wk mle.rfl (mm_x9_findEnds_J128 t v1 v2 v3 v4 w0 v6 ((v1 * (601 : Int32)) + v6) (gA t 906 ((((v1 * (601 : Int32)) + v6) + (1 : Int32))).toNatClampNeg)))) (MR_wk mle.rfl (mm_x9_findEnds_J128 t v1 v2 v3 v4 w0 v6 ((v1 * (601 : Int32)) + v6) (v6 + v4)))
noncomputable def x9_findEnds_B56 (v1 : Int32) (v2 : Int32) (v3 : Int32) (v4 : Int32) (v5 : Int32) (v6 : Int32) (t : St) : Option ((Int32 × Int32 × St) ⊕ (St)) :=
  if v6 < v2 then (some (.inr t)) else (gd v6 (gN t 903) (if (((gA t 903 (v6).toNatClampNeg) >>> (v3 &&& 31)) &&& (1 : Int32)) = 0 then (x9_findEnds_J84 t v1 v2 v3 v4 v6 (v5 + (1 : Int32))) else (x9_findEnds_J84 t v1 v2 v3 v4 v6 (0 : Int32))))
theorem mm_x9_findEnds_B56 (v1 : Int32) (v2 : Int32) (v3 : Int32) (v4 : Int32) (v5 : Int32) (v6 : Int32) (t : St) : MR (x9_findEnds_B56 v1 v2 v3 v4 v5 v6 t) t (Sum.elim (fun (x : Int32 × Int32 × St) => x.2.2) (fun (y : St) => y)) := by
  unfold x9_findEnds_B56
  exact MR_ite (MR_some mle.rfl) (MR_gd (MR_ite (MR_wk mle.rfl (mm_x9_findEnds_J84 t v1 v2 v3 v4 v6 (v5 + (1 : Int32)))) (MR_wk mle.rfl (mm_x9_findEnds_J84 t v1 v2 v3 v4 v6 (0 : Int32)))))
theorem mm_x9_findEnds_L56 (v1 : Int32) (v2 : Int32) (v3 : Int32) (v4 : Int32) (v5 : Int32) (v6 : Int32) (t : St) : MR (lp (fun x => x9_findEnds_B56 v1 v2 v3 v4 x.1 x.2.1 x.2.2) (v5, v6, t)) t (fun (y : St) => y) := MR_lp (p := (fun (x : Int32 × Int32 × St) => x.2.2)) (q := (fun (y : St) => y)) (fun x => mm_x9_findEnds_B56 v1 v2 v3 v4 x.1 x.2.1 x.2.2) (v5, v6, t)
noncomputable def x9_findEnds (t : St) (a1 : Int32) (a2 : Int32) : Option (St) :=
  gd a1 (gN t 904) ((x5_get t (gA t 904 (a1).toNatClampNeg) (4 : Int32)).bind (fun q10 => gd a1 (gN t 904) ((x5_get t (gA t 904 (a1).toNatClampNeg) (1 : Int32)).bind (fun q13 => gd ((a1 * (601 : Int32)) + (600 : Int32)) (gN t 906) (nm (sA t 906 ((a1 * (601 : Int32)) + (600 : Int32)) (601 : Int32)) (fun t16 : St => (lp (fun x => x9_findEnds_B56 a1 a2 q10 q13 x.1 x.2.1 x.2.2) ((0 : Int32), (599 : Int32), t16)).bind (fun y17 => some y17)))))))
theorem mm_x9_findEnds (t : St) (a1 : Int32) (a2 : Int32) : MR (x9_findEnds t a1 a2) t (fun (a : St) => a) := by
  unfold x9_findEnds
  exact MR_gd (MR_bindn (fun q10 => MR_gd (MR_bindn (fun q13 => MR_gd (MR_nmS mle_sA (fun t16 ht16 => MR_bind (mm_x9_findEnds_L56 a1 a2 q10 q13 (0 : Int32) (599 : Int32) t16) (fun y17 hm18 => MR_some (mle.trans ht16 hm18))))))))
set_option maxHeartbeats 4000000 in
set_option maxRecDepth 100000 in
theorem x9_findEnds_L56 {p : Program} {l : Launch} {e : Env} {s : State} {m : MethodId} {args : Array Value} {below : List Frame} {meth : Method} {c : Code} {Q : State → Prop} {D : va_G} {cI cJ cZ cR : ClassId} {am gm : Nat → Nat} {st : Nat} {A : Nat → Prop} (C0 : cxX p s m args meth c cX9_findEnds RX9 7 none D (tyX cI cJ cZ cR) st A) {v1 : Int32} {v2 : Int32} {v3 : Int32} {v4 : Int32} {y : St} (hK0 : ∀ (H : Heap) (locs : List Loc) (ls : Array Slot), wl D A s (wX cI cJ cZ cR am gm y) H locs → lv_has ls 7 [(0, .ref (am 2009))] → W p l e (rmN 1 22) s m args below meth c H locs 0 0 Q (F0 m 135 ls [])) :
    ∀ (n : Nat) (v5 : Int32) (v6 : Int32) (t : St), lpn (fun x => x9_findEnds_B56 v1 v2 v3 v4 x.1 x.2.1 x.2.2) n (v5, v6, t) = some y → ∀ (H : Heap) (locs : List Loc) (ls : Array Slot), wl D A s (wX cI cJ cZ cR am gm t) H locs → lv_has ls 7 [(0, .ref (am 2009)), (1, .int v1), (2, .int v2), (3, .int v3), (4, .int v4), (5, .int v5), (6, .int v6)] → W p l e (rmN 1 22) s m args below meth c H locs 0 0 Q (F0 m 56 ls []) := by
  have hx := C0.1.1
  have hb := C0.1.2.1
  have hta := C0.1.2.2.2.2.2.1
  have hown := C0.1.2.2.2.2.1
  intro n
  induction n with
  | zero => intro _ _ _ h; cases h
  | succ n ih =>
    intro v5 v6 t hrun H locs ls hW hl
    obtain ⟨o, ho, hrun⟩ := bd_some hrun
    have J128 : ∀ (t : St) (v5 : Int32) (v6 : Int32) (w1 : Int32) (w2 : Int32) (_ : x9_findEnds_J128 t v1 v2 v3 v4 v5 v6 w1 w2 = some o) (H : Heap) (locs : List Loc) (ls : Array Slot), wl D A s (wX cI cJ cZ cR am gm t) H locs → lv_has ls 7 [(0, .ref (am 2009)), (1, .int v1), (2, .int v2), (3, .int v3), (4, .int v4), (5, .int v5), (6, .int v6)] → W p l e (rmN 1 22) s m args below meth c H locs 0 0 Q (F0 m 128 ls [.int w2, .int w1, .ref (gm 906)]) := by
      intro t v5 v6 w1 w2 ho H locs ls hW hl
      unfold x9_findEnds_J128 at ho
      obtain ⟨g1, ho⟩ := gd_some ho
      refine xST_906 C0 hW g1 dX9_findEnds_128 (fun H locs hW => ?_)
      obtain ⟨t2, ho, hW⟩ := nm_w (P := fun t => wl D A s (wX cI cJ cZ cR am gm t) H locs) ho hW
      obtain ⟨x3, ex3, ho⟩ := nm_x ho
      refine lv_iinc (v := x3) (lv' := [(6, .int x3), (0, .ref (am 2009)), (1, .int v1), (2, .int v2), (3, .int v3), (4, .int v4), (5, .int v5)]) hx hb dX9_findEnds_129 hl (k := 6) rfl (by rw [ex3]; rfl) (by decide) rfl (fun ls hl => ?_)
      clear ex3
      refine lv_goto (tgt := 56) hx hb dX9_findEnds_132 (by decide) ?_
      cases ho
      exact ih _ _ _ hrun _ _ _ hW (lv_sub hl [1, 2, 3, 4, 5, 6, 0] rfl)
    have J84 : ∀ (t : St) (v6 : Int32) (w0 : Int32) (_ : x9_findEnds_J84 t v1 v2 v3 v4 v6 w0 = some o) (H : Heap) (locs : List Loc) (ls : Array Slot), wl D A s (wX cI cJ cZ cR am gm t) H locs → lv_has ls 7 [(0, .ref (am 2009)), (1, .int v1), (2, .int v2), (3, .int v3), (4, .int v4), (6, .int v6)] → W p l e (rmN 1 22) s m args below meth c H locs 0 0 Q (F0 m 84 ls [.int w0]) := by
      intro t v6 w0 ho H locs ls hW hl
      unfold x9_findEnds_J84 at ho
      refine lv_istore (lv' := [(5, .int w0), (0, .ref (am 2009)), (1, .int v1), (2, .int v2), (3, .int v3), (4, .int v4), (6, .int v6)]) hx hb dX9_findEnds_84 hl (by decide) rfl (fun ls hl => ?_)
      refine lv_aload_n hx hb dX9_findEnds_86 rfl (lv_at hl 1 rfl) ?_
      refine xGET_906 C0 kw_572 hW dX9_findEnds_87 ?_
      refine lv_iload_n hx hb dX9_findEnds_90 rfl (lv_at hl 2 rfl) ?_
      refine lv_sipush (v := (601 : Int32)) hx hb dX9_findEnds_91 (by decide) ?_
      refine lv_imul hx hb dX9_findEnds_94 ?_
      refine lv_iload hx hb dX9_findEnds_95 (lv_at hl 6 rfl) ?_
      refine lv_iadd hx hb dX9_findEnds_97 ?_
      refine lv_iload hx hb dX9_findEnds_98 (lv_at hl 0 rfl) ?_
      refine lv_iload hx hb dX9_findEnds_100 (lv_at hl 5 rfl) ?_
      refine lv_icmp_lt (tgt := 113) hx hb dX9_findEnds_102 (by decide) (fun c4 => ?_) (fun c4 => ?_)
      · replace ho := ite_t c4 ho
        refine lv_aload_n hx hb dX9_findEnds_113 rfl (lv_at hl 1 rfl) ?_
        refine xGET_906 C0 kw_572 hW dX9_findEnds_114 ?_
        refine lv_iload_n hx hb dX9_findEnds_117 rfl (lv_at hl 2 rfl) ?_
        refine lv_sipush (v := (601 : Int32)) hx hb dX9_findEnds_118 (by decide) ?_
        refine lv_imul hx hb dX9_findEnds_121 ?_
        refine lv_iload hx hb dX9_findEnds_122 (lv_at hl 6 rfl) ?_
        refine lv_iadd hx hb dX9_findEnds_124 ?_
        refine lv_iconst (v := (1 : Int32)) hx hb dX9_findEnds_125 (by decide) ?_
        refine lv_iadd hx hb dX9_findEnds_126 ?_
        obtain ⟨g5, ho⟩ := gd_some ho
        refine xLD_906 C0 hW g5 dX9_findEnds_127 ?_
        exact J128 _ _ _ _ _ ho _ _ _ hW (lv_sub hl [1, 2, 3, 4, 5, 0, 6] rfl)
      · replace ho := ite_f c4 ho
        refine lv_iload hx hb dX9_findEnds_105 (lv_at hl 6 rfl) ?_
        refine lv_iload hx hb dX9_findEnds_107 (lv_at hl 5 rfl) ?_
        refine lv_iadd hx hb dX9_findEnds_109 ?_
        refine lv_goto (tgt := 128) hx hb dX9_findEnds_110 (by decide) ?_
        exact J128 _ _ _ _ _ ho _ _ _ hW (lv_sub hl [1, 2, 3, 4, 5, 0, 6] rfl)
    unfold x9_findEnds_B56 at ho
    refine lv_iload hx hb dX9_findEnds_56 (lv_at hl 6 rfl) ?_
    refine lv_iload_n hx hb dX9_findEnds_58 rfl (lv_at hl 2 rfl) ?_
    refine lv_icmp_lt (tgt := 135) hx hb dX9_findEnds_59 (by decide) (fun c6 => ?_) (fun c6 => ?_)
    · replace ho := ite_t c6 ho
      cases ho
      cases hrun
      exact hK0 _ _ _ hW (lv_sub hl [0] rfl)
    · replace ho := ite_f c6 ho
      refine lv_aload_n hx hb dX9_findEnds_62 rfl (lv_at hl 0 rfl) ?_
      refine xGET_903 C0 kw_569 hW dX9_findEnds_63 ?_
      refine lv_iload hx hb dX9_findEnds_66 (lv_at hl 6 rfl) ?_
      obtain ⟨g7, ho⟩ := gd_some ho
      refine xLD_903 C0 hW g7 dX9_findEnds_68 ?_
      refine lv_iload_n hx hb dX9_findEnds_69 rfl (lv_at hl 3 rfl) ?_
      refine lv_ishr hx hb dX9_findEnds_70 ?_
      refine lv_iconst (v := (1 : Int32)) hx hb dX9_findEnds_71 (by decide) ?_
      refine lv_iand hx hb dX9_findEnds_72 ?_
      refine lv_if_ne (tgt := 83) hx hb dX9_findEnds_73 (by decide) (fun c8 => ?_) (fun c8 => ?_)
      · replace ho := ite_f c8 ho
        refine lv_iconst (v := (0 : Int32)) hx hb dX9_findEnds_83 (by decide) ?_
        exact J84 _ _ _ ho _ _ _ hW (lv_sub hl [0, 1, 2, 3, 4, 6] rfl)
      · replace ho := ite_t c8 ho
        refine lv_iload hx hb dX9_findEnds_76 (lv_at hl 5 rfl) ?_
        refine lv_iconst (v := (1 : Int32)) hx hb dX9_findEnds_78 (by decide) ?_
        refine lv_iadd hx hb dX9_findEnds_79 ?_
        refine lv_goto (tgt := 84) hx hb dX9_findEnds_80 (by decide) ?_
        exact J84 _ _ _ ho _ _ _ hW (lv_sub hl [0, 1, 2, 3, 4, 6] rfl)
set_option maxHeartbeats 4000000 in
set_option maxRecDepth 100000 in
theorem c_x9_findEnds (l : Launch) {D : va_G} {cI cJ cZ cR : ClassId} {am gm : Nat → Nat} {st : Nat} (sz : Nat) (t : St) (a1 : Int32) (a2 : Int32) {t' : St} (ho : x9_findEnds t a1 a2 = some t') : Met l yX9_findEnds (.code yX9_findEnds cX9_findEnds 7 none :: wsAll) (rmN 1 22) (va_Pc [.ref (am 2009), .int a1, .int a2] (prX D (tyX cI cJ cZ cR) (wX cI cJ cZ cR am gm t) sz st)) (qV D (tyX cI cJ cZ cR) (wX cI cJ cZ cR am gm t') (va_A (wX cI cJ cZ cR am gm t) sz)) 0 0 (va_A (wX cI cJ cZ cR am gm t) sz) := by
  refine Met.ofW (cc := cX9_findEnds) (maxL := 7) (ret := none) (by decide) rfl ?_
  intro p e s m args below meth c s₁ B hml hv
  obtain ⟨rfl, ⟨hsz, hP, hK, hD0⟩, hsx⟩ := hv
  have hx := B.exec
  have hb := B.bytes
  have hts := atoms_spec (ws := (.code yX9_findEnds cX9_findEnds 7 none :: wsAll)) B.pre
  have hta := fun w h => hts w (List.mem_cons_of_mem _ h)
  have hown : s.vm.findClass RX9 = some m.cls := findClass_of_methodNamed B.named
  have hlocks := B.notSynchronized
  subst hsz
  have hD := hD0.self (sz := s.heap.size)
  generalize hAe : va_A (wX cI cJ cZ cR am gm t) s.heap.size = A at hD ⊢
  have hA : ∀ q : Nat, s.heap.size ≤ q → A q := fun q h => by rw [← hAe]; exact Or.inr h
  have C0 : cxX p s m ([.ref (am 2009), .int a1, .int a2].toArray) meth c cX9_findEnds RX9 7 none D (tyX cI cJ cZ cR) st A := ⟨⟨hx, hb, B.returns, hml, hown, hta, hlocks, hK, hA⟩, by rw [← hAe]; exact hsx⟩
  have hW : wl D A s (wX cI cJ cZ cR am gm t) s.heap [] := ⟨hP, hD, va_S.rf⟩
  have hl := lv_entry [.ref (am 2009), .int a1, .int a2] (n := 7) (Nat.le_of_ble_eq_true rfl)
  rw [lg_entry_eq]
  generalize (lg_sl [.ref (am 2009), .int a1, .int a2] ++ List.replicate (7 - (lg_sl [.ref (am 2009), .int a1, .int a2]).length) Slot.unset).toArray = ls at hl ⊢
  have hl : lv_has ls 7 [(0, .ref (am 2009)), (1, .int a1), (2, .int a2)] := hl
  unfold x9_findEnds at ho
  refine lv_aload_n hx hb dX9_findEnds_0 rfl (lv_at hl 0 rfl) ?_
  refine xGET_900 C0 kw_565 hW dX9_findEnds_1 ?_
  refine lv_aload_n hx hb dX9_findEnds_4 rfl (lv_at hl 0 rfl) ?_
  refine xGET_904 C0 kw_570 hW dX9_findEnds_5 ?_
  refine lv_iload_n hx hb dX9_findEnds_8 rfl (lv_at hl 1 rfl) ?_
  obtain ⟨g9, ho⟩ := gd_some ho
  refine xLD_904 C0 hW g9 dX9_findEnds_9 ?_
  refine lv_iconst (v := (4 : Int32)) hx hb dX9_findEnds_10 (by decide) ?_
  obtain ⟨q10, hc11, ho⟩ := bd_some ho
  refine bkI C0.1 hW (runVX (As := [.int (gA t 904 (a1).toNatClampNeg), .int (4 : Int32)]) (rest := []) C0 hW (c_x5_get l _ t (gA t 904 (a1).toNatClampNeg) (4 : Int32) (r := q10) hc11) cb_X9_X5_get_44 5 5 rfl rfl rfl rfl rfl ⟨rfl, rfl⟩ ⟨Nat.le_of_ble_eq_true rfl, Nat.le_of_ble_eq_true rfl⟩ (Nat.le_of_ble_eq_true rfl) hl.1 dX9_findEnds_11 ⟨Nat.le_of_ble_eq_true rfl, Nat.le_of_ble_eq_true rfl⟩) (fun H locs hW => ?_)
  refine lv_istore_n (lv' := [(3, .int q10), (0, .ref (am 2009)), (1, .int a1), (2, .int a2)]) hx hb dX9_findEnds_14 rfl hl (by decide) rfl (fun ls hl => ?_)
  refine lv_aload_n hx hb dX9_findEnds_15 rfl (lv_at hl 1 rfl) ?_
  refine xGET_900 C0 kw_565 hW dX9_findEnds_16 ?_
  refine lv_aload_n hx hb dX9_findEnds_19 rfl (lv_at hl 1 rfl) ?_
  refine xGET_904 C0 kw_570 hW dX9_findEnds_20 ?_
  refine lv_iload_n hx hb dX9_findEnds_23 rfl (lv_at hl 2 rfl) ?_
  obtain ⟨g12, ho⟩ := gd_some ho
  refine xLD_904 C0 hW g12 dX9_findEnds_24 ?_
  refine lv_iconst (v := (1 : Int32)) hx hb dX9_findEnds_25 (by decide) ?_
  obtain ⟨q13, hc14, ho⟩ := bd_some ho
  refine bkI C0.1 hW (runVX (As := [.int (gA t 904 (a1).toNatClampNeg), .int (1 : Int32)]) (rest := []) C0 hW (c_x5_get l _ t (gA t 904 (a1).toNatClampNeg) (1 : Int32) (r := q13) hc14) cb_X9_X5_get_44 5 5 rfl rfl rfl rfl rfl ⟨rfl, rfl⟩ ⟨Nat.le_of_ble_eq_true rfl, Nat.le_of_ble_eq_true rfl⟩ (Nat.le_of_ble_eq_true rfl) hl.1 dX9_findEnds_26 ⟨Nat.le_of_ble_eq_true rfl, Nat.le_of_ble_eq_true rfl⟩) (fun H locs hW => ?_)
  refine lv_istore (lv' := [(4, .int q13), (3, .int q10), (0, .ref (am 2009)), (1, .int a1), (2, .int a2)]) hx hb dX9_findEnds_29 hl (by decide) rfl (fun ls hl => ?_)
  refine lv_iconst (v := (0 : Int32)) hx hb dX9_findEnds_31 (by decide) ?_
  refine lv_istore (lv' := [(5, .int (0 : Int32)), (4, .int q13), (3, .int q10), (0, .ref (am 2009)), (1, .int a1), (2, .int a2)]) hx hb dX9_findEnds_32 hl (by decide) rfl (fun ls hl => ?_)
  refine lv_aload_n hx hb dX9_findEnds_34 rfl (lv_at hl 3 rfl) ?_
  refine xGET_906 C0 kw_572 hW dX9_findEnds_35 ?_
  refine lv_iload_n hx hb dX9_findEnds_38 rfl (lv_at hl 4 rfl) ?_
  refine lv_sipush (v := (601 : Int32)) hx hb dX9_findEnds_39 (by decide) ?_
  refine lv_imul hx hb dX9_findEnds_42 ?_
  refine lv_sipush (v := (600 : Int32)) hx hb dX9_findEnds_43 (by decide) ?_
  refine lv_iadd hx hb dX9_findEnds_46 ?_
  refine lv_sipush (v := (601 : Int32)) hx hb dX9_findEnds_47 (by decide) ?_
  obtain ⟨g15, ho⟩ := gd_some ho
  refine xST_906 C0 hW g15 dX9_findEnds_50 (fun H locs hW => ?_)
  obtain ⟨t16, ho, hW⟩ := nm_w (P := fun t => wl D A s (wX cI cJ cZ cR am gm t) H locs) ho hW
  refine lv_sipush (v := (599 : Int32)) hx hb dX9_findEnds_51 (by decide) ?_
  refine lv_istore (lv' := [(6, .int (599 : Int32)), (5, .int (0 : Int32)), (4, .int q13), (3, .int q10), (0, .ref (am 2009)), (1, .int a1), (2, .int a2)]) hx hb dX9_findEnds_54 hl (by decide) rfl (fun ls hl => ?_)
  obtain ⟨y17, hc19, ho⟩ := bd_some ho
  obtain ⟨ny17, hc19⟩ := lp_to hc19
  refine x9_findEnds_L56 C0 ?_ ny17 _ _ _ hc19 _ _ _ hW (lv_sub hl [4, 5, 6, 3, 2, 1, 0] rfl)
  intro H locs ls hW hl
  cases ho
  exact rtV C0.1 hW dX9_findEnds_135
noncomputable def x9_lookRound_B18 (v2 : Int32) (v3 : Int32) (t : St) : Option ((Int32 × St) ⊕ (St)) :=
  if (3 : Int32) < v3 then (some (.inr t)) else ((x9_placeOf t v3 v2).bind (fun q2 => if q2 < 0 then (nm (v3 + (1 : Int32)) (fun x5 : Int32 => some (.inl (x5, t)))) else (gd v2 (gN t 903) (gd v2 (gN t 903) (nm (sA t 903 v2 ((gA t 903 (v2).toNatClampNeg) ||| ((1 : Int32) <<< (q2 &&& 31)))) (fun t8 : St => nm (v3 + (1 : Int32)) (fun x9 : Int32 => some (.inl (x9, t8)))))))))
theorem mm_x9_lookRound_B18 (v2 : Int32) (v3 : Int32) (t : St) : MR (x9_lookRound_B18 v2 v3 t) t (Sum.elim (fun (x : Int32 × St) => x.2) (fun (y : St) => y)) := by
  unfold x9_lookRound_B18
  exact MR_ite (MR_some mle.rfl) (MR_bindn (fun q2 => MR_ite (MR_nm (fun x5 _ => MR_some mle.rfl)) (MR_gd (MR_gd (MR_nmS mle_sA (fun t8 ht8 => MR_nm (fun x9 _ => MR_some ht8)))))))
theorem mm_x9_lookRound_L18 (v2 : Int32) (v3 : Int32) (t : St) : MR (lp (fun x => x9_lookRound_B18 v2 x.1 x.2) (v3, t)) t (fun (y : St) => y) := MR_lp (p := (fun (x : Int32 × St) => x.2)) (q := (fun (y : St) => y)) (fun x => mm_x9_lookRound_B18 v2 x.1 x.2) (v3, t)
noncomputable def x9_lookRound_B2 (v2 : Int32) (t : St) : Option ((Int32 × St) ⊕ (St)) :=
  if (600 : Int32) ≤ v2 then (some (.inr t)) else (gd v2 (gN t 903) (nm (sA t 903 v2 (0 : Int32)) (fun t12 : St => (lp (fun x => x9_lookRound_B18 v2 x.1 x.2) ((0 : Int32), t12)).bind (fun y13 => nm (v2 + (1 : Int32)) (fun x16 : Int32 => some (.inl (x16, y13)))))))
theorem mm_x9_lookRound_B2 (v2 : Int32) (t : St) : MR (x9_lookRound_B2 v2 t) t (Sum.elim (fun (x : Int32 × St) => x.2) (fun (y : St) => y)) := by
  unfold x9_lookRound_B2
  exact MR_ite (MR_some mle.rfl) (MR_gd (MR_nmS mle_sA (fun t12 ht12 => MR_bind (mm_x9_lookRound_L18 v2 (0 : Int32) t12) (fun y13 hm14 => MR_nm (fun x16 _ => MR_some (mle.trans ht12 hm14))))))
theorem mm_x9_lookRound_L2 (v2 : Int32) (t : St) : MR (lp (fun x => x9_lookRound_B2 x.1 x.2) (v2, t)) t (fun (y : St) => y) := MR_lp (p := (fun (x : Int32 × St) => x.2)) (q := (fun (y : St) => y)) (fun x => mm_x9_lookRound_B2 x.1 x.2) (v2, t)
noncomputable def x9_lookRound (t : St) (a1 : Int32) : Option (St) :=
  (lp (fun x => x9_lookRound_B2 x.1 x.2) (a1, t)).bind (fun y17 => some y17)
theorem mm_x9_lookRound (t : St) (a1 : Int32) : MR (x9_lookRound t a1) t (fun (a : St) => a) := by
  unfold x9_lookRound
  exact MR_bind (mm_x9_lookRound_L2 a1 t) (fun y17 hm18 => MR_some hm18)
set_option maxHeartbeats 4000000 in
set_option maxRecDepth 100000 in
theorem x9_lookRound_L18 {p : Program} {l : Launch} {e : Env} {s : State} {m : MethodId} {args : Array Value} {below : List Frame} {meth : Method} {c : Code} {Q : State → Prop} {D : va_G} {cI cJ cZ cR : ClassId} {am gm : Nat → Nat} {st : Nat} {A : Nat → Prop} (C0 : cxX p s m args meth c cX9_lookRound RX9 5 none D (tyX cI cJ cZ cR) st A) {v2 : Int32} {y : St} (hK0 : ∀ (H : Heap) (locs : List Loc) (ls : Array Slot), wl D A s (wX cI cJ cZ cR am gm y) H locs → lv_has ls 5 [(0, .ref (am 2009)), (2, .int v2)] → W p l e (rmN 1 22) s m args below meth c H locs 0 0 Q (F0 m 55 ls [])) :
    ∀ (n : Nat) (v3 : Int32) (t : St), lpn (fun x => x9_lookRound_B18 v2 x.1 x.2) n (v3, t) = some y → ∀ (H : Heap) (locs : List Loc) (ls : Array Slot), wl D A s (wX cI cJ cZ cR am gm t) H locs → lv_has ls 5 [(0, .ref (am 2009)), (2, .int v2), (3, .int v3)] → W p l e (rmN 1 22) s m args below meth c H locs 0 0 Q (F0 m 18 ls []) := by
  have hx := C0.1.1
  have hb := C0.1.2.1
  have hta := C0.1.2.2.2.2.2.1
  have hown := C0.1.2.2.2.2.1
  intro n
  induction n with
  | zero => intro _ _ h; cases h
  | succ n ih =>
    intro v3 t hrun H locs ls hW hl
    obtain ⟨o, ho, hrun⟩ := bd_some hrun
    unfold x9_lookRound_B18 at ho
    refine lv_iload_n hx hb dX9_lookRound_18 rfl (lv_at hl 2 rfl) ?_
    refine lv_iconst (v := (3 : Int32)) hx hb dX9_lookRound_19 (by decide) ?_
    refine lv_icmp_gt (tgt := 55) hx hb dX9_lookRound_20 (by decide) (fun c1 => ?_) (fun c1 => ?_)
    · replace ho := ite_t c1 ho
      cases ho
      cases hrun
      exact hK0 _ _ _ hW (lv_sub hl [0, 1] rfl)
    · replace ho := ite_f c1 ho
      refine lv_aload_n hx hb dX9_lookRound_23 rfl (lv_at hl 0 rfl) ?_
      refine lv_iload_n hx hb dX9_lookRound_24 rfl (lv_at hl 2 rfl) ?_
      refine lv_iload_n hx hb dX9_lookRound_25 rfl (lv_at hl 1 rfl) ?_
      obtain ⟨q2, hc3, ho⟩ := bd_some ho
      refine bkI C0.1 hW (runVX (As := [.int v3, .int v2]) (rest := []) C0 hW (c_x9_placeOf l _ t v3 v2 (r := q2) hc3) cb_X9_X9_placeOf_38 9 9 rfl rfl rfl rfl rfl ⟨rfl, rfl⟩ ⟨Nat.le_of_ble_eq_true rfl, Nat.le_of_ble_eq_true rfl⟩ (Nat.le_of_ble_eq_true rfl) hl.1 dX9_lookRound_26 ⟨Nat.le_of_ble_eq_true rfl, Nat.le_of_ble_eq_true rfl⟩) (fun H locs hW => ?_)
      refine lv_istore (lv' := [(4, .int q2), (0, .ref (am 2009)), (2, .int v2), (3, .int v3)]) hx hb dX9_lookRound_29 hl (by decide) rfl (fun ls hl => ?_)
      refine lv_iload hx hb dX9_lookRound_31 (lv_at hl 0 rfl) ?_
      refine lv_if_lt (tgt := 49) hx hb dX9_lookRound_33 (by decide) (fun c4 => ?_) (fun c4 => ?_)
      · replace ho := ite_t c4 ho
        obtain ⟨x5, ex5, ho⟩ := nm_x ho
        refine lv_iinc (v := x5) (lv' := [(3, .int x5), (4, .int q2), (0, .ref (am 2009)), (2, .int v2)]) hx hb dX9_lookRound_49 hl (k := 3) rfl (by rw [ex5]; rfl) (by decide) rfl (fun ls hl => ?_)
        clear ex5
        refine lv_goto (tgt := 18) hx hb dX9_lookRound_52 (by decide) ?_
        cases ho
        exact ih _ _ hrun _ _ _ hW (lv_sub hl [2, 3, 0] rfl)
      · replace ho := ite_f c4 ho
        refine lv_aload_n hx hb dX9_lookRound_36 rfl (lv_at hl 1 rfl) ?_
        refine xGET_903 C0 kw_569 hW dX9_lookRound_37 ?_
        refine lv_iload_n hx hb dX9_lookRound_40 rfl (lv_at hl 2 rfl) ?_
        refine lv_dup2_11 hx hb dX9_lookRound_41 rfl rfl ?_
        obtain ⟨g6, ho⟩ := gd_some ho
        refine xLD_903 C0 hW g6 dX9_lookRound_42 ?_
        refine lv_iconst (v := (1 : Int32)) hx hb dX9_lookRound_43 (by decide) ?_
        refine lv_iload hx hb dX9_lookRound_44 (lv_at hl 0 rfl) ?_
        refine lv_ishl hx hb dX9_lookRound_46 ?_
        refine lv_ior hx hb dX9_lookRound_47 ?_
        obtain ⟨g7, ho⟩ := gd_some ho
        refine xST_903 C0 hW g7 dX9_lookRound_48 (fun H locs hW => ?_)
        obtain ⟨t8, ho, hW⟩ := nm_w (P := fun t => wl D A s (wX cI cJ cZ cR am gm t) H locs) ho hW
        obtain ⟨x9, ex9, ho⟩ := nm_x ho
        refine lv_iinc (v := x9) (lv' := [(3, .int x9), (4, .int q2), (0, .ref (am 2009)), (2, .int v2)]) hx hb dX9_lookRound_49 hl (k := 3) rfl (by rw [ex9]; rfl) (by decide) rfl (fun ls hl => ?_)
        clear ex9
        refine lv_goto (tgt := 18) hx hb dX9_lookRound_52 (by decide) ?_
        cases ho
        exact ih _ _ hrun _ _ _ hW (lv_sub hl [2, 3, 0] rfl)
set_option maxHeartbeats 4000000 in
set_option maxRecDepth 100000 in
theorem x9_lookRound_L2 {p : Program} {l : Launch} {e : Env} {s : State} {m : MethodId} {args : Array Value} {below : List Frame} {meth : Method} {c : Code} {Q : State → Prop} {D : va_G} {cI cJ cZ cR : ClassId} {am gm : Nat → Nat} {st : Nat} {A : Nat → Prop} (C0 : cxX p s m args meth c cX9_lookRound RX9 5 none D (tyX cI cJ cZ cR) st A) {y : St} (hK0 : ∀ (H : Heap) (locs : List Loc) (ls : Array Slot), wl D A s (wX cI cJ cZ cR am gm y) H locs → lv_has ls 5 [(0, .ref (am 2009))] → W p l e (rmN 1 22) s m args below meth c H locs 0 0 Q (F0 m 61 ls [])) :
    ∀ (n : Nat) (v2 : Int32) (t : St), lpn (fun x => x9_lookRound_B2 x.1 x.2) n (v2, t) = some y → ∀ (H : Heap) (locs : List Loc) (ls : Array Slot), wl D A s (wX cI cJ cZ cR am gm t) H locs → lv_has ls 5 [(0, .ref (am 2009)), (2, .int v2)] → W p l e (rmN 1 22) s m args below meth c H locs 0 0 Q (F0 m 2 ls []) := by
  have hx := C0.1.1
  have hb := C0.1.2.1
  have hta := C0.1.2.2.2.2.2.1
  have hown := C0.1.2.2.2.2.1
  intro n
  induction n with
  | zero => intro _ _ h; cases h
  | succ n ih =>
    intro v2 t hrun H locs ls hW hl
    obtain ⟨o, ho, hrun⟩ := bd_some hrun
    unfold x9_lookRound_B2 at ho
    refine lv_iload_n hx hb dX9_lookRound_2 rfl (lv_at hl 1 rfl) ?_
    refine lv_sipush (v := (600 : Int32)) hx hb dX9_lookRound_3 (by decide) ?_
    refine lv_icmp_ge (tgt := 61) hx hb dX9_lookRound_6 (by decide) (fun c10 => ?_) (fun c10 => ?_)
    · replace ho := ite_t c10 ho
      cases ho
      cases hrun
      exact hK0 _ _ _ hW (lv_sub hl [0] rfl)
    · replace ho := ite_f c10 ho
      refine lv_aload_n hx hb dX9_lookRound_9 rfl (lv_at hl 0 rfl) ?_
      refine xGET_903 C0 kw_569 hW dX9_lookRound_10 ?_
      refine lv_iload_n hx hb dX9_lookRound_13 rfl (lv_at hl 1 rfl) ?_
      refine lv_iconst (v := (0 : Int32)) hx hb dX9_lookRound_14 (by decide) ?_
      obtain ⟨g11, ho⟩ := gd_some ho
      refine xST_903 C0 hW g11 dX9_lookRound_15 (fun H locs hW => ?_)
      obtain ⟨t12, ho, hW⟩ := nm_w (P := fun t => wl D A s (wX cI cJ cZ cR am gm t) H locs) ho hW
      refine lv_iconst (v := (0 : Int32)) hx hb dX9_lookRound_16 (by decide) ?_
      refine lv_istore_n (lv' := [(3, .int (0 : Int32)), (0, .ref (am 2009)), (2, .int v2)]) hx hb dX9_lookRound_17 rfl hl (by decide) rfl (fun ls hl => ?_)
      obtain ⟨y13, hc15, ho⟩ := bd_some ho
      obtain ⟨ny13, hc15⟩ := lp_to hc15
      refine x9_lookRound_L18 C0 ?_ ny13 _ _ hc15 _ _ _ hW (lv_sub hl [1, 2, 0] rfl)
      intro H locs ls hW hl
      obtain ⟨x16, ex16, ho⟩ := nm_x ho
      refine lv_iinc (v := x16) (lv' := [(2, .int x16), (0, .ref (am 2009))]) hx hb dX9_lookRound_55 hl (k := 1) rfl (by rw [ex16]; rfl) (by decide) rfl (fun ls hl => ?_)
      clear ex16
      refine lv_goto (tgt := 2) hx hb dX9_lookRound_58 (by decide) ?_
      cases ho
      exact ih _ _ hrun _ _ _ hW (lv_sub hl [1, 0] rfl)
set_option maxHeartbeats 4000000 in
set_option maxRecDepth 100000 in
theorem c_x9_lookRound (l : Launch) {D : va_G} {cI cJ cZ cR : ClassId} {am gm : Nat → Nat} {st : Nat} (sz : Nat) (t : St) (a1 : Int32) {t' : St} (ho : x9_lookRound t a1 = some t') : Met l yX9_lookRound (.code yX9_lookRound cX9_lookRound 5 none :: wsAll) (rmN 1 22) (va_Pc [.ref (am 2009), .int a1] (prX D (tyX cI cJ cZ cR) (wX cI cJ cZ cR am gm t) sz st)) (qV D (tyX cI cJ cZ cR) (wX cI cJ cZ cR am gm t') (va_A (wX cI cJ cZ cR am gm t) sz)) 0 0 (va_A (wX cI cJ cZ cR am gm t) sz) := by
  refine Met.ofW (cc := cX9_lookRound) (maxL := 5) (ret := none) (by decide) rfl ?_
  intro p e s m args below meth c s₁ B hml hv
  obtain ⟨rfl, ⟨hsz, hP, hK, hD0⟩, hsx⟩ := hv
  have hx := B.exec
  have hb := B.bytes
  have hts := atoms_spec (ws := (.code yX9_lookRound cX9_lookRound 5 none :: wsAll)) B.pre
  have hta := fun w h => hts w (List.mem_cons_of_mem _ h)
  have hown : s.vm.findClass RX9 = some m.cls := findClass_of_methodNamed B.named
  have hlocks := B.notSynchronized
  subst hsz
  have hD := hD0.self (sz := s.heap.size)
  generalize hAe : va_A (wX cI cJ cZ cR am gm t) s.heap.size = A at hD ⊢
  have hA : ∀ q : Nat, s.heap.size ≤ q → A q := fun q h => by rw [← hAe]; exact Or.inr h
  have C0 : cxX p s m ([.ref (am 2009), .int a1].toArray) meth c cX9_lookRound RX9 5 none D (tyX cI cJ cZ cR) st A := ⟨⟨hx, hb, B.returns, hml, hown, hta, hlocks, hK, hA⟩, by rw [← hAe]; exact hsx⟩
  have hW : wl D A s (wX cI cJ cZ cR am gm t) s.heap [] := ⟨hP, hD, va_S.rf⟩
  have hl := lv_entry [.ref (am 2009), .int a1] (n := 5) (Nat.le_of_ble_eq_true rfl)
  rw [lg_entry_eq]
  generalize (lg_sl [.ref (am 2009), .int a1] ++ List.replicate (5 - (lg_sl [.ref (am 2009), .int a1]).length) Slot.unset).toArray = ls at hl ⊢
  have hl : lv_has ls 5 [(0, .ref (am 2009)), (1, .int a1)] := hl
  unfold x9_lookRound at ho
  refine lv_iload_n hx hb dX9_lookRound_0 rfl (lv_at hl 1 rfl) ?_
  refine lv_istore_n (lv' := [(2, .int a1), (0, .ref (am 2009)), (1, .int a1)]) hx hb dX9_lookRound_1 rfl hl (by decide) rfl (fun ls hl => ?_)
  obtain ⟨y17, hc19, ho⟩ := bd_some ho
  obtain ⟨ny17, hc19⟩ := lp_to hc19
  refine x9_lookRound_L2 C0 ?_ ny17 _ _ hc19 _ _ _ hW (lv_sub hl [1, 0] rfl)
  intro H locs ls hW hl
  cases ho
  exact rtV C0.1 hW dX9_lookRound_61
noncomputable def x9_prepare_B90 (v2 : Int32) (v3 : Int32) (t : St) : Option ((Int32 × St) ⊕ (St)) :=
  if (gI t 905) ≤ v3 then (some (.inr t)) else ((x9_findEnds t v3 v2).bind (fun q2 => nm (v3 + (1 : Int32)) (fun x4 : Int32 => some (.inl (x4, q2)))))
theorem mm_x9_prepare_B90 (v2 : Int32) (v3 : Int32) (t : St) : MR (x9_prepare_B90 v2 v3 t) t (Sum.elim (fun (x : Int32 × St) => x.2) (fun (y : St) => y)) := by
  unfold x9_prepare_B90
  exact MR_ite (MR_some mle.rfl) (MR_bind (mm_x9_findEnds t v3 v2) (fun q2 hq2 => MR_nm (fun x4 _ => MR_some hq2)))
theorem mm_x9_prepare_L90 (v2 : Int32) (v3 : Int32) (t : St) : MR (lp (fun x => x9_prepare_B90 v2 x.1 x.2) (v3, t)) t (fun (y : St) => y) := MR_lp (p := (fun (x : Int32 × St) => x.2)) (q := (fun (y : St) => y)) (fun x => mm_x9_prepare_B90 v2 x.1 x.2) (v3, t)
noncomputable def x9_prepare_B7 (v1 : Int32) (v2 : Int32) (v3 : Int32) (t : St) : Option ((Int32 × St) ⊕ (St)) :=
  if (16 : Int32) ≤ v3 then (some (.inr t)) else (if (7 : Int32) ≤ (gI t 905) then (some (.inr t)) else (if ((v1 >>> (v3 &&& 31)) &&& (1 : Int32)) = (1 : Int32) then (gd (gI t 905) (gN t 904) (nm (sA t 904 (gI t 905) v3) (fun t10 : St => nm (sI t10 905 ((gI t10 905) + (1 : Int32))) (fun t11 : St => nm (v3 + (1 : Int32)) (fun x12 : Int32 => some (.inl (x12, t11))))))) else (nm (v3 + (1 : Int32)) (fun x8 : Int32 => some (.inl (x8, t))))))
theorem mm_x9_prepare_B7 (v1 : Int32) (v2 : Int32) (v3 : Int32) (t : St) : MR (x9_prepare_B7 v1 v2 v3 t) t (Sum.elim (fun (x : Int32 × St) => x.2) (fun (y : St) => y)) := by
  unfold x9_prepare_B7
  exact MR_ite (MR_some mle.rfl) (MR_ite (MR_some mle.rfl) (MR_ite (MR_gd (MR_nmS mle_sA (fun t10 ht10 => MR_nmS mle_sI (fun t11 ht11 => MR_nm (fun x12 _ => MR_some (mle.trans ht10 ht11)))))) (MR_nm (fun x8 _ => MR_some mle.rfl))))
theorem mm_x9_prepare_L7 (v1 : Int32) (v2 : Int32) (v3 : Int32) (t : St) : MR (lp (fun x => x9_prepare_B7 v1 v2 x.1 x.2) (v3, t)) t (fun (y : St) => y) := MR_lp (p := (fun (x : Int32 × St) => x.2)) (q := (fun (y : St) => y)) (fun x => mm_x9_prepare_B7 v1 v2 x.1 x.2) (v3, t)
noncomputable def x9_prepare_J88 (t : St) (v2 : Int32) : Option (St) :=
  (lp (fun x => x9_prepare_B90 v2 x.1 x.2) ((0 : Int32), t)).bind (fun y13 => some y13)
theorem mm_x9_prepare_J88 (t : St) (v2 : Int32) : MR (x9_prepare_J88 t v2) t (fun (a : St) => a) := by
  unfold x9_prepare_J88
  exact MR_bind (mm_x9_prepare_L90 v2 (0 : Int32) t) (fun y13 hm14 => MR_some hm14)
noncomputable def x9_prepare_J76 (t : St) (v2 : Int32) : Option (St) :=
  if (gI t 905) ≤ 0 then (x9_prepare_J88 t v2) else ((x9_lookRound t v2).bind (fun q17 => x9_prepare_J88 q17 v2))
theorem mm_x9_prepare_J76 (t : St) (v2 : Int32) : MR (x9_prepare_J76 t v2) t (fun (a : St) => a) := by
  unfold x9_prepare_J76
  exact MR_ite (MR_wk mle.rfl (mm_x9_prepare_J88 t v2)) (MR_bind (mm_x9_lookRound t v2) (fun q17 hq17 => MR_wk hq17 (mm_x9_prepare_J88 q17 v2)))
noncomputable def x9_prepare (t0 : St) (a1 : Int32) (a2 : Int32) : Option (St) :=
  nm (sI t0 905 (0 : Int32)) (fun t19 : St => (lp (fun x => x9_prepare_B7 a1 a2 x.1 x.2) ((0 : Int32), t19)).bind (fun y20 => grw y20 906 ((gI y20 905) * (601 : Int32)) (fun t23 : St => x9_prepare_J76 t23 a2)))
theorem mm_x9_prepare (t0 : St) (a1 : Int32) (a2 : Int32) : MR (x9_prepare t0 a1 a2) t0 (fun (a : St) => a) := by
  unfold x9_prepare
  exact MR_nmS mle_sI (fun t19 ht19 => MR_bind (mm_x9_prepare_L7 a1 a2 (0 : Int32) t19) (fun y20 hm21 => MR_grw (fun t23 ht23 => MR_wk (mle.trans (mle.trans ht19 hm21) ht23) (mm_x9_prepare_J76 t23 a2))))
set_option maxHeartbeats 4000000 in
set_option maxRecDepth 100000 in
theorem x9_prepare_L90 {p : Program} {l : Launch} {e : Env} {s : State} {m : MethodId} {args : Array Value} {below : List Frame} {meth : Method} {c : Code} {Q : State → Prop} {D : va_G} {cI cJ cZ cR : ClassId} {am gm : Nat → Nat} {st : Nat} {A : Nat → Prop} (C0 : cxX p s m args meth c cX9_prepare RX9 4 none D (tyX cI cJ cZ cR) st A) {t0 t' : St} {cells slots : Nat} (hR : cells ≤ mC t0 t' ∧ slots ≤ mS t0 t') {v2 : Int32} {y : St} (hK0 : ∀ (H : Heap) (locs : List Loc) (ls : Array Slot), wl D A s (wX cI cJ cZ cR am gm y) H locs → lv_has ls 4 [(0, .ref (am 2009))] → W p l e (rmA 2 48 t0 t') s m args below meth c H locs cells slots Q (F0 m 110 ls [])) :
    ∀ (n : Nat) (v3 : Int32) (t : St), lpn (fun x => x9_prepare_B90 v2 x.1 x.2) n (v3, t) = some y → ∀ (H : Heap) (locs : List Loc) (ls : Array Slot), wl D A s (wX cI cJ cZ cR am gm t) H locs → lv_has ls 4 [(0, .ref (am 2009)), (2, .int v2), (3, .int v3)] → W p l e (rmA 2 48 t0 t') s m args below meth c H locs cells slots Q (F0 m 90 ls []) := by
  have hx := C0.1.1
  have hb := C0.1.2.1
  have hta := C0.1.2.2.2.2.2.1
  have hown := C0.1.2.2.2.2.1
  intro n
  induction n with
  | zero => intro _ _ h; cases h
  | succ n ih =>
    intro v3 t hrun H locs ls hW hl
    obtain ⟨o, ho, hrun⟩ := bd_some hrun
    unfold x9_prepare_B90 at ho
    refine lv_iload_n hx hb dX9_prepare_90 rfl (lv_at hl 2 rfl) ?_
    refine lv_aload_n hx hb dX9_prepare_91 rfl (lv_at hl 0 rfl) ?_
    refine xGET_905 C0 kw_571 hW dX9_prepare_92 ?_
    refine lv_icmp_ge (tgt := 110) hx hb dX9_prepare_95 (by decide) (fun c1 => ?_) (fun c1 => ?_)
    · replace ho := ite_t c1 ho
      cases ho
      cases hrun
      exact hK0 _ _ _ hW (lv_sub hl [0] rfl)
    · replace ho := ite_f c1 ho
      refine lv_aload_n hx hb dX9_prepare_98 rfl (lv_at hl 0 rfl) ?_
      refine lv_iload_n hx hb dX9_prepare_99 rfl (lv_at hl 2 rfl) ?_
      refine lv_iload_n hx hb dX9_prepare_100 rfl (lv_at hl 1 rfl) ?_
      obtain ⟨q2, hc3, ho⟩ := bd_some ho
      have hq2 := mm_x9_findEnds t v3 v2 _ hc3
      refine bkV C0.1 hW (runVX (As := [.int v3, .int v2]) (rest := []) C0 hW (c_x9_findEnds l _ t v3 v2 (t' := q2) hc3) cb_X9_X9_findEnds_76 9 9 rfl rfl rfl rfl rfl ⟨rfl, rfl⟩ ⟨Nat.le_of_ble_eq_true rfl, Nat.le_of_ble_eq_true rfl⟩ (Nat.le_of_ble_eq_true rfl) hl.1 dX9_prepare_101 ⟨hR.1, hR.2⟩) (fun H locs hW => ?_)
      obtain ⟨x4, ex4, ho⟩ := nm_x ho
      refine lv_iinc (v := x4) (lv' := [(3, .int x4), (0, .ref (am 2009)), (2, .int v2)]) hx hb dX9_prepare_104 hl (k := 2) rfl (by rw [ex4]; rfl) (by decide) rfl (fun ls hl => ?_)
      clear ex4
      refine lv_goto (tgt := 90) hx hb dX9_prepare_107 (by decide) ?_
      cases ho
      exact ih _ _ hrun _ _ _ hW (lv_sub hl [1, 2, 0] rfl)
set_option maxHeartbeats 4000000 in
set_option maxRecDepth 100000 in
theorem x9_prepare_L7 {p : Program} {l : Launch} {e : Env} {s : State} {m : MethodId} {args : Array Value} {below : List Frame} {meth : Method} {c : Code} {Q : State → Prop} {D : va_G} {cI cJ cZ cR : ClassId} {am gm : Nat → Nat} {st : Nat} {A : Nat → Prop} (C0 : cxX p s m args meth c cX9_prepare RX9 4 none D (tyX cI cJ cZ cR) st A) {t0 t' : St} {cells slots : Nat} (hR : cells ≤ mC t0 t' ∧ slots ≤ mS t0 t') {v1 : Int32} {v2 : Int32} {y : St} (hK0 : ∀ (H : Heap) (locs : List Loc) (ls : Array Slot), wl D A s (wX cI cJ cZ cR am gm y) H locs → lv_has ls 4 [(0, .ref (am 2009)), (2, .int v2)] → W p l e (rmA 2 48 t0 t') s m args below meth c H locs cells slots Q (F0 m 57 ls [])) :
    ∀ (n : Nat) (v3 : Int32) (t : St), lpn (fun x => x9_prepare_B7 v1 v2 x.1 x.2) n (v3, t) = some y → ∀ (H : Heap) (locs : List Loc) (ls : Array Slot), wl D A s (wX cI cJ cZ cR am gm t) H locs → lv_has ls 4 [(0, .ref (am 2009)), (1, .int v1), (2, .int v2), (3, .int v3)] → W p l e (rmA 2 48 t0 t') s m args below meth c H locs cells slots Q (F0 m 7 ls []) := by
  have hx := C0.1.1
  have hb := C0.1.2.1
  have hta := C0.1.2.2.2.2.2.1
  have hown := C0.1.2.2.2.2.1
  intro n
  induction n with
  | zero => intro _ _ h; cases h
  | succ n ih =>
    intro v3 t hrun H locs ls hW hl
    obtain ⟨o, ho, hrun⟩ := bd_some hrun
    unfold x9_prepare_B7 at ho
    refine lv_iload_n hx hb dX9_prepare_7 rfl (lv_at hl 3 rfl) ?_
    refine lv_bipush (v := (16 : Int32)) hx hb dX9_prepare_8 (by decide) ?_
    refine lv_icmp_ge (tgt := 57) hx hb dX9_prepare_10 (by decide) (fun c5 => ?_) (fun c5 => ?_)
    · replace ho := ite_t c5 ho
      cases ho
      cases hrun
      exact hK0 _ _ _ hW (lv_sub hl [0, 2] rfl)
    · replace ho := ite_f c5 ho
      refine lv_aload_n hx hb dX9_prepare_13 rfl (lv_at hl 0 rfl) ?_
      refine xGET_905 C0 kw_571 hW dX9_prepare_14 ?_
      refine lv_bipush (v := (7 : Int32)) hx hb dX9_prepare_17 (by decide) ?_
      refine lv_icmp_ge (tgt := 57) hx hb dX9_prepare_19 (by decide) (fun c6 => ?_) (fun c6 => ?_)
      · replace ho := ite_t c6 ho
        cases ho
        cases hrun
        exact hK0 _ _ _ hW (lv_sub hl [0, 2] rfl)
      · replace ho := ite_f c6 ho
        refine lv_iload_n hx hb dX9_prepare_22 rfl (lv_at hl 1 rfl) ?_
        refine lv_iload_n hx hb dX9_prepare_23 rfl (lv_at hl 3 rfl) ?_
        refine lv_ishr hx hb dX9_prepare_24 ?_
        refine lv_iconst (v := (1 : Int32)) hx hb dX9_prepare_25 (by decide) ?_
        refine lv_iand hx hb dX9_prepare_26 ?_
        refine lv_iconst (v := (1 : Int32)) hx hb dX9_prepare_27 (by decide) ?_
        refine lv_icmp_ne (tgt := 51) hx hb dX9_prepare_28 (by decide) (fun c7 => ?_) (fun c7 => ?_)
        · replace ho := ite_f c7 ho
          obtain ⟨x8, ex8, ho⟩ := nm_x ho
          refine lv_iinc (v := x8) (lv' := [(3, .int x8), (0, .ref (am 2009)), (1, .int v1), (2, .int v2)]) hx hb dX9_prepare_51 hl (k := 3) rfl (by rw [ex8]; rfl) (by decide) rfl (fun ls hl => ?_)
          clear ex8
          refine lv_goto (tgt := 7) hx hb dX9_prepare_54 (by decide) ?_
          cases ho
          exact ih _ _ hrun _ _ _ hW (lv_sub hl [1, 2, 3, 0] rfl)
        · replace ho := ite_t c7 ho
          refine lv_aload_n hx hb dX9_prepare_31 rfl (lv_at hl 0 rfl) ?_
          refine xGET_904 C0 kw_570 hW dX9_prepare_32 ?_
          refine lv_aload_n hx hb dX9_prepare_35 rfl (lv_at hl 0 rfl) ?_
          refine xGET_905 C0 kw_571 hW dX9_prepare_36 ?_
          refine lv_iload_n hx hb dX9_prepare_39 rfl (lv_at hl 3 rfl) ?_
          obtain ⟨g9, ho⟩ := gd_some ho
          refine xST_904 C0 hW g9 dX9_prepare_40 (fun H locs hW => ?_)
          obtain ⟨t10, ht10, ho, hW⟩ := nm_wm (P := fun t => wl D A s (wX cI cJ cZ cR am gm t) H locs) mle_sA ho hW
          refine lv_aload_n hx hb dX9_prepare_41 rfl (lv_at hl 0 rfl) ?_
          refine lv_dup hx hb dX9_prepare_42 rfl ?_
          refine xGET_905 C0 kw_571 hW dX9_prepare_43 ?_
          refine lv_iconst (v := (1 : Int32)) hx hb dX9_prepare_46 (by decide) ?_
          refine lv_iadd hx hb dX9_prepare_47 ?_
          refine xPUT_905 C0 kw_571 hW dX9_prepare_48 (fun H locs hW => ?_)
          obtain ⟨t11, ht11, ho, hW⟩ := nm_wm (P := fun t => wl D A s (wX cI cJ cZ cR am gm t) H locs) mle_sI ho hW
          obtain ⟨x12, ex12, ho⟩ := nm_x ho
          refine lv_iinc (v := x12) (lv' := [(3, .int x12), (0, .ref (am 2009)), (1, .int v1), (2, .int v2)]) hx hb dX9_prepare_51 hl (k := 3) rfl (by rw [ex12]; rfl) (by decide) rfl (fun ls hl => ?_)
          clear ex12
          refine lv_goto (tgt := 7) hx hb dX9_prepare_54 (by decide) ?_
          cases ho
          exact ih _ _ hrun _ _ _ hW (lv_sub hl [1, 2, 3, 0] rfl)
set_option maxHeartbeats 4000000 in
set_option maxRecDepth 100000 in
theorem c_x9_prepare (l : Launch) {D : va_G} {cI cJ cZ cR : ClassId} {am gm : Nat → Nat} {st : Nat} (sz : Nat) (t0 : St) (a1 : Int32) (a2 : Int32) {t' : St} (ho : x9_prepare t0 a1 a2 = some t') : Met l yX9_prepare (.code yX9_prepare cX9_prepare 4 none :: wsAll) (rmA 2 48 t0 t') (va_Pc [.ref (am 2009), .int a1, .int a2] (prX D (tyX cI cJ cZ cR) (wX cI cJ cZ cR am gm t0) sz st)) (qVa D (tyX cI cJ cZ cR) (fun gm => wX cI cJ cZ cR am gm t') (va_A (wX cI cJ cZ cR am gm t0) sz)) (mC t0 t') (mS t0 t') (va_A (wX cI cJ cZ cR am gm t0) sz) := by
  refine Met.ofW (cc := cX9_prepare) (maxL := 4) (ret := none) (by decide) rfl ?_
  intro p e s m args below meth c s₁ B hml hv
  obtain ⟨rfl, ⟨hsz, hP, hK, hD0⟩, hsx⟩ := hv
  have hx := B.exec
  have hb := B.bytes
  have hts := atoms_spec (ws := (.code yX9_prepare cX9_prepare 4 none :: wsAll)) B.pre
  have hta := fun w h => hts w (List.mem_cons_of_mem _ h)
  have hown : s.vm.findClass RX9 = some m.cls := findClass_of_methodNamed B.named
  have hlocks := B.notSynchronized
  subst hsz
  have hD := hD0.self (sz := s.heap.size)
  generalize hAe : va_A (wX cI cJ cZ cR am gm t0) s.heap.size = A at hD ⊢
  have hA : ∀ q : Nat, s.heap.size ≤ q → A q := fun q h => by rw [← hAe]; exact Or.inr h
  have C0 : cxX p s m ([.ref (am 2009), .int a1, .int a2].toArray) meth c cX9_prepare RX9 4 none D (tyX cI cJ cZ cR) st A := ⟨⟨hx, hb, B.returns, hml, hown, hta, hlocks, hK, hA⟩, by rw [← hAe]; exact hsx⟩
  have hW : wl D A s (wX cI cJ cZ cR am gm t0) s.heap [] := ⟨hP, hD, va_S.rf⟩
  have hl := lv_entry [.ref (am 2009), .int a1, .int a2] (n := 4) (Nat.le_of_ble_eq_true rfl)
  rw [lg_entry_eq]
  generalize (lg_sl [.ref (am 2009), .int a1, .int a2] ++ List.replicate (4 - (lg_sl [.ref (am 2009), .int a1, .int a2]).length) Slot.unset).toArray = ls at hl ⊢
  have hl : lv_has ls 4 [(0, .ref (am 2009)), (1, .int a1), (2, .int a2)] := hl
  clear hAe hD hP hD0 hts
  have J88 : ∀ (gm : Nat → Nat) (t : St) (v2 : Int32) (_ : x9_prepare_J88 t v2 = some t') (_ : mle t0 t) (H : Heap) (locs : List Loc) (ls : Array Slot), wl D A s (wX cI cJ cZ cR am gm t) H locs → lv_has ls 4 [(0, .ref (am 2009)), (2, .int v2)] → W p l e (rmA 2 48 t0 t') s m ([.ref (am 2009), .int a1, .int a2].toArray) below meth c H locs (mC t0 t) (mS t0 t) (MQ below (qVa D (tyX cI cJ cZ cR) (fun gm => wX cI cJ cZ cR am gm t') A) ([.ref (am 2009), .int a1, .int a2].toArray) s (mC t0 t') (mS t0 t') A) (F0 m 88 ls []) := by
    intro gm t v2 ho h0 H locs ls hW hl
    have hE : mle t t' := (mm_x9_prepare_J88 _ _ _ ho)
    have hR := hR_of (t0 := t0) hE
    unfold x9_prepare_J88 at ho
    refine lv_iconst (v := (0 : Int32)) hx hb dX9_prepare_88 (by decide) ?_
    refine lv_istore_n (lv' := [(3, .int (0 : Int32)), (0, .ref (am 2009)), (2, .int v2)]) hx hb dX9_prepare_89 rfl hl (by decide) rfl (fun ls hl => ?_)
    obtain ⟨y13, hc15, ho⟩ := bd_some ho
    have hm14 := mm_x9_prepare_L90 v2 (0 : Int32) t _ hc15
    obtain ⟨ny13, hc15⟩ := lp_to hc15
    refine x9_prepare_L90 C0 hR ?_ ny13 _ _ hc15 _ _ _ hW (lv_sub hl [1, 2, 0] rfl)
    intro H locs ls hW hl
    refine W_up h0 hm14 ?_
    cases ho
    exact rtVa gm C0.1 hW dX9_prepare_110
  have J76 : ∀ (gm : Nat → Nat) (t : St) (v2 : Int32) (_ : x9_prepare_J76 t v2 = some t') (_ : mle t0 t) (H : Heap) (locs : List Loc) (ls : Array Slot), wl D A s (wX cI cJ cZ cR am gm t) H locs → lv_has ls 4 [(0, .ref (am 2009)), (2, .int v2)] → W p l e (rmA 2 48 t0 t') s m ([.ref (am 2009), .int a1, .int a2].toArray) below meth c H locs (mC t0 t) (mS t0 t) (MQ below (qVa D (tyX cI cJ cZ cR) (fun gm => wX cI cJ cZ cR am gm t') A) ([.ref (am 2009), .int a1, .int a2].toArray) s (mC t0 t') (mS t0 t') A) (F0 m 76 ls []) := by
    intro gm t v2 ho h0 H locs ls hW hl
    have hE : mle t t' := (mm_x9_prepare_J76 _ _ _ ho)
    have hR := hR_of (t0 := t0) hE
    unfold x9_prepare_J76 at ho
    refine lv_aload_n hx hb dX9_prepare_76 rfl (lv_at hl 0 rfl) ?_
    refine xGET_905 C0 kw_571 hW dX9_prepare_77 ?_
    refine lv_if_le (tgt := 88) hx hb dX9_prepare_80 (by decide) (fun c16 => ?_) (fun c16 => ?_)
    · replace ho := ite_t c16 ho
      exact J88 gm _ _ ho h0 _ _ _ hW (lv_sub hl [0, 1] rfl)
    · replace ho := ite_f c16 ho
      refine lv_aload_n hx hb dX9_prepare_83 rfl (lv_at hl 0 rfl) ?_
      refine lv_iload_n hx hb dX9_prepare_84 rfl (lv_at hl 1 rfl) ?_
      obtain ⟨q17, hc18, ho⟩ := bd_some ho
      have hq17 := mm_x9_lookRound t v2 _ hc18
      refine bkV C0.1 hW (runVX (As := [.int v2]) (rest := []) C0 hW (c_x9_lookRound l _ t v2 (t' := q17) hc18) cb_X9_X9_lookRound_72 9 9 rfl rfl rfl rfl rfl ⟨rfl, rfl⟩ ⟨Nat.le_of_ble_eq_true rfl, Nat.le_of_ble_eq_true rfl⟩ (Nat.le_of_ble_eq_true rfl) hl.1 dX9_prepare_85 ⟨hR.1, hR.2⟩) (fun H locs hW => ?_)
      refine W_up h0 hq17 ?_
      exact J88 gm _ _ ho (mle.trans h0 hq17) _ _ _ hW (lv_sub hl [0, 1] rfl)
  have hE : mle t0 t' := mm_x9_prepare _ _ _ _ ho
  have hR := hR_of (t0 := t0) hE
  have h0 : mle t0 t0 := mle.rfl
  refine W_0 (t0 := t0) ?_
  unfold x9_prepare at ho
  refine lv_aload_n hx hb dX9_prepare_0 rfl (lv_at hl 0 rfl) ?_
  refine lv_iconst (v := (0 : Int32)) hx hb dX9_prepare_1 (by decide) ?_
  refine xPUT_905 C0 kw_571 hW dX9_prepare_2 (fun H locs hW => ?_)
  obtain ⟨t19, ht19, ho, hW⟩ := nm_wm (P := fun t => wl D A s (wX cI cJ cZ cR am gm t) H locs) mle_sI ho hW
  refine lv_iconst (v := (0 : Int32)) hx hb dX9_prepare_5 (by decide) ?_
  refine lv_istore_n (lv' := [(3, .int (0 : Int32)), (0, .ref (am 2009)), (1, .int a1), (2, .int a2)]) hx hb dX9_prepare_6 rfl hl (by decide) rfl (fun ls hl => ?_)
  obtain ⟨y20, hc22, ho⟩ := bd_some ho
  have hm21 := mm_x9_prepare_L7 a1 a2 (0 : Int32) t19 _ hc22
  obtain ⟨ny20, hc22⟩ := lp_to hc22
  refine x9_prepare_L7 C0 hR ?_ ny20 _ _ hc22 _ _ _ hW (lv_sub hl [1, 2, 3, 0] rfl)
  intro H locs ls hW hl
  refine lv_aload_n hx hb dX9_prepare_57 rfl (lv_at hl 0 rfl) ?_
  refine lv_aload_n hx hb dX9_prepare_58 rfl (lv_at hl 0 rfl) ?_
  refine xGET_906 C0 kw_572 hW dX9_prepare_59 ?_
  refine lv_aload_n hx hb dX9_prepare_62 rfl (lv_at hl 0 rfl) ?_
  refine xGET_905 C0 kw_571 hW dX9_prepare_63 ?_
  refine lv_sipush (v := (601 : Int32)) hx hb dX9_prepare_66 (by decide) ?_
  refine lv_imul hx hb dX9_prepare_69 ?_
  obtain ⟨t23, g24, ho⟩ := grw_some ho
  have ht23 := g24.mle
  have hEt23 := (mm_x9_prepare_J76 _ _ _ ho)
  refine W_up h0 (mle.trans ht19 hm21) ?_
  have h0 := (mle.trans h0 (mle.trans ht19 hm21))
  refine xGROW_906 (rest := []) C0 cb_X9_X2_grown_66 kw_572 hl.1 hW g24 h0 hEt23 (Nat.le_of_ble_eq_true rfl) (Nat.le_of_ble_eq_true rfl) (Nat.le_of_ble_eq_true rfl) dX9_prepare_70 dX9_prepare_73 (fun gm H locs hW => ?_)
  have h0 := mle.trans h0 ht23
  exact J76 gm _ _ ho h0 _ _ _ hW (lv_sub hl [0, 1] rfl)
noncomputable def x9_soonestEnd_B33 (t : St) (v1 : Int32) (v3 : Int32) (v4 : Int32) (v5 : Int32) : Option ((Int32 × Int32) ⊕ (Int32)) :=
  if (gI t 905) ≤ v5 then (some (.inr v4)) else (if ((v3 >>> (v5 &&& 31)) &&& (1 : Int32)) = 0 then (nm (v5 + (1 : Int32)) (fun x10 : Int32 => some (.inl (v4, x10)))) else (gd (v3 &&& (((1 : Int32) <<< (v5 &&& 31)) ^^^ (-1 : Int32))) (gN t 907) (nm (gA t 907 ((v3 &&& (((1 : Int32) <<< (v5 &&& 31)) ^^^ (-1 : Int32)))).toNatClampNeg) (fun x4 : Int32 => if (601 : Int32) ≤ x4 then (nm (v5 + (1 : Int32)) (fun x6 : Int32 => some (.inl (v4, x6)))) else (gd ((v5 * (601 : Int32)) + x4) (gN t 906) (nm (if (gA t 906 (((v5 * (601 : Int32)) + x4)).toNatClampNeg) < v4 then (gA t 906 (((v5 * (601 : Int32)) + x4)).toNatClampNeg) else v4) (fun x8 : Int32 => nm (v5 + (1 : Int32)) (fun x9 : Int32 => some (.inl (x8, x9))))))))))
noncomputable def x9_soonestEnd_B9 (v1 : Int32) (v3 : Int32) (t : St) : Option ((Int32 × St) ⊕ (St)) :=
  if v1 < v3 then (some (.inr t)) else (if (v3 &&& (v1 ^^^ (-1 : Int32))) = 0 then ((lp (fun x => x9_soonestEnd_B33 t v1 v3 x.1 x.2) ((601 : Int32), (0 : Int32))).bind (fun y13 => gd v3 (gN t 907) (nm (sA t 907 v3 y13) (fun t17 : St => nm (v3 + (1 : Int32)) (fun x18 : Int32 => some (.inl (x18, t17))))))) else (nm (v3 + (1 : Int32)) (fun x19 : Int32 => some (.inl (x19, t)))))
theorem mm_x9_soonestEnd_B9 (v1 : Int32) (v3 : Int32) (t : St) : MR (x9_soonestEnd_B9 v1 v3 t) t (Sum.elim (fun (x : Int32 × St) => x.2) (fun (y : St) => y)) := by
  unfold x9_soonestEnd_B9
  exact MR_ite (MR_some mle.rfl) (MR_ite (MR_bindn (fun y13 => MR_gd (MR_nmS mle_sA (fun t17 ht17 => MR_nm (fun x18 _ => MR_some ht17))))) (MR_nm (fun x19 _ => MR_some mle.rfl)))
theorem mm_x9_soonestEnd_L9 (v1 : Int32) (v3 : Int32) (t : St) : MR (lp (fun x => x9_soonestEnd_B9 v1 x.1 x.2) (v3, t)) t (fun (y : St) => y) := MR_lp (p := (fun (x : Int32 × St) => x.2)) (q := (fun (y : St) => y)) (fun x => mm_x9_soonestEnd_B9 v1 x.1 x.2) (v3, t)
noncomputable def x9_soonestEnd (t : St) (a1 : Int32) (a2 : Int32) : Option (Int32 × St) :=
  gd (0 : Int32) (gN t 907) (nm (sA t 907 (0 : Int32) a2) (fun t21 : St => (lp (fun x => x9_soonestEnd_B9 a1 x.1 x.2) ((1 : Int32), t21)).bind (fun y22 => gd a1 (gN y22 907) (some ((gA y22 907 (a1).toNatClampNeg), y22)))))
theorem mm_x9_soonestEnd (t : St) (a1 : Int32) (a2 : Int32) : MR (x9_soonestEnd t a1 a2) t (fun (a : Int32 × St) => a.2) := by
  unfold x9_soonestEnd
  exact MR_gd (MR_nmS mle_sA (fun t21 ht21 => MR_bind (mm_x9_soonestEnd_L9 a1 (1 : Int32) t21) (fun y22 hm23 => MR_gd (MR_some (mle.trans ht21 hm23)))))
set_option maxHeartbeats 4000000 in
set_option maxRecDepth 100000 in
theorem x9_soonestEnd_L33 {p : Program} {l : Launch} {e : Env} {s : State} {m : MethodId} {args : Array Value} {below : List Frame} {meth : Method} {c : Code} {Q : State → Prop} {D : va_G} {cI cJ cZ cR : ClassId} {am gm : Nat → Nat} {st : Nat} {A : Nat → Prop} (C0 : cxX p s m args meth c cX9_soonestEnd RX9 7 (some .int) D (tyX cI cJ cZ cR) st A) {t : St} {v1 : Int32} {v3 : Int32} {y : Int32} (hK0 : ∀ (H : Heap) (locs : List Loc) (ls : Array Slot), wl D A s (wX cI cJ cZ cR am gm t) H locs → lv_has ls 7 [(0, .ref (am 2009)), (1, .int v1), (3, .int v3), (4, .int y)] → W p l e (rmN 1 21) s m args below meth c H locs 0 0 Q (F0 m 104 ls [])) :
    ∀ (n : Nat) (v4 : Int32) (v5 : Int32), lpn (fun x => x9_soonestEnd_B33 t v1 v3 x.1 x.2) n (v4, v5) = some y → ∀ (H : Heap) (locs : List Loc) (ls : Array Slot), wl D A s (wX cI cJ cZ cR am gm t) H locs → lv_has ls 7 [(0, .ref (am 2009)), (1, .int v1), (3, .int v3), (4, .int v4), (5, .int v5)] → W p l e (rmN 1 21) s m args below meth c H locs 0 0 Q (F0 m 33 ls []) := by
  have hx := C0.1.1
  have hb := C0.1.2.1
  have hta := C0.1.2.2.2.2.2.1
  have hown := C0.1.2.2.2.2.1
  intro n
  induction n with
  | zero => intro _ _ h; cases h
  | succ n ih =>
    intro v4 v5 hrun H locs ls hW hl
    obtain ⟨o, ho, hrun⟩ := bd_some hrun
    unfold x9_soonestEnd_B33 at ho
    refine lv_iload hx hb dX9_soonestEnd_33 (lv_at hl 4 rfl) ?_
    refine lv_aload_n hx hb dX9_soonestEnd_35 rfl (lv_at hl 0 rfl) ?_
    refine xGET_905 C0 kw_571 hW dX9_soonestEnd_36 ?_
    refine lv_icmp_ge (tgt := 104) hx hb dX9_soonestEnd_39 (by decide) (fun c1 => ?_) (fun c1 => ?_)
    · replace ho := ite_t c1 ho
      cases ho
      cases hrun
      exact hK0 _ _ _ hW (lv_sub hl [0, 1, 2, 3] rfl)
    · replace ho := ite_f c1 ho
      refine lv_iload_n hx hb dX9_soonestEnd_42 rfl (lv_at hl 2 rfl) ?_
      refine lv_iload hx hb dX9_soonestEnd_43 (lv_at hl 4 rfl) ?_
      refine lv_ishr hx hb dX9_soonestEnd_45 ?_
      refine lv_iconst (v := (1 : Int32)) hx hb dX9_soonestEnd_46 (by decide) ?_
      refine lv_iand hx hb dX9_soonestEnd_47 ?_
      refine lv_if_ne (tgt := 54) hx hb dX9_soonestEnd_48 (by decide) (fun c2 => ?_) (fun c2 => ?_)
      · replace ho := ite_f c2 ho
        refine lv_aload_n hx hb dX9_soonestEnd_54 rfl (lv_at hl 0 rfl) ?_
        refine xGET_907 C0 kw_573 hW dX9_soonestEnd_55 ?_
        refine lv_iload_n hx hb dX9_soonestEnd_58 rfl (lv_at hl 2 rfl) ?_
        refine lv_iconst (v := (1 : Int32)) hx hb dX9_soonestEnd_59 (by decide) ?_
        refine lv_iload hx hb dX9_soonestEnd_60 (lv_at hl 4 rfl) ?_
        refine lv_ishl hx hb dX9_soonestEnd_62 ?_
        refine lv_iconst (v := (-1 : Int32)) hx hb dX9_soonestEnd_63 (by decide) ?_
        refine lv_ixor hx hb dX9_soonestEnd_64 ?_
        refine lv_iand hx hb dX9_soonestEnd_65 ?_
        obtain ⟨g3, ho⟩ := gd_some ho
        refine xLD_907 C0 hW g3 dX9_soonestEnd_66 ?_
        refine lv_nmi ho (fun x4 ho => ?_)
        refine lv_istore (lv' := [(6, .int x4), (0, .ref (am 2009)), (1, .int v1), (3, .int v3), (4, .int v4), (5, .int v5)]) hx hb dX9_soonestEnd_67 hl (by decide) rfl (fun ls hl => ?_)
        refine lv_iload hx hb dX9_soonestEnd_69 (lv_at hl 0 rfl) ?_
        refine lv_sipush (v := (601 : Int32)) hx hb dX9_soonestEnd_71 (by decide) ?_
        refine lv_icmp_ge (tgt := 98) hx hb dX9_soonestEnd_74 (by decide) (fun c5 => ?_) (fun c5 => ?_)
        · replace ho := ite_t c5 ho
          obtain ⟨x6, ex6, ho⟩ := nm_x ho
          refine lv_iinc (v := x6) (lv' := [(5, .int x6), (6, .int x4), (0, .ref (am 2009)), (1, .int v1), (3, .int v3), (4, .int v4)]) hx hb dX9_soonestEnd_98 hl (k := 5) rfl (by rw [ex6]; rfl) (by decide) rfl (fun ls hl => ?_)
          clear ex6
          refine lv_goto (tgt := 33) hx hb dX9_soonestEnd_101 (by decide) ?_
          cases ho
          exact ih _ _ hrun _ _ _ hW (lv_sub hl [2, 3, 4, 5, 0] rfl)
        · replace ho := ite_f c5 ho
          refine lv_iload hx hb dX9_soonestEnd_77 (lv_at hl 4 rfl) ?_
          refine lv_aload_n hx hb dX9_soonestEnd_79 rfl (lv_at hl 1 rfl) ?_
          refine xGET_906 C0 kw_572 hW dX9_soonestEnd_80 ?_
          refine lv_iload hx hb dX9_soonestEnd_83 (lv_at hl 5 rfl) ?_
          refine lv_sipush (v := (601 : Int32)) hx hb dX9_soonestEnd_85 (by decide) ?_
          refine lv_imul hx hb dX9_soonestEnd_88 ?_
          refine lv_iload hx hb dX9_soonestEnd_89 (lv_at hl 0 rfl) ?_
          refine lv_iadd hx hb dX9_soonestEnd_91 ?_
          obtain ⟨g7, ho⟩ := gd_some ho
          refine xLD_906 C0 hW g7 dX9_soonestEnd_92 ?_
          refine va_mmin (rest := []) hx hb (C0.1.2.2.2.1.trans hl.1.symm) hown (hta _ kw_1402) (hta _ kw_748) (hta _ kw_136) (hta _ kw_749) (Nat.le_of_ble_eq_true rfl) (Nat.le_of_ble_eq_true rfl) (Nat.le_of_ble_eq_true rfl) (Nat.le_of_ble_eq_true rfl) dX9_soonestEnd_93 ?_
          refine lv_nmi ho (fun x8 ho => ?_)
          refine lv_istore (lv' := [(4, .int x8), (6, .int x4), (0, .ref (am 2009)), (1, .int v1), (3, .int v3), (5, .int v5)]) hx hb dX9_soonestEnd_96 hl (by decide) rfl (fun ls hl => ?_)
          obtain ⟨x9, ex9, ho⟩ := nm_x ho
          refine lv_iinc (v := x9) (lv' := [(5, .int x9), (4, .int x8), (6, .int x4), (0, .ref (am 2009)), (1, .int v1), (3, .int v3)]) hx hb dX9_soonestEnd_98 hl (k := 5) rfl (by rw [ex9]; rfl) (by decide) rfl (fun ls hl => ?_)
          clear ex9
          refine lv_goto (tgt := 33) hx hb dX9_soonestEnd_101 (by decide) ?_
          cases ho
          exact ih _ _ hrun _ _ _ hW (lv_sub hl [3, 4, 5, 1, 0] rfl)
      · replace ho := ite_t c2 ho
        refine lv_goto (tgt := 98) hx hb dX9_soonestEnd_51 (by decide) ?_
        obtain ⟨x10, ex10, ho⟩ := nm_x ho
        refine lv_iinc (v := x10) (lv' := [(5, .int x10), (0, .ref (am 2009)), (1, .int v1), (3, .int v3), (4, .int v4)]) hx hb dX9_soonestEnd_98 hl (k := 4) rfl (by rw [ex10]; rfl) (by decide) rfl (fun ls hl => ?_)
        clear ex10
        refine lv_goto (tgt := 33) hx hb dX9_soonestEnd_101 (by decide) ?_
        cases ho
        exact ih _ _ hrun _ _ _ hW (lv_sub hl [1, 2, 3, 4, 0] rfl)
set_option maxHeartbeats 4000000 in
set_option maxRecDepth 100000 in
theorem x9_soonestEnd_L9 {p : Program} {l : Launch} {e : Env} {s : State} {m : MethodId} {args : Array Value} {below : List Frame} {meth : Method} {c : Code} {Q : State → Prop} {D : va_G} {cI cJ cZ cR : ClassId} {am gm : Nat → Nat} {st : Nat} {A : Nat → Prop} (C0 : cxX p s m args meth c cX9_soonestEnd RX9 7 (some .int) D (tyX cI cJ cZ cR) st A) {v1 : Int32} {y : St} (hK0 : ∀ (H : Heap) (locs : List Loc) (ls : Array Slot), wl D A s (wX cI cJ cZ cR am gm y) H locs → lv_has ls 7 [(0, .ref (am 2009)), (1, .int v1)] → W p l e (rmN 1 21) s m args below meth c H locs 0 0 Q (F0 m 118 ls [])) :
    ∀ (n : Nat) (v3 : Int32) (t : St), lpn (fun x => x9_soonestEnd_B9 v1 x.1 x.2) n (v3, t) = some y → ∀ (H : Heap) (locs : List Loc) (ls : Array Slot), wl D A s (wX cI cJ cZ cR am gm t) H locs → lv_has ls 7 [(0, .ref (am 2009)), (1, .int v1), (3, .int v3)] → W p l e (rmN 1 21) s m args below meth c H locs 0 0 Q (F0 m 9 ls []) := by
  have hx := C0.1.1
  have hb := C0.1.2.1
  have hta := C0.1.2.2.2.2.2.1
  have hown := C0.1.2.2.2.2.1
  intro n
  induction n with
  | zero => intro _ _ h; cases h
  | succ n ih =>
    intro v3 t hrun H locs ls hW hl
    obtain ⟨o, ho, hrun⟩ := bd_some hrun
    unfold x9_soonestEnd_B9 at ho
    refine lv_iload_n hx hb dX9_soonestEnd_9 rfl (lv_at hl 2 rfl) ?_
    refine lv_iload_n hx hb dX9_soonestEnd_10 rfl (lv_at hl 1 rfl) ?_
    refine lv_icmp_gt (tgt := 118) hx hb dX9_soonestEnd_11 (by decide) (fun c11 => ?_) (fun c11 => ?_)
    · replace ho := ite_t c11 ho
      cases ho
      cases hrun
      exact hK0 _ _ _ hW (lv_sub hl [0, 1] rfl)
    · replace ho := ite_f c11 ho
      refine lv_iload_n hx hb dX9_soonestEnd_14 rfl (lv_at hl 2 rfl) ?_
      refine lv_iload_n hx hb dX9_soonestEnd_15 rfl (lv_at hl 1 rfl) ?_
      refine lv_iconst (v := (-1 : Int32)) hx hb dX9_soonestEnd_16 (by decide) ?_
      refine lv_ixor hx hb dX9_soonestEnd_17 ?_
      refine lv_iand hx hb dX9_soonestEnd_18 ?_
      refine lv_if_eq (tgt := 25) hx hb dX9_soonestEnd_19 (by decide) (fun c12 => ?_) (fun c12 => ?_)
      · replace ho := ite_t c12 ho
        refine lv_sipush (v := (601 : Int32)) hx hb dX9_soonestEnd_25 (by decide) ?_
        refine lv_istore (lv' := [(4, .int (601 : Int32)), (0, .ref (am 2009)), (1, .int v1), (3, .int v3)]) hx hb dX9_soonestEnd_28 hl (by decide) rfl (fun ls hl => ?_)
        refine lv_iconst (v := (0 : Int32)) hx hb dX9_soonestEnd_30 (by decide) ?_
        refine lv_istore (lv' := [(5, .int (0 : Int32)), (4, .int (601 : Int32)), (0, .ref (am 2009)), (1, .int v1), (3, .int v3)]) hx hb dX9_soonestEnd_31 hl (by decide) rfl (fun ls hl => ?_)
        obtain ⟨y13, hc15, ho⟩ := bd_some ho
        obtain ⟨ny13, hc15⟩ := lp_to hc15
        refine x9_soonestEnd_L33 C0 ?_ ny13 _ _ hc15 _ _ _ hW (lv_sub hl [2, 3, 4, 1, 0] rfl)
        intro H locs ls hW hl
        refine lv_aload_n hx hb dX9_soonestEnd_104 rfl (lv_at hl 0 rfl) ?_
        refine xGET_907 C0 kw_573 hW dX9_soonestEnd_105 ?_
        refine lv_iload_n hx hb dX9_soonestEnd_108 rfl (lv_at hl 2 rfl) ?_
        refine lv_iload hx hb dX9_soonestEnd_109 (lv_at hl 3 rfl) ?_
        obtain ⟨g16, ho⟩ := gd_some ho
        refine xST_907 C0 hW g16 dX9_soonestEnd_111 (fun H locs hW => ?_)
        obtain ⟨t17, ho, hW⟩ := nm_w (P := fun t => wl D A s (wX cI cJ cZ cR am gm t) H locs) ho hW
        obtain ⟨x18, ex18, ho⟩ := nm_x ho
        refine lv_iinc (v := x18) (lv' := [(3, .int x18), (0, .ref (am 2009)), (1, .int v1), (4, .int y13)]) hx hb dX9_soonestEnd_112 hl (k := 2) rfl (by rw [ex18]; rfl) (by decide) rfl (fun ls hl => ?_)
        clear ex18
        refine lv_goto (tgt := 9) hx hb dX9_soonestEnd_115 (by decide) ?_
        cases ho
        exact ih _ _ hrun _ _ _ hW (lv_sub hl [1, 2, 0] rfl)
      · replace ho := ite_f c12 ho
        refine lv_goto (tgt := 112) hx hb dX9_soonestEnd_22 (by decide) ?_
        obtain ⟨x19, ex19, ho⟩ := nm_x ho
        refine lv_iinc (v := x19) (lv' := [(3, .int x19), (0, .ref (am 2009)), (1, .int v1)]) hx hb dX9_soonestEnd_112 hl (k := 2) rfl (by rw [ex19]; rfl) (by decide) rfl (fun ls hl => ?_)
        clear ex19
        refine lv_goto (tgt := 9) hx hb dX9_soonestEnd_115 (by decide) ?_
        cases ho
        exact ih _ _ hrun _ _ _ hW (lv_sub hl [1, 2, 0] rfl)
set_option maxHeartbeats 4000000 in
set_option maxRecDepth 100000 in
theorem c_x9_soonestEnd (l : Launch) {D : va_G} {cI cJ cZ cR : ClassId} {am gm : Nat → Nat} {st : Nat} (sz : Nat) (t : St) (a1 : Int32) (a2 : Int32) {r : Int32} {t' : St} (ho : x9_soonestEnd t a1 a2 = some (r, t')) : Met l yX9_soonestEnd (.code yX9_soonestEnd cX9_soonestEnd 7 (some .int) :: wsAll) (rmN 1 21) (va_Pc [.ref (am 2009), .int a1, .int a2] (prX D (tyX cI cJ cZ cR) (wX cI cJ cZ cR am gm t) sz st)) (qI r D (tyX cI cJ cZ cR) (wX cI cJ cZ cR am gm t') (va_A (wX cI cJ cZ cR am gm t) sz)) 0 0 (va_A (wX cI cJ cZ cR am gm t) sz) := by
  refine Met.ofW (cc := cX9_soonestEnd) (maxL := 7) (ret := (some .int)) (by decide) rfl ?_
  intro p e s m args below meth c s₁ B hml hv
  obtain ⟨rfl, ⟨hsz, hP, hK, hD0⟩, hsx⟩ := hv
  have hx := B.exec
  have hb := B.bytes
  have hts := atoms_spec (ws := (.code yX9_soonestEnd cX9_soonestEnd 7 (some .int) :: wsAll)) B.pre
  have hta := fun w h => hts w (List.mem_cons_of_mem _ h)
  have hown : s.vm.findClass RX9 = some m.cls := findClass_of_methodNamed B.named
  have hlocks := B.notSynchronized
  subst hsz
  have hD := hD0.self (sz := s.heap.size)
  generalize hAe : va_A (wX cI cJ cZ cR am gm t) s.heap.size = A at hD ⊢
  have hA : ∀ q : Nat, s.heap.size ≤ q → A q := fun q h => by rw [← hAe]; exact Or.inr h
  have C0 : cxX p s m ([.ref (am 2009), .int a1, .int a2].toArray) meth c cX9_soonestEnd RX9 7 (some .int) D (tyX cI cJ cZ cR) st A := ⟨⟨hx, hb, B.returns, hml, hown, hta, hlocks, hK, hA⟩, by rw [← hAe]; exact hsx⟩
  have hW : wl D A s (wX cI cJ cZ cR am gm t) s.heap [] := ⟨hP, hD, va_S.rf⟩
  have hl := lv_entry [.ref (am 2009), .int a1, .int a2] (n := 7) (Nat.le_of_ble_eq_true rfl)
  rw [lg_entry_eq]
  generalize (lg_sl [.ref (am 2009), .int a1, .int a2] ++ List.replicate (7 - (lg_sl [.ref (am 2009), .int a1, .int a2]).length) Slot.unset).toArray = ls at hl ⊢
  have hl : lv_has ls 7 [(0, .ref (am 2009)), (1, .int a1), (2, .int a2)] := hl
  unfold x9_soonestEnd at ho
  refine lv_aload_n hx hb dX9_soonestEnd_0 rfl (lv_at hl 0 rfl) ?_
  refine xGET_907 C0 kw_573 hW dX9_soonestEnd_1 ?_
  refine lv_iconst (v := (0 : Int32)) hx hb dX9_soonestEnd_4 (by decide) ?_
  refine lv_iload_n hx hb dX9_soonestEnd_5 rfl (lv_at hl 2 rfl) ?_
  obtain ⟨g20, ho⟩ := gd_some ho
  refine xST_907 C0 hW g20 dX9_soonestEnd_6 (fun H locs hW => ?_)
  obtain ⟨t21, ho, hW⟩ := nm_w (P := fun t => wl D A s (wX cI cJ cZ cR am gm t) H locs) ho hW
  refine lv_iconst (v := (1 : Int32)) hx hb dX9_soonestEnd_7 (by decide) ?_
  refine lv_istore_n (lv' := [(3, .int (1 : Int32)), (0, .ref (am 2009)), (1, .int a1), (2, .int a2)]) hx hb dX9_soonestEnd_8 rfl hl (by decide) rfl (fun ls hl => ?_)
  obtain ⟨y22, hc24, ho⟩ := bd_some ho
  obtain ⟨ny22, hc24⟩ := lp_to hc24
  refine x9_soonestEnd_L9 C0 ?_ ny22 _ _ hc24 _ _ _ hW (lv_sub hl [1, 2, 0] rfl)
  intro H locs ls hW hl
  refine lv_aload_n hx hb dX9_soonestEnd_118 rfl (lv_at hl 0 rfl) ?_
  refine xGET_907 C0 kw_573 hW dX9_soonestEnd_119 ?_
  refine lv_iload_n hx hb dX9_soonestEnd_122 rfl (lv_at hl 1 rfl) ?_
  obtain ⟨g25, ho⟩ := gd_some ho
  refine xLD_907 C0 hW g25 dX9_soonestEnd_123 ?_
  cases ho
  exact rtI C0.1 hW dX9_soonestEnd_124
noncomputable def x9_bestEnd_J6 (t : St) (v2 : Int32) : Option (Int32 × St) :=
  (x9_soonestEnd t (((1 : Int32) <<< ((gI t 905) &&& 31)) - (1 : Int32)) v2).bind (fun q1 => if (601 : Int32) ≤ q1.1 then (some ((-1 : Int32), q1.2)) else (some (q1.1, q1.2)))
theorem mm_x9_bestEnd_J6 (t : St) (v2 : Int32) : MR (x9_bestEnd_J6 t v2) t (fun (a : Int32 × St) => a.2) := by
  unfold x9_bestEnd_J6
  exact MR_bind (mm_x9_soonestEnd t (((1 : Int32) <<< ((gI t 905) &&& 31)) - (1 : Int32)) v2) (fun q1 hq1 => MR_ite (MR_some hq1) (MR_some hq1))
noncomputable def x9_bestEnd (t0 : St) (a1 : Int32) (a2 : Int32) : Option (Int32 × St) :=
  (x9_prepare t0 a1 a2).bind (fun q4 => x9_bestEnd_J6 q4 a2)
theorem mm_x9_bestEnd (t0 : St) (a1 : Int32) (a2 : Int32) : MR (x9_bestEnd t0 a1 a2) t0 (fun (a : Int32 × St) => a.2) := by
  unfold x9_bestEnd
  exact MR_bind (mm_x9_prepare t0 a1 a2) (fun q4 hq4 => MR_wk hq4 (mm_x9_bestEnd_J6 q4 a2))
set_option maxHeartbeats 4000000 in
set_option maxRecDepth 100000 in
theorem c_x9_bestEnd (l : Launch) {D : va_G} {cI cJ cZ cR : ClassId} {am gm : Nat → Nat} {st : Nat} (sz : Nat) (t0 : St) (a1 : Int32) (a2 : Int32) {r : Int32} {t' : St} (ho : x9_bestEnd t0 a1 a2 = some (r, t')) : Met l yX9_bestEnd (.code yX9_bestEnd cX9_bestEnd 4 (some .int) :: wsAll) (rmA 3 71 t0 t') (va_Pc [.ref (am 2009), .int a1, .int a2] (prX D (tyX cI cJ cZ cR) (wX cI cJ cZ cR am gm t0) sz st)) (qIa r D (tyX cI cJ cZ cR) (fun gm => wX cI cJ cZ cR am gm t') (va_A (wX cI cJ cZ cR am gm t0) sz)) (mC t0 t') (mS t0 t') (va_A (wX cI cJ cZ cR am gm t0) sz) := by
  refine Met.ofW (cc := cX9_bestEnd) (maxL := 4) (ret := (some .int)) (by decide) rfl ?_
  intro p e s m args below meth c s₁ B hml hv
  obtain ⟨rfl, ⟨hsz, hP, hK, hD0⟩, hsx⟩ := hv
  have hx := B.exec
  have hb := B.bytes
  have hts := atoms_spec (ws := (.code yX9_bestEnd cX9_bestEnd 4 (some .int) :: wsAll)) B.pre
  have hta := fun w h => hts w (List.mem_cons_of_mem _ h)
  have hown : s.vm.findClass RX9 = some m.cls := findClass_of_methodNamed B.named
  have hlocks := B.notSynchronized
  subst hsz
  have hD := hD0.self (sz := s.heap.size)
  generalize hAe : va_A (wX cI cJ cZ cR am gm t0) s.heap.size = A at hD ⊢
  have hA : ∀ q : Nat, s.heap.size ≤ q → A q := fun q h => by rw [← hAe]; exact Or.inr h
  have C0 : cxX p s m ([.ref (am 2009), .int a1, .int a2].toArray) meth c cX9_bestEnd RX9 4 (some .int) D (tyX cI cJ cZ cR) st A := ⟨⟨hx, hb, B.returns, hml, hown, hta, hlocks, hK, hA⟩, by rw [← hAe]; exact hsx⟩
  have hW : wl D A s (wX cI cJ cZ cR am gm t0) s.heap [] := ⟨hP, hD, va_S.rf⟩
  have hl := lv_entry [.ref (am 2009), .int a1, .int a2] (n := 4) (Nat.le_of_ble_eq_true rfl)
  rw [lg_entry_eq]
  generalize (lg_sl [.ref (am 2009), .int a1, .int a2] ++ List.replicate (4 - (lg_sl [.ref (am 2009), .int a1, .int a2]).length) Slot.unset).toArray = ls at hl ⊢
  have hl : lv_has ls 4 [(0, .ref (am 2009)), (1, .int a1), (2, .int a2)] := hl
  clear hAe hD hP hD0 hts
  have J6 : ∀ (gm : Nat → Nat) (t : St) (v2 : Int32) (_ : x9_bestEnd_J6 t v2 = some (r, t')) (_ : mle t0 t) (H : Heap) (locs : List Loc) (ls : Array Slot), wl D A s (wX cI cJ cZ cR am gm t) H locs → lv_has ls 4 [(0, .ref (am 2009)), (2, .int v2)] → W p l e (rmA 3 71 t0 t') s m ([.ref (am 2009), .int a1, .int a2].toArray) below meth c H locs (mC t0 t) (mS t0 t) (MQ below (qIa r D (tyX cI cJ cZ cR) (fun gm => wX cI cJ cZ cR am gm t') A) ([.ref (am 2009), .int a1, .int a2].toArray) s (mC t0 t') (mS t0 t') A) (F0 m 6 ls []) := by
    intro gm t v2 ho h0 H locs ls hW hl
    have hE : mle t t' := (mm_x9_bestEnd_J6 _ _ _ ho)
    have hR := hR_of (t0 := t0) hE
    unfold x9_bestEnd_J6 at ho
    refine lv_aload_n hx hb dX9_bestEnd_6 rfl (lv_at hl 0 rfl) ?_
    refine lv_iconst (v := (1 : Int32)) hx hb dX9_bestEnd_7 (by decide) ?_
    refine lv_aload_n hx hb dX9_bestEnd_8 rfl (lv_at hl 0 rfl) ?_
    refine xGET_905 C0 kw_571 hW dX9_bestEnd_9 ?_
    refine lv_ishl hx hb dX9_bestEnd_12 ?_
    refine lv_iconst (v := (1 : Int32)) hx hb dX9_bestEnd_13 (by decide) ?_
    refine lv_isub hx hb dX9_bestEnd_14 ?_
    refine lv_iload_n hx hb dX9_bestEnd_15 rfl (lv_at hl 1 rfl) ?_
    obtain ⟨q1, hc2, ho⟩ := bd_some ho
    have hq1 := mm_x9_soonestEnd t (((1 : Int32) <<< ((gI t 905) &&& 31)) - (1 : Int32)) v2 _ hc2
    refine bkI C0.1 hW (runVX (As := [.int (((1 : Int32) <<< ((gI t 905) &&& 31)) - (1 : Int32)), .int v2]) (rest := []) C0 hW (c_x9_soonestEnd l _ t (((1 : Int32) <<< ((gI t 905) &&& 31)) - (1 : Int32)) v2 (r := q1.1) (t' := q1.2) hc2) cb_X9_X9_soonestEnd_54 9 9 rfl rfl rfl rfl rfl ⟨rfl, rfl⟩ ⟨Nat.le_of_ble_eq_true rfl, Nat.le_of_ble_eq_true rfl⟩ (Nat.le_of_ble_eq_true rfl) hl.1 dX9_bestEnd_16 ⟨hR.1, hR.2⟩) (fun H locs hW => ?_)
    refine lv_istore_n (lv' := [(3, .int q1.1), (0, .ref (am 2009)), (2, .int v2)]) hx hb dX9_bestEnd_19 rfl hl (by decide) rfl (fun ls hl => ?_)
    refine lv_iload_n hx hb dX9_bestEnd_20 rfl (lv_at hl 0 rfl) ?_
    refine lv_sipush (v := (601 : Int32)) hx hb dX9_bestEnd_21 (by decide) ?_
    refine lv_icmp_ge (tgt := 31) hx hb dX9_bestEnd_24 (by decide) (fun c3 => ?_) (fun c3 => ?_)
    · replace ho := ite_t c3 ho
      refine lv_iconst (v := (-1 : Int32)) hx hb dX9_bestEnd_31 (by decide) ?_
      refine W_up h0 hq1 ?_
      cases ho
      exact rtIa gm C0.1 hW dX9_bestEnd_32
    · replace ho := ite_f c3 ho
      refine lv_iload_n hx hb dX9_bestEnd_27 rfl (lv_at hl 0 rfl) ?_
      refine lv_goto (tgt := 32) hx hb dX9_bestEnd_28 (by decide) ?_
      refine W_up h0 hq1 ?_
      cases ho
      exact rtIa gm C0.1 hW dX9_bestEnd_32
  have hE : mle t0 t' := mm_x9_bestEnd _ _ _ _ ho
  have hR := hR_of (t0 := t0) hE
  have h0 : mle t0 t0 := mle.rfl
  refine W_0 (t0 := t0) ?_
  unfold x9_bestEnd at ho
  refine lv_aload_n hx hb dX9_bestEnd_0 rfl (lv_at hl 0 rfl) ?_
  refine lv_iload_n hx hb dX9_bestEnd_1 rfl (lv_at hl 1 rfl) ?_
  refine lv_iload_n hx hb dX9_bestEnd_2 rfl (lv_at hl 2 rfl) ?_
  obtain ⟨q4, hc5, ho⟩ := bd_some ho
  have hq4 := mm_x9_prepare t0 a1 a2 _ hc5
  have hEq4 := (mm_x9_bestEnd_J6 _ _ _ ho)
  refine bkVa C0.1 hW h0 hq4 (runVX (As := [.int a1, .int a2]) (rest := []) C0 hW (c_x9_prepare l _ t0 a1 a2 (t' := q4) hc5) cb_X9_X9_prepare_50 9 9 rfl rfl rfl rfl rfl ⟨rfl, rfl⟩ ⟨Nat.le_of_ble_eq_true rfl, Nat.le_of_ble_eq_true rfl⟩ (Nat.le_of_ble_eq_true rfl) hl.1 dX9_bestEnd_3 (hf_of h0 hq4 hEq4)) (fun gm H locs hW => ?_)
  have h0 := mle.trans h0 hq4
  exact J6 gm _ _ ho h0 _ _ _ hW (lv_sub hl [0, 2] rfl)
noncomputable def x11_end_J45 (t : St) (w0 : Int32) : Option (Int32 × St) :=
  some (w0, t)
theorem mm_x11_end_J45 (t : St) (w0 : Int32) : MR (x11_end_J45 t w0) t (fun (a : Int32 × St) => a.2) := by
  unfold x11_end_J45
  exact MR_some mle.rfl
noncomputable def x11_end (t0 : St) (a1 : Int32) (a2 : Int32) : Option (Int32 × St) :=
  (x11_outside t0 a1 (0 : Int32) (65535 : Int32)).bind (fun q1 => if q1 = 0 then ((x11_outside t0 a2 (0 : Int32) (600 : Int32)).bind (fun q5 => if q5 = 0 then ((j6_bitCount_0f7a4 t0 a1).bind (fun q9 => if q9 ≤ (7 : Int32) then ((x9_bestEnd t0 a1 a2).bind (fun q12 => x11_end_J45 q12.2 q12.1)) else (some ((-3 : Int32), t0)))) else (some ((-2 : Int32), t0)))) else (some ((-2 : Int32), t0)))
theorem mm_x11_end (t0 : St) (a1 : Int32) (a2 : Int32) : MR (x11_end t0 a1 a2) t0 (fun (a : Int32 × St) => a.2) := by
  unfold x11_end
  exact MR_bindn (fun q1 => MR_ite (MR_bindn (fun q5 => MR_ite (MR_bindn (fun q9 => MR_ite (MR_bind (mm_x9_bestEnd t0 a1 a2) (fun q12 hq12 => MR_wk hq12 (mm_x11_end_J45 q12.2 q12.1))) (MR_some mle.rfl))) (MR_some mle.rfl))) (MR_some mle.rfl))
set_option maxHeartbeats 4000000 in
set_option maxRecDepth 100000 in
theorem c_x11_end (l : Launch) {D : va_G} {cI cJ cZ cR : ClassId} {am gm : Nat → Nat} {st : Nat} (sz : Nat) (t0 : St) (a1 : Int32) (a2 : Int32) {r : Int32} {t' : St} (ho : x11_end t0 a1 a2 = some (r, t')) : Met l yX11_end (.code yX11_end cX11_end 3 (some .int) :: wsAll) (rmA 4 94 t0 t') (va_Pc [.ref (am 2011), .int a1, .int a2] (prX D (tyX cI cJ cZ cR) (wX cI cJ cZ cR am gm t0) sz st)) (qIa r D (tyX cI cJ cZ cR) (fun gm => wX cI cJ cZ cR am gm t') (va_A (wX cI cJ cZ cR am gm t0) sz)) (mC t0 t') (mS t0 t') (va_A (wX cI cJ cZ cR am gm t0) sz) := by
  refine Met.ofW (cc := cX11_end) (maxL := 3) (ret := (some .int)) (by decide) rfl ?_
  intro p e s m args below meth c s₁ B hml hv
  obtain ⟨rfl, ⟨hsz, hP, hK, hD0⟩, hsx⟩ := hv
  have hx := B.exec
  have hb := B.bytes
  have hts := atoms_spec (ws := (.code yX11_end cX11_end 3 (some .int) :: wsAll)) B.pre
  have hta := fun w h => hts w (List.mem_cons_of_mem _ h)
  have hown : s.vm.findClass RX11 = some m.cls := findClass_of_methodNamed B.named
  have hlocks := B.notSynchronized
  subst hsz
  have hD := hD0.self (sz := s.heap.size)
  generalize hAe : va_A (wX cI cJ cZ cR am gm t0) s.heap.size = A at hD ⊢
  have hA : ∀ q : Nat, s.heap.size ≤ q → A q := fun q h => by rw [← hAe]; exact Or.inr h
  have C0 : cxX p s m ([.ref (am 2011), .int a1, .int a2].toArray) meth c cX11_end RX11 3 (some .int) D (tyX cI cJ cZ cR) st A := ⟨⟨hx, hb, B.returns, hml, hown, hta, hlocks, hK, hA⟩, by rw [← hAe]; exact hsx⟩
  have hW : wl D A s (wX cI cJ cZ cR am gm t0) s.heap [] := ⟨hP, hD, va_S.rf⟩
  have hl := lv_entry [.ref (am 2011), .int a1, .int a2] (n := 3) (Nat.le_of_ble_eq_true rfl)
  rw [lg_entry_eq]
  generalize (lg_sl [.ref (am 2011), .int a1, .int a2] ++ List.replicate (3 - (lg_sl [.ref (am 2011), .int a1, .int a2]).length) Slot.unset).toArray = ls at hl ⊢
  have hl : lv_has ls 3 [(0, .ref (am 2011)), (1, .int a1), (2, .int a2)] := hl
  clear hAe hD hP hD0 hts
  have J45 : ∀ (gm : Nat → Nat) (t : St) (w0 : Int32) (_ : x11_end_J45 t w0 = some (r, t')) (_ : mle t0 t) (H : Heap) (locs : List Loc) (ls : Array Slot), wl D A s (wX cI cJ cZ cR am gm t) H locs → lv_has ls 3 [(0, .ref (am 2011))] → W p l e (rmA 4 94 t0 t') s m ([.ref (am 2011), .int a1, .int a2].toArray) below meth c H locs (mC t0 t) (mS t0 t) (MQ below (qIa r D (tyX cI cJ cZ cR) (fun gm => wX cI cJ cZ cR am gm t') A) ([.ref (am 2011), .int a1, .int a2].toArray) s (mC t0 t') (mS t0 t') A) (F0 m 45 ls [.int w0]) := by
    intro gm t w0 ho h0 H locs ls hW hl
    have hE : mle t t' := (mm_x11_end_J45 _ _ _ ho)
    have hR := hR_of (t0 := t0) hE
    unfold x11_end_J45 at ho
    cases ho
    exact rtIa gm C0.1 hW dX11_end_45
  have hE : mle t0 t' := mm_x11_end _ _ _ _ ho
  have hR := hR_of (t0 := t0) hE
  have h0 : mle t0 t0 := mle.rfl
  refine W_0 (t0 := t0) ?_
  unfold x11_end at ho
  refine lv_iload_n hx hb dX11_end_0 rfl (lv_at hl 1 rfl) ?_
  refine lv_iconst (v := (0 : Int32)) hx hb dX11_end_1 (by decide) ?_
  refine lv_ldc hx hb hown (hta _ kw_798) dX11_end_2 ?_
  obtain ⟨q1, hc2, ho⟩ := bd_some ho
  refine bkZ C0.1 hW (runSX (As := [.int a1, .int (0 : Int32), .int (65535 : Int32)]) (rest := []) C0 hW (c_x11_outside l _ t0 a1 (0 : Int32) (65535 : Int32) (r := q1) hc2) cb_X11_X11_outside_102 rfl rfl ⟨rfl, rfl⟩ ⟨Nat.le_of_ble_eq_true rfl, Nat.le_of_ble_eq_true rfl⟩ (Nat.le_of_ble_eq_true rfl) hl.1 dX11_end_4 ⟨hR.1, hR.2⟩) (fun z3 H locs hW => ?_)
  refine lv_if_ne (tgt := 21) hx hb dX11_end_7 (by decide) (fun c4 => ?_) (fun c4 => ?_)
  · replace ho := ite_f c4 ho
    refine lv_bipush (v := (-2 : Int32)) hx hb dX11_end_21 (by decide) ?_
    cases ho
    exact rtIa gm C0.1 hW dX11_end_23
  · replace ho := ite_t c4 ho
    refine lv_iload_n hx hb dX11_end_10 rfl (lv_at hl 2 rfl) ?_
    refine lv_iconst (v := (0 : Int32)) hx hb dX11_end_11 (by decide) ?_
    refine lv_sipush (v := (600 : Int32)) hx hb dX11_end_12 (by decide) ?_
    obtain ⟨q5, hc6, ho⟩ := bd_some ho
    refine bkZ C0.1 hW (runSX (As := [.int a2, .int (0 : Int32), .int (600 : Int32)]) (rest := []) C0 hW (c_x11_outside l _ t0 a2 (0 : Int32) (600 : Int32) (r := q5) hc6) cb_X11_X11_outside_102 rfl rfl ⟨rfl, rfl⟩ ⟨Nat.le_of_ble_eq_true rfl, Nat.le_of_ble_eq_true rfl⟩ (Nat.le_of_ble_eq_true rfl) hl.1 dX11_end_15 ⟨hR.1, hR.2⟩) (fun z7 H locs hW => ?_)
    refine lv_if_eq (tgt := 24) hx hb dX11_end_18 (by decide) (fun c8 => ?_) (fun c8 => ?_)
    · replace ho := ite_t c8 ho
      refine lv_iload_n hx hb dX11_end_24 rfl (lv_at hl 1 rfl) ?_
      obtain ⟨q9, hc10, ho⟩ := bd_some ho
      refine bkI C0.1 hW (runSX (As := [.int a1]) (rest := []) C0 hW (c_j6_bitCount_0f7a4 l _ t0 a1 (r := q9) hc10) cb_X11_J6_bitCount_0f7a4_229 rfl rfl ⟨rfl, rfl⟩ ⟨Nat.le_of_ble_eq_true rfl, Nat.le_of_ble_eq_true rfl⟩ (Nat.le_of_ble_eq_true rfl) hl.1 dX11_end_25 ⟨hR.1, hR.2⟩) (fun H locs hW => ?_)
      refine lv_bipush (v := (7 : Int32)) hx hb dX11_end_28 (by decide) ?_
      refine lv_icmp_le (tgt := 36) hx hb dX11_end_30 (by decide) (fun c11 => ?_) (fun c11 => ?_)
      · replace ho := ite_t c11 ho
        refine lv_aload_n hx hb dX11_end_36 rfl (lv_at hl 0 rfl) ?_
        refine xGET_1110 C0 kw_601 hW dX11_end_37 ?_
        refine lv_iload_n hx hb dX11_end_40 rfl (lv_at hl 1 rfl) ?_
        refine lv_iload_n hx hb dX11_end_41 rfl (lv_at hl 2 rfl) ?_
        obtain ⟨q12, hc13, ho⟩ := bd_some ho
        have hq12 := mm_x9_bestEnd t0 a1 a2 _ hc13
        have hEq12 := (mm_x11_end_J45 _ _ _ ho)
        refine bkIa C0.1 hW h0 hq12 (runVX (As := [.int a1, .int a2]) (rest := []) C0 hW (c_x9_bestEnd l _ t0 a1 a2 (r := q12.1) (t' := q12.2) hc13) cb_X11_X9_bestEnd_348 9 9 rfl rfl rfl rfl rfl ⟨rfl, rfl⟩ ⟨Nat.le_of_ble_eq_true rfl, Nat.le_of_ble_eq_true rfl⟩ (Nat.le_of_ble_eq_true rfl) hl.1 dX11_end_42 (hf_of h0 hq12 hEq12)) (fun gm H locs hW => ?_)
        have h0 := mle.trans h0 hq12
        exact J45 gm _ _ ho h0 _ _ _ hW (lv_sub hl [0] rfl)
      · replace ho := ite_f c11 ho
        refine lv_bipush (v := (-3 : Int32)) hx hb dX11_end_33 (by decide) ?_
        cases ho
        exact rtIa gm C0.1 hW dX11_end_35
    · replace ho := ite_f c8 ho
      refine lv_bipush (v := (-2 : Int32)) hx hb dX11_end_21 (by decide) ?_
      cases ho
      exact rtIa gm C0.1 hW dX11_end_23
noncomputable def x9_firstToGo_B3 (v1 : Int32) (v2 : Int32) (v3 : Int32) (v4 : Int32) (t : St) : Option ((Int32 × St) ⊕ ((Int32 × St) ⊕ (St))) :=
  if (gI t 905) ≤ v4 then (some (.inr (.inr t))) else (if ((v1 >>> (v4 &&& 31)) &&& (1 : Int32)) = 0 then (nm (v4 + (1 : Int32)) (fun x11 : Int32 => some (.inl (x11, t)))) else (gd ((v4 * (601 : Int32)) + v2) (gN t 906) (nm (gA t 906 (((v4 * (601 : Int32)) + v2)).toNatClampNeg) (fun x4 : Int32 => if v3 < x4 then (nm (v4 + (1 : Int32)) (fun x6 : Int32 => some (.inl (x6, t)))) else ((x9_soonestEnd t (v1 &&& (((1 : Int32) <<< (v4 &&& 31)) ^^^ (-1 : Int32))) x4).bind (fun q7 => if q7.1 = v3 then (some (.inr (.inl (v4, q7.2)))) else (nm (v4 + (1 : Int32)) (fun x10 : Int32 => some (.inl (x10, q7.2))))))))))
theorem mm_x9_firstToGo_B3 (v1 : Int32) (v2 : Int32) (v3 : Int32) (v4 : Int32) (t : St) : MR (x9_firstToGo_B3 v1 v2 v3 v4 t) t (Sum.elim (fun (x : Int32 × St) => x.2) (Sum.elim (fun (y : Int32 × St) => y.2) (fun (y : St) => y))) := by
  unfold x9_firstToGo_B3
  exact MR_ite (MR_some mle.rfl) (MR_ite (MR_nm (fun x11 _ => MR_some mle.rfl)) (MR_gd (MR_nm (fun x4 _ => MR_ite (MR_nm (fun x6 _ => MR_some mle.rfl)) (MR_bind (mm_x9_soonestEnd t (v1 &&& (((1 : Int32) <<< (v4 &&& 31)) ^^^ (-1 : Int32))) x4) (fun q7 hq7 => MR_ite (MR_some hq7) (MR_nm (fun x10 _ => MR_some hq7))))))))
theorem mm_x9_firstToGo_L3 (v1 : Int32) (v2 : Int32) (v3 : Int32) (v4 : Int32) (t : St) : MR (lp (fun x => x9_firstToGo_B3 v1 v2 v3 x.1 x.2) (v4, t)) t (Sum.elim (fun (y : Int32 × St) => y.2) (fun (y : St) => y)) := MR_lp (p := (fun (x : Int32 × St) => x.2)) (q := (Sum.elim (fun (y : Int32 × St) => y.2) (fun (y : St) => y))) (fun x => mm_x9_firstToGo_B3 v1 v2 v3 x.1 x.2) (v4, t)
noncomputable def x9_firstToGo (t : St) (a1 : Int32) (a2 : Int32) (a3 : Int32) : Option (Int32 × St) :=
  (lp (fun x => x9_firstToGo_B3 a1 a2 a3 x.1 x.2) ((0 : Int32), t)).bind (fun y12 => (Sum.elim (fun u15 => some (u15.1, u15.2)) (fun u15 => some ((-1 : Int32), u15))) y12)
theorem mm_x9_firstToGo (t : St) (a1 : Int32) (a2 : Int32) (a3 : Int32) : MR (x9_firstToGo t a1 a2 a3) t (fun (a : Int32 × St) => a.2) := by
  unfold x9_firstToGo
  exact MR_bind (mm_x9_firstToGo_L3 a1 a2 a3 (0 : Int32) t) (fun y12 hm13 => (MR_sum y12 hm13 (fun u15 hm13 => MR_some hm13) (fun u15 hm13 => MR_some hm13)))
set_option maxHeartbeats 4000000 in
set_option maxRecDepth 100000 in
theorem x9_firstToGo_L3 {p : Program} {l : Launch} {e : Env} {s : State} {m : MethodId} {args : Array Value} {below : List Frame} {meth : Method} {c : Code} {Q : State → Prop} {D : va_G} {cI cJ cZ cR : ClassId} {am gm : Nat → Nat} {st : Nat} {A : Nat → Prop} (C0 : cxX p s m args meth c cX9_firstToGo RX9 6 (some .int) D (tyX cI cJ cZ cR) st A) {v1 : Int32} {v2 : Int32} {v3 : Int32} {y : (Int32 × St) ⊕ (St)} (hK0 : ∀ u, y = (.inl u) → ∀ (H : Heap) (locs : List Loc) (ls : Array Slot), wl D A s (wX cI cJ cZ cR am gm u.2) H locs → lv_has ls 6 [(0, .ref (am 2009)), (4, .int u.1)] → W p l e (rmN 2 47) s m args below meth c H locs 0 0 Q (F0 m 63 ls [])) (hK1 : ∀ u, y = (.inr u) → ∀ (H : Heap) (locs : List Loc) (ls : Array Slot), wl D A s (wX cI cJ cZ cR am gm u) H locs → lv_has ls 6 [(0, .ref (am 2009))] → W p l e (rmN 2 47) s m args below meth c H locs 0 0 Q (F0 m 72 ls [])) :
    ∀ (n : Nat) (v4 : Int32) (t : St), lpn (fun x => x9_firstToGo_B3 v1 v2 v3 x.1 x.2) n (v4, t) = some y → ∀ (H : Heap) (locs : List Loc) (ls : Array Slot), wl D A s (wX cI cJ cZ cR am gm t) H locs → lv_has ls 6 [(0, .ref (am 2009)), (1, .int v1), (2, .int v2), (3, .int v3), (4, .int v4)] → W p l e (rmN 2 47) s m args below meth c H locs 0 0 Q (F0 m 3 ls []) := by
  have hx := C0.1.1
  have hb := C0.1.2.1
  have hta := C0.1.2.2.2.2.2.1
  have hown := C0.1.2.2.2.2.1
  intro n
  induction n with
  | zero => intro _ _ h; cases h
  | succ n ih =>
    intro v4 t hrun H locs ls hW hl
    obtain ⟨o, ho, hrun⟩ := bd_some hrun
    unfold x9_firstToGo_B3 at ho
    refine lv_iload hx hb dX9_firstToGo_3 (lv_at hl 4 rfl) ?_
    refine lv_aload_n hx hb dX9_firstToGo_5 rfl (lv_at hl 0 rfl) ?_
    refine xGET_905 C0 kw_571 hW dX9_firstToGo_6 ?_
    refine lv_icmp_ge (tgt := 72) hx hb dX9_firstToGo_9 (by decide) (fun c1 => ?_) (fun c1 => ?_)
    · replace ho := ite_t c1 ho
      cases ho
      cases hrun
      exact hK1 _ rfl _ _ _ hW (lv_sub hl [0] rfl)
    · replace ho := ite_f c1 ho
      refine lv_iload_n hx hb dX9_firstToGo_12 rfl (lv_at hl 1 rfl) ?_
      refine lv_iload hx hb dX9_firstToGo_13 (lv_at hl 4 rfl) ?_
      refine lv_ishr hx hb dX9_firstToGo_15 ?_
      refine lv_iconst (v := (1 : Int32)) hx hb dX9_firstToGo_16 (by decide) ?_
      refine lv_iand hx hb dX9_firstToGo_17 ?_
      refine lv_if_ne (tgt := 24) hx hb dX9_firstToGo_18 (by decide) (fun c2 => ?_) (fun c2 => ?_)
      · replace ho := ite_f c2 ho
        refine lv_aload_n hx hb dX9_firstToGo_24 rfl (lv_at hl 0 rfl) ?_
        refine xGET_906 C0 kw_572 hW dX9_firstToGo_25 ?_
        refine lv_iload hx hb dX9_firstToGo_28 (lv_at hl 4 rfl) ?_
        refine lv_sipush (v := (601 : Int32)) hx hb dX9_firstToGo_30 (by decide) ?_
        refine lv_imul hx hb dX9_firstToGo_33 ?_
        refine lv_iload_n hx hb dX9_firstToGo_34 rfl (lv_at hl 2 rfl) ?_
        refine lv_iadd hx hb dX9_firstToGo_35 ?_
        obtain ⟨g3, ho⟩ := gd_some ho
        refine xLD_906 C0 hW g3 dX9_firstToGo_36 ?_
        refine lv_nmi ho (fun x4 ho => ?_)
        refine lv_istore (lv' := [(5, .int x4), (0, .ref (am 2009)), (1, .int v1), (2, .int v2), (3, .int v3), (4, .int v4)]) hx hb dX9_firstToGo_37 hl (by decide) rfl (fun ls hl => ?_)
        refine lv_iload hx hb dX9_firstToGo_39 (lv_at hl 0 rfl) ?_
        refine lv_iload_n hx hb dX9_firstToGo_41 rfl (lv_at hl 4 rfl) ?_
        refine lv_icmp_gt (tgt := 66) hx hb dX9_firstToGo_42 (by decide) (fun c5 => ?_) (fun c5 => ?_)
        · replace ho := ite_t c5 ho
          obtain ⟨x6, ex6, ho⟩ := nm_x ho
          refine lv_iinc (v := x6) (lv' := [(4, .int x6), (5, .int x4), (0, .ref (am 2009)), (1, .int v1), (2, .int v2), (3, .int v3)]) hx hb dX9_firstToGo_66 hl (k := 5) rfl (by rw [ex6]; rfl) (by decide) rfl (fun ls hl => ?_)
          clear ex6
          refine lv_goto (tgt := 3) hx hb dX9_firstToGo_69 (by decide) ?_
          cases ho
          exact ih _ _ hrun _ _ _ hW (lv_sub hl [2, 3, 4, 5, 0] rfl)
        · replace ho := ite_f c5 ho
          refine lv_aload_n hx hb dX9_firstToGo_45 rfl (lv_at hl 1 rfl) ?_
          refine lv_iload_n hx hb dX9_firstToGo_46 rfl (lv_at hl 2 rfl) ?_
          refine lv_iconst (v := (1 : Int32)) hx hb dX9_firstToGo_47 (by decide) ?_
          refine lv_iload hx hb dX9_firstToGo_48 (lv_at hl 5 rfl) ?_
          refine lv_ishl hx hb dX9_firstToGo_50 ?_
          refine lv_iconst (v := (-1 : Int32)) hx hb dX9_firstToGo_51 (by decide) ?_
          refine lv_ixor hx hb dX9_firstToGo_52 ?_
          refine lv_iand hx hb dX9_firstToGo_53 ?_
          refine lv_iload hx hb dX9_firstToGo_54 (lv_at hl 0 rfl) ?_
          obtain ⟨q7, hc8, ho⟩ := bd_some ho
          refine bkI C0.1 hW (runVX (As := [.int (v1 &&& (((1 : Int32) <<< (v4 &&& 31)) ^^^ (-1 : Int32))), .int x4]) (rest := []) C0 hW (c_x9_soonestEnd l _ t (v1 &&& (((1 : Int32) <<< (v4 &&& 31)) ^^^ (-1 : Int32))) x4 (r := q7.1) (t' := q7.2) hc8) cb_X9_X9_soonestEnd_54 9 9 rfl rfl rfl rfl rfl ⟨rfl, rfl⟩ ⟨Nat.le_of_ble_eq_true rfl, Nat.le_of_ble_eq_true rfl⟩ (Nat.le_of_ble_eq_true rfl) hl.1 dX9_firstToGo_56 ⟨Nat.le_of_ble_eq_true rfl, Nat.le_of_ble_eq_true rfl⟩) (fun H locs hW => ?_)
          refine lv_iload_n hx hb dX9_firstToGo_59 rfl (lv_at hl 4 rfl) ?_
          refine lv_icmp_ne (tgt := 66) hx hb dX9_firstToGo_60 (by decide) (fun c9 => ?_) (fun c9 => ?_)
          · replace ho := ite_f c9 ho
            obtain ⟨x10, ex10, ho⟩ := nm_x ho
            refine lv_iinc (v := x10) (lv' := [(4, .int x10), (5, .int x4), (0, .ref (am 2009)), (1, .int v1), (2, .int v2), (3, .int v3)]) hx hb dX9_firstToGo_66 hl (k := 5) rfl (by rw [ex10]; rfl) (by decide) rfl (fun ls hl => ?_)
            clear ex10
            refine lv_goto (tgt := 3) hx hb dX9_firstToGo_69 (by decide) ?_
            cases ho
            exact ih _ _ hrun _ _ _ hW (lv_sub hl [2, 3, 4, 5, 0] rfl)
          · replace ho := ite_t c9 ho
            cases ho
            cases hrun
            exact hK0 _ rfl _ _ _ hW (lv_sub hl [1, 5] rfl)
      · replace ho := ite_t c2 ho
        refine lv_goto (tgt := 66) hx hb dX9_firstToGo_21 (by decide) ?_
        obtain ⟨x11, ex11, ho⟩ := nm_x ho
        refine lv_iinc (v := x11) (lv' := [(4, .int x11), (0, .ref (am 2009)), (1, .int v1), (2, .int v2), (3, .int v3)]) hx hb dX9_firstToGo_66 hl (k := 4) rfl (by rw [ex11]; rfl) (by decide) rfl (fun ls hl => ?_)
        clear ex11
        refine lv_goto (tgt := 3) hx hb dX9_firstToGo_69 (by decide) ?_
        cases ho
        exact ih _ _ hrun _ _ _ hW (lv_sub hl [1, 2, 3, 4, 0] rfl)
set_option maxHeartbeats 4000000 in
set_option maxRecDepth 100000 in
theorem c_x9_firstToGo (l : Launch) {D : va_G} {cI cJ cZ cR : ClassId} {am gm : Nat → Nat} {st : Nat} (sz : Nat) (t : St) (a1 : Int32) (a2 : Int32) (a3 : Int32) {r : Int32} {t' : St} (ho : x9_firstToGo t a1 a2 a3 = some (r, t')) : Met l yX9_firstToGo (.code yX9_firstToGo cX9_firstToGo 6 (some .int) :: wsAll) (rmN 2 47) (va_Pc [.ref (am 2009), .int a1, .int a2, .int a3] (prX D (tyX cI cJ cZ cR) (wX cI cJ cZ cR am gm t) sz st)) (qI r D (tyX cI cJ cZ cR) (wX cI cJ cZ cR am gm t') (va_A (wX cI cJ cZ cR am gm t) sz)) 0 0 (va_A (wX cI cJ cZ cR am gm t) sz) := by
  refine Met.ofW (cc := cX9_firstToGo) (maxL := 6) (ret := (some .int)) (by decide) rfl ?_
  intro p e s m args below meth c s₁ B hml hv
  obtain ⟨rfl, ⟨hsz, hP, hK, hD0⟩, hsx⟩ := hv
  have hx := B.exec
  have hb := B.bytes
  have hts := atoms_spec (ws := (.code yX9_firstToGo cX9_firstToGo 6 (some .int) :: wsAll)) B.pre
  have hta := fun w h => hts w (List.mem_cons_of_mem _ h)
  have hown : s.vm.findClass RX9 = some m.cls := findClass_of_methodNamed B.named
  have hlocks := B.notSynchronized
  subst hsz
  have hD := hD0.self (sz := s.heap.size)
  generalize hAe : va_A (wX cI cJ cZ cR am gm t) s.heap.size = A at hD ⊢
  have hA : ∀ q : Nat, s.heap.size ≤ q → A q := fun q h => by rw [← hAe]; exact Or.inr h
  have C0 : cxX p s m ([.ref (am 2009), .int a1, .int a2, .int a3].toArray) meth c cX9_firstToGo RX9 6 (some .int) D (tyX cI cJ cZ cR) st A := ⟨⟨hx, hb, B.returns, hml, hown, hta, hlocks, hK, hA⟩, by rw [← hAe]; exact hsx⟩
  have hW : wl D A s (wX cI cJ cZ cR am gm t) s.heap [] := ⟨hP, hD, va_S.rf⟩
  have hl := lv_entry [.ref (am 2009), .int a1, .int a2, .int a3] (n := 6) (Nat.le_of_ble_eq_true rfl)
  rw [lg_entry_eq]
  generalize (lg_sl [.ref (am 2009), .int a1, .int a2, .int a3] ++ List.replicate (6 - (lg_sl [.ref (am 2009), .int a1, .int a2, .int a3]).length) Slot.unset).toArray = ls at hl ⊢
  have hl : lv_has ls 6 [(0, .ref (am 2009)), (1, .int a1), (2, .int a2), (3, .int a3)] := hl
  unfold x9_firstToGo at ho
  refine lv_iconst (v := (0 : Int32)) hx hb dX9_firstToGo_0 (by decide) ?_
  refine lv_istore (lv' := [(4, .int (0 : Int32)), (0, .ref (am 2009)), (1, .int a1), (2, .int a2), (3, .int a3)]) hx hb dX9_firstToGo_1 hl (by decide) rfl (fun ls hl => ?_)
  obtain ⟨y12, hc14, ho⟩ := bd_some ho
  obtain ⟨ny12, hc14⟩ := lp_to hc14
  refine x9_firstToGo_L3 C0 ?_ ?_ ny12 _ _ hc14 _ _ _ hW (lv_sub hl [1, 2, 3, 4, 0] rfl)
  · intro u15 hy H locs ls hW hl
    subst hy
    replace ho := sum_l ho
    refine lv_iload hx hb dX9_firstToGo_63 (lv_at hl 1 rfl) ?_
    cases ho
    exact rtI C0.1 hW dX9_firstToGo_65
  · intro u15 hy H locs ls hW hl
    subst hy
    replace ho := sum_r ho
    refine lv_iconst (v := (-1 : Int32)) hx hb dX9_firstToGo_72 (by decide) ?_
    cases ho
    exact rtI C0.1 hW dX9_firstToGo_73
noncomputable def x9_stepInOrder_B49 (v3 : Int32) (v5 : Int32) (v4 : Int32) (v6 : Int32) (v7 : Int32) (t : St) : Option ((Int32 × Int32 × Int32 × St) ⊕ ((St) ⊕ (Int32 × Int32 × St))) :=
  if v3 ≤ v7 then (some (.inr (.inr (v4, v6, t)))) else ((x9_firstToGo t v4 v6 v5).bind (fun q2 => if 0 ≤ q2.1 then (nm (v4 &&& (((1 : Int32) <<< (q2.1 &&& 31)) ^^^ (-1 : Int32))) (fun x5 : Int32 => gd ((q2.1 * (601 : Int32)) + v6) (gN q2.2 906) (nm (gA q2.2 906 (((q2.1 * (601 : Int32)) + v6)).toNatClampNeg) (fun x7 : Int32 => nm (v7 + (1 : Int32)) (fun x8 : Int32 => some (.inl (x5, x7, x8, q2.2))))))) else (some (.inr (.inl q2.2)))))
theorem mm_x9_stepInOrder_B49 (v3 : Int32) (v5 : Int32) (v4 : Int32) (v6 : Int32) (v7 : Int32) (t : St) : MR (x9_stepInOrder_B49 v3 v5 v4 v6 v7 t) t (Sum.elim (fun (x : Int32 × Int32 × Int32 × St) => x.2.2.2) (Sum.elim (fun (y : St) => y) (fun (y : Int32 × Int32 × St) => y.2.2))) := by
  unfold x9_stepInOrder_B49
  exact MR_ite (MR_some mle.rfl) (MR_bind (mm_x9_firstToGo t v4 v6 v5) (fun q2 hq2 => MR_ite (MR_nm (fun x5 _ => MR_gd (MR_nm (fun x7 _ => MR_nm (fun x8 _ => MR_some hq2))))) (MR_some hq2)))
theorem mm_x9_stepInOrder_L49 (v3 : Int32) (v5 : Int32) (v4 : Int32) (v6 : Int32) (v7 : Int32) (t : St) : MR (lp (fun x => x9_stepInOrder_B49 v3 v5 x.1 x.2.1 x.2.2.1 x.2.2.2) (v4, v6, v7, t)) t (Sum.elim (fun (y : St) => y) (fun (y : Int32 × Int32 × St) => y.2.2)) := MR_lp (p := (fun (x : Int32 × Int32 × Int32 × St) => x.2.2.2)) (q := (Sum.elim (fun (y : St) => y) (fun (y : Int32 × Int32 × St) => y.2.2))) (fun x => mm_x9_stepInOrder_B49 v3 v5 x.1 x.2.1 x.2.2.1 x.2.2.2) (v4, v6, v7, t)
noncomputable def x9_stepInOrder_J6 (t : St) (v2 : Int32) (v3 : Int32) : Option (Int32 × St) :=
  nm (((1 : Int32) <<< ((gI t 905) &&& 31)) - (1 : Int32)) (fun x9 : Int32 => (x9_soonestEnd t x9 v2).bind (fun q10 => if (601 : Int32) ≤ q10.1 then (some ((-1 : Int32), q10.2)) else (if v3 < (gI q10.2 905) then ((lp (fun x => x9_stepInOrder_B49 v3 q10.1 x.1 x.2.1 x.2.2.1 x.2.2.2) (x9, v2, (0 : Int32), q10.2)).bind (fun y14 => (Sum.elim (fun u17 => some ((-1 : Int32), u17)) (fun u17 => (x9_firstToGo u17.2.2 u17.1 u17.2.1 q10.1).bind (fun q18 => if 0 ≤ q18.1 then (gd q18.1 (gN q18.2 904) (some ((gA q18.2 904 (q18.1).toNatClampNeg), q18.2))) else (some ((-1 : Int32), q18.2))))) y14)) else (some ((-1 : Int32), q10.2)))))
theorem mm_x9_stepInOrder_J6 (t : St) (v2 : Int32) (v3 : Int32) : MR (x9_stepInOrder_J6 t v2 v3) t (fun (a : Int32 × St) => a.2) := by
  unfold x9_stepInOrder_J6
  exact MR_nm (fun x9 _ => MR_bind (mm_x9_soonestEnd t x9 v2) (fun q10 hq10 => MR_ite (MR_some hq10) (MR_ite (MR_bind (mm_x9_stepInOrder_L49 v3 q10.1 x9 v2 (0 : Int32) q10.2) (fun y14 hm15 => (MR_sum y14 hm15 (fun u17 hm15 => MR_some (mle.trans hq10 hm15)) (fun u17 hm15 => MR_bind (mm_x9_firstToGo u17.2.2 u17.1 u17.2.1 q10.1) (fun q18 hq18 => MR_ite (MR_gd (MR_some (mle.trans (mle.trans hq10 hm15) hq18))) (MR_some (mle.trans (mle.trans hq10 hm15) hq18))))))) (MR_some hq10))))
noncomputable def x9_stepInOrder (t0 : St) (a1 : Int32) (a2 : Int32) (a3 : Int32) : Option (Int32 × St) :=
  (x9_prepare t0 a1 a2).bind (fun q22 => x9_stepInOrder_J6 q22 a2 a3)
theorem mm_x9_stepInOrder (t0 : St) (a1 : Int32) (a2 : Int32) (a3 : Int32) : MR (x9_stepInOrder t0 a1 a2 a3) t0 (fun (a : Int32 × St) => a.2) := by
  unfold x9_stepInOrder
  exact MR_bind (mm_x9_prepare t0 a1 a2) (fun q22 hq22 => MR_wk hq22 (mm_x9_stepInOrder_J6 q22 a2 a3))
set_option maxHeartbeats 4000000 in
set_option maxRecDepth 100000 in
theorem x9_stepInOrder_L49 {p : Program} {l : Launch} {e : Env} {s : State} {m : MethodId} {args : Array Value} {below : List Frame} {meth : Method} {c : Code} {Q : State → Prop} {D : va_G} {cI cJ cZ cR : ClassId} {am gm : Nat → Nat} {st : Nat} {A : Nat → Prop} (C0 : cxX p s m args meth c cX9_stepInOrder RX9 9 (some .int) D (tyX cI cJ cZ cR) st A) {t0 t' : St} {cells slots : Nat} (hR : cells ≤ mC t0 t' ∧ slots ≤ mS t0 t') {v3 : Int32} {v5 : Int32} {y : (St) ⊕ (Int32 × Int32 × St)} (hK0 : ∀ u, y = (.inl u) → ∀ (H : Heap) (locs : List Loc) (ls : Array Slot), wl D A s (wX cI cJ cZ cR am gm u) H locs → lv_has ls 9 [(0, .ref (am 2009))] → W p l e (rmA 3 72 t0 t') s m args below meth c H locs cells slots Q (F0 m 72 ls [])) (hK1 : ∀ u, y = (.inr u) → ∀ (H : Heap) (locs : List Loc) (ls : Array Slot), wl D A s (wX cI cJ cZ cR am gm u.2.2) H locs → lv_has ls 9 [(0, .ref (am 2009)), (4, .int u.1), (5, .int v5), (6, .int u.2.1)] → W p l e (rmA 3 72 t0 t') s m args below meth c H locs cells slots Q (F0 m 107 ls [])) :
    ∀ (n : Nat) (v4 : Int32) (v6 : Int32) (v7 : Int32) (t : St), lpn (fun x => x9_stepInOrder_B49 v3 v5 x.1 x.2.1 x.2.2.1 x.2.2.2) n (v4, v6, v7, t) = some y → ∀ (H : Heap) (locs : List Loc) (ls : Array Slot), wl D A s (wX cI cJ cZ cR am gm t) H locs → lv_has ls 9 [(0, .ref (am 2009)), (3, .int v3), (4, .int v4), (5, .int v5), (6, .int v6), (7, .int v7)] → W p l e (rmA 3 72 t0 t') s m args below meth c H locs cells slots Q (F0 m 49 ls []) := by
  have hx := C0.1.1
  have hb := C0.1.2.1
  have hta := C0.1.2.2.2.2.2.1
  have hown := C0.1.2.2.2.2.1
  intro n
  induction n with
  | zero => intro _ _ _ _ h; cases h
  | succ n ih =>
    intro v4 v6 v7 t hrun H locs ls hW hl
    obtain ⟨o, ho, hrun⟩ := bd_some hrun
    unfold x9_stepInOrder_B49 at ho
    refine lv_iload hx hb dX9_stepInOrder_49 (lv_at hl 5 rfl) ?_
    refine lv_iload_n hx hb dX9_stepInOrder_51 rfl (lv_at hl 1 rfl) ?_
    refine lv_icmp_ge (tgt := 107) hx hb dX9_stepInOrder_52 (by decide) (fun c1 => ?_) (fun c1 => ?_)
    · replace ho := ite_t c1 ho
      cases ho
      cases hrun
      exact hK1 _ rfl _ _ _ hW (lv_sub hl [0, 2, 3, 4] rfl)
    · replace ho := ite_f c1 ho
      refine lv_aload_n hx hb dX9_stepInOrder_55 rfl (lv_at hl 0 rfl) ?_
      refine lv_iload hx hb dX9_stepInOrder_56 (lv_at hl 2 rfl) ?_
      refine lv_iload hx hb dX9_stepInOrder_58 (lv_at hl 4 rfl) ?_
      refine lv_iload hx hb dX9_stepInOrder_60 (lv_at hl 3 rfl) ?_
      obtain ⟨q2, hc3, ho⟩ := bd_some ho
      have hq2 := mm_x9_firstToGo t v4 v6 v5 _ hc3
      refine bkI C0.1 hW (runVX (As := [.int v4, .int v6, .int v5]) (rest := []) C0 hW (c_x9_firstToGo l _ t v4 v6 v5 (r := q2.1) (t' := q2.2) hc3) cb_X9_X9_firstToGo_57 9 9 rfl rfl rfl rfl rfl ⟨rfl, rfl⟩ ⟨Nat.le_of_ble_eq_true rfl, Nat.le_of_ble_eq_true rfl⟩ (Nat.le_of_ble_eq_true rfl) hl.1 dX9_stepInOrder_62 ⟨hR.1, hR.2⟩) (fun H locs hW => ?_)
      refine lv_istore (lv' := [(8, .int q2.1), (0, .ref (am 2009)), (3, .int v3), (4, .int v4), (5, .int v5), (6, .int v6), (7, .int v7)]) hx hb dX9_stepInOrder_65 hl (by decide) rfl (fun ls hl => ?_)
      refine lv_iload hx hb dX9_stepInOrder_67 (lv_at hl 0 rfl) ?_
      refine lv_if_ge (tgt := 74) hx hb dX9_stepInOrder_69 (by decide) (fun c4 => ?_) (fun c4 => ?_)
      · replace ho := ite_t c4 ho
        refine lv_iload hx hb dX9_stepInOrder_74 (lv_at hl 3 rfl) ?_
        refine lv_iconst (v := (1 : Int32)) hx hb dX9_stepInOrder_76 (by decide) ?_
        refine lv_iload hx hb dX9_stepInOrder_77 (lv_at hl 0 rfl) ?_
        refine lv_ishl hx hb dX9_stepInOrder_79 ?_
        refine lv_iconst (v := (-1 : Int32)) hx hb dX9_stepInOrder_80 (by decide) ?_
        refine lv_ixor hx hb dX9_stepInOrder_81 ?_
        refine lv_iand hx hb dX9_stepInOrder_82 ?_
        refine lv_nmi ho (fun x5 ho => ?_)
        refine lv_istore (lv' := [(4, .int x5), (8, .int q2.1), (0, .ref (am 2009)), (3, .int v3), (5, .int v5), (6, .int v6), (7, .int v7)]) hx hb dX9_stepInOrder_83 hl (by decide) rfl (fun ls hl => ?_)
        refine lv_aload_n hx hb dX9_stepInOrder_85 rfl (lv_at hl 2 rfl) ?_
        refine xGET_906 C0 kw_572 hW dX9_stepInOrder_86 ?_
        refine lv_iload hx hb dX9_stepInOrder_89 (lv_at hl 1 rfl) ?_
        refine lv_sipush (v := (601 : Int32)) hx hb dX9_stepInOrder_91 (by decide) ?_
        refine lv_imul hx hb dX9_stepInOrder_94 ?_
        refine lv_iload hx hb dX9_stepInOrder_95 (lv_at hl 5 rfl) ?_
        refine lv_iadd hx hb dX9_stepInOrder_97 ?_
        obtain ⟨g6, ho⟩ := gd_some ho
        refine xLD_906 C0 hW g6 dX9_stepInOrder_98 ?_
        refine lv_nmi ho (fun x7 ho => ?_)
        refine lv_istore (lv' := [(6, .int x7), (4, .int x5), (8, .int q2.1), (0, .ref (am 2009)), (3, .int v3), (5, .int v5), (7, .int v7)]) hx hb dX9_stepInOrder_99 hl (by decide) rfl (fun ls hl => ?_)
        obtain ⟨x8, ex8, ho⟩ := nm_x ho
        refine lv_iinc (v := x8) (lv' := [(7, .int x8), (6, .int x7), (4, .int x5), (8, .int q2.1), (0, .ref (am 2009)), (3, .int v3), (5, .int v5)]) hx hb dX9_stepInOrder_101 hl (k := 6) rfl (by rw [ex8]; rfl) (by decide) rfl (fun ls hl => ?_)
        clear ex8
        refine lv_goto (tgt := 49) hx hb dX9_stepInOrder_104 (by decide) ?_
        cases ho
        exact ih _ _ _ _ hrun _ _ _ hW (lv_sub hl [4, 5, 2, 6, 1, 0] rfl)
      · replace ho := ite_f c4 ho
        cases ho
        cases hrun
        exact hK0 _ rfl _ _ _ hW (lv_sub hl [1] rfl)
set_option maxHeartbeats 4000000 in
set_option maxRecDepth 100000 in
theorem c_x9_stepInOrder (l : Launch) {D : va_G} {cI cJ cZ cR : ClassId} {am gm : Nat → Nat} {st : Nat} (sz : Nat) (t0 : St) (a1 : Int32) (a2 : Int32) (a3 : Int32) {r : Int32} {t' : St} (ho : x9_stepInOrder t0 a1 a2 a3 = some (r, t')) : Met l yX9_stepInOrder (.code yX9_stepInOrder cX9_stepInOrder 9 (some .int) :: wsAll) (rmA 3 72 t0 t') (va_Pc [.ref (am 2009), .int a1, .int a2, .int a3] (prX D (tyX cI cJ cZ cR) (wX cI cJ cZ cR am gm t0) sz st)) (qIa r D (tyX cI cJ cZ cR) (fun gm => wX cI cJ cZ cR am gm t') (va_A (wX cI cJ cZ cR am gm t0) sz)) (mC t0 t') (mS t0 t') (va_A (wX cI cJ cZ cR am gm t0) sz) := by
  refine Met.ofW (cc := cX9_stepInOrder) (maxL := 9) (ret := (some .int)) (by decide) rfl ?_
  intro p e s m args below meth c s₁ B hml hv
  obtain ⟨rfl, ⟨hsz, hP, hK, hD0⟩, hsx⟩ := hv
  have hx := B.exec
  have hb := B.bytes
  have hts := atoms_spec (ws := (.code yX9_stepInOrder cX9_stepInOrder 9 (some .int) :: wsAll)) B.pre
  have hta := fun w h => hts w (List.mem_cons_of_mem _ h)
  have hown : s.vm.findClass RX9 = some m.cls := findClass_of_methodNamed B.named
  have hlocks := B.notSynchronized
  subst hsz
  have hD := hD0.self (sz := s.heap.size)
  generalize hAe : va_A (wX cI cJ cZ cR am gm t0) s.heap.size = A at hD ⊢
  have hA : ∀ q : Nat, s.heap.size ≤ q → A q := fun q h => by rw [← hAe]; exact Or.inr h
  have C0 : cxX p s m ([.ref (am 2009), .int a1, .int a2, .int a3].toArray) meth c cX9_stepInOrder RX9 9 (some .int) D (tyX cI cJ cZ cR) st A := ⟨⟨hx, hb, B.returns, hml, hown, hta, hlocks, hK, hA⟩, by rw [← hAe]; exact hsx⟩
  have hW : wl D A s (wX cI cJ cZ cR am gm t0) s.heap [] := ⟨hP, hD, va_S.rf⟩
  have hl := lv_entry [.ref (am 2009), .int a1, .int a2, .int a3] (n := 9) (Nat.le_of_ble_eq_true rfl)
  rw [lg_entry_eq]
  generalize (lg_sl [.ref (am 2009), .int a1, .int a2, .int a3] ++ List.replicate (9 - (lg_sl [.ref (am 2009), .int a1, .int a2, .int a3]).length) Slot.unset).toArray = ls at hl ⊢
  have hl : lv_has ls 9 [(0, .ref (am 2009)), (1, .int a1), (2, .int a2), (3, .int a3)] := hl
  clear hAe hD hP hD0 hts
  have J6 : ∀ (gm : Nat → Nat) (t : St) (v2 : Int32) (v3 : Int32) (_ : x9_stepInOrder_J6 t v2 v3 = some (r, t')) (_ : mle t0 t) (H : Heap) (locs : List Loc) (ls : Array Slot), wl D A s (wX cI cJ cZ cR am gm t) H locs → lv_has ls 9 [(0, .ref (am 2009)), (2, .int v2), (3, .int v3)] → W p l e (rmA 3 72 t0 t') s m ([.ref (am 2009), .int a1, .int a2, .int a3].toArray) below meth c H locs (mC t0 t) (mS t0 t) (MQ below (qIa r D (tyX cI cJ cZ cR) (fun gm => wX cI cJ cZ cR am gm t') A) ([.ref (am 2009), .int a1, .int a2, .int a3].toArray) s (mC t0 t') (mS t0 t') A) (F0 m 6 ls []) := by
    intro gm t v2 v3 ho h0 H locs ls hW hl
    have hE : mle t t' := (mm_x9_stepInOrder_J6 _ _ _ _ ho)
    have hR := hR_of (t0 := t0) hE
    unfold x9_stepInOrder_J6 at ho
    refine lv_iconst (v := (1 : Int32)) hx hb dX9_stepInOrder_6 (by decide) ?_
    refine lv_aload_n hx hb dX9_stepInOrder_7 rfl (lv_at hl 0 rfl) ?_
    refine xGET_905 C0 kw_571 hW dX9_stepInOrder_8 ?_
    refine lv_ishl hx hb dX9_stepInOrder_11 ?_
    refine lv_iconst (v := (1 : Int32)) hx hb dX9_stepInOrder_12 (by decide) ?_
    refine lv_isub hx hb dX9_stepInOrder_13 ?_
    refine lv_nmi ho (fun x9 ho => ?_)
    refine lv_istore (lv' := [(4, .int x9), (0, .ref (am 2009)), (2, .int v2), (3, .int v3)]) hx hb dX9_stepInOrder_14 hl (by decide) rfl (fun ls hl => ?_)
    refine lv_aload_n hx hb dX9_stepInOrder_16 rfl (lv_at hl 1 rfl) ?_
    refine lv_iload hx hb dX9_stepInOrder_17 (lv_at hl 0 rfl) ?_
    refine lv_iload_n hx hb dX9_stepInOrder_19 rfl (lv_at hl 2 rfl) ?_
    obtain ⟨q10, hc11, ho⟩ := bd_some ho
    have hq10 := mm_x9_soonestEnd t x9 v2 _ hc11
    refine bkI C0.1 hW (runVX (As := [.int x9, .int v2]) (rest := []) C0 hW (c_x9_soonestEnd l _ t x9 v2 (r := q10.1) (t' := q10.2) hc11) cb_X9_X9_soonestEnd_54 9 9 rfl rfl rfl rfl rfl ⟨rfl, rfl⟩ ⟨Nat.le_of_ble_eq_true rfl, Nat.le_of_ble_eq_true rfl⟩ (Nat.le_of_ble_eq_true rfl) hl.1 dX9_stepInOrder_20 ⟨hR.1, hR.2⟩) (fun H locs hW => ?_)
    refine lv_istore (lv' := [(5, .int q10.1), (4, .int x9), (0, .ref (am 2009)), (2, .int v2), (3, .int v3)]) hx hb dX9_stepInOrder_23 hl (by decide) rfl (fun ls hl => ?_)
    refine lv_iload hx hb dX9_stepInOrder_25 (lv_at hl 0 rfl) ?_
    refine lv_sipush (v := (601 : Int32)) hx hb dX9_stepInOrder_27 (by decide) ?_
    refine lv_icmp_ge (tgt := 41) hx hb dX9_stepInOrder_30 (by decide) (fun c12 => ?_) (fun c12 => ?_)
    · replace ho := ite_t c12 ho
      refine lv_iconst (v := (-1 : Int32)) hx hb dX9_stepInOrder_41 (by decide) ?_
      refine W_up h0 hq10 ?_
      cases ho
      exact rtIa gm C0.1 hW dX9_stepInOrder_42
    · replace ho := ite_f c12 ho
      refine lv_iload_n hx hb dX9_stepInOrder_33 rfl (lv_at hl 4 rfl) ?_
      refine lv_aload_n hx hb dX9_stepInOrder_34 rfl (lv_at hl 2 rfl) ?_
      refine xGET_905 C0 kw_571 hW dX9_stepInOrder_35 ?_
      refine lv_icmp_lt (tgt := 43) hx hb dX9_stepInOrder_38 (by decide) (fun c13 => ?_) (fun c13 => ?_)
      · replace ho := ite_t c13 ho
        refine lv_iload_n hx hb dX9_stepInOrder_43 rfl (lv_at hl 3 rfl) ?_
        refine lv_istore (lv' := [(6, .int v2), (5, .int q10.1), (4, .int x9), (0, .ref (am 2009)), (2, .int v2), (3, .int v3)]) hx hb dX9_stepInOrder_44 hl (by decide) rfl (fun ls hl => ?_)
        refine lv_iconst (v := (0 : Int32)) hx hb dX9_stepInOrder_46 (by decide) ?_
        refine lv_istore (lv' := [(7, .int (0 : Int32)), (6, .int v2), (5, .int q10.1), (4, .int x9), (0, .ref (am 2009)), (2, .int v2), (3, .int v3)]) hx hb dX9_stepInOrder_47 hl (by decide) rfl (fun ls hl => ?_)
        obtain ⟨y14, hc16, ho⟩ := bd_some ho
        have hm15 := mm_x9_stepInOrder_L49 v3 q10.1 x9 v2 (0 : Int32) q10.2 _ hc16
        obtain ⟨ny14, hc16⟩ := lp_to hc16
        refine x9_stepInOrder_L49 C0 hR ?_ ?_ ny14 _ _ _ _ hc16 _ _ _ hW (lv_sub hl [4, 6, 3, 2, 1, 0] rfl)
        · intro u17 hy H locs ls hW hl
          subst hy
          replace ho := sum_l ho
          refine lv_iconst (v := (-1 : Int32)) hx hb dX9_stepInOrder_72 (by decide) ?_
          refine W_up h0 (mle.trans hq10 hm15) ?_
          cases ho
          exact rtIa gm C0.1 hW dX9_stepInOrder_73
        · intro u17 hy H locs ls hW hl
          subst hy
          replace ho := sum_r ho
          refine lv_aload_n hx hb dX9_stepInOrder_107 rfl (lv_at hl 0 rfl) ?_
          refine lv_iload hx hb dX9_stepInOrder_108 (lv_at hl 1 rfl) ?_
          refine lv_iload hx hb dX9_stepInOrder_110 (lv_at hl 3 rfl) ?_
          refine lv_iload hx hb dX9_stepInOrder_112 (lv_at hl 2 rfl) ?_
          obtain ⟨q18, hc19, ho⟩ := bd_some ho
          have hq18 := mm_x9_firstToGo u17.2.2 u17.1 u17.2.1 q10.1 _ hc19
          refine bkI C0.1 hW (runVX (As := [.int u17.1, .int u17.2.1, .int q10.1]) (rest := []) C0 hW (c_x9_firstToGo l _ u17.2.2 u17.1 u17.2.1 q10.1 (r := q18.1) (t' := q18.2) hc19) cb_X9_X9_firstToGo_57 9 9 rfl rfl rfl rfl rfl ⟨rfl, rfl⟩ ⟨Nat.le_of_ble_eq_true rfl, Nat.le_of_ble_eq_true rfl⟩ (Nat.le_of_ble_eq_true rfl) hl.1 dX9_stepInOrder_114 ⟨hR.1, hR.2⟩) (fun H locs hW => ?_)
          refine lv_istore (lv' := [(7, .int q18.1), (0, .ref (am 2009)), (4, .int u17.1), (5, .int q10.1), (6, .int u17.2.1)]) hx hb dX9_stepInOrder_117 hl (by decide) rfl (fun ls hl => ?_)
          refine lv_iload hx hb dX9_stepInOrder_119 (lv_at hl 0 rfl) ?_
          refine lv_if_ge (tgt := 128) hx hb dX9_stepInOrder_121 (by decide) (fun c20 => ?_) (fun c20 => ?_)
          · replace ho := ite_t c20 ho
            refine lv_aload_n hx hb dX9_stepInOrder_128 rfl (lv_at hl 1 rfl) ?_
            refine xGET_904 C0 kw_570 hW dX9_stepInOrder_129 ?_
            refine lv_iload hx hb dX9_stepInOrder_132 (lv_at hl 0 rfl) ?_
            obtain ⟨g21, ho⟩ := gd_some ho
            refine xLD_904 C0 hW g21 dX9_stepInOrder_134 ?_
            refine W_up h0 (mle.trans (mle.trans hq10 hm15) hq18) ?_
            cases ho
            exact rtIa gm C0.1 hW dX9_stepInOrder_135
          · replace ho := ite_f c20 ho
            refine lv_iconst (v := (-1 : Int32)) hx hb dX9_stepInOrder_124 (by decide) ?_
            refine lv_goto (tgt := 135) hx hb dX9_stepInOrder_125 (by decide) ?_
            refine W_up h0 (mle.trans (mle.trans hq10 hm15) hq18) ?_
            cases ho
            exact rtIa gm C0.1 hW dX9_stepInOrder_135
      · replace ho := ite_f c13 ho
        refine lv_iconst (v := (-1 : Int32)) hx hb dX9_stepInOrder_41 (by decide) ?_
        refine W_up h0 hq10 ?_
        cases ho
        exact rtIa gm C0.1 hW dX9_stepInOrder_42
  have hE : mle t0 t' := mm_x9_stepInOrder _ _ _ _ _ ho
  have hR := hR_of (t0 := t0) hE
  have h0 : mle t0 t0 := mle.rfl
  refine W_0 (t0 := t0) ?_
  unfold x9_stepInOrder at ho
  refine lv_aload_n hx hb dX9_stepInOrder_0 rfl (lv_at hl 0 rfl) ?_
  refine lv_iload_n hx hb dX9_stepInOrder_1 rfl (lv_at hl 1 rfl) ?_
  refine lv_iload_n hx hb dX9_stepInOrder_2 rfl (lv_at hl 2 rfl) ?_
  obtain ⟨q22, hc23, ho⟩ := bd_some ho
  have hq22 := mm_x9_prepare t0 a1 a2 _ hc23
  have hEq22 := (mm_x9_stepInOrder_J6 _ _ _ _ ho)
  refine bkVa C0.1 hW h0 hq22 (runVX (As := [.int a1, .int a2]) (rest := []) C0 hW (c_x9_prepare l _ t0 a1 a2 (t' := q22) hc23) cb_X9_X9_prepare_50 9 9 rfl rfl rfl rfl rfl ⟨rfl, rfl⟩ ⟨Nat.le_of_ble_eq_true rfl, Nat.le_of_ble_eq_true rfl⟩ (Nat.le_of_ble_eq_true rfl) hl.1 dX9_stepInOrder_3 (hf_of h0 hq22 hEq22)) (fun gm H locs hW => ?_)
  have h0 := mle.trans h0 hq22
  exact J6 gm _ _ _ ho h0 _ _ _ hW (lv_sub hl [0, 2, 3] rfl)
noncomputable def x11_orderAt_J50 (t : St) (w0 : Int32) : Option (Int32 × St) :=
  some (w0, t)
theorem mm_x11_orderAt_J50 (t : St) (w0 : Int32) : MR (x11_orderAt_J50 t w0) t (fun (a : Int32 × St) => a.2) := by
  unfold x11_orderAt_J50
  exact MR_some mle.rfl
noncomputable def x11_orderAt (t0 : St) (a1 : Int32) (a2 : Int32) (a3 : Int32) : Option (Int32 × St) :=
  (x11_outside t0 a1 (0 : Int32) (65535 : Int32)).bind (fun q1 => if q1 = 0 then ((x11_outside t0 a2 (0 : Int32) (600 : Int32)).bind (fun q5 => if q5 = 0 then (if 0 ≤ a3 then ((j6_bitCount_0f7a4 t0 a1).bind (fun q10 => if q10 ≤ (7 : Int32) then ((x9_stepInOrder t0 a1 a2 a3).bind (fun q13 => x11_orderAt_J50 q13.2 q13.1)) else (some ((-3 : Int32), t0)))) else (some ((-2 : Int32), t0))) else (some ((-2 : Int32), t0)))) else (some ((-2 : Int32), t0)))
theorem mm_x11_orderAt (t0 : St) (a1 : Int32) (a2 : Int32) (a3 : Int32) : MR (x11_orderAt t0 a1 a2 a3) t0 (fun (a : Int32 × St) => a.2) := by
  unfold x11_orderAt
  exact MR_bindn (fun q1 => MR_ite (MR_bindn (fun q5 => MR_ite (MR_ite (MR_bindn (fun q10 => MR_ite (MR_bind (mm_x9_stepInOrder t0 a1 a2 a3) (fun q13 hq13 => MR_wk hq13 (mm_x11_orderAt_J50 q13.2 q13.1))) (MR_some mle.rfl))) (MR_some mle.rfl)) (MR_some mle.rfl))) (MR_some mle.rfl))
set_option maxHeartbeats 4000000 in
set_option maxRecDepth 100000 in
theorem c_x11_orderAt (l : Launch) {D : va_G} {cI cJ cZ cR : ClassId} {am gm : Nat → Nat} {st : Nat} (sz : Nat) (t0 : St) (a1 : Int32) (a2 : Int32) (a3 : Int32) {r : Int32} {t' : St} (ho : x11_orderAt t0 a1 a2 a3 = some (r, t')) : Met l yX11_orderAt (.code yX11_orderAt cX11_orderAt 4 (some .int) :: wsAll) (rmA 4 100 t0 t') (va_Pc [.ref (am 2011), .int a1, .int a2, .int a3] (prX D (tyX cI cJ cZ cR) (wX cI cJ cZ cR am gm t0) sz st)) (qIa r D (tyX cI cJ cZ cR) (fun gm => wX cI cJ cZ cR am gm t') (va_A (wX cI cJ cZ cR am gm t0) sz)) (mC t0 t') (mS t0 t') (va_A (wX cI cJ cZ cR am gm t0) sz) := by
  refine Met.ofW (cc := cX11_orderAt) (maxL := 4) (ret := (some .int)) (by decide) rfl ?_
  intro p e s m args below meth c s₁ B hml hv
  obtain ⟨rfl, ⟨hsz, hP, hK, hD0⟩, hsx⟩ := hv
  have hx := B.exec
  have hb := B.bytes
  have hts := atoms_spec (ws := (.code yX11_orderAt cX11_orderAt 4 (some .int) :: wsAll)) B.pre
  have hta := fun w h => hts w (List.mem_cons_of_mem _ h)
  have hown : s.vm.findClass RX11 = some m.cls := findClass_of_methodNamed B.named
  have hlocks := B.notSynchronized
  subst hsz
  have hD := hD0.self (sz := s.heap.size)
  generalize hAe : va_A (wX cI cJ cZ cR am gm t0) s.heap.size = A at hD ⊢
  have hA : ∀ q : Nat, s.heap.size ≤ q → A q := fun q h => by rw [← hAe]; exact Or.inr h
  have C0 : cxX p s m ([.ref (am 2011), .int a1, .int a2, .int a3].toArray) meth c cX11_orderAt RX11 4 (some .int) D (tyX cI cJ cZ cR) st A := ⟨⟨hx, hb, B.returns, hml, hown, hta, hlocks, hK, hA⟩, by rw [← hAe]; exact hsx⟩
  have hW : wl D A s (wX cI cJ cZ cR am gm t0) s.heap [] := ⟨hP, hD, va_S.rf⟩
  have hl := lv_entry [.ref (am 2011), .int a1, .int a2, .int a3] (n := 4) (Nat.le_of_ble_eq_true rfl)
  rw [lg_entry_eq]
  generalize (lg_sl [.ref (am 2011), .int a1, .int a2, .int a3] ++ List.replicate (4 - (lg_sl [.ref (am 2011), .int a1, .int a2, .int a3]).length) Slot.unset).toArray = ls at hl ⊢
  have hl : lv_has ls 4 [(0, .ref (am 2011)), (1, .int a1), (2, .int a2), (3, .int a3)] := hl
  clear hAe hD hP hD0 hts
  have J50 : ∀ (gm : Nat → Nat) (t : St) (w0 : Int32) (_ : x11_orderAt_J50 t w0 = some (r, t')) (_ : mle t0 t) (H : Heap) (locs : List Loc) (ls : Array Slot), wl D A s (wX cI cJ cZ cR am gm t) H locs → lv_has ls 4 [(0, .ref (am 2011))] → W p l e (rmA 4 100 t0 t') s m ([.ref (am 2011), .int a1, .int a2, .int a3].toArray) below meth c H locs (mC t0 t) (mS t0 t) (MQ below (qIa r D (tyX cI cJ cZ cR) (fun gm => wX cI cJ cZ cR am gm t') A) ([.ref (am 2011), .int a1, .int a2, .int a3].toArray) s (mC t0 t') (mS t0 t') A) (F0 m 50 ls [.int w0]) := by
    intro gm t w0 ho h0 H locs ls hW hl
    have hE : mle t t' := (mm_x11_orderAt_J50 _ _ _ ho)
    have hR := hR_of (t0 := t0) hE
    unfold x11_orderAt_J50 at ho
    cases ho
    exact rtIa gm C0.1 hW dX11_orderAt_50
  have hE : mle t0 t' := mm_x11_orderAt _ _ _ _ _ ho
  have hR := hR_of (t0 := t0) hE
  have h0 : mle t0 t0 := mle.rfl
  refine W_0 (t0 := t0) ?_
  unfold x11_orderAt at ho
  refine lv_iload_n hx hb dX11_orderAt_0 rfl (lv_at hl 1 rfl) ?_
  refine lv_iconst (v := (0 : Int32)) hx hb dX11_orderAt_1 (by decide) ?_
  refine lv_ldc hx hb hown (hta _ kw_798) dX11_orderAt_2 ?_
  obtain ⟨q1, hc2, ho⟩ := bd_some ho
  refine bkZ C0.1 hW (runSX (As := [.int a1, .int (0 : Int32), .int (65535 : Int32)]) (rest := []) C0 hW (c_x11_outside l _ t0 a1 (0 : Int32) (65535 : Int32) (r := q1) hc2) cb_X11_X11_outside_102 rfl rfl ⟨rfl, rfl⟩ ⟨Nat.le_of_ble_eq_true rfl, Nat.le_of_ble_eq_true rfl⟩ (Nat.le_of_ble_eq_true rfl) hl.1 dX11_orderAt_4 ⟨hR.1, hR.2⟩) (fun z3 H locs hW => ?_)
  refine lv_if_ne (tgt := 25) hx hb dX11_orderAt_7 (by decide) (fun c4 => ?_) (fun c4 => ?_)
  · replace ho := ite_f c4 ho
    refine lv_bipush (v := (-2 : Int32)) hx hb dX11_orderAt_25 (by decide) ?_
    cases ho
    exact rtIa gm C0.1 hW dX11_orderAt_27
  · replace ho := ite_t c4 ho
    refine lv_iload_n hx hb dX11_orderAt_10 rfl (lv_at hl 2 rfl) ?_
    refine lv_iconst (v := (0 : Int32)) hx hb dX11_orderAt_11 (by decide) ?_
    refine lv_sipush (v := (600 : Int32)) hx hb dX11_orderAt_12 (by decide) ?_
    obtain ⟨q5, hc6, ho⟩ := bd_some ho
    refine bkZ C0.1 hW (runSX (As := [.int a2, .int (0 : Int32), .int (600 : Int32)]) (rest := []) C0 hW (c_x11_outside l _ t0 a2 (0 : Int32) (600 : Int32) (r := q5) hc6) cb_X11_X11_outside_102 rfl rfl ⟨rfl, rfl⟩ ⟨Nat.le_of_ble_eq_true rfl, Nat.le_of_ble_eq_true rfl⟩ (Nat.le_of_ble_eq_true rfl) hl.1 dX11_orderAt_15 ⟨hR.1, hR.2⟩) (fun z7 H locs hW => ?_)
    refine lv_if_ne (tgt := 25) hx hb dX11_orderAt_18 (by decide) (fun c8 => ?_) (fun c8 => ?_)
    · replace ho := ite_f c8 ho
      refine lv_bipush (v := (-2 : Int32)) hx hb dX11_orderAt_25 (by decide) ?_
      cases ho
      exact rtIa gm C0.1 hW dX11_orderAt_27
    · replace ho := ite_t c8 ho
      refine lv_iload_n hx hb dX11_orderAt_21 rfl (lv_at hl 3 rfl) ?_
      refine lv_if_ge (tgt := 28) hx hb dX11_orderAt_22 (by decide) (fun c9 => ?_) (fun c9 => ?_)
      · replace ho := ite_t c9 ho
        refine lv_iload_n hx hb dX11_orderAt_28 rfl (lv_at hl 1 rfl) ?_
        obtain ⟨q10, hc11, ho⟩ := bd_some ho
        refine bkI C0.1 hW (runSX (As := [.int a1]) (rest := []) C0 hW (c_j6_bitCount_0f7a4 l _ t0 a1 (r := q10) hc11) cb_X11_J6_bitCount_0f7a4_229 rfl rfl ⟨rfl, rfl⟩ ⟨Nat.le_of_ble_eq_true rfl, Nat.le_of_ble_eq_true rfl⟩ (Nat.le_of_ble_eq_true rfl) hl.1 dX11_orderAt_29 ⟨hR.1, hR.2⟩) (fun H locs hW => ?_)
        refine lv_bipush (v := (7 : Int32)) hx hb dX11_orderAt_32 (by decide) ?_
        refine lv_icmp_le (tgt := 40) hx hb dX11_orderAt_34 (by decide) (fun c12 => ?_) (fun c12 => ?_)
        · replace ho := ite_t c12 ho
          refine lv_aload_n hx hb dX11_orderAt_40 rfl (lv_at hl 0 rfl) ?_
          refine xGET_1110 C0 kw_601 hW dX11_orderAt_41 ?_
          refine lv_iload_n hx hb dX11_orderAt_44 rfl (lv_at hl 1 rfl) ?_
          refine lv_iload_n hx hb dX11_orderAt_45 rfl (lv_at hl 2 rfl) ?_
          refine lv_iload_n hx hb dX11_orderAt_46 rfl (lv_at hl 3 rfl) ?_
          obtain ⟨q13, hc14, ho⟩ := bd_some ho
          have hq13 := mm_x9_stepInOrder t0 a1 a2 a3 _ hc14
          have hEq13 := (mm_x11_orderAt_J50 _ _ _ ho)
          refine bkIa C0.1 hW h0 hq13 (runVX (As := [.int a1, .int a2, .int a3]) (rest := []) C0 hW (c_x9_stepInOrder l _ t0 a1 a2 a3 (r := q13.1) (t' := q13.2) hc14) cb_X11_X9_stepInOrder_351 9 9 rfl rfl rfl rfl rfl ⟨rfl, rfl⟩ ⟨Nat.le_of_ble_eq_true rfl, Nat.le_of_ble_eq_true rfl⟩ (Nat.le_of_ble_eq_true rfl) hl.1 dX11_orderAt_47 (hf_of h0 hq13 hEq13)) (fun gm H locs hW => ?_)
          have h0 := mle.trans h0 hq13
          exact J50 gm _ _ ho h0 _ _ _ hW (lv_sub hl [0] rfl)
        · replace ho := ite_f c12 ho
          refine lv_bipush (v := (-3 : Int32)) hx hb dX11_orderAt_37 (by decide) ?_
          cases ho
          exact rtIa gm C0.1 hW dX11_orderAt_39
      · replace ho := ite_f c9 ho
        refine lv_bipush (v := (-2 : Int32)) hx hb dX11_orderAt_25 (by decide) ?_
        cases ho
        exact rtIa gm C0.1 hW dX11_orderAt_27
noncomputable def x5_keep (t : St) (a1 : Int32) : Option (St) :=
  gd a1 2 (cpk (0 : Int32) (0 : Int32) (Int32.ofNat (gN t 500)) (gN t 500) (imN t (a1).toNatClampNeg) (nm (imS t (a1).toNatClampNeg (va_cpy (gA t 500) (imG t (a1).toNatClampNeg) ((0 : Int32)).toNatClampNeg ((0 : Int32)).toNatClampNeg ((Int32.ofNat (gN t 500))).toNatClampNeg)) (fun t3 : St => gd a1 (gN t3 502) (nm (sA t3 502 a1 (vp_nar .boolean (1 : Int32))) (fun t5 : St => some t5)))))
theorem mm_x5_keep (t : St) (a1 : Int32) : MR (x5_keep t a1) t (fun (a : St) => a) := by
  unfold x5_keep
  exact MR_gd (MR_cpk (MR_nmS mle_imS (fun t3 ht3 => MR_gd (MR_nmS mle_sA (fun t5 ht5 => MR_some (mle.trans ht3 ht5))))))
set_option maxHeartbeats 4000000 in
set_option maxRecDepth 100000 in
theorem c_x5_keep (l : Launch) {D : va_G} {cI cJ cZ cR : ClassId} {am gm : Nat → Nat} {st : Nat} (sz : Nat) (t : St) (a1 : Int32) {t' : St} (ho : x5_keep t a1 = some t') : Met l yX5_keep (.code yX5_keep cX5_keep 2 none :: wsAll) (rmN 1 60) (va_Pc [.ref (am 2005), .int a1] (prX D (tyX cI cJ cZ cR) (wX cI cJ cZ cR am gm t) sz st)) (qV D (tyX cI cJ cZ cR) (wX cI cJ cZ cR am gm t') (va_A (wX cI cJ cZ cR am gm t) sz)) 0 0 (va_A (wX cI cJ cZ cR am gm t) sz) := by
  refine Met.ofW (cc := cX5_keep) (maxL := 2) (ret := none) (by decide) rfl ?_
  intro p e s m args below meth c s₁ B hml hv
  obtain ⟨rfl, ⟨hsz, hP, hK, hD0⟩, hsx⟩ := hv
  have hx := B.exec
  have hb := B.bytes
  have hts := atoms_spec (ws := (.code yX5_keep cX5_keep 2 none :: wsAll)) B.pre
  have hta := fun w h => hts w (List.mem_cons_of_mem _ h)
  have hown : s.vm.findClass RX5 = some m.cls := findClass_of_methodNamed B.named
  have hlocks := B.notSynchronized
  subst hsz
  have hD := hD0.self (sz := s.heap.size)
  generalize hAe : va_A (wX cI cJ cZ cR am gm t) s.heap.size = A at hD ⊢
  have hA : ∀ q : Nat, s.heap.size ≤ q → A q := fun q h => by rw [← hAe]; exact Or.inr h
  have C0 : cxX p s m ([.ref (am 2005), .int a1].toArray) meth c cX5_keep RX5 2 none D (tyX cI cJ cZ cR) st A := ⟨⟨hx, hb, B.returns, hml, hown, hta, hlocks, hK, hA⟩, by rw [← hAe]; exact hsx⟩
  have hW : wl D A s (wX cI cJ cZ cR am gm t) s.heap [] := ⟨hP, hD, va_S.rf⟩
  have hl := lv_entry [.ref (am 2005), .int a1] (n := 2) (Nat.le_of_ble_eq_true rfl)
  rw [lg_entry_eq]
  generalize (lg_sl [.ref (am 2005), .int a1] ++ List.replicate (2 - (lg_sl [.ref (am 2005), .int a1]).length) Slot.unset).toArray = ls at hl ⊢
  have hl : lv_has ls 2 [(0, .ref (am 2005)), (1, .int a1)] := hl
  unfold x5_keep at ho
  refine lv_aload_n hx hb dX5_keep_0 rfl (lv_at hl 0 rfl) ?_
  refine xGET_500 C0 kw_156 hW dX5_keep_1 ?_
  refine lv_iconst (v := (0 : Int32)) hx hb dX5_keep_4 (by decide) ?_
  refine lv_aload_n hx hb dX5_keep_5 rfl (lv_at hl 0 rfl) ?_
  refine xGET_501 C0 kw_157 hW dX5_keep_6 ?_
  refine lv_iload_n hx hb dX5_keep_9 rfl (lv_at hl 1 rfl) ?_
  obtain ⟨g1, ho⟩ := gd_some ho
  refine xIMG C0 hW g1 dX5_keep_10 ?_
  refine lv_iconst (v := (0 : Int32)) hx hb dX5_keep_11 (by decide) ?_
  refine lv_aload_n hx hb dX5_keep_12 rfl (lv_at hl 0 rfl) ?_
  refine xGET_500 C0 kw_156 hW dX5_keep_13 ?_
  refine xLEN_500 C0 hW dX5_keep_16 ?_
  obtain ⟨g2, ho⟩ := cpk_some ho
  refine xCPY_500_img (rest := []) C0 kw_1423 kw_752 kw_751 kw_137 hl.1 hW g1 g2 (Nat.le_of_ble_eq_true rfl) (Nat.le_of_ble_eq_true rfl) dX5_keep_17 (fun H locs hW => ?_)
  obtain ⟨t3, ho, hW⟩ := nm_w (P := fun t => wl D A s (wX cI cJ cZ cR am gm t) H locs) ho hW
  refine lv_aload_n hx hb dX5_keep_20 rfl (lv_at hl 0 rfl) ?_
  refine xGET_502 C0 kw_158 hW dX5_keep_21 ?_
  refine lv_iload_n hx hb dX5_keep_24 rfl (lv_at hl 1 rfl) ?_
  refine lv_iconst (v := (1 : Int32)) hx hb dX5_keep_25 (by decide) ?_
  obtain ⟨g4, ho⟩ := gd_some ho
  refine xST_502 C0 hW g4 dX5_keep_26 (fun H locs hW => ?_)
  obtain ⟨t5, ho, hW⟩ := nm_w (P := fun t => wl D A s (wX cI cJ cZ cR am gm t) H locs) ho hW
  cases ho
  exact rtV C0.1 hW dX5_keep_27
noncomputable def x11_image (t : St) (a1 : Int32) : Option (Int32 × St) :=
  (x11_outside t a1 (0 : Int32) (1 : Int32)).bind (fun q1 => if q1 = 0 then ((x5_keep t a1).bind (fun q5 => some ((1 : Int32), q5))) else (some ((-2 : Int32), t)))
theorem mm_x11_image (t : St) (a1 : Int32) : MR (x11_image t a1) t (fun (a : Int32 × St) => a.2) := by
  unfold x11_image
  exact MR_bindn (fun q1 => MR_ite (MR_bind (mm_x5_keep t a1) (fun q5 hq5 => MR_some hq5)) (MR_some mle.rfl))
set_option maxHeartbeats 4000000 in
set_option maxRecDepth 100000 in
theorem c_x11_image (l : Launch) {D : va_G} {cI cJ cZ cR : ClassId} {am gm : Nat → Nat} {st : Nat} (sz : Nat) (t : St) (a1 : Int32) {r : Int32} {t' : St} (ho : x11_image t a1 = some (r, t')) : Met l yX11_image (.code yX11_image cX11_image 2 (some .int) :: wsAll) (rmN 2 81) (va_Pc [.ref (am 2011), .int a1] (prX D (tyX cI cJ cZ cR) (wX cI cJ cZ cR am gm t) sz st)) (qI r D (tyX cI cJ cZ cR) (wX cI cJ cZ cR am gm t') (va_A (wX cI cJ cZ cR am gm t) sz)) 0 0 (va_A (wX cI cJ cZ cR am gm t) sz) := by
  refine Met.ofW (cc := cX11_image) (maxL := 2) (ret := (some .int)) (by decide) rfl ?_
  intro p e s m args below meth c s₁ B hml hv
  obtain ⟨rfl, ⟨hsz, hP, hK, hD0⟩, hsx⟩ := hv
  have hx := B.exec
  have hb := B.bytes
  have hts := atoms_spec (ws := (.code yX11_image cX11_image 2 (some .int) :: wsAll)) B.pre
  have hta := fun w h => hts w (List.mem_cons_of_mem _ h)
  have hown : s.vm.findClass RX11 = some m.cls := findClass_of_methodNamed B.named
  have hlocks := B.notSynchronized
  subst hsz
  have hD := hD0.self (sz := s.heap.size)
  generalize hAe : va_A (wX cI cJ cZ cR am gm t) s.heap.size = A at hD ⊢
  have hA : ∀ q : Nat, s.heap.size ≤ q → A q := fun q h => by rw [← hAe]; exact Or.inr h
  have C0 : cxX p s m ([.ref (am 2011), .int a1].toArray) meth c cX11_image RX11 2 (some .int) D (tyX cI cJ cZ cR) st A := ⟨⟨hx, hb, B.returns, hml, hown, hta, hlocks, hK, hA⟩, by rw [← hAe]; exact hsx⟩
  have hW : wl D A s (wX cI cJ cZ cR am gm t) s.heap [] := ⟨hP, hD, va_S.rf⟩
  have hl := lv_entry [.ref (am 2011), .int a1] (n := 2) (Nat.le_of_ble_eq_true rfl)
  rw [lg_entry_eq]
  generalize (lg_sl [.ref (am 2011), .int a1] ++ List.replicate (2 - (lg_sl [.ref (am 2011), .int a1]).length) Slot.unset).toArray = ls at hl ⊢
  have hl : lv_has ls 2 [(0, .ref (am 2011)), (1, .int a1)] := hl
  unfold x11_image at ho
  refine lv_iload_n hx hb dX11_image_0 rfl (lv_at hl 1 rfl) ?_
  refine lv_iconst (v := (0 : Int32)) hx hb dX11_image_1 (by decide) ?_
  refine lv_iconst (v := (1 : Int32)) hx hb dX11_image_2 (by decide) ?_
  obtain ⟨q1, hc2, ho⟩ := bd_some ho
  refine bkZ C0.1 hW (runSX (As := [.int a1, .int (0 : Int32), .int (1 : Int32)]) (rest := []) C0 hW (c_x11_outside l _ t a1 (0 : Int32) (1 : Int32) (r := q1) hc2) cb_X11_X11_outside_102 rfl rfl ⟨rfl, rfl⟩ ⟨Nat.le_of_ble_eq_true rfl, Nat.le_of_ble_eq_true rfl⟩ (Nat.le_of_ble_eq_true rfl) hl.1 dX11_image_3 ⟨Nat.le_of_ble_eq_true rfl, Nat.le_of_ble_eq_true rfl⟩) (fun z3 H locs hW => ?_)
  refine lv_if_eq (tgt := 12) hx hb dX11_image_6 (by decide) (fun c4 => ?_) (fun c4 => ?_)
  · replace ho := ite_t c4 ho
    refine lv_aload_n hx hb dX11_image_12 rfl (lv_at hl 0 rfl) ?_
    refine xGET_1100 C0 kw_591 hW dX11_image_13 ?_
    refine lv_iload_n hx hb dX11_image_16 rfl (lv_at hl 1 rfl) ?_
    obtain ⟨q5, hc6, ho⟩ := bd_some ho
    refine bkV C0.1 hW (runVX (As := [.int a1]) (rest := []) C0 hW (c_x5_keep l _ t a1 (t' := q5) hc6) cb_X11_X5_keep_355 5 5 rfl rfl rfl rfl rfl ⟨rfl, rfl⟩ ⟨Nat.le_of_ble_eq_true rfl, Nat.le_of_ble_eq_true rfl⟩ (Nat.le_of_ble_eq_true rfl) hl.1 dX11_image_17 ⟨Nat.le_of_ble_eq_true rfl, Nat.le_of_ble_eq_true rfl⟩) (fun H locs hW => ?_)
    refine lv_iconst (v := (1 : Int32)) hx hb dX11_image_20 (by decide) ?_
    cases ho
    exact rtI C0.1 hW dX11_image_21
  · replace ho := ite_f c4 ho
    refine lv_bipush (v := (-2 : Int32)) hx hb dX11_image_9 (by decide) ?_
    cases ho
    exact rtI C0.1 hW dX11_image_11
noncomputable def x5_changed_B4 (t : St) (v1 : Int32) (v2 : Int32) (v3 : Int32) : Option ((Int32 × Int32) ⊕ (Int32)) :=
  if (Int32.ofNat (gN t 500)) ≤ v3 then (some (.inr v2)) else (gd v3 (gN t 500) (gd v1 2 (gd v3 (imN t (v1).toNatClampNeg) (if (gA t 500 (v3).toNatClampNeg) = (imG t (v1).toNatClampNeg (v3).toNatClampNeg) then (nm (v3 + (1 : Int32)) (fun x6 : Int32 => some (.inl (v2, x6)))) else (nm (v2 ||| ((1 : Int32) <<< ((v3 / (5 : Int32)) &&& 31))) (fun x7 : Int32 => nm (v3 + (1 : Int32)) (fun x8 : Int32 => some (.inl (x7, x8)))))))))
noncomputable def x5_changed (t : St) (a1 : Int32) : Option (Int32) :=
  (lp (fun x => x5_changed_B4 t a1 x.1 x.2) ((0 : Int32), (0 : Int32))).bind (fun y9 => some y9)
set_option maxHeartbeats 4000000 in
set_option maxRecDepth 100000 in
theorem x5_changed_L4 {p : Program} {l : Launch} {e : Env} {s : State} {m : MethodId} {args : Array Value} {below : List Frame} {meth : Method} {c : Code} {Q : State → Prop} {D : va_G} {cI cJ cZ cR : ClassId} {am gm : Nat → Nat} {st : Nat} {A : Nat → Prop} (C0 : cxX p s m args meth c cX5_changed RX5 4 (some .int) D (tyX cI cJ cZ cR) st A) {t : St} {v1 : Int32} {y : Int32} (hK0 : ∀ (H : Heap) (locs : List Loc) (ls : Array Slot), wl D A s (wX cI cJ cZ cR am gm t) H locs → lv_has ls 4 [(0, .ref (am 2005)), (2, .int y)] → W p l e (rmN 0 0) s m args below meth c H locs 0 0 Q (F0 m 44 ls [])) :
    ∀ (n : Nat) (v2 : Int32) (v3 : Int32), lpn (fun x => x5_changed_B4 t v1 x.1 x.2) n (v2, v3) = some y → ∀ (H : Heap) (locs : List Loc) (ls : Array Slot), wl D A s (wX cI cJ cZ cR am gm t) H locs → lv_has ls 4 [(0, .ref (am 2005)), (1, .int v1), (2, .int v2), (3, .int v3)] → W p l e (rmN 0 0) s m args below meth c H locs 0 0 Q (F0 m 4 ls []) := by
  have hx := C0.1.1
  have hb := C0.1.2.1
  have hta := C0.1.2.2.2.2.2.1
  have hown := C0.1.2.2.2.2.1
  intro n
  induction n with
  | zero => intro _ _ h; cases h
  | succ n ih =>
    intro v2 v3 hrun H locs ls hW hl
    obtain ⟨o, ho, hrun⟩ := bd_some hrun
    unfold x5_changed_B4 at ho
    refine lv_iload_n hx hb dX5_changed_4 rfl (lv_at hl 3 rfl) ?_
    refine lv_aload_n hx hb dX5_changed_5 rfl (lv_at hl 0 rfl) ?_
    refine xGET_500 C0 kw_156 hW dX5_changed_6 ?_
    refine xLEN_500 C0 hW dX5_changed_9 ?_
    refine lv_icmp_ge (tgt := 44) hx hb dX5_changed_10 (by decide) (fun c1 => ?_) (fun c1 => ?_)
    · replace ho := ite_t c1 ho
      cases ho
      cases hrun
      exact hK0 _ _ _ hW (lv_sub hl [0, 2] rfl)
    · replace ho := ite_f c1 ho
      refine lv_aload_n hx hb dX5_changed_13 rfl (lv_at hl 0 rfl) ?_
      refine xGET_500 C0 kw_156 hW dX5_changed_14 ?_
      refine lv_iload_n hx hb dX5_changed_17 rfl (lv_at hl 3 rfl) ?_
      obtain ⟨g2, ho⟩ := gd_some ho
      refine xLD_500 C0 hW g2 dX5_changed_18 ?_
      refine lv_aload_n hx hb dX5_changed_19 rfl (lv_at hl 0 rfl) ?_
      refine xGET_501 C0 kw_157 hW dX5_changed_20 ?_
      refine lv_iload_n hx hb dX5_changed_23 rfl (lv_at hl 1 rfl) ?_
      obtain ⟨g3, ho⟩ := gd_some ho
      refine xIMG C0 hW g3 dX5_changed_24 ?_
      refine lv_iload_n hx hb dX5_changed_25 rfl (lv_at hl 3 rfl) ?_
      obtain ⟨g4, ho⟩ := gd_some ho
      refine xLD_img C0 hW g3 g4 dX5_changed_26 ?_
      refine lv_icmp_eq (tgt := 38) hx hb dX5_changed_27 (by decide) (fun c5 => ?_) (fun c5 => ?_)
      · replace ho := ite_t c5 ho
        obtain ⟨x6, ex6, ho⟩ := nm_x ho
        refine lv_iinc (v := x6) (lv' := [(3, .int x6), (0, .ref (am 2005)), (1, .int v1), (2, .int v2)]) hx hb dX5_changed_38 hl (k := 3) rfl (by rw [ex6]; rfl) (by decide) rfl (fun ls hl => ?_)
        clear ex6
        refine lv_goto (tgt := 4) hx hb dX5_changed_41 (by decide) ?_
        cases ho
        exact ih _ _ hrun _ _ _ hW (lv_sub hl [1, 2, 3, 0] rfl)
      · replace ho := ite_f c5 ho
        refine lv_iload_n hx hb dX5_changed_30 rfl (lv_at hl 2 rfl) ?_
        refine lv_iconst (v := (1 : Int32)) hx hb dX5_changed_31 (by decide) ?_
        refine lv_iload_n hx hb dX5_changed_32 rfl (lv_at hl 3 rfl) ?_
        refine lv_iconst (v := (5 : Int32)) hx hb dX5_changed_33 (by decide) ?_
        refine lv_idiv hx hb dX5_changed_34 (by decide) ?_
        refine lv_ishl hx hb dX5_changed_35 ?_
        refine lv_ior hx hb dX5_changed_36 ?_
        refine lv_nmi ho (fun x7 ho => ?_)
        refine lv_istore_n (lv' := [(2, .int x7), (0, .ref (am 2005)), (1, .int v1), (3, .int v3)]) hx hb dX5_changed_37 rfl hl (by decide) rfl (fun ls hl => ?_)
        obtain ⟨x8, ex8, ho⟩ := nm_x ho
        refine lv_iinc (v := x8) (lv' := [(3, .int x8), (2, .int x7), (0, .ref (am 2005)), (1, .int v1)]) hx hb dX5_changed_38 hl (k := 3) rfl (by rw [ex8]; rfl) (by decide) rfl (fun ls hl => ?_)
        clear ex8
        refine lv_goto (tgt := 4) hx hb dX5_changed_41 (by decide) ?_
        cases ho
        exact ih _ _ hrun _ _ _ hW (lv_sub hl [2, 3, 1, 0] rfl)
set_option maxHeartbeats 4000000 in
set_option maxRecDepth 100000 in
theorem c_x5_changed (l : Launch) {D : va_G} {cI cJ cZ cR : ClassId} {am gm : Nat → Nat} {st : Nat} (sz : Nat) (t : St) (a1 : Int32) {r : Int32} (ho : x5_changed t a1 = some r) : Met l yX5_changed (.code yX5_changed cX5_changed 4 (some .int) :: wsAll) (rmN 0 0) (va_Pc [.ref (am 2005), .int a1] (prX D (tyX cI cJ cZ cR) (wX cI cJ cZ cR am gm t) sz st)) (qI r D (tyX cI cJ cZ cR) (wX cI cJ cZ cR am gm t) (va_A (wX cI cJ cZ cR am gm t) sz)) 0 0 (va_A (wX cI cJ cZ cR am gm t) sz) := by
  refine Met.ofW (cc := cX5_changed) (maxL := 4) (ret := (some .int)) (by decide) rfl ?_
  intro p e s m args below meth c s₁ B hml hv
  obtain ⟨rfl, ⟨hsz, hP, hK, hD0⟩, hsx⟩ := hv
  have hx := B.exec
  have hb := B.bytes
  have hts := atoms_spec (ws := (.code yX5_changed cX5_changed 4 (some .int) :: wsAll)) B.pre
  have hta := fun w h => hts w (List.mem_cons_of_mem _ h)
  have hown : s.vm.findClass RX5 = some m.cls := findClass_of_methodNamed B.named
  have hlocks := B.notSynchronized
  subst hsz
  have hD := hD0.self (sz := s.heap.size)
  generalize hAe : va_A (wX cI cJ cZ cR am gm t) s.heap.size = A at hD ⊢
  have hA : ∀ q : Nat, s.heap.size ≤ q → A q := fun q h => by rw [← hAe]; exact Or.inr h
  have C0 : cxX p s m ([.ref (am 2005), .int a1].toArray) meth c cX5_changed RX5 4 (some .int) D (tyX cI cJ cZ cR) st A := ⟨⟨hx, hb, B.returns, hml, hown, hta, hlocks, hK, hA⟩, by rw [← hAe]; exact hsx⟩
  have hW : wl D A s (wX cI cJ cZ cR am gm t) s.heap [] := ⟨hP, hD, va_S.rf⟩
  have hl := lv_entry [.ref (am 2005), .int a1] (n := 4) (Nat.le_of_ble_eq_true rfl)
  rw [lg_entry_eq]
  generalize (lg_sl [.ref (am 2005), .int a1] ++ List.replicate (4 - (lg_sl [.ref (am 2005), .int a1]).length) Slot.unset).toArray = ls at hl ⊢
  have hl : lv_has ls 4 [(0, .ref (am 2005)), (1, .int a1)] := hl
  unfold x5_changed at ho
  refine lv_iconst (v := (0 : Int32)) hx hb dX5_changed_0 (by decide) ?_
  refine lv_istore_n (lv' := [(2, .int (0 : Int32)), (0, .ref (am 2005)), (1, .int a1)]) hx hb dX5_changed_1 rfl hl (by decide) rfl (fun ls hl => ?_)
  refine lv_iconst (v := (0 : Int32)) hx hb dX5_changed_2 (by decide) ?_
  refine lv_istore_n (lv' := [(3, .int (0 : Int32)), (2, .int (0 : Int32)), (0, .ref (am 2005)), (1, .int a1)]) hx hb dX5_changed_3 rfl hl (by decide) rfl (fun ls hl => ?_)
  obtain ⟨y9, hc11, ho⟩ := bd_some ho
  obtain ⟨ny9, hc11⟩ := lp_to hc11
  refine x5_changed_L4 C0 ?_ ny9 _ _ hc11 _ _ _ hW (lv_sub hl [2, 3, 1, 0] rfl)
  intro H locs ls hW hl
  refine lv_iload_n hx hb dX5_changed_44 rfl (lv_at hl 1 rfl) ?_
  cases ho
  exact rtI C0.1 hW dX5_changed_45
noncomputable def x11_differ (t : St) (a1 : Int32) : Option (Int32) :=
  (x11_outside t a1 (0 : Int32) (1 : Int32)).bind (fun q1 => if q1 = 0 then (gd a1 (gN t 502) (if (gA t 502 (a1).toNatClampNeg) = 0 then (some (-3 : Int32)) else ((x5_changed t a1).bind (fun q7 => some q7)))) else (some (-2 : Int32)))
set_option maxHeartbeats 4000000 in
set_option maxRecDepth 100000 in
theorem c_x11_differ (l : Launch) {D : va_G} {cI cJ cZ cR : ClassId} {am gm : Nat → Nat} {st : Nat} (sz : Nat) (t : St) (a1 : Int32) {r : Int32} (ho : x11_differ t a1 = some r) : Met l yX11_differ (.code yX11_differ cX11_differ 2 (some .int) :: wsAll) (rmN 1 23) (va_Pc [.ref (am 2011), .int a1] (prX D (tyX cI cJ cZ cR) (wX cI cJ cZ cR am gm t) sz st)) (qI r D (tyX cI cJ cZ cR) (wX cI cJ cZ cR am gm t) (va_A (wX cI cJ cZ cR am gm t) sz)) 0 0 (va_A (wX cI cJ cZ cR am gm t) sz) := by
  refine Met.ofW (cc := cX11_differ) (maxL := 2) (ret := (some .int)) (by decide) rfl ?_
  intro p e s m args below meth c s₁ B hml hv
  obtain ⟨rfl, ⟨hsz, hP, hK, hD0⟩, hsx⟩ := hv
  have hx := B.exec
  have hb := B.bytes
  have hts := atoms_spec (ws := (.code yX11_differ cX11_differ 2 (some .int) :: wsAll)) B.pre
  have hta := fun w h => hts w (List.mem_cons_of_mem _ h)
  have hown : s.vm.findClass RX11 = some m.cls := findClass_of_methodNamed B.named
  have hlocks := B.notSynchronized
  subst hsz
  have hD := hD0.self (sz := s.heap.size)
  generalize hAe : va_A (wX cI cJ cZ cR am gm t) s.heap.size = A at hD ⊢
  have hA : ∀ q : Nat, s.heap.size ≤ q → A q := fun q h => by rw [← hAe]; exact Or.inr h
  have C0 : cxX p s m ([.ref (am 2011), .int a1].toArray) meth c cX11_differ RX11 2 (some .int) D (tyX cI cJ cZ cR) st A := ⟨⟨hx, hb, B.returns, hml, hown, hta, hlocks, hK, hA⟩, by rw [← hAe]; exact hsx⟩
  have hW : wl D A s (wX cI cJ cZ cR am gm t) s.heap [] := ⟨hP, hD, va_S.rf⟩
  have hl := lv_entry [.ref (am 2011), .int a1] (n := 2) (Nat.le_of_ble_eq_true rfl)
  rw [lg_entry_eq]
  generalize (lg_sl [.ref (am 2011), .int a1] ++ List.replicate (2 - (lg_sl [.ref (am 2011), .int a1]).length) Slot.unset).toArray = ls at hl ⊢
  have hl : lv_has ls 2 [(0, .ref (am 2011)), (1, .int a1)] := hl
  unfold x11_differ at ho
  refine lv_iload_n hx hb dX11_differ_0 rfl (lv_at hl 1 rfl) ?_
  refine lv_iconst (v := (0 : Int32)) hx hb dX11_differ_1 (by decide) ?_
  refine lv_iconst (v := (1 : Int32)) hx hb dX11_differ_2 (by decide) ?_
  obtain ⟨q1, hc2, ho⟩ := bd_some ho
  refine bkZ C0.1 hW (runSX (As := [.int a1, .int (0 : Int32), .int (1 : Int32)]) (rest := []) C0 hW (c_x11_outside l _ t a1 (0 : Int32) (1 : Int32) (r := q1) hc2) cb_X11_X11_outside_102 rfl rfl ⟨rfl, rfl⟩ ⟨Nat.le_of_ble_eq_true rfl, Nat.le_of_ble_eq_true rfl⟩ (Nat.le_of_ble_eq_true rfl) hl.1 dX11_differ_3 ⟨Nat.le_of_ble_eq_true rfl, Nat.le_of_ble_eq_true rfl⟩) (fun z3 H locs hW => ?_)
  refine lv_if_eq (tgt := 12) hx hb dX11_differ_6 (by decide) (fun c4 => ?_) (fun c4 => ?_)
  · replace ho := ite_t c4 ho
    refine lv_aload_n hx hb dX11_differ_12 rfl (lv_at hl 0 rfl) ?_
    refine xGET_1100 C0 kw_591 hW dX11_differ_13 ?_
    refine xGET_502 C0 kw_159 hW dX11_differ_16 ?_
    refine lv_iload_n hx hb dX11_differ_19 rfl (lv_at hl 1 rfl) ?_
    obtain ⟨g5, ho⟩ := gd_some ho
    refine xLD_502 C0 hW g5 dX11_differ_20 ?_
    refine lv_if_eq (tgt := 35) hx hb dX11_differ_21 (by decide) (fun c6 => ?_) (fun c6 => ?_)
    · replace ho := ite_t c6 ho
      refine lv_bipush (v := (-3 : Int32)) hx hb dX11_differ_35 (by decide) ?_
      cases ho
      exact rtI C0.1 hW dX11_differ_37
    · replace ho := ite_f c6 ho
      refine lv_aload_n hx hb dX11_differ_24 rfl (lv_at hl 0 rfl) ?_
      refine xGET_1100 C0 kw_591 hW dX11_differ_25 ?_
      refine lv_iload_n hx hb dX11_differ_28 rfl (lv_at hl 1 rfl) ?_
      obtain ⟨q7, hc8, ho⟩ := bd_some ho
      refine bkI C0.1 hW (runVX (As := [.int a1]) (rest := []) C0 hW (c_x5_changed l _ t a1 (r := q7) hc8) cb_X11_X5_changed_362 5 5 rfl rfl rfl rfl rfl ⟨rfl, rfl⟩ ⟨Nat.le_of_ble_eq_true rfl, Nat.le_of_ble_eq_true rfl⟩ (Nat.le_of_ble_eq_true rfl) hl.1 dX11_differ_29 ⟨Nat.le_of_ble_eq_true rfl, Nat.le_of_ble_eq_true rfl⟩) (fun H locs hW => ?_)
      refine lv_goto (tgt := 37) hx hb dX11_differ_32 (by decide) ?_
      cases ho
      exact rtI C0.1 hW dX11_differ_37
  · replace ho := ite_f c4 ho
    refine lv_bipush (v := (-2 : Int32)) hx hb dX11_differ_9 (by decide) ?_
    cases ho
    exact rtI C0.1 hW dX11_differ_11
noncomputable def x5_restore (t : St) (a1 : Int32) : Option (St) :=
  gd a1 2 (cpk (0 : Int32) (0 : Int32) (Int32.ofNat (gN t 500)) (imN t (a1).toNatClampNeg) (gN t 500) (nm (sAr t 500 (va_cpy (imG t (a1).toNatClampNeg) (gA t 500) ((0 : Int32)).toNatClampNeg ((0 : Int32)).toNatClampNeg ((Int32.ofNat (gN t 500))).toNatClampNeg)) (fun t3 : St => some t3)))
theorem mm_x5_restore (t : St) (a1 : Int32) : MR (x5_restore t a1) t (fun (a : St) => a) := by
  unfold x5_restore
  exact MR_gd (MR_cpk (MR_nmS mle_sAr (fun t3 ht3 => MR_some ht3)))
set_option maxHeartbeats 4000000 in
set_option maxRecDepth 100000 in
theorem c_x5_restore (l : Launch) {D : va_G} {cI cJ cZ cR : ClassId} {am gm : Nat → Nat} {st : Nat} (sz : Nat) (t : St) (a1 : Int32) {t' : St} (ho : x5_restore t a1 = some t') : Met l yX5_restore (.code yX5_restore cX5_restore 2 none :: wsAll) (rmN 1 60) (va_Pc [.ref (am 2005), .int a1] (prX D (tyX cI cJ cZ cR) (wX cI cJ cZ cR am gm t) sz st)) (qV D (tyX cI cJ cZ cR) (wX cI cJ cZ cR am gm t') (va_A (wX cI cJ cZ cR am gm t) sz)) 0 0 (va_A (wX cI cJ cZ cR am gm t) sz) := by
  refine Met.ofW (cc := cX5_restore) (maxL := 2) (ret := none) (by decide) rfl ?_
  intro p e s m args below meth c s₁ B hml hv
  obtain ⟨rfl, ⟨hsz, hP, hK, hD0⟩, hsx⟩ := hv
  have hx := B.exec
  have hb := B.bytes
  have hts := atoms_spec (ws := (.code yX5_restore cX5_restore 2 none :: wsAll)) B.pre
  have hta := fun w h => hts w (List.mem_cons_of_mem _ h)
  have hown : s.vm.findClass RX5 = some m.cls := findClass_of_methodNamed B.named
  have hlocks := B.notSynchronized
  subst hsz
  have hD := hD0.self (sz := s.heap.size)
  generalize hAe : va_A (wX cI cJ cZ cR am gm t) s.heap.size = A at hD ⊢
  have hA : ∀ q : Nat, s.heap.size ≤ q → A q := fun q h => by rw [← hAe]; exact Or.inr h
  have C0 : cxX p s m ([.ref (am 2005), .int a1].toArray) meth c cX5_restore RX5 2 none D (tyX cI cJ cZ cR) st A := ⟨⟨hx, hb, B.returns, hml, hown, hta, hlocks, hK, hA⟩, by rw [← hAe]; exact hsx⟩
  have hW : wl D A s (wX cI cJ cZ cR am gm t) s.heap [] := ⟨hP, hD, va_S.rf⟩
  have hl := lv_entry [.ref (am 2005), .int a1] (n := 2) (Nat.le_of_ble_eq_true rfl)
  rw [lg_entry_eq]
  generalize (lg_sl [.ref (am 2005), .int a1] ++ List.replicate (2 - (lg_sl [.ref (am 2005), .int a1]).length) Slot.unset).toArray = ls at hl ⊢
  have hl : lv_has ls 2 [(0, .ref (am 2005)), (1, .int a1)] := hl
  unfold x5_restore at ho
  refine lv_aload_n hx hb dX5_restore_0 rfl (lv_at hl 0 rfl) ?_
  refine xGET_501 C0 kw_157 hW dX5_restore_1 ?_
  refine lv_iload_n hx hb dX5_restore_4 rfl (lv_at hl 1 rfl) ?_
  obtain ⟨g1, ho⟩ := gd_some ho
  refine xIMG C0 hW g1 dX5_restore_5 ?_
  refine lv_iconst (v := (0 : Int32)) hx hb dX5_restore_6 (by decide) ?_
  refine lv_aload_n hx hb dX5_restore_7 rfl (lv_at hl 0 rfl) ?_
  refine xGET_500 C0 kw_156 hW dX5_restore_8 ?_
  refine lv_iconst (v := (0 : Int32)) hx hb dX5_restore_11 (by decide) ?_
  refine lv_aload_n hx hb dX5_restore_12 rfl (lv_at hl 0 rfl) ?_
  refine xGET_500 C0 kw_156 hW dX5_restore_13 ?_
  refine xLEN_500 C0 hW dX5_restore_16 ?_
  obtain ⟨g2, ho⟩ := cpk_some ho
  refine xCPY_img_500 (rest := []) C0 kw_1423 kw_752 kw_751 kw_137 hl.1 hW g1 g2 (Nat.le_of_ble_eq_true rfl) (Nat.le_of_ble_eq_true rfl) dX5_restore_17 (fun H locs hW => ?_)
  obtain ⟨t3, ho, hW⟩ := nm_w (P := fun t => wl D A s (wX cI cJ cZ cR am gm t) H locs) ho hW
  cases ho
  exact rtV C0.1 hW dX5_restore_20
