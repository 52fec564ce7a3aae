noncomputable def x9_menAt_B5 (t : St) (v1 : Int32) (v2 : Int32) (v3 : Int32) (v4 : Int32) : Option ((Int32 × Int32) ⊕ (Int32)) :=
  if (3 : Int32) < v4 then (some (.inr v3)) else ((x9_placeOf t v4 v2).bind (fun q2 => if q2 = v1 then (nm (v3 + (1 : Int32)) (fun x6 : Int32 => nm (v4 + (1 : Int32)) (fun x7 : Int32 => some (.inl (x6, x7))))) else (nm (v4 + (1 : Int32)) (fun x5 : Int32 => some (.inl (v3, x5))))))
noncomputable def x9_menAt (t : St) (a1 : Int32) (a2 : Int32) : Option (Int32) :=
  (lp (fun x => x9_menAt_B5 t a1 a2 x.1 x.2) ((0 : Int32), (0 : Int32))).bind (fun y8 => some y8)
set_option maxHeartbeats 4000000 in
set_option maxRecDepth 100000 in
theorem x9_menAt_L5 {p : Program} {l : Launch} {e : Env} {s : State} {m : MethodId} {args : Array Value} {below : List Frame} {meth : Method} {c : Code} {Q : State → Prop} {D : va_G} {cI cJ cZ cR : ClassId} {am gm : Nat → Nat} {st : Nat} {A : Nat → Prop} (C0 : cxX p s m args meth c cX9_menAt RX9 5 (some .int) D (tyX cI cJ cZ cR) st A) {t : St} {v1 : Int32} {v2 : Int32} {y : Int32} (hK0 : ∀ (H : Heap) (locs : List Loc) (ls : Array Slot), wl D A s (wX cI cJ cZ cR am gm t) H locs → lv_has ls 5 [(0, .ref (am 1009)), (3, .int y)] → W p l e (rmN 1 22) s m args below meth c H locs 0 0 Q (F0 m 31 ls [])) :
    ∀ (n : Nat) (v3 : Int32) (v4 : Int32), lpn (fun x => x9_menAt_B5 t v1 v2 x.1 x.2) n (v3, v4) = some y → ∀ (H : Heap) (locs : List Loc) (ls : Array Slot), wl D A s (wX cI cJ cZ cR am gm t) H locs → lv_has ls 5 [(0, .ref (am 1009)), (1, .int v1), (2, .int v2), (3, .int v3), (4, .int v4)] → W p l e (rmN 1 22) s m args below meth c H locs 0 0 Q (F0 m 5 ls []) := by
  have hx := C0.1.1
  have hb := C0.1.2.1
  have hta := C0.1.2.2.2.2.2.1
  have hown := C0.1.2.2.2.2.1
  intro n
  induction n with
  | zero => intro _ _ h; cases h
  | succ n ih =>
    intro v3 v4 hrun H locs ls hW hl
    obtain ⟨o, ho, hrun⟩ := bd_some hrun
    unfold x9_menAt_B5 at ho
    refine lv_iload hx hb dX9_menAt_5 (lv_at hl 4 rfl) ?_
    refine lv_iconst (v := (3 : Int32)) hx hb dX9_menAt_7 (by decide) ?_
    refine lv_icmp_gt (tgt := 31) hx hb dX9_menAt_8 (by decide) (fun c1 => ?_) (fun c1 => ?_)
    · replace ho := ite_t c1 ho
      cases ho
      cases hrun
      exact hK0 _ _ _ hW (lv_sub hl [0, 3] rfl)
    · replace ho := ite_f c1 ho
      refine lv_aload_n hx hb dX9_menAt_11 rfl (lv_at hl 0 rfl) ?_
      refine lv_iload hx hb dX9_menAt_12 (lv_at hl 4 rfl) ?_
      refine lv_iload_n hx hb dX9_menAt_14 rfl (lv_at hl 2 rfl) ?_
      obtain ⟨q2, hc3, ho⟩ := bd_some ho
      refine bkI C0.1 hW (runVX (As := [.int v4, .int v2]) (rest := []) C0 hW (c_x9_placeOf l _ t v4 v2 (r := q2) hc3) cb_X9_X9_placeOf_38 9 9 rfl rfl rfl rfl rfl ⟨rfl, rfl⟩ ⟨Nat.le_of_ble_eq_true rfl, Nat.le_of_ble_eq_true rfl⟩ (Nat.le_of_ble_eq_true rfl) hl.1 dX9_menAt_15 ⟨Nat.le_of_ble_eq_true rfl, Nat.le_of_ble_eq_true rfl⟩) (fun H locs hW => ?_)
      refine lv_iload_n hx hb dX9_menAt_18 rfl (lv_at hl 1 rfl) ?_
      refine lv_icmp_ne (tgt := 25) hx hb dX9_menAt_19 (by decide) (fun c4 => ?_) (fun c4 => ?_)
      · replace ho := ite_f c4 ho
        obtain ⟨x5, ex5, ho⟩ := nm_x ho
        refine lv_iinc (v := x5) (lv' := [(4, .int x5), (0, .ref (am 1009)), (1, .int v1), (2, .int v2), (3, .int v3)]) hx hb dX9_menAt_25 hl (k := 4) rfl (by rw [ex5]; rfl) (by decide) rfl (fun ls hl => ?_)
        clear ex5
        refine lv_goto (tgt := 5) hx hb dX9_menAt_28 (by decide) ?_
        cases ho
        exact ih _ _ hrun _ _ _ hW (lv_sub hl [1, 2, 3, 4, 0] rfl)
      · replace ho := ite_t c4 ho
        obtain ⟨x6, ex6, ho⟩ := nm_x ho
        refine lv_iinc (v := x6) (lv' := [(3, .int x6), (0, .ref (am 1009)), (1, .int v1), (2, .int v2), (4, .int v4)]) hx hb dX9_menAt_22 hl (k := 3) rfl (by rw [ex6]; rfl) (by decide) rfl (fun ls hl => ?_)
        clear ex6
        obtain ⟨x7, ex7, ho⟩ := nm_x ho
        refine lv_iinc (v := x7) (lv' := [(4, .int x7), (3, .int x6), (0, .ref (am 1009)), (1, .int v1), (2, .int v2)]) hx hb dX9_menAt_25 hl (k := 4) rfl (by rw [ex7]; rfl) (by decide) rfl (fun ls hl => ?_)
        clear ex7
        refine lv_goto (tgt := 5) hx hb dX9_menAt_28 (by decide) ?_
        cases ho
        exact ih _ _ hrun _ _ _ hW (lv_sub hl [2, 3, 4, 1, 0] rfl)
set_option maxHeartbeats 4000000 in
set_option maxRecDepth 100000 in
theorem c_x9_menAt (l : Launch) {D : va_G} {cI cJ cZ cR : ClassId} {am gm : Nat → Nat} {st : Nat} (sz : Nat) (t : St) (a1 : Int32) (a2 : Int32) {r : Int32} (ho : x9_menAt t a1 a2 = some r) : Met l yX9_menAt (.code yX9_menAt cX9_menAt 5 (some .int) :: wsAll) (rmN 1 22) (va_Pc [.ref (am 1009), .int a1, .int a2] (prX D (tyX cI cJ cZ cR) (wX cI cJ cZ cR am gm t) sz st)) (qI r D (tyX cI cJ cZ cR) (wX cI cJ cZ cR am gm t) (va_A (wX cI cJ cZ cR am gm t) sz)) 0 0 (va_A (wX cI cJ cZ cR am gm t) sz) := by
  refine Met.ofW (cc := cX9_menAt) (maxL := 5) (ret := (some .int)) (by decide) rfl ?_
  intro p e s m args below meth c s₁ B hml hv
  obtain ⟨rfl, ⟨hsz, hP, hK, hD0⟩, hsx⟩ := hv
  have hx := B.exec
  have hb := B.bytes
  have hts := atoms_spec (ws := (.code yX9_menAt cX9_menAt 5 (some .int) :: wsAll)) B.pre
  have hta := fun w h => hts w (List.mem_cons_of_mem _ h)
  have hown : s.vm.findClass RX9 = some m.cls := findClass_of_methodNamed B.named
  have hlocks := B.notSynchronized
  subst hsz
  have hD := hD0.self (sz := s.heap.size)
  generalize hAe : va_A (wX cI cJ cZ cR am gm t) s.heap.size = A at hD ⊢
  have hA : ∀ q : Nat, s.heap.size ≤ q → A q := fun q h => by rw [← hAe]; exact Or.inr h
  have C0 : cxX p s m ([.ref (am 1009), .int a1, .int a2].toArray) meth c cX9_menAt RX9 5 (some .int) D (tyX cI cJ cZ cR) st A := ⟨⟨hx, hb, B.returns, hml, hown, hta, hlocks, hK, hA⟩, by rw [← hAe]; exact hsx⟩
  have hW : wl D A s (wX cI cJ cZ cR am gm t) s.heap [] := ⟨hP, hD, va_S.rf⟩
  have hl := lv_entry [.ref (am 1009), .int a1, .int a2] (n := 5) (Nat.le_of_ble_eq_true rfl)
  rw [lg_entry_eq]
  generalize (lg_sl [.ref (am 1009), .int a1, .int a2] ++ List.replicate (5 - (lg_sl [.ref (am 1009), .int a1, .int a2]).length) Slot.unset).toArray = ls at hl ⊢
  have hl : lv_has ls 5 [(0, .ref (am 1009)), (1, .int a1), (2, .int a2)] := hl
  unfold x9_menAt at ho
  refine lv_iconst (v := (0 : Int32)) hx hb dX9_menAt_0 (by decide) ?_
  refine lv_istore_n (lv' := [(3, .int (0 : Int32)), (0, .ref (am 1009)), (1, .int a1), (2, .int a2)]) hx hb dX9_menAt_1 rfl hl (by decide) rfl (fun ls hl => ?_)
  refine lv_iconst (v := (0 : Int32)) hx hb dX9_menAt_2 (by decide) ?_
  refine lv_istore (lv' := [(4, .int (0 : Int32)), (3, .int (0 : Int32)), (0, .ref (am 1009)), (1, .int a1), (2, .int a2)]) hx hb dX9_menAt_3 hl (by decide) rfl (fun ls hl => ?_)
  obtain ⟨y8, hc9, ho⟩ := bd_some ho
  obtain ⟨ny8, hc9⟩ := lp_to hc9
  refine x9_menAt_L5 C0 ?_ ny8 _ _ hc9 _ _ _ hW (lv_sub hl [2, 3, 4, 1, 0] rfl)
  intro H locs ls hW hl
  refine lv_iload_n hx hb dX9_menAt_31 rfl (lv_at hl 1 rfl) ?_
  cases ho
  exact rtI C0.1 hW dX9_menAt_32
noncomputable def x11_stands (t : St) (a1 : Int32) (a2 : Int32) : Option (Int32) :=
  (x11_outside t a1 (0 : Int32) (7 : Int32)).bind (fun q1 => if q1 = 0 then ((x11_outside t a2 (0 : Int32) (10000 : Int32)).bind (fun q5 => if q5 = 0 then ((x9_menAt t a1 a2).bind (fun q9 => some q9)) else (some (-2 : Int32)))) else (some (-2 : Int32)))
set_option maxHeartbeats 4000000 in
set_option maxRecDepth 100000 in
theorem c_x11_stands (l : Launch) {D : va_G} {cI cJ cZ cR : ClassId} {am gm : Nat → Nat} {st : Nat} (sz : Nat) (t : St) (a1 : Int32) (a2 : Int32) {r : Int32} (ho : x11_stands t a1 a2 = some r) : Met l yX11_stands (.code yX11_stands cX11_stands 3 (some .int) :: wsAll) (rmN 2 46) (va_Pc [.ref (am 1011), .int a1, .int a2] (prX D (tyX cI cJ cZ cR) (wX cI cJ cZ cR am gm t) sz st)) (qI r D (tyX cI cJ cZ cR) (wX cI cJ cZ cR am gm t) (va_A (wX cI cJ cZ cR am gm t) sz)) 0 0 (va_A (wX cI cJ cZ cR am gm t) sz) := by
  refine Met.ofW (cc := cX11_stands) (maxL := 3) (ret := (some .int)) (by decide) rfl ?_
  intro p e s m args below meth c s₁ B hml hv
  obtain ⟨rfl, ⟨hsz, hP, hK, hD0⟩, hsx⟩ := hv
  have hx := B.exec
  have hb := B.bytes
  have hts := atoms_spec (ws := (.code yX11_stands cX11_stands 3 (some .int) :: wsAll)) B.pre
  have hta := fun w h => hts w (List.mem_cons_of_mem _ h)
  have hown : s.vm.findClass RX11 = some m.cls := findClass_of_methodNamed B.named
  have hlocks := B.notSynchronized
  subst hsz
  have hD := hD0.self (sz := s.heap.size)
  generalize hAe : va_A (wX cI cJ cZ cR am gm t) s.heap.size = A at hD ⊢
  have hA : ∀ q : Nat, s.heap.size ≤ q → A q := fun q h => by rw [← hAe]; exact Or.inr h
  have C0 : cxX p s m ([.ref (am 1011), .int a1, .int a2].toArray) meth c cX11_stands RX11 3 (some .int) D (tyX cI cJ cZ cR) st A := ⟨⟨hx, hb, B.returns, hml, hown, hta, hlocks, hK, hA⟩, by rw [← hAe]; exact hsx⟩
  have hW : wl D A s (wX cI cJ cZ cR am gm t) s.heap [] := ⟨hP, hD, va_S.rf⟩
  have hl := lv_entry [.ref (am 1011), .int a1, .int a2] (n := 3) (Nat.le_of_ble_eq_true rfl)
  rw [lg_entry_eq]
  generalize (lg_sl [.ref (am 1011), .int a1, .int a2] ++ List.replicate (3 - (lg_sl [.ref (am 1011), .int a1, .int a2]).length) Slot.unset).toArray = ls at hl ⊢
  have hl : lv_has ls 3 [(0, .ref (am 1011)), (1, .int a1), (2, .int a2)] := hl
  unfold x11_stands at ho
  refine lv_iload_n hx hb dX11_stands_0 rfl (lv_at hl 1 rfl) ?_
  refine lv_iconst (v := (0 : Int32)) hx hb dX11_stands_1 (by decide) ?_
  refine lv_bipush (v := (7 : Int32)) hx hb dX11_stands_2 (by decide) ?_
  obtain ⟨q1, hc2, ho⟩ := bd_some ho
  refine bkZ C0.1 hW (runSX (As := [.int a1, .int (0 : Int32), .int (7 : Int32)]) (rest := []) C0 hW (c_x11_outside l _ t a1 (0 : Int32) (7 : Int32) (r := q1) hc2) cb_X11_X11_outside_102 rfl rfl ⟨rfl, rfl⟩ ⟨Nat.le_of_ble_eq_true rfl, Nat.le_of_ble_eq_true rfl⟩ (Nat.le_of_ble_eq_true rfl) hl.1 dX11_stands_4 ⟨Nat.le_of_ble_eq_true rfl, Nat.le_of_ble_eq_true rfl⟩) (fun z3 H locs hW => ?_)
  refine lv_if_ne (tgt := 21) hx hb dX11_stands_7 (by decide) (fun c4 => ?_) (fun c4 => ?_)
  · replace ho := ite_f c4 ho
    refine lv_bipush (v := (-2 : Int32)) hx hb dX11_stands_21 (by decide) ?_
    cases ho
    exact rtI C0.1 hW dX11_stands_23
  · replace ho := ite_t c4 ho
    refine lv_iload_n hx hb dX11_stands_10 rfl (lv_at hl 2 rfl) ?_
    refine lv_iconst (v := (0 : Int32)) hx hb dX11_stands_11 (by decide) ?_
    refine lv_sipush (v := (10000 : Int32)) hx hb dX11_stands_12 (by decide) ?_
    obtain ⟨q5, hc6, ho⟩ := bd_some ho
    refine bkZ C0.1 hW (runSX (As := [.int a2, .int (0 : Int32), .int (10000 : Int32)]) (rest := []) C0 hW (c_x11_outside l _ t a2 (0 : Int32) (10000 : Int32) (r := q5) hc6) cb_X11_X11_outside_102 rfl rfl ⟨rfl, rfl⟩ ⟨Nat.le_of_ble_eq_true rfl, Nat.le_of_ble_eq_true rfl⟩ (Nat.le_of_ble_eq_true rfl) hl.1 dX11_stands_15 ⟨Nat.le_of_ble_eq_true rfl, Nat.le_of_ble_eq_true rfl⟩) (fun z7 H locs hW => ?_)
    refine lv_if_eq (tgt := 24) hx hb dX11_stands_18 (by decide) (fun c8 => ?_) (fun c8 => ?_)
    · replace ho := ite_t c8 ho
      refine lv_aload_n hx hb dX11_stands_24 rfl (lv_at hl 0 rfl) ?_
      refine xGET_1110 C0 kw_601 hW dX11_stands_25 ?_
      refine lv_iload_n hx hb dX11_stands_28 rfl (lv_at hl 1 rfl) ?_
      refine lv_iload_n hx hb dX11_stands_29 rfl (lv_at hl 2 rfl) ?_
      obtain ⟨q9, hc10, ho⟩ := bd_some ho
      refine bkI C0.1 hW (runVX (As := [.int a1, .int a2]) (rest := []) C0 hW (c_x9_menAt l _ t a1 a2 (r := q9) hc10) cb_X11_X9_menAt_342 9 9 rfl rfl rfl rfl rfl ⟨rfl, rfl⟩ ⟨Nat.le_of_ble_eq_true rfl, Nat.le_of_ble_eq_true rfl⟩ (Nat.le_of_ble_eq_true rfl) hl.1 dX11_stands_30 ⟨Nat.le_of_ble_eq_true rfl, Nat.le_of_ble_eq_true rfl⟩) (fun H locs hW => ?_)
      cases ho
      exact rtI C0.1 hW dX11_stands_33
    · replace ho := ite_f c8 ho
      refine lv_bipush (v := (-2 : Int32)) hx hb dX11_stands_21 (by decide) ?_
      cases ho
      exact rtI C0.1 hW dX11_stands_23
noncomputable def x9_firstBegin_J53 (t : St) (v3 : Int32) (v4 : Int32) (v6 : Int32) (w0 : Int32) : Option ((Int32 × Int32) ⊕ ((Int32) ⊕ (Unit))) :=
  if w0 = v4 then (some (.inr (.inl v6))) else (nm (v6 + (1 : Int32)) (fun x2 : Int32 => some (.inl (w0, x2))))
noncomputable def x9_firstBegin_B27 (t : St) (v3 : Int32) (v4 : Int32) (v5 : Int32) (v6 : Int32) : Option ((Int32 × Int32) ⊕ ((Int32) ⊕ (Unit))) :=
  if (600 : Int32) ≤ v6 then (some (.inr (.inr ()))) else ((x9_menAt t v3 v6).bind (fun q4 => if q4 = 0 then (x9_firstBegin_J53 t v3 v4 v6 (v5 + (1 : Int32))) else (x9_firstBegin_J53 t v3 v4 v6 (0 : Int32))))
noncomputable def x9_firstBegin (t : St) (a1 : Int32) (a2 : Int32) : Option (Int32) :=
  (x5_get t a1 (4 : Int32)).bind (fun q7 => (x5_get t a1 (1 : Int32)).bind (fun q9 => (lp (fun x => x9_firstBegin_B27 t q7 q9 x.1 x.2) ((0 : Int32), a2)).bind (fun y11 => (Sum.elim (fun u13 => some ((u13 + (1 : Int32)) - q9)) (fun u13 => some (-1 : Int32))) y11)))
set_option maxHeartbeats 4000000 in
set_option maxRecDepth 100000 in
theorem x9_firstBegin_L27 {p : Program} {l : Launch} {e : Env} {s : State} {m : MethodId} {args : Array Value} {below : List Frame} {meth : Method} {c : Code} {Q : State → Prop} {D : va_G} {cI cJ cZ cR : ClassId} {am gm : Nat → Nat} {st : Nat} {A : Nat → Prop} (C0 : cxX p s m args meth c cX9_firstBegin RX9 7 (some .int) D (tyX cI cJ cZ cR) st A) {t : St} {v3 : Int32} {v4 : Int32} {y : (Int32) ⊕ (Unit)} (hK0 : ∀ u, y = (.inl u) → ∀ (H : Heap) (locs : List Loc) (ls : Array Slot), wl D A s (wX cI cJ cZ cR am gm t) H locs → lv_has ls 7 [(0, .ref (am 1009)), (4, .int v4), (6, .int u)] → W p l e (rmN 2 46) s m args below meth c H locs 0 0 Q (F0 m 62 ls [])) (hK1 : ∀ u, y = (.inr u) → ∀ (H : Heap) (locs : List Loc) (ls : Array Slot), wl D A s (wX cI cJ cZ cR am gm t) H locs → lv_has ls 7 [(0, .ref (am 1009))] → W p l e (rmN 2 46) s m args below meth c H locs 0 0 Q (F0 m 76 ls [])) :
    ∀ (n : Nat) (v5 : Int32) (v6 : Int32), lpn (fun x => x9_firstBegin_B27 t v3 v4 x.1 x.2) n (v5, v6) = some y → ∀ (H : Heap) (locs : List Loc) (ls : Array Slot), wl D A s (wX cI cJ cZ cR am gm t) H locs → lv_has ls 7 [(0, .ref (am 1009)), (3, .int v3), (4, .int v4), (5, .int v5), (6, .int v6)] → W p l e (rmN 2 46) s m args below meth c H locs 0 0 Q (F0 m 27 ls []) := by
  have hx := C0.1.1
  have hb := C0.1.2.1
  have hta := C0.1.2.2.2.2.2.1
  have hown := C0.1.2.2.2.2.1
  intro n
  induction n with
  | zero => intro _ _ h; cases h
  | succ n ih =>
    intro v5 v6 hrun H locs ls hW hl
    obtain ⟨o, ho, hrun⟩ := bd_some hrun
    have J53 : ∀ (v6 : Int32) (w0 : Int32) (_ : x9_firstBegin_J53 t v3 v4 v6 w0 = some o) (H : Heap) (locs : List Loc) (ls : Array Slot), wl D A s (wX cI cJ cZ cR am gm t) H locs → lv_has ls 7 [(0, .ref (am 1009)), (3, .int v3), (4, .int v4), (6, .int v6)] → W p l e (rmN 2 46) s m args below meth c H locs 0 0 Q (F0 m 53 ls [.int w0]) := by
      intro v6 w0 ho H locs ls hW hl
      unfold x9_firstBegin_J53 at ho
      refine lv_istore (lv' := [(5, .int w0), (0, .ref (am 1009)), (3, .int v3), (4, .int v4), (6, .int v6)]) hx hb dX9_firstBegin_53 hl (by decide) rfl (fun ls hl => ?_)
      refine lv_iload hx hb dX9_firstBegin_55 (lv_at hl 0 rfl) ?_
      refine lv_iload hx hb dX9_firstBegin_57 (lv_at hl 3 rfl) ?_
      refine lv_icmp_ne (tgt := 70) hx hb dX9_firstBegin_59 (by decide) (fun c1 => ?_) (fun c1 => ?_)
      · replace ho := ite_f c1 ho
        obtain ⟨x2, ex2, ho⟩ := nm_x ho
        refine lv_iinc (v := x2) (lv' := [(6, .int x2), (5, .int w0), (0, .ref (am 1009)), (3, .int v3), (4, .int v4)]) hx hb dX9_firstBegin_70 hl (k := 4) rfl (by rw [ex2]; rfl) (by decide) rfl (fun ls hl => ?_)
        clear ex2
        refine lv_goto (tgt := 27) hx hb dX9_firstBegin_73 (by decide) ?_
        cases ho
        exact ih _ _ hrun _ _ _ hW (lv_sub hl [2, 3, 4, 1, 0] rfl)
      · replace ho := ite_t c1 ho
        cases ho
        cases hrun
        exact hK0 _ rfl _ _ _ hW (lv_sub hl [1, 3, 4] rfl)
    unfold x9_firstBegin_B27 at ho
    refine lv_iload hx hb dX9_firstBegin_27 (lv_at hl 4 rfl) ?_
    refine lv_sipush (v := (600 : Int32)) hx hb dX9_firstBegin_29 (by decide) ?_
    refine lv_icmp_ge (tgt := 76) hx hb dX9_firstBegin_32 (by decide) (fun c3 => ?_) (fun c3 => ?_)
    · replace ho := ite_t c3 ho
      cases ho
      cases hrun
      exact hK1 _ rfl _ _ _ hW (lv_sub hl [0] rfl)
    · replace ho := ite_f c3 ho
      refine lv_aload_n hx hb dX9_firstBegin_35 rfl (lv_at hl 0 rfl) ?_
      refine lv_iload_n hx hb dX9_firstBegin_36 rfl (lv_at hl 1 rfl) ?_
      refine lv_iload hx hb dX9_firstBegin_37 (lv_at hl 4 rfl) ?_
      obtain ⟨q4, hc5, ho⟩ := bd_some ho
      refine bkI C0.1 hW (runVX (As := [.int v3, .int v6]) (rest := []) C0 hW (c_x9_menAt l _ t v3 v6 (r := q4) hc5) cb_X9_X9_menAt_47 9 9 rfl rfl rfl rfl rfl ⟨rfl, rfl⟩ ⟨Nat.le_of_ble_eq_true rfl, Nat.le_of_ble_eq_true rfl⟩ (Nat.le_of_ble_eq_true rfl) hl.1 dX9_firstBegin_39 ⟨Nat.le_of_ble_eq_true rfl, Nat.le_of_ble_eq_true rfl⟩) (fun H locs hW => ?_)
      refine lv_if_ne (tgt := 52) hx hb dX9_firstBegin_42 (by decide) (fun c6 => ?_) (fun c6 => ?_)
      · replace ho := ite_f c6 ho
        refine lv_iconst (v := (0 : Int32)) hx hb dX9_firstBegin_52 (by decide) ?_
        exact J53 _ _ ho _ _ _ hW (lv_sub hl [0, 1, 2, 4] rfl)
      · replace ho := ite_t c6 ho
        refine lv_iload hx hb dX9_firstBegin_45 (lv_at hl 3 rfl) ?_
        refine lv_iconst (v := (1 : Int32)) hx hb dX9_firstBegin_47 (by decide) ?_
        refine lv_iadd hx hb dX9_firstBegin_48 ?_
        refine lv_goto (tgt := 53) hx hb dX9_firstBegin_49 (by decide) ?_
        exact J53 _ _ ho _ _ _ hW (lv_sub hl [0, 1, 2, 4] rfl)
set_option maxHeartbeats 4000000 in
set_option maxRecDepth 100000 in
theorem c_x9_firstBegin (l : Launch) {D : va_G} {cI cJ cZ cR : ClassId} {am gm : Nat → Nat} {st : Nat} (sz : Nat) (t : St) (a1 : Int32) (a2 : Int32) {r : Int32} (ho : x9_firstBegin t a1 a2 = some r) : Met l yX9_firstBegin (.code yX9_firstBegin cX9_firstBegin 7 (some .int) :: wsAll) (rmN 2 46) (va_Pc [.ref (am 1009), .int a1, .int a2] (prX D (tyX cI cJ cZ cR) (wX cI cJ cZ cR am gm t) sz st)) (qI r D (tyX cI cJ cZ cR) (wX cI cJ cZ cR am gm t) (va_A (wX cI cJ cZ cR am gm t) sz)) 0 0 (va_A (wX cI cJ cZ cR am gm t) sz) := by
  refine Met.ofW (cc := cX9_firstBegin) (maxL := 7) (ret := (some .int)) (by decide) rfl ?_
  intro p e s m args below meth c s₁ B hml hv
  obtain ⟨rfl, ⟨hsz, hP, hK, hD0⟩, hsx⟩ := hv
  have hx := B.exec
  have hb := B.bytes
  have hts := atoms_spec (ws := (.code yX9_firstBegin cX9_firstBegin 7 (some .int) :: wsAll)) B.pre
  have hta := fun w h => hts w (List.mem_cons_of_mem _ h)
  have hown : s.vm.findClass RX9 = some m.cls := findClass_of_methodNamed B.named
  have hlocks := B.notSynchronized
  subst hsz
  have hD := hD0.self (sz := s.heap.size)
  generalize hAe : va_A (wX cI cJ cZ cR am gm t) s.heap.size = A at hD ⊢
  have hA : ∀ q : Nat, s.heap.size ≤ q → A q := fun q h => by rw [← hAe]; exact Or.inr h
  have C0 : cxX p s m ([.ref (am 1009), .int a1, .int a2].toArray) meth c cX9_firstBegin RX9 7 (some .int) D (tyX cI cJ cZ cR) st A := ⟨⟨hx, hb, B.returns, hml, hown, hta, hlocks, hK, hA⟩, by rw [← hAe]; exact hsx⟩
  have hW : wl D A s (wX cI cJ cZ cR am gm t) s.heap [] := ⟨hP, hD, va_S.rf⟩
  have hl := lv_entry [.ref (am 1009), .int a1, .int a2] (n := 7) (Nat.le_of_ble_eq_true rfl)
  rw [lg_entry_eq]
  generalize (lg_sl [.ref (am 1009), .int a1, .int a2] ++ List.replicate (7 - (lg_sl [.ref (am 1009), .int a1, .int a2]).length) Slot.unset).toArray = ls at hl ⊢
  have hl : lv_has ls 7 [(0, .ref (am 1009)), (1, .int a1), (2, .int a2)] := hl
  unfold x9_firstBegin at ho
  refine lv_aload_n hx hb dX9_firstBegin_0 rfl (lv_at hl 0 rfl) ?_
  refine xGET_900 C0 kw_565 hW dX9_firstBegin_1 ?_
  refine lv_iload_n hx hb dX9_firstBegin_4 rfl (lv_at hl 1 rfl) ?_
  refine lv_iconst (v := (4 : Int32)) hx hb dX9_firstBegin_5 (by decide) ?_
  obtain ⟨q7, hc8, ho⟩ := bd_some ho
  refine bkI C0.1 hW (runVX (As := [.int a1, .int (4 : Int32)]) (rest := []) C0 hW (c_x5_get l _ t a1 (4 : Int32) (r := q7) hc8) cb_X9_X5_get_44 5 5 rfl rfl rfl rfl rfl ⟨rfl, rfl⟩ ⟨Nat.le_of_ble_eq_true rfl, Nat.le_of_ble_eq_true rfl⟩ (Nat.le_of_ble_eq_true rfl) hl.1 dX9_firstBegin_6 ⟨Nat.le_of_ble_eq_true rfl, Nat.le_of_ble_eq_true rfl⟩) (fun H locs hW => ?_)
  refine lv_istore_n (lv' := [(3, .int q7), (0, .ref (am 1009)), (1, .int a1), (2, .int a2)]) hx hb dX9_firstBegin_9 rfl hl (by decide) rfl (fun ls hl => ?_)
  refine lv_aload_n hx hb dX9_firstBegin_10 rfl (lv_at hl 1 rfl) ?_
  refine xGET_900 C0 kw_565 hW dX9_firstBegin_11 ?_
  refine lv_iload_n hx hb dX9_firstBegin_14 rfl (lv_at hl 2 rfl) ?_
  refine lv_iconst (v := (1 : Int32)) hx hb dX9_firstBegin_15 (by decide) ?_
  obtain ⟨q9, hc10, ho⟩ := bd_some ho
  refine bkI C0.1 hW (runVX (As := [.int a1, .int (1 : Int32)]) (rest := []) C0 hW (c_x5_get l _ t a1 (1 : Int32) (r := q9) hc10) cb_X9_X5_get_44 5 5 rfl rfl rfl rfl rfl ⟨rfl, rfl⟩ ⟨Nat.le_of_ble_eq_true rfl, Nat.le_of_ble_eq_true rfl⟩ (Nat.le_of_ble_eq_true rfl) hl.1 dX9_firstBegin_16 ⟨Nat.le_of_ble_eq_true rfl, Nat.le_of_ble_eq_true rfl⟩) (fun H locs hW => ?_)
  refine lv_istore (lv' := [(4, .int q9), (3, .int q7), (0, .ref (am 1009)), (1, .int a1), (2, .int a2)]) hx hb dX9_firstBegin_19 hl (by decide) rfl (fun ls hl => ?_)
  refine lv_iconst (v := (0 : Int32)) hx hb dX9_firstBegin_21 (by decide) ?_
  refine lv_istore (lv' := [(5, .int (0 : Int32)), (4, .int q9), (3, .int q7), (0, .ref (am 1009)), (1, .int a1), (2, .int a2)]) hx hb dX9_firstBegin_22 hl (by decide) rfl (fun ls hl => ?_)
  refine lv_iload_n hx hb dX9_firstBegin_24 rfl (lv_at hl 5 rfl) ?_
  refine lv_istore (lv' := [(6, .int a2), (5, .int (0 : Int32)), (4, .int q9), (3, .int q7), (0, .ref (am 1009)), (1, .int a1), (2, .int a2)]) hx hb dX9_firstBegin_25 hl (by decide) rfl (fun ls hl => ?_)
  obtain ⟨y11, hc12, ho⟩ := bd_some ho
  obtain ⟨ny11, hc12⟩ := lp_to hc12
  refine x9_firstBegin_L27 C0 ?_ ?_ ny11 _ _ hc12 _ _ _ hW (lv_sub hl [4, 3, 2, 1, 0] rfl)
  · intro u13 hy H locs ls hW hl
    subst hy
    replace ho := sum_l ho
    refine lv_iload hx hb dX9_firstBegin_62 (lv_at hl 2 rfl) ?_
    refine lv_iconst (v := (1 : Int32)) hx hb dX9_firstBegin_64 (by decide) ?_
    refine lv_iadd hx hb dX9_firstBegin_65 ?_
    refine lv_iload hx hb dX9_firstBegin_66 (lv_at hl 1 rfl) ?_
    refine lv_isub hx hb dX9_firstBegin_68 ?_
    cases ho
    exact rtI C0.1 hW dX9_firstBegin_69
  · intro u13 hy H locs ls hW hl
    subst hy
    replace ho := sum_r ho
    refine lv_iconst (v := (-1 : Int32)) hx hb dX9_firstBegin_76 (by decide) ?_
    cases ho
    exact rtI C0.1 hW dX9_firstBegin_77
noncomputable def x11_begins (t : St) (a1 : Int32) (a2 : Int32) : Option (Int32) :=
  (x11_noStep t a1).bind (fun q1 => if q1 = 0 then ((x11_outside t a2 (0 : Int32) (600 : Int32)).bind (fun q5 => if q5 = 0 then ((x9_firstBegin t a1 a2).bind (fun q9 => some q9)) else (some (-2 : Int32)))) else (some (-2 : Int32)))
set_option maxHeartbeats 4000000 in
set_option maxRecDepth 100000 in
theorem c_x11_begins (l : Launch) {D : va_G} {cI cJ cZ cR : ClassId} {am gm : Nat → Nat} {st : Nat} (sz : Nat) (t : St) (a1 : Int32) (a2 : Int32) {r : Int32} (ho : x11_begins t a1 a2 = some r) : Met l yX11_begins (.code yX11_begins cX11_begins 3 (some .int) :: wsAll) (rmN 3 72) (va_Pc [.ref (am 1011), .int a1, .int a2] (prX D (tyX cI cJ cZ cR) (wX cI cJ cZ cR am gm t) sz st)) (qI r D (tyX cI cJ cZ cR) (wX cI cJ cZ cR am gm t) (va_A (wX cI cJ cZ cR am gm t) sz)) 0 0 (va_A (wX cI cJ cZ cR am gm t) sz) := by
  refine Met.ofW (cc := cX11_begins) (maxL := 3) (ret := (some .int)) (by decide) rfl ?_
  intro p e s m args below meth c s₁ B hml hv
  obtain ⟨rfl, ⟨hsz, hP, hK, hD0⟩, hsx⟩ := hv
  have hx := B.exec
  have hb := B.bytes
  have hts := atoms_spec (ws := (.code yX11_begins cX11_begins 3 (some .int) :: wsAll)) B.pre
  have hta := fun w h => hts w (List.mem_cons_of_mem _ h)
  have hown : s.vm.findClass RX11 = some m.cls := findClass_of_methodNamed B.named
  have hlocks := B.notSynchronized
  subst hsz
  have hD := hD0.self (sz := s.heap.size)
  generalize hAe : va_A (wX cI cJ cZ cR am gm t) s.heap.size = A at hD ⊢
  have hA : ∀ q : Nat, s.heap.size ≤ q → A q := fun q h => by rw [← hAe]; exact Or.inr h
  have C0 : cxX p s m ([.ref (am 1011), .int a1, .int a2].toArray) meth c cX11_begins RX11 3 (some .int) D (tyX cI cJ cZ cR) st A := ⟨⟨hx, hb, B.returns, hml, hown, hta, hlocks, hK, hA⟩, by rw [← hAe]; exact hsx⟩
  have hW : wl D A s (wX cI cJ cZ cR am gm t) s.heap [] := ⟨hP, hD, va_S.rf⟩
  have hl := lv_entry [.ref (am 1011), .int a1, .int a2] (n := 3) (Nat.le_of_ble_eq_true rfl)
  rw [lg_entry_eq]
  generalize (lg_sl [.ref (am 1011), .int a1, .int a2] ++ List.replicate (3 - (lg_sl [.ref (am 1011), .int a1, .int a2]).length) Slot.unset).toArray = ls at hl ⊢
  have hl : lv_has ls 3 [(0, .ref (am 1011)), (1, .int a1), (2, .int a2)] := hl
  unfold x11_begins at ho
  refine lv_iload_n hx hb dX11_begins_0 rfl (lv_at hl 1 rfl) ?_
  obtain ⟨q1, hc2, ho⟩ := bd_some ho
  refine bkZ C0.1 hW (runSX (As := [.int a1]) (rest := []) C0 hW (c_x11_noStep l _ t a1 (r := q1) hc2) cb_X11_X11_noStep_98 rfl rfl ⟨rfl, rfl⟩ ⟨Nat.le_of_ble_eq_true rfl, Nat.le_of_ble_eq_true rfl⟩ (Nat.le_of_ble_eq_true rfl) hl.1 dX11_begins_1 ⟨Nat.le_of_ble_eq_true rfl, Nat.le_of_ble_eq_true rfl⟩) (fun z3 H locs hW => ?_)
  refine lv_if_ne (tgt := 18) hx hb dX11_begins_4 (by decide) (fun c4 => ?_) (fun c4 => ?_)
  · replace ho := ite_f c4 ho
    refine lv_bipush (v := (-2 : Int32)) hx hb dX11_begins_18 (by decide) ?_
    cases ho
    exact rtI C0.1 hW dX11_begins_20
  · replace ho := ite_t c4 ho
    refine lv_iload_n hx hb dX11_begins_7 rfl (lv_at hl 2 rfl) ?_
    refine lv_iconst (v := (0 : Int32)) hx hb dX11_begins_8 (by decide) ?_
    refine lv_sipush (v := (600 : Int32)) hx hb dX11_begins_9 (by decide) ?_
    obtain ⟨q5, hc6, ho⟩ := bd_some ho
    refine bkZ C0.1 hW (runSX (As := [.int a2, .int (0 : Int32), .int (600 : Int32)]) (rest := []) C0 hW (c_x11_outside l _ t a2 (0 : Int32) (600 : Int32) (r := q5) hc6) cb_X11_X11_outside_102 rfl rfl ⟨rfl, rfl⟩ ⟨Nat.le_of_ble_eq_true rfl, Nat.le_of_ble_eq_true rfl⟩ (Nat.le_of_ble_eq_true rfl) hl.1 dX11_begins_12 ⟨Nat.le_of_ble_eq_true rfl, Nat.le_of_ble_eq_true rfl⟩) (fun z7 H locs hW => ?_)
    refine lv_if_eq (tgt := 21) hx hb dX11_begins_15 (by decide) (fun c8 => ?_) (fun c8 => ?_)
    · replace ho := ite_t c8 ho
      refine lv_aload_n hx hb dX11_begins_21 rfl (lv_at hl 0 rfl) ?_
      refine xGET_1110 C0 kw_601 hW dX11_begins_22 ?_
      refine lv_iload_n hx hb dX11_begins_25 rfl (lv_at hl 1 rfl) ?_
      refine lv_iload_n hx hb dX11_begins_26 rfl (lv_at hl 2 rfl) ?_
      obtain ⟨q9, hc10, ho⟩ := bd_some ho
      refine bkI C0.1 hW (runVX (As := [.int a1, .int a2]) (rest := []) C0 hW (c_x9_firstBegin l _ t a1 a2 (r := q9) hc10) cb_X11_X9_firstBegin_345 9 9 rfl rfl rfl rfl rfl ⟨rfl, rfl⟩ ⟨Nat.le_of_ble_eq_true rfl, Nat.le_of_ble_eq_true rfl⟩ (Nat.le_of_ble_eq_true rfl) hl.1 dX11_begins_27 ⟨Nat.le_of_ble_eq_true rfl, Nat.le_of_ble_eq_true rfl⟩) (fun H locs hW => ?_)
      cases ho
      exact rtI C0.1 hW dX11_begins_30
    · replace ho := ite_f c8 ho
      refine lv_bipush (v := (-2 : Int32)) hx hb dX11_begins_18 (by decide) ?_
      cases ho
      exact rtI C0.1 hW dX11_begins_20
noncomputable def x9_soonestEnd_B33 (t : St) (v1 : Int32) (v3 : Int32) (v4 : Int32) (v5 : Int32) : Option ((Int32 × Int32) ⊕ (Int32)) :=
  if (gI t 905) ≤ v5 then (some (.inr v4)) else (if ((v3 >>> (v5 &&& 31)) &&& (1 : Int32)) = 0 then (nm (v5 + (1 : Int32)) (fun x10 : Int32 => some (.inl (v4, x10)))) else (gd (v3 &&& (((1 : Int32) <<< (v5 &&& 31)) ^^^ (-1 : Int32))) (gN t 907) (nm (gA t 907 ((v3 &&& (((1 : Int32) <<< (v5 &&& 31)) ^^^ (-1 : Int32)))).toNatClampNeg) (fun x4 : Int32 => if (601 : Int32) ≤ x4 then (nm (v5 + (1 : Int32)) (fun x6 : Int32 => some (.inl (v4, x6)))) else (gd ((v5 * (601 : Int32)) + x4) (gN t 906) (nm (if (gA t 906 (((v5 * (601 : Int32)) + x4)).toNatClampNeg) < v4 then (gA t 906 (((v5 * (601 : Int32)) + x4)).toNatClampNeg) else v4) (fun x8 : Int32 => nm (v5 + (1 : Int32)) (fun x9 : Int32 => some (.inl (x8, x9))))))))))
noncomputable def x9_soonestEnd_B9 (v1 : Int32) (v3 : Int32) (t : St) : Option ((Int32 × St) ⊕ (St)) :=
  if v1 < v3 then (some (.inr t)) else (if (v3 &&& (v1 ^^^ (-1 : Int32))) = 0 then ((lp (fun x => x9_soonestEnd_B33 t v1 v3 x.1 x.2) ((601 : Int32), (0 : Int32))).bind (fun y13 => gd v3 (gN t 907) (nm (sA t 907 v3 y13) (fun t16 : St => nm (v3 + (1 : Int32)) (fun x17 : Int32 => some (.inl (x17, t16))))))) else (nm (v3 + (1 : Int32)) (fun x18 : Int32 => some (.inl (x18, t)))))
noncomputable def x9_soonestEnd (t : St) (a1 : Int32) (a2 : Int32) : Option (Int32 × St) :=
  gd (0 : Int32) (gN t 907) (nm (sA t 907 (0 : Int32) a2) (fun t20 : St => (lp (fun x => x9_soonestEnd_B9 a1 x.1 x.2) ((1 : Int32), t20)).bind (fun y21 => gd a1 (gN y21 907) (some ((gA y21 907 (a1).toNatClampNeg), y21)))))
set_option maxHeartbeats 4000000 in
set_option maxRecDepth 100000 in
theorem x9_soonestEnd_L33 {p : Program} {l : Launch} {e : Env} {s : State} {m : MethodId} {args : Array Value} {below : List Frame} {meth : Method} {c : Code} {Q : State → Prop} {D : va_G} {cI cJ cZ cR : ClassId} {am gm : Nat → Nat} {st : Nat} {A : Nat → Prop} (C0 : cxX p s m args meth c cX9_soonestEnd RX9 7 (some .int) D (tyX cI cJ cZ cR) st A) {t : St} {v1 : Int32} {v3 : Int32} {y : Int32} (hK0 : ∀ (H : Heap) (locs : List Loc) (ls : Array Slot), wl D A s (wX cI cJ cZ cR am gm t) H locs → lv_has ls 7 [(0, .ref (am 1009)), (1, .int v1), (3, .int v3), (4, .int y)] → W p l e (rmN 1 21) s m args below meth c H locs 0 0 Q (F0 m 104 ls [])) :
    ∀ (n : Nat) (v4 : Int32) (v5 : Int32), lpn (fun x => x9_soonestEnd_B33 t v1 v3 x.1 x.2) n (v4, v5) = some y → ∀ (H : Heap) (locs : List Loc) (ls : Array Slot), wl D A s (wX cI cJ cZ cR am gm t) H locs → lv_has ls 7 [(0, .ref (am 1009)), (1, .int v1), (3, .int v3), (4, .int v4), (5, .int v5)] → W p l e (rmN 1 21) s m args below meth c H locs 0 0 Q (F0 m 33 ls []) := by
  have hx := C0.1.1
  have hb := C0.1.2.1
  have hta := C0.1.2.2.2.2.2.1
  have hown := C0.1.2.2.2.2.1
  intro n
  induction n with
  | zero => intro _ _ h; cases h
  | succ n ih =>
    intro v4 v5 hrun H locs ls hW hl
    obtain ⟨o, ho, hrun⟩ := bd_some hrun
    unfold x9_soonestEnd_B33 at ho
    refine lv_iload hx hb dX9_soonestEnd_33 (lv_at hl 4 rfl) ?_
    refine lv_aload_n hx hb dX9_soonestEnd_35 rfl (lv_at hl 0 rfl) ?_
    refine xGET_905 C0 kw_571 hW dX9_soonestEnd_36 ?_
    refine lv_icmp_ge (tgt := 104) hx hb dX9_soonestEnd_39 (by decide) (fun c1 => ?_) (fun c1 => ?_)
    · replace ho := ite_t c1 ho
      cases ho
      cases hrun
      exact hK0 _ _ _ hW (lv_sub hl [0, 1, 2, 3] rfl)
    · replace ho := ite_f c1 ho
      refine lv_iload_n hx hb dX9_soonestEnd_42 rfl (lv_at hl 2 rfl) ?_
      refine lv_iload hx hb dX9_soonestEnd_43 (lv_at hl 4 rfl) ?_
      refine lv_ishr hx hb dX9_soonestEnd_45 ?_
      refine lv_iconst (v := (1 : Int32)) hx hb dX9_soonestEnd_46 (by decide) ?_
      refine lv_iand hx hb dX9_soonestEnd_47 ?_
      refine lv_if_ne (tgt := 54) hx hb dX9_soonestEnd_48 (by decide) (fun c2 => ?_) (fun c2 => ?_)
      · replace ho := ite_f c2 ho
        refine lv_aload_n hx hb dX9_soonestEnd_54 rfl (lv_at hl 0 rfl) ?_
        refine xGET_907 C0 kw_573 hW dX9_soonestEnd_55 ?_
        refine lv_iload_n hx hb dX9_soonestEnd_58 rfl (lv_at hl 2 rfl) ?_
        refine lv_iconst (v := (1 : Int32)) hx hb dX9_soonestEnd_59 (by decide) ?_
        refine lv_iload hx hb dX9_soonestEnd_60 (lv_at hl 4 rfl) ?_
        refine lv_ishl hx hb dX9_soonestEnd_62 ?_
        refine lv_iconst (v := (-1 : Int32)) hx hb dX9_soonestEnd_63 (by decide) ?_
        refine lv_ixor hx hb dX9_soonestEnd_64 ?_
        refine lv_iand hx hb dX9_soonestEnd_65 ?_
        obtain ⟨g3, ho⟩ := gd_some ho
        refine xLD_907 C0 hW g3 dX9_soonestEnd_66 ?_
        refine lv_nmi ho (fun x4 ho => ?_)
        refine lv_istore (lv' := [(6, .int x4), (0, .ref (am 1009)), (1, .int v1), (3, .int v3), (4, .int v4), (5, .int v5)]) hx hb dX9_soonestEnd_67 hl (by decide) rfl (fun ls hl => ?_)
        refine lv_iload hx hb dX9_soonestEnd_69 (lv_at hl 0 rfl) ?_
        refine lv_sipush (v := (601 : Int32)) hx hb dX9_soonestEnd_71 (by decide) ?_
        refine lv_icmp_ge (tgt := 98) hx hb dX9_soonestEnd_74 (by decide) (fun c5 => ?_) (fun c5 => ?_)
        · replace ho := ite_t c5 ho
          obtain ⟨x6, ex6, ho⟩ := nm_x ho
          refine lv_iinc (v := x6) (lv' := [(5, .int x6), (6, .int x4), (0, .ref (am 1009)), (1, .int v1), (3, .int v3), (4, .int v4)]) hx hb dX9_soonestEnd_98 hl (k := 5) rfl (by rw [ex6]; rfl) (by decide) rfl (fun ls hl => ?_)
          clear ex6
          refine lv_goto (tgt := 33) hx hb dX9_soonestEnd_101 (by decide) ?_
          cases ho
          exact ih _ _ hrun _ _ _ hW (lv_sub hl [2, 3, 4, 5, 0] rfl)
        · replace ho := ite_f c5 ho
          refine lv_iload hx hb dX9_soonestEnd_77 (lv_at hl 4 rfl) ?_
          refine lv_aload_n hx hb dX9_soonestEnd_79 rfl (lv_at hl 1 rfl) ?_
          refine xGET_906 C0 kw_572 hW dX9_soonestEnd_80 ?_
          refine lv_iload hx hb dX9_soonestEnd_83 (lv_at hl 5 rfl) ?_
          refine lv_sipush (v := (601 : Int32)) hx hb dX9_soonestEnd_85 (by decide) ?_
          refine lv_imul hx hb dX9_soonestEnd_88 ?_
          refine lv_iload hx hb dX9_soonestEnd_89 (lv_at hl 0 rfl) ?_
          refine lv_iadd hx hb dX9_soonestEnd_91 ?_
          obtain ⟨g7, ho⟩ := gd_some ho
          refine xLD_906 C0 hW g7 dX9_soonestEnd_92 ?_
          refine va_mmin (rest := []) hx hb (C0.1.2.2.2.1.trans hl.1.symm) hown (hta _ kw_1402) (hta _ kw_748) (hta _ kw_136) (hta _ kw_749) (Nat.le_of_ble_eq_true rfl) (Nat.le_of_ble_eq_true rfl) (Nat.le_of_ble_eq_true rfl) (Nat.le_of_ble_eq_true rfl) dX9_soonestEnd_93 ?_
          refine lv_nmi ho (fun x8 ho => ?_)
          refine lv_istore (lv' := [(4, .int x8), (6, .int x4), (0, .ref (am 1009)), (1, .int v1), (3, .int v3), (5, .int v5)]) hx hb dX9_soonestEnd_96 hl (by decide) rfl (fun ls hl => ?_)
          obtain ⟨x9, ex9, ho⟩ := nm_x ho
          refine lv_iinc (v := x9) (lv' := [(5, .int x9), (4, .int x8), (6, .int x4), (0, .ref (am 1009)), (1, .int v1), (3, .int v3)]) hx hb dX9_soonestEnd_98 hl (k := 5) rfl (by rw [ex9]; rfl) (by decide) rfl (fun ls hl => ?_)
          clear ex9
          refine lv_goto (tgt := 33) hx hb dX9_soonestEnd_101 (by decide) ?_
          cases ho
          exact ih _ _ hrun _ _ _ hW (lv_sub hl [3, 4, 5, 1, 0] rfl)
      · replace ho := ite_t c2 ho
        refine lv_goto (tgt := 98) hx hb dX9_soonestEnd_51 (by decide) ?_
        obtain ⟨x10, ex10, ho⟩ := nm_x ho
        refine lv_iinc (v := x10) (lv' := [(5, .int x10), (0, .ref (am 1009)), (1, .int v1), (3, .int v3), (4, .int v4)]) hx hb dX9_soonestEnd_98 hl (k := 4) rfl (by rw [ex10]; rfl) (by decide) rfl (fun ls hl => ?_)
        clear ex10
        refine lv_goto (tgt := 33) hx hb dX9_soonestEnd_101 (by decide) ?_
        cases ho
        exact ih _ _ hrun _ _ _ hW (lv_sub hl [1, 2, 3, 4, 0] rfl)
set_option maxHeartbeats 4000000 in
set_option maxRecDepth 100000 in
theorem x9_soonestEnd_L9 {p : Program} {l : Launch} {e : Env} {s : State} {m : MethodId} {args : Array Value} {below : List Frame} {meth : Method} {c : Code} {Q : State → Prop} {D : va_G} {cI cJ cZ cR : ClassId} {am gm : Nat → Nat} {st : Nat} {A : Nat → Prop} (C0 : cxX p s m args meth c cX9_soonestEnd RX9 7 (some .int) D (tyX cI cJ cZ cR) st A) {v1 : Int32} {y : St} (hK0 : ∀ (H : Heap) (locs : List Loc) (ls : Array Slot), wl D A s (wX cI cJ cZ cR am gm y) H locs → lv_has ls 7 [(0, .ref (am 1009)), (1, .int v1)] → W p l e (rmN 1 21) s m args below meth c H locs 0 0 Q (F0 m 118 ls [])) :
    ∀ (n : Nat) (v3 : Int32) (t : St), lpn (fun x => x9_soonestEnd_B9 v1 x.1 x.2) n (v3, t) = some y → ∀ (H : Heap) (locs : List Loc) (ls : Array Slot), wl D A s (wX cI cJ cZ cR am gm t) H locs → lv_has ls 7 [(0, .ref (am 1009)), (1, .int v1), (3, .int v3)] → W p l e (rmN 1 21) s m args below meth c H locs 0 0 Q (F0 m 9 ls []) := by
  have hx := C0.1.1
  have hb := C0.1.2.1
  have hta := C0.1.2.2.2.2.2.1
  have hown := C0.1.2.2.2.2.1
  intro n
  induction n with
  | zero => intro _ _ h; cases h
  | succ n ih =>
    intro v3 t hrun H locs ls hW hl
    obtain ⟨o, ho, hrun⟩ := bd_some hrun
    unfold x9_soonestEnd_B9 at ho
    refine lv_iload_n hx hb dX9_soonestEnd_9 rfl (lv_at hl 2 rfl) ?_
    refine lv_iload_n hx hb dX9_soonestEnd_10 rfl (lv_at hl 1 rfl) ?_
    refine lv_icmp_gt (tgt := 118) hx hb dX9_soonestEnd_11 (by decide) (fun c11 => ?_) (fun c11 => ?_)
    · replace ho := ite_t c11 ho
      cases ho
      cases hrun
      exact hK0 _ _ _ hW (lv_sub hl [0, 1] rfl)
    · replace ho := ite_f c11 ho
      refine lv_iload_n hx hb dX9_soonestEnd_14 rfl (lv_at hl 2 rfl) ?_
      refine lv_iload_n hx hb dX9_soonestEnd_15 rfl (lv_at hl 1 rfl) ?_
      refine lv_iconst (v := (-1 : Int32)) hx hb dX9_soonestEnd_16 (by decide) ?_
      refine lv_ixor hx hb dX9_soonestEnd_17 ?_
      refine lv_iand hx hb dX9_soonestEnd_18 ?_
      refine lv_if_eq (tgt := 25) hx hb dX9_soonestEnd_19 (by decide) (fun c12 => ?_) (fun c12 => ?_)
      · replace ho := ite_t c12 ho
        refine lv_sipush (v := (601 : Int32)) hx hb dX9_soonestEnd_25 (by decide) ?_
        refine lv_istore (lv' := [(4, .int (601 : Int32)), (0, .ref (am 1009)), (1, .int v1), (3, .int v3)]) hx hb dX9_soonestEnd_28 hl (by decide) rfl (fun ls hl => ?_)
        refine lv_iconst (v := (0 : Int32)) hx hb dX9_soonestEnd_30 (by decide) ?_
        refine lv_istore (lv' := [(5, .int (0 : Int32)), (4, .int (601 : Int32)), (0, .ref (am 1009)), (1, .int v1), (3, .int v3)]) hx hb dX9_soonestEnd_31 hl (by decide) rfl (fun ls hl => ?_)
        obtain ⟨y13, hc14, ho⟩ := bd_some ho
        obtain ⟨ny13, hc14⟩ := lp_to hc14
        refine x9_soonestEnd_L33 C0 ?_ ny13 _ _ hc14 _ _ _ hW (lv_sub hl [2, 3, 4, 1, 0] rfl)
        intro H locs ls hW hl
        refine lv_aload_n hx hb dX9_soonestEnd_104 rfl (lv_at hl 0 rfl) ?_
        refine xGET_907 C0 kw_573 hW dX9_soonestEnd_105 ?_
        refine lv_iload_n hx hb dX9_soonestEnd_108 rfl (lv_at hl 2 rfl) ?_
        refine lv_iload hx hb dX9_soonestEnd_109 (lv_at hl 3 rfl) ?_
        obtain ⟨g15, ho⟩ := gd_some ho
        refine xST_907 C0 hW g15 dX9_soonestEnd_111 (fun H locs hW => ?_)
        obtain ⟨t16, ho, hW⟩ := nm_w (P := fun t => wl D A s (wX cI cJ cZ cR am gm t) H locs) ho hW
        obtain ⟨x17, ex17, ho⟩ := nm_x ho
        refine lv_iinc (v := x17) (lv' := [(3, .int x17), (0, .ref (am 1009)), (1, .int v1), (4, .int y13)]) hx hb dX9_soonestEnd_112 hl (k := 2) rfl (by rw [ex17]; rfl) (by decide) rfl (fun ls hl => ?_)
        clear ex17
        refine lv_goto (tgt := 9) hx hb dX9_soonestEnd_115 (by decide) ?_
        cases ho
        exact ih _ _ hrun _ _ _ hW (lv_sub hl [1, 2, 0] rfl)
      · replace ho := ite_f c12 ho
        refine lv_goto (tgt := 112) hx hb dX9_soonestEnd_22 (by decide) ?_
        obtain ⟨x18, ex18, ho⟩ := nm_x ho
        refine lv_iinc (v := x18) (lv' := [(3, .int x18), (0, .ref (am 1009)), (1, .int v1)]) hx hb dX9_soonestEnd_112 hl (k := 2) rfl (by rw [ex18]; rfl) (by decide) rfl (fun ls hl => ?_)
        clear ex18
        refine lv_goto (tgt := 9) hx hb dX9_soonestEnd_115 (by decide) ?_
        cases ho
        exact ih _ _ hrun _ _ _ hW (lv_sub hl [1, 2, 0] rfl)
set_option maxHeartbeats 4000000 in
set_option maxRecDepth 100000 in
theorem c_x9_soonestEnd (l : Launch) {D : va_G} {cI cJ cZ cR : ClassId} {am gm : Nat → Nat} {st : Nat} (sz : Nat) (t : St) (a1 : Int32) (a2 : Int32) {r : Int32} {t' : St} (ho : x9_soonestEnd t a1 a2 = some (r, t')) : Met l yX9_soonestEnd (.code yX9_soonestEnd cX9_soonestEnd 7 (some .int) :: wsAll) (rmN 1 21) (va_Pc [.ref (am 1009), .int a1, .int a2] (prX D (tyX cI cJ cZ cR) (wX cI cJ cZ cR am gm t) sz st)) (qI r D (tyX cI cJ cZ cR) (wX cI cJ cZ cR am gm t') (va_A (wX cI cJ cZ cR am gm t) sz)) 0 0 (va_A (wX cI cJ cZ cR am gm t) sz) := by
  refine Met.ofW (cc := cX9_soonestEnd) (maxL := 7) (ret := (some .int)) (by decide) rfl ?_
  intro p e s m args below meth c s₁ B hml hv
  obtain ⟨rfl, ⟨hsz, hP, hK, hD0⟩, hsx⟩ := hv
  have hx := B.exec
  have hb := B.bytes
  have hts := atoms_spec (ws := (.code yX9_soonestEnd cX9_soonestEnd 7 (some .int) :: wsAll)) B.pre
  have hta := fun w h => hts w (List.mem_cons_of_mem _ h)
  have hown : s.vm.findClass RX9 = some m.cls := findClass_of_methodNamed B.named
  have hlocks := B.notSynchronized
  subst hsz
  have hD := hD0.self (sz := s.heap.size)
  generalize hAe : va_A (wX cI cJ cZ cR am gm t) s.heap.size = A at hD ⊢
  have hA : ∀ q : Nat, s.heap.size ≤ q → A q := fun q h => by rw [← hAe]; exact Or.inr h
  have C0 : cxX p s m ([.ref (am 1009), .int a1, .int a2].toArray) meth c cX9_soonestEnd RX9 7 (some .int) D (tyX cI cJ cZ cR) st A := ⟨⟨hx, hb, B.returns, hml, hown, hta, hlocks, hK, hA⟩, by rw [← hAe]; exact hsx⟩
  have hW : wl D A s (wX cI cJ cZ cR am gm t) s.heap [] := ⟨hP, hD, va_S.rf⟩
  have hl := lv_entry [.ref (am 1009), .int a1, .int a2] (n := 7) (Nat.le_of_ble_eq_true rfl)
  rw [lg_entry_eq]
  generalize (lg_sl [.ref (am 1009), .int a1, .int a2] ++ List.replicate (7 - (lg_sl [.ref (am 1009), .int a1, .int a2]).length) Slot.unset).toArray = ls at hl ⊢
  have hl : lv_has ls 7 [(0, .ref (am 1009)), (1, .int a1), (2, .int a2)] := hl
  unfold x9_soonestEnd at ho
  refine lv_aload_n hx hb dX9_soonestEnd_0 rfl (lv_at hl 0 rfl) ?_
  refine xGET_907 C0 kw_573 hW dX9_soonestEnd_1 ?_
  refine lv_iconst (v := (0 : Int32)) hx hb dX9_soonestEnd_4 (by decide) ?_
  refine lv_iload_n hx hb dX9_soonestEnd_5 rfl (lv_at hl 2 rfl) ?_
  obtain ⟨g19, ho⟩ := gd_some ho
  refine xST_907 C0 hW g19 dX9_soonestEnd_6 (fun H locs hW => ?_)
  obtain ⟨t20, ho, hW⟩ := nm_w (P := fun t => wl D A s (wX cI cJ cZ cR am gm t) H locs) ho hW
  refine lv_iconst (v := (1 : Int32)) hx hb dX9_soonestEnd_7 (by decide) ?_
  refine lv_istore_n (lv' := [(3, .int (1 : Int32)), (0, .ref (am 1009)), (1, .int a1), (2, .int a2)]) hx hb dX9_soonestEnd_8 rfl hl (by decide) rfl (fun ls hl => ?_)
  obtain ⟨y21, hc22, ho⟩ := bd_some ho
  obtain ⟨ny21, hc22⟩ := lp_to hc22
  refine x9_soonestEnd_L9 C0 ?_ ny21 _ _ hc22 _ _ _ hW (lv_sub hl [1, 2, 0] rfl)
  intro H locs ls hW hl
  refine lv_aload_n hx hb dX9_soonestEnd_118 rfl (lv_at hl 0 rfl) ?_
  refine xGET_907 C0 kw_573 hW dX9_soonestEnd_119 ?_
  refine lv_iload_n hx hb dX9_soonestEnd_122 rfl (lv_at hl 1 rfl) ?_
  obtain ⟨g23, ho⟩ := gd_some ho
  refine xLD_907 C0 hW g23 dX9_soonestEnd_123 ?_
  cases ho
  exact rtI C0.1 hW dX9_soonestEnd_124
noncomputable def x9_firstToGo_B3 (v1 : Int32) (v2 : Int32) (v3 : Int32) (v4 : Int32) (t : St) : Option ((Int32 × St) ⊕ ((Int32 × St) ⊕ (St))) :=
  if (gI t 905) ≤ v4 then (some (.inr (.inr t))) else (if ((v1 >>> (v4 &&& 31)) &&& (1 : Int32)) = 0 then (nm (v4 + (1 : Int32)) (fun x11 : Int32 => some (.inl (x11, t)))) else (gd ((v4 * (601 : Int32)) + v2) (gN t 906) (nm (gA t 906 (((v4 * (601 : Int32)) + v2)).toNatClampNeg) (fun x4 : Int32 => if v3 < x4 then (nm (v4 + (1 : Int32)) (fun x6 : Int32 => some (.inl (x6, t)))) else ((x9_soonestEnd t (v1 &&& (((1 : Int32) <<< (v4 &&& 31)) ^^^ (-1 : Int32))) x4).bind (fun q7 => if q7.1 = v3 then (some (.inr (.inl (v4, q7.2)))) else (nm (v4 + (1 : Int32)) (fun x10 : Int32 => some (.inl (x10, q7.2))))))))))
noncomputable def x9_firstToGo (t : St) (a1 : Int32) (a2 : Int32) (a3 : Int32) : Option (Int32 × St) :=
  (lp (fun x => x9_firstToGo_B3 a1 a2 a3 x.1 x.2) ((0 : Int32), t)).bind (fun y12 => (Sum.elim (fun u14 => some (u14.1, u14.2)) (fun u14 => some ((-1 : Int32), u14))) y12)
set_option maxHeartbeats 4000000 in
set_option maxRecDepth 100000 in
theorem x9_firstToGo_L3 {p : Program} {l : Launch} {e : Env} {s : State} {m : MethodId} {args : Array Value} {below : List Frame} {meth : Method} {c : Code} {Q : State → Prop} {D : va_G} {cI cJ cZ cR : ClassId} {am gm : Nat → Nat} {st : Nat} {A : Nat → Prop} (C0 : cxX p s m args meth c cX9_firstToGo RX9 6 (some .int) D (tyX cI cJ cZ cR) st A) {v1 : Int32} {v2 : Int32} {v3 : Int32} {y : (Int32 × St) ⊕ (St)} (hK0 : ∀ u, y = (.inl u) → ∀ (H : Heap) (locs : List Loc) (ls : Array Slot), wl D A s (wX cI cJ cZ cR am gm u.2) H locs → lv_has ls 6 [(0, .ref (am 1009)), (4, .int u.1)] → W p l e (rmN 2 47) s m args below meth c H locs 0 0 Q (F0 m 63 ls [])) (hK1 : ∀ u, y = (.inr u) → ∀ (H : Heap) (locs : List Loc) (ls : Array Slot), wl D A s (wX cI cJ cZ cR am gm u) H locs → lv_has ls 6 [(0, .ref (am 1009))] → W p l e (rmN 2 47) s m args below meth c H locs 0 0 Q (F0 m 72 ls [])) :
    ∀ (n : Nat) (v4 : Int32) (t : St), lpn (fun x => x9_firstToGo_B3 v1 v2 v3 x.1 x.2) n (v4, t) = some y → ∀ (H : Heap) (locs : List Loc) (ls : Array Slot), wl D A s (wX cI cJ cZ cR am gm t) H locs → lv_has ls 6 [(0, .ref (am 1009)), (1, .int v1), (2, .int v2), (3, .int v3), (4, .int v4)] → W p l e (rmN 2 47) s m args below meth c H locs 0 0 Q (F0 m 3 ls []) := by
  have hx := C0.1.1
  have hb := C0.1.2.1
  have hta := C0.1.2.2.2.2.2.1
  have hown := C0.1.2.2.2.2.1
  intro n
  induction n with
  | zero => intro _ _ h; cases h
  | succ n ih =>
    intro v4 t hrun H locs ls hW hl
    obtain ⟨o, ho, hrun⟩ := bd_some hrun
    unfold x9_firstToGo_B3 at ho
    refine lv_iload hx hb dX9_firstToGo_3 (lv_at hl 4 rfl) ?_
    refine lv_aload_n hx hb dX9_firstToGo_5 rfl (lv_at hl 0 rfl) ?_
    refine xGET_905 C0 kw_571 hW dX9_firstToGo_6 ?_
    refine lv_icmp_ge (tgt := 72) hx hb dX9_firstToGo_9 (by decide) (fun c1 => ?_) (fun c1 => ?_)
    · replace ho := ite_t c1 ho
      cases ho
      cases hrun
      exact hK1 _ rfl _ _ _ hW (lv_sub hl [0] rfl)
    · replace ho := ite_f c1 ho
      refine lv_iload_n hx hb dX9_firstToGo_12 rfl (lv_at hl 1 rfl) ?_
      refine lv_iload hx hb dX9_firstToGo_13 (lv_at hl 4 rfl) ?_
      refine lv_ishr hx hb dX9_firstToGo_15 ?_
      refine lv_iconst (v := (1 : Int32)) hx hb dX9_firstToGo_16 (by decide) ?_
      refine lv_iand hx hb dX9_firstToGo_17 ?_
      refine lv_if_ne (tgt := 24) hx hb dX9_firstToGo_18 (by decide) (fun c2 => ?_) (fun c2 => ?_)
      · replace ho := ite_f c2 ho
        refine lv_aload_n hx hb dX9_firstToGo_24 rfl (lv_at hl 0 rfl) ?_
        refine xGET_906 C0 kw_572 hW dX9_firstToGo_25 ?_
        refine lv_iload hx hb dX9_firstToGo_28 (lv_at hl 4 rfl) ?_
        refine lv_sipush (v := (601 : Int32)) hx hb dX9_firstToGo_30 (by decide) ?_
        refine lv_imul hx hb dX9_firstToGo_33 ?_
        refine lv_iload_n hx hb dX9_firstToGo_34 rfl (lv_at hl 2 rfl) ?_
        refine lv_iadd hx hb dX9_firstToGo_35 ?_
        obtain ⟨g3, ho⟩ := gd_some ho
        refine xLD_906 C0 hW g3 dX9_firstToGo_36 ?_
        refine lv_nmi ho (fun x4 ho => ?_)
        refine lv_istore (lv' := [(5, .int x4), (0, .ref (am 1009)), (1, .int v1), (2, .int v2), (3, .int v3), (4, .int v4)]) hx hb dX9_firstToGo_37 hl (by decide) rfl (fun ls hl => ?_)
        refine lv_iload hx hb dX9_firstToGo_39 (lv_at hl 0 rfl) ?_
        refine lv_iload_n hx hb dX9_firstToGo_41 rfl (lv_at hl 4 rfl) ?_
        refine lv_icmp_gt (tgt := 66) hx hb dX9_firstToGo_42 (by decide) (fun c5 => ?_) (fun c5 => ?_)
        · replace ho := ite_t c5 ho
          obtain ⟨x6, ex6, ho⟩ := nm_x ho
          refine lv_iinc (v := x6) (lv' := [(4, .int x6), (5, .int x4), (0, .ref (am 1009)), (1, .int v1), (2, .int v2), (3, .int v3)]) hx hb dX9_firstToGo_66 hl (k := 5) rfl (by rw [ex6]; rfl) (by decide) rfl (fun ls hl => ?_)
          clear ex6
          refine lv_goto (tgt := 3) hx hb dX9_firstToGo_69 (by decide) ?_
          cases ho
          exact ih _ _ hrun _ _ _ hW (lv_sub hl [2, 3, 4, 5, 0] rfl)
        · replace ho := ite_f c5 ho
          refine lv_aload_n hx hb dX9_firstToGo_45 rfl (lv_at hl 1 rfl) ?_
          refine lv_iload_n hx hb dX9_firstToGo_46 rfl (lv_at hl 2 rfl) ?_
          refine lv_iconst (v := (1 : Int32)) hx hb dX9_firstToGo_47 (by decide) ?_
          refine lv_iload hx hb dX9_firstToGo_48 (lv_at hl 5 rfl) ?_
          refine lv_ishl hx hb dX9_firstToGo_50 ?_
          refine lv_iconst (v := (-1 : Int32)) hx hb dX9_firstToGo_51 (by decide) ?_
          refine lv_ixor hx hb dX9_firstToGo_52 ?_
          refine lv_iand hx hb dX9_firstToGo_53 ?_
          refine lv_iload hx hb dX9_firstToGo_54 (lv_at hl 0 rfl) ?_
          obtain ⟨q7, hc8, ho⟩ := bd_some ho
          refine bkI C0.1 hW (runVX (As := [.int (v1 &&& (((1 : Int32) <<< (v4 &&& 31)) ^^^ (-1 : Int32))), .int x4]) (rest := []) C0 hW (c_x9_soonestEnd l _ t (v1 &&& (((1 : Int32) <<< (v4 &&& 31)) ^^^ (-1 : Int32))) x4 (r := q7.1) (t' := q7.2) hc8) cb_X9_X9_soonestEnd_54 9 9 rfl rfl rfl rfl rfl ⟨rfl, rfl⟩ ⟨Nat.le_of_ble_eq_true rfl, Nat.le_of_ble_eq_true rfl⟩ (Nat.le_of_ble_eq_true rfl) hl.1 dX9_firstToGo_56 ⟨Nat.le_of_ble_eq_true rfl, Nat.le_of_ble_eq_true rfl⟩) (fun H locs hW => ?_)
          refine lv_iload_n hx hb dX9_firstToGo_59 rfl (lv_at hl 4 rfl) ?_
          refine lv_icmp_ne (tgt := 66) hx hb dX9_firstToGo_60 (by decide) (fun c9 => ?_) (fun c9 => ?_)
          · replace ho := ite_f c9 ho
            obtain ⟨x10, ex10, ho⟩ := nm_x ho
            refine lv_iinc (v := x10) (lv' := [(4, .int x10), (5, .int x4), (0, .ref (am 1009)), (1, .int v1), (2, .int v2), (3, .int v3)]) hx hb dX9_firstToGo_66 hl (k := 5) rfl (by rw [ex10]; rfl) (by decide) rfl (fun ls hl => ?_)
            clear ex10
            refine lv_goto (tgt := 3) hx hb dX9_firstToGo_69 (by decide) ?_
            cases ho
            exact ih _ _ hrun _ _ _ hW (lv_sub hl [2, 3, 4, 5, 0] rfl)
          · replace ho := ite_t c9 ho
            cases ho
            cases hrun
            exact hK0 _ rfl _ _ _ hW (lv_sub hl [1, 5] rfl)
      · replace ho := ite_t c2 ho
        refine lv_goto (tgt := 66) hx hb dX9_firstToGo_21 (by decide) ?_
        obtain ⟨x11, ex11, ho⟩ := nm_x ho
        refine lv_iinc (v := x11) (lv' := [(4, .int x11), (0, .ref (am 1009)), (1, .int v1), (2, .int v2), (3, .int v3)]) hx hb dX9_firstToGo_66 hl (k := 4) rfl (by rw [ex11]; rfl) (by decide) rfl (fun ls hl => ?_)
        clear ex11
        refine lv_goto (tgt := 3) hx hb dX9_firstToGo_69 (by decide) ?_
        cases ho
        exact ih _ _ hrun _ _ _ hW (lv_sub hl [1, 2, 3, 4, 0] rfl)
set_option maxHeartbeats 4000000 in
set_option maxRecDepth 100000 in
theorem c_x9_firstToGo (l : Launch) {D : va_G} {cI cJ cZ cR : ClassId} {am gm : Nat → Nat} {st : Nat} (sz : Nat) (t : St) (a1 : Int32) (a2 : Int32) (a3 : Int32) {r : Int32} {t' : St} (ho : x9_firstToGo t a1 a2 a3 = some (r, t')) : Met l yX9_firstToGo (.code yX9_firstToGo cX9_firstToGo 6 (some .int) :: wsAll) (rmN 2 47) (va_Pc [.ref (am 1009), .int a1, .int a2, .int a3] (prX D (tyX cI cJ cZ cR) (wX cI cJ cZ cR am gm t) sz st)) (qI r D (tyX cI cJ cZ cR) (wX cI cJ cZ cR am gm t') (va_A (wX cI cJ cZ cR am gm t) sz)) 0 0 (va_A (wX cI cJ cZ cR am gm t) sz) := by
  refine Met.ofW (cc := cX9_firstToGo) (maxL := 6) (ret := (some .int)) (by decide) rfl ?_
  intro p e s m args below meth c s₁ B hml hv
  obtain ⟨rfl, ⟨hsz, hP, hK, hD0⟩, hsx⟩ := hv
  have hx := B.exec
  have hb := B.bytes
  have hts := atoms_spec (ws := (.code yX9_firstToGo cX9_firstToGo 6 (some .int) :: wsAll)) B.pre
  have hta := fun w h => hts w (List.mem_cons_of_mem _ h)
  have hown : s.vm.findClass RX9 = some m.cls := findClass_of_methodNamed B.named
  have hlocks := B.notSynchronized
  subst hsz
  have hD := hD0.self (sz := s.heap.size)
  generalize hAe : va_A (wX cI cJ cZ cR am gm t) s.heap.size = A at hD ⊢
  have hA : ∀ q : Nat, s.heap.size ≤ q → A q := fun q h => by rw [← hAe]; exact Or.inr h
  have C0 : cxX p s m ([.ref (am 1009), .int a1, .int a2, .int a3].toArray) meth c cX9_firstToGo RX9 6 (some .int) D (tyX cI cJ cZ cR) st A := ⟨⟨hx, hb, B.returns, hml, hown, hta, hlocks, hK, hA⟩, by rw [← hAe]; exact hsx⟩
  have hW : wl D A s (wX cI cJ cZ cR am gm t) s.heap [] := ⟨hP, hD, va_S.rf⟩
  have hl := lv_entry [.ref (am 1009), .int a1, .int a2, .int a3] (n := 6) (Nat.le_of_ble_eq_true rfl)
  rw [lg_entry_eq]
  generalize (lg_sl [.ref (am 1009), .int a1, .int a2, .int a3] ++ List.replicate (6 - (lg_sl [.ref (am 1009), .int a1, .int a2, .int a3]).length) Slot.unset).toArray = ls at hl ⊢
  have hl : lv_has ls 6 [(0, .ref (am 1009)), (1, .int a1), (2, .int a2), (3, .int a3)] := hl
  unfold x9_firstToGo at ho
  refine lv_iconst (v := (0 : Int32)) hx hb dX9_firstToGo_0 (by decide) ?_
  refine lv_istore (lv' := [(4, .int (0 : Int32)), (0, .ref (am 1009)), (1, .int a1), (2, .int a2), (3, .int a3)]) hx hb dX9_firstToGo_1 hl (by decide) rfl (fun ls hl => ?_)
  obtain ⟨y12, hc13, ho⟩ := bd_some ho
  obtain ⟨ny12, hc13⟩ := lp_to hc13
  refine x9_firstToGo_L3 C0 ?_ ?_ ny12 _ _ hc13 _ _ _ hW (lv_sub hl [1, 2, 3, 4, 0] rfl)
  · intro u14 hy H locs ls hW hl
    subst hy
    replace ho := sum_l ho
    refine lv_iload hx hb dX9_firstToGo_63 (lv_at hl 1 rfl) ?_
    cases ho
    exact rtI C0.1 hW dX9_firstToGo_65
  · intro u14 hy H locs ls hW hl
    subst hy
    replace ho := sum_r ho
    refine lv_iconst (v := (-1 : Int32)) hx hb dX9_firstToGo_72 (by decide) ?_
    cases ho
    exact rtI C0.1 hW dX9_firstToGo_73
noncomputable def x5_keep (t : St) (a1 : Int32) : Option (St) :=
  gd a1 2 (cpk (0 : Int32) (0 : Int32) (Int32.ofNat (gN t 500)) (gN t 500) (imN t (a1).toNatClampNeg) (nm (imS t (a1).toNatClampNeg (va_cpy (gA t 500) (imG t (a1).toNatClampNeg) ((0 : Int32)).toNatClampNeg ((0 : Int32)).toNatClampNeg ((Int32.ofNat (gN t 500))).toNatClampNeg)) (fun t3 : St => gd a1 (gN t3 502) (nm (sA t3 502 a1 (vp_nar .boolean (1 : Int32))) (fun t5 : St => some t5)))))
set_option maxHeartbeats 4000000 in
set_option maxRecDepth 100000 in
theorem c_x5_keep (l : Launch) {D : va_G} {cI cJ cZ cR : ClassId} {am gm : Nat → Nat} {st : Nat} (sz : Nat) (t : St) (a1 : Int32) {t' : St} (ho : x5_keep t a1 = some t') : Met l yX5_keep (.code yX5_keep cX5_keep 2 none :: wsAll) (rmN 1 60) (va_Pc [.ref (am 1005), .int a1] (prX D (tyX cI cJ cZ cR) (wX cI cJ cZ cR am gm t) sz st)) (qV D (tyX cI cJ cZ cR) (wX cI cJ cZ cR am gm t') (va_A (wX cI cJ cZ cR am gm t) sz)) 0 0 (va_A (wX cI cJ cZ cR am gm t) sz) := by
  refine Met.ofW (cc := cX5_keep) (maxL := 2) (ret := none) (by decide) rfl ?_
  intro p e s m args below meth c s₁ B hml hv
  obtain ⟨rfl, ⟨hsz, hP, hK, hD0⟩, hsx⟩ := hv
  have hx := B.exec
  have hb := B.bytes
  have hts := atoms_spec (ws := (.code yX5_keep cX5_keep 2 none :: wsAll)) B.pre
  have hta := fun w h => hts w (List.mem_cons_of_mem _ h)
  have hown : s.vm.findClass RX5 = some m.cls := findClass_of_methodNamed B.named
  have hlocks := B.notSynchronized
  subst hsz
  have hD := hD0.self (sz := s.heap.size)
  generalize hAe : va_A (wX cI cJ cZ cR am gm t) s.heap.size = A at hD ⊢
  have hA : ∀ q : Nat, s.heap.size ≤ q → A q := fun q h => by rw [← hAe]; exact Or.inr h
  have C0 : cxX p s m ([.ref (am 1005), .int a1].toArray) meth c cX5_keep RX5 2 none D (tyX cI cJ cZ cR) st A := ⟨⟨hx, hb, B.returns, hml, hown, hta, hlocks, hK, hA⟩, by rw [← hAe]; exact hsx⟩
  have hW : wl D A s (wX cI cJ cZ cR am gm t) s.heap [] := ⟨hP, hD, va_S.rf⟩
  have hl := lv_entry [.ref (am 1005), .int a1] (n := 2) (Nat.le_of_ble_eq_true rfl)
  rw [lg_entry_eq]
  generalize (lg_sl [.ref (am 1005), .int a1] ++ List.replicate (2 - (lg_sl [.ref (am 1005), .int a1]).length) Slot.unset).toArray = ls at hl ⊢
  have hl : lv_has ls 2 [(0, .ref (am 1005)), (1, .int a1)] := hl
  unfold x5_keep at ho
  refine lv_aload_n hx hb dX5_keep_0 rfl (lv_at hl 0 rfl) ?_
  refine xGET_500 C0 kw_156 hW dX5_keep_1 ?_
  refine lv_iconst (v := (0 : Int32)) hx hb dX5_keep_4 (by decide) ?_
  refine lv_aload_n hx hb dX5_keep_5 rfl (lv_at hl 0 rfl) ?_
  refine xGET_501 C0 kw_157 hW dX5_keep_6 ?_
  refine lv_iload_n hx hb dX5_keep_9 rfl (lv_at hl 1 rfl) ?_
  obtain ⟨g1, ho⟩ := gd_some ho
  refine xIMG C0 hW g1 dX5_keep_10 ?_
  refine lv_iconst (v := (0 : Int32)) hx hb dX5_keep_11 (by decide) ?_
  refine lv_aload_n hx hb dX5_keep_12 rfl (lv_at hl 0 rfl) ?_
  refine xGET_500 C0 kw_156 hW dX5_keep_13 ?_
  refine xLEN_500 C0 hW dX5_keep_16 ?_
  obtain ⟨g2, ho⟩ := cpk_some ho
  refine xCPY_500_img (rest := []) C0 kw_1423 kw_752 kw_751 kw_137 hl.1 hW g1 g2 (Nat.le_of_ble_eq_true rfl) (Nat.le_of_ble_eq_true rfl) dX5_keep_17 (fun H locs hW => ?_)
  obtain ⟨t3, ho, hW⟩ := nm_w (P := fun t => wl D A s (wX cI cJ cZ cR am gm t) H locs) ho hW
  refine lv_aload_n hx hb dX5_keep_20 rfl (lv_at hl 0 rfl) ?_
  refine xGET_502 C0 kw_158 hW dX5_keep_21 ?_
  refine lv_iload_n hx hb dX5_keep_24 rfl (lv_at hl 1 rfl) ?_
  refine lv_iconst (v := (1 : Int32)) hx hb dX5_keep_25 (by decide) ?_
  obtain ⟨g4, ho⟩ := gd_some ho
  refine xST_502 C0 hW g4 dX5_keep_26 (fun H locs hW => ?_)
  obtain ⟨t5, ho, hW⟩ := nm_w (P := fun t => wl D A s (wX cI cJ cZ cR am gm t) H locs) ho hW
  cases ho
  exact rtV C0.1 hW dX5_keep_27
noncomputable def x11_image (t : St) (a1 : Int32) : Option (Int32 × St) :=
  (x11_outside t a1 (0 : Int32) (1 : Int32)).bind (fun q1 => if q1 = 0 then ((x5_keep t a1).bind (fun q5 => some ((1 : Int32), q5))) else (some ((-2 : Int32), t)))
set_option maxHeartbeats 4000000 in
set_option maxRecDepth 100000 in
theorem c_x11_image (l : Launch) {D : va_G} {cI cJ cZ cR : ClassId} {am gm : Nat → Nat} {st : Nat} (sz : Nat) (t : St) (a1 : Int32) {r : Int32} {t' : St} (ho : x11_image t a1 = some (r, t')) : Met l yX11_image (.code yX11_image cX11_image 2 (some .int) :: wsAll) (rmN 2 81) (va_Pc [.ref (am 1011), .int a1] (prX D (tyX cI cJ cZ cR) (wX cI cJ cZ cR am gm t) sz st)) (qI r D (tyX cI cJ cZ cR) (wX cI cJ cZ cR am gm t') (va_A (wX cI cJ cZ cR am gm t) sz)) 0 0 (va_A (wX cI cJ cZ cR am gm t) sz) := by
  refine Met.ofW (cc := cX11_image) (maxL := 2) (ret := (some .int)) (by decide) rfl ?_
  intro p e s m args below meth c s₁ B hml hv
  obtain ⟨rfl, ⟨hsz, hP, hK, hD0⟩, hsx⟩ := hv
  have hx := B.exec
  have hb := B.bytes
  have hts := atoms_spec (ws := (.code yX11_image cX11_image 2 (some .int) :: wsAll)) B.pre
  have hta := fun w h => hts w (List.mem_cons_of_mem _ h)
  have hown : s.vm.findClass RX11 = some m.cls := findClass_of_methodNamed B.named
  have hlocks := B.notSynchronized
  subst hsz
  have hD := hD0.self (sz := s.heap.size)
  generalize hAe : va_A (wX cI cJ cZ cR am gm t) s.heap.size = A at hD ⊢
  have hA : ∀ q : Nat, s.heap.size ≤ q → A q := fun q h => by rw [← hAe]; exact Or.inr h
  have C0 : cxX p s m ([.ref (am 1011), .int a1].toArray) meth c cX11_image RX11 2 (some .int) D (tyX cI cJ cZ cR) st A := ⟨⟨hx, hb, B.returns, hml, hown, hta, hlocks, hK, hA⟩, by rw [← hAe]; exact hsx⟩
  have hW : wl D A s (wX cI cJ cZ cR am gm t) s.heap [] := ⟨hP, hD, va_S.rf⟩
  have hl := lv_entry [.ref (am 1011), .int a1] (n := 2) (Nat.le_of_ble_eq_true rfl)
  rw [lg_entry_eq]
  generalize (lg_sl [.ref (am 1011), .int a1] ++ List.replicate (2 - (lg_sl [.ref (am 1011), .int a1]).length) Slot.unset).toArray = ls at hl ⊢
  have hl : lv_has ls 2 [(0, .ref (am 1011)), (1, .int a1)] := hl
  unfold x11_image at ho
  refine lv_iload_n hx hb dX11_image_0 rfl (lv_at hl 1 rfl) ?_
  refine lv_iconst (v := (0 : Int32)) hx hb dX11_image_1 (by decide) ?_
  refine lv_iconst (v := (1 : Int32)) hx hb dX11_image_2 (by decide) ?_
  obtain ⟨q1, hc2, ho⟩ := bd_some ho
  refine bkZ C0.1 hW (runSX (As := [.int a1, .int (0 : Int32), .int (1 : Int32)]) (rest := []) C0 hW (c_x11_outside l _ t a1 (0 : Int32) (1 : Int32) (r := q1) hc2) cb_X11_X11_outside_102 rfl rfl ⟨rfl, rfl⟩ ⟨Nat.le_of_ble_eq_true rfl, Nat.le_of_ble_eq_true rfl⟩ (Nat.le_of_ble_eq_true rfl) hl.1 dX11_image_3 ⟨Nat.le_of_ble_eq_true rfl, Nat.le_of_ble_eq_true rfl⟩) (fun z3 H locs hW => ?_)
  refine lv_if_eq (tgt := 12) hx hb dX11_image_6 (by decide) (fun c4 => ?_) (fun c4 => ?_)
  · replace ho := ite_t c4 ho
    refine lv_aload_n hx hb dX11_image_12 rfl (lv_at hl 0 rfl) ?_
    refine xGET_1100 C0 kw_591 hW dX11_image_13 ?_
    refine lv_iload_n hx hb dX11_image_16 rfl (lv_at hl 1 rfl) ?_
    obtain ⟨q5, hc6, ho⟩ := bd_some ho
    refine bkV C0.1 hW (runVX (As := [.int a1]) (rest := []) C0 hW (c_x5_keep l _ t a1 (t' := q5) hc6) cb_X11_X5_keep_355 5 5 rfl rfl rfl rfl rfl ⟨rfl, rfl⟩ ⟨Nat.le_of_ble_eq_true rfl, Nat.le_of_ble_eq_true rfl⟩ (Nat.le_of_ble_eq_true rfl) hl.1 dX11_image_17 ⟨Nat.le_of_ble_eq_true rfl, Nat.le_of_ble_eq_true rfl⟩) (fun H locs hW => ?_)
    refine lv_iconst (v := (1 : Int32)) hx hb dX11_image_20 (by decide) ?_
    cases ho
    exact rtI C0.1 hW dX11_image_21
  · replace ho := ite_f c4 ho
    refine lv_bipush (v := (-2 : Int32)) hx hb dX11_image_9 (by decide) ?_
    cases ho
    exact rtI C0.1 hW dX11_image_11
noncomputable def x5_changed_B4 (t : St) (v1 : Int32) (v2 : Int32) (v3 : Int32) : Option ((Int32 × Int32) ⊕ (Int32)) :=
  if (Int32.ofNat (gN t 500)) ≤ v3 then (some (.inr v2)) else (gd v3 (gN t 500) (gd v1 2 (gd v3 (imN t (v1).toNatClampNeg) (if (gA t 500 (v3).toNatClampNeg) = (imG t (v1).toNatClampNeg (v3).toNatClampNeg) then (nm (v3 + (1 : Int32)) (fun x6 : Int32 => some (.inl (v2, x6)))) else (nm (v2 ||| ((1 : Int32) <<< ((v3 / (5 : Int32)) &&& 31))) (fun x7 : Int32 => nm (v3 + (1 : Int32)) (fun x8 : Int32 => some (.inl (x7, x8)))))))))
noncomputable def x5_changed (t : St) (a1 : Int32) : Option (Int32) :=
  (lp (fun x => x5_changed_B4 t a1 x.1 x.2) ((0 : Int32), (0 : Int32))).bind (fun y9 => some y9)
set_option maxHeartbeats 4000000 in
set_option maxRecDepth 100000 in
theorem x5_changed_L4 {p : Program} {l : Launch} {e : Env} {s : State} {m : MethodId} {args : Array Value} {below : List Frame} {meth : Method} {c : Code} {Q : State → Prop} {D : va_G} {cI cJ cZ cR : ClassId} {am gm : Nat → Nat} {st : Nat} {A : Nat → Prop} (C0 : cxX p s m args meth c cX5_changed RX5 4 (some .int) D (tyX cI cJ cZ cR) st A) {t : St} {v1 : Int32} {y : Int32} (hK0 : ∀ (H : Heap) (locs : List Loc) (ls : Array Slot), wl D A s (wX cI cJ cZ cR am gm t) H locs → lv_has ls 4 [(0, .ref (am 1005)), (2, .int y)] → W p l e (rmN 0 0) s m args below meth c H locs 0 0 Q (F0 m 44 ls [])) :
    ∀ (n : Nat) (v2 : Int32) (v3 : Int32), lpn (fun x => x5_changed_B4 t v1 x.1 x.2) n (v2, v3) = some y → ∀ (H : Heap) (locs : List Loc) (ls : Array Slot), wl D A s (wX cI cJ cZ cR am gm t) H locs → lv_has ls 4 [(0, .ref (am 1005)), (1, .int v1), (2, .int v2), (3, .int v3)] → W p l e (rmN 0 0) s m args below meth c H locs 0 0 Q (F0 m 4 ls []) := by
  have hx := C0.1.1
  have hb := C0.1.2.1
  have hta := C0.1.2.2.2.2.2.1
  have hown := C0.1.2.2.2.2.1
  intro n
  induction n with
  | zero => intro _ _ h; cases h
  | succ n ih =>
    intro v2 v3 hrun H locs ls hW hl
    obtain ⟨o, ho, hrun⟩ := bd_some hrun
    unfold x5_changed_B4 at ho
    refine lv_iload_n hx hb dX5_changed_4 rfl (lv_at hl 3 rfl) ?_
    refine lv_aload_n hx hb dX5_changed_5 rfl (lv_at hl 0 rfl) ?_
    refine xGET_500 C0 kw_156 hW dX5_changed_6 ?_
    refine xLEN_500 C0 hW dX5_changed_9 ?_
    refine lv_icmp_ge (tgt := 44) hx hb dX5_changed_10 (by decide) (fun c1 => ?_) (fun c1 => ?_)
    · replace ho := ite_t c1 ho
      cases ho
      cases hrun
      exact hK0 _ _ _ hW (lv_sub hl [0, 2] rfl)
    · replace ho := ite_f c1 ho
      refine lv_aload_n hx hb dX5_changed_13 rfl (lv_at hl 0 rfl) ?_
      refine xGET_500 C0 kw_156 hW dX5_changed_14 ?_
      refine lv_iload_n hx hb dX5_changed_17 rfl (lv_at hl 3 rfl) ?_
      obtain ⟨g2, ho⟩ := gd_some ho
      refine xLD_500 C0 hW g2 dX5_changed_18 ?_
      refine lv_aload_n hx hb dX5_changed_19 rfl (lv_at hl 0 rfl) ?_
      refine xGET_501 C0 kw_157 hW dX5_changed_20 ?_
      refine lv_iload_n hx hb dX5_changed_23 rfl (lv_at hl 1 rfl) ?_
      obtain ⟨g3, ho⟩ := gd_some ho
      refine xIMG C0 hW g3 dX5_changed_24 ?_
      refine lv_iload_n hx hb dX5_changed_25 rfl (lv_at hl 3 rfl) ?_
      obtain ⟨g4, ho⟩ := gd_some ho
      refine xLD_img C0 hW g3 g4 dX5_changed_26 ?_
      refine lv_icmp_eq (tgt := 38) hx hb dX5_changed_27 (by decide) (fun c5 => ?_) (fun c5 => ?_)
      · replace ho := ite_t c5 ho
        obtain ⟨x6, ex6, ho⟩ := nm_x ho
        refine lv_iinc (v := x6) (lv' := [(3, .int x6), (0, .ref (am 1005)), (1, .int v1), (2, .int v2)]) hx hb dX5_changed_38 hl (k := 3) rfl (by rw [ex6]; rfl) (by decide) rfl (fun ls hl => ?_)
        clear ex6
        refine lv_goto (tgt := 4) hx hb dX5_changed_41 (by decide) ?_
        cases ho
        exact ih _ _ hrun _ _ _ hW (lv_sub hl [1, 2, 3, 0] rfl)
      · replace ho := ite_f c5 ho
        refine lv_iload_n hx hb dX5_changed_30 rfl (lv_at hl 2 rfl) ?_
        refine lv_iconst (v := (1 : Int32)) hx hb dX5_changed_31 (by decide) ?_
        refine lv_iload_n hx hb dX5_changed_32 rfl (lv_at hl 3 rfl) ?_
        refine lv_iconst (v := (5 : Int32)) hx hb dX5_changed_33 (by decide) ?_
        refine lv_idiv hx hb dX5_changed_34 (by decide) ?_
        refine lv_ishl hx hb dX5_changed_35 ?_
        refine lv_ior hx hb dX5_changed_36 ?_
        refine lv_nmi ho (fun x7 ho => ?_)
        refine lv_istore_n (lv' := [(2, .int x7), (0, .ref (am 1005)), (1, .int v1), (3, .int v3)]) hx hb dX5_changed_37 rfl hl (by decide) rfl (fun ls hl => ?_)
        obtain ⟨x8, ex8, ho⟩ := nm_x ho
        refine lv_iinc (v := x8) (lv' := [(3, .int x8), (2, .int x7), (0, .ref (am 1005)), (1, .int v1)]) hx hb dX5_changed_38 hl (k := 3) rfl (by rw [ex8]; rfl) (by decide) rfl (fun ls hl => ?_)
        clear ex8
        refine lv_goto (tgt := 4) hx hb dX5_changed_41 (by decide) ?_
        cases ho
        exact ih _ _ hrun _ _ _ hW (lv_sub hl [2, 3, 1, 0] rfl)
set_option maxHeartbeats 4000000 in
set_option maxRecDepth 100000 in
theorem c_x5_changed (l : Launch) {D : va_G} {cI cJ cZ cR : ClassId} {am gm : Nat → Nat} {st : Nat} (sz : Nat) (t : St) (a1 : Int32) {r : Int32} (ho : x5_changed t a1 = some r) : Met l yX5_changed (.code yX5_changed cX5_changed 4 (some .int) :: wsAll) (rmN 0 0) (va_Pc [.ref (am 1005), .int a1] (prX D (tyX cI cJ cZ cR) (wX cI cJ cZ cR am gm t) sz st)) (qI r D (tyX cI cJ cZ cR) (wX cI cJ cZ cR am gm t) (va_A (wX cI cJ cZ cR am gm t) sz)) 0 0 (va_A (wX cI cJ cZ cR am gm t) sz) := by
  refine Met.ofW (cc := cX5_changed) (maxL := 4) (ret := (some .int)) (by decide) rfl ?_
  intro p e s m args below meth c s₁ B hml hv
  obtain ⟨rfl, ⟨hsz, hP, hK, hD0⟩, hsx⟩ := hv
  have hx := B.exec
  have hb := B.bytes
  have hts := atoms_spec (ws := (.code yX5_changed cX5_changed 4 (some .int) :: wsAll)) B.pre
  have hta := fun w h => hts w (List.mem_cons_of_mem _ h)
  have hown : s.vm.findClass RX5 = some m.cls := findClass_of_methodNamed B.named
  have hlocks := B.notSynchronized
  subst hsz
  have hD := hD0.self (sz := s.heap.size)
  generalize hAe : va_A (wX cI cJ cZ cR am gm t) s.heap.size = A at hD ⊢
  have hA : ∀ q : Nat, s.heap.size ≤ q → A q := fun q h => by rw [← hAe]; exact Or.inr h
  have C0 : cxX p s m ([.ref (am 1005), .int a1].toArray) meth c cX5_changed RX5 4 (some .int) D (tyX cI cJ cZ cR) st A := ⟨⟨hx, hb, B.returns, hml, hown, hta, hlocks, hK, hA⟩, by rw [← hAe]; exact hsx⟩
  have hW : wl D A s (wX cI cJ cZ cR am gm t) s.heap [] := ⟨hP, hD, va_S.rf⟩
  have hl := lv_entry [.ref (am 1005), .int a1] (n := 4) (Nat.le_of_ble_eq_true rfl)
  rw [lg_entry_eq]
  generalize (lg_sl [.ref (am 1005), .int a1] ++ List.replicate (4 - (lg_sl [.ref (am 1005), .int a1]).length) Slot.unset).toArray = ls at hl ⊢
  have hl : lv_has ls 4 [(0, .ref (am 1005)), (1, .int a1)] := hl
  unfold x5_changed at ho
  refine lv_iconst (v := (0 : Int32)) hx hb dX5_changed_0 (by decide) ?_
  refine lv_istore_n (lv' := [(2, .int (0 : Int32)), (0, .ref (am 1005)), (1, .int a1)]) hx hb dX5_changed_1 rfl hl (by decide) rfl (fun ls hl => ?_)
  refine lv_iconst (v := (0 : Int32)) hx hb dX5_changed_2 (by decide) ?_
  refine lv_istore_n (lv' := [(3, .int (0 : Int32)), (2, .int (0 : Int32)), (0, .ref (am 1005)), (1, .int a1)]) hx hb dX5_changed_3 rfl hl (by decide) rfl (fun ls hl => ?_)
  obtain ⟨y9, hc10, ho⟩ := bd_some ho
  obtain ⟨ny9, hc10⟩ := lp_to hc10
  refine x5_changed_L4 C0 ?_ ny9 _ _ hc10 _ _ _ hW (lv_sub hl [2, 3, 1, 0] rfl)
  intro H locs ls hW hl
  refine lv_iload_n hx hb dX5_changed_44 rfl (lv_at hl 1 rfl) ?_
  cases ho
  exact rtI C0.1 hW dX5_changed_45
noncomputable def x11_differ (t : St) (a1 : Int32) : Option (Int32) :=
  (x11_outside t a1 (0 : Int32) (1 : Int32)).bind (fun q1 => if q1 = 0 then (gd a1 (gN t 502) (if (gA t 502 (a1).toNatClampNeg) = 0 then (some (-3 : Int32)) else ((x5_changed t a1).bind (fun q7 => some q7)))) else (some (-2 : Int32)))
set_option maxHeartbeats 4000000 in
set_option maxRecDepth 100000 in
theorem c_x11_differ (l : Launch) {D : va_G} {cI cJ cZ cR : ClassId} {am gm : Nat → Nat} {st : Nat} (sz : Nat) (t : St) (a1 : Int32) {r : Int32} (ho : x11_differ t a1 = some r) : Met l yX11_differ (.code yX11_differ cX11_differ 2 (some .int) :: wsAll) (rmN 1 23) (va_Pc [.ref (am 1011), .int a1] (prX D (tyX cI cJ cZ cR) (wX cI cJ cZ cR am gm t) sz st)) (qI r D (tyX cI cJ cZ cR) (wX cI cJ cZ cR am gm t) (va_A (wX cI cJ cZ cR am gm t) sz)) 0 0 (va_A (wX cI cJ cZ cR am gm t) sz) := by
  refine Met.ofW (cc := cX11_differ) (maxL := 2) (ret := (some .int)) (by decide) rfl ?_
  intro p e s m args below meth c s₁ B hml hv
  obtain ⟨rfl, ⟨hsz, hP, hK, hD0⟩, hsx⟩ := hv
  have hx := B.exec
  have hb := B.bytes
  have hts := atoms_spec (ws := (.code yX11_differ cX11_differ 2 (some .int) :: wsAll)) B.pre
  have hta := fun w h => hts w (List.mem_cons_of_mem _ h)
  have hown : s.vm.findClass RX11 = some m.cls := findClass_of_methodNamed B.named
  have hlocks := B.notSynchronized
  subst hsz
  have hD := hD0.self (sz := s.heap.size)
  generalize hAe : va_A (wX cI cJ cZ cR am gm t) s.heap.size = A at hD ⊢
  have hA : ∀ q : Nat, s.heap.size ≤ q → A q := fun q h => by rw [← hAe]; exact Or.inr h
  have C0 : cxX p s m ([.ref (am 1011), .int a1].toArray) meth c cX11_differ RX11 2 (some .int) D (tyX cI cJ cZ cR) st A := ⟨⟨hx, hb, B.returns, hml, hown, hta, hlocks, hK, hA⟩, by rw [← hAe]; exact hsx⟩
  have hW : wl D A s (wX cI cJ cZ cR am gm t) s.heap [] := ⟨hP, hD, va_S.rf⟩
  have hl := lv_entry [.ref (am 1011), .int a1] (n := 2) (Nat.le_of_ble_eq_true rfl)
  rw [lg_entry_eq]
  generalize (lg_sl [.ref (am 1011), .int a1] ++ List.replicate (2 - (lg_sl [.ref (am 1011), .int a1]).length) Slot.unset).toArray = ls at hl ⊢
  have hl : lv_has ls 2 [(0, .ref (am 1011)), (1, .int a1)] := hl
  unfold x11_differ at ho
  refine lv_iload_n hx hb dX11_differ_0 rfl (lv_at hl 1 rfl) ?_
  refine lv_iconst (v := (0 : Int32)) hx hb dX11_differ_1 (by decide) ?_
  refine lv_iconst (v := (1 : Int32)) hx hb dX11_differ_2 (by decide) ?_
  obtain ⟨q1, hc2, ho⟩ := bd_some ho
  refine bkZ C0.1 hW (runSX (As := [.int a1, .int (0 : Int32), .int (1 : Int32)]) (rest := []) C0 hW (c_x11_outside l _ t a1 (0 : Int32) (1 : Int32) (r := q1) hc2) cb_X11_X11_outside_102 rfl rfl ⟨rfl, rfl⟩ ⟨Nat.le_of_ble_eq_true rfl, Nat.le_of_ble_eq_true rfl⟩ (Nat.le_of_ble_eq_true rfl) hl.1 dX11_differ_3 ⟨Nat.le_of_ble_eq_true rfl, Nat.le_of_ble_eq_true rfl⟩) (fun z3 H locs hW => ?_)
  refine lv_if_eq (tgt := 12) hx hb dX11_differ_6 (by decide) (fun c4 => ?_) (fun c4 => ?_)
  · replace ho := ite_t c4 ho
    refine lv_aload_n hx hb dX11_differ_12 rfl (lv_at hl 0 rfl) ?_
    refine xGET_1100 C0 kw_591 hW dX11_differ_13 ?_
    refine xGET_502 C0 kw_159 hW dX11_differ_16 ?_
    refine lv_iload_n hx hb dX11_differ_19 rfl (lv_at hl 1 rfl) ?_
    obtain ⟨g5, ho⟩ := gd_some ho
    refine xLD_502 C0 hW g5 dX11_differ_20 ?_
    refine lv_if_eq (tgt := 35) hx hb dX11_differ_21 (by decide) (fun c6 => ?_) (fun c6 => ?_)
    · replace ho := ite_t c6 ho
      refine lv_bipush (v := (-3 : Int32)) hx hb dX11_differ_35 (by decide) ?_
      cases ho
      exact rtI C0.1 hW dX11_differ_37
    · replace ho := ite_f c6 ho
      refine lv_aload_n hx hb dX11_differ_24 rfl (lv_at hl 0 rfl) ?_
      refine xGET_1100 C0 kw_591 hW dX11_differ_25 ?_
      refine lv_iload_n hx hb dX11_differ_28 rfl (lv_at hl 1 rfl) ?_
      obtain ⟨q7, hc8, ho⟩ := bd_some ho
      refine bkI C0.1 hW (runVX (As := [.int a1]) (rest := []) C0 hW (c_x5_changed l _ t a1 (r := q7) hc8) cb_X11_X5_changed_362 5 5 rfl rfl rfl rfl rfl ⟨rfl, rfl⟩ ⟨Nat.le_of_ble_eq_true rfl, Nat.le_of_ble_eq_true rfl⟩ (Nat.le_of_ble_eq_true rfl) hl.1 dX11_differ_29 ⟨Nat.le_of_ble_eq_true rfl, Nat.le_of_ble_eq_true rfl⟩) (fun H locs hW => ?_)
      refine lv_goto (tgt := 37) hx hb dX11_differ_32 (by decide) ?_
      cases ho
      exact rtI C0.1 hW dX11_differ_37
  · replace ho := ite_f c4 ho
    refine lv_bipush (v := (-2 : Int32)) hx hb dX11_differ_9 (by decide) ?_
    cases ho
    exact rtI C0.1 hW dX11_differ_11
noncomputable def x5_restore (t : St) (a1 : Int32) : Option (St) :=
  gd a1 2 (cpk (0 : Int32) (0 : Int32) (Int32.ofNat (gN t 500)) (imN t (a1).toNatClampNeg) (gN t 500) (nm (sAr t 500 (va_cpy (imG t (a1).toNatClampNeg) (gA t 500) ((0 : Int32)).toNatClampNeg ((0 : Int32)).toNatClampNeg ((Int32.ofNat (gN t 500))).toNatClampNeg)) (fun t3 : St => some t3)))
set_option maxHeartbeats 4000000 in
set_option maxRecDepth 100000 in
theorem c_x5_restore (l : Launch) {D : va_G} {cI cJ cZ cR : ClassId} {am gm : Nat → Nat} {st : Nat} (sz : Nat) (t : St) (a1 : Int32) {t' : St} (ho : x5_restore t a1 = some t') : Met l yX5_restore (.code yX5_restore cX5_restore 2 none :: wsAll) (rmN 1 60) (va_Pc [.ref (am 1005), .int a1] (prX D (tyX cI cJ cZ cR) (wX cI cJ cZ cR am gm t) sz st)) (qV D (tyX cI cJ cZ cR) (wX cI cJ cZ cR am gm t') (va_A (wX cI cJ cZ cR am gm t) sz)) 0 0 (va_A (wX cI cJ cZ cR am gm t) sz) := by
  refine Met.ofW (cc := cX5_restore) (maxL := 2) (ret := none) (by decide) rfl ?_
  intro p e s m args below meth c s₁ B hml hv
  obtain ⟨rfl, ⟨hsz, hP, hK, hD0⟩, hsx⟩ := hv
  have hx := B.exec
  have hb := B.bytes
  have hts := atoms_spec (ws := (.code yX5_restore cX5_restore 2 none :: wsAll)) B.pre
  have hta := fun w h => hts w (List.mem_cons_of_mem _ h)
  have hown : s.vm.findClass RX5 = some m.cls := findClass_of_methodNamed B.named
  have hlocks := B.notSynchronized
  subst hsz
  have hD := hD0.self (sz := s.heap.size)
  generalize hAe : va_A (wX cI cJ cZ cR am gm t) s.heap.size = A at hD ⊢
  have hA : ∀ q : Nat, s.heap.size ≤ q → A q := fun q h => by rw [← hAe]; exact Or.inr h
  have C0 : cxX p s m ([.ref (am 1005), .int a1].toArray) meth c cX5_restore RX5 2 none D (tyX cI cJ cZ cR) st A := ⟨⟨hx, hb, B.returns, hml, hown, hta, hlocks, hK, hA⟩, by rw [← hAe]; exact hsx⟩
  have hW : wl D A s (wX cI cJ cZ cR am gm t) s.heap [] := ⟨hP, hD, va_S.rf⟩
  have hl := lv_entry [.ref (am 1005), .int a1] (n := 2) (Nat.le_of_ble_eq_true rfl)
  rw [lg_entry_eq]
  generalize (lg_sl [.ref (am 1005), .int a1] ++ List.replicate (2 - (lg_sl [.ref (am 1005), .int a1]).length) Slot.unset).toArray = ls at hl ⊢
  have hl : lv_has ls 2 [(0, .ref (am 1005)), (1, .int a1)] := hl
  unfold x5_restore at ho
  refine lv_aload_n hx hb dX5_restore_0 rfl (lv_at hl 0 rfl) ?_
  refine xGET_501 C0 kw_157 hW dX5_restore_1 ?_
  refine lv_iload_n hx hb dX5_restore_4 rfl (lv_at hl 1 rfl) ?_
  obtain ⟨g1, ho⟩ := gd_some ho
  refine xIMG C0 hW g1 dX5_restore_5 ?_
  refine lv_iconst (v := (0 : Int32)) hx hb dX5_restore_6 (by decide) ?_
  refine lv_aload_n hx hb dX5_restore_7 rfl (lv_at hl 0 rfl) ?_
  refine xGET_500 C0 kw_156 hW dX5_restore_8 ?_
  refine lv_iconst (v := (0 : Int32)) hx hb dX5_restore_11 (by decide) ?_
  refine lv_aload_n hx hb dX5_restore_12 rfl (lv_at hl 0 rfl) ?_
  refine xGET_500 C0 kw_156 hW dX5_restore_13 ?_
  refine xLEN_500 C0 hW dX5_restore_16 ?_
  obtain ⟨g2, ho⟩ := cpk_some ho
  refine xCPY_img_500 (rest := []) C0 kw_1423 kw_752 kw_751 kw_137 hl.1 hW g1 g2 (Nat.le_of_ble_eq_true rfl) (Nat.le_of_ble_eq_true rfl) dX5_restore_17 (fun H locs hW => ?_)
  obtain ⟨t3, ho, hW⟩ := nm_w (P := fun t => wl D A s (wX cI cJ cZ cR am gm t) H locs) ho hW
  cases ho
  exact rtV C0.1 hW dX5_restore_20
noncomputable def x11_from (t : St) (a1 : Int32) : Option (Int32 × St) :=
  (x11_outside t a1 (0 : Int32) (1 : Int32)).bind (fun q1 => if q1 = 0 then (gd a1 (gN t 502) (if (gA t 502 (a1).toNatClampNeg) = 0 then (some ((-3 : Int32), t)) else ((x5_restore t a1).bind (fun q7 => (x4_forgetFront q7).bind (fun q9 => some ((1 : Int32), q9)))))) else (some ((-2 : Int32), t)))
set_option maxHeartbeats 4000000 in
set_option maxRecDepth 100000 in
theorem c_x11_from (l : Launch) {D : va_G} {cI cJ cZ cR : ClassId} {am gm : Nat → Nat} {st : Nat} (sz : Nat) (t : St) (a1 : Int32) {r : Int32} {t' : St} (ho : x11_from t a1 = some (r, t')) : Met l yX11_from (.code yX11_from cX11_from 2 (some .int) :: wsAll) (rmN 2 81) (va_Pc [.ref (am 1011), .int a1] (prX D (tyX cI cJ cZ cR) (wX cI cJ cZ cR am gm t) sz st)) (qI r D (tyX cI cJ cZ cR) (wX cI cJ cZ cR am gm t') (va_A (wX cI cJ cZ cR am gm t) sz)) 0 0 (va_A (wX cI cJ cZ cR am gm t) sz) := by
  refine Met.ofW (cc := cX11_from) (maxL := 2) (ret := (some .int)) (by decide) rfl ?_
  intro p e s m args below meth c s₁ B hml hv
  obtain ⟨rfl, ⟨hsz, hP, hK, hD0⟩, hsx⟩ := hv
  have hx := B.exec
  have hb := B.bytes
  have hts := atoms_spec (ws := (.code yX11_from cX11_from 2 (some .int) :: wsAll)) B.pre
  have hta := fun w h => hts w (List.mem_cons_of_mem _ h)
  have hown : s.vm.findClass RX11 = some m.cls := findClass_of_methodNamed B.named
  have hlocks := B.notSynchronized
  subst hsz
  have hD := hD0.self (sz := s.heap.size)
  generalize hAe : va_A (wX cI cJ cZ cR am gm t) s.heap.size = A at hD ⊢
  have hA : ∀ q : Nat, s.heap.size ≤ q → A q := fun q h => by rw [← hAe]; exact Or.inr h
  have C0 : cxX p s m ([.ref (am 1011), .int a1].toArray) meth c cX11_from RX11 2 (some .int) D (tyX cI cJ cZ cR) st A := ⟨⟨hx, hb, B.returns, hml, hown, hta, hlocks, hK, hA⟩, by rw [← hAe]; exact hsx⟩
  have hW : wl D A s (wX cI cJ cZ cR am gm t) s.heap [] := ⟨hP, hD, va_S.rf⟩
  have hl := lv_entry [.ref (am 1011), .int a1] (n := 2) (Nat.le_of_ble_eq_true rfl)
  rw [lg_entry_eq]
  generalize (lg_sl [.ref (am 1011), .int a1] ++ List.replicate (2 - (lg_sl [.ref (am 1011), .int a1]).length) Slot.unset).toArray = ls at hl ⊢
  have hl : lv_has ls 2 [(0, .ref (am 1011)), (1, .int a1)] := hl
  unfold x11_from at ho
  refine lv_iload_n hx hb dX11_from_0 rfl (lv_at hl 1 rfl) ?_
  refine lv_iconst (v := (0 : Int32)) hx hb dX11_from_1 (by decide) ?_
  refine lv_iconst (v := (1 : Int32)) hx hb dX11_from_2 (by decide) ?_
  obtain ⟨q1, hc2, ho⟩ := bd_some ho
  refine bkZ C0.1 hW (runSX (As := [.int a1, .int (0 : Int32), .int (1 : Int32)]) (rest := []) C0 hW (c_x11_outside l _ t a1 (0 : Int32) (1 : Int32) (r := q1) hc2) cb_X11_X11_outside_102 rfl rfl ⟨rfl, rfl⟩ ⟨Nat.le_of_ble_eq_true rfl, Nat.le_of_ble_eq_true rfl⟩ (Nat.le_of_ble_eq_true rfl) hl.1 dX11_from_3 ⟨Nat.le_of_ble_eq_true rfl, Nat.le_of_ble_eq_true rfl⟩) (fun z3 H locs hW => ?_)
  refine lv_if_eq (tgt := 12) hx hb dX11_from_6 (by decide) (fun c4 => ?_) (fun c4 => ?_)
  · replace ho := ite_t c4 ho
    refine lv_aload_n hx hb dX11_from_12 rfl (lv_at hl 0 rfl) ?_
    refine xGET_1100 C0 kw_591 hW dX11_from_13 ?_
    refine xGET_502 C0 kw_159 hW dX11_from_16 ?_
    refine lv_iload_n hx hb dX11_from_19 rfl (lv_at hl 1 rfl) ?_
    obtain ⟨g5, ho⟩ := gd_some ho
    refine xLD_502 C0 hW g5 dX11_from_20 ?_
    refine lv_if_ne (tgt := 27) hx hb dX11_from_21 (by decide) (fun c6 => ?_) (fun c6 => ?_)
    · replace ho := ite_f c6 ho
      refine lv_aload_n hx hb dX11_from_27 rfl (lv_at hl 0 rfl) ?_
      refine xGET_1100 C0 kw_591 hW dX11_from_28 ?_
      refine lv_iload_n hx hb dX11_from_31 rfl (lv_at hl 1 rfl) ?_
      obtain ⟨q7, hc8, ho⟩ := bd_some ho
      refine bkV C0.1 hW (runVX (As := [.int a1]) (rest := []) C0 hW (c_x5_restore l _ t a1 (t' := q7) hc8) cb_X11_X5_restore_365 5 5 rfl rfl rfl rfl rfl ⟨rfl, rfl⟩ ⟨Nat.le_of_ble_eq_true rfl, Nat.le_of_ble_eq_true rfl⟩ (Nat.le_of_ble_eq_true rfl) hl.1 dX11_from_32 ⟨Nat.le_of_ble_eq_true rfl, Nat.le_of_ble_eq_true rfl⟩) (fun H locs hW => ?_)
      refine lv_aload_n hx hb dX11_from_35 rfl (lv_at hl 0 rfl) ?_
      refine xGET_1107 C0 kw_598 hW dX11_from_36 ?_
      obtain ⟨q9, hc10, ho⟩ := bd_some ho
      refine bkV C0.1 hW (runVX (As := []) (rest := []) C0 hW (c_x4_forgetFront l _ q7 (t' := q9) hc10) cb_X11_X4_forgetFront_110 4 4 rfl rfl rfl rfl rfl ⟨rfl, rfl⟩ ⟨Nat.le_of_ble_eq_true rfl, Nat.le_of_ble_eq_true rfl⟩ (Nat.le_of_ble_eq_true rfl) hl.1 dX11_from_39 ⟨Nat.le_of_ble_eq_true rfl, Nat.le_of_ble_eq_true rfl⟩) (fun H locs hW => ?_)
      refine lv_iconst (v := (1 : Int32)) hx hb dX11_from_42 (by decide) ?_
      cases ho
      exact rtI C0.1 hW dX11_from_43
    · replace ho := ite_t c6 ho
      refine lv_bipush (v := (-3 : Int32)) hx hb dX11_from_24 (by decide) ?_
      cases ho
      exact rtI C0.1 hW dX11_from_26
  · replace ho := ite_f c4 ho
    refine lv_bipush (v := (-2 : Int32)) hx hb dX11_from_9 (by decide) ?_
    cases ho
    exact rtI C0.1 hW dX11_from_11
noncomputable def x6_standing_B4 (t : St) (v1 : Int32) (v2 : Int32) : Option ((Int32 × Int32) ⊕ (Int32)) :=
  if (9 : Int32) < v2 then (some (.inr v1)) else (gd v2 (gN t 602) (if (gA t 602 (v2).toNatClampNeg) < 0 then (nm (v2 + (1 : Int32)) (fun x4 : Int32 => some (.inl (v1, x4)))) else (nm (v1 + (1 : Int32)) (fun x5 : Int32 => nm (v2 + (1 : Int32)) (fun x6 : Int32 => some (.inl (x5, x6)))))))
noncomputable def x6_standing (t : St) : Option (Int32) :=
  (lp (fun x => x6_standing_B4 t x.1 x.2) ((0 : Int32), (0 : Int32))).bind (fun y7 => some y7)
set_option maxHeartbeats 4000000 in
set_option maxRecDepth 100000 in
theorem x6_standing_L4 {p : Program} {l : Launch} {e : Env} {s : State} {m : MethodId} {args : Array Value} {below : List Frame} {meth : Method} {c : Code} {Q : State → Prop} {D : va_G} {cI cJ cZ cR : ClassId} {am gm : Nat → Nat} {st : Nat} {A : Nat → Prop} (C0 : cxX p s m args meth c cX6_standing RX6 3 (some .int) D (tyX cI cJ cZ cR) st A) {t : St} {y : Int32} (hK0 : ∀ (H : Heap) (locs : List Loc) (ls : Array Slot), wl D A s (wX cI cJ cZ cR am gm t) H locs → lv_has ls 3 [(0, .ref (am 1006)), (1, .int y)] → W p l e (rmN 0 0) s m args below meth c H locs 0 0 Q (F0 m 28 ls [])) :
    ∀ (n : Nat) (v1 : Int32) (v2 : Int32), lpn (fun x => x6_standing_B4 t x.1 x.2) n (v1, v2) = some y → ∀ (H : Heap) (locs : List Loc) (ls : Array Slot), wl D A s (wX cI cJ cZ cR am gm t) H locs → lv_has ls 3 [(0, .ref (am 1006)), (1, .int v1), (2, .int v2)] → W p l e (rmN 0 0) s m args below meth c H locs 0 0 Q (F0 m 4 ls []) := by
  have hx := C0.1.1
  have hb := C0.1.2.1
  have hta := C0.1.2.2.2.2.2.1
  have hown := C0.1.2.2.2.2.1
  intro n
  induction n with
  | zero => intro _ _ h; cases h
  | succ n ih =>
    intro v1 v2 hrun H locs ls hW hl
    obtain ⟨o, ho, hrun⟩ := bd_some hrun
    unfold x6_standing_B4 at ho
    refine lv_iload_n hx hb dX6_standing_4 rfl (lv_at hl 2 rfl) ?_
    refine lv_bipush (v := (9 : Int32)) hx hb dX6_standing_5 (by decide) ?_
    refine lv_icmp_gt (tgt := 28) hx hb dX6_standing_7 (by decide) (fun c1 => ?_) (fun c1 => ?_)
    · replace ho := ite_t c1 ho
      cases ho
      cases hrun
      exact hK0 _ _ _ hW (lv_sub hl [0, 1] rfl)
    · replace ho := ite_f c1 ho
      refine lv_aload_n hx hb dX6_standing_10 rfl (lv_at hl 0 rfl) ?_
      refine xGET_602 C0 kw_183 hW dX6_standing_11 ?_
      refine lv_iload_n hx hb dX6_standing_14 rfl (lv_at hl 2 rfl) ?_
      obtain ⟨g2, ho⟩ := gd_some ho
      refine xLD_602 C0 hW g2 dX6_standing_15 ?_
      refine lv_if_lt (tgt := 22) hx hb dX6_standing_16 (by decide) (fun c3 => ?_) (fun c3 => ?_)
      · replace ho := ite_t c3 ho
        obtain ⟨x4, ex4, ho⟩ := nm_x ho
        refine lv_iinc (v := x4) (lv' := [(2, .int x4), (0, .ref (am 1006)), (1, .int v1)]) hx hb dX6_standing_22 hl (k := 2) rfl (by rw [ex4]; rfl) (by decide) rfl (fun ls hl => ?_)
        clear ex4
        refine lv_goto (tgt := 4) hx hb dX6_standing_25 (by decide) ?_
        cases ho
        exact ih _ _ hrun _ _ _ hW (lv_sub hl [1, 2, 0] rfl)
      · replace ho := ite_f c3 ho
        obtain ⟨x5, ex5, ho⟩ := nm_x ho
        refine lv_iinc (v := x5) (lv' := [(1, .int x5), (0, .ref (am 1006)), (2, .int v2)]) hx hb dX6_standing_19 hl (k := 1) rfl (by rw [ex5]; rfl) (by decide) rfl (fun ls hl => ?_)
        clear ex5
        obtain ⟨x6, ex6, ho⟩ := nm_x ho
        refine lv_iinc (v := x6) (lv' := [(2, .int x6), (1, .int x5), (0, .ref (am 1006))]) hx hb dX6_standing_22 hl (k := 2) rfl (by rw [ex6]; rfl) (by decide) rfl (fun ls hl => ?_)
        clear ex6
        refine lv_goto (tgt := 4) hx hb dX6_standing_25 (by decide) ?_
        cases ho
        exact ih _ _ hrun _ _ _ hW (lv_sub hl [2, 1, 0] rfl)
set_option maxHeartbeats 4000000 in
set_option maxRecDepth 100000 in
theorem c_x6_standing (l : Launch) {D : va_G} {cI cJ cZ cR : ClassId} {am gm : Nat → Nat} {st : Nat} (sz : Nat) (t : St) {r : Int32} (ho : x6_standing t = some r) : Met l yX6_standing (.code yX6_standing cX6_standing 3 (some .int) :: wsAll) (rmN 0 0) (va_Pc [.ref (am 1006)] (prX D (tyX cI cJ cZ cR) (wX cI cJ cZ cR am gm t) sz st)) (qI r D (tyX cI cJ cZ cR) (wX cI cJ cZ cR am gm t) (va_A (wX cI cJ cZ cR am gm t) sz)) 0 0 (va_A (wX cI cJ cZ cR am gm t) sz) := by
  refine Met.ofW (cc := cX6_standing) (maxL := 3) (ret := (some .int)) (by decide) rfl ?_
  intro p e s m args below meth c s₁ B hml hv
  obtain ⟨rfl, ⟨hsz, hP, hK, hD0⟩, hsx⟩ := hv
  have hx := B.exec
  have hb := B.bytes
  have hts := atoms_spec (ws := (.code yX6_standing cX6_standing 3 (some .int) :: wsAll)) B.pre
  have hta := fun w h => hts w (List.mem_cons_of_mem _ h)
  have hown : s.vm.findClass RX6 = some m.cls := findClass_of_methodNamed B.named
  have hlocks := B.notSynchronized
  subst hsz
  have hD := hD0.self (sz := s.heap.size)
  generalize hAe : va_A (wX cI cJ cZ cR am gm t) s.heap.size = A at hD ⊢
  have hA : ∀ q : Nat, s.heap.size ≤ q → A q := fun q h => by rw [← hAe]; exact Or.inr h
  have C0 : cxX p s m ([.ref (am 1006)].toArray) meth c cX6_standing RX6 3 (some .int) D (tyX cI cJ cZ cR) st A := ⟨⟨hx, hb, B.returns, hml, hown, hta, hlocks, hK, hA⟩, by rw [← hAe]; exact hsx⟩
  have hW : wl D A s (wX cI cJ cZ cR am gm t) s.heap [] := ⟨hP, hD, va_S.rf⟩
  have hl := lv_entry [.ref (am 1006)] (n := 3) (Nat.le_of_ble_eq_true rfl)
  rw [lg_entry_eq]
  generalize (lg_sl [.ref (am 1006)] ++ List.replicate (3 - (lg_sl [.ref (am 1006)]).length) Slot.unset).toArray = ls at hl ⊢
  have hl : lv_has ls 3 [(0, .ref (am 1006))] := hl
  unfold x6_standing at ho
  refine lv_iconst (v := (0 : Int32)) hx hb dX6_standing_0 (by decide) ?_
  refine lv_istore_n (lv' := [(1, .int (0 : Int32)), (0, .ref (am 1006))]) hx hb dX6_standing_1 rfl hl (by decide) rfl (fun ls hl => ?_)
  refine lv_iconst (v := (0 : Int32)) hx hb dX6_standing_2 (by decide) ?_
  refine lv_istore_n (lv' := [(2, .int (0 : Int32)), (1, .int (0 : Int32)), (0, .ref (am 1006))]) hx hb dX6_standing_3 rfl hl (by decide) rfl (fun ls hl => ?_)
  obtain ⟨y7, hc8, ho⟩ := bd_some ho
  obtain ⟨ny7, hc8⟩ := lp_to hc8
  refine x6_standing_L4 C0 ?_ ny7 _ _ hc8 _ _ _ hW (lv_sub hl [2, 1, 0] rfl)
  intro H locs ls hW hl
  refine lv_iload_n hx hb dX6_standing_28 rfl (lv_at hl 1 rfl) ?_
  cases ho
  exact rtI C0.1 hW dX6_standing_29
noncomputable def x11_count (t : St) (a1 : Int32) : Option (Int32) :=
  if a1 = (0 : Int32) then (some (gI t 601)) else if a1 = (1 : Int32) then (some (gI t 609)) else if a1 = (2 : Int32) then ((x6_standing t).bind (fun q4 => some q4)) else if a1 = (3 : Int32) then (some (gI t 402)) else if a1 = (4 : Int32) then (some (gI t 302)) else if a1 = (5 : Int32) then (some (gI t 1007)) else if a1 = (6 : Int32) then (some (gI t 104)) else (some (-2 : Int32))
set_option maxHeartbeats 4000000 in
set_option maxRecDepth 100000 in
theorem c_x11_count (l : Launch) {D : va_G} {cI cJ cZ cR : ClassId} {am gm : Nat → Nat} {st : Nat} (sz : Nat) (t : St) (a1 : Int32) {r : Int32} (ho : x11_count t a1 = some r) : Met l yX11_count (.code yX11_count cX11_count 2 (some .int) :: wsAll) (rmN 1 22) (va_Pc [.ref (am 1011), .int a1] (prX D (tyX cI cJ cZ cR) (wX cI cJ cZ cR am gm t) sz st)) (qI r D (tyX cI cJ cZ cR) (wX cI cJ cZ cR am gm t) (va_A (wX cI cJ cZ cR am gm t) sz)) 0 0 (va_A (wX cI cJ cZ cR am gm t) sz) := by
  refine Met.ofW (cc := cX11_count) (maxL := 2) (ret := (some .int)) (by decide) rfl ?_
  intro p e s m args below meth c s₁ B hml hv
  obtain ⟨rfl, ⟨hsz, hP, hK, hD0⟩, hsx⟩ := hv
  have hx := B.exec
  have hb := B.bytes
  have hts := atoms_spec (ws := (.code yX11_count cX11_count 2 (some .int) :: wsAll)) B.pre
  have hta := fun w h => hts w (List.mem_cons_of_mem _ h)
  have hown : s.vm.findClass RX11 = some m.cls := findClass_of_methodNamed B.named
  have hlocks := B.notSynchronized
  subst hsz
  have hD := hD0.self (sz := s.heap.size)
  generalize hAe : va_A (wX cI cJ cZ cR am gm t) s.heap.size = A at hD ⊢
  have hA : ∀ q : Nat, s.heap.size ≤ q → A q := fun q h => by rw [← hAe]; exact Or.inr h
  have C0 : cxX p s m ([.ref (am 1011), .int a1].toArray) meth c cX11_count RX11 2 (some .int) D (tyX cI cJ cZ cR) st A := ⟨⟨hx, hb, B.returns, hml, hown, hta, hlocks, hK, hA⟩, by rw [← hAe]; exact hsx⟩
  have hW : wl D A s (wX cI cJ cZ cR am gm t) s.heap [] := ⟨hP, hD, va_S.rf⟩
  have hl := lv_entry [.ref (am 1011), .int a1] (n := 2) (Nat.le_of_ble_eq_true rfl)
  rw [lg_entry_eq]
  generalize (lg_sl [.ref (am 1011), .int a1] ++ List.replicate (2 - (lg_sl [.ref (am 1011), .int a1]).length) Slot.unset).toArray = ls at hl ⊢
  have hl : lv_has ls 2 [(0, .ref (am 1011)), (1, .int a1)] := hl
  unfold x11_count at ho
  refine lv_iload_n hx hb dX11_count_0 rfl (lv_at hl 1 rfl) ?_
  by_cases c1 : a1 = (0 : Int32)
  · replace ho := ite_t c1 ho
    refine lv_tableIn (tgt := 44) (off := 43) hx hb dX11_count_1 (by rw [c1]; decide) (by rw [c1]; decide) (by rw [c1]; rfl) (by decide) ?_
    refine lv_aload_n hx hb dX11_count_44 rfl (lv_at hl 0 rfl) ?_
    refine xGET_1101 C0 kw_592 hW dX11_count_45 ?_
    refine xGET_601 C0 kw_182 hW dX11_count_48 ?_
    cases ho
    exact rtI C0.1 hW dX11_count_51
  replace ho := ite_f c1 ho
  by_cases c2 : a1 = (1 : Int32)
  · replace ho := ite_t c2 ho
    refine lv_tableIn (tgt := 52) (off := 51) hx hb dX11_count_1 (by rw [c2]; decide) (by rw [c2]; decide) (by rw [c2]; rfl) (by decide) ?_
    refine lv_aload_n hx hb dX11_count_52 rfl (lv_at hl 0 rfl) ?_
    refine xGET_1101 C0 kw_592 hW dX11_count_53 ?_
    refine xGET_609 C0 kw_205 hW dX11_count_56 ?_
    cases ho
    exact rtI C0.1 hW dX11_count_59
  replace ho := ite_f c2 ho
  by_cases c3 : a1 = (2 : Int32)
  · replace ho := ite_t c3 ho
    refine lv_tableIn (tgt := 60) (off := 59) hx hb dX11_count_1 (by rw [c3]; decide) (by rw [c3]; decide) (by rw [c3]; rfl) (by decide) ?_
    refine lv_aload_n hx hb dX11_count_60 rfl (lv_at hl 0 rfl) ?_
    refine xGET_1101 C0 kw_592 hW dX11_count_61 ?_
    obtain ⟨q4, hc5, ho⟩ := bd_some ho
    refine bkI C0.1 hW (runVX (As := []) (rest := []) C0 hW (c_x6_standing l _ t (r := q4) hc5) cb_X11_X6_standing_368 6 6 rfl rfl rfl rfl rfl ⟨rfl, rfl⟩ ⟨Nat.le_of_ble_eq_true rfl, Nat.le_of_ble_eq_true rfl⟩ (Nat.le_of_ble_eq_true rfl) hl.1 dX11_count_64 ⟨Nat.le_of_ble_eq_true rfl, Nat.le_of_ble_eq_true rfl⟩) (fun H locs hW => ?_)
    cases ho
    exact rtI C0.1 hW dX11_count_67
  replace ho := ite_f c3 ho
  by_cases c6 : a1 = (3 : Int32)
  · replace ho := ite_t c6 ho
    refine lv_tableIn (tgt := 68) (off := 67) hx hb dX11_count_1 (by rw [c6]; decide) (by rw [c6]; decide) (by rw [c6]; rfl) (by decide) ?_
    refine lv_aload_n hx hb dX11_count_68 rfl (lv_at hl 0 rfl) ?_
    refine xGET_1107 C0 kw_598 hW dX11_count_69 ?_
    refine xGET_402 C0 kw_442 hW dX11_count_72 ?_
    cases ho
    exact rtI C0.1 hW dX11_count_75
  replace ho := ite_f c6 ho
  by_cases c7 : a1 = (4 : Int32)
  · replace ho := ite_t c7 ho
    refine lv_tableIn (tgt := 76) (off := 75) hx hb dX11_count_1 (by rw [c7]; decide) (by rw [c7]; decide) (by rw [c7]; rfl) (by decide) ?_
    refine lv_aload_n hx hb dX11_count_76 rfl (lv_at hl 0 rfl) ?_
    refine xGET_1108 C0 kw_599 hW dX11_count_77 ?_
    refine xGET_302 C0 kw_493 hW dX11_count_80 ?_
    cases ho
    exact rtI C0.1 hW dX11_count_83
  replace ho := ite_f c7 ho
  by_cases c8 : a1 = (5 : Int32)
  · replace ho := ite_t c8 ho
    refine lv_tableIn (tgt := 84) (off := 83) hx hb dX11_count_1 (by rw [c8]; decide) (by rw [c8]; decide) (by rw [c8]; rfl) (by decide) ?_
    refine lv_aload_n hx hb dX11_count_84 rfl (lv_at hl 0 rfl) ?_
    refine xGET_1104 C0 kw_595 hW dX11_count_85 ?_
    refine xGET_1007 C0 kw_342 hW dX11_count_88 ?_
    cases ho
    exact rtI C0.1 hW dX11_count_91
  replace ho := ite_f c8 ho
  by_cases c9 : a1 = (6 : Int32)
  · replace ho := ite_t c9 ho
    refine lv_tableIn (tgt := 92) (off := 91) hx hb dX11_count_1 (by rw [c9]; decide) (by rw [c9]; decide) (by rw [c9]; rfl) (by decide) ?_
    refine lv_aload_n hx hb dX11_count_92 rfl (lv_at hl 0 rfl) ?_
    refine xGET_1109 C0 kw_600 hW dX11_count_93 ?_
    refine xGET_104 C0 kw_538 hW dX11_count_96 ?_
    cases ho
    exact rtI C0.1 hW dX11_count_99
  replace ho := ite_f c9 ho
  refine lv_tableOut (tgt := 100) hx hb dX11_count_1 (tsw_6 c1 c2 c3 c6 c7 c8 c9) (by decide) ?_
  refine lv_bipush (v := (-2 : Int32)) hx hb dX11_count_100 (by decide) ?_
  cases ho
  exact rtI C0.1 hW dX11_count_102
noncomputable def x5_mixInto_B2 (t : St) (v1 : Int64) (v3 : Int32) : Option ((Int64 × Int32) ⊕ (Int64)) :=
  if (Int32.ofNat (gN t 500)) ≤ v3 then (some (.inr v1)) else (gd v3 (gN t 500) (nm (((31 : Int64) * v1) + ((gA t 500 (v3).toNatClampNeg)).toInt64) (fun x3 : Int64 => nm (v3 + (1 : Int32)) (fun x4 : Int32 => some (.inl (x3, x4))))))
noncomputable def x5_mixInto (t : St) (a1 : Int64) : Option (Int64) :=
  (lp (fun x => x5_mixInto_B2 t x.1 x.2) (a1, (0 : Int32))).bind (fun y5 => some y5)
set_option maxHeartbeats 4000000 in
set_option maxRecDepth 100000 in
theorem x5_mixInto_L2 {p : Program} {l : Launch} {e : Env} {s : State} {m : MethodId} {args : Array Value} {below : List Frame} {meth : Method} {c : Code} {Q : State → Prop} {D : va_G} {cI cJ cZ cR : ClassId} {am gm : Nat → Nat} {st : Nat} {A : Nat → Prop} (C0 : cxX p s m args meth c cX5_mixInto RX5 4 (some .long) D (tyX cI cJ cZ cR) st A) {t : St} {y : Int64} (hK0 : ∀ (H : Heap) (locs : List Loc) (ls : Array Slot), wl D A s (wX cI cJ cZ cR am gm t) H locs → lv_has ls 4 [(0, .ref (am 1005)), (1, .long y)] → W p l e (rmN 0 0) s m args below meth c H locs 0 0 Q (F0 m 31 ls [])) :
    ∀ (n : Nat) (v1 : Int64) (v3 : Int32), lpn (fun x => x5_mixInto_B2 t x.1 x.2) n (v1, v3) = some y → ∀ (H : Heap) (locs : List Loc) (ls : Array Slot), wl D A s (wX cI cJ cZ cR am gm t) H locs → lv_has ls 4 [(0, .ref (am 1005)), (1, .long v1), (3, .int v3)] → W p l e (rmN 0 0) s m args below meth c H locs 0 0 Q (F0 m 2 ls []) := by
  have hx := C0.1.1
  have hb := C0.1.2.1
  have hta := C0.1.2.2.2.2.2.1
  have hown := C0.1.2.2.2.2.1
  intro n
  induction n with
  | zero => intro _ _ h; cases h
  | succ n ih =>
    intro v1 v3 hrun H locs ls hW hl
    obtain ⟨o, ho, hrun⟩ := bd_some hrun
    unfold x5_mixInto_B2 at ho
    refine lv_iload_n hx hb dX5_mixInto_2 rfl (lv_at hl 2 rfl) ?_
    refine lv_aload_n hx hb dX5_mixInto_3 rfl (lv_at hl 0 rfl) ?_
    refine xGET_500 C0 kw_156 hW dX5_mixInto_4 ?_
    refine xLEN_500 C0 hW dX5_mixInto_7 ?_
    refine lv_icmp_ge (tgt := 31) hx hb dX5_mixInto_8 (by decide) (fun c1 => ?_) (fun c1 => ?_)
    · replace ho := ite_t c1 ho
      cases ho
      cases hrun
      exact hK0 _ _ _ hW (lv_sub hl [0, 1] rfl)
    · replace ho := ite_f c1 ho
      refine lv_ldc2 hx hb hown (hta _ kw_1459) dX5_mixInto_11 ?_
      refine lv_lload_n hx hb dX5_mixInto_14 rfl (lv_at hl 1 rfl) ?_
      refine lv_lmul hx hb dX5_mixInto_15 ?_
      refine lv_aload_n hx hb dX5_mixInto_16 rfl (lv_at hl 0 rfl) ?_
      refine xGET_500 C0 kw_156 hW dX5_mixInto_17 ?_
      refine lv_iload_n hx hb dX5_mixInto_20 rfl (lv_at hl 2 rfl) ?_
      obtain ⟨g2, ho⟩ := gd_some ho
      refine xLD_500 C0 hW g2 dX5_mixInto_21 ?_
      refine lv_i2l hx hb dX5_mixInto_22 rfl ?_
      refine lv_ladd hx hb dX5_mixInto_23 ?_
      refine lv_nml ho (fun x3 ho => ?_)
      refine lv_lstore_n (lv' := [(1, .long x3), (0, .ref (am 1005)), (3, .int v3)]) hx hb dX5_mixInto_24 rfl hl (by decide) rfl (fun ls hl => ?_)
      obtain ⟨x4, ex4, ho⟩ := nm_x ho
      refine lv_iinc (v := x4) (lv' := [(3, .int x4), (1, .long x3), (0, .ref (am 1005))]) hx hb dX5_mixInto_25 hl (k := 2) rfl (by rw [ex4]; rfl) (by decide) rfl (fun ls hl => ?_)
      clear ex4
      refine lv_goto (tgt := 2) hx hb dX5_mixInto_28 (by decide) ?_
      cases ho
      exact ih _ _ hrun _ _ _ hW (lv_sub hl [2, 1, 0] rfl)
set_option maxHeartbeats 4000000 in
set_option maxRecDepth 100000 in
theorem c_x5_mixInto (l : Launch) {D : va_G} {cI cJ cZ cR : ClassId} {am gm : Nat → Nat} {st : Nat} (sz : Nat) (t : St) (a1 : Int64) {r : Int64} (ho : x5_mixInto t a1 = some r) : Met l yX5_mixInto (.code yX5_mixInto cX5_mixInto 4 (some .long) :: wsAll) (rmN 0 0) (va_Pc [.ref (am 1005), .long a1] (prX D (tyX cI cJ cZ cR) (wX cI cJ cZ cR am gm t) sz st)) (qJ r D (tyX cI cJ cZ cR) (wX cI cJ cZ cR am gm t) (va_A (wX cI cJ cZ cR am gm t) sz)) 0 0 (va_A (wX cI cJ cZ cR am gm t) sz) := by
  refine Met.ofW (cc := cX5_mixInto) (maxL := 4) (ret := (some .long)) (by decide) rfl ?_
  intro p e s m args below meth c s₁ B hml hv
  obtain ⟨rfl, ⟨hsz, hP, hK, hD0⟩, hsx⟩ := hv
  have hx := B.exec
  have hb := B.bytes
  have hts := atoms_spec (ws := (.code yX5_mixInto cX5_mixInto 4 (some .long) :: wsAll)) B.pre
  have hta := fun w h => hts w (List.mem_cons_of_mem _ h)
  have hown : s.vm.findClass RX5 = some m.cls := findClass_of_methodNamed B.named
  have hlocks := B.notSynchronized
  subst hsz
  have hD := hD0.self (sz := s.heap.size)
  generalize hAe : va_A (wX cI cJ cZ cR am gm t) s.heap.size = A at hD ⊢
  have hA : ∀ q : Nat, s.heap.size ≤ q → A q := fun q h => by rw [← hAe]; exact Or.inr h
  have C0 : cxX p s m ([.ref (am 1005), .long a1].toArray) meth c cX5_mixInto RX5 4 (some .long) D (tyX cI cJ cZ cR) st A := ⟨⟨hx, hb, B.returns, hml, hown, hta, hlocks, hK, hA⟩, by rw [← hAe]; exact hsx⟩
  have hW : wl D A s (wX cI cJ cZ cR am gm t) s.heap [] := ⟨hP, hD, va_S.rf⟩
  have hl := lv_entry [.ref (am 1005), .long a1] (n := 4) (Nat.le_of_ble_eq_true rfl)
  rw [lg_entry_eq]
  generalize (lg_sl [.ref (am 1005), .long a1] ++ List.replicate (4 - (lg_sl [.ref (am 1005), .long a1]).length) Slot.unset).toArray = ls at hl ⊢
  have hl : lv_has ls 4 [(0, .ref (am 1005)), (1, .long a1)] := hl
  unfold x5_mixInto at ho
  refine lv_iconst (v := (0 : Int32)) hx hb dX5_mixInto_0 (by decide) ?_
  refine lv_istore_n (lv' := [(3, .int (0 : Int32)), (0, .ref (am 1005)), (1, .long a1)]) hx hb dX5_mixInto_1 rfl hl (by decide) rfl (fun ls hl => ?_)
  obtain ⟨y5, hc6, ho⟩ := bd_some ho
  obtain ⟨ny5, hc6⟩ := lp_to hc6
  refine x5_mixInto_L2 C0 ?_ ny5 _ _ hc6 _ _ _ hW (lv_sub hl [1, 2, 0] rfl)
  intro H locs ls hW hl
  refine lv_lload_n hx hb dX5_mixInto_31 rfl (lv_at hl 1 rfl) ?_
  cases ho
  exact rtJ C0.1 hW dX5_mixInto_32
noncomputable def x6_mixInto_B146 (t : St) (v3 : Int32) (v4 : Int32) (v1 : Int64) (v5 : Int32) : Option ((Int64 × Int32) ⊕ (Int64)) :=
  if v4 ≤ v5 then (some (.inr v1)) else ((x6_partOf t v3 v5).bind (fun q2 => nm (((31 : Int64) * v1) + (q2).toInt64) (fun x4 : Int64 => nm (v5 + (1 : Int32)) (fun x5 : Int32 => some (.inl (x4, x5))))))
noncomputable def x6_mixInto_B2 (t : St) (v1 : Int64) (v3 : Int32) : Option ((Int64 × Int32) ⊕ (Int64)) :=
  if (gI t 601) ≤ v3 then (some (.inr v1)) else (gd v3 (gN t 600) (nm (((31 : Int64) * v1) + ((gA t 600 (v3).toNatClampNeg)).toInt64) (fun x8 : Int64 => nm (v3 + (1 : Int32)) (fun x9 : Int32 => some (.inl (x8, x9))))))
noncomputable def x6_mixInto_B32 (t : St) (v1 : Int64) (v3 : Int32) : Option ((Int64 × Int32) ⊕ (Int64)) :=
  if (9 : Int32) < v3 then (some (.inr v1)) else (gd v3 (gN t 602) (if (gA t 602 (v3).toNatClampNeg) < 0 then (nm (v3 + (1 : Int32)) (fun x13 : Int32 => some (.inl (v1, x13)))) else (gd v3 (gN t 602) (nm (((31 : Int64) * (((31 : Int64) * v1) + (v3).toInt64)) + ((gA t 602 (v3).toNatClampNeg)).toInt64) (fun x15 : Int64 => nm (v3 + (1 : Int32)) (fun x16 : Int32 => some (.inl (x15, x16))))))))
noncomputable def x6_mixInto_J141 (t : St) (v1 : Int64) (v3 : Int32) (w0 : Int32) : Option ((Int64 × Int32) ⊕ (Int64)) :=
  (lp (fun x => x6_mixInto_B146 t v3 w0 x.1 x.2) (v1, (0 : Int32))).bind (fun y17 => nm (v3 + (1 : Int32)) (fun x19 : Int32 => some (.inl (y17, x19))))
noncomputable def x6_mixInto_B76 (t : St) (v1 : Int64) (v3 : Int32) : Option ((Int64 × Int32) ⊕ (Int64)) :=
  if (gI t 609) ≤ v3 then (some (.inr v1)) else (gd v3 (gN t 603) (gd v3 (gN t 604) (gd v3 (gN t 605) (nm (((31 : Int64) * (((31 : Int64) * (((31 : Int64) * v1) + ((gA t 603 (v3).toNatClampNeg)).toInt64)) + ((gA t 604 (v3).toNatClampNeg)).toInt64)) + ((gA t 605 (v3).toNatClampNeg)).toInt64) (fun x24 : Int64 => gd v3 (gN t 603) (if (gA t 603 (v3).toNatClampNeg) = 0 then (x6_mixInto_J141 t x24 v3 (0 : Int32)) else (gd v3 (gN t 604) (x6_mixInto_J141 t x24 v3 (gA t 604 (v3).toNatClampNeg)))))))))
noncomputable def x6_mixInto (t : St) (a1 : Int64) : Option (Int64) :=
  (lp (fun x => x6_mixInto_B2 t x.1 x.2) (a1, (0 : Int32))).bind (fun y28 => (lp (fun x => x6_mixInto_B32 t x.1 x.2) (y28, (0 : Int32))).bind (fun y30 => (lp (fun x => x6_mixInto_B76 t x.1 x.2) (y30, (0 : Int32))).bind (fun y32 => some y32)))
set_option maxHeartbeats 4000000 in
set_option maxRecDepth 100000 in
theorem x6_mixInto_L146 {p : Program} {l : Launch} {e : Env} {s : State} {m : MethodId} {args : Array Value} {below : List Frame} {meth : Method} {c : Code} {Q : State → Prop} {D : va_G} {cI cJ cZ cR : ClassId} {am gm : Nat → Nat} {st : Nat} {A : Nat → Prop} (C0 : cxX p s m args meth c cX6_mixInto RX6 6 (some .long) D (tyX cI cJ cZ cR) st A) {t : St} {v3 : Int32} {v4 : Int32} {y : Int64} (hK0 : ∀ (H : Heap) (locs : List Loc) (ls : Array Slot), wl D A s (wX cI cJ cZ cR am gm t) H locs → lv_has ls 6 [(0, .ref (am 1006)), (1, .long y), (3, .int v3)] → W p l e (rmN 1 22) s m args below meth c H locs 0 0 Q (F0 m 174 ls [])) :
    ∀ (n : Nat) (v1 : Int64) (v5 : Int32), lpn (fun x => x6_mixInto_B146 t v3 v4 x.1 x.2) n (v1, v5) = some y → ∀ (H : Heap) (locs : List Loc) (ls : Array Slot), wl D A s (wX cI cJ cZ cR am gm t) H locs → lv_has ls 6 [(0, .ref (am 1006)), (1, .long v1), (3, .int v3), (4, .int v4), (5, .int v5)] → W p l e (rmN 1 22) s m args below meth c H locs 0 0 Q (F0 m 146 ls []) := by
  have hx := C0.1.1
  have hb := C0.1.2.1
  have hta := C0.1.2.2.2.2.2.1
  have hown := C0.1.2.2.2.2.1
  intro n
  induction n with
  | zero => intro _ _ h; cases h
  | succ n ih =>
    intro v1 v5 hrun H locs ls hW hl
    obtain ⟨o, ho, hrun⟩ := bd_some hrun
    unfold x6_mixInto_B146 at ho
    refine lv_iload hx hb dX6_mixInto_146 (lv_at hl 4 rfl) ?_
    refine lv_iload hx hb dX6_mixInto_148 (lv_at hl 3 rfl) ?_
    refine lv_icmp_ge (tgt := 174) hx hb dX6_mixInto_150 (by decide) (fun c1 => ?_) (fun c1 => ?_)
    · replace ho := ite_t c1 ho
      cases ho
      cases hrun
      exact hK0 _ _ _ hW (lv_sub hl [0, 1, 2] rfl)
    · replace ho := ite_f c1 ho
      refine lv_ldc2 hx hb hown (hta _ kw_1464) dX6_mixInto_153 ?_
      refine lv_lload_n hx hb dX6_mixInto_156 rfl (lv_at hl 1 rfl) ?_
      refine lv_lmul hx hb dX6_mixInto_157 ?_
      refine lv_aload_n hx hb dX6_mixInto_158 rfl (lv_at hl 0 rfl) ?_
      refine lv_iload_n hx hb dX6_mixInto_159 rfl (lv_at hl 2 rfl) ?_
      refine lv_iload hx hb dX6_mixInto_160 (lv_at hl 4 rfl) ?_
      obtain ⟨q2, hc3, ho⟩ := bd_some ho
      refine bkI C0.1 hW (runVX (As := [.int v3, .int v5]) (rest := [.long ((31 : Int64) * v1)]) C0 hW (c_x6_partOf l _ t v3 v5 (r := q2) hc3) cb_X6_X6_partOf_86 6 6 rfl rfl rfl rfl rfl ⟨rfl, rfl⟩ ⟨Nat.le_of_ble_eq_true rfl, Nat.le_of_ble_eq_true rfl⟩ (Nat.le_of_ble_eq_true rfl) hl.1 dX6_mixInto_162 ⟨Nat.le_of_ble_eq_true rfl, Nat.le_of_ble_eq_true rfl⟩) (fun H locs hW => ?_)
      refine lv_i2l hx hb dX6_mixInto_165 rfl ?_
      refine lv_ladd hx hb dX6_mixInto_166 ?_
      refine lv_nml ho (fun x4 ho => ?_)
      refine lv_lstore_n (lv' := [(1, .long x4), (0, .ref (am 1006)), (3, .int v3), (4, .int v4), (5, .int v5)]) hx hb dX6_mixInto_167 rfl hl (by decide) rfl (fun ls hl => ?_)
      obtain ⟨x5, ex5, ho⟩ := nm_x ho
      refine lv_iinc (v := x5) (lv' := [(5, .int x5), (1, .long x4), (0, .ref (am 1006)), (3, .int v3), (4, .int v4)]) hx hb dX6_mixInto_168 hl (k := 4) rfl (by rw [ex5]; rfl) (by decide) rfl (fun ls hl => ?_)
      clear ex5
      refine lv_goto (tgt := 146) hx hb dX6_mixInto_171 (by decide) ?_
      cases ho
      exact ih _ _ hrun _ _ _ hW (lv_sub hl [2, 1, 3, 4, 0] rfl)
set_option maxHeartbeats 4000000 in
set_option maxRecDepth 100000 in
theorem x6_mixInto_L2 {p : Program} {l : Launch} {e : Env} {s : State} {m : MethodId} {args : Array Value} {below : List Frame} {meth : Method} {c : Code} {Q : State → Prop} {D : va_G} {cI cJ cZ cR : ClassId} {am gm : Nat → Nat} {st : Nat} {A : Nat → Prop} (C0 : cxX p s m args meth c cX6_mixInto RX6 6 (some .long) D (tyX cI cJ cZ cR) st A) {t : St} {y : Int64} (hK0 : ∀ (H : Heap) (locs : List Loc) (ls : Array Slot), wl D A s (wX cI cJ cZ cR am gm t) H locs → lv_has ls 6 [(0, .ref (am 1006)), (1, .long y)] → W p l e (rmN 1 22) s m args below meth c H locs 0 0 Q (F0 m 30 ls [])) :
    ∀ (n : Nat) (v1 : Int64) (v3 : Int32), lpn (fun x => x6_mixInto_B2 t x.1 x.2) n (v1, v3) = some y → ∀ (H : Heap) (locs : List Loc) (ls : Array Slot), wl D A s (wX cI cJ cZ cR am gm t) H locs → lv_has ls 6 [(0, .ref (am 1006)), (1, .long v1), (3, .int v3)] → W p l e (rmN 1 22) s m args below meth c H locs 0 0 Q (F0 m 2 ls []) := by
  have hx := C0.1.1
  have hb := C0.1.2.1
  have hta := C0.1.2.2.2.2.2.1
  have hown := C0.1.2.2.2.2.1
  intro n
  induction n with
  | zero => intro _ _ h; cases h
  | succ n ih =>
    intro v1 v3 hrun H locs ls hW hl
    obtain ⟨o, ho, hrun⟩ := bd_some hrun
    unfold x6_mixInto_B2 at ho
    refine lv_iload_n hx hb dX6_mixInto_2 rfl (lv_at hl 2 rfl) ?_
    refine lv_aload_n hx hb dX6_mixInto_3 rfl (lv_at hl 0 rfl) ?_
    refine xGET_601 C0 kw_180 hW dX6_mixInto_4 ?_
    refine lv_icmp_ge (tgt := 30) hx hb dX6_mixInto_7 (by decide) (fun c6 => ?_) (fun c6 => ?_)
    · replace ho := ite_t c6 ho
      cases ho
      cases hrun
      exact hK0 _ _ _ hW (lv_sub hl [0, 1] rfl)
    · replace ho := ite_f c6 ho
      refine lv_ldc2 hx hb hown (hta _ kw_1464) dX6_mixInto_10 ?_
      refine lv_lload_n hx hb dX6_mixInto_13 rfl (lv_at hl 1 rfl) ?_
      refine lv_lmul hx hb dX6_mixInto_14 ?_
      refine lv_aload_n hx hb dX6_mixInto_15 rfl (lv_at hl 0 rfl) ?_
      refine xGET_600 C0 kw_178 hW dX6_mixInto_16 ?_
      refine lv_iload_n hx hb dX6_mixInto_19 rfl (lv_at hl 2 rfl) ?_
      obtain ⟨g7, ho⟩ := gd_some ho
      refine xLD_600 C0 hW g7 dX6_mixInto_20 ?_
      refine lv_i2l hx hb dX6_mixInto_21 rfl ?_
      refine lv_ladd hx hb dX6_mixInto_22 ?_
      refine lv_nml ho (fun x8 ho => ?_)
      refine lv_lstore_n (lv' := [(1, .long x8), (0, .ref (am 1006)), (3, .int v3)]) hx hb dX6_mixInto_23 rfl hl (by decide) rfl (fun ls hl => ?_)
      obtain ⟨x9, ex9, ho⟩ := nm_x ho
      refine lv_iinc (v := x9) (lv' := [(3, .int x9), (1, .long x8), (0, .ref (am 1006))]) hx hb dX6_mixInto_24 hl (k := 2) rfl (by rw [ex9]; rfl) (by decide) rfl (fun ls hl => ?_)
      clear ex9
      refine lv_goto (tgt := 2) hx hb dX6_mixInto_27 (by decide) ?_
      cases ho
      exact ih _ _ hrun _ _ _ hW (lv_sub hl [2, 1, 0] rfl)
set_option maxHeartbeats 4000000 in
set_option maxRecDepth 100000 in
theorem x6_mixInto_L32 {p : Program} {l : Launch} {e : Env} {s : State} {m : MethodId} {args : Array Value} {below : List Frame} {meth : Method} {c : Code} {Q : State → Prop} {D : va_G} {cI cJ cZ cR : ClassId} {am gm : Nat → Nat} {st : Nat} {A : Nat → Prop} (C0 : cxX p s m args meth c cX6_mixInto RX6 6 (some .long) D (tyX cI cJ cZ cR) st A) {t : St} {y : Int64} (hK0 : ∀ (H : Heap) (locs : List Loc) (ls : Array Slot), wl D A s (wX cI cJ cZ cR am gm t) H locs → lv_has ls 6 [(0, .ref (am 1006)), (1, .long y)] → W p l e (rmN 1 22) s m args below meth c H locs 0 0 Q (F0 m 74 ls [])) :
    ∀ (n : Nat) (v1 : Int64) (v3 : Int32), lpn (fun x => x6_mixInto_B32 t x.1 x.2) n (v1, v3) = some y → ∀ (H : Heap) (locs : List Loc) (ls : Array Slot), wl D A s (wX cI cJ cZ cR am gm t) H locs → lv_has ls 6 [(0, .ref (am 1006)), (1, .long v1), (3, .int v3)] → W p l e (rmN 1 22) s m args below meth c H locs 0 0 Q (F0 m 32 ls []) := by
  have hx := C0.1.1
  have hb := C0.1.2.1
  have hta := C0.1.2.2.2.2.2.1
  have hown := C0.1.2.2.2.2.1
  intro n
  induction n with
  | zero => intro _ _ h; cases h
  | succ n ih =>
    intro v1 v3 hrun H locs ls hW hl
    obtain ⟨o, ho, hrun⟩ := bd_some hrun
    unfold x6_mixInto_B32 at ho
    refine lv_iload_n hx hb dX6_mixInto_32 rfl (lv_at hl 2 rfl) ?_
    refine lv_bipush (v := (9 : Int32)) hx hb dX6_mixInto_33 (by decide) ?_
    refine lv_icmp_gt (tgt := 74) hx hb dX6_mixInto_35 (by decide) (fun c10 => ?_) (fun c10 => ?_)
    · replace ho := ite_t c10 ho
      cases ho
      cases hrun
      exact hK0 _ _ _ hW (lv_sub hl [0, 1] rfl)
    · replace ho := ite_f c10 ho
      refine lv_aload_n hx hb dX6_mixInto_38 rfl (lv_at hl 0 rfl) ?_
      refine xGET_602 C0 kw_183 hW dX6_mixInto_39 ?_
      refine lv_iload_n hx hb dX6_mixInto_42 rfl (lv_at hl 2 rfl) ?_
      obtain ⟨g11, ho⟩ := gd_some ho
      refine xLD_602 C0 hW g11 dX6_mixInto_43 ?_
      refine lv_if_lt (tgt := 68) hx hb dX6_mixInto_44 (by decide) (fun c12 => ?_) (fun c12 => ?_)
      · replace ho := ite_t c12 ho
        obtain ⟨x13, ex13, ho⟩ := nm_x ho
        refine lv_iinc (v := x13) (lv' := [(3, .int x13), (0, .ref (am 1006)), (1, .long v1)]) hx hb dX6_mixInto_68 hl (k := 2) rfl (by rw [ex13]; rfl) (by decide) rfl (fun ls hl => ?_)
        clear ex13
        refine lv_goto (tgt := 32) hx hb dX6_mixInto_71 (by decide) ?_
        cases ho
        exact ih _ _ hrun _ _ _ hW (lv_sub hl [1, 2, 0] rfl)
      · replace ho := ite_f c12 ho
        refine lv_ldc2 hx hb hown (hta _ kw_1464) dX6_mixInto_47 ?_
        refine lv_ldc2 hx hb hown (hta _ kw_1464) dX6_mixInto_50 ?_
        refine lv_lload_n hx hb dX6_mixInto_53 rfl (lv_at hl 1 rfl) ?_
        refine lv_lmul hx hb dX6_mixInto_54 ?_
        refine lv_iload_n hx hb dX6_mixInto_55 rfl (lv_at hl 2 rfl) ?_
        refine lv_i2l hx hb dX6_mixInto_56 rfl ?_
        refine lv_ladd hx hb dX6_mixInto_57 ?_
        refine lv_lmul hx hb dX6_mixInto_58 ?_
        refine lv_aload_n hx hb dX6_mixInto_59 rfl (lv_at hl 0 rfl) ?_
        refine xGET_602 C0 kw_183 hW dX6_mixInto_60 ?_
        refine lv_iload_n hx hb dX6_mixInto_63 rfl (lv_at hl 2 rfl) ?_
        obtain ⟨g14, ho⟩ := gd_some ho
        refine xLD_602 C0 hW g14 dX6_mixInto_64 ?_
        refine lv_i2l hx hb dX6_mixInto_65 rfl ?_
        refine lv_ladd hx hb dX6_mixInto_66 ?_
        refine lv_nml ho (fun x15 ho => ?_)
        refine lv_lstore_n (lv' := [(1, .long x15), (0, .ref (am 1006)), (3, .int v3)]) hx hb dX6_mixInto_67 rfl hl (by decide) rfl (fun ls hl => ?_)
        obtain ⟨x16, ex16, ho⟩ := nm_x ho
        refine lv_iinc (v := x16) (lv' := [(3, .int x16), (1, .long x15), (0, .ref (am 1006))]) hx hb dX6_mixInto_68 hl (k := 2) rfl (by rw [ex16]; rfl) (by decide) rfl (fun ls hl => ?_)
        clear ex16
        refine lv_goto (tgt := 32) hx hb dX6_mixInto_71 (by decide) ?_
        cases ho
        exact ih _ _ hrun _ _ _ hW (lv_sub hl [2, 1, 0] rfl)
set_option maxHeartbeats 4000000 in
set_option maxRecDepth 100000 in
theorem x6_mixInto_L76 {p : Program} {l : Launch} {e : Env} {s : State} {m : MethodId} {args : Array Value} {below : List Frame} {meth : Method} {c : Code} {Q : State → Prop} {D : va_G} {cI cJ cZ cR : ClassId} {am gm : Nat → Nat} {st : Nat} {A : Nat → Prop} (C0 : cxX p s m args meth c cX6_mixInto RX6 6 (some .long) D (tyX cI cJ cZ cR) st A) {t : St} {y : Int64} (hK0 : ∀ (H : Heap) (locs : List Loc) (ls : Array Slot), wl D A s (wX cI cJ cZ cR am gm t) H locs → lv_has ls 6 [(0, .ref (am 1006)), (1, .long y)] → W p l e (rmN 1 22) s m args below meth c H locs 0 0 Q (F0 m 180 ls [])) :
    ∀ (n : Nat) (v1 : Int64) (v3 : Int32), lpn (fun x => x6_mixInto_B76 t x.1 x.2) n (v1, v3) = some y → ∀ (H : Heap) (locs : List Loc) (ls : Array Slot), wl D A s (wX cI cJ cZ cR am gm t) H locs → lv_has ls 6 [(0, .ref (am 1006)), (1, .long v1), (3, .int v3)] → W p l e (rmN 1 22) s m args below meth c H locs 0 0 Q (F0 m 76 ls []) := by
  have hx := C0.1.1
  have hb := C0.1.2.1
  have hta := C0.1.2.2.2.2.2.1
  have hown := C0.1.2.2.2.2.1
  intro n
  induction n with
  | zero => intro _ _ h; cases h
  | succ n ih =>
    intro v1 v3 hrun H locs ls hW hl
    obtain ⟨o, ho, hrun⟩ := bd_some hrun
    have J141 : ∀ (v1 : Int64) (v3 : Int32) (w0 : Int32) (_ : x6_mixInto_J141 t v1 v3 w0 = some o) (H : Heap) (locs : List Loc) (ls : Array Slot), wl D A s (wX cI cJ cZ cR am gm t) H locs → lv_has ls 6 [(0, .ref (am 1006)), (1, .long v1), (3, .int v3)] → W p l e (rmN 1 22) s m args below meth c H locs 0 0 Q (F0 m 141 ls [.int w0]) := by
      intro v1 v3 w0 ho H locs ls hW hl
      unfold x6_mixInto_J141 at ho
      refine lv_istore (lv' := [(4, .int w0), (0, .ref (am 1006)), (1, .long v1), (3, .int v3)]) hx hb dX6_mixInto_141 hl (by decide) rfl (fun ls hl => ?_)
      refine lv_iconst (v := (0 : Int32)) hx hb dX6_mixInto_143 (by decide) ?_
      refine lv_istore (lv' := [(5, .int (0 : Int32)), (4, .int w0), (0, .ref (am 1006)), (1, .long v1), (3, .int v3)]) hx hb dX6_mixInto_144 hl (by decide) rfl (fun ls hl => ?_)
      obtain ⟨y17, hc18, ho⟩ := bd_some ho
      obtain ⟨ny17, hc18⟩ := lp_to hc18
      refine x6_mixInto_L146 C0 ?_ ny17 _ _ hc18 _ _ _ hW (lv_sub hl [2, 3, 4, 1, 0] rfl)
      intro H locs ls hW hl
      obtain ⟨x19, ex19, ho⟩ := nm_x ho
      refine lv_iinc (v := x19) (lv' := [(3, .int x19), (0, .ref (am 1006)), (1, .long y17)]) hx hb dX6_mixInto_174 hl (k := 2) rfl (by rw [ex19]; rfl) (by decide) rfl (fun ls hl => ?_)
      clear ex19
      refine lv_goto (tgt := 76) hx hb dX6_mixInto_177 (by decide) ?_
      cases ho
      exact ih _ _ hrun _ _ _ hW (lv_sub hl [1, 2, 0] rfl)
    unfold x6_mixInto_B76 at ho
    refine lv_iload_n hx hb dX6_mixInto_76 rfl (lv_at hl 2 rfl) ?_
    refine lv_aload_n hx hb dX6_mixInto_77 rfl (lv_at hl 0 rfl) ?_
    refine xGET_609 C0 kw_203 hW dX6_mixInto_78 ?_
    refine lv_icmp_ge (tgt := 180) hx hb dX6_mixInto_81 (by decide) (fun c20 => ?_) (fun c20 => ?_)
    · replace ho := ite_t c20 ho
      cases ho
      cases hrun
      exact hK0 _ _ _ hW (lv_sub hl [0, 1] rfl)
    · replace ho := ite_f c20 ho
      refine lv_ldc2 hx hb hown (hta _ kw_1464) dX6_mixInto_84 ?_
      refine lv_ldc2 hx hb hown (hta _ kw_1464) dX6_mixInto_87 ?_
      refine lv_ldc2 hx hb hown (hta _ kw_1464) dX6_mixInto_90 ?_
      refine lv_lload_n hx hb dX6_mixInto_93 rfl (lv_at hl 1 rfl) ?_
      refine lv_lmul hx hb dX6_mixInto_94 ?_
      refine lv_aload_n hx hb dX6_mixInto_95 rfl (lv_at hl 0 rfl) ?_
      refine xGET_603 C0 kw_186 hW dX6_mixInto_96 ?_
      refine lv_iload_n hx hb dX6_mixInto_99 rfl (lv_at hl 2 rfl) ?_
      obtain ⟨g21, ho⟩ := gd_some ho
      refine xLD_603 C0 hW g21 dX6_mixInto_100 ?_
      refine lv_i2l hx hb dX6_mixInto_101 rfl ?_
      refine lv_ladd hx hb dX6_mixInto_102 ?_
      refine lv_lmul hx hb dX6_mixInto_103 ?_
      refine lv_aload_n hx hb dX6_mixInto_104 rfl (lv_at hl 0 rfl) ?_
      refine xGET_604 C0 kw_190 hW dX6_mixInto_105 ?_
      refine lv_iload_n hx hb dX6_mixInto_108 rfl (lv_at hl 2 rfl) ?_
      obtain ⟨g22, ho⟩ := gd_some ho
      refine xLD_604 C0 hW g22 dX6_mixInto_109 ?_
      refine lv_i2l hx hb dX6_mixInto_110 rfl ?_
      refine lv_ladd hx hb dX6_mixInto_111 ?_
      refine lv_lmul hx hb dX6_mixInto_112 ?_
      refine lv_aload_n hx hb dX6_mixInto_113 rfl (lv_at hl 0 rfl) ?_
      refine xGET_605 C0 kw_194 hW dX6_mixInto_114 ?_
      refine lv_iload_n hx hb dX6_mixInto_117 rfl (lv_at hl 2 rfl) ?_
      obtain ⟨g23, ho⟩ := gd_some ho
      refine xLD_605 C0 hW g23 dX6_mixInto_118 ?_
      refine lv_i2l hx hb dX6_mixInto_119 rfl ?_
      refine lv_ladd hx hb dX6_mixInto_120 ?_
      refine lv_nml ho (fun x24 ho => ?_)
      refine lv_lstore_n (lv' := [(1, .long x24), (0, .ref (am 1006)), (3, .int v3)]) hx hb dX6_mixInto_121 rfl hl (by decide) rfl (fun ls hl => ?_)
      refine lv_aload_n hx hb dX6_mixInto_122 rfl (lv_at hl 1 rfl) ?_
      refine xGET_603 C0 kw_186 hW dX6_mixInto_123 ?_
      refine lv_iload_n hx hb dX6_mixInto_126 rfl (lv_at hl 2 rfl) ?_
      obtain ⟨g25, ho⟩ := gd_some ho
      refine xLD_603 C0 hW g25 dX6_mixInto_127 ?_
      refine lv_if_ne (tgt := 135) hx hb dX6_mixInto_128 (by decide) (fun c26 => ?_) (fun c26 => ?_)
      · replace ho := ite_f c26 ho
        refine lv_aload_n hx hb dX6_mixInto_135 rfl (lv_at hl 1 rfl) ?_
        refine xGET_604 C0 kw_190 hW dX6_mixInto_136 ?_
        refine lv_iload_n hx hb dX6_mixInto_139 rfl (lv_at hl 2 rfl) ?_
        obtain ⟨g27, ho⟩ := gd_some ho
        refine xLD_604 C0 hW g27 dX6_mixInto_140 ?_
        exact J141 _ _ _ ho _ _ _ hW (lv_sub hl [1, 0, 2] rfl)
      · replace ho := ite_t c26 ho
        refine lv_iconst (v := (0 : Int32)) hx hb dX6_mixInto_131 (by decide) ?_
        refine lv_goto (tgt := 141) hx hb dX6_mixInto_132 (by decide) ?_
        exact J141 _ _ _ ho _ _ _ hW (lv_sub hl [1, 0, 2] rfl)
set_option maxHeartbeats 4000000 in
set_option maxRecDepth 100000 in
theorem c_x6_mixInto (l : Launch) {D : va_G} {cI cJ cZ cR : ClassId} {am gm : Nat → Nat} {st : Nat} (sz : Nat) (t : St) (a1 : Int64) {r : Int64} (ho : x6_mixInto t a1 = some r) : Met l yX6_mixInto (.code yX6_mixInto cX6_mixInto 6 (some .long) :: wsAll) (rmN 1 22) (va_Pc [.ref (am 1006), .long a1] (prX D (tyX cI cJ cZ cR) (wX cI cJ cZ cR am gm t) sz st)) (qJ r D (tyX cI cJ cZ cR) (wX cI cJ cZ cR am gm t) (va_A (wX cI cJ cZ cR am gm t) sz)) 0 0 (va_A (wX cI cJ cZ cR am gm t) sz) := by
  refine Met.ofW (cc := cX6_mixInto) (maxL := 6) (ret := (some .long)) (by decide) rfl ?_
  intro p e s m args below meth c s₁ B hml hv
  obtain ⟨rfl, ⟨hsz, hP, hK, hD0⟩, hsx⟩ := hv
  have hx := B.exec
  have hb := B.bytes
  have hts := atoms_spec (ws := (.code yX6_mixInto cX6_mixInto 6 (some .long) :: wsAll)) B.pre
  have hta := fun w h => hts w (List.mem_cons_of_mem _ h)
  have hown : s.vm.findClass RX6 = some m.cls := findClass_of_methodNamed B.named
  have hlocks := B.notSynchronized
  subst hsz
  have hD := hD0.self (sz := s.heap.size)
  generalize hAe : va_A (wX cI cJ cZ cR am gm t) s.heap.size = A at hD ⊢
  have hA : ∀ q : Nat, s.heap.size ≤ q → A q := fun q h => by rw [← hAe]; exact Or.inr h
  have C0 : cxX p s m ([.ref (am 1006), .long a1].toArray) meth c cX6_mixInto RX6 6 (some .long) D (tyX cI cJ cZ cR) st A := ⟨⟨hx, hb, B.returns, hml, hown, hta, hlocks, hK, hA⟩, by rw [← hAe]; exact hsx⟩
  have hW : wl D A s (wX cI cJ cZ cR am gm t) s.heap [] := ⟨hP, hD, va_S.rf⟩
  have hl := lv_entry [.ref (am 1006), .long a1] (n := 6) (Nat.le_of_ble_eq_true rfl)
  rw [lg_entry_eq]
  generalize (lg_sl [.ref (am 1006), .long a1] ++ List.replicate (6 - (lg_sl [.ref (am 1006), .long a1]).length) Slot.unset).toArray = ls at hl ⊢
  have hl : lv_has ls 6 [(0, .ref (am 1006)), (1, .long a1)] := hl
  unfold x6_mixInto at ho
  refine lv_iconst (v := (0 : Int32)) hx hb dX6_mixInto_0 (by decide) ?_
  refine lv_istore_n (lv' := [(3, .int (0 : Int32)), (0, .ref (am 1006)), (1, .long a1)]) hx hb dX6_mixInto_1 rfl hl (by decide) rfl (fun ls hl => ?_)
  obtain ⟨y28, hc29, ho⟩ := bd_some ho
  obtain ⟨ny28, hc29⟩ := lp_to hc29
  refine x6_mixInto_L2 C0 ?_ ny28 _ _ hc29 _ _ _ hW (lv_sub hl [1, 2, 0] rfl)
  intro H locs ls hW hl
  refine lv_iconst (v := (0 : Int32)) hx hb dX6_mixInto_30 (by decide) ?_
  refine lv_istore_n (lv' := [(3, .int (0 : Int32)), (0, .ref (am 1006)), (1, .long y28)]) hx hb dX6_mixInto_31 rfl hl (by decide) rfl (fun ls hl => ?_)
  obtain ⟨y30, hc31, ho⟩ := bd_some ho
  obtain ⟨ny30, hc31⟩ := lp_to hc31
  refine x6_mixInto_L32 C0 ?_ ny30 _ _ hc31 _ _ _ hW (lv_sub hl [1, 2, 0] rfl)
  intro H locs ls hW hl
  refine lv_iconst (v := (0 : Int32)) hx hb dX6_mixInto_74 (by decide) ?_
  refine lv_istore_n (lv' := [(3, .int (0 : Int32)), (0, .ref (am 1006)), (1, .long y30)]) hx hb dX6_mixInto_75 rfl hl (by decide) rfl (fun ls hl => ?_)
  obtain ⟨y32, hc33, ho⟩ := bd_some ho
  obtain ⟨ny32, hc33⟩ := lp_to hc33
  refine x6_mixInto_L76 C0 ?_ ny32 _ _ hc33 _ _ _ hW (lv_sub hl [1, 2, 0] rfl)
  intro H locs ls hW hl
  refine lv_lload_n hx hb dX6_mixInto_180 rfl (lv_at hl 1 rfl) ?_
  cases ho
  exact rtJ C0.1 hW dX6_mixInto_181
noncomputable def x4_mixInto_B2 (t : St) (v1 : Int64) (v3 : Int32) : Option ((Int64 × Int32) ⊕ (Int64)) :=
  if (gI t 402) ≤ v3 then (some (.inr v1)) else (gd ((1 : Int32) <<< (v3 &&& 31)) (gN t 403) (gd ((1 : Int32) <<< (v3 &&& 31)) (gN t 404) (nm (((31 : Int64) * (((31 : Int64) * v1) + ((gA t 403 (((1 : Int32) <<< (v3 &&& 31))).toNatClampNeg)).toInt64)) + ((gA t 404 (((1 : Int32) <<< (v3 &&& 31))).toNatClampNeg)).toInt64) (fun x4 : Int64 => nm (v3 + (1 : Int32)) (fun x5 : Int32 => some (.inl (x4, x5)))))))
noncomputable def x4_mixInto (t : St) (a1 : Int64) : Option (Int64) :=
  (lp (fun x => x4_mixInto_B2 t x.1 x.2) (a1, (0 : Int32))).bind (fun y6 => some y6)
set_option maxHeartbeats 4000000 in
set_option maxRecDepth 100000 in
theorem x4_mixInto_L2 {p : Program} {l : Launch} {e : Env} {s : State} {m : MethodId} {args : Array Value} {below : List Frame} {meth : Method} {c : Code} {Q : State → Prop} {D : va_G} {cI cJ cZ cR : ClassId} {am gm : Nat → Nat} {st : Nat} {A : Nat → Prop} (C0 : cxX p s m args meth c cX4_mixInto RX4 4 (some .long) D (tyX cI cJ cZ cR) st A) {t : St} {y : Int64} (hK0 : ∀ (H : Heap) (locs : List Loc) (ls : Array Slot), wl D A s (wX cI cJ cZ cR am gm t) H locs → lv_has ls 4 [(0, .ref (am 1004)), (1, .long y)] → W p l e (rmN 0 0) s m args below meth c H locs 0 0 Q (F0 m 46 ls [])) :
    ∀ (n : Nat) (v1 : Int64) (v3 : Int32), lpn (fun x => x4_mixInto_B2 t x.1 x.2) n (v1, v3) = some y → ∀ (H : Heap) (locs : List Loc) (ls : Array Slot), wl D A s (wX cI cJ cZ cR am gm t) H locs → lv_has ls 4 [(0, .ref (am 1004)), (1, .long v1), (3, .int v3)] → W p l e (rmN 0 0) s m args below meth c H locs 0 0 Q (F0 m 2 ls []) := by
  have hx := C0.1.1
  have hb := C0.1.2.1
  have hta := C0.1.2.2.2.2.2.1
  have hown := C0.1.2.2.2.2.1
  intro n
  induction n with
  | zero => intro _ _ h; cases h
  | succ n ih =>
    intro v1 v3 hrun H locs ls hW hl
    obtain ⟨o, ho, hrun⟩ := bd_some hrun
    unfold x4_mixInto_B2 at ho
    refine lv_iload_n hx hb dX4_mixInto_2 rfl (lv_at hl 2 rfl) ?_
    refine lv_aload_n hx hb dX4_mixInto_3 rfl (lv_at hl 0 rfl) ?_
    refine xGET_402 C0 kw_441 hW dX4_mixInto_4 ?_
    refine lv_icmp_ge (tgt := 46) hx hb dX4_mixInto_7 (by decide) (fun c1 => ?_) (fun c1 => ?_)
    · replace ho := ite_t c1 ho
      cases ho
      cases hrun
      exact hK0 _ _ _ hW (lv_sub hl [0, 1] rfl)
    · replace ho := ite_f c1 ho
      refine lv_ldc2 hx hb hown (hta _ kw_1469) dX4_mixInto_10 ?_
      refine lv_ldc2 hx hb hown (hta _ kw_1469) dX4_mixInto_13 ?_
      refine lv_lload_n hx hb dX4_mixInto_16 rfl (lv_at hl 1 rfl) ?_
      refine lv_lmul hx hb dX4_mixInto_17 ?_
      refine lv_aload_n hx hb dX4_mixInto_18 rfl (lv_at hl 0 rfl) ?_
      refine xGET_403 C0 kw_443 hW dX4_mixInto_19 ?_
      refine lv_iconst (v := (1 : Int32)) hx hb dX4_mixInto_22 (by decide) ?_
      refine lv_iload_n hx hb dX4_mixInto_23 rfl (lv_at hl 2 rfl) ?_
      refine lv_ishl hx hb dX4_mixInto_24 ?_
      obtain ⟨g2, ho⟩ := gd_some ho
      refine xLD_403 C0 hW g2 dX4_mixInto_25 ?_
      refine lv_i2l hx hb dX4_mixInto_26 rfl ?_
      refine lv_ladd hx hb dX4_mixInto_27 ?_
      refine lv_lmul hx hb dX4_mixInto_28 ?_
      refine lv_aload_n hx hb dX4_mixInto_29 rfl (lv_at hl 0 rfl) ?_
      refine xGET_404 C0 kw_445 hW dX4_mixInto_30 ?_
      refine lv_iconst (v := (1 : Int32)) hx hb dX4_mixInto_33 (by decide) ?_
      refine lv_iload_n hx hb dX4_mixInto_34 rfl (lv_at hl 2 rfl) ?_
      refine lv_ishl hx hb dX4_mixInto_35 ?_
      obtain ⟨g3, ho⟩ := gd_some ho
      refine xLD_404 C0 hW g3 dX4_mixInto_36 ?_
      refine lv_i2l hx hb dX4_mixInto_37 rfl ?_
      refine lv_ladd hx hb dX4_mixInto_38 ?_
      refine lv_nml ho (fun x4 ho => ?_)
      refine lv_lstore_n (lv' := [(1, .long x4), (0, .ref (am 1004)), (3, .int v3)]) hx hb dX4_mixInto_39 rfl hl (by decide) rfl (fun ls hl => ?_)
      obtain ⟨x5, ex5, ho⟩ := nm_x ho
      refine lv_iinc (v := x5) (lv' := [(3, .int x5), (1, .long x4), (0, .ref (am 1004))]) hx hb dX4_mixInto_40 hl (k := 2) rfl (by rw [ex5]; rfl) (by decide) rfl (fun ls hl => ?_)
      clear ex5
      refine lv_goto (tgt := 2) hx hb dX4_mixInto_43 (by decide) ?_
      cases ho
      exact ih _ _ hrun _ _ _ hW (lv_sub hl [2, 1, 0] rfl)
set_option maxHeartbeats 4000000 in
set_option maxRecDepth 100000 in
theorem c_x4_mixInto (l : Launch) {D : va_G} {cI cJ cZ cR : ClassId} {am gm : Nat → Nat} {st : Nat} (sz : Nat) (t : St) (a1 : Int64) {r : Int64} (ho : x4_mixInto t a1 = some r) : Met l yX4_mixInto (.code yX4_mixInto cX4_mixInto 4 (some .long) :: wsAll) (rmN 0 0) (va_Pc [.ref (am 1004), .long a1] (prX D (tyX cI cJ cZ cR) (wX cI cJ cZ cR am gm t) sz st)) (qJ r D (tyX cI cJ cZ cR) (wX cI cJ cZ cR am gm t) (va_A (wX cI cJ cZ cR am gm t) sz)) 0 0 (va_A (wX cI cJ cZ cR am gm t) sz) := by
  refine Met.ofW (cc := cX4_mixInto) (maxL := 4) (ret := (some .long)) (by decide) rfl ?_
  intro p e s m args below meth c s₁ B hml hv
  obtain ⟨rfl, ⟨hsz, hP, hK, hD0⟩, hsx⟩ := hv
  have hx := B.exec
  have hb := B.bytes
  have hts := atoms_spec (ws := (.code yX4_mixInto cX4_mixInto 4 (some .long) :: wsAll)) B.pre
  have hta := fun w h => hts w (List.mem_cons_of_mem _ h)
  have hown : s.vm.findClass RX4 = some m.cls := findClass_of_methodNamed B.named
  have hlocks := B.notSynchronized
  subst hsz
  have hD := hD0.self (sz := s.heap.size)
  generalize hAe : va_A (wX cI cJ cZ cR am gm t) s.heap.size = A at hD ⊢
  have hA : ∀ q : Nat, s.heap.size ≤ q → A q := fun q h => by rw [← hAe]; exact Or.inr h
  have C0 : cxX p s m ([.ref (am 1004), .long a1].toArray) meth c cX4_mixInto RX4 4 (some .long) D (tyX cI cJ cZ cR) st A := ⟨⟨hx, hb, B.returns, hml, hown, hta, hlocks, hK, hA⟩, by rw [← hAe]; exact hsx⟩
  have hW : wl D A s (wX cI cJ cZ cR am gm t) s.heap [] := ⟨hP, hD, va_S.rf⟩
  have hl := lv_entry [.ref (am 1004), .long a1] (n := 4) (Nat.le_of_ble_eq_true rfl)
  rw [lg_entry_eq]
  generalize (lg_sl [.ref (am 1004), .long a1] ++ List.replicate (4 - (lg_sl [.ref (am 1004), .long a1]).length) Slot.unset).toArray = ls at hl ⊢
  have hl : lv_has ls 4 [(0, .ref (am 1004)), (1, .long a1)] := hl
  unfold x4_mixInto at ho
  refine lv_iconst (v := (0 : Int32)) hx hb dX4_mixInto_0 (by decide) ?_
  refine lv_istore_n (lv' := [(3, .int (0 : Int32)), (0, .ref (am 1004)), (1, .long a1)]) hx hb dX4_mixInto_1 rfl hl (by decide) rfl (fun ls hl => ?_)
  obtain ⟨y6, hc7, ho⟩ := bd_some ho
  obtain ⟨ny6, hc7⟩ := lp_to hc7
  refine x4_mixInto_L2 C0 ?_ ny6 _ _ hc7 _ _ _ hW (lv_sub hl [1, 2, 0] rfl)
  intro H locs ls hW hl
  refine lv_lload_n hx hb dX4_mixInto_46 rfl (lv_at hl 1 rfl) ?_
  cases ho
  exact rtJ C0.1 hW dX4_mixInto_47
noncomputable def x3_mixInto_B2 (t : St) (v1 : Int64) (v3 : Int32) : Option ((Int64 × Int32) ⊕ (Int64)) :=
  if ((gI t 302) * (16 : Int32)) ≤ v3 then (some (.inr v1)) else (gd v3 (gN t 301) (nm (((31 : Int64) * v1) + ((gA t 301 (v3).toNatClampNeg)).toInt64) (fun x3 : Int64 => nm (v3 + (1 : Int32)) (fun x4 : Int32 => some (.inl (x3, x4))))))
noncomputable def x3_mixInto (t : St) (a1 : Int64) : Option (Int64) :=
  (lp (fun x => x3_mixInto_B2 t x.1 x.2) (a1, (0 : Int32))).bind (fun y5 => some y5)
set_option maxHeartbeats 4000000 in
set_option maxRecDepth 100000 in
theorem x3_mixInto_L2 {p : Program} {l : Launch} {e : Env} {s : State} {m : MethodId} {args : Array Value} {below : List Frame} {meth : Method} {c : Code} {Q : State → Prop} {D : va_G} {cI cJ cZ cR : ClassId} {am gm : Nat → Nat} {st : Nat} {A : Nat → Prop} (C0 : cxX p s m args meth c cX3_mixInto RX3 4 (some .long) D (tyX cI cJ cZ cR) st A) {t : St} {y : Int64} (hK0 : ∀ (H : Heap) (locs : List Loc) (ls : Array Slot), wl D A s (wX cI cJ cZ cR am gm t) H locs → lv_has ls 4 [(0, .ref (am 1003)), (1, .long y)] → W p l e (rmN 0 0) s m args below meth c H locs 0 0 Q (F0 m 33 ls [])) :
    ∀ (n : Nat) (v1 : Int64) (v3 : Int32), lpn (fun x => x3_mixInto_B2 t x.1 x.2) n (v1, v3) = some y → ∀ (H : Heap) (locs : List Loc) (ls : Array Slot), wl D A s (wX cI cJ cZ cR am gm t) H locs → lv_has ls 4 [(0, .ref (am 1003)), (1, .long v1), (3, .int v3)] → W p l e (rmN 0 0) s m args below meth c H locs 0 0 Q (F0 m 2 ls []) := by
  have hx := C0.1.1
  have hb := C0.1.2.1
  have hta := C0.1.2.2.2.2.2.1
  have hown := C0.1.2.2.2.2.1
  intro n
  induction n with
  | zero => intro _ _ h; cases h
  | succ n ih =>
    intro v1 v3 hrun H locs ls hW hl
    obtain ⟨o, ho, hrun⟩ := bd_some hrun
    unfold x3_mixInto_B2 at ho
    refine lv_iload_n hx hb dX3_mixInto_2 rfl (lv_at hl 2 rfl) ?_
    refine lv_aload_n hx hb dX3_mixInto_3 rfl (lv_at hl 0 rfl) ?_
    refine xGET_302 C0 kw_492 hW dX3_mixInto_4 ?_
    refine lv_bipush (v := (16 : Int32)) hx hb dX3_mixInto_7 (by decide) ?_
    refine lv_imul hx hb dX3_mixInto_9 ?_
    refine lv_icmp_ge (tgt := 33) hx hb dX3_mixInto_10 (by decide) (fun c1 => ?_) (fun c1 => ?_)
    · replace ho := ite_t c1 ho
      cases ho
      cases hrun
      exact hK0 _ _ _ hW (lv_sub hl [0, 1] rfl)
    · replace ho := ite_f c1 ho
      refine lv_ldc2 hx hb hown (hta _ kw_1474) dX3_mixInto_13 ?_
      refine lv_lload_n hx hb dX3_mixInto_16 rfl (lv_at hl 1 rfl) ?_
      refine lv_lmul hx hb dX3_mixInto_17 ?_
      refine lv_aload_n hx hb dX3_mixInto_18 rfl (lv_at hl 0 rfl) ?_
      refine xGET_301 C0 kw_491 hW dX3_mixInto_19 ?_
      refine lv_iload_n hx hb dX3_mixInto_22 rfl (lv_at hl 2 rfl) ?_
      obtain ⟨g2, ho⟩ := gd_some ho
      refine xLD_301 C0 hW g2 dX3_mixInto_23 ?_
      refine lv_i2l hx hb dX3_mixInto_24 rfl ?_
      refine lv_ladd hx hb dX3_mixInto_25 ?_
      refine lv_nml ho (fun x3 ho => ?_)
      refine lv_lstore_n (lv' := [(1, .long x3), (0, .ref (am 1003)), (3, .int v3)]) hx hb dX3_mixInto_26 rfl hl (by decide) rfl (fun ls hl => ?_)
      obtain ⟨x4, ex4, ho⟩ := nm_x ho
      refine lv_iinc (v := x4) (lv' := [(3, .int x4), (1, .long x3), (0, .ref (am 1003))]) hx hb dX3_mixInto_27 hl (k := 2) rfl (by rw [ex4]; rfl) (by decide) rfl (fun ls hl => ?_)
      clear ex4
      refine lv_goto (tgt := 2) hx hb dX3_mixInto_30 (by decide) ?_
      cases ho
      exact ih _ _ hrun _ _ _ hW (lv_sub hl [2, 1, 0] rfl)
set_option maxHeartbeats 4000000 in
set_option maxRecDepth 100000 in
theorem c_x3_mixInto (l : Launch) {D : va_G} {cI cJ cZ cR : ClassId} {am gm : Nat → Nat} {st : Nat} (sz : Nat) (t : St) (a1 : Int64) {r : Int64} (ho : x3_mixInto t a1 = some r) : Met l yX3_mixInto (.code yX3_mixInto cX3_mixInto 4 (some .long) :: wsAll) (rmN 0 0) (va_Pc [.ref (am 1003), .long a1] (prX D (tyX cI cJ cZ cR) (wX cI cJ cZ cR am gm t) sz st)) (qJ r D (tyX cI cJ cZ cR) (wX cI cJ cZ cR am gm t) (va_A (wX cI cJ cZ cR am gm t) sz)) 0 0 (va_A (wX cI cJ cZ cR am gm t) sz) := by
  refine Met.ofW (cc := cX3_mixInto) (maxL := 4) (ret := (some .long)) (by decide) rfl ?_
  intro p e s m args below meth c s₁ B hml hv
  obtain ⟨rfl, ⟨hsz, hP, hK, hD0⟩, hsx⟩ := hv
  have hx := B.exec
  have hb := B.bytes
  have hts := atoms_spec (ws := (.code yX3_mixInto cX3_mixInto 4 (some .long) :: wsAll)) B.pre
  have hta := fun w h => hts w (List.mem_cons_of_mem _ h)
  have hown : s.vm.findClass RX3 = some m.cls := findClass_of_methodNamed B.named
  have hlocks := B.notSynchronized
  subst hsz
  have hD := hD0.self (sz := s.heap.size)
  generalize hAe : va_A (wX cI cJ cZ cR am gm t) s.heap.size = A at hD ⊢
  have hA : ∀ q : Nat, s.heap.size ≤ q → A q := fun q h => by rw [← hAe]; exact Or.inr h
  have C0 : cxX p s m ([.ref (am 1003), .long a1].toArray) meth c cX3_mixInto RX3 4 (some .long) D (tyX cI cJ cZ cR) st A := ⟨⟨hx, hb, B.returns, hml, hown, hta, hlocks, hK, hA⟩, by rw [← hAe]; exact hsx⟩
  have hW : wl D A s (wX cI cJ cZ cR am gm t) s.heap [] := ⟨hP, hD, va_S.rf⟩
  have hl := lv_entry [.ref (am 1003), .long a1] (n := 4) (Nat.le_of_ble_eq_true rfl)
  rw [lg_entry_eq]
  generalize (lg_sl [.ref (am 1003), .long a1] ++ List.replicate (4 - (lg_sl [.ref (am 1003), .long a1]).length) Slot.unset).toArray = ls at hl ⊢
  have hl : lv_has ls 4 [(0, .ref (am 1003)), (1, .long a1)] := hl
  unfold x3_mixInto at ho
  refine lv_iconst (v := (0 : Int32)) hx hb dX3_mixInto_0 (by decide) ?_
  refine lv_istore_n (lv' := [(3, .int (0 : Int32)), (0, .ref (am 1003)), (1, .long a1)]) hx hb dX3_mixInto_1 rfl hl (by decide) rfl (fun ls hl => ?_)
  obtain ⟨y5, hc6, ho⟩ := bd_some ho
  obtain ⟨ny5, hc6⟩ := lp_to hc6
  refine x3_mixInto_L2 C0 ?_ ny5 _ _ hc6 _ _ _ hW (lv_sub hl [1, 2, 0] rfl)
  intro H locs ls hW hl
  refine lv_lload_n hx hb dX3_mixInto_33 rfl (lv_at hl 1 rfl) ?_
  cases ho
  exact rtJ C0.1 hW dX3_mixInto_34
noncomputable def x10_mixInto_B2 (t : St) (v1 : Int64) (v3 : Int32) : Option ((Int64 × Int32) ⊕ (Int64)) :=
  if (gI t 1007) ≤ v3 then (some (.inr v1)) else (gd v3 (gN t 1006) (nm (((31 : Int64) * v1) + ((gA t 1006 (v3).toNatClampNeg)).toInt64) (fun x3 : Int64 => nm (v3 + (1 : Int32)) (fun x4 : Int32 => some (.inl (x3, x4))))))
noncomputable def x10_mixInto (t : St) (a1 : Int64) : Option (Int64) :=
  (lp (fun x => x10_mixInto_B2 t x.1 x.2) (a1, (0 : Int32))).bind (fun y5 => some y5)
set_option maxHeartbeats 4000000 in
set_option maxRecDepth 100000 in
theorem x10_mixInto_L2 {p : Program} {l : Launch} {e : Env} {s : State} {m : MethodId} {args : Array Value} {below : List Frame} {meth : Method} {c : Code} {Q : State → Prop} {D : va_G} {cI cJ cZ cR : ClassId} {am gm : Nat → Nat} {st : Nat} {A : Nat → Prop} (C0 : cxX p s m args meth c cX10_mixInto RX10 4 (some .long) D (tyX cI cJ cZ cR) st A) {t : St} {y : Int64} (hK0 : ∀ (H : Heap) (locs : List Loc) (ls : Array Slot), wl D A s (wX cI cJ cZ cR am gm t) H locs → lv_has ls 4 [(0, .ref (am 1010)), (1, .long y)] → W p l e (rmN 0 0) s m args below meth c H locs 0 0 Q (F0 m 30 ls [])) :
    ∀ (n : Nat) (v1 : Int64) (v3 : Int32), lpn (fun x => x10_mixInto_B2 t x.1 x.2) n (v1, v3) = some y → ∀ (H : Heap) (locs : List Loc) (ls : Array Slot), wl D A s (wX cI cJ cZ cR am gm t) H locs → lv_has ls 4 [(0, .ref (am 1010)), (1, .long v1), (3, .int v3)] → W p l e (rmN 0 0) s m args below meth c H locs 0 0 Q (F0 m 2 ls []) := by
  have hx := C0.1.1
  have hb := C0.1.2.1
  have hta := C0.1.2.2.2.2.2.1
  have hown := C0.1.2.2.2.2.1
  intro n
  induction n with
  | zero => intro _ _ h; cases h
  | succ n ih =>
    intro v1 v3 hrun H locs ls hW hl
    obtain ⟨o, ho, hrun⟩ := bd_some hrun
    unfold x10_mixInto_B2 at ho
    refine lv_iload_n hx hb dX10_mixInto_2 rfl (lv_at hl 2 rfl) ?_
    refine lv_aload_n hx hb dX10_mixInto_3 rfl (lv_at hl 0 rfl) ?_
    refine xGET_1007 C0 kw_341 hW dX10_mixInto_4 ?_
    refine lv_icmp_ge (tgt := 30) hx hb dX10_mixInto_7 (by decide) (fun c1 => ?_) (fun c1 => ?_)
    · replace ho := ite_t c1 ho
      cases ho
      cases hrun
      exact hK0 _ _ _ hW (lv_sub hl [0, 1] rfl)
    · replace ho := ite_f c1 ho
      refine lv_ldc2 hx hb hown (hta _ kw_1479) dX10_mixInto_10 ?_
      refine lv_lload_n hx hb dX10_mixInto_13 rfl (lv_at hl 1 rfl) ?_
      refine lv_lmul hx hb dX10_mixInto_14 ?_
      refine lv_aload_n hx hb dX10_mixInto_15 rfl (lv_at hl 0 rfl) ?_
      refine xGET_1006 C0 kw_340 hW dX10_mixInto_16 ?_
      refine lv_iload_n hx hb dX10_mixInto_19 rfl (lv_at hl 2 rfl) ?_
      obtain ⟨g2, ho⟩ := gd_some ho
      refine xLD_1006 C0 hW g2 dX10_mixInto_20 ?_
      refine lv_i2l hx hb dX10_mixInto_21 rfl ?_
      refine lv_ladd hx hb dX10_mixInto_22 ?_
      refine lv_nml ho (fun x3 ho => ?_)
      refine lv_lstore_n (lv' := [(1, .long x3), (0, .ref (am 1010)), (3, .int v3)]) hx hb dX10_mixInto_23 rfl hl (by decide) rfl (fun ls hl => ?_)
      obtain ⟨x4, ex4, ho⟩ := nm_x ho
      refine lv_iinc (v := x4) (lv' := [(3, .int x4), (1, .long x3), (0, .ref (am 1010))]) hx hb dX10_mixInto_24 hl (k := 2) rfl (by rw [ex4]; rfl) (by decide) rfl (fun ls hl => ?_)
      clear ex4
      refine lv_goto (tgt := 2) hx hb dX10_mixInto_27 (by decide) ?_
      cases ho
      exact ih _ _ hrun _ _ _ hW (lv_sub hl [2, 1, 0] rfl)
set_option maxHeartbeats 4000000 in
set_option maxRecDepth 100000 in
theorem c_x10_mixInto (l : Launch) {D : va_G} {cI cJ cZ cR : ClassId} {am gm : Nat → Nat} {st : Nat} (sz : Nat) (t : St) (a1 : Int64) {r : Int64} (ho : x10_mixInto t a1 = some r) : Met l yX10_mixInto (.code yX10_mixInto cX10_mixInto 4 (some .long) :: wsAll) (rmN 0 0) (va_Pc [.ref (am 1010), .long a1] (prX D (tyX cI cJ cZ cR) (wX cI cJ cZ cR am gm t) sz st)) (qJ r D (tyX cI cJ cZ cR) (wX cI cJ cZ cR am gm t) (va_A (wX cI cJ cZ cR am gm t) sz)) 0 0 (va_A (wX cI cJ cZ cR am gm t) sz) := by
  refine Met.ofW (cc := cX10_mixInto) (maxL := 4) (ret := (some .long)) (by decide) rfl ?_
  intro p e s m args below meth c s₁ B hml hv
  obtain ⟨rfl, ⟨hsz, hP, hK, hD0⟩, hsx⟩ := hv
  have hx := B.exec
  have hb := B.bytes
  have hts := atoms_spec (ws := (.code yX10_mixInto cX10_mixInto 4 (some .long) :: wsAll)) B.pre
  have hta := fun w h => hts w (List.mem_cons_of_mem _ h)
  have hown : s.vm.findClass RX10 = some m.cls := findClass_of_methodNamed B.named
  have hlocks := B.notSynchronized
  subst hsz
  have hD := hD0.self (sz := s.heap.size)
  generalize hAe : va_A (wX cI cJ cZ cR am gm t) s.heap.size = A at hD ⊢
  have hA : ∀ q : Nat, s.heap.size ≤ q → A q := fun q h => by rw [← hAe]; exact Or.inr h
  have C0 : cxX p s m ([.ref (am 1010), .long a1].toArray) meth c cX10_mixInto RX10 4 (some .long) D (tyX cI cJ cZ cR) st A := ⟨⟨hx, hb, B.returns, hml, hown, hta, hlocks, hK, hA⟩, by rw [← hAe]; exact hsx⟩
  have hW : wl D A s (wX cI cJ cZ cR am gm t) s.heap [] := ⟨hP, hD, va_S.rf⟩
  have hl := lv_entry [.ref (am 1010), .long a1] (n := 4) (Nat.le_of_ble_eq_true rfl)
  rw [lg_entry_eq]
  generalize (lg_sl [.ref (am 1010), .long a1] ++ List.replicate (4 - (lg_sl [.ref (am 1010), .long a1]).length) Slot.unset).toArray = ls at hl ⊢
  have hl : lv_has ls 4 [(0, .ref (am 1010)), (1, .long a1)] := hl
  unfold x10_mixInto at ho
  refine lv_iconst (v := (0 : Int32)) hx hb dX10_mixInto_0 (by decide) ?_
  refine lv_istore_n (lv' := [(3, .int (0 : Int32)), (0, .ref (am 1010)), (1, .long a1)]) hx hb dX10_mixInto_1 rfl hl (by decide) rfl (fun ls hl => ?_)
  obtain ⟨y5, hc6, ho⟩ := bd_some ho
  obtain ⟨ny5, hc6⟩ := lp_to hc6
  refine x10_mixInto_L2 C0 ?_ ny5 _ _ hc6 _ _ _ hW (lv_sub hl [1, 2, 0] rfl)
  intro H locs ls hW hl
  refine lv_lload_n hx hb dX10_mixInto_30 rfl (lv_at hl 1 rfl) ?_
  cases ho
  exact rtJ C0.1 hW dX10_mixInto_31
noncomputable def x1_mixInto_B2 (t : St) (v1 : Int64) (v3 : Int32) : Option ((Int64 × Int32) ⊕ (Int64)) :=
  if (gI t 104) ≤ v3 then (some (.inr v1)) else (gd v3 (gN t 102) (gd v3 (gN t 103) (nm (((31 : Int64) * (((31 : Int64) * v1) + ((gA t 102 (v3).toNatClampNeg)).toInt64)) + ((gA t 103 (v3).toNatClampNeg)).toInt64) (fun x4 : Int64 => nm (v3 + (1 : Int32)) (fun x5 : Int32 => some (.inl (x4, x5)))))))
noncomputable def x1_mixInto (t : St) (a1 : Int64) : Option (Int64) :=
  (lp (fun x => x1_mixInto_B2 t x.1 x.2) (a1, (0 : Int32))).bind (fun y6 => some y6)
set_option maxHeartbeats 4000000 in
set_option maxRecDepth 100000 in
theorem x1_mixInto_L2 {p : Program} {l : Launch} {e : Env} {s : State} {m : MethodId} {args : Array Value} {below : List Frame} {meth : Method} {c : Code} {Q : State → Prop} {D : va_G} {cI cJ cZ cR : ClassId} {am gm : Nat → Nat} {st : Nat} {A : Nat → Prop} (C0 : cxX p s m args meth c cX1_mixInto RX1 4 (some .long) D (tyX cI cJ cZ cR) st A) {t : St} {y : Int64} (hK0 : ∀ (H : Heap) (locs : List Loc) (ls : Array Slot), wl D A s (wX cI cJ cZ cR am gm t) H locs → lv_has ls 4 [(0, .ref (am 1001)), (1, .long y)] → W p l e (rmN 0 0) s m args below meth c H locs 0 0 Q (F0 m 42 ls [])) :
    ∀ (n : Nat) (v1 : Int64) (v3 : Int32), lpn (fun x => x1_mixInto_B2 t x.1 x.2) n (v1, v3) = some y → ∀ (H : Heap) (locs : List Loc) (ls : Array Slot), wl D A s (wX cI cJ cZ cR am gm t) H locs → lv_has ls 4 [(0, .ref (am 1001)), (1, .long v1), (3, .int v3)] → W p l e (rmN 0 0) s m args below meth c H locs 0 0 Q (F0 m 2 ls []) := by
  have hx := C0.1.1
  have hb := C0.1.2.1
  have hta := C0.1.2.2.2.2.2.1
  have hown := C0.1.2.2.2.2.1
  intro n
  induction n with
  | zero => intro _ _ h; cases h
  | succ n ih =>
    intro v1 v3 hrun H locs ls hW hl
    obtain ⟨o, ho, hrun⟩ := bd_some hrun
    unfold x1_mixInto_B2 at ho
    refine lv_iload_n hx hb dX1_mixInto_2 rfl (lv_at hl 2 rfl) ?_
    refine lv_aload_n hx hb dX1_mixInto_3 rfl (lv_at hl 0 rfl) ?_
    refine xGET_104 C0 kw_537 hW dX1_mixInto_4 ?_
    refine lv_icmp_ge (tgt := 42) hx hb dX1_mixInto_7 (by decide) (fun c1 => ?_) (fun c1 => ?_)
    · replace ho := ite_t c1 ho
      cases ho
      cases hrun
      exact hK0 _ _ _ hW (lv_sub hl [0, 1] rfl)
    · replace ho := ite_f c1 ho
      refine lv_ldc2 hx hb hown (hta _ kw_1484) dX1_mixInto_10 ?_
      refine lv_ldc2 hx hb hown (hta _ kw_1484) dX1_mixInto_13 ?_
      refine lv_lload_n hx hb dX1_mixInto_16 rfl (lv_at hl 1 rfl) ?_
      refine lv_lmul hx hb dX1_mixInto_17 ?_
      refine lv_aload_n hx hb dX1_mixInto_18 rfl (lv_at hl 0 rfl) ?_
      refine xGET_102 C0 kw_535 hW dX1_mixInto_19 ?_
      refine lv_iload_n hx hb dX1_mixInto_22 rfl (lv_at hl 2 rfl) ?_
      obtain ⟨g2, ho⟩ := gd_some ho
      refine xLD_102 C0 hW g2 dX1_mixInto_23 ?_
      refine lv_i2l hx hb dX1_mixInto_24 rfl ?_
      refine lv_ladd hx hb dX1_mixInto_25 ?_
      refine lv_lmul hx hb dX1_mixInto_26 ?_
      refine lv_aload_n hx hb dX1_mixInto_27 rfl (lv_at hl 0 rfl) ?_
      refine xGET_103 C0 kw_536 hW dX1_mixInto_28 ?_
      refine lv_iload_n hx hb dX1_mixInto_31 rfl (lv_at hl 2 rfl) ?_
      obtain ⟨g3, ho⟩ := gd_some ho
      refine xLD_103 C0 hW g3 dX1_mixInto_32 ?_
      refine lv_i2l hx hb dX1_mixInto_33 rfl ?_
      refine lv_ladd hx hb dX1_mixInto_34 ?_
      refine lv_nml ho (fun x4 ho => ?_)
      refine lv_lstore_n (lv' := [(1, .long x4), (0, .ref (am 1001)), (3, .int v3)]) hx hb dX1_mixInto_35 rfl hl (by decide) rfl (fun ls hl => ?_)
      obtain ⟨x5, ex5, ho⟩ := nm_x ho
      refine lv_iinc (v := x5) (lv' := [(3, .int x5), (1, .long x4), (0, .ref (am 1001))]) hx hb dX1_mixInto_36 hl (k := 2) rfl (by rw [ex5]; rfl) (by decide) rfl (fun ls hl => ?_)
      clear ex5
      refine lv_goto (tgt := 2) hx hb dX1_mixInto_39 (by decide) ?_
      cases ho
      exact ih _ _ hrun _ _ _ hW (lv_sub hl [2, 1, 0] rfl)
set_option maxHeartbeats 4000000 in
set_option maxRecDepth 100000 in
theorem c_x1_mixInto (l : Launch) {D : va_G} {cI cJ cZ cR : ClassId} {am gm : Nat → Nat} {st : Nat} (sz : Nat) (t : St) (a1 : Int64) {r : Int64} (ho : x1_mixInto t a1 = some r) : Met l yX1_mixInto (.code yX1_mixInto cX1_mixInto 4 (some .long) :: wsAll) (rmN 0 0) (va_Pc [.ref (am 1001), .long a1] (prX D (tyX cI cJ cZ cR) (wX cI cJ cZ cR am gm t) sz st)) (qJ r D (tyX cI cJ cZ cR) (wX cI cJ cZ cR am gm t) (va_A (wX cI cJ cZ cR am gm t) sz)) 0 0 (va_A (wX cI cJ cZ cR am gm t) sz) := by
  refine Met.ofW (cc := cX1_mixInto) (maxL := 4) (ret := (some .long)) (by decide) rfl ?_
  intro p e s m args below meth c s₁ B hml hv
  obtain ⟨rfl, ⟨hsz, hP, hK, hD0⟩, hsx⟩ := hv
  have hx := B.exec
  have hb := B.bytes
  have hts := atoms_spec (ws := (.code yX1_mixInto cX1_mixInto 4 (some .long) :: wsAll)) B.pre
  have hta := fun w h => hts w (List.mem_cons_of_mem _ h)
  have hown : s.vm.findClass RX1 = some m.cls := findClass_of_methodNamed B.named
  have hlocks := B.notSynchronized
  subst hsz
  have hD := hD0.self (sz := s.heap.size)
  generalize hAe : va_A (wX cI cJ cZ cR am gm t) s.heap.size = A at hD ⊢
  have hA : ∀ q : Nat, s.heap.size ≤ q → A q := fun q h => by rw [← hAe]; exact Or.inr h
  have C0 : cxX p s m ([.ref (am 1001), .long a1].toArray) meth c cX1_mixInto RX1 4 (some .long) D (tyX cI cJ cZ cR) st A := ⟨⟨hx, hb, B.returns, hml, hown, hta, hlocks, hK, hA⟩, by rw [← hAe]; exact hsx⟩
  have hW : wl D A s (wX cI cJ cZ cR am gm t) s.heap [] := ⟨hP, hD, va_S.rf⟩
  have hl := lv_entry [.ref (am 1001), .long a1] (n := 4) (Nat.le_of_ble_eq_true rfl)
  rw [lg_entry_eq]
  generalize (lg_sl [.ref (am 1001), .long a1] ++ List.replicate (4 - (lg_sl [.ref (am 1001), .long a1]).length) Slot.unset).toArray = ls at hl ⊢
  have hl : lv_has ls 4 [(0, .ref (am 1001)), (1, .long a1)] := hl
  unfold x1_mixInto at ho
  refine lv_iconst (v := (0 : Int32)) hx hb dX1_mixInto_0 (by decide) ?_
  refine lv_istore_n (lv' := [(3, .int (0 : Int32)), (0, .ref (am 1001)), (1, .long a1)]) hx hb dX1_mixInto_1 rfl hl (by decide) rfl (fun ls hl => ?_)
  obtain ⟨y6, hc7, ho⟩ := bd_some ho
  obtain ⟨ny6, hc7⟩ := lp_to hc7
  refine x1_mixInto_L2 C0 ?_ ny6 _ _ hc7 _ _ _ hW (lv_sub hl [1, 2, 0] rfl)
  intro H locs ls hW hl
  refine lv_lload_n hx hb dX1_mixInto_42 rfl (lv_at hl 1 rfl) ?_
  cases ho
  exact rtJ C0.1 hW dX1_mixInto_43
noncomputable def x9_mixInto_B24 (t : St) (v3 : Int32) (v1 : Int64) (v4 : Int32) : Option ((Int64 × Int32) ⊕ (Int64)) :=
  gd v3 (gN t 902) (if (gA t 902 (v3).toNatClampNeg) ≤ v4 then (some (.inr v1)) else (gd ((v3 * (12 : Int32)) + v4) (gN t 901) (nm (((31 : Int64) * v1) + ((gA t 901 (((v3 * (12 : Int32)) + v4)).toNatClampNeg)).toInt64) (fun x4 : Int64 => nm (v4 + (1 : Int32)) (fun x5 : Int32 => some (.inl (x4, x5)))))))
noncomputable def x9_mixInto_B2 (t : St) (v1 : Int64) (v3 : Int32) : Option ((Int64 × Int32) ⊕ (Int64)) :=
  if (3 : Int32) < v3 then (some (.inr v1)) else (gd v3 (gN t 902) (nm (((31 : Int64) * v1) + ((gA t 902 (v3).toNatClampNeg)).toInt64) (fun x8 : Int64 => (lp (fun x => x9_mixInto_B24 t v3 x.1 x.2) (x8, (0 : Int32))).bind (fun y9 => nm (v3 + (1 : Int32)) (fun x11 : Int32 => some (.inl (y9, x11)))))))
noncomputable def x9_mixInto (t : St) (a1 : Int64) : Option (Int64) :=
  (lp (fun x => x9_mixInto_B2 t x.1 x.2) (a1, (0 : Int32))).bind (fun y12 => some y12)
set_option maxHeartbeats 4000000 in
set_option maxRecDepth 100000 in
theorem x9_mixInto_L24 {p : Program} {l : Launch} {e : Env} {s : State} {m : MethodId} {args : Array Value} {below : List Frame} {meth : Method} {c : Code} {Q : State → Prop} {D : va_G} {cI cJ cZ cR : ClassId} {am gm : Nat → Nat} {st : Nat} {A : Nat → Prop} (C0 : cxX p s m args meth c cX9_mixInto RX9 5 (some .long) D (tyX cI cJ cZ cR) st A) {t : St} {v3 : Int32} {y : Int64} (hK0 : ∀ (H : Heap) (locs : List Loc) (ls : Array Slot), wl D A s (wX cI cJ cZ cR am gm t) H locs → lv_has ls 5 [(0, .ref (am 1009)), (1, .long y), (3, .int v3)] → W p l e (rmN 0 0) s m args below meth c H locs 0 0 Q (F0 m 61 ls [])) :
    ∀ (n : Nat) (v1 : Int64) (v4 : Int32), lpn (fun x => x9_mixInto_B24 t v3 x.1 x.2) n (v1, v4) = some y → ∀ (H : Heap) (locs : List Loc) (ls : Array Slot), wl D A s (wX cI cJ cZ cR am gm t) H locs → lv_has ls 5 [(0, .ref (am 1009)), (1, .long v1), (3, .int v3), (4, .int v4)] → W p l e (rmN 0 0) s m args below meth c H locs 0 0 Q (F0 m 24 ls []) := by
  have hx := C0.1.1
  have hb := C0.1.2.1
  have hta := C0.1.2.2.2.2.2.1
  have hown := C0.1.2.2.2.2.1
  intro n
  induction n with
  | zero => intro _ _ h; cases h
  | succ n ih =>
    intro v1 v4 hrun H locs ls hW hl
    obtain ⟨o, ho, hrun⟩ := bd_some hrun
    unfold x9_mixInto_B24 at ho
    refine lv_iload hx hb dX9_mixInto_24 (lv_at hl 3 rfl) ?_
    refine lv_aload_n hx hb dX9_mixInto_26 rfl (lv_at hl 0 rfl) ?_
    refine xGET_902 C0 kw_567 hW dX9_mixInto_27 ?_
    refine lv_iload_n hx hb dX9_mixInto_30 rfl (lv_at hl 2 rfl) ?_
    obtain ⟨g1, ho⟩ := gd_some ho
    refine xLD_902 C0 hW g1 dX9_mixInto_31 ?_
    refine lv_icmp_ge (tgt := 61) hx hb dX9_mixInto_32 (by decide) (fun c2 => ?_) (fun c2 => ?_)
    · replace ho := ite_t c2 ho
      cases ho
      cases hrun
      exact hK0 _ _ _ hW (lv_sub hl [0, 1, 2] rfl)
    · replace ho := ite_f c2 ho
      refine lv_ldc2 hx hb hown (hta _ kw_1489) dX9_mixInto_35 ?_
      refine lv_lload_n hx hb dX9_mixInto_38 rfl (lv_at hl 1 rfl) ?_
      refine lv_lmul hx hb dX9_mixInto_39 ?_
      refine lv_aload_n hx hb dX9_mixInto_40 rfl (lv_at hl 0 rfl) ?_
      refine xGET_901 C0 kw_566 hW dX9_mixInto_41 ?_
      refine lv_iload_n hx hb dX9_mixInto_44 rfl (lv_at hl 2 rfl) ?_
      refine lv_bipush (v := (12 : Int32)) hx hb dX9_mixInto_45 (by decide) ?_
      refine lv_imul hx hb dX9_mixInto_47 ?_
      refine lv_iload hx hb dX9_mixInto_48 (lv_at hl 3 rfl) ?_
      refine lv_iadd hx hb dX9_mixInto_50 ?_
      obtain ⟨g3, ho⟩ := gd_some ho
      refine xLD_901 C0 hW g3 dX9_mixInto_51 ?_
      refine lv_i2l hx hb dX9_mixInto_52 rfl ?_
      refine lv_ladd hx hb dX9_mixInto_53 ?_
      refine lv_nml ho (fun x4 ho => ?_)
      refine lv_lstore_n (lv' := [(1, .long x4), (0, .ref (am 1009)), (3, .int v3), (4, .int v4)]) hx hb dX9_mixInto_54 rfl hl (by decide) rfl (fun ls hl => ?_)
      obtain ⟨x5, ex5, ho⟩ := nm_x ho
      refine lv_iinc (v := x5) (lv' := [(4, .int x5), (1, .long x4), (0, .ref (am 1009)), (3, .int v3)]) hx hb dX9_mixInto_55 hl (k := 3) rfl (by rw [ex5]; rfl) (by decide) rfl (fun ls hl => ?_)
      clear ex5
      refine lv_goto (tgt := 24) hx hb dX9_mixInto_58 (by decide) ?_
      cases ho
      exact ih _ _ hrun _ _ _ hW (lv_sub hl [2, 1, 3, 0] rfl)
set_option maxHeartbeats 4000000 in
set_option maxRecDepth 100000 in
theorem x9_mixInto_L2 {p : Program} {l : Launch} {e : Env} {s : State} {m : MethodId} {args : Array Value} {below : List Frame} {meth : Method} {c : Code} {Q : State → Prop} {D : va_G} {cI cJ cZ cR : ClassId} {am gm : Nat → Nat} {st : Nat} {A : Nat → Prop} (C0 : cxX p s m args meth c cX9_mixInto RX9 5 (some .long) D (tyX cI cJ cZ cR) st A) {t : St} {y : Int64} (hK0 : ∀ (H : Heap) (locs : List Loc) (ls : Array Slot), wl D A s (wX cI cJ cZ cR am gm t) H locs → lv_has ls 5 [(0, .ref (am 1009)), (1, .long y)] → W p l e (rmN 0 0) s m args below meth c H locs 0 0 Q (F0 m 67 ls [])) :
    ∀ (n : Nat) (v1 : Int64) (v3 : Int32), lpn (fun x => x9_mixInto_B2 t x.1 x.2) n (v1, v3) = some y → ∀ (H : Heap) (locs : List Loc) (ls : Array Slot), wl D A s (wX cI cJ cZ cR am gm t) H locs → lv_has ls 5 [(0, .ref (am 1009)), (1, .long v1), (3, .int v3)] → W p l e (rmN 0 0) s m args below meth c H locs 0 0 Q (F0 m 2 ls []) := by
  have hx := C0.1.1
  have hb := C0.1.2.1
  have hta := C0.1.2.2.2.2.2.1
  have hown := C0.1.2.2.2.2.1
  intro n
  induction n with
  | zero => intro _ _ h; cases h
  | succ n ih =>
    intro v1 v3 hrun H locs ls hW hl
    obtain ⟨o, ho, hrun⟩ := bd_some hrun
    unfold x9_mixInto_B2 at ho
    refine lv_iload_n hx hb dX9_mixInto_2 rfl (lv_at hl 2 rfl) ?_
    refine lv_iconst (v := (3 : Int32)) hx hb dX9_mixInto_3 (by decide) ?_
    refine lv_icmp_gt (tgt := 67) hx hb dX9_mixInto_4 (by decide) (fun c6 => ?_) (fun c6 => ?_)
    · replace ho := ite_t c6 ho
      cases ho
      cases hrun
      exact hK0 _ _ _ hW (lv_sub hl [0, 1] rfl)
    · replace ho := ite_f c6 ho
      refine lv_ldc2 hx hb hown (hta _ kw_1489) dX9_mixInto_7 ?_
      refine lv_lload_n hx hb dX9_mixInto_10 rfl (lv_at hl 1 rfl) ?_
      refine lv_lmul hx hb dX9_mixInto_11 ?_
      refine lv_aload_n hx hb dX9_mixInto_12 rfl (lv_at hl 0 rfl) ?_
      refine xGET_902 C0 kw_567 hW dX9_mixInto_13 ?_
      refine lv_iload_n hx hb dX9_mixInto_16 rfl (lv_at hl 2 rfl) ?_
      obtain ⟨g7, ho⟩ := gd_some ho
      refine xLD_902 C0 hW g7 dX9_mixInto_17 ?_
      refine lv_i2l hx hb dX9_mixInto_18 rfl ?_
      refine lv_ladd hx hb dX9_mixInto_19 ?_
      refine lv_nml ho (fun x8 ho => ?_)
      refine lv_lstore_n (lv' := [(1, .long x8), (0, .ref (am 1009)), (3, .int v3)]) hx hb dX9_mixInto_20 rfl hl (by decide) rfl (fun ls hl => ?_)
      refine lv_iconst (v := (0 : Int32)) hx hb dX9_mixInto_21 (by decide) ?_
      refine lv_istore (lv' := [(4, .int (0 : Int32)), (1, .long x8), (0, .ref (am 1009)), (3, .int v3)]) hx hb dX9_mixInto_22 hl (by decide) rfl (fun ls hl => ?_)
      obtain ⟨y9, hc10, ho⟩ := bd_some ho
      obtain ⟨ny9, hc10⟩ := lp_to hc10
      refine x9_mixInto_L24 C0 ?_ ny9 _ _ hc10 _ _ _ hW (lv_sub hl [2, 1, 3, 0] rfl)
      intro H locs ls hW hl
      obtain ⟨x11, ex11, ho⟩ := nm_x ho
      refine lv_iinc (v := x11) (lv' := [(3, .int x11), (0, .ref (am 1009)), (1, .long y9)]) hx hb dX9_mixInto_61 hl (k := 2) rfl (by rw [ex11]; rfl) (by decide) rfl (fun ls hl => ?_)
      clear ex11
      refine lv_goto (tgt := 2) hx hb dX9_mixInto_64 (by decide) ?_
      cases ho
      exact ih _ _ hrun _ _ _ hW (lv_sub hl [1, 2, 0] rfl)
set_option maxHeartbeats 4000000 in
set_option maxRecDepth 100000 in
theorem c_x9_mixInto (l : Launch) {D : va_G} {cI cJ cZ cR : ClassId} {am gm : Nat → Nat} {st : Nat} (sz : Nat) (t : St) (a1 : Int64) {r : Int64} (ho : x9_mixInto t a1 = some r) : Met l yX9_mixInto (.code yX9_mixInto cX9_mixInto 5 (some .long) :: wsAll) (rmN 0 0) (va_Pc [.ref (am 1009), .long a1] (prX D (tyX cI cJ cZ cR) (wX cI cJ cZ cR am gm t) sz st)) (qJ r D (tyX cI cJ cZ cR) (wX cI cJ cZ cR am gm t) (va_A (wX cI cJ cZ cR am gm t) sz)) 0 0 (va_A (wX cI cJ cZ cR am gm t) sz) := by
  refine Met.ofW (cc := cX9_mixInto) (maxL := 5) (ret := (some .long)) (by decide) rfl ?_
  intro p e s m args below meth c s₁ B hml hv
  obtain ⟨rfl, ⟨hsz, hP, hK, hD0⟩, hsx⟩ := hv
  have hx := B.exec
  have hb := B.bytes
  have hts := atoms_spec (ws := (.code yX9_mixInto cX9_mixInto 5 (some .long) :: wsAll)) B.pre
  have hta := fun w h => hts w (List.mem_cons_of_mem _ h)
  have hown : s.vm.findClass RX9 = some m.cls := findClass_of_methodNamed B.named
  have hlocks := B.notSynchronized
  subst hsz
  have hD := hD0.self (sz := s.heap.size)
  generalize hAe : va_A (wX cI cJ cZ cR am gm t) s.heap.size = A at hD ⊢
  have hA : ∀ q : Nat, s.heap.size ≤ q → A q := fun q h => by rw [← hAe]; exact Or.inr h
  have C0 : cxX p s m ([.ref (am 1009), .long a1].toArray) meth c cX9_mixInto RX9 5 (some .long) D (tyX cI cJ cZ cR) st A := ⟨⟨hx, hb, B.returns, hml, hown, hta, hlocks, hK, hA⟩, by rw [← hAe]; exact hsx⟩
  have hW : wl D A s (wX cI cJ cZ cR am gm t) s.heap [] := ⟨hP, hD, va_S.rf⟩
  have hl := lv_entry [.ref (am 1009), .long a1] (n := 5) (Nat.le_of_ble_eq_true rfl)
  rw [lg_entry_eq]
  generalize (lg_sl [.ref (am 1009), .long a1] ++ List.replicate (5 - (lg_sl [.ref (am 1009), .long a1]).length) Slot.unset).toArray = ls at hl ⊢
  have hl : lv_has ls 5 [(0, .ref (am 1009)), (1, .long a1)] := hl
  unfold x9_mixInto at ho
  refine lv_iconst (v := (0 : Int32)) hx hb dX9_mixInto_0 (by decide) ?_
  refine lv_istore_n (lv' := [(3, .int (0 : Int32)), (0, .ref (am 1009)), (1, .long a1)]) hx hb dX9_mixInto_1 rfl hl (by decide) rfl (fun ls hl => ?_)
  obtain ⟨y12, hc13, ho⟩ := bd_some ho
  obtain ⟨ny12, hc13⟩ := lp_to hc13
  refine x9_mixInto_L2 C0 ?_ ny12 _ _ hc13 _ _ _ hW (lv_sub hl [1, 2, 0] rfl)
  intro H locs ls hW hl
  refine lv_lload_n hx hb dX9_mixInto_67 rfl (lv_at hl 1 rfl) ?_
  cases ho
  exact rtJ C0.1 hW dX9_mixInto_68
