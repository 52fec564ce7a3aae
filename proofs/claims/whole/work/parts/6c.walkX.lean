noncomputable def j7_fill_53178_200_B5 (v1 : Int32) (v3 : Int32) (v2 : Int32) (t : St) : Option ((Int32 × St) ⊕ (St)) :=
  if v3 ≤ v2 then (some (.inr t)) else (gd v2 (gN t 200) (nm (sA t 200 v2 v1) (fun t3 : St => nm (v2 + (1 : Int32)) (fun x4 : Int32 => some (.inl (x4, t3))))))
noncomputable def j7_fill_53178_200 (t : St) (a1 : Int32) : Option (St) :=
  nm (Int32.ofNat (gN t 200)) (fun x5 : Int32 => (lp (fun x => j7_fill_53178_200_B5 a1 x5 x.1 x.2) ((0 : Int32), t)).bind (fun y6 => some y6))
set_option maxHeartbeats 4000000 in
set_option maxRecDepth 100000 in
theorem j7_fill_53178_200_L5 {p : Program} {l : Launch} {e : Env} {s : State} {m : MethodId} {args : Array Value} {below : List Frame} {meth : Method} {c : Code} {Q : State → Prop} {D : va_G} {cI cJ cZ cR : ClassId} {am gm : Nat → Nat} {st : Nat} {A : Nat → Prop} (C0 : cxX p s m args meth c cJ7_fill_53178 RJ7 4 none D (tyX cI cJ cZ cR) st A) {v1 : Int32} {v3 : Int32} {y : St} (hK0 : ∀ (H : Heap) (locs : List Loc) (ls : Array Slot), wl D A s (wX cI cJ cZ cR am gm y) H locs → lv_has ls 4 [] → W p l e (rmN 0 0) s m args below meth c H locs 0 0 Q (F0 m 20 ls [])) :
    ∀ (n : Nat) (v2 : Int32) (t : St), lpn (fun x => j7_fill_53178_200_B5 v1 v3 x.1 x.2) n (v2, t) = some y → ∀ (H : Heap) (locs : List Loc) (ls : Array Slot), wl D A s (wX cI cJ cZ cR am gm t) H locs → lv_has ls 4 [(0, .ref (am 200)), (1, .int v1), (2, .int v2), (3, .int v3)] → W p l e (rmN 0 0) s m args below meth c H locs 0 0 Q (F0 m 5 ls []) := by
  have hx := C0.1.1
  have hb := C0.1.2.1
  have hta := C0.1.2.2.2.2.2.1
  have hown := C0.1.2.2.2.2.1
  intro n
  induction n with
  | zero => intro _ _ h; cases h
  | succ n ih =>
    intro v2 t hrun H locs ls hW hl
    obtain ⟨o, ho, hrun⟩ := bd_some hrun
    unfold j7_fill_53178_200_B5 at ho
    refine lv_iload_n hx hb dJ7_fill_53178_5 rfl (lv_at hl 2 rfl) ?_
    refine lv_iload_n hx hb dJ7_fill_53178_6 rfl (lv_at hl 3 rfl) ?_
    refine lv_icmp_ge (tgt := 20) hx hb dJ7_fill_53178_7 (by decide) (fun c1 => ?_) (fun c1 => ?_)
    · replace ho := ite_t c1 ho
      cases ho
      cases hrun
      exact hK0 _ _ _ hW (lv_sub hl [] rfl)
    · replace ho := ite_f c1 ho
      refine lv_aload_n hx hb dJ7_fill_53178_10 rfl (lv_at hl 0 rfl) ?_
      refine lv_iload_n hx hb dJ7_fill_53178_11 rfl (lv_at hl 2 rfl) ?_
      refine lv_iload_n hx hb dJ7_fill_53178_12 rfl (lv_at hl 1 rfl) ?_
      obtain ⟨g2, ho⟩ := gd_some ho
      refine xST_200 C0 hW g2 dJ7_fill_53178_13 (fun H locs hW => ?_)
      obtain ⟨t3, ho, hW⟩ := nm_w (P := fun t => wl D A s (wX cI cJ cZ cR am gm t) H locs) ho hW
      obtain ⟨x4, ex4, ho⟩ := nm_x ho
      refine lv_iinc (v := x4) (lv' := [(2, .int x4), (0, .ref (am 200)), (1, .int v1), (3, .int v3)]) hx hb dJ7_fill_53178_14 hl (k := 2) rfl (by rw [ex4]; rfl) (by decide) rfl (fun ls hl => ?_)
      clear ex4
      refine lv_goto (tgt := 5) hx hb dJ7_fill_53178_17 (by decide) ?_
      cases ho
      exact ih _ _ hrun _ _ _ hW (lv_sub hl [1, 2, 0, 3] rfl)
set_option maxHeartbeats 4000000 in
set_option maxRecDepth 100000 in
theorem c_j7_fill_53178_200 (l : Launch) {D : va_G} {cI cJ cZ cR : ClassId} {am gm : Nat → Nat} {st : Nat} (sz : Nat) (t : St) (a1 : Int32) {t' : St} (ho : j7_fill_53178_200 t a1 = some t') : Met l yJ7_fill_53178 (.code yJ7_fill_53178 cJ7_fill_53178 4 none :: wsAll) (rmN 0 0) (va_Pc [.ref (am 200), .int a1] (prX D (tyX cI cJ cZ cR) (wX cI cJ cZ cR am gm t) sz st)) (qV D (tyX cI cJ cZ cR) (wX cI cJ cZ cR am gm t') (va_A (wX cI cJ cZ cR am gm t) sz)) 0 0 (va_A (wX cI cJ cZ cR am gm t) sz) := by
  refine Met.ofW (cc := cJ7_fill_53178) (maxL := 4) (ret := none) (by decide) rfl ?_
  intro p e s m args below meth c s₁ B hml hv
  obtain ⟨rfl, ⟨hsz, hP, hK, hD0⟩, hsx⟩ := hv
  have hx := B.exec
  have hb := B.bytes
  have hts := atoms_spec (ws := (.code yJ7_fill_53178 cJ7_fill_53178 4 none :: wsAll)) B.pre
  have hta := fun w h => hts w (List.mem_cons_of_mem _ h)
  have hown : s.vm.findClass RJ7 = some m.cls := findClass_of_methodNamed B.named
  have hlocks := B.notSynchronized
  subst hsz
  have hD := hD0.self (sz := s.heap.size)
  generalize hAe : va_A (wX cI cJ cZ cR am gm t) s.heap.size = A at hD ⊢
  have hA : ∀ q : Nat, s.heap.size ≤ q → A q := fun q h => by rw [← hAe]; exact Or.inr h
  have C0 : cxX p s m ([.ref (am 200), .int a1].toArray) meth c cJ7_fill_53178 RJ7 4 none D (tyX cI cJ cZ cR) st A := ⟨⟨hx, hb, B.returns, hml, hown, hta, hlocks, hK, hA⟩, by rw [← hAe]; exact hsx⟩
  have hW : wl D A s (wX cI cJ cZ cR am gm t) s.heap [] := ⟨hP, hD, va_S.rf⟩
  have hl := lv_entry [.ref (am 200), .int a1] (n := 4) (Nat.le_of_ble_eq_true rfl)
  rw [lg_entry_eq]
  generalize (lg_sl [.ref (am 200), .int a1] ++ List.replicate (4 - (lg_sl [.ref (am 200), .int a1]).length) Slot.unset).toArray = ls at hl ⊢
  have hl : lv_has ls 4 [(0, .ref (am 200)), (1, .int a1)] := hl
  unfold j7_fill_53178_200 at ho
  refine lv_iconst (v := (0 : Int32)) hx hb dJ7_fill_53178_0 (by decide) ?_
  refine lv_istore_n (lv' := [(2, .int (0 : Int32)), (0, .ref (am 200)), (1, .int a1)]) hx hb dJ7_fill_53178_1 rfl hl (by decide) rfl (fun ls hl => ?_)
  refine lv_aload_n hx hb dJ7_fill_53178_2 rfl (lv_at hl 1 rfl) ?_
  refine xLEN_200 C0 hW dJ7_fill_53178_3 ?_
  refine lv_nmi ho (fun x5 ho => ?_)
  refine lv_istore_n (lv' := [(3, .int x5), (2, .int (0 : Int32)), (0, .ref (am 200)), (1, .int a1)]) hx hb dJ7_fill_53178_4 rfl hl (by decide) rfl (fun ls hl => ?_)
  obtain ⟨y6, hc7, ho⟩ := bd_some ho
  obtain ⟨ny6, hc7⟩ := lp_to hc7
  refine j7_fill_53178_200_L5 C0 ?_ ny6 _ _ hc7 _ _ _ hW (lv_sub hl [2, 3, 1, 0] rfl)
  intro H locs ls hW hl
  cases ho
  exact rtV C0.1 hW dJ7_fill_53178_20
noncomputable def x2_isZeroRow_200_B2 (t : St) (v1 : Int32) : Option ((Int32) ⊕ ((Unit) ⊕ (Unit))) :=
  if (6 : Int32) ≤ v1 then (some (.inr (.inr ()))) else (gd v1 (gN t 200) (if (gA t 200 (v1).toNatClampNeg) = 0 then (nm (v1 + (1 : Int32)) (fun x4 : Int32 => some (.inl x4))) else (some (.inr (.inl ())))))
noncomputable def x2_isZeroRow_200 (t : St) : Option (Int32) :=
  (lp (fun x => x2_isZeroRow_200_B2 t x) (0 : Int32)).bind (fun y5 => (Sum.elim (fun u7 => some (0 : Int32)) (fun u7 => some (1 : Int32))) y5)
set_option maxHeartbeats 4000000 in
set_option maxRecDepth 100000 in
theorem x2_isZeroRow_200_L2 {p : Program} {l : Launch} {e : Env} {s : State} {m : MethodId} {args : Array Value} {below : List Frame} {meth : Method} {c : Code} {Q : State → Prop} {D : va_G} {cI cJ cZ cR : ClassId} {am gm : Nat → Nat} {st : Nat} {A : Nat → Prop} (C0 : cxX p s m args meth c cX2_isZeroRow RX2 2 (some .boolean) D (tyX cI cJ cZ cR) st A) {t : St} {y : (Unit) ⊕ (Unit)} (hK0 : ∀ u, y = (.inl u) → ∀ (H : Heap) (locs : List Loc) (ls : Array Slot), wl D A s (wX cI cJ cZ cR am gm t) H locs → lv_has ls 2 [] → W p l e (rmN 0 0) s m args below meth c H locs 0 0 Q (F0 m 14 ls [])) (hK1 : ∀ u, y = (.inr u) → ∀ (H : Heap) (locs : List Loc) (ls : Array Slot), wl D A s (wX cI cJ cZ cR am gm t) H locs → lv_has ls 2 [] → W p l e (rmN 0 0) s m args below meth c H locs 0 0 Q (F0 m 22 ls [])) :
    ∀ (n : Nat) (v1 : Int32), lpn (fun x => x2_isZeroRow_200_B2 t x) n v1 = some y → ∀ (H : Heap) (locs : List Loc) (ls : Array Slot), wl D A s (wX cI cJ cZ cR am gm t) H locs → lv_has ls 2 [(0, .ref (am 200)), (1, .int v1)] → W p l e (rmN 0 0) s m args below meth c H locs 0 0 Q (F0 m 2 ls []) := by
  have hx := C0.1.1
  have hb := C0.1.2.1
  have hta := C0.1.2.2.2.2.2.1
  have hown := C0.1.2.2.2.2.1
  intro n
  induction n with
  | zero => intro _ h; cases h
  | succ n ih =>
    intro v1 hrun H locs ls hW hl
    obtain ⟨o, ho, hrun⟩ := bd_some hrun
    unfold x2_isZeroRow_200_B2 at ho
    refine lv_iload_n hx hb dX2_isZeroRow_2 rfl (lv_at hl 1 rfl) ?_
    refine lv_bipush (v := (6 : Int32)) hx hb dX2_isZeroRow_3 (by decide) ?_
    refine lv_icmp_ge (tgt := 22) hx hb dX2_isZeroRow_5 (by decide) (fun c1 => ?_) (fun c1 => ?_)
    · replace ho := ite_t c1 ho
      cases ho
      cases hrun
      exact hK1 _ rfl _ _ _ hW (lv_sub hl [] rfl)
    · replace ho := ite_f c1 ho
      refine lv_aload_n hx hb dX2_isZeroRow_8 rfl (lv_at hl 0 rfl) ?_
      refine lv_iload_n hx hb dX2_isZeroRow_9 rfl (lv_at hl 1 rfl) ?_
      obtain ⟨g2, ho⟩ := gd_some ho
      refine xLD_200 C0 hW g2 dX2_isZeroRow_10 ?_
      refine lv_if_eq (tgt := 16) hx hb dX2_isZeroRow_11 (by decide) (fun c3 => ?_) (fun c3 => ?_)
      · replace ho := ite_t c3 ho
        obtain ⟨x4, ex4, ho⟩ := nm_x ho
        refine lv_iinc (v := x4) (lv' := [(1, .int x4), (0, .ref (am 200))]) hx hb dX2_isZeroRow_16 hl (k := 1) rfl (by rw [ex4]; rfl) (by decide) rfl (fun ls hl => ?_)
        clear ex4
        refine lv_goto (tgt := 2) hx hb dX2_isZeroRow_19 (by decide) ?_
        cases ho
        exact ih _ hrun _ _ _ hW (lv_sub hl [1, 0] rfl)
      · replace ho := ite_f c3 ho
        cases ho
        cases hrun
        exact hK0 _ rfl _ _ _ hW (lv_sub hl [] rfl)
set_option maxHeartbeats 4000000 in
set_option maxRecDepth 100000 in
theorem c_x2_isZeroRow_200 (l : Launch) {D : va_G} {cI cJ cZ cR : ClassId} {am gm : Nat → Nat} {st : Nat} (sz : Nat) (t : St) {r : Int32} (ho : x2_isZeroRow_200 t = some r) : Met l yX2_isZeroRow (.code yX2_isZeroRow cX2_isZeroRow 2 (some .boolean) :: wsAll) (rmN 0 0) (va_Pc [.ref (am 200)] (prX D (tyX cI cJ cZ cR) (wX cI cJ cZ cR am gm t) sz st)) (qZ r D (tyX cI cJ cZ cR) (wX cI cJ cZ cR am gm t) (va_A (wX cI cJ cZ cR am gm t) sz)) 0 0 (va_A (wX cI cJ cZ cR am gm t) sz) := by
  refine Met.ofW (cc := cX2_isZeroRow) (maxL := 2) (ret := (some .boolean)) (by decide) rfl ?_
  intro p e s m args below meth c s₁ B hml hv
  obtain ⟨rfl, ⟨hsz, hP, hK, hD0⟩, hsx⟩ := hv
  have hx := B.exec
  have hb := B.bytes
  have hts := atoms_spec (ws := (.code yX2_isZeroRow cX2_isZeroRow 2 (some .boolean) :: wsAll)) B.pre
  have hta := fun w h => hts w (List.mem_cons_of_mem _ h)
  have hown : s.vm.findClass RX2 = some m.cls := findClass_of_methodNamed B.named
  have hlocks := B.notSynchronized
  subst hsz
  have hD := hD0.self (sz := s.heap.size)
  generalize hAe : va_A (wX cI cJ cZ cR am gm t) s.heap.size = A at hD ⊢
  have hA : ∀ q : Nat, s.heap.size ≤ q → A q := fun q h => by rw [← hAe]; exact Or.inr h
  have C0 : cxX p s m ([.ref (am 200)].toArray) meth c cX2_isZeroRow RX2 2 (some .boolean) D (tyX cI cJ cZ cR) st A := ⟨⟨hx, hb, B.returns, hml, hown, hta, hlocks, hK, hA⟩, by rw [← hAe]; exact hsx⟩
  have hW : wl D A s (wX cI cJ cZ cR am gm t) s.heap [] := ⟨hP, hD, va_S.rf⟩
  have hl := lv_entry [.ref (am 200)] (n := 2) (Nat.le_of_ble_eq_true rfl)
  rw [lg_entry_eq]
  generalize (lg_sl [.ref (am 200)] ++ List.replicate (2 - (lg_sl [.ref (am 200)]).length) Slot.unset).toArray = ls at hl ⊢
  have hl : lv_has ls 2 [(0, .ref (am 200))] := hl
  unfold x2_isZeroRow_200 at ho
  refine lv_iconst (v := (0 : Int32)) hx hb dX2_isZeroRow_0 (by decide) ?_
  refine lv_istore_n (lv' := [(1, .int (0 : Int32)), (0, .ref (am 200))]) hx hb dX2_isZeroRow_1 rfl hl (by decide) rfl (fun ls hl => ?_)
  obtain ⟨y5, hc6, ho⟩ := bd_some ho
  obtain ⟨ny5, hc6⟩ := lp_to hc6
  refine x2_isZeroRow_200_L2 C0 ?_ ?_ ny5 _ hc6 _ _ _ hW (lv_sub hl [1, 0] rfl)
  · intro u7 hy H locs ls hW hl
    subst hy
    replace ho := sum_l ho
    refine lv_iconst (v := (0 : Int32)) hx hb dX2_isZeroRow_14 (by decide) ?_
    cases ho
    exact rtZ C0.1 hW (Or.inl (rfl : (0 : Int32) = 0)) dX2_isZeroRow_15
  · intro u7 hy H locs ls hW hl
    subst hy
    replace ho := sum_r ho
    refine lv_iconst (v := (1 : Int32)) hx hb dX2_isZeroRow_22 (by decide) ?_
    cases ho
    exact rtZ C0.1 hW (Or.inr (rfl : (1 : Int32) = 1)) dX2_isZeroRow_23
noncomputable def x2_isZero (t : St) : Option (Int32) :=
  (x2_isZeroRow_200 t).bind (fun q1 => some q1)
set_option maxHeartbeats 4000000 in
set_option maxRecDepth 100000 in
theorem c_x2_isZero (l : Launch) {D : va_G} {cI cJ cZ cR : ClassId} {am gm : Nat → Nat} {st : Nat} (sz : Nat) (t : St) {r : Int32} (ho : x2_isZero t = some r) : Met l yX2_isZero (.code yX2_isZero cX2_isZero 1 (some .boolean) :: wsAll) (rmN 1 21) (va_Pc [.ref (am 1002)] (prX D (tyX cI cJ cZ cR) (wX cI cJ cZ cR am gm t) sz st)) (qZ r D (tyX cI cJ cZ cR) (wX cI cJ cZ cR am gm t) (va_A (wX cI cJ cZ cR am gm t) sz)) 0 0 (va_A (wX cI cJ cZ cR am gm t) sz) := by
  refine Met.ofW (cc := cX2_isZero) (maxL := 1) (ret := (some .boolean)) (by decide) rfl ?_
  intro p e s m args below meth c s₁ B hml hv
  obtain ⟨rfl, ⟨hsz, hP, hK, hD0⟩, hsx⟩ := hv
  have hx := B.exec
  have hb := B.bytes
  have hts := atoms_spec (ws := (.code yX2_isZero cX2_isZero 1 (some .boolean) :: wsAll)) B.pre
  have hta := fun w h => hts w (List.mem_cons_of_mem _ h)
  have hown : s.vm.findClass RX2 = some m.cls := findClass_of_methodNamed B.named
  have hlocks := B.notSynchronized
  subst hsz
  have hD := hD0.self (sz := s.heap.size)
  generalize hAe : va_A (wX cI cJ cZ cR am gm t) s.heap.size = A at hD ⊢
  have hA : ∀ q : Nat, s.heap.size ≤ q → A q := fun q h => by rw [← hAe]; exact Or.inr h
  have C0 : cxX p s m ([.ref (am 1002)].toArray) meth c cX2_isZero RX2 1 (some .boolean) D (tyX cI cJ cZ cR) st A := ⟨⟨hx, hb, B.returns, hml, hown, hta, hlocks, hK, hA⟩, by rw [← hAe]; exact hsx⟩
  have hW : wl D A s (wX cI cJ cZ cR am gm t) s.heap [] := ⟨hP, hD, va_S.rf⟩
  have hl := lv_entry [.ref (am 1002)] (n := 1) (Nat.le_of_ble_eq_true rfl)
  rw [lg_entry_eq]
  generalize (lg_sl [.ref (am 1002)] ++ List.replicate (1 - (lg_sl [.ref (am 1002)]).length) Slot.unset).toArray = ls at hl ⊢
  have hl : lv_has ls 1 [(0, .ref (am 1002))] := hl
  unfold x2_isZero at ho
  refine lv_aload_n hx hb dX2_isZero_0 rfl (lv_at hl 0 rfl) ?_
  refine xGET_200 C0 kw_369 hW dX2_isZero_1 ?_
  obtain ⟨q1, hc2, ho⟩ := bd_some ho
  refine bkZ C0.1 hW (runSX (As := [.ref (am 200)]) (rest := []) C0 hW (c_x2_isZeroRow_200 l _ t (r := q1) hc2) cb_X2_X2_isZeroRow_18 rfl rfl ⟨rfl, rfl⟩ ⟨Nat.le_of_ble_eq_true rfl, Nat.le_of_ble_eq_true rfl⟩ (Nat.le_of_ble_eq_true rfl) hl.1 dX2_isZero_4 ⟨Nat.le_of_ble_eq_true rfl, Nat.le_of_ble_eq_true rfl⟩) (fun z3 H locs hW => ?_)
  cases ho
  exact rtZ C0.1 hW z3 dX2_isZero_7
noncomputable def j7_fill_53178_201_B5 (v1 : Int32) (v3 : Int32) (v2 : Int32) (t : St) : Option ((Int32 × St) ⊕ (St)) :=
  if v3 ≤ v2 then (some (.inr t)) else (gd v2 (gN t 201) (nm (sA t 201 v2 v1) (fun t3 : St => nm (v2 + (1 : Int32)) (fun x4 : Int32 => some (.inl (x4, t3))))))
noncomputable def j7_fill_53178_201 (t : St) (a1 : Int32) : Option (St) :=
  nm (Int32.ofNat (gN t 201)) (fun x5 : Int32 => (lp (fun x => j7_fill_53178_201_B5 a1 x5 x.1 x.2) ((0 : Int32), t)).bind (fun y6 => some y6))
set_option maxHeartbeats 4000000 in
set_option maxRecDepth 100000 in
theorem j7_fill_53178_201_L5 {p : Program} {l : Launch} {e : Env} {s : State} {m : MethodId} {args : Array Value} {below : List Frame} {meth : Method} {c : Code} {Q : State → Prop} {D : va_G} {cI cJ cZ cR : ClassId} {am gm : Nat → Nat} {st : Nat} {A : Nat → Prop} (C0 : cxX p s m args meth c cJ7_fill_53178 RJ7 4 none D (tyX cI cJ cZ cR) st A) {v1 : Int32} {v3 : Int32} {y : St} (hK0 : ∀ (H : Heap) (locs : List Loc) (ls : Array Slot), wl D A s (wX cI cJ cZ cR am gm y) H locs → lv_has ls 4 [] → W p l e (rmN 0 0) s m args below meth c H locs 0 0 Q (F0 m 20 ls [])) :
    ∀ (n : Nat) (v2 : Int32) (t : St), lpn (fun x => j7_fill_53178_201_B5 v1 v3 x.1 x.2) n (v2, t) = some y → ∀ (H : Heap) (locs : List Loc) (ls : Array Slot), wl D A s (wX cI cJ cZ cR am gm t) H locs → lv_has ls 4 [(0, .ref (am 201)), (1, .int v1), (2, .int v2), (3, .int v3)] → W p l e (rmN 0 0) s m args below meth c H locs 0 0 Q (F0 m 5 ls []) := by
  have hx := C0.1.1
  have hb := C0.1.2.1
  have hta := C0.1.2.2.2.2.2.1
  have hown := C0.1.2.2.2.2.1
  intro n
  induction n with
  | zero => intro _ _ h; cases h
  | succ n ih =>
    intro v2 t hrun H locs ls hW hl
    obtain ⟨o, ho, hrun⟩ := bd_some hrun
    unfold j7_fill_53178_201_B5 at ho
    refine lv_iload_n hx hb dJ7_fill_53178_5 rfl (lv_at hl 2 rfl) ?_
    refine lv_iload_n hx hb dJ7_fill_53178_6 rfl (lv_at hl 3 rfl) ?_
    refine lv_icmp_ge (tgt := 20) hx hb dJ7_fill_53178_7 (by decide) (fun c1 => ?_) (fun c1 => ?_)
    · replace ho := ite_t c1 ho
      cases ho
      cases hrun
      exact hK0 _ _ _ hW (lv_sub hl [] rfl)
    · replace ho := ite_f c1 ho
      refine lv_aload_n hx hb dJ7_fill_53178_10 rfl (lv_at hl 0 rfl) ?_
      refine lv_iload_n hx hb dJ7_fill_53178_11 rfl (lv_at hl 2 rfl) ?_
      refine lv_iload_n hx hb dJ7_fill_53178_12 rfl (lv_at hl 1 rfl) ?_
      obtain ⟨g2, ho⟩ := gd_some ho
      refine xST_201 C0 hW g2 dJ7_fill_53178_13 (fun H locs hW => ?_)
      obtain ⟨t3, ho, hW⟩ := nm_w (P := fun t => wl D A s (wX cI cJ cZ cR am gm t) H locs) ho hW
      obtain ⟨x4, ex4, ho⟩ := nm_x ho
      refine lv_iinc (v := x4) (lv' := [(2, .int x4), (0, .ref (am 201)), (1, .int v1), (3, .int v3)]) hx hb dJ7_fill_53178_14 hl (k := 2) rfl (by rw [ex4]; rfl) (by decide) rfl (fun ls hl => ?_)
      clear ex4
      refine lv_goto (tgt := 5) hx hb dJ7_fill_53178_17 (by decide) ?_
      cases ho
      exact ih _ _ hrun _ _ _ hW (lv_sub hl [1, 2, 0, 3] rfl)
set_option maxHeartbeats 4000000 in
set_option maxRecDepth 100000 in
theorem c_j7_fill_53178_201 (l : Launch) {D : va_G} {cI cJ cZ cR : ClassId} {am gm : Nat → Nat} {st : Nat} (sz : Nat) (t : St) (a1 : Int32) {t' : St} (ho : j7_fill_53178_201 t a1 = some t') : Met l yJ7_fill_53178 (.code yJ7_fill_53178 cJ7_fill_53178 4 none :: wsAll) (rmN 0 0) (va_Pc [.ref (am 201), .int a1] (prX D (tyX cI cJ cZ cR) (wX cI cJ cZ cR am gm t) sz st)) (qV D (tyX cI cJ cZ cR) (wX cI cJ cZ cR am gm t') (va_A (wX cI cJ cZ cR am gm t) sz)) 0 0 (va_A (wX cI cJ cZ cR am gm t) sz) := by
  refine Met.ofW (cc := cJ7_fill_53178) (maxL := 4) (ret := none) (by decide) rfl ?_
  intro p e s m args below meth c s₁ B hml hv
  obtain ⟨rfl, ⟨hsz, hP, hK, hD0⟩, hsx⟩ := hv
  have hx := B.exec
  have hb := B.bytes
  have hts := atoms_spec (ws := (.code yJ7_fill_53178 cJ7_fill_53178 4 none :: wsAll)) B.pre
  have hta := fun w h => hts w (List.mem_cons_of_mem _ h)
  have hown : s.vm.findClass RJ7 = some m.cls := findClass_of_methodNamed B.named
  have hlocks := B.notSynchronized
  subst hsz
  have hD := hD0.self (sz := s.heap.size)
  generalize hAe : va_A (wX cI cJ cZ cR am gm t) s.heap.size = A at hD ⊢
  have hA : ∀ q : Nat, s.heap.size ≤ q → A q := fun q h => by rw [← hAe]; exact Or.inr h
  have C0 : cxX p s m ([.ref (am 201), .int a1].toArray) meth c cJ7_fill_53178 RJ7 4 none D (tyX cI cJ cZ cR) st A := ⟨⟨hx, hb, B.returns, hml, hown, hta, hlocks, hK, hA⟩, by rw [← hAe]; exact hsx⟩
  have hW : wl D A s (wX cI cJ cZ cR am gm t) s.heap [] := ⟨hP, hD, va_S.rf⟩
  have hl := lv_entry [.ref (am 201), .int a1] (n := 4) (Nat.le_of_ble_eq_true rfl)
  rw [lg_entry_eq]
  generalize (lg_sl [.ref (am 201), .int a1] ++ List.replicate (4 - (lg_sl [.ref (am 201), .int a1]).length) Slot.unset).toArray = ls at hl ⊢
  have hl : lv_has ls 4 [(0, .ref (am 201)), (1, .int a1)] := hl
  unfold j7_fill_53178_201 at ho
  refine lv_iconst (v := (0 : Int32)) hx hb dJ7_fill_53178_0 (by decide) ?_
  refine lv_istore_n (lv' := [(2, .int (0 : Int32)), (0, .ref (am 201)), (1, .int a1)]) hx hb dJ7_fill_53178_1 rfl hl (by decide) rfl (fun ls hl => ?_)
  refine lv_aload_n hx hb dJ7_fill_53178_2 rfl (lv_at hl 1 rfl) ?_
  refine xLEN_201 C0 hW dJ7_fill_53178_3 ?_
  refine lv_nmi ho (fun x5 ho => ?_)
  refine lv_istore_n (lv' := [(3, .int x5), (2, .int (0 : Int32)), (0, .ref (am 201)), (1, .int a1)]) hx hb dJ7_fill_53178_4 rfl hl (by decide) rfl (fun ls hl => ?_)
  obtain ⟨y6, hc7, ho⟩ := bd_some ho
  obtain ⟨ny6, hc7⟩ := lp_to hc7
  refine j7_fill_53178_201_L5 C0 ?_ ny6 _ _ hc7 _ _ _ hW (lv_sub hl [2, 3, 1, 0] rfl)
  intro H locs ls hW hl
  cases ho
  exact rtV C0.1 hW dJ7_fill_53178_20
noncomputable def x2_multiply_201_B6 (v1 : Int32) (v2 : Int32) (v3 : Int32) (v4 : Int64) (v6 : Int32) (t : St) : Option ((Int64 × Int32 × St) ⊕ (St)) :=
  if v2 ≤ v6 then (some (.inr t)) else (gd (v1 + v6) (gN t 201) (nm (v4 + (((gA t 201 ((v1 + v6)).toNatClampNeg)).toInt64 * (v3).toInt64)) (fun x3 : Int64 => gd (v1 + v6) (gN t 201) (nm (sA t 201 (v1 + v6) ((x3 &&& (1073741823 : Int64))).toInt32) (fun t5 : St => nm ((x3 >>> (((30 : Int32)).toInt64 &&& 63))) (fun x6 : Int64 => nm (v6 + (1 : Int32)) (fun x7 : Int32 => some (.inl (x6, x7, t5)))))))))
noncomputable def x2_multiply_201 (t : St) (a1 : Int32) (a2 : Int32) (a3 : Int32) : Option (St) :=
  (lp (fun x => x2_multiply_201_B6 a1 a2 a3 x.1 x.2.1 x.2.2) ((0 : Int64), (0 : Int32), t)).bind (fun y8 => some y8)
set_option maxHeartbeats 4000000 in
set_option maxRecDepth 100000 in
theorem x2_multiply_201_L6 {p : Program} {l : Launch} {e : Env} {s : State} {m : MethodId} {args : Array Value} {below : List Frame} {meth : Method} {c : Code} {Q : State → Prop} {D : va_G} {cI cJ cZ cR : ClassId} {am gm : Nat → Nat} {st : Nat} {A : Nat → Prop} (C0 : cxX p s m args meth c cX2_multiply RX2 7 none D (tyX cI cJ cZ cR) st A) {v1 : Int32} {v2 : Int32} {v3 : Int32} {y : St} (hK0 : ∀ (H : Heap) (locs : List Loc) (ls : Array Slot), wl D A s (wX cI cJ cZ cR am gm y) H locs → lv_has ls 7 [] → W p l e (rmN 0 0) s m args below meth c H locs 0 0 Q (F0 m 53 ls [])) :
    ∀ (n : Nat) (v4 : Int64) (v6 : Int32) (t : St), lpn (fun x => x2_multiply_201_B6 v1 v2 v3 x.1 x.2.1 x.2.2) n (v4, v6, t) = some y → ∀ (H : Heap) (locs : List Loc) (ls : Array Slot), wl D A s (wX cI cJ cZ cR am gm t) H locs → lv_has ls 7 [(0, .ref (am 201)), (1, .int v1), (2, .int v2), (3, .int v3), (4, .long v4), (6, .int v6)] → W p l e (rmN 0 0) s m args below meth c H locs 0 0 Q (F0 m 6 ls []) := by
  have hx := C0.1.1
  have hb := C0.1.2.1
  have hta := C0.1.2.2.2.2.2.1
  have hown := C0.1.2.2.2.2.1
  intro n
  induction n with
  | zero => intro _ _ _ h; cases h
  | succ n ih =>
    intro v4 v6 t hrun H locs ls hW hl
    obtain ⟨o, ho, hrun⟩ := bd_some hrun
    unfold x2_multiply_201_B6 at ho
    refine lv_iload hx hb dX2_multiply_6 (lv_at hl 5 rfl) ?_
    refine lv_iload_n hx hb dX2_multiply_8 rfl (lv_at hl 2 rfl) ?_
    refine lv_icmp_ge (tgt := 53) hx hb dX2_multiply_9 (by decide) (fun c1 => ?_) (fun c1 => ?_)
    · replace ho := ite_t c1 ho
      cases ho
      cases hrun
      exact hK0 _ _ _ hW (lv_sub hl [] rfl)
    · replace ho := ite_f c1 ho
      refine lv_lload hx hb dX2_multiply_12 (lv_at hl 4 rfl) ?_
      refine lv_aload_n hx hb dX2_multiply_14 rfl (lv_at hl 0 rfl) ?_
      refine lv_iload_n hx hb dX2_multiply_15 rfl (lv_at hl 1 rfl) ?_
      refine lv_iload hx hb dX2_multiply_16 (lv_at hl 5 rfl) ?_
      refine lv_iadd hx hb dX2_multiply_18 ?_
      obtain ⟨g2, ho⟩ := gd_some ho
      refine xLD_201 C0 hW g2 dX2_multiply_19 ?_
      refine lv_i2l hx hb dX2_multiply_20 rfl ?_
      refine lv_iload_n hx hb dX2_multiply_21 rfl (lv_at hl 3 rfl) ?_
      refine lv_i2l hx hb dX2_multiply_22 rfl ?_
      refine lv_lmul hx hb dX2_multiply_23 ?_
      refine lv_ladd hx hb dX2_multiply_24 ?_
      refine lv_nml ho (fun x3 ho => ?_)
      refine lv_lstore (lv' := [(4, .long x3), (0, .ref (am 201)), (1, .int v1), (2, .int v2), (3, .int v3), (6, .int v6)]) hx hb dX2_multiply_25 hl (by decide) rfl (fun ls hl => ?_)
      refine lv_aload_n hx hb dX2_multiply_27 rfl (lv_at hl 1 rfl) ?_
      refine lv_iload_n hx hb dX2_multiply_28 rfl (lv_at hl 2 rfl) ?_
      refine lv_iload hx hb dX2_multiply_29 (lv_at hl 5 rfl) ?_
      refine lv_iadd hx hb dX2_multiply_31 ?_
      refine lv_lload hx hb dX2_multiply_32 (lv_at hl 0 rfl) ?_
      refine lv_ldc2 hx hb hown (hta _ kw_996) dX2_multiply_34 ?_
      refine lv_land hx hb dX2_multiply_37 ?_
      refine lv_l2i hx hb dX2_multiply_38 rfl ?_
      obtain ⟨g4, ho⟩ := gd_some ho
      refine xST_201 C0 hW g4 dX2_multiply_39 (fun H locs hW => ?_)
      obtain ⟨t5, ho, hW⟩ := nm_w (P := fun t => wl D A s (wX cI cJ cZ cR am gm t) H locs) ho hW
      refine lv_lload hx hb dX2_multiply_40 (lv_at hl 0 rfl) ?_
      refine lv_bipush (v := (30 : Int32)) hx hb dX2_multiply_42 (by decide) ?_
      refine lv_lshr hx hb dX2_multiply_44 rfl ?_
      refine lv_nml ho (fun x6 ho => ?_)
      refine lv_lstore (lv' := [(4, .long x6), (0, .ref (am 201)), (1, .int v1), (2, .int v2), (3, .int v3), (6, .int v6)]) hx hb dX2_multiply_45 hl (by decide) rfl (fun ls hl => ?_)
      obtain ⟨x7, ex7, ho⟩ := nm_x ho
      refine lv_iinc (v := x7) (lv' := [(6, .int x7), (4, .long x6), (0, .ref (am 201)), (1, .int v1), (2, .int v2), (3, .int v3)]) hx hb dX2_multiply_47 hl (k := 5) rfl (by rw [ex7]; rfl) (by decide) rfl (fun ls hl => ?_)
      clear ex7
      refine lv_goto (tgt := 6) hx hb dX2_multiply_50 (by decide) ?_
      cases ho
      exact ih _ _ _ hrun _ _ _ hW (lv_sub hl [2, 3, 4, 5, 1, 0] rfl)
set_option maxHeartbeats 4000000 in
set_option maxRecDepth 100000 in
theorem c_x2_multiply_201 (l : Launch) {D : va_G} {cI cJ cZ cR : ClassId} {am gm : Nat → Nat} {st : Nat} (sz : Nat) (t : St) (a1 : Int32) (a2 : Int32) (a3 : Int32) {t' : St} (ho : x2_multiply_201 t a1 a2 a3 = some t') : Met l yX2_multiply (.code yX2_multiply cX2_multiply 7 none :: wsAll) (rmN 0 0) (va_Pc [.ref (am 201), .int a1, .int a2, .int a3] (prX D (tyX cI cJ cZ cR) (wX cI cJ cZ cR am gm t) sz st)) (qV D (tyX cI cJ cZ cR) (wX cI cJ cZ cR am gm t') (va_A (wX cI cJ cZ cR am gm t) sz)) 0 0 (va_A (wX cI cJ cZ cR am gm t) sz) := by
  refine Met.ofW (cc := cX2_multiply) (maxL := 7) (ret := none) (by decide) rfl ?_
  intro p e s m args below meth c s₁ B hml hv
  obtain ⟨rfl, ⟨hsz, hP, hK, hD0⟩, hsx⟩ := hv
  have hx := B.exec
  have hb := B.bytes
  have hts := atoms_spec (ws := (.code yX2_multiply cX2_multiply 7 none :: wsAll)) B.pre
  have hta := fun w h => hts w (List.mem_cons_of_mem _ h)
  have hown : s.vm.findClass RX2 = some m.cls := findClass_of_methodNamed B.named
  have hlocks := B.notSynchronized
  subst hsz
  have hD := hD0.self (sz := s.heap.size)
  generalize hAe : va_A (wX cI cJ cZ cR am gm t) s.heap.size = A at hD ⊢
  have hA : ∀ q : Nat, s.heap.size ≤ q → A q := fun q h => by rw [← hAe]; exact Or.inr h
  have C0 : cxX p s m ([.ref (am 201), .int a1, .int a2, .int a3].toArray) meth c cX2_multiply RX2 7 none D (tyX cI cJ cZ cR) st A := ⟨⟨hx, hb, B.returns, hml, hown, hta, hlocks, hK, hA⟩, by rw [← hAe]; exact hsx⟩
  have hW : wl D A s (wX cI cJ cZ cR am gm t) s.heap [] := ⟨hP, hD, va_S.rf⟩
  have hl := lv_entry [.ref (am 201), .int a1, .int a2, .int a3] (n := 7) (Nat.le_of_ble_eq_true rfl)
  rw [lg_entry_eq]
  generalize (lg_sl [.ref (am 201), .int a1, .int a2, .int a3] ++ List.replicate (7 - (lg_sl [.ref (am 201), .int a1, .int a2, .int a3]).length) Slot.unset).toArray = ls at hl ⊢
  have hl : lv_has ls 7 [(0, .ref (am 201)), (1, .int a1), (2, .int a2), (3, .int a3)] := hl
  unfold x2_multiply_201 at ho
  refine lv_lconst (v := (0 : Int64)) hx hb dX2_multiply_0 (by decide) ?_
  refine lv_lstore (lv' := [(4, .long (0 : Int64)), (0, .ref (am 201)), (1, .int a1), (2, .int a2), (3, .int a3)]) hx hb dX2_multiply_1 hl (by decide) rfl (fun ls hl => ?_)
  refine lv_iconst (v := (0 : Int32)) hx hb dX2_multiply_3 (by decide) ?_
  refine lv_istore (lv' := [(6, .int (0 : Int32)), (4, .long (0 : Int64)), (0, .ref (am 201)), (1, .int a1), (2, .int a2), (3, .int a3)]) hx hb dX2_multiply_4 hl (by decide) rfl (fun ls hl => ?_)
  obtain ⟨y8, hc9, ho⟩ := bd_some ho
  obtain ⟨ny8, hc9⟩ := lp_to hc9
  refine x2_multiply_201_L6 C0 ?_ ny8 _ _ _ hc9 _ _ _ hW (lv_sub hl [2, 3, 4, 5, 1, 0] rfl)
  intro H locs ls hW hl
  cases ho
  exact rtV C0.1 hW dX2_multiply_53
noncomputable def x2_remainder_200_B5 (t : St) (v1 : Int32) (v2 : Int64) (v4 : Int32) : Option ((Int64 × Int32) ⊕ (Int64)) :=
  if v4 < 0 then (some (.inr v2)) else (gd v4 (gN t 200) (dvl (v1).toInt64 (nm ((((v2 <<< (((30 : Int32)).toInt64 &&& 63))) + ((gA t 200 (v4).toNatClampNeg)).toInt64) - (((v2 <<< (((30 : Int32)).toInt64 &&& 63))) + ((gA t 200 (v4).toNatClampNeg)).toInt64) / (v1).toInt64 * (v1).toInt64) (fun x4 : Int64 => nm (v4 + (-1 : Int32)) (fun x5 : Int32 => some (.inl (x4, x5)))))))
noncomputable def x2_remainder_200 (t : St) (a1 : Int32) : Option (Int32) :=
  (lp (fun x => x2_remainder_200_B5 t a1 x.1 x.2) ((0 : Int64), (5 : Int32))).bind (fun y6 => some (y6).toInt32)
set_option maxHeartbeats 4000000 in
set_option maxRecDepth 100000 in
theorem x2_remainder_200_L5 {p : Program} {l : Launch} {e : Env} {s : State} {m : MethodId} {args : Array Value} {below : List Frame} {meth : Method} {c : Code} {Q : State → Prop} {D : va_G} {cI cJ cZ cR : ClassId} {am gm : Nat → Nat} {st : Nat} {A : Nat → Prop} (C0 : cxX p s m args meth c cX2_remainder RX2 5 (some .int) D (tyX cI cJ cZ cR) st A) {t : St} {v1 : Int32} {y : Int64} (hK0 : ∀ (H : Heap) (locs : List Loc) (ls : Array Slot), wl D A s (wX cI cJ cZ cR am gm t) H locs → lv_has ls 5 [(2, .long y)] → W p l e (rmN 0 0) s m args below meth c H locs 0 0 Q (F0 m 30 ls [])) :
    ∀ (n : Nat) (v2 : Int64) (v4 : Int32), lpn (fun x => x2_remainder_200_B5 t v1 x.1 x.2) n (v2, v4) = some y → ∀ (H : Heap) (locs : List Loc) (ls : Array Slot), wl D A s (wX cI cJ cZ cR am gm t) H locs → lv_has ls 5 [(0, .ref (am 200)), (1, .int v1), (2, .long v2), (4, .int v4)] → W p l e (rmN 0 0) s m args below meth c H locs 0 0 Q (F0 m 5 ls []) := by
  have hx := C0.1.1
  have hb := C0.1.2.1
  have hta := C0.1.2.2.2.2.2.1
  have hown := C0.1.2.2.2.2.1
  intro n
  induction n with
  | zero => intro _ _ h; cases h
  | succ n ih =>
    intro v2 v4 hrun H locs ls hW hl
    obtain ⟨o, ho, hrun⟩ := bd_some hrun
    unfold x2_remainder_200_B5 at ho
    refine lv_iload hx hb dX2_remainder_5 (lv_at hl 3 rfl) ?_
    refine lv_if_lt (tgt := 30) hx hb dX2_remainder_7 (by decide) (fun c1 => ?_) (fun c1 => ?_)
    · replace ho := ite_t c1 ho
      cases ho
      cases hrun
      exact hK0 _ _ _ hW (lv_sub hl [2] rfl)
    · replace ho := ite_f c1 ho
      refine lv_lload_n hx hb dX2_remainder_10 rfl (lv_at hl 2 rfl) ?_
      refine lv_bipush (v := (30 : Int32)) hx hb dX2_remainder_11 (by decide) ?_
      refine lv_lshl hx hb dX2_remainder_13 rfl ?_
      refine lv_aload_n hx hb dX2_remainder_14 rfl (lv_at hl 0 rfl) ?_
      refine lv_iload hx hb dX2_remainder_15 (lv_at hl 3 rfl) ?_
      obtain ⟨g2, ho⟩ := gd_some ho
      refine xLD_200 C0 hW g2 dX2_remainder_17 ?_
      refine lv_i2l hx hb dX2_remainder_18 rfl ?_
      refine lv_ladd hx hb dX2_remainder_19 ?_
      refine lv_iload_n hx hb dX2_remainder_20 rfl (lv_at hl 1 rfl) ?_
      refine lv_i2l hx hb dX2_remainder_21 rfl ?_
      obtain ⟨g3, ho⟩ := dvl_some ho
      refine lv_lrem hx hb dX2_remainder_22 g3 ?_
      refine lv_nml ho (fun x4 ho => ?_)
      refine lv_lstore_n (lv' := [(2, .long x4), (0, .ref (am 200)), (1, .int v1), (4, .int v4)]) hx hb dX2_remainder_23 rfl hl (by decide) rfl (fun ls hl => ?_)
      obtain ⟨x5, ex5, ho⟩ := nm_x ho
      refine lv_iinc (v := x5) (lv' := [(4, .int x5), (2, .long x4), (0, .ref (am 200)), (1, .int v1)]) hx hb dX2_remainder_24 hl (k := 3) rfl (by rw [ex5]; rfl) (by decide) rfl (fun ls hl => ?_)
      clear ex5
      refine lv_goto (tgt := 5) hx hb dX2_remainder_27 (by decide) ?_
      cases ho
      exact ih _ _ hrun _ _ _ hW (lv_sub hl [2, 3, 1, 0] rfl)
set_option maxHeartbeats 4000000 in
set_option maxRecDepth 100000 in
theorem c_x2_remainder_200 (l : Launch) {D : va_G} {cI cJ cZ cR : ClassId} {am gm : Nat → Nat} {st : Nat} (sz : Nat) (t : St) (a1 : Int32) {r : Int32} (ho : x2_remainder_200 t a1 = some r) : Met l yX2_remainder (.code yX2_remainder cX2_remainder 5 (some .int) :: wsAll) (rmN 0 0) (va_Pc [.ref (am 200), .int a1] (prX D (tyX cI cJ cZ cR) (wX cI cJ cZ cR am gm t) sz st)) (qI r D (tyX cI cJ cZ cR) (wX cI cJ cZ cR am gm t) (va_A (wX cI cJ cZ cR am gm t) sz)) 0 0 (va_A (wX cI cJ cZ cR am gm t) sz) := by
  refine Met.ofW (cc := cX2_remainder) (maxL := 5) (ret := (some .int)) (by decide) rfl ?_
  intro p e s m args below meth c s₁ B hml hv
  obtain ⟨rfl, ⟨hsz, hP, hK, hD0⟩, hsx⟩ := hv
  have hx := B.exec
  have hb := B.bytes
  have hts := atoms_spec (ws := (.code yX2_remainder cX2_remainder 5 (some .int) :: wsAll)) B.pre
  have hta := fun w h => hts w (List.mem_cons_of_mem _ h)
  have hown : s.vm.findClass RX2 = some m.cls := findClass_of_methodNamed B.named
  have hlocks := B.notSynchronized
  subst hsz
  have hD := hD0.self (sz := s.heap.size)
  generalize hAe : va_A (wX cI cJ cZ cR am gm t) s.heap.size = A at hD ⊢
  have hA : ∀ q : Nat, s.heap.size ≤ q → A q := fun q h => by rw [← hAe]; exact Or.inr h
  have C0 : cxX p s m ([.ref (am 200), .int a1].toArray) meth c cX2_remainder RX2 5 (some .int) D (tyX cI cJ cZ cR) st A := ⟨⟨hx, hb, B.returns, hml, hown, hta, hlocks, hK, hA⟩, by rw [← hAe]; exact hsx⟩
  have hW : wl D A s (wX cI cJ cZ cR am gm t) s.heap [] := ⟨hP, hD, va_S.rf⟩
  have hl := lv_entry [.ref (am 200), .int a1] (n := 5) (Nat.le_of_ble_eq_true rfl)
  rw [lg_entry_eq]
  generalize (lg_sl [.ref (am 200), .int a1] ++ List.replicate (5 - (lg_sl [.ref (am 200), .int a1]).length) Slot.unset).toArray = ls at hl ⊢
  have hl : lv_has ls 5 [(0, .ref (am 200)), (1, .int a1)] := hl
  unfold x2_remainder_200 at ho
  refine lv_lconst (v := (0 : Int64)) hx hb dX2_remainder_0 (by decide) ?_
  refine lv_lstore_n (lv' := [(2, .long (0 : Int64)), (0, .ref (am 200)), (1, .int a1)]) hx hb dX2_remainder_1 rfl hl (by decide) rfl (fun ls hl => ?_)
  refine lv_iconst (v := (5 : Int32)) hx hb dX2_remainder_2 (by decide) ?_
  refine lv_istore (lv' := [(4, .int (5 : Int32)), (2, .long (0 : Int64)), (0, .ref (am 200)), (1, .int a1)]) hx hb dX2_remainder_3 hl (by decide) rfl (fun ls hl => ?_)
  obtain ⟨y6, hc7, ho⟩ := bd_some ho
  obtain ⟨ny6, hc7⟩ := lp_to hc7
  refine x2_remainder_200_L5 C0 ?_ ny6 _ _ hc7 _ _ _ hW (lv_sub hl [2, 3, 1, 0] rfl)
  intro H locs ls hW hl
  refine lv_lload_n hx hb dX2_remainder_30 rfl (lv_at hl 0 rfl) ?_
  refine lv_l2i hx hb dX2_remainder_31 rfl ?_
  cases ho
  exact rtI C0.1 hW dX2_remainder_32
noncomputable def x2_divide_200_B5 (v1 : Int32) (v2 : Int64) (v4 : Int32) (t : St) : Option ((Int64 × Int32 × St) ⊕ (St)) :=
  if v4 < 0 then (some (.inr t)) else (gd v4 (gN t 200) (nm (((v2 <<< (((30 : Int32)).toInt64 &&& 63))) + ((gA t 200 (v4).toNatClampNeg)).toInt64) (fun x3 : Int64 => dvl (v1).toInt64 (gd v4 (gN t 200) (nm (sA t 200 v4 ((x3 / (v1).toInt64)).toInt32) (fun t6 : St => dvl (v1).toInt64 (nm (x3 - x3 / (v1).toInt64 * (v1).toInt64) (fun x8 : Int64 => nm (v4 + (-1 : Int32)) (fun x9 : Int32 => some (.inl (x8, x9, t6)))))))))))
noncomputable def x2_divide_200 (t : St) (a1 : Int32) : Option (St) :=
  (lp (fun x => x2_divide_200_B5 a1 x.1 x.2.1 x.2.2) ((0 : Int64), (5 : Int32), t)).bind (fun y10 => some y10)
set_option maxHeartbeats 4000000 in
set_option maxRecDepth 100000 in
theorem x2_divide_200_L5 {p : Program} {l : Launch} {e : Env} {s : State} {m : MethodId} {args : Array Value} {below : List Frame} {meth : Method} {c : Code} {Q : State → Prop} {D : va_G} {cI cJ cZ cR : ClassId} {am gm : Nat → Nat} {st : Nat} {A : Nat → Prop} (C0 : cxX p s m args meth c cX2_divide RX2 5 none D (tyX cI cJ cZ cR) st A) {v1 : Int32} {y : St} (hK0 : ∀ (H : Heap) (locs : List Loc) (ls : Array Slot), wl D A s (wX cI cJ cZ cR am gm y) H locs → lv_has ls 5 [] → W p l e (rmN 0 0) s m args below meth c H locs 0 0 Q (F0 m 41 ls [])) :
    ∀ (n : Nat) (v2 : Int64) (v4 : Int32) (t : St), lpn (fun x => x2_divide_200_B5 v1 x.1 x.2.1 x.2.2) n (v2, v4, t) = some y → ∀ (H : Heap) (locs : List Loc) (ls : Array Slot), wl D A s (wX cI cJ cZ cR am gm t) H locs → lv_has ls 5 [(0, .ref (am 200)), (1, .int v1), (2, .long v2), (4, .int v4)] → W p l e (rmN 0 0) s m args below meth c H locs 0 0 Q (F0 m 5 ls []) := by
  have hx := C0.1.1
  have hb := C0.1.2.1
  have hta := C0.1.2.2.2.2.2.1
  have hown := C0.1.2.2.2.2.1
  intro n
  induction n with
  | zero => intro _ _ _ h; cases h
  | succ n ih =>
    intro v2 v4 t hrun H locs ls hW hl
    obtain ⟨o, ho, hrun⟩ := bd_some hrun
    unfold x2_divide_200_B5 at ho
    refine lv_iload hx hb dX2_divide_5 (lv_at hl 3 rfl) ?_
    refine lv_if_lt (tgt := 41) hx hb dX2_divide_7 (by decide) (fun c1 => ?_) (fun c1 => ?_)
    · replace ho := ite_t c1 ho
      cases ho
      cases hrun
      exact hK0 _ _ _ hW (lv_sub hl [] rfl)
    · replace ho := ite_f c1 ho
      refine lv_lload_n hx hb dX2_divide_10 rfl (lv_at hl 2 rfl) ?_
      refine lv_bipush (v := (30 : Int32)) hx hb dX2_divide_11 (by decide) ?_
      refine lv_lshl hx hb dX2_divide_13 rfl ?_
      refine lv_aload_n hx hb dX2_divide_14 rfl (lv_at hl 0 rfl) ?_
      refine lv_iload hx hb dX2_divide_15 (lv_at hl 3 rfl) ?_
      obtain ⟨g2, ho⟩ := gd_some ho
      refine xLD_200 C0 hW g2 dX2_divide_17 ?_
      refine lv_i2l hx hb dX2_divide_18 rfl ?_
      refine lv_ladd hx hb dX2_divide_19 ?_
      refine lv_nml ho (fun x3 ho => ?_)
      refine lv_lstore_n (lv' := [(2, .long x3), (0, .ref (am 200)), (1, .int v1), (4, .int v4)]) hx hb dX2_divide_20 rfl hl (by decide) rfl (fun ls hl => ?_)
      refine lv_aload_n hx hb dX2_divide_21 rfl (lv_at hl 1 rfl) ?_
      refine lv_iload hx hb dX2_divide_22 (lv_at hl 3 rfl) ?_
      refine lv_lload_n hx hb dX2_divide_24 rfl (lv_at hl 0 rfl) ?_
      refine lv_iload_n hx hb dX2_divide_25 rfl (lv_at hl 2 rfl) ?_
      refine lv_i2l hx hb dX2_divide_26 rfl ?_
      obtain ⟨g4, ho⟩ := dvl_some ho
      refine lv_ldiv hx hb dX2_divide_27 g4 ?_
      refine lv_l2i hx hb dX2_divide_28 rfl ?_
      obtain ⟨g5, ho⟩ := gd_some ho
      refine xST_200 C0 hW g5 dX2_divide_29 (fun H locs hW => ?_)
      obtain ⟨t6, ho, hW⟩ := nm_w (P := fun t => wl D A s (wX cI cJ cZ cR am gm t) H locs) ho hW
      refine lv_lload_n hx hb dX2_divide_30 rfl (lv_at hl 0 rfl) ?_
      refine lv_iload_n hx hb dX2_divide_31 rfl (lv_at hl 2 rfl) ?_
      refine lv_i2l hx hb dX2_divide_32 rfl ?_
      obtain ⟨g7, ho⟩ := dvl_some ho
      refine lv_lrem hx hb dX2_divide_33 g7 ?_
      refine lv_nml ho (fun x8 ho => ?_)
      refine lv_lstore_n (lv' := [(2, .long x8), (0, .ref (am 200)), (1, .int v1), (4, .int v4)]) hx hb dX2_divide_34 rfl hl (by decide) rfl (fun ls hl => ?_)
      obtain ⟨x9, ex9, ho⟩ := nm_x ho
      refine lv_iinc (v := x9) (lv' := [(4, .int x9), (2, .long x8), (0, .ref (am 200)), (1, .int v1)]) hx hb dX2_divide_35 hl (k := 3) rfl (by rw [ex9]; rfl) (by decide) rfl (fun ls hl => ?_)
      clear ex9
      refine lv_goto (tgt := 5) hx hb dX2_divide_38 (by decide) ?_
      cases ho
      exact ih _ _ _ hrun _ _ _ hW (lv_sub hl [2, 3, 1, 0] rfl)
set_option maxHeartbeats 4000000 in
set_option maxRecDepth 100000 in
theorem c_x2_divide_200 (l : Launch) {D : va_G} {cI cJ cZ cR : ClassId} {am gm : Nat → Nat} {st : Nat} (sz : Nat) (t : St) (a1 : Int32) {t' : St} (ho : x2_divide_200 t a1 = some t') : Met l yX2_divide (.code yX2_divide cX2_divide 5 none :: wsAll) (rmN 0 0) (va_Pc [.ref (am 200), .int a1] (prX D (tyX cI cJ cZ cR) (wX cI cJ cZ cR am gm t) sz st)) (qV D (tyX cI cJ cZ cR) (wX cI cJ cZ cR am gm t') (va_A (wX cI cJ cZ cR am gm t) sz)) 0 0 (va_A (wX cI cJ cZ cR am gm t) sz) := by
  refine Met.ofW (cc := cX2_divide) (maxL := 5) (ret := none) (by decide) rfl ?_
  intro p e s m args below meth c s₁ B hml hv
  obtain ⟨rfl, ⟨hsz, hP, hK, hD0⟩, hsx⟩ := hv
  have hx := B.exec
  have hb := B.bytes
  have hts := atoms_spec (ws := (.code yX2_divide cX2_divide 5 none :: wsAll)) B.pre
  have hta := fun w h => hts w (List.mem_cons_of_mem _ h)
  have hown : s.vm.findClass RX2 = some m.cls := findClass_of_methodNamed B.named
  have hlocks := B.notSynchronized
  subst hsz
  have hD := hD0.self (sz := s.heap.size)
  generalize hAe : va_A (wX cI cJ cZ cR am gm t) s.heap.size = A at hD ⊢
  have hA : ∀ q : Nat, s.heap.size ≤ q → A q := fun q h => by rw [← hAe]; exact Or.inr h
  have C0 : cxX p s m ([.ref (am 200), .int a1].toArray) meth c cX2_divide RX2 5 none D (tyX cI cJ cZ cR) st A := ⟨⟨hx, hb, B.returns, hml, hown, hta, hlocks, hK, hA⟩, by rw [← hAe]; exact hsx⟩
  have hW : wl D A s (wX cI cJ cZ cR am gm t) s.heap [] := ⟨hP, hD, va_S.rf⟩
  have hl := lv_entry [.ref (am 200), .int a1] (n := 5) (Nat.le_of_ble_eq_true rfl)
  rw [lg_entry_eq]
  generalize (lg_sl [.ref (am 200), .int a1] ++ List.replicate (5 - (lg_sl [.ref (am 200), .int a1]).length) Slot.unset).toArray = ls at hl ⊢
  have hl : lv_has ls 5 [(0, .ref (am 200)), (1, .int a1)] := hl
  unfold x2_divide_200 at ho
  refine lv_lconst (v := (0 : Int64)) hx hb dX2_divide_0 (by decide) ?_
  refine lv_lstore_n (lv' := [(2, .long (0 : Int64)), (0, .ref (am 200)), (1, .int a1)]) hx hb dX2_divide_1 rfl hl (by decide) rfl (fun ls hl => ?_)
  refine lv_iconst (v := (5 : Int32)) hx hb dX2_divide_2 (by decide) ?_
  refine lv_istore (lv' := [(4, .int (5 : Int32)), (2, .long (0 : Int64)), (0, .ref (am 200)), (1, .int a1)]) hx hb dX2_divide_3 hl (by decide) rfl (fun ls hl => ?_)
  obtain ⟨y10, hc11, ho⟩ := bd_some ho
  obtain ⟨ny10, hc11⟩ := lp_to hc11
  refine x2_divide_200_L5 C0 ?_ ny10 _ _ _ hc11 _ _ _ hW (lv_sub hl [2, 3, 1, 0] rfl)
  intro H locs ls hW hl
  cases ho
  exact rtV C0.1 hW dX2_divide_41
noncomputable def x2_putThousandths_12_B123 (v5 : Int32) (v6 : Int32) (v7 : Int32) (t : St) : Option ((Int32 × St) ⊕ (St)) :=
  if v5 ≤ v7 then (some (.inr t)) else ((x2_multiply_201 t (0 : Int32) (6 : Int32) (2 : Int32)).bind (fun q2 => nm (v7 + (1 : Int32)) (fun x4 : Int32 => some (.inl (x4, q2)))))
noncomputable def x2_putThousandths_12_B150 (v6 : Int32) (v7 : Int32) (t : St) : Option ((Int32 × St) ⊕ (St)) :=
  if v6 ≤ v7 then (some (.inr t)) else ((x2_multiply_201 t (0 : Int32) (6 : Int32) (5 : Int32)).bind (fun q6 => nm (v7 + (1 : Int32)) (fun x8 : Int32 => some (.inl (x8, q6)))))
noncomputable def x2_putThousandths_12_B45 (v6 : Int32) (v5 : Int32) (t : St) : Option ((Int32 × St) ⊕ (Int32 × St)) :=
  if v5 ≤ 0 then (some (.inr (v5, t))) else ((x2_remainder_200 t (2 : Int32)).bind (fun q10 => if q10 = 0 then ((x2_divide_200 t (2 : Int32)).bind (fun q13 => nm (v5 + (-1 : Int32)) (fun x15 : Int32 => some (.inl (x15, q13))))) else (some (.inr (v5, t)))))
noncomputable def x2_putThousandths_12_B75 (v5 : Int32) (v6 : Int32) (t : St) : Option ((Int32 × St) ⊕ (Int32 × St)) :=
  if v6 ≤ 0 then (some (.inr (v6, t))) else ((x2_remainder_200 t (5 : Int32)).bind (fun q17 => if q17 = 0 then ((x2_divide_200 t (5 : Int32)).bind (fun q20 => nm (v6 + (-1 : Int32)) (fun x22 : Int32 => some (.inl (x22, q20))))) else (some (.inr (v6, t)))))
noncomputable def x2_putThousandths_12_J39 (t : St) (w0 : Int32) : Option (St) :=
  (lp (fun x => x2_putThousandths_12_B45 w0 x.1 x.2) (w0, t)).bind (fun y23 => (lp (fun x => x2_putThousandths_12_B75 y23.1 x.1 x.2) (w0, y23.2)).bind (fun y25 => (j7_fill_53178_201 y25.2 (0 : Int32)).bind (fun q27 => gd (0 : Int32) (gN q27 201) (nm (sA q27 201 (0 : Int32) (1 : Int32)) (fun t30 : St => (lp (fun x => x2_putThousandths_12_B123 y23.1 y25.1 x.1 x.2) ((0 : Int32), t30)).bind (fun y31 => (lp (fun x => x2_putThousandths_12_B150 y25.1 x.1 x.2) ((0 : Int32), y31)).bind (fun y33 => some y33)))))))
noncomputable def x2_putThousandths_12 (t : St) (a2 : Int32) (a3 : Int32) (a4 : Int32) : Option (St) :=
  (j7_fill_53178_200 t (0 : Int32)).bind (fun q35 => cpk a2 (0 : Int32) (if (6 : Int32) < a3 then (6 : Int32) else a3) (gN q35 12) (gN q35 200) (nm (sAr q35 200 (va_cpy (gA q35 12) (gA q35 200) (a2).toNatClampNeg ((0 : Int32)).toNatClampNeg ((if (6 : Int32) < a3 then (6 : Int32) else a3)).toNatClampNeg)) (fun t38 : St => (x2_isZero t38).bind (fun q39 => if q39 = 0 then (x2_putThousandths_12_J39 t38 ((3 : Int32) * a4)) else (x2_putThousandths_12_J39 t38 (0 : Int32))))))
set_option maxHeartbeats 4000000 in
set_option maxRecDepth 100000 in
theorem x2_putThousandths_12_L123 {p : Program} {l : Launch} {e : Env} {s : State} {m : MethodId} {args : Array Value} {below : List Frame} {meth : Method} {c : Code} {Q : State → Prop} {D : va_G} {cI cJ cZ cR : ClassId} {am gm : Nat → Nat} {st : Nat} {A : Nat → Prop} (C0 : cxX p s m args meth c cX2_putThousandths RX2 8 none D (tyX cI cJ cZ cR) st A) {v5 : Int32} {v6 : Int32} {y : St} (hK0 : ∀ (H : Heap) (locs : List Loc) (ls : Array Slot), wl D A s (wX cI cJ cZ cR am gm y) H locs → lv_has ls 8 [(0, .ref (am 1002)), (6, .int v6)] → W p l e (rmN 2 60) s m args below meth c H locs 0 0 Q (F0 m 147 ls [])) :
    ∀ (n : Nat) (v7 : Int32) (t : St), lpn (fun x => x2_putThousandths_12_B123 v5 v6 x.1 x.2) n (v7, t) = some y → ∀ (H : Heap) (locs : List Loc) (ls : Array Slot), wl D A s (wX cI cJ cZ cR am gm t) H locs → lv_has ls 8 [(0, .ref (am 1002)), (5, .int v5), (6, .int v6), (7, .int v7)] → W p l e (rmN 2 60) s m args below meth c H locs 0 0 Q (F0 m 123 ls []) := by
  have hx := C0.1.1
  have hb := C0.1.2.1
  have hta := C0.1.2.2.2.2.2.1
  have hown := C0.1.2.2.2.2.1
  intro n
  induction n with
  | zero => intro _ _ h; cases h
  | succ n ih =>
    intro v7 t hrun H locs ls hW hl
    obtain ⟨o, ho, hrun⟩ := bd_some hrun
    unfold x2_putThousandths_12_B123 at ho
    refine lv_iload hx hb dX2_putThousandths_123 (lv_at hl 3 rfl) ?_
    refine lv_iload hx hb dX2_putThousandths_125 (lv_at hl 1 rfl) ?_
    refine lv_icmp_ge (tgt := 147) hx hb dX2_putThousandths_127 (by decide) (fun c1 => ?_) (fun c1 => ?_)
    · replace ho := ite_t c1 ho
      cases ho
      cases hrun
      exact hK0 _ _ _ hW (lv_sub hl [0, 2] rfl)
    · replace ho := ite_f c1 ho
      refine lv_aload_n hx hb dX2_putThousandths_130 rfl (lv_at hl 0 rfl) ?_
      refine xGET_201 C0 kw_370 hW dX2_putThousandths_131 ?_
      refine lv_iconst (v := (0 : Int32)) hx hb dX2_putThousandths_134 (by decide) ?_
      refine lv_bipush (v := (6 : Int32)) hx hb dX2_putThousandths_135 (by decide) ?_
      refine lv_iconst (v := (2 : Int32)) hx hb dX2_putThousandths_137 (by decide) ?_
      obtain ⟨q2, hc3, ho⟩ := bd_some ho
      refine bkV C0.1 hW (runSX (As := [.ref (am 201), .int (0 : Int32), .int (6 : Int32), .int (2 : Int32)]) (rest := []) C0 hW (c_x2_multiply_201 l _ t (0 : Int32) (6 : Int32) (2 : Int32) (t' := q2) hc3) cb_X2_X2_multiply_51 rfl rfl ⟨rfl, rfl⟩ ⟨Nat.le_of_ble_eq_true rfl, Nat.le_of_ble_eq_true rfl⟩ (Nat.le_of_ble_eq_true rfl) hl.1 dX2_putThousandths_138 ⟨Nat.le_of_ble_eq_true rfl, Nat.le_of_ble_eq_true rfl⟩) (fun H locs hW => ?_)
      obtain ⟨x4, ex4, ho⟩ := nm_x ho
      refine lv_iinc (v := x4) (lv' := [(7, .int x4), (0, .ref (am 1002)), (5, .int v5), (6, .int v6)]) hx hb dX2_putThousandths_141 hl (k := 3) rfl (by rw [ex4]; rfl) (by decide) rfl (fun ls hl => ?_)
      clear ex4
      refine lv_goto (tgt := 123) hx hb dX2_putThousandths_144 (by decide) ?_
      cases ho
      exact ih _ _ hrun _ _ _ hW (lv_sub hl [1, 2, 3, 0] rfl)
set_option maxHeartbeats 4000000 in
set_option maxRecDepth 100000 in
theorem x2_putThousandths_12_L150 {p : Program} {l : Launch} {e : Env} {s : State} {m : MethodId} {args : Array Value} {below : List Frame} {meth : Method} {c : Code} {Q : State → Prop} {D : va_G} {cI cJ cZ cR : ClassId} {am gm : Nat → Nat} {st : Nat} {A : Nat → Prop} (C0 : cxX p s m args meth c cX2_putThousandths RX2 8 none D (tyX cI cJ cZ cR) st A) {v6 : Int32} {y : St} (hK0 : ∀ (H : Heap) (locs : List Loc) (ls : Array Slot), wl D A s (wX cI cJ cZ cR am gm y) H locs → lv_has ls 8 [(0, .ref (am 1002))] → W p l e (rmN 2 60) s m args below meth c H locs 0 0 Q (F0 m 174 ls [])) :
    ∀ (n : Nat) (v7 : Int32) (t : St), lpn (fun x => x2_putThousandths_12_B150 v6 x.1 x.2) n (v7, t) = some y → ∀ (H : Heap) (locs : List Loc) (ls : Array Slot), wl D A s (wX cI cJ cZ cR am gm t) H locs → lv_has ls 8 [(0, .ref (am 1002)), (6, .int v6), (7, .int v7)] → W p l e (rmN 2 60) s m args below meth c H locs 0 0 Q (F0 m 150 ls []) := by
  have hx := C0.1.1
  have hb := C0.1.2.1
  have hta := C0.1.2.2.2.2.2.1
  have hown := C0.1.2.2.2.2.1
  intro n
  induction n with
  | zero => intro _ _ h; cases h
  | succ n ih =>
    intro v7 t hrun H locs ls hW hl
    obtain ⟨o, ho, hrun⟩ := bd_some hrun
    unfold x2_putThousandths_12_B150 at ho
    refine lv_iload hx hb dX2_putThousandths_150 (lv_at hl 2 rfl) ?_
    refine lv_iload hx hb dX2_putThousandths_152 (lv_at hl 1 rfl) ?_
    refine lv_icmp_ge (tgt := 174) hx hb dX2_putThousandths_154 (by decide) (fun c5 => ?_) (fun c5 => ?_)
    · replace ho := ite_t c5 ho
      cases ho
      cases hrun
      exact hK0 _ _ _ hW (lv_sub hl [0] rfl)
    · replace ho := ite_f c5 ho
      refine lv_aload_n hx hb dX2_putThousandths_157 rfl (lv_at hl 0 rfl) ?_
      refine xGET_201 C0 kw_370 hW dX2_putThousandths_158 ?_
      refine lv_iconst (v := (0 : Int32)) hx hb dX2_putThousandths_161 (by decide) ?_
      refine lv_bipush (v := (6 : Int32)) hx hb dX2_putThousandths_162 (by decide) ?_
      refine lv_iconst (v := (5 : Int32)) hx hb dX2_putThousandths_164 (by decide) ?_
      obtain ⟨q6, hc7, ho⟩ := bd_some ho
      refine bkV C0.1 hW (runSX (As := [.ref (am 201), .int (0 : Int32), .int (6 : Int32), .int (5 : Int32)]) (rest := []) C0 hW (c_x2_multiply_201 l _ t (0 : Int32) (6 : Int32) (5 : Int32) (t' := q6) hc7) cb_X2_X2_multiply_51 rfl rfl ⟨rfl, rfl⟩ ⟨Nat.le_of_ble_eq_true rfl, Nat.le_of_ble_eq_true rfl⟩ (Nat.le_of_ble_eq_true rfl) hl.1 dX2_putThousandths_165 ⟨Nat.le_of_ble_eq_true rfl, Nat.le_of_ble_eq_true rfl⟩) (fun H locs hW => ?_)
      obtain ⟨x8, ex8, ho⟩ := nm_x ho
      refine lv_iinc (v := x8) (lv' := [(7, .int x8), (0, .ref (am 1002)), (6, .int v6)]) hx hb dX2_putThousandths_168 hl (k := 2) rfl (by rw [ex8]; rfl) (by decide) rfl (fun ls hl => ?_)
      clear ex8
      refine lv_goto (tgt := 150) hx hb dX2_putThousandths_171 (by decide) ?_
      cases ho
      exact ih _ _ hrun _ _ _ hW (lv_sub hl [1, 2, 0] rfl)
set_option maxHeartbeats 4000000 in
set_option maxRecDepth 100000 in
theorem x2_putThousandths_12_L45 {p : Program} {l : Launch} {e : Env} {s : State} {m : MethodId} {args : Array Value} {below : List Frame} {meth : Method} {c : Code} {Q : State → Prop} {D : va_G} {cI cJ cZ cR : ClassId} {am gm : Nat → Nat} {st : Nat} {A : Nat → Prop} (C0 : cxX p s m args meth c cX2_putThousandths RX2 8 none D (tyX cI cJ cZ cR) st A) {v6 : Int32} {y : Int32 × St} (hK0 : ∀ (H : Heap) (locs : List Loc) (ls : Array Slot), wl D A s (wX cI cJ cZ cR am gm y.2) H locs → lv_has ls 8 [(0, .ref (am 1002)), (5, .int y.1), (6, .int v6)] → W p l e (rmN 2 60) s m args below meth c H locs 0 0 Q (F0 m 75 ls [])) :
    ∀ (n : Nat) (v5 : Int32) (t : St), lpn (fun x => x2_putThousandths_12_B45 v6 x.1 x.2) n (v5, t) = some y → ∀ (H : Heap) (locs : List Loc) (ls : Array Slot), wl D A s (wX cI cJ cZ cR am gm t) H locs → lv_has ls 8 [(0, .ref (am 1002)), (5, .int v5), (6, .int v6)] → W p l e (rmN 2 60) s m args below meth c H locs 0 0 Q (F0 m 45 ls []) := by
  have hx := C0.1.1
  have hb := C0.1.2.1
  have hta := C0.1.2.2.2.2.2.1
  have hown := C0.1.2.2.2.2.1
  intro n
  induction n with
  | zero => intro _ _ h; cases h
  | succ n ih =>
    intro v5 t hrun H locs ls hW hl
    obtain ⟨o, ho, hrun⟩ := bd_some hrun
    unfold x2_putThousandths_12_B45 at ho
    refine lv_iload hx hb dX2_putThousandths_45 (lv_at hl 1 rfl) ?_
    refine lv_if_le (tgt := 75) hx hb dX2_putThousandths_47 (by decide) (fun c9 => ?_) (fun c9 => ?_)
    · replace ho := ite_t c9 ho
      cases ho
      cases hrun
      exact hK0 _ _ _ hW (lv_sub hl [0, 1, 2] rfl)
    · replace ho := ite_f c9 ho
      refine lv_aload_n hx hb dX2_putThousandths_50 rfl (lv_at hl 0 rfl) ?_
      refine xGET_200 C0 kw_369 hW dX2_putThousandths_51 ?_
      refine lv_iconst (v := (2 : Int32)) hx hb dX2_putThousandths_54 (by decide) ?_
      obtain ⟨q10, hc11, ho⟩ := bd_some ho
      refine bkI C0.1 hW (runSX (As := [.ref (am 200), .int (2 : Int32)]) (rest := []) C0 hW (c_x2_remainder_200 l _ t (2 : Int32) (r := q10) hc11) cb_X2_X2_remainder_44 rfl rfl ⟨rfl, rfl⟩ ⟨Nat.le_of_ble_eq_true rfl, Nat.le_of_ble_eq_true rfl⟩ (Nat.le_of_ble_eq_true rfl) hl.1 dX2_putThousandths_55 ⟨Nat.le_of_ble_eq_true rfl, Nat.le_of_ble_eq_true rfl⟩) (fun H locs hW => ?_)
      refine lv_if_ne (tgt := 75) hx hb dX2_putThousandths_58 (by decide) (fun c12 => ?_) (fun c12 => ?_)
      · replace ho := ite_f c12 ho
        cases ho
        cases hrun
        exact hK0 _ _ _ hW (lv_sub hl [0, 1, 2] rfl)
      · replace ho := ite_t c12 ho
        refine lv_aload_n hx hb dX2_putThousandths_61 rfl (lv_at hl 0 rfl) ?_
        refine xGET_200 C0 kw_369 hW dX2_putThousandths_62 ?_
        refine lv_iconst (v := (2 : Int32)) hx hb dX2_putThousandths_65 (by decide) ?_
        obtain ⟨q13, hc14, ho⟩ := bd_some ho
        refine bkV C0.1 hW (runSX (As := [.ref (am 200), .int (2 : Int32)]) (rest := []) C0 hW (c_x2_divide_200 l _ t (2 : Int32) (t' := q13) hc14) cb_X2_X2_divide_48 rfl rfl ⟨rfl, rfl⟩ ⟨Nat.le_of_ble_eq_true rfl, Nat.le_of_ble_eq_true rfl⟩ (Nat.le_of_ble_eq_true rfl) hl.1 dX2_putThousandths_66 ⟨Nat.le_of_ble_eq_true rfl, Nat.le_of_ble_eq_true rfl⟩) (fun H locs hW => ?_)
        obtain ⟨x15, ex15, ho⟩ := nm_x ho
        refine lv_iinc (v := x15) (lv' := [(5, .int x15), (0, .ref (am 1002)), (6, .int v6)]) hx hb dX2_putThousandths_69 hl (k := 1) rfl (by rw [ex15]; rfl) (by decide) rfl (fun ls hl => ?_)
        clear ex15
        refine lv_goto (tgt := 45) hx hb dX2_putThousandths_72 (by decide) ?_
        cases ho
        exact ih _ _ hrun _ _ _ hW (lv_sub hl [1, 0, 2] rfl)
set_option maxHeartbeats 4000000 in
set_option maxRecDepth 100000 in
theorem x2_putThousandths_12_L75 {p : Program} {l : Launch} {e : Env} {s : State} {m : MethodId} {args : Array Value} {below : List Frame} {meth : Method} {c : Code} {Q : State → Prop} {D : va_G} {cI cJ cZ cR : ClassId} {am gm : Nat → Nat} {st : Nat} {A : Nat → Prop} (C0 : cxX p s m args meth c cX2_putThousandths RX2 8 none D (tyX cI cJ cZ cR) st A) {v5 : Int32} {y : Int32 × St} (hK0 : ∀ (H : Heap) (locs : List Loc) (ls : Array Slot), wl D A s (wX cI cJ cZ cR am gm y.2) H locs → lv_has ls 8 [(0, .ref (am 1002)), (5, .int v5), (6, .int y.1)] → W p l e (rmN 2 60) s m args below meth c H locs 0 0 Q (F0 m 105 ls [])) :
    ∀ (n : Nat) (v6 : Int32) (t : St), lpn (fun x => x2_putThousandths_12_B75 v5 x.1 x.2) n (v6, t) = some y → ∀ (H : Heap) (locs : List Loc) (ls : Array Slot), wl D A s (wX cI cJ cZ cR am gm t) H locs → lv_has ls 8 [(0, .ref (am 1002)), (5, .int v5), (6, .int v6)] → W p l e (rmN 2 60) s m args below meth c H locs 0 0 Q (F0 m 75 ls []) := by
  have hx := C0.1.1
  have hb := C0.1.2.1
  have hta := C0.1.2.2.2.2.2.1
  have hown := C0.1.2.2.2.2.1
  intro n
  induction n with
  | zero => intro _ _ h; cases h
  | succ n ih =>
    intro v6 t hrun H locs ls hW hl
    obtain ⟨o, ho, hrun⟩ := bd_some hrun
    unfold x2_putThousandths_12_B75 at ho
    refine lv_iload hx hb dX2_putThousandths_75 (lv_at hl 2 rfl) ?_
    refine lv_if_le (tgt := 105) hx hb dX2_putThousandths_77 (by decide) (fun c16 => ?_) (fun c16 => ?_)
    · replace ho := ite_t c16 ho
      cases ho
      cases hrun
      exact hK0 _ _ _ hW (lv_sub hl [0, 1, 2] rfl)
    · replace ho := ite_f c16 ho
      refine lv_aload_n hx hb dX2_putThousandths_80 rfl (lv_at hl 0 rfl) ?_
      refine xGET_200 C0 kw_369 hW dX2_putThousandths_81 ?_
      refine lv_iconst (v := (5 : Int32)) hx hb dX2_putThousandths_84 (by decide) ?_
      obtain ⟨q17, hc18, ho⟩ := bd_some ho
      refine bkI C0.1 hW (runSX (As := [.ref (am 200), .int (5 : Int32)]) (rest := []) C0 hW (c_x2_remainder_200 l _ t (5 : Int32) (r := q17) hc18) cb_X2_X2_remainder_44 rfl rfl ⟨rfl, rfl⟩ ⟨Nat.le_of_ble_eq_true rfl, Nat.le_of_ble_eq_true rfl⟩ (Nat.le_of_ble_eq_true rfl) hl.1 dX2_putThousandths_85 ⟨Nat.le_of_ble_eq_true rfl, Nat.le_of_ble_eq_true rfl⟩) (fun H locs hW => ?_)
      refine lv_if_ne (tgt := 105) hx hb dX2_putThousandths_88 (by decide) (fun c19 => ?_) (fun c19 => ?_)
      · replace ho := ite_f c19 ho
        cases ho
        cases hrun
        exact hK0 _ _ _ hW (lv_sub hl [0, 1, 2] rfl)
      · replace ho := ite_t c19 ho
        refine lv_aload_n hx hb dX2_putThousandths_91 rfl (lv_at hl 0 rfl) ?_
        refine xGET_200 C0 kw_369 hW dX2_putThousandths_92 ?_
        refine lv_iconst (v := (5 : Int32)) hx hb dX2_putThousandths_95 (by decide) ?_
        obtain ⟨q20, hc21, ho⟩ := bd_some ho
        refine bkV C0.1 hW (runSX (As := [.ref (am 200), .int (5 : Int32)]) (rest := []) C0 hW (c_x2_divide_200 l _ t (5 : Int32) (t' := q20) hc21) cb_X2_X2_divide_48 rfl rfl ⟨rfl, rfl⟩ ⟨Nat.le_of_ble_eq_true rfl, Nat.le_of_ble_eq_true rfl⟩ (Nat.le_of_ble_eq_true rfl) hl.1 dX2_putThousandths_96 ⟨Nat.le_of_ble_eq_true rfl, Nat.le_of_ble_eq_true rfl⟩) (fun H locs hW => ?_)
        obtain ⟨x22, ex22, ho⟩ := nm_x ho
        refine lv_iinc (v := x22) (lv' := [(6, .int x22), (0, .ref (am 1002)), (5, .int v5)]) hx hb dX2_putThousandths_99 hl (k := 2) rfl (by rw [ex22]; rfl) (by decide) rfl (fun ls hl => ?_)
        clear ex22
        refine lv_goto (tgt := 75) hx hb dX2_putThousandths_102 (by decide) ?_
        cases ho
        exact ih _ _ hrun _ _ _ hW (lv_sub hl [1, 2, 0] rfl)
set_option maxHeartbeats 4000000 in
set_option maxRecDepth 100000 in
theorem c_x2_putThousandths_12 (l : Launch) {D : va_G} {cI cJ cZ cR : ClassId} {am gm : Nat → Nat} {st : Nat} (sz : Nat) (t : St) (a2 : Int32) (a3 : Int32) (a4 : Int32) {t' : St} (ho : x2_putThousandths_12 t a2 a3 a4 = some t') : Met l yX2_putThousandths (.code yX2_putThousandths cX2_putThousandths 8 none :: wsAll) (rmN 2 60) (va_Pc [.ref (am 1002), .ref (gm 12), .int a2, .int a3, .int a4] (prX D (tyX cI cJ cZ cR) (wX cI cJ cZ cR am gm t) sz st)) (qV D (tyX cI cJ cZ cR) (wX cI cJ cZ cR am gm t') (va_A (wX cI cJ cZ cR am gm t) sz)) 0 0 (va_A (wX cI cJ cZ cR am gm t) sz) := by
  refine Met.ofW (cc := cX2_putThousandths) (maxL := 8) (ret := none) (by decide) rfl ?_
  intro p e s m args below meth c s₁ B hml hv
  obtain ⟨rfl, ⟨hsz, hP, hK, hD0⟩, hsx⟩ := hv
  have hx := B.exec
  have hb := B.bytes
  have hts := atoms_spec (ws := (.code yX2_putThousandths cX2_putThousandths 8 none :: wsAll)) B.pre
  have hta := fun w h => hts w (List.mem_cons_of_mem _ h)
  have hown : s.vm.findClass RX2 = some m.cls := findClass_of_methodNamed B.named
  have hlocks := B.notSynchronized
  subst hsz
  have hD := hD0.self (sz := s.heap.size)
  generalize hAe : va_A (wX cI cJ cZ cR am gm t) s.heap.size = A at hD ⊢
  have hA : ∀ q : Nat, s.heap.size ≤ q → A q := fun q h => by rw [← hAe]; exact Or.inr h
  have C0 : cxX p s m ([.ref (am 1002), .ref (gm 12), .int a2, .int a3, .int a4].toArray) meth c cX2_putThousandths RX2 8 none D (tyX cI cJ cZ cR) st A := ⟨⟨hx, hb, B.returns, hml, hown, hta, hlocks, hK, hA⟩, by rw [← hAe]; exact hsx⟩
  have hW : wl D A s (wX cI cJ cZ cR am gm t) s.heap [] := ⟨hP, hD, va_S.rf⟩
  have hl := lv_entry [.ref (am 1002), .ref (gm 12), .int a2, .int a3, .int a4] (n := 8) (Nat.le_of_ble_eq_true rfl)
  rw [lg_entry_eq]
  generalize (lg_sl [.ref (am 1002), .ref (gm 12), .int a2, .int a3, .int a4] ++ List.replicate (8 - (lg_sl [.ref (am 1002), .ref (gm 12), .int a2, .int a3, .int a4]).length) Slot.unset).toArray = ls at hl ⊢
  have hl : lv_has ls 8 [(0, .ref (am 1002)), (1, .ref (gm 12)), (2, .int a2), (3, .int a3), (4, .int a4)] := hl
  clear hAe hD hP hD0 hts
  have J39 : ∀ (t : St) (w0 : Int32) (_ : x2_putThousandths_12_J39 t w0 = some t') (H : Heap) (locs : List Loc) (ls : Array Slot), wl D A s (wX cI cJ cZ cR am gm t) H locs → lv_has ls 8 [(0, .ref (am 1002))] → W p l e (rmN 2 60) s m ([.ref (am 1002), .ref (gm 12), .int a2, .int a3, .int a4].toArray) below meth c H locs 0 0 (MQ below (qV D (tyX cI cJ cZ cR) (wX cI cJ cZ cR am gm t') A) ([.ref (am 1002), .ref (gm 12), .int a2, .int a3, .int a4].toArray) s 0 0 A) (F0 m 39 ls [.int w0]) := by
    intro t w0 ho H locs ls hW hl
    unfold x2_putThousandths_12_J39 at ho
    refine lv_istore (lv' := [(5, .int w0), (0, .ref (am 1002))]) hx hb dX2_putThousandths_39 hl (by decide) rfl (fun ls hl => ?_)
    refine lv_iload hx hb dX2_putThousandths_41 (lv_at hl 0 rfl) ?_
    refine lv_istore (lv' := [(6, .int w0), (5, .int w0), (0, .ref (am 1002))]) hx hb dX2_putThousandths_43 hl (by decide) rfl (fun ls hl => ?_)
    obtain ⟨y23, hc24, ho⟩ := bd_some ho
    obtain ⟨ny23, hc24⟩ := lp_to hc24
    refine x2_putThousandths_12_L45 C0 ?_ ny23 _ _ hc24 _ _ _ hW (lv_sub hl [2, 1, 0] rfl)
    intro H locs ls hW hl
    obtain ⟨y25, hc26, ho⟩ := bd_some ho
    obtain ⟨ny25, hc26⟩ := lp_to hc26
    refine x2_putThousandths_12_L75 C0 ?_ ny25 _ _ hc26 _ _ _ hW (lv_sub hl [0, 1, 2] rfl)
    intro H locs ls hW hl
    refine lv_aload_n hx hb dX2_putThousandths_105 rfl (lv_at hl 0 rfl) ?_
    refine xGET_201 C0 kw_370 hW dX2_putThousandths_106 ?_
    refine lv_iconst (v := (0 : Int32)) hx hb dX2_putThousandths_109 (by decide) ?_
    obtain ⟨q27, hc28, ho⟩ := bd_some ho
    refine bkV C0.1 hW (runSX (As := [.ref (am 201), .int (0 : Int32)]) (rest := []) C0 hW (c_j7_fill_53178_201 l _ y25.2 (0 : Int32) (t' := q27) hc28) cb_X2_J7_fill_53178_22 rfl rfl ⟨rfl, rfl⟩ ⟨Nat.le_of_ble_eq_true rfl, Nat.le_of_ble_eq_true rfl⟩ (Nat.le_of_ble_eq_true rfl) hl.1 dX2_putThousandths_110 ⟨Nat.le_of_ble_eq_true rfl, Nat.le_of_ble_eq_true rfl⟩) (fun H locs hW => ?_)
    refine lv_aload_n hx hb dX2_putThousandths_113 rfl (lv_at hl 0 rfl) ?_
    refine xGET_201 C0 kw_370 hW dX2_putThousandths_114 ?_
    refine lv_iconst (v := (0 : Int32)) hx hb dX2_putThousandths_117 (by decide) ?_
    refine lv_iconst (v := (1 : Int32)) hx hb dX2_putThousandths_118 (by decide) ?_
    obtain ⟨g29, ho⟩ := gd_some ho
    refine xST_201 C0 hW g29 dX2_putThousandths_119 (fun H locs hW => ?_)
    obtain ⟨t30, ho, hW⟩ := nm_w (P := fun t => wl D A s (wX cI cJ cZ cR am gm t) H locs) ho hW
    refine lv_iconst (v := (0 : Int32)) hx hb dX2_putThousandths_120 (by decide) ?_
    refine lv_istore (lv' := [(7, .int (0 : Int32)), (0, .ref (am 1002)), (5, .int y23.1), (6, .int y25.1)]) hx hb dX2_putThousandths_121 hl (by decide) rfl (fun ls hl => ?_)
    obtain ⟨y31, hc32, ho⟩ := bd_some ho
    obtain ⟨ny31, hc32⟩ := lp_to hc32
    refine x2_putThousandths_12_L123 C0 ?_ ny31 _ _ hc32 _ _ _ hW (lv_sub hl [1, 2, 3, 0] rfl)
    intro H locs ls hW hl
    refine lv_iconst (v := (0 : Int32)) hx hb dX2_putThousandths_147 (by decide) ?_
    refine lv_istore (lv' := [(7, .int (0 : Int32)), (0, .ref (am 1002)), (6, .int y25.1)]) hx hb dX2_putThousandths_148 hl (by decide) rfl (fun ls hl => ?_)
    obtain ⟨y33, hc34, ho⟩ := bd_some ho
    obtain ⟨ny33, hc34⟩ := lp_to hc34
    refine x2_putThousandths_12_L150 C0 ?_ ny33 _ _ hc34 _ _ _ hW (lv_sub hl [1, 2, 0] rfl)
    intro H locs ls hW hl
    cases ho
    exact rtV C0.1 hW dX2_putThousandths_174
  unfold x2_putThousandths_12 at ho
  refine lv_aload_n hx hb dX2_putThousandths_0 rfl (lv_at hl 0 rfl) ?_
  refine xGET_200 C0 kw_369 hW dX2_putThousandths_1 ?_
  refine lv_iconst (v := (0 : Int32)) hx hb dX2_putThousandths_4 (by decide) ?_
  obtain ⟨q35, hc36, ho⟩ := bd_some ho
  refine bkV C0.1 hW (runSX (As := [.ref (am 200), .int (0 : Int32)]) (rest := []) C0 hW (c_j7_fill_53178_200 l _ t (0 : Int32) (t' := q35) hc36) cb_X2_J7_fill_53178_22 rfl rfl ⟨rfl, rfl⟩ ⟨Nat.le_of_ble_eq_true rfl, Nat.le_of_ble_eq_true rfl⟩ (Nat.le_of_ble_eq_true rfl) hl.1 dX2_putThousandths_5 ⟨Nat.le_of_ble_eq_true rfl, Nat.le_of_ble_eq_true rfl⟩) (fun H locs hW => ?_)
  refine lv_aload_n hx hb dX2_putThousandths_8 rfl (lv_at hl 1 rfl) ?_
  refine lv_iload_n hx hb dX2_putThousandths_9 rfl (lv_at hl 2 rfl) ?_
  refine lv_aload_n hx hb dX2_putThousandths_10 rfl (lv_at hl 0 rfl) ?_
  refine xGET_200 C0 kw_369 hW dX2_putThousandths_11 ?_
  refine lv_iconst (v := (0 : Int32)) hx hb dX2_putThousandths_14 (by decide) ?_
  refine lv_iload_n hx hb dX2_putThousandths_15 rfl (lv_at hl 3 rfl) ?_
  refine lv_bipush (v := (6 : Int32)) hx hb dX2_putThousandths_16 (by decide) ?_
  refine va_mmin (rest := [.int (0 : Int32), .ref (am 200), .int a2, .ref (gm 12)]) hx hb (C0.1.2.2.2.1.trans hl.1.symm) hown (hta _ kw_1006) (hta _ kw_748) (hta _ kw_136) (hta _ kw_749) (Nat.le_of_ble_eq_true rfl) (Nat.le_of_ble_eq_true rfl) (Nat.le_of_ble_eq_true rfl) (Nat.le_of_ble_eq_true rfl) dX2_putThousandths_18 ?_
  obtain ⟨g37, ho⟩ := cpk_some ho
  refine xCPY_12_200 (rest := []) C0 kw_1007 kw_752 kw_751 kw_137 hl.1 hW g37 (Nat.le_of_ble_eq_true rfl) (Nat.le_of_ble_eq_true rfl) dX2_putThousandths_21 (fun H locs hW => ?_)
  obtain ⟨t38, ho, hW⟩ := nm_w (P := fun t => wl D A s (wX cI cJ cZ cR am gm t) H locs) ho hW
  refine lv_aload_n hx hb dX2_putThousandths_24 rfl (lv_at hl 0 rfl) ?_
  obtain ⟨q39, hc40, ho⟩ := bd_some ho
  refine bkZ C0.1 hW (runVX (As := []) (rest := []) C0 hW (c_x2_isZero l _ t38 (r := q39) hc40) cb_X2_X2_isZero_40 2 2 rfl rfl rfl rfl rfl ⟨rfl, rfl⟩ ⟨Nat.le_of_ble_eq_true rfl, Nat.le_of_ble_eq_true rfl⟩ (Nat.le_of_ble_eq_true rfl) hl.1 dX2_putThousandths_25 ⟨Nat.le_of_ble_eq_true rfl, Nat.le_of_ble_eq_true rfl⟩) (fun z41 H locs hW => ?_)
  refine lv_if_eq (tgt := 35) hx hb dX2_putThousandths_28 (by decide) (fun c42 => ?_) (fun c42 => ?_)
  · replace ho := ite_t c42 ho
    refine lv_iconst (v := (3 : Int32)) hx hb dX2_putThousandths_35 (by decide) ?_
    refine lv_iload hx hb dX2_putThousandths_36 (lv_at hl 4 rfl) ?_
    refine lv_imul hx hb dX2_putThousandths_38 ?_
    exact J39 _ _ ho _ _ _ hW (lv_sub hl [0] rfl)
  · replace ho := ite_f c42 ho
    refine lv_iconst (v := (0 : Int32)) hx hb dX2_putThousandths_31 (by decide) ?_
    refine lv_goto (tgt := 39) hx hb dX2_putThousandths_32 (by decide) ?_
    exact J39 _ _ ho _ _ _ hW (lv_sub hl [0] rfl)
noncomputable def j7_fill_53178_13_B5 (v1 : Int32) (v3 : Int32) (v2 : Int32) (t : St) : Option ((Int32 × St) ⊕ (St)) :=
  if v3 ≤ v2 then (some (.inr t)) else (gd v2 (gN t 13) (nm (sA t 13 v2 v1) (fun t3 : St => nm (v2 + (1 : Int32)) (fun x4 : Int32 => some (.inl (x4, t3))))))
noncomputable def j7_fill_53178_13 (t : St) (a1 : Int32) : Option (St) :=
  nm (Int32.ofNat (gN t 13)) (fun x5 : Int32 => (lp (fun x => j7_fill_53178_13_B5 a1 x5 x.1 x.2) ((0 : Int32), t)).bind (fun y6 => some y6))
set_option maxHeartbeats 4000000 in
set_option maxRecDepth 100000 in
theorem j7_fill_53178_13_L5 {p : Program} {l : Launch} {e : Env} {s : State} {m : MethodId} {args : Array Value} {below : List Frame} {meth : Method} {c : Code} {Q : State → Prop} {D : va_G} {cI cJ cZ cR : ClassId} {am gm : Nat → Nat} {st : Nat} {A : Nat → Prop} (C0 : cxX p s m args meth c cJ7_fill_53178 RJ7 4 none D (tyX cI cJ cZ cR) st A) {v1 : Int32} {v3 : Int32} {y : St} (hK0 : ∀ (H : Heap) (locs : List Loc) (ls : Array Slot), wl D A s (wX cI cJ cZ cR am gm y) H locs → lv_has ls 4 [] → W p l e (rmN 0 0) s m args below meth c H locs 0 0 Q (F0 m 20 ls [])) :
    ∀ (n : Nat) (v2 : Int32) (t : St), lpn (fun x => j7_fill_53178_13_B5 v1 v3 x.1 x.2) n (v2, t) = some y → ∀ (H : Heap) (locs : List Loc) (ls : Array Slot), wl D A s (wX cI cJ cZ cR am gm t) H locs → lv_has ls 4 [(0, .ref (am 13)), (1, .int v1), (2, .int v2), (3, .int v3)] → W p l e (rmN 0 0) s m args below meth c H locs 0 0 Q (F0 m 5 ls []) := by
  have hx := C0.1.1
  have hb := C0.1.2.1
  have hta := C0.1.2.2.2.2.2.1
  have hown := C0.1.2.2.2.2.1
  intro n
  induction n with
  | zero => intro _ _ h; cases h
  | succ n ih =>
    intro v2 t hrun H locs ls hW hl
    obtain ⟨o, ho, hrun⟩ := bd_some hrun
    unfold j7_fill_53178_13_B5 at ho
    refine lv_iload_n hx hb dJ7_fill_53178_5 rfl (lv_at hl 2 rfl) ?_
    refine lv_iload_n hx hb dJ7_fill_53178_6 rfl (lv_at hl 3 rfl) ?_
    refine lv_icmp_ge (tgt := 20) hx hb dJ7_fill_53178_7 (by decide) (fun c1 => ?_) (fun c1 => ?_)
    · replace ho := ite_t c1 ho
      cases ho
      cases hrun
      exact hK0 _ _ _ hW (lv_sub hl [] rfl)
    · replace ho := ite_f c1 ho
      refine lv_aload_n hx hb dJ7_fill_53178_10 rfl (lv_at hl 0 rfl) ?_
      refine lv_iload_n hx hb dJ7_fill_53178_11 rfl (lv_at hl 2 rfl) ?_
      refine lv_iload_n hx hb dJ7_fill_53178_12 rfl (lv_at hl 1 rfl) ?_
      obtain ⟨g2, ho⟩ := gd_some ho
      refine xST_13 C0 hW g2 dJ7_fill_53178_13 (fun H locs hW => ?_)
      obtain ⟨t3, ho, hW⟩ := nm_w (P := fun t => wl D A s (wX cI cJ cZ cR am gm t) H locs) ho hW
      obtain ⟨x4, ex4, ho⟩ := nm_x ho
      refine lv_iinc (v := x4) (lv' := [(2, .int x4), (0, .ref (am 13)), (1, .int v1), (3, .int v3)]) hx hb dJ7_fill_53178_14 hl (k := 2) rfl (by rw [ex4]; rfl) (by decide) rfl (fun ls hl => ?_)
      clear ex4
      refine lv_goto (tgt := 5) hx hb dJ7_fill_53178_17 (by decide) ?_
      cases ho
      exact ih _ _ hrun _ _ _ hW (lv_sub hl [1, 2, 0, 3] rfl)
set_option maxHeartbeats 4000000 in
set_option maxRecDepth 100000 in
theorem c_j7_fill_53178_13 (l : Launch) {D : va_G} {cI cJ cZ cR : ClassId} {am gm : Nat → Nat} {st : Nat} (sz : Nat) (t : St) (a1 : Int32) {t' : St} (ho : j7_fill_53178_13 t a1 = some t') : Met l yJ7_fill_53178 (.code yJ7_fill_53178 cJ7_fill_53178 4 none :: wsAll) (rmN 0 0) (va_Pc [.ref (am 13), .int a1] (prX D (tyX cI cJ cZ cR) (wX cI cJ cZ cR am gm t) sz st)) (qV D (tyX cI cJ cZ cR) (wX cI cJ cZ cR am gm t') (va_A (wX cI cJ cZ cR am gm t) sz)) 0 0 (va_A (wX cI cJ cZ cR am gm t) sz) := by
  refine Met.ofW (cc := cJ7_fill_53178) (maxL := 4) (ret := none) (by decide) rfl ?_
  intro p e s m args below meth c s₁ B hml hv
  obtain ⟨rfl, ⟨hsz, hP, hK, hD0⟩, hsx⟩ := hv
  have hx := B.exec
  have hb := B.bytes
  have hts := atoms_spec (ws := (.code yJ7_fill_53178 cJ7_fill_53178 4 none :: wsAll)) B.pre
  have hta := fun w h => hts w (List.mem_cons_of_mem _ h)
  have hown : s.vm.findClass RJ7 = some m.cls := findClass_of_methodNamed B.named
  have hlocks := B.notSynchronized
  subst hsz
  have hD := hD0.self (sz := s.heap.size)
  generalize hAe : va_A (wX cI cJ cZ cR am gm t) s.heap.size = A at hD ⊢
  have hA : ∀ q : Nat, s.heap.size ≤ q → A q := fun q h => by rw [← hAe]; exact Or.inr h
  have C0 : cxX p s m ([.ref (am 13), .int a1].toArray) meth c cJ7_fill_53178 RJ7 4 none D (tyX cI cJ cZ cR) st A := ⟨⟨hx, hb, B.returns, hml, hown, hta, hlocks, hK, hA⟩, by rw [← hAe]; exact hsx⟩
  have hW : wl D A s (wX cI cJ cZ cR am gm t) s.heap [] := ⟨hP, hD, va_S.rf⟩
  have hl := lv_entry [.ref (am 13), .int a1] (n := 4) (Nat.le_of_ble_eq_true rfl)
  rw [lg_entry_eq]
  generalize (lg_sl [.ref (am 13), .int a1] ++ List.replicate (4 - (lg_sl [.ref (am 13), .int a1]).length) Slot.unset).toArray = ls at hl ⊢
  have hl : lv_has ls 4 [(0, .ref (am 13)), (1, .int a1)] := hl
  unfold j7_fill_53178_13 at ho
  refine lv_iconst (v := (0 : Int32)) hx hb dJ7_fill_53178_0 (by decide) ?_
  refine lv_istore_n (lv' := [(2, .int (0 : Int32)), (0, .ref (am 13)), (1, .int a1)]) hx hb dJ7_fill_53178_1 rfl hl (by decide) rfl (fun ls hl => ?_)
  refine lv_aload_n hx hb dJ7_fill_53178_2 rfl (lv_at hl 1 rfl) ?_
  refine xLEN_13 C0 hW dJ7_fill_53178_3 ?_
  refine lv_nmi ho (fun x5 ho => ?_)
  refine lv_istore_n (lv' := [(3, .int x5), (2, .int (0 : Int32)), (0, .ref (am 13)), (1, .int a1)]) hx hb dJ7_fill_53178_4 rfl hl (by decide) rfl (fun ls hl => ?_)
  obtain ⟨y6, hc7, ho⟩ := bd_some ho
  obtain ⟨ny6, hc7⟩ := lp_to hc7
  refine j7_fill_53178_13_L5 C0 ?_ ny6 _ _ hc7 _ _ _ hW (lv_sub hl [2, 3, 1, 0] rfl)
  intro H locs ls hW hl
  cases ho
  exact rtV C0.1 hW dJ7_fill_53178_20
noncomputable def x8_narrowed_B4 (t : St) (v1 : Int32) (v2 : Int32) (v3 : Int32) : Option ((Int32 × Int32) ⊕ (Int32)) :=
  if (gI t 803) ≤ v3 then (some (.inr v2)) else (gd v3 (gN t 801) (nm (v2 ||| (((v1 >>> ((gA t 801 (v3).toNatClampNeg) &&& 31)) &&& (1 : Int32)) <<< (v3 &&& 31))) (fun x3 : Int32 => nm (v3 + (1 : Int32)) (fun x4 : Int32 => some (.inl (x3, x4))))))
noncomputable def x8_narrowed (t : St) (a1 : Int32) : Option (Int32) :=
  (lp (fun x => x8_narrowed_B4 t a1 x.1 x.2) ((0 : Int32), (0 : Int32))).bind (fun y5 => some y5)
set_option maxHeartbeats 4000000 in
set_option maxRecDepth 100000 in
theorem x8_narrowed_L4 {p : Program} {l : Launch} {e : Env} {s : State} {m : MethodId} {args : Array Value} {below : List Frame} {meth : Method} {c : Code} {Q : State → Prop} {D : va_G} {cI cJ cZ cR : ClassId} {am gm : Nat → Nat} {st : Nat} {A : Nat → Prop} (C0 : cxX p s m args meth c cX8_narrowed RX8 4 (some .int) D (tyX cI cJ cZ cR) st A) {t : St} {v1 : Int32} {y : Int32} (hK0 : ∀ (H : Heap) (locs : List Loc) (ls : Array Slot), wl D A s (wX cI cJ cZ cR am gm t) H locs → lv_has ls 4 [(0, .ref (am 1008)), (2, .int y)] → W p l e (rmN 0 0) s m args below meth c H locs 0 0 Q (F0 m 33 ls [])) :
    ∀ (n : Nat) (v2 : Int32) (v3 : Int32), lpn (fun x => x8_narrowed_B4 t v1 x.1 x.2) n (v2, v3) = some y → ∀ (H : Heap) (locs : List Loc) (ls : Array Slot), wl D A s (wX cI cJ cZ cR am gm t) H locs → lv_has ls 4 [(0, .ref (am 1008)), (1, .int v1), (2, .int v2), (3, .int v3)] → W p l e (rmN 0 0) s m args below meth c H locs 0 0 Q (F0 m 4 ls []) := by
  have hx := C0.1.1
  have hb := C0.1.2.1
  have hta := C0.1.2.2.2.2.2.1
  have hown := C0.1.2.2.2.2.1
  intro n
  induction n with
  | zero => intro _ _ h; cases h
  | succ n ih =>
    intro v2 v3 hrun H locs ls hW hl
    obtain ⟨o, ho, hrun⟩ := bd_some hrun
    unfold x8_narrowed_B4 at ho
    refine lv_iload_n hx hb dX8_narrowed_4 rfl (lv_at hl 3 rfl) ?_
    refine lv_aload_n hx hb dX8_narrowed_5 rfl (lv_at hl 0 rfl) ?_
    refine xGET_803 C0 kw_274 hW dX8_narrowed_6 ?_
    refine lv_icmp_ge (tgt := 33) hx hb dX8_narrowed_9 (by decide) (fun c1 => ?_) (fun c1 => ?_)
    · replace ho := ite_t c1 ho
      cases ho
      cases hrun
      exact hK0 _ _ _ hW (lv_sub hl [0, 2] rfl)
    · replace ho := ite_f c1 ho
      refine lv_iload_n hx hb dX8_narrowed_12 rfl (lv_at hl 2 rfl) ?_
      refine lv_iload_n hx hb dX8_narrowed_13 rfl (lv_at hl 1 rfl) ?_
      refine lv_aload_n hx hb dX8_narrowed_14 rfl (lv_at hl 0 rfl) ?_
      refine xGET_801 C0 kw_270 hW dX8_narrowed_15 ?_
      refine lv_iload_n hx hb dX8_narrowed_18 rfl (lv_at hl 3 rfl) ?_
      obtain ⟨g2, ho⟩ := gd_some ho
      refine xLD_801 C0 hW g2 dX8_narrowed_19 ?_
      refine lv_ishr hx hb dX8_narrowed_20 ?_
      refine lv_iconst (v := (1 : Int32)) hx hb dX8_narrowed_21 (by decide) ?_
      refine lv_iand hx hb dX8_narrowed_22 ?_
      refine lv_iload_n hx hb dX8_narrowed_23 rfl (lv_at hl 3 rfl) ?_
      refine lv_ishl hx hb dX8_narrowed_24 ?_
      refine lv_ior hx hb dX8_narrowed_25 ?_
      refine lv_nmi ho (fun x3 ho => ?_)
      refine lv_istore_n (lv' := [(2, .int x3), (0, .ref (am 1008)), (1, .int v1), (3, .int v3)]) hx hb dX8_narrowed_26 rfl hl (by decide) rfl (fun ls hl => ?_)
      obtain ⟨x4, ex4, ho⟩ := nm_x ho
      refine lv_iinc (v := x4) (lv' := [(3, .int x4), (2, .int x3), (0, .ref (am 1008)), (1, .int v1)]) hx hb dX8_narrowed_27 hl (k := 3) rfl (by rw [ex4]; rfl) (by decide) rfl (fun ls hl => ?_)
      clear ex4
      refine lv_goto (tgt := 4) hx hb dX8_narrowed_30 (by decide) ?_
      cases ho
      exact ih _ _ hrun _ _ _ hW (lv_sub hl [2, 3, 1, 0] rfl)
set_option maxHeartbeats 4000000 in
set_option maxRecDepth 100000 in
theorem c_x8_narrowed (l : Launch) {D : va_G} {cI cJ cZ cR : ClassId} {am gm : Nat → Nat} {st : Nat} (sz : Nat) (t : St) (a1 : Int32) {r : Int32} (ho : x8_narrowed t a1 = some r) : Met l yX8_narrowed (.code yX8_narrowed cX8_narrowed 4 (some .int) :: wsAll) (rmN 0 0) (va_Pc [.ref (am 1008), .int a1] (prX D (tyX cI cJ cZ cR) (wX cI cJ cZ cR am gm t) sz st)) (qI r D (tyX cI cJ cZ cR) (wX cI cJ cZ cR am gm t) (va_A (wX cI cJ cZ cR am gm t) sz)) 0 0 (va_A (wX cI cJ cZ cR am gm t) sz) := by
  refine Met.ofW (cc := cX8_narrowed) (maxL := 4) (ret := (some .int)) (by decide) rfl ?_
  intro p e s m args below meth c s₁ B hml hv
  obtain ⟨rfl, ⟨hsz, hP, hK, hD0⟩, hsx⟩ := hv
  have hx := B.exec
  have hb := B.bytes
  have hts := atoms_spec (ws := (.code yX8_narrowed cX8_narrowed 4 (some .int) :: wsAll)) B.pre
  have hta := fun w h => hts w (List.mem_cons_of_mem _ h)
  have hown : s.vm.findClass RX8 = some m.cls := findClass_of_methodNamed B.named
  have hlocks := B.notSynchronized
  subst hsz
  have hD := hD0.self (sz := s.heap.size)
  generalize hAe : va_A (wX cI cJ cZ cR am gm t) s.heap.size = A at hD ⊢
  have hA : ∀ q : Nat, s.heap.size ≤ q → A q := fun q h => by rw [← hAe]; exact Or.inr h
  have C0 : cxX p s m ([.ref (am 1008), .int a1].toArray) meth c cX8_narrowed RX8 4 (some .int) D (tyX cI cJ cZ cR) st A := ⟨⟨hx, hb, B.returns, hml, hown, hta, hlocks, hK, hA⟩, by rw [← hAe]; exact hsx⟩
  have hW : wl D A s (wX cI cJ cZ cR am gm t) s.heap [] := ⟨hP, hD, va_S.rf⟩
  have hl := lv_entry [.ref (am 1008), .int a1] (n := 4) (Nat.le_of_ble_eq_true rfl)
  rw [lg_entry_eq]
  generalize (lg_sl [.ref (am 1008), .int a1] ++ List.replicate (4 - (lg_sl [.ref (am 1008), .int a1]).length) Slot.unset).toArray = ls at hl ⊢
  have hl : lv_has ls 4 [(0, .ref (am 1008)), (1, .int a1)] := hl
  unfold x8_narrowed at ho
  refine lv_iconst (v := (0 : Int32)) hx hb dX8_narrowed_0 (by decide) ?_
  refine lv_istore_n (lv' := [(2, .int (0 : Int32)), (0, .ref (am 1008)), (1, .int a1)]) hx hb dX8_narrowed_1 rfl hl (by decide) rfl (fun ls hl => ?_)
  refine lv_iconst (v := (0 : Int32)) hx hb dX8_narrowed_2 (by decide) ?_
  refine lv_istore_n (lv' := [(3, .int (0 : Int32)), (2, .int (0 : Int32)), (0, .ref (am 1008)), (1, .int a1)]) hx hb dX8_narrowed_3 rfl hl (by decide) rfl (fun ls hl => ?_)
  obtain ⟨y5, hc6, ho⟩ := bd_some ho
  obtain ⟨ny5, hc6⟩ := lp_to hc6
  refine x8_narrowed_L4 C0 ?_ ny5 _ _ hc6 _ _ _ hW (lv_sub hl [2, 3, 1, 0] rfl)
  intro H locs ls hW hl
  refine lv_iload_n hx hb dX8_narrowed_33 rfl (lv_at hl 1 rfl) ?_
  cases ho
  exact rtI C0.1 hW dX8_narrowed_34
noncomputable def x2_subtract_13_12_B6 (v2 : Int32) (v3 : Int32) (v4 : Int64) (v6 : Int32) (t : St) : Option ((Int64 × Int32 × St) ⊕ (St)) :=
  if v3 ≤ v6 then (some (.inr t)) else (gd v6 (gN t 13) (gd (v2 + v6) (gN t 12) (nm (v4 + (((gA t 13 (v6).toNatClampNeg) - (gA t 12 ((v2 + v6)).toNatClampNeg))).toInt64) (fun x4 : Int64 => gd v6 (gN t 13) (nm (sA t 13 v6 ((x4 &&& (1073741823 : Int64))).toInt32) (fun t6 : St => nm ((x4 >>> (((30 : Int32)).toInt64 &&& 63))) (fun x7 : Int64 => nm (v6 + (1 : Int32)) (fun x8 : Int32 => some (.inl (x7, x8, t6))))))))))
noncomputable def x2_subtract_13_12 (t : St) (a2 : Int32) (a3 : Int32) : Option (St) :=
  (lp (fun x => x2_subtract_13_12_B6 a2 a3 x.1 x.2.1 x.2.2) ((0 : Int64), (0 : Int32), t)).bind (fun y9 => some y9)
set_option maxHeartbeats 4000000 in
set_option maxRecDepth 100000 in
theorem x2_subtract_13_12_L6 {p : Program} {l : Launch} {e : Env} {s : State} {m : MethodId} {args : Array Value} {below : List Frame} {meth : Method} {c : Code} {Q : State → Prop} {D : va_G} {cI cJ cZ cR : ClassId} {am gm : Nat → Nat} {st : Nat} {A : Nat → Prop} (C0 : cxX p s m args meth c cX2_subtract RX2 7 none D (tyX cI cJ cZ cR) st A) {v2 : Int32} {v3 : Int32} {y : St} (hK0 : ∀ (H : Heap) (locs : List Loc) (ls : Array Slot), wl D A s (wX cI cJ cZ cR am gm y) H locs → lv_has ls 7 [] → W p l e (rmN 0 0) s m args below meth c H locs 0 0 Q (F0 m 53 ls [])) :
    ∀ (n : Nat) (v4 : Int64) (v6 : Int32) (t : St), lpn (fun x => x2_subtract_13_12_B6 v2 v3 x.1 x.2.1 x.2.2) n (v4, v6, t) = some y → ∀ (H : Heap) (locs : List Loc) (ls : Array Slot), wl D A s (wX cI cJ cZ cR am gm t) H locs → lv_has ls 7 [(0, .ref (am 13)), (1, .ref (gm 12)), (2, .int v2), (3, .int v3), (4, .long v4), (6, .int v6)] → W p l e (rmN 0 0) s m args below meth c H locs 0 0 Q (F0 m 6 ls []) := by
  have hx := C0.1.1
  have hb := C0.1.2.1
  have hta := C0.1.2.2.2.2.2.1
  have hown := C0.1.2.2.2.2.1
  intro n
  induction n with
  | zero => intro _ _ _ h; cases h
  | succ n ih =>
    intro v4 v6 t hrun H locs ls hW hl
    obtain ⟨o, ho, hrun⟩ := bd_some hrun
    unfold x2_subtract_13_12_B6 at ho
    refine lv_iload hx hb dX2_subtract_6 (lv_at hl 5 rfl) ?_
    refine lv_iload_n hx hb dX2_subtract_8 rfl (lv_at hl 3 rfl) ?_
    refine lv_icmp_ge (tgt := 53) hx hb dX2_subtract_9 (by decide) (fun c1 => ?_) (fun c1 => ?_)
    · replace ho := ite_t c1 ho
      cases ho
      cases hrun
      exact hK0 _ _ _ hW (lv_sub hl [] rfl)
    · replace ho := ite_f c1 ho
      refine lv_lload hx hb dX2_subtract_12 (lv_at hl 4 rfl) ?_
      refine lv_aload_n hx hb dX2_subtract_14 rfl (lv_at hl 0 rfl) ?_
      refine lv_iload hx hb dX2_subtract_15 (lv_at hl 5 rfl) ?_
      obtain ⟨g2, ho⟩ := gd_some ho
      refine xLD_13 C0 hW g2 dX2_subtract_17 ?_
      refine lv_aload_n hx hb dX2_subtract_18 rfl (lv_at hl 1 rfl) ?_
      refine lv_iload_n hx hb dX2_subtract_19 rfl (lv_at hl 2 rfl) ?_
      refine lv_iload hx hb dX2_subtract_20 (lv_at hl 5 rfl) ?_
      refine lv_iadd hx hb dX2_subtract_22 ?_
      obtain ⟨g3, ho⟩ := gd_some ho
      refine xLD_12 C0 hW g3 dX2_subtract_23 ?_
      refine lv_isub hx hb dX2_subtract_24 ?_
      refine lv_i2l hx hb dX2_subtract_25 rfl ?_
      refine lv_ladd hx hb dX2_subtract_26 ?_
      refine lv_nml ho (fun x4 ho => ?_)
      refine lv_lstore (lv' := [(4, .long x4), (0, .ref (am 13)), (1, .ref (gm 12)), (2, .int v2), (3, .int v3), (6, .int v6)]) hx hb dX2_subtract_27 hl (by decide) rfl (fun ls hl => ?_)
      refine lv_aload_n hx hb dX2_subtract_29 rfl (lv_at hl 1 rfl) ?_
      refine lv_iload hx hb dX2_subtract_30 (lv_at hl 5 rfl) ?_
      refine lv_lload hx hb dX2_subtract_32 (lv_at hl 0 rfl) ?_
      refine lv_ldc2 hx hb hown (hta _ kw_996) dX2_subtract_34 ?_
      refine lv_land hx hb dX2_subtract_37 ?_
      refine lv_l2i hx hb dX2_subtract_38 rfl ?_
      obtain ⟨g5, ho⟩ := gd_some ho
      refine xST_13 C0 hW g5 dX2_subtract_39 (fun H locs hW => ?_)
      obtain ⟨t6, ho, hW⟩ := nm_w (P := fun t => wl D A s (wX cI cJ cZ cR am gm t) H locs) ho hW
      refine lv_lload hx hb dX2_subtract_40 (lv_at hl 0 rfl) ?_
      refine lv_bipush (v := (30 : Int32)) hx hb dX2_subtract_42 (by decide) ?_
      refine lv_lshr hx hb dX2_subtract_44 rfl ?_
      refine lv_nml ho (fun x7 ho => ?_)
      refine lv_lstore (lv' := [(4, .long x7), (0, .ref (am 13)), (1, .ref (gm 12)), (2, .int v2), (3, .int v3), (6, .int v6)]) hx hb dX2_subtract_45 hl (by decide) rfl (fun ls hl => ?_)
      obtain ⟨x8, ex8, ho⟩ := nm_x ho
      refine lv_iinc (v := x8) (lv' := [(6, .int x8), (4, .long x7), (0, .ref (am 13)), (1, .ref (gm 12)), (2, .int v2), (3, .int v3)]) hx hb dX2_subtract_47 hl (k := 5) rfl (by rw [ex8]; rfl) (by decide) rfl (fun ls hl => ?_)
      clear ex8
      refine lv_goto (tgt := 6) hx hb dX2_subtract_50 (by decide) ?_
      cases ho
      exact ih _ _ _ hrun _ _ _ hW (lv_sub hl [2, 3, 4, 5, 1, 0] rfl)
set_option maxHeartbeats 4000000 in
set_option maxRecDepth 100000 in
theorem c_x2_subtract_13_12 (l : Launch) {D : va_G} {cI cJ cZ cR : ClassId} {am gm : Nat → Nat} {st : Nat} (sz : Nat) (t : St) (a2 : Int32) (a3 : Int32) {t' : St} (ho : x2_subtract_13_12 t a2 a3 = some t') : Met l yX2_subtract (.code yX2_subtract cX2_subtract 7 none :: wsAll) (rmN 0 0) (va_Pc [.ref (am 13), .ref (gm 12), .int a2, .int a3] (prX D (tyX cI cJ cZ cR) (wX cI cJ cZ cR am gm t) sz st)) (qV D (tyX cI cJ cZ cR) (wX cI cJ cZ cR am gm t') (va_A (wX cI cJ cZ cR am gm t) sz)) 0 0 (va_A (wX cI cJ cZ cR am gm t) sz) := by
  refine Met.ofW (cc := cX2_subtract) (maxL := 7) (ret := none) (by decide) rfl ?_
  intro p e s m args below meth c s₁ B hml hv
  obtain ⟨rfl, ⟨hsz, hP, hK, hD0⟩, hsx⟩ := hv
  have hx := B.exec
  have hb := B.bytes
  have hts := atoms_spec (ws := (.code yX2_subtract cX2_subtract 7 none :: wsAll)) B.pre
  have hta := fun w h => hts w (List.mem_cons_of_mem _ h)
  have hown : s.vm.findClass RX2 = some m.cls := findClass_of_methodNamed B.named
  have hlocks := B.notSynchronized
  subst hsz
  have hD := hD0.self (sz := s.heap.size)
  generalize hAe : va_A (wX cI cJ cZ cR am gm t) s.heap.size = A at hD ⊢
  have hA : ∀ q : Nat, s.heap.size ≤ q → A q := fun q h => by rw [← hAe]; exact Or.inr h
  have C0 : cxX p s m ([.ref (am 13), .ref (gm 12), .int a2, .int a3].toArray) meth c cX2_subtract RX2 7 none D (tyX cI cJ cZ cR) st A := ⟨⟨hx, hb, B.returns, hml, hown, hta, hlocks, hK, hA⟩, by rw [← hAe]; exact hsx⟩
  have hW : wl D A s (wX cI cJ cZ cR am gm t) s.heap [] := ⟨hP, hD, va_S.rf⟩
  have hl := lv_entry [.ref (am 13), .ref (gm 12), .int a2, .int a3] (n := 7) (Nat.le_of_ble_eq_true rfl)
  rw [lg_entry_eq]
  generalize (lg_sl [.ref (am 13), .ref (gm 12), .int a2, .int a3] ++ List.replicate (7 - (lg_sl [.ref (am 13), .ref (gm 12), .int a2, .int a3]).length) Slot.unset).toArray = ls at hl ⊢
  have hl : lv_has ls 7 [(0, .ref (am 13)), (1, .ref (gm 12)), (2, .int a2), (3, .int a3)] := hl
  unfold x2_subtract_13_12 at ho
  refine lv_lconst (v := (0 : Int64)) hx hb dX2_subtract_0 (by decide) ?_
  refine lv_lstore (lv' := [(4, .long (0 : Int64)), (0, .ref (am 13)), (1, .ref (gm 12)), (2, .int a2), (3, .int a3)]) hx hb dX2_subtract_1 hl (by decide) rfl (fun ls hl => ?_)
  refine lv_iconst (v := (0 : Int32)) hx hb dX2_subtract_3 (by decide) ?_
  refine lv_istore (lv' := [(6, .int (0 : Int32)), (4, .long (0 : Int64)), (0, .ref (am 13)), (1, .ref (gm 12)), (2, .int a2), (3, .int a3)]) hx hb dX2_subtract_4 hl (by decide) rfl (fun ls hl => ?_)
  obtain ⟨y9, hc10, ho⟩ := bd_some ho
  obtain ⟨ny9, hc10⟩ := lp_to hc10
  refine x2_subtract_13_12_L6 C0 ?_ ny9 _ _ _ hc10 _ _ _ hW (lv_sub hl [2, 3, 4, 5, 1, 0] rfl)
  intro H locs ls hW hl
  cases ho
  exact rtV C0.1 hW dX2_subtract_53
noncomputable def x2_putThousandths_13_B123 (v5 : Int32) (v6 : Int32) (v7 : Int32) (t : St) : Option ((Int32 × St) ⊕ (St)) :=
  if v5 ≤ v7 then (some (.inr t)) else ((x2_multiply_201 t (0 : Int32) (6 : Int32) (2 : Int32)).bind (fun q2 => nm (v7 + (1 : Int32)) (fun x4 : Int32 => some (.inl (x4, q2)))))
noncomputable def x2_putThousandths_13_B150 (v6 : Int32) (v7 : Int32) (t : St) : Option ((Int32 × St) ⊕ (St)) :=
  if v6 ≤ v7 then (some (.inr t)) else ((x2_multiply_201 t (0 : Int32) (6 : Int32) (5 : Int32)).bind (fun q6 => nm (v7 + (1 : Int32)) (fun x8 : Int32 => some (.inl (x8, q6)))))
noncomputable def x2_putThousandths_13_B45 (v6 : Int32) (v5 : Int32) (t : St) : Option ((Int32 × St) ⊕ (Int32 × St)) :=
  if v5 ≤ 0 then (some (.inr (v5, t))) else ((x2_remainder_200 t (2 : Int32)).bind (fun q10 => if q10 = 0 then ((x2_divide_200 t (2 : Int32)).bind (fun q13 => nm (v5 + (-1 : Int32)) (fun x15 : Int32 => some (.inl (x15, q13))))) else (some (.inr (v5, t)))))
noncomputable def x2_putThousandths_13_B75 (v5 : Int32) (v6 : Int32) (t : St) : Option ((Int32 × St) ⊕ (Int32 × St)) :=
  if v6 ≤ 0 then (some (.inr (v6, t))) else ((x2_remainder_200 t (5 : Int32)).bind (fun q17 => if q17 = 0 then ((x2_divide_200 t (5 : Int32)).bind (fun q20 => nm (v6 + (-1 : Int32)) (fun x22 : Int32 => some (.inl (x22, q20))))) else (some (.inr (v6, t)))))
noncomputable def x2_putThousandths_13_J39 (t : St) (w0 : Int32) : Option (St) :=
  (lp (fun x => x2_putThousandths_13_B45 w0 x.1 x.2) (w0, t)).bind (fun y23 => (lp (fun x => x2_putThousandths_13_B75 y23.1 x.1 x.2) (w0, y23.2)).bind (fun y25 => (j7_fill_53178_201 y25.2 (0 : Int32)).bind (fun q27 => gd (0 : Int32) (gN q27 201) (nm (sA q27 201 (0 : Int32) (1 : Int32)) (fun t30 : St => (lp (fun x => x2_putThousandths_13_B123 y23.1 y25.1 x.1 x.2) ((0 : Int32), t30)).bind (fun y31 => (lp (fun x => x2_putThousandths_13_B150 y25.1 x.1 x.2) ((0 : Int32), y31)).bind (fun y33 => some y33)))))))
noncomputable def x2_putThousandths_13 (t : St) (a2 : Int32) (a3 : Int32) (a4 : Int32) : Option (St) :=
  (j7_fill_53178_200 t (0 : Int32)).bind (fun q35 => cpk a2 (0 : Int32) (if (6 : Int32) < a3 then (6 : Int32) else a3) (gN q35 13) (gN q35 200) (nm (sAr q35 200 (va_cpy (gA q35 13) (gA q35 200) (a2).toNatClampNeg ((0 : Int32)).toNatClampNeg ((if (6 : Int32) < a3 then (6 : Int32) else a3)).toNatClampNeg)) (fun t38 : St => (x2_isZero t38).bind (fun q39 => if q39 = 0 then (x2_putThousandths_13_J39 t38 ((3 : Int32) * a4)) else (x2_putThousandths_13_J39 t38 (0 : Int32))))))
set_option maxHeartbeats 4000000 in
set_option maxRecDepth 100000 in
theorem x2_putThousandths_13_L123 {p : Program} {l : Launch} {e : Env} {s : State} {m : MethodId} {args : Array Value} {below : List Frame} {meth : Method} {c : Code} {Q : State → Prop} {D : va_G} {cI cJ cZ cR : ClassId} {am gm : Nat → Nat} {st : Nat} {A : Nat → Prop} (C0 : cxX p s m args meth c cX2_putThousandths RX2 8 none D (tyX cI cJ cZ cR) st A) {v5 : Int32} {v6 : Int32} {y : St} (hK0 : ∀ (H : Heap) (locs : List Loc) (ls : Array Slot), wl D A s (wX cI cJ cZ cR am gm y) H locs → lv_has ls 8 [(0, .ref (am 1002)), (6, .int v6)] → W p l e (rmN 2 60) s m args below meth c H locs 0 0 Q (F0 m 147 ls [])) :
    ∀ (n : Nat) (v7 : Int32) (t : St), lpn (fun x => x2_putThousandths_13_B123 v5 v6 x.1 x.2) n (v7, t) = some y → ∀ (H : Heap) (locs : List Loc) (ls : Array Slot), wl D A s (wX cI cJ cZ cR am gm t) H locs → lv_has ls 8 [(0, .ref (am 1002)), (5, .int v5), (6, .int v6), (7, .int v7)] → W p l e (rmN 2 60) s m args below meth c H locs 0 0 Q (F0 m 123 ls []) := by
  have hx := C0.1.1
  have hb := C0.1.2.1
  have hta := C0.1.2.2.2.2.2.1
  have hown := C0.1.2.2.2.2.1
  intro n
  induction n with
  | zero => intro _ _ h; cases h
  | succ n ih =>
    intro v7 t hrun H locs ls hW hl
    obtain ⟨o, ho, hrun⟩ := bd_some hrun
    unfold x2_putThousandths_13_B123 at ho
    refine lv_iload hx hb dX2_putThousandths_123 (lv_at hl 3 rfl) ?_
    refine lv_iload hx hb dX2_putThousandths_125 (lv_at hl 1 rfl) ?_
    refine lv_icmp_ge (tgt := 147) hx hb dX2_putThousandths_127 (by decide) (fun c1 => ?_) (fun c1 => ?_)
    · replace ho := ite_t c1 ho
      cases ho
      cases hrun
      exact hK0 _ _ _ hW (lv_sub hl [0, 2] rfl)
    · replace ho := ite_f c1 ho
      refine lv_aload_n hx hb dX2_putThousandths_130 rfl (lv_at hl 0 rfl) ?_
      refine xGET_201 C0 kw_370 hW dX2_putThousandths_131 ?_
      refine lv_iconst (v := (0 : Int32)) hx hb dX2_putThousandths_134 (by decide) ?_
      refine lv_bipush (v := (6 : Int32)) hx hb dX2_putThousandths_135 (by decide) ?_
      refine lv_iconst (v := (2 : Int32)) hx hb dX2_putThousandths_137 (by decide) ?_
      obtain ⟨q2, hc3, ho⟩ := bd_some ho
      refine bkV C0.1 hW (runSX (As := [.ref (am 201), .int (0 : Int32), .int (6 : Int32), .int (2 : Int32)]) (rest := []) C0 hW (c_x2_multiply_201 l _ t (0 : Int32) (6 : Int32) (2 : Int32) (t' := q2) hc3) cb_X2_X2_multiply_51 rfl rfl ⟨rfl, rfl⟩ ⟨Nat.le_of_ble_eq_true rfl, Nat.le_of_ble_eq_true rfl⟩ (Nat.le_of_ble_eq_true rfl) hl.1 dX2_putThousandths_138 ⟨Nat.le_of_ble_eq_true rfl, Nat.le_of_ble_eq_true rfl⟩) (fun H locs hW => ?_)
      obtain ⟨x4, ex4, ho⟩ := nm_x ho
      refine lv_iinc (v := x4) (lv' := [(7, .int x4), (0, .ref (am 1002)), (5, .int v5), (6, .int v6)]) hx hb dX2_putThousandths_141 hl (k := 3) rfl (by rw [ex4]; rfl) (by decide) rfl (fun ls hl => ?_)
      clear ex4
      refine lv_goto (tgt := 123) hx hb dX2_putThousandths_144 (by decide) ?_
      cases ho
      exact ih _ _ hrun _ _ _ hW (lv_sub hl [1, 2, 3, 0] rfl)
set_option maxHeartbeats 4000000 in
set_option maxRecDepth 100000 in
theorem x2_putThousandths_13_L150 {p : Program} {l : Launch} {e : Env} {s : State} {m : MethodId} {args : Array Value} {below : List Frame} {meth : Method} {c : Code} {Q : State → Prop} {D : va_G} {cI cJ cZ cR : ClassId} {am gm : Nat → Nat} {st : Nat} {A : Nat → Prop} (C0 : cxX p s m args meth c cX2_putThousandths RX2 8 none D (tyX cI cJ cZ cR) st A) {v6 : Int32} {y : St} (hK0 : ∀ (H : Heap) (locs : List Loc) (ls : Array Slot), wl D A s (wX cI cJ cZ cR am gm y) H locs → lv_has ls 8 [(0, .ref (am 1002))] → W p l e (rmN 2 60) s m args below meth c H locs 0 0 Q (F0 m 174 ls [])) :
    ∀ (n : Nat) (v7 : Int32) (t : St), lpn (fun x => x2_putThousandths_13_B150 v6 x.1 x.2) n (v7, t) = some y → ∀ (H : Heap) (locs : List Loc) (ls : Array Slot), wl D A s (wX cI cJ cZ cR am gm t) H locs → lv_has ls 8 [(0, .ref (am 1002)), (6, .int v6), (7, .int v7)] → W p l e (rmN 2 60) s m args below meth c H locs 0 0 Q (F0 m 150 ls []) := by
  have hx := C0.1.1
  have hb := C0.1.2.1
  have hta := C0.1.2.2.2.2.2.1
  have hown := C0.1.2.2.2.2.1
  intro n
  induction n with
  | zero => intro _ _ h; cases h
  | succ n ih =>
    intro v7 t hrun H locs ls hW hl
    obtain ⟨o, ho, hrun⟩ := bd_some hrun
    unfold x2_putThousandths_13_B150 at ho
    refine lv_iload hx hb dX2_putThousandths_150 (lv_at hl 2 rfl) ?_
    refine lv_iload hx hb dX2_putThousandths_152 (lv_at hl 1 rfl) ?_
    refine lv_icmp_ge (tgt := 174) hx hb dX2_putThousandths_154 (by decide) (fun c5 => ?_) (fun c5 => ?_)
    · replace ho := ite_t c5 ho
      cases ho
      cases hrun
      exact hK0 _ _ _ hW (lv_sub hl [0] rfl)
    · replace ho := ite_f c5 ho
      refine lv_aload_n hx hb dX2_putThousandths_157 rfl (lv_at hl 0 rfl) ?_
      refine xGET_201 C0 kw_370 hW dX2_putThousandths_158 ?_
      refine lv_iconst (v := (0 : Int32)) hx hb dX2_putThousandths_161 (by decide) ?_
      refine lv_bipush (v := (6 : Int32)) hx hb dX2_putThousandths_162 (by decide) ?_
      refine lv_iconst (v := (5 : Int32)) hx hb dX2_putThousandths_164 (by decide) ?_
      obtain ⟨q6, hc7, ho⟩ := bd_some ho
      refine bkV C0.1 hW (runSX (As := [.ref (am 201), .int (0 : Int32), .int (6 : Int32), .int (5 : Int32)]) (rest := []) C0 hW (c_x2_multiply_201 l _ t (0 : Int32) (6 : Int32) (5 : Int32) (t' := q6) hc7) cb_X2_X2_multiply_51 rfl rfl ⟨rfl, rfl⟩ ⟨Nat.le_of_ble_eq_true rfl, Nat.le_of_ble_eq_true rfl⟩ (Nat.le_of_ble_eq_true rfl) hl.1 dX2_putThousandths_165 ⟨Nat.le_of_ble_eq_true rfl, Nat.le_of_ble_eq_true rfl⟩) (fun H locs hW => ?_)
      obtain ⟨x8, ex8, ho⟩ := nm_x ho
      refine lv_iinc (v := x8) (lv' := [(7, .int x8), (0, .ref (am 1002)), (6, .int v6)]) hx hb dX2_putThousandths_168 hl (k := 2) rfl (by rw [ex8]; rfl) (by decide) rfl (fun ls hl => ?_)
      clear ex8
      refine lv_goto (tgt := 150) hx hb dX2_putThousandths_171 (by decide) ?_
      cases ho
      exact ih _ _ hrun _ _ _ hW (lv_sub hl [1, 2, 0] rfl)
set_option maxHeartbeats 4000000 in
set_option maxRecDepth 100000 in
theorem x2_putThousandths_13_L45 {p : Program} {l : Launch} {e : Env} {s : State} {m : MethodId} {args : Array Value} {below : List Frame} {meth : Method} {c : Code} {Q : State → Prop} {D : va_G} {cI cJ cZ cR : ClassId} {am gm : Nat → Nat} {st : Nat} {A : Nat → Prop} (C0 : cxX p s m args meth c cX2_putThousandths RX2 8 none D (tyX cI cJ cZ cR) st A) {v6 : Int32} {y : Int32 × St} (hK0 : ∀ (H : Heap) (locs : List Loc) (ls : Array Slot), wl D A s (wX cI cJ cZ cR am gm y.2) H locs → lv_has ls 8 [(0, .ref (am 1002)), (5, .int y.1), (6, .int v6)] → W p l e (rmN 2 60) s m args below meth c H locs 0 0 Q (F0 m 75 ls [])) :
    ∀ (n : Nat) (v5 : Int32) (t : St), lpn (fun x => x2_putThousandths_13_B45 v6 x.1 x.2) n (v5, t) = some y → ∀ (H : Heap) (locs : List Loc) (ls : Array Slot), wl D A s (wX cI cJ cZ cR am gm t) H locs → lv_has ls 8 [(0, .ref (am 1002)), (5, .int v5), (6, .int v6)] → W p l e (rmN 2 60) s m args below meth c H locs 0 0 Q (F0 m 45 ls []) := by
  have hx := C0.1.1
  have hb := C0.1.2.1
  have hta := C0.1.2.2.2.2.2.1
  have hown := C0.1.2.2.2.2.1
  intro n
  induction n with
  | zero => intro _ _ h; cases h
  | succ n ih =>
    intro v5 t hrun H locs ls hW hl
    obtain ⟨o, ho, hrun⟩ := bd_some hrun
    unfold x2_putThousandths_13_B45 at ho
    refine lv_iload hx hb dX2_putThousandths_45 (lv_at hl 1 rfl) ?_
    refine lv_if_le (tgt := 75) hx hb dX2_putThousandths_47 (by decide) (fun c9 => ?_) (fun c9 => ?_)
    · replace ho := ite_t c9 ho
      cases ho
      cases hrun
      exact hK0 _ _ _ hW (lv_sub hl [0, 1, 2] rfl)
    · replace ho := ite_f c9 ho
      refine lv_aload_n hx hb dX2_putThousandths_50 rfl (lv_at hl 0 rfl) ?_
      refine xGET_200 C0 kw_369 hW dX2_putThousandths_51 ?_
      refine lv_iconst (v := (2 : Int32)) hx hb dX2_putThousandths_54 (by decide) ?_
      obtain ⟨q10, hc11, ho⟩ := bd_some ho
      refine bkI C0.1 hW (runSX (As := [.ref (am 200), .int (2 : Int32)]) (rest := []) C0 hW (c_x2_remainder_200 l _ t (2 : Int32) (r := q10) hc11) cb_X2_X2_remainder_44 rfl rfl ⟨rfl, rfl⟩ ⟨Nat.le_of_ble_eq_true rfl, Nat.le_of_ble_eq_true rfl⟩ (Nat.le_of_ble_eq_true rfl) hl.1 dX2_putThousandths_55 ⟨Nat.le_of_ble_eq_true rfl, Nat.le_of_ble_eq_true rfl⟩) (fun H locs hW => ?_)
      refine lv_if_ne (tgt := 75) hx hb dX2_putThousandths_58 (by decide) (fun c12 => ?_) (fun c12 => ?_)
      · replace ho := ite_f c12 ho
        cases ho
        cases hrun
        exact hK0 _ _ _ hW (lv_sub hl [0, 1, 2] rfl)
      · replace ho := ite_t c12 ho
        refine lv_aload_n hx hb dX2_putThousandths_61 rfl (lv_at hl 0 rfl) ?_
        refine xGET_200 C0 kw_369 hW dX2_putThousandths_62 ?_
        refine lv_iconst (v := (2 : Int32)) hx hb dX2_putThousandths_65 (by decide) ?_
        obtain ⟨q13, hc14, ho⟩ := bd_some ho
        refine bkV C0.1 hW (runSX (As := [.ref (am 200), .int (2 : Int32)]) (rest := []) C0 hW (c_x2_divide_200 l _ t (2 : Int32) (t' := q13) hc14) cb_X2_X2_divide_48 rfl rfl ⟨rfl, rfl⟩ ⟨Nat.le_of_ble_eq_true rfl, Nat.le_of_ble_eq_true rfl⟩ (Nat.le_of_ble_eq_true rfl) hl.1 dX2_putThousandths_66 ⟨Nat.le_of_ble_eq_true rfl, Nat.le_of_ble_eq_true rfl⟩) (fun H locs hW => ?_)
        obtain ⟨x15, ex15, ho⟩ := nm_x ho
        refine lv_iinc (v := x15) (lv' := [(5, .int x15), (0, .ref (am 1002)), (6, .int v6)]) hx hb dX2_putThousandths_69 hl (k := 1) rfl (by rw [ex15]; rfl) (by decide) rfl (fun ls hl => ?_)
        clear ex15
        refine lv_goto (tgt := 45) hx hb dX2_putThousandths_72 (by decide) ?_
        cases ho
        exact ih _ _ hrun _ _ _ hW (lv_sub hl [1, 0, 2] rfl)
set_option maxHeartbeats 4000000 in
set_option maxRecDepth 100000 in
theorem x2_putThousandths_13_L75 {p : Program} {l : Launch} {e : Env} {s : State} {m : MethodId} {args : Array Value} {below : List Frame} {meth : Method} {c : Code} {Q : State → Prop} {D : va_G} {cI cJ cZ cR : ClassId} {am gm : Nat → Nat} {st : Nat} {A : Nat → Prop} (C0 : cxX p s m args meth c cX2_putThousandths RX2 8 none D (tyX cI cJ cZ cR) st A) {v5 : Int32} {y : Int32 × St} (hK0 : ∀ (H : Heap) (locs : List Loc) (ls : Array Slot), wl D A s (wX cI cJ cZ cR am gm y.2) H locs → lv_has ls 8 [(0, .ref (am 1002)), (5, .int v5), (6, .int y.1)] → W p l e (rmN 2 60) s m args below meth c H locs 0 0 Q (F0 m 105 ls [])) :
    ∀ (n : Nat) (v6 : Int32) (t : St), lpn (fun x => x2_putThousandths_13_B75 v5 x.1 x.2) n (v6, t) = some y → ∀ (H : Heap) (locs : List Loc) (ls : Array Slot), wl D A s (wX cI cJ cZ cR am gm t) H locs → lv_has ls 8 [(0, .ref (am 1002)), (5, .int v5), (6, .int v6)] → W p l e (rmN 2 60) s m args below meth c H locs 0 0 Q (F0 m 75 ls []) := by
  have hx := C0.1.1
  have hb := C0.1.2.1
  have hta := C0.1.2.2.2.2.2.1
  have hown := C0.1.2.2.2.2.1
  intro n
  induction n with
  | zero => intro _ _ h; cases h
  | succ n ih =>
    intro v6 t hrun H locs ls hW hl
    obtain ⟨o, ho, hrun⟩ := bd_some hrun
    unfold x2_putThousandths_13_B75 at ho
    refine lv_iload hx hb dX2_putThousandths_75 (lv_at hl 2 rfl) ?_
    refine lv_if_le (tgt := 105) hx hb dX2_putThousandths_77 (by decide) (fun c16 => ?_) (fun c16 => ?_)
    · replace ho := ite_t c16 ho
      cases ho
      cases hrun
      exact hK0 _ _ _ hW (lv_sub hl [0, 1, 2] rfl)
    · replace ho := ite_f c16 ho
      refine lv_aload_n hx hb dX2_putThousandths_80 rfl (lv_at hl 0 rfl) ?_
      refine xGET_200 C0 kw_369 hW dX2_putThousandths_81 ?_
      refine lv_iconst (v := (5 : Int32)) hx hb dX2_putThousandths_84 (by decide) ?_
      obtain ⟨q17, hc18, ho⟩ := bd_some ho
      refine bkI C0.1 hW (runSX (As := [.ref (am 200), .int (5 : Int32)]) (rest := []) C0 hW (c_x2_remainder_200 l _ t (5 : Int32) (r := q17) hc18) cb_X2_X2_remainder_44 rfl rfl ⟨rfl, rfl⟩ ⟨Nat.le_of_ble_eq_true rfl, Nat.le_of_ble_eq_true rfl⟩ (Nat.le_of_ble_eq_true rfl) hl.1 dX2_putThousandths_85 ⟨Nat.le_of_ble_eq_true rfl, Nat.le_of_ble_eq_true rfl⟩) (fun H locs hW => ?_)
      refine lv_if_ne (tgt := 105) hx hb dX2_putThousandths_88 (by decide) (fun c19 => ?_) (fun c19 => ?_)
      · replace ho := ite_f c19 ho
        cases ho
        cases hrun
        exact hK0 _ _ _ hW (lv_sub hl [0, 1, 2] rfl)
      · replace ho := ite_t c19 ho
        refine lv_aload_n hx hb dX2_putThousandths_91 rfl (lv_at hl 0 rfl) ?_
        refine xGET_200 C0 kw_369 hW dX2_putThousandths_92 ?_
        refine lv_iconst (v := (5 : Int32)) hx hb dX2_putThousandths_95 (by decide) ?_
        obtain ⟨q20, hc21, ho⟩ := bd_some ho
        refine bkV C0.1 hW (runSX (As := [.ref (am 200), .int (5 : Int32)]) (rest := []) C0 hW (c_x2_divide_200 l _ t (5 : Int32) (t' := q20) hc21) cb_X2_X2_divide_48 rfl rfl ⟨rfl, rfl⟩ ⟨Nat.le_of_ble_eq_true rfl, Nat.le_of_ble_eq_true rfl⟩ (Nat.le_of_ble_eq_true rfl) hl.1 dX2_putThousandths_96 ⟨Nat.le_of_ble_eq_true rfl, Nat.le_of_ble_eq_true rfl⟩) (fun H locs hW => ?_)
        obtain ⟨x22, ex22, ho⟩ := nm_x ho
        refine lv_iinc (v := x22) (lv' := [(6, .int x22), (0, .ref (am 1002)), (5, .int v5)]) hx hb dX2_putThousandths_99 hl (k := 2) rfl (by rw [ex22]; rfl) (by decide) rfl (fun ls hl => ?_)
        clear ex22
        refine lv_goto (tgt := 75) hx hb dX2_putThousandths_102 (by decide) ?_
        cases ho
        exact ih _ _ hrun _ _ _ hW (lv_sub hl [1, 2, 0] rfl)
set_option maxHeartbeats 4000000 in
set_option maxRecDepth 100000 in
theorem c_x2_putThousandths_13 (l : Launch) {D : va_G} {cI cJ cZ cR : ClassId} {am gm : Nat → Nat} {st : Nat} (sz : Nat) (t : St) (a2 : Int32) (a3 : Int32) (a4 : Int32) {t' : St} (ho : x2_putThousandths_13 t a2 a3 a4 = some t') : Met l yX2_putThousandths (.code yX2_putThousandths cX2_putThousandths 8 none :: wsAll) (rmN 2 60) (va_Pc [.ref (am 1002), .ref (am 13), .int a2, .int a3, .int a4] (prX D (tyX cI cJ cZ cR) (wX cI cJ cZ cR am gm t) sz st)) (qV D (tyX cI cJ cZ cR) (wX cI cJ cZ cR am gm t') (va_A (wX cI cJ cZ cR am gm t) sz)) 0 0 (va_A (wX cI cJ cZ cR am gm t) sz) := by
  refine Met.ofW (cc := cX2_putThousandths) (maxL := 8) (ret := none) (by decide) rfl ?_
  intro p e s m args below meth c s₁ B hml hv
  obtain ⟨rfl, ⟨hsz, hP, hK, hD0⟩, hsx⟩ := hv
  have hx := B.exec
  have hb := B.bytes
  have hts := atoms_spec (ws := (.code yX2_putThousandths cX2_putThousandths 8 none :: wsAll)) B.pre
  have hta := fun w h => hts w (List.mem_cons_of_mem _ h)
  have hown : s.vm.findClass RX2 = some m.cls := findClass_of_methodNamed B.named
  have hlocks := B.notSynchronized
  subst hsz
  have hD := hD0.self (sz := s.heap.size)
  generalize hAe : va_A (wX cI cJ cZ cR am gm t) s.heap.size = A at hD ⊢
  have hA : ∀ q : Nat, s.heap.size ≤ q → A q := fun q h => by rw [← hAe]; exact Or.inr h
  have C0 : cxX p s m ([.ref (am 1002), .ref (am 13), .int a2, .int a3, .int a4].toArray) meth c cX2_putThousandths RX2 8 none D (tyX cI cJ cZ cR) st A := ⟨⟨hx, hb, B.returns, hml, hown, hta, hlocks, hK, hA⟩, by rw [← hAe]; exact hsx⟩
  have hW : wl D A s (wX cI cJ cZ cR am gm t) s.heap [] := ⟨hP, hD, va_S.rf⟩
  have hl := lv_entry [.ref (am 1002), .ref (am 13), .int a2, .int a3, .int a4] (n := 8) (Nat.le_of_ble_eq_true rfl)
  rw [lg_entry_eq]
  generalize (lg_sl [.ref (am 1002), .ref (am 13), .int a2, .int a3, .int a4] ++ List.replicate (8 - (lg_sl [.ref (am 1002), .ref (am 13), .int a2, .int a3, .int a4]).length) Slot.unset).toArray = ls at hl ⊢
  have hl : lv_has ls 8 [(0, .ref (am 1002)), (1, .ref (am 13)), (2, .int a2), (3, .int a3), (4, .int a4)] := hl
  clear hAe hD hP hD0 hts
  have J39 : ∀ (t : St) (w0 : Int32) (_ : x2_putThousandths_13_J39 t w0 = some t') (H : Heap) (locs : List Loc) (ls : Array Slot), wl D A s (wX cI cJ cZ cR am gm t) H locs → lv_has ls 8 [(0, .ref (am 1002))] → W p l e (rmN 2 60) s m ([.ref (am 1002), .ref (am 13), .int a2, .int a3, .int a4].toArray) below meth c H locs 0 0 (MQ below (qV D (tyX cI cJ cZ cR) (wX cI cJ cZ cR am gm t') A) ([.ref (am 1002), .ref (am 13), .int a2, .int a3, .int a4].toArray) s 0 0 A) (F0 m 39 ls [.int w0]) := by
    intro t w0 ho H locs ls hW hl
    unfold x2_putThousandths_13_J39 at ho
    refine lv_istore (lv' := [(5, .int w0), (0, .ref (am 1002))]) hx hb dX2_putThousandths_39 hl (by decide) rfl (fun ls hl => ?_)
    refine lv_iload hx hb dX2_putThousandths_41 (lv_at hl 0 rfl) ?_
    refine lv_istore (lv' := [(6, .int w0), (5, .int w0), (0, .ref (am 1002))]) hx hb dX2_putThousandths_43 hl (by decide) rfl (fun ls hl => ?_)
    obtain ⟨y23, hc24, ho⟩ := bd_some ho
    obtain ⟨ny23, hc24⟩ := lp_to hc24
    refine x2_putThousandths_13_L45 C0 ?_ ny23 _ _ hc24 _ _ _ hW (lv_sub hl [2, 1, 0] rfl)
    intro H locs ls hW hl
    obtain ⟨y25, hc26, ho⟩ := bd_some ho
    obtain ⟨ny25, hc26⟩ := lp_to hc26
    refine x2_putThousandths_13_L75 C0 ?_ ny25 _ _ hc26 _ _ _ hW (lv_sub hl [0, 1, 2] rfl)
    intro H locs ls hW hl
    refine lv_aload_n hx hb dX2_putThousandths_105 rfl (lv_at hl 0 rfl) ?_
    refine xGET_201 C0 kw_370 hW dX2_putThousandths_106 ?_
    refine lv_iconst (v := (0 : Int32)) hx hb dX2_putThousandths_109 (by decide) ?_
    obtain ⟨q27, hc28, ho⟩ := bd_some ho
    refine bkV C0.1 hW (runSX (As := [.ref (am 201), .int (0 : Int32)]) (rest := []) C0 hW (c_j7_fill_53178_201 l _ y25.2 (0 : Int32) (t' := q27) hc28) cb_X2_J7_fill_53178_22 rfl rfl ⟨rfl, rfl⟩ ⟨Nat.le_of_ble_eq_true rfl, Nat.le_of_ble_eq_true rfl⟩ (Nat.le_of_ble_eq_true rfl) hl.1 dX2_putThousandths_110 ⟨Nat.le_of_ble_eq_true rfl, Nat.le_of_ble_eq_true rfl⟩) (fun H locs hW => ?_)
    refine lv_aload_n hx hb dX2_putThousandths_113 rfl (lv_at hl 0 rfl) ?_
    refine xGET_201 C0 kw_370 hW dX2_putThousandths_114 ?_
    refine lv_iconst (v := (0 : Int32)) hx hb dX2_putThousandths_117 (by decide) ?_
    refine lv_iconst (v := (1 : Int32)) hx hb dX2_putThousandths_118 (by decide) ?_
    obtain ⟨g29, ho⟩ := gd_some ho
    refine xST_201 C0 hW g29 dX2_putThousandths_119 (fun H locs hW => ?_)
    obtain ⟨t30, ho, hW⟩ := nm_w (P := fun t => wl D A s (wX cI cJ cZ cR am gm t) H locs) ho hW
    refine lv_iconst (v := (0 : Int32)) hx hb dX2_putThousandths_120 (by decide) ?_
    refine lv_istore (lv' := [(7, .int (0 : Int32)), (0, .ref (am 1002)), (5, .int y23.1), (6, .int y25.1)]) hx hb dX2_putThousandths_121 hl (by decide) rfl (fun ls hl => ?_)
    obtain ⟨y31, hc32, ho⟩ := bd_some ho
    obtain ⟨ny31, hc32⟩ := lp_to hc32
    refine x2_putThousandths_13_L123 C0 ?_ ny31 _ _ hc32 _ _ _ hW (lv_sub hl [1, 2, 3, 0] rfl)
    intro H locs ls hW hl
    refine lv_iconst (v := (0 : Int32)) hx hb dX2_putThousandths_147 (by decide) ?_
    refine lv_istore (lv' := [(7, .int (0 : Int32)), (0, .ref (am 1002)), (6, .int y25.1)]) hx hb dX2_putThousandths_148 hl (by decide) rfl (fun ls hl => ?_)
    obtain ⟨y33, hc34, ho⟩ := bd_some ho
    obtain ⟨ny33, hc34⟩ := lp_to hc34
    refine x2_putThousandths_13_L150 C0 ?_ ny33 _ _ hc34 _ _ _ hW (lv_sub hl [1, 2, 0] rfl)
    intro H locs ls hW hl
    cases ho
    exact rtV C0.1 hW dX2_putThousandths_174
  unfold x2_putThousandths_13 at ho
  refine lv_aload_n hx hb dX2_putThousandths_0 rfl (lv_at hl 0 rfl) ?_
  refine xGET_200 C0 kw_369 hW dX2_putThousandths_1 ?_
  refine lv_iconst (v := (0 : Int32)) hx hb dX2_putThousandths_4 (by decide) ?_
  obtain ⟨q35, hc36, ho⟩ := bd_some ho
  refine bkV C0.1 hW (runSX (As := [.ref (am 200), .int (0 : Int32)]) (rest := []) C0 hW (c_j7_fill_53178_200 l _ t (0 : Int32) (t' := q35) hc36) cb_X2_J7_fill_53178_22 rfl rfl ⟨rfl, rfl⟩ ⟨Nat.le_of_ble_eq_true rfl, Nat.le_of_ble_eq_true rfl⟩ (Nat.le_of_ble_eq_true rfl) hl.1 dX2_putThousandths_5 ⟨Nat.le_of_ble_eq_true rfl, Nat.le_of_ble_eq_true rfl⟩) (fun H locs hW => ?_)
  refine lv_aload_n hx hb dX2_putThousandths_8 rfl (lv_at hl 1 rfl) ?_
  refine lv_iload_n hx hb dX2_putThousandths_9 rfl (lv_at hl 2 rfl) ?_
  refine lv_aload_n hx hb dX2_putThousandths_10 rfl (lv_at hl 0 rfl) ?_
  refine xGET_200 C0 kw_369 hW dX2_putThousandths_11 ?_
  refine lv_iconst (v := (0 : Int32)) hx hb dX2_putThousandths_14 (by decide) ?_
  refine lv_iload_n hx hb dX2_putThousandths_15 rfl (lv_at hl 3 rfl) ?_
  refine lv_bipush (v := (6 : Int32)) hx hb dX2_putThousandths_16 (by decide) ?_
  refine va_mmin (rest := [.int (0 : Int32), .ref (am 200), .int a2, .ref (am 13)]) hx hb (C0.1.2.2.2.1.trans hl.1.symm) hown (hta _ kw_1006) (hta _ kw_748) (hta _ kw_136) (hta _ kw_749) (Nat.le_of_ble_eq_true rfl) (Nat.le_of_ble_eq_true rfl) (Nat.le_of_ble_eq_true rfl) (Nat.le_of_ble_eq_true rfl) dX2_putThousandths_18 ?_
  obtain ⟨g37, ho⟩ := cpk_some ho
  refine xCPY_13_200 (rest := []) C0 kw_1007 kw_752 kw_751 kw_137 hl.1 hW g37 (Nat.le_of_ble_eq_true rfl) (Nat.le_of_ble_eq_true rfl) dX2_putThousandths_21 (fun H locs hW => ?_)
  obtain ⟨t38, ho, hW⟩ := nm_w (P := fun t => wl D A s (wX cI cJ cZ cR am gm t) H locs) ho hW
  refine lv_aload_n hx hb dX2_putThousandths_24 rfl (lv_at hl 0 rfl) ?_
  obtain ⟨q39, hc40, ho⟩ := bd_some ho
  refine bkZ C0.1 hW (runVX (As := []) (rest := []) C0 hW (c_x2_isZero l _ t38 (r := q39) hc40) cb_X2_X2_isZero_40 2 2 rfl rfl rfl rfl rfl ⟨rfl, rfl⟩ ⟨Nat.le_of_ble_eq_true rfl, Nat.le_of_ble_eq_true rfl⟩ (Nat.le_of_ble_eq_true rfl) hl.1 dX2_putThousandths_25 ⟨Nat.le_of_ble_eq_true rfl, Nat.le_of_ble_eq_true rfl⟩) (fun z41 H locs hW => ?_)
  refine lv_if_eq (tgt := 35) hx hb dX2_putThousandths_28 (by decide) (fun c42 => ?_) (fun c42 => ?_)
  · replace ho := ite_t c42 ho
    refine lv_iconst (v := (3 : Int32)) hx hb dX2_putThousandths_35 (by decide) ?_
    refine lv_iload hx hb dX2_putThousandths_36 (lv_at hl 4 rfl) ?_
    refine lv_imul hx hb dX2_putThousandths_38 ?_
    exact J39 _ _ ho _ _ _ hW (lv_sub hl [0] rfl)
  · replace ho := ite_f c42 ho
    refine lv_iconst (v := (0 : Int32)) hx hb dX2_putThousandths_31 (by decide) ?_
    refine lv_goto (tgt := 39) hx hb dX2_putThousandths_32 (by decide) ?_
    exact J39 _ _ ho _ _ _ hW (lv_sub hl [0] rfl)
noncomputable def x2_compareRows_12_B5 (t : St) (v1 : Int32) (v2 : Int32) (v4 : Int32) : Option ((Int32) ⊕ ((Int32) ⊕ (Unit))) :=
  if v4 < 0 then (some (.inr (.inr ()))) else (gd (v1 + v4) (gN t 12) (gd (v2 + v4) (gN t 12) (if (gA t 12 ((v1 + v4)).toNatClampNeg) = (gA t 12 ((v2 + v4)).toNatClampNeg) then (nm (v4 + (-1 : Int32)) (fun x5 : Int32 => some (.inl x5))) else (some (.inr (.inl v4))))))
noncomputable def x2_compareRows_12 (t : St) (a1 : Int32) (a2 : Int32) (a3 : Int32) : Option (Int32) :=
  nm (a3 - (1 : Int32)) (fun x6 : Int32 => (lp (fun x => x2_compareRows_12_B5 t a1 a2 x) x6).bind (fun y7 => (Sum.elim (fun u9 => gd (a1 + u9) (gN t 12) (gd (a2 + u9) (gN t 12) (if (gA t 12 ((a2 + u9)).toNatClampNeg) ≤ (gA t 12 ((a1 + u9)).toNatClampNeg) then (some (1 : Int32)) else (some (-1 : Int32))))) (fun u9 => some (0 : Int32))) y7))
set_option maxHeartbeats 4000000 in
set_option maxRecDepth 100000 in
theorem x2_compareRows_12_L5 {p : Program} {l : Launch} {e : Env} {s : State} {m : MethodId} {args : Array Value} {below : List Frame} {meth : Method} {c : Code} {Q : State → Prop} {D : va_G} {cI cJ cZ cR : ClassId} {am gm : Nat → Nat} {st : Nat} {A : Nat → Prop} (C0 : cxX p s m args meth c cX2_compareRows RX2 5 (some .int) D (tyX cI cJ cZ cR) st A) {t : St} {v1 : Int32} {v2 : Int32} {y : (Int32) ⊕ (Unit)} (hK0 : ∀ u, y = (.inl u) → ∀ (H : Heap) (locs : List Loc) (ls : Array Slot), wl D A s (wX cI cJ cZ cR am gm t) H locs → lv_has ls 5 [(0, .ref (gm 12)), (1, .int v1), (2, .int v2), (4, .int u)] → W p l e (rmN 0 0) s m args below meth c H locs 0 0 Q (F0 m 25 ls [])) (hK1 : ∀ u, y = (.inr u) → ∀ (H : Heap) (locs : List Loc) (ls : Array Slot), wl D A s (wX cI cJ cZ cR am gm t) H locs → lv_has ls 5 [] → W p l e (rmN 0 0) s m args below meth c H locs 0 0 Q (F0 m 52 ls [])) :
    ∀ (n : Nat) (v4 : Int32), lpn (fun x => x2_compareRows_12_B5 t v1 v2 x) n v4 = some y → ∀ (H : Heap) (locs : List Loc) (ls : Array Slot), wl D A s (wX cI cJ cZ cR am gm t) H locs → lv_has ls 5 [(0, .ref (gm 12)), (1, .int v1), (2, .int v2), (4, .int v4)] → W p l e (rmN 0 0) s m args below meth c H locs 0 0 Q (F0 m 5 ls []) := by
  have hx := C0.1.1
  have hb := C0.1.2.1
  have hta := C0.1.2.2.2.2.2.1
  have hown := C0.1.2.2.2.2.1
  intro n
  induction n with
  | zero => intro _ h; cases h
  | succ n ih =>
    intro v4 hrun H locs ls hW hl
    obtain ⟨o, ho, hrun⟩ := bd_some hrun
    unfold x2_compareRows_12_B5 at ho
    refine lv_iload hx hb dX2_compareRows_5 (lv_at hl 3 rfl) ?_
    refine lv_if_lt (tgt := 52) hx hb dX2_compareRows_7 (by decide) (fun c1 => ?_) (fun c1 => ?_)
    · replace ho := ite_t c1 ho
      cases ho
      cases hrun
      exact hK1 _ rfl _ _ _ hW (lv_sub hl [] rfl)
    · replace ho := ite_f c1 ho
      refine lv_aload_n hx hb dX2_compareRows_10 rfl (lv_at hl 0 rfl) ?_
      refine lv_iload_n hx hb dX2_compareRows_11 rfl (lv_at hl 1 rfl) ?_
      refine lv_iload hx hb dX2_compareRows_12 (lv_at hl 3 rfl) ?_
      refine lv_iadd hx hb dX2_compareRows_14 ?_
      obtain ⟨g2, ho⟩ := gd_some ho
      refine xLD_12 C0 hW g2 dX2_compareRows_15 ?_
      refine lv_aload_n hx hb dX2_compareRows_16 rfl (lv_at hl 0 rfl) ?_
      refine lv_iload_n hx hb dX2_compareRows_17 rfl (lv_at hl 2 rfl) ?_
      refine lv_iload hx hb dX2_compareRows_18 (lv_at hl 3 rfl) ?_
      refine lv_iadd hx hb dX2_compareRows_20 ?_
      obtain ⟨g3, ho⟩ := gd_some ho
      refine xLD_12 C0 hW g3 dX2_compareRows_21 ?_
      refine lv_icmp_eq (tgt := 46) hx hb dX2_compareRows_22 (by decide) (fun c4 => ?_) (fun c4 => ?_)
      · replace ho := ite_t c4 ho
        obtain ⟨x5, ex5, ho⟩ := nm_x ho
        refine lv_iinc (v := x5) (lv' := [(4, .int x5), (0, .ref (gm 12)), (1, .int v1), (2, .int v2)]) hx hb dX2_compareRows_46 hl (k := 3) rfl (by rw [ex5]; rfl) (by decide) rfl (fun ls hl => ?_)
        clear ex5
        refine lv_goto (tgt := 5) hx hb dX2_compareRows_49 (by decide) ?_
        cases ho
        exact ih _ hrun _ _ _ hW (lv_sub hl [1, 2, 3, 0] rfl)
      · replace ho := ite_f c4 ho
        cases ho
        cases hrun
        exact hK0 _ rfl _ _ _ hW (lv_sub hl [0, 1, 2, 3] rfl)
set_option maxHeartbeats 4000000 in
set_option maxRecDepth 100000 in
theorem c_x2_compareRows_12 (l : Launch) {D : va_G} {cI cJ cZ cR : ClassId} {am gm : Nat → Nat} {st : Nat} (sz : Nat) (t : St) (a1 : Int32) (a2 : Int32) (a3 : Int32) {r : Int32} (ho : x2_compareRows_12 t a1 a2 a3 = some r) : Met l yX2_compareRows (.code yX2_compareRows cX2_compareRows 5 (some .int) :: wsAll) (rmN 0 0) (va_Pc [.ref (gm 12), .int a1, .int a2, .int a3] (prX D (tyX cI cJ cZ cR) (wX cI cJ cZ cR am gm t) sz st)) (qI r D (tyX cI cJ cZ cR) (wX cI cJ cZ cR am gm t) (va_A (wX cI cJ cZ cR am gm t) sz)) 0 0 (va_A (wX cI cJ cZ cR am gm t) sz) := by
  refine Met.ofW (cc := cX2_compareRows) (maxL := 5) (ret := (some .int)) (by decide) rfl ?_
  intro p e s m args below meth c s₁ B hml hv
  obtain ⟨rfl, ⟨hsz, hP, hK, hD0⟩, hsx⟩ := hv
  have hx := B.exec
  have hb := B.bytes
  have hts := atoms_spec (ws := (.code yX2_compareRows cX2_compareRows 5 (some .int) :: wsAll)) B.pre
  have hta := fun w h => hts w (List.mem_cons_of_mem _ h)
  have hown : s.vm.findClass RX2 = some m.cls := findClass_of_methodNamed B.named
  have hlocks := B.notSynchronized
  subst hsz
  have hD := hD0.self (sz := s.heap.size)
  generalize hAe : va_A (wX cI cJ cZ cR am gm t) s.heap.size = A at hD ⊢
  have hA : ∀ q : Nat, s.heap.size ≤ q → A q := fun q h => by rw [← hAe]; exact Or.inr h
  have C0 : cxX p s m ([.ref (gm 12), .int a1, .int a2, .int a3].toArray) meth c cX2_compareRows RX2 5 (some .int) D (tyX cI cJ cZ cR) st A := ⟨⟨hx, hb, B.returns, hml, hown, hta, hlocks, hK, hA⟩, by rw [← hAe]; exact hsx⟩
  have hW : wl D A s (wX cI cJ cZ cR am gm t) s.heap [] := ⟨hP, hD, va_S.rf⟩
  have hl := lv_entry [.ref (gm 12), .int a1, .int a2, .int a3] (n := 5) (Nat.le_of_ble_eq_true rfl)
  rw [lg_entry_eq]
  generalize (lg_sl [.ref (gm 12), .int a1, .int a2, .int a3] ++ List.replicate (5 - (lg_sl [.ref (gm 12), .int a1, .int a2, .int a3]).length) Slot.unset).toArray = ls at hl ⊢
  have hl : lv_has ls 5 [(0, .ref (gm 12)), (1, .int a1), (2, .int a2), (3, .int a3)] := hl
  unfold x2_compareRows_12 at ho
  refine lv_iload_n hx hb dX2_compareRows_0 rfl (lv_at hl 3 rfl) ?_
  refine lv_iconst (v := (1 : Int32)) hx hb dX2_compareRows_1 (by decide) ?_
  refine lv_isub hx hb dX2_compareRows_2 ?_
  refine lv_nmi ho (fun x6 ho => ?_)
  refine lv_istore (lv' := [(4, .int x6), (0, .ref (gm 12)), (1, .int a1), (2, .int a2), (3, .int a3)]) hx hb dX2_compareRows_3 hl (by decide) rfl (fun ls hl => ?_)
  obtain ⟨y7, hc8, ho⟩ := bd_some ho
  obtain ⟨ny7, hc8⟩ := lp_to hc8
  refine x2_compareRows_12_L5 C0 ?_ ?_ ny7 _ hc8 _ _ _ hW (lv_sub hl [1, 2, 3, 0] rfl)
  · intro u9 hy H locs ls hW hl
    subst hy
    replace ho := sum_l ho
    refine lv_aload_n hx hb dX2_compareRows_25 rfl (lv_at hl 0 rfl) ?_
    refine lv_iload_n hx hb dX2_compareRows_26 rfl (lv_at hl 1 rfl) ?_
    refine lv_iload hx hb dX2_compareRows_27 (lv_at hl 3 rfl) ?_
    refine lv_iadd hx hb dX2_compareRows_29 ?_
    obtain ⟨g10, ho⟩ := gd_some ho
    refine xLD_12 C0 hW g10 dX2_compareRows_30 ?_
    refine lv_aload_n hx hb dX2_compareRows_31 rfl (lv_at hl 0 rfl) ?_
    refine lv_iload_n hx hb dX2_compareRows_32 rfl (lv_at hl 2 rfl) ?_
    refine lv_iload hx hb dX2_compareRows_33 (lv_at hl 3 rfl) ?_
    refine lv_iadd hx hb dX2_compareRows_35 ?_
    obtain ⟨g11, ho⟩ := gd_some ho
    refine xLD_12 C0 hW g11 dX2_compareRows_36 ?_
    refine lv_icmp_ge (tgt := 44) hx hb dX2_compareRows_37 (by decide) (fun c12 => ?_) (fun c12 => ?_)
    · replace ho := ite_t c12 ho
      refine lv_iconst (v := (1 : Int32)) hx hb dX2_compareRows_44 (by decide) ?_
      cases ho
      exact rtI C0.1 hW dX2_compareRows_45
    · replace ho := ite_f c12 ho
      refine lv_iconst (v := (-1 : Int32)) hx hb dX2_compareRows_40 (by decide) ?_
      refine lv_goto (tgt := 45) hx hb dX2_compareRows_41 (by decide) ?_
      cases ho
      exact rtI C0.1 hW dX2_compareRows_45
  · intro u9 hy H locs ls hW hl
    subst hy
    replace ho := sum_r ho
    refine lv_iconst (v := (0 : Int32)) hx hb dX2_compareRows_52 (by decide) ?_
    cases ho
    exact rtI C0.1 hW dX2_compareRows_53
noncomputable def x2_limbsOf_B19 (t : St) (v3 : Int32) : Option ((Int32) ⊕ (Int32)) :=
  if v3 ≤ 0 then (some (.inr v3)) else (gd (v3 - (1 : Int32)) (gN t 201) (if (gA t 201 ((v3 - (1 : Int32))).toNatClampNeg) = 0 then (nm (v3 + (-1 : Int32)) (fun x4 : Int32 => some (.inl x4))) else (some (.inr v3))))
noncomputable def x2_limbsOf_B100019 (t : St) (v3 : Int32) : Option ((Int32) ⊕ (Int32)) :=
  if v3 ≤ 0 then (some (.inr v3)) else (gd (v3 - (1 : Int32)) (gN t 200) (if (gA t 200 ((v3 - (1 : Int32))).toNatClampNeg) = 0 then (nm (v3 + (-1 : Int32)) (fun x8 : Int32 => some (.inl x8))) else (some (.inr v3))))
noncomputable def x2_limbsOf (t : St) (a1 : Int32) : Option (Int32) :=
  if a1 = 0 then ((lp (fun x => x2_limbsOf_B100019 t x) (6 : Int32)).bind (fun y12 => some y12)) else ((lp (fun x => x2_limbsOf_B19 t x) (6 : Int32)).bind (fun y10 => some y10))
set_option maxHeartbeats 4000000 in
set_option maxRecDepth 100000 in
theorem x2_limbsOf_L19 {p : Program} {l : Launch} {e : Env} {s : State} {m : MethodId} {args : Array Value} {below : List Frame} {meth : Method} {c : Code} {Q : State → Prop} {D : va_G} {cI cJ cZ cR : ClassId} {am gm : Nat → Nat} {st : Nat} {A : Nat → Prop} (C0 : cxX p s m args meth c cX2_limbsOf RX2 4 (some .int) D (tyX cI cJ cZ cR) st A) {t : St} {y : Int32} (hK0 : ∀ (H : Heap) (locs : List Loc) (ls : Array Slot), wl D A s (wX cI cJ cZ cR am gm t) H locs → lv_has ls 4 [(0, .ref (am 1002)), (3, .int y)] → W p l e (rmN 0 0) s m args below meth c H locs 0 0 Q (F0 m 37 ls [])) :
    ∀ (n : Nat) (v3 : Int32), lpn (fun x => x2_limbsOf_B19 t x) n v3 = some y → ∀ (H : Heap) (locs : List Loc) (ls : Array Slot), wl D A s (wX cI cJ cZ cR am gm t) H locs → lv_has ls 4 [(0, .ref (am 1002)), (2, .ref (am 201)), (3, .int v3)] → W p l e (rmN 0 0) s m args below meth c H locs 0 0 Q (F0 m 19 ls []) := by
  have hx := C0.1.1
  have hb := C0.1.2.1
  have hta := C0.1.2.2.2.2.2.1
  have hown := C0.1.2.2.2.2.1
  intro n
  induction n with
  | zero => intro _ h; cases h
  | succ n ih =>
    intro v3 hrun H locs ls hW hl
    obtain ⟨o, ho, hrun⟩ := bd_some hrun
    unfold x2_limbsOf_B19 at ho
    refine lv_iload_n hx hb dX2_limbsOf_19 rfl (lv_at hl 2 rfl) ?_
    refine lv_if_le (tgt := 37) hx hb dX2_limbsOf_20 (by decide) (fun c1 => ?_) (fun c1 => ?_)
    · replace ho := ite_t c1 ho
      cases ho
      cases hrun
      exact hK0 _ _ _ hW (lv_sub hl [0, 2] rfl)
    · replace ho := ite_f c1 ho
      refine lv_aload_n hx hb dX2_limbsOf_23 rfl (lv_at hl 1 rfl) ?_
      refine lv_iload_n hx hb dX2_limbsOf_24 rfl (lv_at hl 2 rfl) ?_
      refine lv_iconst (v := (1 : Int32)) hx hb dX2_limbsOf_25 (by decide) ?_
      refine lv_isub hx hb dX2_limbsOf_26 ?_
      obtain ⟨g2, ho⟩ := gd_some ho
      refine xLD_201 C0 hW g2 dX2_limbsOf_27 ?_
      refine lv_if_ne (tgt := 37) hx hb dX2_limbsOf_28 (by decide) (fun c3 => ?_) (fun c3 => ?_)
      · replace ho := ite_f c3 ho
        cases ho
        cases hrun
        exact hK0 _ _ _ hW (lv_sub hl [0, 2] rfl)
      · replace ho := ite_t c3 ho
        obtain ⟨x4, ex4, ho⟩ := nm_x ho
        refine lv_iinc (v := x4) (lv' := [(3, .int x4), (0, .ref (am 1002)), (2, .ref (am 201))]) hx hb dX2_limbsOf_31 hl (k := 2) rfl (by rw [ex4]; rfl) (by decide) rfl (fun ls hl => ?_)
        clear ex4
        refine lv_goto (tgt := 19) hx hb dX2_limbsOf_34 (by decide) ?_
        cases ho
        exact ih _ hrun _ _ _ hW (lv_sub hl [1, 2, 0] rfl)
set_option maxHeartbeats 4000000 in
set_option maxRecDepth 100000 in
theorem x2_limbsOf_L100019 {p : Program} {l : Launch} {e : Env} {s : State} {m : MethodId} {args : Array Value} {below : List Frame} {meth : Method} {c : Code} {Q : State → Prop} {D : va_G} {cI cJ cZ cR : ClassId} {am gm : Nat → Nat} {st : Nat} {A : Nat → Prop} (C0 : cxX p s m args meth c cX2_limbsOf RX2 4 (some .int) D (tyX cI cJ cZ cR) st A) {t : St} {y : Int32} (hK0 : ∀ (H : Heap) (locs : List Loc) (ls : Array Slot), wl D A s (wX cI cJ cZ cR am gm t) H locs → lv_has ls 4 [(0, .ref (am 1002)), (3, .int y)] → W p l e (rmN 0 0) s m args below meth c H locs 0 0 Q (F0 m 37 ls [])) :
    ∀ (n : Nat) (v3 : Int32), lpn (fun x => x2_limbsOf_B100019 t x) n v3 = some y → ∀ (H : Heap) (locs : List Loc) (ls : Array Slot), wl D A s (wX cI cJ cZ cR am gm t) H locs → lv_has ls 4 [(0, .ref (am 1002)), (2, .ref (am 200)), (3, .int v3)] → W p l e (rmN 0 0) s m args below meth c H locs 0 0 Q (F0 m 19 ls []) := by
  have hx := C0.1.1
  have hb := C0.1.2.1
  have hta := C0.1.2.2.2.2.2.1
  have hown := C0.1.2.2.2.2.1
  intro n
  induction n with
  | zero => intro _ h; cases h
  | succ n ih =>
    intro v3 hrun H locs ls hW hl
    obtain ⟨o, ho, hrun⟩ := bd_some hrun
    unfold x2_limbsOf_B100019 at ho
    refine lv_iload_n hx hb dX2_limbsOf_19 rfl (lv_at hl 2 rfl) ?_
    refine lv_if_le (tgt := 37) hx hb dX2_limbsOf_20 (by decide) (fun c5 => ?_) (fun c5 => ?_)
    · replace ho := ite_t c5 ho
      cases ho
      cases hrun
      exact hK0 _ _ _ hW (lv_sub hl [0, 2] rfl)
    · replace ho := ite_f c5 ho
      refine lv_aload_n hx hb dX2_limbsOf_23 rfl (lv_at hl 1 rfl) ?_
      refine lv_iload_n hx hb dX2_limbsOf_24 rfl (lv_at hl 2 rfl) ?_
      refine lv_iconst (v := (1 : Int32)) hx hb dX2_limbsOf_25 (by decide) ?_
      refine lv_isub hx hb dX2_limbsOf_26 ?_
      obtain ⟨g6, ho⟩ := gd_some ho
      refine xLD_200 C0 hW g6 dX2_limbsOf_27 ?_
      refine lv_if_ne (tgt := 37) hx hb dX2_limbsOf_28 (by decide) (fun c7 => ?_) (fun c7 => ?_)
      · replace ho := ite_f c7 ho
        cases ho
        cases hrun
        exact hK0 _ _ _ hW (lv_sub hl [0, 2] rfl)
      · replace ho := ite_t c7 ho
        obtain ⟨x8, ex8, ho⟩ := nm_x ho
        refine lv_iinc (v := x8) (lv' := [(3, .int x8), (0, .ref (am 1002)), (2, .ref (am 200))]) hx hb dX2_limbsOf_31 hl (k := 2) rfl (by rw [ex8]; rfl) (by decide) rfl (fun ls hl => ?_)
        clear ex8
        refine lv_goto (tgt := 19) hx hb dX2_limbsOf_34 (by decide) ?_
        cases ho
        exact ih _ hrun _ _ _ hW (lv_sub hl [1, 2, 0] rfl)
set_option maxHeartbeats 4000000 in
set_option maxRecDepth 100000 in
theorem c_x2_limbsOf (l : Launch) {D : va_G} {cI cJ cZ cR : ClassId} {am gm : Nat → Nat} {st : Nat} (sz : Nat) (t : St) (a1 : Int32) {r : Int32} (ho : x2_limbsOf t a1 = some r) : Met l yX2_limbsOf (.code yX2_limbsOf cX2_limbsOf 4 (some .int) :: wsAll) (rmN 0 0) (va_Pc [.ref (am 1002), .int a1] (prX D (tyX cI cJ cZ cR) (wX cI cJ cZ cR am gm t) sz st)) (qI r D (tyX cI cJ cZ cR) (wX cI cJ cZ cR am gm t) (va_A (wX cI cJ cZ cR am gm t) sz)) 0 0 (va_A (wX cI cJ cZ cR am gm t) sz) := by
  refine Met.ofW (cc := cX2_limbsOf) (maxL := 4) (ret := (some .int)) (by decide) rfl ?_
  intro p e s m args below meth c s₁ B hml hv
  obtain ⟨rfl, ⟨hsz, hP, hK, hD0⟩, hsx⟩ := hv
  have hx := B.exec
  have hb := B.bytes
  have hts := atoms_spec (ws := (.code yX2_limbsOf cX2_limbsOf 4 (some .int) :: wsAll)) B.pre
  have hta := fun w h => hts w (List.mem_cons_of_mem _ h)
  have hown : s.vm.findClass RX2 = some m.cls := findClass_of_methodNamed B.named
  have hlocks := B.notSynchronized
  subst hsz
  have hD := hD0.self (sz := s.heap.size)
  generalize hAe : va_A (wX cI cJ cZ cR am gm t) s.heap.size = A at hD ⊢
  have hA : ∀ q : Nat, s.heap.size ≤ q → A q := fun q h => by rw [← hAe]; exact Or.inr h
  have C0 : cxX p s m ([.ref (am 1002), .int a1].toArray) meth c cX2_limbsOf RX2 4 (some .int) D (tyX cI cJ cZ cR) st A := ⟨⟨hx, hb, B.returns, hml, hown, hta, hlocks, hK, hA⟩, by rw [← hAe]; exact hsx⟩
  have hW : wl D A s (wX cI cJ cZ cR am gm t) s.heap [] := ⟨hP, hD, va_S.rf⟩
  have hl := lv_entry [.ref (am 1002), .int a1] (n := 4) (Nat.le_of_ble_eq_true rfl)
  rw [lg_entry_eq]
  generalize (lg_sl [.ref (am 1002), .int a1] ++ List.replicate (4 - (lg_sl [.ref (am 1002), .int a1]).length) Slot.unset).toArray = ls at hl ⊢
  have hl : lv_has ls 4 [(0, .ref (am 1002)), (1, .int a1)] := hl
  unfold x2_limbsOf at ho
  refine lv_iload_n hx hb dX2_limbsOf_0 rfl (lv_at hl 1 rfl) ?_
  refine lv_if_ne (tgt := 11) hx hb dX2_limbsOf_1 (by decide) (fun c9 => ?_) (fun c9 => ?_)
  · replace ho := ite_f c9 ho
    refine lv_aload_n hx hb dX2_limbsOf_11 rfl (lv_at hl 0 rfl) ?_
    refine xGET_201 C0 kw_370 hW dX2_limbsOf_12 ?_
    refine lv_astore_n (lv' := [(2, .ref (am 201)), (0, .ref (am 1002)), (1, .int a1)]) hx hb dX2_limbsOf_15 rfl hl (by decide) rfl (fun ls hl => ?_)
    refine lv_bipush (v := (6 : Int32)) hx hb dX2_limbsOf_16 (by decide) ?_
    refine lv_istore_n (lv' := [(3, .int (6 : Int32)), (2, .ref (am 201)), (0, .ref (am 1002)), (1, .int a1)]) hx hb dX2_limbsOf_18 rfl hl (by decide) rfl (fun ls hl => ?_)
    obtain ⟨y10, hc11, ho⟩ := bd_some ho
    obtain ⟨ny10, hc11⟩ := lp_to hc11
    refine x2_limbsOf_L19 C0 ?_ ny10 _ hc11 _ _ _ hW (lv_sub hl [2, 1, 0] rfl)
    intro H locs ls hW hl
    refine lv_iload_n hx hb dX2_limbsOf_37 rfl (lv_at hl 1 rfl) ?_
    cases ho
    exact rtI C0.1 hW dX2_limbsOf_38
  · replace ho := ite_t c9 ho
    refine lv_aload_n hx hb dX2_limbsOf_4 rfl (lv_at hl 0 rfl) ?_
    refine xGET_200 C0 kw_369 hW dX2_limbsOf_5 ?_
    refine lv_goto (tgt := 15) hx hb dX2_limbsOf_8 (by decide) ?_
    refine lv_astore_n (lv' := [(2, .ref (am 200)), (0, .ref (am 1002)), (1, .int a1)]) hx hb dX2_limbsOf_15 rfl hl (by decide) rfl (fun ls hl => ?_)
    refine lv_bipush (v := (6 : Int32)) hx hb dX2_limbsOf_16 (by decide) ?_
    refine lv_istore_n (lv' := [(3, .int (6 : Int32)), (2, .ref (am 200)), (0, .ref (am 1002)), (1, .int a1)]) hx hb dX2_limbsOf_18 rfl hl (by decide) rfl (fun ls hl => ?_)
    obtain ⟨y12, hc13, ho⟩ := bd_some ho
    obtain ⟨ny12, hc13⟩ := lp_to hc13
    refine x2_limbsOf_L100019 C0 ?_ ny12 _ hc13 _ _ _ hW (lv_sub hl [2, 1, 0] rfl)
    intro H locs ls hW hl
    refine lv_iload_n hx hb dX2_limbsOf_37 rfl (lv_at hl 1 rfl) ?_
    cases ho
    exact rtI C0.1 hW dX2_limbsOf_38
noncomputable def x11_limbs (t : St) (a1 : Int32) : Option (Int32) :=
  (x11_outside t a1 (0 : Int32) (1 : Int32)).bind (fun q1 => if q1 = 0 then ((x2_limbsOf t a1).bind (fun q5 => some q5)) else (some (-2 : Int32)))
set_option maxHeartbeats 4000000 in
set_option maxRecDepth 100000 in
theorem c_x11_limbs (l : Launch) {D : va_G} {cI cJ cZ cR : ClassId} {am gm : Nat → Nat} {st : Nat} (sz : Nat) (t : St) (a1 : Int32) {r : Int32} (ho : x11_limbs t a1 = some r) : Met l yX11_limbs (.code yX11_limbs cX11_limbs 2 (some .int) :: wsAll) (rmN 1 23) (va_Pc [.ref (am 1011), .int a1] (prX D (tyX cI cJ cZ cR) (wX cI cJ cZ cR am gm t) sz st)) (qI r D (tyX cI cJ cZ cR) (wX cI cJ cZ cR am gm t) (va_A (wX cI cJ cZ cR am gm t) sz)) 0 0 (va_A (wX cI cJ cZ cR am gm t) sz) := by
  refine Met.ofW (cc := cX11_limbs) (maxL := 2) (ret := (some .int)) (by decide) rfl ?_
  intro p e s m args below meth c s₁ B hml hv
  obtain ⟨rfl, ⟨hsz, hP, hK, hD0⟩, hsx⟩ := hv
  have hx := B.exec
  have hb := B.bytes
  have hts := atoms_spec (ws := (.code yX11_limbs cX11_limbs 2 (some .int) :: wsAll)) B.pre
  have hta := fun w h => hts w (List.mem_cons_of_mem _ h)
  have hown : s.vm.findClass RX11 = some m.cls := findClass_of_methodNamed B.named
  have hlocks := B.notSynchronized
  subst hsz
  have hD := hD0.self (sz := s.heap.size)
  generalize hAe : va_A (wX cI cJ cZ cR am gm t) s.heap.size = A at hD ⊢
  have hA : ∀ q : Nat, s.heap.size ≤ q → A q := fun q h => by rw [← hAe]; exact Or.inr h
  have C0 : cxX p s m ([.ref (am 1011), .int a1].toArray) meth c cX11_limbs RX11 2 (some .int) D (tyX cI cJ cZ cR) st A := ⟨⟨hx, hb, B.returns, hml, hown, hta, hlocks, hK, hA⟩, by rw [← hAe]; exact hsx⟩
  have hW : wl D A s (wX cI cJ cZ cR am gm t) s.heap [] := ⟨hP, hD, va_S.rf⟩
  have hl := lv_entry [.ref (am 1011), .int a1] (n := 2) (Nat.le_of_ble_eq_true rfl)
  rw [lg_entry_eq]
  generalize (lg_sl [.ref (am 1011), .int a1] ++ List.replicate (2 - (lg_sl [.ref (am 1011), .int a1]).length) Slot.unset).toArray = ls at hl ⊢
  have hl : lv_has ls 2 [(0, .ref (am 1011)), (1, .int a1)] := hl
  unfold x11_limbs at ho
  refine lv_iload_n hx hb dX11_limbs_0 rfl (lv_at hl 1 rfl) ?_
  refine lv_iconst (v := (0 : Int32)) hx hb dX11_limbs_1 (by decide) ?_
  refine lv_iconst (v := (1 : Int32)) hx hb dX11_limbs_2 (by decide) ?_
  obtain ⟨q1, hc2, ho⟩ := bd_some ho
  refine bkZ C0.1 hW (runSX (As := [.int a1, .int (0 : Int32), .int (1 : Int32)]) (rest := []) C0 hW (c_x11_outside l _ t a1 (0 : Int32) (1 : Int32) (r := q1) hc2) cb_X11_X11_outside_102 rfl rfl ⟨rfl, rfl⟩ ⟨Nat.le_of_ble_eq_true rfl, Nat.le_of_ble_eq_true rfl⟩ (Nat.le_of_ble_eq_true rfl) hl.1 dX11_limbs_3 ⟨Nat.le_of_ble_eq_true rfl, Nat.le_of_ble_eq_true rfl⟩) (fun z3 H locs hW => ?_)
  refine lv_if_eq (tgt := 12) hx hb dX11_limbs_6 (by decide) (fun c4 => ?_) (fun c4 => ?_)
  · replace ho := ite_t c4 ho
    refine lv_aload_n hx hb dX11_limbs_12 rfl (lv_at hl 0 rfl) ?_
    refine xGET_1105 C0 kw_596 hW dX11_limbs_13 ?_
    refine lv_iload_n hx hb dX11_limbs_16 rfl (lv_at hl 1 rfl) ?_
    obtain ⟨q5, hc6, ho⟩ := bd_some ho
    refine bkI C0.1 hW (runVX (As := [.int a1]) (rest := []) C0 hW (c_x2_limbsOf l _ t a1 (r := q5) hc6) cb_X11_X2_limbsOf_240 2 2 rfl rfl rfl rfl rfl ⟨rfl, rfl⟩ ⟨Nat.le_of_ble_eq_true rfl, Nat.le_of_ble_eq_true rfl⟩ (Nat.le_of_ble_eq_true rfl) hl.1 dX11_limbs_17 ⟨Nat.le_of_ble_eq_true rfl, Nat.le_of_ble_eq_true rfl⟩) (fun H locs hW => ?_)
    cases ho
    exact rtI C0.1 hW dX11_limbs_20
  · replace ho := ite_f c4 ho
    refine lv_bipush (v := (-2 : Int32)) hx hb dX11_limbs_9 (by decide) ?_
    cases ho
    exact rtI C0.1 hW dX11_limbs_11
noncomputable def x2_limbOf (t : St) (a1 : Int32) (a2 : Int32) : Option (Int32) :=
  if a1 = 0 then (gd a2 (gN t 200) (some (gA t 200 (a2).toNatClampNeg))) else (gd a2 (gN t 201) (some (gA t 201 (a2).toNatClampNeg)))
set_option maxHeartbeats 4000000 in
set_option maxRecDepth 100000 in
theorem c_x2_limbOf (l : Launch) {D : va_G} {cI cJ cZ cR : ClassId} {am gm : Nat → Nat} {st : Nat} (sz : Nat) (t : St) (a1 : Int32) (a2 : Int32) {r : Int32} (ho : x2_limbOf t a1 a2 = some r) : Met l yX2_limbOf (.code yX2_limbOf cX2_limbOf 3 (some .int) :: wsAll) (rmN 0 0) (va_Pc [.ref (am 1002), .int a1, .int a2] (prX D (tyX cI cJ cZ cR) (wX cI cJ cZ cR am gm t) sz st)) (qI r D (tyX cI cJ cZ cR) (wX cI cJ cZ cR am gm t) (va_A (wX cI cJ cZ cR am gm t) sz)) 0 0 (va_A (wX cI cJ cZ cR am gm t) sz) := by
  refine Met.ofW (cc := cX2_limbOf) (maxL := 3) (ret := (some .int)) (by decide) rfl ?_
  intro p e s m args below meth c s₁ B hml hv
  obtain ⟨rfl, ⟨hsz, hP, hK, hD0⟩, hsx⟩ := hv
  have hx := B.exec
  have hb := B.bytes
  have hts := atoms_spec (ws := (.code yX2_limbOf cX2_limbOf 3 (some .int) :: wsAll)) B.pre
  have hta := fun w h => hts w (List.mem_cons_of_mem _ h)
  have hown : s.vm.findClass RX2 = some m.cls := findClass_of_methodNamed B.named
  have hlocks := B.notSynchronized
  subst hsz
  have hD := hD0.self (sz := s.heap.size)
  generalize hAe : va_A (wX cI cJ cZ cR am gm t) s.heap.size = A at hD ⊢
  have hA : ∀ q : Nat, s.heap.size ≤ q → A q := fun q h => by rw [← hAe]; exact Or.inr h
  have C0 : cxX p s m ([.ref (am 1002), .int a1, .int a2].toArray) meth c cX2_limbOf RX2 3 (some .int) D (tyX cI cJ cZ cR) st A := ⟨⟨hx, hb, B.returns, hml, hown, hta, hlocks, hK, hA⟩, by rw [← hAe]; exact hsx⟩
  have hW : wl D A s (wX cI cJ cZ cR am gm t) s.heap [] := ⟨hP, hD, va_S.rf⟩
  have hl := lv_entry [.ref (am 1002), .int a1, .int a2] (n := 3) (Nat.le_of_ble_eq_true rfl)
  rw [lg_entry_eq]
  generalize (lg_sl [.ref (am 1002), .int a1, .int a2] ++ List.replicate (3 - (lg_sl [.ref (am 1002), .int a1, .int a2]).length) Slot.unset).toArray = ls at hl ⊢
  have hl : lv_has ls 3 [(0, .ref (am 1002)), (1, .int a1), (2, .int a2)] := hl
  unfold x2_limbOf at ho
  refine lv_iload_n hx hb dX2_limbOf_0 rfl (lv_at hl 1 rfl) ?_
  refine lv_if_ne (tgt := 13) hx hb dX2_limbOf_1 (by decide) (fun c1 => ?_) (fun c1 => ?_)
  · replace ho := ite_f c1 ho
    refine lv_aload_n hx hb dX2_limbOf_13 rfl (lv_at hl 0 rfl) ?_
    refine xGET_201 C0 kw_370 hW dX2_limbOf_14 ?_
    refine lv_iload_n hx hb dX2_limbOf_17 rfl (lv_at hl 2 rfl) ?_
    obtain ⟨g2, ho⟩ := gd_some ho
    refine xLD_201 C0 hW g2 dX2_limbOf_18 ?_
    cases ho
    exact rtI C0.1 hW dX2_limbOf_19
  · replace ho := ite_t c1 ho
    refine lv_aload_n hx hb dX2_limbOf_4 rfl (lv_at hl 0 rfl) ?_
    refine xGET_200 C0 kw_369 hW dX2_limbOf_5 ?_
    refine lv_iload_n hx hb dX2_limbOf_8 rfl (lv_at hl 2 rfl) ?_
    obtain ⟨g3, ho⟩ := gd_some ho
    refine xLD_200 C0 hW g3 dX2_limbOf_9 ?_
    refine lv_goto (tgt := 19) hx hb dX2_limbOf_10 (by decide) ?_
    cases ho
    exact rtI C0.1 hW dX2_limbOf_19
noncomputable def x11_limb (t : St) (a1 : Int32) (a2 : Int32) : Option (Int32) :=
  (x11_outside t a1 (0 : Int32) (1 : Int32)).bind (fun q1 => if q1 = 0 then (if 0 ≤ a2 then ((x2_limbsOf t a1).bind (fun q6 => if q6 ≤ a2 then (some (-1 : Int32)) else ((x2_limbOf t a1 a2).bind (fun q9 => some q9)))) else (some (-2 : Int32))) else (some (-2 : Int32)))
set_option maxHeartbeats 4000000 in
set_option maxRecDepth 100000 in
theorem c_x11_limb (l : Launch) {D : va_G} {cI cJ cZ cR : ClassId} {am gm : Nat → Nat} {st : Nat} (sz : Nat) (t : St) (a1 : Int32) (a2 : Int32) {r : Int32} (ho : x11_limb t a1 a2 = some r) : Met l yX11_limb (.code yX11_limb cX11_limb 3 (some .int) :: wsAll) (rmN 1 23) (va_Pc [.ref (am 1011), .int a1, .int a2] (prX D (tyX cI cJ cZ cR) (wX cI cJ cZ cR am gm t) sz st)) (qI r D (tyX cI cJ cZ cR) (wX cI cJ cZ cR am gm t) (va_A (wX cI cJ cZ cR am gm t) sz)) 0 0 (va_A (wX cI cJ cZ cR am gm t) sz) := by
  refine Met.ofW (cc := cX11_limb) (maxL := 3) (ret := (some .int)) (by decide) rfl ?_
  intro p e s m args below meth c s₁ B hml hv
  obtain ⟨rfl, ⟨hsz, hP, hK, hD0⟩, hsx⟩ := hv
  have hx := B.exec
  have hb := B.bytes
  have hts := atoms_spec (ws := (.code yX11_limb cX11_limb 3 (some .int) :: wsAll)) B.pre
  have hta := fun w h => hts w (List.mem_cons_of_mem _ h)
  have hown : s.vm.findClass RX11 = some m.cls := findClass_of_methodNamed B.named
  have hlocks := B.notSynchronized
  subst hsz
  have hD := hD0.self (sz := s.heap.size)
  generalize hAe : va_A (wX cI cJ cZ cR am gm t) s.heap.size = A at hD ⊢
  have hA : ∀ q : Nat, s.heap.size ≤ q → A q := fun q h => by rw [← hAe]; exact Or.inr h
  have C0 : cxX p s m ([.ref (am 1011), .int a1, .int a2].toArray) meth c cX11_limb RX11 3 (some .int) D (tyX cI cJ cZ cR) st A := ⟨⟨hx, hb, B.returns, hml, hown, hta, hlocks, hK, hA⟩, by rw [← hAe]; exact hsx⟩
  have hW : wl D A s (wX cI cJ cZ cR am gm t) s.heap [] := ⟨hP, hD, va_S.rf⟩
  have hl := lv_entry [.ref (am 1011), .int a1, .int a2] (n := 3) (Nat.le_of_ble_eq_true rfl)
  rw [lg_entry_eq]
  generalize (lg_sl [.ref (am 1011), .int a1, .int a2] ++ List.replicate (3 - (lg_sl [.ref (am 1011), .int a1, .int a2]).length) Slot.unset).toArray = ls at hl ⊢
  have hl : lv_has ls 3 [(0, .ref (am 1011)), (1, .int a1), (2, .int a2)] := hl
  unfold x11_limb at ho
  refine lv_iload_n hx hb dX11_limb_0 rfl (lv_at hl 1 rfl) ?_
  refine lv_iconst (v := (0 : Int32)) hx hb dX11_limb_1 (by decide) ?_
  refine lv_iconst (v := (1 : Int32)) hx hb dX11_limb_2 (by decide) ?_
  obtain ⟨q1, hc2, ho⟩ := bd_some ho
  refine bkZ C0.1 hW (runSX (As := [.int a1, .int (0 : Int32), .int (1 : Int32)]) (rest := []) C0 hW (c_x11_outside l _ t a1 (0 : Int32) (1 : Int32) (r := q1) hc2) cb_X11_X11_outside_102 rfl rfl ⟨rfl, rfl⟩ ⟨Nat.le_of_ble_eq_true rfl, Nat.le_of_ble_eq_true rfl⟩ (Nat.le_of_ble_eq_true rfl) hl.1 dX11_limb_3 ⟨Nat.le_of_ble_eq_true rfl, Nat.le_of_ble_eq_true rfl⟩) (fun z3 H locs hW => ?_)
  refine lv_if_ne (tgt := 13) hx hb dX11_limb_6 (by decide) (fun c4 => ?_) (fun c4 => ?_)
  · replace ho := ite_f c4 ho
    refine lv_bipush (v := (-2 : Int32)) hx hb dX11_limb_13 (by decide) ?_
    cases ho
    exact rtI C0.1 hW dX11_limb_15
  · replace ho := ite_t c4 ho
    refine lv_iload_n hx hb dX11_limb_9 rfl (lv_at hl 2 rfl) ?_
    refine lv_if_ge (tgt := 16) hx hb dX11_limb_10 (by decide) (fun c5 => ?_) (fun c5 => ?_)
    · replace ho := ite_t c5 ho
      refine lv_iload_n hx hb dX11_limb_16 rfl (lv_at hl 2 rfl) ?_
      refine lv_aload_n hx hb dX11_limb_17 rfl (lv_at hl 0 rfl) ?_
      refine xGET_1105 C0 kw_596 hW dX11_limb_18 ?_
      refine lv_iload_n hx hb dX11_limb_21 rfl (lv_at hl 1 rfl) ?_
      obtain ⟨q6, hc7, ho⟩ := bd_some ho
      refine bkI C0.1 hW (runVX (As := [.int a1]) (rest := [.int a2]) C0 hW (c_x2_limbsOf l _ t a1 (r := q6) hc7) cb_X11_X2_limbsOf_240 2 2 rfl rfl rfl rfl rfl ⟨rfl, rfl⟩ ⟨Nat.le_of_ble_eq_true rfl, Nat.le_of_ble_eq_true rfl⟩ (Nat.le_of_ble_eq_true rfl) hl.1 dX11_limb_22 ⟨Nat.le_of_ble_eq_true rfl, Nat.le_of_ble_eq_true rfl⟩) (fun H locs hW => ?_)
      refine lv_icmp_ge (tgt := 40) hx hb dX11_limb_25 (by decide) (fun c8 => ?_) (fun c8 => ?_)
      · replace ho := ite_t c8 ho
        refine lv_iconst (v := (-1 : Int32)) hx hb dX11_limb_40 (by decide) ?_
        cases ho
        exact rtI C0.1 hW dX11_limb_41
      · replace ho := ite_f c8 ho
        refine lv_aload_n hx hb dX11_limb_28 rfl (lv_at hl 0 rfl) ?_
        refine xGET_1105 C0 kw_596 hW dX11_limb_29 ?_
        refine lv_iload_n hx hb dX11_limb_32 rfl (lv_at hl 1 rfl) ?_
        refine lv_iload_n hx hb dX11_limb_33 rfl (lv_at hl 2 rfl) ?_
        obtain ⟨q9, hc10, ho⟩ := bd_some ho
        refine bkI C0.1 hW (runVX (As := [.int a1, .int a2]) (rest := []) C0 hW (c_x2_limbOf l _ t a1 a2 (r := q9) hc10) cb_X11_X2_limbOf_243 2 2 rfl rfl rfl rfl rfl ⟨rfl, rfl⟩ ⟨Nat.le_of_ble_eq_true rfl, Nat.le_of_ble_eq_true rfl⟩ (Nat.le_of_ble_eq_true rfl) hl.1 dX11_limb_34 ⟨Nat.le_of_ble_eq_true rfl, Nat.le_of_ble_eq_true rfl⟩) (fun H locs hW => ?_)
        refine lv_goto (tgt := 41) hx hb dX11_limb_37 (by decide) ?_
        cases ho
        exact rtI C0.1 hW dX11_limb_41
    · replace ho := ite_f c5 ho
      refine lv_bipush (v := (-2 : Int32)) hx hb dX11_limb_13 (by decide) ?_
      cases ho
      exact rtI C0.1 hW dX11_limb_15
noncomputable def x11_holds (t : St) (a1 : Int32) (a2 : Int32) : Option (Int32 × St) :=
  (x11_noNet t a1).bind (fun q1 => if q1 = 0 then ((x11_outside t a2 (0 : Int32) (((1 : Int32) <<< ((gI t 402) &&& 31)) - (1 : Int32))).bind (fun q5 => if q5 = 0 then (gd a1 (gN t 602) (nm (gA t 602 (a1).toNatClampNeg) (fun x10 : Int32 => if 0 ≤ x10 then (gd a2 (gN t 403) ((x6_isReachedBy t x10 ((65535 : Int32) &&& ((gA t 403 (a2).toNatClampNeg) ^^^ (-1 : Int32)))).bind (fun q13 => if q13.1 = 0 then (some ((1 : Int32), q13.2)) else (some ((0 : Int32), q13.2))))) else (some ((-3 : Int32), t))))) else (some ((-2 : Int32), t)))) else (some ((-2 : Int32), t)))
set_option maxHeartbeats 4000000 in
set_option maxRecDepth 100000 in
theorem c_x11_holds (l : Launch) {D : va_G} {cI cJ cZ cR : ClassId} {am gm : Nat → Nat} {st : Nat} (sz : Nat) (t : St) (a1 : Int32) (a2 : Int32) {r : Int32} {t' : St} (ho : x11_holds t a1 a2 = some (r, t')) : Met l yX11_holds (.code yX11_holds cX11_holds 4 (some .int) :: wsAll) (rmN 3 69) (va_Pc [.ref (am 1011), .int a1, .int a2] (prX D (tyX cI cJ cZ cR) (wX cI cJ cZ cR am gm t) sz st)) (qI r D (tyX cI cJ cZ cR) (wX cI cJ cZ cR am gm t') (va_A (wX cI cJ cZ cR am gm t) sz)) 0 0 (va_A (wX cI cJ cZ cR am gm t) sz) := by
  refine Met.ofW (cc := cX11_holds) (maxL := 4) (ret := (some .int)) (by decide) rfl ?_
  intro p e s m args below meth c s₁ B hml hv
  obtain ⟨rfl, ⟨hsz, hP, hK, hD0⟩, hsx⟩ := hv
  have hx := B.exec
  have hb := B.bytes
  have hts := atoms_spec (ws := (.code yX11_holds cX11_holds 4 (some .int) :: wsAll)) B.pre
  have hta := fun w h => hts w (List.mem_cons_of_mem _ h)
  have hown : s.vm.findClass RX11 = some m.cls := findClass_of_methodNamed B.named
  have hlocks := B.notSynchronized
  subst hsz
  have hD := hD0.self (sz := s.heap.size)
  generalize hAe : va_A (wX cI cJ cZ cR am gm t) s.heap.size = A at hD ⊢
  have hA : ∀ q : Nat, s.heap.size ≤ q → A q := fun q h => by rw [← hAe]; exact Or.inr h
  have C0 : cxX p s m ([.ref (am 1011), .int a1, .int a2].toArray) meth c cX11_holds RX11 4 (some .int) D (tyX cI cJ cZ cR) st A := ⟨⟨hx, hb, B.returns, hml, hown, hta, hlocks, hK, hA⟩, by rw [← hAe]; exact hsx⟩
  have hW : wl D A s (wX cI cJ cZ cR am gm t) s.heap [] := ⟨hP, hD, va_S.rf⟩
  have hl := lv_entry [.ref (am 1011), .int a1, .int a2] (n := 4) (Nat.le_of_ble_eq_true rfl)
  rw [lg_entry_eq]
  generalize (lg_sl [.ref (am 1011), .int a1, .int a2] ++ List.replicate (4 - (lg_sl [.ref (am 1011), .int a1, .int a2]).length) Slot.unset).toArray = ls at hl ⊢
  have hl : lv_has ls 4 [(0, .ref (am 1011)), (1, .int a1), (2, .int a2)] := hl
  unfold x11_holds at ho
  refine lv_iload_n hx hb dX11_holds_0 rfl (lv_at hl 1 rfl) ?_
  obtain ⟨q1, hc2, ho⟩ := bd_some ho
  refine bkZ C0.1 hW (runSX (As := [.int a1]) (rest := []) C0 hW (c_x11_noNet l _ t a1 (r := q1) hc2) cb_X11_X11_noNet_124 rfl rfl ⟨rfl, rfl⟩ ⟨Nat.le_of_ble_eq_true rfl, Nat.le_of_ble_eq_true rfl⟩ (Nat.le_of_ble_eq_true rfl) hl.1 dX11_holds_1 ⟨Nat.le_of_ble_eq_true rfl, Nat.le_of_ble_eq_true rfl⟩) (fun z3 H locs hW => ?_)
  refine lv_if_ne (tgt := 26) hx hb dX11_holds_4 (by decide) (fun c4 => ?_) (fun c4 => ?_)
  · replace ho := ite_f c4 ho
    refine lv_bipush (v := (-2 : Int32)) hx hb dX11_holds_26 (by decide) ?_
    cases ho
    exact rtI C0.1 hW dX11_holds_28
  · replace ho := ite_t c4 ho
    refine lv_iload_n hx hb dX11_holds_7 rfl (lv_at hl 2 rfl) ?_
    refine lv_iconst (v := (0 : Int32)) hx hb dX11_holds_8 (by decide) ?_
    refine lv_iconst (v := (1 : Int32)) hx hb dX11_holds_9 (by decide) ?_
    refine lv_aload_n hx hb dX11_holds_10 rfl (lv_at hl 0 rfl) ?_
    refine xGET_1107 C0 kw_598 hW dX11_holds_11 ?_
    refine xGET_402 C0 kw_442 hW dX11_holds_14 ?_
    refine lv_ishl hx hb dX11_holds_17 ?_
    refine lv_iconst (v := (1 : Int32)) hx hb dX11_holds_18 (by decide) ?_
    refine lv_isub hx hb dX11_holds_19 ?_
    obtain ⟨q5, hc6, ho⟩ := bd_some ho
    refine bkZ C0.1 hW (runSX (As := [.int a2, .int (0 : Int32), .int (((1 : Int32) <<< ((gI t 402) &&& 31)) - (1 : Int32))]) (rest := []) C0 hW (c_x11_outside l _ t a2 (0 : Int32) (((1 : Int32) <<< ((gI t 402) &&& 31)) - (1 : Int32)) (r := q5) hc6) cb_X11_X11_outside_102 rfl rfl ⟨rfl, rfl⟩ ⟨Nat.le_of_ble_eq_true rfl, Nat.le_of_ble_eq_true rfl⟩ (Nat.le_of_ble_eq_true rfl) hl.1 dX11_holds_20 ⟨Nat.le_of_ble_eq_true rfl, Nat.le_of_ble_eq_true rfl⟩) (fun z7 H locs hW => ?_)
    refine lv_if_eq (tgt := 29) hx hb dX11_holds_23 (by decide) (fun c8 => ?_) (fun c8 => ?_)
    · replace ho := ite_t c8 ho
      refine lv_aload_n hx hb dX11_holds_29 rfl (lv_at hl 0 rfl) ?_
      refine xGET_1101 C0 kw_592 hW dX11_holds_30 ?_
      refine xGET_602 C0 kw_184 hW dX11_holds_33 ?_
      refine lv_iload_n hx hb dX11_holds_36 rfl (lv_at hl 1 rfl) ?_
      obtain ⟨g9, ho⟩ := gd_some ho
      refine xLD_602 C0 hW g9 dX11_holds_37 ?_
      refine lv_nmi ho (fun x10 ho => ?_)
      refine lv_istore_n (lv' := [(3, .int x10), (0, .ref (am 1011)), (1, .int a1), (2, .int a2)]) hx hb dX11_holds_38 rfl hl (by decide) rfl (fun ls hl => ?_)
      refine lv_iload_n hx hb dX11_holds_39 rfl (lv_at hl 0 rfl) ?_
      refine lv_if_ge (tgt := 46) hx hb dX11_holds_40 (by decide) (fun c11 => ?_) (fun c11 => ?_)
      · replace ho := ite_t c11 ho
        refine lv_aload_n hx hb dX11_holds_46 rfl (lv_at hl 1 rfl) ?_
        refine xGET_1101 C0 kw_592 hW dX11_holds_47 ?_
        refine lv_iload_n hx hb dX11_holds_50 rfl (lv_at hl 0 rfl) ?_
        refine lv_ldc hx hb hown (hta _ kw_798) dX11_holds_51 ?_
        refine lv_aload_n hx hb dX11_holds_53 rfl (lv_at hl 1 rfl) ?_
        refine xGET_1107 C0 kw_598 hW dX11_holds_54 ?_
        refine xGET_403 C0 kw_444 hW dX11_holds_57 ?_
        refine lv_iload_n hx hb dX11_holds_60 rfl (lv_at hl 3 rfl) ?_
        obtain ⟨g12, ho⟩ := gd_some ho
        refine xLD_403 C0 hW g12 dX11_holds_61 ?_
        refine lv_iconst (v := (-1 : Int32)) hx hb dX11_holds_62 (by decide) ?_
        refine lv_ixor hx hb dX11_holds_63 ?_
        refine lv_iand hx hb dX11_holds_64 ?_
        obtain ⟨q13, hc14, ho⟩ := bd_some ho
        refine bkZ C0.1 hW (runVX (As := [.int x10, .int ((65535 : Int32) &&& ((gA t 403 (a2).toNatClampNeg) ^^^ (-1 : Int32)))]) (rest := []) C0 hW (c_x6_isReachedBy l _ t x10 ((65535 : Int32) &&& ((gA t 403 (a2).toNatClampNeg) ^^^ (-1 : Int32))) (r := q13.1) (t' := q13.2) hc14) cb_X11_X6_isReachedBy_163 6 6 rfl rfl rfl rfl rfl ⟨rfl, rfl⟩ ⟨Nat.le_of_ble_eq_true rfl, Nat.le_of_ble_eq_true rfl⟩ (Nat.le_of_ble_eq_true rfl) hl.1 dX11_holds_65 ⟨Nat.le_of_ble_eq_true rfl, Nat.le_of_ble_eq_true rfl⟩) (fun z15 H locs hW => ?_)
        refine lv_if_eq (tgt := 75) hx hb dX11_holds_68 (by decide) (fun c16 => ?_) (fun c16 => ?_)
        · replace ho := ite_t c16 ho
          refine lv_iconst (v := (1 : Int32)) hx hb dX11_holds_75 (by decide) ?_
          cases ho
          exact rtI C0.1 hW dX11_holds_76
        · replace ho := ite_f c16 ho
          refine lv_iconst (v := (0 : Int32)) hx hb dX11_holds_71 (by decide) ?_
          refine lv_goto (tgt := 76) hx hb dX11_holds_72 (by decide) ?_
          cases ho
          exact rtI C0.1 hW dX11_holds_76
      · replace ho := ite_f c11 ho
        refine lv_bipush (v := (-3 : Int32)) hx hb dX11_holds_43 (by decide) ?_
        cases ho
        exact rtI C0.1 hW dX11_holds_45
    · replace ho := ite_f c8 ho
      refine lv_bipush (v := (-2 : Int32)) hx hb dX11_holds_26 (by decide) ?_
      cases ho
      exact rtI C0.1 hW dX11_holds_28
noncomputable def x4_isCheaper (t : St) (a1 : Int32) (a2 : Int32) : Option (Int32) :=
  gd a1 (gN t 404) (gd a2 (gN t 404) (if (gA t 404 (a1).toNatClampNeg) = (gA t 404 (a2).toNatClampNeg) then ((j6_bitCount_0f7a4 t a1).bind (fun q4 => (j6_bitCount_0f7a4 t a2).bind (fun q6 => if q6 ≤ q4 then (some (0 : Int32)) else (some (1 : Int32))))) else (gd a1 (gN t 404) (gd a2 (gN t 404) (if (gA t 404 (a2).toNatClampNeg) ≤ (gA t 404 (a1).toNatClampNeg) then (some (0 : Int32)) else (some (1 : Int32)))))))
set_option maxHeartbeats 4000000 in
set_option maxRecDepth 100000 in
theorem c_x4_isCheaper (l : Launch) {D : va_G} {cI cJ cZ cR : ClassId} {am gm : Nat → Nat} {st : Nat} (sz : Nat) (t : St) (a1 : Int32) (a2 : Int32) {r : Int32} (ho : x4_isCheaper t a1 a2 = some r) : Met l yX4_isCheaper (.code yX4_isCheaper cX4_isCheaper 3 (some .boolean) :: wsAll) (rmN 1 20) (va_Pc [.ref (am 1004), .int a1, .int a2] (prX D (tyX cI cJ cZ cR) (wX cI cJ cZ cR am gm t) sz st)) (qZ r D (tyX cI cJ cZ cR) (wX cI cJ cZ cR am gm t) (va_A (wX cI cJ cZ cR am gm t) sz)) 0 0 (va_A (wX cI cJ cZ cR am gm t) sz) := by
  refine Met.ofW (cc := cX4_isCheaper) (maxL := 3) (ret := (some .boolean)) (by decide) rfl ?_
  intro p e s m args below meth c s₁ B hml hv
  obtain ⟨rfl, ⟨hsz, hP, hK, hD0⟩, hsx⟩ := hv
  have hx := B.exec
  have hb := B.bytes
  have hts := atoms_spec (ws := (.code yX4_isCheaper cX4_isCheaper 3 (some .boolean) :: wsAll)) B.pre
  have hta := fun w h => hts w (List.mem_cons_of_mem _ h)
  have hown : s.vm.findClass RX4 = some m.cls := findClass_of_methodNamed B.named
  have hlocks := B.notSynchronized
  subst hsz
  have hD := hD0.self (sz := s.heap.size)
  generalize hAe : va_A (wX cI cJ cZ cR am gm t) s.heap.size = A at hD ⊢
  have hA : ∀ q : Nat, s.heap.size ≤ q → A q := fun q h => by rw [← hAe]; exact Or.inr h
  have C0 : cxX p s m ([.ref (am 1004), .int a1, .int a2].toArray) meth c cX4_isCheaper RX4 3 (some .boolean) D (tyX cI cJ cZ cR) st A := ⟨⟨hx, hb, B.returns, hml, hown, hta, hlocks, hK, hA⟩, by rw [← hAe]; exact hsx⟩
  have hW : wl D A s (wX cI cJ cZ cR am gm t) s.heap [] := ⟨hP, hD, va_S.rf⟩
  have hl := lv_entry [.ref (am 1004), .int a1, .int a2] (n := 3) (Nat.le_of_ble_eq_true rfl)
  rw [lg_entry_eq]
  generalize (lg_sl [.ref (am 1004), .int a1, .int a2] ++ List.replicate (3 - (lg_sl [.ref (am 1004), .int a1, .int a2]).length) Slot.unset).toArray = ls at hl ⊢
  have hl : lv_has ls 3 [(0, .ref (am 1004)), (1, .int a1), (2, .int a2)] := hl
  unfold x4_isCheaper at ho
  refine lv_aload_n hx hb dX4_isCheaper_0 rfl (lv_at hl 0 rfl) ?_
  refine xGET_404 C0 kw_445 hW dX4_isCheaper_1 ?_
  refine lv_iload_n hx hb dX4_isCheaper_4 rfl (lv_at hl 1 rfl) ?_
  obtain ⟨g1, ho⟩ := gd_some ho
  refine xLD_404 C0 hW g1 dX4_isCheaper_5 ?_
  refine lv_aload_n hx hb dX4_isCheaper_6 rfl (lv_at hl 0 rfl) ?_
  refine xGET_404 C0 kw_445 hW dX4_isCheaper_7 ?_
  refine lv_iload_n hx hb dX4_isCheaper_10 rfl (lv_at hl 2 rfl) ?_
  obtain ⟨g2, ho⟩ := gd_some ho
  refine xLD_404 C0 hW g2 dX4_isCheaper_11 ?_
  refine lv_icmp_eq (tgt := 36) hx hb dX4_isCheaper_12 (by decide) (fun c3 => ?_) (fun c3 => ?_)
  · replace ho := ite_t c3 ho
    refine lv_iload_n hx hb dX4_isCheaper_36 rfl (lv_at hl 1 rfl) ?_
    obtain ⟨q4, hc5, ho⟩ := bd_some ho
    refine bkI C0.1 hW (runSX (As := [.int a1]) (rest := []) C0 hW (c_j6_bitCount_0f7a4 l _ t a1 (r := q4) hc5) cb_X4_J6_bitCount_0f7a4_78 rfl rfl ⟨rfl, rfl⟩ ⟨Nat.le_of_ble_eq_true rfl, Nat.le_of_ble_eq_true rfl⟩ (Nat.le_of_ble_eq_true rfl) hl.1 dX4_isCheaper_37 ⟨Nat.le_of_ble_eq_true rfl, Nat.le_of_ble_eq_true rfl⟩) (fun H locs hW => ?_)
    refine lv_iload_n hx hb dX4_isCheaper_40 rfl (lv_at hl 2 rfl) ?_
    obtain ⟨q6, hc7, ho⟩ := bd_some ho
    refine bkI C0.1 hW (runSX (As := [.int a2]) (rest := [.int q4]) C0 hW (c_j6_bitCount_0f7a4 l _ t a2 (r := q6) hc7) cb_X4_J6_bitCount_0f7a4_78 rfl rfl ⟨rfl, rfl⟩ ⟨Nat.le_of_ble_eq_true rfl, Nat.le_of_ble_eq_true rfl⟩ (Nat.le_of_ble_eq_true rfl) hl.1 dX4_isCheaper_41 ⟨Nat.le_of_ble_eq_true rfl, Nat.le_of_ble_eq_true rfl⟩) (fun H locs hW => ?_)
    refine lv_icmp_ge (tgt := 51) hx hb dX4_isCheaper_44 (by decide) (fun c8 => ?_) (fun c8 => ?_)
    · replace ho := ite_t c8 ho
      refine lv_iconst (v := (0 : Int32)) hx hb dX4_isCheaper_51 (by decide) ?_
      cases ho
      exact rtZ C0.1 hW (Or.inl (rfl : (0 : Int32) = 0)) dX4_isCheaper_52
    · replace ho := ite_f c8 ho
      refine lv_iconst (v := (1 : Int32)) hx hb dX4_isCheaper_47 (by decide) ?_
      refine lv_goto (tgt := 52) hx hb dX4_isCheaper_48 (by decide) ?_
      cases ho
      exact rtZ C0.1 hW (Or.inr (rfl : (1 : Int32) = 1)) dX4_isCheaper_52
  · replace ho := ite_f c3 ho
    refine lv_aload_n hx hb dX4_isCheaper_15 rfl (lv_at hl 0 rfl) ?_
    refine xGET_404 C0 kw_445 hW dX4_isCheaper_16 ?_
    refine lv_iload_n hx hb dX4_isCheaper_19 rfl (lv_at hl 1 rfl) ?_
    obtain ⟨g9, ho⟩ := gd_some ho
    refine xLD_404 C0 hW g9 dX4_isCheaper_20 ?_
    refine lv_aload_n hx hb dX4_isCheaper_21 rfl (lv_at hl 0 rfl) ?_
    refine xGET_404 C0 kw_445 hW dX4_isCheaper_22 ?_
    refine lv_iload_n hx hb dX4_isCheaper_25 rfl (lv_at hl 2 rfl) ?_
    obtain ⟨g10, ho⟩ := gd_some ho
    refine xLD_404 C0 hW g10 dX4_isCheaper_26 ?_
    refine lv_icmp_ge (tgt := 34) hx hb dX4_isCheaper_27 (by decide) (fun c11 => ?_) (fun c11 => ?_)
    · replace ho := ite_t c11 ho
      refine lv_iconst (v := (0 : Int32)) hx hb dX4_isCheaper_34 (by decide) ?_
      cases ho
      exact rtZ C0.1 hW (Or.inl (rfl : (0 : Int32) = 0)) dX4_isCheaper_35
    · replace ho := ite_f c11 ho
      refine lv_iconst (v := (1 : Int32)) hx hb dX4_isCheaper_30 (by decide) ?_
      refine lv_goto (tgt := 35) hx hb dX4_isCheaper_31 (by decide) ?_
      cases ho
      exact rtZ C0.1 hW (Or.inr (rfl : (1 : Int32) = 1)) dX4_isCheaper_35
