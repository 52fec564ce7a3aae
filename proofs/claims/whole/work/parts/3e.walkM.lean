noncomputable def m_guard (t : St) (a1 : Int32) (a2 : Int32) : Option (Int32 × St) :=
  (m_isSet t a1).bind (fun q1 => if q1 = 0 then (some ((-2 : Int32), t)) else ((m_in t a2 (0 : Int32) (1000 : Int32)).bind (fun q5 => if q5 = 0 then (some ((-2 : Int32), t)) else (if (gI t 45) = (10 : Int32) then (some ((-4 : Int32), t)) else (gd (gI t 45) 10 (nm (sA t 46 (gI t 45) a1) (fun t11 : St => gd (gI t11 45) 10 (nm (sA t11 47 (gI t11 45) a2) (fun t13 : St => nm (sI t13 45 ((gI t13 45) + (1 : Int32))) (fun t14 : St => some (((gI t14 45) - (1 : Int32)), t14)))))))))))
set_option maxHeartbeats 4000000 in
set_option maxRecDepth 100000 in
theorem c_m_guard (l : Launch) {D : va_G} {cI cJ cZ : ClassId} {am : Nat → Nat} (sz : Nat) (t : St) (a1 : Int32) (a2 : Int32) {r : Int32} {t' : St} (ho : m_guard t a1 a2 = some (r, t')) : Met l yX12_guard (.code yX12_guard cX12_guard 3 (some .int) :: wsAll) (rmN 2 42) (va_Pc [.ref (am 68), .int a1, .int a2] (prW D (tyM cI cJ cZ) (wM cI cJ cZ am t) sz)) (qI r D (tyM cI cJ cZ) (wM cI cJ cZ am t') (va_A (wM cI cJ cZ am t) sz)) 0 0 (va_A (wM cI cJ cZ am t) sz) := by
  refine Met.ofW (cc := cX12_guard) (maxL := 3) (ret := (some .int)) (by decide) rfl ?_
  intro p e s m args below meth c s₁ B hml hv
  obtain ⟨rfl, hsz, hP, hK, hD0⟩ := hv
  have hx := B.exec
  have hb := B.bytes
  have hts := atoms_spec (ws := (.code yX12_guard cX12_guard 3 (some .int) :: wsAll)) B.pre
  have hta := fun w h => hts w (List.mem_cons_of_mem _ h)
  have hown : s.vm.findClass RX12 = some m.cls := findClass_of_methodNamed B.named
  have hlocks := B.notSynchronized
  subst hsz
  have hD := hD0.self (sz := s.heap.size)
  generalize hAe : va_A (wM cI cJ cZ am t) s.heap.size = A at hD ⊢
  have hA : ∀ q : Nat, s.heap.size ≤ q → A q := fun q h => by rw [← hAe]; exact Or.inr h
  have C0 : cx p s m ([.ref (am 68), .int a1, .int a2].toArray) meth c cX12_guard RX12 3 (some .int) D (tyM cI cJ cZ) A := ⟨hx, hb, B.returns, hml, hown, hta, hlocks, hK, hA⟩
  have hW : wl D A s (wM cI cJ cZ am t) s.heap [] := ⟨hP, hD, va_S.rf⟩
  have hl := lv_entry [.ref (am 68), .int a1, .int a2] (n := 3) (Nat.le_of_ble_eq_true rfl)
  rw [lg_entry_eq]
  generalize (lg_sl [.ref (am 68), .int a1, .int a2] ++ List.replicate (3 - (lg_sl [.ref (am 68), .int a1, .int a2]).length) Slot.unset).toArray = ls at hl ⊢
  have hl : lv_has ls 3 [(0, .ref (am 68)), (1, .int a1), (2, .int a2)] := hl
  unfold m_guard at ho
  refine lv_iload_n hx hb dX12_guard_0 rfl (lv_at hl 1 rfl) ?_
  obtain ⟨q1, hc2, ho⟩ := bd_some ho
  refine bkZ C0 hW (runS (As := [.int a1]) (rest := []) C0 hW (c_m_isSet l _ t a1 (r := q1) hc2) ca_X12_isSet_279 rfl rfl ⟨rfl, rfl⟩ ⟨Nat.le_of_ble_eq_true rfl, Nat.le_of_ble_eq_true rfl⟩ (Nat.le_of_ble_eq_true rfl) hl.1 dX12_guard_1 ⟨Nat.le_of_ble_eq_true rfl, Nat.le_of_ble_eq_true rfl⟩) (fun z3 H locs hW => ?_)
  refine lv_if_eq (tgt := 18) hx hb dX12_guard_4 (by decide) (fun c4 => ?_) (fun c4 => ?_)
  · replace ho := ite_t c4 ho
    refine lv_bipush (v := (-2 : Int32)) hx hb dX12_guard_18 (by decide) ?_
    cases ho
    exact rtI C0 hW dX12_guard_20
  · replace ho := ite_f c4 ho
    refine lv_iload_n hx hb dX12_guard_7 rfl (lv_at hl 2 rfl) ?_
    refine lv_iconst (v := (0 : Int32)) hx hb dX12_guard_8 (by decide) ?_
    refine lv_sipush (v := (1000 : Int32)) hx hb dX12_guard_9 (by decide) ?_
    obtain ⟨q5, hc6, ho⟩ := bd_some ho
    refine bkZ C0 hW (runS (As := [.int a2, .int (0 : Int32), .int (1000 : Int32)]) (rest := []) C0 hW (c_m_in l _ t a2 (0 : Int32) (1000 : Int32) (r := q5) hc6) ca_X12_in_179 rfl rfl ⟨rfl, rfl⟩ ⟨Nat.le_of_ble_eq_true rfl, Nat.le_of_ble_eq_true rfl⟩ (Nat.le_of_ble_eq_true rfl) hl.1 dX12_guard_12 ⟨Nat.le_of_ble_eq_true rfl, Nat.le_of_ble_eq_true rfl⟩) (fun z7 H locs hW => ?_)
    refine lv_if_ne (tgt := 21) hx hb dX12_guard_15 (by decide) (fun c8 => ?_) (fun c8 => ?_)
    · replace ho := ite_f c8 ho
      refine lv_aload_n hx hb dX12_guard_21 rfl (lv_at hl 0 rfl) ?_
      refine mGET_45 C0 hW dX12_guard_22 ?_
      refine lv_bipush (v := (10 : Int32)) hx hb dX12_guard_25 (by decide) ?_
      refine lv_icmp_ne (tgt := 33) hx hb dX12_guard_27 (by decide) (fun c9 => ?_) (fun c9 => ?_)
      · replace ho := ite_f c9 ho
        refine lv_aload_n hx hb dX12_guard_33 rfl (lv_at hl 0 rfl) ?_
        refine mGET_46 C0 hW dX12_guard_34 ?_
        refine lv_aload_n hx hb dX12_guard_37 rfl (lv_at hl 0 rfl) ?_
        refine mGET_45 C0 hW dX12_guard_38 ?_
        refine lv_iload_n hx hb dX12_guard_41 rfl (lv_at hl 1 rfl) ?_
        obtain ⟨g10, ho⟩ := gd_some ho
        refine mST_46 C0 hW g10 dX12_guard_42 (fun H locs hW => ?_)
        obtain ⟨t11, ho, hW⟩ := nm_w (P := fun t => wl D A s (wM cI cJ cZ am t) H locs) ho hW
        refine lv_aload_n hx hb dX12_guard_43 rfl (lv_at hl 0 rfl) ?_
        refine mGET_47 C0 hW dX12_guard_44 ?_
        refine lv_aload_n hx hb dX12_guard_47 rfl (lv_at hl 0 rfl) ?_
        refine mGET_45 C0 hW dX12_guard_48 ?_
        refine lv_iload_n hx hb dX12_guard_51 rfl (lv_at hl 2 rfl) ?_
        obtain ⟨g12, ho⟩ := gd_some ho
        refine mST_47 C0 hW g12 dX12_guard_52 (fun H locs hW => ?_)
        obtain ⟨t13, ho, hW⟩ := nm_w (P := fun t => wl D A s (wM cI cJ cZ am t) H locs) ho hW
        refine lv_aload_n hx hb dX12_guard_53 rfl (lv_at hl 0 rfl) ?_
        refine lv_dup hx hb dX12_guard_54 rfl ?_
        refine mGET_45 C0 hW dX12_guard_55 ?_
        refine lv_iconst (v := (1 : Int32)) hx hb dX12_guard_58 (by decide) ?_
        refine lv_iadd hx hb dX12_guard_59 ?_
        refine mPUT_45 C0 hW dX12_guard_60 (fun H locs hW => ?_)
        obtain ⟨t14, ho, hW⟩ := nm_w (P := fun t => wl D A s (wM cI cJ cZ am t) H locs) ho hW
        refine lv_aload_n hx hb dX12_guard_63 rfl (lv_at hl 0 rfl) ?_
        refine mGET_45 C0 hW dX12_guard_64 ?_
        refine lv_iconst (v := (1 : Int32)) hx hb dX12_guard_67 (by decide) ?_
        refine lv_isub hx hb dX12_guard_68 ?_
        cases ho
        exact rtI C0 hW dX12_guard_69
      · replace ho := ite_t c9 ho
        refine lv_bipush (v := (-4 : Int32)) hx hb dX12_guard_30 (by decide) ?_
        cases ho
        exact rtI C0 hW dX12_guard_32
    · replace ho := ite_t c8 ho
      refine lv_bipush (v := (-2 : Int32)) hx hb dX12_guard_18 (by decide) ?_
      cases ho
      exact rtI C0 hW dX12_guard_20
noncomputable def m_stopped_B4 (t : St) (v1 : Int32) (v2 : Int32) (v3 : Int32) : Option ((Int32 × Int32) ⊕ (Int32)) :=
  if (gI t 45) ≤ v3 then (some (.inr v2)) else (if ((v1 >>> (v3 &&& 31)) &&& (1 : Int32)) = (1 : Int32) then (gd v3 10 (nm (v2 ||| (gA t 46 (v3).toNatClampNeg)) (fun x6 : Int32 => nm (v3 + (1 : Int32)) (fun x7 : Int32 => some (.inl (x6, x7)))))) else (nm (v2 ||| (0 : Int32)) (fun x3 : Int32 => nm (v3 + (1 : Int32)) (fun x4 : Int32 => some (.inl (x3, x4))))))
noncomputable def m_stopped (t : St) (a1 : Int32) : Option (Int32) :=
  (lp (fun x => m_stopped_B4 t a1 x.1 x.2) ((0 : Int32), (0 : Int32))).bind (fun y8 => some y8)
set_option maxHeartbeats 4000000 in
set_option maxRecDepth 100000 in
theorem m_stopped_L4 {p : Program} {l : Launch} {e : Env} {s : State} {m : MethodId} {args : Array Value} {below : List Frame} {meth : Method} {c : Code} {Q : State → Prop} {D : va_G} {cI cJ cZ : ClassId} {am : Nat → Nat} {A : Nat → Prop} (C0 : cx p s m args meth c cX12_stopped RX12 4 (some .int) D (tyM cI cJ cZ) A) {t : St} {v1 : Int32} {y : Int32} (hK0 : ∀ (H : Heap) (locs : List Loc) (ls : Array Slot), wl D A s (wM cI cJ cZ am t) H locs → lv_has ls 4 [(0, .ref (am 68)), (2, .int y)] → W p l e (rmN 0 0) s m args below meth c H locs 0 0 Q (F0 m 40 ls [])) :
    ∀ (n : Nat) (v2 : Int32) (v3 : Int32), lpn (fun x => m_stopped_B4 t v1 x.1 x.2) n (v2, v3) = some y → ∀ (H : Heap) (locs : List Loc) (ls : Array Slot), wl D A s (wM cI cJ cZ am t) H locs → lv_has ls 4 [(0, .ref (am 68)), (1, .int v1), (2, .int v2), (3, .int v3)] → W p l e (rmN 0 0) s m args below meth c H locs 0 0 Q (F0 m 4 ls []) := by
  have hx := C0.1
  have hb := C0.2.1
  have hta := C0.2.2.2.2.2.1
  have hown := C0.2.2.2.2.1
  intro n
  induction n with
  | zero => intro _ _ h; cases h
  | succ n ih =>
    intro v2 v3 hrun H locs ls hW hl
    obtain ⟨o, ho, hrun⟩ := bd_some hrun
    unfold m_stopped_B4 at ho
    refine lv_iload_n hx hb dX12_stopped_4 rfl (lv_at hl 3 rfl) ?_
    refine lv_aload_n hx hb dX12_stopped_5 rfl (lv_at hl 0 rfl) ?_
    refine mGET_45 C0 hW dX12_stopped_6 ?_
    refine lv_icmp_ge (tgt := 40) hx hb dX12_stopped_9 (by decide) (fun c1 => ?_) (fun c1 => ?_)
    · replace ho := ite_t c1 ho
      cases ho
      cases hrun
      exact hK0 _ _ _ hW (lv_sub hl [0, 2] rfl)
    · replace ho := ite_f c1 ho
      refine lv_iload_n hx hb dX12_stopped_12 rfl (lv_at hl 2 rfl) ?_
      refine lv_iload_n hx hb dX12_stopped_13 rfl (lv_at hl 1 rfl) ?_
      refine lv_iload_n hx hb dX12_stopped_14 rfl (lv_at hl 3 rfl) ?_
      refine lv_ishr hx hb dX12_stopped_15 ?_
      refine lv_iconst (v := (1 : Int32)) hx hb dX12_stopped_16 (by decide) ?_
      refine lv_iand hx hb dX12_stopped_17 ?_
      refine lv_iconst (v := (1 : Int32)) hx hb dX12_stopped_18 (by decide) ?_
      refine lv_icmp_ne (tgt := 31) hx hb dX12_stopped_19 (by decide) (fun c2 => ?_) (fun c2 => ?_)
      · replace ho := ite_f c2 ho
        refine lv_iconst (v := (0 : Int32)) hx hb dX12_stopped_31 (by decide) ?_
        refine lv_ior hx hb dX12_stopped_32 ?_
        refine lv_nmi ho (fun x3 ho => ?_)
        refine lv_istore_n (lv' := [(2, .int x3), (0, .ref (am 68)), (1, .int v1), (3, .int v3)]) hx hb dX12_stopped_33 rfl hl (by decide) rfl (fun ls hl => ?_)
        obtain ⟨x4, ex4, ho⟩ := nm_x ho
        refine lv_iinc (v := x4) (lv' := [(3, .int x4), (2, .int x3), (0, .ref (am 68)), (1, .int v1)]) hx hb dX12_stopped_34 hl (k := 3) rfl (by rw [ex4]; rfl) (by decide) rfl (fun ls hl => ?_)
        clear ex4
        refine lv_goto (tgt := 4) hx hb dX12_stopped_37 (by decide) ?_
        cases ho
        exact ih _ _ hrun _ _ _ hW (lv_sub hl [2, 3, 1, 0] rfl)
      · replace ho := ite_t c2 ho
        refine lv_aload_n hx hb dX12_stopped_22 rfl (lv_at hl 0 rfl) ?_
        refine mGET_46 C0 hW dX12_stopped_23 ?_
        refine lv_iload_n hx hb dX12_stopped_26 rfl (lv_at hl 3 rfl) ?_
        obtain ⟨g5, ho⟩ := gd_some ho
        refine mLD_46 C0 hW g5 dX12_stopped_27 ?_
        refine lv_goto (tgt := 32) hx hb dX12_stopped_28 (by decide) ?_
        refine lv_ior hx hb dX12_stopped_32 ?_
        refine lv_nmi ho (fun x6 ho => ?_)
        refine lv_istore_n (lv' := [(2, .int x6), (0, .ref (am 68)), (1, .int v1), (3, .int v3)]) hx hb dX12_stopped_33 rfl hl (by decide) rfl (fun ls hl => ?_)
        obtain ⟨x7, ex7, ho⟩ := nm_x ho
        refine lv_iinc (v := x7) (lv' := [(3, .int x7), (2, .int x6), (0, .ref (am 68)), (1, .int v1)]) hx hb dX12_stopped_34 hl (k := 3) rfl (by rw [ex7]; rfl) (by decide) rfl (fun ls hl => ?_)
        clear ex7
        refine lv_goto (tgt := 4) hx hb dX12_stopped_37 (by decide) ?_
        cases ho
        exact ih _ _ hrun _ _ _ hW (lv_sub hl [2, 3, 1, 0] rfl)
set_option maxHeartbeats 4000000 in
set_option maxRecDepth 100000 in
theorem c_m_stopped (l : Launch) {D : va_G} {cI cJ cZ : ClassId} {am : Nat → Nat} (sz : Nat) (t : St) (a1 : Int32) {r : Int32} (ho : m_stopped t a1 = some r) : Met l yX12_stopped (.code yX12_stopped cX12_stopped 4 (some .int) :: wsAll) (rmN 0 0) (va_Pc [.ref (am 68), .int a1] (prW D (tyM cI cJ cZ) (wM cI cJ cZ am t) sz)) (qI r D (tyM cI cJ cZ) (wM cI cJ cZ am t) (va_A (wM cI cJ cZ am t) sz)) 0 0 (va_A (wM cI cJ cZ am t) sz) := by
  refine Met.ofW (cc := cX12_stopped) (maxL := 4) (ret := (some .int)) (by decide) rfl ?_
  intro p e s m args below meth c s₁ B hml hv
  obtain ⟨rfl, hsz, hP, hK, hD0⟩ := hv
  have hx := B.exec
  have hb := B.bytes
  have hts := atoms_spec (ws := (.code yX12_stopped cX12_stopped 4 (some .int) :: wsAll)) B.pre
  have hta := fun w h => hts w (List.mem_cons_of_mem _ h)
  have hown : s.vm.findClass RX12 = some m.cls := findClass_of_methodNamed B.named
  have hlocks := B.notSynchronized
  subst hsz
  have hD := hD0.self (sz := s.heap.size)
  generalize hAe : va_A (wM cI cJ cZ am t) s.heap.size = A at hD ⊢
  have hA : ∀ q : Nat, s.heap.size ≤ q → A q := fun q h => by rw [← hAe]; exact Or.inr h
  have C0 : cx p s m ([.ref (am 68), .int a1].toArray) meth c cX12_stopped RX12 4 (some .int) D (tyM cI cJ cZ) A := ⟨hx, hb, B.returns, hml, hown, hta, hlocks, hK, hA⟩
  have hW : wl D A s (wM cI cJ cZ am t) s.heap [] := ⟨hP, hD, va_S.rf⟩
  have hl := lv_entry [.ref (am 68), .int a1] (n := 4) (Nat.le_of_ble_eq_true rfl)
  rw [lg_entry_eq]
  generalize (lg_sl [.ref (am 68), .int a1] ++ List.replicate (4 - (lg_sl [.ref (am 68), .int a1]).length) Slot.unset).toArray = ls at hl ⊢
  have hl : lv_has ls 4 [(0, .ref (am 68)), (1, .int a1)] := hl
  unfold m_stopped at ho
  refine lv_iconst (v := (0 : Int32)) hx hb dX12_stopped_0 (by decide) ?_
  refine lv_istore_n (lv' := [(2, .int (0 : Int32)), (0, .ref (am 68)), (1, .int a1)]) hx hb dX12_stopped_1 rfl hl (by decide) rfl (fun ls hl => ?_)
  refine lv_iconst (v := (0 : Int32)) hx hb dX12_stopped_2 (by decide) ?_
  refine lv_istore_n (lv' := [(3, .int (0 : Int32)), (2, .int (0 : Int32)), (0, .ref (am 68)), (1, .int a1)]) hx hb dX12_stopped_3 rfl hl (by decide) rfl (fun ls hl => ?_)
  obtain ⟨y8, hc10, ho⟩ := bd_some ho
  obtain ⟨ny8, hc10⟩ := lp_to hc10
  refine m_stopped_L4 C0 ?_ ny8 _ _ hc10 _ _ _ hW (lv_sub hl [2, 3, 1, 0] rfl)
  intro H locs ls hW hl
  refine lv_iload_n hx hb dX12_stopped_40 rfl (lv_at hl 1 rfl) ?_
  cases ho
  exact rtI C0 hW dX12_stopped_41
noncomputable def m_wages_B4 (t : St) (v1 : Int32) (v2 : Int32) (v3 : Int32) : Option ((Int32 × Int32) ⊕ (Int32)) :=
  if (gI t 45) ≤ v3 then (some (.inr v2)) else (if ((v1 >>> (v3 &&& 31)) &&& (1 : Int32)) = (1 : Int32) then (gd v3 10 (nm (v2 + (gA t 47 (v3).toNatClampNeg)) (fun x6 : Int32 => nm (v3 + (1 : Int32)) (fun x7 : Int32 => some (.inl (x6, x7)))))) else (nm (v2 + (0 : Int32)) (fun x3 : Int32 => nm (v3 + (1 : Int32)) (fun x4 : Int32 => some (.inl (x3, x4))))))
noncomputable def m_wages (t : St) (a1 : Int32) : Option (Int32) :=
  (lp (fun x => m_wages_B4 t a1 x.1 x.2) ((0 : Int32), (0 : Int32))).bind (fun y8 => some y8)
set_option maxHeartbeats 4000000 in
set_option maxRecDepth 100000 in
theorem m_wages_L4 {p : Program} {l : Launch} {e : Env} {s : State} {m : MethodId} {args : Array Value} {below : List Frame} {meth : Method} {c : Code} {Q : State → Prop} {D : va_G} {cI cJ cZ : ClassId} {am : Nat → Nat} {A : Nat → Prop} (C0 : cx p s m args meth c cX12_wages RX12 4 (some .int) D (tyM cI cJ cZ) A) {t : St} {v1 : Int32} {y : Int32} (hK0 : ∀ (H : Heap) (locs : List Loc) (ls : Array Slot), wl D A s (wM cI cJ cZ am t) H locs → lv_has ls 4 [(0, .ref (am 68)), (2, .int y)] → W p l e (rmN 0 0) s m args below meth c H locs 0 0 Q (F0 m 40 ls [])) :
    ∀ (n : Nat) (v2 : Int32) (v3 : Int32), lpn (fun x => m_wages_B4 t v1 x.1 x.2) n (v2, v3) = some y → ∀ (H : Heap) (locs : List Loc) (ls : Array Slot), wl D A s (wM cI cJ cZ am t) H locs → lv_has ls 4 [(0, .ref (am 68)), (1, .int v1), (2, .int v2), (3, .int v3)] → W p l e (rmN 0 0) s m args below meth c H locs 0 0 Q (F0 m 4 ls []) := by
  have hx := C0.1
  have hb := C0.2.1
  have hta := C0.2.2.2.2.2.1
  have hown := C0.2.2.2.2.1
  intro n
  induction n with
  | zero => intro _ _ h; cases h
  | succ n ih =>
    intro v2 v3 hrun H locs ls hW hl
    obtain ⟨o, ho, hrun⟩ := bd_some hrun
    unfold m_wages_B4 at ho
    refine lv_iload_n hx hb dX12_wages_4 rfl (lv_at hl 3 rfl) ?_
    refine lv_aload_n hx hb dX12_wages_5 rfl (lv_at hl 0 rfl) ?_
    refine mGET_45 C0 hW dX12_wages_6 ?_
    refine lv_icmp_ge (tgt := 40) hx hb dX12_wages_9 (by decide) (fun c1 => ?_) (fun c1 => ?_)
    · replace ho := ite_t c1 ho
      cases ho
      cases hrun
      exact hK0 _ _ _ hW (lv_sub hl [0, 2] rfl)
    · replace ho := ite_f c1 ho
      refine lv_iload_n hx hb dX12_wages_12 rfl (lv_at hl 2 rfl) ?_
      refine lv_iload_n hx hb dX12_wages_13 rfl (lv_at hl 1 rfl) ?_
      refine lv_iload_n hx hb dX12_wages_14 rfl (lv_at hl 3 rfl) ?_
      refine lv_ishr hx hb dX12_wages_15 ?_
      refine lv_iconst (v := (1 : Int32)) hx hb dX12_wages_16 (by decide) ?_
      refine lv_iand hx hb dX12_wages_17 ?_
      refine lv_iconst (v := (1 : Int32)) hx hb dX12_wages_18 (by decide) ?_
      refine lv_icmp_ne (tgt := 31) hx hb dX12_wages_19 (by decide) (fun c2 => ?_) (fun c2 => ?_)
      · replace ho := ite_f c2 ho
        refine lv_iconst (v := (0 : Int32)) hx hb dX12_wages_31 (by decide) ?_
        refine lv_iadd hx hb dX12_wages_32 ?_
        refine lv_nmi ho (fun x3 ho => ?_)
        refine lv_istore_n (lv' := [(2, .int x3), (0, .ref (am 68)), (1, .int v1), (3, .int v3)]) hx hb dX12_wages_33 rfl hl (by decide) rfl (fun ls hl => ?_)
        obtain ⟨x4, ex4, ho⟩ := nm_x ho
        refine lv_iinc (v := x4) (lv' := [(3, .int x4), (2, .int x3), (0, .ref (am 68)), (1, .int v1)]) hx hb dX12_wages_34 hl (k := 3) rfl (by rw [ex4]; rfl) (by decide) rfl (fun ls hl => ?_)
        clear ex4
        refine lv_goto (tgt := 4) hx hb dX12_wages_37 (by decide) ?_
        cases ho
        exact ih _ _ hrun _ _ _ hW (lv_sub hl [2, 3, 1, 0] rfl)
      · replace ho := ite_t c2 ho
        refine lv_aload_n hx hb dX12_wages_22 rfl (lv_at hl 0 rfl) ?_
        refine mGET_47 C0 hW dX12_wages_23 ?_
        refine lv_iload_n hx hb dX12_wages_26 rfl (lv_at hl 3 rfl) ?_
        obtain ⟨g5, ho⟩ := gd_some ho
        refine mLD_47 C0 hW g5 dX12_wages_27 ?_
        refine lv_goto (tgt := 32) hx hb dX12_wages_28 (by decide) ?_
        refine lv_iadd hx hb dX12_wages_32 ?_
        refine lv_nmi ho (fun x6 ho => ?_)
        refine lv_istore_n (lv' := [(2, .int x6), (0, .ref (am 68)), (1, .int v1), (3, .int v3)]) hx hb dX12_wages_33 rfl hl (by decide) rfl (fun ls hl => ?_)
        obtain ⟨x7, ex7, ho⟩ := nm_x ho
        refine lv_iinc (v := x7) (lv' := [(3, .int x7), (2, .int x6), (0, .ref (am 68)), (1, .int v1)]) hx hb dX12_wages_34 hl (k := 3) rfl (by rw [ex7]; rfl) (by decide) rfl (fun ls hl => ?_)
        clear ex7
        refine lv_goto (tgt := 4) hx hb dX12_wages_37 (by decide) ?_
        cases ho
        exact ih _ _ hrun _ _ _ hW (lv_sub hl [2, 3, 1, 0] rfl)
set_option maxHeartbeats 4000000 in
set_option maxRecDepth 100000 in
theorem c_m_wages (l : Launch) {D : va_G} {cI cJ cZ : ClassId} {am : Nat → Nat} (sz : Nat) (t : St) (a1 : Int32) {r : Int32} (ho : m_wages t a1 = some r) : Met l yX12_wages (.code yX12_wages cX12_wages 4 (some .int) :: wsAll) (rmN 0 0) (va_Pc [.ref (am 68), .int a1] (prW D (tyM cI cJ cZ) (wM cI cJ cZ am t) sz)) (qI r D (tyM cI cJ cZ) (wM cI cJ cZ am t) (va_A (wM cI cJ cZ am t) sz)) 0 0 (va_A (wM cI cJ cZ am t) sz) := by
  refine Met.ofW (cc := cX12_wages) (maxL := 4) (ret := (some .int)) (by decide) rfl ?_
  intro p e s m args below meth c s₁ B hml hv
  obtain ⟨rfl, hsz, hP, hK, hD0⟩ := hv
  have hx := B.exec
  have hb := B.bytes
  have hts := atoms_spec (ws := (.code yX12_wages cX12_wages 4 (some .int) :: wsAll)) B.pre
  have hta := fun w h => hts w (List.mem_cons_of_mem _ h)
  have hown : s.vm.findClass RX12 = some m.cls := findClass_of_methodNamed B.named
  have hlocks := B.notSynchronized
  subst hsz
  have hD := hD0.self (sz := s.heap.size)
  generalize hAe : va_A (wM cI cJ cZ am t) s.heap.size = A at hD ⊢
  have hA : ∀ q : Nat, s.heap.size ≤ q → A q := fun q h => by rw [← hAe]; exact Or.inr h
  have C0 : cx p s m ([.ref (am 68), .int a1].toArray) meth c cX12_wages RX12 4 (some .int) D (tyM cI cJ cZ) A := ⟨hx, hb, B.returns, hml, hown, hta, hlocks, hK, hA⟩
  have hW : wl D A s (wM cI cJ cZ am t) s.heap [] := ⟨hP, hD, va_S.rf⟩
  have hl := lv_entry [.ref (am 68), .int a1] (n := 4) (Nat.le_of_ble_eq_true rfl)
  rw [lg_entry_eq]
  generalize (lg_sl [.ref (am 68), .int a1] ++ List.replicate (4 - (lg_sl [.ref (am 68), .int a1]).length) Slot.unset).toArray = ls at hl ⊢
  have hl : lv_has ls 4 [(0, .ref (am 68)), (1, .int a1)] := hl
  unfold m_wages at ho
  refine lv_iconst (v := (0 : Int32)) hx hb dX12_wages_0 (by decide) ?_
  refine lv_istore_n (lv' := [(2, .int (0 : Int32)), (0, .ref (am 68)), (1, .int a1)]) hx hb dX12_wages_1 rfl hl (by decide) rfl (fun ls hl => ?_)
  refine lv_iconst (v := (0 : Int32)) hx hb dX12_wages_2 (by decide) ?_
  refine lv_istore_n (lv' := [(3, .int (0 : Int32)), (2, .int (0 : Int32)), (0, .ref (am 68)), (1, .int a1)]) hx hb dX12_wages_3 rfl hl (by decide) rfl (fun ls hl => ?_)
  obtain ⟨y8, hc10, ho⟩ := bd_some ho
  obtain ⟨ny8, hc10⟩ := lp_to hc10
  refine m_wages_L4 C0 ?_ ny8 _ _ hc10 _ _ _ hW (lv_sub hl [2, 3, 1, 0] rfl)
  intro H locs ls hW hl
  refine lv_iload_n hx hb dX12_wages_40 rfl (lv_at hl 1 rfl) ?_
  cases ho
  exact rtI C0 hW dX12_wages_41
noncomputable def m_isHeld (t : St) (a1 : Int32) (a2 : Int32) : Option (Int32) :=
  (m_stopped t a2).bind (fun q1 => (m_isReached t a1 ((65535 : Int32) &&& (q1 ^^^ (-1 : Int32)))).bind (fun q3 => if q3 = 0 then (some (1 : Int32)) else (some (0 : Int32))))
set_option maxHeartbeats 4000000 in
set_option maxRecDepth 100000 in
theorem c_m_isHeld (l : Launch) {D : va_G} {cI cJ cZ : ClassId} {am : Nat → Nat} (sz : Nat) (t : St) (a1 : Int32) (a2 : Int32) {r : Int32} (ho : m_isHeld t a1 a2 = some r) : Met l yX12_isHeld (.code yX12_isHeld cX12_isHeld 3 (some .boolean) :: wsAll) (rmN 1 23) (va_Pc [.ref (am 68), .int a1, .int a2] (prW D (tyM cI cJ cZ) (wM cI cJ cZ am t) sz)) (qZ r D (tyM cI cJ cZ) (wM cI cJ cZ am t) (va_A (wM cI cJ cZ am t) sz)) 0 0 (va_A (wM cI cJ cZ am t) sz) := by
  refine Met.ofW (cc := cX12_isHeld) (maxL := 3) (ret := (some .boolean)) (by decide) rfl ?_
  intro p e s m args below meth c s₁ B hml hv
  obtain ⟨rfl, hsz, hP, hK, hD0⟩ := hv
  have hx := B.exec
  have hb := B.bytes
  have hts := atoms_spec (ws := (.code yX12_isHeld cX12_isHeld 3 (some .boolean) :: wsAll)) B.pre
  have hta := fun w h => hts w (List.mem_cons_of_mem _ h)
  have hown : s.vm.findClass RX12 = some m.cls := findClass_of_methodNamed B.named
  have hlocks := B.notSynchronized
  subst hsz
  have hD := hD0.self (sz := s.heap.size)
  generalize hAe : va_A (wM cI cJ cZ am t) s.heap.size = A at hD ⊢
  have hA : ∀ q : Nat, s.heap.size ≤ q → A q := fun q h => by rw [← hAe]; exact Or.inr h
  have C0 : cx p s m ([.ref (am 68), .int a1, .int a2].toArray) meth c cX12_isHeld RX12 3 (some .boolean) D (tyM cI cJ cZ) A := ⟨hx, hb, B.returns, hml, hown, hta, hlocks, hK, hA⟩
  have hW : wl D A s (wM cI cJ cZ am t) s.heap [] := ⟨hP, hD, va_S.rf⟩
  have hl := lv_entry [.ref (am 68), .int a1, .int a2] (n := 3) (Nat.le_of_ble_eq_true rfl)
  rw [lg_entry_eq]
  generalize (lg_sl [.ref (am 68), .int a1, .int a2] ++ List.replicate (3 - (lg_sl [.ref (am 68), .int a1, .int a2]).length) Slot.unset).toArray = ls at hl ⊢
  have hl : lv_has ls 3 [(0, .ref (am 68)), (1, .int a1), (2, .int a2)] := hl
  unfold m_isHeld at ho
  refine lv_aload_n hx hb dX12_isHeld_0 rfl (lv_at hl 0 rfl) ?_
  refine lv_iload_n hx hb dX12_isHeld_1 rfl (lv_at hl 1 rfl) ?_
  refine lv_ldcw hx hb hown (hta _ kw_1839) dX12_isHeld_2 ?_
  refine lv_aload_n hx hb dX12_isHeld_5 rfl (lv_at hl 0 rfl) ?_
  refine lv_iload_n hx hb dX12_isHeld_6 rfl (lv_at hl 2 rfl) ?_
  obtain ⟨q1, hc2, ho⟩ := bd_some ho
  refine bkI C0 hW (runV (As := [.int a2]) (rest := [.int (65535 : Int32), .int a1, .ref (am 68)]) C0 hW (c_m_stopped l _ t a2 (r := q1) hc2) ca_X12_stopped_393 0 12 rfl rfl rfl rfl rfl ⟨rfl, rfl⟩ ⟨Nat.le_of_ble_eq_true rfl, Nat.le_of_ble_eq_true rfl⟩ (Nat.le_of_ble_eq_true rfl) hl.1 dX12_isHeld_7 ⟨Nat.le_of_ble_eq_true rfl, Nat.le_of_ble_eq_true rfl⟩) (fun H locs hW => ?_)
  refine lv_iconst (v := (-1 : Int32)) hx hb dX12_isHeld_10 (by decide) ?_
  refine lv_ixor hx hb dX12_isHeld_11 ?_
  refine lv_iand hx hb dX12_isHeld_12 ?_
  obtain ⟨q3, hc4, ho⟩ := bd_some ho
  refine bkZ C0 hW (runV (As := [.int a1, .int ((65535 : Int32) &&& (q1 ^^^ (-1 : Int32)))]) (rest := []) C0 hW (c_m_isReached l _ t a1 ((65535 : Int32) &&& (q1 ^^^ (-1 : Int32))) (r := q3) hc4) ca_X12_isReached_282 0 12 rfl rfl rfl rfl rfl ⟨rfl, rfl⟩ ⟨Nat.le_of_ble_eq_true rfl, Nat.le_of_ble_eq_true rfl⟩ (Nat.le_of_ble_eq_true rfl) hl.1 dX12_isHeld_13 ⟨Nat.le_of_ble_eq_true rfl, Nat.le_of_ble_eq_true rfl⟩) (fun z5 H locs hW => ?_)
  refine lv_if_ne (tgt := 23) hx hb dX12_isHeld_16 (by decide) (fun c6 => ?_) (fun c6 => ?_)
  · replace ho := ite_f c6 ho
    refine lv_iconst (v := (0 : Int32)) hx hb dX12_isHeld_23 (by decide) ?_
    cases ho
    exact rtZ C0 hW (Or.inl (rfl : (0 : Int32) = 0)) dX12_isHeld_24
  · replace ho := ite_t c6 ho
    refine lv_iconst (v := (1 : Int32)) hx hb dX12_isHeld_19 (by decide) ?_
    refine lv_goto (tgt := 24) hx hb dX12_isHeld_20 (by decide) ?_
    cases ho
    exact rtZ C0 hW (Or.inr (rfl : (1 : Int32) = 1)) dX12_isHeld_24
noncomputable def m_holds (t : St) (a1 : Int32) (a2 : Int32) : Option (Int32) :=
  (m_in t a2 (0 : Int32) (((1 : Int32) <<< ((gI t 45) &&& 31)) - (1 : Int32))).bind (fun q1 => (m_why t a1 q1).bind (fun q4 => if q4 = (1 : Int32) then (gd a1 10 ((m_isHeld t (gA t 16 (a1).toNatClampNeg) a2).bind (fun q8 => if q8 = 0 then (some (0 : Int32)) else (some (1 : Int32))))) else (some q4)))
set_option maxHeartbeats 4000000 in
set_option maxRecDepth 100000 in
theorem c_m_holds (l : Launch) {D : va_G} {cI cJ cZ : ClassId} {am : Nat → Nat} (sz : Nat) (t : St) (a1 : Int32) (a2 : Int32) {r : Int32} (ho : m_holds t a1 a2 = some r) : Met l yX12_holds (.code yX12_holds cX12_holds 4 (some .int) :: wsAll) (rmN 3 64) (va_Pc [.ref (am 68), .int a1, .int a2] (prW D (tyM cI cJ cZ) (wM cI cJ cZ am t) sz)) (qI r D (tyM cI cJ cZ) (wM cI cJ cZ am t) (va_A (wM cI cJ cZ am t) sz)) 0 0 (va_A (wM cI cJ cZ am t) sz) := by
  refine Met.ofW (cc := cX12_holds) (maxL := 4) (ret := (some .int)) (by decide) rfl ?_
  intro p e s m args below meth c s₁ B hml hv
  obtain ⟨rfl, hsz, hP, hK, hD0⟩ := hv
  have hx := B.exec
  have hb := B.bytes
  have hts := atoms_spec (ws := (.code yX12_holds cX12_holds 4 (some .int) :: wsAll)) B.pre
  have hta := fun w h => hts w (List.mem_cons_of_mem _ h)
  have hown : s.vm.findClass RX12 = some m.cls := findClass_of_methodNamed B.named
  have hlocks := B.notSynchronized
  subst hsz
  have hD := hD0.self (sz := s.heap.size)
  generalize hAe : va_A (wM cI cJ cZ am t) s.heap.size = A at hD ⊢
  have hA : ∀ q : Nat, s.heap.size ≤ q → A q := fun q h => by rw [← hAe]; exact Or.inr h
  have C0 : cx p s m ([.ref (am 68), .int a1, .int a2].toArray) meth c cX12_holds RX12 4 (some .int) D (tyM cI cJ cZ) A := ⟨hx, hb, B.returns, hml, hown, hta, hlocks, hK, hA⟩
  have hW : wl D A s (wM cI cJ cZ am t) s.heap [] := ⟨hP, hD, va_S.rf⟩
  have hl := lv_entry [.ref (am 68), .int a1, .int a2] (n := 4) (Nat.le_of_ble_eq_true rfl)
  rw [lg_entry_eq]
  generalize (lg_sl [.ref (am 68), .int a1, .int a2] ++ List.replicate (4 - (lg_sl [.ref (am 68), .int a1, .int a2]).length) Slot.unset).toArray = ls at hl ⊢
  have hl : lv_has ls 4 [(0, .ref (am 68)), (1, .int a1), (2, .int a2)] := hl
  unfold m_holds at ho
  refine lv_aload_n hx hb dX12_holds_0 rfl (lv_at hl 0 rfl) ?_
  refine lv_iload_n hx hb dX12_holds_1 rfl (lv_at hl 1 rfl) ?_
  refine lv_iload_n hx hb dX12_holds_2 rfl (lv_at hl 2 rfl) ?_
  refine lv_iconst (v := (0 : Int32)) hx hb dX12_holds_3 (by decide) ?_
  refine lv_iconst (v := (1 : Int32)) hx hb dX12_holds_4 (by decide) ?_
  refine lv_aload_n hx hb dX12_holds_5 rfl (lv_at hl 0 rfl) ?_
  refine mGET_45 C0 hW dX12_holds_6 ?_
  refine lv_ishl hx hb dX12_holds_9 ?_
  refine lv_iconst (v := (1 : Int32)) hx hb dX12_holds_10 (by decide) ?_
  refine lv_isub hx hb dX12_holds_11 ?_
  obtain ⟨q1, hc2, ho⟩ := bd_some ho
  refine bkZ C0 hW (runS (As := [.int a2, .int (0 : Int32), .int (((1 : Int32) <<< ((gI t 45) &&& 31)) - (1 : Int32))]) (rest := [.int a1, .ref (am 68)]) C0 hW (c_m_in l _ t a2 (0 : Int32) (((1 : Int32) <<< ((gI t 45) &&& 31)) - (1 : Int32)) (r := q1) hc2) ca_X12_in_179 rfl rfl ⟨rfl, rfl⟩ ⟨Nat.le_of_ble_eq_true rfl, Nat.le_of_ble_eq_true rfl⟩ (Nat.le_of_ble_eq_true rfl) hl.1 dX12_holds_12 ⟨Nat.le_of_ble_eq_true rfl, Nat.le_of_ble_eq_true rfl⟩) (fun z3 H locs hW => ?_)
  obtain ⟨q4, hc5, ho⟩ := bd_some ho
  refine bkI C0 hW (runV (As := [.int a1, .int q1]) (rest := []) C0 hW (c_m_why l _ t a1 q1 (r := q4) hc5) ca_X12_why_271 0 12 rfl rfl rfl rfl rfl ⟨rfl, rfl⟩ ⟨Nat.le_of_ble_eq_true rfl, Nat.le_of_ble_eq_true rfl⟩ (Nat.le_of_ble_eq_true rfl) hl.1 dX12_holds_15 ⟨Nat.le_of_ble_eq_true rfl, Nat.le_of_ble_eq_true rfl⟩) (fun H locs hW => ?_)
  refine lv_istore_n (lv' := [(3, .int q4), (0, .ref (am 68)), (1, .int a1), (2, .int a2)]) hx hb dX12_holds_18 rfl hl (by decide) rfl (fun ls hl => ?_)
  refine lv_iload_n hx hb dX12_holds_19 rfl (lv_at hl 0 rfl) ?_
  refine lv_iconst (v := (1 : Int32)) hx hb dX12_holds_20 (by decide) ?_
  refine lv_icmp_eq (tgt := 28) hx hb dX12_holds_21 (by decide) (fun c6 => ?_) (fun c6 => ?_)
  · replace ho := ite_t c6 ho
    refine lv_aload_n hx hb dX12_holds_28 rfl (lv_at hl 1 rfl) ?_
    refine lv_aload_n hx hb dX12_holds_29 rfl (lv_at hl 1 rfl) ?_
    refine mGET_16 C0 hW dX12_holds_30 ?_
    refine lv_iload_n hx hb dX12_holds_33 rfl (lv_at hl 2 rfl) ?_
    obtain ⟨g7, ho⟩ := gd_some ho
    refine mLD_16 C0 hW g7 dX12_holds_34 ?_
    refine lv_iload_n hx hb dX12_holds_35 rfl (lv_at hl 3 rfl) ?_
    obtain ⟨q8, hc9, ho⟩ := bd_some ho
    refine bkZ C0 hW (runV (As := [.int (gA t 16 (a1).toNatClampNeg), .int a2]) (rest := []) C0 hW (c_m_isHeld l _ t (gA t 16 (a1).toNatClampNeg) a2 (r := q8) hc9) ca_X12_isHeld_396 0 12 rfl rfl rfl rfl rfl ⟨rfl, rfl⟩ ⟨Nat.le_of_ble_eq_true rfl, Nat.le_of_ble_eq_true rfl⟩ (Nat.le_of_ble_eq_true rfl) hl.1 dX12_holds_36 ⟨Nat.le_of_ble_eq_true rfl, Nat.le_of_ble_eq_true rfl⟩) (fun z10 H locs hW => ?_)
    refine lv_if_eq (tgt := 46) hx hb dX12_holds_39 (by decide) (fun c11 => ?_) (fun c11 => ?_)
    · replace ho := ite_t c11 ho
      refine lv_iconst (v := (0 : Int32)) hx hb dX12_holds_46 (by decide) ?_
      cases ho
      exact rtI C0 hW dX12_holds_47
    · replace ho := ite_f c11 ho
      refine lv_iconst (v := (1 : Int32)) hx hb dX12_holds_42 (by decide) ?_
      refine lv_goto (tgt := 47) hx hb dX12_holds_43 (by decide) ?_
      cases ho
      exact rtI C0 hW dX12_holds_47
  · replace ho := ite_f c6 ho
    refine lv_iload_n hx hb dX12_holds_24 rfl (lv_at hl 0 rfl) ?_
    refine lv_goto (tgt := 47) hx hb dX12_holds_25 (by decide) ?_
    cases ho
    exact rtI C0 hW dX12_holds_47
noncomputable def m_leastGuards_B19 (t : St) (v1 : Int32) (v3 : Int32) (v4 : Int32) : Option ((Int32 × Int32) ⊕ (Int32)) :=
  if ((1 : Int32) <<< ((gI t 45) &&& 31)) ≤ v4 then (some (.inr v3)) else (gd v1 10 ((m_isHeld t (gA t 16 (v1).toNatClampNeg) v4).bind (fun q3 => if q3 = 0 then (nm (v4 + (1 : Int32)) (fun x7 : Int32 => some (.inl (v3, x7)))) else (if v3 = (-1 : Int32) then (nm (v4 + (1 : Int32)) (fun x9 : Int32 => some (.inl (v4, x9)))) else ((m_wages t v4).bind (fun q10 => (m_wages t v3).bind (fun q12 => if q10 < q12 then (nm (v4 + (1 : Int32)) (fun x15 : Int32 => some (.inl (v4, x15)))) else ((m_wages t v4).bind (fun q16 => (m_wages t v3).bind (fun q18 => if q16 = q18 then ((m_sizeOf t v4).bind (fun q22 => (m_sizeOf t v3).bind (fun q24 => if q24 ≤ q22 then (nm (v4 + (1 : Int32)) (fun x27 : Int32 => some (.inl (v3, x27)))) else (nm (v4 + (1 : Int32)) (fun x28 : Int32 => some (.inl (v4, x28))))))) else (nm (v4 + (1 : Int32)) (fun x21 : Int32 => some (.inl (v3, x21))))))))))))))
noncomputable def m_leastGuards (t : St) (a1 : Int32) : Option (Int32) :=
  (m_why t a1 (1 : Int32)).bind (fun q29 => if q29 = (1 : Int32) then ((lp (fun x => m_leastGuards_B19 t a1 x.1 x.2) ((-1 : Int32), (0 : Int32))).bind (fun y32 => some y32)) else (some q29))
set_option maxHeartbeats 4000000 in
set_option maxRecDepth 100000 in
theorem m_leastGuards_L19 {p : Program} {l : Launch} {e : Env} {s : State} {m : MethodId} {args : Array Value} {below : List Frame} {meth : Method} {c : Code} {Q : State → Prop} {D : va_G} {cI cJ cZ : ClassId} {am : Nat → Nat} {A : Nat → Prop} (C0 : cx p s m args meth c cX12_leastGuards RX12 5 (some .int) D (tyM cI cJ cZ) A) {t : St} {v1 : Int32} {y : Int32} (hK0 : ∀ (H : Heap) (locs : List Loc) (ls : Array Slot), wl D A s (wM cI cJ cZ am t) H locs → lv_has ls 5 [(0, .ref (am 68)), (3, .int y)] → W p l e (rmN 3 64) s m args below meth c H locs 0 0 Q (F0 m 99 ls [])) :
    ∀ (n : Nat) (v3 : Int32) (v4 : Int32), lpn (fun x => m_leastGuards_B19 t v1 x.1 x.2) n (v3, v4) = some y → ∀ (H : Heap) (locs : List Loc) (ls : Array Slot), wl D A s (wM cI cJ cZ am t) H locs → lv_has ls 5 [(0, .ref (am 68)), (1, .int v1), (3, .int v3), (4, .int v4)] → W p l e (rmN 3 64) s m args below meth c H locs 0 0 Q (F0 m 19 ls []) := by
  have hx := C0.1
  have hb := C0.2.1
  have hta := C0.2.2.2.2.2.1
  have hown := C0.2.2.2.2.1
  intro n
  induction n with
  | zero => intro _ _ h; cases h
  | succ n ih =>
    intro v3 v4 hrun H locs ls hW hl
    obtain ⟨o, ho, hrun⟩ := bd_some hrun
    unfold m_leastGuards_B19 at ho
    refine lv_iload hx hb dX12_leastGuards_19 (lv_at hl 3 rfl) ?_
    refine lv_iconst (v := (1 : Int32)) hx hb dX12_leastGuards_21 (by decide) ?_
    refine lv_aload_n hx hb dX12_leastGuards_22 rfl (lv_at hl 0 rfl) ?_
    refine mGET_45 C0 hW dX12_leastGuards_23 ?_
    refine lv_ishl hx hb dX12_leastGuards_26 ?_
    refine lv_icmp_ge (tgt := 99) hx hb dX12_leastGuards_27 (by decide) (fun c1 => ?_) (fun c1 => ?_)
    · replace ho := ite_t c1 ho
      cases ho
      cases hrun
      exact hK0 _ _ _ hW (lv_sub hl [0, 2] rfl)
    · replace ho := ite_f c1 ho
      refine lv_aload_n hx hb dX12_leastGuards_30 rfl (lv_at hl 0 rfl) ?_
      refine lv_aload_n hx hb dX12_leastGuards_31 rfl (lv_at hl 0 rfl) ?_
      refine mGET_16 C0 hW dX12_leastGuards_32 ?_
      refine lv_iload_n hx hb dX12_leastGuards_35 rfl (lv_at hl 1 rfl) ?_
      obtain ⟨g2, ho⟩ := gd_some ho
      refine mLD_16 C0 hW g2 dX12_leastGuards_36 ?_
      refine lv_iload hx hb dX12_leastGuards_37 (lv_at hl 3 rfl) ?_
      obtain ⟨q3, hc4, ho⟩ := bd_some ho
      refine bkZ C0 hW (runV (As := [.int (gA t 16 (v1).toNatClampNeg), .int v4]) (rest := []) C0 hW (c_m_isHeld l _ t (gA t 16 (v1).toNatClampNeg) v4 (r := q3) hc4) ca_X12_isHeld_396 0 12 rfl rfl rfl rfl rfl ⟨rfl, rfl⟩ ⟨Nat.le_of_ble_eq_true rfl, Nat.le_of_ble_eq_true rfl⟩ (Nat.le_of_ble_eq_true rfl) hl.1 dX12_leastGuards_39 ⟨Nat.le_of_ble_eq_true rfl, Nat.le_of_ble_eq_true rfl⟩) (fun z5 H locs hW => ?_)
      refine lv_if_eq (tgt := 93) hx hb dX12_leastGuards_42 (by decide) (fun c6 => ?_) (fun c6 => ?_)
      · replace ho := ite_t c6 ho
        obtain ⟨x7, ex7, ho⟩ := nm_x ho
        refine lv_iinc (v := x7) (lv' := [(4, .int x7), (0, .ref (am 68)), (1, .int v1), (3, .int v3)]) hx hb dX12_leastGuards_93 hl (k := 3) rfl (by rw [ex7]; rfl) (by decide) rfl (fun ls hl => ?_)
        clear ex7
        refine lv_goto (tgt := 19) hx hb dX12_leastGuards_96 (by decide) ?_
        cases ho
        exact ih _ _ hrun _ _ _ hW (lv_sub hl [1, 2, 3, 0] rfl)
      · replace ho := ite_f c6 ho
        refine lv_iload_n hx hb dX12_leastGuards_45 rfl (lv_at hl 2 rfl) ?_
        refine lv_iconst (v := (-1 : Int32)) hx hb dX12_leastGuards_46 (by decide) ?_
        refine lv_icmp_eq (tgt := 90) hx hb dX12_leastGuards_47 (by decide) (fun c8 => ?_) (fun c8 => ?_)
        · replace ho := ite_t c8 ho
          refine lv_iload hx hb dX12_leastGuards_90 (lv_at hl 3 rfl) ?_
          refine lv_istore_n (lv' := [(3, .int v4), (0, .ref (am 68)), (1, .int v1), (4, .int v4)]) hx hb dX12_leastGuards_92 rfl hl (by decide) rfl (fun ls hl => ?_)
          obtain ⟨x9, ex9, ho⟩ := nm_x ho
          refine lv_iinc (v := x9) (lv' := [(4, .int x9), (3, .int v4), (0, .ref (am 68)), (1, .int v1)]) hx hb dX12_leastGuards_93 hl (k := 3) rfl (by rw [ex9]; rfl) (by decide) rfl (fun ls hl => ?_)
          clear ex9
          refine lv_goto (tgt := 19) hx hb dX12_leastGuards_96 (by decide) ?_
          cases ho
          exact ih _ _ hrun _ _ _ hW (lv_sub hl [2, 3, 1, 0] rfl)
        · replace ho := ite_f c8 ho
          refine lv_aload_n hx hb dX12_leastGuards_50 rfl (lv_at hl 0 rfl) ?_
          refine lv_iload hx hb dX12_leastGuards_51 (lv_at hl 3 rfl) ?_
          obtain ⟨q10, hc11, ho⟩ := bd_some ho
          refine bkI C0 hW (runV (As := [.int v4]) (rest := []) C0 hW (c_m_wages l _ t v4 (r := q10) hc11) ca_X12_wages_399 0 12 rfl rfl rfl rfl rfl ⟨rfl, rfl⟩ ⟨Nat.le_of_ble_eq_true rfl, Nat.le_of_ble_eq_true rfl⟩ (Nat.le_of_ble_eq_true rfl) hl.1 dX12_leastGuards_53 ⟨Nat.le_of_ble_eq_true rfl, Nat.le_of_ble_eq_true rfl⟩) (fun H locs hW => ?_)
          refine lv_aload_n hx hb dX12_leastGuards_56 rfl (lv_at hl 0 rfl) ?_
          refine lv_iload_n hx hb dX12_leastGuards_57 rfl (lv_at hl 2 rfl) ?_
          obtain ⟨q12, hc13, ho⟩ := bd_some ho
          refine bkI C0 hW (runV (As := [.int v3]) (rest := [.int q10]) C0 hW (c_m_wages l _ t v3 (r := q12) hc13) ca_X12_wages_399 0 12 rfl rfl rfl rfl rfl ⟨rfl, rfl⟩ ⟨Nat.le_of_ble_eq_true rfl, Nat.le_of_ble_eq_true rfl⟩ (Nat.le_of_ble_eq_true rfl) hl.1 dX12_leastGuards_58 ⟨Nat.le_of_ble_eq_true rfl, Nat.le_of_ble_eq_true rfl⟩) (fun H locs hW => ?_)
          refine lv_icmp_lt (tgt := 90) hx hb dX12_leastGuards_61 (by decide) (fun c14 => ?_) (fun c14 => ?_)
          · replace ho := ite_t c14 ho
            refine lv_iload hx hb dX12_leastGuards_90 (lv_at hl 3 rfl) ?_
            refine lv_istore_n (lv' := [(3, .int v4), (0, .ref (am 68)), (1, .int v1), (4, .int v4)]) hx hb dX12_leastGuards_92 rfl hl (by decide) rfl (fun ls hl => ?_)
            obtain ⟨x15, ex15, ho⟩ := nm_x ho
            refine lv_iinc (v := x15) (lv' := [(4, .int x15), (3, .int v4), (0, .ref (am 68)), (1, .int v1)]) hx hb dX12_leastGuards_93 hl (k := 3) rfl (by rw [ex15]; rfl) (by decide) rfl (fun ls hl => ?_)
            clear ex15
            refine lv_goto (tgt := 19) hx hb dX12_leastGuards_96 (by decide) ?_
            cases ho
            exact ih _ _ hrun _ _ _ hW (lv_sub hl [2, 3, 1, 0] rfl)
          · replace ho := ite_f c14 ho
            refine lv_aload_n hx hb dX12_leastGuards_64 rfl (lv_at hl 0 rfl) ?_
            refine lv_iload hx hb dX12_leastGuards_65 (lv_at hl 3 rfl) ?_
            obtain ⟨q16, hc17, ho⟩ := bd_some ho
            refine bkI C0 hW (runV (As := [.int v4]) (rest := []) C0 hW (c_m_wages l _ t v4 (r := q16) hc17) ca_X12_wages_399 0 12 rfl rfl rfl rfl rfl ⟨rfl, rfl⟩ ⟨Nat.le_of_ble_eq_true rfl, Nat.le_of_ble_eq_true rfl⟩ (Nat.le_of_ble_eq_true rfl) hl.1 dX12_leastGuards_67 ⟨Nat.le_of_ble_eq_true rfl, Nat.le_of_ble_eq_true rfl⟩) (fun H locs hW => ?_)
            refine lv_aload_n hx hb dX12_leastGuards_70 rfl (lv_at hl 0 rfl) ?_
            refine lv_iload_n hx hb dX12_leastGuards_71 rfl (lv_at hl 2 rfl) ?_
            obtain ⟨q18, hc19, ho⟩ := bd_some ho
            refine bkI C0 hW (runV (As := [.int v3]) (rest := [.int q16]) C0 hW (c_m_wages l _ t v3 (r := q18) hc19) ca_X12_wages_399 0 12 rfl rfl rfl rfl rfl ⟨rfl, rfl⟩ ⟨Nat.le_of_ble_eq_true rfl, Nat.le_of_ble_eq_true rfl⟩ (Nat.le_of_ble_eq_true rfl) hl.1 dX12_leastGuards_72 ⟨Nat.le_of_ble_eq_true rfl, Nat.le_of_ble_eq_true rfl⟩) (fun H locs hW => ?_)
            refine lv_icmp_ne (tgt := 93) hx hb dX12_leastGuards_75 (by decide) (fun c20 => ?_) (fun c20 => ?_)
            · replace ho := ite_f c20 ho
              obtain ⟨x21, ex21, ho⟩ := nm_x ho
              refine lv_iinc (v := x21) (lv' := [(4, .int x21), (0, .ref (am 68)), (1, .int v1), (3, .int v3)]) hx hb dX12_leastGuards_93 hl (k := 3) rfl (by rw [ex21]; rfl) (by decide) rfl (fun ls hl => ?_)
              clear ex21
              refine lv_goto (tgt := 19) hx hb dX12_leastGuards_96 (by decide) ?_
              cases ho
              exact ih _ _ hrun _ _ _ hW (lv_sub hl [1, 2, 3, 0] rfl)
            · replace ho := ite_t c20 ho
              refine lv_iload hx hb dX12_leastGuards_78 (lv_at hl 3 rfl) ?_
              obtain ⟨q22, hc23, ho⟩ := bd_some ho
              refine bkI C0 hW (runS (As := [.int v4]) (rest := []) C0 hW (c_m_sizeOf l _ t v4 (r := q22) hc23) ca_X12_sizeOf_295 rfl rfl ⟨rfl, rfl⟩ ⟨Nat.le_of_ble_eq_true rfl, Nat.le_of_ble_eq_true rfl⟩ (Nat.le_of_ble_eq_true rfl) hl.1 dX12_leastGuards_80 ⟨Nat.le_of_ble_eq_true rfl, Nat.le_of_ble_eq_true rfl⟩) (fun H locs hW => ?_)
              refine lv_iload_n hx hb dX12_leastGuards_83 rfl (lv_at hl 2 rfl) ?_
              obtain ⟨q24, hc25, ho⟩ := bd_some ho
              refine bkI C0 hW (runS (As := [.int v3]) (rest := [.int q22]) C0 hW (c_m_sizeOf l _ t v3 (r := q24) hc25) ca_X12_sizeOf_295 rfl rfl ⟨rfl, rfl⟩ ⟨Nat.le_of_ble_eq_true rfl, Nat.le_of_ble_eq_true rfl⟩ (Nat.le_of_ble_eq_true rfl) hl.1 dX12_leastGuards_84 ⟨Nat.le_of_ble_eq_true rfl, Nat.le_of_ble_eq_true rfl⟩) (fun H locs hW => ?_)
              refine lv_icmp_ge (tgt := 93) hx hb dX12_leastGuards_87 (by decide) (fun c26 => ?_) (fun c26 => ?_)
              · replace ho := ite_t c26 ho
                obtain ⟨x27, ex27, ho⟩ := nm_x ho
                refine lv_iinc (v := x27) (lv' := [(4, .int x27), (0, .ref (am 68)), (1, .int v1), (3, .int v3)]) hx hb dX12_leastGuards_93 hl (k := 3) rfl (by rw [ex27]; rfl) (by decide) rfl (fun ls hl => ?_)
                clear ex27
                refine lv_goto (tgt := 19) hx hb dX12_leastGuards_96 (by decide) ?_
                cases ho
                exact ih _ _ hrun _ _ _ hW (lv_sub hl [1, 2, 3, 0] rfl)
              · replace ho := ite_f c26 ho
                refine lv_iload hx hb dX12_leastGuards_90 (lv_at hl 3 rfl) ?_
                refine lv_istore_n (lv' := [(3, .int v4), (0, .ref (am 68)), (1, .int v1), (4, .int v4)]) hx hb dX12_leastGuards_92 rfl hl (by decide) rfl (fun ls hl => ?_)
                obtain ⟨x28, ex28, ho⟩ := nm_x ho
                refine lv_iinc (v := x28) (lv' := [(4, .int x28), (3, .int v4), (0, .ref (am 68)), (1, .int v1)]) hx hb dX12_leastGuards_93 hl (k := 3) rfl (by rw [ex28]; rfl) (by decide) rfl (fun ls hl => ?_)
                clear ex28
                refine lv_goto (tgt := 19) hx hb dX12_leastGuards_96 (by decide) ?_
                cases ho
                exact ih _ _ hrun _ _ _ hW (lv_sub hl [2, 3, 1, 0] rfl)
set_option maxHeartbeats 4000000 in
set_option maxRecDepth 100000 in
theorem c_m_leastGuards (l : Launch) {D : va_G} {cI cJ cZ : ClassId} {am : Nat → Nat} (sz : Nat) (t : St) (a1 : Int32) {r : Int32} (ho : m_leastGuards t a1 = some r) : Met l yX12_leastGuards (.code yX12_leastGuards cX12_leastGuards 5 (some .int) :: wsAll) (rmN 3 64) (va_Pc [.ref (am 68), .int a1] (prW D (tyM cI cJ cZ) (wM cI cJ cZ am t) sz)) (qI r D (tyM cI cJ cZ) (wM cI cJ cZ am t) (va_A (wM cI cJ cZ am t) sz)) 0 0 (va_A (wM cI cJ cZ am t) sz) := by
  refine Met.ofW (cc := cX12_leastGuards) (maxL := 5) (ret := (some .int)) (by decide) rfl ?_
  intro p e s m args below meth c s₁ B hml hv
  obtain ⟨rfl, hsz, hP, hK, hD0⟩ := hv
  have hx := B.exec
  have hb := B.bytes
  have hts := atoms_spec (ws := (.code yX12_leastGuards cX12_leastGuards 5 (some .int) :: wsAll)) B.pre
  have hta := fun w h => hts w (List.mem_cons_of_mem _ h)
  have hown : s.vm.findClass RX12 = some m.cls := findClass_of_methodNamed B.named
  have hlocks := B.notSynchronized
  subst hsz
  have hD := hD0.self (sz := s.heap.size)
  generalize hAe : va_A (wM cI cJ cZ am t) s.heap.size = A at hD ⊢
  have hA : ∀ q : Nat, s.heap.size ≤ q → A q := fun q h => by rw [← hAe]; exact Or.inr h
  have C0 : cx p s m ([.ref (am 68), .int a1].toArray) meth c cX12_leastGuards RX12 5 (some .int) D (tyM cI cJ cZ) A := ⟨hx, hb, B.returns, hml, hown, hta, hlocks, hK, hA⟩
  have hW : wl D A s (wM cI cJ cZ am t) s.heap [] := ⟨hP, hD, va_S.rf⟩
  have hl := lv_entry [.ref (am 68), .int a1] (n := 5) (Nat.le_of_ble_eq_true rfl)
  rw [lg_entry_eq]
  generalize (lg_sl [.ref (am 68), .int a1] ++ List.replicate (5 - (lg_sl [.ref (am 68), .int a1]).length) Slot.unset).toArray = ls at hl ⊢
  have hl : lv_has ls 5 [(0, .ref (am 68)), (1, .int a1)] := hl
  unfold m_leastGuards at ho
  refine lv_aload_n hx hb dX12_leastGuards_0 rfl (lv_at hl 0 rfl) ?_
  refine lv_iload_n hx hb dX12_leastGuards_1 rfl (lv_at hl 1 rfl) ?_
  refine lv_iconst (v := (1 : Int32)) hx hb dX12_leastGuards_2 (by decide) ?_
  obtain ⟨q29, hc30, ho⟩ := bd_some ho
  refine bkI C0 hW (runV (As := [.int a1, .int (1 : Int32)]) (rest := []) C0 hW (c_m_why l _ t a1 (1 : Int32) (r := q29) hc30) ca_X12_why_271 0 12 rfl rfl rfl rfl rfl ⟨rfl, rfl⟩ ⟨Nat.le_of_ble_eq_true rfl, Nat.le_of_ble_eq_true rfl⟩ (Nat.le_of_ble_eq_true rfl) hl.1 dX12_leastGuards_3 ⟨Nat.le_of_ble_eq_true rfl, Nat.le_of_ble_eq_true rfl⟩) (fun H locs hW => ?_)
  refine lv_istore_n (lv' := [(2, .int q29), (0, .ref (am 68)), (1, .int a1)]) hx hb dX12_leastGuards_6 rfl hl (by decide) rfl (fun ls hl => ?_)
  refine lv_iload_n hx hb dX12_leastGuards_7 rfl (lv_at hl 0 rfl) ?_
  refine lv_iconst (v := (1 : Int32)) hx hb dX12_leastGuards_8 (by decide) ?_
  refine lv_icmp_eq (tgt := 14) hx hb dX12_leastGuards_9 (by decide) (fun c31 => ?_) (fun c31 => ?_)
  · replace ho := ite_t c31 ho
    refine lv_iconst (v := (-1 : Int32)) hx hb dX12_leastGuards_14 (by decide) ?_
    refine lv_istore_n (lv' := [(3, .int (-1 : Int32)), (2, .int q29), (0, .ref (am 68)), (1, .int a1)]) hx hb dX12_leastGuards_15 rfl hl (by decide) rfl (fun ls hl => ?_)
    refine lv_iconst (v := (0 : Int32)) hx hb dX12_leastGuards_16 (by decide) ?_
    refine lv_istore (lv' := [(4, .int (0 : Int32)), (3, .int (-1 : Int32)), (2, .int q29), (0, .ref (am 68)), (1, .int a1)]) hx hb dX12_leastGuards_17 hl (by decide) rfl (fun ls hl => ?_)
    obtain ⟨y32, hc34, ho⟩ := bd_some ho
    obtain ⟨ny32, hc34⟩ := lp_to hc34
    refine m_leastGuards_L19 C0 ?_ ny32 _ _ hc34 _ _ _ hW (lv_sub hl [3, 4, 1, 0] rfl)
    intro H locs ls hW hl
    refine lv_iload_n hx hb dX12_leastGuards_99 rfl (lv_at hl 1 rfl) ?_
    cases ho
    exact rtI C0 hW dX12_leastGuards_100
  · replace ho := ite_f c31 ho
    refine lv_iload_n hx hb dX12_leastGuards_12 rfl (lv_at hl 0 rfl) ?_
    cases ho
    exact rtI C0 hW dX12_leastGuards_13
noncomputable def m_findFront_B9 (v1 : Int32) (v2 : Int32) (t : St) : Option ((Int32 × St) ⊕ (St)) :=
  if v1 ≤ v2 then (some (.inr t)) else ((m_stopped t v2).bind (fun q2 => (m_uses t q2).bind (fun q4 => (m_chances q4 ((402 : Int32) + v2)).bind (fun q6 => nm (v2 + (1 : Int32)) (fun x8 : Int32 => some (.inl (x8, q6)))))))
noncomputable def m_findFront_J140 (t : St) (v1 : Int32) (v2 : Int32) (v5 : Int32) : Option ((Int32 × Int32) ⊕ (Int32)) :=
  nm (v5 + (1 : Int32)) (fun x9 : Int32 => some (.inl (v5, x9)))
noncomputable def m_findFront_J109 (t : St) (v1 : Int32) (v2 : Int32) (v4 : Int32) (v5 : Int32) (w0 : Int32) : Option ((Int32 × Int32) ⊕ (Int32)) :=
  if w0 < 0 then (m_findFront_J140 t v1 v2 v5) else (if w0 = 0 then ((m_against t ((402 : Int32) + v5) ((402 : Int32) + v4)).bind (fun q13 => if 0 ≤ q13 then (nm (v5 + (1 : Int32)) (fun x16 : Int32 => some (.inl (v4, x16)))) else (m_findFront_J140 t v1 v2 v5))) else (nm (v5 + (1 : Int32)) (fun x12 : Int32 => some (.inl (v4, x12)))))
noncomputable def m_findFront_J86 (t : St) (v1 : Int32) (v2 : Int32) (v4 : Int32) (v5 : Int32) : Option ((Int32 × Int32) ⊕ (Int32)) :=
  if v4 = (-1 : Int32) then (m_findFront_J109 t v1 v2 v4 v5 (-1 : Int32)) else ((m_wages t v5).bind (fun q18 => (m_wages t v4).bind (fun q20 => m_findFront_J109 t v1 v2 v4 v5 (q18 - q20))))
noncomputable def m_findFront_B57 (t : St) (v1 : Int32) (v2 : Int32) (v4 : Int32) (v5 : Int32) : Option ((Int32 × Int32) ⊕ (Int32)) :=
  if v1 ≤ v5 then (some (.inr v4)) else (if v2 = (-1 : Int32) then (m_findFront_J86 t v1 v2 v4 v5) else ((m_against t ((402 : Int32) + v5) ((402 : Int32) + v2)).bind (fun q24 => if 0 ≤ q24 then (nm (v5 + (1 : Int32)) (fun x27 : Int32 => some (.inl (v4, x27)))) else (m_findFront_J86 t v1 v2 v4 v5))))
noncomputable def m_findFront_J166 (t : St) (v1 : Int32) (v2 : Int32) (v4 : Int32) (w0 : Int32) : Option ((Int32 × Int32 × St) ⊕ (St)) :=
  if w0 = 0 then (some (.inl (v2, w0, t))) else (gd (gI t 48) 1024 (nm (sA t 49 (gI t 48) v4) (fun t30 : St => nm (sI t30 48 ((gI t30 48) + (1 : Int32))) (fun t31 : St => some (.inl (v4, w0, t31))))))
noncomputable def m_findFront_B47 (v1 : Int32) (v2 : Int32) (v3 : Int32) (t : St) : Option ((Int32 × Int32 × St) ⊕ (St)) :=
  if v3 = 0 then (some (.inr t)) else ((lp (fun x => m_findFront_B57 t v1 v2 x.1 x.2) ((-1 : Int32), (0 : Int32))).bind (fun y33 => if y33 = (-1 : Int32) then (m_findFront_J166 t v1 v2 y33 (0 : Int32)) else (m_findFront_J166 t v1 v2 y33 (1 : Int32))))
noncomputable def m_findFront (t : St) : Option (St) :=
  nm ((1 : Int32) <<< ((gI t 45) &&& 31)) (fun x37 : Int32 => (lp (fun x => m_findFront_B9 x37 x.1 x.2) ((0 : Int32), t)).bind (fun y38 => nm (sI y38 48 (0 : Int32)) (fun t41 : St => (lp (fun x => m_findFront_B47 x37 x.1 x.2.1 x.2.2) ((-1 : Int32), (1 : Int32), t41)).bind (fun y42 => some y42))))
set_option maxHeartbeats 4000000 in
set_option maxRecDepth 100000 in
theorem m_findFront_L9 {p : Program} {l : Launch} {e : Env} {s : State} {m : MethodId} {args : Array Value} {below : List Frame} {meth : Method} {c : Code} {Q : State → Prop} {D : va_G} {cI cJ cZ : ClassId} {am : Nat → Nat} {A : Nat → Prop} (C0 : cx p s m args meth c cX12_findFront RX12 7 none D (tyM cI cJ cZ) A) {v1 : Int32} {y : St} (hK0 : ∀ (H : Heap) (locs : List Loc) (ls : Array Slot), wl D A s (wM cI cJ cZ am y) H locs → lv_has ls 7 [(0, .ref (am 68)), (1, .int v1)] → W p l e (rmN 3 74) s m args below meth c H locs 0 0 Q (F0 m 38 ls [])) :
    ∀ (n : Nat) (v2 : Int32) (t : St), lpn (fun x => m_findFront_B9 v1 x.1 x.2) n (v2, t) = some y → ∀ (H : Heap) (locs : List Loc) (ls : Array Slot), wl D A s (wM cI cJ cZ am t) H locs → lv_has ls 7 [(0, .ref (am 68)), (1, .int v1), (2, .int v2)] → W p l e (rmN 3 74) s m args below meth c H locs 0 0 Q (F0 m 9 ls []) := by
  have hx := C0.1
  have hb := C0.2.1
  have hta := C0.2.2.2.2.2.1
  have hown := C0.2.2.2.2.1
  intro n
  induction n with
  | zero => intro _ _ h; cases h
  | succ n ih =>
    intro v2 t hrun H locs ls hW hl
    obtain ⟨o, ho, hrun⟩ := bd_some hrun
    unfold m_findFront_B9 at ho
    refine lv_iload_n hx hb dX12_findFront_9 rfl (lv_at hl 2 rfl) ?_
    refine lv_iload_n hx hb dX12_findFront_10 rfl (lv_at hl 1 rfl) ?_
    refine lv_icmp_ge (tgt := 38) hx hb dX12_findFront_11 (by decide) (fun c1 => ?_) (fun c1 => ?_)
    · replace ho := ite_t c1 ho
      cases ho
      cases hrun
      exact hK0 _ _ _ hW (lv_sub hl [0, 1] rfl)
    · replace ho := ite_f c1 ho
      refine lv_aload_n hx hb dX12_findFront_14 rfl (lv_at hl 0 rfl) ?_
      refine lv_aload_n hx hb dX12_findFront_15 rfl (lv_at hl 0 rfl) ?_
      refine lv_iload_n hx hb dX12_findFront_16 rfl (lv_at hl 2 rfl) ?_
      obtain ⟨q2, hc3, ho⟩ := bd_some ho
      refine bkI C0 hW (runV (As := [.int v2]) (rest := [.ref (am 68)]) C0 hW (c_m_stopped l _ t v2 (r := q2) hc3) ca_X12_stopped_393 0 12 rfl rfl rfl rfl rfl ⟨rfl, rfl⟩ ⟨Nat.le_of_ble_eq_true rfl, Nat.le_of_ble_eq_true rfl⟩ (Nat.le_of_ble_eq_true rfl) hl.1 dX12_findFront_17 ⟨Nat.le_of_ble_eq_true rfl, Nat.le_of_ble_eq_true rfl⟩) (fun H locs hW => ?_)
      obtain ⟨q4, hc5, ho⟩ := bd_some ho
      refine bkV C0 hW (runV (As := [.int q2]) (rest := []) C0 hW (c_m_uses l _ t q2 (t' := q4) hc5) ca_X12_uses_375 0 12 rfl rfl rfl rfl rfl ⟨rfl, rfl⟩ ⟨Nat.le_of_ble_eq_true rfl, Nat.le_of_ble_eq_true rfl⟩ (Nat.le_of_ble_eq_true rfl) hl.1 dX12_findFront_20 ⟨Nat.le_of_ble_eq_true rfl, Nat.le_of_ble_eq_true rfl⟩) (fun H locs hW => ?_)
      refine lv_aload_n hx hb dX12_findFront_23 rfl (lv_at hl 0 rfl) ?_
      refine lv_sipush (v := (402 : Int32)) hx hb dX12_findFront_24 (by decide) ?_
      refine lv_iload_n hx hb dX12_findFront_27 rfl (lv_at hl 2 rfl) ?_
      refine lv_iadd hx hb dX12_findFront_28 ?_
      obtain ⟨q6, hc7, ho⟩ := bd_some ho
      refine bkV C0 hW (runV (As := [.int ((402 : Int32) + v2)]) (rest := []) C0 hW (c_m_chances l _ q4 ((402 : Int32) + v2) (t' := q6) hc7) ca_X12_chances_378 0 12 rfl rfl rfl rfl rfl ⟨rfl, rfl⟩ ⟨Nat.le_of_ble_eq_true rfl, Nat.le_of_ble_eq_true rfl⟩ (Nat.le_of_ble_eq_true rfl) hl.1 dX12_findFront_29 ⟨Nat.le_of_ble_eq_true rfl, Nat.le_of_ble_eq_true rfl⟩) (fun H locs hW => ?_)
      obtain ⟨x8, ex8, ho⟩ := nm_x ho
      refine lv_iinc (v := x8) (lv' := [(2, .int x8), (0, .ref (am 68)), (1, .int v1)]) hx hb dX12_findFront_32 hl (k := 2) rfl (by rw [ex8]; rfl) (by decide) rfl (fun ls hl => ?_)
      clear ex8
      refine lv_goto (tgt := 9) hx hb dX12_findFront_35 (by decide) ?_
      cases ho
      exact ih _ _ hrun _ _ _ hW (lv_sub hl [1, 2, 0] rfl)
set_option maxHeartbeats 4000000 in
set_option maxRecDepth 100000 in
theorem m_findFront_L57 {p : Program} {l : Launch} {e : Env} {s : State} {m : MethodId} {args : Array Value} {below : List Frame} {meth : Method} {c : Code} {Q : State → Prop} {D : va_G} {cI cJ cZ : ClassId} {am : Nat → Nat} {A : Nat → Prop} (C0 : cx p s m args meth c cX12_findFront RX12 7 none D (tyM cI cJ cZ) A) {t : St} {v1 : Int32} {v2 : Int32} {y : Int32} (hK0 : ∀ (H : Heap) (locs : List Loc) (ls : Array Slot), wl D A s (wM cI cJ cZ am t) H locs → lv_has ls 7 [(0, .ref (am 68)), (1, .int v1), (2, .int v2), (4, .int y)] → W p l e (rmN 3 74) s m args below meth c H locs 0 0 Q (F0 m 155 ls [])) :
    ∀ (n : Nat) (v4 : Int32) (v5 : Int32), lpn (fun x => m_findFront_B57 t v1 v2 x.1 x.2) n (v4, v5) = some y → ∀ (H : Heap) (locs : List Loc) (ls : Array Slot), wl D A s (wM cI cJ cZ am t) H locs → lv_has ls 7 [(0, .ref (am 68)), (1, .int v1), (2, .int v2), (4, .int v4), (5, .int v5)] → W p l e (rmN 3 74) s m args below meth c H locs 0 0 Q (F0 m 57 ls []) := by
  have hx := C0.1
  have hb := C0.2.1
  have hta := C0.2.2.2.2.2.1
  have hown := C0.2.2.2.2.1
  intro n
  induction n with
  | zero => intro _ _ h; cases h
  | succ n ih =>
    intro v4 v5 hrun H locs ls hW hl
    obtain ⟨o, ho, hrun⟩ := bd_some hrun
    have J140 : ∀ (v5 : Int32) (_ : m_findFront_J140 t v1 v2 v5 = some o) (H : Heap) (locs : List Loc) (ls : Array Slot), wl D A s (wM cI cJ cZ am t) H locs → lv_has ls 7 [(0, .ref (am 68)), (1, .int v1), (2, .int v2), (5, .int v5)] → W p l e (rmN 3 74) s m args below meth c H locs 0 0 Q (F0 m 140 ls []) := by
      intro v5 ho H locs ls hW hl
      unfold m_findFront_J140 at ho
      refine lv_iload hx hb dX12_findFront_140 (lv_at hl 3 rfl) ?_
      refine lv_goto (tgt := 147) hx hb dX12_findFront_142 (by decide) ?_
      refine lv_istore (lv' := [(4, .int v5), (0, .ref (am 68)), (1, .int v1), (2, .int v2), (5, .int v5)]) hx hb dX12_findFront_147 hl (by decide) rfl (fun ls hl => ?_)
      obtain ⟨x9, ex9, ho⟩ := nm_x ho
      refine lv_iinc (v := x9) (lv' := [(5, .int x9), (4, .int v5), (0, .ref (am 68)), (1, .int v1), (2, .int v2)]) hx hb dX12_findFront_149 hl (k := 4) rfl (by rw [ex9]; rfl) (by decide) rfl (fun ls hl => ?_)
      clear ex9
      refine lv_goto (tgt := 57) hx hb dX12_findFront_152 (by decide) ?_
      cases ho
      exact ih _ _ hrun _ _ _ hW (lv_sub hl [2, 3, 4, 1, 0] rfl)
    have J109 : ∀ (v4 : Int32) (v5 : Int32) (w0 : Int32) (_ : m_findFront_J109 t v1 v2 v4 v5 w0 = some o) (H : Heap) (locs : List Loc) (ls : Array Slot), wl D A s (wM cI cJ cZ am t) H locs → lv_has ls 7 [(0, .ref (am 68)), (1, .int v1), (2, .int v2), (4, .int v4), (5, .int v5)] → W p l e (rmN 3 74) s m args below meth c H locs 0 0 Q (F0 m 109 ls [.int w0]) := by
      intro v4 v5 w0 ho H locs ls hW hl
      unfold m_findFront_J109 at ho
      refine lv_istore (lv' := [(6, .int w0), (0, .ref (am 68)), (1, .int v1), (2, .int v2), (4, .int v4), (5, .int v5)]) hx hb dX12_findFront_109 hl (by decide) rfl (fun ls hl => ?_)
      refine lv_iload hx hb dX12_findFront_111 (lv_at hl 0 rfl) ?_
      refine lv_if_lt (tgt := 140) hx hb dX12_findFront_113 (by decide) (fun c10 => ?_) (fun c10 => ?_)
      · replace ho := ite_t c10 ho
        exact J140 _ ho _ _ _ hW (lv_sub hl [1, 2, 3, 5] rfl)
      · replace ho := ite_f c10 ho
        refine lv_iload hx hb dX12_findFront_116 (lv_at hl 0 rfl) ?_
        refine lv_if_ne (tgt := 145) hx hb dX12_findFront_118 (by decide) (fun c11 => ?_) (fun c11 => ?_)
        · replace ho := ite_f c11 ho
          refine lv_iload hx hb dX12_findFront_145 (lv_at hl 4 rfl) ?_
          refine lv_istore (lv' := [(4, .int v4), (6, .int w0), (0, .ref (am 68)), (1, .int v1), (2, .int v2), (5, .int v5)]) hx hb dX12_findFront_147 hl (by decide) rfl (fun ls hl => ?_)
          obtain ⟨x12, ex12, ho⟩ := nm_x ho
          refine lv_iinc (v := x12) (lv' := [(5, .int x12), (4, .int v4), (6, .int w0), (0, .ref (am 68)), (1, .int v1), (2, .int v2)]) hx hb dX12_findFront_149 hl (k := 5) rfl (by rw [ex12]; rfl) (by decide) rfl (fun ls hl => ?_)
          clear ex12
          refine lv_goto (tgt := 57) hx hb dX12_findFront_152 (by decide) ?_
          cases ho
          exact ih _ _ hrun _ _ _ hW (lv_sub hl [3, 4, 5, 1, 0] rfl)
        · replace ho := ite_t c11 ho
          refine lv_aload_n hx hb dX12_findFront_121 rfl (lv_at hl 1 rfl) ?_
          refine lv_sipush (v := (402 : Int32)) hx hb dX12_findFront_122 (by decide) ?_
          refine lv_iload hx hb dX12_findFront_125 (lv_at hl 5 rfl) ?_
          refine lv_iadd hx hb dX12_findFront_127 ?_
          refine lv_sipush (v := (402 : Int32)) hx hb dX12_findFront_128 (by decide) ?_
          refine lv_iload hx hb dX12_findFront_131 (lv_at hl 4 rfl) ?_
          refine lv_iadd hx hb dX12_findFront_133 ?_
          obtain ⟨q13, hc14, ho⟩ := bd_some ho
          refine bkI C0 hW (runV (As := [.int ((402 : Int32) + v5), .int ((402 : Int32) + v4)]) (rest := []) C0 hW (c_m_against l _ t ((402 : Int32) + v5) ((402 : Int32) + v4) (r := q13) hc14) ca_X12_against_327 0 12 rfl rfl rfl rfl rfl ⟨rfl, rfl⟩ ⟨Nat.le_of_ble_eq_true rfl, Nat.le_of_ble_eq_true rfl⟩ (Nat.le_of_ble_eq_true rfl) hl.1 dX12_findFront_134 ⟨Nat.le_of_ble_eq_true rfl, Nat.le_of_ble_eq_true rfl⟩) (fun H locs hW => ?_)
          refine lv_if_ge (tgt := 145) hx hb dX12_findFront_137 (by decide) (fun c15 => ?_) (fun c15 => ?_)
          · replace ho := ite_t c15 ho
            refine lv_iload hx hb dX12_findFront_145 (lv_at hl 4 rfl) ?_
            refine lv_istore (lv' := [(4, .int v4), (6, .int w0), (0, .ref (am 68)), (1, .int v1), (2, .int v2), (5, .int v5)]) hx hb dX12_findFront_147 hl (by decide) rfl (fun ls hl => ?_)
            obtain ⟨x16, ex16, ho⟩ := nm_x ho
            refine lv_iinc (v := x16) (lv' := [(5, .int x16), (4, .int v4), (6, .int w0), (0, .ref (am 68)), (1, .int v1), (2, .int v2)]) hx hb dX12_findFront_149 hl (k := 5) rfl (by rw [ex16]; rfl) (by decide) rfl (fun ls hl => ?_)
            clear ex16
            refine lv_goto (tgt := 57) hx hb dX12_findFront_152 (by decide) ?_
            cases ho
            exact ih _ _ hrun _ _ _ hW (lv_sub hl [3, 4, 5, 1, 0] rfl)
          · replace ho := ite_f c15 ho
            exact J140 _ ho _ _ _ hW (lv_sub hl [1, 2, 3, 5] rfl)
    have J86 : ∀ (v4 : Int32) (v5 : Int32) (_ : m_findFront_J86 t v1 v2 v4 v5 = some o) (H : Heap) (locs : List Loc) (ls : Array Slot), wl D A s (wM cI cJ cZ am t) H locs → lv_has ls 7 [(0, .ref (am 68)), (1, .int v1), (2, .int v2), (4, .int v4), (5, .int v5)] → W p l e (rmN 3 74) s m args below meth c H locs 0 0 Q (F0 m 86 ls []) := by
      intro v4 v5 ho H locs ls hW hl
      unfold m_findFront_J86 at ho
      refine lv_iload hx hb dX12_findFront_86 (lv_at hl 3 rfl) ?_
      refine lv_iconst (v := (-1 : Int32)) hx hb dX12_findFront_88 (by decide) ?_
      refine lv_icmp_ne (tgt := 96) hx hb dX12_findFront_89 (by decide) (fun c17 => ?_) (fun c17 => ?_)
      · replace ho := ite_f c17 ho
        refine lv_aload_n hx hb dX12_findFront_96 rfl (lv_at hl 0 rfl) ?_
        refine lv_iload hx hb dX12_findFront_97 (lv_at hl 4 rfl) ?_
        obtain ⟨q18, hc19, ho⟩ := bd_some ho
        refine bkI C0 hW (runV (As := [.int v5]) (rest := []) C0 hW (c_m_wages l _ t v5 (r := q18) hc19) ca_X12_wages_399 0 12 rfl rfl rfl rfl rfl ⟨rfl, rfl⟩ ⟨Nat.le_of_ble_eq_true rfl, Nat.le_of_ble_eq_true rfl⟩ (Nat.le_of_ble_eq_true rfl) hl.1 dX12_findFront_99 ⟨Nat.le_of_ble_eq_true rfl, Nat.le_of_ble_eq_true rfl⟩) (fun H locs hW => ?_)
        refine lv_aload_n hx hb dX12_findFront_102 rfl (lv_at hl 0 rfl) ?_
        refine lv_iload hx hb dX12_findFront_103 (lv_at hl 3 rfl) ?_
        obtain ⟨q20, hc21, ho⟩ := bd_some ho
        refine bkI C0 hW (runV (As := [.int v4]) (rest := [.int q18]) C0 hW (c_m_wages l _ t v4 (r := q20) hc21) ca_X12_wages_399 0 12 rfl rfl rfl rfl rfl ⟨rfl, rfl⟩ ⟨Nat.le_of_ble_eq_true rfl, Nat.le_of_ble_eq_true rfl⟩ (Nat.le_of_ble_eq_true rfl) hl.1 dX12_findFront_105 ⟨Nat.le_of_ble_eq_true rfl, Nat.le_of_ble_eq_true rfl⟩) (fun H locs hW => ?_)
        refine lv_isub hx hb dX12_findFront_108 ?_
        exact J109 _ _ _ ho _ _ _ hW (lv_sub hl [0, 1, 2, 3, 4] rfl)
      · replace ho := ite_t c17 ho
        refine lv_iconst (v := (-1 : Int32)) hx hb dX12_findFront_92 (by decide) ?_
        refine lv_goto (tgt := 109) hx hb dX12_findFront_93 (by decide) ?_
        exact J109 _ _ _ ho _ _ _ hW (lv_sub hl [0, 1, 2, 3, 4] rfl)
    unfold m_findFront_B57 at ho
    refine lv_iload hx hb dX12_findFront_57 (lv_at hl 4 rfl) ?_
    refine lv_iload_n hx hb dX12_findFront_59 rfl (lv_at hl 1 rfl) ?_
    refine lv_icmp_ge (tgt := 155) hx hb dX12_findFront_60 (by decide) (fun c22 => ?_) (fun c22 => ?_)
    · replace ho := ite_t c22 ho
      cases ho
      cases hrun
      exact hK0 _ _ _ hW (lv_sub hl [0, 1, 2, 3] rfl)
    · replace ho := ite_f c22 ho
      refine lv_iload_n hx hb dX12_findFront_63 rfl (lv_at hl 2 rfl) ?_
      refine lv_iconst (v := (-1 : Int32)) hx hb dX12_findFront_64 (by decide) ?_
      refine lv_icmp_eq (tgt := 86) hx hb dX12_findFront_65 (by decide) (fun c23 => ?_) (fun c23 => ?_)
      · replace ho := ite_t c23 ho
        exact J86 _ _ ho _ _ _ hW (lv_sub hl [0, 1, 2, 3, 4] rfl)
      · replace ho := ite_f c23 ho
        refine lv_aload_n hx hb dX12_findFront_68 rfl (lv_at hl 0 rfl) ?_
        refine lv_sipush (v := (402 : Int32)) hx hb dX12_findFront_69 (by decide) ?_
        refine lv_iload hx hb dX12_findFront_72 (lv_at hl 4 rfl) ?_
        refine lv_iadd hx hb dX12_findFront_74 ?_
        refine lv_sipush (v := (402 : Int32)) hx hb dX12_findFront_75 (by decide) ?_
        refine lv_iload_n hx hb dX12_findFront_78 rfl (lv_at hl 2 rfl) ?_
        refine lv_iadd hx hb dX12_findFront_79 ?_
        obtain ⟨q24, hc25, ho⟩ := bd_some ho
        refine bkI C0 hW (runV (As := [.int ((402 : Int32) + v5), .int ((402 : Int32) + v2)]) (rest := []) C0 hW (c_m_against l _ t ((402 : Int32) + v5) ((402 : Int32) + v2) (r := q24) hc25) ca_X12_against_327 0 12 rfl rfl rfl rfl rfl ⟨rfl, rfl⟩ ⟨Nat.le_of_ble_eq_true rfl, Nat.le_of_ble_eq_true rfl⟩ (Nat.le_of_ble_eq_true rfl) hl.1 dX12_findFront_80 ⟨Nat.le_of_ble_eq_true rfl, Nat.le_of_ble_eq_true rfl⟩) (fun H locs hW => ?_)
        refine lv_if_ge (tgt := 149) hx hb dX12_findFront_83 (by decide) (fun c26 => ?_) (fun c26 => ?_)
        · replace ho := ite_t c26 ho
          obtain ⟨x27, ex27, ho⟩ := nm_x ho
          refine lv_iinc (v := x27) (lv' := [(5, .int x27), (0, .ref (am 68)), (1, .int v1), (2, .int v2), (4, .int v4)]) hx hb dX12_findFront_149 hl (k := 4) rfl (by rw [ex27]; rfl) (by decide) rfl (fun ls hl => ?_)
          clear ex27
          refine lv_goto (tgt := 57) hx hb dX12_findFront_152 (by decide) ?_
          cases ho
          exact ih _ _ hrun _ _ _ hW (lv_sub hl [1, 2, 3, 4, 0] rfl)
        · replace ho := ite_f c26 ho
          exact J86 _ _ ho _ _ _ hW (lv_sub hl [0, 1, 2, 3, 4] rfl)
set_option maxHeartbeats 4000000 in
set_option maxRecDepth 100000 in
theorem m_findFront_L47 {p : Program} {l : Launch} {e : Env} {s : State} {m : MethodId} {args : Array Value} {below : List Frame} {meth : Method} {c : Code} {Q : State → Prop} {D : va_G} {cI cJ cZ : ClassId} {am : Nat → Nat} {A : Nat → Prop} (C0 : cx p s m args meth c cX12_findFront RX12 7 none D (tyM cI cJ cZ) A) {v1 : Int32} {y : St} (hK0 : ∀ (H : Heap) (locs : List Loc) (ls : Array Slot), wl D A s (wM cI cJ cZ am y) H locs → lv_has ls 7 [(0, .ref (am 68))] → W p l e (rmN 3 74) s m args below meth c H locs 0 0 Q (F0 m 198 ls [])) :
    ∀ (n : Nat) (v2 : Int32) (v3 : Int32) (t : St), lpn (fun x => m_findFront_B47 v1 x.1 x.2.1 x.2.2) n (v2, v3, t) = some y → ∀ (H : Heap) (locs : List Loc) (ls : Array Slot), wl D A s (wM cI cJ cZ am t) H locs → lv_has ls 7 [(0, .ref (am 68)), (1, .int v1), (2, .int v2), (3, .int v3)] → W p l e (rmN 3 74) s m args below meth c H locs 0 0 Q (F0 m 47 ls []) := by
  have hx := C0.1
  have hb := C0.2.1
  have hta := C0.2.2.2.2.2.1
  have hown := C0.2.2.2.2.1
  intro n
  induction n with
  | zero => intro _ _ _ h; cases h
  | succ n ih =>
    intro v2 v3 t hrun H locs ls hW hl
    obtain ⟨o, ho, hrun⟩ := bd_some hrun
    have J166 : ∀ (t : St) (v2 : Int32) (v4 : Int32) (w0 : Int32) (_ : m_findFront_J166 t v1 v2 v4 w0 = some o) (H : Heap) (locs : List Loc) (ls : Array Slot), wl D A s (wM cI cJ cZ am t) H locs → lv_has ls 7 [(0, .ref (am 68)), (1, .int v1), (2, .int v2), (4, .int v4)] → W p l e (rmN 3 74) s m args below meth c H locs 0 0 Q (F0 m 166 ls [.int w0]) := by
      intro t v2 v4 w0 ho H locs ls hW hl
      unfold m_findFront_J166 at ho
      refine lv_istore_n (lv' := [(3, .int w0), (0, .ref (am 68)), (1, .int v1), (2, .int v2), (4, .int v4)]) hx hb dX12_findFront_166 rfl hl (by decide) rfl (fun ls hl => ?_)
      refine lv_iload_n hx hb dX12_findFront_167 rfl (lv_at hl 0 rfl) ?_
      refine lv_if_eq (tgt := 195) hx hb dX12_findFront_168 (by decide) (fun c28 => ?_) (fun c28 => ?_)
      · replace ho := ite_t c28 ho
        refine lv_goto (tgt := 47) hx hb dX12_findFront_195 (by decide) ?_
        cases ho
        exact ih _ _ _ hrun _ _ _ hW (lv_sub hl [1, 2, 3, 0] rfl)
      · replace ho := ite_f c28 ho
        refine lv_aload_n hx hb dX12_findFront_171 rfl (lv_at hl 1 rfl) ?_
        refine mGET_49 C0 hW dX12_findFront_172 ?_
        refine lv_aload_n hx hb dX12_findFront_175 rfl (lv_at hl 1 rfl) ?_
        refine mGET_48 C0 hW dX12_findFront_176 ?_
        refine lv_iload hx hb dX12_findFront_179 (lv_at hl 4 rfl) ?_
        obtain ⟨g29, ho⟩ := gd_some ho
        refine mST_49 C0 hW g29 dX12_findFront_181 (fun H locs hW => ?_)
        obtain ⟨t30, ho, hW⟩ := nm_w (P := fun t => wl D A s (wM cI cJ cZ am t) H locs) ho hW
        refine lv_aload_n hx hb dX12_findFront_182 rfl (lv_at hl 1 rfl) ?_
        refine lv_dup hx hb dX12_findFront_183 rfl ?_
        refine mGET_48 C0 hW dX12_findFront_184 ?_
        refine lv_iconst (v := (1 : Int32)) hx hb dX12_findFront_187 (by decide) ?_
        refine lv_iadd hx hb dX12_findFront_188 ?_
        refine mPUT_48 C0 hW dX12_findFront_189 (fun H locs hW => ?_)
        obtain ⟨t31, ho, hW⟩ := nm_w (P := fun t => wl D A s (wM cI cJ cZ am t) H locs) ho hW
        refine lv_iload hx hb dX12_findFront_192 (lv_at hl 4 rfl) ?_
        refine lv_istore_n (lv' := [(2, .int v4), (3, .int w0), (0, .ref (am 68)), (1, .int v1), (4, .int v4)]) hx hb dX12_findFront_194 rfl hl (by decide) rfl (fun ls hl => ?_)
        refine lv_goto (tgt := 47) hx hb dX12_findFront_195 (by decide) ?_
        cases ho
        exact ih _ _ _ hrun _ _ _ hW (lv_sub hl [2, 3, 0, 1] rfl)
    unfold m_findFront_B47 at ho
    refine lv_iload_n hx hb dX12_findFront_47 rfl (lv_at hl 3 rfl) ?_
    refine lv_if_eq (tgt := 198) hx hb dX12_findFront_48 (by decide) (fun c32 => ?_) (fun c32 => ?_)
    · replace ho := ite_t c32 ho
      cases ho
      cases hrun
      exact hK0 _ _ _ hW (lv_sub hl [0] rfl)
    · replace ho := ite_f c32 ho
      refine lv_iconst (v := (-1 : Int32)) hx hb dX12_findFront_51 (by decide) ?_
      refine lv_istore (lv' := [(4, .int (-1 : Int32)), (0, .ref (am 68)), (1, .int v1), (2, .int v2), (3, .int v3)]) hx hb dX12_findFront_52 hl (by decide) rfl (fun ls hl => ?_)
      refine lv_iconst (v := (0 : Int32)) hx hb dX12_findFront_54 (by decide) ?_
      refine lv_istore (lv' := [(5, .int (0 : Int32)), (4, .int (-1 : Int32)), (0, .ref (am 68)), (1, .int v1), (2, .int v2), (3, .int v3)]) hx hb dX12_findFront_55 hl (by decide) rfl (fun ls hl => ?_)
      obtain ⟨y33, hc35, ho⟩ := bd_some ho
      obtain ⟨ny33, hc35⟩ := lp_to hc35
      refine m_findFront_L57 C0 ?_ ny33 _ _ hc35 _ _ _ hW (lv_sub hl [2, 3, 4, 1, 0] rfl)
      intro H locs ls hW hl
      refine lv_iload hx hb dX12_findFront_155 (lv_at hl 3 rfl) ?_
      refine lv_iconst (v := (-1 : Int32)) hx hb dX12_findFront_157 (by decide) ?_
      refine lv_icmp_eq (tgt := 165) hx hb dX12_findFront_158 (by decide) (fun c36 => ?_) (fun c36 => ?_)
      · replace ho := ite_t c36 ho
        refine lv_iconst (v := (0 : Int32)) hx hb dX12_findFront_165 (by decide) ?_
        exact J166 _ _ _ _ ho _ _ _ hW (lv_sub hl [0, 1, 2, 3] rfl)
      · replace ho := ite_f c36 ho
        refine lv_iconst (v := (1 : Int32)) hx hb dX12_findFront_161 (by decide) ?_
        refine lv_goto (tgt := 166) hx hb dX12_findFront_162 (by decide) ?_
        exact J166 _ _ _ _ ho _ _ _ hW (lv_sub hl [0, 1, 2, 3] rfl)
set_option maxHeartbeats 4000000 in
set_option maxRecDepth 100000 in
theorem c_m_findFront (l : Launch) {D : va_G} {cI cJ cZ : ClassId} {am : Nat → Nat} (sz : Nat) (t : St) {t' : St} (ho : m_findFront t = some t') : Met l yX12_findFront (.code yX12_findFront cX12_findFront 7 none :: wsAll) (rmN 3 74) (va_Pc [.ref (am 68)] (prW D (tyM cI cJ cZ) (wM cI cJ cZ am t) sz)) (qV D (tyM cI cJ cZ) (wM cI cJ cZ am t') (va_A (wM cI cJ cZ am t) sz)) 0 0 (va_A (wM cI cJ cZ am t) sz) := by
  refine Met.ofW (cc := cX12_findFront) (maxL := 7) (ret := none) (by decide) rfl ?_
  intro p e s m args below meth c s₁ B hml hv
  obtain ⟨rfl, hsz, hP, hK, hD0⟩ := hv
  have hx := B.exec
  have hb := B.bytes
  have hts := atoms_spec (ws := (.code yX12_findFront cX12_findFront 7 none :: wsAll)) B.pre
  have hta := fun w h => hts w (List.mem_cons_of_mem _ h)
  have hown : s.vm.findClass RX12 = some m.cls := findClass_of_methodNamed B.named
  have hlocks := B.notSynchronized
  subst hsz
  have hD := hD0.self (sz := s.heap.size)
  generalize hAe : va_A (wM cI cJ cZ am t) s.heap.size = A at hD ⊢
  have hA : ∀ q : Nat, s.heap.size ≤ q → A q := fun q h => by rw [← hAe]; exact Or.inr h
  have C0 : cx p s m ([.ref (am 68)].toArray) meth c cX12_findFront RX12 7 none D (tyM cI cJ cZ) A := ⟨hx, hb, B.returns, hml, hown, hta, hlocks, hK, hA⟩
  have hW : wl D A s (wM cI cJ cZ am t) s.heap [] := ⟨hP, hD, va_S.rf⟩
  have hl := lv_entry [.ref (am 68)] (n := 7) (Nat.le_of_ble_eq_true rfl)
  rw [lg_entry_eq]
  generalize (lg_sl [.ref (am 68)] ++ List.replicate (7 - (lg_sl [.ref (am 68)]).length) Slot.unset).toArray = ls at hl ⊢
  have hl : lv_has ls 7 [(0, .ref (am 68))] := hl
  unfold m_findFront at ho
  refine lv_iconst (v := (1 : Int32)) hx hb dX12_findFront_0 (by decide) ?_
  refine lv_aload_n hx hb dX12_findFront_1 rfl (lv_at hl 0 rfl) ?_
  refine mGET_45 C0 hW dX12_findFront_2 ?_
  refine lv_ishl hx hb dX12_findFront_5 ?_
  refine lv_nmi ho (fun x37 ho => ?_)
  refine lv_istore_n (lv' := [(1, .int x37), (0, .ref (am 68))]) hx hb dX12_findFront_6 rfl hl (by decide) rfl (fun ls hl => ?_)
  refine lv_iconst (v := (0 : Int32)) hx hb dX12_findFront_7 (by decide) ?_
  refine lv_istore_n (lv' := [(2, .int (0 : Int32)), (1, .int x37), (0, .ref (am 68))]) hx hb dX12_findFront_8 rfl hl (by decide) rfl (fun ls hl => ?_)
  obtain ⟨y38, hc40, ho⟩ := bd_some ho
  obtain ⟨ny38, hc40⟩ := lp_to hc40
  refine m_findFront_L9 C0 ?_ ny38 _ _ hc40 _ _ _ hW (lv_sub hl [2, 1, 0] rfl)
  intro H locs ls hW hl
  refine lv_aload_n hx hb dX12_findFront_38 rfl (lv_at hl 0 rfl) ?_
  refine lv_iconst (v := (0 : Int32)) hx hb dX12_findFront_39 (by decide) ?_
  refine mPUT_48 C0 hW dX12_findFront_40 (fun H locs hW => ?_)
  obtain ⟨t41, ho, hW⟩ := nm_w (P := fun t => wl D A s (wM cI cJ cZ am t) H locs) ho hW
  refine lv_iconst (v := (-1 : Int32)) hx hb dX12_findFront_43 (by decide) ?_
  refine lv_istore_n (lv' := [(2, .int (-1 : Int32)), (0, .ref (am 68)), (1, .int x37)]) hx hb dX12_findFront_44 rfl hl (by decide) rfl (fun ls hl => ?_)
  refine lv_iconst (v := (1 : Int32)) hx hb dX12_findFront_45 (by decide) ?_
  refine lv_istore_n (lv' := [(3, .int (1 : Int32)), (2, .int (-1 : Int32)), (0, .ref (am 68)), (1, .int x37)]) hx hb dX12_findFront_46 rfl hl (by decide) rfl (fun ls hl => ?_)
  obtain ⟨y42, hc44, ho⟩ := bd_some ho
  obtain ⟨ny42, hc44⟩ := lp_to hc44
  refine m_findFront_L47 C0 ?_ ny42 _ _ _ hc44 _ _ _ hW (lv_sub hl [2, 3, 1, 0] rfl)
  intro H locs ls hW hl
  cases ho
  exact rtV C0 hW dX12_findFront_198
noncomputable def m_front (t : St) (a1 : Int32) : Option (Int32 × St) :=
  (m_whyChance t a1 (1 : Int32)).bind (fun q1 => if q1.1 = (1 : Int32) then ((m_findFront q1.2).bind (fun q4 => some ((gI q4 48), q4))) else (some (q1.1, q1.2)))
set_option maxHeartbeats 4000000 in
set_option maxRecDepth 100000 in
theorem c_m_front (l : Launch) {D : va_G} {cI cJ cZ : ClassId} {am : Nat → Nat} (sz : Nat) (t : St) (a1 : Int32) {r : Int32} {t' : St} (ho : m_front t a1 = some (r, t')) : Met l yX12_front (.code yX12_front cX12_front 3 (some .int) :: wsAll) (rmN 4 100) (va_Pc [.ref (am 68), .int a1] (prW D (tyM cI cJ cZ) (wM cI cJ cZ am t) sz)) (qI r D (tyM cI cJ cZ) (wM cI cJ cZ am t') (va_A (wM cI cJ cZ am t) sz)) 0 0 (va_A (wM cI cJ cZ am t) sz) := by
  refine Met.ofW (cc := cX12_front) (maxL := 3) (ret := (some .int)) (by decide) rfl ?_
  intro p e s m args below meth c s₁ B hml hv
  obtain ⟨rfl, hsz, hP, hK, hD0⟩ := hv
  have hx := B.exec
  have hb := B.bytes
  have hts := atoms_spec (ws := (.code yX12_front cX12_front 3 (some .int) :: wsAll)) B.pre
  have hta := fun w h => hts w (List.mem_cons_of_mem _ h)
  have hown : s.vm.findClass RX12 = some m.cls := findClass_of_methodNamed B.named
  have hlocks := B.notSynchronized
  subst hsz
  have hD := hD0.self (sz := s.heap.size)
  generalize hAe : va_A (wM cI cJ cZ am t) s.heap.size = A at hD ⊢
  have hA : ∀ q : Nat, s.heap.size ≤ q → A q := fun q h => by rw [← hAe]; exact Or.inr h
  have C0 : cx p s m ([.ref (am 68), .int a1].toArray) meth c cX12_front RX12 3 (some .int) D (tyM cI cJ cZ) A := ⟨hx, hb, B.returns, hml, hown, hta, hlocks, hK, hA⟩
  have hW : wl D A s (wM cI cJ cZ am t) s.heap [] := ⟨hP, hD, va_S.rf⟩
  have hl := lv_entry [.ref (am 68), .int a1] (n := 3) (Nat.le_of_ble_eq_true rfl)
  rw [lg_entry_eq]
  generalize (lg_sl [.ref (am 68), .int a1] ++ List.replicate (3 - (lg_sl [.ref (am 68), .int a1]).length) Slot.unset).toArray = ls at hl ⊢
  have hl : lv_has ls 3 [(0, .ref (am 68)), (1, .int a1)] := hl
  unfold m_front at ho
  refine lv_aload_n hx hb dX12_front_0 rfl (lv_at hl 0 rfl) ?_
  refine lv_iload_n hx hb dX12_front_1 rfl (lv_at hl 1 rfl) ?_
  refine lv_iconst (v := (1 : Int32)) hx hb dX12_front_2 (by decide) ?_
  obtain ⟨q1, hc2, ho⟩ := bd_some ho
  refine bkI C0 hW (runV (As := [.int a1, .int (1 : Int32)]) (rest := []) C0 hW (c_m_whyChance l _ t a1 (1 : Int32) (r := q1.1) (t' := q1.2) hc2) ca_X12_whyChance_372 0 12 rfl rfl rfl rfl rfl ⟨rfl, rfl⟩ ⟨Nat.le_of_ble_eq_true rfl, Nat.le_of_ble_eq_true rfl⟩ (Nat.le_of_ble_eq_true rfl) hl.1 dX12_front_3 ⟨Nat.le_of_ble_eq_true rfl, Nat.le_of_ble_eq_true rfl⟩) (fun H locs hW => ?_)
  refine lv_istore_n (lv' := [(2, .int q1.1), (0, .ref (am 68)), (1, .int a1)]) hx hb dX12_front_6 rfl hl (by decide) rfl (fun ls hl => ?_)
  refine lv_iload_n hx hb dX12_front_7 rfl (lv_at hl 0 rfl) ?_
  refine lv_iconst (v := (1 : Int32)) hx hb dX12_front_8 (by decide) ?_
  refine lv_icmp_eq (tgt := 14) hx hb dX12_front_9 (by decide) (fun c3 => ?_) (fun c3 => ?_)
  · replace ho := ite_t c3 ho
    refine lv_aload_n hx hb dX12_front_14 rfl (lv_at hl 1 rfl) ?_
    obtain ⟨q4, hc5, ho⟩ := bd_some ho
    refine bkV C0 hW (runV (As := []) (rest := []) C0 hW (c_m_findFront l _ q1.2 (t' := q4) hc5) ca_X12_findFront_405 0 12 rfl rfl rfl rfl rfl ⟨rfl, rfl⟩ ⟨Nat.le_of_ble_eq_true rfl, Nat.le_of_ble_eq_true rfl⟩ (Nat.le_of_ble_eq_true rfl) hl.1 dX12_front_15 ⟨Nat.le_of_ble_eq_true rfl, Nat.le_of_ble_eq_true rfl⟩) (fun H locs hW => ?_)
    refine lv_aload_n hx hb dX12_front_18 rfl (lv_at hl 1 rfl) ?_
    refine mGET_48 C0 hW dX12_front_19 ?_
    cases ho
    exact rtI C0 hW dX12_front_22
  · replace ho := ite_f c3 ho
    refine lv_iload_n hx hb dX12_front_12 rfl (lv_at hl 0 rfl) ?_
    cases ho
    exact rtI C0 hW dX12_front_13
noncomputable def m_frontAt_J20 (t : St) (v2 : Int32) (v3 : Int32) (w1 : Int32) (w2 : Int32) : Option (Int32 × St) :=
  (m_whyChance t w1 w2).bind (fun q1 => if q1.1 = (1 : Int32) then ((m_findFront q1.2).bind (fun q4 => if v2 < (gI q4 48) then ((m_wholes q4 (4505 : Int32) (16 : Int32)).bind (fun q7 => gd v2 1024 ((m_takes q7 (4507 : Int32) ((402 : Int32) + (gA q7 49 (v2).toNatClampNeg))).bind (fun q10 => (m_tells q10 (4507 : Int32) (4505 : Int32)).bind (fun q12 => if v3 = 0 then (gd v2 1024 (some ((gA q12 49 (v2).toNatClampNeg), q12))) else (gd v2 1024 ((m_wages q12 (gA q12 49 (v2).toNatClampNeg)).bind (fun q16 => some (q16, q12))))))))) else (some ((-1 : Int32), q4)))) else (some (q1.1, q1.2)))
noncomputable def m_frontAt_J19 (t : St) (v2 : Int32) (v3 : Int32) (w1 : Int32) : Option (Int32 × St) :=
  m_frontAt_J20 t v2 v3 w1 (0 : Int32)
noncomputable def m_frontAt (t : St) (a1 : Int32) (a2 : Int32) (a3 : Int32) : Option (Int32 × St) :=
  if a2 < 0 then (m_frontAt_J19 t a2 a3 a1) else ((m_in t a3 (0 : Int32) (1 : Int32)).bind (fun q20 => if q20 = 0 then (m_frontAt_J19 t a2 a3 a1) else (m_frontAt_J20 t a2 a3 a1 (1 : Int32))))
set_option maxHeartbeats 4000000 in
set_option maxRecDepth 100000 in
theorem c_m_frontAt (l : Launch) {D : va_G} {cI cJ cZ : ClassId} {am : Nat → Nat} (sz : Nat) (t : St) (a1 : Int32) (a2 : Int32) (a3 : Int32) {r : Int32} {t' : St} (ho : m_frontAt t a1 a2 a3 = some (r, t')) : Met l yX12_frontAt (.code yX12_frontAt cX12_frontAt 5 (some .int) :: wsAll) (rmN 4 100) (va_Pc [.ref (am 68), .int a1, .int a2, .int a3] (prW D (tyM cI cJ cZ) (wM cI cJ cZ am t) sz)) (qI r D (tyM cI cJ cZ) (wM cI cJ cZ am t') (va_A (wM cI cJ cZ am t) sz)) 0 0 (va_A (wM cI cJ cZ am t) sz) := by
  refine Met.ofW (cc := cX12_frontAt) (maxL := 5) (ret := (some .int)) (by decide) rfl ?_
  intro p e s m args below meth c s₁ B hml hv
  obtain ⟨rfl, hsz, hP, hK, hD0⟩ := hv
  have hx := B.exec
  have hb := B.bytes
  have hts := atoms_spec (ws := (.code yX12_frontAt cX12_frontAt 5 (some .int) :: wsAll)) B.pre
  have hta := fun w h => hts w (List.mem_cons_of_mem _ h)
  have hown : s.vm.findClass RX12 = some m.cls := findClass_of_methodNamed B.named
  have hlocks := B.notSynchronized
  subst hsz
  have hD := hD0.self (sz := s.heap.size)
  generalize hAe : va_A (wM cI cJ cZ am t) s.heap.size = A at hD ⊢
  have hA : ∀ q : Nat, s.heap.size ≤ q → A q := fun q h => by rw [← hAe]; exact Or.inr h
  have C0 : cx p s m ([.ref (am 68), .int a1, .int a2, .int a3].toArray) meth c cX12_frontAt RX12 5 (some .int) D (tyM cI cJ cZ) A := ⟨hx, hb, B.returns, hml, hown, hta, hlocks, hK, hA⟩
  have hW : wl D A s (wM cI cJ cZ am t) s.heap [] := ⟨hP, hD, va_S.rf⟩
  have hl := lv_entry [.ref (am 68), .int a1, .int a2, .int a3] (n := 5) (Nat.le_of_ble_eq_true rfl)
  rw [lg_entry_eq]
  generalize (lg_sl [.ref (am 68), .int a1, .int a2, .int a3] ++ List.replicate (5 - (lg_sl [.ref (am 68), .int a1, .int a2, .int a3]).length) Slot.unset).toArray = ls at hl ⊢
  have hl : lv_has ls 5 [(0, .ref (am 68)), (1, .int a1), (2, .int a2), (3, .int a3)] := hl
  clear hAe hD hP hD0 hts
  have J20 : ∀ (t : St) (v2 : Int32) (v3 : Int32) (w1 : Int32) (w2 : Int32) (_ : m_frontAt_J20 t v2 v3 w1 w2 = some (r, t')) (H : Heap) (locs : List Loc) (ls : Array Slot), wl D A s (wM cI cJ cZ am t) H locs → lv_has ls 5 [(0, .ref (am 68)), (2, .int v2), (3, .int v3)] → W p l e (rmN 4 100) s m ([.ref (am 68), .int a1, .int a2, .int a3].toArray) below meth c H locs 0 0 (MQ below (qI r D (tyM cI cJ cZ) (wM cI cJ cZ am t') A) ([.ref (am 68), .int a1, .int a2, .int a3].toArray) s 0 0 A) (F0 m 20 ls [.int w2, .int w1, .ref (am 68)]) := by
    intro t v2 v3 w1 w2 ho H locs ls hW hl
    unfold m_frontAt_J20 at ho
    obtain ⟨q1, hc2, ho⟩ := bd_some ho
    refine bkI C0 hW (runV (As := [.int w1, .int w2]) (rest := []) C0 hW (c_m_whyChance l _ t w1 w2 (r := q1.1) (t' := q1.2) hc2) ca_X12_whyChance_372 0 12 rfl rfl rfl rfl rfl ⟨rfl, rfl⟩ ⟨Nat.le_of_ble_eq_true rfl, Nat.le_of_ble_eq_true rfl⟩ (Nat.le_of_ble_eq_true rfl) hl.1 dX12_frontAt_20 ⟨Nat.le_of_ble_eq_true rfl, Nat.le_of_ble_eq_true rfl⟩) (fun H locs hW => ?_)
    refine lv_istore (lv' := [(4, .int q1.1), (0, .ref (am 68)), (2, .int v2), (3, .int v3)]) hx hb dX12_frontAt_23 hl (by decide) rfl (fun ls hl => ?_)
    refine lv_iload hx hb dX12_frontAt_25 (lv_at hl 0 rfl) ?_
    refine lv_iconst (v := (1 : Int32)) hx hb dX12_frontAt_27 (by decide) ?_
    refine lv_icmp_eq (tgt := 34) hx hb dX12_frontAt_28 (by decide) (fun c3 => ?_) (fun c3 => ?_)
    · replace ho := ite_t c3 ho
      refine lv_aload_n hx hb dX12_frontAt_34 rfl (lv_at hl 1 rfl) ?_
      obtain ⟨q4, hc5, ho⟩ := bd_some ho
      refine bkV C0 hW (runV (As := []) (rest := []) C0 hW (c_m_findFront l _ q1.2 (t' := q4) hc5) ca_X12_findFront_405 0 12 rfl rfl rfl rfl rfl ⟨rfl, rfl⟩ ⟨Nat.le_of_ble_eq_true rfl, Nat.le_of_ble_eq_true rfl⟩ (Nat.le_of_ble_eq_true rfl) hl.1 dX12_frontAt_35 ⟨Nat.le_of_ble_eq_true rfl, Nat.le_of_ble_eq_true rfl⟩) (fun H locs hW => ?_)
      refine lv_iload_n hx hb dX12_frontAt_38 rfl (lv_at hl 2 rfl) ?_
      refine lv_aload_n hx hb dX12_frontAt_39 rfl (lv_at hl 1 rfl) ?_
      refine mGET_48 C0 hW dX12_frontAt_40 ?_
      refine lv_icmp_lt (tgt := 48) hx hb dX12_frontAt_43 (by decide) (fun c6 => ?_) (fun c6 => ?_)
      · replace ho := ite_t c6 ho
        refine lv_aload_n hx hb dX12_frontAt_48 rfl (lv_at hl 1 rfl) ?_
        refine lv_sipush (v := (4505 : Int32)) hx hb dX12_frontAt_49 (by decide) ?_
        refine lv_bipush (v := (16 : Int32)) hx hb dX12_frontAt_52 (by decide) ?_
        obtain ⟨q7, hc8, ho⟩ := bd_some ho
        refine bkV C0 hW (runV (As := [.int (4505 : Int32), .int (16 : Int32)]) (rest := []) C0 hW (c_m_wholes l _ q4 (4505 : Int32) (16 : Int32) (t' := q7) hc8) ca_X12_wholes_381 0 12 rfl rfl rfl rfl rfl ⟨rfl, rfl⟩ ⟨Nat.le_of_ble_eq_true rfl, Nat.le_of_ble_eq_true rfl⟩ (Nat.le_of_ble_eq_true rfl) hl.1 dX12_frontAt_54 ⟨Nat.le_of_ble_eq_true rfl, Nat.le_of_ble_eq_true rfl⟩) (fun H locs hW => ?_)
        refine lv_aload_n hx hb dX12_frontAt_57 rfl (lv_at hl 1 rfl) ?_
        refine lv_sipush (v := (4507 : Int32)) hx hb dX12_frontAt_58 (by decide) ?_
        refine lv_sipush (v := (402 : Int32)) hx hb dX12_frontAt_61 (by decide) ?_
        refine lv_aload_n hx hb dX12_frontAt_64 rfl (lv_at hl 1 rfl) ?_
        refine mGET_49 C0 hW dX12_frontAt_65 ?_
        refine lv_iload_n hx hb dX12_frontAt_68 rfl (lv_at hl 2 rfl) ?_
        obtain ⟨g9, ho⟩ := gd_some ho
        refine mLD_49 C0 hW g9 dX12_frontAt_69 ?_
        refine lv_iadd hx hb dX12_frontAt_70 ?_
        obtain ⟨q10, hc11, ho⟩ := bd_some ho
        refine bkV C0 hW (runV (As := [.int (4507 : Int32), .int ((402 : Int32) + (gA q7 49 (v2).toNatClampNeg))]) (rest := []) C0 hW (c_m_takes l _ q7 (4507 : Int32) ((402 : Int32) + (gA q7 49 (v2).toNatClampNeg)) (t' := q10) hc11) ca_X12_takes_333 0 12 rfl rfl rfl rfl rfl ⟨rfl, rfl⟩ ⟨Nat.le_of_ble_eq_true rfl, Nat.le_of_ble_eq_true rfl⟩ (Nat.le_of_ble_eq_true rfl) hl.1 dX12_frontAt_71 ⟨Nat.le_of_ble_eq_true rfl, Nat.le_of_ble_eq_true rfl⟩) (fun H locs hW => ?_)
        refine lv_aload_n hx hb dX12_frontAt_74 rfl (lv_at hl 1 rfl) ?_
        refine lv_sipush (v := (4507 : Int32)) hx hb dX12_frontAt_75 (by decide) ?_
        refine lv_sipush (v := (4505 : Int32)) hx hb dX12_frontAt_78 (by decide) ?_
        obtain ⟨q12, hc13, ho⟩ := bd_some ho
        refine bkV C0 hW (runV (As := [.int (4507 : Int32), .int (4505 : Int32)]) (rest := []) C0 hW (c_m_tells l _ q10 (4507 : Int32) (4505 : Int32) (t' := q12) hc13) ca_X12_tells_384 0 12 rfl rfl rfl rfl rfl ⟨rfl, rfl⟩ ⟨Nat.le_of_ble_eq_true rfl, Nat.le_of_ble_eq_true rfl⟩ (Nat.le_of_ble_eq_true rfl) hl.1 dX12_frontAt_81 ⟨Nat.le_of_ble_eq_true rfl, Nat.le_of_ble_eq_true rfl⟩) (fun H locs hW => ?_)
        refine lv_iload_n hx hb dX12_frontAt_84 rfl (lv_at hl 3 rfl) ?_
        refine lv_if_ne (tgt := 97) hx hb dX12_frontAt_85 (by decide) (fun c14 => ?_) (fun c14 => ?_)
        · replace ho := ite_f c14 ho
          refine lv_aload_n hx hb dX12_frontAt_97 rfl (lv_at hl 1 rfl) ?_
          refine lv_aload_n hx hb dX12_frontAt_98 rfl (lv_at hl 1 rfl) ?_
          refine mGET_49 C0 hW dX12_frontAt_99 ?_
          refine lv_iload_n hx hb dX12_frontAt_102 rfl (lv_at hl 2 rfl) ?_
          obtain ⟨g15, ho⟩ := gd_some ho
          refine mLD_49 C0 hW g15 dX12_frontAt_103 ?_
          obtain ⟨q16, hc17, ho⟩ := bd_some ho
          refine bkI C0 hW (runV (As := [.int (gA q12 49 (v2).toNatClampNeg)]) (rest := []) C0 hW (c_m_wages l _ q12 (gA q12 49 (v2).toNatClampNeg) (r := q16) hc17) ca_X12_wages_399 0 12 rfl rfl rfl rfl rfl ⟨rfl, rfl⟩ ⟨Nat.le_of_ble_eq_true rfl, Nat.le_of_ble_eq_true rfl⟩ (Nat.le_of_ble_eq_true rfl) hl.1 dX12_frontAt_104 ⟨Nat.le_of_ble_eq_true rfl, Nat.le_of_ble_eq_true rfl⟩) (fun H locs hW => ?_)
          cases ho
          exact rtI C0 hW dX12_frontAt_107
        · replace ho := ite_t c14 ho
          refine lv_aload_n hx hb dX12_frontAt_88 rfl (lv_at hl 1 rfl) ?_
          refine mGET_49 C0 hW dX12_frontAt_89 ?_
          refine lv_iload_n hx hb dX12_frontAt_92 rfl (lv_at hl 2 rfl) ?_
          obtain ⟨g18, ho⟩ := gd_some ho
          refine mLD_49 C0 hW g18 dX12_frontAt_93 ?_
          refine lv_goto (tgt := 107) hx hb dX12_frontAt_94 (by decide) ?_
          cases ho
          exact rtI C0 hW dX12_frontAt_107
      · replace ho := ite_f c6 ho
        refine lv_iconst (v := (-1 : Int32)) hx hb dX12_frontAt_46 (by decide) ?_
        cases ho
        exact rtI C0 hW dX12_frontAt_47
    · replace ho := ite_f c3 ho
      refine lv_iload hx hb dX12_frontAt_31 (lv_at hl 0 rfl) ?_
      cases ho
      exact rtI C0 hW dX12_frontAt_33
  have J19 : ∀ (t : St) (v2 : Int32) (v3 : Int32) (w1 : Int32) (_ : m_frontAt_J19 t v2 v3 w1 = some (r, t')) (H : Heap) (locs : List Loc) (ls : Array Slot), wl D A s (wM cI cJ cZ am t) H locs → lv_has ls 5 [(0, .ref (am 68)), (2, .int v2), (3, .int v3)] → W p l e (rmN 4 100) s m ([.ref (am 68), .int a1, .int a2, .int a3].toArray) below meth c H locs 0 0 (MQ below (qI r D (tyM cI cJ cZ) (wM cI cJ cZ am t') A) ([.ref (am 68), .int a1, .int a2, .int a3].toArray) s 0 0 A) (F0 m 19 ls [.int w1, .ref (am 68)]) := by
    intro t v2 v3 w1 ho H locs ls hW hl
    unfold m_frontAt_J19 at ho
    refine lv_iconst (v := (0 : Int32)) hx hb dX12_frontAt_19 (by decide) ?_
    exact J20 _ _ _ _ _ ho _ _ _ hW (lv_sub hl [0, 1, 2] rfl)
  unfold m_frontAt at ho
  refine lv_aload_n hx hb dX12_frontAt_0 rfl (lv_at hl 0 rfl) ?_
  refine lv_iload_n hx hb dX12_frontAt_1 rfl (lv_at hl 1 rfl) ?_
  refine lv_iload_n hx hb dX12_frontAt_2 rfl (lv_at hl 2 rfl) ?_
  refine lv_if_lt (tgt := 19) hx hb dX12_frontAt_3 (by decide) (fun c19 => ?_) (fun c19 => ?_)
  · replace ho := ite_t c19 ho
    exact J19 _ _ _ _ ho _ _ _ hW (lv_sub hl [0, 2, 3] rfl)
  · replace ho := ite_f c19 ho
    refine lv_iload_n hx hb dX12_frontAt_6 rfl (lv_at hl 3 rfl) ?_
    refine lv_iconst (v := (0 : Int32)) hx hb dX12_frontAt_7 (by decide) ?_
    refine lv_iconst (v := (1 : Int32)) hx hb dX12_frontAt_8 (by decide) ?_
    obtain ⟨q20, hc21, ho⟩ := bd_some ho
    refine bkZ C0 hW (runS (As := [.int a3, .int (0 : Int32), .int (1 : Int32)]) (rest := [.int a1, .ref (am 68)]) C0 hW (c_m_in l _ t a3 (0 : Int32) (1 : Int32) (r := q20) hc21) ca_X12_in_179 rfl rfl ⟨rfl, rfl⟩ ⟨Nat.le_of_ble_eq_true rfl, Nat.le_of_ble_eq_true rfl⟩ (Nat.le_of_ble_eq_true rfl) hl.1 dX12_frontAt_9 ⟨Nat.le_of_ble_eq_true rfl, Nat.le_of_ble_eq_true rfl⟩) (fun z22 H locs hW => ?_)
    refine lv_if_eq (tgt := 19) hx hb dX12_frontAt_12 (by decide) (fun c23 => ?_) (fun c23 => ?_)
    · replace ho := ite_t c23 ho
      exact J19 _ _ _ _ ho _ _ _ hW (lv_sub hl [0, 2, 3] rfl)
    · replace ho := ite_f c23 ho
      refine lv_iconst (v := (1 : Int32)) hx hb dX12_frontAt_15 (by decide) ?_
      refine lv_goto (tgt := 20) hx hb dX12_frontAt_16 (by decide) ?_
      exact J20 _ _ _ _ _ ho _ _ _ hW (lv_sub hl [0, 2, 3] rfl)
noncomputable def m_patrol_B14 (v1 : Int32) (t : St) : Option ((Int32 × St) ⊕ (St)) :=
  if (16 : Int32) ≤ v1 then (some (.inr t)) else (gd (((16 : Int32) * (gI t 50)) + v1) 96 (nm (sA t 51 (((16 : Int32) * (gI t 50)) + v1) (0 : Int32)) (fun t3 : St => nm (v1 + (1 : Int32)) (fun x4 : Int32 => some (.inl (x4, t3))))))
noncomputable def m_patrol (t : St) : Option (Int32 × St) :=
  if (gI t 50) = (6 : Int32) then (some ((-4 : Int32), t)) else ((lp (fun x => m_patrol_B14 x.1 x.2) ((0 : Int32), t)).bind (fun y6 => nm (sI y6 50 ((gI y6 50) + (1 : Int32))) (fun t9 : St => some (((gI t9 50) - (1 : Int32)), t9))))
set_option maxHeartbeats 4000000 in
set_option maxRecDepth 100000 in
theorem m_patrol_L14 {p : Program} {l : Launch} {e : Env} {s : State} {m : MethodId} {args : Array Value} {below : List Frame} {meth : Method} {c : Code} {Q : State → Prop} {D : va_G} {cI cJ cZ : ClassId} {am : Nat → Nat} {A : Nat → Prop} (C0 : cx p s m args meth c cX12_patrol RX12 2 (some .int) D (tyM cI cJ cZ) A) {y : St} (hK0 : ∀ (H : Heap) (locs : List Loc) (ls : Array Slot), wl D A s (wM cI cJ cZ am y) H locs → lv_has ls 2 [(0, .ref (am 68))] → W p l e (rmN 0 0) s m args below meth c H locs 0 0 Q (F0 m 41 ls [])) :
    ∀ (n : Nat) (v1 : Int32) (t : St), lpn (fun x => m_patrol_B14 x.1 x.2) n (v1, t) = some y → ∀ (H : Heap) (locs : List Loc) (ls : Array Slot), wl D A s (wM cI cJ cZ am t) H locs → lv_has ls 2 [(0, .ref (am 68)), (1, .int v1)] → W p l e (rmN 0 0) s m args below meth c H locs 0 0 Q (F0 m 14 ls []) := by
  have hx := C0.1
  have hb := C0.2.1
  have hta := C0.2.2.2.2.2.1
  have hown := C0.2.2.2.2.1
  intro n
  induction n with
  | zero => intro _ _ h; cases h
  | succ n ih =>
    intro v1 t hrun H locs ls hW hl
    obtain ⟨o, ho, hrun⟩ := bd_some hrun
    unfold m_patrol_B14 at ho
    refine lv_iload_n hx hb dX12_patrol_14 rfl (lv_at hl 1 rfl) ?_
    refine lv_bipush (v := (16 : Int32)) hx hb dX12_patrol_15 (by decide) ?_
    refine lv_icmp_ge (tgt := 41) hx hb dX12_patrol_17 (by decide) (fun c1 => ?_) (fun c1 => ?_)
    · replace ho := ite_t c1 ho
      cases ho
      cases hrun
      exact hK0 _ _ _ hW (lv_sub hl [0] rfl)
    · replace ho := ite_f c1 ho
      refine lv_aload_n hx hb dX12_patrol_20 rfl (lv_at hl 0 rfl) ?_
      refine mGET_51 C0 hW dX12_patrol_21 ?_
      refine lv_bipush (v := (16 : Int32)) hx hb dX12_patrol_24 (by decide) ?_
      refine lv_aload_n hx hb dX12_patrol_26 rfl (lv_at hl 0 rfl) ?_
      refine mGET_50 C0 hW dX12_patrol_27 ?_
      refine lv_imul hx hb dX12_patrol_30 ?_
      refine lv_iload_n hx hb dX12_patrol_31 rfl (lv_at hl 1 rfl) ?_
      refine lv_iadd hx hb dX12_patrol_32 ?_
      refine lv_iconst (v := (0 : Int32)) hx hb dX12_patrol_33 (by decide) ?_
      obtain ⟨g2, ho⟩ := gd_some ho
      refine mST_51 C0 hW g2 dX12_patrol_34 (fun H locs hW => ?_)
      obtain ⟨t3, ho, hW⟩ := nm_w (P := fun t => wl D A s (wM cI cJ cZ am t) H locs) ho hW
      obtain ⟨x4, ex4, ho⟩ := nm_x ho
      refine lv_iinc (v := x4) (lv' := [(1, .int x4), (0, .ref (am 68))]) hx hb dX12_patrol_35 hl (k := 1) rfl (by rw [ex4]; rfl) (by decide) rfl (fun ls hl => ?_)
      clear ex4
      refine lv_goto (tgt := 14) hx hb dX12_patrol_38 (by decide) ?_
      cases ho
      exact ih _ _ hrun _ _ _ hW (lv_sub hl [1, 0] rfl)
set_option maxHeartbeats 4000000 in
set_option maxRecDepth 100000 in
theorem c_m_patrol (l : Launch) {D : va_G} {cI cJ cZ : ClassId} {am : Nat → Nat} (sz : Nat) (t : St) {r : Int32} {t' : St} (ho : m_patrol t = some (r, t')) : Met l yX12_patrol (.code yX12_patrol cX12_patrol 2 (some .int) :: wsAll) (rmN 0 0) (va_Pc [.ref (am 68)] (prW D (tyM cI cJ cZ) (wM cI cJ cZ am t) sz)) (qI r D (tyM cI cJ cZ) (wM cI cJ cZ am t') (va_A (wM cI cJ cZ am t) sz)) 0 0 (va_A (wM cI cJ cZ am t) sz) := by
  refine Met.ofW (cc := cX12_patrol) (maxL := 2) (ret := (some .int)) (by decide) rfl ?_
  intro p e s m args below meth c s₁ B hml hv
  obtain ⟨rfl, hsz, hP, hK, hD0⟩ := hv
  have hx := B.exec
  have hb := B.bytes
  have hts := atoms_spec (ws := (.code yX12_patrol cX12_patrol 2 (some .int) :: wsAll)) B.pre
  have hta := fun w h => hts w (List.mem_cons_of_mem _ h)
  have hown : s.vm.findClass RX12 = some m.cls := findClass_of_methodNamed B.named
  have hlocks := B.notSynchronized
  subst hsz
  have hD := hD0.self (sz := s.heap.size)
  generalize hAe : va_A (wM cI cJ cZ am t) s.heap.size = A at hD ⊢
  have hA : ∀ q : Nat, s.heap.size ≤ q → A q := fun q h => by rw [← hAe]; exact Or.inr h
  have C0 : cx p s m ([.ref (am 68)].toArray) meth c cX12_patrol RX12 2 (some .int) D (tyM cI cJ cZ) A := ⟨hx, hb, B.returns, hml, hown, hta, hlocks, hK, hA⟩
  have hW : wl D A s (wM cI cJ cZ am t) s.heap [] := ⟨hP, hD, va_S.rf⟩
  have hl := lv_entry [.ref (am 68)] (n := 2) (Nat.le_of_ble_eq_true rfl)
  rw [lg_entry_eq]
  generalize (lg_sl [.ref (am 68)] ++ List.replicate (2 - (lg_sl [.ref (am 68)]).length) Slot.unset).toArray = ls at hl ⊢
  have hl : lv_has ls 2 [(0, .ref (am 68))] := hl
  unfold m_patrol at ho
  refine lv_aload_n hx hb dX12_patrol_0 rfl (lv_at hl 0 rfl) ?_
  refine mGET_50 C0 hW dX12_patrol_1 ?_
  refine lv_bipush (v := (6 : Int32)) hx hb dX12_patrol_4 (by decide) ?_
  refine lv_icmp_ne (tgt := 12) hx hb dX12_patrol_6 (by decide) (fun c5 => ?_) (fun c5 => ?_)
  · replace ho := ite_f c5 ho
    refine lv_iconst (v := (0 : Int32)) hx hb dX12_patrol_12 (by decide) ?_
    refine lv_istore_n (lv' := [(1, .int (0 : Int32)), (0, .ref (am 68))]) hx hb dX12_patrol_13 rfl hl (by decide) rfl (fun ls hl => ?_)
    obtain ⟨y6, hc8, ho⟩ := bd_some ho
    obtain ⟨ny6, hc8⟩ := lp_to hc8
    refine m_patrol_L14 C0 ?_ ny6 _ _ hc8 _ _ _ hW (lv_sub hl [1, 0] rfl)
    intro H locs ls hW hl
    refine lv_aload_n hx hb dX12_patrol_41 rfl (lv_at hl 0 rfl) ?_
    refine lv_dup hx hb dX12_patrol_42 rfl ?_
    refine mGET_50 C0 hW dX12_patrol_43 ?_
    refine lv_iconst (v := (1 : Int32)) hx hb dX12_patrol_46 (by decide) ?_
    refine lv_iadd hx hb dX12_patrol_47 ?_
    refine mPUT_50 C0 hW dX12_patrol_48 (fun H locs hW => ?_)
    obtain ⟨t9, ho, hW⟩ := nm_w (P := fun t => wl D A s (wM cI cJ cZ am t) H locs) ho hW
    refine lv_aload_n hx hb dX12_patrol_51 rfl (lv_at hl 0 rfl) ?_
    refine mGET_50 C0 hW dX12_patrol_52 ?_
    refine lv_iconst (v := (1 : Int32)) hx hb dX12_patrol_55 (by decide) ?_
    refine lv_isub hx hb dX12_patrol_56 ?_
    cases ho
    exact rtI C0 hW dX12_patrol_57
  · replace ho := ite_t c5 ho
    refine lv_bipush (v := (-4 : Int32)) hx hb dX12_patrol_9 (by decide) ?_
    cases ho
    exact rtI C0 hW dX12_patrol_11
noncomputable def m_catches (t : St) (a1 : Int32) (a2 : Int32) (a3 : Int32) : Option (Int32 × St) :=
  (m_in t a1 (0 : Int32) ((gI t 50) - (1 : Int32))).bind (fun q1 => if q1 = 0 then (some ((-2 : Int32), t)) else ((m_isStep t a2).bind (fun q5 => if q5 = 0 then (some ((-2 : Int32), t)) else ((m_in t a3 (0 : Int32) (1000 : Int32)).bind (fun q9 => if q9 = 0 then (some ((-2 : Int32), t)) else (gd (((16 : Int32) * a1) + a2) 96 (nm (gA t 51 ((((16 : Int32) * a1) + a2)).toNatClampNeg) (fun x14 : Int32 => gd (((16 : Int32) * a1) + a2) 96 (nm (sA t 51 (((16 : Int32) * a1) + a2) a3) (fun t16 : St => some (x14, t16)))))))))))
set_option maxHeartbeats 4000000 in
set_option maxRecDepth 100000 in
theorem c_m_catches (l : Launch) {D : va_G} {cI cJ cZ : ClassId} {am : Nat → Nat} (sz : Nat) (t : St) (a1 : Int32) (a2 : Int32) (a3 : Int32) {r : Int32} {t' : St} (ho : m_catches t a1 a2 a3 = some (r, t')) : Met l yX12_catches (.code yX12_catches cX12_catches 5 (some .int) :: wsAll) (rmN 2 42) (va_Pc [.ref (am 68), .int a1, .int a2, .int a3] (prW D (tyM cI cJ cZ) (wM cI cJ cZ am t) sz)) (qI r D (tyM cI cJ cZ) (wM cI cJ cZ am t') (va_A (wM cI cJ cZ am t) sz)) 0 0 (va_A (wM cI cJ cZ am t) sz) := by
  refine Met.ofW (cc := cX12_catches) (maxL := 5) (ret := (some .int)) (by decide) rfl ?_
  intro p e s m args below meth c s₁ B hml hv
  obtain ⟨rfl, hsz, hP, hK, hD0⟩ := hv
  have hx := B.exec
  have hb := B.bytes
  have hts := atoms_spec (ws := (.code yX12_catches cX12_catches 5 (some .int) :: wsAll)) B.pre
  have hta := fun w h => hts w (List.mem_cons_of_mem _ h)
  have hown : s.vm.findClass RX12 = some m.cls := findClass_of_methodNamed B.named
  have hlocks := B.notSynchronized
  subst hsz
  have hD := hD0.self (sz := s.heap.size)
  generalize hAe : va_A (wM cI cJ cZ am t) s.heap.size = A at hD ⊢
  have hA : ∀ q : Nat, s.heap.size ≤ q → A q := fun q h => by rw [← hAe]; exact Or.inr h
  have C0 : cx p s m ([.ref (am 68), .int a1, .int a2, .int a3].toArray) meth c cX12_catches RX12 5 (some .int) D (tyM cI cJ cZ) A := ⟨hx, hb, B.returns, hml, hown, hta, hlocks, hK, hA⟩
  have hW : wl D A s (wM cI cJ cZ am t) s.heap [] := ⟨hP, hD, va_S.rf⟩
  have hl := lv_entry [.ref (am 68), .int a1, .int a2, .int a3] (n := 5) (Nat.le_of_ble_eq_true rfl)
  rw [lg_entry_eq]
  generalize (lg_sl [.ref (am 68), .int a1, .int a2, .int a3] ++ List.replicate (5 - (lg_sl [.ref (am 68), .int a1, .int a2, .int a3]).length) Slot.unset).toArray = ls at hl ⊢
  have hl : lv_has ls 5 [(0, .ref (am 68)), (1, .int a1), (2, .int a2), (3, .int a3)] := hl
  unfold m_catches at ho
  refine lv_iload_n hx hb dX12_catches_0 rfl (lv_at hl 1 rfl) ?_
  refine lv_iconst (v := (0 : Int32)) hx hb dX12_catches_1 (by decide) ?_
  refine lv_aload_n hx hb dX12_catches_2 rfl (lv_at hl 0 rfl) ?_
  refine mGET_50 C0 hW dX12_catches_3 ?_
  refine lv_iconst (v := (1 : Int32)) hx hb dX12_catches_6 (by decide) ?_
  refine lv_isub hx hb dX12_catches_7 ?_
  obtain ⟨q1, hc2, ho⟩ := bd_some ho
  refine bkZ C0 hW (runS (As := [.int a1, .int (0 : Int32), .int ((gI t 50) - (1 : Int32))]) (rest := []) C0 hW (c_m_in l _ t a1 (0 : Int32) ((gI t 50) - (1 : Int32)) (r := q1) hc2) ca_X12_in_179 rfl rfl ⟨rfl, rfl⟩ ⟨Nat.le_of_ble_eq_true rfl, Nat.le_of_ble_eq_true rfl⟩ (Nat.le_of_ble_eq_true rfl) hl.1 dX12_catches_8 ⟨Nat.le_of_ble_eq_true rfl, Nat.le_of_ble_eq_true rfl⟩) (fun z3 H locs hW => ?_)
  refine lv_if_eq (tgt := 32) hx hb dX12_catches_11 (by decide) (fun c4 => ?_) (fun c4 => ?_)
  · replace ho := ite_t c4 ho
    refine lv_bipush (v := (-2 : Int32)) hx hb dX12_catches_32 (by decide) ?_
    cases ho
    exact rtI C0 hW dX12_catches_34
  · replace ho := ite_f c4 ho
    refine lv_iload_n hx hb dX12_catches_14 rfl (lv_at hl 2 rfl) ?_
    obtain ⟨q5, hc6, ho⟩ := bd_some ho
    refine bkZ C0 hW (runS (As := [.int a2]) (rest := []) C0 hW (c_m_isStep l _ t a2 (r := q5) hc6) ca_X12_isStep_183 rfl rfl ⟨rfl, rfl⟩ ⟨Nat.le_of_ble_eq_true rfl, Nat.le_of_ble_eq_true rfl⟩ (Nat.le_of_ble_eq_true rfl) hl.1 dX12_catches_15 ⟨Nat.le_of_ble_eq_true rfl, Nat.le_of_ble_eq_true rfl⟩) (fun z7 H locs hW => ?_)
    refine lv_if_eq (tgt := 32) hx hb dX12_catches_18 (by decide) (fun c8 => ?_) (fun c8 => ?_)
    · replace ho := ite_t c8 ho
      refine lv_bipush (v := (-2 : Int32)) hx hb dX12_catches_32 (by decide) ?_
      cases ho
      exact rtI C0 hW dX12_catches_34
    · replace ho := ite_f c8 ho
      refine lv_iload_n hx hb dX12_catches_21 rfl (lv_at hl 3 rfl) ?_
      refine lv_iconst (v := (0 : Int32)) hx hb dX12_catches_22 (by decide) ?_
      refine lv_sipush (v := (1000 : Int32)) hx hb dX12_catches_23 (by decide) ?_
      obtain ⟨q9, hc10, ho⟩ := bd_some ho
      refine bkZ C0 hW (runS (As := [.int a3, .int (0 : Int32), .int (1000 : Int32)]) (rest := []) C0 hW (c_m_in l _ t a3 (0 : Int32) (1000 : Int32) (r := q9) hc10) ca_X12_in_179 rfl rfl ⟨rfl, rfl⟩ ⟨Nat.le_of_ble_eq_true rfl, Nat.le_of_ble_eq_true rfl⟩ (Nat.le_of_ble_eq_true rfl) hl.1 dX12_catches_26 ⟨Nat.le_of_ble_eq_true rfl, Nat.le_of_ble_eq_true rfl⟩) (fun z11 H locs hW => ?_)
      refine lv_if_ne (tgt := 35) hx hb dX12_catches_29 (by decide) (fun c12 => ?_) (fun c12 => ?_)
      · replace ho := ite_f c12 ho
        refine lv_aload_n hx hb dX12_catches_35 rfl (lv_at hl 0 rfl) ?_
        refine mGET_51 C0 hW dX12_catches_36 ?_
        refine lv_bipush (v := (16 : Int32)) hx hb dX12_catches_39 (by decide) ?_
        refine lv_iload_n hx hb dX12_catches_41 rfl (lv_at hl 1 rfl) ?_
        refine lv_imul hx hb dX12_catches_42 ?_
        refine lv_iload_n hx hb dX12_catches_43 rfl (lv_at hl 2 rfl) ?_
        refine lv_iadd hx hb dX12_catches_44 ?_
        obtain ⟨g13, ho⟩ := gd_some ho
        refine mLD_51 C0 hW g13 dX12_catches_45 ?_
        refine lv_nmi ho (fun x14 ho => ?_)
        refine lv_istore (lv' := [(4, .int x14), (0, .ref (am 68)), (1, .int a1), (2, .int a2), (3, .int a3)]) hx hb dX12_catches_46 hl (by decide) rfl (fun ls hl => ?_)
        refine lv_aload_n hx hb dX12_catches_48 rfl (lv_at hl 1 rfl) ?_
        refine mGET_51 C0 hW dX12_catches_49 ?_
        refine lv_bipush (v := (16 : Int32)) hx hb dX12_catches_52 (by decide) ?_
        refine lv_iload_n hx hb dX12_catches_54 rfl (lv_at hl 2 rfl) ?_
        refine lv_imul hx hb dX12_catches_55 ?_
        refine lv_iload_n hx hb dX12_catches_56 rfl (lv_at hl 3 rfl) ?_
        refine lv_iadd hx hb dX12_catches_57 ?_
        refine lv_iload_n hx hb dX12_catches_58 rfl (lv_at hl 4 rfl) ?_
        obtain ⟨g15, ho⟩ := gd_some ho
        refine mST_51 C0 hW g15 dX12_catches_59 (fun H locs hW => ?_)
        obtain ⟨t16, ho, hW⟩ := nm_w (P := fun t => wl D A s (wM cI cJ cZ am t) H locs) ho hW
        refine lv_iload hx hb dX12_catches_60 (lv_at hl 0 rfl) ?_
        cases ho
        exact rtI C0 hW dX12_catches_62
      · replace ho := ite_t c12 ho
        refine lv_bipush (v := (-2 : Int32)) hx hb dX12_catches_32 (by decide) ?_
        cases ho
        exact rtI C0 hW dX12_catches_34
noncomputable def m_greatest_B5 (t : St) (v1 : Int32) (v2 : Int32) (v3 : Int32) (v4 : Int32) : Option ((Int32 × Int32) ⊕ (Int32)) :=
  if (16 : Int32) ≤ v4 then (some (.inr v3)) else (gd (((16 : Int32) * v1) + v4) 96 (nm (gA t 51 ((((16 : Int32) * v1) + v4)).toNatClampNeg) (fun x3 : Int32 => if ((v2 >>> (v4 &&& 31)) &&& (1 : Int32)) = (1 : Int32) then (if x3 ≤ v3 then (nm (v4 + (1 : Int32)) (fun x7 : Int32 => some (.inl (v3, x7)))) else (nm (v4 + (1 : Int32)) (fun x8 : Int32 => some (.inl (x3, x8))))) else (nm (v4 + (1 : Int32)) (fun x5 : Int32 => some (.inl (v3, x5)))))))
noncomputable def m_greatest (t : St) (a1 : Int32) (a2 : Int32) : Option (Int32) :=
  (lp (fun x => m_greatest_B5 t a1 a2 x.1 x.2) ((0 : Int32), (0 : Int32))).bind (fun y9 => some y9)
set_option maxHeartbeats 4000000 in
set_option maxRecDepth 100000 in
theorem m_greatest_L5 {p : Program} {l : Launch} {e : Env} {s : State} {m : MethodId} {args : Array Value} {below : List Frame} {meth : Method} {c : Code} {Q : State → Prop} {D : va_G} {cI cJ cZ : ClassId} {am : Nat → Nat} {A : Nat → Prop} (C0 : cx p s m args meth c cX12_greatest RX12 6 (some .int) D (tyM cI cJ cZ) A) {t : St} {v1 : Int32} {v2 : Int32} {y : Int32} (hK0 : ∀ (H : Heap) (locs : List Loc) (ls : Array Slot), wl D A s (wM cI cJ cZ am t) H locs → lv_has ls 6 [(0, .ref (am 68)), (3, .int y)] → W p l e (rmN 0 0) s m args below meth c H locs 0 0 Q (F0 m 55 ls [])) :
    ∀ (n : Nat) (v3 : Int32) (v4 : Int32), lpn (fun x => m_greatest_B5 t v1 v2 x.1 x.2) n (v3, v4) = some y → ∀ (H : Heap) (locs : List Loc) (ls : Array Slot), wl D A s (wM cI cJ cZ am t) H locs → lv_has ls 6 [(0, .ref (am 68)), (1, .int v1), (2, .int v2), (3, .int v3), (4, .int v4)] → W p l e (rmN 0 0) s m args below meth c H locs 0 0 Q (F0 m 5 ls []) := by
  have hx := C0.1
  have hb := C0.2.1
  have hta := C0.2.2.2.2.2.1
  have hown := C0.2.2.2.2.1
  intro n
  induction n with
  | zero => intro _ _ h; cases h
  | succ n ih =>
    intro v3 v4 hrun H locs ls hW hl
    obtain ⟨o, ho, hrun⟩ := bd_some hrun
    unfold m_greatest_B5 at ho
    refine lv_iload hx hb dX12_greatest_5 (lv_at hl 4 rfl) ?_
    refine lv_bipush (v := (16 : Int32)) hx hb dX12_greatest_7 (by decide) ?_
    refine lv_icmp_ge (tgt := 55) hx hb dX12_greatest_9 (by decide) (fun c1 => ?_) (fun c1 => ?_)
    · replace ho := ite_t c1 ho
      cases ho
      cases hrun
      exact hK0 _ _ _ hW (lv_sub hl [0, 3] rfl)
    · replace ho := ite_f c1 ho
      refine lv_aload_n hx hb dX12_greatest_12 rfl (lv_at hl 0 rfl) ?_
      refine mGET_51 C0 hW dX12_greatest_13 ?_
      refine lv_bipush (v := (16 : Int32)) hx hb dX12_greatest_16 (by decide) ?_
      refine lv_iload_n hx hb dX12_greatest_18 rfl (lv_at hl 1 rfl) ?_
      refine lv_imul hx hb dX12_greatest_19 ?_
      refine lv_iload hx hb dX12_greatest_20 (lv_at hl 4 rfl) ?_
      refine lv_iadd hx hb dX12_greatest_22 ?_
      obtain ⟨g2, ho⟩ := gd_some ho
      refine mLD_51 C0 hW g2 dX12_greatest_23 ?_
      refine lv_nmi ho (fun x3 ho => ?_)
      refine lv_istore (lv' := [(5, .int x3), (0, .ref (am 68)), (1, .int v1), (2, .int v2), (3, .int v3), (4, .int v4)]) hx hb dX12_greatest_24 hl (by decide) rfl (fun ls hl => ?_)
      refine lv_iload_n hx hb dX12_greatest_26 rfl (lv_at hl 3 rfl) ?_
      refine lv_iload hx hb dX12_greatest_27 (lv_at hl 5 rfl) ?_
      refine lv_ishr hx hb dX12_greatest_29 ?_
      refine lv_iconst (v := (1 : Int32)) hx hb dX12_greatest_30 (by decide) ?_
      refine lv_iand hx hb dX12_greatest_31 ?_
      refine lv_iconst (v := (1 : Int32)) hx hb dX12_greatest_32 (by decide) ?_
      refine lv_icmp_ne (tgt := 47) hx hb dX12_greatest_33 (by decide) (fun c4 => ?_) (fun c4 => ?_)
      · replace ho := ite_f c4 ho
        refine lv_iload_n hx hb dX12_greatest_47 rfl (lv_at hl 4 rfl) ?_
        refine lv_istore_n (lv' := [(3, .int v3), (5, .int x3), (0, .ref (am 68)), (1, .int v1), (2, .int v2), (4, .int v4)]) hx hb dX12_greatest_48 rfl hl (by decide) rfl (fun ls hl => ?_)
        obtain ⟨x5, ex5, ho⟩ := nm_x ho
        refine lv_iinc (v := x5) (lv' := [(4, .int x5), (3, .int v3), (5, .int x3), (0, .ref (am 68)), (1, .int v1), (2, .int v2)]) hx hb dX12_greatest_49 hl (k := 5) rfl (by rw [ex5]; rfl) (by decide) rfl (fun ls hl => ?_)
        clear ex5
        refine lv_goto (tgt := 5) hx hb dX12_greatest_52 (by decide) ?_
        cases ho
        exact ih _ _ hrun _ _ _ hW (lv_sub hl [3, 4, 5, 1, 0] rfl)
      · replace ho := ite_t c4 ho
        refine lv_iload hx hb dX12_greatest_36 (lv_at hl 0 rfl) ?_
        refine lv_iload_n hx hb dX12_greatest_38 rfl (lv_at hl 4 rfl) ?_
        refine lv_icmp_le (tgt := 47) hx hb dX12_greatest_39 (by decide) (fun c6 => ?_) (fun c6 => ?_)
        · replace ho := ite_t c6 ho
          refine lv_iload_n hx hb dX12_greatest_47 rfl (lv_at hl 4 rfl) ?_
          refine lv_istore_n (lv' := [(3, .int v3), (5, .int x3), (0, .ref (am 68)), (1, .int v1), (2, .int v2), (4, .int v4)]) hx hb dX12_greatest_48 rfl hl (by decide) rfl (fun ls hl => ?_)
          obtain ⟨x7, ex7, ho⟩ := nm_x ho
          refine lv_iinc (v := x7) (lv' := [(4, .int x7), (3, .int v3), (5, .int x3), (0, .ref (am 68)), (1, .int v1), (2, .int v2)]) hx hb dX12_greatest_49 hl (k := 5) rfl (by rw [ex7]; rfl) (by decide) rfl (fun ls hl => ?_)
          clear ex7
          refine lv_goto (tgt := 5) hx hb dX12_greatest_52 (by decide) ?_
          cases ho
          exact ih _ _ hrun _ _ _ hW (lv_sub hl [3, 4, 5, 1, 0] rfl)
        · replace ho := ite_f c6 ho
          refine lv_iload hx hb dX12_greatest_42 (lv_at hl 0 rfl) ?_
          refine lv_goto (tgt := 48) hx hb dX12_greatest_44 (by decide) ?_
          refine lv_istore_n (lv' := [(3, .int x3), (5, .int x3), (0, .ref (am 68)), (1, .int v1), (2, .int v2), (4, .int v4)]) hx hb dX12_greatest_48 rfl hl (by decide) rfl (fun ls hl => ?_)
          obtain ⟨x8, ex8, ho⟩ := nm_x ho
          refine lv_iinc (v := x8) (lv' := [(4, .int x8), (3, .int x3), (5, .int x3), (0, .ref (am 68)), (1, .int v1), (2, .int v2)]) hx hb dX12_greatest_49 hl (k := 5) rfl (by rw [ex8]; rfl) (by decide) rfl (fun ls hl => ?_)
          clear ex8
          refine lv_goto (tgt := 5) hx hb dX12_greatest_52 (by decide) ?_
          cases ho
          exact ih _ _ hrun _ _ _ hW (lv_sub hl [3, 4, 5, 1, 0] rfl)
set_option maxHeartbeats 4000000 in
set_option maxRecDepth 100000 in
theorem c_m_greatest (l : Launch) {D : va_G} {cI cJ cZ : ClassId} {am : Nat → Nat} (sz : Nat) (t : St) (a1 : Int32) (a2 : Int32) {r : Int32} (ho : m_greatest t a1 a2 = some r) : Met l yX12_greatest (.code yX12_greatest cX12_greatest 6 (some .int) :: wsAll) (rmN 0 0) (va_Pc [.ref (am 68), .int a1, .int a2] (prW D (tyM cI cJ cZ) (wM cI cJ cZ am t) sz)) (qI r D (tyM cI cJ cZ) (wM cI cJ cZ am t) (va_A (wM cI cJ cZ am t) sz)) 0 0 (va_A (wM cI cJ cZ am t) sz) := by
  refine Met.ofW (cc := cX12_greatest) (maxL := 6) (ret := (some .int)) (by decide) rfl ?_
  intro p e s m args below meth c s₁ B hml hv
  obtain ⟨rfl, hsz, hP, hK, hD0⟩ := hv
  have hx := B.exec
  have hb := B.bytes
  have hts := atoms_spec (ws := (.code yX12_greatest cX12_greatest 6 (some .int) :: wsAll)) B.pre
  have hta := fun w h => hts w (List.mem_cons_of_mem _ h)
  have hown : s.vm.findClass RX12 = some m.cls := findClass_of_methodNamed B.named
  have hlocks := B.notSynchronized
  subst hsz
  have hD := hD0.self (sz := s.heap.size)
  generalize hAe : va_A (wM cI cJ cZ am t) s.heap.size = A at hD ⊢
  have hA : ∀ q : Nat, s.heap.size ≤ q → A q := fun q h => by rw [← hAe]; exact Or.inr h
  have C0 : cx p s m ([.ref (am 68), .int a1, .int a2].toArray) meth c cX12_greatest RX12 6 (some .int) D (tyM cI cJ cZ) A := ⟨hx, hb, B.returns, hml, hown, hta, hlocks, hK, hA⟩
  have hW : wl D A s (wM cI cJ cZ am t) s.heap [] := ⟨hP, hD, va_S.rf⟩
  have hl := lv_entry [.ref (am 68), .int a1, .int a2] (n := 6) (Nat.le_of_ble_eq_true rfl)
  rw [lg_entry_eq]
  generalize (lg_sl [.ref (am 68), .int a1, .int a2] ++ List.replicate (6 - (lg_sl [.ref (am 68), .int a1, .int a2]).length) Slot.unset).toArray = ls at hl ⊢
  have hl : lv_has ls 6 [(0, .ref (am 68)), (1, .int a1), (2, .int a2)] := hl
  unfold m_greatest at ho
  refine lv_iconst (v := (0 : Int32)) hx hb dX12_greatest_0 (by decide) ?_
  refine lv_istore_n (lv' := [(3, .int (0 : Int32)), (0, .ref (am 68)), (1, .int a1), (2, .int a2)]) hx hb dX12_greatest_1 rfl hl (by decide) rfl (fun ls hl => ?_)
  refine lv_iconst (v := (0 : Int32)) hx hb dX12_greatest_2 (by decide) ?_
  refine lv_istore (lv' := [(4, .int (0 : Int32)), (3, .int (0 : Int32)), (0, .ref (am 68)), (1, .int a1), (2, .int a2)]) hx hb dX12_greatest_3 hl (by decide) rfl (fun ls hl => ?_)
  obtain ⟨y9, hc11, ho⟩ := bd_some ho
  obtain ⟨ny9, hc11⟩ := lp_to hc11
  refine m_greatest_L5 C0 ?_ ny9 _ _ hc11 _ _ _ hW (lv_sub hl [2, 3, 4, 1, 0] rfl)
  intro H locs ls hW hl
  refine lv_iload_n hx hb dX12_greatest_55 rfl (lv_at hl 1 rfl) ?_
  cases ho
  exact rtI C0 hW dX12_greatest_56
noncomputable def m_cell (t : St) (a1 : Int32) (a2 : Int32) : Option (Int32) :=
  some (((31 : Int32) * a1) + a2)
set_option maxHeartbeats 4000000 in
set_option maxRecDepth 100000 in
theorem c_m_cell (l : Launch) {D : va_G} {cI cJ cZ : ClassId} {am : Nat → Nat} (sz : Nat) (t : St) (a1 : Int32) (a2 : Int32) {r : Int32} (ho : m_cell t a1 a2 = some r) : Met l yX12_cell (.code yX12_cell cX12_cell 3 (some .int) :: wsAll) (rmN 0 0) (va_Pc [.ref (am 68), .int a1, .int a2] (prW D (tyM cI cJ cZ) (wM cI cJ cZ am t) sz)) (qI r D (tyM cI cJ cZ) (wM cI cJ cZ am t) (va_A (wM cI cJ cZ am t) sz)) 0 0 (va_A (wM cI cJ cZ am t) sz) := by
  refine Met.ofW (cc := cX12_cell) (maxL := 3) (ret := (some .int)) (by decide) rfl ?_
  intro p e s m args below meth c s₁ B hml hv
  obtain ⟨rfl, hsz, hP, hK, hD0⟩ := hv
  have hx := B.exec
  have hb := B.bytes
  have hts := atoms_spec (ws := (.code yX12_cell cX12_cell 3 (some .int) :: wsAll)) B.pre
  have hta := fun w h => hts w (List.mem_cons_of_mem _ h)
  have hown : s.vm.findClass RX12 = some m.cls := findClass_of_methodNamed B.named
  have hlocks := B.notSynchronized
  subst hsz
  have hD := hD0.self (sz := s.heap.size)
  generalize hAe : va_A (wM cI cJ cZ am t) s.heap.size = A at hD ⊢
  have hA : ∀ q : Nat, s.heap.size ≤ q → A q := fun q h => by rw [← hAe]; exact Or.inr h
  have C0 : cx p s m ([.ref (am 68), .int a1, .int a2].toArray) meth c cX12_cell RX12 3 (some .int) D (tyM cI cJ cZ) A := ⟨hx, hb, B.returns, hml, hown, hta, hlocks, hK, hA⟩
  have hW : wl D A s (wM cI cJ cZ am t) s.heap [] := ⟨hP, hD, va_S.rf⟩
  have hl := lv_entry [.ref (am 68), .int a1, .int a2] (n := 3) (Nat.le_of_ble_eq_true rfl)
  rw [lg_entry_eq]
  generalize (lg_sl [.ref (am 68), .int a1, .int a2] ++ List.replicate (3 - (lg_sl [.ref (am 68), .int a1, .int a2]).length) Slot.unset).toArray = ls at hl ⊢
  have hl : lv_has ls 3 [(0, .ref (am 68)), (1, .int a1), (2, .int a2)] := hl
  unfold m_cell at ho
  refine lv_bipush (v := (31 : Int32)) hx hb dX12_cell_0 (by decide) ?_
  refine lv_iload_n hx hb dX12_cell_2 rfl (lv_at hl 1 rfl) ?_
  refine lv_imul hx hb dX12_cell_3 ?_
  refine lv_iload_n hx hb dX12_cell_4 rfl (lv_at hl 2 rfl) ?_
  refine lv_iadd hx hb dX12_cell_5 ?_
  cases ho
  exact rtI C0 hW dX12_cell_6
noncomputable def m_setsCell_J43 (t : St) (w1 : Int32) (w2 : Int32) : Option (St) :=
  gd w1 400 (nm (sA t 52 w1 (vp_nar .boolean w2)) (fun t2 : St => some t2))
noncomputable def m_setsCell_J21 (t : St) (v1 : Int32) (v2 : Int32) (v3 : Int32) (w1 : Int32) (w2 : Int32) : Option (St) :=
  (m_puts t w1 w2).bind (fun q3 => (m_cell q3 v1 v2).bind (fun q5 => if 0 ≤ v3 then (m_setsCell_J43 q3 q5 (0 : Int32)) else (m_setsCell_J43 q3 q5 (1 : Int32))))
noncomputable def m_setsCell (t : St) (a1 : Int32) (a2 : Int32) (a3 : Int32) : Option (St) :=
  (m_cell t a1 a2).bind (fun q8 => if 0 ≤ a3 then (m_setsCell_J21 t a1 a2 a3 ((402 : Int32) + q8) a3) else (m_setsCell_J21 t a1 a2 a3 ((402 : Int32) + q8) (-a3)))
set_option maxHeartbeats 4000000 in
set_option maxRecDepth 100000 in
theorem c_m_setsCell (l : Launch) {D : va_G} {cI cJ cZ : ClassId} {am : Nat → Nat} (sz : Nat) (t : St) (a1 : Int32) (a2 : Int32) (a3 : Int32) {t' : St} (ho : m_setsCell t a1 a2 a3 = some t') : Met l yX12_setsCell (.code yX12_setsCell cX12_setsCell 4 none :: wsAll) (rmN 1 23) (va_Pc [.ref (am 68), .int a1, .int a2, .int a3] (prW D (tyM cI cJ cZ) (wM cI cJ cZ am t) sz)) (qV D (tyM cI cJ cZ) (wM cI cJ cZ am t') (va_A (wM cI cJ cZ am t) sz)) 0 0 (va_A (wM cI cJ cZ am t) sz) := by
  refine Met.ofW (cc := cX12_setsCell) (maxL := 4) (ret := none) (by decide) rfl ?_
  intro p e s m args below meth c s₁ B hml hv
  obtain ⟨rfl, hsz, hP, hK, hD0⟩ := hv
  have hx := B.exec
  have hb := B.bytes
  have hts := atoms_spec (ws := (.code yX12_setsCell cX12_setsCell 4 none :: wsAll)) B.pre
  have hta := fun w h => hts w (List.mem_cons_of_mem _ h)
  have hown : s.vm.findClass RX12 = some m.cls := findClass_of_methodNamed B.named
  have hlocks := B.notSynchronized
  subst hsz
  have hD := hD0.self (sz := s.heap.size)
  generalize hAe : va_A (wM cI cJ cZ am t) s.heap.size = A at hD ⊢
  have hA : ∀ q : Nat, s.heap.size ≤ q → A q := fun q h => by rw [← hAe]; exact Or.inr h
  have C0 : cx p s m ([.ref (am 68), .int a1, .int a2, .int a3].toArray) meth c cX12_setsCell RX12 4 none D (tyM cI cJ cZ) A := ⟨hx, hb, B.returns, hml, hown, hta, hlocks, hK, hA⟩
  have hW : wl D A s (wM cI cJ cZ am t) s.heap [] := ⟨hP, hD, va_S.rf⟩
  have hl := lv_entry [.ref (am 68), .int a1, .int a2, .int a3] (n := 4) (Nat.le_of_ble_eq_true rfl)
  rw [lg_entry_eq]
  generalize (lg_sl [.ref (am 68), .int a1, .int a2, .int a3] ++ List.replicate (4 - (lg_sl [.ref (am 68), .int a1, .int a2, .int a3]).length) Slot.unset).toArray = ls at hl ⊢
  have hl : lv_has ls 4 [(0, .ref (am 68)), (1, .int a1), (2, .int a2), (3, .int a3)] := hl
  clear hAe hD hP hD0 hts
  have J43 : ∀ (t : St) (w1 : Int32) (w2 : Int32) (_ : m_setsCell_J43 t w1 w2 = some t') (H : Heap) (locs : List Loc) (ls : Array Slot), wl D A s (wM cI cJ cZ am t) H locs → lv_has ls 4 [(0, .ref (am 68))] → W p l e (rmN 1 23) s m ([.ref (am 68), .int a1, .int a2, .int a3].toArray) below meth c H locs 0 0 (MQ below (qV D (tyM cI cJ cZ) (wM cI cJ cZ am t') A) ([.ref (am 68), .int a1, .int a2, .int a3].toArray) s 0 0 A) (F0 m 43 ls [.int w2, .int w1, .ref (am 52)]) := by
    intro t w1 w2 ho H locs ls hW hl
    unfold m_setsCell_J43 at ho
    obtain ⟨g1, ho⟩ := gd_some ho
    refine mST_52 C0 hW g1 dX12_setsCell_43 (fun H locs hW => ?_)
    obtain ⟨t2, ho, hW⟩ := nm_w (P := fun t => wl D A s (wM cI cJ cZ am t) H locs) ho hW
    cases ho
    exact rtV C0 hW dX12_setsCell_44
  have J21 : ∀ (t : St) (v1 : Int32) (v2 : Int32) (v3 : Int32) (w1 : Int32) (w2 : Int32) (_ : m_setsCell_J21 t v1 v2 v3 w1 w2 = some t') (H : Heap) (locs : List Loc) (ls : Array Slot), wl D A s (wM cI cJ cZ am t) H locs → lv_has ls 4 [(0, .ref (am 68)), (1, .int v1), (2, .int v2), (3, .int v3)] → W p l e (rmN 1 23) s m ([.ref (am 68), .int a1, .int a2, .int a3].toArray) below meth c H locs 0 0 (MQ below (qV D (tyM cI cJ cZ) (wM cI cJ cZ am t') A) ([.ref (am 68), .int a1, .int a2, .int a3].toArray) s 0 0 A) (F0 m 21 ls [.int w2, .int w1, .ref (am 68)]) := by
    intro t v1 v2 v3 w1 w2 ho H locs ls hW hl
    unfold m_setsCell_J21 at ho
    obtain ⟨q3, hc4, ho⟩ := bd_some ho
    refine bkV C0 hW (runV (As := [.int w1, .int w2]) (rest := []) C0 hW (c_m_puts l _ t w1 w2 (t' := q3) hc4) ca_X12_puts_175 0 12 rfl rfl rfl rfl rfl ⟨rfl, rfl⟩ ⟨Nat.le_of_ble_eq_true rfl, Nat.le_of_ble_eq_true rfl⟩ (Nat.le_of_ble_eq_true rfl) hl.1 dX12_setsCell_21 ⟨Nat.le_of_ble_eq_true rfl, Nat.le_of_ble_eq_true rfl⟩) (fun H locs hW => ?_)
    refine lv_aload_n hx hb dX12_setsCell_24 rfl (lv_at hl 0 rfl) ?_
    refine mGET_52 C0 hW dX12_setsCell_25 ?_
    refine lv_aload_n hx hb dX12_setsCell_28 rfl (lv_at hl 0 rfl) ?_
    refine lv_iload_n hx hb dX12_setsCell_29 rfl (lv_at hl 1 rfl) ?_
    refine lv_iload_n hx hb dX12_setsCell_30 rfl (lv_at hl 2 rfl) ?_
    obtain ⟨q5, hc6, ho⟩ := bd_some ho
    refine bkI C0 hW (runV (As := [.int v1, .int v2]) (rest := [.ref (am 52)]) C0 hW (c_m_cell l _ q3 v1 v2 (r := q5) hc6) ca_X12_cell_411 0 12 rfl rfl rfl rfl rfl ⟨rfl, rfl⟩ ⟨Nat.le_of_ble_eq_true rfl, Nat.le_of_ble_eq_true rfl⟩ (Nat.le_of_ble_eq_true rfl) hl.1 dX12_setsCell_31 ⟨Nat.le_of_ble_eq_true rfl, Nat.le_of_ble_eq_true rfl⟩) (fun H locs hW => ?_)
    refine lv_iload_n hx hb dX12_setsCell_34 rfl (lv_at hl 3 rfl) ?_
    refine lv_if_ge (tgt := 42) hx hb dX12_setsCell_35 (by decide) (fun c7 => ?_) (fun c7 => ?_)
    · replace ho := ite_t c7 ho
      refine lv_iconst (v := (0 : Int32)) hx hb dX12_setsCell_42 (by decide) ?_
      exact J43 _ _ _ ho _ _ _ hW (lv_sub hl [0] rfl)
    · replace ho := ite_f c7 ho
      refine lv_iconst (v := (1 : Int32)) hx hb dX12_setsCell_38 (by decide) ?_
      refine lv_goto (tgt := 43) hx hb dX12_setsCell_39 (by decide) ?_
      exact J43 _ _ _ ho _ _ _ hW (lv_sub hl [0] rfl)
  unfold m_setsCell at ho
  refine lv_aload_n hx hb dX12_setsCell_0 rfl (lv_at hl 0 rfl) ?_
  refine lv_sipush (v := (402 : Int32)) hx hb dX12_setsCell_1 (by decide) ?_
  refine lv_aload_n hx hb dX12_setsCell_4 rfl (lv_at hl 0 rfl) ?_
  refine lv_iload_n hx hb dX12_setsCell_5 rfl (lv_at hl 1 rfl) ?_
  refine lv_iload_n hx hb dX12_setsCell_6 rfl (lv_at hl 2 rfl) ?_
  obtain ⟨q8, hc9, ho⟩ := bd_some ho
  refine bkI C0 hW (runV (As := [.int a1, .int a2]) (rest := [.int (402 : Int32), .ref (am 68)]) C0 hW (c_m_cell l _ t a1 a2 (r := q8) hc9) ca_X12_cell_411 0 12 rfl rfl rfl rfl rfl ⟨rfl, rfl⟩ ⟨Nat.le_of_ble_eq_true rfl, Nat.le_of_ble_eq_true rfl⟩ (Nat.le_of_ble_eq_true rfl) hl.1 dX12_setsCell_7 ⟨Nat.le_of_ble_eq_true rfl, Nat.le_of_ble_eq_true rfl⟩) (fun H locs hW => ?_)
  refine lv_iadd hx hb dX12_setsCell_10 ?_
  refine lv_iload_n hx hb dX12_setsCell_11 rfl (lv_at hl 3 rfl) ?_
  refine lv_if_ge (tgt := 20) hx hb dX12_setsCell_12 (by decide) (fun c10 => ?_) (fun c10 => ?_)
  · replace ho := ite_t c10 ho
    refine lv_iload_n hx hb dX12_setsCell_20 rfl (lv_at hl 3 rfl) ?_
    exact J21 _ _ _ _ _ _ ho _ _ _ hW (lv_sub hl [0, 1, 2, 3] rfl)
  · replace ho := ite_f c10 ho
    refine lv_iload_n hx hb dX12_setsCell_15 rfl (lv_at hl 3 rfl) ?_
    refine lv_ineg hx hb dX12_setsCell_16 ?_
    refine lv_goto (tgt := 21) hx hb dX12_setsCell_17 (by decide) ?_
    exact J21 _ _ _ _ _ _ ho _ _ _ hW (lv_sub hl [0, 1, 2, 3] rfl)
noncomputable def m_turnsCell_J206 (t : St) (w1 : Int32) (w2 : Int32) : Option (St) :=
  gd w1 400 (nm (sA t 52 w1 (vp_nar .boolean w2)) (fun t2 : St => some t2))
noncomputable def m_turnsCell_J205 (t : St) (w1 : Int32) : Option (St) :=
  m_turnsCell_J206 t w1 (0 : Int32)
noncomputable def m_turnsCell_J156 (t : St) (v1 : Int32) (v8 : Int32) : Option (St) :=
  (m_divides t (701 : Int32) (700 : Int32) (703 : Int32)).bind (fun q3 => (m_takes q3 ((402 : Int32) + v1) (703 : Int32)).bind (fun q5 => if v8 = 0 then (m_turnsCell_J205 q5 v1) else ((m_isNothing q5 (703 : Int32)).bind (fun q8 => if q8 = 0 then (m_turnsCell_J206 q5 v1 (1 : Int32)) else (m_turnsCell_J205 q5 v1)))))
noncomputable def m_turnsCell_J80 (t : St) (v1 : Int32) (v6 : Int32) (w0 : Int32) : Option (St) :=
  if v6 = w0 then ((m_adds t (701 : Int32) (702 : Int32)).bind (fun q22 => m_turnsCell_J156 q22 v1 v6)) else ((m_against t (701 : Int32) (702 : Int32)).bind (fun q13 => if q13 < 0 then ((m_lessens t (702 : Int32) (701 : Int32)).bind (fun q16 => (m_takes q16 (701 : Int32) (702 : Int32)).bind (fun q18 => m_turnsCell_J156 q18 v1 w0))) else ((m_lessens t (701 : Int32) (702 : Int32)).bind (fun q20 => m_turnsCell_J156 q20 v1 v6))))
noncomputable def m_turnsCell_J56 (t : St) (v1 : Int32) (v4 : Int32) (v5 : Int32) (w0 : Int32) : Option (St) :=
  gd v4 400 (gd v5 400 (if (gA t 52 (v4).toNatClampNeg) = (gA t 52 (v5).toNatClampNeg) then (m_turnsCell_J80 t v1 w0 (1 : Int32)) else (m_turnsCell_J80 t v1 w0 (0 : Int32))))
noncomputable def m_turnsCell (t : St) (a1 : Int32) (a2 : Int32) (a3 : Int32) (a4 : Int32) (a5 : Int32) : Option (St) :=
  (m_multiplies t (701 : Int32) ((402 : Int32) + a2) ((402 : Int32) + a3)).bind (fun q27 => (m_multiplies q27 (702 : Int32) ((402 : Int32) + a4) ((402 : Int32) + a5)).bind (fun q29 => gd a2 400 (gd a3 400 (if (gA q29 52 (a2).toNatClampNeg) = (gA q29 52 (a3).toNatClampNeg) then (m_turnsCell_J56 q29 a1 a4 a5 (0 : Int32)) else (m_turnsCell_J56 q29 a1 a4 a5 (1 : Int32))))))
set_option maxHeartbeats 4000000 in
set_option maxRecDepth 100000 in
theorem c_m_turnsCell (l : Launch) {D : va_G} {cI cJ cZ : ClassId} {am : Nat → Nat} (sz : Nat) (t : St) (a1 : Int32) (a2 : Int32) (a3 : Int32) (a4 : Int32) (a5 : Int32) {t' : St} (ho : m_turnsCell t a1 a2 a3 a4 a5 = some t') : Met l yX12_turnsCell (.code yX12_turnsCell cX12_turnsCell 9 none :: wsAll) (rmN 2 52) (va_Pc [.ref (am 68), .int a1, .int a2, .int a3, .int a4, .int a5] (prW D (tyM cI cJ cZ) (wM cI cJ cZ am t) sz)) (qV D (tyM cI cJ cZ) (wM cI cJ cZ am t') (va_A (wM cI cJ cZ am t) sz)) 0 0 (va_A (wM cI cJ cZ am t) sz) := by
  refine Met.ofW (cc := cX12_turnsCell) (maxL := 9) (ret := none) (by decide) rfl ?_
  intro p e s m args below meth c s₁ B hml hv
  obtain ⟨rfl, hsz, hP, hK, hD0⟩ := hv
  have hx := B.exec
  have hb := B.bytes
  have hts := atoms_spec (ws := (.code yX12_turnsCell cX12_turnsCell 9 none :: wsAll)) B.pre
  have hta := fun w h => hts w (List.mem_cons_of_mem _ h)
  have hown : s.vm.findClass RX12 = some m.cls := findClass_of_methodNamed B.named
  have hlocks := B.notSynchronized
  subst hsz
  have hD := hD0.self (sz := s.heap.size)
  generalize hAe : va_A (wM cI cJ cZ am t) s.heap.size = A at hD ⊢
  have hA : ∀ q : Nat, s.heap.size ≤ q → A q := fun q h => by rw [← hAe]; exact Or.inr h
  have C0 : cx p s m ([.ref (am 68), .int a1, .int a2, .int a3, .int a4, .int a5].toArray) meth c cX12_turnsCell RX12 9 none D (tyM cI cJ cZ) A := ⟨hx, hb, B.returns, hml, hown, hta, hlocks, hK, hA⟩
  have hW : wl D A s (wM cI cJ cZ am t) s.heap [] := ⟨hP, hD, va_S.rf⟩
  have hl := lv_entry [.ref (am 68), .int a1, .int a2, .int a3, .int a4, .int a5] (n := 9) (Nat.le_of_ble_eq_true rfl)
  rw [lg_entry_eq]
  generalize (lg_sl [.ref (am 68), .int a1, .int a2, .int a3, .int a4, .int a5] ++ List.replicate (9 - (lg_sl [.ref (am 68), .int a1, .int a2, .int a3, .int a4, .int a5]).length) Slot.unset).toArray = ls at hl ⊢
  have hl : lv_has ls 9 [(0, .ref (am 68)), (1, .int a1), (2, .int a2), (3, .int a3), (4, .int a4), (5, .int a5)] := hl
  clear hAe hD hP hD0 hts
  have J206 : ∀ (t : St) (w1 : Int32) (w2 : Int32) (_ : m_turnsCell_J206 t w1 w2 = some t') (H : Heap) (locs : List Loc) (ls : Array Slot), wl D A s (wM cI cJ cZ am t) H locs → lv_has ls 9 [(0, .ref (am 68))] → W p l e (rmN 2 52) s m ([.ref (am 68), .int a1, .int a2, .int a3, .int a4, .int a5].toArray) below meth c H locs 0 0 (MQ below (qV D (tyM cI cJ cZ) (wM cI cJ cZ am t') A) ([.ref (am 68), .int a1, .int a2, .int a3, .int a4, .int a5].toArray) s 0 0 A) (F0 m 206 ls [.int w2, .int w1, .ref (am 52)]) := by
    intro t w1 w2 ho H locs ls hW hl
    unfold m_turnsCell_J206 at ho
    obtain ⟨g1, ho⟩ := gd_some ho
    refine mST_52 C0 hW g1 dX12_turnsCell_206 (fun H locs hW => ?_)
    obtain ⟨t2, ho, hW⟩ := nm_w (P := fun t => wl D A s (wM cI cJ cZ am t) H locs) ho hW
    cases ho
    exact rtV C0 hW dX12_turnsCell_207
  have J205 : ∀ (t : St) (w1 : Int32) (_ : m_turnsCell_J205 t w1 = some t') (H : Heap) (locs : List Loc) (ls : Array Slot), wl D A s (wM cI cJ cZ am t) H locs → lv_has ls 9 [(0, .ref (am 68))] → W p l e (rmN 2 52) s m ([.ref (am 68), .int a1, .int a2, .int a3, .int a4, .int a5].toArray) below meth c H locs 0 0 (MQ below (qV D (tyM cI cJ cZ) (wM cI cJ cZ am t') A) ([.ref (am 68), .int a1, .int a2, .int a3, .int a4, .int a5].toArray) s 0 0 A) (F0 m 205 ls [.int w1, .ref (am 52)]) := by
    intro t w1 ho H locs ls hW hl
    unfold m_turnsCell_J205 at ho
    refine lv_iconst (v := (0 : Int32)) hx hb dX12_turnsCell_205 (by decide) ?_
    exact J206 _ _ _ ho _ _ _ hW (lv_sub hl [0] rfl)
  have J156 : ∀ (t : St) (v1 : Int32) (v8 : Int32) (_ : m_turnsCell_J156 t v1 v8 = some t') (H : Heap) (locs : List Loc) (ls : Array Slot), wl D A s (wM cI cJ cZ am t) H locs → lv_has ls 9 [(0, .ref (am 68)), (1, .int v1), (8, .int v8)] → W p l e (rmN 2 52) s m ([.ref (am 68), .int a1, .int a2, .int a3, .int a4, .int a5].toArray) below meth c H locs 0 0 (MQ below (qV D (tyM cI cJ cZ) (wM cI cJ cZ am t') A) ([.ref (am 68), .int a1, .int a2, .int a3, .int a4, .int a5].toArray) s 0 0 A) (F0 m 156 ls []) := by
    intro t v1 v8 ho H locs ls hW hl
    unfold m_turnsCell_J156 at ho
    refine lv_aload_n hx hb dX12_turnsCell_156 rfl (lv_at hl 0 rfl) ?_
    refine lv_sipush (v := (701 : Int32)) hx hb dX12_turnsCell_157 (by decide) ?_
    refine lv_sipush (v := (700 : Int32)) hx hb dX12_turnsCell_160 (by decide) ?_
    refine lv_sipush (v := (703 : Int32)) hx hb dX12_turnsCell_163 (by decide) ?_
    obtain ⟨q3, hc4, ho⟩ := bd_some ho
    refine bkV C0 hW (runV (As := [.int (701 : Int32), .int (700 : Int32), .int (703 : Int32)]) (rest := []) C0 hW (c_m_divides l _ t (701 : Int32) (700 : Int32) (703 : Int32) (t' := q3) hc4) ca_X12_divides_345 0 12 rfl rfl rfl rfl rfl ⟨rfl, rfl⟩ ⟨Nat.le_of_ble_eq_true rfl, Nat.le_of_ble_eq_true rfl⟩ (Nat.le_of_ble_eq_true rfl) hl.1 dX12_turnsCell_166 ⟨Nat.le_of_ble_eq_true rfl, Nat.le_of_ble_eq_true rfl⟩) (fun H locs hW => ?_)
    refine lv_aload_n hx hb dX12_turnsCell_169 rfl (lv_at hl 0 rfl) ?_
    refine lv_sipush (v := (402 : Int32)) hx hb dX12_turnsCell_170 (by decide) ?_
    refine lv_iload_n hx hb dX12_turnsCell_173 rfl (lv_at hl 1 rfl) ?_
    refine lv_iadd hx hb dX12_turnsCell_174 ?_
    refine lv_sipush (v := (703 : Int32)) hx hb dX12_turnsCell_175 (by decide) ?_
    obtain ⟨q5, hc6, ho⟩ := bd_some ho
    refine bkV C0 hW (runV (As := [.int ((402 : Int32) + v1), .int (703 : Int32)]) (rest := []) C0 hW (c_m_takes l _ q3 ((402 : Int32) + v1) (703 : Int32) (t' := q5) hc6) ca_X12_takes_333 0 12 rfl rfl rfl rfl rfl ⟨rfl, rfl⟩ ⟨Nat.le_of_ble_eq_true rfl, Nat.le_of_ble_eq_true rfl⟩ (Nat.le_of_ble_eq_true rfl) hl.1 dX12_turnsCell_178 ⟨Nat.le_of_ble_eq_true rfl, Nat.le_of_ble_eq_true rfl⟩) (fun H locs hW => ?_)
    refine lv_aload_n hx hb dX12_turnsCell_181 rfl (lv_at hl 0 rfl) ?_
    refine mGET_52 C0 hW dX12_turnsCell_182 ?_
    refine lv_iload_n hx hb dX12_turnsCell_185 rfl (lv_at hl 1 rfl) ?_
    refine lv_iload hx hb dX12_turnsCell_186 (lv_at hl 2 rfl) ?_
    refine lv_if_eq (tgt := 205) hx hb dX12_turnsCell_188 (by decide) (fun c7 => ?_) (fun c7 => ?_)
    · replace ho := ite_t c7 ho
      exact J205 _ _ ho _ _ _ hW (lv_sub hl [0] rfl)
    · replace ho := ite_f c7 ho
      refine lv_aload_n hx hb dX12_turnsCell_191 rfl (lv_at hl 0 rfl) ?_
      refine lv_sipush (v := (703 : Int32)) hx hb dX12_turnsCell_192 (by decide) ?_
      obtain ⟨q8, hc9, ho⟩ := bd_some ho
      refine bkZ C0 hW (runV (As := [.int (703 : Int32)]) (rest := [.int v1, .ref (am 52)]) C0 hW (c_m_isNothing l _ q5 (703 : Int32) (r := q8) hc9) ca_X12_isNothing_324 0 12 rfl rfl rfl rfl rfl ⟨rfl, rfl⟩ ⟨Nat.le_of_ble_eq_true rfl, Nat.le_of_ble_eq_true rfl⟩ (Nat.le_of_ble_eq_true rfl) hl.1 dX12_turnsCell_195 ⟨Nat.le_of_ble_eq_true rfl, Nat.le_of_ble_eq_true rfl⟩) (fun z10 H locs hW => ?_)
      refine lv_if_ne (tgt := 205) hx hb dX12_turnsCell_198 (by decide) (fun c11 => ?_) (fun c11 => ?_)
      · replace ho := ite_f c11 ho
        exact J205 _ _ ho _ _ _ hW (lv_sub hl [0] rfl)
      · replace ho := ite_t c11 ho
        refine lv_iconst (v := (1 : Int32)) hx hb dX12_turnsCell_201 (by decide) ?_
        refine lv_goto (tgt := 206) hx hb dX12_turnsCell_202 (by decide) ?_
        exact J206 _ _ _ ho _ _ _ hW (lv_sub hl [0] rfl)
  have J80 : ∀ (t : St) (v1 : Int32) (v6 : Int32) (w0 : Int32) (_ : m_turnsCell_J80 t v1 v6 w0 = some t') (H : Heap) (locs : List Loc) (ls : Array Slot), wl D A s (wM cI cJ cZ am t) H locs → lv_has ls 9 [(0, .ref (am 68)), (1, .int v1), (6, .int v6)] → W p l e (rmN 2 52) s m ([.ref (am 68), .int a1, .int a2, .int a3, .int a4, .int a5].toArray) below meth c H locs 0 0 (MQ below (qV D (tyM cI cJ cZ) (wM cI cJ cZ am t') A) ([.ref (am 68), .int a1, .int a2, .int a3, .int a4, .int a5].toArray) s 0 0 A) (F0 m 80 ls [.int w0]) := by
    intro t v1 v6 w0 ho H locs ls hW hl
    unfold m_turnsCell_J80 at ho
    refine lv_istore (lv' := [(7, .int w0), (0, .ref (am 68)), (1, .int v1), (6, .int v6)]) hx hb dX12_turnsCell_80 hl (by decide) rfl (fun ls hl => ?_)
    refine lv_iload hx hb dX12_turnsCell_82 (lv_at hl 3 rfl) ?_
    refine lv_istore (lv' := [(8, .int v6), (7, .int w0), (0, .ref (am 68)), (1, .int v1), (6, .int v6)]) hx hb dX12_turnsCell_84 hl (by decide) rfl (fun ls hl => ?_)
    refine lv_iload hx hb dX12_turnsCell_86 (lv_at hl 4 rfl) ?_
    refine lv_iload hx hb dX12_turnsCell_88 (lv_at hl 1 rfl) ?_
    refine lv_icmp_ne (tgt := 106) hx hb dX12_turnsCell_90 (by decide) (fun c12 => ?_) (fun c12 => ?_)
    · replace ho := ite_f c12 ho
      refine lv_aload_n hx hb dX12_turnsCell_106 rfl (lv_at hl 2 rfl) ?_
      refine lv_sipush (v := (701 : Int32)) hx hb dX12_turnsCell_107 (by decide) ?_
      refine lv_sipush (v := (702 : Int32)) hx hb dX12_turnsCell_110 (by decide) ?_
      obtain ⟨q13, hc14, ho⟩ := bd_some ho
      refine bkI C0 hW (runV (As := [.int (701 : Int32), .int (702 : Int32)]) (rest := []) C0 hW (c_m_against l _ t (701 : Int32) (702 : Int32) (r := q13) hc14) ca_X12_against_327 0 12 rfl rfl rfl rfl rfl ⟨rfl, rfl⟩ ⟨Nat.le_of_ble_eq_true rfl, Nat.le_of_ble_eq_true rfl⟩ (Nat.le_of_ble_eq_true rfl) hl.1 dX12_turnsCell_113 ⟨Nat.le_of_ble_eq_true rfl, Nat.le_of_ble_eq_true rfl⟩) (fun H locs hW => ?_)
      refine lv_if_lt (tgt := 132) hx hb dX12_turnsCell_116 (by decide) (fun c15 => ?_) (fun c15 => ?_)
      · replace ho := ite_t c15 ho
        refine lv_aload_n hx hb dX12_turnsCell_132 rfl (lv_at hl 2 rfl) ?_
        refine lv_sipush (v := (702 : Int32)) hx hb dX12_turnsCell_133 (by decide) ?_
        refine lv_sipush (v := (701 : Int32)) hx hb dX12_turnsCell_136 (by decide) ?_
        obtain ⟨q16, hc17, ho⟩ := bd_some ho
        refine bkV C0 hW (runV (As := [.int (702 : Int32), .int (701 : Int32)]) (rest := []) C0 hW (c_m_lessens l _ t (702 : Int32) (701 : Int32) (t' := q16) hc17) ca_X12_lessens_330 0 12 rfl rfl rfl rfl rfl ⟨rfl, rfl⟩ ⟨Nat.le_of_ble_eq_true rfl, Nat.le_of_ble_eq_true rfl⟩ (Nat.le_of_ble_eq_true rfl) hl.1 dX12_turnsCell_139 ⟨Nat.le_of_ble_eq_true rfl, Nat.le_of_ble_eq_true rfl⟩) (fun H locs hW => ?_)
        refine lv_aload_n hx hb dX12_turnsCell_142 rfl (lv_at hl 2 rfl) ?_
        refine lv_sipush (v := (701 : Int32)) hx hb dX12_turnsCell_143 (by decide) ?_
        refine lv_sipush (v := (702 : Int32)) hx hb dX12_turnsCell_146 (by decide) ?_
        obtain ⟨q18, hc19, ho⟩ := bd_some ho
        refine bkV C0 hW (runV (As := [.int (701 : Int32), .int (702 : Int32)]) (rest := []) C0 hW (c_m_takes l _ q16 (701 : Int32) (702 : Int32) (t' := q18) hc19) ca_X12_takes_333 0 12 rfl rfl rfl rfl rfl ⟨rfl, rfl⟩ ⟨Nat.le_of_ble_eq_true rfl, Nat.le_of_ble_eq_true rfl⟩ (Nat.le_of_ble_eq_true rfl) hl.1 dX12_turnsCell_149 ⟨Nat.le_of_ble_eq_true rfl, Nat.le_of_ble_eq_true rfl⟩) (fun H locs hW => ?_)
        refine lv_iload hx hb dX12_turnsCell_152 (lv_at hl 1 rfl) ?_
        refine lv_istore (lv' := [(8, .int w0), (7, .int w0), (0, .ref (am 68)), (1, .int v1), (6, .int v6)]) hx hb dX12_turnsCell_154 hl (by decide) rfl (fun ls hl => ?_)
        exact J156 _ _ _ ho _ _ _ hW (lv_sub hl [2, 3, 0] rfl)
      · replace ho := ite_f c15 ho
        refine lv_aload_n hx hb dX12_turnsCell_119 rfl (lv_at hl 2 rfl) ?_
        refine lv_sipush (v := (701 : Int32)) hx hb dX12_turnsCell_120 (by decide) ?_
        refine lv_sipush (v := (702 : Int32)) hx hb dX12_turnsCell_123 (by decide) ?_
        obtain ⟨q20, hc21, ho⟩ := bd_some ho
        refine bkV C0 hW (runV (As := [.int (701 : Int32), .int (702 : Int32)]) (rest := []) C0 hW (c_m_lessens l _ t (701 : Int32) (702 : Int32) (t' := q20) hc21) ca_X12_lessens_330 0 12 rfl rfl rfl rfl rfl ⟨rfl, rfl⟩ ⟨Nat.le_of_ble_eq_true rfl, Nat.le_of_ble_eq_true rfl⟩ (Nat.le_of_ble_eq_true rfl) hl.1 dX12_turnsCell_126 ⟨Nat.le_of_ble_eq_true rfl, Nat.le_of_ble_eq_true rfl⟩) (fun H locs hW => ?_)
        refine lv_goto (tgt := 156) hx hb dX12_turnsCell_129 (by decide) ?_
        exact J156 _ _ _ ho _ _ _ hW (lv_sub hl [2, 3, 0] rfl)
    · replace ho := ite_t c12 ho
      refine lv_aload_n hx hb dX12_turnsCell_93 rfl (lv_at hl 2 rfl) ?_
      refine lv_sipush (v := (701 : Int32)) hx hb dX12_turnsCell_94 (by decide) ?_
      refine lv_sipush (v := (702 : Int32)) hx hb dX12_turnsCell_97 (by decide) ?_
      obtain ⟨q22, hc23, ho⟩ := bd_some ho
      refine bkV C0 hW (runV (As := [.int (701 : Int32), .int (702 : Int32)]) (rest := []) C0 hW (c_m_adds l _ t (701 : Int32) (702 : Int32) (t' := q22) hc23) ca_X12_adds_369 0 12 rfl rfl rfl rfl rfl ⟨rfl, rfl⟩ ⟨Nat.le_of_ble_eq_true rfl, Nat.le_of_ble_eq_true rfl⟩ (Nat.le_of_ble_eq_true rfl) hl.1 dX12_turnsCell_100 ⟨Nat.le_of_ble_eq_true rfl, Nat.le_of_ble_eq_true rfl⟩) (fun H locs hW => ?_)
      refine lv_goto (tgt := 156) hx hb dX12_turnsCell_103 (by decide) ?_
      exact J156 _ _ _ ho _ _ _ hW (lv_sub hl [2, 3, 0] rfl)
  have J56 : ∀ (t : St) (v1 : Int32) (v4 : Int32) (v5 : Int32) (w0 : Int32) (_ : m_turnsCell_J56 t v1 v4 v5 w0 = some t') (H : Heap) (locs : List Loc) (ls : Array Slot), wl D A s (wM cI cJ cZ am t) H locs → lv_has ls 9 [(0, .ref (am 68)), (1, .int v1), (4, .int v4), (5, .int v5)] → W p l e (rmN 2 52) s m ([.ref (am 68), .int a1, .int a2, .int a3, .int a4, .int a5].toArray) below meth c H locs 0 0 (MQ below (qV D (tyM cI cJ cZ) (wM cI cJ cZ am t') A) ([.ref (am 68), .int a1, .int a2, .int a3, .int a4, .int a5].toArray) s 0 0 A) (F0 m 56 ls [.int w0]) := by
    intro t v1 v4 v5 w0 ho H locs ls hW hl
    unfold m_turnsCell_J56 at ho
    refine lv_istore (lv' := [(6, .int w0), (0, .ref (am 68)), (1, .int v1), (4, .int v4), (5, .int v5)]) hx hb dX12_turnsCell_56 hl (by decide) rfl (fun ls hl => ?_)
    refine lv_aload_n hx hb dX12_turnsCell_58 rfl (lv_at hl 1 rfl) ?_
    refine mGET_52 C0 hW dX12_turnsCell_59 ?_
    refine lv_iload hx hb dX12_turnsCell_62 (lv_at hl 3 rfl) ?_
    obtain ⟨g24, ho⟩ := gd_some ho
    refine mLD_52 C0 hW g24 dX12_turnsCell_64 ?_
    refine lv_aload_n hx hb dX12_turnsCell_65 rfl (lv_at hl 1 rfl) ?_
    refine mGET_52 C0 hW dX12_turnsCell_66 ?_
    refine lv_iload hx hb dX12_turnsCell_69 (lv_at hl 4 rfl) ?_
    obtain ⟨g25, ho⟩ := gd_some ho
    refine mLD_52 C0 hW g25 dX12_turnsCell_71 ?_
    refine lv_icmp_ne (tgt := 79) hx hb dX12_turnsCell_72 (by decide) (fun c26 => ?_) (fun c26 => ?_)
    · replace ho := ite_f c26 ho
      refine lv_iconst (v := (0 : Int32)) hx hb dX12_turnsCell_79 (by decide) ?_
      exact J80 _ _ _ _ ho _ _ _ hW (lv_sub hl [1, 2, 0] rfl)
    · replace ho := ite_t c26 ho
      refine lv_iconst (v := (1 : Int32)) hx hb dX12_turnsCell_75 (by decide) ?_
      refine lv_goto (tgt := 80) hx hb dX12_turnsCell_76 (by decide) ?_
      exact J80 _ _ _ _ ho _ _ _ hW (lv_sub hl [1, 2, 0] rfl)
  unfold m_turnsCell at ho
  refine lv_aload_n hx hb dX12_turnsCell_0 rfl (lv_at hl 0 rfl) ?_
  refine lv_sipush (v := (701 : Int32)) hx hb dX12_turnsCell_1 (by decide) ?_
  refine lv_sipush (v := (402 : Int32)) hx hb dX12_turnsCell_4 (by decide) ?_
  refine lv_iload_n hx hb dX12_turnsCell_7 rfl (lv_at hl 2 rfl) ?_
  refine lv_iadd hx hb dX12_turnsCell_8 ?_
  refine lv_sipush (v := (402 : Int32)) hx hb dX12_turnsCell_9 (by decide) ?_
  refine lv_iload_n hx hb dX12_turnsCell_12 rfl (lv_at hl 3 rfl) ?_
  refine lv_iadd hx hb dX12_turnsCell_13 ?_
  obtain ⟨q27, hc28, ho⟩ := bd_some ho
  refine bkV C0 hW (runV (As := [.int (701 : Int32), .int ((402 : Int32) + a2), .int ((402 : Int32) + a3)]) (rest := []) C0 hW (c_m_multiplies l _ t (701 : Int32) ((402 : Int32) + a2) ((402 : Int32) + a3) (t' := q27) hc28) ca_X12_multiplies_414 0 12 rfl rfl rfl rfl rfl ⟨rfl, rfl⟩ ⟨Nat.le_of_ble_eq_true rfl, Nat.le_of_ble_eq_true rfl⟩ (Nat.le_of_ble_eq_true rfl) hl.1 dX12_turnsCell_14 ⟨Nat.le_of_ble_eq_true rfl, Nat.le_of_ble_eq_true rfl⟩) (fun H locs hW => ?_)
  refine lv_aload_n hx hb dX12_turnsCell_17 rfl (lv_at hl 0 rfl) ?_
  refine lv_sipush (v := (702 : Int32)) hx hb dX12_turnsCell_18 (by decide) ?_
  refine lv_sipush (v := (402 : Int32)) hx hb dX12_turnsCell_21 (by decide) ?_
  refine lv_iload hx hb dX12_turnsCell_24 (lv_at hl 4 rfl) ?_
  refine lv_iadd hx hb dX12_turnsCell_26 ?_
  refine lv_sipush (v := (402 : Int32)) hx hb dX12_turnsCell_27 (by decide) ?_
  refine lv_iload hx hb dX12_turnsCell_30 (lv_at hl 5 rfl) ?_
  refine lv_iadd hx hb dX12_turnsCell_32 ?_
  obtain ⟨q29, hc30, ho⟩ := bd_some ho
  refine bkV C0 hW (runV (As := [.int (702 : Int32), .int ((402 : Int32) + a4), .int ((402 : Int32) + a5)]) (rest := []) C0 hW (c_m_multiplies l _ q27 (702 : Int32) ((402 : Int32) + a4) ((402 : Int32) + a5) (t' := q29) hc30) ca_X12_multiplies_414 0 12 rfl rfl rfl rfl rfl ⟨rfl, rfl⟩ ⟨Nat.le_of_ble_eq_true rfl, Nat.le_of_ble_eq_true rfl⟩ (Nat.le_of_ble_eq_true rfl) hl.1 dX12_turnsCell_33 ⟨Nat.le_of_ble_eq_true rfl, Nat.le_of_ble_eq_true rfl⟩) (fun H locs hW => ?_)
  refine lv_aload_n hx hb dX12_turnsCell_36 rfl (lv_at hl 0 rfl) ?_
  refine mGET_52 C0 hW dX12_turnsCell_37 ?_
  refine lv_iload_n hx hb dX12_turnsCell_40 rfl (lv_at hl 2 rfl) ?_
  obtain ⟨g31, ho⟩ := gd_some ho
  refine mLD_52 C0 hW g31 dX12_turnsCell_41 ?_
  refine lv_aload_n hx hb dX12_turnsCell_42 rfl (lv_at hl 0 rfl) ?_
  refine mGET_52 C0 hW dX12_turnsCell_43 ?_
  refine lv_iload_n hx hb dX12_turnsCell_46 rfl (lv_at hl 3 rfl) ?_
  obtain ⟨g32, ho⟩ := gd_some ho
  refine mLD_52 C0 hW g32 dX12_turnsCell_47 ?_
  refine lv_icmp_eq (tgt := 55) hx hb dX12_turnsCell_48 (by decide) (fun c33 => ?_) (fun c33 => ?_)
  · replace ho := ite_t c33 ho
    refine lv_iconst (v := (0 : Int32)) hx hb dX12_turnsCell_55 (by decide) ?_
    exact J56 _ _ _ _ _ ho _ _ _ hW (lv_sub hl [0, 1, 4, 5] rfl)
  · replace ho := ite_f c33 ho
    refine lv_iconst (v := (1 : Int32)) hx hb dX12_turnsCell_51 (by decide) ?_
    refine lv_goto (tgt := 56) hx hb dX12_turnsCell_52 (by decide) ?_
    exact J56 _ _ _ _ _ ho _ _ _ hW (lv_sub hl [0, 1, 4, 5] rfl)
noncomputable def m_turns_B38 (v1 : Int32) (v2 : Int32) (v3 : Int32) (v4 : Int32) (v5 : Int32) (v6 : Int32) (v7 : Int32) (t : St) : Option ((Int32 × St) ⊕ (St)) :=
  if v3 ≤ v7 then (some (.inr t)) else (if v7 = v2 then (nm (v7 + (1 : Int32)) (fun x3 : Int32 => some (.inl (x3, t)))) else ((m_cell t v5 v7).bind (fun q4 => (m_cell t v5 v7).bind (fun q6 => (m_cell t v1 v7).bind (fun q8 => (m_turnsCell t q4 q6 v4 v6 q8).bind (fun q10 => nm (v7 + (1 : Int32)) (fun x12 : Int32 => some (.inl (x12, q10)))))))))
noncomputable def m_turns_B96 (v1 : Int32) (v2 : Int32) (v4 : Int32) (v5 : Int32) (t : St) : Option ((Int32 × St) ⊕ (St)) :=
  if (gI t 50) < v5 then (some (.inr t)) else (if v5 = v1 then (nm (v5 + (1 : Int32)) (fun x15 : Int32 => some (.inl (x15, t)))) else ((m_cell t v5 v2).bind (fun q16 => (m_puts t ((402 : Int32) + q16) (0 : Int32)).bind (fun q18 => (m_cell q18 v5 v2).bind (fun q20 => gd q20 400 (nm (sA q18 52 q20 (vp_nar .boolean (0 : Int32))) (fun t23 : St => nm (v5 + (1 : Int32)) (fun x24 : Int32 => some (.inl (x24, t23))))))))))
noncomputable def m_turns_B11 (v1 : Int32) (v2 : Int32) (v3 : Int32) (v4 : Int32) (v5 : Int32) (t : St) : Option ((Int32 × St) ⊕ (St)) :=
  if (gI t 50) < v5 then (some (.inr t)) else (if v5 = v1 then (nm (v5 + (1 : Int32)) (fun x27 : Int32 => some (.inl (x27, t)))) else ((m_cell t v5 v2).bind (fun q28 => (lp (fun x => m_turns_B38 v1 v2 v3 v4 v5 q28 x.1 x.2) ((0 : Int32), t)).bind (fun y30 => nm (v5 + (1 : Int32)) (fun x33 : Int32 => some (.inl (x33, y30)))))))
noncomputable def m_turns (t : St) (a1 : Int32) (a2 : Int32) (a3 : Int32) : Option (St) :=
  (m_cell t a1 a2).bind (fun q34 => (lp (fun x => m_turns_B11 a1 a2 a3 q34 x.1 x.2) ((0 : Int32), t)).bind (fun y36 => (lp (fun x => m_turns_B96 a1 a2 q34 x.1 x.2) ((0 : Int32), y36)).bind (fun y39 => (m_takes y39 (700 : Int32) ((402 : Int32) + q34)).bind (fun q42 => gd a1 6 (nm (sA q42 53 a1 a2) (fun t45 : St => some t45))))))
set_option maxHeartbeats 4000000 in
set_option maxRecDepth 100000 in
theorem m_turns_L38 {p : Program} {l : Launch} {e : Env} {s : State} {m : MethodId} {args : Array Value} {below : List Frame} {meth : Method} {c : Code} {Q : State → Prop} {D : va_G} {cI cJ cZ : ClassId} {am : Nat → Nat} {A : Nat → Prop} (C0 : cx p s m args meth c cX12_turns RX12 8 none D (tyM cI cJ cZ) A) {v1 : Int32} {v2 : Int32} {v3 : Int32} {v4 : Int32} {v5 : Int32} {v6 : Int32} {y : St} (hK0 : ∀ (H : Heap) (locs : List Loc) (ls : Array Slot), wl D A s (wM cI cJ cZ am y) H locs → lv_has ls 8 [(0, .ref (am 68)), (1, .int v1), (2, .int v2), (3, .int v3), (4, .int v4), (5, .int v5)] → W p l e (rmN 3 80) s m args below meth c H locs 0 0 Q (F0 m 87 ls [])) :
    ∀ (n : Nat) (v7 : Int32) (t : St), lpn (fun x => m_turns_B38 v1 v2 v3 v4 v5 v6 x.1 x.2) n (v7, t) = some y → ∀ (H : Heap) (locs : List Loc) (ls : Array Slot), wl D A s (wM cI cJ cZ am t) H locs → lv_has ls 8 [(0, .ref (am 68)), (1, .int v1), (2, .int v2), (3, .int v3), (4, .int v4), (5, .int v5), (6, .int v6), (7, .int v7)] → W p l e (rmN 3 80) s m args below meth c H locs 0 0 Q (F0 m 38 ls []) := by
  have hx := C0.1
  have hb := C0.2.1
  have hta := C0.2.2.2.2.2.1
  have hown := C0.2.2.2.2.1
  intro n
  induction n with
  | zero => intro _ _ h; cases h
  | succ n ih =>
    intro v7 t hrun H locs ls hW hl
    obtain ⟨o, ho, hrun⟩ := bd_some hrun
    unfold m_turns_B38 at ho
    refine lv_iload hx hb dX12_turns_38 (lv_at hl 7 rfl) ?_
    refine lv_iload_n hx hb dX12_turns_40 rfl (lv_at hl 3 rfl) ?_
    refine lv_icmp_ge (tgt := 87) hx hb dX12_turns_41 (by decide) (fun c1 => ?_) (fun c1 => ?_)
    · replace ho := ite_t c1 ho
      cases ho
      cases hrun
      exact hK0 _ _ _ hW (lv_sub hl [0, 1, 2, 3, 4, 5] rfl)
    · replace ho := ite_f c1 ho
      refine lv_iload hx hb dX12_turns_44 (lv_at hl 7 rfl) ?_
      refine lv_iload_n hx hb dX12_turns_46 rfl (lv_at hl 2 rfl) ?_
      refine lv_icmp_eq (tgt := 81) hx hb dX12_turns_47 (by decide) (fun c2 => ?_) (fun c2 => ?_)
      · replace ho := ite_t c2 ho
        obtain ⟨x3, ex3, ho⟩ := nm_x ho
        refine lv_iinc (v := x3) (lv' := [(7, .int x3), (0, .ref (am 68)), (1, .int v1), (2, .int v2), (3, .int v3), (4, .int v4), (5, .int v5), (6, .int v6)]) hx hb dX12_turns_81 hl (k := 7) rfl (by rw [ex3]; rfl) (by decide) rfl (fun ls hl => ?_)
        clear ex3
        refine lv_goto (tgt := 38) hx hb dX12_turns_84 (by decide) ?_
        cases ho
        exact ih _ _ hrun _ _ _ hW (lv_sub hl [1, 2, 3, 4, 5, 6, 7, 0] rfl)
      · replace ho := ite_f c2 ho
        refine lv_aload_n hx hb dX12_turns_50 rfl (lv_at hl 0 rfl) ?_
        refine lv_aload_n hx hb dX12_turns_51 rfl (lv_at hl 0 rfl) ?_
        refine lv_iload hx hb dX12_turns_52 (lv_at hl 5 rfl) ?_
        refine lv_iload hx hb dX12_turns_54 (lv_at hl 7 rfl) ?_
        obtain ⟨q4, hc5, ho⟩ := bd_some ho
        refine bkI C0 hW (runV (As := [.int v5, .int v7]) (rest := [.ref (am 68)]) C0 hW (c_m_cell l _ t v5 v7 (r := q4) hc5) ca_X12_cell_411 0 12 rfl rfl rfl rfl rfl ⟨rfl, rfl⟩ ⟨Nat.le_of_ble_eq_true rfl, Nat.le_of_ble_eq_true rfl⟩ (Nat.le_of_ble_eq_true rfl) hl.1 dX12_turns_56 ⟨Nat.le_of_ble_eq_true rfl, Nat.le_of_ble_eq_true rfl⟩) (fun H locs hW => ?_)
        refine lv_aload_n hx hb dX12_turns_59 rfl (lv_at hl 0 rfl) ?_
        refine lv_iload hx hb dX12_turns_60 (lv_at hl 5 rfl) ?_
        refine lv_iload hx hb dX12_turns_62 (lv_at hl 7 rfl) ?_
        obtain ⟨q6, hc7, ho⟩ := bd_some ho
        refine bkI C0 hW (runV (As := [.int v5, .int v7]) (rest := [.int q4, .ref (am 68)]) C0 hW (c_m_cell l _ t v5 v7 (r := q6) hc7) ca_X12_cell_411 0 12 rfl rfl rfl rfl rfl ⟨rfl, rfl⟩ ⟨Nat.le_of_ble_eq_true rfl, Nat.le_of_ble_eq_true rfl⟩ (Nat.le_of_ble_eq_true rfl) hl.1 dX12_turns_64 ⟨Nat.le_of_ble_eq_true rfl, Nat.le_of_ble_eq_true rfl⟩) (fun H locs hW => ?_)
        refine lv_iload hx hb dX12_turns_67 (lv_at hl 4 rfl) ?_
        refine lv_iload hx hb dX12_turns_69 (lv_at hl 6 rfl) ?_
        refine lv_aload_n hx hb dX12_turns_71 rfl (lv_at hl 0 rfl) ?_
        refine lv_iload_n hx hb dX12_turns_72 rfl (lv_at hl 1 rfl) ?_
        refine lv_iload hx hb dX12_turns_73 (lv_at hl 7 rfl) ?_
        obtain ⟨q8, hc9, ho⟩ := bd_some ho
        refine bkI C0 hW (runV (As := [.int v1, .int v7]) (rest := [.int v6, .int v4, .int q6, .int q4, .ref (am 68)]) C0 hW (c_m_cell l _ t v1 v7 (r := q8) hc9) ca_X12_cell_411 0 12 rfl rfl rfl rfl rfl ⟨rfl, rfl⟩ ⟨Nat.le_of_ble_eq_true rfl, Nat.le_of_ble_eq_true rfl⟩ (Nat.le_of_ble_eq_true rfl) hl.1 dX12_turns_75 ⟨Nat.le_of_ble_eq_true rfl, Nat.le_of_ble_eq_true rfl⟩) (fun H locs hW => ?_)
        obtain ⟨q10, hc11, ho⟩ := bd_some ho
        refine bkV C0 hW (runV (As := [.int q4, .int q6, .int v4, .int v6, .int q8]) (rest := []) C0 hW (c_m_turnsCell l _ t q4 q6 v4 v6 q8 (t' := q10) hc11) ca_X12_turnsCell_417 0 12 rfl rfl rfl rfl rfl ⟨rfl, rfl⟩ ⟨Nat.le_of_ble_eq_true rfl, Nat.le_of_ble_eq_true rfl⟩ (Nat.le_of_ble_eq_true rfl) hl.1 dX12_turns_78 ⟨Nat.le_of_ble_eq_true rfl, Nat.le_of_ble_eq_true rfl⟩) (fun H locs hW => ?_)
        obtain ⟨x12, ex12, ho⟩ := nm_x ho
        refine lv_iinc (v := x12) (lv' := [(7, .int x12), (0, .ref (am 68)), (1, .int v1), (2, .int v2), (3, .int v3), (4, .int v4), (5, .int v5), (6, .int v6)]) hx hb dX12_turns_81 hl (k := 7) rfl (by rw [ex12]; rfl) (by decide) rfl (fun ls hl => ?_)
        clear ex12
        refine lv_goto (tgt := 38) hx hb dX12_turns_84 (by decide) ?_
        cases ho
        exact ih _ _ hrun _ _ _ hW (lv_sub hl [1, 2, 3, 4, 5, 6, 7, 0] rfl)
set_option maxHeartbeats 4000000 in
set_option maxRecDepth 100000 in
theorem m_turns_L96 {p : Program} {l : Launch} {e : Env} {s : State} {m : MethodId} {args : Array Value} {below : List Frame} {meth : Method} {c : Code} {Q : State → Prop} {D : va_G} {cI cJ cZ : ClassId} {am : Nat → Nat} {A : Nat → Prop} (C0 : cx p s m args meth c cX12_turns RX12 8 none D (tyM cI cJ cZ) A) {v1 : Int32} {v2 : Int32} {v4 : Int32} {y : St} (hK0 : ∀ (H : Heap) (locs : List Loc) (ls : Array Slot), wl D A s (wM cI cJ cZ am y) H locs → lv_has ls 8 [(0, .ref (am 68)), (1, .int v1), (2, .int v2), (4, .int v4)] → W p l e (rmN 3 80) s m args below meth c H locs 0 0 Q (F0 m 146 ls [])) :
    ∀ (n : Nat) (v5 : Int32) (t : St), lpn (fun x => m_turns_B96 v1 v2 v4 x.1 x.2) n (v5, t) = some y → ∀ (H : Heap) (locs : List Loc) (ls : Array Slot), wl D A s (wM cI cJ cZ am t) H locs → lv_has ls 8 [(0, .ref (am 68)), (1, .int v1), (2, .int v2), (4, .int v4), (5, .int v5)] → W p l e (rmN 3 80) s m args below meth c H locs 0 0 Q (F0 m 96 ls []) := by
  have hx := C0.1
  have hb := C0.2.1
  have hta := C0.2.2.2.2.2.1
  have hown := C0.2.2.2.2.1
  intro n
  induction n with
  | zero => intro _ _ h; cases h
  | succ n ih =>
    intro v5 t hrun H locs ls hW hl
    obtain ⟨o, ho, hrun⟩ := bd_some hrun
    unfold m_turns_B96 at ho
    refine lv_iload hx hb dX12_turns_96 (lv_at hl 4 rfl) ?_
    refine lv_aload_n hx hb dX12_turns_98 rfl (lv_at hl 0 rfl) ?_
    refine mGET_50 C0 hW dX12_turns_99 ?_
    refine lv_icmp_gt (tgt := 146) hx hb dX12_turns_102 (by decide) (fun c13 => ?_) (fun c13 => ?_)
    · replace ho := ite_t c13 ho
      cases ho
      cases hrun
      exact hK0 _ _ _ hW (lv_sub hl [0, 1, 2, 3] rfl)
    · replace ho := ite_f c13 ho
      refine lv_iload hx hb dX12_turns_105 (lv_at hl 4 rfl) ?_
      refine lv_iload_n hx hb dX12_turns_107 rfl (lv_at hl 1 rfl) ?_
      refine lv_icmp_eq (tgt := 140) hx hb dX12_turns_108 (by decide) (fun c14 => ?_) (fun c14 => ?_)
      · replace ho := ite_t c14 ho
        obtain ⟨x15, ex15, ho⟩ := nm_x ho
        refine lv_iinc (v := x15) (lv' := [(5, .int x15), (0, .ref (am 68)), (1, .int v1), (2, .int v2), (4, .int v4)]) hx hb dX12_turns_140 hl (k := 4) rfl (by rw [ex15]; rfl) (by decide) rfl (fun ls hl => ?_)
        clear ex15
        refine lv_goto (tgt := 96) hx hb dX12_turns_143 (by decide) ?_
        cases ho
        exact ih _ _ hrun _ _ _ hW (lv_sub hl [1, 2, 3, 4, 0] rfl)
      · replace ho := ite_f c14 ho
        refine lv_aload_n hx hb dX12_turns_111 rfl (lv_at hl 0 rfl) ?_
        refine lv_sipush (v := (402 : Int32)) hx hb dX12_turns_112 (by decide) ?_
        refine lv_aload_n hx hb dX12_turns_115 rfl (lv_at hl 0 rfl) ?_
        refine lv_iload hx hb dX12_turns_116 (lv_at hl 4 rfl) ?_
        refine lv_iload_n hx hb dX12_turns_118 rfl (lv_at hl 2 rfl) ?_
        obtain ⟨q16, hc17, ho⟩ := bd_some ho
        refine bkI C0 hW (runV (As := [.int v5, .int v2]) (rest := [.int (402 : Int32), .ref (am 68)]) C0 hW (c_m_cell l _ t v5 v2 (r := q16) hc17) ca_X12_cell_411 0 12 rfl rfl rfl rfl rfl ⟨rfl, rfl⟩ ⟨Nat.le_of_ble_eq_true rfl, Nat.le_of_ble_eq_true rfl⟩ (Nat.le_of_ble_eq_true rfl) hl.1 dX12_turns_119 ⟨Nat.le_of_ble_eq_true rfl, Nat.le_of_ble_eq_true rfl⟩) (fun H locs hW => ?_)
        refine lv_iadd hx hb dX12_turns_122 ?_
        refine lv_iconst (v := (0 : Int32)) hx hb dX12_turns_123 (by decide) ?_
        obtain ⟨q18, hc19, ho⟩ := bd_some ho
        refine bkV C0 hW (runV (As := [.int ((402 : Int32) + q16), .int (0 : Int32)]) (rest := []) C0 hW (c_m_puts l _ t ((402 : Int32) + q16) (0 : Int32) (t' := q18) hc19) ca_X12_puts_175 0 12 rfl rfl rfl rfl rfl ⟨rfl, rfl⟩ ⟨Nat.le_of_ble_eq_true rfl, Nat.le_of_ble_eq_true rfl⟩ (Nat.le_of_ble_eq_true rfl) hl.1 dX12_turns_124 ⟨Nat.le_of_ble_eq_true rfl, Nat.le_of_ble_eq_true rfl⟩) (fun H locs hW => ?_)
        refine lv_aload_n hx hb dX12_turns_127 rfl (lv_at hl 0 rfl) ?_
        refine mGET_52 C0 hW dX12_turns_128 ?_
        refine lv_aload_n hx hb dX12_turns_131 rfl (lv_at hl 0 rfl) ?_
        refine lv_iload hx hb dX12_turns_132 (lv_at hl 4 rfl) ?_
        refine lv_iload_n hx hb dX12_turns_134 rfl (lv_at hl 2 rfl) ?_
        obtain ⟨q20, hc21, ho⟩ := bd_some ho
        refine bkI C0 hW (runV (As := [.int v5, .int v2]) (rest := [.ref (am 52)]) C0 hW (c_m_cell l _ q18 v5 v2 (r := q20) hc21) ca_X12_cell_411 0 12 rfl rfl rfl rfl rfl ⟨rfl, rfl⟩ ⟨Nat.le_of_ble_eq_true rfl, Nat.le_of_ble_eq_true rfl⟩ (Nat.le_of_ble_eq_true rfl) hl.1 dX12_turns_135 ⟨Nat.le_of_ble_eq_true rfl, Nat.le_of_ble_eq_true rfl⟩) (fun H locs hW => ?_)
        refine lv_iconst (v := (0 : Int32)) hx hb dX12_turns_138 (by decide) ?_
        obtain ⟨g22, ho⟩ := gd_some ho
        refine mST_52 C0 hW g22 dX12_turns_139 (fun H locs hW => ?_)
        obtain ⟨t23, ho, hW⟩ := nm_w (P := fun t => wl D A s (wM cI cJ cZ am t) H locs) ho hW
        obtain ⟨x24, ex24, ho⟩ := nm_x ho
        refine lv_iinc (v := x24) (lv' := [(5, .int x24), (0, .ref (am 68)), (1, .int v1), (2, .int v2), (4, .int v4)]) hx hb dX12_turns_140 hl (k := 4) rfl (by rw [ex24]; rfl) (by decide) rfl (fun ls hl => ?_)
        clear ex24
        refine lv_goto (tgt := 96) hx hb dX12_turns_143 (by decide) ?_
        cases ho
        exact ih _ _ hrun _ _ _ hW (lv_sub hl [1, 2, 3, 4, 0] rfl)
set_option maxHeartbeats 4000000 in
set_option maxRecDepth 100000 in
theorem m_turns_L11 {p : Program} {l : Launch} {e : Env} {s : State} {m : MethodId} {args : Array Value} {below : List Frame} {meth : Method} {c : Code} {Q : State → Prop} {D : va_G} {cI cJ cZ : ClassId} {am : Nat → Nat} {A : Nat → Prop} (C0 : cx p s m args meth c cX12_turns RX12 8 none D (tyM cI cJ cZ) A) {v1 : Int32} {v2 : Int32} {v3 : Int32} {v4 : Int32} {y : St} (hK0 : ∀ (H : Heap) (locs : List Loc) (ls : Array Slot), wl D A s (wM cI cJ cZ am y) H locs → lv_has ls 8 [(0, .ref (am 68)), (1, .int v1), (2, .int v2), (4, .int v4)] → W p l e (rmN 3 80) s m args below meth c H locs 0 0 Q (F0 m 93 ls [])) :
    ∀ (n : Nat) (v5 : Int32) (t : St), lpn (fun x => m_turns_B11 v1 v2 v3 v4 x.1 x.2) n (v5, t) = some y → ∀ (H : Heap) (locs : List Loc) (ls : Array Slot), wl D A s (wM cI cJ cZ am t) H locs → lv_has ls 8 [(0, .ref (am 68)), (1, .int v1), (2, .int v2), (3, .int v3), (4, .int v4), (5, .int v5)] → W p l e (rmN 3 80) s m args below meth c H locs 0 0 Q (F0 m 11 ls []) := by
  have hx := C0.1
  have hb := C0.2.1
  have hta := C0.2.2.2.2.2.1
  have hown := C0.2.2.2.2.1
  intro n
  induction n with
  | zero => intro _ _ h; cases h
  | succ n ih =>
    intro v5 t hrun H locs ls hW hl
    obtain ⟨o, ho, hrun⟩ := bd_some hrun
    unfold m_turns_B11 at ho
    refine lv_iload hx hb dX12_turns_11 (lv_at hl 5 rfl) ?_
    refine lv_aload_n hx hb dX12_turns_13 rfl (lv_at hl 0 rfl) ?_
    refine mGET_50 C0 hW dX12_turns_14 ?_
    refine lv_icmp_gt (tgt := 93) hx hb dX12_turns_17 (by decide) (fun c25 => ?_) (fun c25 => ?_)
    · replace ho := ite_t c25 ho
      cases ho
      cases hrun
      exact hK0 _ _ _ hW (lv_sub hl [0, 1, 2, 4] rfl)
    · replace ho := ite_f c25 ho
      refine lv_iload hx hb dX12_turns_20 (lv_at hl 5 rfl) ?_
      refine lv_iload_n hx hb dX12_turns_22 rfl (lv_at hl 1 rfl) ?_
      refine lv_icmp_eq (tgt := 87) hx hb dX12_turns_23 (by decide) (fun c26 => ?_) (fun c26 => ?_)
      · replace ho := ite_t c26 ho
        obtain ⟨x27, ex27, ho⟩ := nm_x ho
        refine lv_iinc (v := x27) (lv' := [(5, .int x27), (0, .ref (am 68)), (1, .int v1), (2, .int v2), (3, .int v3), (4, .int v4)]) hx hb dX12_turns_87 hl (k := 5) rfl (by rw [ex27]; rfl) (by decide) rfl (fun ls hl => ?_)
        clear ex27
        refine lv_goto (tgt := 11) hx hb dX12_turns_90 (by decide) ?_
        cases ho
        exact ih _ _ hrun _ _ _ hW (lv_sub hl [1, 2, 3, 4, 5, 0] rfl)
      · replace ho := ite_f c26 ho
        refine lv_aload_n hx hb dX12_turns_26 rfl (lv_at hl 0 rfl) ?_
        refine lv_iload hx hb dX12_turns_27 (lv_at hl 5 rfl) ?_
        refine lv_iload_n hx hb dX12_turns_29 rfl (lv_at hl 2 rfl) ?_
        obtain ⟨q28, hc29, ho⟩ := bd_some ho
        refine bkI C0 hW (runV (As := [.int v5, .int v2]) (rest := []) C0 hW (c_m_cell l _ t v5 v2 (r := q28) hc29) ca_X12_cell_411 0 12 rfl rfl rfl rfl rfl ⟨rfl, rfl⟩ ⟨Nat.le_of_ble_eq_true rfl, Nat.le_of_ble_eq_true rfl⟩ (Nat.le_of_ble_eq_true rfl) hl.1 dX12_turns_30 ⟨Nat.le_of_ble_eq_true rfl, Nat.le_of_ble_eq_true rfl⟩) (fun H locs hW => ?_)
        refine lv_istore (lv' := [(6, .int q28), (0, .ref (am 68)), (1, .int v1), (2, .int v2), (3, .int v3), (4, .int v4), (5, .int v5)]) hx hb dX12_turns_33 hl (by decide) rfl (fun ls hl => ?_)
        refine lv_iconst (v := (0 : Int32)) hx hb dX12_turns_35 (by decide) ?_
        refine lv_istore (lv' := [(7, .int (0 : Int32)), (6, .int q28), (0, .ref (am 68)), (1, .int v1), (2, .int v2), (3, .int v3), (4, .int v4), (5, .int v5)]) hx hb dX12_turns_36 hl (by decide) rfl (fun ls hl => ?_)
        obtain ⟨y30, hc32, ho⟩ := bd_some ho
        obtain ⟨ny30, hc32⟩ := lp_to hc32
        refine m_turns_L38 C0 ?_ ny30 _ _ hc32 _ _ _ hW (lv_sub hl [2, 3, 4, 5, 6, 7, 1, 0] rfl)
        intro H locs ls hW hl
        obtain ⟨x33, ex33, ho⟩ := nm_x ho
        refine lv_iinc (v := x33) (lv' := [(5, .int x33), (0, .ref (am 68)), (1, .int v1), (2, .int v2), (3, .int v3), (4, .int v4)]) hx hb dX12_turns_87 hl (k := 5) rfl (by rw [ex33]; rfl) (by decide) rfl (fun ls hl => ?_)
        clear ex33
        refine lv_goto (tgt := 11) hx hb dX12_turns_90 (by decide) ?_
        cases ho
        exact ih _ _ hrun _ _ _ hW (lv_sub hl [1, 2, 3, 4, 5, 0] rfl)
set_option maxHeartbeats 4000000 in
set_option maxRecDepth 100000 in
theorem c_m_turns (l : Launch) {D : va_G} {cI cJ cZ : ClassId} {am : Nat → Nat} (sz : Nat) (t : St) (a1 : Int32) (a2 : Int32) (a3 : Int32) {t' : St} (ho : m_turns t a1 a2 a3 = some t') : Met l yX12_turns (.code yX12_turns cX12_turns 8 none :: wsAll) (rmN 3 80) (va_Pc [.ref (am 68), .int a1, .int a2, .int a3] (prW D (tyM cI cJ cZ) (wM cI cJ cZ am t) sz)) (qV D (tyM cI cJ cZ) (wM cI cJ cZ am t') (va_A (wM cI cJ cZ am t) sz)) 0 0 (va_A (wM cI cJ cZ am t) sz) := by
  refine Met.ofW (cc := cX12_turns) (maxL := 8) (ret := none) (by decide) rfl ?_
  intro p e s m args below meth c s₁ B hml hv
  obtain ⟨rfl, hsz, hP, hK, hD0⟩ := hv
  have hx := B.exec
  have hb := B.bytes
  have hts := atoms_spec (ws := (.code yX12_turns cX12_turns 8 none :: wsAll)) B.pre
  have hta := fun w h => hts w (List.mem_cons_of_mem _ h)
  have hown : s.vm.findClass RX12 = some m.cls := findClass_of_methodNamed B.named
  have hlocks := B.notSynchronized
  subst hsz
  have hD := hD0.self (sz := s.heap.size)
  generalize hAe : va_A (wM cI cJ cZ am t) s.heap.size = A at hD ⊢
  have hA : ∀ q : Nat, s.heap.size ≤ q → A q := fun q h => by rw [← hAe]; exact Or.inr h
  have C0 : cx p s m ([.ref (am 68), .int a1, .int a2, .int a3].toArray) meth c cX12_turns RX12 8 none D (tyM cI cJ cZ) A := ⟨hx, hb, B.returns, hml, hown, hta, hlocks, hK, hA⟩
  have hW : wl D A s (wM cI cJ cZ am t) s.heap [] := ⟨hP, hD, va_S.rf⟩
  have hl := lv_entry [.ref (am 68), .int a1, .int a2, .int a3] (n := 8) (Nat.le_of_ble_eq_true rfl)
  rw [lg_entry_eq]
  generalize (lg_sl [.ref (am 68), .int a1, .int a2, .int a3] ++ List.replicate (8 - (lg_sl [.ref (am 68), .int a1, .int a2, .int a3]).length) Slot.unset).toArray = ls at hl ⊢
  have hl : lv_has ls 8 [(0, .ref (am 68)), (1, .int a1), (2, .int a2), (3, .int a3)] := hl
  unfold m_turns at ho
  refine lv_aload_n hx hb dX12_turns_0 rfl (lv_at hl 0 rfl) ?_
  refine lv_iload_n hx hb dX12_turns_1 rfl (lv_at hl 1 rfl) ?_
  refine lv_iload_n hx hb dX12_turns_2 rfl (lv_at hl 2 rfl) ?_
  obtain ⟨q34, hc35, ho⟩ := bd_some ho
  refine bkI C0 hW (runV (As := [.int a1, .int a2]) (rest := []) C0 hW (c_m_cell l _ t a1 a2 (r := q34) hc35) ca_X12_cell_411 0 12 rfl rfl rfl rfl rfl ⟨rfl, rfl⟩ ⟨Nat.le_of_ble_eq_true rfl, Nat.le_of_ble_eq_true rfl⟩ (Nat.le_of_ble_eq_true rfl) hl.1 dX12_turns_3 ⟨Nat.le_of_ble_eq_true rfl, Nat.le_of_ble_eq_true rfl⟩) (fun H locs hW => ?_)
  refine lv_istore (lv' := [(4, .int q34), (0, .ref (am 68)), (1, .int a1), (2, .int a2), (3, .int a3)]) hx hb dX12_turns_6 hl (by decide) rfl (fun ls hl => ?_)
  refine lv_iconst (v := (0 : Int32)) hx hb dX12_turns_8 (by decide) ?_
  refine lv_istore (lv' := [(5, .int (0 : Int32)), (4, .int q34), (0, .ref (am 68)), (1, .int a1), (2, .int a2), (3, .int a3)]) hx hb dX12_turns_9 hl (by decide) rfl (fun ls hl => ?_)
  obtain ⟨y36, hc38, ho⟩ := bd_some ho
  obtain ⟨ny36, hc38⟩ := lp_to hc38
  refine m_turns_L11 C0 ?_ ny36 _ _ hc38 _ _ _ hW (lv_sub hl [2, 3, 4, 5, 1, 0] rfl)
  intro H locs ls hW hl
  refine lv_iconst (v := (0 : Int32)) hx hb dX12_turns_93 (by decide) ?_
  refine lv_istore (lv' := [(5, .int (0 : Int32)), (0, .ref (am 68)), (1, .int a1), (2, .int a2), (4, .int q34)]) hx hb dX12_turns_94 hl (by decide) rfl (fun ls hl => ?_)
  obtain ⟨y39, hc41, ho⟩ := bd_some ho
  obtain ⟨ny39, hc41⟩ := lp_to hc41
  refine m_turns_L96 C0 ?_ ny39 _ _ hc41 _ _ _ hW (lv_sub hl [1, 2, 3, 4, 0] rfl)
  intro H locs ls hW hl
  refine lv_aload_n hx hb dX12_turns_146 rfl (lv_at hl 0 rfl) ?_
  refine lv_sipush (v := (700 : Int32)) hx hb dX12_turns_147 (by decide) ?_
  refine lv_sipush (v := (402 : Int32)) hx hb dX12_turns_150 (by decide) ?_
  refine lv_iload hx hb dX12_turns_153 (lv_at hl 3 rfl) ?_
  refine lv_iadd hx hb dX12_turns_155 ?_
  obtain ⟨q42, hc43, ho⟩ := bd_some ho
  refine bkV C0 hW (runV (As := [.int (700 : Int32), .int ((402 : Int32) + q34)]) (rest := []) C0 hW (c_m_takes l _ y39 (700 : Int32) ((402 : Int32) + q34) (t' := q42) hc43) ca_X12_takes_333 0 12 rfl rfl rfl rfl rfl ⟨rfl, rfl⟩ ⟨Nat.le_of_ble_eq_true rfl, Nat.le_of_ble_eq_true rfl⟩ (Nat.le_of_ble_eq_true rfl) hl.1 dX12_turns_156 ⟨Nat.le_of_ble_eq_true rfl, Nat.le_of_ble_eq_true rfl⟩) (fun H locs hW => ?_)
  refine lv_aload_n hx hb dX12_turns_159 rfl (lv_at hl 0 rfl) ?_
  refine mGET_53 C0 hW dX12_turns_160 ?_
  refine lv_iload_n hx hb dX12_turns_163 rfl (lv_at hl 1 rfl) ?_
  refine lv_iload_n hx hb dX12_turns_164 rfl (lv_at hl 2 rfl) ?_
  obtain ⟨g44, ho⟩ := gd_some ho
  refine mST_53 C0 hW g44 dX12_turns_165 (fun H locs hW => ?_)
  obtain ⟨t45, ho, hW⟩ := nm_w (P := fun t => wl D A s (wM cI cJ cZ am t) H locs) ho hW
  cases ho
  exact rtV C0 hW dX12_turns_166
