noncomputable def m_patternOf_B4 (t : St) (v0 : Int32) (v1 : Int64) (v3 : Int32) : Option ((Int64 × Int32) ⊕ (Int64)) :=
  if (64 : Int32) ≤ v3 then (some (.inr v1)) else (if ((v3 >>> (v0 &&& 31)) &&& (1 : Int32)) = (1 : Int32) then (nm (v1 ||| (((1 : Int64) <<< ((v3).toInt64 &&& 63)))) (fun x5 : Int64 => nm (v3 + (1 : Int32)) (fun x6 : Int32 => some (.inl (x5, x6))))) else (nm (v1 ||| (0 : Int64)) (fun x3 : Int64 => nm (v3 + (1 : Int32)) (fun x4 : Int32 => some (.inl (x3, x4))))))
noncomputable def m_patternOf (t : St) (a0 : Int32) : Option (Int64) :=
  (lp (fun x => m_patternOf_B4 t a0 x.1 x.2) ((0 : Int64), (0 : Int32))).bind (fun y7 => some y7)
set_option maxHeartbeats 4000000 in
set_option maxRecDepth 100000 in
theorem m_patternOf_L4 {p : Program} {l : Launch} {e : Env} {s : State} {m : MethodId} {args : Array Value} {below : List Frame} {meth : Method} {c : Code} {Q : State → Prop} {D : va_G} {cI cJ cZ : ClassId} {am : Nat → Nat} {A : Nat → Prop} (C0 : cx p s m args meth c cX12_patternOf RX12 4 (some .long) D (tyM cI cJ cZ) A) {t : St} {v0 : Int32} {y : Int64} (hK0 : ∀ (H : Heap) (locs : List Loc) (ls : Array Slot), wl D A s (wM cI cJ cZ am t) H locs → lv_has ls 4 [(1, .long y)] → W p l e (rmN 0 0) s m args below meth c H locs 0 0 Q (F0 m 35 ls [])) :
    ∀ (n : Nat) (v1 : Int64) (v3 : Int32), lpn (fun x => m_patternOf_B4 t v0 x.1 x.2) n (v1, v3) = some y → ∀ (H : Heap) (locs : List Loc) (ls : Array Slot), wl D A s (wM cI cJ cZ am t) H locs → lv_has ls 4 [(0, .int v0), (1, .long v1), (3, .int v3)] → W p l e (rmN 0 0) s m args below meth c H locs 0 0 Q (F0 m 4 ls []) := by
  have hx := C0.1
  have hb := C0.2.1
  have hta := C0.2.2.2.2.2.1
  have hown := C0.2.2.2.2.1
  intro n
  induction n with
  | zero => intro _ _ h; cases h
  | succ n ih =>
    intro v1 v3 hrun H locs ls hW hl
    obtain ⟨o, ho, hrun⟩ := bd_some hrun
    unfold m_patternOf_B4 at ho
    refine lv_iload_n hx hb dX12_patternOf_4 rfl (lv_at hl 2 rfl) ?_
    refine lv_bipush (v := (64 : Int32)) hx hb dX12_patternOf_5 (by decide) ?_
    refine lv_icmp_ge (tgt := 35) hx hb dX12_patternOf_7 (by decide) (fun c1 => ?_) (fun c1 => ?_)
    · replace ho := ite_t c1 ho
      cases ho
      cases hrun
      exact hK0 _ _ _ hW (lv_sub hl [1] rfl)
    · replace ho := ite_f c1 ho
      refine lv_lload_n hx hb dX12_patternOf_10 rfl (lv_at hl 1 rfl) ?_
      refine lv_iload_n hx hb dX12_patternOf_11 rfl (lv_at hl 2 rfl) ?_
      refine lv_iload_n hx hb dX12_patternOf_12 rfl (lv_at hl 0 rfl) ?_
      refine lv_ishr hx hb dX12_patternOf_13 ?_
      refine lv_iconst (v := (1 : Int32)) hx hb dX12_patternOf_14 (by decide) ?_
      refine lv_iand hx hb dX12_patternOf_15 ?_
      refine lv_iconst (v := (1 : Int32)) hx hb dX12_patternOf_16 (by decide) ?_
      refine lv_icmp_ne (tgt := 26) hx hb dX12_patternOf_17 (by decide) (fun c2 => ?_) (fun c2 => ?_)
      · replace ho := ite_f c2 ho
        refine lv_lconst (v := (0 : Int64)) hx hb dX12_patternOf_26 (by decide) ?_
        refine lv_lor hx hb dX12_patternOf_27 ?_
        refine lv_nml ho (fun x3 ho => ?_)
        refine lv_lstore_n (lv' := [(1, .long x3), (0, .int v0), (3, .int v3)]) hx hb dX12_patternOf_28 rfl hl (by decide) rfl (fun ls hl => ?_)
        obtain ⟨x4, ex4, ho⟩ := nm_x ho
        refine lv_iinc (v := x4) (lv' := [(3, .int x4), (1, .long x3), (0, .int v0)]) hx hb dX12_patternOf_29 hl (k := 2) rfl (by rw [ex4]; rfl) (by decide) rfl (fun ls hl => ?_)
        clear ex4
        refine lv_goto (tgt := 4) hx hb dX12_patternOf_32 (by decide) ?_
        cases ho
        exact ih _ _ hrun _ _ _ hW (lv_sub hl [2, 1, 0] rfl)
      · replace ho := ite_t c2 ho
        refine lv_lconst (v := (1 : Int64)) hx hb dX12_patternOf_20 (by decide) ?_
        refine lv_iload_n hx hb dX12_patternOf_21 rfl (lv_at hl 2 rfl) ?_
        refine lv_lshl hx hb dX12_patternOf_22 rfl ?_
        refine lv_goto (tgt := 27) hx hb dX12_patternOf_23 (by decide) ?_
        refine lv_lor hx hb dX12_patternOf_27 ?_
        refine lv_nml ho (fun x5 ho => ?_)
        refine lv_lstore_n (lv' := [(1, .long x5), (0, .int v0), (3, .int v3)]) hx hb dX12_patternOf_28 rfl hl (by decide) rfl (fun ls hl => ?_)
        obtain ⟨x6, ex6, ho⟩ := nm_x ho
        refine lv_iinc (v := x6) (lv' := [(3, .int x6), (1, .long x5), (0, .int v0)]) hx hb dX12_patternOf_29 hl (k := 2) rfl (by rw [ex6]; rfl) (by decide) rfl (fun ls hl => ?_)
        clear ex6
        refine lv_goto (tgt := 4) hx hb dX12_patternOf_32 (by decide) ?_
        cases ho
        exact ih _ _ hrun _ _ _ hW (lv_sub hl [2, 1, 0] rfl)
set_option maxHeartbeats 4000000 in
set_option maxRecDepth 100000 in
theorem c_m_patternOf (l : Launch) {D : va_G} {cI cJ cZ : ClassId} {am : Nat → Nat} (sz : Nat) (t : St) (a0 : Int32) {r : Int64} (ho : m_patternOf t a0 = some r) : Met l yX12_patternOf (.code yX12_patternOf cX12_patternOf 4 (some .long) :: wsAll) (rmN 0 0) (va_Pc [.int a0] (prW D (tyM cI cJ cZ) (wM cI cJ cZ am t) sz)) (qJ r D (tyM cI cJ cZ) (wM cI cJ cZ am t) (va_A (wM cI cJ cZ am t) sz)) 0 0 (va_A (wM cI cJ cZ am t) sz) := by
  refine Met.ofW (cc := cX12_patternOf) (maxL := 4) (ret := (some .long)) (by decide) rfl ?_
  intro p e s m args below meth c s₁ B hml hv
  obtain ⟨rfl, hsz, hP, hK, hD0⟩ := hv
  have hx := B.exec
  have hb := B.bytes
  have hts := atoms_spec (ws := (.code yX12_patternOf cX12_patternOf 4 (some .long) :: wsAll)) B.pre
  have hta := fun w h => hts w (List.mem_cons_of_mem _ h)
  have hown : s.vm.findClass RX12 = some m.cls := findClass_of_methodNamed B.named
  have hlocks := B.notSynchronized
  subst hsz
  have hD := hD0.self (sz := s.heap.size)
  generalize hAe : va_A (wM cI cJ cZ am t) s.heap.size = A at hD ⊢
  have hA : ∀ q : Nat, s.heap.size ≤ q → A q := fun q h => by rw [← hAe]; exact Or.inr h
  have C0 : cx p s m ([.int a0].toArray) meth c cX12_patternOf RX12 4 (some .long) D (tyM cI cJ cZ) A := ⟨hx, hb, B.returns, hml, hown, hta, hlocks, hK, hA⟩
  have hW : wl D A s (wM cI cJ cZ am t) s.heap [] := ⟨hP, hD, va_S.rf⟩
  have hl := lv_entry [.int a0] (n := 4) (Nat.le_of_ble_eq_true rfl)
  rw [lg_entry_eq]
  generalize (lg_sl [.int a0] ++ List.replicate (4 - (lg_sl [.int a0]).length) Slot.unset).toArray = ls at hl ⊢
  have hl : lv_has ls 4 [(0, .int a0)] := hl
  unfold m_patternOf at ho
  refine lv_lconst (v := (0 : Int64)) hx hb dX12_patternOf_0 (by decide) ?_
  refine lv_lstore_n (lv' := [(1, .long (0 : Int64)), (0, .int a0)]) hx hb dX12_patternOf_1 rfl hl (by decide) rfl (fun ls hl => ?_)
  refine lv_iconst (v := (0 : Int32)) hx hb dX12_patternOf_2 (by decide) ?_
  refine lv_istore_n (lv' := [(3, .int (0 : Int32)), (1, .long (0 : Int64)), (0, .int a0)]) hx hb dX12_patternOf_3 rfl hl (by decide) rfl (fun ls hl => ?_)
  obtain ⟨y7, hc9, ho⟩ := bd_some ho
  obtain ⟨ny7, hc9⟩ := lp_to hc9
  refine m_patternOf_L4 C0 ?_ ny7 _ _ hc9 _ _ _ hW (lv_sub hl [2, 1, 0] rfl)
  intro H locs ls hW hl
  refine lv_lload_n hx hb dX12_patternOf_35 rfl (lv_at hl 0 rfl) ?_
  cases ho
  exact rtJ C0 hW dX12_patternOf_36
noncomputable def m_isIn (t : St) (a0 : Int32) (a1 : Int32) (a2 : Int32) : Option (Int32) :=
  if (6 : Int32) ≤ a2 then (if ((a0 >>> ((a2 - (6 : Int32)) &&& 31)) &&& (1 : Int32)) = (1 : Int32) then (some (1 : Int32)) else (some (0 : Int32))) else (if ((a1 >>> (a2 &&& 31)) &&& (1 : Int32)) = (1 : Int32) then (some (1 : Int32)) else (some (0 : Int32)))
set_option maxHeartbeats 4000000 in
set_option maxRecDepth 100000 in
theorem c_m_isIn (l : Launch) {D : va_G} {cI cJ cZ : ClassId} {am : Nat → Nat} (sz : Nat) (t : St) (a0 : Int32) (a1 : Int32) (a2 : Int32) {r : Int32} (ho : m_isIn t a0 a1 a2 = some r) : Met l yX12_isIn (.code yX12_isIn cX12_isIn 3 (some .boolean) :: wsAll) (rmN 0 0) (va_Pc [.int a0, .int a1, .int a2] (prW D (tyM cI cJ cZ) (wM cI cJ cZ am t) sz)) (qZ r D (tyM cI cJ cZ) (wM cI cJ cZ am t) (va_A (wM cI cJ cZ am t) sz)) 0 0 (va_A (wM cI cJ cZ am t) sz) := by
  refine Met.ofW (cc := cX12_isIn) (maxL := 3) (ret := (some .boolean)) (by decide) rfl ?_
  intro p e s m args below meth c s₁ B hml hv
  obtain ⟨rfl, hsz, hP, hK, hD0⟩ := hv
  have hx := B.exec
  have hb := B.bytes
  have hts := atoms_spec (ws := (.code yX12_isIn cX12_isIn 3 (some .boolean) :: wsAll)) B.pre
  have hta := fun w h => hts w (List.mem_cons_of_mem _ h)
  have hown : s.vm.findClass RX12 = some m.cls := findClass_of_methodNamed B.named
  have hlocks := B.notSynchronized
  subst hsz
  have hD := hD0.self (sz := s.heap.size)
  generalize hAe : va_A (wM cI cJ cZ am t) s.heap.size = A at hD ⊢
  have hA : ∀ q : Nat, s.heap.size ≤ q → A q := fun q h => by rw [← hAe]; exact Or.inr h
  have C0 : cx p s m ([.int a0, .int a1, .int a2].toArray) meth c cX12_isIn RX12 3 (some .boolean) D (tyM cI cJ cZ) A := ⟨hx, hb, B.returns, hml, hown, hta, hlocks, hK, hA⟩
  have hW : wl D A s (wM cI cJ cZ am t) s.heap [] := ⟨hP, hD, va_S.rf⟩
  have hl := lv_entry [.int a0, .int a1, .int a2] (n := 3) (Nat.le_of_ble_eq_true rfl)
  rw [lg_entry_eq]
  generalize (lg_sl [.int a0, .int a1, .int a2] ++ List.replicate (3 - (lg_sl [.int a0, .int a1, .int a2]).length) Slot.unset).toArray = ls at hl ⊢
  have hl : lv_has ls 3 [(0, .int a0), (1, .int a1), (2, .int a2)] := hl
  unfold m_isIn at ho
  refine lv_iload_n hx hb dX12_isIn_0 rfl (lv_at hl 2 rfl) ?_
  refine lv_bipush (v := (6 : Int32)) hx hb dX12_isIn_1 (by decide) ?_
  refine lv_icmp_ge (tgt := 23) hx hb dX12_isIn_3 (by decide) (fun c1 => ?_) (fun c1 => ?_)
  · replace ho := ite_t c1 ho
    refine lv_iload_n hx hb dX12_isIn_23 rfl (lv_at hl 0 rfl) ?_
    refine lv_iload_n hx hb dX12_isIn_24 rfl (lv_at hl 2 rfl) ?_
    refine lv_bipush (v := (6 : Int32)) hx hb dX12_isIn_25 (by decide) ?_
    refine lv_isub hx hb dX12_isIn_27 ?_
    refine lv_ishr hx hb dX12_isIn_28 ?_
    refine lv_iconst (v := (1 : Int32)) hx hb dX12_isIn_29 (by decide) ?_
    refine lv_iand hx hb dX12_isIn_30 ?_
    refine lv_iconst (v := (1 : Int32)) hx hb dX12_isIn_31 (by decide) ?_
    refine lv_icmp_ne (tgt := 39) hx hb dX12_isIn_32 (by decide) (fun c2 => ?_) (fun c2 => ?_)
    · replace ho := ite_f c2 ho
      refine lv_iconst (v := (0 : Int32)) hx hb dX12_isIn_39 (by decide) ?_
      cases ho
      exact rtZ C0 hW (Or.inl (rfl : (0 : Int32) = 0)) dX12_isIn_40
    · replace ho := ite_t c2 ho
      refine lv_iconst (v := (1 : Int32)) hx hb dX12_isIn_35 (by decide) ?_
      refine lv_goto (tgt := 40) hx hb dX12_isIn_36 (by decide) ?_
      cases ho
      exact rtZ C0 hW (Or.inr (rfl : (1 : Int32) = 1)) dX12_isIn_40
  · replace ho := ite_f c1 ho
    refine lv_iload_n hx hb dX12_isIn_6 rfl (lv_at hl 1 rfl) ?_
    refine lv_iload_n hx hb dX12_isIn_7 rfl (lv_at hl 2 rfl) ?_
    refine lv_ishr hx hb dX12_isIn_8 ?_
    refine lv_iconst (v := (1 : Int32)) hx hb dX12_isIn_9 (by decide) ?_
    refine lv_iand hx hb dX12_isIn_10 ?_
    refine lv_iconst (v := (1 : Int32)) hx hb dX12_isIn_11 (by decide) ?_
    refine lv_icmp_ne (tgt := 19) hx hb dX12_isIn_12 (by decide) (fun c3 => ?_) (fun c3 => ?_)
    · replace ho := ite_f c3 ho
      refine lv_iconst (v := (0 : Int32)) hx hb dX12_isIn_19 (by decide) ?_
      refine lv_goto (tgt := 40) hx hb dX12_isIn_20 (by decide) ?_
      cases ho
      exact rtZ C0 hW (Or.inl (rfl : (0 : Int32) = 0)) dX12_isIn_40
    · replace ho := ite_t c3 ho
      refine lv_iconst (v := (1 : Int32)) hx hb dX12_isIn_15 (by decide) ?_
      refine lv_goto (tgt := 40) hx hb dX12_isIn_16 (by decide) ?_
      cases ho
      exact rtZ C0 hW (Or.inr (rfl : (1 : Int32) = 1)) dX12_isIn_40
noncomputable def m_wordOf_J55 (t : St) (v1 : Int32) (v2 : Int32) (v3 : Int32) (v4 : Int32) (v5 : Int32) (w1 : Int32) (w2 : Int64) : Option ((Int32 × St) ⊕ (St)) :=
  gd w1 9 (nm (sB t 27 w1 w2) (fun t2 : St => nm (v5 + (1 : Int32)) (fun x3 : Int32 => some (.inl (x3, t2)))))
noncomputable def m_wordOf_B30 (v1 : Int32) (v2 : Int32) (v3 : Int32) (v4 : Int32) (v5 : Int32) (t : St) : Option ((Int32 × St) ⊕ (St)) :=
  if (9 : Int32) ≤ v5 then (some (.inr t)) else (if v5 = 0 then (m_wordOf_J55 t v1 v2 v3 v4 v5 v5 (-1 : Int64)) else (m_wordOf_J55 t v1 v2 v3 v4 v5 v5 (0 : Int64)))
noncomputable def m_wordOf_B96 (v1 : Int32) (v2 : Int32) (v4 : Int32) (v5 : Int32) (v6 : Int64) (v8 : Int32) (t : St) : Option ((Int32 × St) ⊕ (St)) :=
  if v8 ≤ 0 then (some (.inr t)) else (gd v8 9 (gd (v8 - (1 : Int32)) 9 (gd v8 9 (nm (sB t 27 v8 ((gB t 27 (v8).toNatClampNeg) ||| ((gB t 27 ((v8 - (1 : Int32))).toNatClampNeg) &&& v6))) (fun t10 : St => nm (v8 + (-1 : Int32)) (fun x11 : Int32 => some (.inl (x11, t10))))))))
noncomputable def m_wordOf_B169 (t : St) (v1 : Int32) (v2 : Int32) (v4 : Int32) (v5 : Int64) (v7 : Int32) : Option ((Int64 × Int32) ⊕ (Int64)) :=
  if v4 ≤ v7 then (some (.inr v5)) else (gd v7 20000 (gd (((1024 : Int32) * (gA t 14 (v7).toNatClampNeg)) + v2) 256000 (nm (gB t 17 ((((1024 : Int32) * (gA t 14 (v7).toNatClampNeg)) + v2)).toNatClampNeg) (fun x15 : Int64 => gd v1 400 (if (gA t 8 (v1).toNatClampNeg) = (1 : Int32) then (nm (v5 ||| x15) (fun x20 : Int64 => nm (v7 + (1 : Int32)) (fun x21 : Int32 => some (.inl (x20, x21))))) else (nm (v5 &&& x15) (fun x18 : Int64 => nm (v7 + (1 : Int32)) (fun x19 : Int32 => some (.inl (x18, x19))))))))))
noncomputable def m_wordOf_B65 (v1 : Int32) (v2 : Int32) (v4 : Int32) (v5 : Int32) (t : St) : Option ((Int32 × St) ⊕ (St)) :=
  if v4 ≤ v5 then (some (.inr t)) else (gd v5 20000 (gd (((1024 : Int32) * (gA t 14 (v5).toNatClampNeg)) + v2) 256000 (nm (gB t 17 ((((1024 : Int32) * (gA t 14 (v5).toNatClampNeg)) + v2)).toNatClampNeg) (fun x25 : Int64 => (lp (fun x => m_wordOf_B96 v1 v2 v4 v5 x25 x.1 x.2) ((8 : Int32), t)).bind (fun y26 => nm (v5 + (1 : Int32)) (fun x29 : Int32 => some (.inl (x29, y26))))))))
noncomputable def m_wordOf_J164 (t : St) (v1 : Int32) (v2 : Int32) (v3 : Int32) (v4 : Int32) (w0 : Int64) : Option (Int64 × St) :=
  (lp (fun x => m_wordOf_B169 t v1 v2 v4 x.1 x.2) (w0, v3)).bind (fun y30 => some (y30, t))
noncomputable def m_wordOf (t : St) (a1 : Int32) (a2 : Int32) : Option (Int64 × St) :=
  gd a1 400 (nm (gA t 11 (a1).toNatClampNeg) (fun x34 : Int32 => gd a1 400 (nm (x34 + (gA t 12 (a1).toNatClampNeg)) (fun x36 : Int32 => gd a1 400 (if (gA t 8 (a1).toNatClampNeg) = (4 : Int32) then ((lp (fun x => m_wordOf_B30 a1 a2 x34 x36 x.1 x.2) ((0 : Int32), t)).bind (fun y41 => (lp (fun x => m_wordOf_B65 a1 a2 x36 x.1 x.2) (x34, y41)).bind (fun y44 => gd a1 400 (gd (gA y44 9 (a1).toNatClampNeg) 9 (some ((gB y44 27 ((gA y44 9 (a1).toNatClampNeg)).toNatClampNeg), y44)))))) else (gd a1 400 (if (gA t 8 (a1).toNatClampNeg) = (1 : Int32) then (m_wordOf_J164 t a1 a2 x34 x36 (0 : Int64)) else (m_wordOf_J164 t a1 a2 x34 x36 (-1 : Int64)))))))))
set_option maxHeartbeats 4000000 in
set_option maxRecDepth 100000 in
theorem m_wordOf_L30 {p : Program} {l : Launch} {e : Env} {s : State} {m : MethodId} {args : Array Value} {below : List Frame} {meth : Method} {c : Code} {Q : State → Prop} {D : va_G} {cI cJ cZ : ClassId} {am : Nat → Nat} {A : Nat → Prop} (C0 : cx p s m args meth c cX12_wordOf RX12 10 (some .long) D (tyM cI cJ cZ) A) {v1 : Int32} {v2 : Int32} {v3 : Int32} {v4 : Int32} {y : St} (hK0 : ∀ (H : Heap) (locs : List Loc) (ls : Array Slot), wl D A s (wM cI cJ cZ am y) H locs → lv_has ls 10 [(0, .ref (am 68)), (1, .int v1), (2, .int v2), (3, .int v3), (4, .int v4)] → W p l e (rmN 0 0) s m args below meth c H locs 0 0 Q (F0 m 62 ls [])) :
    ∀ (n : Nat) (v5 : Int32) (t : St), lpn (fun x => m_wordOf_B30 v1 v2 v3 v4 x.1 x.2) n (v5, t) = some y → ∀ (H : Heap) (locs : List Loc) (ls : Array Slot), wl D A s (wM cI cJ cZ am t) H locs → lv_has ls 10 [(0, .ref (am 68)), (1, .int v1), (2, .int v2), (3, .int v3), (4, .int v4), (5, .int v5)] → W p l e (rmN 0 0) s m args below meth c H locs 0 0 Q (F0 m 30 ls []) := by
  have hx := C0.1
  have hb := C0.2.1
  have hta := C0.2.2.2.2.2.1
  have hown := C0.2.2.2.2.1
  intro n
  induction n with
  | zero => intro _ _ h; cases h
  | succ n ih =>
    intro v5 t hrun H locs ls hW hl
    obtain ⟨o, ho, hrun⟩ := bd_some hrun
    have J55 : ∀ (t : St) (v5 : Int32) (w1 : Int32) (w2 : Int64) (_ : m_wordOf_J55 t v1 v2 v3 v4 v5 w1 w2 = some o) (H : Heap) (locs : List Loc) (ls : Array Slot), wl D A s (wM cI cJ cZ am t) H locs → lv_has ls 10 [(0, .ref (am 68)), (1, .int v1), (2, .int v2), (3, .int v3), (4, .int v4), (5, .int v5)] → W p l e (rmN 0 0) s m args below meth c H locs 0 0 Q (F0 m 55 ls [.long w2, .int w1, .ref (am 27)]) := by
      intro t v5 w1 w2 ho H locs ls hW hl
      unfold m_wordOf_J55 at ho
      obtain ⟨g1, ho⟩ := gd_some ho
      refine mST_27 C0 hW g1 dX12_wordOf_55 (fun H locs hW => ?_)
      obtain ⟨t2, ho, hW⟩ := nm_w (P := fun t => wl D A s (wM cI cJ cZ am t) H locs) ho hW
      obtain ⟨x3, ex3, ho⟩ := nm_x ho
      refine lv_iinc (v := x3) (lv' := [(5, .int x3), (0, .ref (am 68)), (1, .int v1), (2, .int v2), (3, .int v3), (4, .int v4)]) hx hb dX12_wordOf_56 hl (k := 5) rfl (by rw [ex3]; rfl) (by decide) rfl (fun ls hl => ?_)
      clear ex3
      refine lv_goto (tgt := 30) hx hb dX12_wordOf_59 (by decide) ?_
      cases ho
      exact ih _ _ hrun _ _ _ hW (lv_sub hl [1, 2, 3, 4, 5, 0] rfl)
    unfold m_wordOf_B30 at ho
    refine lv_iload hx hb dX12_wordOf_30 (lv_at hl 5 rfl) ?_
    refine lv_bipush (v := (9 : Int32)) hx hb dX12_wordOf_32 (by decide) ?_
    refine lv_icmp_ge (tgt := 62) hx hb dX12_wordOf_34 (by decide) (fun c4 => ?_) (fun c4 => ?_)
    · replace ho := ite_t c4 ho
      cases ho
      cases hrun
      exact hK0 _ _ _ hW (lv_sub hl [0, 1, 2, 3, 4] rfl)
    · replace ho := ite_f c4 ho
      refine lv_aload_n hx hb dX12_wordOf_37 rfl (lv_at hl 0 rfl) ?_
      refine mGET_27 C0 hW dX12_wordOf_38 ?_
      refine lv_iload hx hb dX12_wordOf_41 (lv_at hl 5 rfl) ?_
      refine lv_iload hx hb dX12_wordOf_43 (lv_at hl 5 rfl) ?_
      refine lv_if_ne (tgt := 54) hx hb dX12_wordOf_45 (by decide) (fun c5 => ?_) (fun c5 => ?_)
      · replace ho := ite_f c5 ho
        refine lv_lconst (v := (0 : Int64)) hx hb dX12_wordOf_54 (by decide) ?_
        exact J55 _ _ _ _ ho _ _ _ hW (lv_sub hl [0, 1, 2, 3, 4, 5] rfl)
      · replace ho := ite_t c5 ho
        refine lv_ldc2 hx hb hown (hta _ kw_1807) dX12_wordOf_48 ?_
        refine lv_goto (tgt := 55) hx hb dX12_wordOf_51 (by decide) ?_
        exact J55 _ _ _ _ ho _ _ _ hW (lv_sub hl [0, 1, 2, 3, 4, 5] rfl)
set_option maxHeartbeats 4000000 in
set_option maxRecDepth 100000 in
theorem m_wordOf_L96 {p : Program} {l : Launch} {e : Env} {s : State} {m : MethodId} {args : Array Value} {below : List Frame} {meth : Method} {c : Code} {Q : State → Prop} {D : va_G} {cI cJ cZ : ClassId} {am : Nat → Nat} {A : Nat → Prop} (C0 : cx p s m args meth c cX12_wordOf RX12 10 (some .long) D (tyM cI cJ cZ) A) {v1 : Int32} {v2 : Int32} {v4 : Int32} {v5 : Int32} {v6 : Int64} {y : St} (hK0 : ∀ (H : Heap) (locs : List Loc) (ls : Array Slot), wl D A s (wM cI cJ cZ am y) H locs → lv_has ls 10 [(0, .ref (am 68)), (1, .int v1), (2, .int v2), (4, .int v4), (5, .int v5)] → W p l e (rmN 0 0) s m args below meth c H locs 0 0 Q (F0 m 129 ls [])) :
    ∀ (n : Nat) (v8 : Int32) (t : St), lpn (fun x => m_wordOf_B96 v1 v2 v4 v5 v6 x.1 x.2) n (v8, t) = some y → ∀ (H : Heap) (locs : List Loc) (ls : Array Slot), wl D A s (wM cI cJ cZ am t) H locs → lv_has ls 10 [(0, .ref (am 68)), (1, .int v1), (2, .int v2), (4, .int v4), (5, .int v5), (6, .long v6), (8, .int v8)] → W p l e (rmN 0 0) s m args below meth c H locs 0 0 Q (F0 m 96 ls []) := by
  have hx := C0.1
  have hb := C0.2.1
  have hta := C0.2.2.2.2.2.1
  have hown := C0.2.2.2.2.1
  intro n
  induction n with
  | zero => intro _ _ h; cases h
  | succ n ih =>
    intro v8 t hrun H locs ls hW hl
    obtain ⟨o, ho, hrun⟩ := bd_some hrun
    unfold m_wordOf_B96 at ho
    refine lv_iload hx hb dX12_wordOf_96 (lv_at hl 6 rfl) ?_
    refine lv_if_le (tgt := 129) hx hb dX12_wordOf_98 (by decide) (fun c6 => ?_) (fun c6 => ?_)
    · replace ho := ite_t c6 ho
      cases ho
      cases hrun
      exact hK0 _ _ _ hW (lv_sub hl [0, 1, 2, 3, 4] rfl)
    · replace ho := ite_f c6 ho
      refine lv_aload_n hx hb dX12_wordOf_101 rfl (lv_at hl 0 rfl) ?_
      refine mGET_27 C0 hW dX12_wordOf_102 ?_
      refine lv_iload hx hb dX12_wordOf_105 (lv_at hl 6 rfl) ?_
      refine lv_dup2_11 hx hb dX12_wordOf_107 rfl rfl ?_
      obtain ⟨g7, ho⟩ := gd_some ho
      refine mLD_27 C0 hW g7 dX12_wordOf_108 ?_
      refine lv_aload_n hx hb dX12_wordOf_109 rfl (lv_at hl 0 rfl) ?_
      refine mGET_27 C0 hW dX12_wordOf_110 ?_
      refine lv_iload hx hb dX12_wordOf_113 (lv_at hl 6 rfl) ?_
      refine lv_iconst (v := (1 : Int32)) hx hb dX12_wordOf_115 (by decide) ?_
      refine lv_isub hx hb dX12_wordOf_116 ?_
      obtain ⟨g8, ho⟩ := gd_some ho
      refine mLD_27 C0 hW g8 dX12_wordOf_117 ?_
      refine lv_lload hx hb dX12_wordOf_118 (lv_at hl 5 rfl) ?_
      refine lv_land hx hb dX12_wordOf_120 ?_
      refine lv_lor hx hb dX12_wordOf_121 ?_
      obtain ⟨g9, ho⟩ := gd_some ho
      refine mST_27 C0 hW g9 dX12_wordOf_122 (fun H locs hW => ?_)
      obtain ⟨t10, ho, hW⟩ := nm_w (P := fun t => wl D A s (wM cI cJ cZ am t) H locs) ho hW
      obtain ⟨x11, ex11, ho⟩ := nm_x ho
      refine lv_iinc (v := x11) (lv' := [(8, .int x11), (0, .ref (am 68)), (1, .int v1), (2, .int v2), (4, .int v4), (5, .int v5), (6, .long v6)]) hx hb dX12_wordOf_123 hl (k := 6) rfl (by rw [ex11]; rfl) (by decide) rfl (fun ls hl => ?_)
      clear ex11
      refine lv_goto (tgt := 96) hx hb dX12_wordOf_126 (by decide) ?_
      cases ho
      exact ih _ _ hrun _ _ _ hW (lv_sub hl [1, 2, 3, 4, 5, 6, 0] rfl)
set_option maxHeartbeats 4000000 in
set_option maxRecDepth 100000 in
theorem m_wordOf_L169 {p : Program} {l : Launch} {e : Env} {s : State} {m : MethodId} {args : Array Value} {below : List Frame} {meth : Method} {c : Code} {Q : State → Prop} {D : va_G} {cI cJ cZ : ClassId} {am : Nat → Nat} {A : Nat → Prop} (C0 : cx p s m args meth c cX12_wordOf RX12 10 (some .long) D (tyM cI cJ cZ) A) {t : St} {v1 : Int32} {v2 : Int32} {v4 : Int32} {y : Int64} (hK0 : ∀ (H : Heap) (locs : List Loc) (ls : Array Slot), wl D A s (wM cI cJ cZ am t) H locs → lv_has ls 10 [(0, .ref (am 68)), (5, .long y)] → W p l e (rmN 0 0) s m args below meth c H locs 0 0 Q (F0 m 227 ls [])) :
    ∀ (n : Nat) (v5 : Int64) (v7 : Int32), lpn (fun x => m_wordOf_B169 t v1 v2 v4 x.1 x.2) n (v5, v7) = some y → ∀ (H : Heap) (locs : List Loc) (ls : Array Slot), wl D A s (wM cI cJ cZ am t) H locs → lv_has ls 10 [(0, .ref (am 68)), (1, .int v1), (2, .int v2), (4, .int v4), (5, .long v5), (7, .int v7)] → W p l e (rmN 0 0) s m args below meth c H locs 0 0 Q (F0 m 169 ls []) := by
  have hx := C0.1
  have hb := C0.2.1
  have hta := C0.2.2.2.2.2.1
  have hown := C0.2.2.2.2.1
  intro n
  induction n with
  | zero => intro _ _ h; cases h
  | succ n ih =>
    intro v5 v7 hrun H locs ls hW hl
    obtain ⟨o, ho, hrun⟩ := bd_some hrun
    unfold m_wordOf_B169 at ho
    refine lv_iload hx hb dX12_wordOf_169 (lv_at hl 5 rfl) ?_
    refine lv_iload hx hb dX12_wordOf_171 (lv_at hl 3 rfl) ?_
    refine lv_icmp_ge (tgt := 227) hx hb dX12_wordOf_173 (by decide) (fun c12 => ?_) (fun c12 => ?_)
    · replace ho := ite_t c12 ho
      cases ho
      cases hrun
      exact hK0 _ _ _ hW (lv_sub hl [0, 4] rfl)
    · replace ho := ite_f c12 ho
      refine lv_aload_n hx hb dX12_wordOf_176 rfl (lv_at hl 0 rfl) ?_
      refine mGET_17 C0 hW dX12_wordOf_177 ?_
      refine lv_sipush (v := (1024 : Int32)) hx hb dX12_wordOf_180 (by decide) ?_
      refine lv_aload_n hx hb dX12_wordOf_183 rfl (lv_at hl 0 rfl) ?_
      refine mGET_14 C0 hW dX12_wordOf_184 ?_
      refine lv_iload hx hb dX12_wordOf_187 (lv_at hl 5 rfl) ?_
      obtain ⟨g13, ho⟩ := gd_some ho
      refine mLD_14 C0 hW g13 dX12_wordOf_189 ?_
      refine lv_imul hx hb dX12_wordOf_190 ?_
      refine lv_iload_n hx hb dX12_wordOf_191 rfl (lv_at hl 2 rfl) ?_
      refine lv_iadd hx hb dX12_wordOf_192 ?_
      obtain ⟨g14, ho⟩ := gd_some ho
      refine mLD_17 C0 hW g14 dX12_wordOf_193 ?_
      refine lv_nml ho (fun x15 ho => ?_)
      refine lv_lstore (lv' := [(8, .long x15), (0, .ref (am 68)), (1, .int v1), (2, .int v2), (4, .int v4), (5, .long v5), (7, .int v7)]) hx hb dX12_wordOf_194 hl (by decide) rfl (fun ls hl => ?_)
      refine lv_aload_n hx hb dX12_wordOf_196 rfl (lv_at hl 1 rfl) ?_
      refine mGET_8 C0 hW dX12_wordOf_197 ?_
      refine lv_iload_n hx hb dX12_wordOf_200 rfl (lv_at hl 2 rfl) ?_
      obtain ⟨g16, ho⟩ := gd_some ho
      refine mLD_8 C0 hW g16 dX12_wordOf_201 ?_
      refine lv_iconst (v := (1 : Int32)) hx hb dX12_wordOf_202 (by decide) ?_
      refine lv_icmp_ne (tgt := 214) hx hb dX12_wordOf_203 (by decide) (fun c17 => ?_) (fun c17 => ?_)
      · replace ho := ite_f c17 ho
        refine lv_lload hx hb dX12_wordOf_214 (lv_at hl 5 rfl) ?_
        refine lv_lload hx hb dX12_wordOf_216 (lv_at hl 0 rfl) ?_
        refine lv_land hx hb dX12_wordOf_218 ?_
        refine lv_nml ho (fun x18 ho => ?_)
        refine lv_lstore (lv' := [(5, .long x18), (8, .long x15), (0, .ref (am 68)), (1, .int v1), (2, .int v2), (4, .int v4), (7, .int v7)]) hx hb dX12_wordOf_219 hl (by decide) rfl (fun ls hl => ?_)
        obtain ⟨x19, ex19, ho⟩ := nm_x ho
        refine lv_iinc (v := x19) (lv' := [(7, .int x19), (5, .long x18), (8, .long x15), (0, .ref (am 68)), (1, .int v1), (2, .int v2), (4, .int v4)]) hx hb dX12_wordOf_221 hl (k := 6) rfl (by rw [ex19]; rfl) (by decide) rfl (fun ls hl => ?_)
        clear ex19
        refine lv_goto (tgt := 169) hx hb dX12_wordOf_224 (by decide) ?_
        cases ho
        exact ih _ _ hrun _ _ _ hW (lv_sub hl [3, 4, 5, 6, 1, 0] rfl)
      · replace ho := ite_t c17 ho
        refine lv_lload hx hb dX12_wordOf_206 (lv_at hl 5 rfl) ?_
        refine lv_lload hx hb dX12_wordOf_208 (lv_at hl 0 rfl) ?_
        refine lv_lor hx hb dX12_wordOf_210 ?_
        refine lv_goto (tgt := 219) hx hb dX12_wordOf_211 (by decide) ?_
        refine lv_nml ho (fun x20 ho => ?_)
        refine lv_lstore (lv' := [(5, .long x20), (8, .long x15), (0, .ref (am 68)), (1, .int v1), (2, .int v2), (4, .int v4), (7, .int v7)]) hx hb dX12_wordOf_219 hl (by decide) rfl (fun ls hl => ?_)
        obtain ⟨x21, ex21, ho⟩ := nm_x ho
        refine lv_iinc (v := x21) (lv' := [(7, .int x21), (5, .long x20), (8, .long x15), (0, .ref (am 68)), (1, .int v1), (2, .int v2), (4, .int v4)]) hx hb dX12_wordOf_221 hl (k := 6) rfl (by rw [ex21]; rfl) (by decide) rfl (fun ls hl => ?_)
        clear ex21
        refine lv_goto (tgt := 169) hx hb dX12_wordOf_224 (by decide) ?_
        cases ho
        exact ih _ _ hrun _ _ _ hW (lv_sub hl [3, 4, 5, 6, 1, 0] rfl)
set_option maxHeartbeats 4000000 in
set_option maxRecDepth 100000 in
theorem m_wordOf_L65 {p : Program} {l : Launch} {e : Env} {s : State} {m : MethodId} {args : Array Value} {below : List Frame} {meth : Method} {c : Code} {Q : State → Prop} {D : va_G} {cI cJ cZ : ClassId} {am : Nat → Nat} {A : Nat → Prop} (C0 : cx p s m args meth c cX12_wordOf RX12 10 (some .long) D (tyM cI cJ cZ) A) {v1 : Int32} {v2 : Int32} {v4 : Int32} {y : St} (hK0 : ∀ (H : Heap) (locs : List Loc) (ls : Array Slot), wl D A s (wM cI cJ cZ am y) H locs → lv_has ls 10 [(0, .ref (am 68)), (1, .int v1)] → W p l e (rmN 0 0) s m args below meth c H locs 0 0 Q (F0 m 135 ls [])) :
    ∀ (n : Nat) (v5 : Int32) (t : St), lpn (fun x => m_wordOf_B65 v1 v2 v4 x.1 x.2) n (v5, t) = some y → ∀ (H : Heap) (locs : List Loc) (ls : Array Slot), wl D A s (wM cI cJ cZ am t) H locs → lv_has ls 10 [(0, .ref (am 68)), (1, .int v1), (2, .int v2), (4, .int v4), (5, .int v5)] → W p l e (rmN 0 0) s m args below meth c H locs 0 0 Q (F0 m 65 ls []) := by
  have hx := C0.1
  have hb := C0.2.1
  have hta := C0.2.2.2.2.2.1
  have hown := C0.2.2.2.2.1
  intro n
  induction n with
  | zero => intro _ _ h; cases h
  | succ n ih =>
    intro v5 t hrun H locs ls hW hl
    obtain ⟨o, ho, hrun⟩ := bd_some hrun
    unfold m_wordOf_B65 at ho
    refine lv_iload hx hb dX12_wordOf_65 (lv_at hl 4 rfl) ?_
    refine lv_iload hx hb dX12_wordOf_67 (lv_at hl 3 rfl) ?_
    refine lv_icmp_ge (tgt := 135) hx hb dX12_wordOf_69 (by decide) (fun c22 => ?_) (fun c22 => ?_)
    · replace ho := ite_t c22 ho
      cases ho
      cases hrun
      exact hK0 _ _ _ hW (lv_sub hl [0, 1] rfl)
    · replace ho := ite_f c22 ho
      refine lv_aload_n hx hb dX12_wordOf_72 rfl (lv_at hl 0 rfl) ?_
      refine mGET_17 C0 hW dX12_wordOf_73 ?_
      refine lv_sipush (v := (1024 : Int32)) hx hb dX12_wordOf_76 (by decide) ?_
      refine lv_aload_n hx hb dX12_wordOf_79 rfl (lv_at hl 0 rfl) ?_
      refine mGET_14 C0 hW dX12_wordOf_80 ?_
      refine lv_iload hx hb dX12_wordOf_83 (lv_at hl 4 rfl) ?_
      obtain ⟨g23, ho⟩ := gd_some ho
      refine mLD_14 C0 hW g23 dX12_wordOf_85 ?_
      refine lv_imul hx hb dX12_wordOf_86 ?_
      refine lv_iload_n hx hb dX12_wordOf_87 rfl (lv_at hl 2 rfl) ?_
      refine lv_iadd hx hb dX12_wordOf_88 ?_
      obtain ⟨g24, ho⟩ := gd_some ho
      refine mLD_17 C0 hW g24 dX12_wordOf_89 ?_
      refine lv_nml ho (fun x25 ho => ?_)
      refine lv_lstore (lv' := [(6, .long x25), (0, .ref (am 68)), (1, .int v1), (2, .int v2), (4, .int v4), (5, .int v5)]) hx hb dX12_wordOf_90 hl (by decide) rfl (fun ls hl => ?_)
      refine lv_bipush (v := (8 : Int32)) hx hb dX12_wordOf_92 (by decide) ?_
      refine lv_istore (lv' := [(8, .int (8 : Int32)), (6, .long x25), (0, .ref (am 68)), (1, .int v1), (2, .int v2), (4, .int v4), (5, .int v5)]) hx hb dX12_wordOf_94 hl (by decide) rfl (fun ls hl => ?_)
      obtain ⟨y26, hc28, ho⟩ := bd_some ho
      obtain ⟨ny26, hc28⟩ := lp_to hc28
      refine m_wordOf_L96 C0 ?_ ny26 _ _ hc28 _ _ _ hW (lv_sub hl [2, 3, 4, 5, 6, 1, 0] rfl)
      intro H locs ls hW hl
      obtain ⟨x29, ex29, ho⟩ := nm_x ho
      refine lv_iinc (v := x29) (lv' := [(5, .int x29), (0, .ref (am 68)), (1, .int v1), (2, .int v2), (4, .int v4)]) hx hb dX12_wordOf_129 hl (k := 4) rfl (by rw [ex29]; rfl) (by decide) rfl (fun ls hl => ?_)
      clear ex29
      refine lv_goto (tgt := 65) hx hb dX12_wordOf_132 (by decide) ?_
      cases ho
      exact ih _ _ hrun _ _ _ hW (lv_sub hl [1, 2, 3, 4, 0] rfl)
set_option maxHeartbeats 4000000 in
set_option maxRecDepth 100000 in
theorem c_m_wordOf (l : Launch) {D : va_G} {cI cJ cZ : ClassId} {am : Nat → Nat} (sz : Nat) (t : St) (a1 : Int32) (a2 : Int32) {r : Int64} {t' : St} (ho : m_wordOf t a1 a2 = some (r, t')) : Met l yX12_wordOf (.code yX12_wordOf cX12_wordOf 10 (some .long) :: wsAll) (rmN 0 0) (va_Pc [.ref (am 68), .int a1, .int a2] (prW D (tyM cI cJ cZ) (wM cI cJ cZ am t) sz)) (qJ r D (tyM cI cJ cZ) (wM cI cJ cZ am t') (va_A (wM cI cJ cZ am t) sz)) 0 0 (va_A (wM cI cJ cZ am t) sz) := by
  refine Met.ofW (cc := cX12_wordOf) (maxL := 10) (ret := (some .long)) (by decide) rfl ?_
  intro p e s m args below meth c s₁ B hml hv
  obtain ⟨rfl, hsz, hP, hK, hD0⟩ := hv
  have hx := B.exec
  have hb := B.bytes
  have hts := atoms_spec (ws := (.code yX12_wordOf cX12_wordOf 10 (some .long) :: wsAll)) B.pre
  have hta := fun w h => hts w (List.mem_cons_of_mem _ h)
  have hown : s.vm.findClass RX12 = some m.cls := findClass_of_methodNamed B.named
  have hlocks := B.notSynchronized
  subst hsz
  have hD := hD0.self (sz := s.heap.size)
  generalize hAe : va_A (wM cI cJ cZ am t) s.heap.size = A at hD ⊢
  have hA : ∀ q : Nat, s.heap.size ≤ q → A q := fun q h => by rw [← hAe]; exact Or.inr h
  have C0 : cx p s m ([.ref (am 68), .int a1, .int a2].toArray) meth c cX12_wordOf RX12 10 (some .long) D (tyM cI cJ cZ) A := ⟨hx, hb, B.returns, hml, hown, hta, hlocks, hK, hA⟩
  have hW : wl D A s (wM cI cJ cZ am t) s.heap [] := ⟨hP, hD, va_S.rf⟩
  have hl := lv_entry [.ref (am 68), .int a1, .int a2] (n := 10) (Nat.le_of_ble_eq_true rfl)
  rw [lg_entry_eq]
  generalize (lg_sl [.ref (am 68), .int a1, .int a2] ++ List.replicate (10 - (lg_sl [.ref (am 68), .int a1, .int a2]).length) Slot.unset).toArray = ls at hl ⊢
  have hl : lv_has ls 10 [(0, .ref (am 68)), (1, .int a1), (2, .int a2)] := hl
  clear hAe hD hP hD0 hts
  have J164 : ∀ (t : St) (v1 : Int32) (v2 : Int32) (v3 : Int32) (v4 : Int32) (w0 : Int64) (_ : m_wordOf_J164 t v1 v2 v3 v4 w0 = some (r, t')) (H : Heap) (locs : List Loc) (ls : Array Slot), wl D A s (wM cI cJ cZ am t) H locs → lv_has ls 10 [(0, .ref (am 68)), (1, .int v1), (2, .int v2), (3, .int v3), (4, .int v4)] → W p l e (rmN 0 0) s m ([.ref (am 68), .int a1, .int a2].toArray) below meth c H locs 0 0 (MQ below (qJ r D (tyM cI cJ cZ) (wM cI cJ cZ am t') A) ([.ref (am 68), .int a1, .int a2].toArray) s 0 0 A) (F0 m 164 ls [.long w0]) := by
    intro t v1 v2 v3 v4 w0 ho H locs ls hW hl
    unfold m_wordOf_J164 at ho
    refine lv_lstore (lv' := [(5, .long w0), (0, .ref (am 68)), (1, .int v1), (2, .int v2), (3, .int v3), (4, .int v4)]) hx hb dX12_wordOf_164 hl (by decide) rfl (fun ls hl => ?_)
    refine lv_iload_n hx hb dX12_wordOf_166 rfl (lv_at hl 4 rfl) ?_
    refine lv_istore (lv' := [(7, .int v3), (5, .long w0), (0, .ref (am 68)), (1, .int v1), (2, .int v2), (3, .int v3), (4, .int v4)]) hx hb dX12_wordOf_167 hl (by decide) rfl (fun ls hl => ?_)
    obtain ⟨y30, hc32, ho⟩ := bd_some ho
    obtain ⟨ny30, hc32⟩ := lp_to hc32
    refine m_wordOf_L169 C0 ?_ ny30 _ _ hc32 _ _ _ hW (lv_sub hl [2, 3, 4, 6, 1, 0] rfl)
    intro H locs ls hW hl
    refine lv_lload hx hb dX12_wordOf_227 (lv_at hl 1 rfl) ?_
    cases ho
    exact rtJ C0 hW dX12_wordOf_229
  unfold m_wordOf at ho
  refine lv_aload_n hx hb dX12_wordOf_0 rfl (lv_at hl 0 rfl) ?_
  refine mGET_11 C0 hW dX12_wordOf_1 ?_
  refine lv_iload_n hx hb dX12_wordOf_4 rfl (lv_at hl 1 rfl) ?_
  obtain ⟨g33, ho⟩ := gd_some ho
  refine mLD_11 C0 hW g33 dX12_wordOf_5 ?_
  refine lv_nmi ho (fun x34 ho => ?_)
  refine lv_istore_n (lv' := [(3, .int x34), (0, .ref (am 68)), (1, .int a1), (2, .int a2)]) hx hb dX12_wordOf_6 rfl hl (by decide) rfl (fun ls hl => ?_)
  refine lv_iload_n hx hb dX12_wordOf_7 rfl (lv_at hl 0 rfl) ?_
  refine lv_aload_n hx hb dX12_wordOf_8 rfl (lv_at hl 1 rfl) ?_
  refine mGET_12 C0 hW dX12_wordOf_9 ?_
  refine lv_iload_n hx hb dX12_wordOf_12 rfl (lv_at hl 2 rfl) ?_
  obtain ⟨g35, ho⟩ := gd_some ho
  refine mLD_12 C0 hW g35 dX12_wordOf_13 ?_
  refine lv_iadd hx hb dX12_wordOf_14 ?_
  refine lv_nmi ho (fun x36 ho => ?_)
  refine lv_istore (lv' := [(4, .int x36), (3, .int x34), (0, .ref (am 68)), (1, .int a1), (2, .int a2)]) hx hb dX12_wordOf_15 hl (by decide) rfl (fun ls hl => ?_)
  refine lv_aload_n hx hb dX12_wordOf_17 rfl (lv_at hl 2 rfl) ?_
  refine mGET_8 C0 hW dX12_wordOf_18 ?_
  refine lv_iload_n hx hb dX12_wordOf_21 rfl (lv_at hl 3 rfl) ?_
  obtain ⟨g37, ho⟩ := gd_some ho
  refine mLD_8 C0 hW g37 dX12_wordOf_22 ?_
  refine lv_iconst (v := (4 : Int32)) hx hb dX12_wordOf_23 (by decide) ?_
  refine lv_icmp_ne (tgt := 147) hx hb dX12_wordOf_24 (by decide) (fun c38 => ?_) (fun c38 => ?_)
  · replace ho := ite_f c38 ho
    refine lv_aload_n hx hb dX12_wordOf_147 rfl (lv_at hl 2 rfl) ?_
    refine mGET_8 C0 hW dX12_wordOf_148 ?_
    refine lv_iload_n hx hb dX12_wordOf_151 rfl (lv_at hl 3 rfl) ?_
    obtain ⟨g39, ho⟩ := gd_some ho
    refine mLD_8 C0 hW g39 dX12_wordOf_152 ?_
    refine lv_iconst (v := (1 : Int32)) hx hb dX12_wordOf_153 (by decide) ?_
    refine lv_icmp_ne (tgt := 161) hx hb dX12_wordOf_154 (by decide) (fun c40 => ?_) (fun c40 => ?_)
    · replace ho := ite_f c40 ho
      refine lv_ldc2 hx hb hown (hta _ kw_1807) dX12_wordOf_161 ?_
      exact J164 _ _ _ _ _ _ ho _ _ _ hW (lv_sub hl [2, 3, 4, 1, 0] rfl)
    · replace ho := ite_t c40 ho
      refine lv_lconst (v := (0 : Int64)) hx hb dX12_wordOf_157 (by decide) ?_
      refine lv_goto (tgt := 164) hx hb dX12_wordOf_158 (by decide) ?_
      exact J164 _ _ _ _ _ _ ho _ _ _ hW (lv_sub hl [2, 3, 4, 1, 0] rfl)
  · replace ho := ite_t c38 ho
    refine lv_iconst (v := (0 : Int32)) hx hb dX12_wordOf_27 (by decide) ?_
    refine lv_istore (lv' := [(5, .int (0 : Int32)), (4, .int x36), (3, .int x34), (0, .ref (am 68)), (1, .int a1), (2, .int a2)]) hx hb dX12_wordOf_28 hl (by decide) rfl (fun ls hl => ?_)
    obtain ⟨y41, hc43, ho⟩ := bd_some ho
    obtain ⟨ny41, hc43⟩ := lp_to hc43
    refine m_wordOf_L30 C0 ?_ ny41 _ _ hc43 _ _ _ hW (lv_sub hl [3, 4, 5, 2, 1, 0] rfl)
    intro H locs ls hW hl
    refine lv_iload_n hx hb dX12_wordOf_62 rfl (lv_at hl 3 rfl) ?_
    refine lv_istore (lv' := [(5, .int x34), (0, .ref (am 68)), (1, .int a1), (2, .int a2), (3, .int x34), (4, .int x36)]) hx hb dX12_wordOf_63 hl (by decide) rfl (fun ls hl => ?_)
    obtain ⟨y44, hc46, ho⟩ := bd_some ho
    obtain ⟨ny44, hc46⟩ := lp_to hc46
    refine m_wordOf_L65 C0 ?_ ny44 _ _ hc46 _ _ _ hW (lv_sub hl [1, 2, 3, 5, 0] rfl)
    intro H locs ls hW hl
    refine lv_aload_n hx hb dX12_wordOf_135 rfl (lv_at hl 0 rfl) ?_
    refine mGET_27 C0 hW dX12_wordOf_136 ?_
    refine lv_aload_n hx hb dX12_wordOf_139 rfl (lv_at hl 0 rfl) ?_
    refine mGET_9 C0 hW dX12_wordOf_140 ?_
    refine lv_iload_n hx hb dX12_wordOf_143 rfl (lv_at hl 1 rfl) ?_
    obtain ⟨g47, ho⟩ := gd_some ho
    refine mLD_9 C0 hW g47 dX12_wordOf_144 ?_
    obtain ⟨g48, ho⟩ := gd_some ho
    refine mLD_27 C0 hW g48 dX12_wordOf_145 ?_
    cases ho
    exact rtJ C0 hW dX12_wordOf_146
noncomputable def m_lays_J120 (t : St) (v1 : Int32) (v2 : Int64) (v4 : Int32) (w1 : Int32) (w2 : Int64) : Option ((Int32 × St) ⊕ (St)) :=
  gd w1 256000 (nm (sB t 17 w1 w2) (fun t2 : St => nm (v4 + (1 : Int32)) (fun x3 : Int32 => some (.inl (x3, t2)))))
noncomputable def m_lays_B44 (v1 : Int32) (v2 : Int64) (v4 : Int32) (t : St) : Option ((Int32 × St) ⊕ (St)) :=
  if (1024 : Int32) ≤ v4 then (some (.inr t)) else (gd v1 400 (if (gA t 8 (v1).toNatClampNeg) = 0 then (gd v1 400 (if (6 : Int32) ≤ (gA t 10 (v1).toNatClampNeg) then (gd v1 400 ((m_isIn t v4 (0 : Int32) (gA t 10 (v1).toNatClampNeg)).bind (fun q12 => if q12 = 0 then (m_lays_J120 t v1 v2 v4 (((1024 : Int32) * v1) + v4) (0 : Int64)) else (m_lays_J120 t v1 v2 v4 (((1024 : Int32) * v1) + v4) (-1 : Int64))))) else (m_lays_J120 t v1 v2 v4 (((1024 : Int32) * v1) + v4) v2))) else ((m_wordOf t v1 v4).bind (fun q7 => m_lays_J120 q7.2 v1 v2 v4 (((1024 : Int32) * v1) + v4) q7.1))))
noncomputable def m_lays_J40 (t : St) (v1 : Int32) (w0 : Int64) : Option (St) :=
  (lp (fun x => m_lays_B44 v1 w0 x.1 x.2) ((0 : Int32), t)).bind (fun y16 => some y16)
noncomputable def m_lays_J39 (t : St) (v1 : Int32) : Option (St) :=
  m_lays_J40 t v1 (0 : Int64)
noncomputable def m_lays (t : St) (a1 : Int32) : Option (St) :=
  gd a1 250 (nm (sA t 18 a1 (-1 : Int32)) (fun t20 : St => gd a1 400 (if (gA t20 8 (a1).toNatClampNeg) = 0 then (gd a1 400 (if (6 : Int32) ≤ (gA t20 10 (a1).toNatClampNeg) then (m_lays_J39 t20 a1) else (gd a1 400 ((m_patternOf t20 (gA t20 10 (a1).toNatClampNeg)).bind (fun q26 => m_lays_J40 t20 a1 q26))))) else (m_lays_J39 t20 a1))))
set_option maxHeartbeats 4000000 in
set_option maxRecDepth 100000 in
theorem m_lays_L44 {p : Program} {l : Launch} {e : Env} {s : State} {m : MethodId} {args : Array Value} {below : List Frame} {meth : Method} {c : Code} {Q : State → Prop} {D : va_G} {cI cJ cZ : ClassId} {am : Nat → Nat} {A : Nat → Prop} (C0 : cx p s m args meth c cX12_lays RX12 5 none D (tyM cI cJ cZ) A) {v1 : Int32} {v2 : Int64} {y : St} (hK0 : ∀ (H : Heap) (locs : List Loc) (ls : Array Slot), wl D A s (wM cI cJ cZ am y) H locs → lv_has ls 5 [(0, .ref (am 68))] → W p l e (rmN 1 29) s m args below meth c H locs 0 0 Q (F0 m 127 ls [])) :
    ∀ (n : Nat) (v4 : Int32) (t : St), lpn (fun x => m_lays_B44 v1 v2 x.1 x.2) n (v4, t) = some y → ∀ (H : Heap) (locs : List Loc) (ls : Array Slot), wl D A s (wM cI cJ cZ am t) H locs → lv_has ls 5 [(0, .ref (am 68)), (1, .int v1), (2, .long v2), (4, .int v4)] → W p l e (rmN 1 29) s m args below meth c H locs 0 0 Q (F0 m 44 ls []) := by
  have hx := C0.1
  have hb := C0.2.1
  have hta := C0.2.2.2.2.2.1
  have hown := C0.2.2.2.2.1
  intro n
  induction n with
  | zero => intro _ _ h; cases h
  | succ n ih =>
    intro v4 t hrun H locs ls hW hl
    obtain ⟨o, ho, hrun⟩ := bd_some hrun
    have J120 : ∀ (t : St) (v4 : Int32) (w1 : Int32) (w2 : Int64) (_ : m_lays_J120 t v1 v2 v4 w1 w2 = some o) (H : Heap) (locs : List Loc) (ls : Array Slot), wl D A s (wM cI cJ cZ am t) H locs → lv_has ls 5 [(0, .ref (am 68)), (1, .int v1), (2, .long v2), (4, .int v4)] → W p l e (rmN 1 29) s m args below meth c H locs 0 0 Q (F0 m 120 ls [.long w2, .int w1, .ref (am 17)]) := by
      intro t v4 w1 w2 ho H locs ls hW hl
      unfold m_lays_J120 at ho
      obtain ⟨g1, ho⟩ := gd_some ho
      refine mST_17 C0 hW g1 dX12_lays_120 (fun H locs hW => ?_)
      obtain ⟨t2, ho, hW⟩ := nm_w (P := fun t => wl D A s (wM cI cJ cZ am t) H locs) ho hW
      obtain ⟨x3, ex3, ho⟩ := nm_x ho
      refine lv_iinc (v := x3) (lv' := [(4, .int x3), (0, .ref (am 68)), (1, .int v1), (2, .long v2)]) hx hb dX12_lays_121 hl (k := 3) rfl (by rw [ex3]; rfl) (by decide) rfl (fun ls hl => ?_)
      clear ex3
      refine lv_goto (tgt := 44) hx hb dX12_lays_124 (by decide) ?_
      cases ho
      exact ih _ _ hrun _ _ _ hW (lv_sub hl [1, 2, 3, 0] rfl)
    unfold m_lays_B44 at ho
    refine lv_iload hx hb dX12_lays_44 (lv_at hl 3 rfl) ?_
    refine lv_sipush (v := (1024 : Int32)) hx hb dX12_lays_46 (by decide) ?_
    refine lv_icmp_ge (tgt := 127) hx hb dX12_lays_49 (by decide) (fun c4 => ?_) (fun c4 => ?_)
    · replace ho := ite_t c4 ho
      cases ho
      cases hrun
      exact hK0 _ _ _ hW (lv_sub hl [0] rfl)
    · replace ho := ite_f c4 ho
      refine lv_aload_n hx hb dX12_lays_52 rfl (lv_at hl 0 rfl) ?_
      refine mGET_17 C0 hW dX12_lays_53 ?_
      refine lv_sipush (v := (1024 : Int32)) hx hb dX12_lays_56 (by decide) ?_
      refine lv_iload_n hx hb dX12_lays_59 rfl (lv_at hl 1 rfl) ?_
      refine lv_imul hx hb dX12_lays_60 ?_
      refine lv_iload hx hb dX12_lays_61 (lv_at hl 3 rfl) ?_
      refine lv_iadd hx hb dX12_lays_63 ?_
      refine lv_aload_n hx hb dX12_lays_64 rfl (lv_at hl 0 rfl) ?_
      refine mGET_8 C0 hW dX12_lays_65 ?_
      refine lv_iload_n hx hb dX12_lays_68 rfl (lv_at hl 1 rfl) ?_
      obtain ⟨g5, ho⟩ := gd_some ho
      refine mLD_8 C0 hW g5 dX12_lays_69 ?_
      refine lv_if_ne (tgt := 113) hx hb dX12_lays_70 (by decide) (fun c6 => ?_) (fun c6 => ?_)
      · replace ho := ite_f c6 ho
        refine lv_aload_n hx hb dX12_lays_113 rfl (lv_at hl 0 rfl) ?_
        refine lv_iload_n hx hb dX12_lays_114 rfl (lv_at hl 1 rfl) ?_
        refine lv_iload hx hb dX12_lays_115 (lv_at hl 3 rfl) ?_
        obtain ⟨q7, hc8, ho⟩ := bd_some ho
        refine bkJ C0 hW (runV (As := [.int v1, .int v4]) (rest := [.int (((1024 : Int32) * v1) + v4), .ref (am 17)]) C0 hW (c_m_wordOf l _ t v1 v4 (r := q7.1) (t' := q7.2) hc8) ca_X12_wordOf_267 0 12 rfl rfl rfl rfl rfl ⟨rfl, rfl⟩ ⟨Nat.le_of_ble_eq_true rfl, Nat.le_of_ble_eq_true rfl⟩ (Nat.le_of_ble_eq_true rfl) hl.1 dX12_lays_117 ⟨Nat.le_of_ble_eq_true rfl, Nat.le_of_ble_eq_true rfl⟩) (fun H locs hW => ?_)
        exact J120 _ _ _ _ ho _ _ _ hW (lv_sub hl [0, 1, 2, 3] rfl)
      · replace ho := ite_t c6 ho
        refine lv_aload_n hx hb dX12_lays_73 rfl (lv_at hl 0 rfl) ?_
        refine mGET_10 C0 hW dX12_lays_74 ?_
        refine lv_iload_n hx hb dX12_lays_77 rfl (lv_at hl 1 rfl) ?_
        obtain ⟨g9, ho⟩ := gd_some ho
        refine mLD_10 C0 hW g9 dX12_lays_78 ?_
        refine lv_bipush (v := (6 : Int32)) hx hb dX12_lays_79 (by decide) ?_
        refine lv_icmp_ge (tgt := 88) hx hb dX12_lays_81 (by decide) (fun c10 => ?_) (fun c10 => ?_)
        · replace ho := ite_t c10 ho
          refine lv_iload hx hb dX12_lays_88 (lv_at hl 3 rfl) ?_
          refine lv_iconst (v := (0 : Int32)) hx hb dX12_lays_90 (by decide) ?_
          refine lv_aload_n hx hb dX12_lays_91 rfl (lv_at hl 0 rfl) ?_
          refine mGET_10 C0 hW dX12_lays_92 ?_
          refine lv_iload_n hx hb dX12_lays_95 rfl (lv_at hl 1 rfl) ?_
          obtain ⟨g11, ho⟩ := gd_some ho
          refine mLD_10 C0 hW g11 dX12_lays_96 ?_
          obtain ⟨q12, hc13, ho⟩ := bd_some ho
          refine bkZ C0 hW (runS (As := [.int v4, .int (0 : Int32), .int (gA t 10 (v1).toNatClampNeg)]) (rest := [.int (((1024 : Int32) * v1) + v4), .ref (am 17)]) C0 hW (c_m_isIn l _ t v4 (0 : Int32) (gA t 10 (v1).toNatClampNeg) (r := q12) hc13) ca_X12_isIn_262 rfl rfl ⟨rfl, rfl⟩ ⟨Nat.le_of_ble_eq_true rfl, Nat.le_of_ble_eq_true rfl⟩ (Nat.le_of_ble_eq_true rfl) hl.1 dX12_lays_97 ⟨Nat.le_of_ble_eq_true rfl, Nat.le_of_ble_eq_true rfl⟩) (fun z14 H locs hW => ?_)
          refine lv_if_eq (tgt := 109) hx hb dX12_lays_100 (by decide) (fun c15 => ?_) (fun c15 => ?_)
          · replace ho := ite_t c15 ho
            refine lv_lconst (v := (0 : Int64)) hx hb dX12_lays_109 (by decide) ?_
            refine lv_goto (tgt := 120) hx hb dX12_lays_110 (by decide) ?_
            exact J120 _ _ _ _ ho _ _ _ hW (lv_sub hl [0, 1, 2, 3] rfl)
          · replace ho := ite_f c15 ho
            refine lv_ldc2 hx hb hown (hta _ kw_1807) dX12_lays_103 ?_
            refine lv_goto (tgt := 120) hx hb dX12_lays_106 (by decide) ?_
            exact J120 _ _ _ _ ho _ _ _ hW (lv_sub hl [0, 1, 2, 3] rfl)
        · replace ho := ite_f c10 ho
          refine lv_lload_n hx hb dX12_lays_84 rfl (lv_at hl 2 rfl) ?_
          refine lv_goto (tgt := 120) hx hb dX12_lays_85 (by decide) ?_
          exact J120 _ _ _ _ ho _ _ _ hW (lv_sub hl [0, 1, 2, 3] rfl)
set_option maxHeartbeats 4000000 in
set_option maxRecDepth 100000 in
theorem c_m_lays (l : Launch) {D : va_G} {cI cJ cZ : ClassId} {am : Nat → Nat} (sz : Nat) (t : St) (a1 : Int32) {t' : St} (ho : m_lays t a1 = some t') : Met l yX12_lays (.code yX12_lays cX12_lays 5 none :: wsAll) (rmN 1 29) (va_Pc [.ref (am 68), .int a1] (prW D (tyM cI cJ cZ) (wM cI cJ cZ am t) sz)) (qV D (tyM cI cJ cZ) (wM cI cJ cZ am t') (va_A (wM cI cJ cZ am t) sz)) 0 0 (va_A (wM cI cJ cZ am t) sz) := by
  refine Met.ofW (cc := cX12_lays) (maxL := 5) (ret := none) (by decide) rfl ?_
  intro p e s m args below meth c s₁ B hml hv
  obtain ⟨rfl, hsz, hP, hK, hD0⟩ := hv
  have hx := B.exec
  have hb := B.bytes
  have hts := atoms_spec (ws := (.code yX12_lays cX12_lays 5 none :: wsAll)) B.pre
  have hta := fun w h => hts w (List.mem_cons_of_mem _ h)
  have hown : s.vm.findClass RX12 = some m.cls := findClass_of_methodNamed B.named
  have hlocks := B.notSynchronized
  subst hsz
  have hD := hD0.self (sz := s.heap.size)
  generalize hAe : va_A (wM cI cJ cZ am t) s.heap.size = A at hD ⊢
  have hA : ∀ q : Nat, s.heap.size ≤ q → A q := fun q h => by rw [← hAe]; exact Or.inr h
  have C0 : cx p s m ([.ref (am 68), .int a1].toArray) meth c cX12_lays RX12 5 none D (tyM cI cJ cZ) A := ⟨hx, hb, B.returns, hml, hown, hta, hlocks, hK, hA⟩
  have hW : wl D A s (wM cI cJ cZ am t) s.heap [] := ⟨hP, hD, va_S.rf⟩
  have hl := lv_entry [.ref (am 68), .int a1] (n := 5) (Nat.le_of_ble_eq_true rfl)
  rw [lg_entry_eq]
  generalize (lg_sl [.ref (am 68), .int a1] ++ List.replicate (5 - (lg_sl [.ref (am 68), .int a1]).length) Slot.unset).toArray = ls at hl ⊢
  have hl : lv_has ls 5 [(0, .ref (am 68)), (1, .int a1)] := hl
  clear hAe hD hP hD0 hts
  have J40 : ∀ (t : St) (v1 : Int32) (w0 : Int64) (_ : m_lays_J40 t v1 w0 = some t') (H : Heap) (locs : List Loc) (ls : Array Slot), wl D A s (wM cI cJ cZ am t) H locs → lv_has ls 5 [(0, .ref (am 68)), (1, .int v1)] → W p l e (rmN 1 29) s m ([.ref (am 68), .int a1].toArray) below meth c H locs 0 0 (MQ below (qV D (tyM cI cJ cZ) (wM cI cJ cZ am t') A) ([.ref (am 68), .int a1].toArray) s 0 0 A) (F0 m 40 ls [.long w0]) := by
    intro t v1 w0 ho H locs ls hW hl
    unfold m_lays_J40 at ho
    refine lv_lstore_n (lv' := [(2, .long w0), (0, .ref (am 68)), (1, .int v1)]) hx hb dX12_lays_40 rfl hl (by decide) rfl (fun ls hl => ?_)
    refine lv_iconst (v := (0 : Int32)) hx hb dX12_lays_41 (by decide) ?_
    refine lv_istore (lv' := [(4, .int (0 : Int32)), (2, .long w0), (0, .ref (am 68)), (1, .int v1)]) hx hb dX12_lays_42 hl (by decide) rfl (fun ls hl => ?_)
    obtain ⟨y16, hc18, ho⟩ := bd_some ho
    obtain ⟨ny16, hc18⟩ := lp_to hc18
    refine m_lays_L44 C0 ?_ ny16 _ _ hc18 _ _ _ hW (lv_sub hl [2, 3, 1, 0] rfl)
    intro H locs ls hW hl
    cases ho
    exact rtV C0 hW dX12_lays_127
  have J39 : ∀ (t : St) (v1 : Int32) (_ : m_lays_J39 t v1 = some t') (H : Heap) (locs : List Loc) (ls : Array Slot), wl D A s (wM cI cJ cZ am t) H locs → lv_has ls 5 [(0, .ref (am 68)), (1, .int v1)] → W p l e (rmN 1 29) s m ([.ref (am 68), .int a1].toArray) below meth c H locs 0 0 (MQ below (qV D (tyM cI cJ cZ) (wM cI cJ cZ am t') A) ([.ref (am 68), .int a1].toArray) s 0 0 A) (F0 m 39 ls []) := by
    intro t v1 ho H locs ls hW hl
    unfold m_lays_J39 at ho
    refine lv_lconst (v := (0 : Int64)) hx hb dX12_lays_39 (by decide) ?_
    exact J40 _ _ _ ho _ _ _ hW (lv_sub hl [0, 1] rfl)
  unfold m_lays at ho
  refine lv_aload_n hx hb dX12_lays_0 rfl (lv_at hl 0 rfl) ?_
  refine mGET_18 C0 hW dX12_lays_1 ?_
  refine lv_iload_n hx hb dX12_lays_4 rfl (lv_at hl 1 rfl) ?_
  refine lv_iconst (v := (-1 : Int32)) hx hb dX12_lays_5 (by decide) ?_
  obtain ⟨g19, ho⟩ := gd_some ho
  refine mST_18 C0 hW g19 dX12_lays_6 (fun H locs hW => ?_)
  obtain ⟨t20, ho, hW⟩ := nm_w (P := fun t => wl D A s (wM cI cJ cZ am t) H locs) ho hW
  refine lv_aload_n hx hb dX12_lays_7 rfl (lv_at hl 0 rfl) ?_
  refine mGET_8 C0 hW dX12_lays_8 ?_
  refine lv_iload_n hx hb dX12_lays_11 rfl (lv_at hl 1 rfl) ?_
  obtain ⟨g21, ho⟩ := gd_some ho
  refine mLD_8 C0 hW g21 dX12_lays_12 ?_
  refine lv_if_ne (tgt := 39) hx hb dX12_lays_13 (by decide) (fun c22 => ?_) (fun c22 => ?_)
  · replace ho := ite_f c22 ho
    exact J39 _ _ ho _ _ _ hW (lv_sub hl [0, 1] rfl)
  · replace ho := ite_t c22 ho
    refine lv_aload_n hx hb dX12_lays_16 rfl (lv_at hl 0 rfl) ?_
    refine mGET_10 C0 hW dX12_lays_17 ?_
    refine lv_iload_n hx hb dX12_lays_20 rfl (lv_at hl 1 rfl) ?_
    obtain ⟨g23, ho⟩ := gd_some ho
    refine mLD_10 C0 hW g23 dX12_lays_21 ?_
    refine lv_bipush (v := (6 : Int32)) hx hb dX12_lays_22 (by decide) ?_
    refine lv_icmp_ge (tgt := 39) hx hb dX12_lays_24 (by decide) (fun c24 => ?_) (fun c24 => ?_)
    · replace ho := ite_t c24 ho
      exact J39 _ _ ho _ _ _ hW (lv_sub hl [0, 1] rfl)
    · replace ho := ite_f c24 ho
      refine lv_aload_n hx hb dX12_lays_27 rfl (lv_at hl 0 rfl) ?_
      refine mGET_10 C0 hW dX12_lays_28 ?_
      refine lv_iload_n hx hb dX12_lays_31 rfl (lv_at hl 1 rfl) ?_
      obtain ⟨g25, ho⟩ := gd_some ho
      refine mLD_10 C0 hW g25 dX12_lays_32 ?_
      obtain ⟨q26, hc27, ho⟩ := bd_some ho
      refine bkJ C0 hW (runS (As := [.int (gA t20 10 (a1).toNatClampNeg)]) (rest := []) C0 hW (c_m_patternOf l _ t20 (gA t20 10 (a1).toNatClampNeg) (r := q26) hc27) ca_X12_patternOf_258 rfl rfl ⟨rfl, rfl⟩ ⟨Nat.le_of_ble_eq_true rfl, Nat.le_of_ble_eq_true rfl⟩ (Nat.le_of_ble_eq_true rfl) hl.1 dX12_lays_33 ⟨Nat.le_of_ble_eq_true rfl, Nat.le_of_ble_eq_true rfl⟩) (fun H locs hW => ?_)
      refine lv_goto (tgt := 40) hx hb dX12_lays_36 (by decide) ?_
      exact J40 _ _ _ ho _ _ _ hW (lv_sub hl [0, 1] rfl)
noncomputable def m_make_B55 (v1 : Int32) (v5 : Int32) (t : St) : Option ((Int32 × St) ⊕ (St)) :=
  if (gI t 7) ≤ v5 then (some (.inr t)) else ((m_lays t v5).bind (fun q2 => nm (v5 + (1 : Int32)) (fun x4 : Int32 => some (.inl (x4, q2)))))
noncomputable def m_make (t : St) (a1 : Int32) : Option (Int32 × St) :=
  (m_isNet t a1).bind (fun q5 => if q5 = 0 then (some ((-2 : Int32), t)) else (nm (gI t 7) (fun x9 : Int32 => nm (gI t 13) (fun x10 : Int32 => (m_reads t).bind (fun q11 => if q11.1 = 0 then ((lp (fun x => m_make_B55 a1 x.1 x.2) (x9, q11.2)).bind (fun y14 => gd a1 10 (nm (sA y14 16 a1 (gI y14 26)) (fun t18 : St => some ((0 : Int32), t18))))) else (nm (sI q11.2 7 x9) (fun t19 : St => nm (sI t19 13 x10) (fun t20 : St => some ((((10 : Int32) * (gI t20 25)) + q11.1), t20)))))))))
set_option maxHeartbeats 4000000 in
set_option maxRecDepth 100000 in
theorem m_make_L55 {p : Program} {l : Launch} {e : Env} {s : State} {m : MethodId} {args : Array Value} {below : List Frame} {meth : Method} {c : Code} {Q : State → Prop} {D : va_G} {cI cJ cZ : ClassId} {am : Nat → Nat} {A : Nat → Prop} (C0 : cx p s m args meth c cX12_make RX12 6 (some .int) D (tyM cI cJ cZ) A) {v1 : Int32} {y : St} (hK0 : ∀ (H : Heap) (locs : List Loc) (ls : Array Slot), wl D A s (wM cI cJ cZ am y) H locs → lv_has ls 6 [(0, .ref (am 68)), (1, .int v1)] → W p l e (rmN 7 153) s m args below meth c H locs 0 0 Q (F0 m 76 ls [])) :
    ∀ (n : Nat) (v5 : Int32) (t : St), lpn (fun x => m_make_B55 v1 x.1 x.2) n (v5, t) = some y → ∀ (H : Heap) (locs : List Loc) (ls : Array Slot), wl D A s (wM cI cJ cZ am t) H locs → lv_has ls 6 [(0, .ref (am 68)), (1, .int v1), (5, .int v5)] → W p l e (rmN 7 153) s m args below meth c H locs 0 0 Q (F0 m 55 ls []) := by
  have hx := C0.1
  have hb := C0.2.1
  have hta := C0.2.2.2.2.2.1
  have hown := C0.2.2.2.2.1
  intro n
  induction n with
  | zero => intro _ _ h; cases h
  | succ n ih =>
    intro v5 t hrun H locs ls hW hl
    obtain ⟨o, ho, hrun⟩ := bd_some hrun
    unfold m_make_B55 at ho
    refine lv_iload hx hb dX12_make_55 (lv_at hl 2 rfl) ?_
    refine lv_aload_n hx hb dX12_make_57 rfl (lv_at hl 0 rfl) ?_
    refine mGET_7 C0 hW dX12_make_58 ?_
    refine lv_icmp_ge (tgt := 76) hx hb dX12_make_61 (by decide) (fun c1 => ?_) (fun c1 => ?_)
    · replace ho := ite_t c1 ho
      cases ho
      cases hrun
      exact hK0 _ _ _ hW (lv_sub hl [0, 1] rfl)
    · replace ho := ite_f c1 ho
      refine lv_aload_n hx hb dX12_make_64 rfl (lv_at hl 0 rfl) ?_
      refine lv_iload hx hb dX12_make_65 (lv_at hl 2 rfl) ?_
      obtain ⟨q2, hc3, ho⟩ := bd_some ho
      refine bkV C0 hW (runV (As := [.int v5]) (rest := []) C0 hW (c_m_lays l _ t v5 (t' := q2) hc3) ca_X12_lays_255 0 12 rfl rfl rfl rfl rfl ⟨rfl, rfl⟩ ⟨Nat.le_of_ble_eq_true rfl, Nat.le_of_ble_eq_true rfl⟩ (Nat.le_of_ble_eq_true rfl) hl.1 dX12_make_67 ⟨Nat.le_of_ble_eq_true rfl, Nat.le_of_ble_eq_true rfl⟩) (fun H locs hW => ?_)
      obtain ⟨x4, ex4, ho⟩ := nm_x ho
      refine lv_iinc (v := x4) (lv' := [(5, .int x4), (0, .ref (am 68)), (1, .int v1)]) hx hb dX12_make_70 hl (k := 2) rfl (by rw [ex4]; rfl) (by decide) rfl (fun ls hl => ?_)
      clear ex4
      refine lv_goto (tgt := 55) hx hb dX12_make_73 (by decide) ?_
      cases ho
      exact ih _ _ hrun _ _ _ hW (lv_sub hl [1, 2, 0] rfl)
set_option maxHeartbeats 4000000 in
set_option maxRecDepth 100000 in
theorem c_m_make (l : Launch) {D : va_G} {cI cJ cZ : ClassId} {am : Nat → Nat} (sz : Nat) (t : St) (a1 : Int32) {r : Int32} {t' : St} (ho : m_make t a1 = some (r, t')) : Met l yX12_make (.code yX12_make cX12_make 6 (some .int) :: wsAll) (rmN 7 153) (va_Pc [.ref (am 68), .int a1] (prW D (tyM cI cJ cZ) (wM cI cJ cZ am t) sz)) (qI r D (tyM cI cJ cZ) (wM cI cJ cZ am t') (va_A (wM cI cJ cZ am t) sz)) 0 0 (va_A (wM cI cJ cZ am t) sz) := by
  refine Met.ofW (cc := cX12_make) (maxL := 6) (ret := (some .int)) (by decide) rfl ?_
  intro p e s m args below meth c s₁ B hml hv
  obtain ⟨rfl, hsz, hP, hK, hD0⟩ := hv
  have hx := B.exec
  have hb := B.bytes
  have hts := atoms_spec (ws := (.code yX12_make cX12_make 6 (some .int) :: wsAll)) B.pre
  have hta := fun w h => hts w (List.mem_cons_of_mem _ h)
  have hown : s.vm.findClass RX12 = some m.cls := findClass_of_methodNamed B.named
  have hlocks := B.notSynchronized
  subst hsz
  have hD := hD0.self (sz := s.heap.size)
  generalize hAe : va_A (wM cI cJ cZ am t) s.heap.size = A at hD ⊢
  have hA : ∀ q : Nat, s.heap.size ≤ q → A q := fun q h => by rw [← hAe]; exact Or.inr h
  have C0 : cx p s m ([.ref (am 68), .int a1].toArray) meth c cX12_make RX12 6 (some .int) D (tyM cI cJ cZ) A := ⟨hx, hb, B.returns, hml, hown, hta, hlocks, hK, hA⟩
  have hW : wl D A s (wM cI cJ cZ am t) s.heap [] := ⟨hP, hD, va_S.rf⟩
  have hl := lv_entry [.ref (am 68), .int a1] (n := 6) (Nat.le_of_ble_eq_true rfl)
  rw [lg_entry_eq]
  generalize (lg_sl [.ref (am 68), .int a1] ++ List.replicate (6 - (lg_sl [.ref (am 68), .int a1]).length) Slot.unset).toArray = ls at hl ⊢
  have hl : lv_has ls 6 [(0, .ref (am 68)), (1, .int a1)] := hl
  unfold m_make at ho
  refine lv_iload_n hx hb dX12_make_0 rfl (lv_at hl 1 rfl) ?_
  obtain ⟨q5, hc6, ho⟩ := bd_some ho
  refine bkZ C0 hW (runS (As := [.int a1]) (rest := []) C0 hW (c_m_isNet l _ t a1 (r := q5) hc6) ca_X12_isNet_249 rfl rfl ⟨rfl, rfl⟩ ⟨Nat.le_of_ble_eq_true rfl, Nat.le_of_ble_eq_true rfl⟩ (Nat.le_of_ble_eq_true rfl) hl.1 dX12_make_1 ⟨Nat.le_of_ble_eq_true rfl, Nat.le_of_ble_eq_true rfl⟩) (fun z7 H locs hW => ?_)
  refine lv_if_ne (tgt := 10) hx hb dX12_make_4 (by decide) (fun c8 => ?_) (fun c8 => ?_)
  · replace ho := ite_f c8 ho
    refine lv_aload_n hx hb dX12_make_10 rfl (lv_at hl 0 rfl) ?_
    refine mGET_7 C0 hW dX12_make_11 ?_
    refine lv_nmi ho (fun x9 ho => ?_)
    refine lv_istore_n (lv' := [(2, .int x9), (0, .ref (am 68)), (1, .int a1)]) hx hb dX12_make_14 rfl hl (by decide) rfl (fun ls hl => ?_)
    refine lv_aload_n hx hb dX12_make_15 rfl (lv_at hl 1 rfl) ?_
    refine mGET_13 C0 hW dX12_make_16 ?_
    refine lv_nmi ho (fun x10 ho => ?_)
    refine lv_istore_n (lv' := [(3, .int x10), (2, .int x9), (0, .ref (am 68)), (1, .int a1)]) hx hb dX12_make_19 rfl hl (by decide) rfl (fun ls hl => ?_)
    refine lv_aload_n hx hb dX12_make_20 rfl (lv_at hl 2 rfl) ?_
    obtain ⟨q11, hc12, ho⟩ := bd_some ho
    refine bkI C0 hW (runV (As := []) (rest := []) C0 hW (c_m_reads l _ t (r := q11.1) (t' := q11.2) hc12) ca_X12_reads_252 0 12 rfl rfl rfl rfl rfl ⟨rfl, rfl⟩ ⟨Nat.le_of_ble_eq_true rfl, Nat.le_of_ble_eq_true rfl⟩ (Nat.le_of_ble_eq_true rfl) hl.1 dX12_make_21 ⟨Nat.le_of_ble_eq_true rfl, Nat.le_of_ble_eq_true rfl⟩) (fun H locs hW => ?_)
    refine lv_istore (lv' := [(4, .int q11.1), (3, .int x10), (2, .int x9), (0, .ref (am 68)), (1, .int a1)]) hx hb dX12_make_24 hl (by decide) rfl (fun ls hl => ?_)
    refine lv_iload hx hb dX12_make_26 (lv_at hl 0 rfl) ?_
    refine lv_if_eq (tgt := 52) hx hb dX12_make_28 (by decide) (fun c13 => ?_) (fun c13 => ?_)
    · replace ho := ite_t c13 ho
      refine lv_iload_n hx hb dX12_make_52 rfl (lv_at hl 2 rfl) ?_
      refine lv_istore (lv' := [(5, .int x9), (4, .int q11.1), (3, .int x10), (2, .int x9), (0, .ref (am 68)), (1, .int a1)]) hx hb dX12_make_53 hl (by decide) rfl (fun ls hl => ?_)
      obtain ⟨y14, hc16, ho⟩ := bd_some ho
      obtain ⟨ny14, hc16⟩ := lp_to hc16
      refine m_make_L55 C0 ?_ ny14 _ _ hc16 _ _ _ hW (lv_sub hl [4, 5, 0] rfl)
      intro H locs ls hW hl
      refine lv_aload_n hx hb dX12_make_76 rfl (lv_at hl 0 rfl) ?_
      refine mGET_16 C0 hW dX12_make_77 ?_
      refine lv_iload_n hx hb dX12_make_80 rfl (lv_at hl 1 rfl) ?_
      refine lv_aload_n hx hb dX12_make_81 rfl (lv_at hl 0 rfl) ?_
      refine mGET_26 C0 hW dX12_make_82 ?_
      obtain ⟨g17, ho⟩ := gd_some ho
      refine mST_16 C0 hW g17 dX12_make_85 (fun H locs hW => ?_)
      obtain ⟨t18, ho, hW⟩ := nm_w (P := fun t => wl D A s (wM cI cJ cZ am t) H locs) ho hW
      refine lv_iconst (v := (0 : Int32)) hx hb dX12_make_86 (by decide) ?_
      cases ho
      exact rtI C0 hW dX12_make_87
    · replace ho := ite_f c13 ho
      refine lv_aload_n hx hb dX12_make_31 rfl (lv_at hl 3 rfl) ?_
      refine lv_iload_n hx hb dX12_make_32 rfl (lv_at hl 2 rfl) ?_
      refine mPUT_7 C0 hW dX12_make_33 (fun H locs hW => ?_)
      obtain ⟨t19, ho, hW⟩ := nm_w (P := fun t => wl D A s (wM cI cJ cZ am t) H locs) ho hW
      refine lv_aload_n hx hb dX12_make_36 rfl (lv_at hl 3 rfl) ?_
      refine lv_iload_n hx hb dX12_make_37 rfl (lv_at hl 1 rfl) ?_
      refine mPUT_13 C0 hW dX12_make_38 (fun H locs hW => ?_)
      obtain ⟨t20, ho, hW⟩ := nm_w (P := fun t => wl D A s (wM cI cJ cZ am t) H locs) ho hW
      refine lv_bipush (v := (10 : Int32)) hx hb dX12_make_41 (by decide) ?_
      refine lv_aload_n hx hb dX12_make_43 rfl (lv_at hl 3 rfl) ?_
      refine mGET_25 C0 hW dX12_make_44 ?_
      refine lv_imul hx hb dX12_make_47 ?_
      refine lv_iload hx hb dX12_make_48 (lv_at hl 0 rfl) ?_
      refine lv_iadd hx hb dX12_make_50 ?_
      cases ho
      exact rtI C0 hW dX12_make_51
  · replace ho := ite_t c8 ho
    refine lv_bipush (v := (-2 : Int32)) hx hb dX12_make_7 (by decide) ?_
    cases ho
    exact rtI C0 hW dX12_make_9
noncomputable def m_clear_B17 (v1 : Int32) (v2 : Int32) (t : St) : Option ((Int32 × St) ⊕ (St)) :=
  if (10 : Int32) ≤ v2 then (some (.inr t)) else (gd v2 10 (nm (sA t 16 v2 (-1 : Int32)) (fun t3 : St => nm (v2 + (1 : Int32)) (fun x4 : Int32 => some (.inl (x4, t3))))))
noncomputable def m_clear (t : St) : Option (Int32 × St) :=
  nm (gI t 7) (fun x5 : Int32 => nm (sI t 7 (0 : Int32)) (fun t6 : St => nm (sI t6 13 (0 : Int32)) (fun t7 : St => (lp (fun x => m_clear_B17 x5 x.1 x.2) ((0 : Int32), t7)).bind (fun y8 => nm (sI y8 35 (-1 : Int32)) (fun t11 : St => some (x5, t11))))))
set_option maxHeartbeats 4000000 in
set_option maxRecDepth 100000 in
theorem m_clear_L17 {p : Program} {l : Launch} {e : Env} {s : State} {m : MethodId} {args : Array Value} {below : List Frame} {meth : Method} {c : Code} {Q : State → Prop} {D : va_G} {cI cJ cZ : ClassId} {am : Nat → Nat} {A : Nat → Prop} (C0 : cx p s m args meth c cX12_clear RX12 3 (some .int) D (tyM cI cJ cZ) A) {v1 : Int32} {y : St} (hK0 : ∀ (H : Heap) (locs : List Loc) (ls : Array Slot), wl D A s (wM cI cJ cZ am y) H locs → lv_has ls 3 [(0, .ref (am 68)), (1, .int v1)] → W p l e (rmN 0 0) s m args below meth c H locs 0 0 Q (F0 m 36 ls [])) :
    ∀ (n : Nat) (v2 : Int32) (t : St), lpn (fun x => m_clear_B17 v1 x.1 x.2) n (v2, t) = some y → ∀ (H : Heap) (locs : List Loc) (ls : Array Slot), wl D A s (wM cI cJ cZ am t) H locs → lv_has ls 3 [(0, .ref (am 68)), (1, .int v1), (2, .int v2)] → W p l e (rmN 0 0) s m args below meth c H locs 0 0 Q (F0 m 17 ls []) := by
  have hx := C0.1
  have hb := C0.2.1
  have hta := C0.2.2.2.2.2.1
  have hown := C0.2.2.2.2.1
  intro n
  induction n with
  | zero => intro _ _ h; cases h
  | succ n ih =>
    intro v2 t hrun H locs ls hW hl
    obtain ⟨o, ho, hrun⟩ := bd_some hrun
    unfold m_clear_B17 at ho
    refine lv_iload_n hx hb dX12_clear_17 rfl (lv_at hl 2 rfl) ?_
    refine lv_bipush (v := (10 : Int32)) hx hb dX12_clear_18 (by decide) ?_
    refine lv_icmp_ge (tgt := 36) hx hb dX12_clear_20 (by decide) (fun c1 => ?_) (fun c1 => ?_)
    · replace ho := ite_t c1 ho
      cases ho
      cases hrun
      exact hK0 _ _ _ hW (lv_sub hl [0, 1] rfl)
    · replace ho := ite_f c1 ho
      refine lv_aload_n hx hb dX12_clear_23 rfl (lv_at hl 0 rfl) ?_
      refine mGET_16 C0 hW dX12_clear_24 ?_
      refine lv_iload_n hx hb dX12_clear_27 rfl (lv_at hl 2 rfl) ?_
      refine lv_iconst (v := (-1 : Int32)) hx hb dX12_clear_28 (by decide) ?_
      obtain ⟨g2, ho⟩ := gd_some ho
      refine mST_16 C0 hW g2 dX12_clear_29 (fun H locs hW => ?_)
      obtain ⟨t3, ho, hW⟩ := nm_w (P := fun t => wl D A s (wM cI cJ cZ am t) H locs) ho hW
      obtain ⟨x4, ex4, ho⟩ := nm_x ho
      refine lv_iinc (v := x4) (lv' := [(2, .int x4), (0, .ref (am 68)), (1, .int v1)]) hx hb dX12_clear_30 hl (k := 2) rfl (by rw [ex4]; rfl) (by decide) rfl (fun ls hl => ?_)
      clear ex4
      refine lv_goto (tgt := 17) hx hb dX12_clear_33 (by decide) ?_
      cases ho
      exact ih _ _ hrun _ _ _ hW (lv_sub hl [1, 2, 0] rfl)
set_option maxHeartbeats 4000000 in
set_option maxRecDepth 100000 in
theorem c_m_clear (l : Launch) {D : va_G} {cI cJ cZ : ClassId} {am : Nat → Nat} (sz : Nat) (t : St) {r : Int32} {t' : St} (ho : m_clear t = some (r, t')) : Met l yX12_clear (.code yX12_clear cX12_clear 3 (some .int) :: wsAll) (rmN 0 0) (va_Pc [.ref (am 68)] (prW D (tyM cI cJ cZ) (wM cI cJ cZ am t) sz)) (qI r D (tyM cI cJ cZ) (wM cI cJ cZ am t') (va_A (wM cI cJ cZ am t) sz)) 0 0 (va_A (wM cI cJ cZ am t) sz) := by
  refine Met.ofW (cc := cX12_clear) (maxL := 3) (ret := (some .int)) (by decide) rfl ?_
  intro p e s m args below meth c s₁ B hml hv
  obtain ⟨rfl, hsz, hP, hK, hD0⟩ := hv
  have hx := B.exec
  have hb := B.bytes
  have hts := atoms_spec (ws := (.code yX12_clear cX12_clear 3 (some .int) :: wsAll)) B.pre
  have hta := fun w h => hts w (List.mem_cons_of_mem _ h)
  have hown : s.vm.findClass RX12 = some m.cls := findClass_of_methodNamed B.named
  have hlocks := B.notSynchronized
  subst hsz
  have hD := hD0.self (sz := s.heap.size)
  generalize hAe : va_A (wM cI cJ cZ am t) s.heap.size = A at hD ⊢
  have hA : ∀ q : Nat, s.heap.size ≤ q → A q := fun q h => by rw [← hAe]; exact Or.inr h
  have C0 : cx p s m ([.ref (am 68)].toArray) meth c cX12_clear RX12 3 (some .int) D (tyM cI cJ cZ) A := ⟨hx, hb, B.returns, hml, hown, hta, hlocks, hK, hA⟩
  have hW : wl D A s (wM cI cJ cZ am t) s.heap [] := ⟨hP, hD, va_S.rf⟩
  have hl := lv_entry [.ref (am 68)] (n := 3) (Nat.le_of_ble_eq_true rfl)
  rw [lg_entry_eq]
  generalize (lg_sl [.ref (am 68)] ++ List.replicate (3 - (lg_sl [.ref (am 68)]).length) Slot.unset).toArray = ls at hl ⊢
  have hl : lv_has ls 3 [(0, .ref (am 68))] := hl
  unfold m_clear at ho
  refine lv_aload_n hx hb dX12_clear_0 rfl (lv_at hl 0 rfl) ?_
  refine mGET_7 C0 hW dX12_clear_1 ?_
  refine lv_nmi ho (fun x5 ho => ?_)
  refine lv_istore_n (lv' := [(1, .int x5), (0, .ref (am 68))]) hx hb dX12_clear_4 rfl hl (by decide) rfl (fun ls hl => ?_)
  refine lv_aload_n hx hb dX12_clear_5 rfl (lv_at hl 1 rfl) ?_
  refine lv_iconst (v := (0 : Int32)) hx hb dX12_clear_6 (by decide) ?_
  refine mPUT_7 C0 hW dX12_clear_7 (fun H locs hW => ?_)
  obtain ⟨t6, ho, hW⟩ := nm_w (P := fun t => wl D A s (wM cI cJ cZ am t) H locs) ho hW
  refine lv_aload_n hx hb dX12_clear_10 rfl (lv_at hl 1 rfl) ?_
  refine lv_iconst (v := (0 : Int32)) hx hb dX12_clear_11 (by decide) ?_
  refine mPUT_13 C0 hW dX12_clear_12 (fun H locs hW => ?_)
  obtain ⟨t7, ho, hW⟩ := nm_w (P := fun t => wl D A s (wM cI cJ cZ am t) H locs) ho hW
  refine lv_iconst (v := (0 : Int32)) hx hb dX12_clear_15 (by decide) ?_
  refine lv_istore_n (lv' := [(2, .int (0 : Int32)), (1, .int x5), (0, .ref (am 68))]) hx hb dX12_clear_16 rfl hl (by decide) rfl (fun ls hl => ?_)
  obtain ⟨y8, hc10, ho⟩ := bd_some ho
  obtain ⟨ny8, hc10⟩ := lp_to hc10
  refine m_clear_L17 C0 ?_ ny8 _ _ hc10 _ _ _ hW (lv_sub hl [2, 1, 0] rfl)
  intro H locs ls hW hl
  refine lv_aload_n hx hb dX12_clear_36 rfl (lv_at hl 0 rfl) ?_
  refine lv_iconst (v := (-1 : Int32)) hx hb dX12_clear_37 (by decide) ?_
  refine mPUT_35 C0 hW dX12_clear_38 (fun H locs hW => ?_)
  obtain ⟨t11, ho, hW⟩ := nm_w (P := fun t => wl D A s (wM cI cJ cZ am t) H locs) ho hW
  refine lv_iload_n hx hb dX12_clear_41 rfl (lv_at hl 1 rfl) ?_
  cases ho
  exact rtI C0 hW dX12_clear_42
noncomputable def m_isReached (t : St) (a1 : Int32) (a2 : Int32) : Option (Int32) :=
  gd (((1024 : Int32) * a1) + (a2 >>> ((6 : Int32) &&& 31))) 256000 (if (lg_cmp ((((gB t 17 ((((1024 : Int32) * a1) + (a2 >>> ((6 : Int32) &&& 31)))).toNatClampNeg) >>> (((a2 &&& (63 : Int32))).toInt64 &&& 63))) &&& (1 : Int64)) (1 : Int64)) = 0 then (some (1 : Int32)) else (some (0 : Int32)))
set_option maxHeartbeats 4000000 in
set_option maxRecDepth 100000 in
theorem c_m_isReached (l : Launch) {D : va_G} {cI cJ cZ : ClassId} {am : Nat → Nat} (sz : Nat) (t : St) (a1 : Int32) (a2 : Int32) {r : Int32} (ho : m_isReached t a1 a2 = some r) : Met l yX12_isReached (.code yX12_isReached cX12_isReached 3 (some .boolean) :: wsAll) (rmN 0 0) (va_Pc [.ref (am 68), .int a1, .int a2] (prW D (tyM cI cJ cZ) (wM cI cJ cZ am t) sz)) (qZ r D (tyM cI cJ cZ) (wM cI cJ cZ am t) (va_A (wM cI cJ cZ am t) sz)) 0 0 (va_A (wM cI cJ cZ am t) sz) := by
  refine Met.ofW (cc := cX12_isReached) (maxL := 3) (ret := (some .boolean)) (by decide) rfl ?_
  intro p e s m args below meth c s₁ B hml hv
  obtain ⟨rfl, hsz, hP, hK, hD0⟩ := hv
  have hx := B.exec
  have hb := B.bytes
  have hts := atoms_spec (ws := (.code yX12_isReached cX12_isReached 3 (some .boolean) :: wsAll)) B.pre
  have hta := fun w h => hts w (List.mem_cons_of_mem _ h)
  have hown : s.vm.findClass RX12 = some m.cls := findClass_of_methodNamed B.named
  have hlocks := B.notSynchronized
  subst hsz
  have hD := hD0.self (sz := s.heap.size)
  generalize hAe : va_A (wM cI cJ cZ am t) s.heap.size = A at hD ⊢
  have hA : ∀ q : Nat, s.heap.size ≤ q → A q := fun q h => by rw [← hAe]; exact Or.inr h
  have C0 : cx p s m ([.ref (am 68), .int a1, .int a2].toArray) meth c cX12_isReached RX12 3 (some .boolean) D (tyM cI cJ cZ) A := ⟨hx, hb, B.returns, hml, hown, hta, hlocks, hK, hA⟩
  have hW : wl D A s (wM cI cJ cZ am t) s.heap [] := ⟨hP, hD, va_S.rf⟩
  have hl := lv_entry [.ref (am 68), .int a1, .int a2] (n := 3) (Nat.le_of_ble_eq_true rfl)
  rw [lg_entry_eq]
  generalize (lg_sl [.ref (am 68), .int a1, .int a2] ++ List.replicate (3 - (lg_sl [.ref (am 68), .int a1, .int a2]).length) Slot.unset).toArray = ls at hl ⊢
  have hl : lv_has ls 3 [(0, .ref (am 68)), (1, .int a1), (2, .int a2)] := hl
  unfold m_isReached at ho
  refine lv_aload_n hx hb dX12_isReached_0 rfl (lv_at hl 0 rfl) ?_
  refine mGET_17 C0 hW dX12_isReached_1 ?_
  refine lv_sipush (v := (1024 : Int32)) hx hb dX12_isReached_4 (by decide) ?_
  refine lv_iload_n hx hb dX12_isReached_7 rfl (lv_at hl 1 rfl) ?_
  refine lv_imul hx hb dX12_isReached_8 ?_
  refine lv_iload_n hx hb dX12_isReached_9 rfl (lv_at hl 2 rfl) ?_
  refine lv_bipush (v := (6 : Int32)) hx hb dX12_isReached_10 (by decide) ?_
  refine lv_ishr hx hb dX12_isReached_12 ?_
  refine lv_iadd hx hb dX12_isReached_13 ?_
  obtain ⟨g1, ho⟩ := gd_some ho
  refine mLD_17 C0 hW g1 dX12_isReached_14 ?_
  refine lv_iload_n hx hb dX12_isReached_15 rfl (lv_at hl 2 rfl) ?_
  refine lv_bipush (v := (63 : Int32)) hx hb dX12_isReached_16 (by decide) ?_
  refine lv_iand hx hb dX12_isReached_18 ?_
  refine lv_lshr hx hb dX12_isReached_19 rfl ?_
  refine lv_lconst (v := (1 : Int64)) hx hb dX12_isReached_20 (by decide) ?_
  refine lv_land hx hb dX12_isReached_21 ?_
  refine lv_lconst (v := (1 : Int64)) hx hb dX12_isReached_22 (by decide) ?_
  refine W.lcmp hx hb dX12_isReached_23 ?_
  refine lv_if_ne (tgt := 31) hx hb dX12_isReached_24 (by decide) (fun c2 => ?_) (fun c2 => ?_)
  · replace ho := ite_f c2 ho
    refine lv_iconst (v := (0 : Int32)) hx hb dX12_isReached_31 (by decide) ?_
    cases ho
    exact rtZ C0 hW (Or.inl (rfl : (0 : Int32) = 0)) dX12_isReached_32
  · replace ho := ite_t c2 ho
    refine lv_iconst (v := (1 : Int32)) hx hb dX12_isReached_27 (by decide) ?_
    refine lv_goto (tgt := 32) hx hb dX12_isReached_28 (by decide) ?_
    cases ho
    exact rtZ C0 hW (Or.inr (rfl : (1 : Int32) = 1)) dX12_isReached_32
noncomputable def m_why (t : St) (a1 : Int32) (a2 : Int32) : Option (Int32) :=
  (m_isNet t a1).bind (fun q1 => if q1 = 0 then (some (-2 : Int32)) else (if a2 = 0 then (some (-2 : Int32)) else (gd a1 10 (if (gA t 16 (a1).toNatClampNeg) = (-1 : Int32) then (some (-3 : Int32)) else (some (1 : Int32))))))
set_option maxHeartbeats 4000000 in
set_option maxRecDepth 100000 in
theorem c_m_why (l : Launch) {D : va_G} {cI cJ cZ : ClassId} {am : Nat → Nat} (sz : Nat) (t : St) (a1 : Int32) (a2 : Int32) {r : Int32} (ho : m_why t a1 a2 = some r) : Met l yX12_why (.code yX12_why cX12_why 3 (some .int) :: wsAll) (rmN 2 42) (va_Pc [.ref (am 68), .int a1, .int a2] (prW D (tyM cI cJ cZ) (wM cI cJ cZ am t) sz)) (qI r D (tyM cI cJ cZ) (wM cI cJ cZ am t) (va_A (wM cI cJ cZ am t) sz)) 0 0 (va_A (wM cI cJ cZ am t) sz) := by
  refine Met.ofW (cc := cX12_why) (maxL := 3) (ret := (some .int)) (by decide) rfl ?_
  intro p e s m args below meth c s₁ B hml hv
  obtain ⟨rfl, hsz, hP, hK, hD0⟩ := hv
  have hx := B.exec
  have hb := B.bytes
  have hts := atoms_spec (ws := (.code yX12_why cX12_why 3 (some .int) :: wsAll)) B.pre
  have hta := fun w h => hts w (List.mem_cons_of_mem _ h)
  have hown : s.vm.findClass RX12 = some m.cls := findClass_of_methodNamed B.named
  have hlocks := B.notSynchronized
  subst hsz
  have hD := hD0.self (sz := s.heap.size)
  generalize hAe : va_A (wM cI cJ cZ am t) s.heap.size = A at hD ⊢
  have hA : ∀ q : Nat, s.heap.size ≤ q → A q := fun q h => by rw [← hAe]; exact Or.inr h
  have C0 : cx p s m ([.ref (am 68), .int a1, .int a2].toArray) meth c cX12_why RX12 3 (some .int) D (tyM cI cJ cZ) A := ⟨hx, hb, B.returns, hml, hown, hta, hlocks, hK, hA⟩
  have hW : wl D A s (wM cI cJ cZ am t) s.heap [] := ⟨hP, hD, va_S.rf⟩
  have hl := lv_entry [.ref (am 68), .int a1, .int a2] (n := 3) (Nat.le_of_ble_eq_true rfl)
  rw [lg_entry_eq]
  generalize (lg_sl [.ref (am 68), .int a1, .int a2] ++ List.replicate (3 - (lg_sl [.ref (am 68), .int a1, .int a2]).length) Slot.unset).toArray = ls at hl ⊢
  have hl : lv_has ls 3 [(0, .ref (am 68)), (1, .int a1), (2, .int a2)] := hl
  unfold m_why at ho
  refine lv_iload_n hx hb dX12_why_0 rfl (lv_at hl 1 rfl) ?_
  obtain ⟨q1, hc2, ho⟩ := bd_some ho
  refine bkZ C0 hW (runS (As := [.int a1]) (rest := []) C0 hW (c_m_isNet l _ t a1 (r := q1) hc2) ca_X12_isNet_249 rfl rfl ⟨rfl, rfl⟩ ⟨Nat.le_of_ble_eq_true rfl, Nat.le_of_ble_eq_true rfl⟩ (Nat.le_of_ble_eq_true rfl) hl.1 dX12_why_1 ⟨Nat.le_of_ble_eq_true rfl, Nat.le_of_ble_eq_true rfl⟩) (fun z3 H locs hW => ?_)
  refine lv_if_eq (tgt := 11) hx hb dX12_why_4 (by decide) (fun c4 => ?_) (fun c4 => ?_)
  · replace ho := ite_t c4 ho
    refine lv_bipush (v := (-2 : Int32)) hx hb dX12_why_11 (by decide) ?_
    refine lv_goto (tgt := 32) hx hb dX12_why_13 (by decide) ?_
    cases ho
    exact rtI C0 hW dX12_why_32
  · replace ho := ite_f c4 ho
    refine lv_iload_n hx hb dX12_why_7 rfl (lv_at hl 2 rfl) ?_
    refine lv_if_ne (tgt := 16) hx hb dX12_why_8 (by decide) (fun c5 => ?_) (fun c5 => ?_)
    · replace ho := ite_f c5 ho
      refine lv_aload_n hx hb dX12_why_16 rfl (lv_at hl 0 rfl) ?_
      refine mGET_16 C0 hW dX12_why_17 ?_
      refine lv_iload_n hx hb dX12_why_20 rfl (lv_at hl 1 rfl) ?_
      obtain ⟨g6, ho⟩ := gd_some ho
      refine mLD_16 C0 hW g6 dX12_why_21 ?_
      refine lv_iconst (v := (-1 : Int32)) hx hb dX12_why_22 (by decide) ?_
      refine lv_icmp_ne (tgt := 31) hx hb dX12_why_23 (by decide) (fun c7 => ?_) (fun c7 => ?_)
      · replace ho := ite_f c7 ho
        refine lv_iconst (v := (1 : Int32)) hx hb dX12_why_31 (by decide) ?_
        cases ho
        exact rtI C0 hW dX12_why_32
      · replace ho := ite_t c7 ho
        refine lv_bipush (v := (-3 : Int32)) hx hb dX12_why_26 (by decide) ?_
        refine lv_goto (tgt := 32) hx hb dX12_why_28 (by decide) ?_
        cases ho
        exact rtI C0 hW dX12_why_32
    · replace ho := ite_t c5 ho
      refine lv_bipush (v := (-2 : Int32)) hx hb dX12_why_11 (by decide) ?_
      refine lv_goto (tgt := 32) hx hb dX12_why_13 (by decide) ?_
      cases ho
      exact rtI C0 hW dX12_why_32
noncomputable def m_knotOf (t : St) (a1 : Int32) (a2 : Int32) : Option (Int32) :=
  if a2 = (0 : Int32) then (some a1) else if a2 = (1 : Int32) then (gd a1 400 (some (gA t 8 (a1).toNatClampNeg))) else if a2 = (2 : Int32) then (gd a1 400 (if (gA t 8 (a1).toNatClampNeg) = 0 then (gd a1 400 (some (gA t 10 (a1).toNatClampNeg))) else (gd a1 400 (some (gA t 12 (a1).toNatClampNeg))))) else if a2 = (3 : Int32) then (gd a1 400 (some (gA t 9 (a1).toNatClampNeg))) else (gd a1 400 (some (gA t 15 (a1).toNatClampNeg)))
set_option maxHeartbeats 4000000 in
set_option maxRecDepth 100000 in
theorem c_m_knotOf (l : Launch) {D : va_G} {cI cJ cZ : ClassId} {am : Nat → Nat} (sz : Nat) (t : St) (a1 : Int32) (a2 : Int32) {r : Int32} (ho : m_knotOf t a1 a2 = some r) : Met l yX12_knotOf (.code yX12_knotOf cX12_knotOf 3 (some .int) :: wsAll) (rmN 0 0) (va_Pc [.ref (am 68), .int a1, .int a2] (prW D (tyM cI cJ cZ) (wM cI cJ cZ am t) sz)) (qI r D (tyM cI cJ cZ) (wM cI cJ cZ am t) (va_A (wM cI cJ cZ am t) sz)) 0 0 (va_A (wM cI cJ cZ am t) sz) := by
  refine Met.ofW (cc := cX12_knotOf) (maxL := 3) (ret := (some .int)) (by decide) rfl ?_
  intro p e s m args below meth c s₁ B hml hv
  obtain ⟨rfl, hsz, hP, hK, hD0⟩ := hv
  have hx := B.exec
  have hb := B.bytes
  have hts := atoms_spec (ws := (.code yX12_knotOf cX12_knotOf 3 (some .int) :: wsAll)) B.pre
  have hta := fun w h => hts w (List.mem_cons_of_mem _ h)
  have hown : s.vm.findClass RX12 = some m.cls := findClass_of_methodNamed B.named
  have hlocks := B.notSynchronized
  subst hsz
  have hD := hD0.self (sz := s.heap.size)
  generalize hAe : va_A (wM cI cJ cZ am t) s.heap.size = A at hD ⊢
  have hA : ∀ q : Nat, s.heap.size ≤ q → A q := fun q h => by rw [← hAe]; exact Or.inr h
  have C0 : cx p s m ([.ref (am 68), .int a1, .int a2].toArray) meth c cX12_knotOf RX12 3 (some .int) D (tyM cI cJ cZ) A := ⟨hx, hb, B.returns, hml, hown, hta, hlocks, hK, hA⟩
  have hW : wl D A s (wM cI cJ cZ am t) s.heap [] := ⟨hP, hD, va_S.rf⟩
  have hl := lv_entry [.ref (am 68), .int a1, .int a2] (n := 3) (Nat.le_of_ble_eq_true rfl)
  rw [lg_entry_eq]
  generalize (lg_sl [.ref (am 68), .int a1, .int a2] ++ List.replicate (3 - (lg_sl [.ref (am 68), .int a1, .int a2]).length) Slot.unset).toArray = ls at hl ⊢
  have hl : lv_has ls 3 [(0, .ref (am 68)), (1, .int a1), (2, .int a2)] := hl
  unfold m_knotOf at ho
  refine lv_iload_n hx hb dX12_knotOf_0 rfl (lv_at hl 2 rfl) ?_
  by_cases c1 : a2 = (0 : Int32)
  · replace ho := ite_t c1 ho
    refine lv_tableIn (tgt := 32) (off := 31) hx hb dX12_knotOf_1 (by rw [c1]; decide) (by rw [c1]; decide) (by rw [c1]; rfl) (by decide) ?_
    refine lv_iload_n hx hb dX12_knotOf_32 rfl (lv_at hl 1 rfl) ?_
    cases ho
    exact rtI C0 hW dX12_knotOf_33
  replace ho := ite_f c1 ho
  by_cases c2 : a2 = (1 : Int32)
  · replace ho := ite_t c2 ho
    refine lv_tableIn (tgt := 34) (off := 33) hx hb dX12_knotOf_1 (by rw [c2]; decide) (by rw [c2]; decide) (by rw [c2]; rfl) (by decide) ?_
    refine lv_aload_n hx hb dX12_knotOf_34 rfl (lv_at hl 0 rfl) ?_
    refine mGET_8 C0 hW dX12_knotOf_35 ?_
    refine lv_iload_n hx hb dX12_knotOf_38 rfl (lv_at hl 1 rfl) ?_
    obtain ⟨g3, ho⟩ := gd_some ho
    refine mLD_8 C0 hW g3 dX12_knotOf_39 ?_
    cases ho
    exact rtI C0 hW dX12_knotOf_40
  replace ho := ite_f c2 ho
  by_cases c4 : a2 = (2 : Int32)
  · replace ho := ite_t c4 ho
    refine lv_tableIn (tgt := 41) (off := 40) hx hb dX12_knotOf_1 (by rw [c4]; decide) (by rw [c4]; decide) (by rw [c4]; rfl) (by decide) ?_
    refine lv_aload_n hx hb dX12_knotOf_41 rfl (lv_at hl 0 rfl) ?_
    refine mGET_8 C0 hW dX12_knotOf_42 ?_
    refine lv_iload_n hx hb dX12_knotOf_45 rfl (lv_at hl 1 rfl) ?_
    obtain ⟨g5, ho⟩ := gd_some ho
    refine mLD_8 C0 hW g5 dX12_knotOf_46 ?_
    refine lv_if_ne (tgt := 59) hx hb dX12_knotOf_47 (by decide) (fun c6 => ?_) (fun c6 => ?_)
    · replace ho := ite_f c6 ho
      refine lv_aload_n hx hb dX12_knotOf_59 rfl (lv_at hl 0 rfl) ?_
      refine mGET_12 C0 hW dX12_knotOf_60 ?_
      refine lv_iload_n hx hb dX12_knotOf_63 rfl (lv_at hl 1 rfl) ?_
      obtain ⟨g7, ho⟩ := gd_some ho
      refine mLD_12 C0 hW g7 dX12_knotOf_64 ?_
      cases ho
      exact rtI C0 hW dX12_knotOf_65
    · replace ho := ite_t c6 ho
      refine lv_aload_n hx hb dX12_knotOf_50 rfl (lv_at hl 0 rfl) ?_
      refine mGET_10 C0 hW dX12_knotOf_51 ?_
      refine lv_iload_n hx hb dX12_knotOf_54 rfl (lv_at hl 1 rfl) ?_
      obtain ⟨g8, ho⟩ := gd_some ho
      refine mLD_10 C0 hW g8 dX12_knotOf_55 ?_
      refine lv_goto (tgt := 65) hx hb dX12_knotOf_56 (by decide) ?_
      cases ho
      exact rtI C0 hW dX12_knotOf_65
  replace ho := ite_f c4 ho
  by_cases c9 : a2 = (3 : Int32)
  · replace ho := ite_t c9 ho
    refine lv_tableIn (tgt := 66) (off := 65) hx hb dX12_knotOf_1 (by rw [c9]; decide) (by rw [c9]; decide) (by rw [c9]; rfl) (by decide) ?_
    refine lv_aload_n hx hb dX12_knotOf_66 rfl (lv_at hl 0 rfl) ?_
    refine mGET_9 C0 hW dX12_knotOf_67 ?_
    refine lv_iload_n hx hb dX12_knotOf_70 rfl (lv_at hl 1 rfl) ?_
    obtain ⟨g10, ho⟩ := gd_some ho
    refine mLD_9 C0 hW g10 dX12_knotOf_71 ?_
    cases ho
    exact rtI C0 hW dX12_knotOf_72
  replace ho := ite_f c9 ho
  refine lv_tableOut (tgt := 73) hx hb dX12_knotOf_1 (tsw_3 c1 c2 c4 c9) (by decide) ?_
  refine lv_aload_n hx hb dX12_knotOf_73 rfl (lv_at hl 0 rfl) ?_
  refine mGET_15 C0 hW dX12_knotOf_74 ?_
  refine lv_iload_n hx hb dX12_knotOf_77 rfl (lv_at hl 1 rfl) ?_
  obtain ⟨g11, ho⟩ := gd_some ho
  refine mLD_15 C0 hW g11 dX12_knotOf_78 ?_
  cases ho
  exact rtI C0 hW dX12_knotOf_79
noncomputable def m_knot (t : St) (a1 : Int32) (a2 : Int32) : Option (Int32) :=
  (m_in t a2 (0 : Int32) (4 : Int32)).bind (fun q1 => (m_why t a1 q1).bind (fun q4 => if q4 = (1 : Int32) then (gd a1 10 ((m_knotOf t (gA t 16 (a1).toNatClampNeg) a2).bind (fun q8 => some q8))) else (some q4)))
set_option maxHeartbeats 4000000 in
set_option maxRecDepth 100000 in
theorem c_m_knot (l : Launch) {D : va_G} {cI cJ cZ : ClassId} {am : Nat → Nat} (sz : Nat) (t : St) (a1 : Int32) (a2 : Int32) {r : Int32} (ho : m_knot t a1 a2 = some r) : Met l yX12_knot (.code yX12_knot cX12_knot 4 (some .int) :: wsAll) (rmN 3 64) (va_Pc [.ref (am 68), .int a1, .int a2] (prW D (tyM cI cJ cZ) (wM cI cJ cZ am t) sz)) (qI r D (tyM cI cJ cZ) (wM cI cJ cZ am t) (va_A (wM cI cJ cZ am t) sz)) 0 0 (va_A (wM cI cJ cZ am t) sz) := by
  refine Met.ofW (cc := cX12_knot) (maxL := 4) (ret := (some .int)) (by decide) rfl ?_
  intro p e s m args below meth c s₁ B hml hv
  obtain ⟨rfl, hsz, hP, hK, hD0⟩ := hv
  have hx := B.exec
  have hb := B.bytes
  have hts := atoms_spec (ws := (.code yX12_knot cX12_knot 4 (some .int) :: wsAll)) B.pre
  have hta := fun w h => hts w (List.mem_cons_of_mem _ h)
  have hown : s.vm.findClass RX12 = some m.cls := findClass_of_methodNamed B.named
  have hlocks := B.notSynchronized
  subst hsz
  have hD := hD0.self (sz := s.heap.size)
  generalize hAe : va_A (wM cI cJ cZ am t) s.heap.size = A at hD ⊢
  have hA : ∀ q : Nat, s.heap.size ≤ q → A q := fun q h => by rw [← hAe]; exact Or.inr h
  have C0 : cx p s m ([.ref (am 68), .int a1, .int a2].toArray) meth c cX12_knot RX12 4 (some .int) D (tyM cI cJ cZ) A := ⟨hx, hb, B.returns, hml, hown, hta, hlocks, hK, hA⟩
  have hW : wl D A s (wM cI cJ cZ am t) s.heap [] := ⟨hP, hD, va_S.rf⟩
  have hl := lv_entry [.ref (am 68), .int a1, .int a2] (n := 4) (Nat.le_of_ble_eq_true rfl)
  rw [lg_entry_eq]
  generalize (lg_sl [.ref (am 68), .int a1, .int a2] ++ List.replicate (4 - (lg_sl [.ref (am 68), .int a1, .int a2]).length) Slot.unset).toArray = ls at hl ⊢
  have hl : lv_has ls 4 [(0, .ref (am 68)), (1, .int a1), (2, .int a2)] := hl
  unfold m_knot at ho
  refine lv_aload_n hx hb dX12_knot_0 rfl (lv_at hl 0 rfl) ?_
  refine lv_iload_n hx hb dX12_knot_1 rfl (lv_at hl 1 rfl) ?_
  refine lv_iload_n hx hb dX12_knot_2 rfl (lv_at hl 2 rfl) ?_
  refine lv_iconst (v := (0 : Int32)) hx hb dX12_knot_3 (by decide) ?_
  refine lv_iconst (v := (4 : Int32)) hx hb dX12_knot_4 (by decide) ?_
  obtain ⟨q1, hc2, ho⟩ := bd_some ho
  refine bkZ C0 hW (runS (As := [.int a2, .int (0 : Int32), .int (4 : Int32)]) (rest := [.int a1, .ref (am 68)]) C0 hW (c_m_in l _ t a2 (0 : Int32) (4 : Int32) (r := q1) hc2) ca_X12_in_179 rfl rfl ⟨rfl, rfl⟩ ⟨Nat.le_of_ble_eq_true rfl, Nat.le_of_ble_eq_true rfl⟩ (Nat.le_of_ble_eq_true rfl) hl.1 dX12_knot_5 ⟨Nat.le_of_ble_eq_true rfl, Nat.le_of_ble_eq_true rfl⟩) (fun z3 H locs hW => ?_)
  obtain ⟨q4, hc5, ho⟩ := bd_some ho
  refine bkI C0 hW (runV (As := [.int a1, .int q1]) (rest := []) C0 hW (c_m_why l _ t a1 q1 (r := q4) hc5) ca_X12_why_271 0 12 rfl rfl rfl rfl rfl ⟨rfl, rfl⟩ ⟨Nat.le_of_ble_eq_true rfl, Nat.le_of_ble_eq_true rfl⟩ (Nat.le_of_ble_eq_true rfl) hl.1 dX12_knot_8 ⟨Nat.le_of_ble_eq_true rfl, Nat.le_of_ble_eq_true rfl⟩) (fun H locs hW => ?_)
  refine lv_istore_n (lv' := [(3, .int q4), (0, .ref (am 68)), (1, .int a1), (2, .int a2)]) hx hb dX12_knot_11 rfl hl (by decide) rfl (fun ls hl => ?_)
  refine lv_iload_n hx hb dX12_knot_12 rfl (lv_at hl 0 rfl) ?_
  refine lv_iconst (v := (1 : Int32)) hx hb dX12_knot_13 (by decide) ?_
  refine lv_icmp_eq (tgt := 21) hx hb dX12_knot_14 (by decide) (fun c6 => ?_) (fun c6 => ?_)
  · replace ho := ite_t c6 ho
    refine lv_aload_n hx hb dX12_knot_21 rfl (lv_at hl 1 rfl) ?_
    refine lv_aload_n hx hb dX12_knot_22 rfl (lv_at hl 1 rfl) ?_
    refine mGET_16 C0 hW dX12_knot_23 ?_
    refine lv_iload_n hx hb dX12_knot_26 rfl (lv_at hl 2 rfl) ?_
    obtain ⟨g7, ho⟩ := gd_some ho
    refine mLD_16 C0 hW g7 dX12_knot_27 ?_
    refine lv_iload_n hx hb dX12_knot_28 rfl (lv_at hl 3 rfl) ?_
    obtain ⟨q8, hc9, ho⟩ := bd_some ho
    refine bkI C0 hW (runV (As := [.int (gA t 16 (a1).toNatClampNeg), .int a2]) (rest := []) C0 hW (c_m_knotOf l _ t (gA t 16 (a1).toNatClampNeg) a2 (r := q8) hc9) ca_X12_knotOf_275 0 12 rfl rfl rfl rfl rfl ⟨rfl, rfl⟩ ⟨Nat.le_of_ble_eq_true rfl, Nat.le_of_ble_eq_true rfl⟩ (Nat.le_of_ble_eq_true rfl) hl.1 dX12_knot_29 ⟨Nat.le_of_ble_eq_true rfl, Nat.le_of_ble_eq_true rfl⟩) (fun H locs hW => ?_)
    cases ho
    exact rtI C0 hW dX12_knot_32
  · replace ho := ite_f c6 ho
    refine lv_iload_n hx hb dX12_knot_17 rfl (lv_at hl 0 rfl) ?_
    refine lv_goto (tgt := 32) hx hb dX12_knot_18 (by decide) ?_
    cases ho
    exact rtI C0 hW dX12_knot_32
noncomputable def m_part (t : St) (a1 : Int32) (a2 : Int32) : Option (Int32) :=
  (m_in t a1 (0 : Int32) ((gI t 7) - (1 : Int32))).bind (fun q1 => if q1 = 0 then (some (-2 : Int32)) else (if 0 ≤ a2 then (gd a1 400 (if (gA t 12 (a1).toNatClampNeg) ≤ a2 then (some (-1 : Int32)) else (gd a1 400 (gd ((gA t 11 (a1).toNatClampNeg) + a2) 20000 (some (gA t 14 (((gA t 11 (a1).toNatClampNeg) + a2)).toNatClampNeg)))))) else (some (-2 : Int32))))
set_option maxHeartbeats 4000000 in
set_option maxRecDepth 100000 in
theorem c_m_part (l : Launch) {D : va_G} {cI cJ cZ : ClassId} {am : Nat → Nat} (sz : Nat) (t : St) (a1 : Int32) (a2 : Int32) {r : Int32} (ho : m_part t a1 a2 = some r) : Met l yX12_part (.code yX12_part cX12_part 3 (some .int) :: wsAll) (rmN 1 22) (va_Pc [.ref (am 68), .int a1, .int a2] (prW D (tyM cI cJ cZ) (wM cI cJ cZ am t) sz)) (qI r D (tyM cI cJ cZ) (wM cI cJ cZ am t) (va_A (wM cI cJ cZ am t) sz)) 0 0 (va_A (wM cI cJ cZ am t) sz) := by
  refine Met.ofW (cc := cX12_part) (maxL := 3) (ret := (some .int)) (by decide) rfl ?_
  intro p e s m args below meth c s₁ B hml hv
  obtain ⟨rfl, hsz, hP, hK, hD0⟩ := hv
  have hx := B.exec
  have hb := B.bytes
  have hts := atoms_spec (ws := (.code yX12_part cX12_part 3 (some .int) :: wsAll)) B.pre
  have hta := fun w h => hts w (List.mem_cons_of_mem _ h)
  have hown : s.vm.findClass RX12 = some m.cls := findClass_of_methodNamed B.named
  have hlocks := B.notSynchronized
  subst hsz
  have hD := hD0.self (sz := s.heap.size)
  generalize hAe : va_A (wM cI cJ cZ am t) s.heap.size = A at hD ⊢
  have hA : ∀ q : Nat, s.heap.size ≤ q → A q := fun q h => by rw [← hAe]; exact Or.inr h
  have C0 : cx p s m ([.ref (am 68), .int a1, .int a2].toArray) meth c cX12_part RX12 3 (some .int) D (tyM cI cJ cZ) A := ⟨hx, hb, B.returns, hml, hown, hta, hlocks, hK, hA⟩
  have hW : wl D A s (wM cI cJ cZ am t) s.heap [] := ⟨hP, hD, va_S.rf⟩
  have hl := lv_entry [.ref (am 68), .int a1, .int a2] (n := 3) (Nat.le_of_ble_eq_true rfl)
  rw [lg_entry_eq]
  generalize (lg_sl [.ref (am 68), .int a1, .int a2] ++ List.replicate (3 - (lg_sl [.ref (am 68), .int a1, .int a2]).length) Slot.unset).toArray = ls at hl ⊢
  have hl : lv_has ls 3 [(0, .ref (am 68)), (1, .int a1), (2, .int a2)] := hl
  unfold m_part at ho
  refine lv_iload_n hx hb dX12_part_0 rfl (lv_at hl 1 rfl) ?_
  refine lv_iconst (v := (0 : Int32)) hx hb dX12_part_1 (by decide) ?_
  refine lv_aload_n hx hb dX12_part_2 rfl (lv_at hl 0 rfl) ?_
  refine mGET_7 C0 hW dX12_part_3 ?_
  refine lv_iconst (v := (1 : Int32)) hx hb dX12_part_6 (by decide) ?_
  refine lv_isub hx hb dX12_part_7 ?_
  obtain ⟨q1, hc2, ho⟩ := bd_some ho
  refine bkZ C0 hW (runS (As := [.int a1, .int (0 : Int32), .int ((gI t 7) - (1 : Int32))]) (rest := []) C0 hW (c_m_in l _ t a1 (0 : Int32) ((gI t 7) - (1 : Int32)) (r := q1) hc2) ca_X12_in_179 rfl rfl ⟨rfl, rfl⟩ ⟨Nat.le_of_ble_eq_true rfl, Nat.le_of_ble_eq_true rfl⟩ (Nat.le_of_ble_eq_true rfl) hl.1 dX12_part_8 ⟨Nat.le_of_ble_eq_true rfl, Nat.le_of_ble_eq_true rfl⟩) (fun z3 H locs hW => ?_)
  refine lv_if_eq (tgt := 18) hx hb dX12_part_11 (by decide) (fun c4 => ?_) (fun c4 => ?_)
  · replace ho := ite_t c4 ho
    refine lv_bipush (v := (-2 : Int32)) hx hb dX12_part_18 (by decide) ?_
    cases ho
    exact rtI C0 hW dX12_part_20
  · replace ho := ite_f c4 ho
    refine lv_iload_n hx hb dX12_part_14 rfl (lv_at hl 2 rfl) ?_
    refine lv_if_ge (tgt := 21) hx hb dX12_part_15 (by decide) (fun c5 => ?_) (fun c5 => ?_)
    · replace ho := ite_t c5 ho
      refine lv_iload_n hx hb dX12_part_21 rfl (lv_at hl 2 rfl) ?_
      refine lv_aload_n hx hb dX12_part_22 rfl (lv_at hl 0 rfl) ?_
      refine mGET_12 C0 hW dX12_part_23 ?_
      refine lv_iload_n hx hb dX12_part_26 rfl (lv_at hl 1 rfl) ?_
      obtain ⟨g6, ho⟩ := gd_some ho
      refine mLD_12 C0 hW g6 dX12_part_27 ?_
      refine lv_icmp_ge (tgt := 47) hx hb dX12_part_28 (by decide) (fun c7 => ?_) (fun c7 => ?_)
      · replace ho := ite_t c7 ho
        refine lv_iconst (v := (-1 : Int32)) hx hb dX12_part_47 (by decide) ?_
        cases ho
        exact rtI C0 hW dX12_part_48
      · replace ho := ite_f c7 ho
        refine lv_aload_n hx hb dX12_part_31 rfl (lv_at hl 0 rfl) ?_
        refine mGET_14 C0 hW dX12_part_32 ?_
        refine lv_aload_n hx hb dX12_part_35 rfl (lv_at hl 0 rfl) ?_
        refine mGET_11 C0 hW dX12_part_36 ?_
        refine lv_iload_n hx hb dX12_part_39 rfl (lv_at hl 1 rfl) ?_
        obtain ⟨g8, ho⟩ := gd_some ho
        refine mLD_11 C0 hW g8 dX12_part_40 ?_
        refine lv_iload_n hx hb dX12_part_41 rfl (lv_at hl 2 rfl) ?_
        refine lv_iadd hx hb dX12_part_42 ?_
        obtain ⟨g9, ho⟩ := gd_some ho
        refine mLD_14 C0 hW g9 dX12_part_43 ?_
        refine lv_goto (tgt := 48) hx hb dX12_part_44 (by decide) ?_
        cases ho
        exact rtI C0 hW dX12_part_48
    · replace ho := ite_f c5 ho
      refine lv_bipush (v := (-2 : Int32)) hx hb dX12_part_18 (by decide) ?_
      cases ho
      exact rtI C0 hW dX12_part_20
noncomputable def m_isSet (t : St) (a0 : Int32) : Option (Int32) :=
  (m_in t a0 (0 : Int32) (65535 : Int32)).bind (fun q1 => some q1)
set_option maxHeartbeats 4000000 in
set_option maxRecDepth 100000 in
theorem c_m_isSet (l : Launch) {D : va_G} {cI cJ cZ : ClassId} {am : Nat → Nat} (sz : Nat) (t : St) (a0 : Int32) {r : Int32} (ho : m_isSet t a0 = some r) : Met l yX12_isSet (.code yX12_isSet cX12_isSet 1 (some .boolean) :: wsAll) (rmN 1 22) (va_Pc [.int a0] (prW D (tyM cI cJ cZ) (wM cI cJ cZ am t) sz)) (qZ r D (tyM cI cJ cZ) (wM cI cJ cZ am t) (va_A (wM cI cJ cZ am t) sz)) 0 0 (va_A (wM cI cJ cZ am t) sz) := by
  refine Met.ofW (cc := cX12_isSet) (maxL := 1) (ret := (some .boolean)) (by decide) rfl ?_
  intro p e s m args below meth c s₁ B hml hv
  obtain ⟨rfl, hsz, hP, hK, hD0⟩ := hv
  have hx := B.exec
  have hb := B.bytes
  have hts := atoms_spec (ws := (.code yX12_isSet cX12_isSet 1 (some .boolean) :: wsAll)) B.pre
  have hta := fun w h => hts w (List.mem_cons_of_mem _ h)
  have hown : s.vm.findClass RX12 = some m.cls := findClass_of_methodNamed B.named
  have hlocks := B.notSynchronized
  subst hsz
  have hD := hD0.self (sz := s.heap.size)
  generalize hAe : va_A (wM cI cJ cZ am t) s.heap.size = A at hD ⊢
  have hA : ∀ q : Nat, s.heap.size ≤ q → A q := fun q h => by rw [← hAe]; exact Or.inr h
  have C0 : cx p s m ([.int a0].toArray) meth c cX12_isSet RX12 1 (some .boolean) D (tyM cI cJ cZ) A := ⟨hx, hb, B.returns, hml, hown, hta, hlocks, hK, hA⟩
  have hW : wl D A s (wM cI cJ cZ am t) s.heap [] := ⟨hP, hD, va_S.rf⟩
  have hl := lv_entry [.int a0] (n := 1) (Nat.le_of_ble_eq_true rfl)
  rw [lg_entry_eq]
  generalize (lg_sl [.int a0] ++ List.replicate (1 - (lg_sl [.int a0]).length) Slot.unset).toArray = ls at hl ⊢
  have hl : lv_has ls 1 [(0, .int a0)] := hl
  unfold m_isSet at ho
  refine lv_iload_n hx hb dX12_isSet_0 rfl (lv_at hl 0 rfl) ?_
  refine lv_iconst (v := (0 : Int32)) hx hb dX12_isSet_1 (by decide) ?_
  refine lv_ldcw hx hb hown (hta _ kw_1839) dX12_isSet_2 ?_
  obtain ⟨q1, hc2, ho⟩ := bd_some ho
  refine bkZ C0 hW (runS (As := [.int a0, .int (0 : Int32), .int (65535 : Int32)]) (rest := []) C0 hW (c_m_in l _ t a0 (0 : Int32) (65535 : Int32) (r := q1) hc2) ca_X12_in_179 rfl rfl ⟨rfl, rfl⟩ ⟨Nat.le_of_ble_eq_true rfl, Nat.le_of_ble_eq_true rfl⟩ (Nat.le_of_ble_eq_true rfl) hl.1 dX12_isSet_5 ⟨Nat.le_of_ble_eq_true rfl, Nat.le_of_ble_eq_true rfl⟩) (fun z3 H locs hW => ?_)
  cases ho
  exact rtZ C0 hW z3 dX12_isSet_8
noncomputable def m_reaches (t : St) (a1 : Int32) (a2 : Int32) : Option (Int32) :=
  (m_isSet t a2).bind (fun q1 => (m_why t a1 q1).bind (fun q4 => if q4 = (1 : Int32) then (gd a1 10 ((m_isReached t (gA t 16 (a1).toNatClampNeg) a2).bind (fun q8 => if q8 = 0 then (some (0 : Int32)) else (some (1 : Int32))))) else (some q4)))
set_option maxHeartbeats 4000000 in
set_option maxRecDepth 100000 in
theorem c_m_reaches (l : Launch) {D : va_G} {cI cJ cZ : ClassId} {am : Nat → Nat} (sz : Nat) (t : St) (a1 : Int32) (a2 : Int32) {r : Int32} (ho : m_reaches t a1 a2 = some r) : Met l yX12_reaches (.code yX12_reaches cX12_reaches 4 (some .int) :: wsAll) (rmN 3 64) (va_Pc [.ref (am 68), .int a1, .int a2] (prW D (tyM cI cJ cZ) (wM cI cJ cZ am t) sz)) (qI r D (tyM cI cJ cZ) (wM cI cJ cZ am t) (va_A (wM cI cJ cZ am t) sz)) 0 0 (va_A (wM cI cJ cZ am t) sz) := by
  refine Met.ofW (cc := cX12_reaches) (maxL := 4) (ret := (some .int)) (by decide) rfl ?_
  intro p e s m args below meth c s₁ B hml hv
  obtain ⟨rfl, hsz, hP, hK, hD0⟩ := hv
  have hx := B.exec
  have hb := B.bytes
  have hts := atoms_spec (ws := (.code yX12_reaches cX12_reaches 4 (some .int) :: wsAll)) B.pre
  have hta := fun w h => hts w (List.mem_cons_of_mem _ h)
  have hown : s.vm.findClass RX12 = some m.cls := findClass_of_methodNamed B.named
  have hlocks := B.notSynchronized
  subst hsz
  have hD := hD0.self (sz := s.heap.size)
  generalize hAe : va_A (wM cI cJ cZ am t) s.heap.size = A at hD ⊢
  have hA : ∀ q : Nat, s.heap.size ≤ q → A q := fun q h => by rw [← hAe]; exact Or.inr h
  have C0 : cx p s m ([.ref (am 68), .int a1, .int a2].toArray) meth c cX12_reaches RX12 4 (some .int) D (tyM cI cJ cZ) A := ⟨hx, hb, B.returns, hml, hown, hta, hlocks, hK, hA⟩
  have hW : wl D A s (wM cI cJ cZ am t) s.heap [] := ⟨hP, hD, va_S.rf⟩
  have hl := lv_entry [.ref (am 68), .int a1, .int a2] (n := 4) (Nat.le_of_ble_eq_true rfl)
  rw [lg_entry_eq]
  generalize (lg_sl [.ref (am 68), .int a1, .int a2] ++ List.replicate (4 - (lg_sl [.ref (am 68), .int a1, .int a2]).length) Slot.unset).toArray = ls at hl ⊢
  have hl : lv_has ls 4 [(0, .ref (am 68)), (1, .int a1), (2, .int a2)] := hl
  unfold m_reaches at ho
  refine lv_aload_n hx hb dX12_reaches_0 rfl (lv_at hl 0 rfl) ?_
  refine lv_iload_n hx hb dX12_reaches_1 rfl (lv_at hl 1 rfl) ?_
  refine lv_iload_n hx hb dX12_reaches_2 rfl (lv_at hl 2 rfl) ?_
  obtain ⟨q1, hc2, ho⟩ := bd_some ho
  refine bkZ C0 hW (runS (As := [.int a2]) (rest := [.int a1, .ref (am 68)]) C0 hW (c_m_isSet l _ t a2 (r := q1) hc2) ca_X12_isSet_279 rfl rfl ⟨rfl, rfl⟩ ⟨Nat.le_of_ble_eq_true rfl, Nat.le_of_ble_eq_true rfl⟩ (Nat.le_of_ble_eq_true rfl) hl.1 dX12_reaches_3 ⟨Nat.le_of_ble_eq_true rfl, Nat.le_of_ble_eq_true rfl⟩) (fun z3 H locs hW => ?_)
  obtain ⟨q4, hc5, ho⟩ := bd_some ho
  refine bkI C0 hW (runV (As := [.int a1, .int q1]) (rest := []) C0 hW (c_m_why l _ t a1 q1 (r := q4) hc5) ca_X12_why_271 0 12 rfl rfl rfl rfl rfl ⟨rfl, rfl⟩ ⟨Nat.le_of_ble_eq_true rfl, Nat.le_of_ble_eq_true rfl⟩ (Nat.le_of_ble_eq_true rfl) hl.1 dX12_reaches_6 ⟨Nat.le_of_ble_eq_true rfl, Nat.le_of_ble_eq_true rfl⟩) (fun H locs hW => ?_)
  refine lv_istore_n (lv' := [(3, .int q4), (0, .ref (am 68)), (1, .int a1), (2, .int a2)]) hx hb dX12_reaches_9 rfl hl (by decide) rfl (fun ls hl => ?_)
  refine lv_iload_n hx hb dX12_reaches_10 rfl (lv_at hl 0 rfl) ?_
  refine lv_iconst (v := (1 : Int32)) hx hb dX12_reaches_11 (by decide) ?_
  refine lv_icmp_eq (tgt := 19) hx hb dX12_reaches_12 (by decide) (fun c6 => ?_) (fun c6 => ?_)
  · replace ho := ite_t c6 ho
    refine lv_aload_n hx hb dX12_reaches_19 rfl (lv_at hl 1 rfl) ?_
    refine lv_aload_n hx hb dX12_reaches_20 rfl (lv_at hl 1 rfl) ?_
    refine mGET_16 C0 hW dX12_reaches_21 ?_
    refine lv_iload_n hx hb dX12_reaches_24 rfl (lv_at hl 2 rfl) ?_
    obtain ⟨g7, ho⟩ := gd_some ho
    refine mLD_16 C0 hW g7 dX12_reaches_25 ?_
    refine lv_iload_n hx hb dX12_reaches_26 rfl (lv_at hl 3 rfl) ?_
    obtain ⟨q8, hc9, ho⟩ := bd_some ho
    refine bkZ C0 hW (runV (As := [.int (gA t 16 (a1).toNatClampNeg), .int a2]) (rest := []) C0 hW (c_m_isReached l _ t (gA t 16 (a1).toNatClampNeg) a2 (r := q8) hc9) ca_X12_isReached_282 0 12 rfl rfl rfl rfl rfl ⟨rfl, rfl⟩ ⟨Nat.le_of_ble_eq_true rfl, Nat.le_of_ble_eq_true rfl⟩ (Nat.le_of_ble_eq_true rfl) hl.1 dX12_reaches_27 ⟨Nat.le_of_ble_eq_true rfl, Nat.le_of_ble_eq_true rfl⟩) (fun z10 H locs hW => ?_)
    refine lv_if_eq (tgt := 37) hx hb dX12_reaches_30 (by decide) (fun c11 => ?_) (fun c11 => ?_)
    · replace ho := ite_t c11 ho
      refine lv_iconst (v := (0 : Int32)) hx hb dX12_reaches_37 (by decide) ?_
      cases ho
      exact rtI C0 hW dX12_reaches_38
    · replace ho := ite_f c11 ho
      refine lv_iconst (v := (1 : Int32)) hx hb dX12_reaches_33 (by decide) ?_
      refine lv_goto (tgt := 38) hx hb dX12_reaches_34 (by decide) ?_
      cases ho
      exact rtI C0 hW dX12_reaches_38
  · replace ho := ite_f c6 ho
    refine lv_iload_n hx hb dX12_reaches_15 rfl (lv_at hl 0 rfl) ?_
    refine lv_goto (tgt := 38) hx hb dX12_reaches_16 (by decide) ?_
    cases ho
    exact rtI C0 hW dX12_reaches_38
noncomputable def m_sizeOf_B4 (t : St) (v1 : Int32) (v2 : Int32) : Option ((Int32 × Int32) ⊕ (Int32)) :=
  if v2 ≤ 0 then (some (.inr v1)) else (nm (v1 + (v2 &&& (1 : Int32))) (fun x2 : Int32 => nm (v2 >>> ((1 : Int32) &&& 31)) (fun x3 : Int32 => some (.inl (x2, x3)))))
noncomputable def m_sizeOf (t : St) (a0 : Int32) : Option (Int32) :=
  (lp (fun x => m_sizeOf_B4 t x.1 x.2) ((0 : Int32), a0)).bind (fun y4 => some y4)
set_option maxHeartbeats 4000000 in
set_option maxRecDepth 100000 in
theorem m_sizeOf_L4 {p : Program} {l : Launch} {e : Env} {s : State} {m : MethodId} {args : Array Value} {below : List Frame} {meth : Method} {c : Code} {Q : State → Prop} {D : va_G} {cI cJ cZ : ClassId} {am : Nat → Nat} {A : Nat → Prop} (C0 : cx p s m args meth c cX12_sizeOf RX12 3 (some .int) D (tyM cI cJ cZ) A) {t : St} {y : Int32} (hK0 : ∀ (H : Heap) (locs : List Loc) (ls : Array Slot), wl D A s (wM cI cJ cZ am t) H locs → lv_has ls 3 [(1, .int y)] → W p l e (rmN 0 0) s m args below meth c H locs 0 0 Q (F0 m 21 ls [])) :
    ∀ (n : Nat) (v1 : Int32) (v2 : Int32), lpn (fun x => m_sizeOf_B4 t x.1 x.2) n (v1, v2) = some y → ∀ (H : Heap) (locs : List Loc) (ls : Array Slot), wl D A s (wM cI cJ cZ am t) H locs → lv_has ls 3 [(1, .int v1), (2, .int v2)] → W p l e (rmN 0 0) s m args below meth c H locs 0 0 Q (F0 m 4 ls []) := by
  have hx := C0.1
  have hb := C0.2.1
  have hta := C0.2.2.2.2.2.1
  have hown := C0.2.2.2.2.1
  intro n
  induction n with
  | zero => intro _ _ h; cases h
  | succ n ih =>
    intro v1 v2 hrun H locs ls hW hl
    obtain ⟨o, ho, hrun⟩ := bd_some hrun
    unfold m_sizeOf_B4 at ho
    refine lv_iload_n hx hb dX12_sizeOf_4 rfl (lv_at hl 1 rfl) ?_
    refine lv_if_le (tgt := 21) hx hb dX12_sizeOf_5 (by decide) (fun c1 => ?_) (fun c1 => ?_)
    · replace ho := ite_t c1 ho
      cases ho
      cases hrun
      exact hK0 _ _ _ hW (lv_sub hl [0] rfl)
    · replace ho := ite_f c1 ho
      refine lv_iload_n hx hb dX12_sizeOf_8 rfl (lv_at hl 0 rfl) ?_
      refine lv_iload_n hx hb dX12_sizeOf_9 rfl (lv_at hl 1 rfl) ?_
      refine lv_iconst (v := (1 : Int32)) hx hb dX12_sizeOf_10 (by decide) ?_
      refine lv_iand hx hb dX12_sizeOf_11 ?_
      refine lv_iadd hx hb dX12_sizeOf_12 ?_
      refine lv_nmi ho (fun x2 ho => ?_)
      refine lv_istore_n (lv' := [(1, .int x2), (2, .int v2)]) hx hb dX12_sizeOf_13 rfl hl (by decide) rfl (fun ls hl => ?_)
      refine lv_iload_n hx hb dX12_sizeOf_14 rfl (lv_at hl 1 rfl) ?_
      refine lv_iconst (v := (1 : Int32)) hx hb dX12_sizeOf_15 (by decide) ?_
      refine lv_ishr hx hb dX12_sizeOf_16 ?_
      refine lv_nmi ho (fun x3 ho => ?_)
      refine lv_istore_n (lv' := [(2, .int x3), (1, .int x2)]) hx hb dX12_sizeOf_17 rfl hl (by decide) rfl (fun ls hl => ?_)
      refine lv_goto (tgt := 4) hx hb dX12_sizeOf_18 (by decide) ?_
      cases ho
      exact ih _ _ hrun _ _ _ hW (lv_sub hl [1, 0] rfl)
set_option maxHeartbeats 4000000 in
set_option maxRecDepth 100000 in
theorem c_m_sizeOf (l : Launch) {D : va_G} {cI cJ cZ : ClassId} {am : Nat → Nat} (sz : Nat) (t : St) (a0 : Int32) {r : Int32} (ho : m_sizeOf t a0 = some r) : Met l yX12_sizeOf (.code yX12_sizeOf cX12_sizeOf 3 (some .int) :: wsAll) (rmN 0 0) (va_Pc [.int a0] (prW D (tyM cI cJ cZ) (wM cI cJ cZ am t) sz)) (qI r D (tyM cI cJ cZ) (wM cI cJ cZ am t) (va_A (wM cI cJ cZ am t) sz)) 0 0 (va_A (wM cI cJ cZ am t) sz) := by
  refine Met.ofW (cc := cX12_sizeOf) (maxL := 3) (ret := (some .int)) (by decide) rfl ?_
  intro p e s m args below meth c s₁ B hml hv
  obtain ⟨rfl, hsz, hP, hK, hD0⟩ := hv
  have hx := B.exec
  have hb := B.bytes
  have hts := atoms_spec (ws := (.code yX12_sizeOf cX12_sizeOf 3 (some .int) :: wsAll)) B.pre
  have hta := fun w h => hts w (List.mem_cons_of_mem _ h)
  have hown : s.vm.findClass RX12 = some m.cls := findClass_of_methodNamed B.named
  have hlocks := B.notSynchronized
  subst hsz
  have hD := hD0.self (sz := s.heap.size)
  generalize hAe : va_A (wM cI cJ cZ am t) s.heap.size = A at hD ⊢
  have hA : ∀ q : Nat, s.heap.size ≤ q → A q := fun q h => by rw [← hAe]; exact Or.inr h
  have C0 : cx p s m ([.int a0].toArray) meth c cX12_sizeOf RX12 3 (some .int) D (tyM cI cJ cZ) A := ⟨hx, hb, B.returns, hml, hown, hta, hlocks, hK, hA⟩
  have hW : wl D A s (wM cI cJ cZ am t) s.heap [] := ⟨hP, hD, va_S.rf⟩
  have hl := lv_entry [.int a0] (n := 3) (Nat.le_of_ble_eq_true rfl)
  rw [lg_entry_eq]
  generalize (lg_sl [.int a0] ++ List.replicate (3 - (lg_sl [.int a0]).length) Slot.unset).toArray = ls at hl ⊢
  have hl : lv_has ls 3 [(0, .int a0)] := hl
  unfold m_sizeOf at ho
  refine lv_iconst (v := (0 : Int32)) hx hb dX12_sizeOf_0 (by decide) ?_
  refine lv_istore_n (lv' := [(1, .int (0 : Int32)), (0, .int a0)]) hx hb dX12_sizeOf_1 rfl hl (by decide) rfl (fun ls hl => ?_)
  refine lv_iload_n hx hb dX12_sizeOf_2 rfl (lv_at hl 1 rfl) ?_
  refine lv_istore_n (lv' := [(2, .int a0), (1, .int (0 : Int32)), (0, .int a0)]) hx hb dX12_sizeOf_3 rfl hl (by decide) rfl (fun ls hl => ?_)
  obtain ⟨y4, hc6, ho⟩ := bd_some ho
  obtain ⟨ny4, hc6⟩ := lp_to hc6
  refine m_sizeOf_L4 C0 ?_ ny4 _ _ hc6 _ _ _ hW (lv_sub hl [1, 0] rfl)
  intro H locs ls hW hl
  refine lv_iload_n hx hb dX12_sizeOf_21 rfl (lv_at hl 0 rfl) ?_
  cases ho
  exact rtI C0 hW dX12_sizeOf_22
noncomputable def m_findLesser_B2 (v1 : Int32) (v2 : Int32) (t : St) : Option ((Int32 × St) ⊕ (St)) :=
  if (1024 : Int32) ≤ v2 then (some (.inr t)) else (gd v2 1024 (nm (sB t 28 v2 (0 : Int64)) (fun t3 : St => nm (v2 + (1 : Int32)) (fun x4 : Int32 => some (.inl (x4, t3))))))
noncomputable def m_findLesser_B52 (v1 : Int32) (v2 : Int32) (v3 : Int64) (v5 : Int32) (t : St) : Option ((Int32 × St) ⊕ (St)) :=
  if (1024 : Int32) ≤ v5 then (some (.inr t)) else (if (6 : Int32) ≤ v2 then ((m_isIn t v5 (0 : Int32) v2).bind (fun q7 => if q7 = 0 then (nm (v5 + (1 : Int32)) (fun x11 : Int32 => some (.inl (x11, t)))) else (gd v5 1024 (gd (((1024 : Int32) * v1) + (v5 &&& (((1 : Int32) <<< ((v2 - (6 : Int32)) &&& 31)) ^^^ (-1 : Int32)))) 256000 (gd v5 1024 (nm (sB t 28 v5 ((gB t 28 (v5).toNatClampNeg) ||| (gB t 17 ((((1024 : Int32) * v1) + (v5 &&& (((1 : Int32) <<< ((v2 - (6 : Int32)) &&& 31)) ^^^ (-1 : Int32))))).toNatClampNeg))) (fun t15 : St => nm (v5 + (1 : Int32)) (fun x16 : Int32 => some (.inl (x16, t15)))))))))) else (gd v5 1024 (gd (((1024 : Int32) * v1) + v5) 256000 (gd v5 1024 (nm (sB t 28 v5 ((gB t 28 (v5).toNatClampNeg) ||| ((((gB t 17 ((((1024 : Int32) * v1) + v5)).toNatClampNeg) &&& v3) <<< ((((1 : Int32) <<< (v2 &&& 31))).toInt64 &&& 63))))) (fun t20 : St => nm (v5 + (1 : Int32)) (fun x21 : Int32 => some (.inl (x21, t20)))))))))
noncomputable def m_findLesser_J48 (t : St) (v1 : Int32) (v2 : Int32) (w0 : Int64) : Option ((Int32 × St) ⊕ (St)) :=
  (lp (fun x => m_findLesser_B52 v1 v2 w0 x.1 x.2) ((0 : Int32), t)).bind (fun y22 => nm (v2 + (1 : Int32)) (fun x25 : Int32 => some (.inl (x25, y22))))
noncomputable def m_findLesser_B24 (v1 : Int32) (v2 : Int32) (t : St) : Option ((Int32 × St) ⊕ (St)) :=
  if (16 : Int32) ≤ v2 then (some (.inr t)) else (if (6 : Int32) ≤ v2 then (m_findLesser_J48 t v1 v2 (0 : Int64)) else ((m_patternOf t v2).bind (fun q28 => m_findLesser_J48 t v1 v2 (q28 ^^^ (-1 : Int64)))))
noncomputable def m_findLesser (t : St) (a1 : Int32) : Option (St) :=
  (lp (fun x => m_findLesser_B2 a1 x.1 x.2) ((0 : Int32), t)).bind (fun y30 => (lp (fun x => m_findLesser_B24 a1 x.1 x.2) ((0 : Int32), y30)).bind (fun y33 => some y33))
set_option maxHeartbeats 4000000 in
set_option maxRecDepth 100000 in
theorem m_findLesser_L2 {p : Program} {l : Launch} {e : Env} {s : State} {m : MethodId} {args : Array Value} {below : List Frame} {meth : Method} {c : Code} {Q : State → Prop} {D : va_G} {cI cJ cZ : ClassId} {am : Nat → Nat} {A : Nat → Prop} (C0 : cx p s m args meth c cX12_findLesser RX12 6 none D (tyM cI cJ cZ) A) {v1 : Int32} {y : St} (hK0 : ∀ (H : Heap) (locs : List Loc) (ls : Array Slot), wl D A s (wM cI cJ cZ am y) H locs → lv_has ls 6 [(0, .ref (am 68)), (1, .int v1)] → W p l e (rmN 1 23) s m args below meth c H locs 0 0 Q (F0 m 22 ls [])) :
    ∀ (n : Nat) (v2 : Int32) (t : St), lpn (fun x => m_findLesser_B2 v1 x.1 x.2) n (v2, t) = some y → ∀ (H : Heap) (locs : List Loc) (ls : Array Slot), wl D A s (wM cI cJ cZ am t) H locs → lv_has ls 6 [(0, .ref (am 68)), (1, .int v1), (2, .int v2)] → W p l e (rmN 1 23) s m args below meth c H locs 0 0 Q (F0 m 2 ls []) := by
  have hx := C0.1
  have hb := C0.2.1
  have hta := C0.2.2.2.2.2.1
  have hown := C0.2.2.2.2.1
  intro n
  induction n with
  | zero => intro _ _ h; cases h
  | succ n ih =>
    intro v2 t hrun H locs ls hW hl
    obtain ⟨o, ho, hrun⟩ := bd_some hrun
    unfold m_findLesser_B2 at ho
    refine lv_iload_n hx hb dX12_findLesser_2 rfl (lv_at hl 2 rfl) ?_
    refine lv_sipush (v := (1024 : Int32)) hx hb dX12_findLesser_3 (by decide) ?_
    refine lv_icmp_ge (tgt := 22) hx hb dX12_findLesser_6 (by decide) (fun c1 => ?_) (fun c1 => ?_)
    · replace ho := ite_t c1 ho
      cases ho
      cases hrun
      exact hK0 _ _ _ hW (lv_sub hl [0, 1] rfl)
    · replace ho := ite_f c1 ho
      refine lv_aload_n hx hb dX12_findLesser_9 rfl (lv_at hl 0 rfl) ?_
      refine mGET_28 C0 hW dX12_findLesser_10 ?_
      refine lv_iload_n hx hb dX12_findLesser_13 rfl (lv_at hl 2 rfl) ?_
      refine lv_lconst (v := (0 : Int64)) hx hb dX12_findLesser_14 (by decide) ?_
      obtain ⟨g2, ho⟩ := gd_some ho
      refine mST_28 C0 hW g2 dX12_findLesser_15 (fun H locs hW => ?_)
      obtain ⟨t3, ho, hW⟩ := nm_w (P := fun t => wl D A s (wM cI cJ cZ am t) H locs) ho hW
      obtain ⟨x4, ex4, ho⟩ := nm_x ho
      refine lv_iinc (v := x4) (lv' := [(2, .int x4), (0, .ref (am 68)), (1, .int v1)]) hx hb dX12_findLesser_16 hl (k := 2) rfl (by rw [ex4]; rfl) (by decide) rfl (fun ls hl => ?_)
      clear ex4
      refine lv_goto (tgt := 2) hx hb dX12_findLesser_19 (by decide) ?_
      cases ho
      exact ih _ _ hrun _ _ _ hW (lv_sub hl [1, 2, 0] rfl)
set_option maxHeartbeats 4000000 in
set_option maxRecDepth 100000 in
theorem m_findLesser_L52 {p : Program} {l : Launch} {e : Env} {s : State} {m : MethodId} {args : Array Value} {below : List Frame} {meth : Method} {c : Code} {Q : State → Prop} {D : va_G} {cI cJ cZ : ClassId} {am : Nat → Nat} {A : Nat → Prop} (C0 : cx p s m args meth c cX12_findLesser RX12 6 none D (tyM cI cJ cZ) A) {v1 : Int32} {v2 : Int32} {v3 : Int64} {y : St} (hK0 : ∀ (H : Heap) (locs : List Loc) (ls : Array Slot), wl D A s (wM cI cJ cZ am y) H locs → lv_has ls 6 [(0, .ref (am 68)), (1, .int v1), (2, .int v2)] → W p l e (rmN 1 23) s m args below meth c H locs 0 0 Q (F0 m 146 ls [])) :
    ∀ (n : Nat) (v5 : Int32) (t : St), lpn (fun x => m_findLesser_B52 v1 v2 v3 x.1 x.2) n (v5, t) = some y → ∀ (H : Heap) (locs : List Loc) (ls : Array Slot), wl D A s (wM cI cJ cZ am t) H locs → lv_has ls 6 [(0, .ref (am 68)), (1, .int v1), (2, .int v2), (3, .long v3), (5, .int v5)] → W p l e (rmN 1 23) s m args below meth c H locs 0 0 Q (F0 m 52 ls []) := by
  have hx := C0.1
  have hb := C0.2.1
  have hta := C0.2.2.2.2.2.1
  have hown := C0.2.2.2.2.1
  intro n
  induction n with
  | zero => intro _ _ h; cases h
  | succ n ih =>
    intro v5 t hrun H locs ls hW hl
    obtain ⟨o, ho, hrun⟩ := bd_some hrun
    unfold m_findLesser_B52 at ho
    refine lv_iload hx hb dX12_findLesser_52 (lv_at hl 4 rfl) ?_
    refine lv_sipush (v := (1024 : Int32)) hx hb dX12_findLesser_54 (by decide) ?_
    refine lv_icmp_ge (tgt := 146) hx hb dX12_findLesser_57 (by decide) (fun c5 => ?_) (fun c5 => ?_)
    · replace ho := ite_t c5 ho
      cases ho
      cases hrun
      exact hK0 _ _ _ hW (lv_sub hl [0, 1, 2] rfl)
    · replace ho := ite_f c5 ho
      refine lv_iload_n hx hb dX12_findLesser_60 rfl (lv_at hl 2 rfl) ?_
      refine lv_bipush (v := (6 : Int32)) hx hb dX12_findLesser_61 (by decide) ?_
      refine lv_icmp_ge (tgt := 98) hx hb dX12_findLesser_63 (by decide) (fun c6 => ?_) (fun c6 => ?_)
      · replace ho := ite_t c6 ho
        refine lv_iload hx hb dX12_findLesser_98 (lv_at hl 4 rfl) ?_
        refine lv_iconst (v := (0 : Int32)) hx hb dX12_findLesser_100 (by decide) ?_
        refine lv_iload_n hx hb dX12_findLesser_101 rfl (lv_at hl 2 rfl) ?_
        obtain ⟨q7, hc8, ho⟩ := bd_some ho
        refine bkZ C0 hW (runS (As := [.int v5, .int (0 : Int32), .int v2]) (rest := []) C0 hW (c_m_isIn l _ t v5 (0 : Int32) v2 (r := q7) hc8) ca_X12_isIn_262 rfl rfl ⟨rfl, rfl⟩ ⟨Nat.le_of_ble_eq_true rfl, Nat.le_of_ble_eq_true rfl⟩ (Nat.le_of_ble_eq_true rfl) hl.1 dX12_findLesser_102 ⟨Nat.le_of_ble_eq_true rfl, Nat.le_of_ble_eq_true rfl⟩) (fun z9 H locs hW => ?_)
        refine lv_if_eq (tgt := 140) hx hb dX12_findLesser_105 (by decide) (fun c10 => ?_) (fun c10 => ?_)
        · replace ho := ite_t c10 ho
          obtain ⟨x11, ex11, ho⟩ := nm_x ho
          refine lv_iinc (v := x11) (lv' := [(5, .int x11), (0, .ref (am 68)), (1, .int v1), (2, .int v2), (3, .long v3)]) hx hb dX12_findLesser_140 hl (k := 4) rfl (by rw [ex11]; rfl) (by decide) rfl (fun ls hl => ?_)
          clear ex11
          refine lv_goto (tgt := 52) hx hb dX12_findLesser_143 (by decide) ?_
          cases ho
          exact ih _ _ hrun _ _ _ hW (lv_sub hl [1, 2, 3, 4, 0] rfl)
        · replace ho := ite_f c10 ho
          refine lv_aload_n hx hb dX12_findLesser_108 rfl (lv_at hl 0 rfl) ?_
          refine mGET_28 C0 hW dX12_findLesser_109 ?_
          refine lv_iload hx hb dX12_findLesser_112 (lv_at hl 4 rfl) ?_
          refine lv_dup2_11 hx hb dX12_findLesser_114 rfl rfl ?_
          obtain ⟨g12, ho⟩ := gd_some ho
          refine mLD_28 C0 hW g12 dX12_findLesser_115 ?_
          refine lv_aload_n hx hb dX12_findLesser_116 rfl (lv_at hl 0 rfl) ?_
          refine mGET_17 C0 hW dX12_findLesser_117 ?_
          refine lv_sipush (v := (1024 : Int32)) hx hb dX12_findLesser_120 (by decide) ?_
          refine lv_iload_n hx hb dX12_findLesser_123 rfl (lv_at hl 1 rfl) ?_
          refine lv_imul hx hb dX12_findLesser_124 ?_
          refine lv_iload hx hb dX12_findLesser_125 (lv_at hl 4 rfl) ?_
          refine lv_iconst (v := (1 : Int32)) hx hb dX12_findLesser_127 (by decide) ?_
          refine lv_iload_n hx hb dX12_findLesser_128 rfl (lv_at hl 2 rfl) ?_
          refine lv_bipush (v := (6 : Int32)) hx hb dX12_findLesser_129 (by decide) ?_
          refine lv_isub hx hb dX12_findLesser_131 ?_
          refine lv_ishl hx hb dX12_findLesser_132 ?_
          refine lv_iconst (v := (-1 : Int32)) hx hb dX12_findLesser_133 (by decide) ?_
          refine lv_ixor hx hb dX12_findLesser_134 ?_
          refine lv_iand hx hb dX12_findLesser_135 ?_
          refine lv_iadd hx hb dX12_findLesser_136 ?_
          obtain ⟨g13, ho⟩ := gd_some ho
          refine mLD_17 C0 hW g13 dX12_findLesser_137 ?_
          refine lv_lor hx hb dX12_findLesser_138 ?_
          obtain ⟨g14, ho⟩ := gd_some ho
          refine mST_28 C0 hW g14 dX12_findLesser_139 (fun H locs hW => ?_)
          obtain ⟨t15, ho, hW⟩ := nm_w (P := fun t => wl D A s (wM cI cJ cZ am t) H locs) ho hW
          obtain ⟨x16, ex16, ho⟩ := nm_x ho
          refine lv_iinc (v := x16) (lv' := [(5, .int x16), (0, .ref (am 68)), (1, .int v1), (2, .int v2), (3, .long v3)]) hx hb dX12_findLesser_140 hl (k := 4) rfl (by rw [ex16]; rfl) (by decide) rfl (fun ls hl => ?_)
          clear ex16
          refine lv_goto (tgt := 52) hx hb dX12_findLesser_143 (by decide) ?_
          cases ho
          exact ih _ _ hrun _ _ _ hW (lv_sub hl [1, 2, 3, 4, 0] rfl)
      · replace ho := ite_f c6 ho
        refine lv_aload_n hx hb dX12_findLesser_66 rfl (lv_at hl 0 rfl) ?_
        refine mGET_28 C0 hW dX12_findLesser_67 ?_
        refine lv_iload hx hb dX12_findLesser_70 (lv_at hl 4 rfl) ?_
        refine lv_dup2_11 hx hb dX12_findLesser_72 rfl rfl ?_
        obtain ⟨g17, ho⟩ := gd_some ho
        refine mLD_28 C0 hW g17 dX12_findLesser_73 ?_
        refine lv_aload_n hx hb dX12_findLesser_74 rfl (lv_at hl 0 rfl) ?_
        refine mGET_17 C0 hW dX12_findLesser_75 ?_
        refine lv_sipush (v := (1024 : Int32)) hx hb dX12_findLesser_78 (by decide) ?_
        refine lv_iload_n hx hb dX12_findLesser_81 rfl (lv_at hl 1 rfl) ?_
        refine lv_imul hx hb dX12_findLesser_82 ?_
        refine lv_iload hx hb dX12_findLesser_83 (lv_at hl 4 rfl) ?_
        refine lv_iadd hx hb dX12_findLesser_85 ?_
        obtain ⟨g18, ho⟩ := gd_some ho
        refine mLD_17 C0 hW g18 dX12_findLesser_86 ?_
        refine lv_lload_n hx hb dX12_findLesser_87 rfl (lv_at hl 3 rfl) ?_
        refine lv_land hx hb dX12_findLesser_88 ?_
        refine lv_iconst (v := (1 : Int32)) hx hb dX12_findLesser_89 (by decide) ?_
        refine lv_iload_n hx hb dX12_findLesser_90 rfl (lv_at hl 2 rfl) ?_
        refine lv_ishl hx hb dX12_findLesser_91 ?_
        refine lv_lshl hx hb dX12_findLesser_92 rfl ?_
        refine lv_lor hx hb dX12_findLesser_93 ?_
        obtain ⟨g19, ho⟩ := gd_some ho
        refine mST_28 C0 hW g19 dX12_findLesser_94 (fun H locs hW => ?_)
        obtain ⟨t20, ho, hW⟩ := nm_w (P := fun t => wl D A s (wM cI cJ cZ am t) H locs) ho hW
        refine lv_goto (tgt := 140) hx hb dX12_findLesser_95 (by decide) ?_
        obtain ⟨x21, ex21, ho⟩ := nm_x ho
        refine lv_iinc (v := x21) (lv' := [(5, .int x21), (0, .ref (am 68)), (1, .int v1), (2, .int v2), (3, .long v3)]) hx hb dX12_findLesser_140 hl (k := 4) rfl (by rw [ex21]; rfl) (by decide) rfl (fun ls hl => ?_)
        clear ex21
        refine lv_goto (tgt := 52) hx hb dX12_findLesser_143 (by decide) ?_
        cases ho
        exact ih _ _ hrun _ _ _ hW (lv_sub hl [1, 2, 3, 4, 0] rfl)
set_option maxHeartbeats 4000000 in
set_option maxRecDepth 100000 in
theorem m_findLesser_L24 {p : Program} {l : Launch} {e : Env} {s : State} {m : MethodId} {args : Array Value} {below : List Frame} {meth : Method} {c : Code} {Q : State → Prop} {D : va_G} {cI cJ cZ : ClassId} {am : Nat → Nat} {A : Nat → Prop} (C0 : cx p s m args meth c cX12_findLesser RX12 6 none D (tyM cI cJ cZ) A) {v1 : Int32} {y : St} (hK0 : ∀ (H : Heap) (locs : List Loc) (ls : Array Slot), wl D A s (wM cI cJ cZ am y) H locs → lv_has ls 6 [(0, .ref (am 68))] → W p l e (rmN 1 23) s m args below meth c H locs 0 0 Q (F0 m 152 ls [])) :
    ∀ (n : Nat) (v2 : Int32) (t : St), lpn (fun x => m_findLesser_B24 v1 x.1 x.2) n (v2, t) = some y → ∀ (H : Heap) (locs : List Loc) (ls : Array Slot), wl D A s (wM cI cJ cZ am t) H locs → lv_has ls 6 [(0, .ref (am 68)), (1, .int v1), (2, .int v2)] → W p l e (rmN 1 23) s m args below meth c H locs 0 0 Q (F0 m 24 ls []) := by
  have hx := C0.1
  have hb := C0.2.1
  have hta := C0.2.2.2.2.2.1
  have hown := C0.2.2.2.2.1
  intro n
  induction n with
  | zero => intro _ _ h; cases h
  | succ n ih =>
    intro v2 t hrun H locs ls hW hl
    obtain ⟨o, ho, hrun⟩ := bd_some hrun
    have J48 : ∀ (t : St) (v2 : Int32) (w0 : Int64) (_ : m_findLesser_J48 t v1 v2 w0 = some o) (H : Heap) (locs : List Loc) (ls : Array Slot), wl D A s (wM cI cJ cZ am t) H locs → lv_has ls 6 [(0, .ref (am 68)), (1, .int v1), (2, .int v2)] → W p l e (rmN 1 23) s m args below meth c H locs 0 0 Q (F0 m 48 ls [.long w0]) := by
      intro t v2 w0 ho H locs ls hW hl
      unfold m_findLesser_J48 at ho
      refine lv_lstore_n (lv' := [(3, .long w0), (0, .ref (am 68)), (1, .int v1), (2, .int v2)]) hx hb dX12_findLesser_48 rfl hl (by decide) rfl (fun ls hl => ?_)
      refine lv_iconst (v := (0 : Int32)) hx hb dX12_findLesser_49 (by decide) ?_
      refine lv_istore (lv' := [(5, .int (0 : Int32)), (3, .long w0), (0, .ref (am 68)), (1, .int v1), (2, .int v2)]) hx hb dX12_findLesser_50 hl (by decide) rfl (fun ls hl => ?_)
      obtain ⟨y22, hc24, ho⟩ := bd_some ho
      obtain ⟨ny22, hc24⟩ := lp_to hc24
      refine m_findLesser_L52 C0 ?_ ny22 _ _ hc24 _ _ _ hW (lv_sub hl [2, 3, 4, 1, 0] rfl)
      intro H locs ls hW hl
      obtain ⟨x25, ex25, ho⟩ := nm_x ho
      refine lv_iinc (v := x25) (lv' := [(2, .int x25), (0, .ref (am 68)), (1, .int v1)]) hx hb dX12_findLesser_146 hl (k := 2) rfl (by rw [ex25]; rfl) (by decide) rfl (fun ls hl => ?_)
      clear ex25
      refine lv_goto (tgt := 24) hx hb dX12_findLesser_149 (by decide) ?_
      cases ho
      exact ih _ _ hrun _ _ _ hW (lv_sub hl [1, 2, 0] rfl)
    unfold m_findLesser_B24 at ho
    refine lv_iload_n hx hb dX12_findLesser_24 rfl (lv_at hl 2 rfl) ?_
    refine lv_bipush (v := (16 : Int32)) hx hb dX12_findLesser_25 (by decide) ?_
    refine lv_icmp_ge (tgt := 152) hx hb dX12_findLesser_27 (by decide) (fun c26 => ?_) (fun c26 => ?_)
    · replace ho := ite_t c26 ho
      cases ho
      cases hrun
      exact hK0 _ _ _ hW (lv_sub hl [0] rfl)
    · replace ho := ite_f c26 ho
      refine lv_iload_n hx hb dX12_findLesser_30 rfl (lv_at hl 2 rfl) ?_
      refine lv_bipush (v := (6 : Int32)) hx hb dX12_findLesser_31 (by decide) ?_
      refine lv_icmp_ge (tgt := 47) hx hb dX12_findLesser_33 (by decide) (fun c27 => ?_) (fun c27 => ?_)
      · replace ho := ite_t c27 ho
        refine lv_lconst (v := (0 : Int64)) hx hb dX12_findLesser_47 (by decide) ?_
        exact J48 _ _ _ ho _ _ _ hW (lv_sub hl [0, 1, 2] rfl)
      · replace ho := ite_f c27 ho
        refine lv_iload_n hx hb dX12_findLesser_36 rfl (lv_at hl 2 rfl) ?_
        obtain ⟨q28, hc29, ho⟩ := bd_some ho
        refine bkJ C0 hW (runS (As := [.int v2]) (rest := []) C0 hW (c_m_patternOf l _ t v2 (r := q28) hc29) ca_X12_patternOf_258 rfl rfl ⟨rfl, rfl⟩ ⟨Nat.le_of_ble_eq_true rfl, Nat.le_of_ble_eq_true rfl⟩ (Nat.le_of_ble_eq_true rfl) hl.1 dX12_findLesser_37 ⟨Nat.le_of_ble_eq_true rfl, Nat.le_of_ble_eq_true rfl⟩) (fun H locs hW => ?_)
        refine lv_ldc2 hx hb hown (hta _ kw_1807) dX12_findLesser_40 ?_
        refine lv_lxor hx hb dX12_findLesser_43 ?_
        refine lv_goto (tgt := 48) hx hb dX12_findLesser_44 (by decide) ?_
        exact J48 _ _ _ ho _ _ _ hW (lv_sub hl [0, 1, 2] rfl)
set_option maxHeartbeats 4000000 in
set_option maxRecDepth 100000 in
theorem c_m_findLesser (l : Launch) {D : va_G} {cI cJ cZ : ClassId} {am : Nat → Nat} (sz : Nat) (t : St) (a1 : Int32) {t' : St} (ho : m_findLesser t a1 = some t') : Met l yX12_findLesser (.code yX12_findLesser cX12_findLesser 6 none :: wsAll) (rmN 1 23) (va_Pc [.ref (am 68), .int a1] (prW D (tyM cI cJ cZ) (wM cI cJ cZ am t) sz)) (qV D (tyM cI cJ cZ) (wM cI cJ cZ am t') (va_A (wM cI cJ cZ am t) sz)) 0 0 (va_A (wM cI cJ cZ am t) sz) := by
  refine Met.ofW (cc := cX12_findLesser) (maxL := 6) (ret := none) (by decide) rfl ?_
  intro p e s m args below meth c s₁ B hml hv
  obtain ⟨rfl, hsz, hP, hK, hD0⟩ := hv
  have hx := B.exec
  have hb := B.bytes
  have hts := atoms_spec (ws := (.code yX12_findLesser cX12_findLesser 6 none :: wsAll)) B.pre
  have hta := fun w h => hts w (List.mem_cons_of_mem _ h)
  have hown : s.vm.findClass RX12 = some m.cls := findClass_of_methodNamed B.named
  have hlocks := B.notSynchronized
  subst hsz
  have hD := hD0.self (sz := s.heap.size)
  generalize hAe : va_A (wM cI cJ cZ am t) s.heap.size = A at hD ⊢
  have hA : ∀ q : Nat, s.heap.size ≤ q → A q := fun q h => by rw [← hAe]; exact Or.inr h
  have C0 : cx p s m ([.ref (am 68), .int a1].toArray) meth c cX12_findLesser RX12 6 none D (tyM cI cJ cZ) A := ⟨hx, hb, B.returns, hml, hown, hta, hlocks, hK, hA⟩
  have hW : wl D A s (wM cI cJ cZ am t) s.heap [] := ⟨hP, hD, va_S.rf⟩
  have hl := lv_entry [.ref (am 68), .int a1] (n := 6) (Nat.le_of_ble_eq_true rfl)
  rw [lg_entry_eq]
  generalize (lg_sl [.ref (am 68), .int a1] ++ List.replicate (6 - (lg_sl [.ref (am 68), .int a1]).length) Slot.unset).toArray = ls at hl ⊢
  have hl : lv_has ls 6 [(0, .ref (am 68)), (1, .int a1)] := hl
  unfold m_findLesser at ho
  refine lv_iconst (v := (0 : Int32)) hx hb dX12_findLesser_0 (by decide) ?_
  refine lv_istore_n (lv' := [(2, .int (0 : Int32)), (0, .ref (am 68)), (1, .int a1)]) hx hb dX12_findLesser_1 rfl hl (by decide) rfl (fun ls hl => ?_)
  obtain ⟨y30, hc32, ho⟩ := bd_some ho
  obtain ⟨ny30, hc32⟩ := lp_to hc32
  refine m_findLesser_L2 C0 ?_ ny30 _ _ hc32 _ _ _ hW (lv_sub hl [1, 2, 0] rfl)
  intro H locs ls hW hl
  refine lv_iconst (v := (0 : Int32)) hx hb dX12_findLesser_22 (by decide) ?_
  refine lv_istore_n (lv' := [(2, .int (0 : Int32)), (0, .ref (am 68)), (1, .int a1)]) hx hb dX12_findLesser_23 rfl hl (by decide) rfl (fun ls hl => ?_)
  obtain ⟨y33, hc35, ho⟩ := bd_some ho
  obtain ⟨ny33, hc35⟩ := lp_to hc35
  refine m_findLesser_L24 C0 ?_ ny33 _ _ hc35 _ _ _ hW (lv_sub hl [1, 2, 0] rfl)
  intro H locs ls hW hl
  cases ho
  exact rtV C0 hW dX12_findLesser_152
noncomputable def m_countWays_B51 (t : St) (v1 : Int32) (v3 : Int32) (v2 : Int32) (v4 : Int64) : Option ((Int32 × Int64) ⊕ (Int32)) :=
  if (lg_cmp v4 (0 : Int64)) = 0 then (some (.inr v2)) else (nm (v2 + (1 : Int32)) (fun x2 : Int32 => nm (v4 &&& (v4 - (1 : Int64))) (fun x3 : Int64 => some (.inl (x2, x3)))))
noncomputable def m_countWays_B19 (t : St) (v1 : Int32) (v2 : Int32) (v3 : Int32) : Option ((Int32 × Int32) ⊕ (Int32)) :=
  if (1024 : Int32) ≤ v3 then (some (.inr v2)) else (gd (((1024 : Int32) * v1) + v3) 256000 (gd v3 1024 (nm ((gB t 17 ((((1024 : Int32) * v1) + v3)).toNatClampNeg) &&& ((gB t 28 (v3).toNatClampNeg) ^^^ (-1 : Int64))) (fun x7 : Int64 => (lp (fun x => m_countWays_B51 t v1 v3 x.1 x.2) (v2, x7)).bind (fun y8 => nm (v3 + (1 : Int32)) (fun x11 : Int32 => some (.inl (y8, x11))))))))
noncomputable def m_countWays (t : St) (a1 : Int32) : Option (Int32 × St) :=
  gd a1 250 (if (gA t 18 (a1).toNatClampNeg) = (-1 : Int32) then ((m_findLesser t a1).bind (fun q15 => (lp (fun x => m_countWays_B19 q15 a1 x.1 x.2) ((0 : Int32), (0 : Int32))).bind (fun y17 => gd a1 250 (nm (sA q15 18 a1 y17) (fun t21 : St => gd a1 250 (some ((gA t21 18 (a1).toNatClampNeg), t21))))))) else (gd a1 250 (some ((gA t 18 (a1).toNatClampNeg), t))))
set_option maxHeartbeats 4000000 in
set_option maxRecDepth 100000 in
theorem m_countWays_L51 {p : Program} {l : Launch} {e : Env} {s : State} {m : MethodId} {args : Array Value} {below : List Frame} {meth : Method} {c : Code} {Q : State → Prop} {D : va_G} {cI cJ cZ : ClassId} {am : Nat → Nat} {A : Nat → Prop} (C0 : cx p s m args meth c cX12_countWays RX12 6 (some .int) D (tyM cI cJ cZ) A) {t : St} {v1 : Int32} {v3 : Int32} {y : Int32} (hK0 : ∀ (H : Heap) (locs : List Loc) (ls : Array Slot), wl D A s (wM cI cJ cZ am t) H locs → lv_has ls 6 [(0, .ref (am 68)), (1, .int v1), (2, .int y), (3, .int v3)] → W p l e (rmN 2 48) s m args below meth c H locs 0 0 Q (F0 m 73 ls [])) :
    ∀ (n : Nat) (v2 : Int32) (v4 : Int64), lpn (fun x => m_countWays_B51 t v1 v3 x.1 x.2) n (v2, v4) = some y → ∀ (H : Heap) (locs : List Loc) (ls : Array Slot), wl D A s (wM cI cJ cZ am t) H locs → lv_has ls 6 [(0, .ref (am 68)), (1, .int v1), (2, .int v2), (3, .int v3), (4, .long v4)] → W p l e (rmN 2 48) s m args below meth c H locs 0 0 Q (F0 m 51 ls []) := by
  have hx := C0.1
  have hb := C0.2.1
  have hta := C0.2.2.2.2.2.1
  have hown := C0.2.2.2.2.1
  intro n
  induction n with
  | zero => intro _ _ h; cases h
  | succ n ih =>
    intro v2 v4 hrun H locs ls hW hl
    obtain ⟨o, ho, hrun⟩ := bd_some hrun
    unfold m_countWays_B51 at ho
    refine lv_lload hx hb dX12_countWays_51 (lv_at hl 4 rfl) ?_
    refine lv_lconst (v := (0 : Int64)) hx hb dX12_countWays_53 (by decide) ?_
    refine W.lcmp hx hb dX12_countWays_54 ?_
    refine lv_if_eq (tgt := 73) hx hb dX12_countWays_55 (by decide) (fun c1 => ?_) (fun c1 => ?_)
    · replace ho := ite_t c1 ho
      cases ho
      cases hrun
      exact hK0 _ _ _ hW (lv_sub hl [0, 1, 2, 3] rfl)
    · replace ho := ite_f c1 ho
      obtain ⟨x2, ex2, ho⟩ := nm_x ho
      refine lv_iinc (v := x2) (lv' := [(2, .int x2), (0, .ref (am 68)), (1, .int v1), (3, .int v3), (4, .long v4)]) hx hb dX12_countWays_58 hl (k := 2) rfl (by rw [ex2]; rfl) (by decide) rfl (fun ls hl => ?_)
      clear ex2
      refine lv_lload hx hb dX12_countWays_61 (lv_at hl 4 rfl) ?_
      refine lv_lload hx hb dX12_countWays_63 (lv_at hl 4 rfl) ?_
      refine lv_lconst (v := (1 : Int64)) hx hb dX12_countWays_65 (by decide) ?_
      refine lv_lsub hx hb dX12_countWays_66 ?_
      refine lv_land hx hb dX12_countWays_67 ?_
      refine lv_nml ho (fun x3 ho => ?_)
      refine lv_lstore (lv' := [(4, .long x3), (2, .int x2), (0, .ref (am 68)), (1, .int v1), (3, .int v3)]) hx hb dX12_countWays_68 hl (by decide) rfl (fun ls hl => ?_)
      refine lv_goto (tgt := 51) hx hb dX12_countWays_70 (by decide) ?_
      cases ho
      exact ih _ _ hrun _ _ _ hW (lv_sub hl [2, 3, 1, 4, 0] rfl)
set_option maxHeartbeats 4000000 in
set_option maxRecDepth 100000 in
theorem m_countWays_L19 {p : Program} {l : Launch} {e : Env} {s : State} {m : MethodId} {args : Array Value} {below : List Frame} {meth : Method} {c : Code} {Q : State → Prop} {D : va_G} {cI cJ cZ : ClassId} {am : Nat → Nat} {A : Nat → Prop} (C0 : cx p s m args meth c cX12_countWays RX12 6 (some .int) D (tyM cI cJ cZ) A) {t : St} {v1 : Int32} {y : Int32} (hK0 : ∀ (H : Heap) (locs : List Loc) (ls : Array Slot), wl D A s (wM cI cJ cZ am t) H locs → lv_has ls 6 [(0, .ref (am 68)), (1, .int v1), (2, .int y)] → W p l e (rmN 2 48) s m args below meth c H locs 0 0 Q (F0 m 79 ls [])) :
    ∀ (n : Nat) (v2 : Int32) (v3 : Int32), lpn (fun x => m_countWays_B19 t v1 x.1 x.2) n (v2, v3) = some y → ∀ (H : Heap) (locs : List Loc) (ls : Array Slot), wl D A s (wM cI cJ cZ am t) H locs → lv_has ls 6 [(0, .ref (am 68)), (1, .int v1), (2, .int v2), (3, .int v3)] → W p l e (rmN 2 48) s m args below meth c H locs 0 0 Q (F0 m 19 ls []) := by
  have hx := C0.1
  have hb := C0.2.1
  have hta := C0.2.2.2.2.2.1
  have hown := C0.2.2.2.2.1
  intro n
  induction n with
  | zero => intro _ _ h; cases h
  | succ n ih =>
    intro v2 v3 hrun H locs ls hW hl
    obtain ⟨o, ho, hrun⟩ := bd_some hrun
    unfold m_countWays_B19 at ho
    refine lv_iload_n hx hb dX12_countWays_19 rfl (lv_at hl 3 rfl) ?_
    refine lv_sipush (v := (1024 : Int32)) hx hb dX12_countWays_20 (by decide) ?_
    refine lv_icmp_ge (tgt := 79) hx hb dX12_countWays_23 (by decide) (fun c4 => ?_) (fun c4 => ?_)
    · replace ho := ite_t c4 ho
      cases ho
      cases hrun
      exact hK0 _ _ _ hW (lv_sub hl [0, 1, 2] rfl)
    · replace ho := ite_f c4 ho
      refine lv_aload_n hx hb dX12_countWays_26 rfl (lv_at hl 0 rfl) ?_
      refine mGET_17 C0 hW dX12_countWays_27 ?_
      refine lv_sipush (v := (1024 : Int32)) hx hb dX12_countWays_30 (by decide) ?_
      refine lv_iload_n hx hb dX12_countWays_33 rfl (lv_at hl 1 rfl) ?_
      refine lv_imul hx hb dX12_countWays_34 ?_
      refine lv_iload_n hx hb dX12_countWays_35 rfl (lv_at hl 3 rfl) ?_
      refine lv_iadd hx hb dX12_countWays_36 ?_
      obtain ⟨g5, ho⟩ := gd_some ho
      refine mLD_17 C0 hW g5 dX12_countWays_37 ?_
      refine lv_aload_n hx hb dX12_countWays_38 rfl (lv_at hl 0 rfl) ?_
      refine mGET_28 C0 hW dX12_countWays_39 ?_
      refine lv_iload_n hx hb dX12_countWays_42 rfl (lv_at hl 3 rfl) ?_
      obtain ⟨g6, ho⟩ := gd_some ho
      refine mLD_28 C0 hW g6 dX12_countWays_43 ?_
      refine lv_ldc2 hx hb hown (hta _ kw_1807) dX12_countWays_44 ?_
      refine lv_lxor hx hb dX12_countWays_47 ?_
      refine lv_land hx hb dX12_countWays_48 ?_
      refine lv_nml ho (fun x7 ho => ?_)
      refine lv_lstore (lv' := [(4, .long x7), (0, .ref (am 68)), (1, .int v1), (2, .int v2), (3, .int v3)]) hx hb dX12_countWays_49 hl (by decide) rfl (fun ls hl => ?_)
      obtain ⟨y8, hc10, ho⟩ := bd_some ho
      obtain ⟨ny8, hc10⟩ := lp_to hc10
      refine m_countWays_L51 C0 ?_ ny8 _ _ hc10 _ _ _ hW (lv_sub hl [1, 2, 3, 4, 0] rfl)
      intro H locs ls hW hl
      obtain ⟨x11, ex11, ho⟩ := nm_x ho
      refine lv_iinc (v := x11) (lv' := [(3, .int x11), (0, .ref (am 68)), (1, .int v1), (2, .int y8)]) hx hb dX12_countWays_73 hl (k := 3) rfl (by rw [ex11]; rfl) (by decide) rfl (fun ls hl => ?_)
      clear ex11
      refine lv_goto (tgt := 19) hx hb dX12_countWays_76 (by decide) ?_
      cases ho
      exact ih _ _ hrun _ _ _ hW (lv_sub hl [1, 2, 3, 0] rfl)
set_option maxHeartbeats 4000000 in
set_option maxRecDepth 100000 in
theorem c_m_countWays (l : Launch) {D : va_G} {cI cJ cZ : ClassId} {am : Nat → Nat} (sz : Nat) (t : St) (a1 : Int32) {r : Int32} {t' : St} (ho : m_countWays t a1 = some (r, t')) : Met l yX12_countWays (.code yX12_countWays cX12_countWays 6 (some .int) :: wsAll) (rmN 2 48) (va_Pc [.ref (am 68), .int a1] (prW D (tyM cI cJ cZ) (wM cI cJ cZ am t) sz)) (qI r D (tyM cI cJ cZ) (wM cI cJ cZ am t') (va_A (wM cI cJ cZ am t) sz)) 0 0 (va_A (wM cI cJ cZ am t) sz) := by
  refine Met.ofW (cc := cX12_countWays) (maxL := 6) (ret := (some .int)) (by decide) rfl ?_
  intro p e s m args below meth c s₁ B hml hv
  obtain ⟨rfl, hsz, hP, hK, hD0⟩ := hv
  have hx := B.exec
  have hb := B.bytes
  have hts := atoms_spec (ws := (.code yX12_countWays cX12_countWays 6 (some .int) :: wsAll)) B.pre
  have hta := fun w h => hts w (List.mem_cons_of_mem _ h)
  have hown : s.vm.findClass RX12 = some m.cls := findClass_of_methodNamed B.named
  have hlocks := B.notSynchronized
  subst hsz
  have hD := hD0.self (sz := s.heap.size)
  generalize hAe : va_A (wM cI cJ cZ am t) s.heap.size = A at hD ⊢
  have hA : ∀ q : Nat, s.heap.size ≤ q → A q := fun q h => by rw [← hAe]; exact Or.inr h
  have C0 : cx p s m ([.ref (am 68), .int a1].toArray) meth c cX12_countWays RX12 6 (some .int) D (tyM cI cJ cZ) A := ⟨hx, hb, B.returns, hml, hown, hta, hlocks, hK, hA⟩
  have hW : wl D A s (wM cI cJ cZ am t) s.heap [] := ⟨hP, hD, va_S.rf⟩
  have hl := lv_entry [.ref (am 68), .int a1] (n := 6) (Nat.le_of_ble_eq_true rfl)
  rw [lg_entry_eq]
  generalize (lg_sl [.ref (am 68), .int a1] ++ List.replicate (6 - (lg_sl [.ref (am 68), .int a1]).length) Slot.unset).toArray = ls at hl ⊢
  have hl : lv_has ls 6 [(0, .ref (am 68)), (1, .int a1)] := hl
  unfold m_countWays at ho
  refine lv_aload_n hx hb dX12_countWays_0 rfl (lv_at hl 0 rfl) ?_
  refine mGET_18 C0 hW dX12_countWays_1 ?_
  refine lv_iload_n hx hb dX12_countWays_4 rfl (lv_at hl 1 rfl) ?_
  obtain ⟨g12, ho⟩ := gd_some ho
  refine mLD_18 C0 hW g12 dX12_countWays_5 ?_
  refine lv_iconst (v := (-1 : Int32)) hx hb dX12_countWays_6 (by decide) ?_
  refine lv_icmp_ne (tgt := 86) hx hb dX12_countWays_7 (by decide) (fun c13 => ?_) (fun c13 => ?_)
  · replace ho := ite_f c13 ho
    refine lv_aload_n hx hb dX12_countWays_86 rfl (lv_at hl 0 rfl) ?_
    refine mGET_18 C0 hW dX12_countWays_87 ?_
    refine lv_iload_n hx hb dX12_countWays_90 rfl (lv_at hl 1 rfl) ?_
    obtain ⟨g14, ho⟩ := gd_some ho
    refine mLD_18 C0 hW g14 dX12_countWays_91 ?_
    cases ho
    exact rtI C0 hW dX12_countWays_92
  · replace ho := ite_t c13 ho
    refine lv_aload_n hx hb dX12_countWays_10 rfl (lv_at hl 0 rfl) ?_
    refine lv_iload_n hx hb dX12_countWays_11 rfl (lv_at hl 1 rfl) ?_
    obtain ⟨q15, hc16, ho⟩ := bd_some ho
    refine bkV C0 hW (runV (As := [.int a1]) (rest := []) C0 hW (c_m_findLesser l _ t a1 (t' := q15) hc16) ca_X12_findLesser_286 0 12 rfl rfl rfl rfl rfl ⟨rfl, rfl⟩ ⟨Nat.le_of_ble_eq_true rfl, Nat.le_of_ble_eq_true rfl⟩ (Nat.le_of_ble_eq_true rfl) hl.1 dX12_countWays_12 ⟨Nat.le_of_ble_eq_true rfl, Nat.le_of_ble_eq_true rfl⟩) (fun H locs hW => ?_)
    refine lv_iconst (v := (0 : Int32)) hx hb dX12_countWays_15 (by decide) ?_
    refine lv_istore_n (lv' := [(2, .int (0 : Int32)), (0, .ref (am 68)), (1, .int a1)]) hx hb dX12_countWays_16 rfl hl (by decide) rfl (fun ls hl => ?_)
    refine lv_iconst (v := (0 : Int32)) hx hb dX12_countWays_17 (by decide) ?_
    refine lv_istore_n (lv' := [(3, .int (0 : Int32)), (2, .int (0 : Int32)), (0, .ref (am 68)), (1, .int a1)]) hx hb dX12_countWays_18 rfl hl (by decide) rfl (fun ls hl => ?_)
    obtain ⟨y17, hc19, ho⟩ := bd_some ho
    obtain ⟨ny17, hc19⟩ := lp_to hc19
    refine m_countWays_L19 C0 ?_ ny17 _ _ hc19 _ _ _ hW (lv_sub hl [2, 3, 1, 0] rfl)
    intro H locs ls hW hl
    refine lv_aload_n hx hb dX12_countWays_79 rfl (lv_at hl 0 rfl) ?_
    refine mGET_18 C0 hW dX12_countWays_80 ?_
    refine lv_iload_n hx hb dX12_countWays_83 rfl (lv_at hl 1 rfl) ?_
    refine lv_iload_n hx hb dX12_countWays_84 rfl (lv_at hl 2 rfl) ?_
    obtain ⟨g20, ho⟩ := gd_some ho
    refine mST_18 C0 hW g20 dX12_countWays_85 (fun H locs hW => ?_)
    obtain ⟨t21, ho, hW⟩ := nm_w (P := fun t => wl D A s (wM cI cJ cZ am t) H locs) ho hW
    refine lv_aload_n hx hb dX12_countWays_86 rfl (lv_at hl 0 rfl) ?_
    refine mGET_18 C0 hW dX12_countWays_87 ?_
    refine lv_iload_n hx hb dX12_countWays_90 rfl (lv_at hl 1 rfl) ?_
    obtain ⟨g22, ho⟩ := gd_some ho
    refine mLD_18 C0 hW g22 dX12_countWays_91 ?_
    cases ho
    exact rtI C0 hW dX12_countWays_92
noncomputable def m_findWays_B175 (t : St) (v1 : Int32) (v2 : Int32) (v3 : Int32) (v4 : Int64) (v6 : Int32) : Option ((Int32) ⊕ (Int32)) :=
  if (lg_cmp (((v4 >>> ((v6).toInt64 &&& 63))) &&& (1 : Int64)) (0 : Int64)) = 0 then (nm (v6 + (1 : Int32)) (fun x2 : Int32 => some (.inl x2))) else (some (.inr v6))
noncomputable def m_findWays_J22 (t : St) (v1 : Int32) (v2 : Int32) (w1 : Int32) (w2 : Int32) : Option ((Int32 × St) ⊕ (St)) :=
  gd w1 400 (nm (sA t 29 w1 (vp_nar .boolean w2)) (fun t4 : St => nm (v2 + (1 : Int32)) (fun x5 : Int32 => some (.inl (x5, t4)))))
noncomputable def m_findWays_B2 (v1 : Int32) (v2 : Int32) (t : St) : Option ((Int32 × St) ⊕ (St)) :=
  if v1 < v2 then (some (.inr t)) else (if v2 = v1 then (m_findWays_J22 t v1 v2 v2 (1 : Int32)) else (m_findWays_J22 t v1 v2 v2 (0 : Int32)))
noncomputable def m_findWays_B59 (v1 : Int32) (v2 : Int32) (v3 : Int32) (t : St) : Option ((Int32 × St) ⊕ (St)) :=
  gd v2 400 (if (gA t 12 (v2).toNatClampNeg) ≤ v3 then (some (.inr t)) else (gd v2 400 (gd ((gA t 11 (v2).toNatClampNeg) + v3) 20000 (gd (gA t 14 (((gA t 11 (v2).toNatClampNeg) + v3)).toNatClampNeg) 400 (nm (sA t 29 (gA t 14 (((gA t 11 (v2).toNatClampNeg) + v3)).toNatClampNeg) (vp_nar .boolean (1 : Int32))) (fun t13 : St => nm (v3 + (1 : Int32)) (fun x14 : Int32 => some (.inl (x14, t13)))))))))
noncomputable def m_findWays_B31 (v1 : Int32) (v2 : Int32) (t : St) : Option ((Int32 × St) ⊕ ((St) ⊕ (St))) :=
  if v2 < 0 then (some (.inr (.inr t))) else (gd v2 400 (if (gA t 29 (v2).toNatClampNeg) = 0 then (nm (v2 + (-1 : Int32)) (fun x18 : Int32 => some (.inl (x18, t)))) else ((m_countWays t v2).bind (fun q19 => if q19.1 ≤ (200 : Int32) then ((lp (fun x => m_findWays_B59 v1 v2 x.1 x.2) ((0 : Int32), q19.2)).bind (fun y22 => nm (v2 + (-1 : Int32)) (fun x25 : Int32 => some (.inl (x25, y22))))) else (some (.inr (.inl q19.2)))))))
noncomputable def m_findWays_J233 (t : St) (v1 : Int32) (v2 : Int32) (v3 : Int32) (v4 : Int64) : Option ((Int64 × St) ⊕ (St)) :=
  nm (v4 &&& (v4 - (1 : Int64))) (fun x26 : Int64 => some (.inl (x26, t)))
noncomputable def m_findWays_B165 (v1 : Int32) (v2 : Int32) (v3 : Int32) (v4 : Int64) (t : St) : Option ((Int64 × St) ⊕ (St)) :=
  if (lg_cmp v4 (0 : Int64)) = 0 then (some (.inr t)) else ((lp (fun x => m_findWays_B175 t v1 v2 v3 v4 x) (0 : Int32)).bind (fun y28 => (m_sizeOf t (((64 : Int32) * v3) + y28)).bind (fun q31 => if q31 = v2 then (gd (gI t 31) 200 (nm (sA t 30 (gI t 31) (((64 : Int32) * v3) + y28)) (fun t35 : St => nm (sI t35 31 ((gI t35 31) + (1 : Int32))) (fun t36 : St => m_findWays_J233 t36 v1 v2 v3 v4)))) else (m_findWays_J233 t v1 v2 v3 v4))))
noncomputable def m_findWays_B120 (v1 : Int32) (v2 : Int32) (v3 : Int32) (t : St) : Option ((Int32 × St) ⊕ (St)) :=
  if (1024 : Int32) ≤ v3 then (some (.inr t)) else (gd v1 250 (if (gA t 18 (v1).toNatClampNeg) ≤ (gI t 31) then (some (.inr t)) else (gd (((1024 : Int32) * v1) + v3) 256000 (gd v3 1024 (nm ((gB t 17 ((((1024 : Int32) * v1) + v3)).toNatClampNeg) &&& ((gB t 28 (v3).toNatClampNeg) ^^^ (-1 : Int64))) (fun x42 : Int64 => (lp (fun x => m_findWays_B165 v1 v2 v3 x.1 x.2) (x42, t)).bind (fun y43 => nm (v3 + (1 : Int32)) (fun x46 : Int32 => some (.inl (x46, y43))))))))))
noncomputable def m_findWays_B112 (v1 : Int32) (v2 : Int32) (t : St) : Option ((Int32 × St) ⊕ (St)) :=
  if (16 : Int32) < v2 then (some (.inr t)) else ((lp (fun x => m_findWays_B120 v1 v2 x.1 x.2) ((0 : Int32), t)).bind (fun y48 => nm (v2 + (1 : Int32)) (fun x51 : Int32 => some (.inl (x51, y48)))))
noncomputable def m_findWays (t : St) (a1 : Int32) : Option (Int32 × St) :=
  (lp (fun x => m_findWays_B2 a1 x.1 x.2) ((0 : Int32), t)).bind (fun y52 => (lp (fun x => m_findWays_B31 a1 x.1 x.2) (a1, y52)).bind (fun y55 => (Sum.elim (fun u58 => some ((0 : Int32), u58)) (fun u58 => (m_findLesser u58 a1).bind (fun q59 => nm (sI q59 31 (0 : Int32)) (fun t61 : St => (lp (fun x => m_findWays_B112 a1 x.1 x.2) ((0 : Int32), t61)).bind (fun y62 => some ((1 : Int32), y62)))))) y55))
set_option maxHeartbeats 4000000 in
set_option maxRecDepth 100000 in
theorem m_findWays_L175 {p : Program} {l : Launch} {e : Env} {s : State} {m : MethodId} {args : Array Value} {below : List Frame} {meth : Method} {c : Code} {Q : State → Prop} {D : va_G} {cI cJ cZ : ClassId} {am : Nat → Nat} {A : Nat → Prop} (C0 : cx p s m args meth c cX12_findWays RX12 7 (some .boolean) D (tyM cI cJ cZ) A) {t : St} {v1 : Int32} {v2 : Int32} {v3 : Int32} {v4 : Int64} {y : Int32} (hK0 : ∀ (H : Heap) (locs : List Loc) (ls : Array Slot), wl D A s (wM cI cJ cZ am t) H locs → lv_has ls 7 [(0, .ref (am 68)), (1, .int v1), (2, .int v2), (3, .int v3), (4, .long v4), (6, .int y)] → W p l e (rmN 3 73) s m args below meth c H locs 0 0 Q (F0 m 193 ls [])) :
    ∀ (n : Nat) (v6 : Int32), lpn (fun x => m_findWays_B175 t v1 v2 v3 v4 x) n v6 = some y → ∀ (H : Heap) (locs : List Loc) (ls : Array Slot), wl D A s (wM cI cJ cZ am t) H locs → lv_has ls 7 [(0, .ref (am 68)), (1, .int v1), (2, .int v2), (3, .int v3), (4, .long v4), (6, .int v6)] → W p l e (rmN 3 73) s m args below meth c H locs 0 0 Q (F0 m 175 ls []) := by
  have hx := C0.1
  have hb := C0.2.1
  have hta := C0.2.2.2.2.2.1
  have hown := C0.2.2.2.2.1
  intro n
  induction n with
  | zero => intro _ h; cases h
  | succ n ih =>
    intro v6 hrun H locs ls hW hl
    obtain ⟨o, ho, hrun⟩ := bd_some hrun
    unfold m_findWays_B175 at ho
    refine lv_lload hx hb dX12_findWays_175 (lv_at hl 4 rfl) ?_
    refine lv_iload hx hb dX12_findWays_177 (lv_at hl 5 rfl) ?_
    refine lv_lshr hx hb dX12_findWays_179 rfl ?_
    refine lv_lconst (v := (1 : Int64)) hx hb dX12_findWays_180 (by decide) ?_
    refine lv_land hx hb dX12_findWays_181 ?_
    refine lv_lconst (v := (0 : Int64)) hx hb dX12_findWays_182 (by decide) ?_
    refine W.lcmp hx hb dX12_findWays_183 ?_
    refine lv_if_ne (tgt := 193) hx hb dX12_findWays_184 (by decide) (fun c1 => ?_) (fun c1 => ?_)
    · replace ho := ite_f c1 ho
      cases ho
      cases hrun
      exact hK0 _ _ _ hW (lv_sub hl [0, 1, 2, 3, 4, 5] rfl)
    · replace ho := ite_t c1 ho
      obtain ⟨x2, ex2, ho⟩ := nm_x ho
      refine lv_iinc (v := x2) (lv' := [(6, .int x2), (0, .ref (am 68)), (1, .int v1), (2, .int v2), (3, .int v3), (4, .long v4)]) hx hb dX12_findWays_187 hl (k := 5) rfl (by rw [ex2]; rfl) (by decide) rfl (fun ls hl => ?_)
      clear ex2
      refine lv_goto (tgt := 175) hx hb dX12_findWays_190 (by decide) ?_
      cases ho
      exact ih _ hrun _ _ _ hW (lv_sub hl [1, 2, 3, 4, 5, 0] rfl)
set_option maxHeartbeats 4000000 in
set_option maxRecDepth 100000 in
theorem m_findWays_L2 {p : Program} {l : Launch} {e : Env} {s : State} {m : MethodId} {args : Array Value} {below : List Frame} {meth : Method} {c : Code} {Q : State → Prop} {D : va_G} {cI cJ cZ : ClassId} {am : Nat → Nat} {A : Nat → Prop} (C0 : cx p s m args meth c cX12_findWays RX12 7 (some .boolean) D (tyM cI cJ cZ) A) {v1 : Int32} {y : St} (hK0 : ∀ (H : Heap) (locs : List Loc) (ls : Array Slot), wl D A s (wM cI cJ cZ am y) H locs → lv_has ls 7 [(0, .ref (am 68)), (1, .int v1)] → W p l e (rmN 3 73) s m args below meth c H locs 0 0 Q (F0 m 29 ls [])) :
    ∀ (n : Nat) (v2 : Int32) (t : St), lpn (fun x => m_findWays_B2 v1 x.1 x.2) n (v2, t) = some y → ∀ (H : Heap) (locs : List Loc) (ls : Array Slot), wl D A s (wM cI cJ cZ am t) H locs → lv_has ls 7 [(0, .ref (am 68)), (1, .int v1), (2, .int v2)] → W p l e (rmN 3 73) s m args below meth c H locs 0 0 Q (F0 m 2 ls []) := by
  have hx := C0.1
  have hb := C0.2.1
  have hta := C0.2.2.2.2.2.1
  have hown := C0.2.2.2.2.1
  intro n
  induction n with
  | zero => intro _ _ h; cases h
  | succ n ih =>
    intro v2 t hrun H locs ls hW hl
    obtain ⟨o, ho, hrun⟩ := bd_some hrun
    have J22 : ∀ (t : St) (v2 : Int32) (w1 : Int32) (w2 : Int32) (_ : m_findWays_J22 t v1 v2 w1 w2 = some o) (H : Heap) (locs : List Loc) (ls : Array Slot), wl D A s (wM cI cJ cZ am t) H locs → lv_has ls 7 [(0, .ref (am 68)), (1, .int v1), (2, .int v2)] → W p l e (rmN 3 73) s m args below meth c H locs 0 0 Q (F0 m 22 ls [.int w2, .int w1, .ref (am 29)]) := by
      intro t v2 w1 w2 ho H locs ls hW hl
      unfold m_findWays_J22 at ho
      obtain ⟨g3, ho⟩ := gd_some ho
      refine mST_29 C0 hW g3 dX12_findWays_22 (fun H locs hW => ?_)
      obtain ⟨t4, ho, hW⟩ := nm_w (P := fun t => wl D A s (wM cI cJ cZ am t) H locs) ho hW
      obtain ⟨x5, ex5, ho⟩ := nm_x ho
      refine lv_iinc (v := x5) (lv' := [(2, .int x5), (0, .ref (am 68)), (1, .int v1)]) hx hb dX12_findWays_23 hl (k := 2) rfl (by rw [ex5]; rfl) (by decide) rfl (fun ls hl => ?_)
      clear ex5
      refine lv_goto (tgt := 2) hx hb dX12_findWays_26 (by decide) ?_
      cases ho
      exact ih _ _ hrun _ _ _ hW (lv_sub hl [1, 2, 0] rfl)
    unfold m_findWays_B2 at ho
    refine lv_iload_n hx hb dX12_findWays_2 rfl (lv_at hl 2 rfl) ?_
    refine lv_iload_n hx hb dX12_findWays_3 rfl (lv_at hl 1 rfl) ?_
    refine lv_icmp_gt (tgt := 29) hx hb dX12_findWays_4 (by decide) (fun c6 => ?_) (fun c6 => ?_)
    · replace ho := ite_t c6 ho
      cases ho
      cases hrun
      exact hK0 _ _ _ hW (lv_sub hl [0, 1] rfl)
    · replace ho := ite_f c6 ho
      refine lv_aload_n hx hb dX12_findWays_7 rfl (lv_at hl 0 rfl) ?_
      refine mGET_29 C0 hW dX12_findWays_8 ?_
      refine lv_iload_n hx hb dX12_findWays_11 rfl (lv_at hl 2 rfl) ?_
      refine lv_iload_n hx hb dX12_findWays_12 rfl (lv_at hl 2 rfl) ?_
      refine lv_iload_n hx hb dX12_findWays_13 rfl (lv_at hl 1 rfl) ?_
      refine lv_icmp_ne (tgt := 21) hx hb dX12_findWays_14 (by decide) (fun c7 => ?_) (fun c7 => ?_)
      · replace ho := ite_f c7 ho
        refine lv_iconst (v := (0 : Int32)) hx hb dX12_findWays_21 (by decide) ?_
        exact J22 _ _ _ _ ho _ _ _ hW (lv_sub hl [0, 1, 2] rfl)
      · replace ho := ite_t c7 ho
        refine lv_iconst (v := (1 : Int32)) hx hb dX12_findWays_17 (by decide) ?_
        refine lv_goto (tgt := 22) hx hb dX12_findWays_18 (by decide) ?_
        exact J22 _ _ _ _ ho _ _ _ hW (lv_sub hl [0, 1, 2] rfl)
set_option maxHeartbeats 4000000 in
set_option maxRecDepth 100000 in
theorem m_findWays_L59 {p : Program} {l : Launch} {e : Env} {s : State} {m : MethodId} {args : Array Value} {below : List Frame} {meth : Method} {c : Code} {Q : State → Prop} {D : va_G} {cI cJ cZ : ClassId} {am : Nat → Nat} {A : Nat → Prop} (C0 : cx p s m args meth c cX12_findWays RX12 7 (some .boolean) D (tyM cI cJ cZ) A) {v1 : Int32} {v2 : Int32} {y : St} (hK0 : ∀ (H : Heap) (locs : List Loc) (ls : Array Slot), wl D A s (wM cI cJ cZ am y) H locs → lv_has ls 7 [(0, .ref (am 68)), (1, .int v1), (2, .int v2)] → W p l e (rmN 3 73) s m args below meth c H locs 0 0 Q (F0 m 94 ls [])) :
    ∀ (n : Nat) (v3 : Int32) (t : St), lpn (fun x => m_findWays_B59 v1 v2 x.1 x.2) n (v3, t) = some y → ∀ (H : Heap) (locs : List Loc) (ls : Array Slot), wl D A s (wM cI cJ cZ am t) H locs → lv_has ls 7 [(0, .ref (am 68)), (1, .int v1), (2, .int v2), (3, .int v3)] → W p l e (rmN 3 73) s m args below meth c H locs 0 0 Q (F0 m 59 ls []) := by
  have hx := C0.1
  have hb := C0.2.1
  have hta := C0.2.2.2.2.2.1
  have hown := C0.2.2.2.2.1
  intro n
  induction n with
  | zero => intro _ _ h; cases h
  | succ n ih =>
    intro v3 t hrun H locs ls hW hl
    obtain ⟨o, ho, hrun⟩ := bd_some hrun
    unfold m_findWays_B59 at ho
    refine lv_iload_n hx hb dX12_findWays_59 rfl (lv_at hl 3 rfl) ?_
    refine lv_aload_n hx hb dX12_findWays_60 rfl (lv_at hl 0 rfl) ?_
    refine mGET_12 C0 hW dX12_findWays_61 ?_
    refine lv_iload_n hx hb dX12_findWays_64 rfl (lv_at hl 2 rfl) ?_
    obtain ⟨g8, ho⟩ := gd_some ho
    refine mLD_12 C0 hW g8 dX12_findWays_65 ?_
    refine lv_icmp_ge (tgt := 94) hx hb dX12_findWays_66 (by decide) (fun c9 => ?_) (fun c9 => ?_)
    · replace ho := ite_t c9 ho
      cases ho
      cases hrun
      exact hK0 _ _ _ hW (lv_sub hl [0, 1, 2] rfl)
    · replace ho := ite_f c9 ho
      refine lv_aload_n hx hb dX12_findWays_69 rfl (lv_at hl 0 rfl) ?_
      refine mGET_29 C0 hW dX12_findWays_70 ?_
      refine lv_aload_n hx hb dX12_findWays_73 rfl (lv_at hl 0 rfl) ?_
      refine mGET_14 C0 hW dX12_findWays_74 ?_
      refine lv_aload_n hx hb dX12_findWays_77 rfl (lv_at hl 0 rfl) ?_
      refine mGET_11 C0 hW dX12_findWays_78 ?_
      refine lv_iload_n hx hb dX12_findWays_81 rfl (lv_at hl 2 rfl) ?_
      obtain ⟨g10, ho⟩ := gd_some ho
      refine mLD_11 C0 hW g10 dX12_findWays_82 ?_
      refine lv_iload_n hx hb dX12_findWays_83 rfl (lv_at hl 3 rfl) ?_
      refine lv_iadd hx hb dX12_findWays_84 ?_
      obtain ⟨g11, ho⟩ := gd_some ho
      refine mLD_14 C0 hW g11 dX12_findWays_85 ?_
      refine lv_iconst (v := (1 : Int32)) hx hb dX12_findWays_86 (by decide) ?_
      obtain ⟨g12, ho⟩ := gd_some ho
      refine mST_29 C0 hW g12 dX12_findWays_87 (fun H locs hW => ?_)
      obtain ⟨t13, ho, hW⟩ := nm_w (P := fun t => wl D A s (wM cI cJ cZ am t) H locs) ho hW
      obtain ⟨x14, ex14, ho⟩ := nm_x ho
      refine lv_iinc (v := x14) (lv' := [(3, .int x14), (0, .ref (am 68)), (1, .int v1), (2, .int v2)]) hx hb dX12_findWays_88 hl (k := 3) rfl (by rw [ex14]; rfl) (by decide) rfl (fun ls hl => ?_)
      clear ex14
      refine lv_goto (tgt := 59) hx hb dX12_findWays_91 (by decide) ?_
      cases ho
      exact ih _ _ hrun _ _ _ hW (lv_sub hl [1, 2, 3, 0] rfl)
set_option maxHeartbeats 4000000 in
set_option maxRecDepth 100000 in
theorem m_findWays_L31 {p : Program} {l : Launch} {e : Env} {s : State} {m : MethodId} {args : Array Value} {below : List Frame} {meth : Method} {c : Code} {Q : State → Prop} {D : va_G} {cI cJ cZ : ClassId} {am : Nat → Nat} {A : Nat → Prop} (C0 : cx p s m args meth c cX12_findWays RX12 7 (some .boolean) D (tyM cI cJ cZ) A) {v1 : Int32} {y : (St) ⊕ (St)} (hK0 : ∀ u, y = (.inl u) → ∀ (H : Heap) (locs : List Loc) (ls : Array Slot), wl D A s (wM cI cJ cZ am u) H locs → lv_has ls 7 [(0, .ref (am 68))] → W p l e (rmN 3 73) s m args below meth c H locs 0 0 Q (F0 m 55 ls [])) (hK1 : ∀ u, y = (.inr u) → ∀ (H : Heap) (locs : List Loc) (ls : Array Slot), wl D A s (wM cI cJ cZ am u) H locs → lv_has ls 7 [(0, .ref (am 68)), (1, .int v1)] → W p l e (rmN 3 73) s m args below meth c H locs 0 0 Q (F0 m 100 ls [])) :
    ∀ (n : Nat) (v2 : Int32) (t : St), lpn (fun x => m_findWays_B31 v1 x.1 x.2) n (v2, t) = some y → ∀ (H : Heap) (locs : List Loc) (ls : Array Slot), wl D A s (wM cI cJ cZ am t) H locs → lv_has ls 7 [(0, .ref (am 68)), (1, .int v1), (2, .int v2)] → W p l e (rmN 3 73) s m args below meth c H locs 0 0 Q (F0 m 31 ls []) := by
  have hx := C0.1
  have hb := C0.2.1
  have hta := C0.2.2.2.2.2.1
  have hown := C0.2.2.2.2.1
  intro n
  induction n with
  | zero => intro _ _ h; cases h
  | succ n ih =>
    intro v2 t hrun H locs ls hW hl
    obtain ⟨o, ho, hrun⟩ := bd_some hrun
    unfold m_findWays_B31 at ho
    refine lv_iload_n hx hb dX12_findWays_31 rfl (lv_at hl 2 rfl) ?_
    refine lv_if_lt (tgt := 100) hx hb dX12_findWays_32 (by decide) (fun c15 => ?_) (fun c15 => ?_)
    · replace ho := ite_t c15 ho
      cases ho
      cases hrun
      exact hK1 _ rfl _ _ _ hW (lv_sub hl [0, 1] rfl)
    · replace ho := ite_f c15 ho
      refine lv_aload_n hx hb dX12_findWays_35 rfl (lv_at hl 0 rfl) ?_
      refine mGET_29 C0 hW dX12_findWays_36 ?_
      refine lv_iload_n hx hb dX12_findWays_39 rfl (lv_at hl 2 rfl) ?_
      obtain ⟨g16, ho⟩ := gd_some ho
      refine mLD_29 C0 hW g16 dX12_findWays_40 ?_
      refine lv_if_eq (tgt := 94) hx hb dX12_findWays_41 (by decide) (fun c17 => ?_) (fun c17 => ?_)
      · replace ho := ite_t c17 ho
        obtain ⟨x18, ex18, ho⟩ := nm_x ho
        refine lv_iinc (v := x18) (lv' := [(2, .int x18), (0, .ref (am 68)), (1, .int v1)]) hx hb dX12_findWays_94 hl (k := 2) rfl (by rw [ex18]; rfl) (by decide) rfl (fun ls hl => ?_)
        clear ex18
        refine lv_goto (tgt := 31) hx hb dX12_findWays_97 (by decide) ?_
        cases ho
        exact ih _ _ hrun _ _ _ hW (lv_sub hl [1, 2, 0] rfl)
      · replace ho := ite_f c17 ho
        refine lv_aload_n hx hb dX12_findWays_44 rfl (lv_at hl 0 rfl) ?_
        refine lv_iload_n hx hb dX12_findWays_45 rfl (lv_at hl 2 rfl) ?_
        obtain ⟨q19, hc20, ho⟩ := bd_some ho
        refine bkI C0 hW (runV (As := [.int v2]) (rest := []) C0 hW (c_m_countWays l _ t v2 (r := q19.1) (t' := q19.2) hc20) ca_X12_countWays_289 0 12 rfl rfl rfl rfl rfl ⟨rfl, rfl⟩ ⟨Nat.le_of_ble_eq_true rfl, Nat.le_of_ble_eq_true rfl⟩ (Nat.le_of_ble_eq_true rfl) hl.1 dX12_findWays_46 ⟨Nat.le_of_ble_eq_true rfl, Nat.le_of_ble_eq_true rfl⟩) (fun H locs hW => ?_)
        refine lv_sipush (v := (200 : Int32)) hx hb dX12_findWays_49 (by decide) ?_
        refine lv_icmp_le (tgt := 57) hx hb dX12_findWays_52 (by decide) (fun c21 => ?_) (fun c21 => ?_)
        · replace ho := ite_t c21 ho
          refine lv_iconst (v := (0 : Int32)) hx hb dX12_findWays_57 (by decide) ?_
          refine lv_istore_n (lv' := [(3, .int (0 : Int32)), (0, .ref (am 68)), (1, .int v1), (2, .int v2)]) hx hb dX12_findWays_58 rfl hl (by decide) rfl (fun ls hl => ?_)
          obtain ⟨y22, hc24, ho⟩ := bd_some ho
          obtain ⟨ny22, hc24⟩ := lp_to hc24
          refine m_findWays_L59 C0 ?_ ny22 _ _ hc24 _ _ _ hW (lv_sub hl [1, 2, 3, 0] rfl)
          intro H locs ls hW hl
          obtain ⟨x25, ex25, ho⟩ := nm_x ho
          refine lv_iinc (v := x25) (lv' := [(2, .int x25), (0, .ref (am 68)), (1, .int v1)]) hx hb dX12_findWays_94 hl (k := 2) rfl (by rw [ex25]; rfl) (by decide) rfl (fun ls hl => ?_)
          clear ex25
          refine lv_goto (tgt := 31) hx hb dX12_findWays_97 (by decide) ?_
          cases ho
          exact ih _ _ hrun _ _ _ hW (lv_sub hl [1, 2, 0] rfl)
        · replace ho := ite_f c21 ho
          cases ho
          cases hrun
          exact hK0 _ rfl _ _ _ hW (lv_sub hl [0] rfl)
set_option maxHeartbeats 4000000 in
set_option maxRecDepth 100000 in
theorem m_findWays_L165 {p : Program} {l : Launch} {e : Env} {s : State} {m : MethodId} {args : Array Value} {below : List Frame} {meth : Method} {c : Code} {Q : State → Prop} {D : va_G} {cI cJ cZ : ClassId} {am : Nat → Nat} {A : Nat → Prop} (C0 : cx p s m args meth c cX12_findWays RX12 7 (some .boolean) D (tyM cI cJ cZ) A) {v1 : Int32} {v2 : Int32} {v3 : Int32} {y : St} (hK0 : ∀ (H : Heap) (locs : List Loc) (ls : Array Slot), wl D A s (wM cI cJ cZ am y) H locs → lv_has ls 7 [(0, .ref (am 68)), (1, .int v1), (2, .int v2), (3, .int v3)] → W p l e (rmN 3 73) s m args below meth c H locs 0 0 Q (F0 m 245 ls [])) :
    ∀ (n : Nat) (v4 : Int64) (t : St), lpn (fun x => m_findWays_B165 v1 v2 v3 x.1 x.2) n (v4, t) = some y → ∀ (H : Heap) (locs : List Loc) (ls : Array Slot), wl D A s (wM cI cJ cZ am t) H locs → lv_has ls 7 [(0, .ref (am 68)), (1, .int v1), (2, .int v2), (3, .int v3), (4, .long v4)] → W p l e (rmN 3 73) s m args below meth c H locs 0 0 Q (F0 m 165 ls []) := by
  have hx := C0.1
  have hb := C0.2.1
  have hta := C0.2.2.2.2.2.1
  have hown := C0.2.2.2.2.1
  intro n
  induction n with
  | zero => intro _ _ h; cases h
  | succ n ih =>
    intro v4 t hrun H locs ls hW hl
    obtain ⟨o, ho, hrun⟩ := bd_some hrun
    have J233 : ∀ (t : St) (v4 : Int64) (_ : m_findWays_J233 t v1 v2 v3 v4 = some o) (H : Heap) (locs : List Loc) (ls : Array Slot), wl D A s (wM cI cJ cZ am t) H locs → lv_has ls 7 [(0, .ref (am 68)), (1, .int v1), (2, .int v2), (3, .int v3), (4, .long v4)] → W p l e (rmN 3 73) s m args below meth c H locs 0 0 Q (F0 m 233 ls []) := by
      intro t v4 ho H locs ls hW hl
      unfold m_findWays_J233 at ho
      refine lv_lload hx hb dX12_findWays_233 (lv_at hl 4 rfl) ?_
      refine lv_lload hx hb dX12_findWays_235 (lv_at hl 4 rfl) ?_
      refine lv_lconst (v := (1 : Int64)) hx hb dX12_findWays_237 (by decide) ?_
      refine lv_lsub hx hb dX12_findWays_238 ?_
      refine lv_land hx hb dX12_findWays_239 ?_
      refine lv_nml ho (fun x26 ho => ?_)
      refine lv_lstore (lv' := [(4, .long x26), (0, .ref (am 68)), (1, .int v1), (2, .int v2), (3, .int v3)]) hx hb dX12_findWays_240 hl (by decide) rfl (fun ls hl => ?_)
      refine lv_goto (tgt := 165) hx hb dX12_findWays_242 (by decide) ?_
      cases ho
      exact ih _ _ hrun _ _ _ hW (lv_sub hl [1, 2, 3, 4, 0] rfl)
    unfold m_findWays_B165 at ho
    refine lv_lload hx hb dX12_findWays_165 (lv_at hl 4 rfl) ?_
    refine lv_lconst (v := (0 : Int64)) hx hb dX12_findWays_167 (by decide) ?_
    refine W.lcmp hx hb dX12_findWays_168 ?_
    refine lv_if_eq (tgt := 245) hx hb dX12_findWays_169 (by decide) (fun c27 => ?_) (fun c27 => ?_)
    · replace ho := ite_t c27 ho
      cases ho
      cases hrun
      exact hK0 _ _ _ hW (lv_sub hl [0, 1, 2, 3] rfl)
    · replace ho := ite_f c27 ho
      refine lv_iconst (v := (0 : Int32)) hx hb dX12_findWays_172 (by decide) ?_
      refine lv_istore (lv' := [(6, .int (0 : Int32)), (0, .ref (am 68)), (1, .int v1), (2, .int v2), (3, .int v3), (4, .long v4)]) hx hb dX12_findWays_173 hl (by decide) rfl (fun ls hl => ?_)
      obtain ⟨y28, hc30, ho⟩ := bd_some ho
      obtain ⟨ny28, hc30⟩ := lp_to hc30
      refine m_findWays_L175 C0 ?_ ny28 _ hc30 _ _ _ hW (lv_sub hl [1, 2, 3, 4, 5, 0] rfl)
      intro H locs ls hW hl
      refine lv_bipush (v := (64 : Int32)) hx hb dX12_findWays_193 (by decide) ?_
      refine lv_iload_n hx hb dX12_findWays_195 rfl (lv_at hl 3 rfl) ?_
      refine lv_imul hx hb dX12_findWays_196 ?_
      refine lv_iload hx hb dX12_findWays_197 (lv_at hl 5 rfl) ?_
      refine lv_iadd hx hb dX12_findWays_199 ?_
      obtain ⟨q31, hc32, ho⟩ := bd_some ho
      refine bkI C0 hW (runS (As := [.int (((64 : Int32) * v3) + y28)]) (rest := []) C0 hW (c_m_sizeOf l _ t (((64 : Int32) * v3) + y28) (r := q31) hc32) ca_X12_sizeOf_295 rfl rfl ⟨rfl, rfl⟩ ⟨Nat.le_of_ble_eq_true rfl, Nat.le_of_ble_eq_true rfl⟩ (Nat.le_of_ble_eq_true rfl) hl.1 dX12_findWays_200 ⟨Nat.le_of_ble_eq_true rfl, Nat.le_of_ble_eq_true rfl⟩) (fun H locs hW => ?_)
      refine lv_iload_n hx hb dX12_findWays_203 rfl (lv_at hl 2 rfl) ?_
      refine lv_icmp_ne (tgt := 233) hx hb dX12_findWays_204 (by decide) (fun c33 => ?_) (fun c33 => ?_)
      · replace ho := ite_f c33 ho
        exact J233 _ _ ho _ _ _ hW (lv_sub hl [0, 1, 2, 3, 4] rfl)
      · replace ho := ite_t c33 ho
        refine lv_aload_n hx hb dX12_findWays_207 rfl (lv_at hl 0 rfl) ?_
        refine mGET_30 C0 hW dX12_findWays_208 ?_
        refine lv_aload_n hx hb dX12_findWays_211 rfl (lv_at hl 0 rfl) ?_
        refine mGET_31 C0 hW dX12_findWays_212 ?_
        refine lv_bipush (v := (64 : Int32)) hx hb dX12_findWays_215 (by decide) ?_
        refine lv_iload_n hx hb dX12_findWays_217 rfl (lv_at hl 3 rfl) ?_
        refine lv_imul hx hb dX12_findWays_218 ?_
        refine lv_iload hx hb dX12_findWays_219 (lv_at hl 5 rfl) ?_
        refine lv_iadd hx hb dX12_findWays_221 ?_
        obtain ⟨g34, ho⟩ := gd_some ho
        refine mST_30 C0 hW g34 dX12_findWays_222 (fun H locs hW => ?_)
        obtain ⟨t35, ho, hW⟩ := nm_w (P := fun t => wl D A s (wM cI cJ cZ am t) H locs) ho hW
        refine lv_aload_n hx hb dX12_findWays_223 rfl (lv_at hl 0 rfl) ?_
        refine lv_dup hx hb dX12_findWays_224 rfl ?_
        refine mGET_31 C0 hW dX12_findWays_225 ?_
        refine lv_iconst (v := (1 : Int32)) hx hb dX12_findWays_228 (by decide) ?_
        refine lv_iadd hx hb dX12_findWays_229 ?_
        refine mPUT_31 C0 hW dX12_findWays_230 (fun H locs hW => ?_)
        obtain ⟨t36, ho, hW⟩ := nm_w (P := fun t => wl D A s (wM cI cJ cZ am t) H locs) ho hW
        exact J233 _ _ ho _ _ _ hW (lv_sub hl [0, 1, 2, 3, 4] rfl)
set_option maxHeartbeats 4000000 in
set_option maxRecDepth 100000 in
theorem m_findWays_L120 {p : Program} {l : Launch} {e : Env} {s : State} {m : MethodId} {args : Array Value} {below : List Frame} {meth : Method} {c : Code} {Q : State → Prop} {D : va_G} {cI cJ cZ : ClassId} {am : Nat → Nat} {A : Nat → Prop} (C0 : cx p s m args meth c cX12_findWays RX12 7 (some .boolean) D (tyM cI cJ cZ) A) {v1 : Int32} {v2 : Int32} {y : St} (hK0 : ∀ (H : Heap) (locs : List Loc) (ls : Array Slot), wl D A s (wM cI cJ cZ am y) H locs → lv_has ls 7 [(0, .ref (am 68)), (1, .int v1), (2, .int v2)] → W p l e (rmN 3 73) s m args below meth c H locs 0 0 Q (F0 m 251 ls [])) :
    ∀ (n : Nat) (v3 : Int32) (t : St), lpn (fun x => m_findWays_B120 v1 v2 x.1 x.2) n (v3, t) = some y → ∀ (H : Heap) (locs : List Loc) (ls : Array Slot), wl D A s (wM cI cJ cZ am t) H locs → lv_has ls 7 [(0, .ref (am 68)), (1, .int v1), (2, .int v2), (3, .int v3)] → W p l e (rmN 3 73) s m args below meth c H locs 0 0 Q (F0 m 120 ls []) := by
  have hx := C0.1
  have hb := C0.2.1
  have hta := C0.2.2.2.2.2.1
  have hown := C0.2.2.2.2.1
  intro n
  induction n with
  | zero => intro _ _ h; cases h
  | succ n ih =>
    intro v3 t hrun H locs ls hW hl
    obtain ⟨o, ho, hrun⟩ := bd_some hrun
    unfold m_findWays_B120 at ho
    refine lv_iload_n hx hb dX12_findWays_120 rfl (lv_at hl 3 rfl) ?_
    refine lv_sipush (v := (1024 : Int32)) hx hb dX12_findWays_121 (by decide) ?_
    refine lv_icmp_ge (tgt := 251) hx hb dX12_findWays_124 (by decide) (fun c37 => ?_) (fun c37 => ?_)
    · replace ho := ite_t c37 ho
      cases ho
      cases hrun
      exact hK0 _ _ _ hW (lv_sub hl [0, 1, 2] rfl)
    · replace ho := ite_f c37 ho
      refine lv_aload_n hx hb dX12_findWays_127 rfl (lv_at hl 0 rfl) ?_
      refine mGET_31 C0 hW dX12_findWays_128 ?_
      refine lv_aload_n hx hb dX12_findWays_131 rfl (lv_at hl 0 rfl) ?_
      refine mGET_18 C0 hW dX12_findWays_132 ?_
      refine lv_iload_n hx hb dX12_findWays_135 rfl (lv_at hl 1 rfl) ?_
      obtain ⟨g38, ho⟩ := gd_some ho
      refine mLD_18 C0 hW g38 dX12_findWays_136 ?_
      refine lv_icmp_ge (tgt := 251) hx hb dX12_findWays_137 (by decide) (fun c39 => ?_) (fun c39 => ?_)
      · replace ho := ite_t c39 ho
        cases ho
        cases hrun
        exact hK0 _ _ _ hW (lv_sub hl [0, 1, 2] rfl)
      · replace ho := ite_f c39 ho
        refine lv_aload_n hx hb dX12_findWays_140 rfl (lv_at hl 0 rfl) ?_
        refine mGET_17 C0 hW dX12_findWays_141 ?_
        refine lv_sipush (v := (1024 : Int32)) hx hb dX12_findWays_144 (by decide) ?_
        refine lv_iload_n hx hb dX12_findWays_147 rfl (lv_at hl 1 rfl) ?_
        refine lv_imul hx hb dX12_findWays_148 ?_
        refine lv_iload_n hx hb dX12_findWays_149 rfl (lv_at hl 3 rfl) ?_
        refine lv_iadd hx hb dX12_findWays_150 ?_
        obtain ⟨g40, ho⟩ := gd_some ho
        refine mLD_17 C0 hW g40 dX12_findWays_151 ?_
        refine lv_aload_n hx hb dX12_findWays_152 rfl (lv_at hl 0 rfl) ?_
        refine mGET_28 C0 hW dX12_findWays_153 ?_
        refine lv_iload_n hx hb dX12_findWays_156 rfl (lv_at hl 3 rfl) ?_
        obtain ⟨g41, ho⟩ := gd_some ho
        refine mLD_28 C0 hW g41 dX12_findWays_157 ?_
        refine lv_ldc2 hx hb hown (hta _ kw_1807) dX12_findWays_158 ?_
        refine lv_lxor hx hb dX12_findWays_161 ?_
        refine lv_land hx hb dX12_findWays_162 ?_
        refine lv_nml ho (fun x42 ho => ?_)
        refine lv_lstore (lv' := [(4, .long x42), (0, .ref (am 68)), (1, .int v1), (2, .int v2), (3, .int v3)]) hx hb dX12_findWays_163 hl (by decide) rfl (fun ls hl => ?_)
        obtain ⟨y43, hc45, ho⟩ := bd_some ho
        obtain ⟨ny43, hc45⟩ := lp_to hc45
        refine m_findWays_L165 C0 ?_ ny43 _ _ hc45 _ _ _ hW (lv_sub hl [1, 2, 3, 4, 0] rfl)
        intro H locs ls hW hl
        obtain ⟨x46, ex46, ho⟩ := nm_x ho
        refine lv_iinc (v := x46) (lv' := [(3, .int x46), (0, .ref (am 68)), (1, .int v1), (2, .int v2)]) hx hb dX12_findWays_245 hl (k := 3) rfl (by rw [ex46]; rfl) (by decide) rfl (fun ls hl => ?_)
        clear ex46
        refine lv_goto (tgt := 120) hx hb dX12_findWays_248 (by decide) ?_
        cases ho
        exact ih _ _ hrun _ _ _ hW (lv_sub hl [1, 2, 3, 0] rfl)
set_option maxHeartbeats 4000000 in
set_option maxRecDepth 100000 in
theorem m_findWays_L112 {p : Program} {l : Launch} {e : Env} {s : State} {m : MethodId} {args : Array Value} {below : List Frame} {meth : Method} {c : Code} {Q : State → Prop} {D : va_G} {cI cJ cZ : ClassId} {am : Nat → Nat} {A : Nat → Prop} (C0 : cx p s m args meth c cX12_findWays RX12 7 (some .boolean) D (tyM cI cJ cZ) A) {v1 : Int32} {y : St} (hK0 : ∀ (H : Heap) (locs : List Loc) (ls : Array Slot), wl D A s (wM cI cJ cZ am y) H locs → lv_has ls 7 [(0, .ref (am 68))] → W p l e (rmN 3 73) s m args below meth c H locs 0 0 Q (F0 m 257 ls [])) :
    ∀ (n : Nat) (v2 : Int32) (t : St), lpn (fun x => m_findWays_B112 v1 x.1 x.2) n (v2, t) = some y → ∀ (H : Heap) (locs : List Loc) (ls : Array Slot), wl D A s (wM cI cJ cZ am t) H locs → lv_has ls 7 [(0, .ref (am 68)), (1, .int v1), (2, .int v2)] → W p l e (rmN 3 73) s m args below meth c H locs 0 0 Q (F0 m 112 ls []) := by
  have hx := C0.1
  have hb := C0.2.1
  have hta := C0.2.2.2.2.2.1
  have hown := C0.2.2.2.2.1
  intro n
  induction n with
  | zero => intro _ _ h; cases h
  | succ n ih =>
    intro v2 t hrun H locs ls hW hl
    obtain ⟨o, ho, hrun⟩ := bd_some hrun
    unfold m_findWays_B112 at ho
    refine lv_iload_n hx hb dX12_findWays_112 rfl (lv_at hl 2 rfl) ?_
    refine lv_bipush (v := (16 : Int32)) hx hb dX12_findWays_113 (by decide) ?_
    refine lv_icmp_gt (tgt := 257) hx hb dX12_findWays_115 (by decide) (fun c47 => ?_) (fun c47 => ?_)
    · replace ho := ite_t c47 ho
      cases ho
      cases hrun
      exact hK0 _ _ _ hW (lv_sub hl [0] rfl)
    · replace ho := ite_f c47 ho
      refine lv_iconst (v := (0 : Int32)) hx hb dX12_findWays_118 (by decide) ?_
      refine lv_istore_n (lv' := [(3, .int (0 : Int32)), (0, .ref (am 68)), (1, .int v1), (2, .int v2)]) hx hb dX12_findWays_119 rfl hl (by decide) rfl (fun ls hl => ?_)
      obtain ⟨y48, hc50, ho⟩ := bd_some ho
      obtain ⟨ny48, hc50⟩ := lp_to hc50
      refine m_findWays_L120 C0 ?_ ny48 _ _ hc50 _ _ _ hW (lv_sub hl [1, 2, 3, 0] rfl)
      intro H locs ls hW hl
      obtain ⟨x51, ex51, ho⟩ := nm_x ho
      refine lv_iinc (v := x51) (lv' := [(2, .int x51), (0, .ref (am 68)), (1, .int v1)]) hx hb dX12_findWays_251 hl (k := 2) rfl (by rw [ex51]; rfl) (by decide) rfl (fun ls hl => ?_)
      clear ex51
      refine lv_goto (tgt := 112) hx hb dX12_findWays_254 (by decide) ?_
      cases ho
      exact ih _ _ hrun _ _ _ hW (lv_sub hl [1, 2, 0] rfl)
set_option maxHeartbeats 4000000 in
set_option maxRecDepth 100000 in
theorem c_m_findWays (l : Launch) {D : va_G} {cI cJ cZ : ClassId} {am : Nat → Nat} (sz : Nat) (t : St) (a1 : Int32) {r : Int32} {t' : St} (ho : m_findWays t a1 = some (r, t')) : Met l yX12_findWays (.code yX12_findWays cX12_findWays 7 (some .boolean) :: wsAll) (rmN 3 73) (va_Pc [.ref (am 68), .int a1] (prW D (tyM cI cJ cZ) (wM cI cJ cZ am t) sz)) (qZ r D (tyM cI cJ cZ) (wM cI cJ cZ am t') (va_A (wM cI cJ cZ am t) sz)) 0 0 (va_A (wM cI cJ cZ am t) sz) := by
  refine Met.ofW (cc := cX12_findWays) (maxL := 7) (ret := (some .boolean)) (by decide) rfl ?_
  intro p e s m args below meth c s₁ B hml hv
  obtain ⟨rfl, hsz, hP, hK, hD0⟩ := hv
  have hx := B.exec
  have hb := B.bytes
  have hts := atoms_spec (ws := (.code yX12_findWays cX12_findWays 7 (some .boolean) :: wsAll)) B.pre
  have hta := fun w h => hts w (List.mem_cons_of_mem _ h)
  have hown : s.vm.findClass RX12 = some m.cls := findClass_of_methodNamed B.named
  have hlocks := B.notSynchronized
  subst hsz
  have hD := hD0.self (sz := s.heap.size)
  generalize hAe : va_A (wM cI cJ cZ am t) s.heap.size = A at hD ⊢
  have hA : ∀ q : Nat, s.heap.size ≤ q → A q := fun q h => by rw [← hAe]; exact Or.inr h
  have C0 : cx p s m ([.ref (am 68), .int a1].toArray) meth c cX12_findWays RX12 7 (some .boolean) D (tyM cI cJ cZ) A := ⟨hx, hb, B.returns, hml, hown, hta, hlocks, hK, hA⟩
  have hW : wl D A s (wM cI cJ cZ am t) s.heap [] := ⟨hP, hD, va_S.rf⟩
  have hl := lv_entry [.ref (am 68), .int a1] (n := 7) (Nat.le_of_ble_eq_true rfl)
  rw [lg_entry_eq]
  generalize (lg_sl [.ref (am 68), .int a1] ++ List.replicate (7 - (lg_sl [.ref (am 68), .int a1]).length) Slot.unset).toArray = ls at hl ⊢
  have hl : lv_has ls 7 [(0, .ref (am 68)), (1, .int a1)] := hl
  unfold m_findWays at ho
  refine lv_iconst (v := (0 : Int32)) hx hb dX12_findWays_0 (by decide) ?_
  refine lv_istore_n (lv' := [(2, .int (0 : Int32)), (0, .ref (am 68)), (1, .int a1)]) hx hb dX12_findWays_1 rfl hl (by decide) rfl (fun ls hl => ?_)
  obtain ⟨y52, hc54, ho⟩ := bd_some ho
  obtain ⟨ny52, hc54⟩ := lp_to hc54
  refine m_findWays_L2 C0 ?_ ny52 _ _ hc54 _ _ _ hW (lv_sub hl [1, 2, 0] rfl)
  intro H locs ls hW hl
  refine lv_iload_n hx hb dX12_findWays_29 rfl (lv_at hl 1 rfl) ?_
  refine lv_istore_n (lv' := [(2, .int a1), (0, .ref (am 68)), (1, .int a1)]) hx hb dX12_findWays_30 rfl hl (by decide) rfl (fun ls hl => ?_)
  obtain ⟨y55, hc57, ho⟩ := bd_some ho
  obtain ⟨ny55, hc57⟩ := lp_to hc57
  refine m_findWays_L31 C0 ?_ ?_ ny55 _ _ hc57 _ _ _ hW (lv_sub hl [1, 2, 0] rfl)
  · intro u58 hy H locs ls hW hl
    subst hy
    replace ho := sum_l ho
    refine lv_iconst (v := (0 : Int32)) hx hb dX12_findWays_55 (by decide) ?_
    cases ho
    exact rtZ C0 hW (Or.inl (rfl : (0 : Int32) = 0)) dX12_findWays_56
  · intro u58 hy H locs ls hW hl
    subst hy
    replace ho := sum_r ho
    refine lv_aload_n hx hb dX12_findWays_100 rfl (lv_at hl 0 rfl) ?_
    refine lv_iload_n hx hb dX12_findWays_101 rfl (lv_at hl 1 rfl) ?_
    obtain ⟨q59, hc60, ho⟩ := bd_some ho
    refine bkV C0 hW (runV (As := [.int a1]) (rest := []) C0 hW (c_m_findLesser l _ u58 a1 (t' := q59) hc60) ca_X12_findLesser_286 0 12 rfl rfl rfl rfl rfl ⟨rfl, rfl⟩ ⟨Nat.le_of_ble_eq_true rfl, Nat.le_of_ble_eq_true rfl⟩ (Nat.le_of_ble_eq_true rfl) hl.1 dX12_findWays_102 ⟨Nat.le_of_ble_eq_true rfl, Nat.le_of_ble_eq_true rfl⟩) (fun H locs hW => ?_)
    refine lv_aload_n hx hb dX12_findWays_105 rfl (lv_at hl 0 rfl) ?_
    refine lv_iconst (v := (0 : Int32)) hx hb dX12_findWays_106 (by decide) ?_
    refine mPUT_31 C0 hW dX12_findWays_107 (fun H locs hW => ?_)
    obtain ⟨t61, ho, hW⟩ := nm_w (P := fun t => wl D A s (wM cI cJ cZ am t) H locs) ho hW
    refine lv_iconst (v := (0 : Int32)) hx hb dX12_findWays_110 (by decide) ?_
    refine lv_istore_n (lv' := [(2, .int (0 : Int32)), (0, .ref (am 68)), (1, .int a1)]) hx hb dX12_findWays_111 rfl hl (by decide) rfl (fun ls hl => ?_)
    obtain ⟨y62, hc64, ho⟩ := bd_some ho
    obtain ⟨ny62, hc64⟩ := lp_to hc64
    refine m_findWays_L112 C0 ?_ ny62 _ _ hc64 _ _ _ hW (lv_sub hl [1, 2, 0] rfl)
    intro H locs ls hW hl
    refine lv_iconst (v := (1 : Int32)) hx hb dX12_findWays_257 (by decide) ?_
    cases ho
    exact rtZ C0 hW (Or.inr (rfl : (1 : Int32) = 1)) dX12_findWays_258
