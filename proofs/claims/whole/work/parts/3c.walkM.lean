noncomputable def m_whyWays (t : St) (a1 : Int32) (a2 : Int32) : Option (Int32 × St) :=
  (m_why t a1 a2).bind (fun q1 => if q1 = (1 : Int32) then (gd a1 10 ((m_findWays t (gA t 16 (a1).toNatClampNeg)).bind (fun q5 => if q5.1 = 0 then (some ((-5 : Int32), q5.2)) else (some ((1 : Int32), q5.2))))) else (some (q1, t)))
set_option maxHeartbeats 4000000 in
set_option maxRecDepth 100000 in
theorem c_m_whyWays (l : Launch) {D : va_G} {cI cJ cZ : ClassId} {am : Nat → Nat} (sz : Nat) (t : St) (a1 : Int32) (a2 : Int32) {r : Int32} {t' : St} (ho : m_whyWays t a1 a2 = some (r, t')) : Met l yX12_whyWays (.code yX12_whyWays cX12_whyWays 4 (some .int) :: wsAll) (rmN 4 99) (va_Pc [.ref (am 68), .int a1, .int a2] (prW D (tyM cI cJ cZ) (wM cI cJ cZ am t) sz)) (qI r D (tyM cI cJ cZ) (wM cI cJ cZ am t') (va_A (wM cI cJ cZ am t) sz)) 0 0 (va_A (wM cI cJ cZ am t) sz) := by
  refine Met.ofW (cc := cX12_whyWays) (maxL := 4) (ret := (some .int)) (by decide) rfl ?_
  intro p e s m args below meth c s₁ B hml hv
  obtain ⟨rfl, hsz, hP, hK, hD0⟩ := hv
  have hx := B.exec
  have hb := B.bytes
  have hts := atoms_spec (ws := (.code yX12_whyWays cX12_whyWays 4 (some .int) :: wsAll)) B.pre
  have hta := fun w h => hts w (List.mem_cons_of_mem _ h)
  have hown : s.vm.findClass RX12 = some m.cls := findClass_of_methodNamed B.named
  have hlocks := B.notSynchronized
  subst hsz
  have hD := hD0.self (sz := s.heap.size)
  generalize hAe : va_A (wM cI cJ cZ am t) s.heap.size = A at hD ⊢
  have hA : ∀ q : Nat, s.heap.size ≤ q → A q := fun q h => by rw [← hAe]; exact Or.inr h
  have C0 : cx p s m ([.ref (am 68), .int a1, .int a2].toArray) meth c cX12_whyWays RX12 4 (some .int) D (tyM cI cJ cZ) A := ⟨hx, hb, B.returns, hml, hown, hta, hlocks, hK, hA⟩
  have hW : wl D A s (wM cI cJ cZ am t) s.heap [] := ⟨hP, hD, va_S.rf⟩
  have hl := lv_entry [.ref (am 68), .int a1, .int a2] (n := 4) (Nat.le_of_ble_eq_true rfl)
  rw [lg_entry_eq]
  generalize (lg_sl [.ref (am 68), .int a1, .int a2] ++ List.replicate (4 - (lg_sl [.ref (am 68), .int a1, .int a2]).length) Slot.unset).toArray = ls at hl ⊢
  have hl : lv_has ls 4 [(0, .ref (am 68)), (1, .int a1), (2, .int a2)] := hl
  unfold m_whyWays at ho
  refine lv_aload_n hx hb dX12_whyWays_0 rfl (lv_at hl 0 rfl) ?_
  refine lv_iload_n hx hb dX12_whyWays_1 rfl (lv_at hl 1 rfl) ?_
  refine lv_iload_n hx hb dX12_whyWays_2 rfl (lv_at hl 2 rfl) ?_
  obtain ⟨q1, hc2, ho⟩ := bd_some ho
  refine bkI C0 hW (runV (As := [.int a1, .int a2]) (rest := []) C0 hW (c_m_why l _ t a1 a2 (r := q1) hc2) ca_X12_why_271 0 12 rfl rfl rfl rfl rfl ⟨rfl, rfl⟩ ⟨Nat.le_of_ble_eq_true rfl, Nat.le_of_ble_eq_true rfl⟩ (Nat.le_of_ble_eq_true rfl) hl.1 dX12_whyWays_3 ⟨Nat.le_of_ble_eq_true rfl, Nat.le_of_ble_eq_true rfl⟩) (fun H locs hW => ?_)
  refine lv_istore_n (lv' := [(3, .int q1), (0, .ref (am 68)), (1, .int a1), (2, .int a2)]) hx hb dX12_whyWays_6 rfl hl (by decide) rfl (fun ls hl => ?_)
  refine lv_iload_n hx hb dX12_whyWays_7 rfl (lv_at hl 0 rfl) ?_
  refine lv_iconst (v := (1 : Int32)) hx hb dX12_whyWays_8 (by decide) ?_
  refine lv_icmp_eq (tgt := 16) hx hb dX12_whyWays_9 (by decide) (fun c3 => ?_) (fun c3 => ?_)
  · replace ho := ite_t c3 ho
    refine lv_aload_n hx hb dX12_whyWays_16 rfl (lv_at hl 1 rfl) ?_
    refine lv_aload_n hx hb dX12_whyWays_17 rfl (lv_at hl 1 rfl) ?_
    refine mGET_16 C0 hW dX12_whyWays_18 ?_
    refine lv_iload_n hx hb dX12_whyWays_21 rfl (lv_at hl 2 rfl) ?_
    obtain ⟨g4, ho⟩ := gd_some ho
    refine mLD_16 C0 hW g4 dX12_whyWays_22 ?_
    obtain ⟨q5, hc6, ho⟩ := bd_some ho
    refine bkZ C0 hW (runV (As := [.int (gA t 16 (a1).toNatClampNeg)]) (rest := []) C0 hW (c_m_findWays l _ t (gA t 16 (a1).toNatClampNeg) (r := q5.1) (t' := q5.2) hc6) ca_X12_findWays_298 0 12 rfl rfl rfl rfl rfl ⟨rfl, rfl⟩ ⟨Nat.le_of_ble_eq_true rfl, Nat.le_of_ble_eq_true rfl⟩ (Nat.le_of_ble_eq_true rfl) hl.1 dX12_whyWays_23 ⟨Nat.le_of_ble_eq_true rfl, Nat.le_of_ble_eq_true rfl⟩) (fun z7 H locs hW => ?_)
    refine lv_if_eq (tgt := 33) hx hb dX12_whyWays_26 (by decide) (fun c8 => ?_) (fun c8 => ?_)
    · replace ho := ite_t c8 ho
      refine lv_bipush (v := (-5 : Int32)) hx hb dX12_whyWays_33 (by decide) ?_
      cases ho
      exact rtI C0 hW dX12_whyWays_35
    · replace ho := ite_f c8 ho
      refine lv_iconst (v := (1 : Int32)) hx hb dX12_whyWays_29 (by decide) ?_
      refine lv_goto (tgt := 35) hx hb dX12_whyWays_30 (by decide) ?_
      cases ho
      exact rtI C0 hW dX12_whyWays_35
  · replace ho := ite_f c3 ho
    refine lv_iload_n hx hb dX12_whyWays_12 rfl (lv_at hl 0 rfl) ?_
    refine lv_goto (tgt := 35) hx hb dX12_whyWays_13 (by decide) ?_
    cases ho
    exact rtI C0 hW dX12_whyWays_35
noncomputable def m_ways (t : St) (a1 : Int32) : Option (Int32 × St) :=
  (m_whyWays t a1 (1 : Int32)).bind (fun q1 => if q1.1 = (1 : Int32) then (some ((gI q1.2 31), q1.2)) else (some (q1.1, q1.2)))
set_option maxHeartbeats 4000000 in
set_option maxRecDepth 100000 in
theorem c_m_ways (l : Launch) {D : va_G} {cI cJ cZ : ClassId} {am : Nat → Nat} (sz : Nat) (t : St) (a1 : Int32) {r : Int32} {t' : St} (ho : m_ways t a1 = some (r, t')) : Met l yX12_ways (.code yX12_ways cX12_ways 3 (some .int) :: wsAll) (rmN 5 122) (va_Pc [.ref (am 68), .int a1] (prW D (tyM cI cJ cZ) (wM cI cJ cZ am t) sz)) (qI r D (tyM cI cJ cZ) (wM cI cJ cZ am t') (va_A (wM cI cJ cZ am t) sz)) 0 0 (va_A (wM cI cJ cZ am t) sz) := by
  refine Met.ofW (cc := cX12_ways) (maxL := 3) (ret := (some .int)) (by decide) rfl ?_
  intro p e s m args below meth c s₁ B hml hv
  obtain ⟨rfl, hsz, hP, hK, hD0⟩ := hv
  have hx := B.exec
  have hb := B.bytes
  have hts := atoms_spec (ws := (.code yX12_ways cX12_ways 3 (some .int) :: wsAll)) B.pre
  have hta := fun w h => hts w (List.mem_cons_of_mem _ h)
  have hown : s.vm.findClass RX12 = some m.cls := findClass_of_methodNamed B.named
  have hlocks := B.notSynchronized
  subst hsz
  have hD := hD0.self (sz := s.heap.size)
  generalize hAe : va_A (wM cI cJ cZ am t) s.heap.size = A at hD ⊢
  have hA : ∀ q : Nat, s.heap.size ≤ q → A q := fun q h => by rw [← hAe]; exact Or.inr h
  have C0 : cx p s m ([.ref (am 68), .int a1].toArray) meth c cX12_ways RX12 3 (some .int) D (tyM cI cJ cZ) A := ⟨hx, hb, B.returns, hml, hown, hta, hlocks, hK, hA⟩
  have hW : wl D A s (wM cI cJ cZ am t) s.heap [] := ⟨hP, hD, va_S.rf⟩
  have hl := lv_entry [.ref (am 68), .int a1] (n := 3) (Nat.le_of_ble_eq_true rfl)
  rw [lg_entry_eq]
  generalize (lg_sl [.ref (am 68), .int a1] ++ List.replicate (3 - (lg_sl [.ref (am 68), .int a1]).length) Slot.unset).toArray = ls at hl ⊢
  have hl : lv_has ls 3 [(0, .ref (am 68)), (1, .int a1)] := hl
  unfold m_ways at ho
  refine lv_aload_n hx hb dX12_ways_0 rfl (lv_at hl 0 rfl) ?_
  refine lv_iload_n hx hb dX12_ways_1 rfl (lv_at hl 1 rfl) ?_
  refine lv_iconst (v := (1 : Int32)) hx hb dX12_ways_2 (by decide) ?_
  obtain ⟨q1, hc2, ho⟩ := bd_some ho
  refine bkI C0 hW (runV (As := [.int a1, .int (1 : Int32)]) (rest := []) C0 hW (c_m_whyWays l _ t a1 (1 : Int32) (r := q1.1) (t' := q1.2) hc2) ca_X12_whyWays_301 0 12 rfl rfl rfl rfl rfl ⟨rfl, rfl⟩ ⟨Nat.le_of_ble_eq_true rfl, Nat.le_of_ble_eq_true rfl⟩ (Nat.le_of_ble_eq_true rfl) hl.1 dX12_ways_3 ⟨Nat.le_of_ble_eq_true rfl, Nat.le_of_ble_eq_true rfl⟩) (fun H locs hW => ?_)
  refine lv_istore_n (lv' := [(2, .int q1.1), (0, .ref (am 68)), (1, .int a1)]) hx hb dX12_ways_6 rfl hl (by decide) rfl (fun ls hl => ?_)
  refine lv_iload_n hx hb dX12_ways_7 rfl (lv_at hl 0 rfl) ?_
  refine lv_iconst (v := (1 : Int32)) hx hb dX12_ways_8 (by decide) ?_
  refine lv_icmp_eq (tgt := 16) hx hb dX12_ways_9 (by decide) (fun c3 => ?_) (fun c3 => ?_)
  · replace ho := ite_t c3 ho
    refine lv_aload_n hx hb dX12_ways_16 rfl (lv_at hl 1 rfl) ?_
    refine mGET_31 C0 hW dX12_ways_17 ?_
    cases ho
    exact rtI C0 hW dX12_ways_20
  · replace ho := ite_f c3 ho
    refine lv_iload_n hx hb dX12_ways_12 rfl (lv_at hl 0 rfl) ?_
    refine lv_goto (tgt := 20) hx hb dX12_ways_13 (by decide) ?_
    cases ho
    exact rtI C0 hW dX12_ways_20
noncomputable def m_wayAt_J11 (t : St) (v2 : Int32) (w1 : Int32) (w2 : Int32) : Option (Int32 × St) :=
  (m_whyWays t w1 w2).bind (fun q1 => if q1.1 = (1 : Int32) then (if (gI q1.2 31) ≤ v2 then (some ((-1 : Int32), q1.2)) else (gd v2 200 (some ((gA q1.2 30 (v2).toNatClampNeg), q1.2)))) else (some (q1.1, q1.2)))
noncomputable def m_wayAt (t : St) (a1 : Int32) (a2 : Int32) : Option (Int32 × St) :=
  if a2 < 0 then (m_wayAt_J11 t a2 a1 (0 : Int32)) else (m_wayAt_J11 t a2 a1 (1 : Int32))
set_option maxHeartbeats 4000000 in
set_option maxRecDepth 100000 in
theorem c_m_wayAt (l : Launch) {D : va_G} {cI cJ cZ : ClassId} {am : Nat → Nat} (sz : Nat) (t : St) (a1 : Int32) (a2 : Int32) {r : Int32} {t' : St} (ho : m_wayAt t a1 a2 = some (r, t')) : Met l yX12_wayAt (.code yX12_wayAt cX12_wayAt 4 (some .int) :: wsAll) (rmN 5 122) (va_Pc [.ref (am 68), .int a1, .int a2] (prW D (tyM cI cJ cZ) (wM cI cJ cZ am t) sz)) (qI r D (tyM cI cJ cZ) (wM cI cJ cZ am t') (va_A (wM cI cJ cZ am t) sz)) 0 0 (va_A (wM cI cJ cZ am t) sz) := by
  refine Met.ofW (cc := cX12_wayAt) (maxL := 4) (ret := (some .int)) (by decide) rfl ?_
  intro p e s m args below meth c s₁ B hml hv
  obtain ⟨rfl, hsz, hP, hK, hD0⟩ := hv
  have hx := B.exec
  have hb := B.bytes
  have hts := atoms_spec (ws := (.code yX12_wayAt cX12_wayAt 4 (some .int) :: wsAll)) B.pre
  have hta := fun w h => hts w (List.mem_cons_of_mem _ h)
  have hown : s.vm.findClass RX12 = some m.cls := findClass_of_methodNamed B.named
  have hlocks := B.notSynchronized
  subst hsz
  have hD := hD0.self (sz := s.heap.size)
  generalize hAe : va_A (wM cI cJ cZ am t) s.heap.size = A at hD ⊢
  have hA : ∀ q : Nat, s.heap.size ≤ q → A q := fun q h => by rw [← hAe]; exact Or.inr h
  have C0 : cx p s m ([.ref (am 68), .int a1, .int a2].toArray) meth c cX12_wayAt RX12 4 (some .int) D (tyM cI cJ cZ) A := ⟨hx, hb, B.returns, hml, hown, hta, hlocks, hK, hA⟩
  have hW : wl D A s (wM cI cJ cZ am t) s.heap [] := ⟨hP, hD, va_S.rf⟩
  have hl := lv_entry [.ref (am 68), .int a1, .int a2] (n := 4) (Nat.le_of_ble_eq_true rfl)
  rw [lg_entry_eq]
  generalize (lg_sl [.ref (am 68), .int a1, .int a2] ++ List.replicate (4 - (lg_sl [.ref (am 68), .int a1, .int a2]).length) Slot.unset).toArray = ls at hl ⊢
  have hl : lv_has ls 4 [(0, .ref (am 68)), (1, .int a1), (2, .int a2)] := hl
  clear hAe hD hP hD0 hts
  have J11 : ∀ (t : St) (v2 : Int32) (w1 : Int32) (w2 : Int32) (_ : m_wayAt_J11 t v2 w1 w2 = some (r, t')) (H : Heap) (locs : List Loc) (ls : Array Slot), wl D A s (wM cI cJ cZ am t) H locs → lv_has ls 4 [(0, .ref (am 68)), (2, .int v2)] → W p l e (rmN 5 122) s m ([.ref (am 68), .int a1, .int a2].toArray) below meth c H locs 0 0 (MQ below (qI r D (tyM cI cJ cZ) (wM cI cJ cZ am t') A) ([.ref (am 68), .int a1, .int a2].toArray) s 0 0 A) (F0 m 11 ls [.int w2, .int w1, .ref (am 68)]) := by
    intro t v2 w1 w2 ho H locs ls hW hl
    unfold m_wayAt_J11 at ho
    obtain ⟨q1, hc2, ho⟩ := bd_some ho
    refine bkI C0 hW (runV (As := [.int w1, .int w2]) (rest := []) C0 hW (c_m_whyWays l _ t w1 w2 (r := q1.1) (t' := q1.2) hc2) ca_X12_whyWays_301 0 12 rfl rfl rfl rfl rfl ⟨rfl, rfl⟩ ⟨Nat.le_of_ble_eq_true rfl, Nat.le_of_ble_eq_true rfl⟩ (Nat.le_of_ble_eq_true rfl) hl.1 dX12_wayAt_11 ⟨Nat.le_of_ble_eq_true rfl, Nat.le_of_ble_eq_true rfl⟩) (fun H locs hW => ?_)
    refine lv_istore_n (lv' := [(3, .int q1.1), (0, .ref (am 68)), (2, .int v2)]) hx hb dX12_wayAt_14 rfl hl (by decide) rfl (fun ls hl => ?_)
    refine lv_iload_n hx hb dX12_wayAt_15 rfl (lv_at hl 0 rfl) ?_
    refine lv_iconst (v := (1 : Int32)) hx hb dX12_wayAt_16 (by decide) ?_
    refine lv_icmp_eq (tgt := 24) hx hb dX12_wayAt_17 (by decide) (fun c3 => ?_) (fun c3 => ?_)
    · replace ho := ite_t c3 ho
      refine lv_iload_n hx hb dX12_wayAt_24 rfl (lv_at hl 2 rfl) ?_
      refine lv_aload_n hx hb dX12_wayAt_25 rfl (lv_at hl 1 rfl) ?_
      refine mGET_31 C0 hW dX12_wayAt_26 ?_
      refine lv_icmp_ge (tgt := 41) hx hb dX12_wayAt_29 (by decide) (fun c4 => ?_) (fun c4 => ?_)
      · replace ho := ite_t c4 ho
        refine lv_iconst (v := (-1 : Int32)) hx hb dX12_wayAt_41 (by decide) ?_
        cases ho
        exact rtI C0 hW dX12_wayAt_42
      · replace ho := ite_f c4 ho
        refine lv_aload_n hx hb dX12_wayAt_32 rfl (lv_at hl 1 rfl) ?_
        refine mGET_30 C0 hW dX12_wayAt_33 ?_
        refine lv_iload_n hx hb dX12_wayAt_36 rfl (lv_at hl 2 rfl) ?_
        obtain ⟨g5, ho⟩ := gd_some ho
        refine mLD_30 C0 hW g5 dX12_wayAt_37 ?_
        refine lv_goto (tgt := 42) hx hb dX12_wayAt_38 (by decide) ?_
        cases ho
        exact rtI C0 hW dX12_wayAt_42
    · replace ho := ite_f c3 ho
      refine lv_iload_n hx hb dX12_wayAt_20 rfl (lv_at hl 0 rfl) ?_
      refine lv_goto (tgt := 42) hx hb dX12_wayAt_21 (by decide) ?_
      cases ho
      exact rtI C0 hW dX12_wayAt_42
  unfold m_wayAt at ho
  refine lv_aload_n hx hb dX12_wayAt_0 rfl (lv_at hl 0 rfl) ?_
  refine lv_iload_n hx hb dX12_wayAt_1 rfl (lv_at hl 1 rfl) ?_
  refine lv_iload_n hx hb dX12_wayAt_2 rfl (lv_at hl 2 rfl) ?_
  refine lv_if_lt (tgt := 10) hx hb dX12_wayAt_3 (by decide) (fun c6 => ?_) (fun c6 => ?_)
  · replace ho := ite_t c6 ho
    refine lv_iconst (v := (0 : Int32)) hx hb dX12_wayAt_10 (by decide) ?_
    exact J11 _ _ _ _ ho _ _ _ hW (lv_sub hl [0, 2] rfl)
  · replace ho := ite_f c6 ho
    refine lv_iconst (v := (1 : Int32)) hx hb dX12_wayAt_6 (by decide) ?_
    refine lv_goto (tgt := 11) hx hb dX12_wayAt_7 (by decide) ?_
    exact J11 _ _ _ _ ho _ _ _ hW (lv_sub hl [0, 2] rfl)
noncomputable def m_sumOf_B6 (t : St) (v1 : Int32) (v2 : Int32) (v3 : Int32) (v4 : Int32) (v5 : Int32) : Option ((Int32 × Int32) ⊕ (Int32)) :=
  if (16 : Int32) ≤ v5 then (some (.inr v4)) else (if ((v1 >>> (v5 &&& 31)) &&& (1 : Int32)) = (1 : Int32) then (if v2 = (1 : Int32) then (gd v5 16 (nm (v4 + (gA t 1 (v5).toNatClampNeg)) (fun x12 : Int32 => nm (v5 + (1 : Int32)) (fun x13 : Int32 => some (.inl (x12, x13)))))) else (if ((v3 >>> (v5 &&& 31)) &&& (1 : Int32)) = (1 : Int32) then (nm (v4 + (0 : Int32)) (fun x9 : Int32 => nm (v5 + (1 : Int32)) (fun x10 : Int32 => some (.inl (x9, x10))))) else (gd v5 16 (nm (v4 + (gA t 0 (v5).toNatClampNeg)) (fun x7 : Int32 => nm (v5 + (1 : Int32)) (fun x8 : Int32 => some (.inl (x7, x8)))))))) else (nm (v5 + (1 : Int32)) (fun x3 : Int32 => some (.inl (v4, x3)))))
noncomputable def m_sumOf (t : St) (a1 : Int32) (a2 : Int32) (a3 : Int32) : Option (Int32) :=
  (lp (fun x => m_sumOf_B6 t a1 a2 a3 x.1 x.2) ((0 : Int32), (0 : Int32))).bind (fun y14 => some y14)
set_option maxHeartbeats 4000000 in
set_option maxRecDepth 100000 in
theorem m_sumOf_L6 {p : Program} {l : Launch} {e : Env} {s : State} {m : MethodId} {args : Array Value} {below : List Frame} {meth : Method} {c : Code} {Q : State → Prop} {D : va_G} {cI cJ cZ : ClassId} {am : Nat → Nat} {A : Nat → Prop} (C0 : cx p s m args meth c cX12_sumOf RX12 6 (some .int) D (tyM cI cJ cZ) A) {t : St} {v1 : Int32} {v2 : Int32} {v3 : Int32} {y : Int32} (hK0 : ∀ (H : Heap) (locs : List Loc) (ls : Array Slot), wl D A s (wM cI cJ cZ am t) H locs → lv_has ls 6 [(0, .ref (am 68)), (4, .int y)] → W p l e (rmN 0 0) s m args below meth c H locs 0 0 Q (F0 m 70 ls [])) :
    ∀ (n : Nat) (v4 : Int32) (v5 : Int32), lpn (fun x => m_sumOf_B6 t v1 v2 v3 x.1 x.2) n (v4, v5) = some y → ∀ (H : Heap) (locs : List Loc) (ls : Array Slot), wl D A s (wM cI cJ cZ am t) H locs → lv_has ls 6 [(0, .ref (am 68)), (1, .int v1), (2, .int v2), (3, .int v3), (4, .int v4), (5, .int v5)] → W p l e (rmN 0 0) s m args below meth c H locs 0 0 Q (F0 m 6 ls []) := by
  have hx := C0.1
  have hb := C0.2.1
  have hta := C0.2.2.2.2.2.1
  have hown := C0.2.2.2.2.1
  intro n
  induction n with
  | zero => intro _ _ h; cases h
  | succ n ih =>
    intro v4 v5 hrun H locs ls hW hl
    obtain ⟨o, ho, hrun⟩ := bd_some hrun
    unfold m_sumOf_B6 at ho
    refine lv_iload hx hb dX12_sumOf_6 (lv_at hl 5 rfl) ?_
    refine lv_bipush (v := (16 : Int32)) hx hb dX12_sumOf_8 (by decide) ?_
    refine lv_icmp_ge (tgt := 70) hx hb dX12_sumOf_10 (by decide) (fun c1 => ?_) (fun c1 => ?_)
    · replace ho := ite_t c1 ho
      cases ho
      cases hrun
      exact hK0 _ _ _ hW (lv_sub hl [0, 4] rfl)
    · replace ho := ite_f c1 ho
      refine lv_iload_n hx hb dX12_sumOf_13 rfl (lv_at hl 1 rfl) ?_
      refine lv_iload hx hb dX12_sumOf_14 (lv_at hl 5 rfl) ?_
      refine lv_ishr hx hb dX12_sumOf_16 ?_
      refine lv_iconst (v := (1 : Int32)) hx hb dX12_sumOf_17 (by decide) ?_
      refine lv_iand hx hb dX12_sumOf_18 ?_
      refine lv_iconst (v := (1 : Int32)) hx hb dX12_sumOf_19 (by decide) ?_
      refine lv_icmp_ne (tgt := 64) hx hb dX12_sumOf_20 (by decide) (fun c2 => ?_) (fun c2 => ?_)
      · replace ho := ite_f c2 ho
        obtain ⟨x3, ex3, ho⟩ := nm_x ho
        refine lv_iinc (v := x3) (lv' := [(5, .int x3), (0, .ref (am 68)), (1, .int v1), (2, .int v2), (3, .int v3), (4, .int v4)]) hx hb dX12_sumOf_64 hl (k := 5) rfl (by rw [ex3]; rfl) (by decide) rfl (fun ls hl => ?_)
        clear ex3
        refine lv_goto (tgt := 6) hx hb dX12_sumOf_67 (by decide) ?_
        cases ho
        exact ih _ _ hrun _ _ _ hW (lv_sub hl [1, 2, 3, 4, 5, 0] rfl)
      · replace ho := ite_t c2 ho
        refine lv_iload hx hb dX12_sumOf_23 (lv_at hl 4 rfl) ?_
        refine lv_iload_n hx hb dX12_sumOf_25 rfl (lv_at hl 2 rfl) ?_
        refine lv_iconst (v := (1 : Int32)) hx hb dX12_sumOf_26 (by decide) ?_
        refine lv_icmp_ne (tgt := 40) hx hb dX12_sumOf_27 (by decide) (fun c4 => ?_) (fun c4 => ?_)
        · replace ho := ite_f c4 ho
          refine lv_iload_n hx hb dX12_sumOf_40 rfl (lv_at hl 3 rfl) ?_
          refine lv_iload hx hb dX12_sumOf_41 (lv_at hl 5 rfl) ?_
          refine lv_ishr hx hb dX12_sumOf_43 ?_
          refine lv_iconst (v := (1 : Int32)) hx hb dX12_sumOf_44 (by decide) ?_
          refine lv_iand hx hb dX12_sumOf_45 ?_
          refine lv_iconst (v := (1 : Int32)) hx hb dX12_sumOf_46 (by decide) ?_
          refine lv_icmp_ne (tgt := 54) hx hb dX12_sumOf_47 (by decide) (fun c5 => ?_) (fun c5 => ?_)
          · replace ho := ite_f c5 ho
            refine lv_aload_n hx hb dX12_sumOf_54 rfl (lv_at hl 0 rfl) ?_
            refine mGET_0 C0 hW dX12_sumOf_55 ?_
            refine lv_iload hx hb dX12_sumOf_58 (lv_at hl 5 rfl) ?_
            obtain ⟨g6, ho⟩ := gd_some ho
            refine mLD_0 C0 hW g6 dX12_sumOf_60 ?_
            refine lv_iadd hx hb dX12_sumOf_61 ?_
            refine lv_nmi ho (fun x7 ho => ?_)
            refine lv_istore (lv' := [(4, .int x7), (0, .ref (am 68)), (1, .int v1), (2, .int v2), (3, .int v3), (5, .int v5)]) hx hb dX12_sumOf_62 hl (by decide) rfl (fun ls hl => ?_)
            obtain ⟨x8, ex8, ho⟩ := nm_x ho
            refine lv_iinc (v := x8) (lv' := [(5, .int x8), (4, .int x7), (0, .ref (am 68)), (1, .int v1), (2, .int v2), (3, .int v3)]) hx hb dX12_sumOf_64 hl (k := 5) rfl (by rw [ex8]; rfl) (by decide) rfl (fun ls hl => ?_)
            clear ex8
            refine lv_goto (tgt := 6) hx hb dX12_sumOf_67 (by decide) ?_
            cases ho
            exact ih _ _ hrun _ _ _ hW (lv_sub hl [2, 3, 4, 5, 1, 0] rfl)
          · replace ho := ite_t c5 ho
            refine lv_iconst (v := (0 : Int32)) hx hb dX12_sumOf_50 (by decide) ?_
            refine lv_goto (tgt := 61) hx hb dX12_sumOf_51 (by decide) ?_
            refine lv_iadd hx hb dX12_sumOf_61 ?_
            refine lv_nmi ho (fun x9 ho => ?_)
            refine lv_istore (lv' := [(4, .int x9), (0, .ref (am 68)), (1, .int v1), (2, .int v2), (3, .int v3), (5, .int v5)]) hx hb dX12_sumOf_62 hl (by decide) rfl (fun ls hl => ?_)
            obtain ⟨x10, ex10, ho⟩ := nm_x ho
            refine lv_iinc (v := x10) (lv' := [(5, .int x10), (4, .int x9), (0, .ref (am 68)), (1, .int v1), (2, .int v2), (3, .int v3)]) hx hb dX12_sumOf_64 hl (k := 5) rfl (by rw [ex10]; rfl) (by decide) rfl (fun ls hl => ?_)
            clear ex10
            refine lv_goto (tgt := 6) hx hb dX12_sumOf_67 (by decide) ?_
            cases ho
            exact ih _ _ hrun _ _ _ hW (lv_sub hl [2, 3, 4, 5, 1, 0] rfl)
        · replace ho := ite_t c4 ho
          refine lv_aload_n hx hb dX12_sumOf_30 rfl (lv_at hl 0 rfl) ?_
          refine mGET_1 C0 hW dX12_sumOf_31 ?_
          refine lv_iload hx hb dX12_sumOf_34 (lv_at hl 5 rfl) ?_
          obtain ⟨g11, ho⟩ := gd_some ho
          refine mLD_1 C0 hW g11 dX12_sumOf_36 ?_
          refine lv_goto (tgt := 61) hx hb dX12_sumOf_37 (by decide) ?_
          refine lv_iadd hx hb dX12_sumOf_61 ?_
          refine lv_nmi ho (fun x12 ho => ?_)
          refine lv_istore (lv' := [(4, .int x12), (0, .ref (am 68)), (1, .int v1), (2, .int v2), (3, .int v3), (5, .int v5)]) hx hb dX12_sumOf_62 hl (by decide) rfl (fun ls hl => ?_)
          obtain ⟨x13, ex13, ho⟩ := nm_x ho
          refine lv_iinc (v := x13) (lv' := [(5, .int x13), (4, .int x12), (0, .ref (am 68)), (1, .int v1), (2, .int v2), (3, .int v3)]) hx hb dX12_sumOf_64 hl (k := 5) rfl (by rw [ex13]; rfl) (by decide) rfl (fun ls hl => ?_)
          clear ex13
          refine lv_goto (tgt := 6) hx hb dX12_sumOf_67 (by decide) ?_
          cases ho
          exact ih _ _ hrun _ _ _ hW (lv_sub hl [2, 3, 4, 5, 1, 0] rfl)
set_option maxHeartbeats 4000000 in
set_option maxRecDepth 100000 in
theorem c_m_sumOf (l : Launch) {D : va_G} {cI cJ cZ : ClassId} {am : Nat → Nat} (sz : Nat) (t : St) (a1 : Int32) (a2 : Int32) (a3 : Int32) {r : Int32} (ho : m_sumOf t a1 a2 a3 = some r) : Met l yX12_sumOf (.code yX12_sumOf cX12_sumOf 6 (some .int) :: wsAll) (rmN 0 0) (va_Pc [.ref (am 68), .int a1, .int a2, .int a3] (prW D (tyM cI cJ cZ) (wM cI cJ cZ am t) sz)) (qI r D (tyM cI cJ cZ) (wM cI cJ cZ am t) (va_A (wM cI cJ cZ am t) sz)) 0 0 (va_A (wM cI cJ cZ am t) sz) := by
  refine Met.ofW (cc := cX12_sumOf) (maxL := 6) (ret := (some .int)) (by decide) rfl ?_
  intro p e s m args below meth c s₁ B hml hv
  obtain ⟨rfl, hsz, hP, hK, hD0⟩ := hv
  have hx := B.exec
  have hb := B.bytes
  have hts := atoms_spec (ws := (.code yX12_sumOf cX12_sumOf 6 (some .int) :: wsAll)) B.pre
  have hta := fun w h => hts w (List.mem_cons_of_mem _ h)
  have hown : s.vm.findClass RX12 = some m.cls := findClass_of_methodNamed B.named
  have hlocks := B.notSynchronized
  subst hsz
  have hD := hD0.self (sz := s.heap.size)
  generalize hAe : va_A (wM cI cJ cZ am t) s.heap.size = A at hD ⊢
  have hA : ∀ q : Nat, s.heap.size ≤ q → A q := fun q h => by rw [← hAe]; exact Or.inr h
  have C0 : cx p s m ([.ref (am 68), .int a1, .int a2, .int a3].toArray) meth c cX12_sumOf RX12 6 (some .int) D (tyM cI cJ cZ) A := ⟨hx, hb, B.returns, hml, hown, hta, hlocks, hK, hA⟩
  have hW : wl D A s (wM cI cJ cZ am t) s.heap [] := ⟨hP, hD, va_S.rf⟩
  have hl := lv_entry [.ref (am 68), .int a1, .int a2, .int a3] (n := 6) (Nat.le_of_ble_eq_true rfl)
  rw [lg_entry_eq]
  generalize (lg_sl [.ref (am 68), .int a1, .int a2, .int a3] ++ List.replicate (6 - (lg_sl [.ref (am 68), .int a1, .int a2, .int a3]).length) Slot.unset).toArray = ls at hl ⊢
  have hl : lv_has ls 6 [(0, .ref (am 68)), (1, .int a1), (2, .int a2), (3, .int a3)] := hl
  unfold m_sumOf at ho
  refine lv_iconst (v := (0 : Int32)) hx hb dX12_sumOf_0 (by decide) ?_
  refine lv_istore (lv' := [(4, .int (0 : Int32)), (0, .ref (am 68)), (1, .int a1), (2, .int a2), (3, .int a3)]) hx hb dX12_sumOf_1 hl (by decide) rfl (fun ls hl => ?_)
  refine lv_iconst (v := (0 : Int32)) hx hb dX12_sumOf_3 (by decide) ?_
  refine lv_istore (lv' := [(5, .int (0 : Int32)), (4, .int (0 : Int32)), (0, .ref (am 68)), (1, .int a1), (2, .int a2), (3, .int a3)]) hx hb dX12_sumOf_4 hl (by decide) rfl (fun ls hl => ?_)
  obtain ⟨y14, hc16, ho⟩ := bd_some ho
  obtain ⟨ny14, hc16⟩ := lp_to hc16
  refine m_sumOf_L6 C0 ?_ ny14 _ _ hc16 _ _ _ hW (lv_sub hl [2, 3, 4, 5, 1, 0] rfl)
  intro H locs ls hW hl
  refine lv_iload hx hb dX12_sumOf_70 (lv_at hl 1 rfl) ?_
  cases ho
  exact rtI C0 hW dX12_sumOf_72
noncomputable def m_leastAt_B5 (t : St) (v1 : Int32) (v2 : Int32) (v3 : Int32) (v4 : Int32) : Option ((Int32 × Int32) ⊕ (Int32)) :=
  if (gI t 31) ≤ v4 then (some (.inr v3)) else (gd v4 200 ((m_sumOf t (gA t 30 (v4).toNatClampNeg) v1 v2).bind (fun q3 => gd v3 200 ((m_sumOf t (gA t 30 (v3).toNatClampNeg) v1 v2).bind (fun q6 => if q6 ≤ q3 then (nm (v4 + (1 : Int32)) (fun x9 : Int32 => some (.inl (v3, x9)))) else (nm (v4 + (1 : Int32)) (fun x10 : Int32 => some (.inl (v4, x10)))))))))
noncomputable def m_leastAt (t : St) (a1 : Int32) (a2 : Int32) : Option (Int32) :=
  (lp (fun x => m_leastAt_B5 t a1 a2 x.1 x.2) ((0 : Int32), (1 : Int32))).bind (fun y11 => some y11)
set_option maxHeartbeats 4000000 in
set_option maxRecDepth 100000 in
theorem m_leastAt_L5 {p : Program} {l : Launch} {e : Env} {s : State} {m : MethodId} {args : Array Value} {below : List Frame} {meth : Method} {c : Code} {Q : State → Prop} {D : va_G} {cI cJ cZ : ClassId} {am : Nat → Nat} {A : Nat → Prop} (C0 : cx p s m args meth c cX12_leastAt RX12 5 (some .int) D (tyM cI cJ cZ) A) {t : St} {v1 : Int32} {v2 : Int32} {y : Int32} (hK0 : ∀ (H : Heap) (locs : List Loc) (ls : Array Slot), wl D A s (wM cI cJ cZ am t) H locs → lv_has ls 5 [(0, .ref (am 68)), (3, .int y)] → W p l e (rmN 1 25) s m args below meth c H locs 0 0 Q (F0 m 55 ls [])) :
    ∀ (n : Nat) (v3 : Int32) (v4 : Int32), lpn (fun x => m_leastAt_B5 t v1 v2 x.1 x.2) n (v3, v4) = some y → ∀ (H : Heap) (locs : List Loc) (ls : Array Slot), wl D A s (wM cI cJ cZ am t) H locs → lv_has ls 5 [(0, .ref (am 68)), (1, .int v1), (2, .int v2), (3, .int v3), (4, .int v4)] → W p l e (rmN 1 25) s m args below meth c H locs 0 0 Q (F0 m 5 ls []) := by
  have hx := C0.1
  have hb := C0.2.1
  have hta := C0.2.2.2.2.2.1
  have hown := C0.2.2.2.2.1
  intro n
  induction n with
  | zero => intro _ _ h; cases h
  | succ n ih =>
    intro v3 v4 hrun H locs ls hW hl
    obtain ⟨o, ho, hrun⟩ := bd_some hrun
    unfold m_leastAt_B5 at ho
    refine lv_iload hx hb dX12_leastAt_5 (lv_at hl 4 rfl) ?_
    refine lv_aload_n hx hb dX12_leastAt_7 rfl (lv_at hl 0 rfl) ?_
    refine mGET_31 C0 hW dX12_leastAt_8 ?_
    refine lv_icmp_ge (tgt := 55) hx hb dX12_leastAt_11 (by decide) (fun c1 => ?_) (fun c1 => ?_)
    · replace ho := ite_t c1 ho
      cases ho
      cases hrun
      exact hK0 _ _ _ hW (lv_sub hl [0, 3] rfl)
    · replace ho := ite_f c1 ho
      refine lv_aload_n hx hb dX12_leastAt_14 rfl (lv_at hl 0 rfl) ?_
      refine lv_aload_n hx hb dX12_leastAt_15 rfl (lv_at hl 0 rfl) ?_
      refine mGET_30 C0 hW dX12_leastAt_16 ?_
      refine lv_iload hx hb dX12_leastAt_19 (lv_at hl 4 rfl) ?_
      obtain ⟨g2, ho⟩ := gd_some ho
      refine mLD_30 C0 hW g2 dX12_leastAt_21 ?_
      refine lv_iload_n hx hb dX12_leastAt_22 rfl (lv_at hl 1 rfl) ?_
      refine lv_iload_n hx hb dX12_leastAt_23 rfl (lv_at hl 2 rfl) ?_
      obtain ⟨q3, hc4, ho⟩ := bd_some ho
      refine bkI C0 hW (runV (As := [.int (gA t 30 (v4).toNatClampNeg), .int v1, .int v2]) (rest := []) C0 hW (c_m_sumOf l _ t (gA t 30 (v4).toNatClampNeg) v1 v2 (r := q3) hc4) ca_X12_sumOf_304 0 12 rfl rfl rfl rfl rfl ⟨rfl, rfl⟩ ⟨Nat.le_of_ble_eq_true rfl, Nat.le_of_ble_eq_true rfl⟩ (Nat.le_of_ble_eq_true rfl) hl.1 dX12_leastAt_24 ⟨Nat.le_of_ble_eq_true rfl, Nat.le_of_ble_eq_true rfl⟩) (fun H locs hW => ?_)
      refine lv_aload_n hx hb dX12_leastAt_27 rfl (lv_at hl 0 rfl) ?_
      refine lv_aload_n hx hb dX12_leastAt_28 rfl (lv_at hl 0 rfl) ?_
      refine mGET_30 C0 hW dX12_leastAt_29 ?_
      refine lv_iload_n hx hb dX12_leastAt_32 rfl (lv_at hl 3 rfl) ?_
      obtain ⟨g5, ho⟩ := gd_some ho
      refine mLD_30 C0 hW g5 dX12_leastAt_33 ?_
      refine lv_iload_n hx hb dX12_leastAt_34 rfl (lv_at hl 1 rfl) ?_
      refine lv_iload_n hx hb dX12_leastAt_35 rfl (lv_at hl 2 rfl) ?_
      obtain ⟨q6, hc7, ho⟩ := bd_some ho
      refine bkI C0 hW (runV (As := [.int (gA t 30 (v3).toNatClampNeg), .int v1, .int v2]) (rest := [.int q3]) C0 hW (c_m_sumOf l _ t (gA t 30 (v3).toNatClampNeg) v1 v2 (r := q6) hc7) ca_X12_sumOf_304 0 12 rfl rfl rfl rfl rfl ⟨rfl, rfl⟩ ⟨Nat.le_of_ble_eq_true rfl, Nat.le_of_ble_eq_true rfl⟩ (Nat.le_of_ble_eq_true rfl) hl.1 dX12_leastAt_36 ⟨Nat.le_of_ble_eq_true rfl, Nat.le_of_ble_eq_true rfl⟩) (fun H locs hW => ?_)
      refine lv_icmp_ge (tgt := 47) hx hb dX12_leastAt_39 (by decide) (fun c8 => ?_) (fun c8 => ?_)
      · replace ho := ite_t c8 ho
        refine lv_iload_n hx hb dX12_leastAt_47 rfl (lv_at hl 3 rfl) ?_
        refine lv_istore_n (lv' := [(3, .int v3), (0, .ref (am 68)), (1, .int v1), (2, .int v2), (4, .int v4)]) hx hb dX12_leastAt_48 rfl hl (by decide) rfl (fun ls hl => ?_)
        obtain ⟨x9, ex9, ho⟩ := nm_x ho
        refine lv_iinc (v := x9) (lv' := [(4, .int x9), (3, .int v3), (0, .ref (am 68)), (1, .int v1), (2, .int v2)]) hx hb dX12_leastAt_49 hl (k := 4) rfl (by rw [ex9]; rfl) (by decide) rfl (fun ls hl => ?_)
        clear ex9
        refine lv_goto (tgt := 5) hx hb dX12_leastAt_52 (by decide) ?_
        cases ho
        exact ih _ _ hrun _ _ _ hW (lv_sub hl [2, 3, 4, 1, 0] rfl)
      · replace ho := ite_f c8 ho
        refine lv_iload hx hb dX12_leastAt_42 (lv_at hl 4 rfl) ?_
        refine lv_goto (tgt := 48) hx hb dX12_leastAt_44 (by decide) ?_
        refine lv_istore_n (lv' := [(3, .int v4), (0, .ref (am 68)), (1, .int v1), (2, .int v2), (4, .int v4)]) hx hb dX12_leastAt_48 rfl hl (by decide) rfl (fun ls hl => ?_)
        obtain ⟨x10, ex10, ho⟩ := nm_x ho
        refine lv_iinc (v := x10) (lv' := [(4, .int x10), (3, .int v4), (0, .ref (am 68)), (1, .int v1), (2, .int v2)]) hx hb dX12_leastAt_49 hl (k := 4) rfl (by rw [ex10]; rfl) (by decide) rfl (fun ls hl => ?_)
        clear ex10
        refine lv_goto (tgt := 5) hx hb dX12_leastAt_52 (by decide) ?_
        cases ho
        exact ih _ _ hrun _ _ _ hW (lv_sub hl [2, 3, 4, 1, 0] rfl)
set_option maxHeartbeats 4000000 in
set_option maxRecDepth 100000 in
theorem c_m_leastAt (l : Launch) {D : va_G} {cI cJ cZ : ClassId} {am : Nat → Nat} (sz : Nat) (t : St) (a1 : Int32) (a2 : Int32) {r : Int32} (ho : m_leastAt t a1 a2 = some r) : Met l yX12_leastAt (.code yX12_leastAt cX12_leastAt 5 (some .int) :: wsAll) (rmN 1 25) (va_Pc [.ref (am 68), .int a1, .int a2] (prW D (tyM cI cJ cZ) (wM cI cJ cZ am t) sz)) (qI r D (tyM cI cJ cZ) (wM cI cJ cZ am t) (va_A (wM cI cJ cZ am t) sz)) 0 0 (va_A (wM cI cJ cZ am t) sz) := by
  refine Met.ofW (cc := cX12_leastAt) (maxL := 5) (ret := (some .int)) (by decide) rfl ?_
  intro p e s m args below meth c s₁ B hml hv
  obtain ⟨rfl, hsz, hP, hK, hD0⟩ := hv
  have hx := B.exec
  have hb := B.bytes
  have hts := atoms_spec (ws := (.code yX12_leastAt cX12_leastAt 5 (some .int) :: wsAll)) B.pre
  have hta := fun w h => hts w (List.mem_cons_of_mem _ h)
  have hown : s.vm.findClass RX12 = some m.cls := findClass_of_methodNamed B.named
  have hlocks := B.notSynchronized
  subst hsz
  have hD := hD0.self (sz := s.heap.size)
  generalize hAe : va_A (wM cI cJ cZ am t) s.heap.size = A at hD ⊢
  have hA : ∀ q : Nat, s.heap.size ≤ q → A q := fun q h => by rw [← hAe]; exact Or.inr h
  have C0 : cx p s m ([.ref (am 68), .int a1, .int a2].toArray) meth c cX12_leastAt RX12 5 (some .int) D (tyM cI cJ cZ) A := ⟨hx, hb, B.returns, hml, hown, hta, hlocks, hK, hA⟩
  have hW : wl D A s (wM cI cJ cZ am t) s.heap [] := ⟨hP, hD, va_S.rf⟩
  have hl := lv_entry [.ref (am 68), .int a1, .int a2] (n := 5) (Nat.le_of_ble_eq_true rfl)
  rw [lg_entry_eq]
  generalize (lg_sl [.ref (am 68), .int a1, .int a2] ++ List.replicate (5 - (lg_sl [.ref (am 68), .int a1, .int a2]).length) Slot.unset).toArray = ls at hl ⊢
  have hl : lv_has ls 5 [(0, .ref (am 68)), (1, .int a1), (2, .int a2)] := hl
  unfold m_leastAt at ho
  refine lv_iconst (v := (0 : Int32)) hx hb dX12_leastAt_0 (by decide) ?_
  refine lv_istore_n (lv' := [(3, .int (0 : Int32)), (0, .ref (am 68)), (1, .int a1), (2, .int a2)]) hx hb dX12_leastAt_1 rfl hl (by decide) rfl (fun ls hl => ?_)
  refine lv_iconst (v := (1 : Int32)) hx hb dX12_leastAt_2 (by decide) ?_
  refine lv_istore (lv' := [(4, .int (1 : Int32)), (3, .int (0 : Int32)), (0, .ref (am 68)), (1, .int a1), (2, .int a2)]) hx hb dX12_leastAt_3 hl (by decide) rfl (fun ls hl => ?_)
  obtain ⟨y11, hc13, ho⟩ := bd_some ho
  obtain ⟨ny11, hc13⟩ := lp_to hc13
  refine m_leastAt_L5 C0 ?_ ny11 _ _ hc13 _ _ _ hW (lv_sub hl [2, 3, 4, 1, 0] rfl)
  intro H locs ls hW hl
  refine lv_iload_n hx hb dX12_leastAt_55 rfl (lv_at hl 1 rfl) ?_
  cases ho
  exact rtI C0 hW dX12_leastAt_56
noncomputable def m_least (t : St) (a1 : Int32) (a2 : Int32) : Option (Int32 × St) :=
  (m_in t a2 (0 : Int32) (1 : Int32)).bind (fun q1 => (m_whyWays t a1 q1).bind (fun q4 => if q4.1 = (1 : Int32) then ((m_leastAt q4.2 a2 (0 : Int32)).bind (fun q7 => gd q7 200 ((m_sumOf q4.2 (gA q4.2 30 (q7).toNatClampNeg) a2 (0 : Int32)).bind (fun q10 => some (q10, q4.2))))) else (some (q4.1, q4.2))))
set_option maxHeartbeats 4000000 in
set_option maxRecDepth 100000 in
theorem c_m_least (l : Launch) {D : va_G} {cI cJ cZ : ClassId} {am : Nat → Nat} (sz : Nat) (t : St) (a1 : Int32) (a2 : Int32) {r : Int32} {t' : St} (ho : m_least t a1 a2 = some (r, t')) : Met l yX12_least (.code yX12_least cX12_least 4 (some .int) :: wsAll) (rmN 5 122) (va_Pc [.ref (am 68), .int a1, .int a2] (prW D (tyM cI cJ cZ) (wM cI cJ cZ am t) sz)) (qI r D (tyM cI cJ cZ) (wM cI cJ cZ am t') (va_A (wM cI cJ cZ am t) sz)) 0 0 (va_A (wM cI cJ cZ am t) sz) := by
  refine Met.ofW (cc := cX12_least) (maxL := 4) (ret := (some .int)) (by decide) rfl ?_
  intro p e s m args below meth c s₁ B hml hv
  obtain ⟨rfl, hsz, hP, hK, hD0⟩ := hv
  have hx := B.exec
  have hb := B.bytes
  have hts := atoms_spec (ws := (.code yX12_least cX12_least 4 (some .int) :: wsAll)) B.pre
  have hta := fun w h => hts w (List.mem_cons_of_mem _ h)
  have hown : s.vm.findClass RX12 = some m.cls := findClass_of_methodNamed B.named
  have hlocks := B.notSynchronized
  subst hsz
  have hD := hD0.self (sz := s.heap.size)
  generalize hAe : va_A (wM cI cJ cZ am t) s.heap.size = A at hD ⊢
  have hA : ∀ q : Nat, s.heap.size ≤ q → A q := fun q h => by rw [← hAe]; exact Or.inr h
  have C0 : cx p s m ([.ref (am 68), .int a1, .int a2].toArray) meth c cX12_least RX12 4 (some .int) D (tyM cI cJ cZ) A := ⟨hx, hb, B.returns, hml, hown, hta, hlocks, hK, hA⟩
  have hW : wl D A s (wM cI cJ cZ am t) s.heap [] := ⟨hP, hD, va_S.rf⟩
  have hl := lv_entry [.ref (am 68), .int a1, .int a2] (n := 4) (Nat.le_of_ble_eq_true rfl)
  rw [lg_entry_eq]
  generalize (lg_sl [.ref (am 68), .int a1, .int a2] ++ List.replicate (4 - (lg_sl [.ref (am 68), .int a1, .int a2]).length) Slot.unset).toArray = ls at hl ⊢
  have hl : lv_has ls 4 [(0, .ref (am 68)), (1, .int a1), (2, .int a2)] := hl
  unfold m_least at ho
  refine lv_aload_n hx hb dX12_least_0 rfl (lv_at hl 0 rfl) ?_
  refine lv_iload_n hx hb dX12_least_1 rfl (lv_at hl 1 rfl) ?_
  refine lv_iload_n hx hb dX12_least_2 rfl (lv_at hl 2 rfl) ?_
  refine lv_iconst (v := (0 : Int32)) hx hb dX12_least_3 (by decide) ?_
  refine lv_iconst (v := (1 : Int32)) hx hb dX12_least_4 (by decide) ?_
  obtain ⟨q1, hc2, ho⟩ := bd_some ho
  refine bkZ C0 hW (runS (As := [.int a2, .int (0 : Int32), .int (1 : Int32)]) (rest := [.int a1, .ref (am 68)]) C0 hW (c_m_in l _ t a2 (0 : Int32) (1 : Int32) (r := q1) hc2) ca_X12_in_179 rfl rfl ⟨rfl, rfl⟩ ⟨Nat.le_of_ble_eq_true rfl, Nat.le_of_ble_eq_true rfl⟩ (Nat.le_of_ble_eq_true rfl) hl.1 dX12_least_5 ⟨Nat.le_of_ble_eq_true rfl, Nat.le_of_ble_eq_true rfl⟩) (fun z3 H locs hW => ?_)
  obtain ⟨q4, hc5, ho⟩ := bd_some ho
  refine bkI C0 hW (runV (As := [.int a1, .int q1]) (rest := []) C0 hW (c_m_whyWays l _ t a1 q1 (r := q4.1) (t' := q4.2) hc5) ca_X12_whyWays_301 0 12 rfl rfl rfl rfl rfl ⟨rfl, rfl⟩ ⟨Nat.le_of_ble_eq_true rfl, Nat.le_of_ble_eq_true rfl⟩ (Nat.le_of_ble_eq_true rfl) hl.1 dX12_least_8 ⟨Nat.le_of_ble_eq_true rfl, Nat.le_of_ble_eq_true rfl⟩) (fun H locs hW => ?_)
  refine lv_istore_n (lv' := [(3, .int q4.1), (0, .ref (am 68)), (1, .int a1), (2, .int a2)]) hx hb dX12_least_11 rfl hl (by decide) rfl (fun ls hl => ?_)
  refine lv_iload_n hx hb dX12_least_12 rfl (lv_at hl 0 rfl) ?_
  refine lv_iconst (v := (1 : Int32)) hx hb dX12_least_13 (by decide) ?_
  refine lv_icmp_eq (tgt := 21) hx hb dX12_least_14 (by decide) (fun c6 => ?_) (fun c6 => ?_)
  · replace ho := ite_t c6 ho
    refine lv_aload_n hx hb dX12_least_21 rfl (lv_at hl 1 rfl) ?_
    refine lv_aload_n hx hb dX12_least_22 rfl (lv_at hl 1 rfl) ?_
    refine mGET_30 C0 hW dX12_least_23 ?_
    refine lv_aload_n hx hb dX12_least_26 rfl (lv_at hl 1 rfl) ?_
    refine lv_iload_n hx hb dX12_least_27 rfl (lv_at hl 3 rfl) ?_
    refine lv_iconst (v := (0 : Int32)) hx hb dX12_least_28 (by decide) ?_
    obtain ⟨q7, hc8, ho⟩ := bd_some ho
    refine bkI C0 hW (runV (As := [.int a2, .int (0 : Int32)]) (rest := [.ref (am 30), .ref (am 68)]) C0 hW (c_m_leastAt l _ q4.2 a2 (0 : Int32) (r := q7) hc8) ca_X12_leastAt_308 0 12 rfl rfl rfl rfl rfl ⟨rfl, rfl⟩ ⟨Nat.le_of_ble_eq_true rfl, Nat.le_of_ble_eq_true rfl⟩ (Nat.le_of_ble_eq_true rfl) hl.1 dX12_least_29 ⟨Nat.le_of_ble_eq_true rfl, Nat.le_of_ble_eq_true rfl⟩) (fun H locs hW => ?_)
    obtain ⟨g9, ho⟩ := gd_some ho
    refine mLD_30 C0 hW g9 dX12_least_32 ?_
    refine lv_iload_n hx hb dX12_least_33 rfl (lv_at hl 3 rfl) ?_
    refine lv_iconst (v := (0 : Int32)) hx hb dX12_least_34 (by decide) ?_
    obtain ⟨q10, hc11, ho⟩ := bd_some ho
    refine bkI C0 hW (runV (As := [.int (gA q4.2 30 (q7).toNatClampNeg), .int a2, .int (0 : Int32)]) (rest := []) C0 hW (c_m_sumOf l _ q4.2 (gA q4.2 30 (q7).toNatClampNeg) a2 (0 : Int32) (r := q10) hc11) ca_X12_sumOf_304 0 12 rfl rfl rfl rfl rfl ⟨rfl, rfl⟩ ⟨Nat.le_of_ble_eq_true rfl, Nat.le_of_ble_eq_true rfl⟩ (Nat.le_of_ble_eq_true rfl) hl.1 dX12_least_35 ⟨Nat.le_of_ble_eq_true rfl, Nat.le_of_ble_eq_true rfl⟩) (fun H locs hW => ?_)
    cases ho
    exact rtI C0 hW dX12_least_38
  · replace ho := ite_f c6 ho
    refine lv_iload_n hx hb dX12_least_17 rfl (lv_at hl 0 rfl) ?_
    refine lv_goto (tgt := 38) hx hb dX12_least_18 (by decide) ?_
    cases ho
    exact rtI C0 hW dX12_least_38
noncomputable def m_leastWay (t : St) (a1 : Int32) (a2 : Int32) : Option (Int32 × St) :=
  (m_in t a2 (0 : Int32) (1 : Int32)).bind (fun q1 => (m_whyWays t a1 q1).bind (fun q4 => if q4.1 = (1 : Int32) then ((m_leastAt q4.2 a2 (0 : Int32)).bind (fun q7 => gd q7 200 (some ((gA q4.2 30 (q7).toNatClampNeg), q4.2)))) else (some (q4.1, q4.2))))
set_option maxHeartbeats 4000000 in
set_option maxRecDepth 100000 in
theorem c_m_leastWay (l : Launch) {D : va_G} {cI cJ cZ : ClassId} {am : Nat → Nat} (sz : Nat) (t : St) (a1 : Int32) (a2 : Int32) {r : Int32} {t' : St} (ho : m_leastWay t a1 a2 = some (r, t')) : Met l yX12_leastWay (.code yX12_leastWay cX12_leastWay 4 (some .int) :: wsAll) (rmN 5 122) (va_Pc [.ref (am 68), .int a1, .int a2] (prW D (tyM cI cJ cZ) (wM cI cJ cZ am t) sz)) (qI r D (tyM cI cJ cZ) (wM cI cJ cZ am t') (va_A (wM cI cJ cZ am t) sz)) 0 0 (va_A (wM cI cJ cZ am t) sz) := by
  refine Met.ofW (cc := cX12_leastWay) (maxL := 4) (ret := (some .int)) (by decide) rfl ?_
  intro p e s m args below meth c s₁ B hml hv
  obtain ⟨rfl, hsz, hP, hK, hD0⟩ := hv
  have hx := B.exec
  have hb := B.bytes
  have hts := atoms_spec (ws := (.code yX12_leastWay cX12_leastWay 4 (some .int) :: wsAll)) B.pre
  have hta := fun w h => hts w (List.mem_cons_of_mem _ h)
  have hown : s.vm.findClass RX12 = some m.cls := findClass_of_methodNamed B.named
  have hlocks := B.notSynchronized
  subst hsz
  have hD := hD0.self (sz := s.heap.size)
  generalize hAe : va_A (wM cI cJ cZ am t) s.heap.size = A at hD ⊢
  have hA : ∀ q : Nat, s.heap.size ≤ q → A q := fun q h => by rw [← hAe]; exact Or.inr h
  have C0 : cx p s m ([.ref (am 68), .int a1, .int a2].toArray) meth c cX12_leastWay RX12 4 (some .int) D (tyM cI cJ cZ) A := ⟨hx, hb, B.returns, hml, hown, hta, hlocks, hK, hA⟩
  have hW : wl D A s (wM cI cJ cZ am t) s.heap [] := ⟨hP, hD, va_S.rf⟩
  have hl := lv_entry [.ref (am 68), .int a1, .int a2] (n := 4) (Nat.le_of_ble_eq_true rfl)
  rw [lg_entry_eq]
  generalize (lg_sl [.ref (am 68), .int a1, .int a2] ++ List.replicate (4 - (lg_sl [.ref (am 68), .int a1, .int a2]).length) Slot.unset).toArray = ls at hl ⊢
  have hl : lv_has ls 4 [(0, .ref (am 68)), (1, .int a1), (2, .int a2)] := hl
  unfold m_leastWay at ho
  refine lv_aload_n hx hb dX12_leastWay_0 rfl (lv_at hl 0 rfl) ?_
  refine lv_iload_n hx hb dX12_leastWay_1 rfl (lv_at hl 1 rfl) ?_
  refine lv_iload_n hx hb dX12_leastWay_2 rfl (lv_at hl 2 rfl) ?_
  refine lv_iconst (v := (0 : Int32)) hx hb dX12_leastWay_3 (by decide) ?_
  refine lv_iconst (v := (1 : Int32)) hx hb dX12_leastWay_4 (by decide) ?_
  obtain ⟨q1, hc2, ho⟩ := bd_some ho
  refine bkZ C0 hW (runS (As := [.int a2, .int (0 : Int32), .int (1 : Int32)]) (rest := [.int a1, .ref (am 68)]) C0 hW (c_m_in l _ t a2 (0 : Int32) (1 : Int32) (r := q1) hc2) ca_X12_in_179 rfl rfl ⟨rfl, rfl⟩ ⟨Nat.le_of_ble_eq_true rfl, Nat.le_of_ble_eq_true rfl⟩ (Nat.le_of_ble_eq_true rfl) hl.1 dX12_leastWay_5 ⟨Nat.le_of_ble_eq_true rfl, Nat.le_of_ble_eq_true rfl⟩) (fun z3 H locs hW => ?_)
  obtain ⟨q4, hc5, ho⟩ := bd_some ho
  refine bkI C0 hW (runV (As := [.int a1, .int q1]) (rest := []) C0 hW (c_m_whyWays l _ t a1 q1 (r := q4.1) (t' := q4.2) hc5) ca_X12_whyWays_301 0 12 rfl rfl rfl rfl rfl ⟨rfl, rfl⟩ ⟨Nat.le_of_ble_eq_true rfl, Nat.le_of_ble_eq_true rfl⟩ (Nat.le_of_ble_eq_true rfl) hl.1 dX12_leastWay_8 ⟨Nat.le_of_ble_eq_true rfl, Nat.le_of_ble_eq_true rfl⟩) (fun H locs hW => ?_)
  refine lv_istore_n (lv' := [(3, .int q4.1), (0, .ref (am 68)), (1, .int a1), (2, .int a2)]) hx hb dX12_leastWay_11 rfl hl (by decide) rfl (fun ls hl => ?_)
  refine lv_iload_n hx hb dX12_leastWay_12 rfl (lv_at hl 0 rfl) ?_
  refine lv_iconst (v := (1 : Int32)) hx hb dX12_leastWay_13 (by decide) ?_
  refine lv_icmp_eq (tgt := 21) hx hb dX12_leastWay_14 (by decide) (fun c6 => ?_) (fun c6 => ?_)
  · replace ho := ite_t c6 ho
    refine lv_aload_n hx hb dX12_leastWay_21 rfl (lv_at hl 1 rfl) ?_
    refine mGET_30 C0 hW dX12_leastWay_22 ?_
    refine lv_aload_n hx hb dX12_leastWay_25 rfl (lv_at hl 1 rfl) ?_
    refine lv_iload_n hx hb dX12_leastWay_26 rfl (lv_at hl 3 rfl) ?_
    refine lv_iconst (v := (0 : Int32)) hx hb dX12_leastWay_27 (by decide) ?_
    obtain ⟨q7, hc8, ho⟩ := bd_some ho
    refine bkI C0 hW (runV (As := [.int a2, .int (0 : Int32)]) (rest := [.ref (am 30)]) C0 hW (c_m_leastAt l _ q4.2 a2 (0 : Int32) (r := q7) hc8) ca_X12_leastAt_308 0 12 rfl rfl rfl rfl rfl ⟨rfl, rfl⟩ ⟨Nat.le_of_ble_eq_true rfl, Nat.le_of_ble_eq_true rfl⟩ (Nat.le_of_ble_eq_true rfl) hl.1 dX12_leastWay_28 ⟨Nat.le_of_ble_eq_true rfl, Nat.le_of_ble_eq_true rfl⟩) (fun H locs hW => ?_)
    obtain ⟨g9, ho⟩ := gd_some ho
    refine mLD_30 C0 hW g9 dX12_leastWay_31 ?_
    cases ho
    exact rtI C0 hW dX12_leastWay_32
  · replace ho := ite_f c6 ho
    refine lv_iload_n hx hb dX12_leastWay_17 rfl (lv_at hl 0 rfl) ?_
    refine lv_goto (tgt := 32) hx hb dX12_leastWay_18 (by decide) ?_
    cases ho
    exact rtI C0 hW dX12_leastWay_32
noncomputable def m_sorted_B18 (v1 : Int32) (v2 : Int32) (v3 : Int32) (v4 : Int32) (v5 : Int32) (t : St) : Option ((Int32 × St) ⊕ (Int32 × St)) :=
  if v5 ≤ 0 then (some (.inr (v5, t))) else (gd (v5 - (1 : Int32)) 40 (if (gA t 33 ((v5 - (1 : Int32))).toNatClampNeg) ≤ v4 then (some (.inr (v5, t))) else (gd (v5 - (1 : Int32)) 40 (gd v5 40 (nm (sA t 33 v5 (gA t 33 ((v5 - (1 : Int32))).toNatClampNeg)) (fun t6 : St => nm (v5 + (-1 : Int32)) (fun x7 : Int32 => some (.inl (x7, t6)))))))))
noncomputable def m_sorted_B2 (v1 : Int32) (v2 : Int32) (v3 : Int32) (t : St) : Option ((Int32 × St) ⊕ (St)) :=
  if v1 ≤ v3 then (some (.inr t)) else (gd v3 40 (nm (gA t 33 (v3).toNatClampNeg) (fun x10 : Int32 => (lp (fun x => m_sorted_B18 v1 v2 v3 x10 x.1 x.2) (v3, t)).bind (fun y11 => gd y11.1 40 (nm (sA y11.2 33 y11.1 x10) (fun t15 : St => nm (v3 + (1 : Int32)) (fun x16 : Int32 => some (.inl (x16, t15)))))))))
noncomputable def m_sorted (t : St) (a1 : Int32) (a2 : Int32) : Option (Int32 × St) :=
  (lp (fun x => m_sorted_B2 a1 a2 x.1 x.2) ((1 : Int32), t)).bind (fun y17 => gd a2 40 (some ((gA y17 33 (a2).toNatClampNeg), y17)))
set_option maxHeartbeats 4000000 in
set_option maxRecDepth 100000 in
theorem m_sorted_L18 {p : Program} {l : Launch} {e : Env} {s : State} {m : MethodId} {args : Array Value} {below : List Frame} {meth : Method} {c : Code} {Q : State → Prop} {D : va_G} {cI cJ cZ : ClassId} {am : Nat → Nat} {A : Nat → Prop} (C0 : cx p s m args meth c cX12_sorted RX12 6 (some .int) D (tyM cI cJ cZ) A) {v1 : Int32} {v2 : Int32} {v3 : Int32} {v4 : Int32} {y : Int32 × St} (hK0 : ∀ (H : Heap) (locs : List Loc) (ls : Array Slot), wl D A s (wM cI cJ cZ am y.2) H locs → lv_has ls 6 [(0, .ref (am 68)), (1, .int v1), (2, .int v2), (3, .int v3), (4, .int v4), (5, .int y.1)] → W p l e (rmN 0 0) s m args below meth c H locs 0 0 Q (F0 m 59 ls [])) :
    ∀ (n : Nat) (v5 : Int32) (t : St), lpn (fun x => m_sorted_B18 v1 v2 v3 v4 x.1 x.2) n (v5, t) = some y → ∀ (H : Heap) (locs : List Loc) (ls : Array Slot), wl D A s (wM cI cJ cZ am t) H locs → lv_has ls 6 [(0, .ref (am 68)), (1, .int v1), (2, .int v2), (3, .int v3), (4, .int v4), (5, .int v5)] → W p l e (rmN 0 0) s m args below meth c H locs 0 0 Q (F0 m 18 ls []) := by
  have hx := C0.1
  have hb := C0.2.1
  have hta := C0.2.2.2.2.2.1
  have hown := C0.2.2.2.2.1
  intro n
  induction n with
  | zero => intro _ _ h; cases h
  | succ n ih =>
    intro v5 t hrun H locs ls hW hl
    obtain ⟨o, ho, hrun⟩ := bd_some hrun
    unfold m_sorted_B18 at ho
    refine lv_iload hx hb dX12_sorted_18 (lv_at hl 5 rfl) ?_
    refine lv_if_le (tgt := 59) hx hb dX12_sorted_20 (by decide) (fun c1 => ?_) (fun c1 => ?_)
    · replace ho := ite_t c1 ho
      cases ho
      cases hrun
      exact hK0 _ _ _ hW (lv_sub hl [0, 1, 2, 3, 4, 5] rfl)
    · replace ho := ite_f c1 ho
      refine lv_aload_n hx hb dX12_sorted_23 rfl (lv_at hl 0 rfl) ?_
      refine mGET_33 C0 hW dX12_sorted_24 ?_
      refine lv_iload hx hb dX12_sorted_27 (lv_at hl 5 rfl) ?_
      refine lv_iconst (v := (1 : Int32)) hx hb dX12_sorted_29 (by decide) ?_
      refine lv_isub hx hb dX12_sorted_30 ?_
      obtain ⟨g2, ho⟩ := gd_some ho
      refine mLD_33 C0 hW g2 dX12_sorted_31 ?_
      refine lv_iload hx hb dX12_sorted_32 (lv_at hl 4 rfl) ?_
      refine lv_icmp_le (tgt := 59) hx hb dX12_sorted_34 (by decide) (fun c3 => ?_) (fun c3 => ?_)
      · replace ho := ite_t c3 ho
        cases ho
        cases hrun
        exact hK0 _ _ _ hW (lv_sub hl [0, 1, 2, 3, 4, 5] rfl)
      · replace ho := ite_f c3 ho
        refine lv_aload_n hx hb dX12_sorted_37 rfl (lv_at hl 0 rfl) ?_
        refine mGET_33 C0 hW dX12_sorted_38 ?_
        refine lv_iload hx hb dX12_sorted_41 (lv_at hl 5 rfl) ?_
        refine lv_aload_n hx hb dX12_sorted_43 rfl (lv_at hl 0 rfl) ?_
        refine mGET_33 C0 hW dX12_sorted_44 ?_
        refine lv_iload hx hb dX12_sorted_47 (lv_at hl 5 rfl) ?_
        refine lv_iconst (v := (1 : Int32)) hx hb dX12_sorted_49 (by decide) ?_
        refine lv_isub hx hb dX12_sorted_50 ?_
        obtain ⟨g4, ho⟩ := gd_some ho
        refine mLD_33 C0 hW g4 dX12_sorted_51 ?_
        obtain ⟨g5, ho⟩ := gd_some ho
        refine mST_33 C0 hW g5 dX12_sorted_52 (fun H locs hW => ?_)
        obtain ⟨t6, ho, hW⟩ := nm_w (P := fun t => wl D A s (wM cI cJ cZ am t) H locs) ho hW
        obtain ⟨x7, ex7, ho⟩ := nm_x ho
        refine lv_iinc (v := x7) (lv' := [(5, .int x7), (0, .ref (am 68)), (1, .int v1), (2, .int v2), (3, .int v3), (4, .int v4)]) hx hb dX12_sorted_53 hl (k := 5) rfl (by rw [ex7]; rfl) (by decide) rfl (fun ls hl => ?_)
        clear ex7
        refine lv_goto (tgt := 18) hx hb dX12_sorted_56 (by decide) ?_
        cases ho
        exact ih _ _ hrun _ _ _ hW (lv_sub hl [1, 2, 3, 4, 5, 0] rfl)
set_option maxHeartbeats 4000000 in
set_option maxRecDepth 100000 in
theorem m_sorted_L2 {p : Program} {l : Launch} {e : Env} {s : State} {m : MethodId} {args : Array Value} {below : List Frame} {meth : Method} {c : Code} {Q : State → Prop} {D : va_G} {cI cJ cZ : ClassId} {am : Nat → Nat} {A : Nat → Prop} (C0 : cx p s m args meth c cX12_sorted RX12 6 (some .int) D (tyM cI cJ cZ) A) {v1 : Int32} {v2 : Int32} {y : St} (hK0 : ∀ (H : Heap) (locs : List Loc) (ls : Array Slot), wl D A s (wM cI cJ cZ am y) H locs → lv_has ls 6 [(0, .ref (am 68)), (2, .int v2)] → W p l e (rmN 0 0) s m args below meth c H locs 0 0 Q (F0 m 74 ls [])) :
    ∀ (n : Nat) (v3 : Int32) (t : St), lpn (fun x => m_sorted_B2 v1 v2 x.1 x.2) n (v3, t) = some y → ∀ (H : Heap) (locs : List Loc) (ls : Array Slot), wl D A s (wM cI cJ cZ am t) H locs → lv_has ls 6 [(0, .ref (am 68)), (1, .int v1), (2, .int v2), (3, .int v3)] → W p l e (rmN 0 0) s m args below meth c H locs 0 0 Q (F0 m 2 ls []) := by
  have hx := C0.1
  have hb := C0.2.1
  have hta := C0.2.2.2.2.2.1
  have hown := C0.2.2.2.2.1
  intro n
  induction n with
  | zero => intro _ _ h; cases h
  | succ n ih =>
    intro v3 t hrun H locs ls hW hl
    obtain ⟨o, ho, hrun⟩ := bd_some hrun
    unfold m_sorted_B2 at ho
    refine lv_iload_n hx hb dX12_sorted_2 rfl (lv_at hl 3 rfl) ?_
    refine lv_iload_n hx hb dX12_sorted_3 rfl (lv_at hl 1 rfl) ?_
    refine lv_icmp_ge (tgt := 74) hx hb dX12_sorted_4 (by decide) (fun c8 => ?_) (fun c8 => ?_)
    · replace ho := ite_t c8 ho
      cases ho
      cases hrun
      exact hK0 _ _ _ hW (lv_sub hl [0, 2] rfl)
    · replace ho := ite_f c8 ho
      refine lv_aload_n hx hb dX12_sorted_7 rfl (lv_at hl 0 rfl) ?_
      refine mGET_33 C0 hW dX12_sorted_8 ?_
      refine lv_iload_n hx hb dX12_sorted_11 rfl (lv_at hl 3 rfl) ?_
      obtain ⟨g9, ho⟩ := gd_some ho
      refine mLD_33 C0 hW g9 dX12_sorted_12 ?_
      refine lv_nmi ho (fun x10 ho => ?_)
      refine lv_istore (lv' := [(4, .int x10), (0, .ref (am 68)), (1, .int v1), (2, .int v2), (3, .int v3)]) hx hb dX12_sorted_13 hl (by decide) rfl (fun ls hl => ?_)
      refine lv_iload_n hx hb dX12_sorted_15 rfl (lv_at hl 4 rfl) ?_
      refine lv_istore (lv' := [(5, .int v3), (4, .int x10), (0, .ref (am 68)), (1, .int v1), (2, .int v2), (3, .int v3)]) hx hb dX12_sorted_16 hl (by decide) rfl (fun ls hl => ?_)
      obtain ⟨y11, hc13, ho⟩ := bd_some ho
      obtain ⟨ny11, hc13⟩ := lp_to hc13
      refine m_sorted_L18 C0 ?_ ny11 _ _ hc13 _ _ _ hW (lv_sub hl [2, 3, 4, 5, 1, 0] rfl)
      intro H locs ls hW hl
      refine lv_aload_n hx hb dX12_sorted_59 rfl (lv_at hl 0 rfl) ?_
      refine mGET_33 C0 hW dX12_sorted_60 ?_
      refine lv_iload hx hb dX12_sorted_63 (lv_at hl 5 rfl) ?_
      refine lv_iload hx hb dX12_sorted_65 (lv_at hl 4 rfl) ?_
      obtain ⟨g14, ho⟩ := gd_some ho
      refine mST_33 C0 hW g14 dX12_sorted_67 (fun H locs hW => ?_)
      obtain ⟨t15, ho, hW⟩ := nm_w (P := fun t => wl D A s (wM cI cJ cZ am t) H locs) ho hW
      obtain ⟨x16, ex16, ho⟩ := nm_x ho
      refine lv_iinc (v := x16) (lv' := [(3, .int x16), (0, .ref (am 68)), (1, .int v1), (2, .int v2), (4, .int x10), (5, .int y11.1)]) hx hb dX12_sorted_68 hl (k := 3) rfl (by rw [ex16]; rfl) (by decide) rfl (fun ls hl => ?_)
      clear ex16
      refine lv_goto (tgt := 2) hx hb dX12_sorted_71 (by decide) ?_
      cases ho
      exact ih _ _ hrun _ _ _ hW (lv_sub hl [1, 2, 3, 0] rfl)
set_option maxHeartbeats 4000000 in
set_option maxRecDepth 100000 in
theorem c_m_sorted (l : Launch) {D : va_G} {cI cJ cZ : ClassId} {am : Nat → Nat} (sz : Nat) (t : St) (a1 : Int32) (a2 : Int32) {r : Int32} {t' : St} (ho : m_sorted t a1 a2 = some (r, t')) : Met l yX12_sorted (.code yX12_sorted cX12_sorted 6 (some .int) :: wsAll) (rmN 0 0) (va_Pc [.ref (am 68), .int a1, .int a2] (prW D (tyM cI cJ cZ) (wM cI cJ cZ am t) sz)) (qI r D (tyM cI cJ cZ) (wM cI cJ cZ am t') (va_A (wM cI cJ cZ am t) sz)) 0 0 (va_A (wM cI cJ cZ am t) sz) := by
  refine Met.ofW (cc := cX12_sorted) (maxL := 6) (ret := (some .int)) (by decide) rfl ?_
  intro p e s m args below meth c s₁ B hml hv
  obtain ⟨rfl, hsz, hP, hK, hD0⟩ := hv
  have hx := B.exec
  have hb := B.bytes
  have hts := atoms_spec (ws := (.code yX12_sorted cX12_sorted 6 (some .int) :: wsAll)) B.pre
  have hta := fun w h => hts w (List.mem_cons_of_mem _ h)
  have hown : s.vm.findClass RX12 = some m.cls := findClass_of_methodNamed B.named
  have hlocks := B.notSynchronized
  subst hsz
  have hD := hD0.self (sz := s.heap.size)
  generalize hAe : va_A (wM cI cJ cZ am t) s.heap.size = A at hD ⊢
  have hA : ∀ q : Nat, s.heap.size ≤ q → A q := fun q h => by rw [← hAe]; exact Or.inr h
  have C0 : cx p s m ([.ref (am 68), .int a1, .int a2].toArray) meth c cX12_sorted RX12 6 (some .int) D (tyM cI cJ cZ) A := ⟨hx, hb, B.returns, hml, hown, hta, hlocks, hK, hA⟩
  have hW : wl D A s (wM cI cJ cZ am t) s.heap [] := ⟨hP, hD, va_S.rf⟩
  have hl := lv_entry [.ref (am 68), .int a1, .int a2] (n := 6) (Nat.le_of_ble_eq_true rfl)
  rw [lg_entry_eq]
  generalize (lg_sl [.ref (am 68), .int a1, .int a2] ++ List.replicate (6 - (lg_sl [.ref (am 68), .int a1, .int a2]).length) Slot.unset).toArray = ls at hl ⊢
  have hl : lv_has ls 6 [(0, .ref (am 68)), (1, .int a1), (2, .int a2)] := hl
  unfold m_sorted at ho
  refine lv_iconst (v := (1 : Int32)) hx hb dX12_sorted_0 (by decide) ?_
  refine lv_istore_n (lv' := [(3, .int (1 : Int32)), (0, .ref (am 68)), (1, .int a1), (2, .int a2)]) hx hb dX12_sorted_1 rfl hl (by decide) rfl (fun ls hl => ?_)
  obtain ⟨y17, hc19, ho⟩ := bd_some ho
  obtain ⟨ny17, hc19⟩ := lp_to hc19
  refine m_sorted_L2 C0 ?_ ny17 _ _ hc19 _ _ _ hW (lv_sub hl [1, 2, 3, 0] rfl)
  intro H locs ls hW hl
  refine lv_aload_n hx hb dX12_sorted_74 rfl (lv_at hl 0 rfl) ?_
  refine mGET_33 C0 hW dX12_sorted_75 ?_
  refine lv_iload_n hx hb dX12_sorted_78 rfl (lv_at hl 1 rfl) ?_
  obtain ⟨g20, ho⟩ := gd_some ho
  refine mLD_33 C0 hW g20 dX12_sorted_79 ?_
  cases ho
  exact rtI C0 hW dX12_sorted_80
noncomputable def m_many_B55 (v1 : Int32) (v3 : Int32) (v4 : Int32) (v5 : Int32) (t : St) : Option ((Int32 × Int32 × St) ⊕ (Int32 × St)) :=
  gd v3 400 (if (gA t 12 (v3).toNatClampNeg) ≤ v5 then (some (.inr (v4, t))) else (gd v3 400 (gd ((gA t 11 (v3).toNatClampNeg) + v5) 20000 (gd (gA t 14 (((gA t 11 (v3).toNatClampNeg) + v5)).toNatClampNeg) 250 (nm (gA t 32 ((gA t 14 (((gA t 11 (v3).toNatClampNeg) + v5)).toNatClampNeg)).toNatClampNeg) (fun x6 : Int32 => gd v5 40 (nm (sA t 33 v5 x6) (fun t8 : St => gd v3 400 (if (gA t8 8 (v3).toNatClampNeg) = (2 : Int32) then (nm (v4 + x6) (fun x21 : Int32 => nm (v5 + (1 : Int32)) (fun x22 : Int32 => some (.inl (x21, x22, t8))))) else (if v5 = 0 then (nm (v5 + (1 : Int32)) (fun x20 : Int32 => some (.inl (x6, x20, t8)))) else (gd v3 400 (if (gA t8 8 (v3).toNatClampNeg) = (1 : Int32) then (if v4 ≤ x6 then (nm (v5 + (1 : Int32)) (fun x18 : Int32 => some (.inl (v4, x18, t8)))) else (nm (v5 + (1 : Int32)) (fun x19 : Int32 => some (.inl (x6, x19, t8))))) else (if x6 ≤ v4 then (nm (v5 + (1 : Int32)) (fun x15 : Int32 => some (.inl (v4, x15, t8)))) else (nm (v5 + (1 : Int32)) (fun x16 : Int32 => some (.inl (x6, x16, t8)))))))))))))))))
noncomputable def m_many_J211 (t : St) (v1 : Int32) (v3 : Int32) (w1 : Int32) (w2 : Int32) : Option ((Int32 × St) ⊕ (St)) :=
  gd w1 250 (nm (sA t 32 w1 w2) (fun t24 : St => nm (v3 + (1 : Int32)) (fun x25 : Int32 => some (.inl (x25, t24)))))
noncomputable def m_many_J50 (t : St) (v1 : Int32) (v3 : Int32) (w0 : Int32) : Option ((Int32 × St) ⊕ (St)) :=
  (lp (fun x => m_many_B55 v1 v3 x.1 x.2.1 x.2.2) (w0, (0 : Int32), t)).bind (fun y26 => gd v3 400 (if (gA y26.2 8 (v3).toNatClampNeg) = (4 : Int32) then (gd v3 400 (gd v3 400 ((m_sorted y26.2 (gA y26.2 12 (v3).toNatClampNeg) ((gA y26.2 9 (v3).toNatClampNeg) - (1 : Int32))).bind (fun q33 => m_many_J211 q33.2 v1 v3 v3 q33.1)))) else (m_many_J211 y26.2 v1 v3 v3 y26.1)))
noncomputable def m_many_B16 (v1 : Int32) (v3 : Int32) (t : St) : Option ((Int32 × St) ⊕ (St)) :=
  gd v1 10 (if (gA t 16 (v1).toNatClampNeg) < v3 then (some (.inr t)) else (gd v3 400 (if (gA t 8 (v3).toNatClampNeg) = 0 then (gd v3 400 (gd (gA t 10 (v3).toNatClampNeg) 16 (m_many_J50 t v1 v3 (gA t 1 ((gA t 10 (v3).toNatClampNeg)).toNatClampNeg)))) else (m_many_J50 t v1 v3 (0 : Int32)))))
noncomputable def m_many (t : St) (a1 : Int32) : Option (Int32 × St) :=
  (m_why t a1 (1 : Int32)).bind (fun q41 => if q41 = (1 : Int32) then ((lp (fun x => m_many_B16 a1 x.1 x.2) ((0 : Int32), t)).bind (fun y44 => gd a1 10 (gd (gA y44 16 (a1).toNatClampNeg) 250 (some ((gA y44 32 ((gA y44 16 (a1).toNatClampNeg)).toNatClampNeg), y44))))) else (some (q41, t)))
set_option maxHeartbeats 4000000 in
set_option maxRecDepth 100000 in
theorem m_many_L55 {p : Program} {l : Launch} {e : Env} {s : State} {m : MethodId} {args : Array Value} {below : List Frame} {meth : Method} {c : Code} {Q : State → Prop} {D : va_G} {cI cJ cZ : ClassId} {am : Nat → Nat} {A : Nat → Prop} (C0 : cx p s m args meth c cX12_many RX12 7 (some .int) D (tyM cI cJ cZ) A) {v1 : Int32} {v3 : Int32} {y : Int32 × St} (hK0 : ∀ (H : Heap) (locs : List Loc) (ls : Array Slot), wl D A s (wM cI cJ cZ am y.2) H locs → lv_has ls 7 [(0, .ref (am 68)), (1, .int v1), (3, .int v3), (4, .int y.1)] → W p l e (rmN 3 64) s m args below meth c H locs 0 0 Q (F0 m 173 ls [])) :
    ∀ (n : Nat) (v4 : Int32) (v5 : Int32) (t : St), lpn (fun x => m_many_B55 v1 v3 x.1 x.2.1 x.2.2) n (v4, v5, t) = some y → ∀ (H : Heap) (locs : List Loc) (ls : Array Slot), wl D A s (wM cI cJ cZ am t) H locs → lv_has ls 7 [(0, .ref (am 68)), (1, .int v1), (3, .int v3), (4, .int v4), (5, .int v5)] → W p l e (rmN 3 64) s m args below meth c H locs 0 0 Q (F0 m 55 ls []) := by
  have hx := C0.1
  have hb := C0.2.1
  have hta := C0.2.2.2.2.2.1
  have hown := C0.2.2.2.2.1
  intro n
  induction n with
  | zero => intro _ _ _ h; cases h
  | succ n ih =>
    intro v4 v5 t hrun H locs ls hW hl
    obtain ⟨o, ho, hrun⟩ := bd_some hrun
    unfold m_many_B55 at ho
    refine lv_iload hx hb dX12_many_55 (lv_at hl 4 rfl) ?_
    refine lv_aload_n hx hb dX12_many_57 rfl (lv_at hl 0 rfl) ?_
    refine mGET_12 C0 hW dX12_many_58 ?_
    refine lv_iload_n hx hb dX12_many_61 rfl (lv_at hl 2 rfl) ?_
    obtain ⟨g1, ho⟩ := gd_some ho
    refine mLD_12 C0 hW g1 dX12_many_62 ?_
    refine lv_icmp_ge (tgt := 173) hx hb dX12_many_63 (by decide) (fun c2 => ?_) (fun c2 => ?_)
    · replace ho := ite_t c2 ho
      cases ho
      cases hrun
      exact hK0 _ _ _ hW (lv_sub hl [0, 1, 2, 3] rfl)
    · replace ho := ite_f c2 ho
      refine lv_aload_n hx hb dX12_many_66 rfl (lv_at hl 0 rfl) ?_
      refine mGET_32 C0 hW dX12_many_67 ?_
      refine lv_aload_n hx hb dX12_many_70 rfl (lv_at hl 0 rfl) ?_
      refine mGET_14 C0 hW dX12_many_71 ?_
      refine lv_aload_n hx hb dX12_many_74 rfl (lv_at hl 0 rfl) ?_
      refine mGET_11 C0 hW dX12_many_75 ?_
      refine lv_iload_n hx hb dX12_many_78 rfl (lv_at hl 2 rfl) ?_
      obtain ⟨g3, ho⟩ := gd_some ho
      refine mLD_11 C0 hW g3 dX12_many_79 ?_
      refine lv_iload hx hb dX12_many_80 (lv_at hl 4 rfl) ?_
      refine lv_iadd hx hb dX12_many_82 ?_
      obtain ⟨g4, ho⟩ := gd_some ho
      refine mLD_14 C0 hW g4 dX12_many_83 ?_
      obtain ⟨g5, ho⟩ := gd_some ho
      refine mLD_32 C0 hW g5 dX12_many_84 ?_
      refine lv_nmi ho (fun x6 ho => ?_)
      refine lv_istore (lv' := [(6, .int x6), (0, .ref (am 68)), (1, .int v1), (3, .int v3), (4, .int v4), (5, .int v5)]) hx hb dX12_many_85 hl (by decide) rfl (fun ls hl => ?_)
      refine lv_aload_n hx hb dX12_many_87 rfl (lv_at hl 1 rfl) ?_
      refine mGET_33 C0 hW dX12_many_88 ?_
      refine lv_iload hx hb dX12_many_91 (lv_at hl 5 rfl) ?_
      refine lv_iload hx hb dX12_many_93 (lv_at hl 0 rfl) ?_
      obtain ⟨g7, ho⟩ := gd_some ho
      refine mST_33 C0 hW g7 dX12_many_95 (fun H locs hW => ?_)
      obtain ⟨t8, ho, hW⟩ := nm_w (P := fun t => wl D A s (wM cI cJ cZ am t) H locs) ho hW
      refine lv_aload_n hx hb dX12_many_96 rfl (lv_at hl 1 rfl) ?_
      refine mGET_8 C0 hW dX12_many_97 ?_
      refine lv_iload_n hx hb dX12_many_100 rfl (lv_at hl 3 rfl) ?_
      obtain ⟨g9, ho⟩ := gd_some ho
      refine mLD_8 C0 hW g9 dX12_many_101 ?_
      refine lv_iconst (v := (2 : Int32)) hx hb dX12_many_102 (by decide) ?_
      refine lv_icmp_ne (tgt := 114) hx hb dX12_many_103 (by decide) (fun c10 => ?_) (fun c10 => ?_)
      · replace ho := ite_f c10 ho
        refine lv_iload hx hb dX12_many_114 (lv_at hl 5 rfl) ?_
        refine lv_if_ne (tgt := 124) hx hb dX12_many_116 (by decide) (fun c11 => ?_) (fun c11 => ?_)
        · replace ho := ite_f c11 ho
          refine lv_aload_n hx hb dX12_many_124 rfl (lv_at hl 1 rfl) ?_
          refine mGET_8 C0 hW dX12_many_125 ?_
          refine lv_iload_n hx hb dX12_many_128 rfl (lv_at hl 3 rfl) ?_
          obtain ⟨g12, ho⟩ := gd_some ho
          refine mLD_8 C0 hW g12 dX12_many_129 ?_
          refine lv_iconst (v := (1 : Int32)) hx hb dX12_many_130 (by decide) ?_
          refine lv_icmp_ne (tgt := 151) hx hb dX12_many_131 (by decide) (fun c13 => ?_) (fun c13 => ?_)
          · replace ho := ite_f c13 ho
            refine lv_iload hx hb dX12_many_151 (lv_at hl 0 rfl) ?_
            refine lv_iload hx hb dX12_many_153 (lv_at hl 4 rfl) ?_
            refine lv_icmp_le (tgt := 163) hx hb dX12_many_155 (by decide) (fun c14 => ?_) (fun c14 => ?_)
            · replace ho := ite_t c14 ho
              refine lv_iload hx hb dX12_many_163 (lv_at hl 4 rfl) ?_
              refine lv_istore (lv' := [(4, .int v4), (6, .int x6), (0, .ref (am 68)), (1, .int v1), (3, .int v3), (5, .int v5)]) hx hb dX12_many_165 hl (by decide) rfl (fun ls hl => ?_)
              obtain ⟨x15, ex15, ho⟩ := nm_x ho
              refine lv_iinc (v := x15) (lv' := [(5, .int x15), (4, .int v4), (6, .int x6), (0, .ref (am 68)), (1, .int v1), (3, .int v3)]) hx hb dX12_many_167 hl (k := 5) rfl (by rw [ex15]; rfl) (by decide) rfl (fun ls hl => ?_)
              clear ex15
              refine lv_goto (tgt := 55) hx hb dX12_many_170 (by decide) ?_
              cases ho
              exact ih _ _ _ hrun _ _ _ hW (lv_sub hl [3, 4, 5, 1, 0] rfl)
            · replace ho := ite_f c14 ho
              refine lv_iload hx hb dX12_many_158 (lv_at hl 0 rfl) ?_
              refine lv_goto (tgt := 165) hx hb dX12_many_160 (by decide) ?_
              refine lv_istore (lv' := [(4, .int x6), (6, .int x6), (0, .ref (am 68)), (1, .int v1), (3, .int v3), (5, .int v5)]) hx hb dX12_many_165 hl (by decide) rfl (fun ls hl => ?_)
              obtain ⟨x16, ex16, ho⟩ := nm_x ho
              refine lv_iinc (v := x16) (lv' := [(5, .int x16), (4, .int x6), (6, .int x6), (0, .ref (am 68)), (1, .int v1), (3, .int v3)]) hx hb dX12_many_167 hl (k := 5) rfl (by rw [ex16]; rfl) (by decide) rfl (fun ls hl => ?_)
              clear ex16
              refine lv_goto (tgt := 55) hx hb dX12_many_170 (by decide) ?_
              cases ho
              exact ih _ _ _ hrun _ _ _ hW (lv_sub hl [3, 4, 5, 1, 0] rfl)
          · replace ho := ite_t c13 ho
            refine lv_iload hx hb dX12_many_134 (lv_at hl 0 rfl) ?_
            refine lv_iload hx hb dX12_many_136 (lv_at hl 4 rfl) ?_
            refine lv_icmp_ge (tgt := 146) hx hb dX12_many_138 (by decide) (fun c17 => ?_) (fun c17 => ?_)
            · replace ho := ite_t c17 ho
              refine lv_iload hx hb dX12_many_146 (lv_at hl 4 rfl) ?_
              refine lv_goto (tgt := 165) hx hb dX12_many_148 (by decide) ?_
              refine lv_istore (lv' := [(4, .int v4), (6, .int x6), (0, .ref (am 68)), (1, .int v1), (3, .int v3), (5, .int v5)]) hx hb dX12_many_165 hl (by decide) rfl (fun ls hl => ?_)
              obtain ⟨x18, ex18, ho⟩ := nm_x ho
              refine lv_iinc (v := x18) (lv' := [(5, .int x18), (4, .int v4), (6, .int x6), (0, .ref (am 68)), (1, .int v1), (3, .int v3)]) hx hb dX12_many_167 hl (k := 5) rfl (by rw [ex18]; rfl) (by decide) rfl (fun ls hl => ?_)
              clear ex18
              refine lv_goto (tgt := 55) hx hb dX12_many_170 (by decide) ?_
              cases ho
              exact ih _ _ _ hrun _ _ _ hW (lv_sub hl [3, 4, 5, 1, 0] rfl)
            · replace ho := ite_f c17 ho
              refine lv_iload hx hb dX12_many_141 (lv_at hl 0 rfl) ?_
              refine lv_goto (tgt := 165) hx hb dX12_many_143 (by decide) ?_
              refine lv_istore (lv' := [(4, .int x6), (6, .int x6), (0, .ref (am 68)), (1, .int v1), (3, .int v3), (5, .int v5)]) hx hb dX12_many_165 hl (by decide) rfl (fun ls hl => ?_)
              obtain ⟨x19, ex19, ho⟩ := nm_x ho
              refine lv_iinc (v := x19) (lv' := [(5, .int x19), (4, .int x6), (6, .int x6), (0, .ref (am 68)), (1, .int v1), (3, .int v3)]) hx hb dX12_many_167 hl (k := 5) rfl (by rw [ex19]; rfl) (by decide) rfl (fun ls hl => ?_)
              clear ex19
              refine lv_goto (tgt := 55) hx hb dX12_many_170 (by decide) ?_
              cases ho
              exact ih _ _ _ hrun _ _ _ hW (lv_sub hl [3, 4, 5, 1, 0] rfl)
        · replace ho := ite_t c11 ho
          refine lv_iload hx hb dX12_many_119 (lv_at hl 0 rfl) ?_
          refine lv_goto (tgt := 165) hx hb dX12_many_121 (by decide) ?_
          refine lv_istore (lv' := [(4, .int x6), (6, .int x6), (0, .ref (am 68)), (1, .int v1), (3, .int v3), (5, .int v5)]) hx hb dX12_many_165 hl (by decide) rfl (fun ls hl => ?_)
          obtain ⟨x20, ex20, ho⟩ := nm_x ho
          refine lv_iinc (v := x20) (lv' := [(5, .int x20), (4, .int x6), (6, .int x6), (0, .ref (am 68)), (1, .int v1), (3, .int v3)]) hx hb dX12_many_167 hl (k := 5) rfl (by rw [ex20]; rfl) (by decide) rfl (fun ls hl => ?_)
          clear ex20
          refine lv_goto (tgt := 55) hx hb dX12_many_170 (by decide) ?_
          cases ho
          exact ih _ _ _ hrun _ _ _ hW (lv_sub hl [3, 4, 5, 1, 0] rfl)
      · replace ho := ite_t c10 ho
        refine lv_iload hx hb dX12_many_106 (lv_at hl 4 rfl) ?_
        refine lv_iload hx hb dX12_many_108 (lv_at hl 0 rfl) ?_
        refine lv_iadd hx hb dX12_many_110 ?_
        refine lv_goto (tgt := 165) hx hb dX12_many_111 (by decide) ?_
        refine lv_nmi ho (fun x21 ho => ?_)
        refine lv_istore (lv' := [(4, .int x21), (6, .int x6), (0, .ref (am 68)), (1, .int v1), (3, .int v3), (5, .int v5)]) hx hb dX12_many_165 hl (by decide) rfl (fun ls hl => ?_)
        obtain ⟨x22, ex22, ho⟩ := nm_x ho
        refine lv_iinc (v := x22) (lv' := [(5, .int x22), (4, .int x21), (6, .int x6), (0, .ref (am 68)), (1, .int v1), (3, .int v3)]) hx hb dX12_many_167 hl (k := 5) rfl (by rw [ex22]; rfl) (by decide) rfl (fun ls hl => ?_)
        clear ex22
        refine lv_goto (tgt := 55) hx hb dX12_many_170 (by decide) ?_
        cases ho
        exact ih _ _ _ hrun _ _ _ hW (lv_sub hl [3, 4, 5, 1, 0] rfl)
set_option maxHeartbeats 4000000 in
set_option maxRecDepth 100000 in
theorem m_many_L16 {p : Program} {l : Launch} {e : Env} {s : State} {m : MethodId} {args : Array Value} {below : List Frame} {meth : Method} {c : Code} {Q : State → Prop} {D : va_G} {cI cJ cZ : ClassId} {am : Nat → Nat} {A : Nat → Prop} (C0 : cx p s m args meth c cX12_many RX12 7 (some .int) D (tyM cI cJ cZ) A) {v1 : Int32} {y : St} (hK0 : ∀ (H : Heap) (locs : List Loc) (ls : Array Slot), wl D A s (wM cI cJ cZ am y) H locs → lv_has ls 7 [(0, .ref (am 68)), (1, .int v1)] → W p l e (rmN 3 64) s m args below meth c H locs 0 0 Q (F0 m 218 ls [])) :
    ∀ (n : Nat) (v3 : Int32) (t : St), lpn (fun x => m_many_B16 v1 x.1 x.2) n (v3, t) = some y → ∀ (H : Heap) (locs : List Loc) (ls : Array Slot), wl D A s (wM cI cJ cZ am t) H locs → lv_has ls 7 [(0, .ref (am 68)), (1, .int v1), (3, .int v3)] → W p l e (rmN 3 64) s m args below meth c H locs 0 0 Q (F0 m 16 ls []) := by
  have hx := C0.1
  have hb := C0.2.1
  have hta := C0.2.2.2.2.2.1
  have hown := C0.2.2.2.2.1
  intro n
  induction n with
  | zero => intro _ _ h; cases h
  | succ n ih =>
    intro v3 t hrun H locs ls hW hl
    obtain ⟨o, ho, hrun⟩ := bd_some hrun
    have J211 : ∀ (t : St) (v3 : Int32) (w1 : Int32) (w2 : Int32) (_ : m_many_J211 t v1 v3 w1 w2 = some o) (H : Heap) (locs : List Loc) (ls : Array Slot), wl D A s (wM cI cJ cZ am t) H locs → lv_has ls 7 [(0, .ref (am 68)), (1, .int v1), (3, .int v3)] → W p l e (rmN 3 64) s m args below meth c H locs 0 0 Q (F0 m 211 ls [.int w2, .int w1, .ref (am 32)]) := by
      intro t v3 w1 w2 ho H locs ls hW hl
      unfold m_many_J211 at ho
      obtain ⟨g23, ho⟩ := gd_some ho
      refine mST_32 C0 hW g23 dX12_many_211 (fun H locs hW => ?_)
      obtain ⟨t24, ho, hW⟩ := nm_w (P := fun t => wl D A s (wM cI cJ cZ am t) H locs) ho hW
      obtain ⟨x25, ex25, ho⟩ := nm_x ho
      refine lv_iinc (v := x25) (lv' := [(3, .int x25), (0, .ref (am 68)), (1, .int v1)]) hx hb dX12_many_212 hl (k := 2) rfl (by rw [ex25]; rfl) (by decide) rfl (fun ls hl => ?_)
      clear ex25
      refine lv_goto (tgt := 16) hx hb dX12_many_215 (by decide) ?_
      cases ho
      exact ih _ _ hrun _ _ _ hW (lv_sub hl [1, 2, 0] rfl)
    have J50 : ∀ (t : St) (v3 : Int32) (w0 : Int32) (_ : m_many_J50 t v1 v3 w0 = some o) (H : Heap) (locs : List Loc) (ls : Array Slot), wl D A s (wM cI cJ cZ am t) H locs → lv_has ls 7 [(0, .ref (am 68)), (1, .int v1), (3, .int v3)] → W p l e (rmN 3 64) s m args below meth c H locs 0 0 Q (F0 m 50 ls [.int w0]) := by
      intro t v3 w0 ho H locs ls hW hl
      unfold m_many_J50 at ho
      refine lv_istore (lv' := [(4, .int w0), (0, .ref (am 68)), (1, .int v1), (3, .int v3)]) hx hb dX12_many_50 hl (by decide) rfl (fun ls hl => ?_)
      refine lv_iconst (v := (0 : Int32)) hx hb dX12_many_52 (by decide) ?_
      refine lv_istore (lv' := [(5, .int (0 : Int32)), (4, .int w0), (0, .ref (am 68)), (1, .int v1), (3, .int v3)]) hx hb dX12_many_53 hl (by decide) rfl (fun ls hl => ?_)
      obtain ⟨y26, hc28, ho⟩ := bd_some ho
      obtain ⟨ny26, hc28⟩ := lp_to hc28
      refine m_many_L55 C0 ?_ ny26 _ _ _ hc28 _ _ _ hW (lv_sub hl [2, 3, 4, 1, 0] rfl)
      intro H locs ls hW hl
      refine lv_aload_n hx hb dX12_many_173 rfl (lv_at hl 0 rfl) ?_
      refine mGET_32 C0 hW dX12_many_174 ?_
      refine lv_iload_n hx hb dX12_many_177 rfl (lv_at hl 2 rfl) ?_
      refine lv_aload_n hx hb dX12_many_178 rfl (lv_at hl 0 rfl) ?_
      refine mGET_8 C0 hW dX12_many_179 ?_
      refine lv_iload_n hx hb dX12_many_182 rfl (lv_at hl 2 rfl) ?_
      obtain ⟨g29, ho⟩ := gd_some ho
      refine mLD_8 C0 hW g29 dX12_many_183 ?_
      refine lv_iconst (v := (4 : Int32)) hx hb dX12_many_184 (by decide) ?_
      refine lv_icmp_ne (tgt := 209) hx hb dX12_many_185 (by decide) (fun c30 => ?_) (fun c30 => ?_)
      · replace ho := ite_f c30 ho
        refine lv_iload hx hb dX12_many_209 (lv_at hl 3 rfl) ?_
        exact J211 _ _ _ _ ho _ _ _ hW (lv_sub hl [0, 1, 2] rfl)
      · replace ho := ite_t c30 ho
        refine lv_aload_n hx hb dX12_many_188 rfl (lv_at hl 0 rfl) ?_
        refine lv_aload_n hx hb dX12_many_189 rfl (lv_at hl 0 rfl) ?_
        refine mGET_12 C0 hW dX12_many_190 ?_
        refine lv_iload_n hx hb dX12_many_193 rfl (lv_at hl 2 rfl) ?_
        obtain ⟨g31, ho⟩ := gd_some ho
        refine mLD_12 C0 hW g31 dX12_many_194 ?_
        refine lv_aload_n hx hb dX12_many_195 rfl (lv_at hl 0 rfl) ?_
        refine mGET_9 C0 hW dX12_many_196 ?_
        refine lv_iload_n hx hb dX12_many_199 rfl (lv_at hl 2 rfl) ?_
        obtain ⟨g32, ho⟩ := gd_some ho
        refine mLD_9 C0 hW g32 dX12_many_200 ?_
        refine lv_iconst (v := (1 : Int32)) hx hb dX12_many_201 (by decide) ?_
        refine lv_isub hx hb dX12_many_202 ?_
        obtain ⟨q33, hc34, ho⟩ := bd_some ho
        refine bkI C0 hW (runV (As := [.int (gA y26.2 12 (v3).toNatClampNeg), .int ((gA y26.2 9 (v3).toNatClampNeg) - (1 : Int32))]) (rest := [.int v3, .ref (am 32)]) C0 hW (c_m_sorted l _ y26.2 (gA y26.2 12 (v3).toNatClampNeg) ((gA y26.2 9 (v3).toNatClampNeg) - (1 : Int32)) (r := q33.1) (t' := q33.2) hc34) ca_X12_sorted_311 0 12 rfl rfl rfl rfl rfl ⟨rfl, rfl⟩ ⟨Nat.le_of_ble_eq_true rfl, Nat.le_of_ble_eq_true rfl⟩ (Nat.le_of_ble_eq_true rfl) hl.1 dX12_many_203 ⟨Nat.le_of_ble_eq_true rfl, Nat.le_of_ble_eq_true rfl⟩) (fun H locs hW => ?_)
        refine lv_goto (tgt := 211) hx hb dX12_many_206 (by decide) ?_
        exact J211 _ _ _ _ ho _ _ _ hW (lv_sub hl [0, 1, 2] rfl)
    unfold m_many_B16 at ho
    refine lv_iload_n hx hb dX12_many_16 rfl (lv_at hl 2 rfl) ?_
    refine lv_aload_n hx hb dX12_many_17 rfl (lv_at hl 0 rfl) ?_
    refine mGET_16 C0 hW dX12_many_18 ?_
    refine lv_iload_n hx hb dX12_many_21 rfl (lv_at hl 1 rfl) ?_
    obtain ⟨g35, ho⟩ := gd_some ho
    refine mLD_16 C0 hW g35 dX12_many_22 ?_
    refine lv_icmp_gt (tgt := 218) hx hb dX12_many_23 (by decide) (fun c36 => ?_) (fun c36 => ?_)
    · replace ho := ite_t c36 ho
      cases ho
      cases hrun
      exact hK0 _ _ _ hW (lv_sub hl [0, 1] rfl)
    · replace ho := ite_f c36 ho
      refine lv_aload_n hx hb dX12_many_26 rfl (lv_at hl 0 rfl) ?_
      refine mGET_8 C0 hW dX12_many_27 ?_
      refine lv_iload_n hx hb dX12_many_30 rfl (lv_at hl 2 rfl) ?_
      obtain ⟨g37, ho⟩ := gd_some ho
      refine mLD_8 C0 hW g37 dX12_many_31 ?_
      refine lv_if_ne (tgt := 49) hx hb dX12_many_32 (by decide) (fun c38 => ?_) (fun c38 => ?_)
      · replace ho := ite_f c38 ho
        refine lv_iconst (v := (0 : Int32)) hx hb dX12_many_49 (by decide) ?_
        exact J50 _ _ _ ho _ _ _ hW (lv_sub hl [0, 1, 2] rfl)
      · replace ho := ite_t c38 ho
        refine lv_aload_n hx hb dX12_many_35 rfl (lv_at hl 0 rfl) ?_
        refine mGET_1 C0 hW dX12_many_36 ?_
        refine lv_aload_n hx hb dX12_many_39 rfl (lv_at hl 0 rfl) ?_
        refine mGET_10 C0 hW dX12_many_40 ?_
        refine lv_iload_n hx hb dX12_many_43 rfl (lv_at hl 2 rfl) ?_
        obtain ⟨g39, ho⟩ := gd_some ho
        refine mLD_10 C0 hW g39 dX12_many_44 ?_
        obtain ⟨g40, ho⟩ := gd_some ho
        refine mLD_1 C0 hW g40 dX12_many_45 ?_
        refine lv_goto (tgt := 50) hx hb dX12_many_46 (by decide) ?_
        exact J50 _ _ _ ho _ _ _ hW (lv_sub hl [0, 1, 2] rfl)
set_option maxHeartbeats 4000000 in
set_option maxRecDepth 100000 in
theorem c_m_many (l : Launch) {D : va_G} {cI cJ cZ : ClassId} {am : Nat → Nat} (sz : Nat) (t : St) (a1 : Int32) {r : Int32} {t' : St} (ho : m_many t a1 = some (r, t')) : Met l yX12_many (.code yX12_many cX12_many 7 (some .int) :: wsAll) (rmN 3 64) (va_Pc [.ref (am 68), .int a1] (prW D (tyM cI cJ cZ) (wM cI cJ cZ am t) sz)) (qI r D (tyM cI cJ cZ) (wM cI cJ cZ am t') (va_A (wM cI cJ cZ am t) sz)) 0 0 (va_A (wM cI cJ cZ am t) sz) := by
  refine Met.ofW (cc := cX12_many) (maxL := 7) (ret := (some .int)) (by decide) rfl ?_
  intro p e s m args below meth c s₁ B hml hv
  obtain ⟨rfl, hsz, hP, hK, hD0⟩ := hv
  have hx := B.exec
  have hb := B.bytes
  have hts := atoms_spec (ws := (.code yX12_many cX12_many 7 (some .int) :: wsAll)) B.pre
  have hta := fun w h => hts w (List.mem_cons_of_mem _ h)
  have hown : s.vm.findClass RX12 = some m.cls := findClass_of_methodNamed B.named
  have hlocks := B.notSynchronized
  subst hsz
  have hD := hD0.self (sz := s.heap.size)
  generalize hAe : va_A (wM cI cJ cZ am t) s.heap.size = A at hD ⊢
  have hA : ∀ q : Nat, s.heap.size ≤ q → A q := fun q h => by rw [← hAe]; exact Or.inr h
  have C0 : cx p s m ([.ref (am 68), .int a1].toArray) meth c cX12_many RX12 7 (some .int) D (tyM cI cJ cZ) A := ⟨hx, hb, B.returns, hml, hown, hta, hlocks, hK, hA⟩
  have hW : wl D A s (wM cI cJ cZ am t) s.heap [] := ⟨hP, hD, va_S.rf⟩
  have hl := lv_entry [.ref (am 68), .int a1] (n := 7) (Nat.le_of_ble_eq_true rfl)
  rw [lg_entry_eq]
  generalize (lg_sl [.ref (am 68), .int a1] ++ List.replicate (7 - (lg_sl [.ref (am 68), .int a1]).length) Slot.unset).toArray = ls at hl ⊢
  have hl : lv_has ls 7 [(0, .ref (am 68)), (1, .int a1)] := hl
  unfold m_many at ho
  refine lv_aload_n hx hb dX12_many_0 rfl (lv_at hl 0 rfl) ?_
  refine lv_iload_n hx hb dX12_many_1 rfl (lv_at hl 1 rfl) ?_
  refine lv_iconst (v := (1 : Int32)) hx hb dX12_many_2 (by decide) ?_
  obtain ⟨q41, hc42, ho⟩ := bd_some ho
  refine bkI C0 hW (runV (As := [.int a1, .int (1 : Int32)]) (rest := []) C0 hW (c_m_why l _ t a1 (1 : Int32) (r := q41) hc42) ca_X12_why_271 0 12 rfl rfl rfl rfl rfl ⟨rfl, rfl⟩ ⟨Nat.le_of_ble_eq_true rfl, Nat.le_of_ble_eq_true rfl⟩ (Nat.le_of_ble_eq_true rfl) hl.1 dX12_many_3 ⟨Nat.le_of_ble_eq_true rfl, Nat.le_of_ble_eq_true rfl⟩) (fun H locs hW => ?_)
  refine lv_istore_n (lv' := [(2, .int q41), (0, .ref (am 68)), (1, .int a1)]) hx hb dX12_many_6 rfl hl (by decide) rfl (fun ls hl => ?_)
  refine lv_iload_n hx hb dX12_many_7 rfl (lv_at hl 0 rfl) ?_
  refine lv_iconst (v := (1 : Int32)) hx hb dX12_many_8 (by decide) ?_
  refine lv_icmp_eq (tgt := 14) hx hb dX12_many_9 (by decide) (fun c43 => ?_) (fun c43 => ?_)
  · replace ho := ite_t c43 ho
    refine lv_iconst (v := (0 : Int32)) hx hb dX12_many_14 (by decide) ?_
    refine lv_istore_n (lv' := [(3, .int (0 : Int32)), (2, .int q41), (0, .ref (am 68)), (1, .int a1)]) hx hb dX12_many_15 rfl hl (by decide) rfl (fun ls hl => ?_)
    obtain ⟨y44, hc46, ho⟩ := bd_some ho
    obtain ⟨ny44, hc46⟩ := lp_to hc46
    refine m_many_L16 C0 ?_ ny44 _ _ hc46 _ _ _ hW (lv_sub hl [2, 3, 0] rfl)
    intro H locs ls hW hl
    refine lv_aload_n hx hb dX12_many_218 rfl (lv_at hl 0 rfl) ?_
    refine mGET_32 C0 hW dX12_many_219 ?_
    refine lv_aload_n hx hb dX12_many_222 rfl (lv_at hl 0 rfl) ?_
    refine mGET_16 C0 hW dX12_many_223 ?_
    refine lv_iload_n hx hb dX12_many_226 rfl (lv_at hl 1 rfl) ?_
    obtain ⟨g47, ho⟩ := gd_some ho
    refine mLD_16 C0 hW g47 dX12_many_227 ?_
    obtain ⟨g48, ho⟩ := gd_some ho
    refine mLD_32 C0 hW g48 dX12_many_228 ?_
    cases ho
    exact rtI C0 hW dX12_many_229
  · replace ho := ite_f c43 ho
    refine lv_iload_n hx hb dX12_many_12 rfl (lv_at hl 0 rfl) ?_
    cases ho
    exact rtI C0 hW dX12_many_13
noncomputable def m_takes_B2 (v1 : Int32) (v2 : Int32) (v3 : Int32) (t : St) : Option ((Int32 × St) ⊕ (St)) :=
  if (7 : Int32) ≤ v3 then (some (.inr t)) else (gd (((7 : Int32) * v2) + v3) 31600 (gd (((7 : Int32) * v1) + v3) 31600 (nm (sA t 34 (((7 : Int32) * v1) + v3) (gA t 34 ((((7 : Int32) * v2) + v3)).toNatClampNeg)) (fun t4 : St => nm (v3 + (1 : Int32)) (fun x5 : Int32 => some (.inl (x5, t4)))))))
noncomputable def m_takes (t : St) (a1 : Int32) (a2 : Int32) : Option (St) :=
  (lp (fun x => m_takes_B2 a1 a2 x.1 x.2) ((0 : Int32), t)).bind (fun y6 => some y6)
set_option maxHeartbeats 4000000 in
set_option maxRecDepth 100000 in
theorem m_takes_L2 {p : Program} {l : Launch} {e : Env} {s : State} {m : MethodId} {args : Array Value} {below : List Frame} {meth : Method} {c : Code} {Q : State → Prop} {D : va_G} {cI cJ cZ : ClassId} {am : Nat → Nat} {A : Nat → Prop} (C0 : cx p s m args meth c cX12_takes RX12 4 none D (tyM cI cJ cZ) A) {v1 : Int32} {v2 : Int32} {y : St} (hK0 : ∀ (H : Heap) (locs : List Loc) (ls : Array Slot), wl D A s (wM cI cJ cZ am y) H locs → lv_has ls 4 [(0, .ref (am 68))] → W p l e (rmN 0 0) s m args below meth c H locs 0 0 Q (F0 m 36 ls [])) :
    ∀ (n : Nat) (v3 : Int32) (t : St), lpn (fun x => m_takes_B2 v1 v2 x.1 x.2) n (v3, t) = some y → ∀ (H : Heap) (locs : List Loc) (ls : Array Slot), wl D A s (wM cI cJ cZ am t) H locs → lv_has ls 4 [(0, .ref (am 68)), (1, .int v1), (2, .int v2), (3, .int v3)] → W p l e (rmN 0 0) s m args below meth c H locs 0 0 Q (F0 m 2 ls []) := by
  have hx := C0.1
  have hb := C0.2.1
  have hta := C0.2.2.2.2.2.1
  have hown := C0.2.2.2.2.1
  intro n
  induction n with
  | zero => intro _ _ h; cases h
  | succ n ih =>
    intro v3 t hrun H locs ls hW hl
    obtain ⟨o, ho, hrun⟩ := bd_some hrun
    unfold m_takes_B2 at ho
    refine lv_iload_n hx hb dX12_takes_2 rfl (lv_at hl 3 rfl) ?_
    refine lv_bipush (v := (7 : Int32)) hx hb dX12_takes_3 (by decide) ?_
    refine lv_icmp_ge (tgt := 36) hx hb dX12_takes_5 (by decide) (fun c1 => ?_) (fun c1 => ?_)
    · replace ho := ite_t c1 ho
      cases ho
      cases hrun
      exact hK0 _ _ _ hW (lv_sub hl [0] rfl)
    · replace ho := ite_f c1 ho
      refine lv_aload_n hx hb dX12_takes_8 rfl (lv_at hl 0 rfl) ?_
      refine mGET_34 C0 hW dX12_takes_9 ?_
      refine lv_bipush (v := (7 : Int32)) hx hb dX12_takes_12 (by decide) ?_
      refine lv_iload_n hx hb dX12_takes_14 rfl (lv_at hl 1 rfl) ?_
      refine lv_imul hx hb dX12_takes_15 ?_
      refine lv_iload_n hx hb dX12_takes_16 rfl (lv_at hl 3 rfl) ?_
      refine lv_iadd hx hb dX12_takes_17 ?_
      refine lv_aload_n hx hb dX12_takes_18 rfl (lv_at hl 0 rfl) ?_
      refine mGET_34 C0 hW dX12_takes_19 ?_
      refine lv_bipush (v := (7 : Int32)) hx hb dX12_takes_22 (by decide) ?_
      refine lv_iload_n hx hb dX12_takes_24 rfl (lv_at hl 2 rfl) ?_
      refine lv_imul hx hb dX12_takes_25 ?_
      refine lv_iload_n hx hb dX12_takes_26 rfl (lv_at hl 3 rfl) ?_
      refine lv_iadd hx hb dX12_takes_27 ?_
      obtain ⟨g2, ho⟩ := gd_some ho
      refine mLD_34 C0 hW g2 dX12_takes_28 ?_
      obtain ⟨g3, ho⟩ := gd_some ho
      refine mST_34 C0 hW g3 dX12_takes_29 (fun H locs hW => ?_)
      obtain ⟨t4, ho, hW⟩ := nm_w (P := fun t => wl D A s (wM cI cJ cZ am t) H locs) ho hW
      obtain ⟨x5, ex5, ho⟩ := nm_x ho
      refine lv_iinc (v := x5) (lv' := [(3, .int x5), (0, .ref (am 68)), (1, .int v1), (2, .int v2)]) hx hb dX12_takes_30 hl (k := 3) rfl (by rw [ex5]; rfl) (by decide) rfl (fun ls hl => ?_)
      clear ex5
      refine lv_goto (tgt := 2) hx hb dX12_takes_33 (by decide) ?_
      cases ho
      exact ih _ _ hrun _ _ _ hW (lv_sub hl [1, 2, 3, 0] rfl)
set_option maxHeartbeats 4000000 in
set_option maxRecDepth 100000 in
theorem c_m_takes (l : Launch) {D : va_G} {cI cJ cZ : ClassId} {am : Nat → Nat} (sz : Nat) (t : St) (a1 : Int32) (a2 : Int32) {t' : St} (ho : m_takes t a1 a2 = some t') : Met l yX12_takes (.code yX12_takes cX12_takes 4 none :: wsAll) (rmN 0 0) (va_Pc [.ref (am 68), .int a1, .int a2] (prW D (tyM cI cJ cZ) (wM cI cJ cZ am t) sz)) (qV D (tyM cI cJ cZ) (wM cI cJ cZ am t') (va_A (wM cI cJ cZ am t) sz)) 0 0 (va_A (wM cI cJ cZ am t) sz) := by
  refine Met.ofW (cc := cX12_takes) (maxL := 4) (ret := none) (by decide) rfl ?_
  intro p e s m args below meth c s₁ B hml hv
  obtain ⟨rfl, hsz, hP, hK, hD0⟩ := hv
  have hx := B.exec
  have hb := B.bytes
  have hts := atoms_spec (ws := (.code yX12_takes cX12_takes 4 none :: wsAll)) B.pre
  have hta := fun w h => hts w (List.mem_cons_of_mem _ h)
  have hown : s.vm.findClass RX12 = some m.cls := findClass_of_methodNamed B.named
  have hlocks := B.notSynchronized
  subst hsz
  have hD := hD0.self (sz := s.heap.size)
  generalize hAe : va_A (wM cI cJ cZ am t) s.heap.size = A at hD ⊢
  have hA : ∀ q : Nat, s.heap.size ≤ q → A q := fun q h => by rw [← hAe]; exact Or.inr h
  have C0 : cx p s m ([.ref (am 68), .int a1, .int a2].toArray) meth c cX12_takes RX12 4 none D (tyM cI cJ cZ) A := ⟨hx, hb, B.returns, hml, hown, hta, hlocks, hK, hA⟩
  have hW : wl D A s (wM cI cJ cZ am t) s.heap [] := ⟨hP, hD, va_S.rf⟩
  have hl := lv_entry [.ref (am 68), .int a1, .int a2] (n := 4) (Nat.le_of_ble_eq_true rfl)
  rw [lg_entry_eq]
  generalize (lg_sl [.ref (am 68), .int a1, .int a2] ++ List.replicate (4 - (lg_sl [.ref (am 68), .int a1, .int a2]).length) Slot.unset).toArray = ls at hl ⊢
  have hl : lv_has ls 4 [(0, .ref (am 68)), (1, .int a1), (2, .int a2)] := hl
  unfold m_takes at ho
  refine lv_iconst (v := (0 : Int32)) hx hb dX12_takes_0 (by decide) ?_
  refine lv_istore_n (lv' := [(3, .int (0 : Int32)), (0, .ref (am 68)), (1, .int a1), (2, .int a2)]) hx hb dX12_takes_1 rfl hl (by decide) rfl (fun ls hl => ?_)
  obtain ⟨y6, hc8, ho⟩ := bd_some ho
  obtain ⟨ny6, hc8⟩ := lp_to hc8
  refine m_takes_L2 C0 ?_ ny6 _ _ hc8 _ _ _ hW (lv_sub hl [1, 2, 3, 0] rfl)
  intro H locs ls hW hl
  cases ho
  exact rtV C0 hW dX12_takes_36
noncomputable def m_adds_B5 (v1 : Int32) (v2 : Int32) (v3 : Int32) (v4 : Int32) (t : St) : Option ((Int32 × Int32 × St) ⊕ (St)) :=
  if (7 : Int32) ≤ v4 then (some (.inr t)) else (gd (((7 : Int32) * v1) + v4) 31600 (gd (((7 : Int32) * v2) + v4) 31600 (nm ((((gA t 34 ((((7 : Int32) * v1) + v4)).toNatClampNeg)).toInt64 + ((gA t 34 ((((7 : Int32) * v2) + v4)).toNatClampNeg)).toInt64) + (v3).toInt64) (fun x4 : Int64 => gd (((7 : Int32) * v1) + v4) 31600 (nm (sA t 34 (((7 : Int32) * v1) + v4) ((x4 - x4 / (1073741824 : Int64) * (1073741824 : Int64))).toInt32) (fun t6 : St => nm ((x4 / (1073741824 : Int64))).toInt32 (fun x7 : Int32 => nm (v4 + (1 : Int32)) (fun x8 : Int32 => some (.inl (x7, x8, t6))))))))))
noncomputable def m_adds (t : St) (a1 : Int32) (a2 : Int32) : Option (St) :=
  (lp (fun x => m_adds_B5 a1 a2 x.1 x.2.1 x.2.2) ((0 : Int32), (0 : Int32), t)).bind (fun y9 => some y9)
set_option maxHeartbeats 4000000 in
set_option maxRecDepth 100000 in
theorem m_adds_L5 {p : Program} {l : Launch} {e : Env} {s : State} {m : MethodId} {args : Array Value} {below : List Frame} {meth : Method} {c : Code} {Q : State → Prop} {D : va_G} {cI cJ cZ : ClassId} {am : Nat → Nat} {A : Nat → Prop} (C0 : cx p s m args meth c cX12_adds RX12 7 none D (tyM cI cJ cZ) A) {v1 : Int32} {v2 : Int32} {y : St} (hK0 : ∀ (H : Heap) (locs : List Loc) (ls : Array Slot), wl D A s (wM cI cJ cZ am y) H locs → lv_has ls 7 [(0, .ref (am 68))] → W p l e (rmN 0 0) s m args below meth c H locs 0 0 Q (F0 m 77 ls [])) :
    ∀ (n : Nat) (v3 : Int32) (v4 : Int32) (t : St), lpn (fun x => m_adds_B5 v1 v2 x.1 x.2.1 x.2.2) n (v3, v4, t) = some y → ∀ (H : Heap) (locs : List Loc) (ls : Array Slot), wl D A s (wM cI cJ cZ am t) H locs → lv_has ls 7 [(0, .ref (am 68)), (1, .int v1), (2, .int v2), (3, .int v3), (4, .int v4)] → W p l e (rmN 0 0) s m args below meth c H locs 0 0 Q (F0 m 5 ls []) := by
  have hx := C0.1
  have hb := C0.2.1
  have hta := C0.2.2.2.2.2.1
  have hown := C0.2.2.2.2.1
  intro n
  induction n with
  | zero => intro _ _ _ h; cases h
  | succ n ih =>
    intro v3 v4 t hrun H locs ls hW hl
    obtain ⟨o, ho, hrun⟩ := bd_some hrun
    unfold m_adds_B5 at ho
    refine lv_iload hx hb dX12_adds_5 (lv_at hl 4 rfl) ?_
    refine lv_bipush (v := (7 : Int32)) hx hb dX12_adds_7 (by decide) ?_
    refine lv_icmp_ge (tgt := 77) hx hb dX12_adds_9 (by decide) (fun c1 => ?_) (fun c1 => ?_)
    · replace ho := ite_t c1 ho
      cases ho
      cases hrun
      exact hK0 _ _ _ hW (lv_sub hl [0] rfl)
    · replace ho := ite_f c1 ho
      refine lv_aload_n hx hb dX12_adds_12 rfl (lv_at hl 0 rfl) ?_
      refine mGET_34 C0 hW dX12_adds_13 ?_
      refine lv_bipush (v := (7 : Int32)) hx hb dX12_adds_16 (by decide) ?_
      refine lv_iload_n hx hb dX12_adds_18 rfl (lv_at hl 1 rfl) ?_
      refine lv_imul hx hb dX12_adds_19 ?_
      refine lv_iload hx hb dX12_adds_20 (lv_at hl 4 rfl) ?_
      refine lv_iadd hx hb dX12_adds_22 ?_
      obtain ⟨g2, ho⟩ := gd_some ho
      refine mLD_34 C0 hW g2 dX12_adds_23 ?_
      refine lv_i2l hx hb dX12_adds_24 rfl ?_
      refine lv_aload_n hx hb dX12_adds_25 rfl (lv_at hl 0 rfl) ?_
      refine mGET_34 C0 hW dX12_adds_26 ?_
      refine lv_bipush (v := (7 : Int32)) hx hb dX12_adds_29 (by decide) ?_
      refine lv_iload_n hx hb dX12_adds_31 rfl (lv_at hl 2 rfl) ?_
      refine lv_imul hx hb dX12_adds_32 ?_
      refine lv_iload hx hb dX12_adds_33 (lv_at hl 4 rfl) ?_
      refine lv_iadd hx hb dX12_adds_35 ?_
      obtain ⟨g3, ho⟩ := gd_some ho
      refine mLD_34 C0 hW g3 dX12_adds_36 ?_
      refine lv_i2l hx hb dX12_adds_37 rfl ?_
      refine lv_ladd hx hb dX12_adds_38 ?_
      refine lv_iload_n hx hb dX12_adds_39 rfl (lv_at hl 3 rfl) ?_
      refine lv_i2l hx hb dX12_adds_40 rfl ?_
      refine lv_ladd hx hb dX12_adds_41 ?_
      refine lv_nml ho (fun x4 ho => ?_)
      refine lv_lstore (lv' := [(5, .long x4), (0, .ref (am 68)), (1, .int v1), (2, .int v2), (3, .int v3), (4, .int v4)]) hx hb dX12_adds_42 hl (by decide) rfl (fun ls hl => ?_)
      refine lv_aload_n hx hb dX12_adds_44 rfl (lv_at hl 1 rfl) ?_
      refine mGET_34 C0 hW dX12_adds_45 ?_
      refine lv_bipush (v := (7 : Int32)) hx hb dX12_adds_48 (by decide) ?_
      refine lv_iload_n hx hb dX12_adds_50 rfl (lv_at hl 2 rfl) ?_
      refine lv_imul hx hb dX12_adds_51 ?_
      refine lv_iload hx hb dX12_adds_52 (lv_at hl 5 rfl) ?_
      refine lv_iadd hx hb dX12_adds_54 ?_
      refine lv_lload hx hb dX12_adds_55 (lv_at hl 0 rfl) ?_
      refine lv_ldc2 hx hb hown (hta _ kw_1949) dX12_adds_57 ?_
      refine lv_lrem hx hb dX12_adds_60 (by decide) ?_
      refine lv_l2i hx hb dX12_adds_61 rfl ?_
      obtain ⟨g5, ho⟩ := gd_some ho
      refine mST_34 C0 hW g5 dX12_adds_62 (fun H locs hW => ?_)
      obtain ⟨t6, ho, hW⟩ := nm_w (P := fun t => wl D A s (wM cI cJ cZ am t) H locs) ho hW
      refine lv_lload hx hb dX12_adds_63 (lv_at hl 0 rfl) ?_
      refine lv_ldc2 hx hb hown (hta _ kw_1949) dX12_adds_65 ?_
      refine lv_ldiv hx hb dX12_adds_68 (by decide) ?_
      refine lv_l2i hx hb dX12_adds_69 rfl ?_
      refine lv_nmi ho (fun x7 ho => ?_)
      refine lv_istore_n (lv' := [(3, .int x7), (5, .long x4), (0, .ref (am 68)), (1, .int v1), (2, .int v2), (4, .int v4)]) hx hb dX12_adds_70 rfl hl (by decide) rfl (fun ls hl => ?_)
      obtain ⟨x8, ex8, ho⟩ := nm_x ho
      refine lv_iinc (v := x8) (lv' := [(4, .int x8), (3, .int x7), (5, .long x4), (0, .ref (am 68)), (1, .int v1), (2, .int v2)]) hx hb dX12_adds_71 hl (k := 5) rfl (by rw [ex8]; rfl) (by decide) rfl (fun ls hl => ?_)
      clear ex8
      refine lv_goto (tgt := 5) hx hb dX12_adds_74 (by decide) ?_
      cases ho
      exact ih _ _ _ hrun _ _ _ hW (lv_sub hl [3, 4, 5, 1, 0] rfl)
set_option maxHeartbeats 4000000 in
set_option maxRecDepth 100000 in
theorem c_m_adds (l : Launch) {D : va_G} {cI cJ cZ : ClassId} {am : Nat → Nat} (sz : Nat) (t : St) (a1 : Int32) (a2 : Int32) {t' : St} (ho : m_adds t a1 a2 = some t') : Met l yX12_adds (.code yX12_adds cX12_adds 7 none :: wsAll) (rmN 0 0) (va_Pc [.ref (am 68), .int a1, .int a2] (prW D (tyM cI cJ cZ) (wM cI cJ cZ am t) sz)) (qV D (tyM cI cJ cZ) (wM cI cJ cZ am t') (va_A (wM cI cJ cZ am t) sz)) 0 0 (va_A (wM cI cJ cZ am t) sz) := by
  refine Met.ofW (cc := cX12_adds) (maxL := 7) (ret := none) (by decide) rfl ?_
  intro p e s m args below meth c s₁ B hml hv
  obtain ⟨rfl, hsz, hP, hK, hD0⟩ := hv
  have hx := B.exec
  have hb := B.bytes
  have hts := atoms_spec (ws := (.code yX12_adds cX12_adds 7 none :: wsAll)) B.pre
  have hta := fun w h => hts w (List.mem_cons_of_mem _ h)
  have hown : s.vm.findClass RX12 = some m.cls := findClass_of_methodNamed B.named
  have hlocks := B.notSynchronized
  subst hsz
  have hD := hD0.self (sz := s.heap.size)
  generalize hAe : va_A (wM cI cJ cZ am t) s.heap.size = A at hD ⊢
  have hA : ∀ q : Nat, s.heap.size ≤ q → A q := fun q h => by rw [← hAe]; exact Or.inr h
  have C0 : cx p s m ([.ref (am 68), .int a1, .int a2].toArray) meth c cX12_adds RX12 7 none D (tyM cI cJ cZ) A := ⟨hx, hb, B.returns, hml, hown, hta, hlocks, hK, hA⟩
  have hW : wl D A s (wM cI cJ cZ am t) s.heap [] := ⟨hP, hD, va_S.rf⟩
  have hl := lv_entry [.ref (am 68), .int a1, .int a2] (n := 7) (Nat.le_of_ble_eq_true rfl)
  rw [lg_entry_eq]
  generalize (lg_sl [.ref (am 68), .int a1, .int a2] ++ List.replicate (7 - (lg_sl [.ref (am 68), .int a1, .int a2]).length) Slot.unset).toArray = ls at hl ⊢
  have hl : lv_has ls 7 [(0, .ref (am 68)), (1, .int a1), (2, .int a2)] := hl
  unfold m_adds at ho
  refine lv_iconst (v := (0 : Int32)) hx hb dX12_adds_0 (by decide) ?_
  refine lv_istore_n (lv' := [(3, .int (0 : Int32)), (0, .ref (am 68)), (1, .int a1), (2, .int a2)]) hx hb dX12_adds_1 rfl hl (by decide) rfl (fun ls hl => ?_)
  refine lv_iconst (v := (0 : Int32)) hx hb dX12_adds_2 (by decide) ?_
  refine lv_istore (lv' := [(4, .int (0 : Int32)), (3, .int (0 : Int32)), (0, .ref (am 68)), (1, .int a1), (2, .int a2)]) hx hb dX12_adds_3 hl (by decide) rfl (fun ls hl => ?_)
  obtain ⟨y9, hc11, ho⟩ := bd_some ho
  obtain ⟨ny9, hc11⟩ := lp_to hc11
  refine m_adds_L5 C0 ?_ ny9 _ _ _ hc11 _ _ _ hW (lv_sub hl [2, 3, 4, 1, 0] rfl)
  intro H locs ls hW hl
  cases ho
  exact rtV C0 hW dX12_adds_77
noncomputable def m_lessens_J79 (t : St) (v1 : Int32) (v2 : Int32) (v3 : Int32) (v4 : Int32) (w1 : Int32) (w2 : Int32) : Option ((Int32 × Int32 × St) ⊕ (St)) :=
  gd w1 31600 (nm (sA t 34 w1 w2) (fun t2 : St => nm (v4 + (1 : Int32)) (fun x3 : Int32 => some (.inl (v3, x3, t2)))))
noncomputable def m_lessens_J51 (t : St) (v1 : Int32) (v2 : Int32) (v4 : Int32) (v5 : Int32) (w0 : Int32) : Option ((Int32 × Int32 × St) ⊕ (St)) :=
  if 0 ≤ v5 then (m_lessens_J79 t v1 v2 w0 v4 (((7 : Int32) * v1) + v4) v5) else (m_lessens_J79 t v1 v2 w0 v4 (((7 : Int32) * v1) + v4) (v5 + (1073741824 : Int32)))
noncomputable def m_lessens_B5 (v1 : Int32) (v2 : Int32) (v3 : Int32) (v4 : Int32) (t : St) : Option ((Int32 × Int32 × St) ⊕ (St)) :=
  if (7 : Int32) ≤ v4 then (some (.inr t)) else (gd (((7 : Int32) * v1) + v4) 31600 (gd (((7 : Int32) * v2) + v4) 31600 (nm (((gA t 34 ((((7 : Int32) * v1) + v4)).toNatClampNeg) - (gA t 34 ((((7 : Int32) * v2) + v4)).toNatClampNeg)) - v3) (fun x8 : Int32 => if 0 ≤ x8 then (m_lessens_J51 t v1 v2 v4 x8 (0 : Int32)) else (m_lessens_J51 t v1 v2 v4 x8 (1 : Int32))))))
noncomputable def m_lessens (t : St) (a1 : Int32) (a2 : Int32) : Option (St) :=
  (lp (fun x => m_lessens_B5 a1 a2 x.1 x.2.1 x.2.2) ((0 : Int32), (0 : Int32), t)).bind (fun y10 => some y10)
set_option maxHeartbeats 4000000 in
set_option maxRecDepth 100000 in
theorem m_lessens_L5 {p : Program} {l : Launch} {e : Env} {s : State} {m : MethodId} {args : Array Value} {below : List Frame} {meth : Method} {c : Code} {Q : State → Prop} {D : va_G} {cI cJ cZ : ClassId} {am : Nat → Nat} {A : Nat → Prop} (C0 : cx p s m args meth c cX12_lessens RX12 6 none D (tyM cI cJ cZ) A) {v1 : Int32} {v2 : Int32} {y : St} (hK0 : ∀ (H : Heap) (locs : List Loc) (ls : Array Slot), wl D A s (wM cI cJ cZ am y) H locs → lv_has ls 6 [(0, .ref (am 68))] → W p l e (rmN 0 0) s m args below meth c H locs 0 0 Q (F0 m 86 ls [])) :
    ∀ (n : Nat) (v3 : Int32) (v4 : Int32) (t : St), lpn (fun x => m_lessens_B5 v1 v2 x.1 x.2.1 x.2.2) n (v3, v4, t) = some y → ∀ (H : Heap) (locs : List Loc) (ls : Array Slot), wl D A s (wM cI cJ cZ am t) H locs → lv_has ls 6 [(0, .ref (am 68)), (1, .int v1), (2, .int v2), (3, .int v3), (4, .int v4)] → W p l e (rmN 0 0) s m args below meth c H locs 0 0 Q (F0 m 5 ls []) := by
  have hx := C0.1
  have hb := C0.2.1
  have hta := C0.2.2.2.2.2.1
  have hown := C0.2.2.2.2.1
  intro n
  induction n with
  | zero => intro _ _ _ h; cases h
  | succ n ih =>
    intro v3 v4 t hrun H locs ls hW hl
    obtain ⟨o, ho, hrun⟩ := bd_some hrun
    have J79 : ∀ (t : St) (v3 : Int32) (v4 : Int32) (w1 : Int32) (w2 : Int32) (_ : m_lessens_J79 t v1 v2 v3 v4 w1 w2 = some o) (H : Heap) (locs : List Loc) (ls : Array Slot), wl D A s (wM cI cJ cZ am t) H locs → lv_has ls 6 [(0, .ref (am 68)), (1, .int v1), (2, .int v2), (3, .int v3), (4, .int v4)] → W p l e (rmN 0 0) s m args below meth c H locs 0 0 Q (F0 m 79 ls [.int w2, .int w1, .ref (am 34)]) := by
      intro t v3 v4 w1 w2 ho H locs ls hW hl
      unfold m_lessens_J79 at ho
      obtain ⟨g1, ho⟩ := gd_some ho
      refine mST_34 C0 hW g1 dX12_lessens_79 (fun H locs hW => ?_)
      obtain ⟨t2, ho, hW⟩ := nm_w (P := fun t => wl D A s (wM cI cJ cZ am t) H locs) ho hW
      obtain ⟨x3, ex3, ho⟩ := nm_x ho
      refine lv_iinc (v := x3) (lv' := [(4, .int x3), (0, .ref (am 68)), (1, .int v1), (2, .int v2), (3, .int v3)]) hx hb dX12_lessens_80 hl (k := 4) rfl (by rw [ex3]; rfl) (by decide) rfl (fun ls hl => ?_)
      clear ex3
      refine lv_goto (tgt := 5) hx hb dX12_lessens_83 (by decide) ?_
      cases ho
      exact ih _ _ _ hrun _ _ _ hW (lv_sub hl [1, 2, 3, 4, 0] rfl)
    have J51 : ∀ (t : St) (v4 : Int32) (v5 : Int32) (w0 : Int32) (_ : m_lessens_J51 t v1 v2 v4 v5 w0 = some o) (H : Heap) (locs : List Loc) (ls : Array Slot), wl D A s (wM cI cJ cZ am t) H locs → lv_has ls 6 [(0, .ref (am 68)), (1, .int v1), (2, .int v2), (4, .int v4), (5, .int v5)] → W p l e (rmN 0 0) s m args below meth c H locs 0 0 Q (F0 m 51 ls [.int w0]) := by
      intro t v4 v5 w0 ho H locs ls hW hl
      unfold m_lessens_J51 at ho
      refine lv_istore_n (lv' := [(3, .int w0), (0, .ref (am 68)), (1, .int v1), (2, .int v2), (4, .int v4), (5, .int v5)]) hx hb dX12_lessens_51 rfl hl (by decide) rfl (fun ls hl => ?_)
      refine lv_aload_n hx hb dX12_lessens_52 rfl (lv_at hl 1 rfl) ?_
      refine mGET_34 C0 hW dX12_lessens_53 ?_
      refine lv_bipush (v := (7 : Int32)) hx hb dX12_lessens_56 (by decide) ?_
      refine lv_iload_n hx hb dX12_lessens_58 rfl (lv_at hl 2 rfl) ?_
      refine lv_imul hx hb dX12_lessens_59 ?_
      refine lv_iload hx hb dX12_lessens_60 (lv_at hl 4 rfl) ?_
      refine lv_iadd hx hb dX12_lessens_62 ?_
      refine lv_iload hx hb dX12_lessens_63 (lv_at hl 5 rfl) ?_
      refine lv_if_ge (tgt := 77) hx hb dX12_lessens_65 (by decide) (fun c4 => ?_) (fun c4 => ?_)
      · replace ho := ite_t c4 ho
        refine lv_iload hx hb dX12_lessens_77 (lv_at hl 5 rfl) ?_
        exact J79 _ _ _ _ _ ho _ _ _ hW (lv_sub hl [1, 2, 3, 0, 4] rfl)
      · replace ho := ite_f c4 ho
        refine lv_iload hx hb dX12_lessens_68 (lv_at hl 5 rfl) ?_
        refine lv_ldcw hx hb hown (hta _ kw_1987) dX12_lessens_70 ?_
        refine lv_iadd hx hb dX12_lessens_73 ?_
        refine lv_goto (tgt := 79) hx hb dX12_lessens_74 (by decide) ?_
        exact J79 _ _ _ _ _ ho _ _ _ hW (lv_sub hl [1, 2, 3, 0, 4] rfl)
    unfold m_lessens_B5 at ho
    refine lv_iload hx hb dX12_lessens_5 (lv_at hl 4 rfl) ?_
    refine lv_bipush (v := (7 : Int32)) hx hb dX12_lessens_7 (by decide) ?_
    refine lv_icmp_ge (tgt := 86) hx hb dX12_lessens_9 (by decide) (fun c5 => ?_) (fun c5 => ?_)
    · replace ho := ite_t c5 ho
      cases ho
      cases hrun
      exact hK0 _ _ _ hW (lv_sub hl [0] rfl)
    · replace ho := ite_f c5 ho
      refine lv_aload_n hx hb dX12_lessens_12 rfl (lv_at hl 0 rfl) ?_
      refine mGET_34 C0 hW dX12_lessens_13 ?_
      refine lv_bipush (v := (7 : Int32)) hx hb dX12_lessens_16 (by decide) ?_
      refine lv_iload_n hx hb dX12_lessens_18 rfl (lv_at hl 1 rfl) ?_
      refine lv_imul hx hb dX12_lessens_19 ?_
      refine lv_iload hx hb dX12_lessens_20 (lv_at hl 4 rfl) ?_
      refine lv_iadd hx hb dX12_lessens_22 ?_
      obtain ⟨g6, ho⟩ := gd_some ho
      refine mLD_34 C0 hW g6 dX12_lessens_23 ?_
      refine lv_aload_n hx hb dX12_lessens_24 rfl (lv_at hl 0 rfl) ?_
      refine mGET_34 C0 hW dX12_lessens_25 ?_
      refine lv_bipush (v := (7 : Int32)) hx hb dX12_lessens_28 (by decide) ?_
      refine lv_iload_n hx hb dX12_lessens_30 rfl (lv_at hl 2 rfl) ?_
      refine lv_imul hx hb dX12_lessens_31 ?_
      refine lv_iload hx hb dX12_lessens_32 (lv_at hl 4 rfl) ?_
      refine lv_iadd hx hb dX12_lessens_34 ?_
      obtain ⟨g7, ho⟩ := gd_some ho
      refine mLD_34 C0 hW g7 dX12_lessens_35 ?_
      refine lv_isub hx hb dX12_lessens_36 ?_
      refine lv_iload_n hx hb dX12_lessens_37 rfl (lv_at hl 3 rfl) ?_
      refine lv_isub hx hb dX12_lessens_38 ?_
      refine lv_nmi ho (fun x8 ho => ?_)
      refine lv_istore (lv' := [(5, .int x8), (0, .ref (am 68)), (1, .int v1), (2, .int v2), (3, .int v3), (4, .int v4)]) hx hb dX12_lessens_39 hl (by decide) rfl (fun ls hl => ?_)
      refine lv_iload hx hb dX12_lessens_41 (lv_at hl 0 rfl) ?_
      refine lv_if_ge (tgt := 50) hx hb dX12_lessens_43 (by decide) (fun c9 => ?_) (fun c9 => ?_)
      · replace ho := ite_t c9 ho
        refine lv_iconst (v := (0 : Int32)) hx hb dX12_lessens_50 (by decide) ?_
        exact J51 _ _ _ _ ho _ _ _ hW (lv_sub hl [1, 2, 3, 5, 0] rfl)
      · replace ho := ite_f c9 ho
        refine lv_iconst (v := (1 : Int32)) hx hb dX12_lessens_46 (by decide) ?_
        refine lv_goto (tgt := 51) hx hb dX12_lessens_47 (by decide) ?_
        exact J51 _ _ _ _ ho _ _ _ hW (lv_sub hl [1, 2, 3, 5, 0] rfl)
set_option maxHeartbeats 4000000 in
set_option maxRecDepth 100000 in
theorem c_m_lessens (l : Launch) {D : va_G} {cI cJ cZ : ClassId} {am : Nat → Nat} (sz : Nat) (t : St) (a1 : Int32) (a2 : Int32) {t' : St} (ho : m_lessens t a1 a2 = some t') : Met l yX12_lessens (.code yX12_lessens cX12_lessens 6 none :: wsAll) (rmN 0 0) (va_Pc [.ref (am 68), .int a1, .int a2] (prW D (tyM cI cJ cZ) (wM cI cJ cZ am t) sz)) (qV D (tyM cI cJ cZ) (wM cI cJ cZ am t') (va_A (wM cI cJ cZ am t) sz)) 0 0 (va_A (wM cI cJ cZ am t) sz) := by
  refine Met.ofW (cc := cX12_lessens) (maxL := 6) (ret := none) (by decide) rfl ?_
  intro p e s m args below meth c s₁ B hml hv
  obtain ⟨rfl, hsz, hP, hK, hD0⟩ := hv
  have hx := B.exec
  have hb := B.bytes
  have hts := atoms_spec (ws := (.code yX12_lessens cX12_lessens 6 none :: wsAll)) B.pre
  have hta := fun w h => hts w (List.mem_cons_of_mem _ h)
  have hown : s.vm.findClass RX12 = some m.cls := findClass_of_methodNamed B.named
  have hlocks := B.notSynchronized
  subst hsz
  have hD := hD0.self (sz := s.heap.size)
  generalize hAe : va_A (wM cI cJ cZ am t) s.heap.size = A at hD ⊢
  have hA : ∀ q : Nat, s.heap.size ≤ q → A q := fun q h => by rw [← hAe]; exact Or.inr h
  have C0 : cx p s m ([.ref (am 68), .int a1, .int a2].toArray) meth c cX12_lessens RX12 6 none D (tyM cI cJ cZ) A := ⟨hx, hb, B.returns, hml, hown, hta, hlocks, hK, hA⟩
  have hW : wl D A s (wM cI cJ cZ am t) s.heap [] := ⟨hP, hD, va_S.rf⟩
  have hl := lv_entry [.ref (am 68), .int a1, .int a2] (n := 6) (Nat.le_of_ble_eq_true rfl)
  rw [lg_entry_eq]
  generalize (lg_sl [.ref (am 68), .int a1, .int a2] ++ List.replicate (6 - (lg_sl [.ref (am 68), .int a1, .int a2]).length) Slot.unset).toArray = ls at hl ⊢
  have hl : lv_has ls 6 [(0, .ref (am 68)), (1, .int a1), (2, .int a2)] := hl
  unfold m_lessens at ho
  refine lv_iconst (v := (0 : Int32)) hx hb dX12_lessens_0 (by decide) ?_
  refine lv_istore_n (lv' := [(3, .int (0 : Int32)), (0, .ref (am 68)), (1, .int a1), (2, .int a2)]) hx hb dX12_lessens_1 rfl hl (by decide) rfl (fun ls hl => ?_)
  refine lv_iconst (v := (0 : Int32)) hx hb dX12_lessens_2 (by decide) ?_
  refine lv_istore (lv' := [(4, .int (0 : Int32)), (3, .int (0 : Int32)), (0, .ref (am 68)), (1, .int a1), (2, .int a2)]) hx hb dX12_lessens_3 hl (by decide) rfl (fun ls hl => ?_)
  obtain ⟨y10, hc12, ho⟩ := bd_some ho
  obtain ⟨ny10, hc12⟩ := lp_to hc12
  refine m_lessens_L5 C0 ?_ ny10 _ _ _ hc12 _ _ _ hW (lv_sub hl [2, 3, 4, 1, 0] rfl)
  intro H locs ls hW hl
  cases ho
  exact rtV C0 hW dX12_lessens_86
noncomputable def m_times_B5 (v1 : Int32) (v2 : Int32) (v3 : Int64) (v5 : Int32) (t : St) : Option ((Int64 × Int32 × St) ⊕ (St)) :=
  if (7 : Int32) ≤ v5 then (some (.inr t)) else (gd (((7 : Int32) * v1) + v5) 31600 (nm ((((gA t 34 ((((7 : Int32) * v1) + v5)).toNatClampNeg)).toInt64 * (v2).toInt64) + v3) (fun x3 : Int64 => gd (((7 : Int32) * v1) + v5) 31600 (nm (sA t 34 (((7 : Int32) * v1) + v5) ((x3 - x3 / (1073741824 : Int64) * (1073741824 : Int64))).toInt32) (fun t5 : St => nm (x3 / (1073741824 : Int64)) (fun x6 : Int64 => nm (v5 + (1 : Int32)) (fun x7 : Int32 => some (.inl (x6, x7, t5)))))))))
noncomputable def m_times (t : St) (a1 : Int32) (a2 : Int32) : Option (St) :=
  (lp (fun x => m_times_B5 a1 a2 x.1 x.2.1 x.2.2) ((0 : Int64), (0 : Int32), t)).bind (fun y8 => some y8)
set_option maxHeartbeats 4000000 in
set_option maxRecDepth 100000 in
theorem m_times_L5 {p : Program} {l : Launch} {e : Env} {s : State} {m : MethodId} {args : Array Value} {below : List Frame} {meth : Method} {c : Code} {Q : State → Prop} {D : va_G} {cI cJ cZ : ClassId} {am : Nat → Nat} {A : Nat → Prop} (C0 : cx p s m args meth c cX12_times RX12 8 none D (tyM cI cJ cZ) A) {v1 : Int32} {v2 : Int32} {y : St} (hK0 : ∀ (H : Heap) (locs : List Loc) (ls : Array Slot), wl D A s (wM cI cJ cZ am y) H locs → lv_has ls 8 [(0, .ref (am 68))] → W p l e (rmN 0 0) s m args below meth c H locs 0 0 Q (F0 m 64 ls [])) :
    ∀ (n : Nat) (v3 : Int64) (v5 : Int32) (t : St), lpn (fun x => m_times_B5 v1 v2 x.1 x.2.1 x.2.2) n (v3, v5, t) = some y → ∀ (H : Heap) (locs : List Loc) (ls : Array Slot), wl D A s (wM cI cJ cZ am t) H locs → lv_has ls 8 [(0, .ref (am 68)), (1, .int v1), (2, .int v2), (3, .long v3), (5, .int v5)] → W p l e (rmN 0 0) s m args below meth c H locs 0 0 Q (F0 m 5 ls []) := by
  have hx := C0.1
  have hb := C0.2.1
  have hta := C0.2.2.2.2.2.1
  have hown := C0.2.2.2.2.1
  intro n
  induction n with
  | zero => intro _ _ _ h; cases h
  | succ n ih =>
    intro v3 v5 t hrun H locs ls hW hl
    obtain ⟨o, ho, hrun⟩ := bd_some hrun
    unfold m_times_B5 at ho
    refine lv_iload hx hb dX12_times_5 (lv_at hl 4 rfl) ?_
    refine lv_bipush (v := (7 : Int32)) hx hb dX12_times_7 (by decide) ?_
    refine lv_icmp_ge (tgt := 64) hx hb dX12_times_9 (by decide) (fun c1 => ?_) (fun c1 => ?_)
    · replace ho := ite_t c1 ho
      cases ho
      cases hrun
      exact hK0 _ _ _ hW (lv_sub hl [0] rfl)
    · replace ho := ite_f c1 ho
      refine lv_aload_n hx hb dX12_times_12 rfl (lv_at hl 0 rfl) ?_
      refine mGET_34 C0 hW dX12_times_13 ?_
      refine lv_bipush (v := (7 : Int32)) hx hb dX12_times_16 (by decide) ?_
      refine lv_iload_n hx hb dX12_times_18 rfl (lv_at hl 1 rfl) ?_
      refine lv_imul hx hb dX12_times_19 ?_
      refine lv_iload hx hb dX12_times_20 (lv_at hl 4 rfl) ?_
      refine lv_iadd hx hb dX12_times_22 ?_
      obtain ⟨g2, ho⟩ := gd_some ho
      refine mLD_34 C0 hW g2 dX12_times_23 ?_
      refine lv_i2l hx hb dX12_times_24 rfl ?_
      refine lv_iload_n hx hb dX12_times_25 rfl (lv_at hl 2 rfl) ?_
      refine lv_i2l hx hb dX12_times_26 rfl ?_
      refine lv_lmul hx hb dX12_times_27 ?_
      refine lv_lload_n hx hb dX12_times_28 rfl (lv_at hl 3 rfl) ?_
      refine lv_ladd hx hb dX12_times_29 ?_
      refine lv_nml ho (fun x3 ho => ?_)
      refine lv_lstore (lv' := [(6, .long x3), (0, .ref (am 68)), (1, .int v1), (2, .int v2), (3, .long v3), (5, .int v5)]) hx hb dX12_times_30 hl (by decide) rfl (fun ls hl => ?_)
      refine lv_aload_n hx hb dX12_times_32 rfl (lv_at hl 1 rfl) ?_
      refine mGET_34 C0 hW dX12_times_33 ?_
      refine lv_bipush (v := (7 : Int32)) hx hb dX12_times_36 (by decide) ?_
      refine lv_iload_n hx hb dX12_times_38 rfl (lv_at hl 2 rfl) ?_
      refine lv_imul hx hb dX12_times_39 ?_
      refine lv_iload hx hb dX12_times_40 (lv_at hl 5 rfl) ?_
      refine lv_iadd hx hb dX12_times_42 ?_
      refine lv_lload hx hb dX12_times_43 (lv_at hl 0 rfl) ?_
      refine lv_ldc2 hx hb hown (hta _ kw_1949) dX12_times_45 ?_
      refine lv_lrem hx hb dX12_times_48 (by decide) ?_
      refine lv_l2i hx hb dX12_times_49 rfl ?_
      obtain ⟨g4, ho⟩ := gd_some ho
      refine mST_34 C0 hW g4 dX12_times_50 (fun H locs hW => ?_)
      obtain ⟨t5, ho, hW⟩ := nm_w (P := fun t => wl D A s (wM cI cJ cZ am t) H locs) ho hW
      refine lv_lload hx hb dX12_times_51 (lv_at hl 0 rfl) ?_
      refine lv_ldc2 hx hb hown (hta _ kw_1949) dX12_times_53 ?_
      refine lv_ldiv hx hb dX12_times_56 (by decide) ?_
      refine lv_nml ho (fun x6 ho => ?_)
      refine lv_lstore_n (lv' := [(3, .long x6), (6, .long x3), (0, .ref (am 68)), (1, .int v1), (2, .int v2), (5, .int v5)]) hx hb dX12_times_57 rfl hl (by decide) rfl (fun ls hl => ?_)
      obtain ⟨x7, ex7, ho⟩ := nm_x ho
      refine lv_iinc (v := x7) (lv' := [(5, .int x7), (3, .long x6), (6, .long x3), (0, .ref (am 68)), (1, .int v1), (2, .int v2)]) hx hb dX12_times_58 hl (k := 5) rfl (by rw [ex7]; rfl) (by decide) rfl (fun ls hl => ?_)
      clear ex7
      refine lv_goto (tgt := 5) hx hb dX12_times_61 (by decide) ?_
      cases ho
      exact ih _ _ _ hrun _ _ _ hW (lv_sub hl [3, 4, 5, 1, 0] rfl)
set_option maxHeartbeats 4000000 in
set_option maxRecDepth 100000 in
theorem c_m_times (l : Launch) {D : va_G} {cI cJ cZ : ClassId} {am : Nat → Nat} (sz : Nat) (t : St) (a1 : Int32) (a2 : Int32) {t' : St} (ho : m_times t a1 a2 = some t') : Met l yX12_times (.code yX12_times cX12_times 8 none :: wsAll) (rmN 0 0) (va_Pc [.ref (am 68), .int a1, .int a2] (prW D (tyM cI cJ cZ) (wM cI cJ cZ am t) sz)) (qV D (tyM cI cJ cZ) (wM cI cJ cZ am t') (va_A (wM cI cJ cZ am t) sz)) 0 0 (va_A (wM cI cJ cZ am t) sz) := by
  refine Met.ofW (cc := cX12_times) (maxL := 8) (ret := none) (by decide) rfl ?_
  intro p e s m args below meth c s₁ B hml hv
  obtain ⟨rfl, hsz, hP, hK, hD0⟩ := hv
  have hx := B.exec
  have hb := B.bytes
  have hts := atoms_spec (ws := (.code yX12_times cX12_times 8 none :: wsAll)) B.pre
  have hta := fun w h => hts w (List.mem_cons_of_mem _ h)
  have hown : s.vm.findClass RX12 = some m.cls := findClass_of_methodNamed B.named
  have hlocks := B.notSynchronized
  subst hsz
  have hD := hD0.self (sz := s.heap.size)
  generalize hAe : va_A (wM cI cJ cZ am t) s.heap.size = A at hD ⊢
  have hA : ∀ q : Nat, s.heap.size ≤ q → A q := fun q h => by rw [← hAe]; exact Or.inr h
  have C0 : cx p s m ([.ref (am 68), .int a1, .int a2].toArray) meth c cX12_times RX12 8 none D (tyM cI cJ cZ) A := ⟨hx, hb, B.returns, hml, hown, hta, hlocks, hK, hA⟩
  have hW : wl D A s (wM cI cJ cZ am t) s.heap [] := ⟨hP, hD, va_S.rf⟩
  have hl := lv_entry [.ref (am 68), .int a1, .int a2] (n := 8) (Nat.le_of_ble_eq_true rfl)
  rw [lg_entry_eq]
  generalize (lg_sl [.ref (am 68), .int a1, .int a2] ++ List.replicate (8 - (lg_sl [.ref (am 68), .int a1, .int a2]).length) Slot.unset).toArray = ls at hl ⊢
  have hl : lv_has ls 8 [(0, .ref (am 68)), (1, .int a1), (2, .int a2)] := hl
  unfold m_times at ho
  refine lv_lconst (v := (0 : Int64)) hx hb dX12_times_0 (by decide) ?_
  refine lv_lstore_n (lv' := [(3, .long (0 : Int64)), (0, .ref (am 68)), (1, .int a1), (2, .int a2)]) hx hb dX12_times_1 rfl hl (by decide) rfl (fun ls hl => ?_)
  refine lv_iconst (v := (0 : Int32)) hx hb dX12_times_2 (by decide) ?_
  refine lv_istore (lv' := [(5, .int (0 : Int32)), (3, .long (0 : Int64)), (0, .ref (am 68)), (1, .int a1), (2, .int a2)]) hx hb dX12_times_3 hl (by decide) rfl (fun ls hl => ?_)
  obtain ⟨y8, hc10, ho⟩ := bd_some ho
  obtain ⟨ny8, hc10⟩ := lp_to hc10
  refine m_times_L5 C0 ?_ ny8 _ _ _ hc10 _ _ _ hW (lv_sub hl [2, 3, 4, 1, 0] rfl)
  intro H locs ls hW hl
  cases ho
  exact rtV C0 hW dX12_times_64
noncomputable def m_multiplies_B22 (v1 : Int32) (v2 : Int32) (v3 : Int32) (v4 : Int32) (v5 : Int64) (v7 : Int32) (t : St) : Option ((Int64 × Int32 × St) ⊕ (St)) :=
  if (7 : Int32) ≤ (v4 + v7) then (some (.inr t)) else (gd (((7 : Int32) * v2) + v4) 31600 (gd (((7 : Int32) * v3) + v7) 31600 (gd ((((7 : Int32) * v1) + v4) + v7) 31600 (nm (((((gA t 34 ((((7 : Int32) * v2) + v4)).toNatClampNeg)).toInt64 * ((gA t 34 ((((7 : Int32) * v3) + v7)).toNatClampNeg)).toInt64) + ((gA t 34 (((((7 : Int32) * v1) + v4) + v7)).toNatClampNeg)).toInt64) + v5) (fun x5 : Int64 => gd ((((7 : Int32) * v1) + v4) + v7) 31600 (nm (sA t 34 ((((7 : Int32) * v1) + v4) + v7) ((x5 - x5 / (1073741824 : Int64) * (1073741824 : Int64))).toInt32) (fun t7 : St => nm (x5 / (1073741824 : Int64)) (fun x8 : Int64 => nm (v7 + (1 : Int32)) (fun x9 : Int32 => some (.inl (x8, x9, t7)))))))))))
noncomputable def m_multiplies_B9 (v1 : Int32) (v2 : Int32) (v3 : Int32) (v4 : Int32) (t : St) : Option ((Int32 × St) ⊕ (St)) :=
  if (7 : Int32) ≤ v4 then (some (.inr t)) else ((lp (fun x => m_multiplies_B22 v1 v2 v3 v4 x.1 x.2.1 x.2.2) ((0 : Int64), (0 : Int32), t)).bind (fun y11 => nm (v4 + (1 : Int32)) (fun x14 : Int32 => some (.inl (x14, y11)))))
noncomputable def m_multiplies (t : St) (a1 : Int32) (a2 : Int32) (a3 : Int32) : Option (St) :=
  (m_puts t a1 (0 : Int32)).bind (fun q15 => (lp (fun x => m_multiplies_B9 a1 a2 a3 x.1 x.2) ((0 : Int32), q15)).bind (fun y17 => some y17))
set_option maxHeartbeats 4000000 in
set_option maxRecDepth 100000 in
theorem m_multiplies_L22 {p : Program} {l : Launch} {e : Env} {s : State} {m : MethodId} {args : Array Value} {below : List Frame} {meth : Method} {c : Code} {Q : State → Prop} {D : va_G} {cI cJ cZ : ClassId} {am : Nat → Nat} {A : Nat → Prop} (C0 : cx p s m args meth c cX12_multiplies RX12 10 none D (tyM cI cJ cZ) A) {v1 : Int32} {v2 : Int32} {v3 : Int32} {v4 : Int32} {y : St} (hK0 : ∀ (H : Heap) (locs : List Loc) (ls : Array Slot), wl D A s (wM cI cJ cZ am y) H locs → lv_has ls 10 [(0, .ref (am 68)), (1, .int v1), (2, .int v2), (3, .int v3), (4, .int v4)] → W p l e (rmN 1 23) s m args below meth c H locs 0 0 Q (F0 m 117 ls [])) :
    ∀ (n : Nat) (v5 : Int64) (v7 : Int32) (t : St), lpn (fun x => m_multiplies_B22 v1 v2 v3 v4 x.1 x.2.1 x.2.2) n (v5, v7, t) = some y → ∀ (H : Heap) (locs : List Loc) (ls : Array Slot), wl D A s (wM cI cJ cZ am t) H locs → lv_has ls 10 [(0, .ref (am 68)), (1, .int v1), (2, .int v2), (3, .int v3), (4, .int v4), (5, .long v5), (7, .int v7)] → W p l e (rmN 1 23) s m args below meth c H locs 0 0 Q (F0 m 22 ls []) := by
  have hx := C0.1
  have hb := C0.2.1
  have hta := C0.2.2.2.2.2.1
  have hown := C0.2.2.2.2.1
  intro n
  induction n with
  | zero => intro _ _ _ h; cases h
  | succ n ih =>
    intro v5 v7 t hrun H locs ls hW hl
    obtain ⟨o, ho, hrun⟩ := bd_some hrun
    unfold m_multiplies_B22 at ho
    refine lv_iload hx hb dX12_multiplies_22 (lv_at hl 4 rfl) ?_
    refine lv_iload hx hb dX12_multiplies_24 (lv_at hl 6 rfl) ?_
    refine lv_iadd hx hb dX12_multiplies_26 ?_
    refine lv_bipush (v := (7 : Int32)) hx hb dX12_multiplies_27 (by decide) ?_
    refine lv_icmp_ge (tgt := 117) hx hb dX12_multiplies_29 (by decide) (fun c1 => ?_) (fun c1 => ?_)
    · replace ho := ite_t c1 ho
      cases ho
      cases hrun
      exact hK0 _ _ _ hW (lv_sub hl [0, 1, 2, 3, 4] rfl)
    · replace ho := ite_f c1 ho
      refine lv_aload_n hx hb dX12_multiplies_32 rfl (lv_at hl 0 rfl) ?_
      refine mGET_34 C0 hW dX12_multiplies_33 ?_
      refine lv_bipush (v := (7 : Int32)) hx hb dX12_multiplies_36 (by decide) ?_
      refine lv_iload_n hx hb dX12_multiplies_38 rfl (lv_at hl 2 rfl) ?_
      refine lv_imul hx hb dX12_multiplies_39 ?_
      refine lv_iload hx hb dX12_multiplies_40 (lv_at hl 4 rfl) ?_
      refine lv_iadd hx hb dX12_multiplies_42 ?_
      obtain ⟨g2, ho⟩ := gd_some ho
      refine mLD_34 C0 hW g2 dX12_multiplies_43 ?_
      refine lv_i2l hx hb dX12_multiplies_44 rfl ?_
      refine lv_aload_n hx hb dX12_multiplies_45 rfl (lv_at hl 0 rfl) ?_
      refine mGET_34 C0 hW dX12_multiplies_46 ?_
      refine lv_bipush (v := (7 : Int32)) hx hb dX12_multiplies_49 (by decide) ?_
      refine lv_iload_n hx hb dX12_multiplies_51 rfl (lv_at hl 3 rfl) ?_
      refine lv_imul hx hb dX12_multiplies_52 ?_
      refine lv_iload hx hb dX12_multiplies_53 (lv_at hl 6 rfl) ?_
      refine lv_iadd hx hb dX12_multiplies_55 ?_
      obtain ⟨g3, ho⟩ := gd_some ho
      refine mLD_34 C0 hW g3 dX12_multiplies_56 ?_
      refine lv_i2l hx hb dX12_multiplies_57 rfl ?_
      refine lv_lmul hx hb dX12_multiplies_58 ?_
      refine lv_aload_n hx hb dX12_multiplies_59 rfl (lv_at hl 0 rfl) ?_
      refine mGET_34 C0 hW dX12_multiplies_60 ?_
      refine lv_bipush (v := (7 : Int32)) hx hb dX12_multiplies_63 (by decide) ?_
      refine lv_iload_n hx hb dX12_multiplies_65 rfl (lv_at hl 1 rfl) ?_
      refine lv_imul hx hb dX12_multiplies_66 ?_
      refine lv_iload hx hb dX12_multiplies_67 (lv_at hl 4 rfl) ?_
      refine lv_iadd hx hb dX12_multiplies_69 ?_
      refine lv_iload hx hb dX12_multiplies_70 (lv_at hl 6 rfl) ?_
      refine lv_iadd hx hb dX12_multiplies_72 ?_
      obtain ⟨g4, ho⟩ := gd_some ho
      refine mLD_34 C0 hW g4 dX12_multiplies_73 ?_
      refine lv_i2l hx hb dX12_multiplies_74 rfl ?_
      refine lv_ladd hx hb dX12_multiplies_75 ?_
      refine lv_lload hx hb dX12_multiplies_76 (lv_at hl 5 rfl) ?_
      refine lv_ladd hx hb dX12_multiplies_78 ?_
      refine lv_nml ho (fun x5 ho => ?_)
      refine lv_lstore (lv' := [(8, .long x5), (0, .ref (am 68)), (1, .int v1), (2, .int v2), (3, .int v3), (4, .int v4), (5, .long v5), (7, .int v7)]) hx hb dX12_multiplies_79 hl (by decide) rfl (fun ls hl => ?_)
      refine lv_aload_n hx hb dX12_multiplies_81 rfl (lv_at hl 1 rfl) ?_
      refine mGET_34 C0 hW dX12_multiplies_82 ?_
      refine lv_bipush (v := (7 : Int32)) hx hb dX12_multiplies_85 (by decide) ?_
      refine lv_iload_n hx hb dX12_multiplies_87 rfl (lv_at hl 2 rfl) ?_
      refine lv_imul hx hb dX12_multiplies_88 ?_
      refine lv_iload hx hb dX12_multiplies_89 (lv_at hl 5 rfl) ?_
      refine lv_iadd hx hb dX12_multiplies_91 ?_
      refine lv_iload hx hb dX12_multiplies_92 (lv_at hl 7 rfl) ?_
      refine lv_iadd hx hb dX12_multiplies_94 ?_
      refine lv_lload hx hb dX12_multiplies_95 (lv_at hl 0 rfl) ?_
      refine lv_ldc2 hx hb hown (hta _ kw_1949) dX12_multiplies_97 ?_
      refine lv_lrem hx hb dX12_multiplies_100 (by decide) ?_
      refine lv_l2i hx hb dX12_multiplies_101 rfl ?_
      obtain ⟨g6, ho⟩ := gd_some ho
      refine mST_34 C0 hW g6 dX12_multiplies_102 (fun H locs hW => ?_)
      obtain ⟨t7, ho, hW⟩ := nm_w (P := fun t => wl D A s (wM cI cJ cZ am t) H locs) ho hW
      refine lv_lload hx hb dX12_multiplies_103 (lv_at hl 0 rfl) ?_
      refine lv_ldc2 hx hb hown (hta _ kw_1949) dX12_multiplies_105 ?_
      refine lv_ldiv hx hb dX12_multiplies_108 (by decide) ?_
      refine lv_nml ho (fun x8 ho => ?_)
      refine lv_lstore (lv' := [(5, .long x8), (8, .long x5), (0, .ref (am 68)), (1, .int v1), (2, .int v2), (3, .int v3), (4, .int v4), (7, .int v7)]) hx hb dX12_multiplies_109 hl (by decide) rfl (fun ls hl => ?_)
      obtain ⟨x9, ex9, ho⟩ := nm_x ho
      refine lv_iinc (v := x9) (lv' := [(7, .int x9), (5, .long x8), (8, .long x5), (0, .ref (am 68)), (1, .int v1), (2, .int v2), (3, .int v3), (4, .int v4)]) hx hb dX12_multiplies_111 hl (k := 7) rfl (by rw [ex9]; rfl) (by decide) rfl (fun ls hl => ?_)
      clear ex9
      refine lv_goto (tgt := 22) hx hb dX12_multiplies_114 (by decide) ?_
      cases ho
      exact ih _ _ _ hrun _ _ _ hW (lv_sub hl [3, 4, 5, 6, 7, 1, 0] rfl)
set_option maxHeartbeats 4000000 in
set_option maxRecDepth 100000 in
theorem m_multiplies_L9 {p : Program} {l : Launch} {e : Env} {s : State} {m : MethodId} {args : Array Value} {below : List Frame} {meth : Method} {c : Code} {Q : State → Prop} {D : va_G} {cI cJ cZ : ClassId} {am : Nat → Nat} {A : Nat → Prop} (C0 : cx p s m args meth c cX12_multiplies RX12 10 none D (tyM cI cJ cZ) A) {v1 : Int32} {v2 : Int32} {v3 : Int32} {y : St} (hK0 : ∀ (H : Heap) (locs : List Loc) (ls : Array Slot), wl D A s (wM cI cJ cZ am y) H locs → lv_has ls 10 [(0, .ref (am 68))] → W p l e (rmN 1 23) s m args below meth c H locs 0 0 Q (F0 m 123 ls [])) :
    ∀ (n : Nat) (v4 : Int32) (t : St), lpn (fun x => m_multiplies_B9 v1 v2 v3 x.1 x.2) n (v4, t) = some y → ∀ (H : Heap) (locs : List Loc) (ls : Array Slot), wl D A s (wM cI cJ cZ am t) H locs → lv_has ls 10 [(0, .ref (am 68)), (1, .int v1), (2, .int v2), (3, .int v3), (4, .int v4)] → W p l e (rmN 1 23) s m args below meth c H locs 0 0 Q (F0 m 9 ls []) := by
  have hx := C0.1
  have hb := C0.2.1
  have hta := C0.2.2.2.2.2.1
  have hown := C0.2.2.2.2.1
  intro n
  induction n with
  | zero => intro _ _ h; cases h
  | succ n ih =>
    intro v4 t hrun H locs ls hW hl
    obtain ⟨o, ho, hrun⟩ := bd_some hrun
    unfold m_multiplies_B9 at ho
    refine lv_iload hx hb dX12_multiplies_9 (lv_at hl 4 rfl) ?_
    refine lv_bipush (v := (7 : Int32)) hx hb dX12_multiplies_11 (by decide) ?_
    refine lv_icmp_ge (tgt := 123) hx hb dX12_multiplies_13 (by decide) (fun c10 => ?_) (fun c10 => ?_)
    · replace ho := ite_t c10 ho
      cases ho
      cases hrun
      exact hK0 _ _ _ hW (lv_sub hl [0] rfl)
    · replace ho := ite_f c10 ho
      refine lv_lconst (v := (0 : Int64)) hx hb dX12_multiplies_16 (by decide) ?_
      refine lv_lstore (lv' := [(5, .long (0 : Int64)), (0, .ref (am 68)), (1, .int v1), (2, .int v2), (3, .int v3), (4, .int v4)]) hx hb dX12_multiplies_17 hl (by decide) rfl (fun ls hl => ?_)
      refine lv_iconst (v := (0 : Int32)) hx hb dX12_multiplies_19 (by decide) ?_
      refine lv_istore (lv' := [(7, .int (0 : Int32)), (5, .long (0 : Int64)), (0, .ref (am 68)), (1, .int v1), (2, .int v2), (3, .int v3), (4, .int v4)]) hx hb dX12_multiplies_20 hl (by decide) rfl (fun ls hl => ?_)
      obtain ⟨y11, hc13, ho⟩ := bd_some ho
      obtain ⟨ny11, hc13⟩ := lp_to hc13
      refine m_multiplies_L22 C0 ?_ ny11 _ _ _ hc13 _ _ _ hW (lv_sub hl [2, 3, 4, 5, 6, 1, 0] rfl)
      intro H locs ls hW hl
      obtain ⟨x14, ex14, ho⟩ := nm_x ho
      refine lv_iinc (v := x14) (lv' := [(4, .int x14), (0, .ref (am 68)), (1, .int v1), (2, .int v2), (3, .int v3)]) hx hb dX12_multiplies_117 hl (k := 4) rfl (by rw [ex14]; rfl) (by decide) rfl (fun ls hl => ?_)
      clear ex14
      refine lv_goto (tgt := 9) hx hb dX12_multiplies_120 (by decide) ?_
      cases ho
      exact ih _ _ hrun _ _ _ hW (lv_sub hl [1, 2, 3, 4, 0] rfl)
set_option maxHeartbeats 4000000 in
set_option maxRecDepth 100000 in
theorem c_m_multiplies (l : Launch) {D : va_G} {cI cJ cZ : ClassId} {am : Nat → Nat} (sz : Nat) (t : St) (a1 : Int32) (a2 : Int32) (a3 : Int32) {t' : St} (ho : m_multiplies t a1 a2 a3 = some t') : Met l yX12_multiplies (.code yX12_multiplies cX12_multiplies 10 none :: wsAll) (rmN 1 23) (va_Pc [.ref (am 68), .int a1, .int a2, .int a3] (prW D (tyM cI cJ cZ) (wM cI cJ cZ am t) sz)) (qV D (tyM cI cJ cZ) (wM cI cJ cZ am t') (va_A (wM cI cJ cZ am t) sz)) 0 0 (va_A (wM cI cJ cZ am t) sz) := by
  refine Met.ofW (cc := cX12_multiplies) (maxL := 10) (ret := none) (by decide) rfl ?_
  intro p e s m args below meth c s₁ B hml hv
  obtain ⟨rfl, hsz, hP, hK, hD0⟩ := hv
  have hx := B.exec
  have hb := B.bytes
  have hts := atoms_spec (ws := (.code yX12_multiplies cX12_multiplies 10 none :: wsAll)) B.pre
  have hta := fun w h => hts w (List.mem_cons_of_mem _ h)
  have hown : s.vm.findClass RX12 = some m.cls := findClass_of_methodNamed B.named
  have hlocks := B.notSynchronized
  subst hsz
  have hD := hD0.self (sz := s.heap.size)
  generalize hAe : va_A (wM cI cJ cZ am t) s.heap.size = A at hD ⊢
  have hA : ∀ q : Nat, s.heap.size ≤ q → A q := fun q h => by rw [← hAe]; exact Or.inr h
  have C0 : cx p s m ([.ref (am 68), .int a1, .int a2, .int a3].toArray) meth c cX12_multiplies RX12 10 none D (tyM cI cJ cZ) A := ⟨hx, hb, B.returns, hml, hown, hta, hlocks, hK, hA⟩
  have hW : wl D A s (wM cI cJ cZ am t) s.heap [] := ⟨hP, hD, va_S.rf⟩
  have hl := lv_entry [.ref (am 68), .int a1, .int a2, .int a3] (n := 10) (Nat.le_of_ble_eq_true rfl)
  rw [lg_entry_eq]
  generalize (lg_sl [.ref (am 68), .int a1, .int a2, .int a3] ++ List.replicate (10 - (lg_sl [.ref (am 68), .int a1, .int a2, .int a3]).length) Slot.unset).toArray = ls at hl ⊢
  have hl : lv_has ls 10 [(0, .ref (am 68)), (1, .int a1), (2, .int a2), (3, .int a3)] := hl
  unfold m_multiplies at ho
  refine lv_aload_n hx hb dX12_multiplies_0 rfl (lv_at hl 0 rfl) ?_
  refine lv_iload_n hx hb dX12_multiplies_1 rfl (lv_at hl 1 rfl) ?_
  refine lv_iconst (v := (0 : Int32)) hx hb dX12_multiplies_2 (by decide) ?_
  obtain ⟨q15, hc16, ho⟩ := bd_some ho
  refine bkV C0 hW (runV (As := [.int a1, .int (0 : Int32)]) (rest := []) C0 hW (c_m_puts l _ t a1 (0 : Int32) (t' := q15) hc16) ca_X12_puts_175 0 12 rfl rfl rfl rfl rfl ⟨rfl, rfl⟩ ⟨Nat.le_of_ble_eq_true rfl, Nat.le_of_ble_eq_true rfl⟩ (Nat.le_of_ble_eq_true rfl) hl.1 dX12_multiplies_3 ⟨Nat.le_of_ble_eq_true rfl, Nat.le_of_ble_eq_true rfl⟩) (fun H locs hW => ?_)
  refine lv_iconst (v := (0 : Int32)) hx hb dX12_multiplies_6 (by decide) ?_
  refine lv_istore (lv' := [(4, .int (0 : Int32)), (0, .ref (am 68)), (1, .int a1), (2, .int a2), (3, .int a3)]) hx hb dX12_multiplies_7 hl (by decide) rfl (fun ls hl => ?_)
  obtain ⟨y17, hc19, ho⟩ := bd_some ho
  obtain ⟨ny17, hc19⟩ := lp_to hc19
  refine m_multiplies_L9 C0 ?_ ny17 _ _ hc19 _ _ _ hW (lv_sub hl [1, 2, 3, 4, 0] rfl)
  intro H locs ls hW hl
  cases ho
  exact rtV C0 hW dX12_multiplies_123
noncomputable def m_against_B3 (t : St) (v1 : Int32) (v2 : Int32) (v3 : Int32) : Option ((Int32) ⊕ ((Int32 × Int32) ⊕ (Unit))) :=
  if v3 < 0 then (some (.inr (.inr ()))) else (gd (((7 : Int32) * v1) + v3) 31600 (nm (gA t 34 ((((7 : Int32) * v1) + v3)).toNatClampNeg) (fun x3 : Int32 => gd (((7 : Int32) * v2) + v3) 31600 (nm (gA t 34 ((((7 : Int32) * v2) + v3)).toNatClampNeg) (fun x5 : Int32 => if x3 = x5 then (nm (v3 + (-1 : Int32)) (fun x7 : Int32 => some (.inl x7))) else (some (.inr (.inl (x3, x5)))))))))
noncomputable def m_against (t : St) (a1 : Int32) (a2 : Int32) : Option (Int32) :=
  (lp (fun x => m_against_B3 t a1 a2 x) (6 : Int32)).bind (fun y8 => (Sum.elim (fun u11 => if u11.2 ≤ u11.1 then (some (1 : Int32)) else (some (-1 : Int32))) (fun u11 => some (0 : Int32))) y8)
set_option maxHeartbeats 4000000 in
set_option maxRecDepth 100000 in
theorem m_against_L3 {p : Program} {l : Launch} {e : Env} {s : State} {m : MethodId} {args : Array Value} {below : List Frame} {meth : Method} {c : Code} {Q : State → Prop} {D : va_G} {cI cJ cZ : ClassId} {am : Nat → Nat} {A : Nat → Prop} (C0 : cx p s m args meth c cX12_against RX12 6 (some .int) D (tyM cI cJ cZ) A) {t : St} {v1 : Int32} {v2 : Int32} {y : (Int32 × Int32) ⊕ (Unit)} (hK0 : ∀ u, y = (.inl u) → ∀ (H : Heap) (locs : List Loc) (ls : Array Slot), wl D A s (wM cI cJ cZ am t) H locs → lv_has ls 6 [(0, .ref (am 68)), (4, .int u.1), (5, .int u.2)] → W p l e (rmN 0 0) s m args below meth c H locs 0 0 Q (F0 m 40 ls [])) (hK1 : ∀ u, y = (.inr u) → ∀ (H : Heap) (locs : List Loc) (ls : Array Slot), wl D A s (wM cI cJ cZ am t) H locs → lv_has ls 6 [(0, .ref (am 68))] → W p l e (rmN 0 0) s m args below meth c H locs 0 0 Q (F0 m 59 ls [])) :
    ∀ (n : Nat) (v3 : Int32), lpn (fun x => m_against_B3 t v1 v2 x) n v3 = some y → ∀ (H : Heap) (locs : List Loc) (ls : Array Slot), wl D A s (wM cI cJ cZ am t) H locs → lv_has ls 6 [(0, .ref (am 68)), (1, .int v1), (2, .int v2), (3, .int v3)] → W p l e (rmN 0 0) s m args below meth c H locs 0 0 Q (F0 m 3 ls []) := by
  have hx := C0.1
  have hb := C0.2.1
  have hta := C0.2.2.2.2.2.1
  have hown := C0.2.2.2.2.1
  intro n
  induction n with
  | zero => intro _ h; cases h
  | succ n ih =>
    intro v3 hrun H locs ls hW hl
    obtain ⟨o, ho, hrun⟩ := bd_some hrun
    unfold m_against_B3 at ho
    refine lv_iload_n hx hb dX12_against_3 rfl (lv_at hl 3 rfl) ?_
    refine lv_if_lt (tgt := 59) hx hb dX12_against_4 (by decide) (fun c1 => ?_) (fun c1 => ?_)
    · replace ho := ite_t c1 ho
      cases ho
      cases hrun
      exact hK1 _ rfl _ _ _ hW (lv_sub hl [0] rfl)
    · replace ho := ite_f c1 ho
      refine lv_aload_n hx hb dX12_against_7 rfl (lv_at hl 0 rfl) ?_
      refine mGET_34 C0 hW dX12_against_8 ?_
      refine lv_bipush (v := (7 : Int32)) hx hb dX12_against_11 (by decide) ?_
      refine lv_iload_n hx hb dX12_against_13 rfl (lv_at hl 1 rfl) ?_
      refine lv_imul hx hb dX12_against_14 ?_
      refine lv_iload_n hx hb dX12_against_15 rfl (lv_at hl 3 rfl) ?_
      refine lv_iadd hx hb dX12_against_16 ?_
      obtain ⟨g2, ho⟩ := gd_some ho
      refine mLD_34 C0 hW g2 dX12_against_17 ?_
      refine lv_nmi ho (fun x3 ho => ?_)
      refine lv_istore (lv' := [(4, .int x3), (0, .ref (am 68)), (1, .int v1), (2, .int v2), (3, .int v3)]) hx hb dX12_against_18 hl (by decide) rfl (fun ls hl => ?_)
      refine lv_aload_n hx hb dX12_against_20 rfl (lv_at hl 1 rfl) ?_
      refine mGET_34 C0 hW dX12_against_21 ?_
      refine lv_bipush (v := (7 : Int32)) hx hb dX12_against_24 (by decide) ?_
      refine lv_iload_n hx hb dX12_against_26 rfl (lv_at hl 3 rfl) ?_
      refine lv_imul hx hb dX12_against_27 ?_
      refine lv_iload_n hx hb dX12_against_28 rfl (lv_at hl 4 rfl) ?_
      refine lv_iadd hx hb dX12_against_29 ?_
      obtain ⟨g4, ho⟩ := gd_some ho
      refine mLD_34 C0 hW g4 dX12_against_30 ?_
      refine lv_nmi ho (fun x5 ho => ?_)
      refine lv_istore (lv' := [(5, .int x5), (4, .int x3), (0, .ref (am 68)), (1, .int v1), (2, .int v2), (3, .int v3)]) hx hb dX12_against_31 hl (by decide) rfl (fun ls hl => ?_)
      refine lv_iload hx hb dX12_against_33 (lv_at hl 1 rfl) ?_
      refine lv_iload hx hb dX12_against_35 (lv_at hl 0 rfl) ?_
      refine lv_icmp_eq (tgt := 53) hx hb dX12_against_37 (by decide) (fun c6 => ?_) (fun c6 => ?_)
      · replace ho := ite_t c6 ho
        obtain ⟨x7, ex7, ho⟩ := nm_x ho
        refine lv_iinc (v := x7) (lv' := [(3, .int x7), (5, .int x5), (4, .int x3), (0, .ref (am 68)), (1, .int v1), (2, .int v2)]) hx hb dX12_against_53 hl (k := 5) rfl (by rw [ex7]; rfl) (by decide) rfl (fun ls hl => ?_)
        clear ex7
        refine lv_goto (tgt := 3) hx hb dX12_against_56 (by decide) ?_
        cases ho
        exact ih _ hrun _ _ _ hW (lv_sub hl [3, 4, 5, 0] rfl)
      · replace ho := ite_f c6 ho
        cases ho
        cases hrun
        exact hK0 _ rfl _ _ _ hW (lv_sub hl [2, 1, 0] rfl)
set_option maxHeartbeats 4000000 in
set_option maxRecDepth 100000 in
theorem c_m_against (l : Launch) {D : va_G} {cI cJ cZ : ClassId} {am : Nat → Nat} (sz : Nat) (t : St) (a1 : Int32) (a2 : Int32) {r : Int32} (ho : m_against t a1 a2 = some r) : Met l yX12_against (.code yX12_against cX12_against 6 (some .int) :: wsAll) (rmN 0 0) (va_Pc [.ref (am 68), .int a1, .int a2] (prW D (tyM cI cJ cZ) (wM cI cJ cZ am t) sz)) (qI r D (tyM cI cJ cZ) (wM cI cJ cZ am t) (va_A (wM cI cJ cZ am t) sz)) 0 0 (va_A (wM cI cJ cZ am t) sz) := by
  refine Met.ofW (cc := cX12_against) (maxL := 6) (ret := (some .int)) (by decide) rfl ?_
  intro p e s m args below meth c s₁ B hml hv
  obtain ⟨rfl, hsz, hP, hK, hD0⟩ := hv
  have hx := B.exec
  have hb := B.bytes
  have hts := atoms_spec (ws := (.code yX12_against cX12_against 6 (some .int) :: wsAll)) B.pre
  have hta := fun w h => hts w (List.mem_cons_of_mem _ h)
  have hown : s.vm.findClass RX12 = some m.cls := findClass_of_methodNamed B.named
  have hlocks := B.notSynchronized
  subst hsz
  have hD := hD0.self (sz := s.heap.size)
  generalize hAe : va_A (wM cI cJ cZ am t) s.heap.size = A at hD ⊢
  have hA : ∀ q : Nat, s.heap.size ≤ q → A q := fun q h => by rw [← hAe]; exact Or.inr h
  have C0 : cx p s m ([.ref (am 68), .int a1, .int a2].toArray) meth c cX12_against RX12 6 (some .int) D (tyM cI cJ cZ) A := ⟨hx, hb, B.returns, hml, hown, hta, hlocks, hK, hA⟩
  have hW : wl D A s (wM cI cJ cZ am t) s.heap [] := ⟨hP, hD, va_S.rf⟩
  have hl := lv_entry [.ref (am 68), .int a1, .int a2] (n := 6) (Nat.le_of_ble_eq_true rfl)
  rw [lg_entry_eq]
  generalize (lg_sl [.ref (am 68), .int a1, .int a2] ++ List.replicate (6 - (lg_sl [.ref (am 68), .int a1, .int a2]).length) Slot.unset).toArray = ls at hl ⊢
  have hl : lv_has ls 6 [(0, .ref (am 68)), (1, .int a1), (2, .int a2)] := hl
  unfold m_against at ho
  refine lv_bipush (v := (6 : Int32)) hx hb dX12_against_0 (by decide) ?_
  refine lv_istore_n (lv' := [(3, .int (6 : Int32)), (0, .ref (am 68)), (1, .int a1), (2, .int a2)]) hx hb dX12_against_2 rfl hl (by decide) rfl (fun ls hl => ?_)
  obtain ⟨y8, hc10, ho⟩ := bd_some ho
  obtain ⟨ny8, hc10⟩ := lp_to hc10
  refine m_against_L3 C0 ?_ ?_ ny8 _ hc10 _ _ _ hW (lv_sub hl [1, 2, 3, 0] rfl)
  · intro u11 hy H locs ls hW hl
    subst hy
    replace ho := sum_l ho
    refine lv_iload hx hb dX12_against_40 (lv_at hl 1 rfl) ?_
    refine lv_iload hx hb dX12_against_42 (lv_at hl 2 rfl) ?_
    refine lv_icmp_ge (tgt := 51) hx hb dX12_against_44 (by decide) (fun c12 => ?_) (fun c12 => ?_)
    · replace ho := ite_t c12 ho
      refine lv_iconst (v := (1 : Int32)) hx hb dX12_against_51 (by decide) ?_
      cases ho
      exact rtI C0 hW dX12_against_52
    · replace ho := ite_f c12 ho
      refine lv_iconst (v := (-1 : Int32)) hx hb dX12_against_47 (by decide) ?_
      refine lv_goto (tgt := 52) hx hb dX12_against_48 (by decide) ?_
      cases ho
      exact rtI C0 hW dX12_against_52
  · intro u11 hy H locs ls hW hl
    subst hy
    replace ho := sum_r ho
    refine lv_iconst (v := (0 : Int32)) hx hb dX12_against_59 (by decide) ?_
    cases ho
    exact rtI C0 hW dX12_against_60
noncomputable def m_isNothing_B2 (t : St) (v1 : Int32) (v2 : Int32) : Option ((Int32) ⊕ ((Unit) ⊕ (Unit))) :=
  if (7 : Int32) ≤ v2 then (some (.inr (.inr ()))) else (gd (((7 : Int32) * v1) + v2) 31600 (if (gA t 34 ((((7 : Int32) * v1) + v2)).toNatClampNeg) = 0 then (nm (v2 + (1 : Int32)) (fun x4 : Int32 => some (.inl x4))) else (some (.inr (.inl ())))))
noncomputable def m_isNothing (t : St) (a1 : Int32) : Option (Int32) :=
  (lp (fun x => m_isNothing_B2 t a1 x) (0 : Int32)).bind (fun y5 => (Sum.elim (fun u8 => some (0 : Int32)) (fun u8 => some (1 : Int32))) y5)
set_option maxHeartbeats 4000000 in
set_option maxRecDepth 100000 in
theorem m_isNothing_L2 {p : Program} {l : Launch} {e : Env} {s : State} {m : MethodId} {args : Array Value} {below : List Frame} {meth : Method} {c : Code} {Q : State → Prop} {D : va_G} {cI cJ cZ : ClassId} {am : Nat → Nat} {A : Nat → Prop} (C0 : cx p s m args meth c cX12_isNothing RX12 3 (some .boolean) D (tyM cI cJ cZ) A) {t : St} {v1 : Int32} {y : (Unit) ⊕ (Unit)} (hK0 : ∀ u, y = (.inl u) → ∀ (H : Heap) (locs : List Loc) (ls : Array Slot), wl D A s (wM cI cJ cZ am t) H locs → lv_has ls 3 [(0, .ref (am 68))] → W p l e (rmN 0 0) s m args below meth c H locs 0 0 Q (F0 m 22 ls [])) (hK1 : ∀ u, y = (.inr u) → ∀ (H : Heap) (locs : List Loc) (ls : Array Slot), wl D A s (wM cI cJ cZ am t) H locs → lv_has ls 3 [(0, .ref (am 68))] → W p l e (rmN 0 0) s m args below meth c H locs 0 0 Q (F0 m 30 ls [])) :
    ∀ (n : Nat) (v2 : Int32), lpn (fun x => m_isNothing_B2 t v1 x) n v2 = some y → ∀ (H : Heap) (locs : List Loc) (ls : Array Slot), wl D A s (wM cI cJ cZ am t) H locs → lv_has ls 3 [(0, .ref (am 68)), (1, .int v1), (2, .int v2)] → W p l e (rmN 0 0) s m args below meth c H locs 0 0 Q (F0 m 2 ls []) := by
  have hx := C0.1
  have hb := C0.2.1
  have hta := C0.2.2.2.2.2.1
  have hown := C0.2.2.2.2.1
  intro n
  induction n with
  | zero => intro _ h; cases h
  | succ n ih =>
    intro v2 hrun H locs ls hW hl
    obtain ⟨o, ho, hrun⟩ := bd_some hrun
    unfold m_isNothing_B2 at ho
    refine lv_iload_n hx hb dX12_isNothing_2 rfl (lv_at hl 2 rfl) ?_
    refine lv_bipush (v := (7 : Int32)) hx hb dX12_isNothing_3 (by decide) ?_
    refine lv_icmp_ge (tgt := 30) hx hb dX12_isNothing_5 (by decide) (fun c1 => ?_) (fun c1 => ?_)
    · replace ho := ite_t c1 ho
      cases ho
      cases hrun
      exact hK1 _ rfl _ _ _ hW (lv_sub hl [0] rfl)
    · replace ho := ite_f c1 ho
      refine lv_aload_n hx hb dX12_isNothing_8 rfl (lv_at hl 0 rfl) ?_
      refine mGET_34 C0 hW dX12_isNothing_9 ?_
      refine lv_bipush (v := (7 : Int32)) hx hb dX12_isNothing_12 (by decide) ?_
      refine lv_iload_n hx hb dX12_isNothing_14 rfl (lv_at hl 1 rfl) ?_
      refine lv_imul hx hb dX12_isNothing_15 ?_
      refine lv_iload_n hx hb dX12_isNothing_16 rfl (lv_at hl 2 rfl) ?_
      refine lv_iadd hx hb dX12_isNothing_17 ?_
      obtain ⟨g2, ho⟩ := gd_some ho
      refine mLD_34 C0 hW g2 dX12_isNothing_18 ?_
      refine lv_if_eq (tgt := 24) hx hb dX12_isNothing_19 (by decide) (fun c3 => ?_) (fun c3 => ?_)
      · replace ho := ite_t c3 ho
        obtain ⟨x4, ex4, ho⟩ := nm_x ho
        refine lv_iinc (v := x4) (lv' := [(2, .int x4), (0, .ref (am 68)), (1, .int v1)]) hx hb dX12_isNothing_24 hl (k := 2) rfl (by rw [ex4]; rfl) (by decide) rfl (fun ls hl => ?_)
        clear ex4
        refine lv_goto (tgt := 2) hx hb dX12_isNothing_27 (by decide) ?_
        cases ho
        exact ih _ hrun _ _ _ hW (lv_sub hl [1, 2, 0] rfl)
      · replace ho := ite_f c3 ho
        cases ho
        cases hrun
        exact hK0 _ rfl _ _ _ hW (lv_sub hl [0] rfl)
set_option maxHeartbeats 4000000 in
set_option maxRecDepth 100000 in
theorem c_m_isNothing (l : Launch) {D : va_G} {cI cJ cZ : ClassId} {am : Nat → Nat} (sz : Nat) (t : St) (a1 : Int32) {r : Int32} (ho : m_isNothing t a1 = some r) : Met l yX12_isNothing (.code yX12_isNothing cX12_isNothing 3 (some .boolean) :: wsAll) (rmN 0 0) (va_Pc [.ref (am 68), .int a1] (prW D (tyM cI cJ cZ) (wM cI cJ cZ am t) sz)) (qZ r D (tyM cI cJ cZ) (wM cI cJ cZ am t) (va_A (wM cI cJ cZ am t) sz)) 0 0 (va_A (wM cI cJ cZ am t) sz) := by
  refine Met.ofW (cc := cX12_isNothing) (maxL := 3) (ret := (some .boolean)) (by decide) rfl ?_
  intro p e s m args below meth c s₁ B hml hv
  obtain ⟨rfl, hsz, hP, hK, hD0⟩ := hv
  have hx := B.exec
  have hb := B.bytes
  have hts := atoms_spec (ws := (.code yX12_isNothing cX12_isNothing 3 (some .boolean) :: wsAll)) B.pre
  have hta := fun w h => hts w (List.mem_cons_of_mem _ h)
  have hown : s.vm.findClass RX12 = some m.cls := findClass_of_methodNamed B.named
  have hlocks := B.notSynchronized
  subst hsz
  have hD := hD0.self (sz := s.heap.size)
  generalize hAe : va_A (wM cI cJ cZ am t) s.heap.size = A at hD ⊢
  have hA : ∀ q : Nat, s.heap.size ≤ q → A q := fun q h => by rw [← hAe]; exact Or.inr h
  have C0 : cx p s m ([.ref (am 68), .int a1].toArray) meth c cX12_isNothing RX12 3 (some .boolean) D (tyM cI cJ cZ) A := ⟨hx, hb, B.returns, hml, hown, hta, hlocks, hK, hA⟩
  have hW : wl D A s (wM cI cJ cZ am t) s.heap [] := ⟨hP, hD, va_S.rf⟩
  have hl := lv_entry [.ref (am 68), .int a1] (n := 3) (Nat.le_of_ble_eq_true rfl)
  rw [lg_entry_eq]
  generalize (lg_sl [.ref (am 68), .int a1] ++ List.replicate (3 - (lg_sl [.ref (am 68), .int a1]).length) Slot.unset).toArray = ls at hl ⊢
  have hl : lv_has ls 3 [(0, .ref (am 68)), (1, .int a1)] := hl
  unfold m_isNothing at ho
  refine lv_iconst (v := (0 : Int32)) hx hb dX12_isNothing_0 (by decide) ?_
  refine lv_istore_n (lv' := [(2, .int (0 : Int32)), (0, .ref (am 68)), (1, .int a1)]) hx hb dX12_isNothing_1 rfl hl (by decide) rfl (fun ls hl => ?_)
  obtain ⟨y5, hc7, ho⟩ := bd_some ho
  obtain ⟨ny5, hc7⟩ := lp_to hc7
  refine m_isNothing_L2 C0 ?_ ?_ ny5 _ hc7 _ _ _ hW (lv_sub hl [1, 2, 0] rfl)
  · intro u8 hy H locs ls hW hl
    subst hy
    replace ho := sum_l ho
    refine lv_iconst (v := (0 : Int32)) hx hb dX12_isNothing_22 (by decide) ?_
    cases ho
    exact rtZ C0 hW (Or.inl (rfl : (0 : Int32) = 0)) dX12_isNothing_23
  · intro u8 hy H locs ls hW hl
    subst hy
    replace ho := sum_r ho
    refine lv_iconst (v := (1 : Int32)) hx hb dX12_isNothing_30 (by decide) ?_
    cases ho
    exact rtZ C0 hW (Or.inr (rfl : (1 : Int32) = 1)) dX12_isNothing_31
noncomputable def m_halves_J48 (t : St) (v1 : Int32) (v3 : Int32) (v4 : Int32) (w1 : Int32) (w2 : Int32) (w3 : Int32) : Option ((Int32 × Int32 × St) ⊕ (St)) :=
  gd w1 31600 (nm (sA t 34 w1 (w2 + w3)) (fun t2 : St => nm (v4 &&& (1 : Int32)) (fun x3 : Int32 => nm (v3 + (-1 : Int32)) (fun x4 : Int32 => some (.inl (x3, x4, t2))))))
noncomputable def m_halves_B5 (v1 : Int32) (v2 : Int32) (v3 : Int32) (t : St) : Option ((Int32 × Int32 × St) ⊕ (St)) :=
  if v3 < 0 then (some (.inr t)) else (gd (((7 : Int32) * v1) + v3) 31600 (nm (gA t 34 ((((7 : Int32) * v1) + v3)).toNatClampNeg) (fun x7 : Int32 => if v2 = (1 : Int32) then (m_halves_J48 t v1 v3 x7 (((7 : Int32) * v1) + v3) (x7 >>> ((1 : Int32) &&& 31)) (536870912 : Int32)) else (m_halves_J48 t v1 v3 x7 (((7 : Int32) * v1) + v3) (x7 >>> ((1 : Int32) &&& 31)) (0 : Int32)))))
noncomputable def m_halves (t : St) (a1 : Int32) : Option (St) :=
  (lp (fun x => m_halves_B5 a1 x.1 x.2.1 x.2.2) ((0 : Int32), (6 : Int32), t)).bind (fun y9 => some y9)
set_option maxHeartbeats 4000000 in
set_option maxRecDepth 100000 in
theorem m_halves_L5 {p : Program} {l : Launch} {e : Env} {s : State} {m : MethodId} {args : Array Value} {below : List Frame} {meth : Method} {c : Code} {Q : State → Prop} {D : va_G} {cI cJ cZ : ClassId} {am : Nat → Nat} {A : Nat → Prop} (C0 : cx p s m args meth c cX12_halves RX12 5 none D (tyM cI cJ cZ) A) {v1 : Int32} {y : St} (hK0 : ∀ (H : Heap) (locs : List Loc) (ls : Array Slot), wl D A s (wM cI cJ cZ am y) H locs → lv_has ls 5 [(0, .ref (am 68))] → W p l e (rmN 0 0) s m args below meth c H locs 0 0 Q (F0 m 61 ls [])) :
    ∀ (n : Nat) (v2 : Int32) (v3 : Int32) (t : St), lpn (fun x => m_halves_B5 v1 x.1 x.2.1 x.2.2) n (v2, v3, t) = some y → ∀ (H : Heap) (locs : List Loc) (ls : Array Slot), wl D A s (wM cI cJ cZ am t) H locs → lv_has ls 5 [(0, .ref (am 68)), (1, .int v1), (2, .int v2), (3, .int v3)] → W p l e (rmN 0 0) s m args below meth c H locs 0 0 Q (F0 m 5 ls []) := by
  have hx := C0.1
  have hb := C0.2.1
  have hta := C0.2.2.2.2.2.1
  have hown := C0.2.2.2.2.1
  intro n
  induction n with
  | zero => intro _ _ _ h; cases h
  | succ n ih =>
    intro v2 v3 t hrun H locs ls hW hl
    obtain ⟨o, ho, hrun⟩ := bd_some hrun
    have J48 : ∀ (t : St) (v3 : Int32) (v4 : Int32) (w1 : Int32) (w2 : Int32) (w3 : Int32) (_ : m_halves_J48 t v1 v3 v4 w1 w2 w3 = some o) (H : Heap) (locs : List Loc) (ls : Array Slot), wl D A s (wM cI cJ cZ am t) H locs → lv_has ls 5 [(0, .ref (am 68)), (1, .int v1), (3, .int v3), (4, .int v4)] → W p l e (rmN 0 0) s m args below meth c H locs 0 0 Q (F0 m 48 ls [.int w3, .int w2, .int w1, .ref (am 34)]) := by
      intro t v3 v4 w1 w2 w3 ho H locs ls hW hl
      unfold m_halves_J48 at ho
      refine lv_iadd hx hb dX12_halves_48 ?_
      obtain ⟨g1, ho⟩ := gd_some ho
      refine mST_34 C0 hW g1 dX12_halves_49 (fun H locs hW => ?_)
      obtain ⟨t2, ho, hW⟩ := nm_w (P := fun t => wl D A s (wM cI cJ cZ am t) H locs) ho hW
      refine lv_iload hx hb dX12_halves_50 (lv_at hl 3 rfl) ?_
      refine lv_iconst (v := (1 : Int32)) hx hb dX12_halves_52 (by decide) ?_
      refine lv_iand hx hb dX12_halves_53 ?_
      refine lv_nmi ho (fun x3 ho => ?_)
      refine lv_istore_n (lv' := [(2, .int x3), (0, .ref (am 68)), (1, .int v1), (3, .int v3), (4, .int v4)]) hx hb dX12_halves_54 rfl hl (by decide) rfl (fun ls hl => ?_)
      obtain ⟨x4, ex4, ho⟩ := nm_x ho
      refine lv_iinc (v := x4) (lv' := [(3, .int x4), (2, .int x3), (0, .ref (am 68)), (1, .int v1), (4, .int v4)]) hx hb dX12_halves_55 hl (k := 3) rfl (by rw [ex4]; rfl) (by decide) rfl (fun ls hl => ?_)
      clear ex4
      refine lv_goto (tgt := 5) hx hb dX12_halves_58 (by decide) ?_
      cases ho
      exact ih _ _ _ hrun _ _ _ hW (lv_sub hl [2, 3, 1, 0] rfl)
    unfold m_halves_B5 at ho
    refine lv_iload_n hx hb dX12_halves_5 rfl (lv_at hl 3 rfl) ?_
    refine lv_if_lt (tgt := 61) hx hb dX12_halves_6 (by decide) (fun c5 => ?_) (fun c5 => ?_)
    · replace ho := ite_t c5 ho
      cases ho
      cases hrun
      exact hK0 _ _ _ hW (lv_sub hl [0] rfl)
    · replace ho := ite_f c5 ho
      refine lv_aload_n hx hb dX12_halves_9 rfl (lv_at hl 0 rfl) ?_
      refine mGET_34 C0 hW dX12_halves_10 ?_
      refine lv_bipush (v := (7 : Int32)) hx hb dX12_halves_13 (by decide) ?_
      refine lv_iload_n hx hb dX12_halves_15 rfl (lv_at hl 1 rfl) ?_
      refine lv_imul hx hb dX12_halves_16 ?_
      refine lv_iload_n hx hb dX12_halves_17 rfl (lv_at hl 3 rfl) ?_
      refine lv_iadd hx hb dX12_halves_18 ?_
      obtain ⟨g6, ho⟩ := gd_some ho
      refine mLD_34 C0 hW g6 dX12_halves_19 ?_
      refine lv_nmi ho (fun x7 ho => ?_)
      refine lv_istore (lv' := [(4, .int x7), (0, .ref (am 68)), (1, .int v1), (2, .int v2), (3, .int v3)]) hx hb dX12_halves_20 hl (by decide) rfl (fun ls hl => ?_)
      refine lv_aload_n hx hb dX12_halves_22 rfl (lv_at hl 1 rfl) ?_
      refine mGET_34 C0 hW dX12_halves_23 ?_
      refine lv_bipush (v := (7 : Int32)) hx hb dX12_halves_26 (by decide) ?_
      refine lv_iload_n hx hb dX12_halves_28 rfl (lv_at hl 2 rfl) ?_
      refine lv_imul hx hb dX12_halves_29 ?_
      refine lv_iload_n hx hb dX12_halves_30 rfl (lv_at hl 4 rfl) ?_
      refine lv_iadd hx hb dX12_halves_31 ?_
      refine lv_iload hx hb dX12_halves_32 (lv_at hl 0 rfl) ?_
      refine lv_iconst (v := (1 : Int32)) hx hb dX12_halves_34 (by decide) ?_
      refine lv_ishr hx hb dX12_halves_35 ?_
      refine lv_iload_n hx hb dX12_halves_36 rfl (lv_at hl 3 rfl) ?_
      refine lv_iconst (v := (1 : Int32)) hx hb dX12_halves_37 (by decide) ?_
      refine lv_icmp_ne (tgt := 47) hx hb dX12_halves_38 (by decide) (fun c8 => ?_) (fun c8 => ?_)
      · replace ho := ite_f c8 ho
        refine lv_iconst (v := (0 : Int32)) hx hb dX12_halves_47 (by decide) ?_
        exact J48 _ _ _ _ _ _ ho _ _ _ hW (lv_sub hl [1, 2, 4, 0] rfl)
      · replace ho := ite_t c8 ho
        refine lv_ldcw hx hb hown (hta _ kw_1978) dX12_halves_41 ?_
        refine lv_goto (tgt := 48) hx hb dX12_halves_44 (by decide) ?_
        exact J48 _ _ _ _ _ _ ho _ _ _ hW (lv_sub hl [1, 2, 4, 0] rfl)
set_option maxHeartbeats 4000000 in
set_option maxRecDepth 100000 in
theorem c_m_halves (l : Launch) {D : va_G} {cI cJ cZ : ClassId} {am : Nat → Nat} (sz : Nat) (t : St) (a1 : Int32) {t' : St} (ho : m_halves t a1 = some t') : Met l yX12_halves (.code yX12_halves cX12_halves 5 none :: wsAll) (rmN 0 0) (va_Pc [.ref (am 68), .int a1] (prW D (tyM cI cJ cZ) (wM cI cJ cZ am t) sz)) (qV D (tyM cI cJ cZ) (wM cI cJ cZ am t') (va_A (wM cI cJ cZ am t) sz)) 0 0 (va_A (wM cI cJ cZ am t) sz) := by
  refine Met.ofW (cc := cX12_halves) (maxL := 5) (ret := none) (by decide) rfl ?_
  intro p e s m args below meth c s₁ B hml hv
  obtain ⟨rfl, hsz, hP, hK, hD0⟩ := hv
  have hx := B.exec
  have hb := B.bytes
  have hts := atoms_spec (ws := (.code yX12_halves cX12_halves 5 none :: wsAll)) B.pre
  have hta := fun w h => hts w (List.mem_cons_of_mem _ h)
  have hown : s.vm.findClass RX12 = some m.cls := findClass_of_methodNamed B.named
  have hlocks := B.notSynchronized
  subst hsz
  have hD := hD0.self (sz := s.heap.size)
  generalize hAe : va_A (wM cI cJ cZ am t) s.heap.size = A at hD ⊢
  have hA : ∀ q : Nat, s.heap.size ≤ q → A q := fun q h => by rw [← hAe]; exact Or.inr h
  have C0 : cx p s m ([.ref (am 68), .int a1].toArray) meth c cX12_halves RX12 5 none D (tyM cI cJ cZ) A := ⟨hx, hb, B.returns, hml, hown, hta, hlocks, hK, hA⟩
  have hW : wl D A s (wM cI cJ cZ am t) s.heap [] := ⟨hP, hD, va_S.rf⟩
  have hl := lv_entry [.ref (am 68), .int a1] (n := 5) (Nat.le_of_ble_eq_true rfl)
  rw [lg_entry_eq]
  generalize (lg_sl [.ref (am 68), .int a1] ++ List.replicate (5 - (lg_sl [.ref (am 68), .int a1]).length) Slot.unset).toArray = ls at hl ⊢
  have hl : lv_has ls 5 [(0, .ref (am 68)), (1, .int a1)] := hl
  unfold m_halves at ho
  refine lv_iconst (v := (0 : Int32)) hx hb dX12_halves_0 (by decide) ?_
  refine lv_istore_n (lv' := [(2, .int (0 : Int32)), (0, .ref (am 68)), (1, .int a1)]) hx hb dX12_halves_1 rfl hl (by decide) rfl (fun ls hl => ?_)
  refine lv_bipush (v := (6 : Int32)) hx hb dX12_halves_2 (by decide) ?_
  refine lv_istore_n (lv' := [(3, .int (6 : Int32)), (2, .int (0 : Int32)), (0, .ref (am 68)), (1, .int a1)]) hx hb dX12_halves_4 rfl hl (by decide) rfl (fun ls hl => ?_)
  obtain ⟨y9, hc11, ho⟩ := bd_some ho
  obtain ⟨ny9, hc11⟩ := lp_to hc11
  refine m_halves_L5 C0 ?_ ny9 _ _ _ hc11 _ _ _ hW (lv_sub hl [2, 3, 1, 0] rfl)
  intro H locs ls hW hl
  cases ho
  exact rtV C0 hW dX12_halves_61
noncomputable def m_isEven (t : St) (a1 : Int32) : Option (Int32) :=
  gd ((7 : Int32) * a1) 31600 (if ((gA t 34 (((7 : Int32) * a1)).toNatClampNeg) &&& (1 : Int32)) = 0 then (some (1 : Int32)) else (some (0 : Int32)))
set_option maxHeartbeats 4000000 in
set_option maxRecDepth 100000 in
theorem c_m_isEven (l : Launch) {D : va_G} {cI cJ cZ : ClassId} {am : Nat → Nat} (sz : Nat) (t : St) (a1 : Int32) {r : Int32} (ho : m_isEven t a1 = some r) : Met l yX12_isEven (.code yX12_isEven cX12_isEven 2 (some .boolean) :: wsAll) (rmN 0 0) (va_Pc [.ref (am 68), .int a1] (prW D (tyM cI cJ cZ) (wM cI cJ cZ am t) sz)) (qZ r D (tyM cI cJ cZ) (wM cI cJ cZ am t) (va_A (wM cI cJ cZ am t) sz)) 0 0 (va_A (wM cI cJ cZ am t) sz) := by
  refine Met.ofW (cc := cX12_isEven) (maxL := 2) (ret := (some .boolean)) (by decide) rfl ?_
  intro p e s m args below meth c s₁ B hml hv
  obtain ⟨rfl, hsz, hP, hK, hD0⟩ := hv
  have hx := B.exec
  have hb := B.bytes
  have hts := atoms_spec (ws := (.code yX12_isEven cX12_isEven 2 (some .boolean) :: wsAll)) B.pre
  have hta := fun w h => hts w (List.mem_cons_of_mem _ h)
  have hown : s.vm.findClass RX12 = some m.cls := findClass_of_methodNamed B.named
  have hlocks := B.notSynchronized
  subst hsz
  have hD := hD0.self (sz := s.heap.size)
  generalize hAe : va_A (wM cI cJ cZ am t) s.heap.size = A at hD ⊢
  have hA : ∀ q : Nat, s.heap.size ≤ q → A q := fun q h => by rw [← hAe]; exact Or.inr h
  have C0 : cx p s m ([.ref (am 68), .int a1].toArray) meth c cX12_isEven RX12 2 (some .boolean) D (tyM cI cJ cZ) A := ⟨hx, hb, B.returns, hml, hown, hta, hlocks, hK, hA⟩
  have hW : wl D A s (wM cI cJ cZ am t) s.heap [] := ⟨hP, hD, va_S.rf⟩
  have hl := lv_entry [.ref (am 68), .int a1] (n := 2) (Nat.le_of_ble_eq_true rfl)
  rw [lg_entry_eq]
  generalize (lg_sl [.ref (am 68), .int a1] ++ List.replicate (2 - (lg_sl [.ref (am 68), .int a1]).length) Slot.unset).toArray = ls at hl ⊢
  have hl : lv_has ls 2 [(0, .ref (am 68)), (1, .int a1)] := hl
  unfold m_isEven at ho
  refine lv_aload_n hx hb dX12_isEven_0 rfl (lv_at hl 0 rfl) ?_
  refine mGET_34 C0 hW dX12_isEven_1 ?_
  refine lv_bipush (v := (7 : Int32)) hx hb dX12_isEven_4 (by decide) ?_
  refine lv_iload_n hx hb dX12_isEven_6 rfl (lv_at hl 1 rfl) ?_
  refine lv_imul hx hb dX12_isEven_7 ?_
  obtain ⟨g1, ho⟩ := gd_some ho
  refine mLD_34 C0 hW g1 dX12_isEven_8 ?_
  refine lv_iconst (v := (1 : Int32)) hx hb dX12_isEven_9 (by decide) ?_
  refine lv_iand hx hb dX12_isEven_10 ?_
  refine lv_if_ne (tgt := 18) hx hb dX12_isEven_11 (by decide) (fun c2 => ?_) (fun c2 => ?_)
  · replace ho := ite_f c2 ho
    refine lv_iconst (v := (0 : Int32)) hx hb dX12_isEven_18 (by decide) ?_
    cases ho
    exact rtZ C0 hW (Or.inl (rfl : (0 : Int32) = 0)) dX12_isEven_19
  · replace ho := ite_t c2 ho
    refine lv_iconst (v := (1 : Int32)) hx hb dX12_isEven_14 (by decide) ?_
    refine lv_goto (tgt := 19) hx hb dX12_isEven_15 (by decide) ?_
    cases ho
    exact rtZ C0 hW (Or.inr (rfl : (1 : Int32) = 1)) dX12_isEven_19
noncomputable def m_divisor_B42 (v1 : Int32) (v2 : Int32) (v3 : Int32) (t : St) : Option ((St) ⊕ (St)) :=
  (m_isEven t v1).bind (fun q1 => if q1 = 0 then (some (.inr t)) else ((m_halves t v1).bind (fun q5 => some (.inl q5))))
noncomputable def m_divisor_B58 (v1 : Int32) (v2 : Int32) (v3 : Int32) (t : St) : Option ((St) ⊕ (St)) :=
  (m_isEven t v2).bind (fun q7 => if q7 = 0 then (some (.inr t)) else ((m_halves t v2).bind (fun q11 => some (.inl q11))))
noncomputable def m_divisor_B126 (v1 : Int32) (v3 : Int32) (v4 : Int32) (t : St) : Option ((Int32 × St) ⊕ (St)) :=
  if v3 ≤ v4 then (some (.inr t)) else ((m_times t v1 (2 : Int32)).bind (fun q14 => nm (v4 + (1 : Int32)) (fun x16 : Int32 => some (.inl (x16, q14)))))
noncomputable def m_divisor_B2 (v1 : Int32) (v2 : Int32) (v3 : Int32) (t : St) : Option ((Int32 × St) ⊕ (Int32 × St)) :=
  (m_isEven t v1).bind (fun q17 => if q17 = 0 then (some (.inr (v3, t))) else ((m_isEven t v2).bind (fun q21 => if q21 = 0 then (some (.inr (v3, t))) else ((m_halves t v1).bind (fun q25 => (m_halves q25 v2).bind (fun q27 => nm (v3 + (1 : Int32)) (fun x29 : Int32 => some (.inl (x29, q27)))))))))
noncomputable def m_divisor_B34 (v1 : Int32) (v2 : Int32) (v3 : Int32) (t : St) : Option ((St) ⊕ (St)) :=
  (m_isNothing t v2).bind (fun q30 => if q30 = 0 then ((lp (fun x => m_divisor_B42 v1 v2 v3 x) t).bind (fun y34 => (lp (fun x => m_divisor_B58 v1 v2 v3 x) y34).bind (fun y37 => (m_against y37 v1 v2).bind (fun q40 => if q40 ≤ 0 then ((m_lessens y37 v2 v1).bind (fun q43 => some (.inl q43))) else ((m_lessens y37 v1 v2).bind (fun q45 => (m_takes q45 (4506 : Int32) v1).bind (fun q47 => (m_takes q47 v1 v2).bind (fun q49 => (m_takes q49 v2 (4506 : Int32)).bind (fun q51 => some (.inl q51)))))))))) else (some (.inr t)))
noncomputable def m_divisor (t : St) (a1 : Int32) (a2 : Int32) : Option (St) :=
  (lp (fun x => m_divisor_B2 a1 a2 x.1 x.2) ((0 : Int32), t)).bind (fun y53 => (lp (fun x => m_divisor_B34 a1 a2 y53.1 x) y53.2).bind (fun y56 => (lp (fun x => m_divisor_B126 a1 y53.1 x.1 x.2) ((0 : Int32), y56)).bind (fun y59 => some y59)))
set_option maxHeartbeats 4000000 in
set_option maxRecDepth 100000 in
theorem m_divisor_L42 {p : Program} {l : Launch} {e : Env} {s : State} {m : MethodId} {args : Array Value} {below : List Frame} {meth : Method} {c : Code} {Q : State → Prop} {D : va_G} {cI cJ cZ : ClassId} {am : Nat → Nat} {A : Nat → Prop} (C0 : cx p s m args meth c cX12_divisor RX12 5 none D (tyM cI cJ cZ) A) {v1 : Int32} {v2 : Int32} {v3 : Int32} {y : St} (hK0 : ∀ (H : Heap) (locs : List Loc) (ls : Array Slot), wl D A s (wM cI cJ cZ am y) H locs → lv_has ls 5 [(0, .ref (am 68)), (1, .int v1), (2, .int v2), (3, .int v3)] → W p l e (rmN 1 27) s m args below meth c H locs 0 0 Q (F0 m 58 ls [])) :
    ∀ (n : Nat) (t : St), lpn (fun x => m_divisor_B42 v1 v2 v3 x) n t = some y → ∀ (H : Heap) (locs : List Loc) (ls : Array Slot), wl D A s (wM cI cJ cZ am t) H locs → lv_has ls 5 [(0, .ref (am 68)), (1, .int v1), (2, .int v2), (3, .int v3)] → W p l e (rmN 1 27) s m args below meth c H locs 0 0 Q (F0 m 42 ls []) := by
  have hx := C0.1
  have hb := C0.2.1
  have hta := C0.2.2.2.2.2.1
  have hown := C0.2.2.2.2.1
  intro n
  induction n with
  | zero => intro _ h; cases h
  | succ n ih =>
    intro t hrun H locs ls hW hl
    obtain ⟨o, ho, hrun⟩ := bd_some hrun
    unfold m_divisor_B42 at ho
    refine lv_aload_n hx hb dX12_divisor_42 rfl (lv_at hl 0 rfl) ?_
    refine lv_iload_n hx hb dX12_divisor_43 rfl (lv_at hl 1 rfl) ?_
    obtain ⟨q1, hc2, ho⟩ := bd_some ho
    refine bkZ C0 hW (runV (As := [.int v1]) (rest := []) C0 hW (c_m_isEven l _ t v1 (r := q1) hc2) ca_X12_isEven_318 0 12 rfl rfl rfl rfl rfl ⟨rfl, rfl⟩ ⟨Nat.le_of_ble_eq_true rfl, Nat.le_of_ble_eq_true rfl⟩ (Nat.le_of_ble_eq_true rfl) hl.1 dX12_divisor_44 ⟨Nat.le_of_ble_eq_true rfl, Nat.le_of_ble_eq_true rfl⟩) (fun z3 H locs hW => ?_)
    refine lv_if_eq (tgt := 58) hx hb dX12_divisor_47 (by decide) (fun c4 => ?_) (fun c4 => ?_)
    · replace ho := ite_t c4 ho
      cases ho
      cases hrun
      exact hK0 _ _ _ hW (lv_sub hl [0, 1, 2, 3] rfl)
    · replace ho := ite_f c4 ho
      refine lv_aload_n hx hb dX12_divisor_50 rfl (lv_at hl 0 rfl) ?_
      refine lv_iload_n hx hb dX12_divisor_51 rfl (lv_at hl 1 rfl) ?_
      obtain ⟨q5, hc6, ho⟩ := bd_some ho
      refine bkV C0 hW (runV (As := [.int v1]) (rest := []) C0 hW (c_m_halves l _ t v1 (t' := q5) hc6) ca_X12_halves_321 0 12 rfl rfl rfl rfl rfl ⟨rfl, rfl⟩ ⟨Nat.le_of_ble_eq_true rfl, Nat.le_of_ble_eq_true rfl⟩ (Nat.le_of_ble_eq_true rfl) hl.1 dX12_divisor_52 ⟨Nat.le_of_ble_eq_true rfl, Nat.le_of_ble_eq_true rfl⟩) (fun H locs hW => ?_)
      refine lv_goto (tgt := 42) hx hb dX12_divisor_55 (by decide) ?_
      cases ho
      exact ih _ hrun _ _ _ hW (lv_sub hl [0, 1, 2, 3] rfl)
set_option maxHeartbeats 4000000 in
set_option maxRecDepth 100000 in
theorem m_divisor_L58 {p : Program} {l : Launch} {e : Env} {s : State} {m : MethodId} {args : Array Value} {below : List Frame} {meth : Method} {c : Code} {Q : State → Prop} {D : va_G} {cI cJ cZ : ClassId} {am : Nat → Nat} {A : Nat → Prop} (C0 : cx p s m args meth c cX12_divisor RX12 5 none D (tyM cI cJ cZ) A) {v1 : Int32} {v2 : Int32} {v3 : Int32} {y : St} (hK0 : ∀ (H : Heap) (locs : List Loc) (ls : Array Slot), wl D A s (wM cI cJ cZ am y) H locs → lv_has ls 5 [(0, .ref (am 68)), (1, .int v1), (2, .int v2), (3, .int v3)] → W p l e (rmN 1 27) s m args below meth c H locs 0 0 Q (F0 m 74 ls [])) :
    ∀ (n : Nat) (t : St), lpn (fun x => m_divisor_B58 v1 v2 v3 x) n t = some y → ∀ (H : Heap) (locs : List Loc) (ls : Array Slot), wl D A s (wM cI cJ cZ am t) H locs → lv_has ls 5 [(0, .ref (am 68)), (1, .int v1), (2, .int v2), (3, .int v3)] → W p l e (rmN 1 27) s m args below meth c H locs 0 0 Q (F0 m 58 ls []) := by
  have hx := C0.1
  have hb := C0.2.1
  have hta := C0.2.2.2.2.2.1
  have hown := C0.2.2.2.2.1
  intro n
  induction n with
  | zero => intro _ h; cases h
  | succ n ih =>
    intro t hrun H locs ls hW hl
    obtain ⟨o, ho, hrun⟩ := bd_some hrun
    unfold m_divisor_B58 at ho
    refine lv_aload_n hx hb dX12_divisor_58 rfl (lv_at hl 0 rfl) ?_
    refine lv_iload_n hx hb dX12_divisor_59 rfl (lv_at hl 2 rfl) ?_
    obtain ⟨q7, hc8, ho⟩ := bd_some ho
    refine bkZ C0 hW (runV (As := [.int v2]) (rest := []) C0 hW (c_m_isEven l _ t v2 (r := q7) hc8) ca_X12_isEven_318 0 12 rfl rfl rfl rfl rfl ⟨rfl, rfl⟩ ⟨Nat.le_of_ble_eq_true rfl, Nat.le_of_ble_eq_true rfl⟩ (Nat.le_of_ble_eq_true rfl) hl.1 dX12_divisor_60 ⟨Nat.le_of_ble_eq_true rfl, Nat.le_of_ble_eq_true rfl⟩) (fun z9 H locs hW => ?_)
    refine lv_if_eq (tgt := 74) hx hb dX12_divisor_63 (by decide) (fun c10 => ?_) (fun c10 => ?_)
    · replace ho := ite_t c10 ho
      cases ho
      cases hrun
      exact hK0 _ _ _ hW (lv_sub hl [0, 1, 2, 3] rfl)
    · replace ho := ite_f c10 ho
      refine lv_aload_n hx hb dX12_divisor_66 rfl (lv_at hl 0 rfl) ?_
      refine lv_iload_n hx hb dX12_divisor_67 rfl (lv_at hl 2 rfl) ?_
      obtain ⟨q11, hc12, ho⟩ := bd_some ho
      refine bkV C0 hW (runV (As := [.int v2]) (rest := []) C0 hW (c_m_halves l _ t v2 (t' := q11) hc12) ca_X12_halves_321 0 12 rfl rfl rfl rfl rfl ⟨rfl, rfl⟩ ⟨Nat.le_of_ble_eq_true rfl, Nat.le_of_ble_eq_true rfl⟩ (Nat.le_of_ble_eq_true rfl) hl.1 dX12_divisor_68 ⟨Nat.le_of_ble_eq_true rfl, Nat.le_of_ble_eq_true rfl⟩) (fun H locs hW => ?_)
      refine lv_goto (tgt := 58) hx hb dX12_divisor_71 (by decide) ?_
      cases ho
      exact ih _ hrun _ _ _ hW (lv_sub hl [0, 1, 2, 3] rfl)
set_option maxHeartbeats 4000000 in
set_option maxRecDepth 100000 in
theorem m_divisor_L126 {p : Program} {l : Launch} {e : Env} {s : State} {m : MethodId} {args : Array Value} {below : List Frame} {meth : Method} {c : Code} {Q : State → Prop} {D : va_G} {cI cJ cZ : ClassId} {am : Nat → Nat} {A : Nat → Prop} (C0 : cx p s m args meth c cX12_divisor RX12 5 none D (tyM cI cJ cZ) A) {v1 : Int32} {v3 : Int32} {y : St} (hK0 : ∀ (H : Heap) (locs : List Loc) (ls : Array Slot), wl D A s (wM cI cJ cZ am y) H locs → lv_has ls 5 [(0, .ref (am 68))] → W p l e (rmN 1 27) s m args below meth c H locs 0 0 Q (F0 m 144 ls [])) :
    ∀ (n : Nat) (v4 : Int32) (t : St), lpn (fun x => m_divisor_B126 v1 v3 x.1 x.2) n (v4, t) = some y → ∀ (H : Heap) (locs : List Loc) (ls : Array Slot), wl D A s (wM cI cJ cZ am t) H locs → lv_has ls 5 [(0, .ref (am 68)), (1, .int v1), (3, .int v3), (4, .int v4)] → W p l e (rmN 1 27) s m args below meth c H locs 0 0 Q (F0 m 126 ls []) := by
  have hx := C0.1
  have hb := C0.2.1
  have hta := C0.2.2.2.2.2.1
  have hown := C0.2.2.2.2.1
  intro n
  induction n with
  | zero => intro _ _ h; cases h
  | succ n ih =>
    intro v4 t hrun H locs ls hW hl
    obtain ⟨o, ho, hrun⟩ := bd_some hrun
    unfold m_divisor_B126 at ho
    refine lv_iload hx hb dX12_divisor_126 (lv_at hl 3 rfl) ?_
    refine lv_iload_n hx hb dX12_divisor_128 rfl (lv_at hl 2 rfl) ?_
    refine lv_icmp_ge (tgt := 144) hx hb dX12_divisor_129 (by decide) (fun c13 => ?_) (fun c13 => ?_)
    · replace ho := ite_t c13 ho
      cases ho
      cases hrun
      exact hK0 _ _ _ hW (lv_sub hl [0] rfl)
    · replace ho := ite_f c13 ho
      refine lv_aload_n hx hb dX12_divisor_132 rfl (lv_at hl 0 rfl) ?_
      refine lv_iload_n hx hb dX12_divisor_133 rfl (lv_at hl 1 rfl) ?_
      refine lv_iconst (v := (2 : Int32)) hx hb dX12_divisor_134 (by decide) ?_
      obtain ⟨q14, hc15, ho⟩ := bd_some ho
      refine bkV C0 hW (runV (As := [.int v1, .int (2 : Int32)]) (rest := []) C0 hW (c_m_times l _ t v1 (2 : Int32) (t' := q14) hc15) ca_X12_times_336 0 12 rfl rfl rfl rfl rfl ⟨rfl, rfl⟩ ⟨Nat.le_of_ble_eq_true rfl, Nat.le_of_ble_eq_true rfl⟩ (Nat.le_of_ble_eq_true rfl) hl.1 dX12_divisor_135 ⟨Nat.le_of_ble_eq_true rfl, Nat.le_of_ble_eq_true rfl⟩) (fun H locs hW => ?_)
      obtain ⟨x16, ex16, ho⟩ := nm_x ho
      refine lv_iinc (v := x16) (lv' := [(4, .int x16), (0, .ref (am 68)), (1, .int v1), (3, .int v3)]) hx hb dX12_divisor_138 hl (k := 3) rfl (by rw [ex16]; rfl) (by decide) rfl (fun ls hl => ?_)
      clear ex16
      refine lv_goto (tgt := 126) hx hb dX12_divisor_141 (by decide) ?_
      cases ho
      exact ih _ _ hrun _ _ _ hW (lv_sub hl [1, 2, 3, 0] rfl)
set_option maxHeartbeats 4000000 in
set_option maxRecDepth 100000 in
theorem m_divisor_L2 {p : Program} {l : Launch} {e : Env} {s : State} {m : MethodId} {args : Array Value} {below : List Frame} {meth : Method} {c : Code} {Q : State → Prop} {D : va_G} {cI cJ cZ : ClassId} {am : Nat → Nat} {A : Nat → Prop} (C0 : cx p s m args meth c cX12_divisor RX12 5 none D (tyM cI cJ cZ) A) {v1 : Int32} {v2 : Int32} {y : Int32 × St} (hK0 : ∀ (H : Heap) (locs : List Loc) (ls : Array Slot), wl D A s (wM cI cJ cZ am y.2) H locs → lv_has ls 5 [(0, .ref (am 68)), (1, .int v1), (2, .int v2), (3, .int y.1)] → W p l e (rmN 1 27) s m args below meth c H locs 0 0 Q (F0 m 34 ls [])) :
    ∀ (n : Nat) (v3 : Int32) (t : St), lpn (fun x => m_divisor_B2 v1 v2 x.1 x.2) n (v3, t) = some y → ∀ (H : Heap) (locs : List Loc) (ls : Array Slot), wl D A s (wM cI cJ cZ am t) H locs → lv_has ls 5 [(0, .ref (am 68)), (1, .int v1), (2, .int v2), (3, .int v3)] → W p l e (rmN 1 27) s m args below meth c H locs 0 0 Q (F0 m 2 ls []) := by
  have hx := C0.1
  have hb := C0.2.1
  have hta := C0.2.2.2.2.2.1
  have hown := C0.2.2.2.2.1
  intro n
  induction n with
  | zero => intro _ _ h; cases h
  | succ n ih =>
    intro v3 t hrun H locs ls hW hl
    obtain ⟨o, ho, hrun⟩ := bd_some hrun
    unfold m_divisor_B2 at ho
    refine lv_aload_n hx hb dX12_divisor_2 rfl (lv_at hl 0 rfl) ?_
    refine lv_iload_n hx hb dX12_divisor_3 rfl (lv_at hl 1 rfl) ?_
    obtain ⟨q17, hc18, ho⟩ := bd_some ho
    refine bkZ C0 hW (runV (As := [.int v1]) (rest := []) C0 hW (c_m_isEven l _ t v1 (r := q17) hc18) ca_X12_isEven_318 0 12 rfl rfl rfl rfl rfl ⟨rfl, rfl⟩ ⟨Nat.le_of_ble_eq_true rfl, Nat.le_of_ble_eq_true rfl⟩ (Nat.le_of_ble_eq_true rfl) hl.1 dX12_divisor_4 ⟨Nat.le_of_ble_eq_true rfl, Nat.le_of_ble_eq_true rfl⟩) (fun z19 H locs hW => ?_)
    refine lv_if_eq (tgt := 34) hx hb dX12_divisor_7 (by decide) (fun c20 => ?_) (fun c20 => ?_)
    · replace ho := ite_t c20 ho
      cases ho
      cases hrun
      exact hK0 _ _ _ hW (lv_sub hl [0, 1, 2, 3] rfl)
    · replace ho := ite_f c20 ho
      refine lv_aload_n hx hb dX12_divisor_10 rfl (lv_at hl 0 rfl) ?_
      refine lv_iload_n hx hb dX12_divisor_11 rfl (lv_at hl 2 rfl) ?_
      obtain ⟨q21, hc22, ho⟩ := bd_some ho
      refine bkZ C0 hW (runV (As := [.int v2]) (rest := []) C0 hW (c_m_isEven l _ t v2 (r := q21) hc22) ca_X12_isEven_318 0 12 rfl rfl rfl rfl rfl ⟨rfl, rfl⟩ ⟨Nat.le_of_ble_eq_true rfl, Nat.le_of_ble_eq_true rfl⟩ (Nat.le_of_ble_eq_true rfl) hl.1 dX12_divisor_12 ⟨Nat.le_of_ble_eq_true rfl, Nat.le_of_ble_eq_true rfl⟩) (fun z23 H locs hW => ?_)
      refine lv_if_eq (tgt := 34) hx hb dX12_divisor_15 (by decide) (fun c24 => ?_) (fun c24 => ?_)
      · replace ho := ite_t c24 ho
        cases ho
        cases hrun
        exact hK0 _ _ _ hW (lv_sub hl [0, 1, 2, 3] rfl)
      · replace ho := ite_f c24 ho
        refine lv_aload_n hx hb dX12_divisor_18 rfl (lv_at hl 0 rfl) ?_
        refine lv_iload_n hx hb dX12_divisor_19 rfl (lv_at hl 1 rfl) ?_
        obtain ⟨q25, hc26, ho⟩ := bd_some ho
        refine bkV C0 hW (runV (As := [.int v1]) (rest := []) C0 hW (c_m_halves l _ t v1 (t' := q25) hc26) ca_X12_halves_321 0 12 rfl rfl rfl rfl rfl ⟨rfl, rfl⟩ ⟨Nat.le_of_ble_eq_true rfl, Nat.le_of_ble_eq_true rfl⟩ (Nat.le_of_ble_eq_true rfl) hl.1 dX12_divisor_20 ⟨Nat.le_of_ble_eq_true rfl, Nat.le_of_ble_eq_true rfl⟩) (fun H locs hW => ?_)
        refine lv_aload_n hx hb dX12_divisor_23 rfl (lv_at hl 0 rfl) ?_
        refine lv_iload_n hx hb dX12_divisor_24 rfl (lv_at hl 2 rfl) ?_
        obtain ⟨q27, hc28, ho⟩ := bd_some ho
        refine bkV C0 hW (runV (As := [.int v2]) (rest := []) C0 hW (c_m_halves l _ q25 v2 (t' := q27) hc28) ca_X12_halves_321 0 12 rfl rfl rfl rfl rfl ⟨rfl, rfl⟩ ⟨Nat.le_of_ble_eq_true rfl, Nat.le_of_ble_eq_true rfl⟩ (Nat.le_of_ble_eq_true rfl) hl.1 dX12_divisor_25 ⟨Nat.le_of_ble_eq_true rfl, Nat.le_of_ble_eq_true rfl⟩) (fun H locs hW => ?_)
        obtain ⟨x29, ex29, ho⟩ := nm_x ho
        refine lv_iinc (v := x29) (lv' := [(3, .int x29), (0, .ref (am 68)), (1, .int v1), (2, .int v2)]) hx hb dX12_divisor_28 hl (k := 3) rfl (by rw [ex29]; rfl) (by decide) rfl (fun ls hl => ?_)
        clear ex29
        refine lv_goto (tgt := 2) hx hb dX12_divisor_31 (by decide) ?_
        cases ho
        exact ih _ _ hrun _ _ _ hW (lv_sub hl [1, 2, 3, 0] rfl)
set_option maxHeartbeats 4000000 in
set_option maxRecDepth 100000 in
theorem m_divisor_L34 {p : Program} {l : Launch} {e : Env} {s : State} {m : MethodId} {args : Array Value} {below : List Frame} {meth : Method} {c : Code} {Q : State → Prop} {D : va_G} {cI cJ cZ : ClassId} {am : Nat → Nat} {A : Nat → Prop} (C0 : cx p s m args meth c cX12_divisor RX12 5 none D (tyM cI cJ cZ) A) {v1 : Int32} {v2 : Int32} {v3 : Int32} {y : St} (hK0 : ∀ (H : Heap) (locs : List Loc) (ls : Array Slot), wl D A s (wM cI cJ cZ am y) H locs → lv_has ls 5 [(0, .ref (am 68)), (1, .int v1), (3, .int v3)] → W p l e (rmN 1 27) s m args below meth c H locs 0 0 Q (F0 m 123 ls [])) :
    ∀ (n : Nat) (t : St), lpn (fun x => m_divisor_B34 v1 v2 v3 x) n t = some y → ∀ (H : Heap) (locs : List Loc) (ls : Array Slot), wl D A s (wM cI cJ cZ am t) H locs → lv_has ls 5 [(0, .ref (am 68)), (1, .int v1), (2, .int v2), (3, .int v3)] → W p l e (rmN 1 27) s m args below meth c H locs 0 0 Q (F0 m 34 ls []) := by
  have hx := C0.1
  have hb := C0.2.1
  have hta := C0.2.2.2.2.2.1
  have hown := C0.2.2.2.2.1
  intro n
  induction n with
  | zero => intro _ h; cases h
  | succ n ih =>
    intro t hrun H locs ls hW hl
    obtain ⟨o, ho, hrun⟩ := bd_some hrun
    unfold m_divisor_B34 at ho
    refine lv_aload_n hx hb dX12_divisor_34 rfl (lv_at hl 0 rfl) ?_
    refine lv_iload_n hx hb dX12_divisor_35 rfl (lv_at hl 2 rfl) ?_
    obtain ⟨q30, hc31, ho⟩ := bd_some ho
    refine bkZ C0 hW (runV (As := [.int v2]) (rest := []) C0 hW (c_m_isNothing l _ t v2 (r := q30) hc31) ca_X12_isNothing_324 0 12 rfl rfl rfl rfl rfl ⟨rfl, rfl⟩ ⟨Nat.le_of_ble_eq_true rfl, Nat.le_of_ble_eq_true rfl⟩ (Nat.le_of_ble_eq_true rfl) hl.1 dX12_divisor_36 ⟨Nat.le_of_ble_eq_true rfl, Nat.le_of_ble_eq_true rfl⟩) (fun z32 H locs hW => ?_)
    refine lv_if_ne (tgt := 123) hx hb dX12_divisor_39 (by decide) (fun c33 => ?_) (fun c33 => ?_)
    · replace ho := ite_f c33 ho
      cases ho
      cases hrun
      exact hK0 _ _ _ hW (lv_sub hl [0, 1, 3] rfl)
    · replace ho := ite_t c33 ho
      obtain ⟨y34, hc36, ho⟩ := bd_some ho
      obtain ⟨ny34, hc36⟩ := lp_to hc36
      refine m_divisor_L42 C0 ?_ ny34 _ hc36 _ _ _ hW (lv_sub hl [0, 1, 2, 3] rfl)
      intro H locs ls hW hl
      obtain ⟨y37, hc39, ho⟩ := bd_some ho
      obtain ⟨ny37, hc39⟩ := lp_to hc39
      refine m_divisor_L58 C0 ?_ ny37 _ hc39 _ _ _ hW (lv_sub hl [0, 1, 2, 3] rfl)
      intro H locs ls hW hl
      refine lv_aload_n hx hb dX12_divisor_74 rfl (lv_at hl 0 rfl) ?_
      refine lv_iload_n hx hb dX12_divisor_75 rfl (lv_at hl 1 rfl) ?_
      refine lv_iload_n hx hb dX12_divisor_76 rfl (lv_at hl 2 rfl) ?_
      obtain ⟨q40, hc41, ho⟩ := bd_some ho
      refine bkI C0 hW (runV (As := [.int v1, .int v2]) (rest := []) C0 hW (c_m_against l _ y37 v1 v2 (r := q40) hc41) ca_X12_against_327 0 12 rfl rfl rfl rfl rfl ⟨rfl, rfl⟩ ⟨Nat.le_of_ble_eq_true rfl, Nat.le_of_ble_eq_true rfl⟩ (Nat.le_of_ble_eq_true rfl) hl.1 dX12_divisor_77 ⟨Nat.le_of_ble_eq_true rfl, Nat.le_of_ble_eq_true rfl⟩) (fun H locs hW => ?_)
      refine lv_if_le (tgt := 114) hx hb dX12_divisor_80 (by decide) (fun c42 => ?_) (fun c42 => ?_)
      · replace ho := ite_t c42 ho
        refine lv_aload_n hx hb dX12_divisor_114 rfl (lv_at hl 0 rfl) ?_
        refine lv_iload_n hx hb dX12_divisor_115 rfl (lv_at hl 2 rfl) ?_
        refine lv_iload_n hx hb dX12_divisor_116 rfl (lv_at hl 1 rfl) ?_
        obtain ⟨q43, hc44, ho⟩ := bd_some ho
        refine bkV C0 hW (runV (As := [.int v2, .int v1]) (rest := []) C0 hW (c_m_lessens l _ y37 v2 v1 (t' := q43) hc44) ca_X12_lessens_330 0 12 rfl rfl rfl rfl rfl ⟨rfl, rfl⟩ ⟨Nat.le_of_ble_eq_true rfl, Nat.le_of_ble_eq_true rfl⟩ (Nat.le_of_ble_eq_true rfl) hl.1 dX12_divisor_117 ⟨Nat.le_of_ble_eq_true rfl, Nat.le_of_ble_eq_true rfl⟩) (fun H locs hW => ?_)
        refine lv_goto (tgt := 34) hx hb dX12_divisor_120 (by decide) ?_
        cases ho
        exact ih _ hrun _ _ _ hW (lv_sub hl [0, 1, 2, 3] rfl)
      · replace ho := ite_f c42 ho
        refine lv_aload_n hx hb dX12_divisor_83 rfl (lv_at hl 0 rfl) ?_
        refine lv_iload_n hx hb dX12_divisor_84 rfl (lv_at hl 1 rfl) ?_
        refine lv_iload_n hx hb dX12_divisor_85 rfl (lv_at hl 2 rfl) ?_
        obtain ⟨q45, hc46, ho⟩ := bd_some ho
        refine bkV C0 hW (runV (As := [.int v1, .int v2]) (rest := []) C0 hW (c_m_lessens l _ y37 v1 v2 (t' := q45) hc46) ca_X12_lessens_330 0 12 rfl rfl rfl rfl rfl ⟨rfl, rfl⟩ ⟨Nat.le_of_ble_eq_true rfl, Nat.le_of_ble_eq_true rfl⟩ (Nat.le_of_ble_eq_true rfl) hl.1 dX12_divisor_86 ⟨Nat.le_of_ble_eq_true rfl, Nat.le_of_ble_eq_true rfl⟩) (fun H locs hW => ?_)
        refine lv_aload_n hx hb dX12_divisor_89 rfl (lv_at hl 0 rfl) ?_
        refine lv_sipush (v := (4506 : Int32)) hx hb dX12_divisor_90 (by decide) ?_
        refine lv_iload_n hx hb dX12_divisor_93 rfl (lv_at hl 1 rfl) ?_
        obtain ⟨q47, hc48, ho⟩ := bd_some ho
        refine bkV C0 hW (runV (As := [.int (4506 : Int32), .int v1]) (rest := []) C0 hW (c_m_takes l _ q45 (4506 : Int32) v1 (t' := q47) hc48) ca_X12_takes_333 0 12 rfl rfl rfl rfl rfl ⟨rfl, rfl⟩ ⟨Nat.le_of_ble_eq_true rfl, Nat.le_of_ble_eq_true rfl⟩ (Nat.le_of_ble_eq_true rfl) hl.1 dX12_divisor_94 ⟨Nat.le_of_ble_eq_true rfl, Nat.le_of_ble_eq_true rfl⟩) (fun H locs hW => ?_)
        refine lv_aload_n hx hb dX12_divisor_97 rfl (lv_at hl 0 rfl) ?_
        refine lv_iload_n hx hb dX12_divisor_98 rfl (lv_at hl 1 rfl) ?_
        refine lv_iload_n hx hb dX12_divisor_99 rfl (lv_at hl 2 rfl) ?_
        obtain ⟨q49, hc50, ho⟩ := bd_some ho
        refine bkV C0 hW (runV (As := [.int v1, .int v2]) (rest := []) C0 hW (c_m_takes l _ q47 v1 v2 (t' := q49) hc50) ca_X12_takes_333 0 12 rfl rfl rfl rfl rfl ⟨rfl, rfl⟩ ⟨Nat.le_of_ble_eq_true rfl, Nat.le_of_ble_eq_true rfl⟩ (Nat.le_of_ble_eq_true rfl) hl.1 dX12_divisor_100 ⟨Nat.le_of_ble_eq_true rfl, Nat.le_of_ble_eq_true rfl⟩) (fun H locs hW => ?_)
        refine lv_aload_n hx hb dX12_divisor_103 rfl (lv_at hl 0 rfl) ?_
        refine lv_iload_n hx hb dX12_divisor_104 rfl (lv_at hl 2 rfl) ?_
        refine lv_sipush (v := (4506 : Int32)) hx hb dX12_divisor_105 (by decide) ?_
        obtain ⟨q51, hc52, ho⟩ := bd_some ho
        refine bkV C0 hW (runV (As := [.int v2, .int (4506 : Int32)]) (rest := []) C0 hW (c_m_takes l _ q49 v2 (4506 : Int32) (t' := q51) hc52) ca_X12_takes_333 0 12 rfl rfl rfl rfl rfl ⟨rfl, rfl⟩ ⟨Nat.le_of_ble_eq_true rfl, Nat.le_of_ble_eq_true rfl⟩ (Nat.le_of_ble_eq_true rfl) hl.1 dX12_divisor_108 ⟨Nat.le_of_ble_eq_true rfl, Nat.le_of_ble_eq_true rfl⟩) (fun H locs hW => ?_)
        refine lv_goto (tgt := 34) hx hb dX12_divisor_111 (by decide) ?_
        cases ho
        exact ih _ hrun _ _ _ hW (lv_sub hl [0, 1, 2, 3] rfl)
set_option maxHeartbeats 4000000 in
set_option maxRecDepth 100000 in
theorem c_m_divisor (l : Launch) {D : va_G} {cI cJ cZ : ClassId} {am : Nat → Nat} (sz : Nat) (t : St) (a1 : Int32) (a2 : Int32) {t' : St} (ho : m_divisor t a1 a2 = some t') : Met l yX12_divisor (.code yX12_divisor cX12_divisor 5 none :: wsAll) (rmN 1 27) (va_Pc [.ref (am 68), .int a1, .int a2] (prW D (tyM cI cJ cZ) (wM cI cJ cZ am t) sz)) (qV D (tyM cI cJ cZ) (wM cI cJ cZ am t') (va_A (wM cI cJ cZ am t) sz)) 0 0 (va_A (wM cI cJ cZ am t) sz) := by
  refine Met.ofW (cc := cX12_divisor) (maxL := 5) (ret := none) (by decide) rfl ?_
  intro p e s m args below meth c s₁ B hml hv
  obtain ⟨rfl, hsz, hP, hK, hD0⟩ := hv
  have hx := B.exec
  have hb := B.bytes
  have hts := atoms_spec (ws := (.code yX12_divisor cX12_divisor 5 none :: wsAll)) B.pre
  have hta := fun w h => hts w (List.mem_cons_of_mem _ h)
  have hown : s.vm.findClass RX12 = some m.cls := findClass_of_methodNamed B.named
  have hlocks := B.notSynchronized
  subst hsz
  have hD := hD0.self (sz := s.heap.size)
  generalize hAe : va_A (wM cI cJ cZ am t) s.heap.size = A at hD ⊢
  have hA : ∀ q : Nat, s.heap.size ≤ q → A q := fun q h => by rw [← hAe]; exact Or.inr h
  have C0 : cx p s m ([.ref (am 68), .int a1, .int a2].toArray) meth c cX12_divisor RX12 5 none D (tyM cI cJ cZ) A := ⟨hx, hb, B.returns, hml, hown, hta, hlocks, hK, hA⟩
  have hW : wl D A s (wM cI cJ cZ am t) s.heap [] := ⟨hP, hD, va_S.rf⟩
  have hl := lv_entry [.ref (am 68), .int a1, .int a2] (n := 5) (Nat.le_of_ble_eq_true rfl)
  rw [lg_entry_eq]
  generalize (lg_sl [.ref (am 68), .int a1, .int a2] ++ List.replicate (5 - (lg_sl [.ref (am 68), .int a1, .int a2]).length) Slot.unset).toArray = ls at hl ⊢
  have hl : lv_has ls 5 [(0, .ref (am 68)), (1, .int a1), (2, .int a2)] := hl
  unfold m_divisor at ho
  refine lv_iconst (v := (0 : Int32)) hx hb dX12_divisor_0 (by decide) ?_
  refine lv_istore_n (lv' := [(3, .int (0 : Int32)), (0, .ref (am 68)), (1, .int a1), (2, .int a2)]) hx hb dX12_divisor_1 rfl hl (by decide) rfl (fun ls hl => ?_)
  obtain ⟨y53, hc55, ho⟩ := bd_some ho
  obtain ⟨ny53, hc55⟩ := lp_to hc55
  refine m_divisor_L2 C0 ?_ ny53 _ _ hc55 _ _ _ hW (lv_sub hl [1, 2, 3, 0] rfl)
  intro H locs ls hW hl
  obtain ⟨y56, hc58, ho⟩ := bd_some ho
  obtain ⟨ny56, hc58⟩ := lp_to hc58
  refine m_divisor_L34 C0 ?_ ny56 _ hc58 _ _ _ hW (lv_sub hl [0, 1, 2, 3] rfl)
  intro H locs ls hW hl
  refine lv_iconst (v := (0 : Int32)) hx hb dX12_divisor_123 (by decide) ?_
  refine lv_istore (lv' := [(4, .int (0 : Int32)), (0, .ref (am 68)), (1, .int a1), (3, .int y53.1)]) hx hb dX12_divisor_124 hl (by decide) rfl (fun ls hl => ?_)
  obtain ⟨y59, hc61, ho⟩ := bd_some ho
  obtain ⟨ny59, hc61⟩ := lp_to hc61
  refine m_divisor_L126 C0 ?_ ny59 _ _ hc61 _ _ _ hW (lv_sub hl [1, 2, 3, 0] rfl)
  intro H locs ls hW hl
  cases ho
  exact rtV C0 hW dX12_divisor_144
