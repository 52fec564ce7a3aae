noncomputable def m_in (t : St) (a0 : Int32) (a1 : Int32) (a2 : Int32) : Option (Int32) :=
  if a0 < a1 then (some (0 : Int32)) else (if a2 < a0 then (some (0 : Int32)) else (some (1 : Int32)))
set_option maxHeartbeats 4000000 in
set_option maxRecDepth 100000 in
theorem c_m_in (l : Launch) {D : va_G} {cI cJ cZ : ClassId} {am : Nat → Nat} (sz : Nat) (t : St) (a0 : Int32) (a1 : Int32) (a2 : Int32) {r : Int32} (ho : m_in t a0 a1 a2 = some r) : Met l yX12_in (.code yX12_in cX12_in 3 (some .boolean) :: wsAll) (rmN 0 0) (va_Pc [.int a0, .int a1, .int a2] (prW D (tyM cI cJ cZ) (wM cI cJ cZ am t) sz)) (qZ r D (tyM cI cJ cZ) (wM cI cJ cZ am t) (va_A (wM cI cJ cZ am t) sz)) 0 0 (va_A (wM cI cJ cZ am t) sz) := by
  refine Met.ofW (cc := cX12_in) (maxL := 3) (ret := (some .boolean)) (by decide) rfl ?_
  intro p e s m args below meth c s₁ B hml hv
  obtain ⟨rfl, hsz, hP, hK, hD0⟩ := hv
  have hx := B.exec
  have hb := B.bytes
  have hts := atoms_spec (ws := (.code yX12_in cX12_in 3 (some .boolean) :: wsAll)) B.pre
  have hta := fun w h => hts w (List.mem_cons_of_mem _ h)
  have hown : s.vm.findClass RX12 = some m.cls := findClass_of_methodNamed B.named
  have hlocks := B.notSynchronized
  subst hsz
  have hD := hD0.self (sz := s.heap.size)
  generalize hAe : va_A (wM cI cJ cZ am t) s.heap.size = A at hD ⊢
  have hA : ∀ q : Nat, s.heap.size ≤ q → A q := fun q h => by rw [← hAe]; exact Or.inr h
  have C0 : cx p s m ([.int a0, .int a1, .int a2].toArray) meth c cX12_in RX12 3 (some .boolean) D (tyM cI cJ cZ) A := ⟨hx, hb, B.returns, hml, hown, hta, hlocks, hK, hA⟩
  have hW : wl D A s (wM cI cJ cZ am t) s.heap [] := ⟨hP, hD, va_S.rf⟩
  have hl := lv_entry [.int a0, .int a1, .int a2] (n := 3) (Nat.le_of_ble_eq_true rfl)
  rw [lg_entry_eq]
  generalize (lg_sl [.int a0, .int a1, .int a2] ++ List.replicate (3 - (lg_sl [.int a0, .int a1, .int a2]).length) Slot.unset).toArray = ls at hl ⊢
  have hl : lv_has ls 3 [(0, .int a0), (1, .int a1), (2, .int a2)] := hl
  unfold m_in at ho
  refine lv_iload_n hx hb dX12_in_0 rfl (lv_at hl 0 rfl) ?_
  refine lv_iload_n hx hb dX12_in_1 rfl (lv_at hl 1 rfl) ?_
  refine lv_icmp_lt (tgt := 14) hx hb dX12_in_2 (by decide) (fun c1 => ?_) (fun c1 => ?_)
  · replace ho := ite_t c1 ho
    refine lv_iconst (v := (0 : Int32)) hx hb dX12_in_14 (by decide) ?_
    cases ho
    exact rtZ C0 hW (Or.inl (rfl : (0 : Int32) = 0)) dX12_in_15
  · replace ho := ite_f c1 ho
    refine lv_iload_n hx hb dX12_in_5 rfl (lv_at hl 0 rfl) ?_
    refine lv_iload_n hx hb dX12_in_6 rfl (lv_at hl 2 rfl) ?_
    refine lv_icmp_gt (tgt := 14) hx hb dX12_in_7 (by decide) (fun c2 => ?_) (fun c2 => ?_)
    · replace ho := ite_t c2 ho
      refine lv_iconst (v := (0 : Int32)) hx hb dX12_in_14 (by decide) ?_
      cases ho
      exact rtZ C0 hW (Or.inl (rfl : (0 : Int32) = 0)) dX12_in_15
    · replace ho := ite_f c2 ho
      refine lv_iconst (v := (1 : Int32)) hx hb dX12_in_10 (by decide) ?_
      refine lv_goto (tgt := 15) hx hb dX12_in_11 (by decide) ?_
      cases ho
      exact rtZ C0 hW (Or.inr (rfl : (1 : Int32) = 1)) dX12_in_15
noncomputable def m_puts_J27 (t : St) (v1 : Int32) (v2 : Int32) (v3 : Int32) (w1 : Int32) (w2 : Int32) : Option ((Int32 × St) ⊕ (St)) :=
  gd w1 31600 (nm (sA t 34 w1 w2) (fun t2 : St => nm (v3 + (1 : Int32)) (fun x3 : Int32 => some (.inl (x3, t2)))))
noncomputable def m_puts_B2 (v1 : Int32) (v2 : Int32) (v3 : Int32) (t : St) : Option ((Int32 × St) ⊕ (St)) :=
  if (7 : Int32) ≤ v3 then (some (.inr t)) else (if v3 = 0 then (m_puts_J27 t v1 v2 v3 (((7 : Int32) * v1) + v3) v2) else (m_puts_J27 t v1 v2 v3 (((7 : Int32) * v1) + v3) (0 : Int32)))
noncomputable def m_puts (t : St) (a1 : Int32) (a2 : Int32) : Option (St) :=
  (lp (fun x => m_puts_B2 a1 a2 x.1 x.2) ((0 : Int32), t)).bind (fun y6 => some y6)
set_option maxHeartbeats 4000000 in
set_option maxRecDepth 100000 in
theorem m_puts_L2 {p : Program} {l : Launch} {e : Env} {s : State} {m : MethodId} {args : Array Value} {below : List Frame} {meth : Method} {c : Code} {Q : State → Prop} {D : va_G} {cI cJ cZ : ClassId} {am : Nat → Nat} {A : Nat → Prop} (C0 : cx p s m args meth c cX12_puts RX12 4 none D (tyM cI cJ cZ) A) {v1 : Int32} {v2 : Int32} {y : St} (hK0 : ∀ (H : Heap) (locs : List Loc) (ls : Array Slot), wl D A s (wM cI cJ cZ am y) H locs → lv_has ls 4 [(0, .ref (am 68))] → W p l e (rmN 0 0) s m args below meth c H locs 0 0 Q (F0 m 34 ls [])) :
    ∀ (n : Nat) (v3 : Int32) (t : St), lpn (fun x => m_puts_B2 v1 v2 x.1 x.2) n (v3, t) = some y → ∀ (H : Heap) (locs : List Loc) (ls : Array Slot), wl D A s (wM cI cJ cZ am t) H locs → lv_has ls 4 [(0, .ref (am 68)), (1, .int v1), (2, .int v2), (3, .int v3)] → W p l e (rmN 0 0) s m args below meth c H locs 0 0 Q (F0 m 2 ls []) := by
  have hx := C0.1
  have hb := C0.2.1
  have hta := C0.2.2.2.2.2.1
  have hown := C0.2.2.2.2.1
  intro n
  induction n with
  | zero => intro _ _ h; cases h
  | succ n ih =>
    intro v3 t hrun H locs ls hW hl
    obtain ⟨o, ho, hrun⟩ := bd_some hrun
    have J27 : ∀ (t : St) (v3 : Int32) (w1 : Int32) (w2 : Int32) (_ : m_puts_J27 t v1 v2 v3 w1 w2 = some o) (H : Heap) (locs : List Loc) (ls : Array Slot), wl D A s (wM cI cJ cZ am t) H locs → lv_has ls 4 [(0, .ref (am 68)), (1, .int v1), (2, .int v2), (3, .int v3)] → W p l e (rmN 0 0) s m args below meth c H locs 0 0 Q (F0 m 27 ls [.int w2, .int w1, .ref (am 34)]) := by
      intro t v3 w1 w2 ho H locs ls hW hl
      unfold m_puts_J27 at ho
      obtain ⟨g1, ho⟩ := gd_some ho
      refine mST_34 C0 hW g1 dX12_puts_27 (fun H locs hW => ?_)
      obtain ⟨t2, ho, hW⟩ := nm_w (P := fun t => wl D A s (wM cI cJ cZ am t) H locs) ho hW
      obtain ⟨x3, ex3, ho⟩ := nm_x ho
      refine lv_iinc (v := x3) (lv' := [(3, .int x3), (0, .ref (am 68)), (1, .int v1), (2, .int v2)]) hx hb dX12_puts_28 hl (k := 3) rfl (by rw [ex3]; rfl) (by decide) rfl (fun ls hl => ?_)
      clear ex3
      refine lv_goto (tgt := 2) hx hb dX12_puts_31 (by decide) ?_
      cases ho
      exact ih _ _ hrun _ _ _ hW (lv_sub hl [1, 2, 3, 0] rfl)
    unfold m_puts_B2 at ho
    refine lv_iload_n hx hb dX12_puts_2 rfl (lv_at hl 3 rfl) ?_
    refine lv_bipush (v := (7 : Int32)) hx hb dX12_puts_3 (by decide) ?_
    refine lv_icmp_ge (tgt := 34) hx hb dX12_puts_5 (by decide) (fun c4 => ?_) (fun c4 => ?_)
    · replace ho := ite_t c4 ho
      cases ho
      cases hrun
      exact hK0 _ _ _ hW (lv_sub hl [0] rfl)
    · replace ho := ite_f c4 ho
      refine lv_aload_n hx hb dX12_puts_8 rfl (lv_at hl 0 rfl) ?_
      refine mGET_34 C0 hW dX12_puts_9 ?_
      refine lv_bipush (v := (7 : Int32)) hx hb dX12_puts_12 (by decide) ?_
      refine lv_iload_n hx hb dX12_puts_14 rfl (lv_at hl 1 rfl) ?_
      refine lv_imul hx hb dX12_puts_15 ?_
      refine lv_iload_n hx hb dX12_puts_16 rfl (lv_at hl 3 rfl) ?_
      refine lv_iadd hx hb dX12_puts_17 ?_
      refine lv_iload_n hx hb dX12_puts_18 rfl (lv_at hl 3 rfl) ?_
      refine lv_if_ne (tgt := 26) hx hb dX12_puts_19 (by decide) (fun c5 => ?_) (fun c5 => ?_)
      · replace ho := ite_f c5 ho
        refine lv_iconst (v := (0 : Int32)) hx hb dX12_puts_26 (by decide) ?_
        exact J27 _ _ _ _ ho _ _ _ hW (lv_sub hl [0, 1, 2, 3] rfl)
      · replace ho := ite_t c5 ho
        refine lv_iload_n hx hb dX12_puts_22 rfl (lv_at hl 2 rfl) ?_
        refine lv_goto (tgt := 27) hx hb dX12_puts_23 (by decide) ?_
        exact J27 _ _ _ _ ho _ _ _ hW (lv_sub hl [0, 1, 2, 3] rfl)
set_option maxHeartbeats 4000000 in
set_option maxRecDepth 100000 in
theorem c_m_puts (l : Launch) {D : va_G} {cI cJ cZ : ClassId} {am : Nat → Nat} (sz : Nat) (t : St) (a1 : Int32) (a2 : Int32) {t' : St} (ho : m_puts t a1 a2 = some t') : Met l yX12_puts (.code yX12_puts cX12_puts 4 none :: wsAll) (rmN 0 0) (va_Pc [.ref (am 68), .int a1, .int a2] (prW D (tyM cI cJ cZ) (wM cI cJ cZ am t) sz)) (qV D (tyM cI cJ cZ) (wM cI cJ cZ am t') (va_A (wM cI cJ cZ am t) sz)) 0 0 (va_A (wM cI cJ cZ am t) sz) := by
  refine Met.ofW (cc := cX12_puts) (maxL := 4) (ret := none) (by decide) rfl ?_
  intro p e s m args below meth c s₁ B hml hv
  obtain ⟨rfl, hsz, hP, hK, hD0⟩ := hv
  have hx := B.exec
  have hb := B.bytes
  have hts := atoms_spec (ws := (.code yX12_puts cX12_puts 4 none :: wsAll)) B.pre
  have hta := fun w h => hts w (List.mem_cons_of_mem _ h)
  have hown : s.vm.findClass RX12 = some m.cls := findClass_of_methodNamed B.named
  have hlocks := B.notSynchronized
  subst hsz
  have hD := hD0.self (sz := s.heap.size)
  generalize hAe : va_A (wM cI cJ cZ am t) s.heap.size = A at hD ⊢
  have hA : ∀ q : Nat, s.heap.size ≤ q → A q := fun q h => by rw [← hAe]; exact Or.inr h
  have C0 : cx p s m ([.ref (am 68), .int a1, .int a2].toArray) meth c cX12_puts RX12 4 none D (tyM cI cJ cZ) A := ⟨hx, hb, B.returns, hml, hown, hta, hlocks, hK, hA⟩
  have hW : wl D A s (wM cI cJ cZ am t) s.heap [] := ⟨hP, hD, va_S.rf⟩
  have hl := lv_entry [.ref (am 68), .int a1, .int a2] (n := 4) (Nat.le_of_ble_eq_true rfl)
  rw [lg_entry_eq]
  generalize (lg_sl [.ref (am 68), .int a1, .int a2] ++ List.replicate (4 - (lg_sl [.ref (am 68), .int a1, .int a2]).length) Slot.unset).toArray = ls at hl ⊢
  have hl : lv_has ls 4 [(0, .ref (am 68)), (1, .int a1), (2, .int a2)] := hl
  unfold m_puts at ho
  refine lv_iconst (v := (0 : Int32)) hx hb dX12_puts_0 (by decide) ?_
  refine lv_istore_n (lv' := [(3, .int (0 : Int32)), (0, .ref (am 68)), (1, .int a1), (2, .int a2)]) hx hb dX12_puts_1 rfl hl (by decide) rfl (fun ls hl => ?_)
  obtain ⟨y6, hc8, ho⟩ := bd_some ho
  obtain ⟨ny6, hc8⟩ := lp_to hc8
  refine m_puts_L2 C0 ?_ ny6 _ _ hc8 _ _ _ hW (lv_sub hl [1, 2, 3, 0] rfl)
  intro H locs ls hW hl
  cases ho
  exact rtV C0 hW dX12_puts_34
noncomputable def m_isStep (t : St) (a0 : Int32) : Option (Int32) :=
  (m_in t a0 (0 : Int32) (15 : Int32)).bind (fun q1 => some q1)
set_option maxHeartbeats 4000000 in
set_option maxRecDepth 100000 in
theorem c_m_isStep (l : Launch) {D : va_G} {cI cJ cZ : ClassId} {am : Nat → Nat} (sz : Nat) (t : St) (a0 : Int32) {r : Int32} (ho : m_isStep t a0 = some r) : Met l yX12_isStep (.code yX12_isStep cX12_isStep 1 (some .boolean) :: wsAll) (rmN 1 22) (va_Pc [.int a0] (prW D (tyM cI cJ cZ) (wM cI cJ cZ am t) sz)) (qZ r D (tyM cI cJ cZ) (wM cI cJ cZ am t) (va_A (wM cI cJ cZ am t) sz)) 0 0 (va_A (wM cI cJ cZ am t) sz) := by
  refine Met.ofW (cc := cX12_isStep) (maxL := 1) (ret := (some .boolean)) (by decide) rfl ?_
  intro p e s m args below meth c s₁ B hml hv
  obtain ⟨rfl, hsz, hP, hK, hD0⟩ := hv
  have hx := B.exec
  have hb := B.bytes
  have hts := atoms_spec (ws := (.code yX12_isStep cX12_isStep 1 (some .boolean) :: wsAll)) B.pre
  have hta := fun w h => hts w (List.mem_cons_of_mem _ h)
  have hown : s.vm.findClass RX12 = some m.cls := findClass_of_methodNamed B.named
  have hlocks := B.notSynchronized
  subst hsz
  have hD := hD0.self (sz := s.heap.size)
  generalize hAe : va_A (wM cI cJ cZ am t) s.heap.size = A at hD ⊢
  have hA : ∀ q : Nat, s.heap.size ≤ q → A q := fun q h => by rw [← hAe]; exact Or.inr h
  have C0 : cx p s m ([.int a0].toArray) meth c cX12_isStep RX12 1 (some .boolean) D (tyM cI cJ cZ) A := ⟨hx, hb, B.returns, hml, hown, hta, hlocks, hK, hA⟩
  have hW : wl D A s (wM cI cJ cZ am t) s.heap [] := ⟨hP, hD, va_S.rf⟩
  have hl := lv_entry [.int a0] (n := 1) (Nat.le_of_ble_eq_true rfl)
  rw [lg_entry_eq]
  generalize (lg_sl [.int a0] ++ List.replicate (1 - (lg_sl [.int a0]).length) Slot.unset).toArray = ls at hl ⊢
  have hl : lv_has ls 1 [(0, .int a0)] := hl
  unfold m_isStep at ho
  refine lv_iload_n hx hb dX12_isStep_0 rfl (lv_at hl 0 rfl) ?_
  refine lv_iconst (v := (0 : Int32)) hx hb dX12_isStep_1 (by decide) ?_
  refine lv_bipush (v := (15 : Int32)) hx hb dX12_isStep_2 (by decide) ?_
  obtain ⟨q1, hc2, ho⟩ := bd_some ho
  refine bkZ C0 hW (runS (As := [.int a0, .int (0 : Int32), .int (15 : Int32)]) (rest := []) C0 hW (c_m_in l _ t a0 (0 : Int32) (15 : Int32) (r := q1) hc2) ca_X12_in_179 rfl rfl ⟨rfl, rfl⟩ ⟨Nat.le_of_ble_eq_true rfl, Nat.le_of_ble_eq_true rfl⟩ (Nat.le_of_ble_eq_true rfl) hl.1 dX12_isStep_4 ⟨Nat.le_of_ble_eq_true rfl, Nat.le_of_ble_eq_true rfl⟩) (fun z3 H locs hW => ?_)
  cases ho
  exact rtZ C0 hW z3 dX12_isStep_7
noncomputable def m_step (t : St) (a1 : Int32) (a2 : Int32) (a3 : Int32) (a4 : Int32) : Option (Int32 × St) :=
  (m_isStep t a1).bind (fun q1 => if q1 = 0 then (some ((-2 : Int32), t)) else ((m_in t a2 (0 : Int32) (1000 : Int32)).bind (fun q5 => if q5 = 0 then (some ((-2 : Int32), t)) else ((m_in t a3 (1 : Int32) (50 : Int32)).bind (fun q9 => if q9 = 0 then (some ((-2 : Int32), t)) else ((m_in t a4 (0 : Int32) (1000 : Int32)).bind (fun q13 => if q13 = 0 then (some ((-2 : Int32), t)) else (gd a1 16 (nm (sA t 0 a1 a2) (fun t18 : St => gd a1 16 (nm (sA t18 1 a1 a3) (fun t20 : St => gd a1 16 (nm (sA t20 2 a1 a4) (fun t22 : St => some ((1 : Int32), t22)))))))))))))))
set_option maxHeartbeats 4000000 in
set_option maxRecDepth 100000 in
theorem c_m_step (l : Launch) {D : va_G} {cI cJ cZ : ClassId} {am : Nat → Nat} (sz : Nat) (t : St) (a1 : Int32) (a2 : Int32) (a3 : Int32) (a4 : Int32) {r : Int32} {t' : St} (ho : m_step t a1 a2 a3 a4 = some (r, t')) : Met l yX12_step (.code yX12_step cX12_step 5 (some .int) :: wsAll) (rmN 2 42) (va_Pc [.ref (am 68), .int a1, .int a2, .int a3, .int a4] (prW D (tyM cI cJ cZ) (wM cI cJ cZ am t) sz)) (qI r D (tyM cI cJ cZ) (wM cI cJ cZ am t') (va_A (wM cI cJ cZ am t) sz)) 0 0 (va_A (wM cI cJ cZ am t) sz) := by
  refine Met.ofW (cc := cX12_step) (maxL := 5) (ret := (some .int)) (by decide) rfl ?_
  intro p e s m args below meth c s₁ B hml hv
  obtain ⟨rfl, hsz, hP, hK, hD0⟩ := hv
  have hx := B.exec
  have hb := B.bytes
  have hts := atoms_spec (ws := (.code yX12_step cX12_step 5 (some .int) :: wsAll)) B.pre
  have hta := fun w h => hts w (List.mem_cons_of_mem _ h)
  have hown : s.vm.findClass RX12 = some m.cls := findClass_of_methodNamed B.named
  have hlocks := B.notSynchronized
  subst hsz
  have hD := hD0.self (sz := s.heap.size)
  generalize hAe : va_A (wM cI cJ cZ am t) s.heap.size = A at hD ⊢
  have hA : ∀ q : Nat, s.heap.size ≤ q → A q := fun q h => by rw [← hAe]; exact Or.inr h
  have C0 : cx p s m ([.ref (am 68), .int a1, .int a2, .int a3, .int a4].toArray) meth c cX12_step RX12 5 (some .int) D (tyM cI cJ cZ) A := ⟨hx, hb, B.returns, hml, hown, hta, hlocks, hK, hA⟩
  have hW : wl D A s (wM cI cJ cZ am t) s.heap [] := ⟨hP, hD, va_S.rf⟩
  have hl := lv_entry [.ref (am 68), .int a1, .int a2, .int a3, .int a4] (n := 5) (Nat.le_of_ble_eq_true rfl)
  rw [lg_entry_eq]
  generalize (lg_sl [.ref (am 68), .int a1, .int a2, .int a3, .int a4] ++ List.replicate (5 - (lg_sl [.ref (am 68), .int a1, .int a2, .int a3, .int a4]).length) Slot.unset).toArray = ls at hl ⊢
  have hl : lv_has ls 5 [(0, .ref (am 68)), (1, .int a1), (2, .int a2), (3, .int a3), (4, .int a4)] := hl
  unfold m_step at ho
  refine lv_iload_n hx hb dX12_step_0 rfl (lv_at hl 1 rfl) ?_
  obtain ⟨q1, hc2, ho⟩ := bd_some ho
  refine bkZ C0 hW (runS (As := [.int a1]) (rest := []) C0 hW (c_m_isStep l _ t a1 (r := q1) hc2) ca_X12_isStep_183 rfl rfl ⟨rfl, rfl⟩ ⟨Nat.le_of_ble_eq_true rfl, Nat.le_of_ble_eq_true rfl⟩ (Nat.le_of_ble_eq_true rfl) hl.1 dX12_step_1 ⟨Nat.le_of_ble_eq_true rfl, Nat.le_of_ble_eq_true rfl⟩) (fun z3 H locs hW => ?_)
  refine lv_if_eq (tgt := 40) hx hb dX12_step_4 (by decide) (fun c4 => ?_) (fun c4 => ?_)
  · replace ho := ite_t c4 ho
    refine lv_bipush (v := (-2 : Int32)) hx hb dX12_step_40 (by decide) ?_
    cases ho
    exact rtI C0 hW dX12_step_42
  · replace ho := ite_f c4 ho
    refine lv_iload_n hx hb dX12_step_7 rfl (lv_at hl 2 rfl) ?_
    refine lv_iconst (v := (0 : Int32)) hx hb dX12_step_8 (by decide) ?_
    refine lv_sipush (v := (1000 : Int32)) hx hb dX12_step_9 (by decide) ?_
    obtain ⟨q5, hc6, ho⟩ := bd_some ho
    refine bkZ C0 hW (runS (As := [.int a2, .int (0 : Int32), .int (1000 : Int32)]) (rest := []) C0 hW (c_m_in l _ t a2 (0 : Int32) (1000 : Int32) (r := q5) hc6) ca_X12_in_179 rfl rfl ⟨rfl, rfl⟩ ⟨Nat.le_of_ble_eq_true rfl, Nat.le_of_ble_eq_true rfl⟩ (Nat.le_of_ble_eq_true rfl) hl.1 dX12_step_12 ⟨Nat.le_of_ble_eq_true rfl, Nat.le_of_ble_eq_true rfl⟩) (fun z7 H locs hW => ?_)
    refine lv_if_eq (tgt := 40) hx hb dX12_step_15 (by decide) (fun c8 => ?_) (fun c8 => ?_)
    · replace ho := ite_t c8 ho
      refine lv_bipush (v := (-2 : Int32)) hx hb dX12_step_40 (by decide) ?_
      cases ho
      exact rtI C0 hW dX12_step_42
    · replace ho := ite_f c8 ho
      refine lv_iload_n hx hb dX12_step_18 rfl (lv_at hl 3 rfl) ?_
      refine lv_iconst (v := (1 : Int32)) hx hb dX12_step_19 (by decide) ?_
      refine lv_bipush (v := (50 : Int32)) hx hb dX12_step_20 (by decide) ?_
      obtain ⟨q9, hc10, ho⟩ := bd_some ho
      refine bkZ C0 hW (runS (As := [.int a3, .int (1 : Int32), .int (50 : Int32)]) (rest := []) C0 hW (c_m_in l _ t a3 (1 : Int32) (50 : Int32) (r := q9) hc10) ca_X12_in_179 rfl rfl ⟨rfl, rfl⟩ ⟨Nat.le_of_ble_eq_true rfl, Nat.le_of_ble_eq_true rfl⟩ (Nat.le_of_ble_eq_true rfl) hl.1 dX12_step_22 ⟨Nat.le_of_ble_eq_true rfl, Nat.le_of_ble_eq_true rfl⟩) (fun z11 H locs hW => ?_)
      refine lv_if_eq (tgt := 40) hx hb dX12_step_25 (by decide) (fun c12 => ?_) (fun c12 => ?_)
      · replace ho := ite_t c12 ho
        refine lv_bipush (v := (-2 : Int32)) hx hb dX12_step_40 (by decide) ?_
        cases ho
        exact rtI C0 hW dX12_step_42
      · replace ho := ite_f c12 ho
        refine lv_iload hx hb dX12_step_28 (lv_at hl 4 rfl) ?_
        refine lv_iconst (v := (0 : Int32)) hx hb dX12_step_30 (by decide) ?_
        refine lv_sipush (v := (1000 : Int32)) hx hb dX12_step_31 (by decide) ?_
        obtain ⟨q13, hc14, ho⟩ := bd_some ho
        refine bkZ C0 hW (runS (As := [.int a4, .int (0 : Int32), .int (1000 : Int32)]) (rest := []) C0 hW (c_m_in l _ t a4 (0 : Int32) (1000 : Int32) (r := q13) hc14) ca_X12_in_179 rfl rfl ⟨rfl, rfl⟩ ⟨Nat.le_of_ble_eq_true rfl, Nat.le_of_ble_eq_true rfl⟩ (Nat.le_of_ble_eq_true rfl) hl.1 dX12_step_34 ⟨Nat.le_of_ble_eq_true rfl, Nat.le_of_ble_eq_true rfl⟩) (fun z15 H locs hW => ?_)
        refine lv_if_ne (tgt := 43) hx hb dX12_step_37 (by decide) (fun c16 => ?_) (fun c16 => ?_)
        · replace ho := ite_f c16 ho
          refine lv_aload_n hx hb dX12_step_43 rfl (lv_at hl 0 rfl) ?_
          refine mGET_0 C0 hW dX12_step_44 ?_
          refine lv_iload_n hx hb dX12_step_47 rfl (lv_at hl 1 rfl) ?_
          refine lv_iload_n hx hb dX12_step_48 rfl (lv_at hl 2 rfl) ?_
          obtain ⟨g17, ho⟩ := gd_some ho
          refine mST_0 C0 hW g17 dX12_step_49 (fun H locs hW => ?_)
          obtain ⟨t18, ho, hW⟩ := nm_w (P := fun t => wl D A s (wM cI cJ cZ am t) H locs) ho hW
          refine lv_aload_n hx hb dX12_step_50 rfl (lv_at hl 0 rfl) ?_
          refine mGET_1 C0 hW dX12_step_51 ?_
          refine lv_iload_n hx hb dX12_step_54 rfl (lv_at hl 1 rfl) ?_
          refine lv_iload_n hx hb dX12_step_55 rfl (lv_at hl 3 rfl) ?_
          obtain ⟨g19, ho⟩ := gd_some ho
          refine mST_1 C0 hW g19 dX12_step_56 (fun H locs hW => ?_)
          obtain ⟨t20, ho, hW⟩ := nm_w (P := fun t => wl D A s (wM cI cJ cZ am t) H locs) ho hW
          refine lv_aload_n hx hb dX12_step_57 rfl (lv_at hl 0 rfl) ?_
          refine mGET_2 C0 hW dX12_step_58 ?_
          refine lv_iload_n hx hb dX12_step_61 rfl (lv_at hl 1 rfl) ?_
          refine lv_iload hx hb dX12_step_62 (lv_at hl 4 rfl) ?_
          obtain ⟨g21, ho⟩ := gd_some ho
          refine mST_2 C0 hW g21 dX12_step_64 (fun H locs hW => ?_)
          obtain ⟨t22, ho, hW⟩ := nm_w (P := fun t => wl D A s (wM cI cJ cZ am t) H locs) ho hW
          refine lv_iconst (v := (1 : Int32)) hx hb dX12_step_65 (by decide) ?_
          cases ho
          exact rtI C0 hW dX12_step_66
        · replace ho := ite_t c16 ho
          refine lv_bipush (v := (-2 : Int32)) hx hb dX12_step_40 (by decide) ?_
          cases ho
          exact rtI C0 hW dX12_step_42
noncomputable def m_trace (t : St) (a1 : Int32) (a2 : Int32) (a3 : Int32) : Option (Int32 × St) :=
  (m_isStep t a1).bind (fun q1 => if q1 = 0 then (some ((-2 : Int32), t)) else ((m_in t a2 (0 : Int32) (255 : Int32)).bind (fun q5 => if q5 = 0 then (some ((-2 : Int32), t)) else ((m_in t a3 (0 : Int32) (7 : Int32)).bind (fun q9 => if q9 = 0 then (some ((-2 : Int32), t)) else (gd a1 16 (nm (sA t 3 a1 a2) (fun t14 : St => gd a1 16 (nm (sA t14 4 a1 a3) (fun t16 : St => some ((1 : Int32), t16)))))))))))
set_option maxHeartbeats 4000000 in
set_option maxRecDepth 100000 in
theorem c_m_trace (l : Launch) {D : va_G} {cI cJ cZ : ClassId} {am : Nat → Nat} (sz : Nat) (t : St) (a1 : Int32) (a2 : Int32) (a3 : Int32) {r : Int32} {t' : St} (ho : m_trace t a1 a2 a3 = some (r, t')) : Met l yX12_trace (.code yX12_trace cX12_trace 4 (some .int) :: wsAll) (rmN 2 42) (va_Pc [.ref (am 68), .int a1, .int a2, .int a3] (prW D (tyM cI cJ cZ) (wM cI cJ cZ am t) sz)) (qI r D (tyM cI cJ cZ) (wM cI cJ cZ am t') (va_A (wM cI cJ cZ am t) sz)) 0 0 (va_A (wM cI cJ cZ am t) sz) := by
  refine Met.ofW (cc := cX12_trace) (maxL := 4) (ret := (some .int)) (by decide) rfl ?_
  intro p e s m args below meth c s₁ B hml hv
  obtain ⟨rfl, hsz, hP, hK, hD0⟩ := hv
  have hx := B.exec
  have hb := B.bytes
  have hts := atoms_spec (ws := (.code yX12_trace cX12_trace 4 (some .int) :: wsAll)) B.pre
  have hta := fun w h => hts w (List.mem_cons_of_mem _ h)
  have hown : s.vm.findClass RX12 = some m.cls := findClass_of_methodNamed B.named
  have hlocks := B.notSynchronized
  subst hsz
  have hD := hD0.self (sz := s.heap.size)
  generalize hAe : va_A (wM cI cJ cZ am t) s.heap.size = A at hD ⊢
  have hA : ∀ q : Nat, s.heap.size ≤ q → A q := fun q h => by rw [← hAe]; exact Or.inr h
  have C0 : cx p s m ([.ref (am 68), .int a1, .int a2, .int a3].toArray) meth c cX12_trace RX12 4 (some .int) D (tyM cI cJ cZ) A := ⟨hx, hb, B.returns, hml, hown, hta, hlocks, hK, hA⟩
  have hW : wl D A s (wM cI cJ cZ am t) s.heap [] := ⟨hP, hD, va_S.rf⟩
  have hl := lv_entry [.ref (am 68), .int a1, .int a2, .int a3] (n := 4) (Nat.le_of_ble_eq_true rfl)
  rw [lg_entry_eq]
  generalize (lg_sl [.ref (am 68), .int a1, .int a2, .int a3] ++ List.replicate (4 - (lg_sl [.ref (am 68), .int a1, .int a2, .int a3]).length) Slot.unset).toArray = ls at hl ⊢
  have hl : lv_has ls 4 [(0, .ref (am 68)), (1, .int a1), (2, .int a2), (3, .int a3)] := hl
  unfold m_trace at ho
  refine lv_iload_n hx hb dX12_trace_0 rfl (lv_at hl 1 rfl) ?_
  obtain ⟨q1, hc2, ho⟩ := bd_some ho
  refine bkZ C0 hW (runS (As := [.int a1]) (rest := []) C0 hW (c_m_isStep l _ t a1 (r := q1) hc2) ca_X12_isStep_183 rfl rfl ⟨rfl, rfl⟩ ⟨Nat.le_of_ble_eq_true rfl, Nat.le_of_ble_eq_true rfl⟩ (Nat.le_of_ble_eq_true rfl) hl.1 dX12_trace_1 ⟨Nat.le_of_ble_eq_true rfl, Nat.le_of_ble_eq_true rfl⟩) (fun z3 H locs hW => ?_)
  refine lv_if_eq (tgt := 28) hx hb dX12_trace_4 (by decide) (fun c4 => ?_) (fun c4 => ?_)
  · replace ho := ite_t c4 ho
    refine lv_bipush (v := (-2 : Int32)) hx hb dX12_trace_28 (by decide) ?_
    cases ho
    exact rtI C0 hW dX12_trace_30
  · replace ho := ite_f c4 ho
    refine lv_iload_n hx hb dX12_trace_7 rfl (lv_at hl 2 rfl) ?_
    refine lv_iconst (v := (0 : Int32)) hx hb dX12_trace_8 (by decide) ?_
    refine lv_sipush (v := (255 : Int32)) hx hb dX12_trace_9 (by decide) ?_
    obtain ⟨q5, hc6, ho⟩ := bd_some ho
    refine bkZ C0 hW (runS (As := [.int a2, .int (0 : Int32), .int (255 : Int32)]) (rest := []) C0 hW (c_m_in l _ t a2 (0 : Int32) (255 : Int32) (r := q5) hc6) ca_X12_in_179 rfl rfl ⟨rfl, rfl⟩ ⟨Nat.le_of_ble_eq_true rfl, Nat.le_of_ble_eq_true rfl⟩ (Nat.le_of_ble_eq_true rfl) hl.1 dX12_trace_12 ⟨Nat.le_of_ble_eq_true rfl, Nat.le_of_ble_eq_true rfl⟩) (fun z7 H locs hW => ?_)
    refine lv_if_eq (tgt := 28) hx hb dX12_trace_15 (by decide) (fun c8 => ?_) (fun c8 => ?_)
    · replace ho := ite_t c8 ho
      refine lv_bipush (v := (-2 : Int32)) hx hb dX12_trace_28 (by decide) ?_
      cases ho
      exact rtI C0 hW dX12_trace_30
    · replace ho := ite_f c8 ho
      refine lv_iload_n hx hb dX12_trace_18 rfl (lv_at hl 3 rfl) ?_
      refine lv_iconst (v := (0 : Int32)) hx hb dX12_trace_19 (by decide) ?_
      refine lv_bipush (v := (7 : Int32)) hx hb dX12_trace_20 (by decide) ?_
      obtain ⟨q9, hc10, ho⟩ := bd_some ho
      refine bkZ C0 hW (runS (As := [.int a3, .int (0 : Int32), .int (7 : Int32)]) (rest := []) C0 hW (c_m_in l _ t a3 (0 : Int32) (7 : Int32) (r := q9) hc10) ca_X12_in_179 rfl rfl ⟨rfl, rfl⟩ ⟨Nat.le_of_ble_eq_true rfl, Nat.le_of_ble_eq_true rfl⟩ (Nat.le_of_ble_eq_true rfl) hl.1 dX12_trace_22 ⟨Nat.le_of_ble_eq_true rfl, Nat.le_of_ble_eq_true rfl⟩) (fun z11 H locs hW => ?_)
      refine lv_if_ne (tgt := 31) hx hb dX12_trace_25 (by decide) (fun c12 => ?_) (fun c12 => ?_)
      · replace ho := ite_f c12 ho
        refine lv_aload_n hx hb dX12_trace_31 rfl (lv_at hl 0 rfl) ?_
        refine mGET_3 C0 hW dX12_trace_32 ?_
        refine lv_iload_n hx hb dX12_trace_35 rfl (lv_at hl 1 rfl) ?_
        refine lv_iload_n hx hb dX12_trace_36 rfl (lv_at hl 2 rfl) ?_
        obtain ⟨g13, ho⟩ := gd_some ho
        refine mST_3 C0 hW g13 dX12_trace_37 (fun H locs hW => ?_)
        obtain ⟨t14, ho, hW⟩ := nm_w (P := fun t => wl D A s (wM cI cJ cZ am t) H locs) ho hW
        refine lv_aload_n hx hb dX12_trace_38 rfl (lv_at hl 0 rfl) ?_
        refine mGET_4 C0 hW dX12_trace_39 ?_
        refine lv_iload_n hx hb dX12_trace_42 rfl (lv_at hl 1 rfl) ?_
        refine lv_iload_n hx hb dX12_trace_43 rfl (lv_at hl 3 rfl) ?_
        obtain ⟨g15, ho⟩ := gd_some ho
        refine mST_4 C0 hW g15 dX12_trace_44 (fun H locs hW => ?_)
        obtain ⟨t16, ho, hW⟩ := nm_w (P := fun t => wl D A s (wM cI cJ cZ am t) H locs) ho hW
        refine lv_iconst (v := (1 : Int32)) hx hb dX12_trace_45 (by decide) ?_
        cases ho
        exact rtI C0 hW dX12_trace_46
      · replace ho := ite_t c12 ho
        refine lv_bipush (v := (-2 : Int32)) hx hb dX12_trace_28 (by decide) ?_
        cases ho
        exact rtI C0 hW dX12_trace_30
noncomputable def m_stepOf (t : St) (a1 : Int32) (a2 : Int32) : Option (Int32) :=
  if a2 = 0 then (gd a1 16 (some (gA t 0 (a1).toNatClampNeg))) else (if a2 = (1 : Int32) then (gd a1 16 (some (gA t 1 (a1).toNatClampNeg))) else (if a2 = (2 : Int32) then (gd a1 16 (some (gA t 2 (a1).toNatClampNeg))) else (if a2 = (3 : Int32) then (gd a1 16 (some (gA t 3 (a1).toNatClampNeg))) else (gd a1 16 (some (gA t 4 (a1).toNatClampNeg))))))
set_option maxHeartbeats 4000000 in
set_option maxRecDepth 100000 in
theorem c_m_stepOf (l : Launch) {D : va_G} {cI cJ cZ : ClassId} {am : Nat → Nat} (sz : Nat) (t : St) (a1 : Int32) (a2 : Int32) {r : Int32} (ho : m_stepOf t a1 a2 = some r) : Met l yX12_stepOf (.code yX12_stepOf cX12_stepOf 3 (some .int) :: wsAll) (rmN 0 0) (va_Pc [.ref (am 68), .int a1, .int a2] (prW D (tyM cI cJ cZ) (wM cI cJ cZ am t) sz)) (qI r D (tyM cI cJ cZ) (wM cI cJ cZ am t) (va_A (wM cI cJ cZ am t) sz)) 0 0 (va_A (wM cI cJ cZ am t) sz) := by
  refine Met.ofW (cc := cX12_stepOf) (maxL := 3) (ret := (some .int)) (by decide) rfl ?_
  intro p e s m args below meth c s₁ B hml hv
  obtain ⟨rfl, hsz, hP, hK, hD0⟩ := hv
  have hx := B.exec
  have hb := B.bytes
  have hts := atoms_spec (ws := (.code yX12_stepOf cX12_stepOf 3 (some .int) :: wsAll)) B.pre
  have hta := fun w h => hts w (List.mem_cons_of_mem _ h)
  have hown : s.vm.findClass RX12 = some m.cls := findClass_of_methodNamed B.named
  have hlocks := B.notSynchronized
  subst hsz
  have hD := hD0.self (sz := s.heap.size)
  generalize hAe : va_A (wM cI cJ cZ am t) s.heap.size = A at hD ⊢
  have hA : ∀ q : Nat, s.heap.size ≤ q → A q := fun q h => by rw [← hAe]; exact Or.inr h
  have C0 : cx p s m ([.ref (am 68), .int a1, .int a2].toArray) meth c cX12_stepOf RX12 3 (some .int) D (tyM cI cJ cZ) A := ⟨hx, hb, B.returns, hml, hown, hta, hlocks, hK, hA⟩
  have hW : wl D A s (wM cI cJ cZ am t) s.heap [] := ⟨hP, hD, va_S.rf⟩
  have hl := lv_entry [.ref (am 68), .int a1, .int a2] (n := 3) (Nat.le_of_ble_eq_true rfl)
  rw [lg_entry_eq]
  generalize (lg_sl [.ref (am 68), .int a1, .int a2] ++ List.replicate (3 - (lg_sl [.ref (am 68), .int a1, .int a2]).length) Slot.unset).toArray = ls at hl ⊢
  have hl : lv_has ls 3 [(0, .ref (am 68)), (1, .int a1), (2, .int a2)] := hl
  unfold m_stepOf at ho
  refine lv_iload_n hx hb dX12_stepOf_0 rfl (lv_at hl 2 rfl) ?_
  refine lv_if_ne (tgt := 13) hx hb dX12_stepOf_1 (by decide) (fun c1 => ?_) (fun c1 => ?_)
  · replace ho := ite_f c1 ho
    refine lv_iload_n hx hb dX12_stepOf_13 rfl (lv_at hl 2 rfl) ?_
    refine lv_iconst (v := (1 : Int32)) hx hb dX12_stepOf_14 (by decide) ?_
    refine lv_icmp_ne (tgt := 27) hx hb dX12_stepOf_15 (by decide) (fun c2 => ?_) (fun c2 => ?_)
    · replace ho := ite_f c2 ho
      refine lv_iload_n hx hb dX12_stepOf_27 rfl (lv_at hl 2 rfl) ?_
      refine lv_iconst (v := (2 : Int32)) hx hb dX12_stepOf_28 (by decide) ?_
      refine lv_icmp_ne (tgt := 41) hx hb dX12_stepOf_29 (by decide) (fun c3 => ?_) (fun c3 => ?_)
      · replace ho := ite_f c3 ho
        refine lv_iload_n hx hb dX12_stepOf_41 rfl (lv_at hl 2 rfl) ?_
        refine lv_iconst (v := (3 : Int32)) hx hb dX12_stepOf_42 (by decide) ?_
        refine lv_icmp_ne (tgt := 55) hx hb dX12_stepOf_43 (by decide) (fun c4 => ?_) (fun c4 => ?_)
        · replace ho := ite_f c4 ho
          refine lv_aload_n hx hb dX12_stepOf_55 rfl (lv_at hl 0 rfl) ?_
          refine mGET_4 C0 hW dX12_stepOf_56 ?_
          refine lv_iload_n hx hb dX12_stepOf_59 rfl (lv_at hl 1 rfl) ?_
          obtain ⟨g5, ho⟩ := gd_some ho
          refine mLD_4 C0 hW g5 dX12_stepOf_60 ?_
          cases ho
          exact rtI C0 hW dX12_stepOf_61
        · replace ho := ite_t c4 ho
          refine lv_aload_n hx hb dX12_stepOf_46 rfl (lv_at hl 0 rfl) ?_
          refine mGET_3 C0 hW dX12_stepOf_47 ?_
          refine lv_iload_n hx hb dX12_stepOf_50 rfl (lv_at hl 1 rfl) ?_
          obtain ⟨g6, ho⟩ := gd_some ho
          refine mLD_3 C0 hW g6 dX12_stepOf_51 ?_
          refine lv_goto (tgt := 61) hx hb dX12_stepOf_52 (by decide) ?_
          cases ho
          exact rtI C0 hW dX12_stepOf_61
      · replace ho := ite_t c3 ho
        refine lv_aload_n hx hb dX12_stepOf_32 rfl (lv_at hl 0 rfl) ?_
        refine mGET_2 C0 hW dX12_stepOf_33 ?_
        refine lv_iload_n hx hb dX12_stepOf_36 rfl (lv_at hl 1 rfl) ?_
        obtain ⟨g7, ho⟩ := gd_some ho
        refine mLD_2 C0 hW g7 dX12_stepOf_37 ?_
        refine lv_goto (tgt := 61) hx hb dX12_stepOf_38 (by decide) ?_
        cases ho
        exact rtI C0 hW dX12_stepOf_61
    · replace ho := ite_t c2 ho
      refine lv_aload_n hx hb dX12_stepOf_18 rfl (lv_at hl 0 rfl) ?_
      refine mGET_1 C0 hW dX12_stepOf_19 ?_
      refine lv_iload_n hx hb dX12_stepOf_22 rfl (lv_at hl 1 rfl) ?_
      obtain ⟨g8, ho⟩ := gd_some ho
      refine mLD_1 C0 hW g8 dX12_stepOf_23 ?_
      refine lv_goto (tgt := 61) hx hb dX12_stepOf_24 (by decide) ?_
      cases ho
      exact rtI C0 hW dX12_stepOf_61
  · replace ho := ite_t c1 ho
    refine lv_aload_n hx hb dX12_stepOf_4 rfl (lv_at hl 0 rfl) ?_
    refine mGET_0 C0 hW dX12_stepOf_5 ?_
    refine lv_iload_n hx hb dX12_stepOf_8 rfl (lv_at hl 1 rfl) ?_
    obtain ⟨g9, ho⟩ := gd_some ho
    refine mLD_0 C0 hW g9 dX12_stepOf_9 ?_
    refine lv_goto (tgt := 61) hx hb dX12_stepOf_10 (by decide) ?_
    cases ho
    exact rtI C0 hW dX12_stepOf_61
noncomputable def m_about (t : St) (a1 : Int32) (a2 : Int32) : Option (Int32) :=
  (m_isStep t a1).bind (fun q1 => if q1 = 0 then (some (-2 : Int32)) else ((m_in t a2 (0 : Int32) (4 : Int32)).bind (fun q5 => if q5 = 0 then (some (-2 : Int32)) else ((m_stepOf t a1 a2).bind (fun q9 => some q9)))))
set_option maxHeartbeats 4000000 in
set_option maxRecDepth 100000 in
theorem c_m_about (l : Launch) {D : va_G} {cI cJ cZ : ClassId} {am : Nat → Nat} (sz : Nat) (t : St) (a1 : Int32) (a2 : Int32) {r : Int32} (ho : m_about t a1 a2 = some r) : Met l yX12_about (.code yX12_about cX12_about 3 (some .int) :: wsAll) (rmN 2 42) (va_Pc [.ref (am 68), .int a1, .int a2] (prW D (tyM cI cJ cZ) (wM cI cJ cZ am t) sz)) (qI r D (tyM cI cJ cZ) (wM cI cJ cZ am t) (va_A (wM cI cJ cZ am t) sz)) 0 0 (va_A (wM cI cJ cZ am t) sz) := by
  refine Met.ofW (cc := cX12_about) (maxL := 3) (ret := (some .int)) (by decide) rfl ?_
  intro p e s m args below meth c s₁ B hml hv
  obtain ⟨rfl, hsz, hP, hK, hD0⟩ := hv
  have hx := B.exec
  have hb := B.bytes
  have hts := atoms_spec (ws := (.code yX12_about cX12_about 3 (some .int) :: wsAll)) B.pre
  have hta := fun w h => hts w (List.mem_cons_of_mem _ h)
  have hown : s.vm.findClass RX12 = some m.cls := findClass_of_methodNamed B.named
  have hlocks := B.notSynchronized
  subst hsz
  have hD := hD0.self (sz := s.heap.size)
  generalize hAe : va_A (wM cI cJ cZ am t) s.heap.size = A at hD ⊢
  have hA : ∀ q : Nat, s.heap.size ≤ q → A q := fun q h => by rw [← hAe]; exact Or.inr h
  have C0 : cx p s m ([.ref (am 68), .int a1, .int a2].toArray) meth c cX12_about RX12 3 (some .int) D (tyM cI cJ cZ) A := ⟨hx, hb, B.returns, hml, hown, hta, hlocks, hK, hA⟩
  have hW : wl D A s (wM cI cJ cZ am t) s.heap [] := ⟨hP, hD, va_S.rf⟩
  have hl := lv_entry [.ref (am 68), .int a1, .int a2] (n := 3) (Nat.le_of_ble_eq_true rfl)
  rw [lg_entry_eq]
  generalize (lg_sl [.ref (am 68), .int a1, .int a2] ++ List.replicate (3 - (lg_sl [.ref (am 68), .int a1, .int a2]).length) Slot.unset).toArray = ls at hl ⊢
  have hl : lv_has ls 3 [(0, .ref (am 68)), (1, .int a1), (2, .int a2)] := hl
  unfold m_about at ho
  refine lv_iload_n hx hb dX12_about_0 rfl (lv_at hl 1 rfl) ?_
  obtain ⟨q1, hc2, ho⟩ := bd_some ho
  refine bkZ C0 hW (runS (As := [.int a1]) (rest := []) C0 hW (c_m_isStep l _ t a1 (r := q1) hc2) ca_X12_isStep_183 rfl rfl ⟨rfl, rfl⟩ ⟨Nat.le_of_ble_eq_true rfl, Nat.le_of_ble_eq_true rfl⟩ (Nat.le_of_ble_eq_true rfl) hl.1 dX12_about_1 ⟨Nat.le_of_ble_eq_true rfl, Nat.le_of_ble_eq_true rfl⟩) (fun z3 H locs hW => ?_)
  refine lv_if_eq (tgt := 25) hx hb dX12_about_4 (by decide) (fun c4 => ?_) (fun c4 => ?_)
  · replace ho := ite_t c4 ho
    refine lv_bipush (v := (-2 : Int32)) hx hb dX12_about_25 (by decide) ?_
    cases ho
    exact rtI C0 hW dX12_about_27
  · replace ho := ite_f c4 ho
    refine lv_iload_n hx hb dX12_about_7 rfl (lv_at hl 2 rfl) ?_
    refine lv_iconst (v := (0 : Int32)) hx hb dX12_about_8 (by decide) ?_
    refine lv_iconst (v := (4 : Int32)) hx hb dX12_about_9 (by decide) ?_
    obtain ⟨q5, hc6, ho⟩ := bd_some ho
    refine bkZ C0 hW (runS (As := [.int a2, .int (0 : Int32), .int (4 : Int32)]) (rest := []) C0 hW (c_m_in l _ t a2 (0 : Int32) (4 : Int32) (r := q5) hc6) ca_X12_in_179 rfl rfl ⟨rfl, rfl⟩ ⟨Nat.le_of_ble_eq_true rfl, Nat.le_of_ble_eq_true rfl⟩ (Nat.le_of_ble_eq_true rfl) hl.1 dX12_about_10 ⟨Nat.le_of_ble_eq_true rfl, Nat.le_of_ble_eq_true rfl⟩) (fun z7 H locs hW => ?_)
    refine lv_if_eq (tgt := 25) hx hb dX12_about_13 (by decide) (fun c8 => ?_) (fun c8 => ?_)
    · replace ho := ite_t c8 ho
      refine lv_bipush (v := (-2 : Int32)) hx hb dX12_about_25 (by decide) ?_
      cases ho
      exact rtI C0 hW dX12_about_27
    · replace ho := ite_f c8 ho
      refine lv_aload_n hx hb dX12_about_16 rfl (lv_at hl 0 rfl) ?_
      refine lv_iload_n hx hb dX12_about_17 rfl (lv_at hl 1 rfl) ?_
      refine lv_iload_n hx hb dX12_about_18 rfl (lv_at hl 2 rfl) ?_
      obtain ⟨q9, hc10, ho⟩ := bd_some ho
      refine bkI C0 hW (runV (As := [.int a1, .int a2]) (rest := []) C0 hW (c_m_stepOf l _ t a1 a2 (r := q9) hc10) ca_X12_stepOf_187 0 12 rfl rfl rfl rfl rfl ⟨rfl, rfl⟩ ⟨Nat.le_of_ble_eq_true rfl, Nat.le_of_ble_eq_true rfl⟩ (Nat.le_of_ble_eq_true rfl) hl.1 dX12_about_19 ⟨Nat.le_of_ble_eq_true rfl, Nat.le_of_ble_eq_true rfl⟩) (fun H locs hW => ?_)
      refine lv_goto (tgt := 27) hx hb dX12_about_22 (by decide) ?_
      cases ho
      exact rtI C0 hW dX12_about_27
noncomputable def m_write (t : St) (a1 : Int32) : Option (Int32 × St) :=
  (m_in t a1 (0 : Int32) (127 : Int32)).bind (fun q1 => if q1 = 0 then (some ((-2 : Int32), t)) else (if (gI t 5) = (80 : Int32) then (some ((-4 : Int32), t)) else (gd (gI t 5) 80 (nm (sA t 6 (gI t 5) a1) (fun t7 : St => nm (sI t7 5 ((gI t7 5) + (1 : Int32))) (fun t8 : St => some ((gI t8 5), t8)))))))
set_option maxHeartbeats 4000000 in
set_option maxRecDepth 100000 in
theorem c_m_write (l : Launch) {D : va_G} {cI cJ cZ : ClassId} {am : Nat → Nat} (sz : Nat) (t : St) (a1 : Int32) {r : Int32} {t' : St} (ho : m_write t a1 = some (r, t')) : Met l yX12_write (.code yX12_write cX12_write 2 (some .int) :: wsAll) (rmN 1 22) (va_Pc [.ref (am 68), .int a1] (prW D (tyM cI cJ cZ) (wM cI cJ cZ am t) sz)) (qI r D (tyM cI cJ cZ) (wM cI cJ cZ am t') (va_A (wM cI cJ cZ am t) sz)) 0 0 (va_A (wM cI cJ cZ am t) sz) := by
  refine Met.ofW (cc := cX12_write) (maxL := 2) (ret := (some .int)) (by decide) rfl ?_
  intro p e s m args below meth c s₁ B hml hv
  obtain ⟨rfl, hsz, hP, hK, hD0⟩ := hv
  have hx := B.exec
  have hb := B.bytes
  have hts := atoms_spec (ws := (.code yX12_write cX12_write 2 (some .int) :: wsAll)) B.pre
  have hta := fun w h => hts w (List.mem_cons_of_mem _ h)
  have hown : s.vm.findClass RX12 = some m.cls := findClass_of_methodNamed B.named
  have hlocks := B.notSynchronized
  subst hsz
  have hD := hD0.self (sz := s.heap.size)
  generalize hAe : va_A (wM cI cJ cZ am t) s.heap.size = A at hD ⊢
  have hA : ∀ q : Nat, s.heap.size ≤ q → A q := fun q h => by rw [← hAe]; exact Or.inr h
  have C0 : cx p s m ([.ref (am 68), .int a1].toArray) meth c cX12_write RX12 2 (some .int) D (tyM cI cJ cZ) A := ⟨hx, hb, B.returns, hml, hown, hta, hlocks, hK, hA⟩
  have hW : wl D A s (wM cI cJ cZ am t) s.heap [] := ⟨hP, hD, va_S.rf⟩
  have hl := lv_entry [.ref (am 68), .int a1] (n := 2) (Nat.le_of_ble_eq_true rfl)
  rw [lg_entry_eq]
  generalize (lg_sl [.ref (am 68), .int a1] ++ List.replicate (2 - (lg_sl [.ref (am 68), .int a1]).length) Slot.unset).toArray = ls at hl ⊢
  have hl : lv_has ls 2 [(0, .ref (am 68)), (1, .int a1)] := hl
  unfold m_write at ho
  refine lv_iload_n hx hb dX12_write_0 rfl (lv_at hl 1 rfl) ?_
  refine lv_iconst (v := (0 : Int32)) hx hb dX12_write_1 (by decide) ?_
  refine lv_bipush (v := (127 : Int32)) hx hb dX12_write_2 (by decide) ?_
  obtain ⟨q1, hc2, ho⟩ := bd_some ho
  refine bkZ C0 hW (runS (As := [.int a1, .int (0 : Int32), .int (127 : Int32)]) (rest := []) C0 hW (c_m_in l _ t a1 (0 : Int32) (127 : Int32) (r := q1) hc2) ca_X12_in_179 rfl rfl ⟨rfl, rfl⟩ ⟨Nat.le_of_ble_eq_true rfl, Nat.le_of_ble_eq_true rfl⟩ (Nat.le_of_ble_eq_true rfl) hl.1 dX12_write_4 ⟨Nat.le_of_ble_eq_true rfl, Nat.le_of_ble_eq_true rfl⟩) (fun z3 H locs hW => ?_)
  refine lv_if_ne (tgt := 13) hx hb dX12_write_7 (by decide) (fun c4 => ?_) (fun c4 => ?_)
  · replace ho := ite_f c4 ho
    refine lv_aload_n hx hb dX12_write_13 rfl (lv_at hl 0 rfl) ?_
    refine mGET_5 C0 hW dX12_write_14 ?_
    refine lv_bipush (v := (80 : Int32)) hx hb dX12_write_17 (by decide) ?_
    refine lv_icmp_ne (tgt := 25) hx hb dX12_write_19 (by decide) (fun c5 => ?_) (fun c5 => ?_)
    · replace ho := ite_f c5 ho
      refine lv_aload_n hx hb dX12_write_25 rfl (lv_at hl 0 rfl) ?_
      refine mGET_6 C0 hW dX12_write_26 ?_
      refine lv_aload_n hx hb dX12_write_29 rfl (lv_at hl 0 rfl) ?_
      refine mGET_5 C0 hW dX12_write_30 ?_
      refine lv_iload_n hx hb dX12_write_33 rfl (lv_at hl 1 rfl) ?_
      obtain ⟨g6, ho⟩ := gd_some ho
      refine mST_6 C0 hW g6 dX12_write_34 (fun H locs hW => ?_)
      obtain ⟨t7, ho, hW⟩ := nm_w (P := fun t => wl D A s (wM cI cJ cZ am t) H locs) ho hW
      refine lv_aload_n hx hb dX12_write_35 rfl (lv_at hl 0 rfl) ?_
      refine lv_dup hx hb dX12_write_36 rfl ?_
      refine mGET_5 C0 hW dX12_write_37 ?_
      refine lv_iconst (v := (1 : Int32)) hx hb dX12_write_40 (by decide) ?_
      refine lv_iadd hx hb dX12_write_41 ?_
      refine mPUT_5 C0 hW dX12_write_42 (fun H locs hW => ?_)
      obtain ⟨t8, ho, hW⟩ := nm_w (P := fun t => wl D A s (wM cI cJ cZ am t) H locs) ho hW
      refine lv_aload_n hx hb dX12_write_45 rfl (lv_at hl 0 rfl) ?_
      refine mGET_5 C0 hW dX12_write_46 ?_
      cases ho
      exact rtI C0 hW dX12_write_49
    · replace ho := ite_t c5 ho
      refine lv_bipush (v := (-4 : Int32)) hx hb dX12_write_22 (by decide) ?_
      cases ho
      exact rtI C0 hW dX12_write_24
  · replace ho := ite_t c4 ho
    refine lv_bipush (v := (-2 : Int32)) hx hb dX12_write_10 (by decide) ?_
    cases ho
    exact rtI C0 hW dX12_write_12
noncomputable def m_erase (t : St) : Option (Int32 × St) :=
  nm (gI t 5) (fun x1 : Int32 => nm (sI t 5 (0 : Int32)) (fun t2 : St => some (x1, t2)))
set_option maxHeartbeats 4000000 in
set_option maxRecDepth 100000 in
theorem c_m_erase (l : Launch) {D : va_G} {cI cJ cZ : ClassId} {am : Nat → Nat} (sz : Nat) (t : St) {r : Int32} {t' : St} (ho : m_erase t = some (r, t')) : Met l yX12_erase (.code yX12_erase cX12_erase 2 (some .int) :: wsAll) (rmN 0 0) (va_Pc [.ref (am 68)] (prW D (tyM cI cJ cZ) (wM cI cJ cZ am t) sz)) (qI r D (tyM cI cJ cZ) (wM cI cJ cZ am t') (va_A (wM cI cJ cZ am t) sz)) 0 0 (va_A (wM cI cJ cZ am t) sz) := by
  refine Met.ofW (cc := cX12_erase) (maxL := 2) (ret := (some .int)) (by decide) rfl ?_
  intro p e s m args below meth c s₁ B hml hv
  obtain ⟨rfl, hsz, hP, hK, hD0⟩ := hv
  have hx := B.exec
  have hb := B.bytes
  have hts := atoms_spec (ws := (.code yX12_erase cX12_erase 2 (some .int) :: wsAll)) B.pre
  have hta := fun w h => hts w (List.mem_cons_of_mem _ h)
  have hown : s.vm.findClass RX12 = some m.cls := findClass_of_methodNamed B.named
  have hlocks := B.notSynchronized
  subst hsz
  have hD := hD0.self (sz := s.heap.size)
  generalize hAe : va_A (wM cI cJ cZ am t) s.heap.size = A at hD ⊢
  have hA : ∀ q : Nat, s.heap.size ≤ q → A q := fun q h => by rw [← hAe]; exact Or.inr h
  have C0 : cx p s m ([.ref (am 68)].toArray) meth c cX12_erase RX12 2 (some .int) D (tyM cI cJ cZ) A := ⟨hx, hb, B.returns, hml, hown, hta, hlocks, hK, hA⟩
  have hW : wl D A s (wM cI cJ cZ am t) s.heap [] := ⟨hP, hD, va_S.rf⟩
  have hl := lv_entry [.ref (am 68)] (n := 2) (Nat.le_of_ble_eq_true rfl)
  rw [lg_entry_eq]
  generalize (lg_sl [.ref (am 68)] ++ List.replicate (2 - (lg_sl [.ref (am 68)]).length) Slot.unset).toArray = ls at hl ⊢
  have hl : lv_has ls 2 [(0, .ref (am 68))] := hl
  unfold m_erase at ho
  refine lv_aload_n hx hb dX12_erase_0 rfl (lv_at hl 0 rfl) ?_
  refine mGET_5 C0 hW dX12_erase_1 ?_
  refine lv_nmi ho (fun x1 ho => ?_)
  refine lv_istore_n (lv' := [(1, .int x1), (0, .ref (am 68))]) hx hb dX12_erase_4 rfl hl (by decide) rfl (fun ls hl => ?_)
  refine lv_aload_n hx hb dX12_erase_5 rfl (lv_at hl 1 rfl) ?_
  refine lv_iconst (v := (0 : Int32)) hx hb dX12_erase_6 (by decide) ?_
  refine mPUT_5 C0 hW dX12_erase_7 (fun H locs hW => ?_)
  obtain ⟨t2, ho, hW⟩ := nm_w (P := fun t => wl D A s (wM cI cJ cZ am t) H locs) ho hW
  refine lv_iload_n hx hb dX12_erase_10 rfl (lv_at hl 0 rfl) ?_
  cases ho
  exact rtI C0 hW dX12_erase_11
noncomputable def m_newKnot (t : St) (a1 : Int32) : Option (Int32 × St) :=
  nm (gI t 7) (fun x1 : Int32 => gd x1 400 (nm (sA t 8 x1 a1) (fun t3 : St => gd x1 400 (nm (sA t3 9 x1 (0 : Int32)) (fun t5 : St => gd x1 400 (nm (sA t5 10 x1 (-1 : Int32)) (fun t7 : St => gd x1 400 (nm (sA t7 11 x1 (gI t7 13)) (fun t9 : St => gd x1 400 (nm (sA t9 12 x1 (0 : Int32)) (fun t11 : St => gd x1 400 (nm (sA t11 15 x1 (0 : Int32)) (fun t13 : St => nm (sI t13 7 ((gI t13 7) + (1 : Int32))) (fun t14 : St => some (x1, t14)))))))))))))))
set_option maxHeartbeats 4000000 in
set_option maxRecDepth 100000 in
theorem c_m_newKnot (l : Launch) {D : va_G} {cI cJ cZ : ClassId} {am : Nat → Nat} (sz : Nat) (t : St) (a1 : Int32) {r : Int32} {t' : St} (ho : m_newKnot t a1 = some (r, t')) : Met l yX12_newKnot (.code yX12_newKnot cX12_newKnot 3 (some .int) :: wsAll) (rmN 0 0) (va_Pc [.ref (am 68), .int a1] (prW D (tyM cI cJ cZ) (wM cI cJ cZ am t) sz)) (qI r D (tyM cI cJ cZ) (wM cI cJ cZ am t') (va_A (wM cI cJ cZ am t) sz)) 0 0 (va_A (wM cI cJ cZ am t) sz) := by
  refine Met.ofW (cc := cX12_newKnot) (maxL := 3) (ret := (some .int)) (by decide) rfl ?_
  intro p e s m args below meth c s₁ B hml hv
  obtain ⟨rfl, hsz, hP, hK, hD0⟩ := hv
  have hx := B.exec
  have hb := B.bytes
  have hts := atoms_spec (ws := (.code yX12_newKnot cX12_newKnot 3 (some .int) :: wsAll)) B.pre
  have hta := fun w h => hts w (List.mem_cons_of_mem _ h)
  have hown : s.vm.findClass RX12 = some m.cls := findClass_of_methodNamed B.named
  have hlocks := B.notSynchronized
  subst hsz
  have hD := hD0.self (sz := s.heap.size)
  generalize hAe : va_A (wM cI cJ cZ am t) s.heap.size = A at hD ⊢
  have hA : ∀ q : Nat, s.heap.size ≤ q → A q := fun q h => by rw [← hAe]; exact Or.inr h
  have C0 : cx p s m ([.ref (am 68), .int a1].toArray) meth c cX12_newKnot RX12 3 (some .int) D (tyM cI cJ cZ) A := ⟨hx, hb, B.returns, hml, hown, hta, hlocks, hK, hA⟩
  have hW : wl D A s (wM cI cJ cZ am t) s.heap [] := ⟨hP, hD, va_S.rf⟩
  have hl := lv_entry [.ref (am 68), .int a1] (n := 3) (Nat.le_of_ble_eq_true rfl)
  rw [lg_entry_eq]
  generalize (lg_sl [.ref (am 68), .int a1] ++ List.replicate (3 - (lg_sl [.ref (am 68), .int a1]).length) Slot.unset).toArray = ls at hl ⊢
  have hl : lv_has ls 3 [(0, .ref (am 68)), (1, .int a1)] := hl
  unfold m_newKnot at ho
  refine lv_aload_n hx hb dX12_newKnot_0 rfl (lv_at hl 0 rfl) ?_
  refine mGET_7 C0 hW dX12_newKnot_1 ?_
  refine lv_nmi ho (fun x1 ho => ?_)
  refine lv_istore_n (lv' := [(2, .int x1), (0, .ref (am 68)), (1, .int a1)]) hx hb dX12_newKnot_4 rfl hl (by decide) rfl (fun ls hl => ?_)
  refine lv_aload_n hx hb dX12_newKnot_5 rfl (lv_at hl 1 rfl) ?_
  refine mGET_8 C0 hW dX12_newKnot_6 ?_
  refine lv_iload_n hx hb dX12_newKnot_9 rfl (lv_at hl 0 rfl) ?_
  refine lv_iload_n hx hb dX12_newKnot_10 rfl (lv_at hl 2 rfl) ?_
  obtain ⟨g2, ho⟩ := gd_some ho
  refine mST_8 C0 hW g2 dX12_newKnot_11 (fun H locs hW => ?_)
  obtain ⟨t3, ho, hW⟩ := nm_w (P := fun t => wl D A s (wM cI cJ cZ am t) H locs) ho hW
  refine lv_aload_n hx hb dX12_newKnot_12 rfl (lv_at hl 1 rfl) ?_
  refine mGET_9 C0 hW dX12_newKnot_13 ?_
  refine lv_iload_n hx hb dX12_newKnot_16 rfl (lv_at hl 0 rfl) ?_
  refine lv_iconst (v := (0 : Int32)) hx hb dX12_newKnot_17 (by decide) ?_
  obtain ⟨g4, ho⟩ := gd_some ho
  refine mST_9 C0 hW g4 dX12_newKnot_18 (fun H locs hW => ?_)
  obtain ⟨t5, ho, hW⟩ := nm_w (P := fun t => wl D A s (wM cI cJ cZ am t) H locs) ho hW
  refine lv_aload_n hx hb dX12_newKnot_19 rfl (lv_at hl 1 rfl) ?_
  refine mGET_10 C0 hW dX12_newKnot_20 ?_
  refine lv_iload_n hx hb dX12_newKnot_23 rfl (lv_at hl 0 rfl) ?_
  refine lv_iconst (v := (-1 : Int32)) hx hb dX12_newKnot_24 (by decide) ?_
  obtain ⟨g6, ho⟩ := gd_some ho
  refine mST_10 C0 hW g6 dX12_newKnot_25 (fun H locs hW => ?_)
  obtain ⟨t7, ho, hW⟩ := nm_w (P := fun t => wl D A s (wM cI cJ cZ am t) H locs) ho hW
  refine lv_aload_n hx hb dX12_newKnot_26 rfl (lv_at hl 1 rfl) ?_
  refine mGET_11 C0 hW dX12_newKnot_27 ?_
  refine lv_iload_n hx hb dX12_newKnot_30 rfl (lv_at hl 0 rfl) ?_
  refine lv_aload_n hx hb dX12_newKnot_31 rfl (lv_at hl 1 rfl) ?_
  refine mGET_13 C0 hW dX12_newKnot_32 ?_
  obtain ⟨g8, ho⟩ := gd_some ho
  refine mST_11 C0 hW g8 dX12_newKnot_35 (fun H locs hW => ?_)
  obtain ⟨t9, ho, hW⟩ := nm_w (P := fun t => wl D A s (wM cI cJ cZ am t) H locs) ho hW
  refine lv_aload_n hx hb dX12_newKnot_36 rfl (lv_at hl 1 rfl) ?_
  refine mGET_12 C0 hW dX12_newKnot_37 ?_
  refine lv_iload_n hx hb dX12_newKnot_40 rfl (lv_at hl 0 rfl) ?_
  refine lv_iconst (v := (0 : Int32)) hx hb dX12_newKnot_41 (by decide) ?_
  obtain ⟨g10, ho⟩ := gd_some ho
  refine mST_12 C0 hW g10 dX12_newKnot_42 (fun H locs hW => ?_)
  obtain ⟨t11, ho, hW⟩ := nm_w (P := fun t => wl D A s (wM cI cJ cZ am t) H locs) ho hW
  refine lv_aload_n hx hb dX12_newKnot_43 rfl (lv_at hl 1 rfl) ?_
  refine mGET_15 C0 hW dX12_newKnot_44 ?_
  refine lv_iload_n hx hb dX12_newKnot_47 rfl (lv_at hl 0 rfl) ?_
  refine lv_iconst (v := (0 : Int32)) hx hb dX12_newKnot_48 (by decide) ?_
  obtain ⟨g12, ho⟩ := gd_some ho
  refine mST_15 C0 hW g12 dX12_newKnot_49 (fun H locs hW => ?_)
  obtain ⟨t13, ho, hW⟩ := nm_w (P := fun t => wl D A s (wM cI cJ cZ am t) H locs) ho hW
  refine lv_aload_n hx hb dX12_newKnot_50 rfl (lv_at hl 1 rfl) ?_
  refine lv_dup hx hb dX12_newKnot_51 rfl ?_
  refine mGET_7 C0 hW dX12_newKnot_52 ?_
  refine lv_iconst (v := (1 : Int32)) hx hb dX12_newKnot_55 (by decide) ?_
  refine lv_iadd hx hb dX12_newKnot_56 ?_
  refine mPUT_7 C0 hW dX12_newKnot_57 (fun H locs hW => ?_)
  obtain ⟨t14, ho, hW⟩ := nm_w (P := fun t => wl D A s (wM cI cJ cZ am t) H locs) ho hW
  refine lv_iload_n hx hb dX12_newKnot_60 rfl (lv_at hl 0 rfl) ?_
  cases ho
  exact rtI C0 hW dX12_newKnot_61
noncomputable def m_comes (t : St) (a1 : Int32) (a2 : Int32) : Option (St) :=
  gd (gI t 13) 20000 (nm (sA t 14 (gI t 13) a2) (fun t2 : St => nm (sI t2 13 ((gI t2 13) + (1 : Int32))) (fun t3 : St => gd a1 400 (gd a1 400 (nm (sA t3 12 a1 ((gA t3 12 (a1).toNatClampNeg) + (1 : Int32))) (fun t6 : St => gd a1 400 (gd a2 400 (gd a1 400 (nm (sA t6 15 a1 ((gA t6 15 (a1).toNatClampNeg) ||| (gA t6 15 (a2).toNatClampNeg))) (fun t10 : St => some t10))))))))))
set_option maxHeartbeats 4000000 in
set_option maxRecDepth 100000 in
theorem c_m_comes (l : Launch) {D : va_G} {cI cJ cZ : ClassId} {am : Nat → Nat} (sz : Nat) (t : St) (a1 : Int32) (a2 : Int32) {t' : St} (ho : m_comes t a1 a2 = some t') : Met l yX12_comes (.code yX12_comes cX12_comes 3 none :: wsAll) (rmN 0 0) (va_Pc [.ref (am 68), .int a1, .int a2] (prW D (tyM cI cJ cZ) (wM cI cJ cZ am t) sz)) (qV D (tyM cI cJ cZ) (wM cI cJ cZ am t') (va_A (wM cI cJ cZ am t) sz)) 0 0 (va_A (wM cI cJ cZ am t) sz) := by
  refine Met.ofW (cc := cX12_comes) (maxL := 3) (ret := none) (by decide) rfl ?_
  intro p e s m args below meth c s₁ B hml hv
  obtain ⟨rfl, hsz, hP, hK, hD0⟩ := hv
  have hx := B.exec
  have hb := B.bytes
  have hts := atoms_spec (ws := (.code yX12_comes cX12_comes 3 none :: wsAll)) B.pre
  have hta := fun w h => hts w (List.mem_cons_of_mem _ h)
  have hown : s.vm.findClass RX12 = some m.cls := findClass_of_methodNamed B.named
  have hlocks := B.notSynchronized
  subst hsz
  have hD := hD0.self (sz := s.heap.size)
  generalize hAe : va_A (wM cI cJ cZ am t) s.heap.size = A at hD ⊢
  have hA : ∀ q : Nat, s.heap.size ≤ q → A q := fun q h => by rw [← hAe]; exact Or.inr h
  have C0 : cx p s m ([.ref (am 68), .int a1, .int a2].toArray) meth c cX12_comes RX12 3 none D (tyM cI cJ cZ) A := ⟨hx, hb, B.returns, hml, hown, hta, hlocks, hK, hA⟩
  have hW : wl D A s (wM cI cJ cZ am t) s.heap [] := ⟨hP, hD, va_S.rf⟩
  have hl := lv_entry [.ref (am 68), .int a1, .int a2] (n := 3) (Nat.le_of_ble_eq_true rfl)
  rw [lg_entry_eq]
  generalize (lg_sl [.ref (am 68), .int a1, .int a2] ++ List.replicate (3 - (lg_sl [.ref (am 68), .int a1, .int a2]).length) Slot.unset).toArray = ls at hl ⊢
  have hl : lv_has ls 3 [(0, .ref (am 68)), (1, .int a1), (2, .int a2)] := hl
  unfold m_comes at ho
  refine lv_aload_n hx hb dX12_comes_0 rfl (lv_at hl 0 rfl) ?_
  refine mGET_14 C0 hW dX12_comes_1 ?_
  refine lv_aload_n hx hb dX12_comes_4 rfl (lv_at hl 0 rfl) ?_
  refine mGET_13 C0 hW dX12_comes_5 ?_
  refine lv_iload_n hx hb dX12_comes_8 rfl (lv_at hl 2 rfl) ?_
  obtain ⟨g1, ho⟩ := gd_some ho
  refine mST_14 C0 hW g1 dX12_comes_9 (fun H locs hW => ?_)
  obtain ⟨t2, ho, hW⟩ := nm_w (P := fun t => wl D A s (wM cI cJ cZ am t) H locs) ho hW
  refine lv_aload_n hx hb dX12_comes_10 rfl (lv_at hl 0 rfl) ?_
  refine lv_dup hx hb dX12_comes_11 rfl ?_
  refine mGET_13 C0 hW dX12_comes_12 ?_
  refine lv_iconst (v := (1 : Int32)) hx hb dX12_comes_15 (by decide) ?_
  refine lv_iadd hx hb dX12_comes_16 ?_
  refine mPUT_13 C0 hW dX12_comes_17 (fun H locs hW => ?_)
  obtain ⟨t3, ho, hW⟩ := nm_w (P := fun t => wl D A s (wM cI cJ cZ am t) H locs) ho hW
  refine lv_aload_n hx hb dX12_comes_20 rfl (lv_at hl 0 rfl) ?_
  refine mGET_12 C0 hW dX12_comes_21 ?_
  refine lv_iload_n hx hb dX12_comes_24 rfl (lv_at hl 1 rfl) ?_
  refine lv_dup2_11 hx hb dX12_comes_25 rfl rfl ?_
  obtain ⟨g4, ho⟩ := gd_some ho
  refine mLD_12 C0 hW g4 dX12_comes_26 ?_
  refine lv_iconst (v := (1 : Int32)) hx hb dX12_comes_27 (by decide) ?_
  refine lv_iadd hx hb dX12_comes_28 ?_
  obtain ⟨g5, ho⟩ := gd_some ho
  refine mST_12 C0 hW g5 dX12_comes_29 (fun H locs hW => ?_)
  obtain ⟨t6, ho, hW⟩ := nm_w (P := fun t => wl D A s (wM cI cJ cZ am t) H locs) ho hW
  refine lv_aload_n hx hb dX12_comes_30 rfl (lv_at hl 0 rfl) ?_
  refine mGET_15 C0 hW dX12_comes_31 ?_
  refine lv_iload_n hx hb dX12_comes_34 rfl (lv_at hl 1 rfl) ?_
  refine lv_dup2_11 hx hb dX12_comes_35 rfl rfl ?_
  obtain ⟨g7, ho⟩ := gd_some ho
  refine mLD_15 C0 hW g7 dX12_comes_36 ?_
  refine lv_aload_n hx hb dX12_comes_37 rfl (lv_at hl 0 rfl) ?_
  refine mGET_15 C0 hW dX12_comes_38 ?_
  refine lv_iload_n hx hb dX12_comes_41 rfl (lv_at hl 2 rfl) ?_
  obtain ⟨g8, ho⟩ := gd_some ho
  refine mLD_15 C0 hW g8 dX12_comes_42 ?_
  refine lv_ior hx hb dX12_comes_43 ?_
  obtain ⟨g9, ho⟩ := gd_some ho
  refine mST_15 C0 hW g9 dX12_comes_44 (fun H locs hW => ?_)
  obtain ⟨t10, ho, hW⟩ := nm_w (P := fun t => wl D A s (wM cI cJ cZ am t) H locs) ho hW
  cases ho
  exact rtV C0 hW dX12_comes_45
noncomputable def m_opens_B22 (v2 : Int32) (t : St) : Option ((Int32 × St) ⊕ (St)) :=
  if (4 : Int32) ≤ v2 then (some (.inr t)) else (gd (((4 : Int32) * (gI t 19)) + v2) 36 (nm (sA t 20 (((4 : Int32) * (gI t 19)) + v2) (0 : Int32)) (fun t3 : St => nm (v2 + (1 : Int32)) (fun x4 : Int32 => some (.inl (x4, t3))))))
noncomputable def m_opens (t : St) (a1 : Int32) : Option (St) :=
  nm (sI t 19 ((gI t 19) + (1 : Int32))) (fun t5 : St => gd (gI t5 19) 9 (nm (sA t5 24 (gI t5 19) (vp_nar .boolean a1)) (fun t7 : St => (lp (fun x => m_opens_B22 x.1 x.2) ((0 : Int32), t7)).bind (fun y8 => some y8))))
set_option maxHeartbeats 4000000 in
set_option maxRecDepth 100000 in
theorem m_opens_L22 {p : Program} {l : Launch} {e : Env} {s : State} {m : MethodId} {args : Array Value} {below : List Frame} {meth : Method} {c : Code} {Q : State → Prop} {D : va_G} {cI cJ cZ : ClassId} {am : Nat → Nat} {A : Nat → Prop} (C0 : cx p s m args meth c cX12_opens RX12 3 none D (tyM cI cJ cZ) A) {y : St} (hK0 : ∀ (H : Heap) (locs : List Loc) (ls : Array Slot), wl D A s (wM cI cJ cZ am y) H locs → lv_has ls 3 [(0, .ref (am 68))] → W p l e (rmN 0 0) s m args below meth c H locs 0 0 Q (F0 m 47 ls [])) :
    ∀ (n : Nat) (v2 : Int32) (t : St), lpn (fun x => m_opens_B22 x.1 x.2) n (v2, t) = some y → ∀ (H : Heap) (locs : List Loc) (ls : Array Slot), wl D A s (wM cI cJ cZ am t) H locs → lv_has ls 3 [(0, .ref (am 68)), (2, .int v2)] → W p l e (rmN 0 0) s m args below meth c H locs 0 0 Q (F0 m 22 ls []) := by
  have hx := C0.1
  have hb := C0.2.1
  have hta := C0.2.2.2.2.2.1
  have hown := C0.2.2.2.2.1
  intro n
  induction n with
  | zero => intro _ _ h; cases h
  | succ n ih =>
    intro v2 t hrun H locs ls hW hl
    obtain ⟨o, ho, hrun⟩ := bd_some hrun
    unfold m_opens_B22 at ho
    refine lv_iload_n hx hb dX12_opens_22 rfl (lv_at hl 1 rfl) ?_
    refine lv_iconst (v := (4 : Int32)) hx hb dX12_opens_23 (by decide) ?_
    refine lv_icmp_ge (tgt := 47) hx hb dX12_opens_24 (by decide) (fun c1 => ?_) (fun c1 => ?_)
    · replace ho := ite_t c1 ho
      cases ho
      cases hrun
      exact hK0 _ _ _ hW (lv_sub hl [0] rfl)
    · replace ho := ite_f c1 ho
      refine lv_aload_n hx hb dX12_opens_27 rfl (lv_at hl 0 rfl) ?_
      refine mGET_20 C0 hW dX12_opens_28 ?_
      refine lv_iconst (v := (4 : Int32)) hx hb dX12_opens_31 (by decide) ?_
      refine lv_aload_n hx hb dX12_opens_32 rfl (lv_at hl 0 rfl) ?_
      refine mGET_19 C0 hW dX12_opens_33 ?_
      refine lv_imul hx hb dX12_opens_36 ?_
      refine lv_iload_n hx hb dX12_opens_37 rfl (lv_at hl 1 rfl) ?_
      refine lv_iadd hx hb dX12_opens_38 ?_
      refine lv_iconst (v := (0 : Int32)) hx hb dX12_opens_39 (by decide) ?_
      obtain ⟨g2, ho⟩ := gd_some ho
      refine mST_20 C0 hW g2 dX12_opens_40 (fun H locs hW => ?_)
      obtain ⟨t3, ho, hW⟩ := nm_w (P := fun t => wl D A s (wM cI cJ cZ am t) H locs) ho hW
      obtain ⟨x4, ex4, ho⟩ := nm_x ho
      refine lv_iinc (v := x4) (lv' := [(2, .int x4), (0, .ref (am 68))]) hx hb dX12_opens_41 hl (k := 1) rfl (by rw [ex4]; rfl) (by decide) rfl (fun ls hl => ?_)
      clear ex4
      refine lv_goto (tgt := 22) hx hb dX12_opens_44 (by decide) ?_
      cases ho
      exact ih _ _ hrun _ _ _ hW (lv_sub hl [1, 0] rfl)
set_option maxHeartbeats 4000000 in
set_option maxRecDepth 100000 in
theorem c_m_opens (l : Launch) {D : va_G} {cI cJ cZ : ClassId} {am : Nat → Nat} (sz : Nat) (t : St) (a1 : Int32) {t' : St} (ho : m_opens t a1 = some t') : Met l yX12_opens (.code yX12_opens cX12_opens 3 none :: wsAll) (rmN 0 0) (va_Pc [.ref (am 68), .int a1] (prW D (tyM cI cJ cZ) (wM cI cJ cZ am t) sz)) (qV D (tyM cI cJ cZ) (wM cI cJ cZ am t') (va_A (wM cI cJ cZ am t) sz)) 0 0 (va_A (wM cI cJ cZ am t) sz) := by
  refine Met.ofW (cc := cX12_opens) (maxL := 3) (ret := none) (by decide) rfl ?_
  intro p e s m args below meth c s₁ B hml hv
  obtain ⟨rfl, hsz, hP, hK, hD0⟩ := hv
  have hx := B.exec
  have hb := B.bytes
  have hts := atoms_spec (ws := (.code yX12_opens cX12_opens 3 none :: wsAll)) B.pre
  have hta := fun w h => hts w (List.mem_cons_of_mem _ h)
  have hown : s.vm.findClass RX12 = some m.cls := findClass_of_methodNamed B.named
  have hlocks := B.notSynchronized
  subst hsz
  have hD := hD0.self (sz := s.heap.size)
  generalize hAe : va_A (wM cI cJ cZ am t) s.heap.size = A at hD ⊢
  have hA : ∀ q : Nat, s.heap.size ≤ q → A q := fun q h => by rw [← hAe]; exact Or.inr h
  have C0 : cx p s m ([.ref (am 68), .int a1].toArray) meth c cX12_opens RX12 3 none D (tyM cI cJ cZ) A := ⟨hx, hb, B.returns, hml, hown, hta, hlocks, hK, hA⟩
  have hW : wl D A s (wM cI cJ cZ am t) s.heap [] := ⟨hP, hD, va_S.rf⟩
  have hl := lv_entry [.ref (am 68), .int a1] (n := 3) (Nat.le_of_ble_eq_true rfl)
  rw [lg_entry_eq]
  generalize (lg_sl [.ref (am 68), .int a1] ++ List.replicate (3 - (lg_sl [.ref (am 68), .int a1]).length) Slot.unset).toArray = ls at hl ⊢
  have hl : lv_has ls 3 [(0, .ref (am 68)), (1, .int a1)] := hl
  unfold m_opens at ho
  refine lv_aload_n hx hb dX12_opens_0 rfl (lv_at hl 0 rfl) ?_
  refine lv_dup hx hb dX12_opens_1 rfl ?_
  refine mGET_19 C0 hW dX12_opens_2 ?_
  refine lv_iconst (v := (1 : Int32)) hx hb dX12_opens_5 (by decide) ?_
  refine lv_iadd hx hb dX12_opens_6 ?_
  refine mPUT_19 C0 hW dX12_opens_7 (fun H locs hW => ?_)
  obtain ⟨t5, ho, hW⟩ := nm_w (P := fun t => wl D A s (wM cI cJ cZ am t) H locs) ho hW
  refine lv_aload_n hx hb dX12_opens_10 rfl (lv_at hl 0 rfl) ?_
  refine mGET_24 C0 hW dX12_opens_11 ?_
  refine lv_aload_n hx hb dX12_opens_14 rfl (lv_at hl 0 rfl) ?_
  refine mGET_19 C0 hW dX12_opens_15 ?_
  refine lv_iload_n hx hb dX12_opens_18 rfl (lv_at hl 1 rfl) ?_
  obtain ⟨g6, ho⟩ := gd_some ho
  refine mST_24 C0 hW g6 dX12_opens_19 (fun H locs hW => ?_)
  obtain ⟨t7, ho, hW⟩ := nm_w (P := fun t => wl D A s (wM cI cJ cZ am t) H locs) ho hW
  refine lv_iconst (v := (0 : Int32)) hx hb dX12_opens_20 (by decide) ?_
  refine lv_istore_n (lv' := [(2, .int (0 : Int32)), (0, .ref (am 68)), (1, .int a1)]) hx hb dX12_opens_21 rfl hl (by decide) rfl (fun ls hl => ?_)
  obtain ⟨y8, hc10, ho⟩ := bd_some ho
  obtain ⟨ny8, hc10⟩ := lp_to hc10
  refine m_opens_L22 C0 ?_ ny8 _ _ hc10 _ _ _ hW (lv_sub hl [1, 0] rfl)
  intro H locs ls hW hl
  cases ho
  exact rtV C0 hW dX12_opens_47
noncomputable def m_toRow (t : St) (a1 : Int32) (a2 : Int32) : Option (St) :=
  nm (((4 : Int32) * (gI t 19)) + a1) (fun x1 : Int32 => gd x1 36 (gd (((50 : Int32) * x1) + (gA t 20 (x1).toNatClampNeg)) 1800 (nm (sA t 21 (((50 : Int32) * x1) + (gA t 20 (x1).toNatClampNeg)) a2) (fun t4 : St => gd x1 36 (gd x1 36 (nm (sA t4 20 x1 ((gA t4 20 (x1).toNatClampNeg) + (1 : Int32))) (fun t7 : St => some t7)))))))
set_option maxHeartbeats 4000000 in
set_option maxRecDepth 100000 in
theorem c_m_toRow (l : Launch) {D : va_G} {cI cJ cZ : ClassId} {am : Nat → Nat} (sz : Nat) (t : St) (a1 : Int32) (a2 : Int32) {t' : St} (ho : m_toRow t a1 a2 = some t') : Met l yX12_toRow (.code yX12_toRow cX12_toRow 4 none :: wsAll) (rmN 0 0) (va_Pc [.ref (am 68), .int a1, .int a2] (prW D (tyM cI cJ cZ) (wM cI cJ cZ am t) sz)) (qV D (tyM cI cJ cZ) (wM cI cJ cZ am t') (va_A (wM cI cJ cZ am t) sz)) 0 0 (va_A (wM cI cJ cZ am t) sz) := by
  refine Met.ofW (cc := cX12_toRow) (maxL := 4) (ret := none) (by decide) rfl ?_
  intro p e s m args below meth c s₁ B hml hv
  obtain ⟨rfl, hsz, hP, hK, hD0⟩ := hv
  have hx := B.exec
  have hb := B.bytes
  have hts := atoms_spec (ws := (.code yX12_toRow cX12_toRow 4 none :: wsAll)) B.pre
  have hta := fun w h => hts w (List.mem_cons_of_mem _ h)
  have hown : s.vm.findClass RX12 = some m.cls := findClass_of_methodNamed B.named
  have hlocks := B.notSynchronized
  subst hsz
  have hD := hD0.self (sz := s.heap.size)
  generalize hAe : va_A (wM cI cJ cZ am t) s.heap.size = A at hD ⊢
  have hA : ∀ q : Nat, s.heap.size ≤ q → A q := fun q h => by rw [← hAe]; exact Or.inr h
  have C0 : cx p s m ([.ref (am 68), .int a1, .int a2].toArray) meth c cX12_toRow RX12 4 none D (tyM cI cJ cZ) A := ⟨hx, hb, B.returns, hml, hown, hta, hlocks, hK, hA⟩
  have hW : wl D A s (wM cI cJ cZ am t) s.heap [] := ⟨hP, hD, va_S.rf⟩
  have hl := lv_entry [.ref (am 68), .int a1, .int a2] (n := 4) (Nat.le_of_ble_eq_true rfl)
  rw [lg_entry_eq]
  generalize (lg_sl [.ref (am 68), .int a1, .int a2] ++ List.replicate (4 - (lg_sl [.ref (am 68), .int a1, .int a2]).length) Slot.unset).toArray = ls at hl ⊢
  have hl : lv_has ls 4 [(0, .ref (am 68)), (1, .int a1), (2, .int a2)] := hl
  unfold m_toRow at ho
  refine lv_iconst (v := (4 : Int32)) hx hb dX12_toRow_0 (by decide) ?_
  refine lv_aload_n hx hb dX12_toRow_1 rfl (lv_at hl 0 rfl) ?_
  refine mGET_19 C0 hW dX12_toRow_2 ?_
  refine lv_imul hx hb dX12_toRow_5 ?_
  refine lv_iload_n hx hb dX12_toRow_6 rfl (lv_at hl 1 rfl) ?_
  refine lv_iadd hx hb dX12_toRow_7 ?_
  refine lv_nmi ho (fun x1 ho => ?_)
  refine lv_istore_n (lv' := [(3, .int x1), (0, .ref (am 68)), (1, .int a1), (2, .int a2)]) hx hb dX12_toRow_8 rfl hl (by decide) rfl (fun ls hl => ?_)
  refine lv_aload_n hx hb dX12_toRow_9 rfl (lv_at hl 1 rfl) ?_
  refine mGET_21 C0 hW dX12_toRow_10 ?_
  refine lv_bipush (v := (50 : Int32)) hx hb dX12_toRow_13 (by decide) ?_
  refine lv_iload_n hx hb dX12_toRow_15 rfl (lv_at hl 0 rfl) ?_
  refine lv_imul hx hb dX12_toRow_16 ?_
  refine lv_aload_n hx hb dX12_toRow_17 rfl (lv_at hl 1 rfl) ?_
  refine mGET_20 C0 hW dX12_toRow_18 ?_
  refine lv_iload_n hx hb dX12_toRow_21 rfl (lv_at hl 0 rfl) ?_
  obtain ⟨g2, ho⟩ := gd_some ho
  refine mLD_20 C0 hW g2 dX12_toRow_22 ?_
  refine lv_iadd hx hb dX12_toRow_23 ?_
  refine lv_iload_n hx hb dX12_toRow_24 rfl (lv_at hl 3 rfl) ?_
  obtain ⟨g3, ho⟩ := gd_some ho
  refine mST_21 C0 hW g3 dX12_toRow_25 (fun H locs hW => ?_)
  obtain ⟨t4, ho, hW⟩ := nm_w (P := fun t => wl D A s (wM cI cJ cZ am t) H locs) ho hW
  refine lv_aload_n hx hb dX12_toRow_26 rfl (lv_at hl 1 rfl) ?_
  refine mGET_20 C0 hW dX12_toRow_27 ?_
  refine lv_iload_n hx hb dX12_toRow_30 rfl (lv_at hl 0 rfl) ?_
  refine lv_dup2_11 hx hb dX12_toRow_31 rfl rfl ?_
  obtain ⟨g5, ho⟩ := gd_some ho
  refine mLD_20 C0 hW g5 dX12_toRow_32 ?_
  refine lv_iconst (v := (1 : Int32)) hx hb dX12_toRow_33 (by decide) ?_
  refine lv_iadd hx hb dX12_toRow_34 ?_
  obtain ⟨g6, ho⟩ := gd_some ho
  refine mST_20 C0 hW g6 dX12_toRow_35 (fun H locs hW => ?_)
  obtain ⟨t7, ho, hW⟩ := nm_w (P := fun t => wl D A s (wM cI cJ cZ am t) H locs) ho hW
  cases ho
  exact rtV C0 hW dX12_toRow_36
noncomputable def m_ends_B40 (v3 : Int32) (v4 : Int32) (v5 : Int32) (t : St) : Option ((Int32 × St) ⊕ (St)) :=
  gd v3 36 (if (gA t 20 (v3).toNatClampNeg) ≤ v5 then (some (.inr t)) else (gd (((50 : Int32) * v3) + v5) 1800 ((m_comes t v4 (gA t 21 ((((50 : Int32) * v3) + v5)).toNatClampNeg)).bind (fun q4 => nm (v5 + (1 : Int32)) (fun x6 : Int32 => some (.inl (x6, q4)))))))
noncomputable def m_ends_J75 (t : St) (v3 : Int32) (v4 : Int32) : Option (Int32 × St) :=
  gd v3 36 (nm (sA t 20 v3 (0 : Int32)) (fun t8 : St => some (v4, t8)))
noncomputable def m_ends (t : St) (a1 : Int32) (a2 : Int32) : Option (Int32 × St) :=
  nm (((4 : Int32) * (gI t 19)) + a1) (fun x9 : Int32 => gd ((50 : Int32) * x9) 1800 (nm (gA t 21 (((50 : Int32) * x9)).toNatClampNeg) (fun x11 : Int32 => gd x9 36 (if (gA t 20 (x9).toNatClampNeg) ≤ (1 : Int32) then (m_ends_J75 t x9 x11) else ((m_newKnot t a2).bind (fun q14 => (lp (fun x => m_ends_B40 x9 q14.1 x.1 x.2) ((0 : Int32), q14.2)).bind (fun y16 => m_ends_J75 y16 x9 q14.1)))))))
set_option maxHeartbeats 4000000 in
set_option maxRecDepth 100000 in
theorem m_ends_L40 {p : Program} {l : Launch} {e : Env} {s : State} {m : MethodId} {args : Array Value} {below : List Frame} {meth : Method} {c : Code} {Q : State → Prop} {D : va_G} {cI cJ cZ : ClassId} {am : Nat → Nat} {A : Nat → Prop} (C0 : cx p s m args meth c cX12_ends RX12 6 (some .int) D (tyM cI cJ cZ) A) {v3 : Int32} {v4 : Int32} {y : St} (hK0 : ∀ (H : Heap) (locs : List Loc) (ls : Array Slot), wl D A s (wM cI cJ cZ am y) H locs → lv_has ls 6 [(0, .ref (am 68)), (3, .int v3), (4, .int v4)] → W p l e (rmN 1 22) s m args below meth c H locs 0 0 Q (F0 m 75 ls [])) :
    ∀ (n : Nat) (v5 : Int32) (t : St), lpn (fun x => m_ends_B40 v3 v4 x.1 x.2) n (v5, t) = some y → ∀ (H : Heap) (locs : List Loc) (ls : Array Slot), wl D A s (wM cI cJ cZ am t) H locs → lv_has ls 6 [(0, .ref (am 68)), (3, .int v3), (4, .int v4), (5, .int v5)] → W p l e (rmN 1 22) s m args below meth c H locs 0 0 Q (F0 m 40 ls []) := by
  have hx := C0.1
  have hb := C0.2.1
  have hta := C0.2.2.2.2.2.1
  have hown := C0.2.2.2.2.1
  intro n
  induction n with
  | zero => intro _ _ h; cases h
  | succ n ih =>
    intro v5 t hrun H locs ls hW hl
    obtain ⟨o, ho, hrun⟩ := bd_some hrun
    unfold m_ends_B40 at ho
    refine lv_iload hx hb dX12_ends_40 (lv_at hl 3 rfl) ?_
    refine lv_aload_n hx hb dX12_ends_42 rfl (lv_at hl 0 rfl) ?_
    refine mGET_20 C0 hW dX12_ends_43 ?_
    refine lv_iload_n hx hb dX12_ends_46 rfl (lv_at hl 1 rfl) ?_
    obtain ⟨g1, ho⟩ := gd_some ho
    refine mLD_20 C0 hW g1 dX12_ends_47 ?_
    refine lv_icmp_ge (tgt := 75) hx hb dX12_ends_48 (by decide) (fun c2 => ?_) (fun c2 => ?_)
    · replace ho := ite_t c2 ho
      cases ho
      cases hrun
      exact hK0 _ _ _ hW (lv_sub hl [0, 1, 2] rfl)
    · replace ho := ite_f c2 ho
      refine lv_aload_n hx hb dX12_ends_51 rfl (lv_at hl 0 rfl) ?_
      refine lv_iload hx hb dX12_ends_52 (lv_at hl 2 rfl) ?_
      refine lv_aload_n hx hb dX12_ends_54 rfl (lv_at hl 0 rfl) ?_
      refine mGET_21 C0 hW dX12_ends_55 ?_
      refine lv_bipush (v := (50 : Int32)) hx hb dX12_ends_58 (by decide) ?_
      refine lv_iload_n hx hb dX12_ends_60 rfl (lv_at hl 1 rfl) ?_
      refine lv_imul hx hb dX12_ends_61 ?_
      refine lv_iload hx hb dX12_ends_62 (lv_at hl 3 rfl) ?_
      refine lv_iadd hx hb dX12_ends_64 ?_
      obtain ⟨g3, ho⟩ := gd_some ho
      refine mLD_21 C0 hW g3 dX12_ends_65 ?_
      obtain ⟨q4, hc5, ho⟩ := bd_some ho
      refine bkV C0 hW (runV (As := [.int v4, .int (gA t 21 ((((50 : Int32) * v3) + v5)).toNatClampNeg)]) (rest := []) C0 hW (c_m_comes l _ t v4 (gA t 21 ((((50 : Int32) * v3) + v5)).toNatClampNeg) (t' := q4) hc5) ca_X12_comes_207 0 12 rfl rfl rfl rfl rfl ⟨rfl, rfl⟩ ⟨Nat.le_of_ble_eq_true rfl, Nat.le_of_ble_eq_true rfl⟩ (Nat.le_of_ble_eq_true rfl) hl.1 dX12_ends_66 ⟨Nat.le_of_ble_eq_true rfl, Nat.le_of_ble_eq_true rfl⟩) (fun H locs hW => ?_)
      obtain ⟨x6, ex6, ho⟩ := nm_x ho
      refine lv_iinc (v := x6) (lv' := [(5, .int x6), (0, .ref (am 68)), (3, .int v3), (4, .int v4)]) hx hb dX12_ends_69 hl (k := 3) rfl (by rw [ex6]; rfl) (by decide) rfl (fun ls hl => ?_)
      clear ex6
      refine lv_goto (tgt := 40) hx hb dX12_ends_72 (by decide) ?_
      cases ho
      exact ih _ _ hrun _ _ _ hW (lv_sub hl [1, 2, 3, 0] rfl)
set_option maxHeartbeats 4000000 in
set_option maxRecDepth 100000 in
theorem c_m_ends (l : Launch) {D : va_G} {cI cJ cZ : ClassId} {am : Nat → Nat} (sz : Nat) (t : St) (a1 : Int32) (a2 : Int32) {r : Int32} {t' : St} (ho : m_ends t a1 a2 = some (r, t')) : Met l yX12_ends (.code yX12_ends cX12_ends 6 (some .int) :: wsAll) (rmN 1 22) (va_Pc [.ref (am 68), .int a1, .int a2] (prW D (tyM cI cJ cZ) (wM cI cJ cZ am t) sz)) (qI r D (tyM cI cJ cZ) (wM cI cJ cZ am t') (va_A (wM cI cJ cZ am t) sz)) 0 0 (va_A (wM cI cJ cZ am t) sz) := by
  refine Met.ofW (cc := cX12_ends) (maxL := 6) (ret := (some .int)) (by decide) rfl ?_
  intro p e s m args below meth c s₁ B hml hv
  obtain ⟨rfl, hsz, hP, hK, hD0⟩ := hv
  have hx := B.exec
  have hb := B.bytes
  have hts := atoms_spec (ws := (.code yX12_ends cX12_ends 6 (some .int) :: wsAll)) B.pre
  have hta := fun w h => hts w (List.mem_cons_of_mem _ h)
  have hown : s.vm.findClass RX12 = some m.cls := findClass_of_methodNamed B.named
  have hlocks := B.notSynchronized
  subst hsz
  have hD := hD0.self (sz := s.heap.size)
  generalize hAe : va_A (wM cI cJ cZ am t) s.heap.size = A at hD ⊢
  have hA : ∀ q : Nat, s.heap.size ≤ q → A q := fun q h => by rw [← hAe]; exact Or.inr h
  have C0 : cx p s m ([.ref (am 68), .int a1, .int a2].toArray) meth c cX12_ends RX12 6 (some .int) D (tyM cI cJ cZ) A := ⟨hx, hb, B.returns, hml, hown, hta, hlocks, hK, hA⟩
  have hW : wl D A s (wM cI cJ cZ am t) s.heap [] := ⟨hP, hD, va_S.rf⟩
  have hl := lv_entry [.ref (am 68), .int a1, .int a2] (n := 6) (Nat.le_of_ble_eq_true rfl)
  rw [lg_entry_eq]
  generalize (lg_sl [.ref (am 68), .int a1, .int a2] ++ List.replicate (6 - (lg_sl [.ref (am 68), .int a1, .int a2]).length) Slot.unset).toArray = ls at hl ⊢
  have hl : lv_has ls 6 [(0, .ref (am 68)), (1, .int a1), (2, .int a2)] := hl
  clear hAe hD hP hD0 hts
  have J75 : ∀ (t : St) (v3 : Int32) (v4 : Int32) (_ : m_ends_J75 t v3 v4 = some (r, t')) (H : Heap) (locs : List Loc) (ls : Array Slot), wl D A s (wM cI cJ cZ am t) H locs → lv_has ls 6 [(0, .ref (am 68)), (3, .int v3), (4, .int v4)] → W p l e (rmN 1 22) s m ([.ref (am 68), .int a1, .int a2].toArray) below meth c H locs 0 0 (MQ below (qI r D (tyM cI cJ cZ) (wM cI cJ cZ am t') A) ([.ref (am 68), .int a1, .int a2].toArray) s 0 0 A) (F0 m 75 ls []) := by
    intro t v3 v4 ho H locs ls hW hl
    unfold m_ends_J75 at ho
    refine lv_aload_n hx hb dX12_ends_75 rfl (lv_at hl 0 rfl) ?_
    refine mGET_20 C0 hW dX12_ends_76 ?_
    refine lv_iload_n hx hb dX12_ends_79 rfl (lv_at hl 1 rfl) ?_
    refine lv_iconst (v := (0 : Int32)) hx hb dX12_ends_80 (by decide) ?_
    obtain ⟨g7, ho⟩ := gd_some ho
    refine mST_20 C0 hW g7 dX12_ends_81 (fun H locs hW => ?_)
    obtain ⟨t8, ho, hW⟩ := nm_w (P := fun t => wl D A s (wM cI cJ cZ am t) H locs) ho hW
    refine lv_iload hx hb dX12_ends_82 (lv_at hl 2 rfl) ?_
    cases ho
    exact rtI C0 hW dX12_ends_84
  unfold m_ends at ho
  refine lv_iconst (v := (4 : Int32)) hx hb dX12_ends_0 (by decide) ?_
  refine lv_aload_n hx hb dX12_ends_1 rfl (lv_at hl 0 rfl) ?_
  refine mGET_19 C0 hW dX12_ends_2 ?_
  refine lv_imul hx hb dX12_ends_5 ?_
  refine lv_iload_n hx hb dX12_ends_6 rfl (lv_at hl 1 rfl) ?_
  refine lv_iadd hx hb dX12_ends_7 ?_
  refine lv_nmi ho (fun x9 ho => ?_)
  refine lv_istore_n (lv' := [(3, .int x9), (0, .ref (am 68)), (1, .int a1), (2, .int a2)]) hx hb dX12_ends_8 rfl hl (by decide) rfl (fun ls hl => ?_)
  refine lv_aload_n hx hb dX12_ends_9 rfl (lv_at hl 1 rfl) ?_
  refine mGET_21 C0 hW dX12_ends_10 ?_
  refine lv_bipush (v := (50 : Int32)) hx hb dX12_ends_13 (by decide) ?_
  refine lv_iload_n hx hb dX12_ends_15 rfl (lv_at hl 0 rfl) ?_
  refine lv_imul hx hb dX12_ends_16 ?_
  obtain ⟨g10, ho⟩ := gd_some ho
  refine mLD_21 C0 hW g10 dX12_ends_17 ?_
  refine lv_nmi ho (fun x11 ho => ?_)
  refine lv_istore (lv' := [(4, .int x11), (3, .int x9), (0, .ref (am 68)), (1, .int a1), (2, .int a2)]) hx hb dX12_ends_18 hl (by decide) rfl (fun ls hl => ?_)
  refine lv_aload_n hx hb dX12_ends_20 rfl (lv_at hl 2 rfl) ?_
  refine mGET_20 C0 hW dX12_ends_21 ?_
  refine lv_iload_n hx hb dX12_ends_24 rfl (lv_at hl 1 rfl) ?_
  obtain ⟨g12, ho⟩ := gd_some ho
  refine mLD_20 C0 hW g12 dX12_ends_25 ?_
  refine lv_iconst (v := (1 : Int32)) hx hb dX12_ends_26 (by decide) ?_
  refine lv_icmp_le (tgt := 75) hx hb dX12_ends_27 (by decide) (fun c13 => ?_) (fun c13 => ?_)
  · replace ho := ite_t c13 ho
    exact J75 _ _ _ ho _ _ _ hW (lv_sub hl [2, 1, 0] rfl)
  · replace ho := ite_f c13 ho
    refine lv_aload_n hx hb dX12_ends_30 rfl (lv_at hl 2 rfl) ?_
    refine lv_iload_n hx hb dX12_ends_31 rfl (lv_at hl 4 rfl) ?_
    obtain ⟨q14, hc15, ho⟩ := bd_some ho
    refine bkI C0 hW (runV (As := [.int a2]) (rest := []) C0 hW (c_m_newKnot l _ t a2 (r := q14.1) (t' := q14.2) hc15) ca_X12_newKnot_203 0 12 rfl rfl rfl rfl rfl ⟨rfl, rfl⟩ ⟨Nat.le_of_ble_eq_true rfl, Nat.le_of_ble_eq_true rfl⟩ (Nat.le_of_ble_eq_true rfl) hl.1 dX12_ends_32 ⟨Nat.le_of_ble_eq_true rfl, Nat.le_of_ble_eq_true rfl⟩) (fun H locs hW => ?_)
    refine lv_istore (lv' := [(4, .int q14.1), (3, .int x9), (0, .ref (am 68)), (1, .int a1), (2, .int a2)]) hx hb dX12_ends_35 hl (by decide) rfl (fun ls hl => ?_)
    refine lv_iconst (v := (0 : Int32)) hx hb dX12_ends_37 (by decide) ?_
    refine lv_istore (lv' := [(5, .int (0 : Int32)), (4, .int q14.1), (3, .int x9), (0, .ref (am 68)), (1, .int a1), (2, .int a2)]) hx hb dX12_ends_38 hl (by decide) rfl (fun ls hl => ?_)
    obtain ⟨y16, hc18, ho⟩ := bd_some ho
    obtain ⟨ny16, hc18⟩ := lp_to hc18
    refine m_ends_L40 C0 ?_ ny16 _ _ hc18 _ _ _ hW (lv_sub hl [3, 2, 1, 0] rfl)
    intro H locs ls hW hl
    exact J75 _ _ _ ho _ _ _ hW (lv_sub hl [0, 1, 2] rfl)
noncomputable def m_endsBoth (t : St) : Option (St) :=
  (m_ends t (0 : Int32) (3 : Int32)).bind (fun q1 => (m_toRow q1.2 (1 : Int32) q1.1).bind (fun q3 => some q3))
set_option maxHeartbeats 4000000 in
set_option maxRecDepth 100000 in
theorem c_m_endsBoth (l : Launch) {D : va_G} {cI cJ cZ : ClassId} {am : Nat → Nat} (sz : Nat) (t : St) {t' : St} (ho : m_endsBoth t = some t') : Met l yX12_endsBoth (.code yX12_endsBoth cX12_endsBoth 1 none :: wsAll) (rmN 2 47) (va_Pc [.ref (am 68)] (prW D (tyM cI cJ cZ) (wM cI cJ cZ am t) sz)) (qV D (tyM cI cJ cZ) (wM cI cJ cZ am t') (va_A (wM cI cJ cZ am t) sz)) 0 0 (va_A (wM cI cJ cZ am t) sz) := by
  refine Met.ofW (cc := cX12_endsBoth) (maxL := 1) (ret := none) (by decide) rfl ?_
  intro p e s m args below meth c s₁ B hml hv
  obtain ⟨rfl, hsz, hP, hK, hD0⟩ := hv
  have hx := B.exec
  have hb := B.bytes
  have hts := atoms_spec (ws := (.code yX12_endsBoth cX12_endsBoth 1 none :: wsAll)) B.pre
  have hta := fun w h => hts w (List.mem_cons_of_mem _ h)
  have hown : s.vm.findClass RX12 = some m.cls := findClass_of_methodNamed B.named
  have hlocks := B.notSynchronized
  subst hsz
  have hD := hD0.self (sz := s.heap.size)
  generalize hAe : va_A (wM cI cJ cZ am t) s.heap.size = A at hD ⊢
  have hA : ∀ q : Nat, s.heap.size ≤ q → A q := fun q h => by rw [← hAe]; exact Or.inr h
  have C0 : cx p s m ([.ref (am 68)].toArray) meth c cX12_endsBoth RX12 1 none D (tyM cI cJ cZ) A := ⟨hx, hb, B.returns, hml, hown, hta, hlocks, hK, hA⟩
  have hW : wl D A s (wM cI cJ cZ am t) s.heap [] := ⟨hP, hD, va_S.rf⟩
  have hl := lv_entry [.ref (am 68)] (n := 1) (Nat.le_of_ble_eq_true rfl)
  rw [lg_entry_eq]
  generalize (lg_sl [.ref (am 68)] ++ List.replicate (1 - (lg_sl [.ref (am 68)]).length) Slot.unset).toArray = ls at hl ⊢
  have hl : lv_has ls 1 [(0, .ref (am 68))] := hl
  unfold m_endsBoth at ho
  refine lv_aload_n hx hb dX12_endsBoth_0 rfl (lv_at hl 0 rfl) ?_
  refine lv_iconst (v := (1 : Int32)) hx hb dX12_endsBoth_1 (by decide) ?_
  refine lv_aload_n hx hb dX12_endsBoth_2 rfl (lv_at hl 0 rfl) ?_
  refine lv_iconst (v := (0 : Int32)) hx hb dX12_endsBoth_3 (by decide) ?_
  refine lv_iconst (v := (3 : Int32)) hx hb dX12_endsBoth_4 (by decide) ?_
  obtain ⟨q1, hc2, ho⟩ := bd_some ho
  refine bkI C0 hW (runV (As := [.int (0 : Int32), .int (3 : Int32)]) (rest := [.int (1 : Int32), .ref (am 68)]) C0 hW (c_m_ends l _ t (0 : Int32) (3 : Int32) (r := q1.1) (t' := q1.2) hc2) ca_X12_ends_210 0 12 rfl rfl rfl rfl rfl ⟨rfl, rfl⟩ ⟨Nat.le_of_ble_eq_true rfl, Nat.le_of_ble_eq_true rfl⟩ (Nat.le_of_ble_eq_true rfl) hl.1 dX12_endsBoth_5 ⟨Nat.le_of_ble_eq_true rfl, Nat.le_of_ble_eq_true rfl⟩) (fun H locs hW => ?_)
  obtain ⟨q3, hc4, ho⟩ := bd_some ho
  refine bkV C0 hW (runV (As := [.int (1 : Int32), .int q1.1]) (rest := []) C0 hW (c_m_toRow l _ q1.2 (1 : Int32) q1.1 (t' := q3) hc4) ca_X12_toRow_213 0 12 rfl rfl rfl rfl rfl ⟨rfl, rfl⟩ ⟨Nat.le_of_ble_eq_true rfl, Nat.le_of_ble_eq_true rfl⟩ (Nat.le_of_ble_eq_true rfl) hl.1 dX12_endsBoth_8 ⟨Nat.le_of_ble_eq_true rfl, Nat.le_of_ble_eq_true rfl⟩) (fun H locs hW => ?_)
  cases ho
  exact rtV C0 hW dX12_endsBoth_11
noncomputable def m_endsChain (t : St) : Option (St) :=
  (m_endsBoth t).bind (fun q1 => (m_ends q1 (1 : Int32) (2 : Int32)).bind (fun q3 => (m_toRow q3.2 (2 : Int32) q3.1).bind (fun q5 => some q5)))
set_option maxHeartbeats 4000000 in
set_option maxRecDepth 100000 in
theorem c_m_endsChain (l : Launch) {D : va_G} {cI cJ cZ : ClassId} {am : Nat → Nat} (sz : Nat) (t : St) {t' : St} (ho : m_endsChain t = some t') : Met l yX12_endsChain (.code yX12_endsChain cX12_endsChain 1 none :: wsAll) (rmN 3 67) (va_Pc [.ref (am 68)] (prW D (tyM cI cJ cZ) (wM cI cJ cZ am t) sz)) (qV D (tyM cI cJ cZ) (wM cI cJ cZ am t') (va_A (wM cI cJ cZ am t) sz)) 0 0 (va_A (wM cI cJ cZ am t) sz) := by
  refine Met.ofW (cc := cX12_endsChain) (maxL := 1) (ret := none) (by decide) rfl ?_
  intro p e s m args below meth c s₁ B hml hv
  obtain ⟨rfl, hsz, hP, hK, hD0⟩ := hv
  have hx := B.exec
  have hb := B.bytes
  have hts := atoms_spec (ws := (.code yX12_endsChain cX12_endsChain 1 none :: wsAll)) B.pre
  have hta := fun w h => hts w (List.mem_cons_of_mem _ h)
  have hown : s.vm.findClass RX12 = some m.cls := findClass_of_methodNamed B.named
  have hlocks := B.notSynchronized
  subst hsz
  have hD := hD0.self (sz := s.heap.size)
  generalize hAe : va_A (wM cI cJ cZ am t) s.heap.size = A at hD ⊢
  have hA : ∀ q : Nat, s.heap.size ≤ q → A q := fun q h => by rw [← hAe]; exact Or.inr h
  have C0 : cx p s m ([.ref (am 68)].toArray) meth c cX12_endsChain RX12 1 none D (tyM cI cJ cZ) A := ⟨hx, hb, B.returns, hml, hown, hta, hlocks, hK, hA⟩
  have hW : wl D A s (wM cI cJ cZ am t) s.heap [] := ⟨hP, hD, va_S.rf⟩
  have hl := lv_entry [.ref (am 68)] (n := 1) (Nat.le_of_ble_eq_true rfl)
  rw [lg_entry_eq]
  generalize (lg_sl [.ref (am 68)] ++ List.replicate (1 - (lg_sl [.ref (am 68)]).length) Slot.unset).toArray = ls at hl ⊢
  have hl : lv_has ls 1 [(0, .ref (am 68))] := hl
  unfold m_endsChain at ho
  refine lv_aload_n hx hb dX12_endsChain_0 rfl (lv_at hl 0 rfl) ?_
  obtain ⟨q1, hc2, ho⟩ := bd_some ho
  refine bkV C0 hW (runV (As := []) (rest := []) C0 hW (c_m_endsBoth l _ t (t' := q1) hc2) ca_X12_endsBoth_216 0 12 rfl rfl rfl rfl rfl ⟨rfl, rfl⟩ ⟨Nat.le_of_ble_eq_true rfl, Nat.le_of_ble_eq_true rfl⟩ (Nat.le_of_ble_eq_true rfl) hl.1 dX12_endsChain_1 ⟨Nat.le_of_ble_eq_true rfl, Nat.le_of_ble_eq_true rfl⟩) (fun H locs hW => ?_)
  refine lv_aload_n hx hb dX12_endsChain_4 rfl (lv_at hl 0 rfl) ?_
  refine lv_iconst (v := (2 : Int32)) hx hb dX12_endsChain_5 (by decide) ?_
  refine lv_aload_n hx hb dX12_endsChain_6 rfl (lv_at hl 0 rfl) ?_
  refine lv_iconst (v := (1 : Int32)) hx hb dX12_endsChain_7 (by decide) ?_
  refine lv_iconst (v := (2 : Int32)) hx hb dX12_endsChain_8 (by decide) ?_
  obtain ⟨q3, hc4, ho⟩ := bd_some ho
  refine bkI C0 hW (runV (As := [.int (1 : Int32), .int (2 : Int32)]) (rest := [.int (2 : Int32), .ref (am 68)]) C0 hW (c_m_ends l _ q1 (1 : Int32) (2 : Int32) (r := q3.1) (t' := q3.2) hc4) ca_X12_ends_210 0 12 rfl rfl rfl rfl rfl ⟨rfl, rfl⟩ ⟨Nat.le_of_ble_eq_true rfl, Nat.le_of_ble_eq_true rfl⟩ (Nat.le_of_ble_eq_true rfl) hl.1 dX12_endsChain_9 ⟨Nat.le_of_ble_eq_true rfl, Nat.le_of_ble_eq_true rfl⟩) (fun H locs hW => ?_)
  obtain ⟨q5, hc6, ho⟩ := bd_some ho
  refine bkV C0 hW (runV (As := [.int (2 : Int32), .int q3.1]) (rest := []) C0 hW (c_m_toRow l _ q3.2 (2 : Int32) q3.1 (t' := q5) hc6) ca_X12_toRow_213 0 12 rfl rfl rfl rfl rfl ⟨rfl, rfl⟩ ⟨Nat.le_of_ble_eq_true rfl, Nat.le_of_ble_eq_true rfl⟩ (Nat.le_of_ble_eq_true rfl) hl.1 dX12_endsChain_12 ⟨Nat.le_of_ble_eq_true rfl, Nat.le_of_ble_eq_true rfl⟩) (fun H locs hW => ?_)
  cases ho
  exact rtV C0 hW dX12_endsChain_15
noncomputable def m_endsNet (t : St) : Option (Int32 × St) :=
  (m_endsChain t).bind (fun q1 => (m_ends q1 (2 : Int32) (1 : Int32)).bind (fun q3 => some (q3.1, q3.2)))
set_option maxHeartbeats 4000000 in
set_option maxRecDepth 100000 in
theorem c_m_endsNet (l : Launch) {D : va_G} {cI cJ cZ : ClassId} {am : Nat → Nat} (sz : Nat) (t : St) {r : Int32} {t' : St} (ho : m_endsNet t = some (r, t')) : Met l yX12_endsNet (.code yX12_endsNet cX12_endsNet 1 (some .int) :: wsAll) (rmN 4 87) (va_Pc [.ref (am 68)] (prW D (tyM cI cJ cZ) (wM cI cJ cZ am t) sz)) (qI r D (tyM cI cJ cZ) (wM cI cJ cZ am t') (va_A (wM cI cJ cZ am t) sz)) 0 0 (va_A (wM cI cJ cZ am t) sz) := by
  refine Met.ofW (cc := cX12_endsNet) (maxL := 1) (ret := (some .int)) (by decide) rfl ?_
  intro p e s m args below meth c s₁ B hml hv
  obtain ⟨rfl, hsz, hP, hK, hD0⟩ := hv
  have hx := B.exec
  have hb := B.bytes
  have hts := atoms_spec (ws := (.code yX12_endsNet cX12_endsNet 1 (some .int) :: wsAll)) B.pre
  have hta := fun w h => hts w (List.mem_cons_of_mem _ h)
  have hown : s.vm.findClass RX12 = some m.cls := findClass_of_methodNamed B.named
  have hlocks := B.notSynchronized
  subst hsz
  have hD := hD0.self (sz := s.heap.size)
  generalize hAe : va_A (wM cI cJ cZ am t) s.heap.size = A at hD ⊢
  have hA : ∀ q : Nat, s.heap.size ≤ q → A q := fun q h => by rw [← hAe]; exact Or.inr h
  have C0 : cx p s m ([.ref (am 68)].toArray) meth c cX12_endsNet RX12 1 (some .int) D (tyM cI cJ cZ) A := ⟨hx, hb, B.returns, hml, hown, hta, hlocks, hK, hA⟩
  have hW : wl D A s (wM cI cJ cZ am t) s.heap [] := ⟨hP, hD, va_S.rf⟩
  have hl := lv_entry [.ref (am 68)] (n := 1) (Nat.le_of_ble_eq_true rfl)
  rw [lg_entry_eq]
  generalize (lg_sl [.ref (am 68)] ++ List.replicate (1 - (lg_sl [.ref (am 68)]).length) Slot.unset).toArray = ls at hl ⊢
  have hl : lv_has ls 1 [(0, .ref (am 68))] := hl
  unfold m_endsNet at ho
  refine lv_aload_n hx hb dX12_endsNet_0 rfl (lv_at hl 0 rfl) ?_
  obtain ⟨q1, hc2, ho⟩ := bd_some ho
  refine bkV C0 hW (runV (As := []) (rest := []) C0 hW (c_m_endsChain l _ t (t' := q1) hc2) ca_X12_endsChain_219 0 12 rfl rfl rfl rfl rfl ⟨rfl, rfl⟩ ⟨Nat.le_of_ble_eq_true rfl, Nat.le_of_ble_eq_true rfl⟩ (Nat.le_of_ble_eq_true rfl) hl.1 dX12_endsNet_1 ⟨Nat.le_of_ble_eq_true rfl, Nat.le_of_ble_eq_true rfl⟩) (fun H locs hW => ?_)
  refine lv_aload_n hx hb dX12_endsNet_4 rfl (lv_at hl 0 rfl) ?_
  refine lv_iconst (v := (2 : Int32)) hx hb dX12_endsNet_5 (by decide) ?_
  refine lv_iconst (v := (1 : Int32)) hx hb dX12_endsNet_6 (by decide) ?_
  obtain ⟨q3, hc4, ho⟩ := bd_some ho
  refine bkI C0 hW (runV (As := [.int (2 : Int32), .int (1 : Int32)]) (rest := []) C0 hW (c_m_ends l _ q1 (2 : Int32) (1 : Int32) (r := q3.1) (t' := q3.2) hc4) ca_X12_ends_210 0 12 rfl rfl rfl rfl rfl ⟨rfl, rfl⟩ ⟨Nat.le_of_ble_eq_true rfl, Nat.le_of_ble_eq_true rfl⟩ (Nat.le_of_ble_eq_true rfl) hl.1 dX12_endsNet_7 ⟨Nat.le_of_ble_eq_true rfl, Nat.le_of_ble_eq_true rfl⟩) (fun H locs hW => ?_)
  cases ho
  exact rtI C0 hW dX12_endsNet_10
noncomputable def m_opensPart_J126 (t : St) (v2 : Int32) (w1 : Int32) : Option (Int32 × St) :=
  (m_opens t w1).bind (fun q1 => gd (gI q1 19) 9 (nm (sA q1 22 (gI q1 19) v2) (fun t4 : St => some ((0 : Int32), t4))))
noncomputable def m_opensPart_J103 (t : St) (v1 : Int32) (v2 : Int32) : Option (Int32 × St) :=
  if (gI t 19) = (8 : Int32) then (some ((5 : Int32), t)) else (if v1 = (91 : Int32) then (m_opensPart_J126 t v2 (1 : Int32)) else (m_opensPart_J126 t v2 (0 : Int32)))
noncomputable def m_opensPart (t : St) (a1 : Int32) (a2 : Int32) : Option (Int32 × St) :=
  (m_in t a1 (97 : Int32) (112 : Int32)).bind (fun q7 => if q7 = 0 then ((m_in t a1 (48 : Int32) (57 : Int32)).bind (fun q11 => if q11 = 0 then (if a1 = (40 : Int32) then (m_opensPart_J103 t a1 a2) else (if a1 = (91 : Int32) then (m_opensPart_J103 t a1 a2) else (some ((1 : Int32), t)))) else (gd (a1 - (48 : Int32)) 10 (if (gA t 16 ((a1 - (48 : Int32))).toNatClampNeg) = (-1 : Int32) then (some ((3 : Int32), t)) else (gd (a1 - (48 : Int32)) 10 ((m_toRow t (0 : Int32) (gA t 16 ((a1 - (48 : Int32))).toNatClampNeg)).bind (fun q20 => some ((0 : Int32), q20)))))))) else ((m_newKnot t (0 : Int32)).bind (fun q22 => gd q22.1 400 (nm (sA q22.2 10 q22.1 (a1 - (97 : Int32))) (fun t25 : St => gd q22.1 400 (nm (sA t25 15 q22.1 ((1 : Int32) <<< ((a1 - (97 : Int32)) &&& 31))) (fun t27 : St => (m_toRow t27 (0 : Int32) q22.1).bind (fun q28 => some ((0 : Int32), q28)))))))))
set_option maxHeartbeats 4000000 in
set_option maxRecDepth 100000 in
theorem c_m_opensPart (l : Launch) {D : va_G} {cI cJ cZ : ClassId} {am : Nat → Nat} (sz : Nat) (t : St) (a1 : Int32) (a2 : Int32) {r : Int32} {t' : St} (ho : m_opensPart t a1 a2 = some (r, t')) : Met l yX12_opensPart (.code yX12_opensPart cX12_opensPart 4 (some .int) :: wsAll) (rmN 1 23) (va_Pc [.ref (am 68), .int a1, .int a2] (prW D (tyM cI cJ cZ) (wM cI cJ cZ am t) sz)) (qI r D (tyM cI cJ cZ) (wM cI cJ cZ am t') (va_A (wM cI cJ cZ am t) sz)) 0 0 (va_A (wM cI cJ cZ am t) sz) := by
  refine Met.ofW (cc := cX12_opensPart) (maxL := 4) (ret := (some .int)) (by decide) rfl ?_
  intro p e s m args below meth c s₁ B hml hv
  obtain ⟨rfl, hsz, hP, hK, hD0⟩ := hv
  have hx := B.exec
  have hb := B.bytes
  have hts := atoms_spec (ws := (.code yX12_opensPart cX12_opensPart 4 (some .int) :: wsAll)) B.pre
  have hta := fun w h => hts w (List.mem_cons_of_mem _ h)
  have hown : s.vm.findClass RX12 = some m.cls := findClass_of_methodNamed B.named
  have hlocks := B.notSynchronized
  subst hsz
  have hD := hD0.self (sz := s.heap.size)
  generalize hAe : va_A (wM cI cJ cZ am t) s.heap.size = A at hD ⊢
  have hA : ∀ q : Nat, s.heap.size ≤ q → A q := fun q h => by rw [← hAe]; exact Or.inr h
  have C0 : cx p s m ([.ref (am 68), .int a1, .int a2].toArray) meth c cX12_opensPart RX12 4 (some .int) D (tyM cI cJ cZ) A := ⟨hx, hb, B.returns, hml, hown, hta, hlocks, hK, hA⟩
  have hW : wl D A s (wM cI cJ cZ am t) s.heap [] := ⟨hP, hD, va_S.rf⟩
  have hl := lv_entry [.ref (am 68), .int a1, .int a2] (n := 4) (Nat.le_of_ble_eq_true rfl)
  rw [lg_entry_eq]
  generalize (lg_sl [.ref (am 68), .int a1, .int a2] ++ List.replicate (4 - (lg_sl [.ref (am 68), .int a1, .int a2]).length) Slot.unset).toArray = ls at hl ⊢
  have hl : lv_has ls 4 [(0, .ref (am 68)), (1, .int a1), (2, .int a2)] := hl
  clear hAe hD hP hD0 hts
  have J126 : ∀ (t : St) (v2 : Int32) (w1 : Int32) (_ : m_opensPart_J126 t v2 w1 = some (r, t')) (H : Heap) (locs : List Loc) (ls : Array Slot), wl D A s (wM cI cJ cZ am t) H locs → lv_has ls 4 [(0, .ref (am 68)), (2, .int v2)] → W p l e (rmN 1 23) s m ([.ref (am 68), .int a1, .int a2].toArray) below meth c H locs 0 0 (MQ below (qI r D (tyM cI cJ cZ) (wM cI cJ cZ am t') A) ([.ref (am 68), .int a1, .int a2].toArray) s 0 0 A) (F0 m 126 ls [.int w1, .ref (am 68)]) := by
    intro t v2 w1 ho H locs ls hW hl
    unfold m_opensPart_J126 at ho
    obtain ⟨q1, hc2, ho⟩ := bd_some ho
    refine bkV C0 hW (runV (As := [.int w1]) (rest := []) C0 hW (c_m_opens l _ t w1 (t' := q1) hc2) ca_X12_opens_222 0 12 rfl rfl rfl rfl rfl ⟨rfl, rfl⟩ ⟨Nat.le_of_ble_eq_true rfl, Nat.le_of_ble_eq_true rfl⟩ (Nat.le_of_ble_eq_true rfl) hl.1 dX12_opensPart_126 ⟨Nat.le_of_ble_eq_true rfl, Nat.le_of_ble_eq_true rfl⟩) (fun H locs hW => ?_)
    refine lv_aload_n hx hb dX12_opensPart_129 rfl (lv_at hl 0 rfl) ?_
    refine mGET_22 C0 hW dX12_opensPart_130 ?_
    refine lv_aload_n hx hb dX12_opensPart_133 rfl (lv_at hl 0 rfl) ?_
    refine mGET_19 C0 hW dX12_opensPart_134 ?_
    refine lv_iload_n hx hb dX12_opensPart_137 rfl (lv_at hl 1 rfl) ?_
    obtain ⟨g3, ho⟩ := gd_some ho
    refine mST_22 C0 hW g3 dX12_opensPart_138 (fun H locs hW => ?_)
    obtain ⟨t4, ho, hW⟩ := nm_w (P := fun t => wl D A s (wM cI cJ cZ am t) H locs) ho hW
    refine lv_iconst (v := (0 : Int32)) hx hb dX12_opensPart_139 (by decide) ?_
    cases ho
    exact rtI C0 hW dX12_opensPart_140
  have J103 : ∀ (t : St) (v1 : Int32) (v2 : Int32) (_ : m_opensPart_J103 t v1 v2 = some (r, t')) (H : Heap) (locs : List Loc) (ls : Array Slot), wl D A s (wM cI cJ cZ am t) H locs → lv_has ls 4 [(0, .ref (am 68)), (1, .int v1), (2, .int v2)] → W p l e (rmN 1 23) s m ([.ref (am 68), .int a1, .int a2].toArray) below meth c H locs 0 0 (MQ below (qI r D (tyM cI cJ cZ) (wM cI cJ cZ am t') A) ([.ref (am 68), .int a1, .int a2].toArray) s 0 0 A) (F0 m 103 ls []) := by
    intro t v1 v2 ho H locs ls hW hl
    unfold m_opensPart_J103 at ho
    refine lv_aload_n hx hb dX12_opensPart_103 rfl (lv_at hl 0 rfl) ?_
    refine mGET_19 C0 hW dX12_opensPart_104 ?_
    refine lv_bipush (v := (8 : Int32)) hx hb dX12_opensPart_107 (by decide) ?_
    refine lv_icmp_ne (tgt := 114) hx hb dX12_opensPart_109 (by decide) (fun c5 => ?_) (fun c5 => ?_)
    · replace ho := ite_f c5 ho
      refine lv_aload_n hx hb dX12_opensPart_114 rfl (lv_at hl 0 rfl) ?_
      refine lv_iload_n hx hb dX12_opensPart_115 rfl (lv_at hl 1 rfl) ?_
      refine lv_bipush (v := (91 : Int32)) hx hb dX12_opensPart_116 (by decide) ?_
      refine lv_icmp_ne (tgt := 125) hx hb dX12_opensPart_118 (by decide) (fun c6 => ?_) (fun c6 => ?_)
      · replace ho := ite_f c6 ho
        refine lv_iconst (v := (0 : Int32)) hx hb dX12_opensPart_125 (by decide) ?_
        exact J126 _ _ _ ho _ _ _ hW (lv_sub hl [0, 2] rfl)
      · replace ho := ite_t c6 ho
        refine lv_iconst (v := (1 : Int32)) hx hb dX12_opensPart_121 (by decide) ?_
        refine lv_goto (tgt := 126) hx hb dX12_opensPart_122 (by decide) ?_
        exact J126 _ _ _ ho _ _ _ hW (lv_sub hl [0, 2] rfl)
    · replace ho := ite_t c5 ho
      refine lv_iconst (v := (5 : Int32)) hx hb dX12_opensPart_112 (by decide) ?_
      cases ho
      exact rtI C0 hW dX12_opensPart_113
  unfold m_opensPart at ho
  refine lv_iload_n hx hb dX12_opensPart_0 rfl (lv_at hl 1 rfl) ?_
  refine lv_bipush (v := (97 : Int32)) hx hb dX12_opensPart_1 (by decide) ?_
  refine lv_bipush (v := (112 : Int32)) hx hb dX12_opensPart_3 (by decide) ?_
  obtain ⟨q7, hc8, ho⟩ := bd_some ho
  refine bkZ C0 hW (runS (As := [.int a1, .int (97 : Int32), .int (112 : Int32)]) (rest := []) C0 hW (c_m_in l _ t a1 (97 : Int32) (112 : Int32) (r := q7) hc8) ca_X12_in_179 rfl rfl ⟨rfl, rfl⟩ ⟨Nat.le_of_ble_eq_true rfl, Nat.le_of_ble_eq_true rfl⟩ (Nat.le_of_ble_eq_true rfl) hl.1 dX12_opensPart_5 ⟨Nat.le_of_ble_eq_true rfl, Nat.le_of_ble_eq_true rfl⟩) (fun z9 H locs hW => ?_)
  refine lv_if_eq (tgt := 47) hx hb dX12_opensPart_8 (by decide) (fun c10 => ?_) (fun c10 => ?_)
  · replace ho := ite_t c10 ho
    refine lv_iload_n hx hb dX12_opensPart_47 rfl (lv_at hl 1 rfl) ?_
    refine lv_bipush (v := (48 : Int32)) hx hb dX12_opensPart_48 (by decide) ?_
    refine lv_bipush (v := (57 : Int32)) hx hb dX12_opensPart_50 (by decide) ?_
    obtain ⟨q11, hc12, ho⟩ := bd_some ho
    refine bkZ C0 hW (runS (As := [.int a1, .int (48 : Int32), .int (57 : Int32)]) (rest := []) C0 hW (c_m_in l _ t a1 (48 : Int32) (57 : Int32) (r := q11) hc12) ca_X12_in_179 rfl rfl ⟨rfl, rfl⟩ ⟨Nat.le_of_ble_eq_true rfl, Nat.le_of_ble_eq_true rfl⟩ (Nat.le_of_ble_eq_true rfl) hl.1 dX12_opensPart_52 ⟨Nat.le_of_ble_eq_true rfl, Nat.le_of_ble_eq_true rfl⟩) (fun z13 H locs hW => ?_)
    refine lv_if_eq (tgt := 89) hx hb dX12_opensPart_55 (by decide) (fun c14 => ?_) (fun c14 => ?_)
    · replace ho := ite_t c14 ho
      refine lv_iload_n hx hb dX12_opensPart_89 rfl (lv_at hl 1 rfl) ?_
      refine lv_bipush (v := (40 : Int32)) hx hb dX12_opensPart_90 (by decide) ?_
      refine lv_icmp_eq (tgt := 103) hx hb dX12_opensPart_92 (by decide) (fun c15 => ?_) (fun c15 => ?_)
      · replace ho := ite_t c15 ho
        exact J103 _ _ _ ho _ _ _ hW (lv_sub hl [0, 1, 2] rfl)
      · replace ho := ite_f c15 ho
        refine lv_iload_n hx hb dX12_opensPart_95 rfl (lv_at hl 1 rfl) ?_
        refine lv_bipush (v := (91 : Int32)) hx hb dX12_opensPart_96 (by decide) ?_
        refine lv_icmp_eq (tgt := 103) hx hb dX12_opensPart_98 (by decide) (fun c16 => ?_) (fun c16 => ?_)
        · replace ho := ite_t c16 ho
          exact J103 _ _ _ ho _ _ _ hW (lv_sub hl [0, 1, 2] rfl)
        · replace ho := ite_f c16 ho
          refine lv_iconst (v := (1 : Int32)) hx hb dX12_opensPart_101 (by decide) ?_
          cases ho
          exact rtI C0 hW dX12_opensPart_102
    · replace ho := ite_f c14 ho
      refine lv_aload_n hx hb dX12_opensPart_58 rfl (lv_at hl 0 rfl) ?_
      refine mGET_16 C0 hW dX12_opensPart_59 ?_
      refine lv_iload_n hx hb dX12_opensPart_62 rfl (lv_at hl 1 rfl) ?_
      refine lv_bipush (v := (48 : Int32)) hx hb dX12_opensPart_63 (by decide) ?_
      refine lv_isub hx hb dX12_opensPart_65 ?_
      obtain ⟨g17, ho⟩ := gd_some ho
      refine mLD_16 C0 hW g17 dX12_opensPart_66 ?_
      refine lv_iconst (v := (-1 : Int32)) hx hb dX12_opensPart_67 (by decide) ?_
      refine lv_icmp_ne (tgt := 73) hx hb dX12_opensPart_68 (by decide) (fun c18 => ?_) (fun c18 => ?_)
      · replace ho := ite_f c18 ho
        refine lv_aload_n hx hb dX12_opensPart_73 rfl (lv_at hl 0 rfl) ?_
        refine lv_iconst (v := (0 : Int32)) hx hb dX12_opensPart_74 (by decide) ?_
        refine lv_aload_n hx hb dX12_opensPart_75 rfl (lv_at hl 0 rfl) ?_
        refine mGET_16 C0 hW dX12_opensPart_76 ?_
        refine lv_iload_n hx hb dX12_opensPart_79 rfl (lv_at hl 1 rfl) ?_
        refine lv_bipush (v := (48 : Int32)) hx hb dX12_opensPart_80 (by decide) ?_
        refine lv_isub hx hb dX12_opensPart_82 ?_
        obtain ⟨g19, ho⟩ := gd_some ho
        refine mLD_16 C0 hW g19 dX12_opensPart_83 ?_
        obtain ⟨q20, hc21, ho⟩ := bd_some ho
        refine bkV C0 hW (runV (As := [.int (0 : Int32), .int (gA t 16 ((a1 - (48 : Int32))).toNatClampNeg)]) (rest := []) C0 hW (c_m_toRow l _ t (0 : Int32) (gA t 16 ((a1 - (48 : Int32))).toNatClampNeg) (t' := q20) hc21) ca_X12_toRow_213 0 12 rfl rfl rfl rfl rfl ⟨rfl, rfl⟩ ⟨Nat.le_of_ble_eq_true rfl, Nat.le_of_ble_eq_true rfl⟩ (Nat.le_of_ble_eq_true rfl) hl.1 dX12_opensPart_84 ⟨Nat.le_of_ble_eq_true rfl, Nat.le_of_ble_eq_true rfl⟩) (fun H locs hW => ?_)
        refine lv_iconst (v := (0 : Int32)) hx hb dX12_opensPart_87 (by decide) ?_
        cases ho
        exact rtI C0 hW dX12_opensPart_88
      · replace ho := ite_t c18 ho
        refine lv_iconst (v := (3 : Int32)) hx hb dX12_opensPart_71 (by decide) ?_
        cases ho
        exact rtI C0 hW dX12_opensPart_72
  · replace ho := ite_f c10 ho
    refine lv_aload_n hx hb dX12_opensPart_11 rfl (lv_at hl 0 rfl) ?_
    refine lv_iconst (v := (0 : Int32)) hx hb dX12_opensPart_12 (by decide) ?_
    obtain ⟨q22, hc23, ho⟩ := bd_some ho
    refine bkI C0 hW (runV (As := [.int (0 : Int32)]) (rest := []) C0 hW (c_m_newKnot l _ t (0 : Int32) (r := q22.1) (t' := q22.2) hc23) ca_X12_newKnot_203 0 12 rfl rfl rfl rfl rfl ⟨rfl, rfl⟩ ⟨Nat.le_of_ble_eq_true rfl, Nat.le_of_ble_eq_true rfl⟩ (Nat.le_of_ble_eq_true rfl) hl.1 dX12_opensPart_13 ⟨Nat.le_of_ble_eq_true rfl, Nat.le_of_ble_eq_true rfl⟩) (fun H locs hW => ?_)
    refine lv_istore_n (lv' := [(3, .int q22.1), (0, .ref (am 68)), (1, .int a1), (2, .int a2)]) hx hb dX12_opensPart_16 rfl hl (by decide) rfl (fun ls hl => ?_)
    refine lv_aload_n hx hb dX12_opensPart_17 rfl (lv_at hl 1 rfl) ?_
    refine mGET_10 C0 hW dX12_opensPart_18 ?_
    refine lv_iload_n hx hb dX12_opensPart_21 rfl (lv_at hl 0 rfl) ?_
    refine lv_iload_n hx hb dX12_opensPart_22 rfl (lv_at hl 2 rfl) ?_
    refine lv_bipush (v := (97 : Int32)) hx hb dX12_opensPart_23 (by decide) ?_
    refine lv_isub hx hb dX12_opensPart_25 ?_
    obtain ⟨g24, ho⟩ := gd_some ho
    refine mST_10 C0 hW g24 dX12_opensPart_26 (fun H locs hW => ?_)
    obtain ⟨t25, ho, hW⟩ := nm_w (P := fun t => wl D A s (wM cI cJ cZ am t) H locs) ho hW
    refine lv_aload_n hx hb dX12_opensPart_27 rfl (lv_at hl 1 rfl) ?_
    refine mGET_15 C0 hW dX12_opensPart_28 ?_
    refine lv_iload_n hx hb dX12_opensPart_31 rfl (lv_at hl 0 rfl) ?_
    refine lv_iconst (v := (1 : Int32)) hx hb dX12_opensPart_32 (by decide) ?_
    refine lv_iload_n hx hb dX12_opensPart_33 rfl (lv_at hl 2 rfl) ?_
    refine lv_bipush (v := (97 : Int32)) hx hb dX12_opensPart_34 (by decide) ?_
    refine lv_isub hx hb dX12_opensPart_36 ?_
    refine lv_ishl hx hb dX12_opensPart_37 ?_
    obtain ⟨g26, ho⟩ := gd_some ho
    refine mST_15 C0 hW g26 dX12_opensPart_38 (fun H locs hW => ?_)
    obtain ⟨t27, ho, hW⟩ := nm_w (P := fun t => wl D A s (wM cI cJ cZ am t) H locs) ho hW
    refine lv_aload_n hx hb dX12_opensPart_39 rfl (lv_at hl 1 rfl) ?_
    refine lv_iconst (v := (0 : Int32)) hx hb dX12_opensPart_40 (by decide) ?_
    refine lv_iload_n hx hb dX12_opensPart_41 rfl (lv_at hl 0 rfl) ?_
    obtain ⟨q28, hc29, ho⟩ := bd_some ho
    refine bkV C0 hW (runV (As := [.int (0 : Int32), .int q22.1]) (rest := []) C0 hW (c_m_toRow l _ t27 (0 : Int32) q22.1 (t' := q28) hc29) ca_X12_toRow_213 0 12 rfl rfl rfl rfl rfl ⟨rfl, rfl⟩ ⟨Nat.le_of_ble_eq_true rfl, Nat.le_of_ble_eq_true rfl⟩ (Nat.le_of_ble_eq_true rfl) hl.1 dX12_opensPart_42 ⟨Nat.le_of_ble_eq_true rfl, Nat.le_of_ble_eq_true rfl⟩) (fun H locs hW => ?_)
    refine lv_iconst (v := (0 : Int32)) hx hb dX12_opensPart_45 (by decide) ?_
    cases ho
    exact rtI C0 hW dX12_opensPart_46
noncomputable def m_closes (t : St) (a1 : Int32) : Option (St) :=
  nm (sI t 19 ((gI t 19) - (1 : Int32))) (fun t1 : St => (m_toRow t1 (0 : Int32) a1).bind (fun q2 => some q2))
set_option maxHeartbeats 4000000 in
set_option maxRecDepth 100000 in
theorem c_m_closes (l : Launch) {D : va_G} {cI cJ cZ : ClassId} {am : Nat → Nat} (sz : Nat) (t : St) (a1 : Int32) {t' : St} (ho : m_closes t a1 = some t') : Met l yX12_closes (.code yX12_closes cX12_closes 2 none :: wsAll) (rmN 1 23) (va_Pc [.ref (am 68), .int a1] (prW D (tyM cI cJ cZ) (wM cI cJ cZ am t) sz)) (qV D (tyM cI cJ cZ) (wM cI cJ cZ am t') (va_A (wM cI cJ cZ am t) sz)) 0 0 (va_A (wM cI cJ cZ am t) sz) := by
  refine Met.ofW (cc := cX12_closes) (maxL := 2) (ret := none) (by decide) rfl ?_
  intro p e s m args below meth c s₁ B hml hv
  obtain ⟨rfl, hsz, hP, hK, hD0⟩ := hv
  have hx := B.exec
  have hb := B.bytes
  have hts := atoms_spec (ws := (.code yX12_closes cX12_closes 2 none :: wsAll)) B.pre
  have hta := fun w h => hts w (List.mem_cons_of_mem _ h)
  have hown : s.vm.findClass RX12 = some m.cls := findClass_of_methodNamed B.named
  have hlocks := B.notSynchronized
  subst hsz
  have hD := hD0.self (sz := s.heap.size)
  generalize hAe : va_A (wM cI cJ cZ am t) s.heap.size = A at hD ⊢
  have hA : ∀ q : Nat, s.heap.size ≤ q → A q := fun q h => by rw [← hAe]; exact Or.inr h
  have C0 : cx p s m ([.ref (am 68), .int a1].toArray) meth c cX12_closes RX12 2 none D (tyM cI cJ cZ) A := ⟨hx, hb, B.returns, hml, hown, hta, hlocks, hK, hA⟩
  have hW : wl D A s (wM cI cJ cZ am t) s.heap [] := ⟨hP, hD, va_S.rf⟩
  have hl := lv_entry [.ref (am 68), .int a1] (n := 2) (Nat.le_of_ble_eq_true rfl)
  rw [lg_entry_eq]
  generalize (lg_sl [.ref (am 68), .int a1] ++ List.replicate (2 - (lg_sl [.ref (am 68), .int a1]).length) Slot.unset).toArray = ls at hl ⊢
  have hl : lv_has ls 2 [(0, .ref (am 68)), (1, .int a1)] := hl
  unfold m_closes at ho
  refine lv_aload_n hx hb dX12_closes_0 rfl (lv_at hl 0 rfl) ?_
  refine lv_dup hx hb dX12_closes_1 rfl ?_
  refine mGET_19 C0 hW dX12_closes_2 ?_
  refine lv_iconst (v := (1 : Int32)) hx hb dX12_closes_5 (by decide) ?_
  refine lv_isub hx hb dX12_closes_6 ?_
  refine mPUT_19 C0 hW dX12_closes_7 (fun H locs hW => ?_)
  obtain ⟨t1, ho, hW⟩ := nm_w (P := fun t => wl D A s (wM cI cJ cZ am t) H locs) ho hW
  refine lv_aload_n hx hb dX12_closes_10 rfl (lv_at hl 0 rfl) ?_
  refine lv_iconst (v := (0 : Int32)) hx hb dX12_closes_11 (by decide) ?_
  refine lv_iload_n hx hb dX12_closes_12 rfl (lv_at hl 1 rfl) ?_
  obtain ⟨q2, hc3, ho⟩ := bd_some ho
  refine bkV C0 hW (runV (As := [.int (0 : Int32), .int a1]) (rest := []) C0 hW (c_m_toRow l _ t1 (0 : Int32) a1 (t' := q2) hc3) ca_X12_toRow_213 0 12 rfl rfl rfl rfl rfl ⟨rfl, rfl⟩ ⟨Nat.le_of_ble_eq_true rfl, Nat.le_of_ble_eq_true rfl⟩ (Nat.le_of_ble_eq_true rfl) hl.1 dX12_closes_13 ⟨Nat.le_of_ble_eq_true rfl, Nat.le_of_ble_eq_true rfl⟩) (fun H locs hW => ?_)
  cases ho
  exact rtV C0 hW dX12_closes_16
noncomputable def m_squares_B72 (v1 : Int32) (v3 : Int32) (v4 : Int32) (t : St) : Option ((Int32 × St) ⊕ (St)) :=
  gd v1 36 (if (gA t 20 (v1).toNatClampNeg) ≤ v4 then (some (.inr t)) else (gd (((50 : Int32) * v1) + v4) 1800 ((m_comes t v3 (gA t 21 ((((50 : Int32) * v1) + v4)).toNatClampNeg)).bind (fun q4 => nm (v4 + (1 : Int32)) (fun x6 : Int32 => some (.inl (x6, q4)))))))
noncomputable def m_squares_J41 (t : St) : Option (Int32 × St) :=
  gd (gI t 19) 9 (nm (sI t 25 (gA t 23 ((gI t 19)).toNatClampNeg)) (fun t8 : St => some ((4 : Int32), t8)))
noncomputable def m_squares (t : St) : Option (Int32 × St) :=
  nm (((4 : Int32) * (gI t 19)) + (3 : Int32)) (fun x9 : Int32 => gd (gI t 19) 9 (gd (gA t 23 ((gI t 19)).toNatClampNeg) 80 (nm ((gA t 6 ((gA t 23 ((gI t 19)).toNatClampNeg)).toNatClampNeg) - (48 : Int32)) (fun x12 : Int32 => if x12 = 0 then (m_squares_J41 t) else (gd x9 36 (if x12 ≤ (gA t 20 (x9).toNatClampNeg) then ((m_newKnot t (4 : Int32)).bind (fun q16 => gd q16.1 400 (nm (sA q16.2 9 q16.1 x12) (fun t19 : St => (lp (fun x => m_squares_B72 x9 q16.1 x.1 x.2) ((0 : Int32), t19)).bind (fun y20 => (m_closes y20 q16.1).bind (fun q23 => some ((0 : Int32), q23))))))) else (m_squares_J41 t)))))))
set_option maxHeartbeats 4000000 in
set_option maxRecDepth 100000 in
theorem m_squares_L72 {p : Program} {l : Launch} {e : Env} {s : State} {m : MethodId} {args : Array Value} {below : List Frame} {meth : Method} {c : Code} {Q : State → Prop} {D : va_G} {cI cJ cZ : ClassId} {am : Nat → Nat} {A : Nat → Prop} (C0 : cx p s m args meth c cX12_squares RX12 5 (some .int) D (tyM cI cJ cZ) A) {v1 : Int32} {v3 : Int32} {y : St} (hK0 : ∀ (H : Heap) (locs : List Loc) (ls : Array Slot), wl D A s (wM cI cJ cZ am y) H locs → lv_has ls 5 [(0, .ref (am 68)), (3, .int v3)] → W p l e (rmN 2 44) s m args below meth c H locs 0 0 Q (F0 m 106 ls [])) :
    ∀ (n : Nat) (v4 : Int32) (t : St), lpn (fun x => m_squares_B72 v1 v3 x.1 x.2) n (v4, t) = some y → ∀ (H : Heap) (locs : List Loc) (ls : Array Slot), wl D A s (wM cI cJ cZ am t) H locs → lv_has ls 5 [(0, .ref (am 68)), (1, .int v1), (3, .int v3), (4, .int v4)] → W p l e (rmN 2 44) s m args below meth c H locs 0 0 Q (F0 m 72 ls []) := by
  have hx := C0.1
  have hb := C0.2.1
  have hta := C0.2.2.2.2.2.1
  have hown := C0.2.2.2.2.1
  intro n
  induction n with
  | zero => intro _ _ h; cases h
  | succ n ih =>
    intro v4 t hrun H locs ls hW hl
    obtain ⟨o, ho, hrun⟩ := bd_some hrun
    unfold m_squares_B72 at ho
    refine lv_iload hx hb dX12_squares_72 (lv_at hl 3 rfl) ?_
    refine lv_aload_n hx hb dX12_squares_74 rfl (lv_at hl 0 rfl) ?_
    refine mGET_20 C0 hW dX12_squares_75 ?_
    refine lv_iload_n hx hb dX12_squares_78 rfl (lv_at hl 1 rfl) ?_
    obtain ⟨g1, ho⟩ := gd_some ho
    refine mLD_20 C0 hW g1 dX12_squares_79 ?_
    refine lv_icmp_ge (tgt := 106) hx hb dX12_squares_80 (by decide) (fun c2 => ?_) (fun c2 => ?_)
    · replace ho := ite_t c2 ho
      cases ho
      cases hrun
      exact hK0 _ _ _ hW (lv_sub hl [0, 2] rfl)
    · replace ho := ite_f c2 ho
      refine lv_aload_n hx hb dX12_squares_83 rfl (lv_at hl 0 rfl) ?_
      refine lv_iload_n hx hb dX12_squares_84 rfl (lv_at hl 2 rfl) ?_
      refine lv_aload_n hx hb dX12_squares_85 rfl (lv_at hl 0 rfl) ?_
      refine mGET_21 C0 hW dX12_squares_86 ?_
      refine lv_bipush (v := (50 : Int32)) hx hb dX12_squares_89 (by decide) ?_
      refine lv_iload_n hx hb dX12_squares_91 rfl (lv_at hl 1 rfl) ?_
      refine lv_imul hx hb dX12_squares_92 ?_
      refine lv_iload hx hb dX12_squares_93 (lv_at hl 3 rfl) ?_
      refine lv_iadd hx hb dX12_squares_95 ?_
      obtain ⟨g3, ho⟩ := gd_some ho
      refine mLD_21 C0 hW g3 dX12_squares_96 ?_
      obtain ⟨q4, hc5, ho⟩ := bd_some ho
      refine bkV C0 hW (runV (As := [.int v3, .int (gA t 21 ((((50 : Int32) * v1) + v4)).toNatClampNeg)]) (rest := []) C0 hW (c_m_comes l _ t v3 (gA t 21 ((((50 : Int32) * v1) + v4)).toNatClampNeg) (t' := q4) hc5) ca_X12_comes_207 0 12 rfl rfl rfl rfl rfl ⟨rfl, rfl⟩ ⟨Nat.le_of_ble_eq_true rfl, Nat.le_of_ble_eq_true rfl⟩ (Nat.le_of_ble_eq_true rfl) hl.1 dX12_squares_97 ⟨Nat.le_of_ble_eq_true rfl, Nat.le_of_ble_eq_true rfl⟩) (fun H locs hW => ?_)
      obtain ⟨x6, ex6, ho⟩ := nm_x ho
      refine lv_iinc (v := x6) (lv' := [(4, .int x6), (0, .ref (am 68)), (1, .int v1), (3, .int v3)]) hx hb dX12_squares_100 hl (k := 3) rfl (by rw [ex6]; rfl) (by decide) rfl (fun ls hl => ?_)
      clear ex6
      refine lv_goto (tgt := 72) hx hb dX12_squares_103 (by decide) ?_
      cases ho
      exact ih _ _ hrun _ _ _ hW (lv_sub hl [1, 2, 3, 0] rfl)
set_option maxHeartbeats 4000000 in
set_option maxRecDepth 100000 in
theorem c_m_squares (l : Launch) {D : va_G} {cI cJ cZ : ClassId} {am : Nat → Nat} (sz : Nat) (t : St) {r : Int32} {t' : St} (ho : m_squares t = some (r, t')) : Met l yX12_squares (.code yX12_squares cX12_squares 5 (some .int) :: wsAll) (rmN 2 44) (va_Pc [.ref (am 68)] (prW D (tyM cI cJ cZ) (wM cI cJ cZ am t) sz)) (qI r D (tyM cI cJ cZ) (wM cI cJ cZ am t') (va_A (wM cI cJ cZ am t) sz)) 0 0 (va_A (wM cI cJ cZ am t) sz) := by
  refine Met.ofW (cc := cX12_squares) (maxL := 5) (ret := (some .int)) (by decide) rfl ?_
  intro p e s m args below meth c s₁ B hml hv
  obtain ⟨rfl, hsz, hP, hK, hD0⟩ := hv
  have hx := B.exec
  have hb := B.bytes
  have hts := atoms_spec (ws := (.code yX12_squares cX12_squares 5 (some .int) :: wsAll)) B.pre
  have hta := fun w h => hts w (List.mem_cons_of_mem _ h)
  have hown : s.vm.findClass RX12 = some m.cls := findClass_of_methodNamed B.named
  have hlocks := B.notSynchronized
  subst hsz
  have hD := hD0.self (sz := s.heap.size)
  generalize hAe : va_A (wM cI cJ cZ am t) s.heap.size = A at hD ⊢
  have hA : ∀ q : Nat, s.heap.size ≤ q → A q := fun q h => by rw [← hAe]; exact Or.inr h
  have C0 : cx p s m ([.ref (am 68)].toArray) meth c cX12_squares RX12 5 (some .int) D (tyM cI cJ cZ) A := ⟨hx, hb, B.returns, hml, hown, hta, hlocks, hK, hA⟩
  have hW : wl D A s (wM cI cJ cZ am t) s.heap [] := ⟨hP, hD, va_S.rf⟩
  have hl := lv_entry [.ref (am 68)] (n := 5) (Nat.le_of_ble_eq_true rfl)
  rw [lg_entry_eq]
  generalize (lg_sl [.ref (am 68)] ++ List.replicate (5 - (lg_sl [.ref (am 68)]).length) Slot.unset).toArray = ls at hl ⊢
  have hl : lv_has ls 5 [(0, .ref (am 68))] := hl
  clear hAe hD hP hD0 hts
  have J41 : ∀ (t : St) (_ : m_squares_J41 t = some (r, t')) (H : Heap) (locs : List Loc) (ls : Array Slot), wl D A s (wM cI cJ cZ am t) H locs → lv_has ls 5 [(0, .ref (am 68))] → W p l e (rmN 2 44) s m ([.ref (am 68)].toArray) below meth c H locs 0 0 (MQ below (qI r D (tyM cI cJ cZ) (wM cI cJ cZ am t') A) ([.ref (am 68)].toArray) s 0 0 A) (F0 m 41 ls []) := by
    intro t ho H locs ls hW hl
    unfold m_squares_J41 at ho
    refine lv_aload_n hx hb dX12_squares_41 rfl (lv_at hl 0 rfl) ?_
    refine lv_aload_n hx hb dX12_squares_42 rfl (lv_at hl 0 rfl) ?_
    refine mGET_23 C0 hW dX12_squares_43 ?_
    refine lv_aload_n hx hb dX12_squares_46 rfl (lv_at hl 0 rfl) ?_
    refine mGET_19 C0 hW dX12_squares_47 ?_
    obtain ⟨g7, ho⟩ := gd_some ho
    refine mLD_23 C0 hW g7 dX12_squares_50 ?_
    refine mPUT_25 C0 hW dX12_squares_51 (fun H locs hW => ?_)
    obtain ⟨t8, ho, hW⟩ := nm_w (P := fun t => wl D A s (wM cI cJ cZ am t) H locs) ho hW
    refine lv_iconst (v := (4 : Int32)) hx hb dX12_squares_54 (by decide) ?_
    cases ho
    exact rtI C0 hW dX12_squares_55
  unfold m_squares at ho
  refine lv_iconst (v := (4 : Int32)) hx hb dX12_squares_0 (by decide) ?_
  refine lv_aload_n hx hb dX12_squares_1 rfl (lv_at hl 0 rfl) ?_
  refine mGET_19 C0 hW dX12_squares_2 ?_
  refine lv_imul hx hb dX12_squares_5 ?_
  refine lv_iconst (v := (3 : Int32)) hx hb dX12_squares_6 (by decide) ?_
  refine lv_iadd hx hb dX12_squares_7 ?_
  refine lv_nmi ho (fun x9 ho => ?_)
  refine lv_istore_n (lv' := [(1, .int x9), (0, .ref (am 68))]) hx hb dX12_squares_8 rfl hl (by decide) rfl (fun ls hl => ?_)
  refine lv_aload_n hx hb dX12_squares_9 rfl (lv_at hl 1 rfl) ?_
  refine mGET_6 C0 hW dX12_squares_10 ?_
  refine lv_aload_n hx hb dX12_squares_13 rfl (lv_at hl 1 rfl) ?_
  refine mGET_23 C0 hW dX12_squares_14 ?_
  refine lv_aload_n hx hb dX12_squares_17 rfl (lv_at hl 1 rfl) ?_
  refine mGET_19 C0 hW dX12_squares_18 ?_
  obtain ⟨g10, ho⟩ := gd_some ho
  refine mLD_23 C0 hW g10 dX12_squares_21 ?_
  obtain ⟨g11, ho⟩ := gd_some ho
  refine mLD_6 C0 hW g11 dX12_squares_22 ?_
  refine lv_bipush (v := (48 : Int32)) hx hb dX12_squares_23 (by decide) ?_
  refine lv_isub hx hb dX12_squares_25 ?_
  refine lv_nmi ho (fun x12 ho => ?_)
  refine lv_istore_n (lv' := [(2, .int x12), (1, .int x9), (0, .ref (am 68))]) hx hb dX12_squares_26 rfl hl (by decide) rfl (fun ls hl => ?_)
  refine lv_iload_n hx hb dX12_squares_27 rfl (lv_at hl 0 rfl) ?_
  refine lv_if_eq (tgt := 41) hx hb dX12_squares_28 (by decide) (fun c13 => ?_) (fun c13 => ?_)
  · replace ho := ite_t c13 ho
    exact J41 _ ho _ _ _ hW (lv_sub hl [2] rfl)
  · replace ho := ite_f c13 ho
    refine lv_iload_n hx hb dX12_squares_31 rfl (lv_at hl 0 rfl) ?_
    refine lv_aload_n hx hb dX12_squares_32 rfl (lv_at hl 2 rfl) ?_
    refine mGET_20 C0 hW dX12_squares_33 ?_
    refine lv_iload_n hx hb dX12_squares_36 rfl (lv_at hl 1 rfl) ?_
    obtain ⟨g14, ho⟩ := gd_some ho
    refine mLD_20 C0 hW g14 dX12_squares_37 ?_
    refine lv_icmp_le (tgt := 56) hx hb dX12_squares_38 (by decide) (fun c15 => ?_) (fun c15 => ?_)
    · replace ho := ite_t c15 ho
      refine lv_aload_n hx hb dX12_squares_56 rfl (lv_at hl 2 rfl) ?_
      refine lv_iconst (v := (4 : Int32)) hx hb dX12_squares_57 (by decide) ?_
      obtain ⟨q16, hc17, ho⟩ := bd_some ho
      refine bkI C0 hW (runV (As := [.int (4 : Int32)]) (rest := []) C0 hW (c_m_newKnot l _ t (4 : Int32) (r := q16.1) (t' := q16.2) hc17) ca_X12_newKnot_203 0 12 rfl rfl rfl rfl rfl ⟨rfl, rfl⟩ ⟨Nat.le_of_ble_eq_true rfl, Nat.le_of_ble_eq_true rfl⟩ (Nat.le_of_ble_eq_true rfl) hl.1 dX12_squares_58 ⟨Nat.le_of_ble_eq_true rfl, Nat.le_of_ble_eq_true rfl⟩) (fun H locs hW => ?_)
      refine lv_istore_n (lv' := [(3, .int q16.1), (2, .int x12), (1, .int x9), (0, .ref (am 68))]) hx hb dX12_squares_61 rfl hl (by decide) rfl (fun ls hl => ?_)
      refine lv_aload_n hx hb dX12_squares_62 rfl (lv_at hl 3 rfl) ?_
      refine mGET_9 C0 hW dX12_squares_63 ?_
      refine lv_iload_n hx hb dX12_squares_66 rfl (lv_at hl 0 rfl) ?_
      refine lv_iload_n hx hb dX12_squares_67 rfl (lv_at hl 1 rfl) ?_
      obtain ⟨g18, ho⟩ := gd_some ho
      refine mST_9 C0 hW g18 dX12_squares_68 (fun H locs hW => ?_)
      obtain ⟨t19, ho, hW⟩ := nm_w (P := fun t => wl D A s (wM cI cJ cZ am t) H locs) ho hW
      refine lv_iconst (v := (0 : Int32)) hx hb dX12_squares_69 (by decide) ?_
      refine lv_istore (lv' := [(4, .int (0 : Int32)), (3, .int q16.1), (2, .int x12), (1, .int x9), (0, .ref (am 68))]) hx hb dX12_squares_70 hl (by decide) rfl (fun ls hl => ?_)
      obtain ⟨y20, hc22, ho⟩ := bd_some ho
      obtain ⟨ny20, hc22⟩ := lp_to hc22
      refine m_squares_L72 C0 ?_ ny20 _ _ hc22 _ _ _ hW (lv_sub hl [4, 3, 1, 0] rfl)
      intro H locs ls hW hl
      refine lv_aload_n hx hb dX12_squares_106 rfl (lv_at hl 0 rfl) ?_
      refine lv_iload_n hx hb dX12_squares_107 rfl (lv_at hl 1 rfl) ?_
      obtain ⟨q23, hc24, ho⟩ := bd_some ho
      refine bkV C0 hW (runV (As := [.int q16.1]) (rest := []) C0 hW (c_m_closes l _ y20 q16.1 (t' := q23) hc24) ca_X12_closes_233 0 12 rfl rfl rfl rfl rfl ⟨rfl, rfl⟩ ⟨Nat.le_of_ble_eq_true rfl, Nat.le_of_ble_eq_true rfl⟩ (Nat.le_of_ble_eq_true rfl) hl.1 dX12_squares_108 ⟨Nat.le_of_ble_eq_true rfl, Nat.le_of_ble_eq_true rfl⟩) (fun H locs hW => ?_)
      refine lv_iconst (v := (0 : Int32)) hx hb dX12_squares_111 (by decide) ?_
      cases ho
      exact rtI C0 hW dX12_squares_112
    · replace ho := ite_f c15 ho
      exact J41 _ ho _ _ _ hW (lv_sub hl [2] rfl)
noncomputable def m_goesOn_J84 (t : St) (v1 : Int32) : Option (Int32 × St) :=
  if (gI t 19) ≤ 0 then (some ((1 : Int32), t)) else (gd (gI t 19) 9 (if (gA t 24 ((gI t 19)).toNatClampNeg) = 0 then (some ((1 : Int32), t)) else ((m_endsNet t).bind (fun q4 => (m_toRow q4.2 (3 : Int32) q4.1).bind (fun q6 => if v1 = (44 : Int32) then (gd (((4 : Int32) * (gI q6 19)) + (3 : Int32)) 36 (if (gA q6 20 ((((4 : Int32) * (gI q6 19)) + (3 : Int32))).toNatClampNeg) = (8 : Int32) then (some ((7 : Int32), q6)) else (some ((0 : Int32), q6)))) else ((m_squares q6).bind (fun q9 => some (q9.1, q9.2))))))))
noncomputable def m_goesOn_J72 (t : St) (v1 : Int32) : Option (Int32 × St) :=
  if v1 = (44 : Int32) then (m_goesOn_J84 t v1) else (if v1 = (93 : Int32) then (m_goesOn_J84 t v1) else (some ((1 : Int32), t)))
noncomputable def m_goesOn (t : St) (a1 : Int32) (a2 : Int32) : Option (Int32 × St) :=
  nm (sI t 25 a2) (fun t15 : St => if a1 = (38 : Int32) then (some ((0 : Int32), t15)) else (if a1 = (62 : Int32) then ((m_endsBoth t15).bind (fun q29 => some ((0 : Int32), q29))) else (if a1 = (124 : Int32) then ((m_endsChain t15).bind (fun q27 => some ((0 : Int32), q27))) else (if a1 = (41 : Int32) then (if (gI t15 19) ≤ 0 then (m_goesOn_J72 t15 a1) else (gd (gI t15 19) 9 (if (gA t15 24 ((gI t15 19)).toNatClampNeg) = 0 then ((m_endsNet t15).bind (fun q23 => (m_closes q23.2 q23.1).bind (fun q25 => some ((0 : Int32), q25)))) else (m_goesOn_J72 t15 a1)))) else (m_goesOn_J72 t15 a1)))))
set_option maxHeartbeats 4000000 in
set_option maxRecDepth 100000 in
theorem c_m_goesOn (l : Launch) {D : va_G} {cI cJ cZ : ClassId} {am : Nat → Nat} (sz : Nat) (t : St) (a1 : Int32) (a2 : Int32) {r : Int32} {t' : St} (ho : m_goesOn t a1 a2 = some (r, t')) : Met l yX12_goesOn (.code yX12_goesOn cX12_goesOn 3 (some .int) :: wsAll) (rmN 5 107) (va_Pc [.ref (am 68), .int a1, .int a2] (prW D (tyM cI cJ cZ) (wM cI cJ cZ am t) sz)) (qI r D (tyM cI cJ cZ) (wM cI cJ cZ am t') (va_A (wM cI cJ cZ am t) sz)) 0 0 (va_A (wM cI cJ cZ am t) sz) := by
  refine Met.ofW (cc := cX12_goesOn) (maxL := 3) (ret := (some .int)) (by decide) rfl ?_
  intro p e s m args below meth c s₁ B hml hv
  obtain ⟨rfl, hsz, hP, hK, hD0⟩ := hv
  have hx := B.exec
  have hb := B.bytes
  have hts := atoms_spec (ws := (.code yX12_goesOn cX12_goesOn 3 (some .int) :: wsAll)) B.pre
  have hta := fun w h => hts w (List.mem_cons_of_mem _ h)
  have hown : s.vm.findClass RX12 = some m.cls := findClass_of_methodNamed B.named
  have hlocks := B.notSynchronized
  subst hsz
  have hD := hD0.self (sz := s.heap.size)
  generalize hAe : va_A (wM cI cJ cZ am t) s.heap.size = A at hD ⊢
  have hA : ∀ q : Nat, s.heap.size ≤ q → A q := fun q h => by rw [← hAe]; exact Or.inr h
  have C0 : cx p s m ([.ref (am 68), .int a1, .int a2].toArray) meth c cX12_goesOn RX12 3 (some .int) D (tyM cI cJ cZ) A := ⟨hx, hb, B.returns, hml, hown, hta, hlocks, hK, hA⟩
  have hW : wl D A s (wM cI cJ cZ am t) s.heap [] := ⟨hP, hD, va_S.rf⟩
  have hl := lv_entry [.ref (am 68), .int a1, .int a2] (n := 3) (Nat.le_of_ble_eq_true rfl)
  rw [lg_entry_eq]
  generalize (lg_sl [.ref (am 68), .int a1, .int a2] ++ List.replicate (3 - (lg_sl [.ref (am 68), .int a1, .int a2]).length) Slot.unset).toArray = ls at hl ⊢
  have hl : lv_has ls 3 [(0, .ref (am 68)), (1, .int a1), (2, .int a2)] := hl
  clear hAe hD hP hD0 hts
  have J84 : ∀ (t : St) (v1 : Int32) (_ : m_goesOn_J84 t v1 = some (r, t')) (H : Heap) (locs : List Loc) (ls : Array Slot), wl D A s (wM cI cJ cZ am t) H locs → lv_has ls 3 [(0, .ref (am 68)), (1, .int v1)] → W p l e (rmN 5 107) s m ([.ref (am 68), .int a1, .int a2].toArray) below meth c H locs 0 0 (MQ below (qI r D (tyM cI cJ cZ) (wM cI cJ cZ am t') A) ([.ref (am 68), .int a1, .int a2].toArray) s 0 0 A) (F0 m 84 ls []) := by
    intro t v1 ho H locs ls hW hl
    unfold m_goesOn_J84 at ho
    refine lv_aload_n hx hb dX12_goesOn_84 rfl (lv_at hl 0 rfl) ?_
    refine mGET_19 C0 hW dX12_goesOn_85 ?_
    refine lv_if_le (tgt := 150) hx hb dX12_goesOn_88 (by decide) (fun c1 => ?_) (fun c1 => ?_)
    · replace ho := ite_t c1 ho
      refine lv_iconst (v := (1 : Int32)) hx hb dX12_goesOn_150 (by decide) ?_
      cases ho
      exact rtI C0 hW dX12_goesOn_151
    · replace ho := ite_f c1 ho
      refine lv_aload_n hx hb dX12_goesOn_91 rfl (lv_at hl 0 rfl) ?_
      refine mGET_24 C0 hW dX12_goesOn_92 ?_
      refine lv_aload_n hx hb dX12_goesOn_95 rfl (lv_at hl 0 rfl) ?_
      refine mGET_19 C0 hW dX12_goesOn_96 ?_
      obtain ⟨g2, ho⟩ := gd_some ho
      refine mLD_24 C0 hW g2 dX12_goesOn_99 ?_
      refine lv_if_eq (tgt := 150) hx hb dX12_goesOn_100 (by decide) (fun c3 => ?_) (fun c3 => ?_)
      · replace ho := ite_t c3 ho
        refine lv_iconst (v := (1 : Int32)) hx hb dX12_goesOn_150 (by decide) ?_
        cases ho
        exact rtI C0 hW dX12_goesOn_151
      · replace ho := ite_f c3 ho
        refine lv_aload_n hx hb dX12_goesOn_103 rfl (lv_at hl 0 rfl) ?_
        refine lv_iconst (v := (3 : Int32)) hx hb dX12_goesOn_104 (by decide) ?_
        refine lv_aload_n hx hb dX12_goesOn_105 rfl (lv_at hl 0 rfl) ?_
        obtain ⟨q4, hc5, ho⟩ := bd_some ho
        refine bkI C0 hW (runV (As := []) (rest := [.int (3 : Int32), .ref (am 68)]) C0 hW (c_m_endsNet l _ t (r := q4.1) (t' := q4.2) hc5) ca_X12_endsNet_229 0 12 rfl rfl rfl rfl rfl ⟨rfl, rfl⟩ ⟨Nat.le_of_ble_eq_true rfl, Nat.le_of_ble_eq_true rfl⟩ (Nat.le_of_ble_eq_true rfl) hl.1 dX12_goesOn_106 ⟨Nat.le_of_ble_eq_true rfl, Nat.le_of_ble_eq_true rfl⟩) (fun H locs hW => ?_)
        obtain ⟨q6, hc7, ho⟩ := bd_some ho
        refine bkV C0 hW (runV (As := [.int (3 : Int32), .int q4.1]) (rest := []) C0 hW (c_m_toRow l _ q4.2 (3 : Int32) q4.1 (t' := q6) hc7) ca_X12_toRow_213 0 12 rfl rfl rfl rfl rfl ⟨rfl, rfl⟩ ⟨Nat.le_of_ble_eq_true rfl, Nat.le_of_ble_eq_true rfl⟩ (Nat.le_of_ble_eq_true rfl) hl.1 dX12_goesOn_109 ⟨Nat.le_of_ble_eq_true rfl, Nat.le_of_ble_eq_true rfl⟩) (fun H locs hW => ?_)
        refine lv_iload_n hx hb dX12_goesOn_112 rfl (lv_at hl 1 rfl) ?_
        refine lv_bipush (v := (44 : Int32)) hx hb dX12_goesOn_113 (by decide) ?_
        refine lv_icmp_ne (tgt := 145) hx hb dX12_goesOn_115 (by decide) (fun c8 => ?_) (fun c8 => ?_)
        · replace ho := ite_f c8 ho
          refine lv_aload_n hx hb dX12_goesOn_145 rfl (lv_at hl 0 rfl) ?_
          obtain ⟨q9, hc10, ho⟩ := bd_some ho
          refine bkI C0 hW (runV (As := []) (rest := []) C0 hW (c_m_squares l _ q6 (r := q9.1) (t' := q9.2) hc10) ca_X12_squares_237 0 12 rfl rfl rfl rfl rfl ⟨rfl, rfl⟩ ⟨Nat.le_of_ble_eq_true rfl, Nat.le_of_ble_eq_true rfl⟩ (Nat.le_of_ble_eq_true rfl) hl.1 dX12_goesOn_146 ⟨Nat.le_of_ble_eq_true rfl, Nat.le_of_ble_eq_true rfl⟩) (fun H locs hW => ?_)
          cases ho
          exact rtI C0 hW dX12_goesOn_149
        · replace ho := ite_t c8 ho
          refine lv_aload_n hx hb dX12_goesOn_118 rfl (lv_at hl 0 rfl) ?_
          refine mGET_20 C0 hW dX12_goesOn_119 ?_
          refine lv_iconst (v := (4 : Int32)) hx hb dX12_goesOn_122 (by decide) ?_
          refine lv_aload_n hx hb dX12_goesOn_123 rfl (lv_at hl 0 rfl) ?_
          refine mGET_19 C0 hW dX12_goesOn_124 ?_
          refine lv_imul hx hb dX12_goesOn_127 ?_
          refine lv_iconst (v := (3 : Int32)) hx hb dX12_goesOn_128 (by decide) ?_
          refine lv_iadd hx hb dX12_goesOn_129 ?_
          obtain ⟨g11, ho⟩ := gd_some ho
          refine mLD_20 C0 hW g11 dX12_goesOn_130 ?_
          refine lv_bipush (v := (8 : Int32)) hx hb dX12_goesOn_131 (by decide) ?_
          refine lv_icmp_ne (tgt := 141) hx hb dX12_goesOn_133 (by decide) (fun c12 => ?_) (fun c12 => ?_)
          · replace ho := ite_f c12 ho
            refine lv_iconst (v := (0 : Int32)) hx hb dX12_goesOn_141 (by decide) ?_
            refine lv_goto (tgt := 149) hx hb dX12_goesOn_142 (by decide) ?_
            cases ho
            exact rtI C0 hW dX12_goesOn_149
          · replace ho := ite_t c12 ho
            refine lv_bipush (v := (7 : Int32)) hx hb dX12_goesOn_136 (by decide) ?_
            refine lv_goto (tgt := 149) hx hb dX12_goesOn_138 (by decide) ?_
            cases ho
            exact rtI C0 hW dX12_goesOn_149
  have J72 : ∀ (t : St) (v1 : Int32) (_ : m_goesOn_J72 t v1 = some (r, t')) (H : Heap) (locs : List Loc) (ls : Array Slot), wl D A s (wM cI cJ cZ am t) H locs → lv_has ls 3 [(0, .ref (am 68)), (1, .int v1)] → W p l e (rmN 5 107) s m ([.ref (am 68), .int a1, .int a2].toArray) below meth c H locs 0 0 (MQ below (qI r D (tyM cI cJ cZ) (wM cI cJ cZ am t') A) ([.ref (am 68), .int a1, .int a2].toArray) s 0 0 A) (F0 m 72 ls []) := by
    intro t v1 ho H locs ls hW hl
    unfold m_goesOn_J72 at ho
    refine lv_iload_n hx hb dX12_goesOn_72 rfl (lv_at hl 1 rfl) ?_
    refine lv_bipush (v := (44 : Int32)) hx hb dX12_goesOn_73 (by decide) ?_
    refine lv_icmp_eq (tgt := 84) hx hb dX12_goesOn_75 (by decide) (fun c13 => ?_) (fun c13 => ?_)
    · replace ho := ite_t c13 ho
      exact J84 _ _ ho _ _ _ hW (lv_sub hl [0, 1] rfl)
    · replace ho := ite_f c13 ho
      refine lv_iload_n hx hb dX12_goesOn_78 rfl (lv_at hl 1 rfl) ?_
      refine lv_bipush (v := (93 : Int32)) hx hb dX12_goesOn_79 (by decide) ?_
      refine lv_icmp_ne (tgt := 150) hx hb dX12_goesOn_81 (by decide) (fun c14 => ?_) (fun c14 => ?_)
      · replace ho := ite_f c14 ho
        refine lv_iconst (v := (1 : Int32)) hx hb dX12_goesOn_150 (by decide) ?_
        cases ho
        exact rtI C0 hW dX12_goesOn_151
      · replace ho := ite_t c14 ho
        exact J84 _ _ ho _ _ _ hW (lv_sub hl [0, 1] rfl)
  unfold m_goesOn at ho
  refine lv_aload_n hx hb dX12_goesOn_0 rfl (lv_at hl 0 rfl) ?_
  refine lv_iload_n hx hb dX12_goesOn_1 rfl (lv_at hl 2 rfl) ?_
  refine mPUT_25 C0 hW dX12_goesOn_2 (fun H locs hW => ?_)
  obtain ⟨t15, ho, hW⟩ := nm_w (P := fun t => wl D A s (wM cI cJ cZ am t) H locs) ho hW
  refine lv_iload_n hx hb dX12_goesOn_5 rfl (lv_at hl 1 rfl) ?_
  refine lv_bipush (v := (38 : Int32)) hx hb dX12_goesOn_6 (by decide) ?_
  refine lv_icmp_ne (tgt := 13) hx hb dX12_goesOn_8 (by decide) (fun c16 => ?_) (fun c16 => ?_)
  · replace ho := ite_f c16 ho
    refine lv_iload_n hx hb dX12_goesOn_13 rfl (lv_at hl 1 rfl) ?_
    refine lv_bipush (v := (62 : Int32)) hx hb dX12_goesOn_14 (by decide) ?_
    refine lv_icmp_ne (tgt := 25) hx hb dX12_goesOn_16 (by decide) (fun c17 => ?_) (fun c17 => ?_)
    · replace ho := ite_f c17 ho
      refine lv_iload_n hx hb dX12_goesOn_25 rfl (lv_at hl 1 rfl) ?_
      refine lv_bipush (v := (124 : Int32)) hx hb dX12_goesOn_26 (by decide) ?_
      refine lv_icmp_ne (tgt := 37) hx hb dX12_goesOn_28 (by decide) (fun c18 => ?_) (fun c18 => ?_)
      · replace ho := ite_f c18 ho
        refine lv_iload_n hx hb dX12_goesOn_37 rfl (lv_at hl 1 rfl) ?_
        refine lv_bipush (v := (41 : Int32)) hx hb dX12_goesOn_38 (by decide) ?_
        refine lv_icmp_ne (tgt := 72) hx hb dX12_goesOn_40 (by decide) (fun c19 => ?_) (fun c19 => ?_)
        · replace ho := ite_f c19 ho
          exact J72 _ _ ho _ _ _ hW (lv_sub hl [0, 1] rfl)
        · replace ho := ite_t c19 ho
          refine lv_aload_n hx hb dX12_goesOn_43 rfl (lv_at hl 0 rfl) ?_
          refine mGET_19 C0 hW dX12_goesOn_44 ?_
          refine lv_if_le (tgt := 72) hx hb dX12_goesOn_47 (by decide) (fun c20 => ?_) (fun c20 => ?_)
          · replace ho := ite_t c20 ho
            exact J72 _ _ ho _ _ _ hW (lv_sub hl [0, 1] rfl)
          · replace ho := ite_f c20 ho
            refine lv_aload_n hx hb dX12_goesOn_50 rfl (lv_at hl 0 rfl) ?_
            refine mGET_24 C0 hW dX12_goesOn_51 ?_
            refine lv_aload_n hx hb dX12_goesOn_54 rfl (lv_at hl 0 rfl) ?_
            refine mGET_19 C0 hW dX12_goesOn_55 ?_
            obtain ⟨g21, ho⟩ := gd_some ho
            refine mLD_24 C0 hW g21 dX12_goesOn_58 ?_
            refine lv_if_ne (tgt := 72) hx hb dX12_goesOn_59 (by decide) (fun c22 => ?_) (fun c22 => ?_)
            · replace ho := ite_f c22 ho
              exact J72 _ _ ho _ _ _ hW (lv_sub hl [0, 1] rfl)
            · replace ho := ite_t c22 ho
              refine lv_aload_n hx hb dX12_goesOn_62 rfl (lv_at hl 0 rfl) ?_
              refine lv_aload_n hx hb dX12_goesOn_63 rfl (lv_at hl 0 rfl) ?_
              obtain ⟨q23, hc24, ho⟩ := bd_some ho
              refine bkI C0 hW (runV (As := []) (rest := [.ref (am 68)]) C0 hW (c_m_endsNet l _ t15 (r := q23.1) (t' := q23.2) hc24) ca_X12_endsNet_229 0 12 rfl rfl rfl rfl rfl ⟨rfl, rfl⟩ ⟨Nat.le_of_ble_eq_true rfl, Nat.le_of_ble_eq_true rfl⟩ (Nat.le_of_ble_eq_true rfl) hl.1 dX12_goesOn_64 ⟨Nat.le_of_ble_eq_true rfl, Nat.le_of_ble_eq_true rfl⟩) (fun H locs hW => ?_)
              obtain ⟨q25, hc26, ho⟩ := bd_some ho
              refine bkV C0 hW (runV (As := [.int q23.1]) (rest := []) C0 hW (c_m_closes l _ q23.2 q23.1 (t' := q25) hc26) ca_X12_closes_233 0 12 rfl rfl rfl rfl rfl ⟨rfl, rfl⟩ ⟨Nat.le_of_ble_eq_true rfl, Nat.le_of_ble_eq_true rfl⟩ (Nat.le_of_ble_eq_true rfl) hl.1 dX12_goesOn_67 ⟨Nat.le_of_ble_eq_true rfl, Nat.le_of_ble_eq_true rfl⟩) (fun H locs hW => ?_)
              refine lv_iconst (v := (0 : Int32)) hx hb dX12_goesOn_70 (by decide) ?_
              cases ho
              exact rtI C0 hW dX12_goesOn_71
      · replace ho := ite_t c18 ho
        refine lv_aload_n hx hb dX12_goesOn_31 rfl (lv_at hl 0 rfl) ?_
        obtain ⟨q27, hc28, ho⟩ := bd_some ho
        refine bkV C0 hW (runV (As := []) (rest := []) C0 hW (c_m_endsChain l _ t15 (t' := q27) hc28) ca_X12_endsChain_219 0 12 rfl rfl rfl rfl rfl ⟨rfl, rfl⟩ ⟨Nat.le_of_ble_eq_true rfl, Nat.le_of_ble_eq_true rfl⟩ (Nat.le_of_ble_eq_true rfl) hl.1 dX12_goesOn_32 ⟨Nat.le_of_ble_eq_true rfl, Nat.le_of_ble_eq_true rfl⟩) (fun H locs hW => ?_)
        refine lv_iconst (v := (0 : Int32)) hx hb dX12_goesOn_35 (by decide) ?_
        cases ho
        exact rtI C0 hW dX12_goesOn_36
    · replace ho := ite_t c17 ho
      refine lv_aload_n hx hb dX12_goesOn_19 rfl (lv_at hl 0 rfl) ?_
      obtain ⟨q29, hc30, ho⟩ := bd_some ho
      refine bkV C0 hW (runV (As := []) (rest := []) C0 hW (c_m_endsBoth l _ t15 (t' := q29) hc30) ca_X12_endsBoth_216 0 12 rfl rfl rfl rfl rfl ⟨rfl, rfl⟩ ⟨Nat.le_of_ble_eq_true rfl, Nat.le_of_ble_eq_true rfl⟩ (Nat.le_of_ble_eq_true rfl) hl.1 dX12_goesOn_20 ⟨Nat.le_of_ble_eq_true rfl, Nat.le_of_ble_eq_true rfl⟩) (fun H locs hW => ?_)
      refine lv_iconst (v := (0 : Int32)) hx hb dX12_goesOn_23 (by decide) ?_
      cases ho
      exact rtI C0 hW dX12_goesOn_24
  · replace ho := ite_t c16 ho
    refine lv_iconst (v := (0 : Int32)) hx hb dX12_goesOn_11 (by decide) ?_
    cases ho
    exact rtI C0 hW dX12_goesOn_12
noncomputable def m_reads_J144 (t : St) (v1 : Int32) (v2 : Int32) (v4 : Int32) : Option ((Int32 × Int32 × St) ⊕ ((Int32 × St) ⊕ (Int32 × St))) :=
  if v4 = 0 then (nm (v2 + (1 : Int32)) (fun x2 : Int32 => some (.inl (v1, x2, t)))) else (some (.inr (.inl (v4, t))))
noncomputable def m_reads_J143 (t : St) (v2 : Int32) (v4 : Int32) (w0 : Int32) : Option ((Int32 × Int32 × St) ⊕ ((Int32 × St) ⊕ (Int32 × St))) :=
  m_reads_J144 t w0 v2 v4
noncomputable def m_reads_J138 (t : St) (v2 : Int32) (v4 : Int32) : Option ((Int32 × Int32 × St) ⊕ ((Int32 × St) ⊕ (Int32 × St))) :=
  m_reads_J143 t v2 v4 (1 : Int32)
noncomputable def m_reads_J114 (t : St) (v2 : Int32) (v4 : Int32) (w0 : Int32) : Option ((Int32 × Int32 × St) ⊕ ((Int32 × St) ⊕ (Int32 × St))) :=
  m_reads_J144 t w0 v2 v4
noncomputable def m_reads_J64 (t : St) (v2 : Int32) (w0 : Int32) : Option ((Int32 × Int32 × St) ⊕ ((Int32 × St) ⊕ (Int32 × St))) :=
  gd (gI t 19) 9 (nm (sA t 23 (gI t 19) v2) (fun t4 : St => m_reads_J144 t4 (0 : Int32) v2 w0))
noncomputable def m_reads_B14 (v1 : Int32) (v2 : Int32) (t : St) : Option ((Int32 × Int32 × St) ⊕ ((Int32 × St) ⊕ (Int32 × St))) :=
  if (gI t 5) ≤ v2 then (some (.inr (.inr (v1, t)))) else (gd v2 80 (nm (gA t 6 (v2).toNatClampNeg) (fun x7 : Int32 => if x7 = (32 : Int32) then (nm (v2 + (1 : Int32)) (fun x9 : Int32 => some (.inl (v1, x9, t)))) else (nm (sI t 25 v2) (fun t10 : St => if v1 = (2 : Int32) then ((m_in t10 x7 (48 : Int32) (57 : Int32)).bind (fun q21 => if q21 = 0 then (m_reads_J64 t10 v2 (1 : Int32)) else (m_reads_J64 t10 v2 (0 : Int32)))) else (if v1 = 0 then ((m_opensPart t10 x7 v2).bind (fun q17 => if x7 = (91 : Int32) then (m_reads_J114 q17.2 v2 q17.1 (2 : Int32)) else (if x7 = (40 : Int32) then (m_reads_J114 q17.2 v2 q17.1 (0 : Int32)) else (m_reads_J114 q17.2 v2 q17.1 (1 : Int32))))) else ((m_goesOn t10 x7 v2).bind (fun q13 => if x7 = (41 : Int32) then (m_reads_J138 q13.2 v2 q13.1) else (if x7 = (93 : Int32) then (m_reads_J138 q13.2 v2 q13.1) else (m_reads_J143 q13.2 v2 q13.1 (0 : Int32)))))))))))
noncomputable def m_reads (t : St) : Option (Int32 × St) :=
  nm (sI t 19 (-1 : Int32)) (fun t25 : St => (m_opens t25 (0 : Int32)).bind (fun q26 => (lp (fun x => m_reads_B14 x.1 x.2.1 x.2.2) ((0 : Int32), (0 : Int32), q26)).bind (fun y28 => (Sum.elim (fun u31 => some (u31.1, u31.2)) (fun u31 => nm (sI u31.2 25 (gI u31.2 5)) (fun t32 : St => if u31.1 = (1 : Int32) then (if (gI t32 19) ≤ 0 then ((m_endsNet t32).bind (fun q35 => nm (sI q35.2 26 q35.1) (fun t37 : St => if (gI t37 7) ≤ (250 : Int32) then (some ((0 : Int32), t37)) else (some ((6 : Int32), t37))))) else (some ((2 : Int32), t32))) else (some ((2 : Int32), t32))))) y28)))
set_option maxHeartbeats 4000000 in
set_option maxRecDepth 100000 in
theorem m_reads_L14 {p : Program} {l : Launch} {e : Env} {s : State} {m : MethodId} {args : Array Value} {below : List Frame} {meth : Method} {c : Code} {Q : State → Prop} {D : va_G} {cI cJ cZ : ClassId} {am : Nat → Nat} {A : Nat → Prop} (C0 : cx p s m args meth c cX12_reads RX12 5 (some .int) D (tyM cI cJ cZ) A) {y : (Int32 × St) ⊕ (Int32 × St)} (hK0 : ∀ u, y = (.inl u) → ∀ (H : Heap) (locs : List Loc) (ls : Array Slot), wl D A s (wM cI cJ cZ am u.2) H locs → lv_has ls 5 [(0, .ref (am 68)), (4, .int u.1)] → W p l e (rmN 6 129) s m args below meth c H locs 0 0 Q (F0 m 149 ls [])) (hK1 : ∀ u, y = (.inr u) → ∀ (H : Heap) (locs : List Loc) (ls : Array Slot), wl D A s (wM cI cJ cZ am u.2) H locs → lv_has ls 5 [(0, .ref (am 68)), (1, .int u.1)] → W p l e (rmN 6 129) s m args below meth c H locs 0 0 Q (F0 m 158 ls [])) :
    ∀ (n : Nat) (v1 : Int32) (v2 : Int32) (t : St), lpn (fun x => m_reads_B14 x.1 x.2.1 x.2.2) n (v1, v2, t) = some y → ∀ (H : Heap) (locs : List Loc) (ls : Array Slot), wl D A s (wM cI cJ cZ am t) H locs → lv_has ls 5 [(0, .ref (am 68)), (1, .int v1), (2, .int v2)] → W p l e (rmN 6 129) s m args below meth c H locs 0 0 Q (F0 m 14 ls []) := by
  have hx := C0.1
  have hb := C0.2.1
  have hta := C0.2.2.2.2.2.1
  have hown := C0.2.2.2.2.1
  intro n
  induction n with
  | zero => intro _ _ _ h; cases h
  | succ n ih =>
    intro v1 v2 t hrun H locs ls hW hl
    obtain ⟨o, ho, hrun⟩ := bd_some hrun
    have J144 : ∀ (t : St) (v1 : Int32) (v2 : Int32) (v4 : Int32) (_ : m_reads_J144 t v1 v2 v4 = some o) (H : Heap) (locs : List Loc) (ls : Array Slot), wl D A s (wM cI cJ cZ am t) H locs → lv_has ls 5 [(0, .ref (am 68)), (1, .int v1), (2, .int v2), (4, .int v4)] → W p l e (rmN 6 129) s m args below meth c H locs 0 0 Q (F0 m 144 ls []) := by
      intro t v1 v2 v4 ho H locs ls hW hl
      unfold m_reads_J144 at ho
      refine lv_iload hx hb dX12_reads_144 (lv_at hl 3 rfl) ?_
      refine lv_if_eq (tgt := 152) hx hb dX12_reads_146 (by decide) (fun c1 => ?_) (fun c1 => ?_)
      · replace ho := ite_t c1 ho
        obtain ⟨x2, ex2, ho⟩ := nm_x ho
        refine lv_iinc (v := x2) (lv' := [(2, .int x2), (0, .ref (am 68)), (1, .int v1), (4, .int v4)]) hx hb dX12_reads_152 hl (k := 2) rfl (by rw [ex2]; rfl) (by decide) rfl (fun ls hl => ?_)
        clear ex2
        refine lv_goto (tgt := 14) hx hb dX12_reads_155 (by decide) ?_
        cases ho
        exact ih _ _ _ hrun _ _ _ hW (lv_sub hl [1, 2, 0] rfl)
      · replace ho := ite_f c1 ho
        cases ho
        cases hrun
        exact hK0 _ rfl _ _ _ hW (lv_sub hl [0, 3] rfl)
    have J143 : ∀ (t : St) (v2 : Int32) (v4 : Int32) (w0 : Int32) (_ : m_reads_J143 t v2 v4 w0 = some o) (H : Heap) (locs : List Loc) (ls : Array Slot), wl D A s (wM cI cJ cZ am t) H locs → lv_has ls 5 [(0, .ref (am 68)), (2, .int v2), (4, .int v4)] → W p l e (rmN 6 129) s m args below meth c H locs 0 0 Q (F0 m 143 ls [.int w0]) := by
      intro t v2 v4 w0 ho H locs ls hW hl
      unfold m_reads_J143 at ho
      refine lv_istore_n (lv' := [(1, .int w0), (0, .ref (am 68)), (2, .int v2), (4, .int v4)]) hx hb dX12_reads_143 rfl hl (by decide) rfl (fun ls hl => ?_)
      exact J144 _ _ _ _ ho _ _ _ hW (lv_sub hl [1, 0, 2, 3] rfl)
    have J138 : ∀ (t : St) (v2 : Int32) (v4 : Int32) (_ : m_reads_J138 t v2 v4 = some o) (H : Heap) (locs : List Loc) (ls : Array Slot), wl D A s (wM cI cJ cZ am t) H locs → lv_has ls 5 [(0, .ref (am 68)), (2, .int v2), (4, .int v4)] → W p l e (rmN 6 129) s m args below meth c H locs 0 0 Q (F0 m 138 ls []) := by
      intro t v2 v4 ho H locs ls hW hl
      unfold m_reads_J138 at ho
      refine lv_iconst (v := (1 : Int32)) hx hb dX12_reads_138 (by decide) ?_
      refine lv_goto (tgt := 143) hx hb dX12_reads_139 (by decide) ?_
      exact J143 _ _ _ _ ho _ _ _ hW (lv_sub hl [0, 1, 2] rfl)
    have J114 : ∀ (t : St) (v2 : Int32) (v4 : Int32) (w0 : Int32) (_ : m_reads_J114 t v2 v4 w0 = some o) (H : Heap) (locs : List Loc) (ls : Array Slot), wl D A s (wM cI cJ cZ am t) H locs → lv_has ls 5 [(0, .ref (am 68)), (2, .int v2), (4, .int v4)] → W p l e (rmN 6 129) s m args below meth c H locs 0 0 Q (F0 m 114 ls [.int w0]) := by
      intro t v2 v4 w0 ho H locs ls hW hl
      unfold m_reads_J114 at ho
      refine lv_istore_n (lv' := [(1, .int w0), (0, .ref (am 68)), (2, .int v2), (4, .int v4)]) hx hb dX12_reads_114 rfl hl (by decide) rfl (fun ls hl => ?_)
      refine lv_goto (tgt := 144) hx hb dX12_reads_115 (by decide) ?_
      exact J144 _ _ _ _ ho _ _ _ hW (lv_sub hl [1, 0, 2, 3] rfl)
    have J64 : ∀ (t : St) (v2 : Int32) (w0 : Int32) (_ : m_reads_J64 t v2 w0 = some o) (H : Heap) (locs : List Loc) (ls : Array Slot), wl D A s (wM cI cJ cZ am t) H locs → lv_has ls 5 [(0, .ref (am 68)), (2, .int v2)] → W p l e (rmN 6 129) s m args below meth c H locs 0 0 Q (F0 m 64 ls [.int w0]) := by
      intro t v2 w0 ho H locs ls hW hl
      unfold m_reads_J64 at ho
      refine lv_istore (lv' := [(4, .int w0), (0, .ref (am 68)), (2, .int v2)]) hx hb dX12_reads_64 hl (by decide) rfl (fun ls hl => ?_)
      refine lv_aload_n hx hb dX12_reads_66 rfl (lv_at hl 1 rfl) ?_
      refine mGET_23 C0 hW dX12_reads_67 ?_
      refine lv_aload_n hx hb dX12_reads_70 rfl (lv_at hl 1 rfl) ?_
      refine mGET_19 C0 hW dX12_reads_71 ?_
      refine lv_iload_n hx hb dX12_reads_74 rfl (lv_at hl 2 rfl) ?_
      obtain ⟨g3, ho⟩ := gd_some ho
      refine mST_23 C0 hW g3 dX12_reads_75 (fun H locs hW => ?_)
      obtain ⟨t4, ho, hW⟩ := nm_w (P := fun t => wl D A s (wM cI cJ cZ am t) H locs) ho hW
      refine lv_iconst (v := (0 : Int32)) hx hb dX12_reads_76 (by decide) ?_
      refine lv_istore_n (lv' := [(1, .int (0 : Int32)), (4, .int w0), (0, .ref (am 68)), (2, .int v2)]) hx hb dX12_reads_77 rfl hl (by decide) rfl (fun ls hl => ?_)
      refine lv_goto (tgt := 144) hx hb dX12_reads_78 (by decide) ?_
      exact J144 _ _ _ _ ho _ _ _ hW (lv_sub hl [2, 0, 3, 1] rfl)
    unfold m_reads_B14 at ho
    refine lv_iload_n hx hb dX12_reads_14 rfl (lv_at hl 2 rfl) ?_
    refine lv_aload_n hx hb dX12_reads_15 rfl (lv_at hl 0 rfl) ?_
    refine mGET_5 C0 hW dX12_reads_16 ?_
    refine lv_icmp_ge (tgt := 158) hx hb dX12_reads_19 (by decide) (fun c5 => ?_) (fun c5 => ?_)
    · replace ho := ite_t c5 ho
      cases ho
      cases hrun
      exact hK1 _ rfl _ _ _ hW (lv_sub hl [0, 1] rfl)
    · replace ho := ite_f c5 ho
      refine lv_aload_n hx hb dX12_reads_22 rfl (lv_at hl 0 rfl) ?_
      refine mGET_6 C0 hW dX12_reads_23 ?_
      refine lv_iload_n hx hb dX12_reads_26 rfl (lv_at hl 2 rfl) ?_
      obtain ⟨g6, ho⟩ := gd_some ho
      refine mLD_6 C0 hW g6 dX12_reads_27 ?_
      refine lv_nmi ho (fun x7 ho => ?_)
      refine lv_istore_n (lv' := [(3, .int x7), (0, .ref (am 68)), (1, .int v1), (2, .int v2)]) hx hb dX12_reads_28 rfl hl (by decide) rfl (fun ls hl => ?_)
      refine lv_iload_n hx hb dX12_reads_29 rfl (lv_at hl 0 rfl) ?_
      refine lv_bipush (v := (32 : Int32)) hx hb dX12_reads_30 (by decide) ?_
      refine lv_icmp_eq (tgt := 152) hx hb dX12_reads_32 (by decide) (fun c8 => ?_) (fun c8 => ?_)
      · replace ho := ite_t c8 ho
        obtain ⟨x9, ex9, ho⟩ := nm_x ho
        refine lv_iinc (v := x9) (lv' := [(2, .int x9), (3, .int x7), (0, .ref (am 68)), (1, .int v1)]) hx hb dX12_reads_152 hl (k := 3) rfl (by rw [ex9]; rfl) (by decide) rfl (fun ls hl => ?_)
        clear ex9
        refine lv_goto (tgt := 14) hx hb dX12_reads_155 (by decide) ?_
        cases ho
        exact ih _ _ _ hrun _ _ _ hW (lv_sub hl [2, 3, 0] rfl)
      · replace ho := ite_f c8 ho
        refine lv_aload_n hx hb dX12_reads_35 rfl (lv_at hl 1 rfl) ?_
        refine lv_iload_n hx hb dX12_reads_36 rfl (lv_at hl 3 rfl) ?_
        refine mPUT_25 C0 hW dX12_reads_37 (fun H locs hW => ?_)
        obtain ⟨t10, ho, hW⟩ := nm_w (P := fun t => wl D A s (wM cI cJ cZ am t) H locs) ho hW
        refine lv_iconst (v := (0 : Int32)) hx hb dX12_reads_40 (by decide) ?_
        refine lv_istore (lv' := [(4, .int (0 : Int32)), (3, .int x7), (0, .ref (am 68)), (1, .int v1), (2, .int v2)]) hx hb dX12_reads_41 hl (by decide) rfl (fun ls hl => ?_)
        refine lv_iload_n hx hb dX12_reads_43 rfl (lv_at hl 3 rfl) ?_
        refine lv_iconst (v := (2 : Int32)) hx hb dX12_reads_44 (by decide) ?_
        refine lv_icmp_ne (tgt := 81) hx hb dX12_reads_45 (by decide) (fun c11 => ?_) (fun c11 => ?_)
        · replace ho := ite_f c11 ho
          refine lv_iload_n hx hb dX12_reads_81 rfl (lv_at hl 3 rfl) ?_
          refine lv_if_ne (tgt := 118) hx hb dX12_reads_82 (by decide) (fun c12 => ?_) (fun c12 => ?_)
          · replace ho := ite_f c12 ho
            refine lv_aload_n hx hb dX12_reads_118 rfl (lv_at hl 2 rfl) ?_
            refine lv_iload_n hx hb dX12_reads_119 rfl (lv_at hl 1 rfl) ?_
            refine lv_iload_n hx hb dX12_reads_120 rfl (lv_at hl 4 rfl) ?_
            obtain ⟨q13, hc14, ho⟩ := bd_some ho
            refine bkI C0 hW (runV (As := [.int x7, .int v2]) (rest := []) C0 hW (c_m_goesOn l _ t10 x7 v2 (r := q13.1) (t' := q13.2) hc14) ca_X12_goesOn_243 0 12 rfl rfl rfl rfl rfl ⟨rfl, rfl⟩ ⟨Nat.le_of_ble_eq_true rfl, Nat.le_of_ble_eq_true rfl⟩ (Nat.le_of_ble_eq_true rfl) hl.1 dX12_reads_121 ⟨Nat.le_of_ble_eq_true rfl, Nat.le_of_ble_eq_true rfl⟩) (fun H locs hW => ?_)
            refine lv_istore (lv' := [(4, .int q13.1), (3, .int x7), (0, .ref (am 68)), (1, .int v1), (2, .int v2)]) hx hb dX12_reads_124 hl (by decide) rfl (fun ls hl => ?_)
            refine lv_iload_n hx hb dX12_reads_126 rfl (lv_at hl 1 rfl) ?_
            refine lv_bipush (v := (41 : Int32)) hx hb dX12_reads_127 (by decide) ?_
            refine lv_icmp_eq (tgt := 138) hx hb dX12_reads_129 (by decide) (fun c15 => ?_) (fun c15 => ?_)
            · replace ho := ite_t c15 ho
              exact J138 _ _ _ ho _ _ _ hW (lv_sub hl [2, 4, 0] rfl)
            · replace ho := ite_f c15 ho
              refine lv_iload_n hx hb dX12_reads_132 rfl (lv_at hl 1 rfl) ?_
              refine lv_bipush (v := (93 : Int32)) hx hb dX12_reads_133 (by decide) ?_
              refine lv_icmp_ne (tgt := 142) hx hb dX12_reads_135 (by decide) (fun c16 => ?_) (fun c16 => ?_)
              · replace ho := ite_f c16 ho
                refine lv_iconst (v := (0 : Int32)) hx hb dX12_reads_142 (by decide) ?_
                exact J143 _ _ _ _ ho _ _ _ hW (lv_sub hl [2, 4, 0] rfl)
              · replace ho := ite_t c16 ho
                exact J138 _ _ _ ho _ _ _ hW (lv_sub hl [2, 4, 0] rfl)
          · replace ho := ite_t c12 ho
            refine lv_aload_n hx hb dX12_reads_85 rfl (lv_at hl 2 rfl) ?_
            refine lv_iload_n hx hb dX12_reads_86 rfl (lv_at hl 1 rfl) ?_
            refine lv_iload_n hx hb dX12_reads_87 rfl (lv_at hl 4 rfl) ?_
            obtain ⟨q17, hc18, ho⟩ := bd_some ho
            refine bkI C0 hW (runV (As := [.int x7, .int v2]) (rest := []) C0 hW (c_m_opensPart l _ t10 x7 v2 (r := q17.1) (t' := q17.2) hc18) ca_X12_opensPart_240 0 12 rfl rfl rfl rfl rfl ⟨rfl, rfl⟩ ⟨Nat.le_of_ble_eq_true rfl, Nat.le_of_ble_eq_true rfl⟩ (Nat.le_of_ble_eq_true rfl) hl.1 dX12_reads_88 ⟨Nat.le_of_ble_eq_true rfl, Nat.le_of_ble_eq_true rfl⟩) (fun H locs hW => ?_)
            refine lv_istore (lv' := [(4, .int q17.1), (3, .int x7), (0, .ref (am 68)), (1, .int v1), (2, .int v2)]) hx hb dX12_reads_91 hl (by decide) rfl (fun ls hl => ?_)
            refine lv_iload_n hx hb dX12_reads_93 rfl (lv_at hl 1 rfl) ?_
            refine lv_bipush (v := (91 : Int32)) hx hb dX12_reads_94 (by decide) ?_
            refine lv_icmp_ne (tgt := 103) hx hb dX12_reads_96 (by decide) (fun c19 => ?_) (fun c19 => ?_)
            · replace ho := ite_f c19 ho
              refine lv_iload_n hx hb dX12_reads_103 rfl (lv_at hl 1 rfl) ?_
              refine lv_bipush (v := (40 : Int32)) hx hb dX12_reads_104 (by decide) ?_
              refine lv_icmp_ne (tgt := 113) hx hb dX12_reads_106 (by decide) (fun c20 => ?_) (fun c20 => ?_)
              · replace ho := ite_f c20 ho
                refine lv_iconst (v := (1 : Int32)) hx hb dX12_reads_113 (by decide) ?_
                exact J114 _ _ _ _ ho _ _ _ hW (lv_sub hl [2, 4, 0] rfl)
              · replace ho := ite_t c20 ho
                refine lv_iconst (v := (0 : Int32)) hx hb dX12_reads_109 (by decide) ?_
                refine lv_goto (tgt := 114) hx hb dX12_reads_110 (by decide) ?_
                exact J114 _ _ _ _ ho _ _ _ hW (lv_sub hl [2, 4, 0] rfl)
            · replace ho := ite_t c19 ho
              refine lv_iconst (v := (2 : Int32)) hx hb dX12_reads_99 (by decide) ?_
              refine lv_goto (tgt := 114) hx hb dX12_reads_100 (by decide) ?_
              exact J114 _ _ _ _ ho _ _ _ hW (lv_sub hl [2, 4, 0] rfl)
        · replace ho := ite_t c11 ho
          refine lv_iload_n hx hb dX12_reads_48 rfl (lv_at hl 1 rfl) ?_
          refine lv_bipush (v := (48 : Int32)) hx hb dX12_reads_49 (by decide) ?_
          refine lv_bipush (v := (57 : Int32)) hx hb dX12_reads_51 (by decide) ?_
          obtain ⟨q21, hc22, ho⟩ := bd_some ho
          refine bkZ C0 hW (runS (As := [.int x7, .int (48 : Int32), .int (57 : Int32)]) (rest := []) C0 hW (c_m_in l _ t10 x7 (48 : Int32) (57 : Int32) (r := q21) hc22) ca_X12_in_179 rfl rfl ⟨rfl, rfl⟩ ⟨Nat.le_of_ble_eq_true rfl, Nat.le_of_ble_eq_true rfl⟩ (Nat.le_of_ble_eq_true rfl) hl.1 dX12_reads_53 ⟨Nat.le_of_ble_eq_true rfl, Nat.le_of_ble_eq_true rfl⟩) (fun z23 H locs hW => ?_)
          refine lv_if_eq (tgt := 63) hx hb dX12_reads_56 (by decide) (fun c24 => ?_) (fun c24 => ?_)
          · replace ho := ite_t c24 ho
            refine lv_iconst (v := (1 : Int32)) hx hb dX12_reads_63 (by decide) ?_
            exact J64 _ _ _ ho _ _ _ hW (lv_sub hl [2, 4] rfl)
          · replace ho := ite_f c24 ho
            refine lv_iconst (v := (0 : Int32)) hx hb dX12_reads_59 (by decide) ?_
            refine lv_goto (tgt := 64) hx hb dX12_reads_60 (by decide) ?_
            exact J64 _ _ _ ho _ _ _ hW (lv_sub hl [2, 4] rfl)
set_option maxHeartbeats 4000000 in
set_option maxRecDepth 100000 in
theorem c_m_reads (l : Launch) {D : va_G} {cI cJ cZ : ClassId} {am : Nat → Nat} (sz : Nat) (t : St) {r : Int32} {t' : St} (ho : m_reads t = some (r, t')) : Met l yX12_reads (.code yX12_reads cX12_reads 5 (some .int) :: wsAll) (rmN 6 129) (va_Pc [.ref (am 68)] (prW D (tyM cI cJ cZ) (wM cI cJ cZ am t) sz)) (qI r D (tyM cI cJ cZ) (wM cI cJ cZ am t') (va_A (wM cI cJ cZ am t) sz)) 0 0 (va_A (wM cI cJ cZ am t) sz) := by
  refine Met.ofW (cc := cX12_reads) (maxL := 5) (ret := (some .int)) (by decide) rfl ?_
  intro p e s m args below meth c s₁ B hml hv
  obtain ⟨rfl, hsz, hP, hK, hD0⟩ := hv
  have hx := B.exec
  have hb := B.bytes
  have hts := atoms_spec (ws := (.code yX12_reads cX12_reads 5 (some .int) :: wsAll)) B.pre
  have hta := fun w h => hts w (List.mem_cons_of_mem _ h)
  have hown : s.vm.findClass RX12 = some m.cls := findClass_of_methodNamed B.named
  have hlocks := B.notSynchronized
  subst hsz
  have hD := hD0.self (sz := s.heap.size)
  generalize hAe : va_A (wM cI cJ cZ am t) s.heap.size = A at hD ⊢
  have hA : ∀ q : Nat, s.heap.size ≤ q → A q := fun q h => by rw [← hAe]; exact Or.inr h
  have C0 : cx p s m ([.ref (am 68)].toArray) meth c cX12_reads RX12 5 (some .int) D (tyM cI cJ cZ) A := ⟨hx, hb, B.returns, hml, hown, hta, hlocks, hK, hA⟩
  have hW : wl D A s (wM cI cJ cZ am t) s.heap [] := ⟨hP, hD, va_S.rf⟩
  have hl := lv_entry [.ref (am 68)] (n := 5) (Nat.le_of_ble_eq_true rfl)
  rw [lg_entry_eq]
  generalize (lg_sl [.ref (am 68)] ++ List.replicate (5 - (lg_sl [.ref (am 68)]).length) Slot.unset).toArray = ls at hl ⊢
  have hl : lv_has ls 5 [(0, .ref (am 68))] := hl
  unfold m_reads at ho
  refine lv_aload_n hx hb dX12_reads_0 rfl (lv_at hl 0 rfl) ?_
  refine lv_iconst (v := (-1 : Int32)) hx hb dX12_reads_1 (by decide) ?_
  refine mPUT_19 C0 hW dX12_reads_2 (fun H locs hW => ?_)
  obtain ⟨t25, ho, hW⟩ := nm_w (P := fun t => wl D A s (wM cI cJ cZ am t) H locs) ho hW
  refine lv_aload_n hx hb dX12_reads_5 rfl (lv_at hl 0 rfl) ?_
  refine lv_iconst (v := (0 : Int32)) hx hb dX12_reads_6 (by decide) ?_
  obtain ⟨q26, hc27, ho⟩ := bd_some ho
  refine bkV C0 hW (runV (As := [.int (0 : Int32)]) (rest := []) C0 hW (c_m_opens l _ t25 (0 : Int32) (t' := q26) hc27) ca_X12_opens_222 0 12 rfl rfl rfl rfl rfl ⟨rfl, rfl⟩ ⟨Nat.le_of_ble_eq_true rfl, Nat.le_of_ble_eq_true rfl⟩ (Nat.le_of_ble_eq_true rfl) hl.1 dX12_reads_7 ⟨Nat.le_of_ble_eq_true rfl, Nat.le_of_ble_eq_true rfl⟩) (fun H locs hW => ?_)
  refine lv_iconst (v := (0 : Int32)) hx hb dX12_reads_10 (by decide) ?_
  refine lv_istore_n (lv' := [(1, .int (0 : Int32)), (0, .ref (am 68))]) hx hb dX12_reads_11 rfl hl (by decide) rfl (fun ls hl => ?_)
  refine lv_iconst (v := (0 : Int32)) hx hb dX12_reads_12 (by decide) ?_
  refine lv_istore_n (lv' := [(2, .int (0 : Int32)), (1, .int (0 : Int32)), (0, .ref (am 68))]) hx hb dX12_reads_13 rfl hl (by decide) rfl (fun ls hl => ?_)
  obtain ⟨y28, hc30, ho⟩ := bd_some ho
  obtain ⟨ny28, hc30⟩ := lp_to hc30
  refine m_reads_L14 C0 ?_ ?_ ny28 _ _ _ hc30 _ _ _ hW (lv_sub hl [2, 1, 0] rfl)
  · intro u31 hy H locs ls hW hl
    subst hy
    replace ho := sum_l ho
    refine lv_iload hx hb dX12_reads_149 (lv_at hl 1 rfl) ?_
    cases ho
    exact rtI C0 hW dX12_reads_151
  · intro u31 hy H locs ls hW hl
    subst hy
    replace ho := sum_r ho
    refine lv_aload_n hx hb dX12_reads_158 rfl (lv_at hl 0 rfl) ?_
    refine lv_aload_n hx hb dX12_reads_159 rfl (lv_at hl 0 rfl) ?_
    refine mGET_5 C0 hW dX12_reads_160 ?_
    refine mPUT_25 C0 hW dX12_reads_163 (fun H locs hW => ?_)
    obtain ⟨t32, ho, hW⟩ := nm_w (P := fun t => wl D A s (wM cI cJ cZ am t) H locs) ho hW
    refine lv_iload_n hx hb dX12_reads_166 rfl (lv_at hl 1 rfl) ?_
    refine lv_iconst (v := (1 : Int32)) hx hb dX12_reads_167 (by decide) ?_
    refine lv_icmp_ne (tgt := 178) hx hb dX12_reads_168 (by decide) (fun c33 => ?_) (fun c33 => ?_)
    · replace ho := ite_f c33 ho
      refine lv_iconst (v := (2 : Int32)) hx hb dX12_reads_178 (by decide) ?_
      cases ho
      exact rtI C0 hW dX12_reads_179
    · replace ho := ite_t c33 ho
      refine lv_aload_n hx hb dX12_reads_171 rfl (lv_at hl 0 rfl) ?_
      refine mGET_19 C0 hW dX12_reads_172 ?_
      refine lv_if_le (tgt := 180) hx hb dX12_reads_175 (by decide) (fun c34 => ?_) (fun c34 => ?_)
      · replace ho := ite_t c34 ho
        refine lv_aload_n hx hb dX12_reads_180 rfl (lv_at hl 0 rfl) ?_
        refine lv_aload_n hx hb dX12_reads_181 rfl (lv_at hl 0 rfl) ?_
        obtain ⟨q35, hc36, ho⟩ := bd_some ho
        refine bkI C0 hW (runV (As := []) (rest := [.ref (am 68)]) C0 hW (c_m_endsNet l _ t32 (r := q35.1) (t' := q35.2) hc36) ca_X12_endsNet_229 0 12 rfl rfl rfl rfl rfl ⟨rfl, rfl⟩ ⟨Nat.le_of_ble_eq_true rfl, Nat.le_of_ble_eq_true rfl⟩ (Nat.le_of_ble_eq_true rfl) hl.1 dX12_reads_182 ⟨Nat.le_of_ble_eq_true rfl, Nat.le_of_ble_eq_true rfl⟩) (fun H locs hW => ?_)
        refine mPUT_26 C0 hW dX12_reads_185 (fun H locs hW => ?_)
        obtain ⟨t37, ho, hW⟩ := nm_w (P := fun t => wl D A s (wM cI cJ cZ am t) H locs) ho hW
        refine lv_aload_n hx hb dX12_reads_188 rfl (lv_at hl 0 rfl) ?_
        refine mGET_7 C0 hW dX12_reads_189 ?_
        refine lv_sipush (v := (250 : Int32)) hx hb dX12_reads_192 (by decide) ?_
        refine lv_icmp_le (tgt := 203) hx hb dX12_reads_195 (by decide) (fun c38 => ?_) (fun c38 => ?_)
        · replace ho := ite_t c38 ho
          refine lv_iconst (v := (0 : Int32)) hx hb dX12_reads_203 (by decide) ?_
          cases ho
          exact rtI C0 hW dX12_reads_204
        · replace ho := ite_f c38 ho
          refine lv_bipush (v := (6 : Int32)) hx hb dX12_reads_198 (by decide) ?_
          refine lv_goto (tgt := 204) hx hb dX12_reads_200 (by decide) ?_
          cases ho
          exact rtI C0 hW dX12_reads_204
      · replace ho := ite_f c34 ho
        refine lv_iconst (v := (2 : Int32)) hx hb dX12_reads_178 (by decide) ?_
        cases ho
        exact rtI C0 hW dX12_reads_179
noncomputable def m_isNet (t : St) (a0 : Int32) : Option (Int32) :=
  (m_in t a0 (0 : Int32) (9 : Int32)).bind (fun q1 => some q1)
set_option maxHeartbeats 4000000 in
set_option maxRecDepth 100000 in
theorem c_m_isNet (l : Launch) {D : va_G} {cI cJ cZ : ClassId} {am : Nat → Nat} (sz : Nat) (t : St) (a0 : Int32) {r : Int32} (ho : m_isNet t a0 = some r) : Met l yX12_isNet (.code yX12_isNet cX12_isNet 1 (some .boolean) :: wsAll) (rmN 1 22) (va_Pc [.int a0] (prW D (tyM cI cJ cZ) (wM cI cJ cZ am t) sz)) (qZ r D (tyM cI cJ cZ) (wM cI cJ cZ am t) (va_A (wM cI cJ cZ am t) sz)) 0 0 (va_A (wM cI cJ cZ am t) sz) := by
  refine Met.ofW (cc := cX12_isNet) (maxL := 1) (ret := (some .boolean)) (by decide) rfl ?_
  intro p e s m args below meth c s₁ B hml hv
  obtain ⟨rfl, hsz, hP, hK, hD0⟩ := hv
  have hx := B.exec
  have hb := B.bytes
  have hts := atoms_spec (ws := (.code yX12_isNet cX12_isNet 1 (some .boolean) :: wsAll)) B.pre
  have hta := fun w h => hts w (List.mem_cons_of_mem _ h)
  have hown : s.vm.findClass RX12 = some m.cls := findClass_of_methodNamed B.named
  have hlocks := B.notSynchronized
  subst hsz
  have hD := hD0.self (sz := s.heap.size)
  generalize hAe : va_A (wM cI cJ cZ am t) s.heap.size = A at hD ⊢
  have hA : ∀ q : Nat, s.heap.size ≤ q → A q := fun q h => by rw [← hAe]; exact Or.inr h
  have C0 : cx p s m ([.int a0].toArray) meth c cX12_isNet RX12 1 (some .boolean) D (tyM cI cJ cZ) A := ⟨hx, hb, B.returns, hml, hown, hta, hlocks, hK, hA⟩
  have hW : wl D A s (wM cI cJ cZ am t) s.heap [] := ⟨hP, hD, va_S.rf⟩
  have hl := lv_entry [.int a0] (n := 1) (Nat.le_of_ble_eq_true rfl)
  rw [lg_entry_eq]
  generalize (lg_sl [.int a0] ++ List.replicate (1 - (lg_sl [.int a0]).length) Slot.unset).toArray = ls at hl ⊢
  have hl : lv_has ls 1 [(0, .int a0)] := hl
  unfold m_isNet at ho
  refine lv_iload_n hx hb dX12_isNet_0 rfl (lv_at hl 0 rfl) ?_
  refine lv_iconst (v := (0 : Int32)) hx hb dX12_isNet_1 (by decide) ?_
  refine lv_bipush (v := (9 : Int32)) hx hb dX12_isNet_2 (by decide) ?_
  obtain ⟨q1, hc2, ho⟩ := bd_some ho
  refine bkZ C0 hW (runS (As := [.int a0, .int (0 : Int32), .int (9 : Int32)]) (rest := []) C0 hW (c_m_in l _ t a0 (0 : Int32) (9 : Int32) (r := q1) hc2) ca_X12_in_179 rfl rfl ⟨rfl, rfl⟩ ⟨Nat.le_of_ble_eq_true rfl, Nat.le_of_ble_eq_true rfl⟩ (Nat.le_of_ble_eq_true rfl) hl.1 dX12_isNet_4 ⟨Nat.le_of_ble_eq_true rfl, Nat.le_of_ble_eq_true rfl⟩) (fun z3 H locs hW => ?_)
  cases ho
  exact rtZ C0 hW z3 dX12_isNet_7
