noncomputable def m_bitOf (t : St) (a1 : Int32) (a2 : Int32) : Option (Int32) :=
  gd (((7 : Int32) * a1) + (a2 / (30 : Int32))) 31600 (if (((gA t 34 ((((7 : Int32) * a1) + (a2 / (30 : Int32)))).toNatClampNeg) >>> ((a2 - a2 / (30 : Int32) * (30 : Int32)) &&& 31)) &&& (1 : Int32)) = (1 : Int32) then (some (1 : Int32)) else (some (0 : Int32)))
set_option maxHeartbeats 4000000 in
set_option maxRecDepth 100000 in
theorem c_m_bitOf (l : Launch) {D : va_G} {cI cJ cZ : ClassId} {am : Nat → Nat} (sz : Nat) (t : St) (a1 : Int32) (a2 : Int32) {r : Int32} (ho : m_bitOf t a1 a2 = some r) : Met l yX12_bitOf (.code yX12_bitOf cX12_bitOf 3 (some .boolean) :: wsAll) (rmN 0 0) (va_Pc [.ref (am 68), .int a1, .int a2] (prW D (tyM cI cJ cZ) (wM cI cJ cZ am t) sz)) (qZ r D (tyM cI cJ cZ) (wM cI cJ cZ am t) (va_A (wM cI cJ cZ am t) sz)) 0 0 (va_A (wM cI cJ cZ am t) sz) := by
  refine Met.ofW (cc := cX12_bitOf) (maxL := 3) (ret := (some .boolean)) (by decide) rfl ?_
  intro p e s m args below meth c s₁ B hml hv
  obtain ⟨rfl, hsz, hP, hK, hD0⟩ := hv
  have hx := B.exec
  have hb := B.bytes
  have hts := atoms_spec (ws := (.code yX12_bitOf cX12_bitOf 3 (some .boolean) :: wsAll)) B.pre
  have hta := fun w h => hts w (List.mem_cons_of_mem _ h)
  have hown : s.vm.findClass RX12 = some m.cls := findClass_of_methodNamed B.named
  have hlocks := B.notSynchronized
  subst hsz
  have hD := hD0.self (sz := s.heap.size)
  generalize hAe : va_A (wM cI cJ cZ am t) s.heap.size = A at hD ⊢
  have hA : ∀ q : Nat, s.heap.size ≤ q → A q := fun q h => by rw [← hAe]; exact Or.inr h
  have C0 : cx p s m ([.ref (am 68), .int a1, .int a2].toArray) meth c cX12_bitOf RX12 3 (some .boolean) D (tyM cI cJ cZ) A := ⟨hx, hb, B.returns, hml, hown, hta, hlocks, hK, hA⟩
  have hW : wl D A s (wM cI cJ cZ am t) s.heap [] := ⟨hP, hD, va_S.rf⟩
  have hl := lv_entry [.ref (am 68), .int a1, .int a2] (n := 3) (Nat.le_of_ble_eq_true rfl)
  rw [lg_entry_eq]
  generalize (lg_sl [.ref (am 68), .int a1, .int a2] ++ List.replicate (3 - (lg_sl [.ref (am 68), .int a1, .int a2]).length) Slot.unset).toArray = ls at hl ⊢
  have hl : lv_has ls 3 [(0, .ref (am 68)), (1, .int a1), (2, .int a2)] := hl
  unfold m_bitOf at ho
  refine lv_aload_n hx hb dX12_bitOf_0 rfl (lv_at hl 0 rfl) ?_
  refine mGET_34 C0 hW dX12_bitOf_1 ?_
  refine lv_bipush (v := (7 : Int32)) hx hb dX12_bitOf_4 (by decide) ?_
  refine lv_iload_n hx hb dX12_bitOf_6 rfl (lv_at hl 1 rfl) ?_
  refine lv_imul hx hb dX12_bitOf_7 ?_
  refine lv_iload_n hx hb dX12_bitOf_8 rfl (lv_at hl 2 rfl) ?_
  refine lv_bipush (v := (30 : Int32)) hx hb dX12_bitOf_9 (by decide) ?_
  refine lv_idiv hx hb dX12_bitOf_11 (by decide) ?_
  refine lv_iadd hx hb dX12_bitOf_12 ?_
  obtain ⟨g1, ho⟩ := gd_some ho
  refine mLD_34 C0 hW g1 dX12_bitOf_13 ?_
  refine lv_iload_n hx hb dX12_bitOf_14 rfl (lv_at hl 2 rfl) ?_
  refine lv_bipush (v := (30 : Int32)) hx hb dX12_bitOf_15 (by decide) ?_
  refine lv_irem hx hb dX12_bitOf_17 (by decide) ?_
  refine lv_ishr hx hb dX12_bitOf_18 ?_
  refine lv_iconst (v := (1 : Int32)) hx hb dX12_bitOf_19 (by decide) ?_
  refine lv_iand hx hb dX12_bitOf_20 ?_
  refine lv_iconst (v := (1 : Int32)) hx hb dX12_bitOf_21 (by decide) ?_
  refine lv_icmp_ne (tgt := 29) hx hb dX12_bitOf_22 (by decide) (fun c2 => ?_) (fun c2 => ?_)
  · replace ho := ite_f c2 ho
    refine lv_iconst (v := (0 : Int32)) hx hb dX12_bitOf_29 (by decide) ?_
    cases ho
    exact rtZ C0 hW (Or.inl (rfl : (0 : Int32) = 0)) dX12_bitOf_30
  · replace ho := ite_t c2 ho
    refine lv_iconst (v := (1 : Int32)) hx hb dX12_bitOf_25 (by decide) ?_
    refine lv_goto (tgt := 30) hx hb dX12_bitOf_26 (by decide) ?_
    cases ho
    exact rtZ C0 hW (Or.inr (rfl : (1 : Int32) = 1)) dX12_bitOf_30
noncomputable def m_divides_J56 (t : St) (v1 : Int32) (v2 : Int32) (v3 : Int32) (v4 : Int32) (w1 : Int32) (w2 : Int32) (w3 : Int32) : Option ((Int32 × St) ⊕ (St)) :=
  gd w1 31600 (nm (sA t 34 w1 (w2 ||| w3)) (fun t2 : St => (m_against t2 (4506 : Int32) v2).bind (fun q3 => if q3 < 0 then (nm (v4 + (-1 : Int32)) (fun x6 : Int32 => some (.inl (x6, t2)))) else ((m_lessens t2 (4506 : Int32) v2).bind (fun q7 => gd (((7 : Int32) * v3) + (v4 / (30 : Int32))) 31600 (gd (((7 : Int32) * v3) + (v4 / (30 : Int32))) 31600 (nm (sA q7 34 (((7 : Int32) * v3) + (v4 / (30 : Int32))) ((gA q7 34 ((((7 : Int32) * v3) + (v4 / (30 : Int32)))).toNatClampNeg) ||| ((1 : Int32) <<< ((v4 - v4 / (30 : Int32) * (30 : Int32)) &&& 31)))) (fun t11 : St => nm (v4 + (-1 : Int32)) (fun x12 : Int32 => some (.inl (x12, t11)))))))))))
noncomputable def m_divides_B19 (v1 : Int32) (v2 : Int32) (v3 : Int32) (v4 : Int32) (t : St) : Option ((Int32 × St) ⊕ (St)) :=
  if v4 < 0 then (some (.inr t)) else ((m_times t (4506 : Int32) (2 : Int32)).bind (fun q14 => gd (31542 : Int32) 31600 ((m_bitOf q14 v1 v4).bind (fun q17 => if q17 = 0 then (m_divides_J56 q14 v1 v2 v3 v4 (31542 : Int32) (gA q14 34 ((31542 : Int32)).toNatClampNeg) (0 : Int32)) else (m_divides_J56 q14 v1 v2 v3 v4 (31542 : Int32) (gA q14 34 ((31542 : Int32)).toNatClampNeg) (1 : Int32))))))
noncomputable def m_divides (t : St) (a1 : Int32) (a2 : Int32) (a3 : Int32) : Option (St) :=
  (m_puts t a3 (0 : Int32)).bind (fun q21 => (m_puts q21 (4506 : Int32) (0 : Int32)).bind (fun q23 => (lp (fun x => m_divides_B19 a1 a2 a3 x.1 x.2) ((209 : Int32), q23)).bind (fun y25 => some y25)))
set_option maxHeartbeats 4000000 in
set_option maxRecDepth 100000 in
theorem m_divides_L19 {p : Program} {l : Launch} {e : Env} {s : State} {m : MethodId} {args : Array Value} {below : List Frame} {meth : Method} {c : Code} {Q : State → Prop} {D : va_G} {cI cJ cZ : ClassId} {am : Nat → Nat} {A : Nat → Prop} (C0 : cx p s m args meth c cX12_divides RX12 5 none D (tyM cI cJ cZ) A) {v1 : Int32} {v2 : Int32} {v3 : Int32} {y : St} (hK0 : ∀ (H : Heap) (locs : List Loc) (ls : Array Slot), wl D A s (wM cI cJ cZ am y) H locs → lv_has ls 5 [(0, .ref (am 68))] → W p l e (rmN 1 27) s m args below meth c H locs 0 0 Q (F0 m 108 ls [])) :
    ∀ (n : Nat) (v4 : Int32) (t : St), lpn (fun x => m_divides_B19 v1 v2 v3 x.1 x.2) n (v4, t) = some y → ∀ (H : Heap) (locs : List Loc) (ls : Array Slot), wl D A s (wM cI cJ cZ am t) H locs → lv_has ls 5 [(0, .ref (am 68)), (1, .int v1), (2, .int v2), (3, .int v3), (4, .int v4)] → W p l e (rmN 1 27) s m args below meth c H locs 0 0 Q (F0 m 19 ls []) := by
  have hx := C0.1
  have hb := C0.2.1
  have hta := C0.2.2.2.2.2.1
  have hown := C0.2.2.2.2.1
  intro n
  induction n with
  | zero => intro _ _ h; cases h
  | succ n ih =>
    intro v4 t hrun H locs ls hW hl
    obtain ⟨o, ho, hrun⟩ := bd_some hrun
    have J56 : ∀ (t : St) (v4 : Int32) (w1 : Int32) (w2 : Int32) (w3 : Int32) (_ : m_divides_J56 t v1 v2 v3 v4 w1 w2 w3 = some o) (H : Heap) (locs : List Loc) (ls : Array Slot), wl D A s (wM cI cJ cZ am t) H locs → lv_has ls 5 [(0, .ref (am 68)), (1, .int v1), (2, .int v2), (3, .int v3), (4, .int v4)] → W p l e (rmN 1 27) s m args below meth c H locs 0 0 Q (F0 m 56 ls [.int w3, .int w2, .int w1, .ref (am 34)]) := by
      intro t v4 w1 w2 w3 ho H locs ls hW hl
      unfold m_divides_J56 at ho
      refine lv_ior hx hb dX12_divides_56 ?_
      obtain ⟨g1, ho⟩ := gd_some ho
      refine mST_34 C0 hW g1 dX12_divides_57 (fun H locs hW => ?_)
      obtain ⟨t2, ho, hW⟩ := nm_w (P := fun t => wl D A s (wM cI cJ cZ am t) H locs) ho hW
      refine lv_aload_n hx hb dX12_divides_58 rfl (lv_at hl 0 rfl) ?_
      refine lv_sipush (v := (4506 : Int32)) hx hb dX12_divides_59 (by decide) ?_
      refine lv_iload_n hx hb dX12_divides_62 rfl (lv_at hl 2 rfl) ?_
      obtain ⟨q3, hc4, ho⟩ := bd_some ho
      refine bkI C0 hW (runV (As := [.int (4506 : Int32), .int v2]) (rest := []) C0 hW (c_m_against l _ t2 (4506 : Int32) v2 (r := q3) hc4) ca_X12_against_327 0 12 rfl rfl rfl rfl rfl ⟨rfl, rfl⟩ ⟨Nat.le_of_ble_eq_true rfl, Nat.le_of_ble_eq_true rfl⟩ (Nat.le_of_ble_eq_true rfl) hl.1 dX12_divides_63 ⟨Nat.le_of_ble_eq_true rfl, Nat.le_of_ble_eq_true rfl⟩) (fun H locs hW => ?_)
      refine lv_if_lt (tgt := 102) hx hb dX12_divides_66 (by decide) (fun c5 => ?_) (fun c5 => ?_)
      · replace ho := ite_t c5 ho
        obtain ⟨x6, ex6, ho⟩ := nm_x ho
        refine lv_iinc (v := x6) (lv' := [(4, .int x6), (0, .ref (am 68)), (1, .int v1), (2, .int v2), (3, .int v3)]) hx hb dX12_divides_102 hl (k := 4) rfl (by rw [ex6]; rfl) (by decide) rfl (fun ls hl => ?_)
        clear ex6
        refine lv_goto (tgt := 19) hx hb dX12_divides_105 (by decide) ?_
        cases ho
        exact ih _ _ hrun _ _ _ hW (lv_sub hl [1, 2, 3, 4, 0] rfl)
      · replace ho := ite_f c5 ho
        refine lv_aload_n hx hb dX12_divides_69 rfl (lv_at hl 0 rfl) ?_
        refine lv_sipush (v := (4506 : Int32)) hx hb dX12_divides_70 (by decide) ?_
        refine lv_iload_n hx hb dX12_divides_73 rfl (lv_at hl 2 rfl) ?_
        obtain ⟨q7, hc8, ho⟩ := bd_some ho
        refine bkV C0 hW (runV (As := [.int (4506 : Int32), .int v2]) (rest := []) C0 hW (c_m_lessens l _ t2 (4506 : Int32) v2 (t' := q7) hc8) ca_X12_lessens_330 0 12 rfl rfl rfl rfl rfl ⟨rfl, rfl⟩ ⟨Nat.le_of_ble_eq_true rfl, Nat.le_of_ble_eq_true rfl⟩ (Nat.le_of_ble_eq_true rfl) hl.1 dX12_divides_74 ⟨Nat.le_of_ble_eq_true rfl, Nat.le_of_ble_eq_true rfl⟩) (fun H locs hW => ?_)
        refine lv_aload_n hx hb dX12_divides_77 rfl (lv_at hl 0 rfl) ?_
        refine mGET_34 C0 hW dX12_divides_78 ?_
        refine lv_bipush (v := (7 : Int32)) hx hb dX12_divides_81 (by decide) ?_
        refine lv_iload_n hx hb dX12_divides_83 rfl (lv_at hl 3 rfl) ?_
        refine lv_imul hx hb dX12_divides_84 ?_
        refine lv_iload hx hb dX12_divides_85 (lv_at hl 4 rfl) ?_
        refine lv_bipush (v := (30 : Int32)) hx hb dX12_divides_87 (by decide) ?_
        refine lv_idiv hx hb dX12_divides_89 (by decide) ?_
        refine lv_iadd hx hb dX12_divides_90 ?_
        refine lv_dup2_11 hx hb dX12_divides_91 rfl rfl ?_
        obtain ⟨g9, ho⟩ := gd_some ho
        refine mLD_34 C0 hW g9 dX12_divides_92 ?_
        refine lv_iconst (v := (1 : Int32)) hx hb dX12_divides_93 (by decide) ?_
        refine lv_iload hx hb dX12_divides_94 (lv_at hl 4 rfl) ?_
        refine lv_bipush (v := (30 : Int32)) hx hb dX12_divides_96 (by decide) ?_
        refine lv_irem hx hb dX12_divides_98 (by decide) ?_
        refine lv_ishl hx hb dX12_divides_99 ?_
        refine lv_ior hx hb dX12_divides_100 ?_
        obtain ⟨g10, ho⟩ := gd_some ho
        refine mST_34 C0 hW g10 dX12_divides_101 (fun H locs hW => ?_)
        obtain ⟨t11, ho, hW⟩ := nm_w (P := fun t => wl D A s (wM cI cJ cZ am t) H locs) ho hW
        obtain ⟨x12, ex12, ho⟩ := nm_x ho
        refine lv_iinc (v := x12) (lv' := [(4, .int x12), (0, .ref (am 68)), (1, .int v1), (2, .int v2), (3, .int v3)]) hx hb dX12_divides_102 hl (k := 4) rfl (by rw [ex12]; rfl) (by decide) rfl (fun ls hl => ?_)
        clear ex12
        refine lv_goto (tgt := 19) hx hb dX12_divides_105 (by decide) ?_
        cases ho
        exact ih _ _ hrun _ _ _ hW (lv_sub hl [1, 2, 3, 4, 0] rfl)
    unfold m_divides_B19 at ho
    refine lv_iload hx hb dX12_divides_19 (lv_at hl 4 rfl) ?_
    refine lv_if_lt (tgt := 108) hx hb dX12_divides_21 (by decide) (fun c13 => ?_) (fun c13 => ?_)
    · replace ho := ite_t c13 ho
      cases ho
      cases hrun
      exact hK0 _ _ _ hW (lv_sub hl [0] rfl)
    · replace ho := ite_f c13 ho
      refine lv_aload_n hx hb dX12_divides_24 rfl (lv_at hl 0 rfl) ?_
      refine lv_sipush (v := (4506 : Int32)) hx hb dX12_divides_25 (by decide) ?_
      refine lv_iconst (v := (2 : Int32)) hx hb dX12_divides_28 (by decide) ?_
      obtain ⟨q14, hc15, ho⟩ := bd_some ho
      refine bkV C0 hW (runV (As := [.int (4506 : Int32), .int (2 : Int32)]) (rest := []) C0 hW (c_m_times l _ t (4506 : Int32) (2 : Int32) (t' := q14) hc15) ca_X12_times_336 0 12 rfl rfl rfl rfl rfl ⟨rfl, rfl⟩ ⟨Nat.le_of_ble_eq_true rfl, Nat.le_of_ble_eq_true rfl⟩ (Nat.le_of_ble_eq_true rfl) hl.1 dX12_divides_29 ⟨Nat.le_of_ble_eq_true rfl, Nat.le_of_ble_eq_true rfl⟩) (fun H locs hW => ?_)
      refine lv_aload_n hx hb dX12_divides_32 rfl (lv_at hl 0 rfl) ?_
      refine mGET_34 C0 hW dX12_divides_33 ?_
      refine lv_sipush (v := (31542 : Int32)) hx hb dX12_divides_36 (by decide) ?_
      refine lv_dup2_11 hx hb dX12_divides_39 rfl rfl ?_
      obtain ⟨g16, ho⟩ := gd_some ho
      refine mLD_34 C0 hW g16 dX12_divides_40 ?_
      refine lv_aload_n hx hb dX12_divides_41 rfl (lv_at hl 0 rfl) ?_
      refine lv_iload_n hx hb dX12_divides_42 rfl (lv_at hl 1 rfl) ?_
      refine lv_iload hx hb dX12_divides_43 (lv_at hl 4 rfl) ?_
      obtain ⟨q17, hc18, ho⟩ := bd_some ho
      refine bkZ C0 hW (runV (As := [.int v1, .int v4]) (rest := [.int (gA q14 34 ((31542 : Int32)).toNatClampNeg), .int (31542 : Int32), .ref (am 34)]) C0 hW (c_m_bitOf l _ q14 v1 v4 (r := q17) hc18) ca_X12_bitOf_339 0 12 rfl rfl rfl rfl rfl ⟨rfl, rfl⟩ ⟨Nat.le_of_ble_eq_true rfl, Nat.le_of_ble_eq_true rfl⟩ (Nat.le_of_ble_eq_true rfl) hl.1 dX12_divides_45 ⟨Nat.le_of_ble_eq_true rfl, Nat.le_of_ble_eq_true rfl⟩) (fun z19 H locs hW => ?_)
      refine lv_if_eq (tgt := 55) hx hb dX12_divides_48 (by decide) (fun c20 => ?_) (fun c20 => ?_)
      · replace ho := ite_t c20 ho
        refine lv_iconst (v := (0 : Int32)) hx hb dX12_divides_55 (by decide) ?_
        exact J56 _ _ _ _ _ ho _ _ _ hW (lv_sub hl [0, 1, 2, 3, 4] rfl)
      · replace ho := ite_f c20 ho
        refine lv_iconst (v := (1 : Int32)) hx hb dX12_divides_51 (by decide) ?_
        refine lv_goto (tgt := 56) hx hb dX12_divides_52 (by decide) ?_
        exact J56 _ _ _ _ _ ho _ _ _ hW (lv_sub hl [0, 1, 2, 3, 4] rfl)
set_option maxHeartbeats 4000000 in
set_option maxRecDepth 100000 in
theorem c_m_divides (l : Launch) {D : va_G} {cI cJ cZ : ClassId} {am : Nat → Nat} (sz : Nat) (t : St) (a1 : Int32) (a2 : Int32) (a3 : Int32) {t' : St} (ho : m_divides t a1 a2 a3 = some t') : Met l yX12_divides (.code yX12_divides cX12_divides 5 none :: wsAll) (rmN 1 27) (va_Pc [.ref (am 68), .int a1, .int a2, .int a3] (prW D (tyM cI cJ cZ) (wM cI cJ cZ am t) sz)) (qV D (tyM cI cJ cZ) (wM cI cJ cZ am t') (va_A (wM cI cJ cZ am t) sz)) 0 0 (va_A (wM cI cJ cZ am t) sz) := by
  refine Met.ofW (cc := cX12_divides) (maxL := 5) (ret := none) (by decide) rfl ?_
  intro p e s m args below meth c s₁ B hml hv
  obtain ⟨rfl, hsz, hP, hK, hD0⟩ := hv
  have hx := B.exec
  have hb := B.bytes
  have hts := atoms_spec (ws := (.code yX12_divides cX12_divides 5 none :: wsAll)) B.pre
  have hta := fun w h => hts w (List.mem_cons_of_mem _ h)
  have hown : s.vm.findClass RX12 = some m.cls := findClass_of_methodNamed B.named
  have hlocks := B.notSynchronized
  subst hsz
  have hD := hD0.self (sz := s.heap.size)
  generalize hAe : va_A (wM cI cJ cZ am t) s.heap.size = A at hD ⊢
  have hA : ∀ q : Nat, s.heap.size ≤ q → A q := fun q h => by rw [← hAe]; exact Or.inr h
  have C0 : cx p s m ([.ref (am 68), .int a1, .int a2, .int a3].toArray) meth c cX12_divides RX12 5 none D (tyM cI cJ cZ) A := ⟨hx, hb, B.returns, hml, hown, hta, hlocks, hK, hA⟩
  have hW : wl D A s (wM cI cJ cZ am t) s.heap [] := ⟨hP, hD, va_S.rf⟩
  have hl := lv_entry [.ref (am 68), .int a1, .int a2, .int a3] (n := 5) (Nat.le_of_ble_eq_true rfl)
  rw [lg_entry_eq]
  generalize (lg_sl [.ref (am 68), .int a1, .int a2, .int a3] ++ List.replicate (5 - (lg_sl [.ref (am 68), .int a1, .int a2, .int a3]).length) Slot.unset).toArray = ls at hl ⊢
  have hl : lv_has ls 5 [(0, .ref (am 68)), (1, .int a1), (2, .int a2), (3, .int a3)] := hl
  unfold m_divides at ho
  refine lv_aload_n hx hb dX12_divides_0 rfl (lv_at hl 0 rfl) ?_
  refine lv_iload_n hx hb dX12_divides_1 rfl (lv_at hl 3 rfl) ?_
  refine lv_iconst (v := (0 : Int32)) hx hb dX12_divides_2 (by decide) ?_
  obtain ⟨q21, hc22, ho⟩ := bd_some ho
  refine bkV C0 hW (runV (As := [.int a3, .int (0 : Int32)]) (rest := []) C0 hW (c_m_puts l _ t a3 (0 : Int32) (t' := q21) hc22) ca_X12_puts_175 0 12 rfl rfl rfl rfl rfl ⟨rfl, rfl⟩ ⟨Nat.le_of_ble_eq_true rfl, Nat.le_of_ble_eq_true rfl⟩ (Nat.le_of_ble_eq_true rfl) hl.1 dX12_divides_3 ⟨Nat.le_of_ble_eq_true rfl, Nat.le_of_ble_eq_true rfl⟩) (fun H locs hW => ?_)
  refine lv_aload_n hx hb dX12_divides_6 rfl (lv_at hl 0 rfl) ?_
  refine lv_sipush (v := (4506 : Int32)) hx hb dX12_divides_7 (by decide) ?_
  refine lv_iconst (v := (0 : Int32)) hx hb dX12_divides_10 (by decide) ?_
  obtain ⟨q23, hc24, ho⟩ := bd_some ho
  refine bkV C0 hW (runV (As := [.int (4506 : Int32), .int (0 : Int32)]) (rest := []) C0 hW (c_m_puts l _ q21 (4506 : Int32) (0 : Int32) (t' := q23) hc24) ca_X12_puts_175 0 12 rfl rfl rfl rfl rfl ⟨rfl, rfl⟩ ⟨Nat.le_of_ble_eq_true rfl, Nat.le_of_ble_eq_true rfl⟩ (Nat.le_of_ble_eq_true rfl) hl.1 dX12_divides_11 ⟨Nat.le_of_ble_eq_true rfl, Nat.le_of_ble_eq_true rfl⟩) (fun H locs hW => ?_)
  refine lv_sipush (v := (209 : Int32)) hx hb dX12_divides_14 (by decide) ?_
  refine lv_istore (lv' := [(4, .int (209 : Int32)), (0, .ref (am 68)), (1, .int a1), (2, .int a2), (3, .int a3)]) hx hb dX12_divides_17 hl (by decide) rfl (fun ls hl => ?_)
  obtain ⟨y25, hc27, ho⟩ := bd_some ho
  obtain ⟨ny25, hc27⟩ := lp_to hc27
  refine m_divides_L19 C0 ?_ ny25 _ _ hc27 _ _ _ hW (lv_sub hl [1, 2, 3, 4, 0] rfl)
  intro H locs ls hW hl
  cases ho
  exact rtV C0 hW dX12_divides_108
noncomputable def m_tells (t : St) (a1 : Int32) (a2 : Int32) : Option (St) :=
  (m_isNothing t a1).bind (fun q1 => if q1 = 0 then ((m_takes t (4502 : Int32) a1).bind (fun q5 => (m_takes q5 (4503 : Int32) a2).bind (fun q7 => (m_divisor q7 (4502 : Int32) (4503 : Int32)).bind (fun q9 => (m_divides q9 a1 (4502 : Int32) (4504 : Int32)).bind (fun q11 => (m_divides q11 a2 (4502 : Int32) (4503 : Int32)).bind (fun q13 => (m_takes q13 (4500 : Int32) (4504 : Int32)).bind (fun q15 => (m_takes q15 (4501 : Int32) (4503 : Int32)).bind (fun q17 => some q17)))))))) else ((m_puts t (4500 : Int32) (0 : Int32)).bind (fun q19 => (m_puts q19 (4501 : Int32) (1 : Int32)).bind (fun q21 => some q21))))
set_option maxHeartbeats 4000000 in
set_option maxRecDepth 100000 in
theorem c_m_tells (l : Launch) {D : va_G} {cI cJ cZ : ClassId} {am : Nat → Nat} (sz : Nat) (t : St) (a1 : Int32) (a2 : Int32) {t' : St} (ho : m_tells t a1 a2 = some t') : Met l yX12_tells (.code yX12_tells cX12_tells 3 none :: wsAll) (rmN 2 51) (va_Pc [.ref (am 68), .int a1, .int a2] (prW D (tyM cI cJ cZ) (wM cI cJ cZ am t) sz)) (qV D (tyM cI cJ cZ) (wM cI cJ cZ am t') (va_A (wM cI cJ cZ am t) sz)) 0 0 (va_A (wM cI cJ cZ am t) sz) := by
  refine Met.ofW (cc := cX12_tells) (maxL := 3) (ret := none) (by decide) rfl ?_
  intro p e s m args below meth c s₁ B hml hv
  obtain ⟨rfl, hsz, hP, hK, hD0⟩ := hv
  have hx := B.exec
  have hb := B.bytes
  have hts := atoms_spec (ws := (.code yX12_tells cX12_tells 3 none :: wsAll)) B.pre
  have hta := fun w h => hts w (List.mem_cons_of_mem _ h)
  have hown : s.vm.findClass RX12 = some m.cls := findClass_of_methodNamed B.named
  have hlocks := B.notSynchronized
  subst hsz
  have hD := hD0.self (sz := s.heap.size)
  generalize hAe : va_A (wM cI cJ cZ am t) s.heap.size = A at hD ⊢
  have hA : ∀ q : Nat, s.heap.size ≤ q → A q := fun q h => by rw [← hAe]; exact Or.inr h
  have C0 : cx p s m ([.ref (am 68), .int a1, .int a2].toArray) meth c cX12_tells RX12 3 none D (tyM cI cJ cZ) A := ⟨hx, hb, B.returns, hml, hown, hta, hlocks, hK, hA⟩
  have hW : wl D A s (wM cI cJ cZ am t) s.heap [] := ⟨hP, hD, va_S.rf⟩
  have hl := lv_entry [.ref (am 68), .int a1, .int a2] (n := 3) (Nat.le_of_ble_eq_true rfl)
  rw [lg_entry_eq]
  generalize (lg_sl [.ref (am 68), .int a1, .int a2] ++ List.replicate (3 - (lg_sl [.ref (am 68), .int a1, .int a2]).length) Slot.unset).toArray = ls at hl ⊢
  have hl : lv_has ls 3 [(0, .ref (am 68)), (1, .int a1), (2, .int a2)] := hl
  unfold m_tells at ho
  refine lv_aload_n hx hb dX12_tells_0 rfl (lv_at hl 0 rfl) ?_
  refine lv_iload_n hx hb dX12_tells_1 rfl (lv_at hl 1 rfl) ?_
  obtain ⟨q1, hc2, ho⟩ := bd_some ho
  refine bkZ C0 hW (runV (As := [.int a1]) (rest := []) C0 hW (c_m_isNothing l _ t a1 (r := q1) hc2) ca_X12_isNothing_324 0 12 rfl rfl rfl rfl rfl ⟨rfl, rfl⟩ ⟨Nat.le_of_ble_eq_true rfl, Nat.le_of_ble_eq_true rfl⟩ (Nat.le_of_ble_eq_true rfl) hl.1 dX12_tells_2 ⟨Nat.le_of_ble_eq_true rfl, Nat.le_of_ble_eq_true rfl⟩) (fun z3 H locs hW => ?_)
  refine lv_if_eq (tgt := 25) hx hb dX12_tells_5 (by decide) (fun c4 => ?_) (fun c4 => ?_)
  · replace ho := ite_t c4 ho
    refine lv_aload_n hx hb dX12_tells_25 rfl (lv_at hl 0 rfl) ?_
    refine lv_sipush (v := (4502 : Int32)) hx hb dX12_tells_26 (by decide) ?_
    refine lv_iload_n hx hb dX12_tells_29 rfl (lv_at hl 1 rfl) ?_
    obtain ⟨q5, hc6, ho⟩ := bd_some ho
    refine bkV C0 hW (runV (As := [.int (4502 : Int32), .int a1]) (rest := []) C0 hW (c_m_takes l _ t (4502 : Int32) a1 (t' := q5) hc6) ca_X12_takes_333 0 12 rfl rfl rfl rfl rfl ⟨rfl, rfl⟩ ⟨Nat.le_of_ble_eq_true rfl, Nat.le_of_ble_eq_true rfl⟩ (Nat.le_of_ble_eq_true rfl) hl.1 dX12_tells_30 ⟨Nat.le_of_ble_eq_true rfl, Nat.le_of_ble_eq_true rfl⟩) (fun H locs hW => ?_)
    refine lv_aload_n hx hb dX12_tells_33 rfl (lv_at hl 0 rfl) ?_
    refine lv_sipush (v := (4503 : Int32)) hx hb dX12_tells_34 (by decide) ?_
    refine lv_iload_n hx hb dX12_tells_37 rfl (lv_at hl 2 rfl) ?_
    obtain ⟨q7, hc8, ho⟩ := bd_some ho
    refine bkV C0 hW (runV (As := [.int (4503 : Int32), .int a2]) (rest := []) C0 hW (c_m_takes l _ q5 (4503 : Int32) a2 (t' := q7) hc8) ca_X12_takes_333 0 12 rfl rfl rfl rfl rfl ⟨rfl, rfl⟩ ⟨Nat.le_of_ble_eq_true rfl, Nat.le_of_ble_eq_true rfl⟩ (Nat.le_of_ble_eq_true rfl) hl.1 dX12_tells_38 ⟨Nat.le_of_ble_eq_true rfl, Nat.le_of_ble_eq_true rfl⟩) (fun H locs hW => ?_)
    refine lv_aload_n hx hb dX12_tells_41 rfl (lv_at hl 0 rfl) ?_
    refine lv_sipush (v := (4502 : Int32)) hx hb dX12_tells_42 (by decide) ?_
    refine lv_sipush (v := (4503 : Int32)) hx hb dX12_tells_45 (by decide) ?_
    obtain ⟨q9, hc10, ho⟩ := bd_some ho
    refine bkV C0 hW (runV (As := [.int (4502 : Int32), .int (4503 : Int32)]) (rest := []) C0 hW (c_m_divisor l _ q7 (4502 : Int32) (4503 : Int32) (t' := q9) hc10) ca_X12_divisor_342 0 12 rfl rfl rfl rfl rfl ⟨rfl, rfl⟩ ⟨Nat.le_of_ble_eq_true rfl, Nat.le_of_ble_eq_true rfl⟩ (Nat.le_of_ble_eq_true rfl) hl.1 dX12_tells_48 ⟨Nat.le_of_ble_eq_true rfl, Nat.le_of_ble_eq_true rfl⟩) (fun H locs hW => ?_)
    refine lv_aload_n hx hb dX12_tells_51 rfl (lv_at hl 0 rfl) ?_
    refine lv_iload_n hx hb dX12_tells_52 rfl (lv_at hl 1 rfl) ?_
    refine lv_sipush (v := (4502 : Int32)) hx hb dX12_tells_53 (by decide) ?_
    refine lv_sipush (v := (4504 : Int32)) hx hb dX12_tells_56 (by decide) ?_
    obtain ⟨q11, hc12, ho⟩ := bd_some ho
    refine bkV C0 hW (runV (As := [.int a1, .int (4502 : Int32), .int (4504 : Int32)]) (rest := []) C0 hW (c_m_divides l _ q9 a1 (4502 : Int32) (4504 : Int32) (t' := q11) hc12) ca_X12_divides_345 0 12 rfl rfl rfl rfl rfl ⟨rfl, rfl⟩ ⟨Nat.le_of_ble_eq_true rfl, Nat.le_of_ble_eq_true rfl⟩ (Nat.le_of_ble_eq_true rfl) hl.1 dX12_tells_59 ⟨Nat.le_of_ble_eq_true rfl, Nat.le_of_ble_eq_true rfl⟩) (fun H locs hW => ?_)
    refine lv_aload_n hx hb dX12_tells_62 rfl (lv_at hl 0 rfl) ?_
    refine lv_iload_n hx hb dX12_tells_63 rfl (lv_at hl 2 rfl) ?_
    refine lv_sipush (v := (4502 : Int32)) hx hb dX12_tells_64 (by decide) ?_
    refine lv_sipush (v := (4503 : Int32)) hx hb dX12_tells_67 (by decide) ?_
    obtain ⟨q13, hc14, ho⟩ := bd_some ho
    refine bkV C0 hW (runV (As := [.int a2, .int (4502 : Int32), .int (4503 : Int32)]) (rest := []) C0 hW (c_m_divides l _ q11 a2 (4502 : Int32) (4503 : Int32) (t' := q13) hc14) ca_X12_divides_345 0 12 rfl rfl rfl rfl rfl ⟨rfl, rfl⟩ ⟨Nat.le_of_ble_eq_true rfl, Nat.le_of_ble_eq_true rfl⟩ (Nat.le_of_ble_eq_true rfl) hl.1 dX12_tells_70 ⟨Nat.le_of_ble_eq_true rfl, Nat.le_of_ble_eq_true rfl⟩) (fun H locs hW => ?_)
    refine lv_aload_n hx hb dX12_tells_73 rfl (lv_at hl 0 rfl) ?_
    refine lv_sipush (v := (4500 : Int32)) hx hb dX12_tells_74 (by decide) ?_
    refine lv_sipush (v := (4504 : Int32)) hx hb dX12_tells_77 (by decide) ?_
    obtain ⟨q15, hc16, ho⟩ := bd_some ho
    refine bkV C0 hW (runV (As := [.int (4500 : Int32), .int (4504 : Int32)]) (rest := []) C0 hW (c_m_takes l _ q13 (4500 : Int32) (4504 : Int32) (t' := q15) hc16) ca_X12_takes_333 0 12 rfl rfl rfl rfl rfl ⟨rfl, rfl⟩ ⟨Nat.le_of_ble_eq_true rfl, Nat.le_of_ble_eq_true rfl⟩ (Nat.le_of_ble_eq_true rfl) hl.1 dX12_tells_80 ⟨Nat.le_of_ble_eq_true rfl, Nat.le_of_ble_eq_true rfl⟩) (fun H locs hW => ?_)
    refine lv_aload_n hx hb dX12_tells_83 rfl (lv_at hl 0 rfl) ?_
    refine lv_sipush (v := (4501 : Int32)) hx hb dX12_tells_84 (by decide) ?_
    refine lv_sipush (v := (4503 : Int32)) hx hb dX12_tells_87 (by decide) ?_
    obtain ⟨q17, hc18, ho⟩ := bd_some ho
    refine bkV C0 hW (runV (As := [.int (4501 : Int32), .int (4503 : Int32)]) (rest := []) C0 hW (c_m_takes l _ q15 (4501 : Int32) (4503 : Int32) (t' := q17) hc18) ca_X12_takes_333 0 12 rfl rfl rfl rfl rfl ⟨rfl, rfl⟩ ⟨Nat.le_of_ble_eq_true rfl, Nat.le_of_ble_eq_true rfl⟩ (Nat.le_of_ble_eq_true rfl) hl.1 dX12_tells_90 ⟨Nat.le_of_ble_eq_true rfl, Nat.le_of_ble_eq_true rfl⟩) (fun H locs hW => ?_)
    cases ho
    exact rtV C0 hW dX12_tells_93
  · replace ho := ite_f c4 ho
    refine lv_aload_n hx hb dX12_tells_8 rfl (lv_at hl 0 rfl) ?_
    refine lv_sipush (v := (4500 : Int32)) hx hb dX12_tells_9 (by decide) ?_
    refine lv_iconst (v := (0 : Int32)) hx hb dX12_tells_12 (by decide) ?_
    obtain ⟨q19, hc20, ho⟩ := bd_some ho
    refine bkV C0 hW (runV (As := [.int (4500 : Int32), .int (0 : Int32)]) (rest := []) C0 hW (c_m_puts l _ t (4500 : Int32) (0 : Int32) (t' := q19) hc20) ca_X12_puts_175 0 12 rfl rfl rfl rfl rfl ⟨rfl, rfl⟩ ⟨Nat.le_of_ble_eq_true rfl, Nat.le_of_ble_eq_true rfl⟩ (Nat.le_of_ble_eq_true rfl) hl.1 dX12_tells_13 ⟨Nat.le_of_ble_eq_true rfl, Nat.le_of_ble_eq_true rfl⟩) (fun H locs hW => ?_)
    refine lv_aload_n hx hb dX12_tells_16 rfl (lv_at hl 0 rfl) ?_
    refine lv_sipush (v := (4501 : Int32)) hx hb dX12_tells_17 (by decide) ?_
    refine lv_iconst (v := (1 : Int32)) hx hb dX12_tells_20 (by decide) ?_
    obtain ⟨q21, hc22, ho⟩ := bd_some ho
    refine bkV C0 hW (runV (As := [.int (4501 : Int32), .int (1 : Int32)]) (rest := []) C0 hW (c_m_puts l _ q19 (4501 : Int32) (1 : Int32) (t' := q21) hc22) ca_X12_puts_175 0 12 rfl rfl rfl rfl rfl ⟨rfl, rfl⟩ ⟨Nat.le_of_ble_eq_true rfl, Nat.le_of_ble_eq_true rfl⟩ (Nat.le_of_ble_eq_true rfl) hl.1 dX12_tells_21 ⟨Nat.le_of_ble_eq_true rfl, Nat.le_of_ble_eq_true rfl⟩) (fun H locs hW => ?_)
    cases ho
    exact rtV C0 hW dX12_tells_24
noncomputable def m_limbsOf_B3 (t : St) (v1 : Int32) (v2 : Int32) : Option ((Int32) ⊕ (Int32)) :=
  if v2 ≤ 0 then (some (.inr v2)) else (gd ((((7 : Int32) * v1) + v2) - (1 : Int32)) 31600 (if (gA t 34 (((((7 : Int32) * v1) + v2) - (1 : Int32))).toNatClampNeg) = 0 then (nm (v2 + (-1 : Int32)) (fun x4 : Int32 => some (.inl x4))) else (some (.inr v2))))
noncomputable def m_limbsOf (t : St) (a1 : Int32) : Option (Int32) :=
  (lp (fun x => m_limbsOf_B3 t a1 x) (7 : Int32)).bind (fun y5 => some y5)
set_option maxHeartbeats 4000000 in
set_option maxRecDepth 100000 in
theorem m_limbsOf_L3 {p : Program} {l : Launch} {e : Env} {s : State} {m : MethodId} {args : Array Value} {below : List Frame} {meth : Method} {c : Code} {Q : State → Prop} {D : va_G} {cI cJ cZ : ClassId} {am : Nat → Nat} {A : Nat → Prop} (C0 : cx p s m args meth c cX12_limbsOf RX12 3 (some .int) D (tyM cI cJ cZ) A) {t : St} {v1 : Int32} {y : Int32} (hK0 : ∀ (H : Heap) (locs : List Loc) (ls : Array Slot), wl D A s (wM cI cJ cZ am t) H locs → lv_has ls 3 [(0, .ref (am 68)), (2, .int y)] → W p l e (rmN 0 0) s m args below meth c H locs 0 0 Q (F0 m 29 ls [])) :
    ∀ (n : Nat) (v2 : Int32), lpn (fun x => m_limbsOf_B3 t v1 x) n v2 = some y → ∀ (H : Heap) (locs : List Loc) (ls : Array Slot), wl D A s (wM cI cJ cZ am t) H locs → lv_has ls 3 [(0, .ref (am 68)), (1, .int v1), (2, .int v2)] → W p l e (rmN 0 0) s m args below meth c H locs 0 0 Q (F0 m 3 ls []) := by
  have hx := C0.1
  have hb := C0.2.1
  have hta := C0.2.2.2.2.2.1
  have hown := C0.2.2.2.2.1
  intro n
  induction n with
  | zero => intro _ h; cases h
  | succ n ih =>
    intro v2 hrun H locs ls hW hl
    obtain ⟨o, ho, hrun⟩ := bd_some hrun
    unfold m_limbsOf_B3 at ho
    refine lv_iload_n hx hb dX12_limbsOf_3 rfl (lv_at hl 2 rfl) ?_
    refine lv_if_le (tgt := 29) hx hb dX12_limbsOf_4 (by decide) (fun c1 => ?_) (fun c1 => ?_)
    · replace ho := ite_t c1 ho
      cases ho
      cases hrun
      exact hK0 _ _ _ hW (lv_sub hl [0, 2] rfl)
    · replace ho := ite_f c1 ho
      refine lv_aload_n hx hb dX12_limbsOf_7 rfl (lv_at hl 0 rfl) ?_
      refine mGET_34 C0 hW dX12_limbsOf_8 ?_
      refine lv_bipush (v := (7 : Int32)) hx hb dX12_limbsOf_11 (by decide) ?_
      refine lv_iload_n hx hb dX12_limbsOf_13 rfl (lv_at hl 1 rfl) ?_
      refine lv_imul hx hb dX12_limbsOf_14 ?_
      refine lv_iload_n hx hb dX12_limbsOf_15 rfl (lv_at hl 2 rfl) ?_
      refine lv_iadd hx hb dX12_limbsOf_16 ?_
      refine lv_iconst (v := (1 : Int32)) hx hb dX12_limbsOf_17 (by decide) ?_
      refine lv_isub hx hb dX12_limbsOf_18 ?_
      obtain ⟨g2, ho⟩ := gd_some ho
      refine mLD_34 C0 hW g2 dX12_limbsOf_19 ?_
      refine lv_if_ne (tgt := 29) hx hb dX12_limbsOf_20 (by decide) (fun c3 => ?_) (fun c3 => ?_)
      · replace ho := ite_f c3 ho
        cases ho
        cases hrun
        exact hK0 _ _ _ hW (lv_sub hl [0, 2] rfl)
      · replace ho := ite_t c3 ho
        obtain ⟨x4, ex4, ho⟩ := nm_x ho
        refine lv_iinc (v := x4) (lv' := [(2, .int x4), (0, .ref (am 68)), (1, .int v1)]) hx hb dX12_limbsOf_23 hl (k := 2) rfl (by rw [ex4]; rfl) (by decide) rfl (fun ls hl => ?_)
        clear ex4
        refine lv_goto (tgt := 3) hx hb dX12_limbsOf_26 (by decide) ?_
        cases ho
        exact ih _ hrun _ _ _ hW (lv_sub hl [1, 2, 0] rfl)
set_option maxHeartbeats 4000000 in
set_option maxRecDepth 100000 in
theorem c_m_limbsOf (l : Launch) {D : va_G} {cI cJ cZ : ClassId} {am : Nat → Nat} (sz : Nat) (t : St) (a1 : Int32) {r : Int32} (ho : m_limbsOf t a1 = some r) : Met l yX12_limbsOf (.code yX12_limbsOf cX12_limbsOf 3 (some .int) :: wsAll) (rmN 0 0) (va_Pc [.ref (am 68), .int a1] (prW D (tyM cI cJ cZ) (wM cI cJ cZ am t) sz)) (qI r D (tyM cI cJ cZ) (wM cI cJ cZ am t) (va_A (wM cI cJ cZ am t) sz)) 0 0 (va_A (wM cI cJ cZ am t) sz) := by
  refine Met.ofW (cc := cX12_limbsOf) (maxL := 3) (ret := (some .int)) (by decide) rfl ?_
  intro p e s m args below meth c s₁ B hml hv
  obtain ⟨rfl, hsz, hP, hK, hD0⟩ := hv
  have hx := B.exec
  have hb := B.bytes
  have hts := atoms_spec (ws := (.code yX12_limbsOf cX12_limbsOf 3 (some .int) :: wsAll)) B.pre
  have hta := fun w h => hts w (List.mem_cons_of_mem _ h)
  have hown : s.vm.findClass RX12 = some m.cls := findClass_of_methodNamed B.named
  have hlocks := B.notSynchronized
  subst hsz
  have hD := hD0.self (sz := s.heap.size)
  generalize hAe : va_A (wM cI cJ cZ am t) s.heap.size = A at hD ⊢
  have hA : ∀ q : Nat, s.heap.size ≤ q → A q := fun q h => by rw [← hAe]; exact Or.inr h
  have C0 : cx p s m ([.ref (am 68), .int a1].toArray) meth c cX12_limbsOf RX12 3 (some .int) D (tyM cI cJ cZ) A := ⟨hx, hb, B.returns, hml, hown, hta, hlocks, hK, hA⟩
  have hW : wl D A s (wM cI cJ cZ am t) s.heap [] := ⟨hP, hD, va_S.rf⟩
  have hl := lv_entry [.ref (am 68), .int a1] (n := 3) (Nat.le_of_ble_eq_true rfl)
  rw [lg_entry_eq]
  generalize (lg_sl [.ref (am 68), .int a1] ++ List.replicate (3 - (lg_sl [.ref (am 68), .int a1]).length) Slot.unset).toArray = ls at hl ⊢
  have hl : lv_has ls 3 [(0, .ref (am 68)), (1, .int a1)] := hl
  unfold m_limbsOf at ho
  refine lv_bipush (v := (7 : Int32)) hx hb dX12_limbsOf_0 (by decide) ?_
  refine lv_istore_n (lv' := [(2, .int (7 : Int32)), (0, .ref (am 68)), (1, .int a1)]) hx hb dX12_limbsOf_2 rfl hl (by decide) rfl (fun ls hl => ?_)
  obtain ⟨y5, hc7, ho⟩ := bd_some ho
  obtain ⟨ny5, hc7⟩ := lp_to hc7
  refine m_limbsOf_L3 C0 ?_ ny5 _ hc7 _ _ _ hW (lv_sub hl [1, 2, 0] rfl)
  intro H locs ls hW hl
  refine lv_iload_n hx hb dX12_limbsOf_29 rfl (lv_at hl 1 rfl) ?_
  cases ho
  exact rtI C0 hW dX12_limbsOf_30
noncomputable def m_limbs (t : St) (a1 : Int32) : Option (Int32) :=
  (m_in t a1 (0 : Int32) (1 : Int32)).bind (fun q1 => if q1 = 0 then (some (-2 : Int32)) else ((m_limbsOf t ((4500 : Int32) + a1)).bind (fun q5 => some q5)))
set_option maxHeartbeats 4000000 in
set_option maxRecDepth 100000 in
theorem c_m_limbs (l : Launch) {D : va_G} {cI cJ cZ : ClassId} {am : Nat → Nat} (sz : Nat) (t : St) (a1 : Int32) {r : Int32} (ho : m_limbs t a1 = some r) : Met l yX12_limbs (.code yX12_limbs cX12_limbs 2 (some .int) :: wsAll) (rmN 1 22) (va_Pc [.ref (am 68), .int a1] (prW D (tyM cI cJ cZ) (wM cI cJ cZ am t) sz)) (qI r D (tyM cI cJ cZ) (wM cI cJ cZ am t) (va_A (wM cI cJ cZ am t) sz)) 0 0 (va_A (wM cI cJ cZ am t) sz) := by
  refine Met.ofW (cc := cX12_limbs) (maxL := 2) (ret := (some .int)) (by decide) rfl ?_
  intro p e s m args below meth c s₁ B hml hv
  obtain ⟨rfl, hsz, hP, hK, hD0⟩ := hv
  have hx := B.exec
  have hb := B.bytes
  have hts := atoms_spec (ws := (.code yX12_limbs cX12_limbs 2 (some .int) :: wsAll)) B.pre
  have hta := fun w h => hts w (List.mem_cons_of_mem _ h)
  have hown : s.vm.findClass RX12 = some m.cls := findClass_of_methodNamed B.named
  have hlocks := B.notSynchronized
  subst hsz
  have hD := hD0.self (sz := s.heap.size)
  generalize hAe : va_A (wM cI cJ cZ am t) s.heap.size = A at hD ⊢
  have hA : ∀ q : Nat, s.heap.size ≤ q → A q := fun q h => by rw [← hAe]; exact Or.inr h
  have C0 : cx p s m ([.ref (am 68), .int a1].toArray) meth c cX12_limbs RX12 2 (some .int) D (tyM cI cJ cZ) A := ⟨hx, hb, B.returns, hml, hown, hta, hlocks, hK, hA⟩
  have hW : wl D A s (wM cI cJ cZ am t) s.heap [] := ⟨hP, hD, va_S.rf⟩
  have hl := lv_entry [.ref (am 68), .int a1] (n := 2) (Nat.le_of_ble_eq_true rfl)
  rw [lg_entry_eq]
  generalize (lg_sl [.ref (am 68), .int a1] ++ List.replicate (2 - (lg_sl [.ref (am 68), .int a1]).length) Slot.unset).toArray = ls at hl ⊢
  have hl : lv_has ls 2 [(0, .ref (am 68)), (1, .int a1)] := hl
  unfold m_limbs at ho
  refine lv_iload_n hx hb dX12_limbs_0 rfl (lv_at hl 1 rfl) ?_
  refine lv_iconst (v := (0 : Int32)) hx hb dX12_limbs_1 (by decide) ?_
  refine lv_iconst (v := (1 : Int32)) hx hb dX12_limbs_2 (by decide) ?_
  obtain ⟨q1, hc2, ho⟩ := bd_some ho
  refine bkZ C0 hW (runS (As := [.int a1, .int (0 : Int32), .int (1 : Int32)]) (rest := []) C0 hW (c_m_in l _ t a1 (0 : Int32) (1 : Int32) (r := q1) hc2) ca_X12_in_179 rfl rfl ⟨rfl, rfl⟩ ⟨Nat.le_of_ble_eq_true rfl, Nat.le_of_ble_eq_true rfl⟩ (Nat.le_of_ble_eq_true rfl) hl.1 dX12_limbs_3 ⟨Nat.le_of_ble_eq_true rfl, Nat.le_of_ble_eq_true rfl⟩) (fun z3 H locs hW => ?_)
  refine lv_if_ne (tgt := 14) hx hb dX12_limbs_6 (by decide) (fun c4 => ?_) (fun c4 => ?_)
  · replace ho := ite_f c4 ho
    refine lv_aload_n hx hb dX12_limbs_14 rfl (lv_at hl 0 rfl) ?_
    refine lv_sipush (v := (4500 : Int32)) hx hb dX12_limbs_15 (by decide) ?_
    refine lv_iload_n hx hb dX12_limbs_18 rfl (lv_at hl 1 rfl) ?_
    refine lv_iadd hx hb dX12_limbs_19 ?_
    obtain ⟨q5, hc6, ho⟩ := bd_some ho
    refine bkI C0 hW (runV (As := [.int ((4500 : Int32) + a1)]) (rest := []) C0 hW (c_m_limbsOf l _ t ((4500 : Int32) + a1) (r := q5) hc6) ca_X12_limbsOf_349 0 12 rfl rfl rfl rfl rfl ⟨rfl, rfl⟩ ⟨Nat.le_of_ble_eq_true rfl, Nat.le_of_ble_eq_true rfl⟩ (Nat.le_of_ble_eq_true rfl) hl.1 dX12_limbs_20 ⟨Nat.le_of_ble_eq_true rfl, Nat.le_of_ble_eq_true rfl⟩) (fun H locs hW => ?_)
    cases ho
    exact rtI C0 hW dX12_limbs_23
  · replace ho := ite_t c4 ho
    refine lv_bipush (v := (-2 : Int32)) hx hb dX12_limbs_9 (by decide) ?_
    refine lv_goto (tgt := 23) hx hb dX12_limbs_11 (by decide) ?_
    cases ho
    exact rtI C0 hW dX12_limbs_23
noncomputable def m_limb (t : St) (a1 : Int32) (a2 : Int32) : Option (Int32) :=
  (m_in t a1 (0 : Int32) (1 : Int32)).bind (fun q1 => if q1 = 0 then (some (-2 : Int32)) else (if 0 ≤ a2 then ((m_limbsOf t ((4500 : Int32) + a1)).bind (fun q6 => if q6 ≤ a2 then (some (-1 : Int32)) else (gd (((7 : Int32) * ((4500 : Int32) + a1)) + a2) 31600 (some (gA t 34 ((((7 : Int32) * ((4500 : Int32) + a1)) + a2)).toNatClampNeg))))) else (some (-2 : Int32))))
set_option maxHeartbeats 4000000 in
set_option maxRecDepth 100000 in
theorem c_m_limb (l : Launch) {D : va_G} {cI cJ cZ : ClassId} {am : Nat → Nat} (sz : Nat) (t : St) (a1 : Int32) (a2 : Int32) {r : Int32} (ho : m_limb t a1 a2 = some r) : Met l yX12_limb (.code yX12_limb cX12_limb 3 (some .int) :: wsAll) (rmN 1 22) (va_Pc [.ref (am 68), .int a1, .int a2] (prW D (tyM cI cJ cZ) (wM cI cJ cZ am t) sz)) (qI r D (tyM cI cJ cZ) (wM cI cJ cZ am t) (va_A (wM cI cJ cZ am t) sz)) 0 0 (va_A (wM cI cJ cZ am t) sz) := by
  refine Met.ofW (cc := cX12_limb) (maxL := 3) (ret := (some .int)) (by decide) rfl ?_
  intro p e s m args below meth c s₁ B hml hv
  obtain ⟨rfl, hsz, hP, hK, hD0⟩ := hv
  have hx := B.exec
  have hb := B.bytes
  have hts := atoms_spec (ws := (.code yX12_limb cX12_limb 3 (some .int) :: wsAll)) B.pre
  have hta := fun w h => hts w (List.mem_cons_of_mem _ h)
  have hown : s.vm.findClass RX12 = some m.cls := findClass_of_methodNamed B.named
  have hlocks := B.notSynchronized
  subst hsz
  have hD := hD0.self (sz := s.heap.size)
  generalize hAe : va_A (wM cI cJ cZ am t) s.heap.size = A at hD ⊢
  have hA : ∀ q : Nat, s.heap.size ≤ q → A q := fun q h => by rw [← hAe]; exact Or.inr h
  have C0 : cx p s m ([.ref (am 68), .int a1, .int a2].toArray) meth c cX12_limb RX12 3 (some .int) D (tyM cI cJ cZ) A := ⟨hx, hb, B.returns, hml, hown, hta, hlocks, hK, hA⟩
  have hW : wl D A s (wM cI cJ cZ am t) s.heap [] := ⟨hP, hD, va_S.rf⟩
  have hl := lv_entry [.ref (am 68), .int a1, .int a2] (n := 3) (Nat.le_of_ble_eq_true rfl)
  rw [lg_entry_eq]
  generalize (lg_sl [.ref (am 68), .int a1, .int a2] ++ List.replicate (3 - (lg_sl [.ref (am 68), .int a1, .int a2]).length) Slot.unset).toArray = ls at hl ⊢
  have hl : lv_has ls 3 [(0, .ref (am 68)), (1, .int a1), (2, .int a2)] := hl
  unfold m_limb at ho
  refine lv_iload_n hx hb dX12_limb_0 rfl (lv_at hl 1 rfl) ?_
  refine lv_iconst (v := (0 : Int32)) hx hb dX12_limb_1 (by decide) ?_
  refine lv_iconst (v := (1 : Int32)) hx hb dX12_limb_2 (by decide) ?_
  obtain ⟨q1, hc2, ho⟩ := bd_some ho
  refine bkZ C0 hW (runS (As := [.int a1, .int (0 : Int32), .int (1 : Int32)]) (rest := []) C0 hW (c_m_in l _ t a1 (0 : Int32) (1 : Int32) (r := q1) hc2) ca_X12_in_179 rfl rfl ⟨rfl, rfl⟩ ⟨Nat.le_of_ble_eq_true rfl, Nat.le_of_ble_eq_true rfl⟩ (Nat.le_of_ble_eq_true rfl) hl.1 dX12_limb_3 ⟨Nat.le_of_ble_eq_true rfl, Nat.le_of_ble_eq_true rfl⟩) (fun z3 H locs hW => ?_)
  refine lv_if_eq (tgt := 13) hx hb dX12_limb_6 (by decide) (fun c4 => ?_) (fun c4 => ?_)
  · replace ho := ite_t c4 ho
    refine lv_bipush (v := (-2 : Int32)) hx hb dX12_limb_13 (by decide) ?_
    cases ho
    exact rtI C0 hW dX12_limb_15
  · replace ho := ite_f c4 ho
    refine lv_iload_n hx hb dX12_limb_9 rfl (lv_at hl 2 rfl) ?_
    refine lv_if_ge (tgt := 16) hx hb dX12_limb_10 (by decide) (fun c5 => ?_) (fun c5 => ?_)
    · replace ho := ite_t c5 ho
      refine lv_iload_n hx hb dX12_limb_16 rfl (lv_at hl 2 rfl) ?_
      refine lv_aload_n hx hb dX12_limb_17 rfl (lv_at hl 0 rfl) ?_
      refine lv_sipush (v := (4500 : Int32)) hx hb dX12_limb_18 (by decide) ?_
      refine lv_iload_n hx hb dX12_limb_21 rfl (lv_at hl 1 rfl) ?_
      refine lv_iadd hx hb dX12_limb_22 ?_
      obtain ⟨q6, hc7, ho⟩ := bd_some ho
      refine bkI C0 hW (runV (As := [.int ((4500 : Int32) + a1)]) (rest := [.int a2]) C0 hW (c_m_limbsOf l _ t ((4500 : Int32) + a1) (r := q6) hc7) ca_X12_limbsOf_349 0 12 rfl rfl rfl rfl rfl ⟨rfl, rfl⟩ ⟨Nat.le_of_ble_eq_true rfl, Nat.le_of_ble_eq_true rfl⟩ (Nat.le_of_ble_eq_true rfl) hl.1 dX12_limb_23 ⟨Nat.le_of_ble_eq_true rfl, Nat.le_of_ble_eq_true rfl⟩) (fun H locs hW => ?_)
      refine lv_icmp_ge (tgt := 47) hx hb dX12_limb_26 (by decide) (fun c8 => ?_) (fun c8 => ?_)
      · replace ho := ite_t c8 ho
        refine lv_iconst (v := (-1 : Int32)) hx hb dX12_limb_47 (by decide) ?_
        cases ho
        exact rtI C0 hW dX12_limb_48
      · replace ho := ite_f c8 ho
        refine lv_aload_n hx hb dX12_limb_29 rfl (lv_at hl 0 rfl) ?_
        refine mGET_34 C0 hW dX12_limb_30 ?_
        refine lv_bipush (v := (7 : Int32)) hx hb dX12_limb_33 (by decide) ?_
        refine lv_sipush (v := (4500 : Int32)) hx hb dX12_limb_35 (by decide) ?_
        refine lv_iload_n hx hb dX12_limb_38 rfl (lv_at hl 1 rfl) ?_
        refine lv_iadd hx hb dX12_limb_39 ?_
        refine lv_imul hx hb dX12_limb_40 ?_
        refine lv_iload_n hx hb dX12_limb_41 rfl (lv_at hl 2 rfl) ?_
        refine lv_iadd hx hb dX12_limb_42 ?_
        obtain ⟨g9, ho⟩ := gd_some ho
        refine mLD_34 C0 hW g9 dX12_limb_43 ?_
        refine lv_goto (tgt := 48) hx hb dX12_limb_44 (by decide) ?_
        cases ho
        exact rtI C0 hW dX12_limb_48
    · replace ho := ite_f c5 ho
      refine lv_bipush (v := (-2 : Int32)) hx hb dX12_limb_13 (by decide) ?_
      cases ho
      exact rtI C0 hW dX12_limb_15
noncomputable def m_nodeOf_J72 (t : St) (v1 : Int32) (v2 : Int32) (v3 : Int32) (v4 : Int32) : Option ((Int32) ⊕ ((Int32) ⊕ (Int32))) :=
  nm ((v4 + (1 : Int32)) - (v4 + (1 : Int32)) / (32768 : Int32) * (32768 : Int32)) (fun x1 : Int32 => some (.inl x1))
noncomputable def m_nodeOf_B27 (t : St) (v1 : Int32) (v2 : Int32) (v3 : Int32) (v4 : Int32) : Option ((Int32) ⊕ ((Int32) ⊕ (Int32))) :=
  gd v4 32768 (if (gA t 42 (v4).toNatClampNeg) = (-1 : Int32) then (some (.inr (.inr v4))) else (gd v4 32768 (nm (gA t 42 (v4).toNatClampNeg) (fun x5 : Int32 => gd x5 12002 (if (gA t 40 (x5).toNatClampNeg) = v2 then (gd x5 12002 (if (gA t 41 (x5).toNatClampNeg) = v3 then (some (.inr (.inl x5))) else (m_nodeOf_J72 t v1 v2 v3 v4))) else (m_nodeOf_J72 t v1 v2 v3 v4))))))
noncomputable def m_nodeOf (t : St) (a1 : Int32) (a2 : Int32) (a3 : Int32) : Option (Int32 × St) :=
  if a2 = a3 then (some (a2, t)) else (nm ((((a2 * (7919 : Int32)) + (a3 * (104729 : Int32))) &&& (2147483647 : Int32)) - (((a2 * (7919 : Int32)) + (a3 * (104729 : Int32))) &&& (2147483647 : Int32)) / (32768 : Int32) * (32768 : Int32)) (fun x11 : Int32 => (lp (fun x => m_nodeOf_B27 t a1 a2 a3 x) x11).bind (fun y12 => (Sum.elim (fun u15 => some (u15, t)) (fun u15 => gd (gI t 36) 12002 (nm (sA t 39 (gI t 36) a1) (fun t17 : St => gd (gI t17 36) 12002 (nm (sA t17 40 (gI t17 36) a2) (fun t19 : St => gd (gI t19 36) 12002 (nm (sA t19 41 (gI t19 36) a3) (fun t21 : St => gd u15 32768 (nm (sA t21 42 u15 (gI t21 36)) (fun t23 : St => nm (sI t23 36 ((gI t23 36) + (1 : Int32))) (fun t24 : St => some (((gI t24 36) - (1 : Int32)), t24)))))))))))) y12)))
set_option maxHeartbeats 4000000 in
set_option maxRecDepth 100000 in
theorem m_nodeOf_L27 {p : Program} {l : Launch} {e : Env} {s : State} {m : MethodId} {args : Array Value} {below : List Frame} {meth : Method} {c : Code} {Q : State → Prop} {D : va_G} {cI cJ cZ : ClassId} {am : Nat → Nat} {A : Nat → Prop} (C0 : cx p s m args meth c cX12_nodeOf RX12 6 (some .int) D (tyM cI cJ cZ) A) {t : St} {v1 : Int32} {v2 : Int32} {v3 : Int32} {y : (Int32) ⊕ (Int32)} (hK0 : ∀ u, y = (.inl u) → ∀ (H : Heap) (locs : List Loc) (ls : Array Slot), wl D A s (wM cI cJ cZ am t) H locs → lv_has ls 6 [(0, .ref (am 68)), (5, .int u)] → W p l e (rmN 0 0) s m args below meth c H locs 0 0 Q (F0 m 69 ls [])) (hK1 : ∀ u, y = (.inr u) → ∀ (H : Heap) (locs : List Loc) (ls : Array Slot), wl D A s (wM cI cJ cZ am t) H locs → lv_has ls 6 [(0, .ref (am 68)), (1, .int v1), (2, .int v2), (3, .int v3), (4, .int u)] → W p l e (rmN 0 0) s m args below meth c H locs 0 0 Q (F0 m 84 ls [])) :
    ∀ (n : Nat) (v4 : Int32), lpn (fun x => m_nodeOf_B27 t v1 v2 v3 x) n v4 = some y → ∀ (H : Heap) (locs : List Loc) (ls : Array Slot), wl D A s (wM cI cJ cZ am t) H locs → lv_has ls 6 [(0, .ref (am 68)), (1, .int v1), (2, .int v2), (3, .int v3), (4, .int v4)] → W p l e (rmN 0 0) s m args below meth c H locs 0 0 Q (F0 m 27 ls []) := by
  have hx := C0.1
  have hb := C0.2.1
  have hta := C0.2.2.2.2.2.1
  have hown := C0.2.2.2.2.1
  intro n
  induction n with
  | zero => intro _ h; cases h
  | succ n ih =>
    intro v4 hrun H locs ls hW hl
    obtain ⟨o, ho, hrun⟩ := bd_some hrun
    have J72 : ∀ (v4 : Int32) (_ : m_nodeOf_J72 t v1 v2 v3 v4 = some o) (H : Heap) (locs : List Loc) (ls : Array Slot), wl D A s (wM cI cJ cZ am t) H locs → lv_has ls 6 [(0, .ref (am 68)), (1, .int v1), (2, .int v2), (3, .int v3), (4, .int v4)] → W p l e (rmN 0 0) s m args below meth c H locs 0 0 Q (F0 m 72 ls []) := by
      intro v4 ho H locs ls hW hl
      unfold m_nodeOf_J72 at ho
      refine lv_iload hx hb dX12_nodeOf_72 (lv_at hl 4 rfl) ?_
      refine lv_iconst (v := (1 : Int32)) hx hb dX12_nodeOf_74 (by decide) ?_
      refine lv_iadd hx hb dX12_nodeOf_75 ?_
      refine lv_ldc hx hb hown (hta _ kw_1498) dX12_nodeOf_76 ?_
      refine lv_irem hx hb dX12_nodeOf_78 (by decide) ?_
      refine lv_nmi ho (fun x1 ho => ?_)
      refine lv_istore (lv' := [(4, .int x1), (0, .ref (am 68)), (1, .int v1), (2, .int v2), (3, .int v3)]) hx hb dX12_nodeOf_79 hl (by decide) rfl (fun ls hl => ?_)
      refine lv_goto (tgt := 27) hx hb dX12_nodeOf_81 (by decide) ?_
      cases ho
      exact ih _ hrun _ _ _ hW (lv_sub hl [1, 2, 3, 4, 0] rfl)
    unfold m_nodeOf_B27 at ho
    refine lv_aload_n hx hb dX12_nodeOf_27 rfl (lv_at hl 0 rfl) ?_
    refine mGET_42 C0 hW dX12_nodeOf_28 ?_
    refine lv_iload hx hb dX12_nodeOf_31 (lv_at hl 4 rfl) ?_
    obtain ⟨g2, ho⟩ := gd_some ho
    refine mLD_42 C0 hW g2 dX12_nodeOf_33 ?_
    refine lv_iconst (v := (-1 : Int32)) hx hb dX12_nodeOf_34 (by decide) ?_
    refine lv_icmp_eq (tgt := 84) hx hb dX12_nodeOf_35 (by decide) (fun c3 => ?_) (fun c3 => ?_)
    · replace ho := ite_t c3 ho
      cases ho
      cases hrun
      exact hK1 _ rfl _ _ _ hW (lv_sub hl [0, 1, 2, 3, 4] rfl)
    · replace ho := ite_f c3 ho
      refine lv_aload_n hx hb dX12_nodeOf_38 rfl (lv_at hl 0 rfl) ?_
      refine mGET_42 C0 hW dX12_nodeOf_39 ?_
      refine lv_iload hx hb dX12_nodeOf_42 (lv_at hl 4 rfl) ?_
      obtain ⟨g4, ho⟩ := gd_some ho
      refine mLD_42 C0 hW g4 dX12_nodeOf_44 ?_
      refine lv_nmi ho (fun x5 ho => ?_)
      refine lv_istore (lv' := [(5, .int x5), (0, .ref (am 68)), (1, .int v1), (2, .int v2), (3, .int v3), (4, .int v4)]) hx hb dX12_nodeOf_45 hl (by decide) rfl (fun ls hl => ?_)
      refine lv_aload_n hx hb dX12_nodeOf_47 rfl (lv_at hl 1 rfl) ?_
      refine mGET_40 C0 hW dX12_nodeOf_48 ?_
      refine lv_iload hx hb dX12_nodeOf_51 (lv_at hl 0 rfl) ?_
      obtain ⟨g6, ho⟩ := gd_some ho
      refine mLD_40 C0 hW g6 dX12_nodeOf_53 ?_
      refine lv_iload_n hx hb dX12_nodeOf_54 rfl (lv_at hl 3 rfl) ?_
      refine lv_icmp_ne (tgt := 72) hx hb dX12_nodeOf_55 (by decide) (fun c7 => ?_) (fun c7 => ?_)
      · replace ho := ite_f c7 ho
        exact J72 _ ho _ _ _ hW (lv_sub hl [1, 2, 3, 4, 5] rfl)
      · replace ho := ite_t c7 ho
        refine lv_aload_n hx hb dX12_nodeOf_58 rfl (lv_at hl 1 rfl) ?_
        refine mGET_41 C0 hW dX12_nodeOf_59 ?_
        refine lv_iload hx hb dX12_nodeOf_62 (lv_at hl 0 rfl) ?_
        obtain ⟨g8, ho⟩ := gd_some ho
        refine mLD_41 C0 hW g8 dX12_nodeOf_64 ?_
        refine lv_iload_n hx hb dX12_nodeOf_65 rfl (lv_at hl 4 rfl) ?_
        refine lv_icmp_ne (tgt := 72) hx hb dX12_nodeOf_66 (by decide) (fun c9 => ?_) (fun c9 => ?_)
        · replace ho := ite_f c9 ho
          exact J72 _ ho _ _ _ hW (lv_sub hl [1, 2, 3, 4, 5] rfl)
        · replace ho := ite_t c9 ho
          cases ho
          cases hrun
          exact hK0 _ rfl _ _ _ hW (lv_sub hl [1, 0] rfl)
set_option maxHeartbeats 4000000 in
set_option maxRecDepth 100000 in
theorem c_m_nodeOf (l : Launch) {D : va_G} {cI cJ cZ : ClassId} {am : Nat → Nat} (sz : Nat) (t : St) (a1 : Int32) (a2 : Int32) (a3 : Int32) {r : Int32} {t' : St} (ho : m_nodeOf t a1 a2 a3 = some (r, t')) : Met l yX12_nodeOf (.code yX12_nodeOf cX12_nodeOf 6 (some .int) :: wsAll) (rmN 0 0) (va_Pc [.ref (am 68), .int a1, .int a2, .int a3] (prW D (tyM cI cJ cZ) (wM cI cJ cZ am t) sz)) (qI r D (tyM cI cJ cZ) (wM cI cJ cZ am t') (va_A (wM cI cJ cZ am t) sz)) 0 0 (va_A (wM cI cJ cZ am t) sz) := by
  refine Met.ofW (cc := cX12_nodeOf) (maxL := 6) (ret := (some .int)) (by decide) rfl ?_
  intro p e s m args below meth c s₁ B hml hv
  obtain ⟨rfl, hsz, hP, hK, hD0⟩ := hv
  have hx := B.exec
  have hb := B.bytes
  have hts := atoms_spec (ws := (.code yX12_nodeOf cX12_nodeOf 6 (some .int) :: wsAll)) B.pre
  have hta := fun w h => hts w (List.mem_cons_of_mem _ h)
  have hown : s.vm.findClass RX12 = some m.cls := findClass_of_methodNamed B.named
  have hlocks := B.notSynchronized
  subst hsz
  have hD := hD0.self (sz := s.heap.size)
  generalize hAe : va_A (wM cI cJ cZ am t) s.heap.size = A at hD ⊢
  have hA : ∀ q : Nat, s.heap.size ≤ q → A q := fun q h => by rw [← hAe]; exact Or.inr h
  have C0 : cx p s m ([.ref (am 68), .int a1, .int a2, .int a3].toArray) meth c cX12_nodeOf RX12 6 (some .int) D (tyM cI cJ cZ) A := ⟨hx, hb, B.returns, hml, hown, hta, hlocks, hK, hA⟩
  have hW : wl D A s (wM cI cJ cZ am t) s.heap [] := ⟨hP, hD, va_S.rf⟩
  have hl := lv_entry [.ref (am 68), .int a1, .int a2, .int a3] (n := 6) (Nat.le_of_ble_eq_true rfl)
  rw [lg_entry_eq]
  generalize (lg_sl [.ref (am 68), .int a1, .int a2, .int a3] ++ List.replicate (6 - (lg_sl [.ref (am 68), .int a1, .int a2, .int a3]).length) Slot.unset).toArray = ls at hl ⊢
  have hl : lv_has ls 6 [(0, .ref (am 68)), (1, .int a1), (2, .int a2), (3, .int a3)] := hl
  unfold m_nodeOf at ho
  refine lv_iload_n hx hb dX12_nodeOf_0 rfl (lv_at hl 2 rfl) ?_
  refine lv_iload_n hx hb dX12_nodeOf_1 rfl (lv_at hl 3 rfl) ?_
  refine lv_icmp_ne (tgt := 7) hx hb dX12_nodeOf_2 (by decide) (fun c10 => ?_) (fun c10 => ?_)
  · replace ho := ite_f c10 ho
    refine lv_iload_n hx hb dX12_nodeOf_7 rfl (lv_at hl 2 rfl) ?_
    refine lv_sipush (v := (7919 : Int32)) hx hb dX12_nodeOf_8 (by decide) ?_
    refine lv_imul hx hb dX12_nodeOf_11 ?_
    refine lv_iload_n hx hb dX12_nodeOf_12 rfl (lv_at hl 3 rfl) ?_
    refine lv_ldcw hx hb hown (hta _ kw_1919) dX12_nodeOf_13 ?_
    refine lv_imul hx hb dX12_nodeOf_16 ?_
    refine lv_iadd hx hb dX12_nodeOf_17 ?_
    refine lv_ldcw hx hb hown (hta _ kw_1920) dX12_nodeOf_18 ?_
    refine lv_iand hx hb dX12_nodeOf_21 ?_
    refine lv_ldc hx hb hown (hta _ kw_1498) dX12_nodeOf_22 ?_
    refine lv_irem hx hb dX12_nodeOf_24 (by decide) ?_
    refine lv_nmi ho (fun x11 ho => ?_)
    refine lv_istore (lv' := [(4, .int x11), (0, .ref (am 68)), (1, .int a1), (2, .int a2), (3, .int a3)]) hx hb dX12_nodeOf_25 hl (by decide) rfl (fun ls hl => ?_)
    obtain ⟨y12, hc14, ho⟩ := bd_some ho
    obtain ⟨ny12, hc14⟩ := lp_to hc14
    refine m_nodeOf_L27 C0 ?_ ?_ ny12 _ hc14 _ _ _ hW (lv_sub hl [1, 2, 3, 4, 0] rfl)
    · intro u15 hy H locs ls hW hl
      subst hy
      replace ho := sum_l ho
      refine lv_iload hx hb dX12_nodeOf_69 (lv_at hl 1 rfl) ?_
      cases ho
      exact rtI C0 hW dX12_nodeOf_71
    · intro u15 hy H locs ls hW hl
      subst hy
      replace ho := sum_r ho
      refine lv_aload_n hx hb dX12_nodeOf_84 rfl (lv_at hl 0 rfl) ?_
      refine mGET_39 C0 hW dX12_nodeOf_85 ?_
      refine lv_aload_n hx hb dX12_nodeOf_88 rfl (lv_at hl 0 rfl) ?_
      refine mGET_36 C0 hW dX12_nodeOf_89 ?_
      refine lv_iload_n hx hb dX12_nodeOf_92 rfl (lv_at hl 1 rfl) ?_
      obtain ⟨g16, ho⟩ := gd_some ho
      refine mST_39 C0 hW g16 dX12_nodeOf_93 (fun H locs hW => ?_)
      obtain ⟨t17, ho, hW⟩ := nm_w (P := fun t => wl D A s (wM cI cJ cZ am t) H locs) ho hW
      refine lv_aload_n hx hb dX12_nodeOf_94 rfl (lv_at hl 0 rfl) ?_
      refine mGET_40 C0 hW dX12_nodeOf_95 ?_
      refine lv_aload_n hx hb dX12_nodeOf_98 rfl (lv_at hl 0 rfl) ?_
      refine mGET_36 C0 hW dX12_nodeOf_99 ?_
      refine lv_iload_n hx hb dX12_nodeOf_102 rfl (lv_at hl 2 rfl) ?_
      obtain ⟨g18, ho⟩ := gd_some ho
      refine mST_40 C0 hW g18 dX12_nodeOf_103 (fun H locs hW => ?_)
      obtain ⟨t19, ho, hW⟩ := nm_w (P := fun t => wl D A s (wM cI cJ cZ am t) H locs) ho hW
      refine lv_aload_n hx hb dX12_nodeOf_104 rfl (lv_at hl 0 rfl) ?_
      refine mGET_41 C0 hW dX12_nodeOf_105 ?_
      refine lv_aload_n hx hb dX12_nodeOf_108 rfl (lv_at hl 0 rfl) ?_
      refine mGET_36 C0 hW dX12_nodeOf_109 ?_
      refine lv_iload_n hx hb dX12_nodeOf_112 rfl (lv_at hl 3 rfl) ?_
      obtain ⟨g20, ho⟩ := gd_some ho
      refine mST_41 C0 hW g20 dX12_nodeOf_113 (fun H locs hW => ?_)
      obtain ⟨t21, ho, hW⟩ := nm_w (P := fun t => wl D A s (wM cI cJ cZ am t) H locs) ho hW
      refine lv_aload_n hx hb dX12_nodeOf_114 rfl (lv_at hl 0 rfl) ?_
      refine mGET_42 C0 hW dX12_nodeOf_115 ?_
      refine lv_iload hx hb dX12_nodeOf_118 (lv_at hl 4 rfl) ?_
      refine lv_aload_n hx hb dX12_nodeOf_120 rfl (lv_at hl 0 rfl) ?_
      refine mGET_36 C0 hW dX12_nodeOf_121 ?_
      obtain ⟨g22, ho⟩ := gd_some ho
      refine mST_42 C0 hW g22 dX12_nodeOf_124 (fun H locs hW => ?_)
      obtain ⟨t23, ho, hW⟩ := nm_w (P := fun t => wl D A s (wM cI cJ cZ am t) H locs) ho hW
      refine lv_aload_n hx hb dX12_nodeOf_125 rfl (lv_at hl 0 rfl) ?_
      refine lv_dup hx hb dX12_nodeOf_126 rfl ?_
      refine mGET_36 C0 hW dX12_nodeOf_127 ?_
      refine lv_iconst (v := (1 : Int32)) hx hb dX12_nodeOf_130 (by decide) ?_
      refine lv_iadd hx hb dX12_nodeOf_131 ?_
      refine mPUT_36 C0 hW dX12_nodeOf_132 (fun H locs hW => ?_)
      obtain ⟨t24, ho, hW⟩ := nm_w (P := fun t => wl D A s (wM cI cJ cZ am t) H locs) ho hW
      refine lv_aload_n hx hb dX12_nodeOf_135 rfl (lv_at hl 0 rfl) ?_
      refine mGET_36 C0 hW dX12_nodeOf_136 ?_
      refine lv_iconst (v := (1 : Int32)) hx hb dX12_nodeOf_139 (by decide) ?_
      refine lv_isub hx hb dX12_nodeOf_140 ?_
      cases ho
      exact rtI C0 hW dX12_nodeOf_141
  · replace ho := ite_t c10 ho
    refine lv_iload_n hx hb dX12_nodeOf_5 rfl (lv_at hl 2 rfl) ?_
    cases ho
    exact rtI C0 hW dX12_nodeOf_6
noncomputable def m_diagrams_B78 (v2 : Int32) (v3 : Int32) (t : St) : Option ((Int32 × St) ⊕ (St)) :=
  if (32768 : Int32) ≤ v3 then (some (.inr t)) else (gd v3 32768 (nm (sA t 42 v3 (-1 : Int32)) (fun t3 : St => nm (v3 + (1 : Int32)) (fun x4 : Int32 => some (.inl (x4, t3))))))
noncomputable def m_diagrams_J62 (t : St) (v1 : Int32) (v2 : Int32) (w1 : Int32) (w2 : Int32) : Option ((Int32 × St) ⊕ (St)) :=
  gd w1 65536 (nm (sA t 38 w1 w2) (fun t6 : St => nm (v2 + (1 : Int32)) (fun x7 : Int32 => some (.inl (x7, t6)))))
noncomputable def m_diagrams_B37 (v1 : Int32) (v2 : Int32) (t : St) : Option ((Int32 × St) ⊕ (St)) :=
  if (65536 : Int32) ≤ v2 then (some (.inr t)) else ((m_isReached t v1 v2).bind (fun q9 => if q9 = 0 then (m_diagrams_J62 t v1 v2 v2 (0 : Int32)) else (m_diagrams_J62 t v1 v2 v2 (1 : Int32))))
noncomputable def m_diagrams_B99 (v2 : Int32) (v3 : Int32) (t : St) : Option ((Int32 × St) ⊕ (St)) :=
  if ((1 : Int32) <<< (v2 &&& 31)) ≤ v3 then (some (.inr t)) else (gd v3 65536 (gd (v3 + ((1 : Int32) <<< (v2 &&& 31))) 65536 ((m_nodeOf t v2 (gA t 38 (v3).toNatClampNeg) (gA t 38 ((v3 + ((1 : Int32) <<< (v2 &&& 31)))).toNatClampNeg)).bind (fun q16 => gd v3 65536 (nm (sA q16.2 38 v3 q16.1) (fun t19 : St => nm (v3 + (1 : Int32)) (fun x20 : Int32 => some (.inl (x20, t19)))))))))
noncomputable def m_diagrams_B72 (v2 : Int32) (t : St) : Option ((Int32 × St) ⊕ (St)) :=
  if v2 < 0 then (some (.inr t)) else ((lp (fun x => m_diagrams_B78 v2 x.1 x.2) ((0 : Int32), t)).bind (fun y22 => (lp (fun x => m_diagrams_B99 v2 x.1 x.2) ((0 : Int32), y22)).bind (fun y25 => nm (v2 + (-1 : Int32)) (fun x28 : Int32 => some (.inl (x28, y25))))))
noncomputable def m_diagrams (t : St) (a1 : Int32) : Option (St) :=
  if (gI t 35) = a1 then (some t) else (nm (sI t 35 a1) (fun t30 : St => nm (sI t30 36 (2 : Int32)) (fun t31 : St => gd (0 : Int32) 12002 (nm (sA t31 39 (0 : Int32) (16 : Int32)) (fun t33 : St => gd (1 : Int32) 12002 (nm (sA t33 39 (1 : Int32) (16 : Int32)) (fun t35 : St => (lp (fun x => m_diagrams_B37 a1 x.1 x.2) ((0 : Int32), t35)).bind (fun y36 => (lp (fun x => m_diagrams_B72 x.1 x.2) ((15 : Int32), y36)).bind (fun y39 => gd (0 : Int32) 65536 (nm (sI y39 37 (gA y39 38 ((0 : Int32)).toNatClampNeg)) (fun t43 : St => some t43)))))))))))
set_option maxHeartbeats 4000000 in
set_option maxRecDepth 100000 in
theorem m_diagrams_L78 {p : Program} {l : Launch} {e : Env} {s : State} {m : MethodId} {args : Array Value} {below : List Frame} {meth : Method} {c : Code} {Q : State → Prop} {D : va_G} {cI cJ cZ : ClassId} {am : Nat → Nat} {A : Nat → Prop} (C0 : cx p s m args meth c cX12_diagrams RX12 4 none D (tyM cI cJ cZ) A) {v2 : Int32} {y : St} (hK0 : ∀ (H : Heap) (locs : List Loc) (ls : Array Slot), wl D A s (wM cI cJ cZ am y) H locs → lv_has ls 4 [(0, .ref (am 68)), (2, .int v2)] → W p l e (rmN 1 25) s m args below meth c H locs 0 0 Q (F0 m 97 ls [])) :
    ∀ (n : Nat) (v3 : Int32) (t : St), lpn (fun x => m_diagrams_B78 v2 x.1 x.2) n (v3, t) = some y → ∀ (H : Heap) (locs : List Loc) (ls : Array Slot), wl D A s (wM cI cJ cZ am t) H locs → lv_has ls 4 [(0, .ref (am 68)), (2, .int v2), (3, .int v3)] → W p l e (rmN 1 25) s m args below meth c H locs 0 0 Q (F0 m 78 ls []) := by
  have hx := C0.1
  have hb := C0.2.1
  have hta := C0.2.2.2.2.2.1
  have hown := C0.2.2.2.2.1
  intro n
  induction n with
  | zero => intro _ _ h; cases h
  | succ n ih =>
    intro v3 t hrun H locs ls hW hl
    obtain ⟨o, ho, hrun⟩ := bd_some hrun
    unfold m_diagrams_B78 at ho
    refine lv_iload_n hx hb dX12_diagrams_78 rfl (lv_at hl 2 rfl) ?_
    refine lv_ldc hx hb hown (hta _ kw_1498) dX12_diagrams_79 ?_
    refine lv_icmp_ge (tgt := 97) hx hb dX12_diagrams_81 (by decide) (fun c1 => ?_) (fun c1 => ?_)
    · replace ho := ite_t c1 ho
      cases ho
      cases hrun
      exact hK0 _ _ _ hW (lv_sub hl [0, 1] rfl)
    · replace ho := ite_f c1 ho
      refine lv_aload_n hx hb dX12_diagrams_84 rfl (lv_at hl 0 rfl) ?_
      refine mGET_42 C0 hW dX12_diagrams_85 ?_
      refine lv_iload_n hx hb dX12_diagrams_88 rfl (lv_at hl 2 rfl) ?_
      refine lv_iconst (v := (-1 : Int32)) hx hb dX12_diagrams_89 (by decide) ?_
      obtain ⟨g2, ho⟩ := gd_some ho
      refine mST_42 C0 hW g2 dX12_diagrams_90 (fun H locs hW => ?_)
      obtain ⟨t3, ho, hW⟩ := nm_w (P := fun t => wl D A s (wM cI cJ cZ am t) H locs) ho hW
      obtain ⟨x4, ex4, ho⟩ := nm_x ho
      refine lv_iinc (v := x4) (lv' := [(3, .int x4), (0, .ref (am 68)), (2, .int v2)]) hx hb dX12_diagrams_91 hl (k := 2) rfl (by rw [ex4]; rfl) (by decide) rfl (fun ls hl => ?_)
      clear ex4
      refine lv_goto (tgt := 78) hx hb dX12_diagrams_94 (by decide) ?_
      cases ho
      exact ih _ _ hrun _ _ _ hW (lv_sub hl [1, 2, 0] rfl)
set_option maxHeartbeats 4000000 in
set_option maxRecDepth 100000 in
theorem m_diagrams_L37 {p : Program} {l : Launch} {e : Env} {s : State} {m : MethodId} {args : Array Value} {below : List Frame} {meth : Method} {c : Code} {Q : State → Prop} {D : va_G} {cI cJ cZ : ClassId} {am : Nat → Nat} {A : Nat → Prop} (C0 : cx p s m args meth c cX12_diagrams RX12 4 none D (tyM cI cJ cZ) A) {v1 : Int32} {y : St} (hK0 : ∀ (H : Heap) (locs : List Loc) (ls : Array Slot), wl D A s (wM cI cJ cZ am y) H locs → lv_has ls 4 [(0, .ref (am 68))] → W p l e (rmN 1 25) s m args below meth c H locs 0 0 Q (F0 m 69 ls [])) :
    ∀ (n : Nat) (v2 : Int32) (t : St), lpn (fun x => m_diagrams_B37 v1 x.1 x.2) n (v2, t) = some y → ∀ (H : Heap) (locs : List Loc) (ls : Array Slot), wl D A s (wM cI cJ cZ am t) H locs → lv_has ls 4 [(0, .ref (am 68)), (1, .int v1), (2, .int v2)] → W p l e (rmN 1 25) s m args below meth c H locs 0 0 Q (F0 m 37 ls []) := by
  have hx := C0.1
  have hb := C0.2.1
  have hta := C0.2.2.2.2.2.1
  have hown := C0.2.2.2.2.1
  intro n
  induction n with
  | zero => intro _ _ h; cases h
  | succ n ih =>
    intro v2 t hrun H locs ls hW hl
    obtain ⟨o, ho, hrun⟩ := bd_some hrun
    have J62 : ∀ (t : St) (v2 : Int32) (w1 : Int32) (w2 : Int32) (_ : m_diagrams_J62 t v1 v2 w1 w2 = some o) (H : Heap) (locs : List Loc) (ls : Array Slot), wl D A s (wM cI cJ cZ am t) H locs → lv_has ls 4 [(0, .ref (am 68)), (1, .int v1), (2, .int v2)] → W p l e (rmN 1 25) s m args below meth c H locs 0 0 Q (F0 m 62 ls [.int w2, .int w1, .ref (am 38)]) := by
      intro t v2 w1 w2 ho H locs ls hW hl
      unfold m_diagrams_J62 at ho
      obtain ⟨g5, ho⟩ := gd_some ho
      refine mST_38 C0 hW g5 dX12_diagrams_62 (fun H locs hW => ?_)
      obtain ⟨t6, ho, hW⟩ := nm_w (P := fun t => wl D A s (wM cI cJ cZ am t) H locs) ho hW
      obtain ⟨x7, ex7, ho⟩ := nm_x ho
      refine lv_iinc (v := x7) (lv' := [(2, .int x7), (0, .ref (am 68)), (1, .int v1)]) hx hb dX12_diagrams_63 hl (k := 2) rfl (by rw [ex7]; rfl) (by decide) rfl (fun ls hl => ?_)
      clear ex7
      refine lv_goto (tgt := 37) hx hb dX12_diagrams_66 (by decide) ?_
      cases ho
      exact ih _ _ hrun _ _ _ hW (lv_sub hl [1, 2, 0] rfl)
    unfold m_diagrams_B37 at ho
    refine lv_iload_n hx hb dX12_diagrams_37 rfl (lv_at hl 2 rfl) ?_
    refine lv_ldc hx hb hown (hta _ kw_1497) dX12_diagrams_38 ?_
    refine lv_icmp_ge (tgt := 69) hx hb dX12_diagrams_40 (by decide) (fun c8 => ?_) (fun c8 => ?_)
    · replace ho := ite_t c8 ho
      cases ho
      cases hrun
      exact hK0 _ _ _ hW (lv_sub hl [0] rfl)
    · replace ho := ite_f c8 ho
      refine lv_aload_n hx hb dX12_diagrams_43 rfl (lv_at hl 0 rfl) ?_
      refine mGET_38 C0 hW dX12_diagrams_44 ?_
      refine lv_iload_n hx hb dX12_diagrams_47 rfl (lv_at hl 2 rfl) ?_
      refine lv_aload_n hx hb dX12_diagrams_48 rfl (lv_at hl 0 rfl) ?_
      refine lv_iload_n hx hb dX12_diagrams_49 rfl (lv_at hl 1 rfl) ?_
      refine lv_iload_n hx hb dX12_diagrams_50 rfl (lv_at hl 2 rfl) ?_
      obtain ⟨q9, hc10, ho⟩ := bd_some ho
      refine bkZ C0 hW (runV (As := [.int v1, .int v2]) (rest := [.int v2, .ref (am 38)]) C0 hW (c_m_isReached l _ t v1 v2 (r := q9) hc10) ca_X12_isReached_282 0 12 rfl rfl rfl rfl rfl ⟨rfl, rfl⟩ ⟨Nat.le_of_ble_eq_true rfl, Nat.le_of_ble_eq_true rfl⟩ (Nat.le_of_ble_eq_true rfl) hl.1 dX12_diagrams_51 ⟨Nat.le_of_ble_eq_true rfl, Nat.le_of_ble_eq_true rfl⟩) (fun z11 H locs hW => ?_)
      refine lv_if_eq (tgt := 61) hx hb dX12_diagrams_54 (by decide) (fun c12 => ?_) (fun c12 => ?_)
      · replace ho := ite_t c12 ho
        refine lv_iconst (v := (0 : Int32)) hx hb dX12_diagrams_61 (by decide) ?_
        exact J62 _ _ _ _ ho _ _ _ hW (lv_sub hl [0, 1, 2] rfl)
      · replace ho := ite_f c12 ho
        refine lv_iconst (v := (1 : Int32)) hx hb dX12_diagrams_57 (by decide) ?_
        refine lv_goto (tgt := 62) hx hb dX12_diagrams_58 (by decide) ?_
        exact J62 _ _ _ _ ho _ _ _ hW (lv_sub hl [0, 1, 2] rfl)
set_option maxHeartbeats 4000000 in
set_option maxRecDepth 100000 in
theorem m_diagrams_L99 {p : Program} {l : Launch} {e : Env} {s : State} {m : MethodId} {args : Array Value} {below : List Frame} {meth : Method} {c : Code} {Q : State → Prop} {D : va_G} {cI cJ cZ : ClassId} {am : Nat → Nat} {A : Nat → Prop} (C0 : cx p s m args meth c cX12_diagrams RX12 4 none D (tyM cI cJ cZ) A) {v2 : Int32} {y : St} (hK0 : ∀ (H : Heap) (locs : List Loc) (ls : Array Slot), wl D A s (wM cI cJ cZ am y) H locs → lv_has ls 4 [(0, .ref (am 68)), (2, .int v2)] → W p l e (rmN 1 25) s m args below meth c H locs 0 0 Q (F0 m 139 ls [])) :
    ∀ (n : Nat) (v3 : Int32) (t : St), lpn (fun x => m_diagrams_B99 v2 x.1 x.2) n (v3, t) = some y → ∀ (H : Heap) (locs : List Loc) (ls : Array Slot), wl D A s (wM cI cJ cZ am t) H locs → lv_has ls 4 [(0, .ref (am 68)), (2, .int v2), (3, .int v3)] → W p l e (rmN 1 25) s m args below meth c H locs 0 0 Q (F0 m 99 ls []) := by
  have hx := C0.1
  have hb := C0.2.1
  have hta := C0.2.2.2.2.2.1
  have hown := C0.2.2.2.2.1
  intro n
  induction n with
  | zero => intro _ _ h; cases h
  | succ n ih =>
    intro v3 t hrun H locs ls hW hl
    obtain ⟨o, ho, hrun⟩ := bd_some hrun
    unfold m_diagrams_B99 at ho
    refine lv_iload_n hx hb dX12_diagrams_99 rfl (lv_at hl 2 rfl) ?_
    refine lv_iconst (v := (1 : Int32)) hx hb dX12_diagrams_100 (by decide) ?_
    refine lv_iload_n hx hb dX12_diagrams_101 rfl (lv_at hl 1 rfl) ?_
    refine lv_ishl hx hb dX12_diagrams_102 ?_
    refine lv_icmp_ge (tgt := 139) hx hb dX12_diagrams_103 (by decide) (fun c13 => ?_) (fun c13 => ?_)
    · replace ho := ite_t c13 ho
      cases ho
      cases hrun
      exact hK0 _ _ _ hW (lv_sub hl [0, 1] rfl)
    · replace ho := ite_f c13 ho
      refine lv_aload_n hx hb dX12_diagrams_106 rfl (lv_at hl 0 rfl) ?_
      refine mGET_38 C0 hW dX12_diagrams_107 ?_
      refine lv_iload_n hx hb dX12_diagrams_110 rfl (lv_at hl 2 rfl) ?_
      refine lv_aload_n hx hb dX12_diagrams_111 rfl (lv_at hl 0 rfl) ?_
      refine lv_iload_n hx hb dX12_diagrams_112 rfl (lv_at hl 1 rfl) ?_
      refine lv_aload_n hx hb dX12_diagrams_113 rfl (lv_at hl 0 rfl) ?_
      refine mGET_38 C0 hW dX12_diagrams_114 ?_
      refine lv_iload_n hx hb dX12_diagrams_117 rfl (lv_at hl 2 rfl) ?_
      obtain ⟨g14, ho⟩ := gd_some ho
      refine mLD_38 C0 hW g14 dX12_diagrams_118 ?_
      refine lv_aload_n hx hb dX12_diagrams_119 rfl (lv_at hl 0 rfl) ?_
      refine mGET_38 C0 hW dX12_diagrams_120 ?_
      refine lv_iload_n hx hb dX12_diagrams_123 rfl (lv_at hl 2 rfl) ?_
      refine lv_iconst (v := (1 : Int32)) hx hb dX12_diagrams_124 (by decide) ?_
      refine lv_iload_n hx hb dX12_diagrams_125 rfl (lv_at hl 1 rfl) ?_
      refine lv_ishl hx hb dX12_diagrams_126 ?_
      refine lv_iadd hx hb dX12_diagrams_127 ?_
      obtain ⟨g15, ho⟩ := gd_some ho
      refine mLD_38 C0 hW g15 dX12_diagrams_128 ?_
      obtain ⟨q16, hc17, ho⟩ := bd_some ho
      refine bkI C0 hW (runV (As := [.int v2, .int (gA t 38 (v3).toNatClampNeg), .int (gA t 38 ((v3 + ((1 : Int32) <<< (v2 &&& 31)))).toNatClampNeg)]) (rest := [.int v3, .ref (am 38)]) C0 hW (c_m_nodeOf l _ t v2 (gA t 38 (v3).toNatClampNeg) (gA t 38 ((v3 + ((1 : Int32) <<< (v2 &&& 31)))).toNatClampNeg) (r := q16.1) (t' := q16.2) hc17) ca_X12_nodeOf_357 0 12 rfl rfl rfl rfl rfl ⟨rfl, rfl⟩ ⟨Nat.le_of_ble_eq_true rfl, Nat.le_of_ble_eq_true rfl⟩ (Nat.le_of_ble_eq_true rfl) hl.1 dX12_diagrams_129 ⟨Nat.le_of_ble_eq_true rfl, Nat.le_of_ble_eq_true rfl⟩) (fun H locs hW => ?_)
      obtain ⟨g18, ho⟩ := gd_some ho
      refine mST_38 C0 hW g18 dX12_diagrams_132 (fun H locs hW => ?_)
      obtain ⟨t19, ho, hW⟩ := nm_w (P := fun t => wl D A s (wM cI cJ cZ am t) H locs) ho hW
      obtain ⟨x20, ex20, ho⟩ := nm_x ho
      refine lv_iinc (v := x20) (lv' := [(3, .int x20), (0, .ref (am 68)), (2, .int v2)]) hx hb dX12_diagrams_133 hl (k := 2) rfl (by rw [ex20]; rfl) (by decide) rfl (fun ls hl => ?_)
      clear ex20
      refine lv_goto (tgt := 99) hx hb dX12_diagrams_136 (by decide) ?_
      cases ho
      exact ih _ _ hrun _ _ _ hW (lv_sub hl [1, 2, 0] rfl)
set_option maxHeartbeats 4000000 in
set_option maxRecDepth 100000 in
theorem m_diagrams_L72 {p : Program} {l : Launch} {e : Env} {s : State} {m : MethodId} {args : Array Value} {below : List Frame} {meth : Method} {c : Code} {Q : State → Prop} {D : va_G} {cI cJ cZ : ClassId} {am : Nat → Nat} {A : Nat → Prop} (C0 : cx p s m args meth c cX12_diagrams RX12 4 none D (tyM cI cJ cZ) A) {y : St} (hK0 : ∀ (H : Heap) (locs : List Loc) (ls : Array Slot), wl D A s (wM cI cJ cZ am y) H locs → lv_has ls 4 [(0, .ref (am 68))] → W p l e (rmN 1 25) s m args below meth c H locs 0 0 Q (F0 m 145 ls [])) :
    ∀ (n : Nat) (v2 : Int32) (t : St), lpn (fun x => m_diagrams_B72 x.1 x.2) n (v2, t) = some y → ∀ (H : Heap) (locs : List Loc) (ls : Array Slot), wl D A s (wM cI cJ cZ am t) H locs → lv_has ls 4 [(0, .ref (am 68)), (2, .int v2)] → W p l e (rmN 1 25) s m args below meth c H locs 0 0 Q (F0 m 72 ls []) := by
  have hx := C0.1
  have hb := C0.2.1
  have hta := C0.2.2.2.2.2.1
  have hown := C0.2.2.2.2.1
  intro n
  induction n with
  | zero => intro _ _ h; cases h
  | succ n ih =>
    intro v2 t hrun H locs ls hW hl
    obtain ⟨o, ho, hrun⟩ := bd_some hrun
    unfold m_diagrams_B72 at ho
    refine lv_iload_n hx hb dX12_diagrams_72 rfl (lv_at hl 1 rfl) ?_
    refine lv_if_lt (tgt := 145) hx hb dX12_diagrams_73 (by decide) (fun c21 => ?_) (fun c21 => ?_)
    · replace ho := ite_t c21 ho
      cases ho
      cases hrun
      exact hK0 _ _ _ hW (lv_sub hl [0] rfl)
    · replace ho := ite_f c21 ho
      refine lv_iconst (v := (0 : Int32)) hx hb dX12_diagrams_76 (by decide) ?_
      refine lv_istore_n (lv' := [(3, .int (0 : Int32)), (0, .ref (am 68)), (2, .int v2)]) hx hb dX12_diagrams_77 rfl hl (by decide) rfl (fun ls hl => ?_)
      obtain ⟨y22, hc24, ho⟩ := bd_some ho
      obtain ⟨ny22, hc24⟩ := lp_to hc24
      refine m_diagrams_L78 C0 ?_ ny22 _ _ hc24 _ _ _ hW (lv_sub hl [1, 2, 0] rfl)
      intro H locs ls hW hl
      refine lv_iconst (v := (0 : Int32)) hx hb dX12_diagrams_97 (by decide) ?_
      refine lv_istore_n (lv' := [(3, .int (0 : Int32)), (0, .ref (am 68)), (2, .int v2)]) hx hb dX12_diagrams_98 rfl hl (by decide) rfl (fun ls hl => ?_)
      obtain ⟨y25, hc27, ho⟩ := bd_some ho
      obtain ⟨ny25, hc27⟩ := lp_to hc27
      refine m_diagrams_L99 C0 ?_ ny25 _ _ hc27 _ _ _ hW (lv_sub hl [1, 2, 0] rfl)
      intro H locs ls hW hl
      obtain ⟨x28, ex28, ho⟩ := nm_x ho
      refine lv_iinc (v := x28) (lv' := [(2, .int x28), (0, .ref (am 68))]) hx hb dX12_diagrams_139 hl (k := 1) rfl (by rw [ex28]; rfl) (by decide) rfl (fun ls hl => ?_)
      clear ex28
      refine lv_goto (tgt := 72) hx hb dX12_diagrams_142 (by decide) ?_
      cases ho
      exact ih _ _ hrun _ _ _ hW (lv_sub hl [1, 0] rfl)
set_option maxHeartbeats 4000000 in
set_option maxRecDepth 100000 in
theorem c_m_diagrams (l : Launch) {D : va_G} {cI cJ cZ : ClassId} {am : Nat → Nat} (sz : Nat) (t : St) (a1 : Int32) {t' : St} (ho : m_diagrams t a1 = some t') : Met l yX12_diagrams (.code yX12_diagrams cX12_diagrams 4 none :: wsAll) (rmN 1 25) (va_Pc [.ref (am 68), .int a1] (prW D (tyM cI cJ cZ) (wM cI cJ cZ am t) sz)) (qV D (tyM cI cJ cZ) (wM cI cJ cZ am t') (va_A (wM cI cJ cZ am t) sz)) 0 0 (va_A (wM cI cJ cZ am t) sz) := by
  refine Met.ofW (cc := cX12_diagrams) (maxL := 4) (ret := none) (by decide) rfl ?_
  intro p e s m args below meth c s₁ B hml hv
  obtain ⟨rfl, hsz, hP, hK, hD0⟩ := hv
  have hx := B.exec
  have hb := B.bytes
  have hts := atoms_spec (ws := (.code yX12_diagrams cX12_diagrams 4 none :: wsAll)) B.pre
  have hta := fun w h => hts w (List.mem_cons_of_mem _ h)
  have hown : s.vm.findClass RX12 = some m.cls := findClass_of_methodNamed B.named
  have hlocks := B.notSynchronized
  subst hsz
  have hD := hD0.self (sz := s.heap.size)
  generalize hAe : va_A (wM cI cJ cZ am t) s.heap.size = A at hD ⊢
  have hA : ∀ q : Nat, s.heap.size ≤ q → A q := fun q h => by rw [← hAe]; exact Or.inr h
  have C0 : cx p s m ([.ref (am 68), .int a1].toArray) meth c cX12_diagrams RX12 4 none D (tyM cI cJ cZ) A := ⟨hx, hb, B.returns, hml, hown, hta, hlocks, hK, hA⟩
  have hW : wl D A s (wM cI cJ cZ am t) s.heap [] := ⟨hP, hD, va_S.rf⟩
  have hl := lv_entry [.ref (am 68), .int a1] (n := 4) (Nat.le_of_ble_eq_true rfl)
  rw [lg_entry_eq]
  generalize (lg_sl [.ref (am 68), .int a1] ++ List.replicate (4 - (lg_sl [.ref (am 68), .int a1]).length) Slot.unset).toArray = ls at hl ⊢
  have hl : lv_has ls 4 [(0, .ref (am 68)), (1, .int a1)] := hl
  unfold m_diagrams at ho
  refine lv_aload_n hx hb dX12_diagrams_0 rfl (lv_at hl 0 rfl) ?_
  refine mGET_35 C0 hW dX12_diagrams_1 ?_
  refine lv_iload_n hx hb dX12_diagrams_4 rfl (lv_at hl 1 rfl) ?_
  refine lv_icmp_ne (tgt := 9) hx hb dX12_diagrams_5 (by decide) (fun c29 => ?_) (fun c29 => ?_)
  · replace ho := ite_f c29 ho
    refine lv_aload_n hx hb dX12_diagrams_9 rfl (lv_at hl 0 rfl) ?_
    refine lv_iload_n hx hb dX12_diagrams_10 rfl (lv_at hl 1 rfl) ?_
    refine mPUT_35 C0 hW dX12_diagrams_11 (fun H locs hW => ?_)
    obtain ⟨t30, ho, hW⟩ := nm_w (P := fun t => wl D A s (wM cI cJ cZ am t) H locs) ho hW
    refine lv_aload_n hx hb dX12_diagrams_14 rfl (lv_at hl 0 rfl) ?_
    refine lv_iconst (v := (2 : Int32)) hx hb dX12_diagrams_15 (by decide) ?_
    refine mPUT_36 C0 hW dX12_diagrams_16 (fun H locs hW => ?_)
    obtain ⟨t31, ho, hW⟩ := nm_w (P := fun t => wl D A s (wM cI cJ cZ am t) H locs) ho hW
    refine lv_aload_n hx hb dX12_diagrams_19 rfl (lv_at hl 0 rfl) ?_
    refine mGET_39 C0 hW dX12_diagrams_20 ?_
    refine lv_iconst (v := (0 : Int32)) hx hb dX12_diagrams_23 (by decide) ?_
    refine lv_bipush (v := (16 : Int32)) hx hb dX12_diagrams_24 (by decide) ?_
    obtain ⟨g32, ho⟩ := gd_some ho
    refine mST_39 C0 hW g32 dX12_diagrams_26 (fun H locs hW => ?_)
    obtain ⟨t33, ho, hW⟩ := nm_w (P := fun t => wl D A s (wM cI cJ cZ am t) H locs) ho hW
    refine lv_aload_n hx hb dX12_diagrams_27 rfl (lv_at hl 0 rfl) ?_
    refine mGET_39 C0 hW dX12_diagrams_28 ?_
    refine lv_iconst (v := (1 : Int32)) hx hb dX12_diagrams_31 (by decide) ?_
    refine lv_bipush (v := (16 : Int32)) hx hb dX12_diagrams_32 (by decide) ?_
    obtain ⟨g34, ho⟩ := gd_some ho
    refine mST_39 C0 hW g34 dX12_diagrams_34 (fun H locs hW => ?_)
    obtain ⟨t35, ho, hW⟩ := nm_w (P := fun t => wl D A s (wM cI cJ cZ am t) H locs) ho hW
    refine lv_iconst (v := (0 : Int32)) hx hb dX12_diagrams_35 (by decide) ?_
    refine lv_istore_n (lv' := [(2, .int (0 : Int32)), (0, .ref (am 68)), (1, .int a1)]) hx hb dX12_diagrams_36 rfl hl (by decide) rfl (fun ls hl => ?_)
    obtain ⟨y36, hc38, ho⟩ := bd_some ho
    obtain ⟨ny36, hc38⟩ := lp_to hc38
    refine m_diagrams_L37 C0 ?_ ny36 _ _ hc38 _ _ _ hW (lv_sub hl [1, 2, 0] rfl)
    intro H locs ls hW hl
    refine lv_bipush (v := (15 : Int32)) hx hb dX12_diagrams_69 (by decide) ?_
    refine lv_istore_n (lv' := [(2, .int (15 : Int32)), (0, .ref (am 68))]) hx hb dX12_diagrams_71 rfl hl (by decide) rfl (fun ls hl => ?_)
    obtain ⟨y39, hc41, ho⟩ := bd_some ho
    obtain ⟨ny39, hc41⟩ := lp_to hc41
    refine m_diagrams_L72 C0 ?_ ny39 _ _ hc41 _ _ _ hW (lv_sub hl [1, 0] rfl)
    intro H locs ls hW hl
    refine lv_aload_n hx hb dX12_diagrams_145 rfl (lv_at hl 0 rfl) ?_
    refine lv_aload_n hx hb dX12_diagrams_146 rfl (lv_at hl 0 rfl) ?_
    refine mGET_38 C0 hW dX12_diagrams_147 ?_
    refine lv_iconst (v := (0 : Int32)) hx hb dX12_diagrams_150 (by decide) ?_
    obtain ⟨g42, ho⟩ := gd_some ho
    refine mLD_38 C0 hW g42 dX12_diagrams_151 ?_
    refine mPUT_37 C0 hW dX12_diagrams_152 (fun H locs hW => ?_)
    obtain ⟨t43, ho, hW⟩ := nm_w (P := fun t => wl D A s (wM cI cJ cZ am t) H locs) ho hW
    cases ho
    exact rtV C0 hW dX12_diagrams_155
  · replace ho := ite_t c29 ho
    cases ho
    exact rtV C0 hW dX12_diagrams_8
noncomputable def m_size (t : St) (a1 : Int32) : Option (Int32 × St) :=
  (m_why t a1 (1 : Int32)).bind (fun q1 => if q1 = (1 : Int32) then (gd a1 10 ((m_diagrams t (gA t 16 (a1).toNatClampNeg)).bind (fun q5 => some (((gI q5 36) - (2 : Int32)), q5)))) else (some (q1, t)))
set_option maxHeartbeats 4000000 in
set_option maxRecDepth 100000 in
theorem c_m_size (l : Launch) {D : va_G} {cI cJ cZ : ClassId} {am : Nat → Nat} (sz : Nat) (t : St) (a1 : Int32) {r : Int32} {t' : St} (ho : m_size t a1 = some (r, t')) : Met l yX12_size (.code yX12_size cX12_size 3 (some .int) :: wsAll) (rmN 3 64) (va_Pc [.ref (am 68), .int a1] (prW D (tyM cI cJ cZ) (wM cI cJ cZ am t) sz)) (qI r D (tyM cI cJ cZ) (wM cI cJ cZ am t') (va_A (wM cI cJ cZ am t) sz)) 0 0 (va_A (wM cI cJ cZ am t) sz) := by
  refine Met.ofW (cc := cX12_size) (maxL := 3) (ret := (some .int)) (by decide) rfl ?_
  intro p e s m args below meth c s₁ B hml hv
  obtain ⟨rfl, hsz, hP, hK, hD0⟩ := hv
  have hx := B.exec
  have hb := B.bytes
  have hts := atoms_spec (ws := (.code yX12_size cX12_size 3 (some .int) :: wsAll)) B.pre
  have hta := fun w h => hts w (List.mem_cons_of_mem _ h)
  have hown : s.vm.findClass RX12 = some m.cls := findClass_of_methodNamed B.named
  have hlocks := B.notSynchronized
  subst hsz
  have hD := hD0.self (sz := s.heap.size)
  generalize hAe : va_A (wM cI cJ cZ am t) s.heap.size = A at hD ⊢
  have hA : ∀ q : Nat, s.heap.size ≤ q → A q := fun q h => by rw [← hAe]; exact Or.inr h
  have C0 : cx p s m ([.ref (am 68), .int a1].toArray) meth c cX12_size RX12 3 (some .int) D (tyM cI cJ cZ) A := ⟨hx, hb, B.returns, hml, hown, hta, hlocks, hK, hA⟩
  have hW : wl D A s (wM cI cJ cZ am t) s.heap [] := ⟨hP, hD, va_S.rf⟩
  have hl := lv_entry [.ref (am 68), .int a1] (n := 3) (Nat.le_of_ble_eq_true rfl)
  rw [lg_entry_eq]
  generalize (lg_sl [.ref (am 68), .int a1] ++ List.replicate (3 - (lg_sl [.ref (am 68), .int a1]).length) Slot.unset).toArray = ls at hl ⊢
  have hl : lv_has ls 3 [(0, .ref (am 68)), (1, .int a1)] := hl
  unfold m_size at ho
  refine lv_aload_n hx hb dX12_size_0 rfl (lv_at hl 0 rfl) ?_
  refine lv_iload_n hx hb dX12_size_1 rfl (lv_at hl 1 rfl) ?_
  refine lv_iconst (v := (1 : Int32)) hx hb dX12_size_2 (by decide) ?_
  obtain ⟨q1, hc2, ho⟩ := bd_some ho
  refine bkI C0 hW (runV (As := [.int a1, .int (1 : Int32)]) (rest := []) C0 hW (c_m_why l _ t a1 (1 : Int32) (r := q1) hc2) ca_X12_why_271 0 12 rfl rfl rfl rfl rfl ⟨rfl, rfl⟩ ⟨Nat.le_of_ble_eq_true rfl, Nat.le_of_ble_eq_true rfl⟩ (Nat.le_of_ble_eq_true rfl) hl.1 dX12_size_3 ⟨Nat.le_of_ble_eq_true rfl, Nat.le_of_ble_eq_true rfl⟩) (fun H locs hW => ?_)
  refine lv_istore_n (lv' := [(2, .int q1), (0, .ref (am 68)), (1, .int a1)]) hx hb dX12_size_6 rfl hl (by decide) rfl (fun ls hl => ?_)
  refine lv_iload_n hx hb dX12_size_7 rfl (lv_at hl 0 rfl) ?_
  refine lv_iconst (v := (1 : Int32)) hx hb dX12_size_8 (by decide) ?_
  refine lv_icmp_eq (tgt := 14) hx hb dX12_size_9 (by decide) (fun c3 => ?_) (fun c3 => ?_)
  · replace ho := ite_t c3 ho
    refine lv_aload_n hx hb dX12_size_14 rfl (lv_at hl 1 rfl) ?_
    refine lv_aload_n hx hb dX12_size_15 rfl (lv_at hl 1 rfl) ?_
    refine mGET_16 C0 hW dX12_size_16 ?_
    refine lv_iload_n hx hb dX12_size_19 rfl (lv_at hl 2 rfl) ?_
    obtain ⟨g4, ho⟩ := gd_some ho
    refine mLD_16 C0 hW g4 dX12_size_20 ?_
    obtain ⟨q5, hc6, ho⟩ := bd_some ho
    refine bkV C0 hW (runV (As := [.int (gA t 16 (a1).toNatClampNeg)]) (rest := []) C0 hW (c_m_diagrams l _ t (gA t 16 (a1).toNatClampNeg) (t' := q5) hc6) ca_X12_diagrams_363 0 12 rfl rfl rfl rfl rfl ⟨rfl, rfl⟩ ⟨Nat.le_of_ble_eq_true rfl, Nat.le_of_ble_eq_true rfl⟩ (Nat.le_of_ble_eq_true rfl) hl.1 dX12_size_21 ⟨Nat.le_of_ble_eq_true rfl, Nat.le_of_ble_eq_true rfl⟩) (fun H locs hW => ?_)
    refine lv_aload_n hx hb dX12_size_24 rfl (lv_at hl 1 rfl) ?_
    refine mGET_36 C0 hW dX12_size_25 ?_
    refine lv_iconst (v := (2 : Int32)) hx hb dX12_size_28 (by decide) ?_
    refine lv_isub hx hb dX12_size_29 ?_
    cases ho
    exact rtI C0 hW dX12_size_30
  · replace ho := ite_f c3 ho
    refine lv_iload_n hx hb dX12_size_12 rfl (lv_at hl 0 rfl) ?_
    cases ho
    exact rtI C0 hW dX12_size_13
noncomputable def m_uses_J32 (t : St) (v1 : Int32) (v2 : Int32) (w1 : Int32) (w2 : Int32) : Option ((Int32 × St) ⊕ (St)) :=
  gd w1 16 (nm (sA t 43 w1 w2) (fun t2 : St => nm (v2 + (1 : Int32)) (fun x3 : Int32 => some (.inl (x3, t2)))))
noncomputable def m_uses_B2 (v1 : Int32) (v2 : Int32) (t : St) : Option ((Int32 × St) ⊕ (St)) :=
  if (16 : Int32) ≤ v2 then (some (.inr t)) else (if ((v1 >>> (v2 &&& 31)) &&& (1 : Int32)) = (1 : Int32) then (m_uses_J32 t v1 v2 v2 (0 : Int32)) else (gd v2 16 (m_uses_J32 t v1 v2 v2 (gA t 2 (v2).toNatClampNeg))))
noncomputable def m_uses (t : St) (a1 : Int32) : Option (St) :=
  (lp (fun x => m_uses_B2 a1 x.1 x.2) ((0 : Int32), t)).bind (fun y7 => some y7)
set_option maxHeartbeats 4000000 in
set_option maxRecDepth 100000 in
theorem m_uses_L2 {p : Program} {l : Launch} {e : Env} {s : State} {m : MethodId} {args : Array Value} {below : List Frame} {meth : Method} {c : Code} {Q : State → Prop} {D : va_G} {cI cJ cZ : ClassId} {am : Nat → Nat} {A : Nat → Prop} (C0 : cx p s m args meth c cX12_uses RX12 3 none D (tyM cI cJ cZ) A) {v1 : Int32} {y : St} (hK0 : ∀ (H : Heap) (locs : List Loc) (ls : Array Slot), wl D A s (wM cI cJ cZ am y) H locs → lv_has ls 3 [(0, .ref (am 68))] → W p l e (rmN 0 0) s m args below meth c H locs 0 0 Q (F0 m 39 ls [])) :
    ∀ (n : Nat) (v2 : Int32) (t : St), lpn (fun x => m_uses_B2 v1 x.1 x.2) n (v2, t) = some y → ∀ (H : Heap) (locs : List Loc) (ls : Array Slot), wl D A s (wM cI cJ cZ am t) H locs → lv_has ls 3 [(0, .ref (am 68)), (1, .int v1), (2, .int v2)] → W p l e (rmN 0 0) s m args below meth c H locs 0 0 Q (F0 m 2 ls []) := by
  have hx := C0.1
  have hb := C0.2.1
  have hta := C0.2.2.2.2.2.1
  have hown := C0.2.2.2.2.1
  intro n
  induction n with
  | zero => intro _ _ h; cases h
  | succ n ih =>
    intro v2 t hrun H locs ls hW hl
    obtain ⟨o, ho, hrun⟩ := bd_some hrun
    have J32 : ∀ (t : St) (v2 : Int32) (w1 : Int32) (w2 : Int32) (_ : m_uses_J32 t v1 v2 w1 w2 = some o) (H : Heap) (locs : List Loc) (ls : Array Slot), wl D A s (wM cI cJ cZ am t) H locs → lv_has ls 3 [(0, .ref (am 68)), (1, .int v1), (2, .int v2)] → W p l e (rmN 0 0) s m args below meth c H locs 0 0 Q (F0 m 32 ls [.int w2, .int w1, .ref (am 43)]) := by
      intro t v2 w1 w2 ho H locs ls hW hl
      unfold m_uses_J32 at ho
      obtain ⟨g1, ho⟩ := gd_some ho
      refine mST_43 C0 hW g1 dX12_uses_32 (fun H locs hW => ?_)
      obtain ⟨t2, ho, hW⟩ := nm_w (P := fun t => wl D A s (wM cI cJ cZ am t) H locs) ho hW
      obtain ⟨x3, ex3, ho⟩ := nm_x ho
      refine lv_iinc (v := x3) (lv' := [(2, .int x3), (0, .ref (am 68)), (1, .int v1)]) hx hb dX12_uses_33 hl (k := 2) rfl (by rw [ex3]; rfl) (by decide) rfl (fun ls hl => ?_)
      clear ex3
      refine lv_goto (tgt := 2) hx hb dX12_uses_36 (by decide) ?_
      cases ho
      exact ih _ _ hrun _ _ _ hW (lv_sub hl [1, 2, 0] rfl)
    unfold m_uses_B2 at ho
    refine lv_iload_n hx hb dX12_uses_2 rfl (lv_at hl 2 rfl) ?_
    refine lv_bipush (v := (16 : Int32)) hx hb dX12_uses_3 (by decide) ?_
    refine lv_icmp_ge (tgt := 39) hx hb dX12_uses_5 (by decide) (fun c4 => ?_) (fun c4 => ?_)
    · replace ho := ite_t c4 ho
      cases ho
      cases hrun
      exact hK0 _ _ _ hW (lv_sub hl [0] rfl)
    · replace ho := ite_f c4 ho
      refine lv_aload_n hx hb dX12_uses_8 rfl (lv_at hl 0 rfl) ?_
      refine mGET_43 C0 hW dX12_uses_9 ?_
      refine lv_iload_n hx hb dX12_uses_12 rfl (lv_at hl 2 rfl) ?_
      refine lv_iload_n hx hb dX12_uses_13 rfl (lv_at hl 1 rfl) ?_
      refine lv_iload_n hx hb dX12_uses_14 rfl (lv_at hl 2 rfl) ?_
      refine lv_ishr hx hb dX12_uses_15 ?_
      refine lv_iconst (v := (1 : Int32)) hx hb dX12_uses_16 (by decide) ?_
      refine lv_iand hx hb dX12_uses_17 ?_
      refine lv_iconst (v := (1 : Int32)) hx hb dX12_uses_18 (by decide) ?_
      refine lv_icmp_ne (tgt := 26) hx hb dX12_uses_19 (by decide) (fun c5 => ?_) (fun c5 => ?_)
      · replace ho := ite_f c5 ho
        refine lv_aload_n hx hb dX12_uses_26 rfl (lv_at hl 0 rfl) ?_
        refine mGET_2 C0 hW dX12_uses_27 ?_
        refine lv_iload_n hx hb dX12_uses_30 rfl (lv_at hl 2 rfl) ?_
        obtain ⟨g6, ho⟩ := gd_some ho
        refine mLD_2 C0 hW g6 dX12_uses_31 ?_
        exact J32 _ _ _ _ ho _ _ _ hW (lv_sub hl [0, 1, 2] rfl)
      · replace ho := ite_t c5 ho
        refine lv_iconst (v := (0 : Int32)) hx hb dX12_uses_22 (by decide) ?_
        refine lv_goto (tgt := 32) hx hb dX12_uses_23 (by decide) ?_
        exact J32 _ _ _ _ ho _ _ _ hW (lv_sub hl [0, 1, 2] rfl)
set_option maxHeartbeats 4000000 in
set_option maxRecDepth 100000 in
theorem c_m_uses (l : Launch) {D : va_G} {cI cJ cZ : ClassId} {am : Nat → Nat} (sz : Nat) (t : St) (a1 : Int32) {t' : St} (ho : m_uses t a1 = some t') : Met l yX12_uses (.code yX12_uses cX12_uses 3 none :: wsAll) (rmN 0 0) (va_Pc [.ref (am 68), .int a1] (prW D (tyM cI cJ cZ) (wM cI cJ cZ am t) sz)) (qV D (tyM cI cJ cZ) (wM cI cJ cZ am t') (va_A (wM cI cJ cZ am t) sz)) 0 0 (va_A (wM cI cJ cZ am t) sz) := by
  refine Met.ofW (cc := cX12_uses) (maxL := 3) (ret := none) (by decide) rfl ?_
  intro p e s m args below meth c s₁ B hml hv
  obtain ⟨rfl, hsz, hP, hK, hD0⟩ := hv
  have hx := B.exec
  have hb := B.bytes
  have hts := atoms_spec (ws := (.code yX12_uses cX12_uses 3 none :: wsAll)) B.pre
  have hta := fun w h => hts w (List.mem_cons_of_mem _ h)
  have hown : s.vm.findClass RX12 = some m.cls := findClass_of_methodNamed B.named
  have hlocks := B.notSynchronized
  subst hsz
  have hD := hD0.self (sz := s.heap.size)
  generalize hAe : va_A (wM cI cJ cZ am t) s.heap.size = A at hD ⊢
  have hA : ∀ q : Nat, s.heap.size ≤ q → A q := fun q h => by rw [← hAe]; exact Or.inr h
  have C0 : cx p s m ([.ref (am 68), .int a1].toArray) meth c cX12_uses RX12 3 none D (tyM cI cJ cZ) A := ⟨hx, hb, B.returns, hml, hown, hta, hlocks, hK, hA⟩
  have hW : wl D A s (wM cI cJ cZ am t) s.heap [] := ⟨hP, hD, va_S.rf⟩
  have hl := lv_entry [.ref (am 68), .int a1] (n := 3) (Nat.le_of_ble_eq_true rfl)
  rw [lg_entry_eq]
  generalize (lg_sl [.ref (am 68), .int a1] ++ List.replicate (3 - (lg_sl [.ref (am 68), .int a1]).length) Slot.unset).toArray = ls at hl ⊢
  have hl : lv_has ls 3 [(0, .ref (am 68)), (1, .int a1)] := hl
  unfold m_uses at ho
  refine lv_iconst (v := (0 : Int32)) hx hb dX12_uses_0 (by decide) ?_
  refine lv_istore_n (lv' := [(2, .int (0 : Int32)), (0, .ref (am 68)), (1, .int a1)]) hx hb dX12_uses_1 rfl hl (by decide) rfl (fun ls hl => ?_)
  obtain ⟨y7, hc9, ho⟩ := bd_some ho
  obtain ⟨ny7, hc9⟩ := lp_to hc9
  refine m_uses_L2 C0 ?_ ny7 _ _ hc9 _ _ _ hW (lv_sub hl [1, 2, 0] rfl)
  intro H locs ls hW hl
  cases ho
  exact rtV C0 hW dX12_uses_39
noncomputable def m_brings_B9 (v1 : Int32) (v2 : Int32) (v4 : Int32) (t : St) : Option ((Int32 × St) ⊕ (St)) :=
  gd v2 12002 (if (gA t 39 (v2).toNatClampNeg) ≤ v4 then (some (.inr t)) else ((m_times t v1 (1000 : Int32)).bind (fun q3 => nm (v4 + (1 : Int32)) (fun x5 : Int32 => some (.inl (x5, q3))))))
noncomputable def m_brings (t : St) (a1 : Int32) (a2 : Int32) (a3 : Int32) : Option (St) :=
  (m_takes t a1 a2).bind (fun q6 => (lp (fun x => m_brings_B9 a1 a2 x.1 x.2) (a3, q6)).bind (fun y8 => some y8))
set_option maxHeartbeats 4000000 in
set_option maxRecDepth 100000 in
theorem m_brings_L9 {p : Program} {l : Launch} {e : Env} {s : State} {m : MethodId} {args : Array Value} {below : List Frame} {meth : Method} {c : Code} {Q : State → Prop} {D : va_G} {cI cJ cZ : ClassId} {am : Nat → Nat} {A : Nat → Prop} (C0 : cx p s m args meth c cX12_brings RX12 5 none D (tyM cI cJ cZ) A) {v1 : Int32} {v2 : Int32} {y : St} (hK0 : ∀ (H : Heap) (locs : List Loc) (ls : Array Slot), wl D A s (wM cI cJ cZ am y) H locs → lv_has ls 5 [(0, .ref (am 68))] → W p l e (rmN 1 27) s m args below meth c H locs 0 0 Q (F0 m 34 ls [])) :
    ∀ (n : Nat) (v4 : Int32) (t : St), lpn (fun x => m_brings_B9 v1 v2 x.1 x.2) n (v4, t) = some y → ∀ (H : Heap) (locs : List Loc) (ls : Array Slot), wl D A s (wM cI cJ cZ am t) H locs → lv_has ls 5 [(0, .ref (am 68)), (1, .int v1), (2, .int v2), (4, .int v4)] → W p l e (rmN 1 27) s m args below meth c H locs 0 0 Q (F0 m 9 ls []) := by
  have hx := C0.1
  have hb := C0.2.1
  have hta := C0.2.2.2.2.2.1
  have hown := C0.2.2.2.2.1
  intro n
  induction n with
  | zero => intro _ _ h; cases h
  | succ n ih =>
    intro v4 t hrun H locs ls hW hl
    obtain ⟨o, ho, hrun⟩ := bd_some hrun
    unfold m_brings_B9 at ho
    refine lv_iload hx hb dX12_brings_9 (lv_at hl 3 rfl) ?_
    refine lv_aload_n hx hb dX12_brings_11 rfl (lv_at hl 0 rfl) ?_
    refine mGET_39 C0 hW dX12_brings_12 ?_
    refine lv_iload_n hx hb dX12_brings_15 rfl (lv_at hl 2 rfl) ?_
    obtain ⟨g1, ho⟩ := gd_some ho
    refine mLD_39 C0 hW g1 dX12_brings_16 ?_
    refine lv_icmp_ge (tgt := 34) hx hb dX12_brings_17 (by decide) (fun c2 => ?_) (fun c2 => ?_)
    · replace ho := ite_t c2 ho
      cases ho
      cases hrun
      exact hK0 _ _ _ hW (lv_sub hl [0] rfl)
    · replace ho := ite_f c2 ho
      refine lv_aload_n hx hb dX12_brings_20 rfl (lv_at hl 0 rfl) ?_
      refine lv_iload_n hx hb dX12_brings_21 rfl (lv_at hl 1 rfl) ?_
      refine lv_sipush (v := (1000 : Int32)) hx hb dX12_brings_22 (by decide) ?_
      obtain ⟨q3, hc4, ho⟩ := bd_some ho
      refine bkV C0 hW (runV (As := [.int v1, .int (1000 : Int32)]) (rest := []) C0 hW (c_m_times l _ t v1 (1000 : Int32) (t' := q3) hc4) ca_X12_times_336 0 12 rfl rfl rfl rfl rfl ⟨rfl, rfl⟩ ⟨Nat.le_of_ble_eq_true rfl, Nat.le_of_ble_eq_true rfl⟩ (Nat.le_of_ble_eq_true rfl) hl.1 dX12_brings_25 ⟨Nat.le_of_ble_eq_true rfl, Nat.le_of_ble_eq_true rfl⟩) (fun H locs hW => ?_)
      obtain ⟨x5, ex5, ho⟩ := nm_x ho
      refine lv_iinc (v := x5) (lv' := [(4, .int x5), (0, .ref (am 68)), (1, .int v1), (2, .int v2)]) hx hb dX12_brings_28 hl (k := 3) rfl (by rw [ex5]; rfl) (by decide) rfl (fun ls hl => ?_)
      clear ex5
      refine lv_goto (tgt := 9) hx hb dX12_brings_31 (by decide) ?_
      cases ho
      exact ih _ _ hrun _ _ _ hW (lv_sub hl [1, 2, 3, 0] rfl)
set_option maxHeartbeats 4000000 in
set_option maxRecDepth 100000 in
theorem c_m_brings (l : Launch) {D : va_G} {cI cJ cZ : ClassId} {am : Nat → Nat} (sz : Nat) (t : St) (a1 : Int32) (a2 : Int32) (a3 : Int32) {t' : St} (ho : m_brings t a1 a2 a3 = some t') : Met l yX12_brings (.code yX12_brings cX12_brings 5 none :: wsAll) (rmN 1 27) (va_Pc [.ref (am 68), .int a1, .int a2, .int a3] (prW D (tyM cI cJ cZ) (wM cI cJ cZ am t) sz)) (qV D (tyM cI cJ cZ) (wM cI cJ cZ am t') (va_A (wM cI cJ cZ am t) sz)) 0 0 (va_A (wM cI cJ cZ am t) sz) := by
  refine Met.ofW (cc := cX12_brings) (maxL := 5) (ret := none) (by decide) rfl ?_
  intro p e s m args below meth c s₁ B hml hv
  obtain ⟨rfl, hsz, hP, hK, hD0⟩ := hv
  have hx := B.exec
  have hb := B.bytes
  have hts := atoms_spec (ws := (.code yX12_brings cX12_brings 5 none :: wsAll)) B.pre
  have hta := fun w h => hts w (List.mem_cons_of_mem _ h)
  have hown : s.vm.findClass RX12 = some m.cls := findClass_of_methodNamed B.named
  have hlocks := B.notSynchronized
  subst hsz
  have hD := hD0.self (sz := s.heap.size)
  generalize hAe : va_A (wM cI cJ cZ am t) s.heap.size = A at hD ⊢
  have hA : ∀ q : Nat, s.heap.size ≤ q → A q := fun q h => by rw [← hAe]; exact Or.inr h
  have C0 : cx p s m ([.ref (am 68), .int a1, .int a2, .int a3].toArray) meth c cX12_brings RX12 5 none D (tyM cI cJ cZ) A := ⟨hx, hb, B.returns, hml, hown, hta, hlocks, hK, hA⟩
  have hW : wl D A s (wM cI cJ cZ am t) s.heap [] := ⟨hP, hD, va_S.rf⟩
  have hl := lv_entry [.ref (am 68), .int a1, .int a2, .int a3] (n := 5) (Nat.le_of_ble_eq_true rfl)
  rw [lg_entry_eq]
  generalize (lg_sl [.ref (am 68), .int a1, .int a2, .int a3] ++ List.replicate (5 - (lg_sl [.ref (am 68), .int a1, .int a2, .int a3]).length) Slot.unset).toArray = ls at hl ⊢
  have hl : lv_has ls 5 [(0, .ref (am 68)), (1, .int a1), (2, .int a2), (3, .int a3)] := hl
  unfold m_brings at ho
  refine lv_aload_n hx hb dX12_brings_0 rfl (lv_at hl 0 rfl) ?_
  refine lv_iload_n hx hb dX12_brings_1 rfl (lv_at hl 1 rfl) ?_
  refine lv_iload_n hx hb dX12_brings_2 rfl (lv_at hl 2 rfl) ?_
  obtain ⟨q6, hc7, ho⟩ := bd_some ho
  refine bkV C0 hW (runV (As := [.int a1, .int a2]) (rest := []) C0 hW (c_m_takes l _ t a1 a2 (t' := q6) hc7) ca_X12_takes_333 0 12 rfl rfl rfl rfl rfl ⟨rfl, rfl⟩ ⟨Nat.le_of_ble_eq_true rfl, Nat.le_of_ble_eq_true rfl⟩ (Nat.le_of_ble_eq_true rfl) hl.1 dX12_brings_3 ⟨Nat.le_of_ble_eq_true rfl, Nat.le_of_ble_eq_true rfl⟩) (fun H locs hW => ?_)
  refine lv_iload_n hx hb dX12_brings_6 rfl (lv_at hl 3 rfl) ?_
  refine lv_istore (lv' := [(4, .int a3), (0, .ref (am 68)), (1, .int a1), (2, .int a2), (3, .int a3)]) hx hb dX12_brings_7 hl (by decide) rfl (fun ls hl => ?_)
  obtain ⟨y8, hc10, ho⟩ := bd_some ho
  obtain ⟨ny8, hc10⟩ := lp_to hc10
  refine m_brings_L9 C0 ?_ ny8 _ _ hc10 _ _ _ hW (lv_sub hl [1, 2, 3, 0] rfl)
  intro H locs ls hW hl
  cases ho
  exact rtV C0 hW dX12_brings_34
noncomputable def m_chances_B14 (v1 : Int32) (v2 : Int32) (t : St) : Option ((Int32 × St) ⊕ (St)) :=
  if (gI t 36) ≤ v2 then (some (.inr t)) else (gd v2 12002 (nm (gA t 39 (v2).toNatClampNeg) (fun x3 : Int32 => gd v2 12002 ((m_brings t v2 (gA t 40 (v2).toNatClampNeg) (x3 + (1 : Int32))).bind (fun q5 => gd x3 16 ((m_times q5 v2 ((1000 : Int32) - (gA q5 43 (x3).toNatClampNeg))).bind (fun q8 => gd v2 12002 ((m_brings q8 (4502 : Int32) (gA q8 41 (v2).toNatClampNeg) (x3 + (1 : Int32))).bind (fun q11 => gd x3 16 ((m_times q11 (4502 : Int32) (gA q11 43 (x3).toNatClampNeg)).bind (fun q14 => (m_adds q14 v2 (4502 : Int32)).bind (fun q16 => nm (v2 + (1 : Int32)) (fun x18 : Int32 => some (.inl (x18, q16)))))))))))))))
noncomputable def m_chances (t : St) (a1 : Int32) : Option (St) :=
  (m_puts t (0 : Int32) (0 : Int32)).bind (fun q19 => (m_puts q19 (1 : Int32) (1 : Int32)).bind (fun q21 => (lp (fun x => m_chances_B14 a1 x.1 x.2) ((2 : Int32), q21)).bind (fun y23 => (m_brings y23 a1 (gI y23 37) (0 : Int32)).bind (fun q26 => some q26))))
set_option maxHeartbeats 4000000 in
set_option maxRecDepth 100000 in
theorem m_chances_L14 {p : Program} {l : Launch} {e : Env} {s : State} {m : MethodId} {args : Array Value} {below : List Frame} {meth : Method} {c : Code} {Q : State → Prop} {D : va_G} {cI cJ cZ : ClassId} {am : Nat → Nat} {A : Nat → Prop} (C0 : cx p s m args meth c cX12_chances RX12 4 none D (tyM cI cJ cZ) A) {v1 : Int32} {y : St} (hK0 : ∀ (H : Heap) (locs : List Loc) (ls : Array Slot), wl D A s (wM cI cJ cZ am y) H locs → lv_has ls 4 [(0, .ref (am 68)), (1, .int v1)] → W p l e (rmN 2 51) s m args below meth c H locs 0 0 Q (F0 m 101 ls [])) :
    ∀ (n : Nat) (v2 : Int32) (t : St), lpn (fun x => m_chances_B14 v1 x.1 x.2) n (v2, t) = some y → ∀ (H : Heap) (locs : List Loc) (ls : Array Slot), wl D A s (wM cI cJ cZ am t) H locs → lv_has ls 4 [(0, .ref (am 68)), (1, .int v1), (2, .int v2)] → W p l e (rmN 2 51) s m args below meth c H locs 0 0 Q (F0 m 14 ls []) := by
  have hx := C0.1
  have hb := C0.2.1
  have hta := C0.2.2.2.2.2.1
  have hown := C0.2.2.2.2.1
  intro n
  induction n with
  | zero => intro _ _ h; cases h
  | succ n ih =>
    intro v2 t hrun H locs ls hW hl
    obtain ⟨o, ho, hrun⟩ := bd_some hrun
    unfold m_chances_B14 at ho
    refine lv_iload_n hx hb dX12_chances_14 rfl (lv_at hl 2 rfl) ?_
    refine lv_aload_n hx hb dX12_chances_15 rfl (lv_at hl 0 rfl) ?_
    refine mGET_36 C0 hW dX12_chances_16 ?_
    refine lv_icmp_ge (tgt := 101) hx hb dX12_chances_19 (by decide) (fun c1 => ?_) (fun c1 => ?_)
    · replace ho := ite_t c1 ho
      cases ho
      cases hrun
      exact hK0 _ _ _ hW (lv_sub hl [0, 1] rfl)
    · replace ho := ite_f c1 ho
      refine lv_aload_n hx hb dX12_chances_22 rfl (lv_at hl 0 rfl) ?_
      refine mGET_39 C0 hW dX12_chances_23 ?_
      refine lv_iload_n hx hb dX12_chances_26 rfl (lv_at hl 2 rfl) ?_
      obtain ⟨g2, ho⟩ := gd_some ho
      refine mLD_39 C0 hW g2 dX12_chances_27 ?_
      refine lv_nmi ho (fun x3 ho => ?_)
      refine lv_istore_n (lv' := [(3, .int x3), (0, .ref (am 68)), (1, .int v1), (2, .int v2)]) hx hb dX12_chances_28 rfl hl (by decide) rfl (fun ls hl => ?_)
      refine lv_aload_n hx hb dX12_chances_29 rfl (lv_at hl 1 rfl) ?_
      refine lv_iload_n hx hb dX12_chances_30 rfl (lv_at hl 3 rfl) ?_
      refine lv_aload_n hx hb dX12_chances_31 rfl (lv_at hl 1 rfl) ?_
      refine mGET_40 C0 hW dX12_chances_32 ?_
      refine lv_iload_n hx hb dX12_chances_35 rfl (lv_at hl 3 rfl) ?_
      obtain ⟨g4, ho⟩ := gd_some ho
      refine mLD_40 C0 hW g4 dX12_chances_36 ?_
      refine lv_iload_n hx hb dX12_chances_37 rfl (lv_at hl 0 rfl) ?_
      refine lv_iconst (v := (1 : Int32)) hx hb dX12_chances_38 (by decide) ?_
      refine lv_iadd hx hb dX12_chances_39 ?_
      obtain ⟨q5, hc6, ho⟩ := bd_some ho
      refine bkV C0 hW (runV (As := [.int v2, .int (gA t 40 (v2).toNatClampNeg), .int (x3 + (1 : Int32))]) (rest := []) C0 hW (c_m_brings l _ t v2 (gA t 40 (v2).toNatClampNeg) (x3 + (1 : Int32)) (t' := q5) hc6) ca_X12_brings_366 0 12 rfl rfl rfl rfl rfl ⟨rfl, rfl⟩ ⟨Nat.le_of_ble_eq_true rfl, Nat.le_of_ble_eq_true rfl⟩ (Nat.le_of_ble_eq_true rfl) hl.1 dX12_chances_40 ⟨Nat.le_of_ble_eq_true rfl, Nat.le_of_ble_eq_true rfl⟩) (fun H locs hW => ?_)
      refine lv_aload_n hx hb dX12_chances_43 rfl (lv_at hl 1 rfl) ?_
      refine lv_iload_n hx hb dX12_chances_44 rfl (lv_at hl 3 rfl) ?_
      refine lv_sipush (v := (1000 : Int32)) hx hb dX12_chances_45 (by decide) ?_
      refine lv_aload_n hx hb dX12_chances_48 rfl (lv_at hl 1 rfl) ?_
      refine mGET_43 C0 hW dX12_chances_49 ?_
      refine lv_iload_n hx hb dX12_chances_52 rfl (lv_at hl 0 rfl) ?_
      obtain ⟨g7, ho⟩ := gd_some ho
      refine mLD_43 C0 hW g7 dX12_chances_53 ?_
      refine lv_isub hx hb dX12_chances_54 ?_
      obtain ⟨q8, hc9, ho⟩ := bd_some ho
      refine bkV C0 hW (runV (As := [.int v2, .int ((1000 : Int32) - (gA q5 43 (x3).toNatClampNeg))]) (rest := []) C0 hW (c_m_times l _ q5 v2 ((1000 : Int32) - (gA q5 43 (x3).toNatClampNeg)) (t' := q8) hc9) ca_X12_times_336 0 12 rfl rfl rfl rfl rfl ⟨rfl, rfl⟩ ⟨Nat.le_of_ble_eq_true rfl, Nat.le_of_ble_eq_true rfl⟩ (Nat.le_of_ble_eq_true rfl) hl.1 dX12_chances_55 ⟨Nat.le_of_ble_eq_true rfl, Nat.le_of_ble_eq_true rfl⟩) (fun H locs hW => ?_)
      refine lv_aload_n hx hb dX12_chances_58 rfl (lv_at hl 1 rfl) ?_
      refine lv_sipush (v := (4502 : Int32)) hx hb dX12_chances_59 (by decide) ?_
      refine lv_aload_n hx hb dX12_chances_62 rfl (lv_at hl 1 rfl) ?_
      refine mGET_41 C0 hW dX12_chances_63 ?_
      refine lv_iload_n hx hb dX12_chances_66 rfl (lv_at hl 3 rfl) ?_
      obtain ⟨g10, ho⟩ := gd_some ho
      refine mLD_41 C0 hW g10 dX12_chances_67 ?_
      refine lv_iload_n hx hb dX12_chances_68 rfl (lv_at hl 0 rfl) ?_
      refine lv_iconst (v := (1 : Int32)) hx hb dX12_chances_69 (by decide) ?_
      refine lv_iadd hx hb dX12_chances_70 ?_
      obtain ⟨q11, hc12, ho⟩ := bd_some ho
      refine bkV C0 hW (runV (As := [.int (4502 : Int32), .int (gA q8 41 (v2).toNatClampNeg), .int (x3 + (1 : Int32))]) (rest := []) C0 hW (c_m_brings l _ q8 (4502 : Int32) (gA q8 41 (v2).toNatClampNeg) (x3 + (1 : Int32)) (t' := q11) hc12) ca_X12_brings_366 0 12 rfl rfl rfl rfl rfl ⟨rfl, rfl⟩ ⟨Nat.le_of_ble_eq_true rfl, Nat.le_of_ble_eq_true rfl⟩ (Nat.le_of_ble_eq_true rfl) hl.1 dX12_chances_71 ⟨Nat.le_of_ble_eq_true rfl, Nat.le_of_ble_eq_true rfl⟩) (fun H locs hW => ?_)
      refine lv_aload_n hx hb dX12_chances_74 rfl (lv_at hl 1 rfl) ?_
      refine lv_sipush (v := (4502 : Int32)) hx hb dX12_chances_75 (by decide) ?_
      refine lv_aload_n hx hb dX12_chances_78 rfl (lv_at hl 1 rfl) ?_
      refine mGET_43 C0 hW dX12_chances_79 ?_
      refine lv_iload_n hx hb dX12_chances_82 rfl (lv_at hl 0 rfl) ?_
      obtain ⟨g13, ho⟩ := gd_some ho
      refine mLD_43 C0 hW g13 dX12_chances_83 ?_
      obtain ⟨q14, hc15, ho⟩ := bd_some ho
      refine bkV C0 hW (runV (As := [.int (4502 : Int32), .int (gA q11 43 (x3).toNatClampNeg)]) (rest := []) C0 hW (c_m_times l _ q11 (4502 : Int32) (gA q11 43 (x3).toNatClampNeg) (t' := q14) hc15) ca_X12_times_336 0 12 rfl rfl rfl rfl rfl ⟨rfl, rfl⟩ ⟨Nat.le_of_ble_eq_true rfl, Nat.le_of_ble_eq_true rfl⟩ (Nat.le_of_ble_eq_true rfl) hl.1 dX12_chances_84 ⟨Nat.le_of_ble_eq_true rfl, Nat.le_of_ble_eq_true rfl⟩) (fun H locs hW => ?_)
      refine lv_aload_n hx hb dX12_chances_87 rfl (lv_at hl 1 rfl) ?_
      refine lv_iload_n hx hb dX12_chances_88 rfl (lv_at hl 3 rfl) ?_
      refine lv_sipush (v := (4502 : Int32)) hx hb dX12_chances_89 (by decide) ?_
      obtain ⟨q16, hc17, ho⟩ := bd_some ho
      refine bkV C0 hW (runV (As := [.int v2, .int (4502 : Int32)]) (rest := []) C0 hW (c_m_adds l _ q14 v2 (4502 : Int32) (t' := q16) hc17) ca_X12_adds_369 0 12 rfl rfl rfl rfl rfl ⟨rfl, rfl⟩ ⟨Nat.le_of_ble_eq_true rfl, Nat.le_of_ble_eq_true rfl⟩ (Nat.le_of_ble_eq_true rfl) hl.1 dX12_chances_92 ⟨Nat.le_of_ble_eq_true rfl, Nat.le_of_ble_eq_true rfl⟩) (fun H locs hW => ?_)
      obtain ⟨x18, ex18, ho⟩ := nm_x ho
      refine lv_iinc (v := x18) (lv' := [(2, .int x18), (3, .int x3), (0, .ref (am 68)), (1, .int v1)]) hx hb dX12_chances_95 hl (k := 3) rfl (by rw [ex18]; rfl) (by decide) rfl (fun ls hl => ?_)
      clear ex18
      refine lv_goto (tgt := 14) hx hb dX12_chances_98 (by decide) ?_
      cases ho
      exact ih _ _ hrun _ _ _ hW (lv_sub hl [2, 3, 0] rfl)
set_option maxHeartbeats 4000000 in
set_option maxRecDepth 100000 in
theorem c_m_chances (l : Launch) {D : va_G} {cI cJ cZ : ClassId} {am : Nat → Nat} (sz : Nat) (t : St) (a1 : Int32) {t' : St} (ho : m_chances t a1 = some t') : Met l yX12_chances (.code yX12_chances cX12_chances 4 none :: wsAll) (rmN 2 51) (va_Pc [.ref (am 68), .int a1] (prW D (tyM cI cJ cZ) (wM cI cJ cZ am t) sz)) (qV D (tyM cI cJ cZ) (wM cI cJ cZ am t') (va_A (wM cI cJ cZ am t) sz)) 0 0 (va_A (wM cI cJ cZ am t) sz) := by
  refine Met.ofW (cc := cX12_chances) (maxL := 4) (ret := none) (by decide) rfl ?_
  intro p e s m args below meth c s₁ B hml hv
  obtain ⟨rfl, hsz, hP, hK, hD0⟩ := hv
  have hx := B.exec
  have hb := B.bytes
  have hts := atoms_spec (ws := (.code yX12_chances cX12_chances 4 none :: wsAll)) B.pre
  have hta := fun w h => hts w (List.mem_cons_of_mem _ h)
  have hown : s.vm.findClass RX12 = some m.cls := findClass_of_methodNamed B.named
  have hlocks := B.notSynchronized
  subst hsz
  have hD := hD0.self (sz := s.heap.size)
  generalize hAe : va_A (wM cI cJ cZ am t) s.heap.size = A at hD ⊢
  have hA : ∀ q : Nat, s.heap.size ≤ q → A q := fun q h => by rw [← hAe]; exact Or.inr h
  have C0 : cx p s m ([.ref (am 68), .int a1].toArray) meth c cX12_chances RX12 4 none D (tyM cI cJ cZ) A := ⟨hx, hb, B.returns, hml, hown, hta, hlocks, hK, hA⟩
  have hW : wl D A s (wM cI cJ cZ am t) s.heap [] := ⟨hP, hD, va_S.rf⟩
  have hl := lv_entry [.ref (am 68), .int a1] (n := 4) (Nat.le_of_ble_eq_true rfl)
  rw [lg_entry_eq]
  generalize (lg_sl [.ref (am 68), .int a1] ++ List.replicate (4 - (lg_sl [.ref (am 68), .int a1]).length) Slot.unset).toArray = ls at hl ⊢
  have hl : lv_has ls 4 [(0, .ref (am 68)), (1, .int a1)] := hl
  unfold m_chances at ho
  refine lv_aload_n hx hb dX12_chances_0 rfl (lv_at hl 0 rfl) ?_
  refine lv_iconst (v := (0 : Int32)) hx hb dX12_chances_1 (by decide) ?_
  refine lv_iconst (v := (0 : Int32)) hx hb dX12_chances_2 (by decide) ?_
  obtain ⟨q19, hc20, ho⟩ := bd_some ho
  refine bkV C0 hW (runV (As := [.int (0 : Int32), .int (0 : Int32)]) (rest := []) C0 hW (c_m_puts l _ t (0 : Int32) (0 : Int32) (t' := q19) hc20) ca_X12_puts_175 0 12 rfl rfl rfl rfl rfl ⟨rfl, rfl⟩ ⟨Nat.le_of_ble_eq_true rfl, Nat.le_of_ble_eq_true rfl⟩ (Nat.le_of_ble_eq_true rfl) hl.1 dX12_chances_3 ⟨Nat.le_of_ble_eq_true rfl, Nat.le_of_ble_eq_true rfl⟩) (fun H locs hW => ?_)
  refine lv_aload_n hx hb dX12_chances_6 rfl (lv_at hl 0 rfl) ?_
  refine lv_iconst (v := (1 : Int32)) hx hb dX12_chances_7 (by decide) ?_
  refine lv_iconst (v := (1 : Int32)) hx hb dX12_chances_8 (by decide) ?_
  obtain ⟨q21, hc22, ho⟩ := bd_some ho
  refine bkV C0 hW (runV (As := [.int (1 : Int32), .int (1 : Int32)]) (rest := []) C0 hW (c_m_puts l _ q19 (1 : Int32) (1 : Int32) (t' := q21) hc22) ca_X12_puts_175 0 12 rfl rfl rfl rfl rfl ⟨rfl, rfl⟩ ⟨Nat.le_of_ble_eq_true rfl, Nat.le_of_ble_eq_true rfl⟩ (Nat.le_of_ble_eq_true rfl) hl.1 dX12_chances_9 ⟨Nat.le_of_ble_eq_true rfl, Nat.le_of_ble_eq_true rfl⟩) (fun H locs hW => ?_)
  refine lv_iconst (v := (2 : Int32)) hx hb dX12_chances_12 (by decide) ?_
  refine lv_istore_n (lv' := [(2, .int (2 : Int32)), (0, .ref (am 68)), (1, .int a1)]) hx hb dX12_chances_13 rfl hl (by decide) rfl (fun ls hl => ?_)
  obtain ⟨y23, hc25, ho⟩ := bd_some ho
  obtain ⟨ny23, hc25⟩ := lp_to hc25
  refine m_chances_L14 C0 ?_ ny23 _ _ hc25 _ _ _ hW (lv_sub hl [1, 2, 0] rfl)
  intro H locs ls hW hl
  refine lv_aload_n hx hb dX12_chances_101 rfl (lv_at hl 0 rfl) ?_
  refine lv_iload_n hx hb dX12_chances_102 rfl (lv_at hl 1 rfl) ?_
  refine lv_aload_n hx hb dX12_chances_103 rfl (lv_at hl 0 rfl) ?_
  refine mGET_37 C0 hW dX12_chances_104 ?_
  refine lv_iconst (v := (0 : Int32)) hx hb dX12_chances_107 (by decide) ?_
  obtain ⟨q26, hc27, ho⟩ := bd_some ho
  refine bkV C0 hW (runV (As := [.int a1, .int (gI y23 37), .int (0 : Int32)]) (rest := []) C0 hW (c_m_brings l _ y23 a1 (gI y23 37) (0 : Int32) (t' := q26) hc27) ca_X12_brings_366 0 12 rfl rfl rfl rfl rfl ⟨rfl, rfl⟩ ⟨Nat.le_of_ble_eq_true rfl, Nat.le_of_ble_eq_true rfl⟩ (Nat.le_of_ble_eq_true rfl) hl.1 dX12_chances_108 ⟨Nat.le_of_ble_eq_true rfl, Nat.le_of_ble_eq_true rfl⟩) (fun H locs hW => ?_)
  cases ho
  exact rtV C0 hW dX12_chances_111
noncomputable def m_wholes_B8 (v1 : Int32) (v2 : Int32) (v3 : Int32) (t : St) : Option ((Int32 × St) ⊕ (St)) :=
  if v2 ≤ v3 then (some (.inr t)) else ((m_times t v1 (1000 : Int32)).bind (fun q2 => nm (v3 + (1 : Int32)) (fun x4 : Int32 => some (.inl (x4, q2)))))
noncomputable def m_wholes (t : St) (a1 : Int32) (a2 : Int32) : Option (St) :=
  (m_puts t a1 (1 : Int32)).bind (fun q5 => (lp (fun x => m_wholes_B8 a1 a2 x.1 x.2) ((0 : Int32), q5)).bind (fun y7 => some y7))
set_option maxHeartbeats 4000000 in
set_option maxRecDepth 100000 in
theorem m_wholes_L8 {p : Program} {l : Launch} {e : Env} {s : State} {m : MethodId} {args : Array Value} {below : List Frame} {meth : Method} {c : Code} {Q : State → Prop} {D : va_G} {cI cJ cZ : ClassId} {am : Nat → Nat} {A : Nat → Prop} (C0 : cx p s m args meth c cX12_wholes RX12 4 none D (tyM cI cJ cZ) A) {v1 : Int32} {v2 : Int32} {y : St} (hK0 : ∀ (H : Heap) (locs : List Loc) (ls : Array Slot), wl D A s (wM cI cJ cZ am y) H locs → lv_has ls 4 [(0, .ref (am 68))] → W p l e (rmN 1 27) s m args below meth c H locs 0 0 Q (F0 m 27 ls [])) :
    ∀ (n : Nat) (v3 : Int32) (t : St), lpn (fun x => m_wholes_B8 v1 v2 x.1 x.2) n (v3, t) = some y → ∀ (H : Heap) (locs : List Loc) (ls : Array Slot), wl D A s (wM cI cJ cZ am t) H locs → lv_has ls 4 [(0, .ref (am 68)), (1, .int v1), (2, .int v2), (3, .int v3)] → W p l e (rmN 1 27) s m args below meth c H locs 0 0 Q (F0 m 8 ls []) := by
  have hx := C0.1
  have hb := C0.2.1
  have hta := C0.2.2.2.2.2.1
  have hown := C0.2.2.2.2.1
  intro n
  induction n with
  | zero => intro _ _ h; cases h
  | succ n ih =>
    intro v3 t hrun H locs ls hW hl
    obtain ⟨o, ho, hrun⟩ := bd_some hrun
    unfold m_wholes_B8 at ho
    refine lv_iload_n hx hb dX12_wholes_8 rfl (lv_at hl 3 rfl) ?_
    refine lv_iload_n hx hb dX12_wholes_9 rfl (lv_at hl 2 rfl) ?_
    refine lv_icmp_ge (tgt := 27) hx hb dX12_wholes_10 (by decide) (fun c1 => ?_) (fun c1 => ?_)
    · replace ho := ite_t c1 ho
      cases ho
      cases hrun
      exact hK0 _ _ _ hW (lv_sub hl [0] rfl)
    · replace ho := ite_f c1 ho
      refine lv_aload_n hx hb dX12_wholes_13 rfl (lv_at hl 0 rfl) ?_
      refine lv_iload_n hx hb dX12_wholes_14 rfl (lv_at hl 1 rfl) ?_
      refine lv_sipush (v := (1000 : Int32)) hx hb dX12_wholes_15 (by decide) ?_
      obtain ⟨q2, hc3, ho⟩ := bd_some ho
      refine bkV C0 hW (runV (As := [.int v1, .int (1000 : Int32)]) (rest := []) C0 hW (c_m_times l _ t v1 (1000 : Int32) (t' := q2) hc3) ca_X12_times_336 0 12 rfl rfl rfl rfl rfl ⟨rfl, rfl⟩ ⟨Nat.le_of_ble_eq_true rfl, Nat.le_of_ble_eq_true rfl⟩ (Nat.le_of_ble_eq_true rfl) hl.1 dX12_wholes_18 ⟨Nat.le_of_ble_eq_true rfl, Nat.le_of_ble_eq_true rfl⟩) (fun H locs hW => ?_)
      obtain ⟨x4, ex4, ho⟩ := nm_x ho
      refine lv_iinc (v := x4) (lv' := [(3, .int x4), (0, .ref (am 68)), (1, .int v1), (2, .int v2)]) hx hb dX12_wholes_21 hl (k := 3) rfl (by rw [ex4]; rfl) (by decide) rfl (fun ls hl => ?_)
      clear ex4
      refine lv_goto (tgt := 8) hx hb dX12_wholes_24 (by decide) ?_
      cases ho
      exact ih _ _ hrun _ _ _ hW (lv_sub hl [1, 2, 3, 0] rfl)
set_option maxHeartbeats 4000000 in
set_option maxRecDepth 100000 in
theorem c_m_wholes (l : Launch) {D : va_G} {cI cJ cZ : ClassId} {am : Nat → Nat} (sz : Nat) (t : St) (a1 : Int32) (a2 : Int32) {t' : St} (ho : m_wholes t a1 a2 = some t') : Met l yX12_wholes (.code yX12_wholes cX12_wholes 4 none :: wsAll) (rmN 1 27) (va_Pc [.ref (am 68), .int a1, .int a2] (prW D (tyM cI cJ cZ) (wM cI cJ cZ am t) sz)) (qV D (tyM cI cJ cZ) (wM cI cJ cZ am t') (va_A (wM cI cJ cZ am t) sz)) 0 0 (va_A (wM cI cJ cZ am t) sz) := by
  refine Met.ofW (cc := cX12_wholes) (maxL := 4) (ret := none) (by decide) rfl ?_
  intro p e s m args below meth c s₁ B hml hv
  obtain ⟨rfl, hsz, hP, hK, hD0⟩ := hv
  have hx := B.exec
  have hb := B.bytes
  have hts := atoms_spec (ws := (.code yX12_wholes cX12_wholes 4 none :: wsAll)) B.pre
  have hta := fun w h => hts w (List.mem_cons_of_mem _ h)
  have hown : s.vm.findClass RX12 = some m.cls := findClass_of_methodNamed B.named
  have hlocks := B.notSynchronized
  subst hsz
  have hD := hD0.self (sz := s.heap.size)
  generalize hAe : va_A (wM cI cJ cZ am t) s.heap.size = A at hD ⊢
  have hA : ∀ q : Nat, s.heap.size ≤ q → A q := fun q h => by rw [← hAe]; exact Or.inr h
  have C0 : cx p s m ([.ref (am 68), .int a1, .int a2].toArray) meth c cX12_wholes RX12 4 none D (tyM cI cJ cZ) A := ⟨hx, hb, B.returns, hml, hown, hta, hlocks, hK, hA⟩
  have hW : wl D A s (wM cI cJ cZ am t) s.heap [] := ⟨hP, hD, va_S.rf⟩
  have hl := lv_entry [.ref (am 68), .int a1, .int a2] (n := 4) (Nat.le_of_ble_eq_true rfl)
  rw [lg_entry_eq]
  generalize (lg_sl [.ref (am 68), .int a1, .int a2] ++ List.replicate (4 - (lg_sl [.ref (am 68), .int a1, .int a2]).length) Slot.unset).toArray = ls at hl ⊢
  have hl : lv_has ls 4 [(0, .ref (am 68)), (1, .int a1), (2, .int a2)] := hl
  unfold m_wholes at ho
  refine lv_aload_n hx hb dX12_wholes_0 rfl (lv_at hl 0 rfl) ?_
  refine lv_iload_n hx hb dX12_wholes_1 rfl (lv_at hl 1 rfl) ?_
  refine lv_iconst (v := (1 : Int32)) hx hb dX12_wholes_2 (by decide) ?_
  obtain ⟨q5, hc6, ho⟩ := bd_some ho
  refine bkV C0 hW (runV (As := [.int a1, .int (1 : Int32)]) (rest := []) C0 hW (c_m_puts l _ t a1 (1 : Int32) (t' := q5) hc6) ca_X12_puts_175 0 12 rfl rfl rfl rfl rfl ⟨rfl, rfl⟩ ⟨Nat.le_of_ble_eq_true rfl, Nat.le_of_ble_eq_true rfl⟩ (Nat.le_of_ble_eq_true rfl) hl.1 dX12_wholes_3 ⟨Nat.le_of_ble_eq_true rfl, Nat.le_of_ble_eq_true rfl⟩) (fun H locs hW => ?_)
  refine lv_iconst (v := (0 : Int32)) hx hb dX12_wholes_6 (by decide) ?_
  refine lv_istore_n (lv' := [(3, .int (0 : Int32)), (0, .ref (am 68)), (1, .int a1), (2, .int a2)]) hx hb dX12_wholes_7 rfl hl (by decide) rfl (fun ls hl => ?_)
  obtain ⟨y7, hc9, ho⟩ := bd_some ho
  obtain ⟨ny7, hc9⟩ := lp_to hc9
  refine m_wholes_L8 C0 ?_ ny7 _ _ hc9 _ _ _ hW (lv_sub hl [1, 2, 3, 0] rfl)
  intro H locs ls hW hl
  cases ho
  exact rtV C0 hW dX12_wholes_27
noncomputable def m_whyChance (t : St) (a1 : Int32) (a2 : Int32) : Option (Int32 × St) :=
  (m_why t a1 a2).bind (fun q1 => if q1 = (1 : Int32) then (gd a1 10 ((m_diagrams t (gA t 16 (a1).toNatClampNeg)).bind (fun q5 => if ((gI q5 36) - (2 : Int32)) ≤ (400 : Int32) then (some ((1 : Int32), q5)) else (some ((-5 : Int32), q5))))) else (some (q1, t)))
set_option maxHeartbeats 4000000 in
set_option maxRecDepth 100000 in
theorem c_m_whyChance (l : Launch) {D : va_G} {cI cJ cZ : ClassId} {am : Nat → Nat} (sz : Nat) (t : St) (a1 : Int32) (a2 : Int32) {r : Int32} {t' : St} (ho : m_whyChance t a1 a2 = some (r, t')) : Met l yX12_whyChance (.code yX12_whyChance cX12_whyChance 4 (some .int) :: wsAll) (rmN 3 64) (va_Pc [.ref (am 68), .int a1, .int a2] (prW D (tyM cI cJ cZ) (wM cI cJ cZ am t) sz)) (qI r D (tyM cI cJ cZ) (wM cI cJ cZ am t') (va_A (wM cI cJ cZ am t) sz)) 0 0 (va_A (wM cI cJ cZ am t) sz) := by
  refine Met.ofW (cc := cX12_whyChance) (maxL := 4) (ret := (some .int)) (by decide) rfl ?_
  intro p e s m args below meth c s₁ B hml hv
  obtain ⟨rfl, hsz, hP, hK, hD0⟩ := hv
  have hx := B.exec
  have hb := B.bytes
  have hts := atoms_spec (ws := (.code yX12_whyChance cX12_whyChance 4 (some .int) :: wsAll)) B.pre
  have hta := fun w h => hts w (List.mem_cons_of_mem _ h)
  have hown : s.vm.findClass RX12 = some m.cls := findClass_of_methodNamed B.named
  have hlocks := B.notSynchronized
  subst hsz
  have hD := hD0.self (sz := s.heap.size)
  generalize hAe : va_A (wM cI cJ cZ am t) s.heap.size = A at hD ⊢
  have hA : ∀ q : Nat, s.heap.size ≤ q → A q := fun q h => by rw [← hAe]; exact Or.inr h
  have C0 : cx p s m ([.ref (am 68), .int a1, .int a2].toArray) meth c cX12_whyChance RX12 4 (some .int) D (tyM cI cJ cZ) A := ⟨hx, hb, B.returns, hml, hown, hta, hlocks, hK, hA⟩
  have hW : wl D A s (wM cI cJ cZ am t) s.heap [] := ⟨hP, hD, va_S.rf⟩
  have hl := lv_entry [.ref (am 68), .int a1, .int a2] (n := 4) (Nat.le_of_ble_eq_true rfl)
  rw [lg_entry_eq]
  generalize (lg_sl [.ref (am 68), .int a1, .int a2] ++ List.replicate (4 - (lg_sl [.ref (am 68), .int a1, .int a2]).length) Slot.unset).toArray = ls at hl ⊢
  have hl : lv_has ls 4 [(0, .ref (am 68)), (1, .int a1), (2, .int a2)] := hl
  unfold m_whyChance at ho
  refine lv_aload_n hx hb dX12_whyChance_0 rfl (lv_at hl 0 rfl) ?_
  refine lv_iload_n hx hb dX12_whyChance_1 rfl (lv_at hl 1 rfl) ?_
  refine lv_iload_n hx hb dX12_whyChance_2 rfl (lv_at hl 2 rfl) ?_
  obtain ⟨q1, hc2, ho⟩ := bd_some ho
  refine bkI C0 hW (runV (As := [.int a1, .int a2]) (rest := []) C0 hW (c_m_why l _ t a1 a2 (r := q1) hc2) ca_X12_why_271 0 12 rfl rfl rfl rfl rfl ⟨rfl, rfl⟩ ⟨Nat.le_of_ble_eq_true rfl, Nat.le_of_ble_eq_true rfl⟩ (Nat.le_of_ble_eq_true rfl) hl.1 dX12_whyChance_3 ⟨Nat.le_of_ble_eq_true rfl, Nat.le_of_ble_eq_true rfl⟩) (fun H locs hW => ?_)
  refine lv_istore_n (lv' := [(3, .int q1), (0, .ref (am 68)), (1, .int a1), (2, .int a2)]) hx hb dX12_whyChance_6 rfl hl (by decide) rfl (fun ls hl => ?_)
  refine lv_iload_n hx hb dX12_whyChance_7 rfl (lv_at hl 0 rfl) ?_
  refine lv_iconst (v := (1 : Int32)) hx hb dX12_whyChance_8 (by decide) ?_
  refine lv_icmp_eq (tgt := 14) hx hb dX12_whyChance_9 (by decide) (fun c3 => ?_) (fun c3 => ?_)
  · replace ho := ite_t c3 ho
    refine lv_aload_n hx hb dX12_whyChance_14 rfl (lv_at hl 1 rfl) ?_
    refine lv_aload_n hx hb dX12_whyChance_15 rfl (lv_at hl 1 rfl) ?_
    refine mGET_16 C0 hW dX12_whyChance_16 ?_
    refine lv_iload_n hx hb dX12_whyChance_19 rfl (lv_at hl 2 rfl) ?_
    obtain ⟨g4, ho⟩ := gd_some ho
    refine mLD_16 C0 hW g4 dX12_whyChance_20 ?_
    obtain ⟨q5, hc6, ho⟩ := bd_some ho
    refine bkV C0 hW (runV (As := [.int (gA t 16 (a1).toNatClampNeg)]) (rest := []) C0 hW (c_m_diagrams l _ t (gA t 16 (a1).toNatClampNeg) (t' := q5) hc6) ca_X12_diagrams_363 0 12 rfl rfl rfl rfl rfl ⟨rfl, rfl⟩ ⟨Nat.le_of_ble_eq_true rfl, Nat.le_of_ble_eq_true rfl⟩ (Nat.le_of_ble_eq_true rfl) hl.1 dX12_whyChance_21 ⟨Nat.le_of_ble_eq_true rfl, Nat.le_of_ble_eq_true rfl⟩) (fun H locs hW => ?_)
    refine lv_aload_n hx hb dX12_whyChance_24 rfl (lv_at hl 1 rfl) ?_
    refine mGET_36 C0 hW dX12_whyChance_25 ?_
    refine lv_iconst (v := (2 : Int32)) hx hb dX12_whyChance_28 (by decide) ?_
    refine lv_isub hx hb dX12_whyChance_29 ?_
    refine lv_sipush (v := (400 : Int32)) hx hb dX12_whyChance_30 (by decide) ?_
    refine lv_icmp_le (tgt := 41) hx hb dX12_whyChance_33 (by decide) (fun c7 => ?_) (fun c7 => ?_)
    · replace ho := ite_t c7 ho
      refine lv_iconst (v := (1 : Int32)) hx hb dX12_whyChance_41 (by decide) ?_
      cases ho
      exact rtI C0 hW dX12_whyChance_42
    · replace ho := ite_f c7 ho
      refine lv_bipush (v := (-5 : Int32)) hx hb dX12_whyChance_36 (by decide) ?_
      refine lv_goto (tgt := 42) hx hb dX12_whyChance_38 (by decide) ?_
      cases ho
      exact rtI C0 hW dX12_whyChance_42
  · replace ho := ite_f c3 ho
    refine lv_iload_n hx hb dX12_whyChance_12 rfl (lv_at hl 0 rfl) ?_
    cases ho
    exact rtI C0 hW dX12_whyChance_13
noncomputable def m_chance (t : St) (a1 : Int32) : Option (Int32 × St) :=
  (m_whyChance t a1 (1 : Int32)).bind (fun q1 => if q1.1 = (1 : Int32) then ((m_uses q1.2 (0 : Int32)).bind (fun q4 => (m_chances q4 (4507 : Int32)).bind (fun q6 => (m_wholes q6 (4505 : Int32) (16 : Int32)).bind (fun q8 => (m_tells q8 (4507 : Int32) (4505 : Int32)).bind (fun q10 => some ((1 : Int32), q10)))))) else (some (q1.1, q1.2)))
set_option maxHeartbeats 4000000 in
set_option maxRecDepth 100000 in
theorem c_m_chance (l : Launch) {D : va_G} {cI cJ cZ : ClassId} {am : Nat → Nat} (sz : Nat) (t : St) (a1 : Int32) {r : Int32} {t' : St} (ho : m_chance t a1 = some (r, t')) : Met l yX12_chance (.code yX12_chance cX12_chance 3 (some .int) :: wsAll) (rmN 4 87) (va_Pc [.ref (am 68), .int a1] (prW D (tyM cI cJ cZ) (wM cI cJ cZ am t) sz)) (qI r D (tyM cI cJ cZ) (wM cI cJ cZ am t') (va_A (wM cI cJ cZ am t) sz)) 0 0 (va_A (wM cI cJ cZ am t) sz) := by
  refine Met.ofW (cc := cX12_chance) (maxL := 3) (ret := (some .int)) (by decide) rfl ?_
  intro p e s m args below meth c s₁ B hml hv
  obtain ⟨rfl, hsz, hP, hK, hD0⟩ := hv
  have hx := B.exec
  have hb := B.bytes
  have hts := atoms_spec (ws := (.code yX12_chance cX12_chance 3 (some .int) :: wsAll)) B.pre
  have hta := fun w h => hts w (List.mem_cons_of_mem _ h)
  have hown : s.vm.findClass RX12 = some m.cls := findClass_of_methodNamed B.named
  have hlocks := B.notSynchronized
  subst hsz
  have hD := hD0.self (sz := s.heap.size)
  generalize hAe : va_A (wM cI cJ cZ am t) s.heap.size = A at hD ⊢
  have hA : ∀ q : Nat, s.heap.size ≤ q → A q := fun q h => by rw [← hAe]; exact Or.inr h
  have C0 : cx p s m ([.ref (am 68), .int a1].toArray) meth c cX12_chance RX12 3 (some .int) D (tyM cI cJ cZ) A := ⟨hx, hb, B.returns, hml, hown, hta, hlocks, hK, hA⟩
  have hW : wl D A s (wM cI cJ cZ am t) s.heap [] := ⟨hP, hD, va_S.rf⟩
  have hl := lv_entry [.ref (am 68), .int a1] (n := 3) (Nat.le_of_ble_eq_true rfl)
  rw [lg_entry_eq]
  generalize (lg_sl [.ref (am 68), .int a1] ++ List.replicate (3 - (lg_sl [.ref (am 68), .int a1]).length) Slot.unset).toArray = ls at hl ⊢
  have hl : lv_has ls 3 [(0, .ref (am 68)), (1, .int a1)] := hl
  unfold m_chance at ho
  refine lv_aload_n hx hb dX12_chance_0 rfl (lv_at hl 0 rfl) ?_
  refine lv_iload_n hx hb dX12_chance_1 rfl (lv_at hl 1 rfl) ?_
  refine lv_iconst (v := (1 : Int32)) hx hb dX12_chance_2 (by decide) ?_
  obtain ⟨q1, hc2, ho⟩ := bd_some ho
  refine bkI C0 hW (runV (As := [.int a1, .int (1 : Int32)]) (rest := []) C0 hW (c_m_whyChance l _ t a1 (1 : Int32) (r := q1.1) (t' := q1.2) hc2) ca_X12_whyChance_372 0 12 rfl rfl rfl rfl rfl ⟨rfl, rfl⟩ ⟨Nat.le_of_ble_eq_true rfl, Nat.le_of_ble_eq_true rfl⟩ (Nat.le_of_ble_eq_true rfl) hl.1 dX12_chance_3 ⟨Nat.le_of_ble_eq_true rfl, Nat.le_of_ble_eq_true rfl⟩) (fun H locs hW => ?_)
  refine lv_istore_n (lv' := [(2, .int q1.1), (0, .ref (am 68)), (1, .int a1)]) hx hb dX12_chance_6 rfl hl (by decide) rfl (fun ls hl => ?_)
  refine lv_iload_n hx hb dX12_chance_7 rfl (lv_at hl 0 rfl) ?_
  refine lv_iconst (v := (1 : Int32)) hx hb dX12_chance_8 (by decide) ?_
  refine lv_icmp_eq (tgt := 14) hx hb dX12_chance_9 (by decide) (fun c3 => ?_) (fun c3 => ?_)
  · replace ho := ite_t c3 ho
    refine lv_aload_n hx hb dX12_chance_14 rfl (lv_at hl 1 rfl) ?_
    refine lv_iconst (v := (0 : Int32)) hx hb dX12_chance_15 (by decide) ?_
    obtain ⟨q4, hc5, ho⟩ := bd_some ho
    refine bkV C0 hW (runV (As := [.int (0 : Int32)]) (rest := []) C0 hW (c_m_uses l _ q1.2 (0 : Int32) (t' := q4) hc5) ca_X12_uses_375 0 12 rfl rfl rfl rfl rfl ⟨rfl, rfl⟩ ⟨Nat.le_of_ble_eq_true rfl, Nat.le_of_ble_eq_true rfl⟩ (Nat.le_of_ble_eq_true rfl) hl.1 dX12_chance_16 ⟨Nat.le_of_ble_eq_true rfl, Nat.le_of_ble_eq_true rfl⟩) (fun H locs hW => ?_)
    refine lv_aload_n hx hb dX12_chance_19 rfl (lv_at hl 1 rfl) ?_
    refine lv_sipush (v := (4507 : Int32)) hx hb dX12_chance_20 (by decide) ?_
    obtain ⟨q6, hc7, ho⟩ := bd_some ho
    refine bkV C0 hW (runV (As := [.int (4507 : Int32)]) (rest := []) C0 hW (c_m_chances l _ q4 (4507 : Int32) (t' := q6) hc7) ca_X12_chances_378 0 12 rfl rfl rfl rfl rfl ⟨rfl, rfl⟩ ⟨Nat.le_of_ble_eq_true rfl, Nat.le_of_ble_eq_true rfl⟩ (Nat.le_of_ble_eq_true rfl) hl.1 dX12_chance_23 ⟨Nat.le_of_ble_eq_true rfl, Nat.le_of_ble_eq_true rfl⟩) (fun H locs hW => ?_)
    refine lv_aload_n hx hb dX12_chance_26 rfl (lv_at hl 1 rfl) ?_
    refine lv_sipush (v := (4505 : Int32)) hx hb dX12_chance_27 (by decide) ?_
    refine lv_bipush (v := (16 : Int32)) hx hb dX12_chance_30 (by decide) ?_
    obtain ⟨q8, hc9, ho⟩ := bd_some ho
    refine bkV C0 hW (runV (As := [.int (4505 : Int32), .int (16 : Int32)]) (rest := []) C0 hW (c_m_wholes l _ q6 (4505 : Int32) (16 : Int32) (t' := q8) hc9) ca_X12_wholes_381 0 12 rfl rfl rfl rfl rfl ⟨rfl, rfl⟩ ⟨Nat.le_of_ble_eq_true rfl, Nat.le_of_ble_eq_true rfl⟩ (Nat.le_of_ble_eq_true rfl) hl.1 dX12_chance_32 ⟨Nat.le_of_ble_eq_true rfl, Nat.le_of_ble_eq_true rfl⟩) (fun H locs hW => ?_)
    refine lv_aload_n hx hb dX12_chance_35 rfl (lv_at hl 1 rfl) ?_
    refine lv_sipush (v := (4507 : Int32)) hx hb dX12_chance_36 (by decide) ?_
    refine lv_sipush (v := (4505 : Int32)) hx hb dX12_chance_39 (by decide) ?_
    obtain ⟨q10, hc11, ho⟩ := bd_some ho
    refine bkV C0 hW (runV (As := [.int (4507 : Int32), .int (4505 : Int32)]) (rest := []) C0 hW (c_m_tells l _ q8 (4507 : Int32) (4505 : Int32) (t' := q10) hc11) ca_X12_tells_384 0 12 rfl rfl rfl rfl rfl ⟨rfl, rfl⟩ ⟨Nat.le_of_ble_eq_true rfl, Nat.le_of_ble_eq_true rfl⟩ (Nat.le_of_ble_eq_true rfl) hl.1 dX12_chance_42 ⟨Nat.le_of_ble_eq_true rfl, Nat.le_of_ble_eq_true rfl⟩) (fun H locs hW => ?_)
    refine lv_iconst (v := (1 : Int32)) hx hb dX12_chance_45 (by decide) ?_
    cases ho
    exact rtI C0 hW dX12_chance_46
  · replace ho := ite_f c3 ho
    refine lv_iload_n hx hb dX12_chance_12 rfl (lv_at hl 0 rfl) ?_
    cases ho
    exact rtI C0 hW dX12_chance_13
noncomputable def m_weight (t : St) (a1 : Int32) (a2 : Int32) : Option (Int32 × St) :=
  (m_isStep t a2).bind (fun q1 => (m_whyChance t a1 q1).bind (fun q4 => if q4.1 = (1 : Int32) then ((m_uses q4.2 (0 : Int32)).bind (fun q7 => gd a2 16 (nm (sA q7 43 a2 (0 : Int32)) (fun t10 : St => (m_chances t10 (402 : Int32)).bind (fun q11 => gd a2 16 (nm (sA q11 43 a2 (1000 : Int32)) (fun t14 : St => (m_chances t14 (4507 : Int32)).bind (fun q15 => (m_lessens q15 (4507 : Int32) (402 : Int32)).bind (fun q17 => (m_wholes q17 (4505 : Int32) (16 : Int32)).bind (fun q19 => (m_tells q19 (4507 : Int32) (4505 : Int32)).bind (fun q21 => (m_isNothing q21 (4500 : Int32)).bind (fun q23 => if q23 = 0 then (some ((1 : Int32), q21)) else (some ((0 : Int32), q21)))))))))))))) else (some (q4.1, q4.2))))
set_option maxHeartbeats 4000000 in
set_option maxRecDepth 100000 in
theorem c_m_weight (l : Launch) {D : va_G} {cI cJ cZ : ClassId} {am : Nat → Nat} (sz : Nat) (t : St) (a1 : Int32) (a2 : Int32) {r : Int32} {t' : St} (ho : m_weight t a1 a2 = some (r, t')) : Met l yX12_weight (.code yX12_weight cX12_weight 4 (some .int) :: wsAll) (rmN 4 87) (va_Pc [.ref (am 68), .int a1, .int a2] (prW D (tyM cI cJ cZ) (wM cI cJ cZ am t) sz)) (qI r D (tyM cI cJ cZ) (wM cI cJ cZ am t') (va_A (wM cI cJ cZ am t) sz)) 0 0 (va_A (wM cI cJ cZ am t) sz) := by
  refine Met.ofW (cc := cX12_weight) (maxL := 4) (ret := (some .int)) (by decide) rfl ?_
  intro p e s m args below meth c s₁ B hml hv
  obtain ⟨rfl, hsz, hP, hK, hD0⟩ := hv
  have hx := B.exec
  have hb := B.bytes
  have hts := atoms_spec (ws := (.code yX12_weight cX12_weight 4 (some .int) :: wsAll)) B.pre
  have hta := fun w h => hts w (List.mem_cons_of_mem _ h)
  have hown : s.vm.findClass RX12 = some m.cls := findClass_of_methodNamed B.named
  have hlocks := B.notSynchronized
  subst hsz
  have hD := hD0.self (sz := s.heap.size)
  generalize hAe : va_A (wM cI cJ cZ am t) s.heap.size = A at hD ⊢
  have hA : ∀ q : Nat, s.heap.size ≤ q → A q := fun q h => by rw [← hAe]; exact Or.inr h
  have C0 : cx p s m ([.ref (am 68), .int a1, .int a2].toArray) meth c cX12_weight RX12 4 (some .int) D (tyM cI cJ cZ) A := ⟨hx, hb, B.returns, hml, hown, hta, hlocks, hK, hA⟩
  have hW : wl D A s (wM cI cJ cZ am t) s.heap [] := ⟨hP, hD, va_S.rf⟩
  have hl := lv_entry [.ref (am 68), .int a1, .int a2] (n := 4) (Nat.le_of_ble_eq_true rfl)
  rw [lg_entry_eq]
  generalize (lg_sl [.ref (am 68), .int a1, .int a2] ++ List.replicate (4 - (lg_sl [.ref (am 68), .int a1, .int a2]).length) Slot.unset).toArray = ls at hl ⊢
  have hl : lv_has ls 4 [(0, .ref (am 68)), (1, .int a1), (2, .int a2)] := hl
  unfold m_weight at ho
  refine lv_aload_n hx hb dX12_weight_0 rfl (lv_at hl 0 rfl) ?_
  refine lv_iload_n hx hb dX12_weight_1 rfl (lv_at hl 1 rfl) ?_
  refine lv_iload_n hx hb dX12_weight_2 rfl (lv_at hl 2 rfl) ?_
  obtain ⟨q1, hc2, ho⟩ := bd_some ho
  refine bkZ C0 hW (runS (As := [.int a2]) (rest := [.int a1, .ref (am 68)]) C0 hW (c_m_isStep l _ t a2 (r := q1) hc2) ca_X12_isStep_183 rfl rfl ⟨rfl, rfl⟩ ⟨Nat.le_of_ble_eq_true rfl, Nat.le_of_ble_eq_true rfl⟩ (Nat.le_of_ble_eq_true rfl) hl.1 dX12_weight_3 ⟨Nat.le_of_ble_eq_true rfl, Nat.le_of_ble_eq_true rfl⟩) (fun z3 H locs hW => ?_)
  obtain ⟨q4, hc5, ho⟩ := bd_some ho
  refine bkI C0 hW (runV (As := [.int a1, .int q1]) (rest := []) C0 hW (c_m_whyChance l _ t a1 q1 (r := q4.1) (t' := q4.2) hc5) ca_X12_whyChance_372 0 12 rfl rfl rfl rfl rfl ⟨rfl, rfl⟩ ⟨Nat.le_of_ble_eq_true rfl, Nat.le_of_ble_eq_true rfl⟩ (Nat.le_of_ble_eq_true rfl) hl.1 dX12_weight_6 ⟨Nat.le_of_ble_eq_true rfl, Nat.le_of_ble_eq_true rfl⟩) (fun H locs hW => ?_)
  refine lv_istore_n (lv' := [(3, .int q4.1), (0, .ref (am 68)), (1, .int a1), (2, .int a2)]) hx hb dX12_weight_9 rfl hl (by decide) rfl (fun ls hl => ?_)
  refine lv_iload_n hx hb dX12_weight_10 rfl (lv_at hl 0 rfl) ?_
  refine lv_iconst (v := (1 : Int32)) hx hb dX12_weight_11 (by decide) ?_
  refine lv_icmp_eq (tgt := 17) hx hb dX12_weight_12 (by decide) (fun c6 => ?_) (fun c6 => ?_)
  · replace ho := ite_t c6 ho
    refine lv_aload_n hx hb dX12_weight_17 rfl (lv_at hl 1 rfl) ?_
    refine lv_iconst (v := (0 : Int32)) hx hb dX12_weight_18 (by decide) ?_
    obtain ⟨q7, hc8, ho⟩ := bd_some ho
    refine bkV C0 hW (runV (As := [.int (0 : Int32)]) (rest := []) C0 hW (c_m_uses l _ q4.2 (0 : Int32) (t' := q7) hc8) ca_X12_uses_375 0 12 rfl rfl rfl rfl rfl ⟨rfl, rfl⟩ ⟨Nat.le_of_ble_eq_true rfl, Nat.le_of_ble_eq_true rfl⟩ (Nat.le_of_ble_eq_true rfl) hl.1 dX12_weight_19 ⟨Nat.le_of_ble_eq_true rfl, Nat.le_of_ble_eq_true rfl⟩) (fun H locs hW => ?_)
    refine lv_aload_n hx hb dX12_weight_22 rfl (lv_at hl 1 rfl) ?_
    refine mGET_43 C0 hW dX12_weight_23 ?_
    refine lv_iload_n hx hb dX12_weight_26 rfl (lv_at hl 3 rfl) ?_
    refine lv_iconst (v := (0 : Int32)) hx hb dX12_weight_27 (by decide) ?_
    obtain ⟨g9, ho⟩ := gd_some ho
    refine mST_43 C0 hW g9 dX12_weight_28 (fun H locs hW => ?_)
    obtain ⟨t10, ho, hW⟩ := nm_w (P := fun t => wl D A s (wM cI cJ cZ am t) H locs) ho hW
    refine lv_aload_n hx hb dX12_weight_29 rfl (lv_at hl 1 rfl) ?_
    refine lv_sipush (v := (402 : Int32)) hx hb dX12_weight_30 (by decide) ?_
    obtain ⟨q11, hc12, ho⟩ := bd_some ho
    refine bkV C0 hW (runV (As := [.int (402 : Int32)]) (rest := []) C0 hW (c_m_chances l _ t10 (402 : Int32) (t' := q11) hc12) ca_X12_chances_378 0 12 rfl rfl rfl rfl rfl ⟨rfl, rfl⟩ ⟨Nat.le_of_ble_eq_true rfl, Nat.le_of_ble_eq_true rfl⟩ (Nat.le_of_ble_eq_true rfl) hl.1 dX12_weight_33 ⟨Nat.le_of_ble_eq_true rfl, Nat.le_of_ble_eq_true rfl⟩) (fun H locs hW => ?_)
    refine lv_aload_n hx hb dX12_weight_36 rfl (lv_at hl 1 rfl) ?_
    refine mGET_43 C0 hW dX12_weight_37 ?_
    refine lv_iload_n hx hb dX12_weight_40 rfl (lv_at hl 3 rfl) ?_
    refine lv_sipush (v := (1000 : Int32)) hx hb dX12_weight_41 (by decide) ?_
    obtain ⟨g13, ho⟩ := gd_some ho
    refine mST_43 C0 hW g13 dX12_weight_44 (fun H locs hW => ?_)
    obtain ⟨t14, ho, hW⟩ := nm_w (P := fun t => wl D A s (wM cI cJ cZ am t) H locs) ho hW
    refine lv_aload_n hx hb dX12_weight_45 rfl (lv_at hl 1 rfl) ?_
    refine lv_sipush (v := (4507 : Int32)) hx hb dX12_weight_46 (by decide) ?_
    obtain ⟨q15, hc16, ho⟩ := bd_some ho
    refine bkV C0 hW (runV (As := [.int (4507 : Int32)]) (rest := []) C0 hW (c_m_chances l _ t14 (4507 : Int32) (t' := q15) hc16) ca_X12_chances_378 0 12 rfl rfl rfl rfl rfl ⟨rfl, rfl⟩ ⟨Nat.le_of_ble_eq_true rfl, Nat.le_of_ble_eq_true rfl⟩ (Nat.le_of_ble_eq_true rfl) hl.1 dX12_weight_49 ⟨Nat.le_of_ble_eq_true rfl, Nat.le_of_ble_eq_true rfl⟩) (fun H locs hW => ?_)
    refine lv_aload_n hx hb dX12_weight_52 rfl (lv_at hl 1 rfl) ?_
    refine lv_sipush (v := (4507 : Int32)) hx hb dX12_weight_53 (by decide) ?_
    refine lv_sipush (v := (402 : Int32)) hx hb dX12_weight_56 (by decide) ?_
    obtain ⟨q17, hc18, ho⟩ := bd_some ho
    refine bkV C0 hW (runV (As := [.int (4507 : Int32), .int (402 : Int32)]) (rest := []) C0 hW (c_m_lessens l _ q15 (4507 : Int32) (402 : Int32) (t' := q17) hc18) ca_X12_lessens_330 0 12 rfl rfl rfl rfl rfl ⟨rfl, rfl⟩ ⟨Nat.le_of_ble_eq_true rfl, Nat.le_of_ble_eq_true rfl⟩ (Nat.le_of_ble_eq_true rfl) hl.1 dX12_weight_59 ⟨Nat.le_of_ble_eq_true rfl, Nat.le_of_ble_eq_true rfl⟩) (fun H locs hW => ?_)
    refine lv_aload_n hx hb dX12_weight_62 rfl (lv_at hl 1 rfl) ?_
    refine lv_sipush (v := (4505 : Int32)) hx hb dX12_weight_63 (by decide) ?_
    refine lv_bipush (v := (16 : Int32)) hx hb dX12_weight_66 (by decide) ?_
    obtain ⟨q19, hc20, ho⟩ := bd_some ho
    refine bkV C0 hW (runV (As := [.int (4505 : Int32), .int (16 : Int32)]) (rest := []) C0 hW (c_m_wholes l _ q17 (4505 : Int32) (16 : Int32) (t' := q19) hc20) ca_X12_wholes_381 0 12 rfl rfl rfl rfl rfl ⟨rfl, rfl⟩ ⟨Nat.le_of_ble_eq_true rfl, Nat.le_of_ble_eq_true rfl⟩ (Nat.le_of_ble_eq_true rfl) hl.1 dX12_weight_68 ⟨Nat.le_of_ble_eq_true rfl, Nat.le_of_ble_eq_true rfl⟩) (fun H locs hW => ?_)
    refine lv_aload_n hx hb dX12_weight_71 rfl (lv_at hl 1 rfl) ?_
    refine lv_sipush (v := (4507 : Int32)) hx hb dX12_weight_72 (by decide) ?_
    refine lv_sipush (v := (4505 : Int32)) hx hb dX12_weight_75 (by decide) ?_
    obtain ⟨q21, hc22, ho⟩ := bd_some ho
    refine bkV C0 hW (runV (As := [.int (4507 : Int32), .int (4505 : Int32)]) (rest := []) C0 hW (c_m_tells l _ q19 (4507 : Int32) (4505 : Int32) (t' := q21) hc22) ca_X12_tells_384 0 12 rfl rfl rfl rfl rfl ⟨rfl, rfl⟩ ⟨Nat.le_of_ble_eq_true rfl, Nat.le_of_ble_eq_true rfl⟩ (Nat.le_of_ble_eq_true rfl) hl.1 dX12_weight_78 ⟨Nat.le_of_ble_eq_true rfl, Nat.le_of_ble_eq_true rfl⟩) (fun H locs hW => ?_)
    refine lv_aload_n hx hb dX12_weight_81 rfl (lv_at hl 1 rfl) ?_
    refine lv_sipush (v := (4500 : Int32)) hx hb dX12_weight_82 (by decide) ?_
    obtain ⟨q23, hc24, ho⟩ := bd_some ho
    refine bkZ C0 hW (runV (As := [.int (4500 : Int32)]) (rest := []) C0 hW (c_m_isNothing l _ q21 (4500 : Int32) (r := q23) hc24) ca_X12_isNothing_324 0 12 rfl rfl rfl rfl rfl ⟨rfl, rfl⟩ ⟨Nat.le_of_ble_eq_true rfl, Nat.le_of_ble_eq_true rfl⟩ (Nat.le_of_ble_eq_true rfl) hl.1 dX12_weight_85 ⟨Nat.le_of_ble_eq_true rfl, Nat.le_of_ble_eq_true rfl⟩) (fun z25 H locs hW => ?_)
    refine lv_if_eq (tgt := 95) hx hb dX12_weight_88 (by decide) (fun c26 => ?_) (fun c26 => ?_)
    · replace ho := ite_t c26 ho
      refine lv_iconst (v := (1 : Int32)) hx hb dX12_weight_95 (by decide) ?_
      cases ho
      exact rtI C0 hW dX12_weight_96
    · replace ho := ite_f c26 ho
      refine lv_iconst (v := (0 : Int32)) hx hb dX12_weight_91 (by decide) ?_
      refine lv_goto (tgt := 96) hx hb dX12_weight_92 (by decide) ?_
      cases ho
      exact rtI C0 hW dX12_weight_96
  · replace ho := ite_f c6 ho
    refine lv_iload_n hx hb dX12_weight_15 rfl (lv_at hl 0 rfl) ?_
    cases ho
    exact rtI C0 hW dX12_weight_16
noncomputable def m_spread_B5 (t : St) (v1 : Int32) (v2 : Int32) (v3 : Int32) (v4 : Int32) : Option ((Int32 × Int32) ⊕ (Int32)) :=
  if v2 ≤ v4 then (some (.inr v3)) else (if ((v1 >>> (v4 &&& 31)) &&& (1 : Int32)) = (1 : Int32) then (gd v4 16 (nm (v3 ||| ((1 : Int32) <<< ((gA t 44 (v4).toNatClampNeg) &&& 31))) (fun x6 : Int32 => nm (v4 + (1 : Int32)) (fun x7 : Int32 => some (.inl (x6, x7)))))) else (nm (v3 ||| (0 : Int32)) (fun x3 : Int32 => nm (v4 + (1 : Int32)) (fun x4 : Int32 => some (.inl (x3, x4))))))
noncomputable def m_spread (t : St) (a1 : Int32) (a2 : Int32) : Option (Int32) :=
  (lp (fun x => m_spread_B5 t a1 a2 x.1 x.2) ((0 : Int32), (0 : Int32))).bind (fun y8 => some y8)
set_option maxHeartbeats 4000000 in
set_option maxRecDepth 100000 in
theorem m_spread_L5 {p : Program} {l : Launch} {e : Env} {s : State} {m : MethodId} {args : Array Value} {below : List Frame} {meth : Method} {c : Code} {Q : State → Prop} {D : va_G} {cI cJ cZ : ClassId} {am : Nat → Nat} {A : Nat → Prop} (C0 : cx p s m args meth c cX12_spread RX12 5 (some .int) D (tyM cI cJ cZ) A) {t : St} {v1 : Int32} {v2 : Int32} {y : Int32} (hK0 : ∀ (H : Heap) (locs : List Loc) (ls : Array Slot), wl D A s (wM cI cJ cZ am t) H locs → lv_has ls 5 [(0, .ref (am 68)), (3, .int y)] → W p l e (rmN 0 0) s m args below meth c H locs 0 0 Q (F0 m 43 ls [])) :
    ∀ (n : Nat) (v3 : Int32) (v4 : Int32), lpn (fun x => m_spread_B5 t v1 v2 x.1 x.2) n (v3, v4) = some y → ∀ (H : Heap) (locs : List Loc) (ls : Array Slot), wl D A s (wM cI cJ cZ am t) H locs → lv_has ls 5 [(0, .ref (am 68)), (1, .int v1), (2, .int v2), (3, .int v3), (4, .int v4)] → W p l e (rmN 0 0) s m args below meth c H locs 0 0 Q (F0 m 5 ls []) := by
  have hx := C0.1
  have hb := C0.2.1
  have hta := C0.2.2.2.2.2.1
  have hown := C0.2.2.2.2.1
  intro n
  induction n with
  | zero => intro _ _ h; cases h
  | succ n ih =>
    intro v3 v4 hrun H locs ls hW hl
    obtain ⟨o, ho, hrun⟩ := bd_some hrun
    unfold m_spread_B5 at ho
    refine lv_iload hx hb dX12_spread_5 (lv_at hl 4 rfl) ?_
    refine lv_iload_n hx hb dX12_spread_7 rfl (lv_at hl 2 rfl) ?_
    refine lv_icmp_ge (tgt := 43) hx hb dX12_spread_8 (by decide) (fun c1 => ?_) (fun c1 => ?_)
    · replace ho := ite_t c1 ho
      cases ho
      cases hrun
      exact hK0 _ _ _ hW (lv_sub hl [0, 3] rfl)
    · replace ho := ite_f c1 ho
      refine lv_iload_n hx hb dX12_spread_11 rfl (lv_at hl 3 rfl) ?_
      refine lv_iload_n hx hb dX12_spread_12 rfl (lv_at hl 1 rfl) ?_
      refine lv_iload hx hb dX12_spread_13 (lv_at hl 4 rfl) ?_
      refine lv_ishr hx hb dX12_spread_15 ?_
      refine lv_iconst (v := (1 : Int32)) hx hb dX12_spread_16 (by decide) ?_
      refine lv_iand hx hb dX12_spread_17 ?_
      refine lv_iconst (v := (1 : Int32)) hx hb dX12_spread_18 (by decide) ?_
      refine lv_icmp_ne (tgt := 34) hx hb dX12_spread_19 (by decide) (fun c2 => ?_) (fun c2 => ?_)
      · replace ho := ite_f c2 ho
        refine lv_iconst (v := (0 : Int32)) hx hb dX12_spread_34 (by decide) ?_
        refine lv_ior hx hb dX12_spread_35 ?_
        refine lv_nmi ho (fun x3 ho => ?_)
        refine lv_istore_n (lv' := [(3, .int x3), (0, .ref (am 68)), (1, .int v1), (2, .int v2), (4, .int v4)]) hx hb dX12_spread_36 rfl hl (by decide) rfl (fun ls hl => ?_)
        obtain ⟨x4, ex4, ho⟩ := nm_x ho
        refine lv_iinc (v := x4) (lv' := [(4, .int x4), (3, .int x3), (0, .ref (am 68)), (1, .int v1), (2, .int v2)]) hx hb dX12_spread_37 hl (k := 4) rfl (by rw [ex4]; rfl) (by decide) rfl (fun ls hl => ?_)
        clear ex4
        refine lv_goto (tgt := 5) hx hb dX12_spread_40 (by decide) ?_
        cases ho
        exact ih _ _ hrun _ _ _ hW (lv_sub hl [2, 3, 4, 1, 0] rfl)
      · replace ho := ite_t c2 ho
        refine lv_iconst (v := (1 : Int32)) hx hb dX12_spread_22 (by decide) ?_
        refine lv_aload_n hx hb dX12_spread_23 rfl (lv_at hl 0 rfl) ?_
        refine mGET_44 C0 hW dX12_spread_24 ?_
        refine lv_iload hx hb dX12_spread_27 (lv_at hl 4 rfl) ?_
        obtain ⟨g5, ho⟩ := gd_some ho
        refine mLD_44 C0 hW g5 dX12_spread_29 ?_
        refine lv_ishl hx hb dX12_spread_30 ?_
        refine lv_goto (tgt := 35) hx hb dX12_spread_31 (by decide) ?_
        refine lv_ior hx hb dX12_spread_35 ?_
        refine lv_nmi ho (fun x6 ho => ?_)
        refine lv_istore_n (lv' := [(3, .int x6), (0, .ref (am 68)), (1, .int v1), (2, .int v2), (4, .int v4)]) hx hb dX12_spread_36 rfl hl (by decide) rfl (fun ls hl => ?_)
        obtain ⟨x7, ex7, ho⟩ := nm_x ho
        refine lv_iinc (v := x7) (lv' := [(4, .int x7), (3, .int x6), (0, .ref (am 68)), (1, .int v1), (2, .int v2)]) hx hb dX12_spread_37 hl (k := 4) rfl (by rw [ex7]; rfl) (by decide) rfl (fun ls hl => ?_)
        clear ex7
        refine lv_goto (tgt := 5) hx hb dX12_spread_40 (by decide) ?_
        cases ho
        exact ih _ _ hrun _ _ _ hW (lv_sub hl [2, 3, 4, 1, 0] rfl)
set_option maxHeartbeats 4000000 in
set_option maxRecDepth 100000 in
theorem c_m_spread (l : Launch) {D : va_G} {cI cJ cZ : ClassId} {am : Nat → Nat} (sz : Nat) (t : St) (a1 : Int32) (a2 : Int32) {r : Int32} (ho : m_spread t a1 a2 = some r) : Met l yX12_spread (.code yX12_spread cX12_spread 5 (some .int) :: wsAll) (rmN 0 0) (va_Pc [.ref (am 68), .int a1, .int a2] (prW D (tyM cI cJ cZ) (wM cI cJ cZ am t) sz)) (qI r D (tyM cI cJ cZ) (wM cI cJ cZ am t) (va_A (wM cI cJ cZ am t) sz)) 0 0 (va_A (wM cI cJ cZ am t) sz) := by
  refine Met.ofW (cc := cX12_spread) (maxL := 5) (ret := (some .int)) (by decide) rfl ?_
  intro p e s m args below meth c s₁ B hml hv
  obtain ⟨rfl, hsz, hP, hK, hD0⟩ := hv
  have hx := B.exec
  have hb := B.bytes
  have hts := atoms_spec (ws := (.code yX12_spread cX12_spread 5 (some .int) :: wsAll)) B.pre
  have hta := fun w h => hts w (List.mem_cons_of_mem _ h)
  have hown : s.vm.findClass RX12 = some m.cls := findClass_of_methodNamed B.named
  have hlocks := B.notSynchronized
  subst hsz
  have hD := hD0.self (sz := s.heap.size)
  generalize hAe : va_A (wM cI cJ cZ am t) s.heap.size = A at hD ⊢
  have hA : ∀ q : Nat, s.heap.size ≤ q → A q := fun q h => by rw [← hAe]; exact Or.inr h
  have C0 : cx p s m ([.ref (am 68), .int a1, .int a2].toArray) meth c cX12_spread RX12 5 (some .int) D (tyM cI cJ cZ) A := ⟨hx, hb, B.returns, hml, hown, hta, hlocks, hK, hA⟩
  have hW : wl D A s (wM cI cJ cZ am t) s.heap [] := ⟨hP, hD, va_S.rf⟩
  have hl := lv_entry [.ref (am 68), .int a1, .int a2] (n := 5) (Nat.le_of_ble_eq_true rfl)
  rw [lg_entry_eq]
  generalize (lg_sl [.ref (am 68), .int a1, .int a2] ++ List.replicate (5 - (lg_sl [.ref (am 68), .int a1, .int a2]).length) Slot.unset).toArray = ls at hl ⊢
  have hl : lv_has ls 5 [(0, .ref (am 68)), (1, .int a1), (2, .int a2)] := hl
  unfold m_spread at ho
  refine lv_iconst (v := (0 : Int32)) hx hb dX12_spread_0 (by decide) ?_
  refine lv_istore_n (lv' := [(3, .int (0 : Int32)), (0, .ref (am 68)), (1, .int a1), (2, .int a2)]) hx hb dX12_spread_1 rfl hl (by decide) rfl (fun ls hl => ?_)
  refine lv_iconst (v := (0 : Int32)) hx hb dX12_spread_2 (by decide) ?_
  refine lv_istore (lv' := [(4, .int (0 : Int32)), (3, .int (0 : Int32)), (0, .ref (am 68)), (1, .int a1), (2, .int a2)]) hx hb dX12_spread_3 hl (by decide) rfl (fun ls hl => ?_)
  obtain ⟨y8, hc10, ho⟩ := bd_some ho
  obtain ⟨ny8, hc10⟩ := lp_to hc10
  refine m_spread_L5 C0 ?_ ny8 _ _ hc10 _ _ _ hW (lv_sub hl [2, 3, 4, 1, 0] rfl)
  intro H locs ls hW hl
  refine lv_iload_n hx hb dX12_spread_43 rfl (lv_at hl 1 rfl) ?_
  cases ho
  exact rtI C0 hW dX12_spread_44
noncomputable def m_best_B294 (v2 : Int32) (v5 : Int32) (v6 : Int32) (v7 : Int32) (v9 : Int32) (t : St) : Option ((Int32 × St) ⊕ (St)) :=
  if v6 ≤ v9 then (some (.inr t)) else (if ((v9 >>> (v7 &&& 31)) &&& (1 : Int32)) = 0 then ((m_times t ((402 : Int32) + v9) (1000 : Int32)).bind (fun q4 => nm (v9 + (1 : Int32)) (fun x6 : Int32 => some (.inl (x6, q4))))) else (nm (v9 + (1 : Int32)) (fun x3 : Int32 => some (.inl (x3, t)))))
noncomputable def m_best_B78 (v1 : Int32) (v2 : Int32) (v5 : Int32) (v6 : Int32) (t : St) : Option ((Int32 × Int32 × St) ⊕ (Int32 × St)) :=
  if (16 : Int32) ≤ v6 then (some (.inr (v5, t))) else (gd v1 10 (gd (gA t 16 (v1).toNatClampNeg) 400 (if (((gA t 15 ((gA t 16 (v1).toNatClampNeg)).toNatClampNeg) >>> (v6 &&& 31)) &&& (1 : Int32)) = (1 : Int32) then (gd v5 16 (nm (sA t 44 v5 v6) (fun t13 : St => nm (v5 + (1 : Int32)) (fun x14 : Int32 => nm (v6 + (1 : Int32)) (fun x15 : Int32 => some (.inl (x14, x15, t13))))))) else (nm (v6 + (1 : Int32)) (fun x11 : Int32 => some (.inl (v5, x11, t)))))))
noncomputable def m_best_J172 (t : St) (v1 : Int32) (v2 : Int32) (v5 : Int32) (v6 : Int32) (v7 : Int32) (w1 : Int32) (w2 : Int32) : Option ((Int32 × St) ⊕ (St)) :=
  (m_puts t w1 w2).bind (fun q16 => nm (v7 + (1 : Int32)) (fun x18 : Int32 => some (.inl (x18, q16))))
noncomputable def m_best_B132 (v1 : Int32) (v2 : Int32) (v5 : Int32) (v6 : Int32) (v7 : Int32) (t : St) : Option ((Int32 × St) ⊕ (St)) :=
  if v6 ≤ v7 then (some (.inr t)) else (gd v1 10 ((m_spread t v7 v5).bind (fun q21 => (m_isReached t (gA t 16 (v1).toNatClampNeg) q21).bind (fun q23 => if q23 = 0 then (m_best_J172 t v1 v2 v5 v6 v7 ((402 : Int32) + v7) (0 : Int32)) else (m_best_J172 t v1 v2 v5 v6 v7 ((402 : Int32) + v7) (1 : Int32))))))
noncomputable def m_best_B211 (v2 : Int32) (v5 : Int32) (v6 : Int32) (v7 : Int32) (v8 : Int32) (v9 : Int32) (t : St) : Option ((Int32 × St) ⊕ (St)) :=
  if v9 < 0 then (some (.inr t)) else (if ((v9 >>> (v7 &&& 31)) &&& (1 : Int32)) = (1 : Int32) then ((m_takes t (4502 : Int32) ((402 : Int32) + (v9 &&& (((1 : Int32) <<< (v7 &&& 31)) ^^^ (-1 : Int32))))).bind (fun q30 => (m_times q30 (4502 : Int32) ((1000 : Int32) - v8)).bind (fun q32 => (m_times q32 ((402 : Int32) + v9) v8).bind (fun q34 => (m_adds q34 ((402 : Int32) + v9) (4502 : Int32)).bind (fun q36 => nm (v9 + (-1 : Int32)) (fun x38 : Int32 => some (.inl (x38, q36)))))))) else (nm (v9 + (-1 : Int32)) (fun x29 : Int32 => some (.inl (x29, t)))))
noncomputable def m_best_J433 (t : St) (v2 : Int32) (v5 : Int32) (v6 : Int32) (v9 : Int32) (v11 : Int32) : Option ((Int32 × Int32 × Int32) ⊕ (Int32)) :=
  nm (v9 + (1 : Int32)) (fun x39 : Int32 => some (.inl (v9, v11, x39)))
noncomputable def m_best_B345 (t : St) (v2 : Int32) (v5 : Int32) (v6 : Int32) (v7 : Int32) (v8 : Int32) (v9 : Int32) : Option ((Int32 × Int32 × Int32) ⊕ (Int32)) :=
  if v6 ≤ v9 then (some (.inr v7)) else ((m_spread t v9 v5).bind (fun q41 => (m_sumOf t q41 (0 : Int32) (0 : Int32)).bind (fun q43 => (m_against t ((402 : Int32) + v9) ((402 : Int32) + v7)).bind (fun q45 => if v2 < q43 then (nm (v9 + (1 : Int32)) (fun x48 : Int32 => some (.inl (v7, v8, x48)))) else (if 0 < q45 then (m_best_J433 t v2 v5 v6 v9 q43) else (if q45 = 0 then (if q43 < v8 then (m_best_J433 t v2 v5 v6 v9 q43) else (if q43 = v8 then ((m_spread t v7 v5).bind (fun q55 => if q55 ≤ q41 then (nm (v9 + (1 : Int32)) (fun x58 : Int32 => some (.inl (v7, v8, x58)))) else (m_best_J433 t v2 v5 v6 v9 q43))) else (nm (v9 + (1 : Int32)) (fun x54 : Int32 => some (.inl (v7, v8, x54)))))) else (nm (v9 + (1 : Int32)) (fun x51 : Int32 => some (.inl (v7, v8, x51))))))))))
noncomputable def m_best_B184 (v2 : Int32) (v5 : Int32) (v6 : Int32) (v7 : Int32) (t : St) : Option ((Int32 × St) ⊕ (St)) :=
  if v5 ≤ v7 then (some (.inr t)) else (gd v7 16 (gd (gA t 44 (v7).toNatClampNeg) 16 (nm (gA t 2 ((gA t 44 (v7).toNatClampNeg)).toNatClampNeg) (fun x62 : Int32 => nm (v6 - (1 : Int32)) (fun x63 : Int32 => (lp (fun x => m_best_B211 v2 v5 v6 v7 x62 x.1 x.2) (x63, t)).bind (fun y64 => (lp (fun x => m_best_B294 v2 v5 v6 v7 x.1 x.2) ((0 : Int32), y64)).bind (fun y67 => nm (v7 + (1 : Int32)) (fun x70 : Int32 => some (.inl (x70, y67))))))))))
noncomputable def m_best (t : St) (a1 : Int32) (a2 : Int32) : Option (Int32 × St) :=
  (m_in t a2 (0 : Int32) (16000 : Int32)).bind (fun q71 => (m_why t a1 q71).bind (fun q74 => if q74 = (1 : Int32) then (gd a1 10 (gd (gA t 16 (a1).toNatClampNeg) 400 ((m_sizeOf t (gA t 15 ((gA t 16 (a1).toNatClampNeg)).toNatClampNeg)).bind (fun q79 => if q79 ≤ (12 : Int32) then (gd a1 10 ((m_diagrams t (gA t 16 (a1).toNatClampNeg)).bind (fun q83 => if ((gI q83 36) - (2 : Int32)) ≤ (400 : Int32) then ((lp (fun x => m_best_B78 a1 a2 x.1 x.2.1 x.2.2) ((0 : Int32), (0 : Int32), q83)).bind (fun y86 => nm ((1 : Int32) <<< (y86.1 &&& 31)) (fun x89 : Int32 => (lp (fun x => m_best_B132 a1 a2 y86.1 x89 x.1 x.2) ((0 : Int32), y86.2)).bind (fun y90 => (lp (fun x => m_best_B184 a2 y86.1 x89 x.1 x.2) ((0 : Int32), y90)).bind (fun y93 => (lp (fun x => m_best_B345 y93 a2 y86.1 x89 x.1 x.2.1 x.2.2) ((0 : Int32), (0 : Int32), (1 : Int32))).bind (fun y96 => (m_wholes y93 (4505 : Int32) y86.1).bind (fun q99 => (m_takes q99 (4507 : Int32) ((402 : Int32) + y96)).bind (fun q101 => (m_tells q101 (4507 : Int32) (4505 : Int32)).bind (fun q103 => (m_spread q103 y96 y86.1).bind (fun q105 => some (q105, q103))))))))))) else (some ((-5 : Int32), q83))))) else (some ((-3 : Int32), t)))))) else (some (q74, t))))
set_option maxHeartbeats 4000000 in
set_option maxRecDepth 100000 in
theorem m_best_L294 {p : Program} {l : Launch} {e : Env} {s : State} {m : MethodId} {args : Array Value} {below : List Frame} {meth : Method} {c : Code} {Q : State → Prop} {D : va_G} {cI cJ cZ : ClassId} {am : Nat → Nat} {A : Nat → Prop} (C0 : cx p s m args meth c cX12_best RX12 13 (some .int) D (tyM cI cJ cZ) A) {v2 : Int32} {v5 : Int32} {v6 : Int32} {v7 : Int32} {y : St} (hK0 : ∀ (H : Heap) (locs : List Loc) (ls : Array Slot), wl D A s (wM cI cJ cZ am y) H locs → lv_has ls 13 [(0, .ref (am 68)), (2, .int v2), (5, .int v5), (6, .int v6), (7, .int v7)] → W p l e (rmN 3 73) s m args below meth c H locs 0 0 Q (F0 m 330 ls [])) :
    ∀ (n : Nat) (v9 : Int32) (t : St), lpn (fun x => m_best_B294 v2 v5 v6 v7 x.1 x.2) n (v9, t) = some y → ∀ (H : Heap) (locs : List Loc) (ls : Array Slot), wl D A s (wM cI cJ cZ am t) H locs → lv_has ls 13 [(0, .ref (am 68)), (2, .int v2), (5, .int v5), (6, .int v6), (7, .int v7), (9, .int v9)] → W p l e (rmN 3 73) s m args below meth c H locs 0 0 Q (F0 m 294 ls []) := by
  have hx := C0.1
  have hb := C0.2.1
  have hta := C0.2.2.2.2.2.1
  have hown := C0.2.2.2.2.1
  intro n
  induction n with
  | zero => intro _ _ h; cases h
  | succ n ih =>
    intro v9 t hrun H locs ls hW hl
    obtain ⟨o, ho, hrun⟩ := bd_some hrun
    unfold m_best_B294 at ho
    refine lv_iload hx hb dX12_best_294 (lv_at hl 5 rfl) ?_
    refine lv_iload hx hb dX12_best_296 (lv_at hl 3 rfl) ?_
    refine lv_icmp_ge (tgt := 330) hx hb dX12_best_298 (by decide) (fun c1 => ?_) (fun c1 => ?_)
    · replace ho := ite_t c1 ho
      cases ho
      cases hrun
      exact hK0 _ _ _ hW (lv_sub hl [0, 1, 2, 3, 4] rfl)
    · replace ho := ite_f c1 ho
      refine lv_iload hx hb dX12_best_301 (lv_at hl 5 rfl) ?_
      refine lv_iload hx hb dX12_best_303 (lv_at hl 4 rfl) ?_
      refine lv_ishr hx hb dX12_best_305 ?_
      refine lv_iconst (v := (1 : Int32)) hx hb dX12_best_306 (by decide) ?_
      refine lv_iand hx hb dX12_best_307 ?_
      refine lv_if_ne (tgt := 324) hx hb dX12_best_308 (by decide) (fun c2 => ?_) (fun c2 => ?_)
      · replace ho := ite_f c2 ho
        obtain ⟨x3, ex3, ho⟩ := nm_x ho
        refine lv_iinc (v := x3) (lv' := [(9, .int x3), (0, .ref (am 68)), (2, .int v2), (5, .int v5), (6, .int v6), (7, .int v7)]) hx hb dX12_best_324 hl (k := 5) rfl (by rw [ex3]; rfl) (by decide) rfl (fun ls hl => ?_)
        clear ex3
        refine lv_goto (tgt := 294) hx hb dX12_best_327 (by decide) ?_
        cases ho
        exact ih _ _ hrun _ _ _ hW (lv_sub hl [1, 2, 3, 4, 5, 0] rfl)
      · replace ho := ite_t c2 ho
        refine lv_aload_n hx hb dX12_best_311 rfl (lv_at hl 0 rfl) ?_
        refine lv_sipush (v := (402 : Int32)) hx hb dX12_best_312 (by decide) ?_
        refine lv_iload hx hb dX12_best_315 (lv_at hl 5 rfl) ?_
        refine lv_iadd hx hb dX12_best_317 ?_
        refine lv_sipush (v := (1000 : Int32)) hx hb dX12_best_318 (by decide) ?_
        obtain ⟨q4, hc5, ho⟩ := bd_some ho
        refine bkV C0 hW (runV (As := [.int ((402 : Int32) + v9), .int (1000 : Int32)]) (rest := []) C0 hW (c_m_times l _ t ((402 : Int32) + v9) (1000 : Int32) (t' := q4) hc5) ca_X12_times_336 0 12 rfl rfl rfl rfl rfl ⟨rfl, rfl⟩ ⟨Nat.le_of_ble_eq_true rfl, Nat.le_of_ble_eq_true rfl⟩ (Nat.le_of_ble_eq_true rfl) hl.1 dX12_best_321 ⟨Nat.le_of_ble_eq_true rfl, Nat.le_of_ble_eq_true rfl⟩) (fun H locs hW => ?_)
        obtain ⟨x6, ex6, ho⟩ := nm_x ho
        refine lv_iinc (v := x6) (lv' := [(9, .int x6), (0, .ref (am 68)), (2, .int v2), (5, .int v5), (6, .int v6), (7, .int v7)]) hx hb dX12_best_324 hl (k := 5) rfl (by rw [ex6]; rfl) (by decide) rfl (fun ls hl => ?_)
        clear ex6
        refine lv_goto (tgt := 294) hx hb dX12_best_327 (by decide) ?_
        cases ho
        exact ih _ _ hrun _ _ _ hW (lv_sub hl [1, 2, 3, 4, 5, 0] rfl)
set_option maxHeartbeats 4000000 in
set_option maxRecDepth 100000 in
theorem m_best_L78 {p : Program} {l : Launch} {e : Env} {s : State} {m : MethodId} {args : Array Value} {below : List Frame} {meth : Method} {c : Code} {Q : State → Prop} {D : va_G} {cI cJ cZ : ClassId} {am : Nat → Nat} {A : Nat → Prop} (C0 : cx p s m args meth c cX12_best RX12 13 (some .int) D (tyM cI cJ cZ) A) {v1 : Int32} {v2 : Int32} {y : Int32 × St} (hK0 : ∀ (H : Heap) (locs : List Loc) (ls : Array Slot), wl D A s (wM cI cJ cZ am y.2) H locs → lv_has ls 13 [(0, .ref (am 68)), (1, .int v1), (2, .int v2), (5, .int y.1)] → W p l e (rmN 3 73) s m args below meth c H locs 0 0 Q (F0 m 123 ls [])) :
    ∀ (n : Nat) (v5 : Int32) (v6 : Int32) (t : St), lpn (fun x => m_best_B78 v1 v2 x.1 x.2.1 x.2.2) n (v5, v6, t) = some y → ∀ (H : Heap) (locs : List Loc) (ls : Array Slot), wl D A s (wM cI cJ cZ am t) H locs → lv_has ls 13 [(0, .ref (am 68)), (1, .int v1), (2, .int v2), (5, .int v5), (6, .int v6)] → W p l e (rmN 3 73) s m args below meth c H locs 0 0 Q (F0 m 78 ls []) := by
  have hx := C0.1
  have hb := C0.2.1
  have hta := C0.2.2.2.2.2.1
  have hown := C0.2.2.2.2.1
  intro n
  induction n with
  | zero => intro _ _ _ h; cases h
  | succ n ih =>
    intro v5 v6 t hrun H locs ls hW hl
    obtain ⟨o, ho, hrun⟩ := bd_some hrun
    unfold m_best_B78 at ho
    refine lv_iload hx hb dX12_best_78 (lv_at hl 4 rfl) ?_
    refine lv_bipush (v := (16 : Int32)) hx hb dX12_best_80 (by decide) ?_
    refine lv_icmp_ge (tgt := 123) hx hb dX12_best_82 (by decide) (fun c7 => ?_) (fun c7 => ?_)
    · replace ho := ite_t c7 ho
      cases ho
      cases hrun
      exact hK0 _ _ _ hW (lv_sub hl [0, 1, 2, 3] rfl)
    · replace ho := ite_f c7 ho
      refine lv_aload_n hx hb dX12_best_85 rfl (lv_at hl 0 rfl) ?_
      refine mGET_15 C0 hW dX12_best_86 ?_
      refine lv_aload_n hx hb dX12_best_89 rfl (lv_at hl 0 rfl) ?_
      refine mGET_16 C0 hW dX12_best_90 ?_
      refine lv_iload_n hx hb dX12_best_93 rfl (lv_at hl 1 rfl) ?_
      obtain ⟨g8, ho⟩ := gd_some ho
      refine mLD_16 C0 hW g8 dX12_best_94 ?_
      obtain ⟨g9, ho⟩ := gd_some ho
      refine mLD_15 C0 hW g9 dX12_best_95 ?_
      refine lv_iload hx hb dX12_best_96 (lv_at hl 4 rfl) ?_
      refine lv_ishr hx hb dX12_best_98 ?_
      refine lv_iconst (v := (1 : Int32)) hx hb dX12_best_99 (by decide) ?_
      refine lv_iand hx hb dX12_best_100 ?_
      refine lv_iconst (v := (1 : Int32)) hx hb dX12_best_101 (by decide) ?_
      refine lv_icmp_ne (tgt := 117) hx hb dX12_best_102 (by decide) (fun c10 => ?_) (fun c10 => ?_)
      · replace ho := ite_f c10 ho
        obtain ⟨x11, ex11, ho⟩ := nm_x ho
        refine lv_iinc (v := x11) (lv' := [(6, .int x11), (0, .ref (am 68)), (1, .int v1), (2, .int v2), (5, .int v5)]) hx hb dX12_best_117 hl (k := 4) rfl (by rw [ex11]; rfl) (by decide) rfl (fun ls hl => ?_)
        clear ex11
        refine lv_goto (tgt := 78) hx hb dX12_best_120 (by decide) ?_
        cases ho
        exact ih _ _ _ hrun _ _ _ hW (lv_sub hl [1, 2, 3, 4, 0] rfl)
      · replace ho := ite_t c10 ho
        refine lv_aload_n hx hb dX12_best_105 rfl (lv_at hl 0 rfl) ?_
        refine mGET_44 C0 hW dX12_best_106 ?_
        refine lv_iload hx hb dX12_best_109 (lv_at hl 3 rfl) ?_
        refine lv_iload hx hb dX12_best_111 (lv_at hl 4 rfl) ?_
        obtain ⟨g12, ho⟩ := gd_some ho
        refine mST_44 C0 hW g12 dX12_best_113 (fun H locs hW => ?_)
        obtain ⟨t13, ho, hW⟩ := nm_w (P := fun t => wl D A s (wM cI cJ cZ am t) H locs) ho hW
        obtain ⟨x14, ex14, ho⟩ := nm_x ho
        refine lv_iinc (v := x14) (lv' := [(5, .int x14), (0, .ref (am 68)), (1, .int v1), (2, .int v2), (6, .int v6)]) hx hb dX12_best_114 hl (k := 3) rfl (by rw [ex14]; rfl) (by decide) rfl (fun ls hl => ?_)
        clear ex14
        obtain ⟨x15, ex15, ho⟩ := nm_x ho
        refine lv_iinc (v := x15) (lv' := [(6, .int x15), (5, .int x14), (0, .ref (am 68)), (1, .int v1), (2, .int v2)]) hx hb dX12_best_117 hl (k := 4) rfl (by rw [ex15]; rfl) (by decide) rfl (fun ls hl => ?_)
        clear ex15
        refine lv_goto (tgt := 78) hx hb dX12_best_120 (by decide) ?_
        cases ho
        exact ih _ _ _ hrun _ _ _ hW (lv_sub hl [2, 3, 4, 1, 0] rfl)
set_option maxHeartbeats 4000000 in
set_option maxRecDepth 100000 in
theorem m_best_L132 {p : Program} {l : Launch} {e : Env} {s : State} {m : MethodId} {args : Array Value} {below : List Frame} {meth : Method} {c : Code} {Q : State → Prop} {D : va_G} {cI cJ cZ : ClassId} {am : Nat → Nat} {A : Nat → Prop} (C0 : cx p s m args meth c cX12_best RX12 13 (some .int) D (tyM cI cJ cZ) A) {v1 : Int32} {v2 : Int32} {v5 : Int32} {v6 : Int32} {y : St} (hK0 : ∀ (H : Heap) (locs : List Loc) (ls : Array Slot), wl D A s (wM cI cJ cZ am y) H locs → lv_has ls 13 [(0, .ref (am 68)), (2, .int v2), (5, .int v5), (6, .int v6)] → W p l e (rmN 3 73) s m args below meth c H locs 0 0 Q (F0 m 181 ls [])) :
    ∀ (n : Nat) (v7 : Int32) (t : St), lpn (fun x => m_best_B132 v1 v2 v5 v6 x.1 x.2) n (v7, t) = some y → ∀ (H : Heap) (locs : List Loc) (ls : Array Slot), wl D A s (wM cI cJ cZ am t) H locs → lv_has ls 13 [(0, .ref (am 68)), (1, .int v1), (2, .int v2), (5, .int v5), (6, .int v6), (7, .int v7)] → W p l e (rmN 3 73) s m args below meth c H locs 0 0 Q (F0 m 132 ls []) := by
  have hx := C0.1
  have hb := C0.2.1
  have hta := C0.2.2.2.2.2.1
  have hown := C0.2.2.2.2.1
  intro n
  induction n with
  | zero => intro _ _ h; cases h
  | succ n ih =>
    intro v7 t hrun H locs ls hW hl
    obtain ⟨o, ho, hrun⟩ := bd_some hrun
    have J172 : ∀ (t : St) (v7 : Int32) (w1 : Int32) (w2 : Int32) (_ : m_best_J172 t v1 v2 v5 v6 v7 w1 w2 = some o) (H : Heap) (locs : List Loc) (ls : Array Slot), wl D A s (wM cI cJ cZ am t) H locs → lv_has ls 13 [(0, .ref (am 68)), (1, .int v1), (2, .int v2), (5, .int v5), (6, .int v6), (7, .int v7)] → W p l e (rmN 3 73) s m args below meth c H locs 0 0 Q (F0 m 172 ls [.int w2, .int w1, .ref (am 68)]) := by
      intro t v7 w1 w2 ho H locs ls hW hl
      unfold m_best_J172 at ho
      obtain ⟨q16, hc17, ho⟩ := bd_some ho
      refine bkV C0 hW (runV (As := [.int w1, .int w2]) (rest := []) C0 hW (c_m_puts l _ t w1 w2 (t' := q16) hc17) ca_X12_puts_175 0 12 rfl rfl rfl rfl rfl ⟨rfl, rfl⟩ ⟨Nat.le_of_ble_eq_true rfl, Nat.le_of_ble_eq_true rfl⟩ (Nat.le_of_ble_eq_true rfl) hl.1 dX12_best_172 ⟨Nat.le_of_ble_eq_true rfl, Nat.le_of_ble_eq_true rfl⟩) (fun H locs hW => ?_)
      obtain ⟨x18, ex18, ho⟩ := nm_x ho
      refine lv_iinc (v := x18) (lv' := [(7, .int x18), (0, .ref (am 68)), (1, .int v1), (2, .int v2), (5, .int v5), (6, .int v6)]) hx hb dX12_best_175 hl (k := 5) rfl (by rw [ex18]; rfl) (by decide) rfl (fun ls hl => ?_)
      clear ex18
      refine lv_goto (tgt := 132) hx hb dX12_best_178 (by decide) ?_
      cases ho
      exact ih _ _ hrun _ _ _ hW (lv_sub hl [1, 2, 3, 4, 5, 0] rfl)
    unfold m_best_B132 at ho
    refine lv_iload hx hb dX12_best_132 (lv_at hl 5 rfl) ?_
    refine lv_iload hx hb dX12_best_134 (lv_at hl 4 rfl) ?_
    refine lv_icmp_ge (tgt := 181) hx hb dX12_best_136 (by decide) (fun c19 => ?_) (fun c19 => ?_)
    · replace ho := ite_t c19 ho
      cases ho
      cases hrun
      exact hK0 _ _ _ hW (lv_sub hl [0, 2, 3, 4] rfl)
    · replace ho := ite_f c19 ho
      refine lv_aload_n hx hb dX12_best_139 rfl (lv_at hl 0 rfl) ?_
      refine lv_sipush (v := (402 : Int32)) hx hb dX12_best_140 (by decide) ?_
      refine lv_iload hx hb dX12_best_143 (lv_at hl 5 rfl) ?_
      refine lv_iadd hx hb dX12_best_145 ?_
      refine lv_aload_n hx hb dX12_best_146 rfl (lv_at hl 0 rfl) ?_
      refine lv_aload_n hx hb dX12_best_147 rfl (lv_at hl 0 rfl) ?_
      refine mGET_16 C0 hW dX12_best_148 ?_
      refine lv_iload_n hx hb dX12_best_151 rfl (lv_at hl 1 rfl) ?_
      obtain ⟨g20, ho⟩ := gd_some ho
      refine mLD_16 C0 hW g20 dX12_best_152 ?_
      refine lv_aload_n hx hb dX12_best_153 rfl (lv_at hl 0 rfl) ?_
      refine lv_iload hx hb dX12_best_154 (lv_at hl 5 rfl) ?_
      refine lv_iload hx hb dX12_best_156 (lv_at hl 3 rfl) ?_
      obtain ⟨q21, hc22, ho⟩ := bd_some ho
      refine bkI C0 hW (runV (As := [.int v7, .int v5]) (rest := [.int (gA t 16 (v1).toNatClampNeg), .ref (am 68), .int ((402 : Int32) + v7), .ref (am 68)]) C0 hW (c_m_spread l _ t v7 v5 (r := q21) hc22) ca_X12_spread_387 0 12 rfl rfl rfl rfl rfl ⟨rfl, rfl⟩ ⟨Nat.le_of_ble_eq_true rfl, Nat.le_of_ble_eq_true rfl⟩ (Nat.le_of_ble_eq_true rfl) hl.1 dX12_best_158 ⟨Nat.le_of_ble_eq_true rfl, Nat.le_of_ble_eq_true rfl⟩) (fun H locs hW => ?_)
      obtain ⟨q23, hc24, ho⟩ := bd_some ho
      refine bkZ C0 hW (runV (As := [.int (gA t 16 (v1).toNatClampNeg), .int q21]) (rest := [.int ((402 : Int32) + v7), .ref (am 68)]) C0 hW (c_m_isReached l _ t (gA t 16 (v1).toNatClampNeg) q21 (r := q23) hc24) ca_X12_isReached_282 0 12 rfl rfl rfl rfl rfl ⟨rfl, rfl⟩ ⟨Nat.le_of_ble_eq_true rfl, Nat.le_of_ble_eq_true rfl⟩ (Nat.le_of_ble_eq_true rfl) hl.1 dX12_best_161 ⟨Nat.le_of_ble_eq_true rfl, Nat.le_of_ble_eq_true rfl⟩) (fun z25 H locs hW => ?_)
      refine lv_if_eq (tgt := 171) hx hb dX12_best_164 (by decide) (fun c26 => ?_) (fun c26 => ?_)
      · replace ho := ite_t c26 ho
        refine lv_iconst (v := (0 : Int32)) hx hb dX12_best_171 (by decide) ?_
        exact J172 _ _ _ _ ho _ _ _ hW (lv_sub hl [0, 1, 2, 3, 4, 5] rfl)
      · replace ho := ite_f c26 ho
        refine lv_iconst (v := (1 : Int32)) hx hb dX12_best_167 (by decide) ?_
        refine lv_goto (tgt := 172) hx hb dX12_best_168 (by decide) ?_
        exact J172 _ _ _ _ ho _ _ _ hW (lv_sub hl [0, 1, 2, 3, 4, 5] rfl)
set_option maxHeartbeats 4000000 in
set_option maxRecDepth 100000 in
theorem m_best_L211 {p : Program} {l : Launch} {e : Env} {s : State} {m : MethodId} {args : Array Value} {below : List Frame} {meth : Method} {c : Code} {Q : State → Prop} {D : va_G} {cI cJ cZ : ClassId} {am : Nat → Nat} {A : Nat → Prop} (C0 : cx p s m args meth c cX12_best RX12 13 (some .int) D (tyM cI cJ cZ) A) {v2 : Int32} {v5 : Int32} {v6 : Int32} {v7 : Int32} {v8 : Int32} {y : St} (hK0 : ∀ (H : Heap) (locs : List Loc) (ls : Array Slot), wl D A s (wM cI cJ cZ am y) H locs → lv_has ls 13 [(0, .ref (am 68)), (2, .int v2), (5, .int v5), (6, .int v6), (7, .int v7)] → W p l e (rmN 3 73) s m args below meth c H locs 0 0 Q (F0 m 291 ls [])) :
    ∀ (n : Nat) (v9 : Int32) (t : St), lpn (fun x => m_best_B211 v2 v5 v6 v7 v8 x.1 x.2) n (v9, t) = some y → ∀ (H : Heap) (locs : List Loc) (ls : Array Slot), wl D A s (wM cI cJ cZ am t) H locs → lv_has ls 13 [(0, .ref (am 68)), (2, .int v2), (5, .int v5), (6, .int v6), (7, .int v7), (8, .int v8), (9, .int v9)] → W p l e (rmN 3 73) s m args below meth c H locs 0 0 Q (F0 m 211 ls []) := by
  have hx := C0.1
  have hb := C0.2.1
  have hta := C0.2.2.2.2.2.1
  have hown := C0.2.2.2.2.1
  intro n
  induction n with
  | zero => intro _ _ h; cases h
  | succ n ih =>
    intro v9 t hrun H locs ls hW hl
    obtain ⟨o, ho, hrun⟩ := bd_some hrun
    unfold m_best_B211 at ho
    refine lv_iload hx hb dX12_best_211 (lv_at hl 6 rfl) ?_
    refine lv_if_lt (tgt := 291) hx hb dX12_best_213 (by decide) (fun c27 => ?_) (fun c27 => ?_)
    · replace ho := ite_t c27 ho
      cases ho
      cases hrun
      exact hK0 _ _ _ hW (lv_sub hl [0, 1, 2, 3, 4] rfl)
    · replace ho := ite_f c27 ho
      refine lv_iload hx hb dX12_best_216 (lv_at hl 6 rfl) ?_
      refine lv_iload hx hb dX12_best_218 (lv_at hl 4 rfl) ?_
      refine lv_ishr hx hb dX12_best_220 ?_
      refine lv_iconst (v := (1 : Int32)) hx hb dX12_best_221 (by decide) ?_
      refine lv_iand hx hb dX12_best_222 ?_
      refine lv_iconst (v := (1 : Int32)) hx hb dX12_best_223 (by decide) ?_
      refine lv_icmp_ne (tgt := 285) hx hb dX12_best_224 (by decide) (fun c28 => ?_) (fun c28 => ?_)
      · replace ho := ite_f c28 ho
        obtain ⟨x29, ex29, ho⟩ := nm_x ho
        refine lv_iinc (v := x29) (lv' := [(9, .int x29), (0, .ref (am 68)), (2, .int v2), (5, .int v5), (6, .int v6), (7, .int v7), (8, .int v8)]) hx hb dX12_best_285 hl (k := 6) rfl (by rw [ex29]; rfl) (by decide) rfl (fun ls hl => ?_)
        clear ex29
        refine lv_goto (tgt := 211) hx hb dX12_best_288 (by decide) ?_
        cases ho
        exact ih _ _ hrun _ _ _ hW (lv_sub hl [1, 2, 3, 4, 5, 6, 0] rfl)
      · replace ho := ite_t c28 ho
        refine lv_aload_n hx hb dX12_best_227 rfl (lv_at hl 0 rfl) ?_
        refine lv_sipush (v := (4502 : Int32)) hx hb dX12_best_228 (by decide) ?_
        refine lv_sipush (v := (402 : Int32)) hx hb dX12_best_231 (by decide) ?_
        refine lv_iload hx hb dX12_best_234 (lv_at hl 6 rfl) ?_
        refine lv_iconst (v := (1 : Int32)) hx hb dX12_best_236 (by decide) ?_
        refine lv_iload hx hb dX12_best_237 (lv_at hl 4 rfl) ?_
        refine lv_ishl hx hb dX12_best_239 ?_
        refine lv_iconst (v := (-1 : Int32)) hx hb dX12_best_240 (by decide) ?_
        refine lv_ixor hx hb dX12_best_241 ?_
        refine lv_iand hx hb dX12_best_242 ?_
        refine lv_iadd hx hb dX12_best_243 ?_
        obtain ⟨q30, hc31, ho⟩ := bd_some ho
        refine bkV C0 hW (runV (As := [.int (4502 : Int32), .int ((402 : Int32) + (v9 &&& (((1 : Int32) <<< (v7 &&& 31)) ^^^ (-1 : Int32))))]) (rest := []) C0 hW (c_m_takes l _ t (4502 : Int32) ((402 : Int32) + (v9 &&& (((1 : Int32) <<< (v7 &&& 31)) ^^^ (-1 : Int32)))) (t' := q30) hc31) ca_X12_takes_333 0 12 rfl rfl rfl rfl rfl ⟨rfl, rfl⟩ ⟨Nat.le_of_ble_eq_true rfl, Nat.le_of_ble_eq_true rfl⟩ (Nat.le_of_ble_eq_true rfl) hl.1 dX12_best_244 ⟨Nat.le_of_ble_eq_true rfl, Nat.le_of_ble_eq_true rfl⟩) (fun H locs hW => ?_)
        refine lv_aload_n hx hb dX12_best_247 rfl (lv_at hl 0 rfl) ?_
        refine lv_sipush (v := (4502 : Int32)) hx hb dX12_best_248 (by decide) ?_
        refine lv_sipush (v := (1000 : Int32)) hx hb dX12_best_251 (by decide) ?_
        refine lv_iload hx hb dX12_best_254 (lv_at hl 5 rfl) ?_
        refine lv_isub hx hb dX12_best_256 ?_
        obtain ⟨q32, hc33, ho⟩ := bd_some ho
        refine bkV C0 hW (runV (As := [.int (4502 : Int32), .int ((1000 : Int32) - v8)]) (rest := []) C0 hW (c_m_times l _ q30 (4502 : Int32) ((1000 : Int32) - v8) (t' := q32) hc33) ca_X12_times_336 0 12 rfl rfl rfl rfl rfl ⟨rfl, rfl⟩ ⟨Nat.le_of_ble_eq_true rfl, Nat.le_of_ble_eq_true rfl⟩ (Nat.le_of_ble_eq_true rfl) hl.1 dX12_best_257 ⟨Nat.le_of_ble_eq_true rfl, Nat.le_of_ble_eq_true rfl⟩) (fun H locs hW => ?_)
        refine lv_aload_n hx hb dX12_best_260 rfl (lv_at hl 0 rfl) ?_
        refine lv_sipush (v := (402 : Int32)) hx hb dX12_best_261 (by decide) ?_
        refine lv_iload hx hb dX12_best_264 (lv_at hl 6 rfl) ?_
        refine lv_iadd hx hb dX12_best_266 ?_
        refine lv_iload hx hb dX12_best_267 (lv_at hl 5 rfl) ?_
        obtain ⟨q34, hc35, ho⟩ := bd_some ho
        refine bkV C0 hW (runV (As := [.int ((402 : Int32) + v9), .int v8]) (rest := []) C0 hW (c_m_times l _ q32 ((402 : Int32) + v9) v8 (t' := q34) hc35) ca_X12_times_336 0 12 rfl rfl rfl rfl rfl ⟨rfl, rfl⟩ ⟨Nat.le_of_ble_eq_true rfl, Nat.le_of_ble_eq_true rfl⟩ (Nat.le_of_ble_eq_true rfl) hl.1 dX12_best_269 ⟨Nat.le_of_ble_eq_true rfl, Nat.le_of_ble_eq_true rfl⟩) (fun H locs hW => ?_)
        refine lv_aload_n hx hb dX12_best_272 rfl (lv_at hl 0 rfl) ?_
        refine lv_sipush (v := (402 : Int32)) hx hb dX12_best_273 (by decide) ?_
        refine lv_iload hx hb dX12_best_276 (lv_at hl 6 rfl) ?_
        refine lv_iadd hx hb dX12_best_278 ?_
        refine lv_sipush (v := (4502 : Int32)) hx hb dX12_best_279 (by decide) ?_
        obtain ⟨q36, hc37, ho⟩ := bd_some ho
        refine bkV C0 hW (runV (As := [.int ((402 : Int32) + v9), .int (4502 : Int32)]) (rest := []) C0 hW (c_m_adds l _ q34 ((402 : Int32) + v9) (4502 : Int32) (t' := q36) hc37) ca_X12_adds_369 0 12 rfl rfl rfl rfl rfl ⟨rfl, rfl⟩ ⟨Nat.le_of_ble_eq_true rfl, Nat.le_of_ble_eq_true rfl⟩ (Nat.le_of_ble_eq_true rfl) hl.1 dX12_best_282 ⟨Nat.le_of_ble_eq_true rfl, Nat.le_of_ble_eq_true rfl⟩) (fun H locs hW => ?_)
        obtain ⟨x38, ex38, ho⟩ := nm_x ho
        refine lv_iinc (v := x38) (lv' := [(9, .int x38), (0, .ref (am 68)), (2, .int v2), (5, .int v5), (6, .int v6), (7, .int v7), (8, .int v8)]) hx hb dX12_best_285 hl (k := 6) rfl (by rw [ex38]; rfl) (by decide) rfl (fun ls hl => ?_)
        clear ex38
        refine lv_goto (tgt := 211) hx hb dX12_best_288 (by decide) ?_
        cases ho
        exact ih _ _ hrun _ _ _ hW (lv_sub hl [1, 2, 3, 4, 5, 6, 0] rfl)
set_option maxHeartbeats 4000000 in
set_option maxRecDepth 100000 in
theorem m_best_L345 {p : Program} {l : Launch} {e : Env} {s : State} {m : MethodId} {args : Array Value} {below : List Frame} {meth : Method} {c : Code} {Q : State → Prop} {D : va_G} {cI cJ cZ : ClassId} {am : Nat → Nat} {A : Nat → Prop} (C0 : cx p s m args meth c cX12_best RX12 13 (some .int) D (tyM cI cJ cZ) A) {t : St} {v2 : Int32} {v5 : Int32} {v6 : Int32} {y : Int32} (hK0 : ∀ (H : Heap) (locs : List Loc) (ls : Array Slot), wl D A s (wM cI cJ cZ am t) H locs → lv_has ls 13 [(0, .ref (am 68)), (5, .int v5), (7, .int y)] → W p l e (rmN 3 73) s m args below meth c H locs 0 0 Q (F0 m 447 ls [])) :
    ∀ (n : Nat) (v7 : Int32) (v8 : Int32) (v9 : Int32), lpn (fun x => m_best_B345 t v2 v5 v6 x.1 x.2.1 x.2.2) n (v7, v8, v9) = some y → ∀ (H : Heap) (locs : List Loc) (ls : Array Slot), wl D A s (wM cI cJ cZ am t) H locs → lv_has ls 13 [(0, .ref (am 68)), (2, .int v2), (5, .int v5), (6, .int v6), (7, .int v7), (8, .int v8), (9, .int v9)] → W p l e (rmN 3 73) s m args below meth c H locs 0 0 Q (F0 m 345 ls []) := by
  have hx := C0.1
  have hb := C0.2.1
  have hta := C0.2.2.2.2.2.1
  have hown := C0.2.2.2.2.1
  intro n
  induction n with
  | zero => intro _ _ _ h; cases h
  | succ n ih =>
    intro v7 v8 v9 hrun H locs ls hW hl
    obtain ⟨o, ho, hrun⟩ := bd_some hrun
    have J433 : ∀ (v9 : Int32) (v11 : Int32) (_ : m_best_J433 t v2 v5 v6 v9 v11 = some o) (H : Heap) (locs : List Loc) (ls : Array Slot), wl D A s (wM cI cJ cZ am t) H locs → lv_has ls 13 [(0, .ref (am 68)), (2, .int v2), (5, .int v5), (6, .int v6), (9, .int v9), (11, .int v11)] → W p l e (rmN 3 73) s m args below meth c H locs 0 0 Q (F0 m 433 ls []) := by
      intro v9 v11 ho H locs ls hW hl
      unfold m_best_J433 at ho
      refine lv_iload hx hb dX12_best_433 (lv_at hl 4 rfl) ?_
      refine lv_istore (lv' := [(7, .int v9), (0, .ref (am 68)), (2, .int v2), (5, .int v5), (6, .int v6), (9, .int v9), (11, .int v11)]) hx hb dX12_best_435 hl (by decide) rfl (fun ls hl => ?_)
      refine lv_iload hx hb dX12_best_437 (lv_at hl 6 rfl) ?_
      refine lv_istore (lv' := [(8, .int v11), (7, .int v9), (0, .ref (am 68)), (2, .int v2), (5, .int v5), (6, .int v6), (9, .int v9), (11, .int v11)]) hx hb dX12_best_439 hl (by decide) rfl (fun ls hl => ?_)
      obtain ⟨x39, ex39, ho⟩ := nm_x ho
      refine lv_iinc (v := x39) (lv' := [(9, .int x39), (8, .int v11), (7, .int v9), (0, .ref (am 68)), (2, .int v2), (5, .int v5), (6, .int v6), (11, .int v11)]) hx hb dX12_best_441 hl (k := 6) rfl (by rw [ex39]; rfl) (by decide) rfl (fun ls hl => ?_)
      clear ex39
      refine lv_goto (tgt := 345) hx hb dX12_best_444 (by decide) ?_
      cases ho
      exact ih _ _ _ hrun _ _ _ hW (lv_sub hl [3, 4, 5, 6, 2, 1, 0] rfl)
    unfold m_best_B345 at ho
    refine lv_iload hx hb dX12_best_345 (lv_at hl 6 rfl) ?_
    refine lv_iload hx hb dX12_best_347 (lv_at hl 3 rfl) ?_
    refine lv_icmp_ge (tgt := 447) hx hb dX12_best_349 (by decide) (fun c40 => ?_) (fun c40 => ?_)
    · replace ho := ite_t c40 ho
      cases ho
      cases hrun
      exact hK0 _ _ _ hW (lv_sub hl [0, 2, 4] rfl)
    · replace ho := ite_f c40 ho
      refine lv_aload_n hx hb dX12_best_352 rfl (lv_at hl 0 rfl) ?_
      refine lv_iload hx hb dX12_best_353 (lv_at hl 6 rfl) ?_
      refine lv_iload hx hb dX12_best_355 (lv_at hl 2 rfl) ?_
      obtain ⟨q41, hc42, ho⟩ := bd_some ho
      refine bkI C0 hW (runV (As := [.int v9, .int v5]) (rest := []) C0 hW (c_m_spread l _ t v9 v5 (r := q41) hc42) ca_X12_spread_387 0 12 rfl rfl rfl rfl rfl ⟨rfl, rfl⟩ ⟨Nat.le_of_ble_eq_true rfl, Nat.le_of_ble_eq_true rfl⟩ (Nat.le_of_ble_eq_true rfl) hl.1 dX12_best_357 ⟨Nat.le_of_ble_eq_true rfl, Nat.le_of_ble_eq_true rfl⟩) (fun H locs hW => ?_)
      refine lv_istore (lv' := [(10, .int q41), (0, .ref (am 68)), (2, .int v2), (5, .int v5), (6, .int v6), (7, .int v7), (8, .int v8), (9, .int v9)]) hx hb dX12_best_360 hl (by decide) rfl (fun ls hl => ?_)
      refine lv_aload_n hx hb dX12_best_362 rfl (lv_at hl 1 rfl) ?_
      refine lv_iload hx hb dX12_best_363 (lv_at hl 0 rfl) ?_
      refine lv_iconst (v := (0 : Int32)) hx hb dX12_best_365 (by decide) ?_
      refine lv_iconst (v := (0 : Int32)) hx hb dX12_best_366 (by decide) ?_
      obtain ⟨q43, hc44, ho⟩ := bd_some ho
      refine bkI C0 hW (runV (As := [.int q41, .int (0 : Int32), .int (0 : Int32)]) (rest := []) C0 hW (c_m_sumOf l _ t q41 (0 : Int32) (0 : Int32) (r := q43) hc44) ca_X12_sumOf_304 0 12 rfl rfl rfl rfl rfl ⟨rfl, rfl⟩ ⟨Nat.le_of_ble_eq_true rfl, Nat.le_of_ble_eq_true rfl⟩ (Nat.le_of_ble_eq_true rfl) hl.1 dX12_best_367 ⟨Nat.le_of_ble_eq_true rfl, Nat.le_of_ble_eq_true rfl⟩) (fun H locs hW => ?_)
      refine lv_istore (lv' := [(11, .int q43), (10, .int q41), (0, .ref (am 68)), (2, .int v2), (5, .int v5), (6, .int v6), (7, .int v7), (8, .int v8), (9, .int v9)]) hx hb dX12_best_370 hl (by decide) rfl (fun ls hl => ?_)
      refine lv_aload_n hx hb dX12_best_372 rfl (lv_at hl 2 rfl) ?_
      refine lv_sipush (v := (402 : Int32)) hx hb dX12_best_373 (by decide) ?_
      refine lv_iload hx hb dX12_best_376 (lv_at hl 8 rfl) ?_
      refine lv_iadd hx hb dX12_best_378 ?_
      refine lv_sipush (v := (402 : Int32)) hx hb dX12_best_379 (by decide) ?_
      refine lv_iload hx hb dX12_best_382 (lv_at hl 6 rfl) ?_
      refine lv_iadd hx hb dX12_best_384 ?_
      obtain ⟨q45, hc46, ho⟩ := bd_some ho
      refine bkI C0 hW (runV (As := [.int ((402 : Int32) + v9), .int ((402 : Int32) + v7)]) (rest := []) C0 hW (c_m_against l _ t ((402 : Int32) + v9) ((402 : Int32) + v7) (r := q45) hc46) ca_X12_against_327 0 12 rfl rfl rfl rfl rfl ⟨rfl, rfl⟩ ⟨Nat.le_of_ble_eq_true rfl, Nat.le_of_ble_eq_true rfl⟩ (Nat.le_of_ble_eq_true rfl) hl.1 dX12_best_385 ⟨Nat.le_of_ble_eq_true rfl, Nat.le_of_ble_eq_true rfl⟩) (fun H locs hW => ?_)
      refine lv_istore (lv' := [(12, .int q45), (11, .int q43), (10, .int q41), (0, .ref (am 68)), (2, .int v2), (5, .int v5), (6, .int v6), (7, .int v7), (8, .int v8), (9, .int v9)]) hx hb dX12_best_388 hl (by decide) rfl (fun ls hl => ?_)
      refine lv_iload hx hb dX12_best_390 (lv_at hl 1 rfl) ?_
      refine lv_iload_n hx hb dX12_best_392 rfl (lv_at hl 4 rfl) ?_
      refine lv_icmp_gt (tgt := 441) hx hb dX12_best_393 (by decide) (fun c47 => ?_) (fun c47 => ?_)
      · replace ho := ite_t c47 ho
        obtain ⟨x48, ex48, ho⟩ := nm_x ho
        refine lv_iinc (v := x48) (lv' := [(9, .int x48), (12, .int q45), (11, .int q43), (10, .int q41), (0, .ref (am 68)), (2, .int v2), (5, .int v5), (6, .int v6), (7, .int v7), (8, .int v8)]) hx hb dX12_best_441 hl (k := 9) rfl (by rw [ex48]; rfl) (by decide) rfl (fun ls hl => ?_)
        clear ex48
        refine lv_goto (tgt := 345) hx hb dX12_best_444 (by decide) ?_
        cases ho
        exact ih _ _ _ hrun _ _ _ hW (lv_sub hl [4, 5, 6, 7, 8, 9, 0] rfl)
      · replace ho := ite_f c47 ho
        refine lv_iload hx hb dX12_best_396 (lv_at hl 0 rfl) ?_
        refine lv_if_gt (tgt := 433) hx hb dX12_best_398 (by decide) (fun c49 => ?_) (fun c49 => ?_)
        · replace ho := ite_t c49 ho
          exact J433 _ _ ho _ _ _ hW (lv_sub hl [3, 4, 5, 6, 9, 1] rfl)
        · replace ho := ite_f c49 ho
          refine lv_iload hx hb dX12_best_401 (lv_at hl 0 rfl) ?_
          refine lv_if_ne (tgt := 441) hx hb dX12_best_403 (by decide) (fun c50 => ?_) (fun c50 => ?_)
          · replace ho := ite_f c50 ho
            obtain ⟨x51, ex51, ho⟩ := nm_x ho
            refine lv_iinc (v := x51) (lv' := [(9, .int x51), (12, .int q45), (11, .int q43), (10, .int q41), (0, .ref (am 68)), (2, .int v2), (5, .int v5), (6, .int v6), (7, .int v7), (8, .int v8)]) hx hb dX12_best_441 hl (k := 9) rfl (by rw [ex51]; rfl) (by decide) rfl (fun ls hl => ?_)
            clear ex51
            refine lv_goto (tgt := 345) hx hb dX12_best_444 (by decide) ?_
            cases ho
            exact ih _ _ _ hrun _ _ _ hW (lv_sub hl [4, 5, 6, 7, 8, 9, 0] rfl)
          · replace ho := ite_t c50 ho
            refine lv_iload hx hb dX12_best_406 (lv_at hl 1 rfl) ?_
            refine lv_iload hx hb dX12_best_408 (lv_at hl 8 rfl) ?_
            refine lv_icmp_lt (tgt := 433) hx hb dX12_best_410 (by decide) (fun c52 => ?_) (fun c52 => ?_)
            · replace ho := ite_t c52 ho
              exact J433 _ _ ho _ _ _ hW (lv_sub hl [3, 4, 5, 6, 9, 1] rfl)
            · replace ho := ite_f c52 ho
              refine lv_iload hx hb dX12_best_413 (lv_at hl 1 rfl) ?_
              refine lv_iload hx hb dX12_best_415 (lv_at hl 8 rfl) ?_
              refine lv_icmp_ne (tgt := 441) hx hb dX12_best_417 (by decide) (fun c53 => ?_) (fun c53 => ?_)
              · replace ho := ite_f c53 ho
                obtain ⟨x54, ex54, ho⟩ := nm_x ho
                refine lv_iinc (v := x54) (lv' := [(9, .int x54), (12, .int q45), (11, .int q43), (10, .int q41), (0, .ref (am 68)), (2, .int v2), (5, .int v5), (6, .int v6), (7, .int v7), (8, .int v8)]) hx hb dX12_best_441 hl (k := 9) rfl (by rw [ex54]; rfl) (by decide) rfl (fun ls hl => ?_)
                clear ex54
                refine lv_goto (tgt := 345) hx hb dX12_best_444 (by decide) ?_
                cases ho
                exact ih _ _ _ hrun _ _ _ hW (lv_sub hl [4, 5, 6, 7, 8, 9, 0] rfl)
              · replace ho := ite_t c53 ho
                refine lv_iload hx hb dX12_best_420 (lv_at hl 2 rfl) ?_
                refine lv_aload_n hx hb dX12_best_422 rfl (lv_at hl 3 rfl) ?_
                refine lv_iload hx hb dX12_best_423 (lv_at hl 7 rfl) ?_
                refine lv_iload hx hb dX12_best_425 (lv_at hl 5 rfl) ?_
                obtain ⟨q55, hc56, ho⟩ := bd_some ho
                refine bkI C0 hW (runV (As := [.int v7, .int v5]) (rest := [.int q41]) C0 hW (c_m_spread l _ t v7 v5 (r := q55) hc56) ca_X12_spread_387 0 12 rfl rfl rfl rfl rfl ⟨rfl, rfl⟩ ⟨Nat.le_of_ble_eq_true rfl, Nat.le_of_ble_eq_true rfl⟩ (Nat.le_of_ble_eq_true rfl) hl.1 dX12_best_427 ⟨Nat.le_of_ble_eq_true rfl, Nat.le_of_ble_eq_true rfl⟩) (fun H locs hW => ?_)
                refine lv_icmp_ge (tgt := 441) hx hb dX12_best_430 (by decide) (fun c57 => ?_) (fun c57 => ?_)
                · replace ho := ite_t c57 ho
                  obtain ⟨x58, ex58, ho⟩ := nm_x ho
                  refine lv_iinc (v := x58) (lv' := [(9, .int x58), (12, .int q45), (11, .int q43), (10, .int q41), (0, .ref (am 68)), (2, .int v2), (5, .int v5), (6, .int v6), (7, .int v7), (8, .int v8)]) hx hb dX12_best_441 hl (k := 9) rfl (by rw [ex58]; rfl) (by decide) rfl (fun ls hl => ?_)
                  clear ex58
                  refine lv_goto (tgt := 345) hx hb dX12_best_444 (by decide) ?_
                  cases ho
                  exact ih _ _ _ hrun _ _ _ hW (lv_sub hl [4, 5, 6, 7, 8, 9, 0] rfl)
                · replace ho := ite_f c57 ho
                  exact J433 _ _ ho _ _ _ hW (lv_sub hl [3, 4, 5, 6, 9, 1] rfl)
set_option maxHeartbeats 4000000 in
set_option maxRecDepth 100000 in
theorem m_best_L184 {p : Program} {l : Launch} {e : Env} {s : State} {m : MethodId} {args : Array Value} {below : List Frame} {meth : Method} {c : Code} {Q : State → Prop} {D : va_G} {cI cJ cZ : ClassId} {am : Nat → Nat} {A : Nat → Prop} (C0 : cx p s m args meth c cX12_best RX12 13 (some .int) D (tyM cI cJ cZ) A) {v2 : Int32} {v5 : Int32} {v6 : Int32} {y : St} (hK0 : ∀ (H : Heap) (locs : List Loc) (ls : Array Slot), wl D A s (wM cI cJ cZ am y) H locs → lv_has ls 13 [(0, .ref (am 68)), (2, .int v2), (5, .int v5), (6, .int v6)] → W p l e (rmN 3 73) s m args below meth c H locs 0 0 Q (F0 m 336 ls [])) :
    ∀ (n : Nat) (v7 : Int32) (t : St), lpn (fun x => m_best_B184 v2 v5 v6 x.1 x.2) n (v7, t) = some y → ∀ (H : Heap) (locs : List Loc) (ls : Array Slot), wl D A s (wM cI cJ cZ am t) H locs → lv_has ls 13 [(0, .ref (am 68)), (2, .int v2), (5, .int v5), (6, .int v6), (7, .int v7)] → W p l e (rmN 3 73) s m args below meth c H locs 0 0 Q (F0 m 184 ls []) := by
  have hx := C0.1
  have hb := C0.2.1
  have hta := C0.2.2.2.2.2.1
  have hown := C0.2.2.2.2.1
  intro n
  induction n with
  | zero => intro _ _ h; cases h
  | succ n ih =>
    intro v7 t hrun H locs ls hW hl
    obtain ⟨o, ho, hrun⟩ := bd_some hrun
    unfold m_best_B184 at ho
    refine lv_iload hx hb dX12_best_184 (lv_at hl 4 rfl) ?_
    refine lv_iload hx hb dX12_best_186 (lv_at hl 2 rfl) ?_
    refine lv_icmp_ge (tgt := 336) hx hb dX12_best_188 (by decide) (fun c59 => ?_) (fun c59 => ?_)
    · replace ho := ite_t c59 ho
      cases ho
      cases hrun
      exact hK0 _ _ _ hW (lv_sub hl [0, 1, 2, 3] rfl)
    · replace ho := ite_f c59 ho
      refine lv_aload_n hx hb dX12_best_191 rfl (lv_at hl 0 rfl) ?_
      refine mGET_2 C0 hW dX12_best_192 ?_
      refine lv_aload_n hx hb dX12_best_195 rfl (lv_at hl 0 rfl) ?_
      refine mGET_44 C0 hW dX12_best_196 ?_
      refine lv_iload hx hb dX12_best_199 (lv_at hl 4 rfl) ?_
      obtain ⟨g60, ho⟩ := gd_some ho
      refine mLD_44 C0 hW g60 dX12_best_201 ?_
      obtain ⟨g61, ho⟩ := gd_some ho
      refine mLD_2 C0 hW g61 dX12_best_202 ?_
      refine lv_nmi ho (fun x62 ho => ?_)
      refine lv_istore (lv' := [(8, .int x62), (0, .ref (am 68)), (2, .int v2), (5, .int v5), (6, .int v6), (7, .int v7)]) hx hb dX12_best_203 hl (by decide) rfl (fun ls hl => ?_)
      refine lv_iload hx hb dX12_best_205 (lv_at hl 4 rfl) ?_
      refine lv_iconst (v := (1 : Int32)) hx hb dX12_best_207 (by decide) ?_
      refine lv_isub hx hb dX12_best_208 ?_
      refine lv_nmi ho (fun x63 ho => ?_)
      refine lv_istore (lv' := [(9, .int x63), (8, .int x62), (0, .ref (am 68)), (2, .int v2), (5, .int v5), (6, .int v6), (7, .int v7)]) hx hb dX12_best_209 hl (by decide) rfl (fun ls hl => ?_)
      obtain ⟨y64, hc66, ho⟩ := bd_some ho
      obtain ⟨ny64, hc66⟩ := lp_to hc66
      refine m_best_L211 C0 ?_ ny64 _ _ hc66 _ _ _ hW (lv_sub hl [2, 3, 4, 5, 6, 1, 0] rfl)
      intro H locs ls hW hl
      refine lv_iconst (v := (0 : Int32)) hx hb dX12_best_291 (by decide) ?_
      refine lv_istore (lv' := [(9, .int (0 : Int32)), (0, .ref (am 68)), (2, .int v2), (5, .int v5), (6, .int v6), (7, .int v7)]) hx hb dX12_best_292 hl (by decide) rfl (fun ls hl => ?_)
      obtain ⟨y67, hc69, ho⟩ := bd_some ho
      obtain ⟨ny67, hc69⟩ := lp_to hc69
      refine m_best_L294 C0 ?_ ny67 _ _ hc69 _ _ _ hW (lv_sub hl [1, 2, 3, 4, 5, 0] rfl)
      intro H locs ls hW hl
      obtain ⟨x70, ex70, ho⟩ := nm_x ho
      refine lv_iinc (v := x70) (lv' := [(7, .int x70), (0, .ref (am 68)), (2, .int v2), (5, .int v5), (6, .int v6)]) hx hb dX12_best_330 hl (k := 4) rfl (by rw [ex70]; rfl) (by decide) rfl (fun ls hl => ?_)
      clear ex70
      refine lv_goto (tgt := 184) hx hb dX12_best_333 (by decide) ?_
      cases ho
      exact ih _ _ hrun _ _ _ hW (lv_sub hl [1, 2, 3, 4, 0] rfl)
set_option maxHeartbeats 4000000 in
set_option maxRecDepth 100000 in
theorem c_m_best (l : Launch) {D : va_G} {cI cJ cZ : ClassId} {am : Nat → Nat} (sz : Nat) (t : St) (a1 : Int32) (a2 : Int32) {r : Int32} {t' : St} (ho : m_best t a1 a2 = some (r, t')) : Met l yX12_best (.code yX12_best cX12_best 13 (some .int) :: wsAll) (rmN 3 73) (va_Pc [.ref (am 68), .int a1, .int a2] (prW D (tyM cI cJ cZ) (wM cI cJ cZ am t) sz)) (qI r D (tyM cI cJ cZ) (wM cI cJ cZ am t') (va_A (wM cI cJ cZ am t) sz)) 0 0 (va_A (wM cI cJ cZ am t) sz) := by
  refine Met.ofW (cc := cX12_best) (maxL := 13) (ret := (some .int)) (by decide) rfl ?_
  intro p e s m args below meth c s₁ B hml hv
  obtain ⟨rfl, hsz, hP, hK, hD0⟩ := hv
  have hx := B.exec
  have hb := B.bytes
  have hts := atoms_spec (ws := (.code yX12_best cX12_best 13 (some .int) :: wsAll)) B.pre
  have hta := fun w h => hts w (List.mem_cons_of_mem _ h)
  have hown : s.vm.findClass RX12 = some m.cls := findClass_of_methodNamed B.named
  have hlocks := B.notSynchronized
  subst hsz
  have hD := hD0.self (sz := s.heap.size)
  generalize hAe : va_A (wM cI cJ cZ am t) s.heap.size = A at hD ⊢
  have hA : ∀ q : Nat, s.heap.size ≤ q → A q := fun q h => by rw [← hAe]; exact Or.inr h
  have C0 : cx p s m ([.ref (am 68), .int a1, .int a2].toArray) meth c cX12_best RX12 13 (some .int) D (tyM cI cJ cZ) A := ⟨hx, hb, B.returns, hml, hown, hta, hlocks, hK, hA⟩
  have hW : wl D A s (wM cI cJ cZ am t) s.heap [] := ⟨hP, hD, va_S.rf⟩
  have hl := lv_entry [.ref (am 68), .int a1, .int a2] (n := 13) (Nat.le_of_ble_eq_true rfl)
  rw [lg_entry_eq]
  generalize (lg_sl [.ref (am 68), .int a1, .int a2] ++ List.replicate (13 - (lg_sl [.ref (am 68), .int a1, .int a2]).length) Slot.unset).toArray = ls at hl ⊢
  have hl : lv_has ls 13 [(0, .ref (am 68)), (1, .int a1), (2, .int a2)] := hl
  unfold m_best at ho
  refine lv_aload_n hx hb dX12_best_0 rfl (lv_at hl 0 rfl) ?_
  refine lv_iload_n hx hb dX12_best_1 rfl (lv_at hl 1 rfl) ?_
  refine lv_iload_n hx hb dX12_best_2 rfl (lv_at hl 2 rfl) ?_
  refine lv_iconst (v := (0 : Int32)) hx hb dX12_best_3 (by decide) ?_
  refine lv_sipush (v := (16000 : Int32)) hx hb dX12_best_4 (by decide) ?_
  obtain ⟨q71, hc72, ho⟩ := bd_some ho
  refine bkZ C0 hW (runS (As := [.int a2, .int (0 : Int32), .int (16000 : Int32)]) (rest := [.int a1, .ref (am 68)]) C0 hW (c_m_in l _ t a2 (0 : Int32) (16000 : Int32) (r := q71) hc72) ca_X12_in_179 rfl rfl ⟨rfl, rfl⟩ ⟨Nat.le_of_ble_eq_true rfl, Nat.le_of_ble_eq_true rfl⟩ (Nat.le_of_ble_eq_true rfl) hl.1 dX12_best_7 ⟨Nat.le_of_ble_eq_true rfl, Nat.le_of_ble_eq_true rfl⟩) (fun z73 H locs hW => ?_)
  obtain ⟨q74, hc75, ho⟩ := bd_some ho
  refine bkI C0 hW (runV (As := [.int a1, .int q71]) (rest := []) C0 hW (c_m_why l _ t a1 q71 (r := q74) hc75) ca_X12_why_271 0 12 rfl rfl rfl rfl rfl ⟨rfl, rfl⟩ ⟨Nat.le_of_ble_eq_true rfl, Nat.le_of_ble_eq_true rfl⟩ (Nat.le_of_ble_eq_true rfl) hl.1 dX12_best_10 ⟨Nat.le_of_ble_eq_true rfl, Nat.le_of_ble_eq_true rfl⟩) (fun H locs hW => ?_)
  refine lv_istore_n (lv' := [(3, .int q74), (0, .ref (am 68)), (1, .int a1), (2, .int a2)]) hx hb dX12_best_13 rfl hl (by decide) rfl (fun ls hl => ?_)
  refine lv_iload_n hx hb dX12_best_14 rfl (lv_at hl 0 rfl) ?_
  refine lv_iconst (v := (1 : Int32)) hx hb dX12_best_15 (by decide) ?_
  refine lv_icmp_eq (tgt := 21) hx hb dX12_best_16 (by decide) (fun c76 => ?_) (fun c76 => ?_)
  · replace ho := ite_t c76 ho
    refine lv_aload_n hx hb dX12_best_21 rfl (lv_at hl 1 rfl) ?_
    refine mGET_15 C0 hW dX12_best_22 ?_
    refine lv_aload_n hx hb dX12_best_25 rfl (lv_at hl 1 rfl) ?_
    refine mGET_16 C0 hW dX12_best_26 ?_
    refine lv_iload_n hx hb dX12_best_29 rfl (lv_at hl 2 rfl) ?_
    obtain ⟨g77, ho⟩ := gd_some ho
    refine mLD_16 C0 hW g77 dX12_best_30 ?_
    obtain ⟨g78, ho⟩ := gd_some ho
    refine mLD_15 C0 hW g78 dX12_best_31 ?_
    obtain ⟨q79, hc80, ho⟩ := bd_some ho
    refine bkI C0 hW (runS (As := [.int (gA t 15 ((gA t 16 (a1).toNatClampNeg)).toNatClampNeg)]) (rest := []) C0 hW (c_m_sizeOf l _ t (gA t 15 ((gA t 16 (a1).toNatClampNeg)).toNatClampNeg) (r := q79) hc80) ca_X12_sizeOf_295 rfl rfl ⟨rfl, rfl⟩ ⟨Nat.le_of_ble_eq_true rfl, Nat.le_of_ble_eq_true rfl⟩ (Nat.le_of_ble_eq_true rfl) hl.1 dX12_best_32 ⟨Nat.le_of_ble_eq_true rfl, Nat.le_of_ble_eq_true rfl⟩) (fun H locs hW => ?_)
    refine lv_istore (lv' := [(4, .int q79), (3, .int q74), (0, .ref (am 68)), (1, .int a1), (2, .int a2)]) hx hb dX12_best_35 hl (by decide) rfl (fun ls hl => ?_)
    refine lv_iload hx hb dX12_best_37 (lv_at hl 0 rfl) ?_
    refine lv_bipush (v := (12 : Int32)) hx hb dX12_best_39 (by decide) ?_
    refine lv_icmp_le (tgt := 47) hx hb dX12_best_41 (by decide) (fun c81 => ?_) (fun c81 => ?_)
    · replace ho := ite_t c81 ho
      refine lv_aload_n hx hb dX12_best_47 rfl (lv_at hl 2 rfl) ?_
      refine lv_aload_n hx hb dX12_best_48 rfl (lv_at hl 2 rfl) ?_
      refine mGET_16 C0 hW dX12_best_49 ?_
      refine lv_iload_n hx hb dX12_best_52 rfl (lv_at hl 3 rfl) ?_
      obtain ⟨g82, ho⟩ := gd_some ho
      refine mLD_16 C0 hW g82 dX12_best_53 ?_
      obtain ⟨q83, hc84, ho⟩ := bd_some ho
      refine bkV C0 hW (runV (As := [.int (gA t 16 (a1).toNatClampNeg)]) (rest := []) C0 hW (c_m_diagrams l _ t (gA t 16 (a1).toNatClampNeg) (t' := q83) hc84) ca_X12_diagrams_363 0 12 rfl rfl rfl rfl rfl ⟨rfl, rfl⟩ ⟨Nat.le_of_ble_eq_true rfl, Nat.le_of_ble_eq_true rfl⟩ (Nat.le_of_ble_eq_true rfl) hl.1 dX12_best_54 ⟨Nat.le_of_ble_eq_true rfl, Nat.le_of_ble_eq_true rfl⟩) (fun H locs hW => ?_)
      refine lv_aload_n hx hb dX12_best_57 rfl (lv_at hl 2 rfl) ?_
      refine mGET_36 C0 hW dX12_best_58 ?_
      refine lv_iconst (v := (2 : Int32)) hx hb dX12_best_61 (by decide) ?_
      refine lv_isub hx hb dX12_best_62 ?_
      refine lv_sipush (v := (400 : Int32)) hx hb dX12_best_63 (by decide) ?_
      refine lv_icmp_le (tgt := 72) hx hb dX12_best_66 (by decide) (fun c85 => ?_) (fun c85 => ?_)
      · replace ho := ite_t c85 ho
        refine lv_iconst (v := (0 : Int32)) hx hb dX12_best_72 (by decide) ?_
        refine lv_istore (lv' := [(5, .int (0 : Int32)), (4, .int q79), (3, .int q74), (0, .ref (am 68)), (1, .int a1), (2, .int a2)]) hx hb dX12_best_73 hl (by decide) rfl (fun ls hl => ?_)
        refine lv_iconst (v := (0 : Int32)) hx hb dX12_best_75 (by decide) ?_
        refine lv_istore (lv' := [(6, .int (0 : Int32)), (5, .int (0 : Int32)), (4, .int q79), (3, .int q74), (0, .ref (am 68)), (1, .int a1), (2, .int a2)]) hx hb dX12_best_76 hl (by decide) rfl (fun ls hl => ?_)
        obtain ⟨y86, hc88, ho⟩ := bd_some ho
        obtain ⟨ny86, hc88⟩ := lp_to hc88
        refine m_best_L78 C0 ?_ ny86 _ _ _ hc88 _ _ _ hW (lv_sub hl [4, 5, 6, 1, 0] rfl)
        intro H locs ls hW hl
        refine lv_iconst (v := (1 : Int32)) hx hb dX12_best_123 (by decide) ?_
        refine lv_iload hx hb dX12_best_124 (lv_at hl 3 rfl) ?_
        refine lv_ishl hx hb dX12_best_126 ?_
        refine lv_nmi ho (fun x89 ho => ?_)
        refine lv_istore (lv' := [(6, .int x89), (0, .ref (am 68)), (1, .int a1), (2, .int a2), (5, .int y86.1)]) hx hb dX12_best_127 hl (by decide) rfl (fun ls hl => ?_)
        refine lv_iconst (v := (0 : Int32)) hx hb dX12_best_129 (by decide) ?_
        refine lv_istore (lv' := [(7, .int (0 : Int32)), (6, .int x89), (0, .ref (am 68)), (1, .int a1), (2, .int a2), (5, .int y86.1)]) hx hb dX12_best_130 hl (by decide) rfl (fun ls hl => ?_)
        obtain ⟨y90, hc92, ho⟩ := bd_some ho
        obtain ⟨ny90, hc92⟩ := lp_to hc92
        refine m_best_L132 C0 ?_ ny90 _ _ hc92 _ _ _ hW (lv_sub hl [2, 3, 4, 5, 1, 0] rfl)
        intro H locs ls hW hl
        refine lv_iconst (v := (0 : Int32)) hx hb dX12_best_181 (by decide) ?_
        refine lv_istore (lv' := [(7, .int (0 : Int32)), (0, .ref (am 68)), (2, .int a2), (5, .int y86.1), (6, .int x89)]) hx hb dX12_best_182 hl (by decide) rfl (fun ls hl => ?_)
        obtain ⟨y93, hc95, ho⟩ := bd_some ho
        obtain ⟨ny93, hc95⟩ := lp_to hc95
        refine m_best_L184 C0 ?_ ny93 _ _ hc95 _ _ _ hW (lv_sub hl [1, 2, 3, 4, 0] rfl)
        intro H locs ls hW hl
        refine lv_iconst (v := (0 : Int32)) hx hb dX12_best_336 (by decide) ?_
        refine lv_istore (lv' := [(7, .int (0 : Int32)), (0, .ref (am 68)), (2, .int a2), (5, .int y86.1), (6, .int x89)]) hx hb dX12_best_337 hl (by decide) rfl (fun ls hl => ?_)
        refine lv_iconst (v := (0 : Int32)) hx hb dX12_best_339 (by decide) ?_
        refine lv_istore (lv' := [(8, .int (0 : Int32)), (7, .int (0 : Int32)), (0, .ref (am 68)), (2, .int a2), (5, .int y86.1), (6, .int x89)]) hx hb dX12_best_340 hl (by decide) rfl (fun ls hl => ?_)
        refine lv_iconst (v := (1 : Int32)) hx hb dX12_best_342 (by decide) ?_
        refine lv_istore (lv' := [(9, .int (1 : Int32)), (8, .int (0 : Int32)), (7, .int (0 : Int32)), (0, .ref (am 68)), (2, .int a2), (5, .int y86.1), (6, .int x89)]) hx hb dX12_best_343 hl (by decide) rfl (fun ls hl => ?_)
        obtain ⟨y96, hc98, ho⟩ := bd_some ho
        obtain ⟨ny96, hc98⟩ := lp_to hc98
        refine m_best_L345 C0 ?_ ny96 _ _ _ hc98 _ _ _ hW (lv_sub hl [3, 4, 5, 6, 2, 1, 0] rfl)
        intro H locs ls hW hl
        refine lv_aload_n hx hb dX12_best_447 rfl (lv_at hl 0 rfl) ?_
        refine lv_sipush (v := (4505 : Int32)) hx hb dX12_best_448 (by decide) ?_
        refine lv_iload hx hb dX12_best_451 (lv_at hl 1 rfl) ?_
        obtain ⟨q99, hc100, ho⟩ := bd_some ho
        refine bkV C0 hW (runV (As := [.int (4505 : Int32), .int y86.1]) (rest := []) C0 hW (c_m_wholes l _ y93 (4505 : Int32) y86.1 (t' := q99) hc100) ca_X12_wholes_381 0 12 rfl rfl rfl rfl rfl ⟨rfl, rfl⟩ ⟨Nat.le_of_ble_eq_true rfl, Nat.le_of_ble_eq_true rfl⟩ (Nat.le_of_ble_eq_true rfl) hl.1 dX12_best_453 ⟨Nat.le_of_ble_eq_true rfl, Nat.le_of_ble_eq_true rfl⟩) (fun H locs hW => ?_)
        refine lv_aload_n hx hb dX12_best_456 rfl (lv_at hl 0 rfl) ?_
        refine lv_sipush (v := (4507 : Int32)) hx hb dX12_best_457 (by decide) ?_
        refine lv_sipush (v := (402 : Int32)) hx hb dX12_best_460 (by decide) ?_
        refine lv_iload hx hb dX12_best_463 (lv_at hl 2 rfl) ?_
        refine lv_iadd hx hb dX12_best_465 ?_
        obtain ⟨q101, hc102, ho⟩ := bd_some ho
        refine bkV C0 hW (runV (As := [.int (4507 : Int32), .int ((402 : Int32) + y96)]) (rest := []) C0 hW (c_m_takes l _ q99 (4507 : Int32) ((402 : Int32) + y96) (t' := q101) hc102) ca_X12_takes_333 0 12 rfl rfl rfl rfl rfl ⟨rfl, rfl⟩ ⟨Nat.le_of_ble_eq_true rfl, Nat.le_of_ble_eq_true rfl⟩ (Nat.le_of_ble_eq_true rfl) hl.1 dX12_best_466 ⟨Nat.le_of_ble_eq_true rfl, Nat.le_of_ble_eq_true rfl⟩) (fun H locs hW => ?_)
        refine lv_aload_n hx hb dX12_best_469 rfl (lv_at hl 0 rfl) ?_
        refine lv_sipush (v := (4507 : Int32)) hx hb dX12_best_470 (by decide) ?_
        refine lv_sipush (v := (4505 : Int32)) hx hb dX12_best_473 (by decide) ?_
        obtain ⟨q103, hc104, ho⟩ := bd_some ho
        refine bkV C0 hW (runV (As := [.int (4507 : Int32), .int (4505 : Int32)]) (rest := []) C0 hW (c_m_tells l _ q101 (4507 : Int32) (4505 : Int32) (t' := q103) hc104) ca_X12_tells_384 0 12 rfl rfl rfl rfl rfl ⟨rfl, rfl⟩ ⟨Nat.le_of_ble_eq_true rfl, Nat.le_of_ble_eq_true rfl⟩ (Nat.le_of_ble_eq_true rfl) hl.1 dX12_best_476 ⟨Nat.le_of_ble_eq_true rfl, Nat.le_of_ble_eq_true rfl⟩) (fun H locs hW => ?_)
        refine lv_aload_n hx hb dX12_best_479 rfl (lv_at hl 0 rfl) ?_
        refine lv_iload hx hb dX12_best_480 (lv_at hl 2 rfl) ?_
        refine lv_iload hx hb dX12_best_482 (lv_at hl 1 rfl) ?_
        obtain ⟨q105, hc106, ho⟩ := bd_some ho
        refine bkI C0 hW (runV (As := [.int y96, .int y86.1]) (rest := []) C0 hW (c_m_spread l _ q103 y96 y86.1 (r := q105) hc106) ca_X12_spread_387 0 12 rfl rfl rfl rfl rfl ⟨rfl, rfl⟩ ⟨Nat.le_of_ble_eq_true rfl, Nat.le_of_ble_eq_true rfl⟩ (Nat.le_of_ble_eq_true rfl) hl.1 dX12_best_484 ⟨Nat.le_of_ble_eq_true rfl, Nat.le_of_ble_eq_true rfl⟩) (fun H locs hW => ?_)
        cases ho
        exact rtI C0 hW dX12_best_487
      · replace ho := ite_f c85 ho
        refine lv_bipush (v := (-5 : Int32)) hx hb dX12_best_69 (by decide) ?_
        cases ho
        exact rtI C0 hW dX12_best_71
    · replace ho := ite_f c81 ho
      refine lv_bipush (v := (-3 : Int32)) hx hb dX12_best_44 (by decide) ?_
      cases ho
      exact rtI C0 hW dX12_best_46
  · replace ho := ite_f c76 ho
    refine lv_iload_n hx hb dX12_best_19 rfl (lv_at hl 0 rfl) ?_
    cases ho
    exact rtI C0 hW dX12_best_20
