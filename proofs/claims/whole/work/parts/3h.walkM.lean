noncomputable def m_differ_B37 (t : St) (v1 : Int32) (v3 : Int32) (v2 : Int32) (v4 : Int32) : Option ((Int32 × Int32) ⊕ (Int32)) :=
  if (5 : Int32) ≤ v4 then (some (.inr v2)) else (gd ((((80 : Int32) * v1) + ((5 : Int32) * v3)) + v4) 160 ((m_stepOf t v3 v4).bind (fun q3 => if (gA t 67 (((((80 : Int32) * v1) + ((5 : Int32) * v3)) + v4)).toNatClampNeg) = q3 then (nm (v2 ||| (0 : Int32)) (fun x6 : Int32 => nm (v4 + (1 : Int32)) (fun x7 : Int32 => some (.inl (x6, x7))))) else (nm (v2 ||| ((1 : Int32) <<< (v3 &&& 31))) (fun x8 : Int32 => nm (v4 + (1 : Int32)) (fun x9 : Int32 => some (.inl (x8, x9))))))))
noncomputable def m_differ_B28 (t : St) (v1 : Int32) (v2 : Int32) (v3 : Int32) : Option ((Int32 × Int32) ⊕ (Int32)) :=
  if (16 : Int32) ≤ v3 then (some (.inr v2)) else ((lp (fun x => m_differ_B37 t v1 v3 x.1 x.2) (v2, (0 : Int32))).bind (fun y11 => nm (v3 + (1 : Int32)) (fun x14 : Int32 => some (.inl (y11, x14)))))
noncomputable def m_differ (t : St) (a1 : Int32) : Option (Int32) :=
  (m_in t a1 (0 : Int32) (1 : Int32)).bind (fun q15 => if q15 = 0 then (some (-2 : Int32)) else (gd a1 2 (if (gA t 66 (a1).toNatClampNeg) = 0 then (some (-3 : Int32)) else ((lp (fun x => m_differ_B28 t a1 x.1 x.2) ((0 : Int32), (0 : Int32))).bind (fun y21 => some y21)))))
set_option maxHeartbeats 4000000 in
set_option maxRecDepth 100000 in
theorem m_differ_L37 {p : Program} {l : Launch} {e : Env} {s : State} {m : MethodId} {args : Array Value} {below : List Frame} {meth : Method} {c : Code} {Q : State → Prop} {D : va_G} {cI cJ cZ : ClassId} {am : Nat → Nat} {A : Nat → Prop} (C0 : cx p s m args meth c cX12_differ RX12 5 (some .int) D (tyM cI cJ cZ) A) {t : St} {v1 : Int32} {v3 : Int32} {y : Int32} (hK0 : ∀ (H : Heap) (locs : List Loc) (ls : Array Slot), wl D A s (wM cI cJ cZ am t) H locs → lv_has ls 5 [(0, .ref (am 68)), (1, .int v1), (2, .int y), (3, .int v3)] → W p l e (rmN 1 22) s m args below meth c H locs 0 0 Q (F0 m 85 ls [])) :
    ∀ (n : Nat) (v2 : Int32) (v4 : Int32), lpn (fun x => m_differ_B37 t v1 v3 x.1 x.2) n (v2, v4) = some y → ∀ (H : Heap) (locs : List Loc) (ls : Array Slot), wl D A s (wM cI cJ cZ am t) H locs → lv_has ls 5 [(0, .ref (am 68)), (1, .int v1), (2, .int v2), (3, .int v3), (4, .int v4)] → W p l e (rmN 1 22) s m args below meth c H locs 0 0 Q (F0 m 37 ls []) := by
  have hx := C0.1
  have hb := C0.2.1
  have hta := C0.2.2.2.2.2.1
  have hown := C0.2.2.2.2.1
  intro n
  induction n with
  | zero => intro _ _ h; cases h
  | succ n ih =>
    intro v2 v4 hrun H locs ls hW hl
    obtain ⟨o, ho, hrun⟩ := bd_some hrun
    unfold m_differ_B37 at ho
    refine lv_iload hx hb dX12_differ_37 (lv_at hl 4 rfl) ?_
    refine lv_iconst (v := (5 : Int32)) hx hb dX12_differ_39 (by decide) ?_
    refine lv_icmp_ge (tgt := 85) hx hb dX12_differ_40 (by decide) (fun c1 => ?_) (fun c1 => ?_)
    · replace ho := ite_t c1 ho
      cases ho
      cases hrun
      exact hK0 _ _ _ hW (lv_sub hl [0, 1, 2, 3] rfl)
    · replace ho := ite_f c1 ho
      refine lv_iload_n hx hb dX12_differ_43 rfl (lv_at hl 2 rfl) ?_
      refine lv_aload_n hx hb dX12_differ_44 rfl (lv_at hl 0 rfl) ?_
      refine mGET_67 C0 hW dX12_differ_45 ?_
      refine lv_bipush (v := (80 : Int32)) hx hb dX12_differ_48 (by decide) ?_
      refine lv_iload_n hx hb dX12_differ_50 rfl (lv_at hl 1 rfl) ?_
      refine lv_imul hx hb dX12_differ_51 ?_
      refine lv_iconst (v := (5 : Int32)) hx hb dX12_differ_52 (by decide) ?_
      refine lv_iload_n hx hb dX12_differ_53 rfl (lv_at hl 3 rfl) ?_
      refine lv_imul hx hb dX12_differ_54 ?_
      refine lv_iadd hx hb dX12_differ_55 ?_
      refine lv_iload hx hb dX12_differ_56 (lv_at hl 4 rfl) ?_
      refine lv_iadd hx hb dX12_differ_58 ?_
      obtain ⟨g2, ho⟩ := gd_some ho
      refine mLD_67 C0 hW g2 dX12_differ_59 ?_
      refine lv_aload_n hx hb dX12_differ_60 rfl (lv_at hl 0 rfl) ?_
      refine lv_iload_n hx hb dX12_differ_61 rfl (lv_at hl 3 rfl) ?_
      refine lv_iload hx hb dX12_differ_62 (lv_at hl 4 rfl) ?_
      obtain ⟨q3, hc4, ho⟩ := bd_some ho
      refine bkI C0 hW (runV (As := [.int v3, .int v4]) (rest := [.int (gA t 67 (((((80 : Int32) * v1) + ((5 : Int32) * v3)) + v4)).toNatClampNeg), .int v2]) C0 hW (c_m_stepOf l _ t v3 v4 (r := q3) hc4) ca_X12_stepOf_187 0 12 rfl rfl rfl rfl rfl ⟨rfl, rfl⟩ ⟨Nat.le_of_ble_eq_true rfl, Nat.le_of_ble_eq_true rfl⟩ (Nat.le_of_ble_eq_true rfl) hl.1 dX12_differ_64 ⟨Nat.le_of_ble_eq_true rfl, Nat.le_of_ble_eq_true rfl⟩) (fun H locs hW => ?_)
      refine lv_icmp_eq (tgt := 76) hx hb dX12_differ_67 (by decide) (fun c5 => ?_) (fun c5 => ?_)
      · replace ho := ite_t c5 ho
        refine lv_iconst (v := (0 : Int32)) hx hb dX12_differ_76 (by decide) ?_
        refine lv_ior hx hb dX12_differ_77 ?_
        refine lv_nmi ho (fun x6 ho => ?_)
        refine lv_istore_n (lv' := [(2, .int x6), (0, .ref (am 68)), (1, .int v1), (3, .int v3), (4, .int v4)]) hx hb dX12_differ_78 rfl hl (by decide) rfl (fun ls hl => ?_)
        obtain ⟨x7, ex7, ho⟩ := nm_x ho
        refine lv_iinc (v := x7) (lv' := [(4, .int x7), (2, .int x6), (0, .ref (am 68)), (1, .int v1), (3, .int v3)]) hx hb dX12_differ_79 hl (k := 4) rfl (by rw [ex7]; rfl) (by decide) rfl (fun ls hl => ?_)
        clear ex7
        refine lv_goto (tgt := 37) hx hb dX12_differ_82 (by decide) ?_
        cases ho
        exact ih _ _ hrun _ _ _ hW (lv_sub hl [2, 3, 1, 4, 0] rfl)
      · replace ho := ite_f c5 ho
        refine lv_iconst (v := (1 : Int32)) hx hb dX12_differ_70 (by decide) ?_
        refine lv_iload_n hx hb dX12_differ_71 rfl (lv_at hl 3 rfl) ?_
        refine lv_ishl hx hb dX12_differ_72 ?_
        refine lv_goto (tgt := 77) hx hb dX12_differ_73 (by decide) ?_
        refine lv_ior hx hb dX12_differ_77 ?_
        refine lv_nmi ho (fun x8 ho => ?_)
        refine lv_istore_n (lv' := [(2, .int x8), (0, .ref (am 68)), (1, .int v1), (3, .int v3), (4, .int v4)]) hx hb dX12_differ_78 rfl hl (by decide) rfl (fun ls hl => ?_)
        obtain ⟨x9, ex9, ho⟩ := nm_x ho
        refine lv_iinc (v := x9) (lv' := [(4, .int x9), (2, .int x8), (0, .ref (am 68)), (1, .int v1), (3, .int v3)]) hx hb dX12_differ_79 hl (k := 4) rfl (by rw [ex9]; rfl) (by decide) rfl (fun ls hl => ?_)
        clear ex9
        refine lv_goto (tgt := 37) hx hb dX12_differ_82 (by decide) ?_
        cases ho
        exact ih _ _ hrun _ _ _ hW (lv_sub hl [2, 3, 1, 4, 0] rfl)
set_option maxHeartbeats 4000000 in
set_option maxRecDepth 100000 in
theorem m_differ_L28 {p : Program} {l : Launch} {e : Env} {s : State} {m : MethodId} {args : Array Value} {below : List Frame} {meth : Method} {c : Code} {Q : State → Prop} {D : va_G} {cI cJ cZ : ClassId} {am : Nat → Nat} {A : Nat → Prop} (C0 : cx p s m args meth c cX12_differ RX12 5 (some .int) D (tyM cI cJ cZ) A) {t : St} {v1 : Int32} {y : Int32} (hK0 : ∀ (H : Heap) (locs : List Loc) (ls : Array Slot), wl D A s (wM cI cJ cZ am t) H locs → lv_has ls 5 [(0, .ref (am 68)), (2, .int y)] → W p l e (rmN 1 22) s m args below meth c H locs 0 0 Q (F0 m 91 ls [])) :
    ∀ (n : Nat) (v2 : Int32) (v3 : Int32), lpn (fun x => m_differ_B28 t v1 x.1 x.2) n (v2, v3) = some y → ∀ (H : Heap) (locs : List Loc) (ls : Array Slot), wl D A s (wM cI cJ cZ am t) H locs → lv_has ls 5 [(0, .ref (am 68)), (1, .int v1), (2, .int v2), (3, .int v3)] → W p l e (rmN 1 22) s m args below meth c H locs 0 0 Q (F0 m 28 ls []) := by
  have hx := C0.1
  have hb := C0.2.1
  have hta := C0.2.2.2.2.2.1
  have hown := C0.2.2.2.2.1
  intro n
  induction n with
  | zero => intro _ _ h; cases h
  | succ n ih =>
    intro v2 v3 hrun H locs ls hW hl
    obtain ⟨o, ho, hrun⟩ := bd_some hrun
    unfold m_differ_B28 at ho
    refine lv_iload_n hx hb dX12_differ_28 rfl (lv_at hl 3 rfl) ?_
    refine lv_bipush (v := (16 : Int32)) hx hb dX12_differ_29 (by decide) ?_
    refine lv_icmp_ge (tgt := 91) hx hb dX12_differ_31 (by decide) (fun c10 => ?_) (fun c10 => ?_)
    · replace ho := ite_t c10 ho
      cases ho
      cases hrun
      exact hK0 _ _ _ hW (lv_sub hl [0, 2] rfl)
    · replace ho := ite_f c10 ho
      refine lv_iconst (v := (0 : Int32)) hx hb dX12_differ_34 (by decide) ?_
      refine lv_istore (lv' := [(4, .int (0 : Int32)), (0, .ref (am 68)), (1, .int v1), (2, .int v2), (3, .int v3)]) hx hb dX12_differ_35 hl (by decide) rfl (fun ls hl => ?_)
      obtain ⟨y11, hc13, ho⟩ := bd_some ho
      obtain ⟨ny11, hc13⟩ := lp_to hc13
      refine m_differ_L37 C0 ?_ ny11 _ _ hc13 _ _ _ hW (lv_sub hl [1, 2, 3, 4, 0] rfl)
      intro H locs ls hW hl
      obtain ⟨x14, ex14, ho⟩ := nm_x ho
      refine lv_iinc (v := x14) (lv' := [(3, .int x14), (0, .ref (am 68)), (1, .int v1), (2, .int y11)]) hx hb dX12_differ_85 hl (k := 3) rfl (by rw [ex14]; rfl) (by decide) rfl (fun ls hl => ?_)
      clear ex14
      refine lv_goto (tgt := 28) hx hb dX12_differ_88 (by decide) ?_
      cases ho
      exact ih _ _ hrun _ _ _ hW (lv_sub hl [1, 2, 3, 0] rfl)
set_option maxHeartbeats 4000000 in
set_option maxRecDepth 100000 in
theorem c_m_differ (l : Launch) {D : va_G} {cI cJ cZ : ClassId} {am : Nat → Nat} (sz : Nat) (t : St) (a1 : Int32) {r : Int32} (ho : m_differ t a1 = some r) : Met l yX12_differ (.code yX12_differ cX12_differ 5 (some .int) :: wsAll) (rmN 1 22) (va_Pc [.ref (am 68), .int a1] (prW D (tyM cI cJ cZ) (wM cI cJ cZ am t) sz)) (qI r D (tyM cI cJ cZ) (wM cI cJ cZ am t) (va_A (wM cI cJ cZ am t) sz)) 0 0 (va_A (wM cI cJ cZ am t) sz) := by
  refine Met.ofW (cc := cX12_differ) (maxL := 5) (ret := (some .int)) (by decide) rfl ?_
  intro p e s m args below meth c s₁ B hml hv
  obtain ⟨rfl, hsz, hP, hK, hD0⟩ := hv
  have hx := B.exec
  have hb := B.bytes
  have hts := atoms_spec (ws := (.code yX12_differ cX12_differ 5 (some .int) :: wsAll)) B.pre
  have hta := fun w h => hts w (List.mem_cons_of_mem _ h)
  have hown : s.vm.findClass RX12 = some m.cls := findClass_of_methodNamed B.named
  have hlocks := B.notSynchronized
  subst hsz
  have hD := hD0.self (sz := s.heap.size)
  generalize hAe : va_A (wM cI cJ cZ am t) s.heap.size = A at hD ⊢
  have hA : ∀ q : Nat, s.heap.size ≤ q → A q := fun q h => by rw [← hAe]; exact Or.inr h
  have C0 : cx p s m ([.ref (am 68), .int a1].toArray) meth c cX12_differ RX12 5 (some .int) D (tyM cI cJ cZ) A := ⟨hx, hb, B.returns, hml, hown, hta, hlocks, hK, hA⟩
  have hW : wl D A s (wM cI cJ cZ am t) s.heap [] := ⟨hP, hD, va_S.rf⟩
  have hl := lv_entry [.ref (am 68), .int a1] (n := 5) (Nat.le_of_ble_eq_true rfl)
  rw [lg_entry_eq]
  generalize (lg_sl [.ref (am 68), .int a1] ++ List.replicate (5 - (lg_sl [.ref (am 68), .int a1]).length) Slot.unset).toArray = ls at hl ⊢
  have hl : lv_has ls 5 [(0, .ref (am 68)), (1, .int a1)] := hl
  unfold m_differ at ho
  refine lv_iload_n hx hb dX12_differ_0 rfl (lv_at hl 1 rfl) ?_
  refine lv_iconst (v := (0 : Int32)) hx hb dX12_differ_1 (by decide) ?_
  refine lv_iconst (v := (1 : Int32)) hx hb dX12_differ_2 (by decide) ?_
  obtain ⟨q15, hc16, ho⟩ := bd_some ho
  refine bkZ C0 hW (runS (As := [.int a1, .int (0 : Int32), .int (1 : Int32)]) (rest := []) C0 hW (c_m_in l _ t a1 (0 : Int32) (1 : Int32) (r := q15) hc16) ca_X12_in_179 rfl rfl ⟨rfl, rfl⟩ ⟨Nat.le_of_ble_eq_true rfl, Nat.le_of_ble_eq_true rfl⟩ (Nat.le_of_ble_eq_true rfl) hl.1 dX12_differ_3 ⟨Nat.le_of_ble_eq_true rfl, Nat.le_of_ble_eq_true rfl⟩) (fun z17 H locs hW => ?_)
  refine lv_if_ne (tgt := 12) hx hb dX12_differ_6 (by decide) (fun c18 => ?_) (fun c18 => ?_)
  · replace ho := ite_f c18 ho
    refine lv_aload_n hx hb dX12_differ_12 rfl (lv_at hl 0 rfl) ?_
    refine mGET_66 C0 hW dX12_differ_13 ?_
    refine lv_iload_n hx hb dX12_differ_16 rfl (lv_at hl 1 rfl) ?_
    obtain ⟨g19, ho⟩ := gd_some ho
    refine mLD_66 C0 hW g19 dX12_differ_17 ?_
    refine lv_if_ne (tgt := 24) hx hb dX12_differ_18 (by decide) (fun c20 => ?_) (fun c20 => ?_)
    · replace ho := ite_f c20 ho
      refine lv_iconst (v := (0 : Int32)) hx hb dX12_differ_24 (by decide) ?_
      refine lv_istore_n (lv' := [(2, .int (0 : Int32)), (0, .ref (am 68)), (1, .int a1)]) hx hb dX12_differ_25 rfl hl (by decide) rfl (fun ls hl => ?_)
      refine lv_iconst (v := (0 : Int32)) hx hb dX12_differ_26 (by decide) ?_
      refine lv_istore_n (lv' := [(3, .int (0 : Int32)), (2, .int (0 : Int32)), (0, .ref (am 68)), (1, .int a1)]) hx hb dX12_differ_27 rfl hl (by decide) rfl (fun ls hl => ?_)
      obtain ⟨y21, hc23, ho⟩ := bd_some ho
      obtain ⟨ny21, hc23⟩ := lp_to hc23
      refine m_differ_L28 C0 ?_ ny21 _ _ hc23 _ _ _ hW (lv_sub hl [2, 3, 1, 0] rfl)
      intro H locs ls hW hl
      refine lv_iload_n hx hb dX12_differ_91 rfl (lv_at hl 1 rfl) ?_
      cases ho
      exact rtI C0 hW dX12_differ_92
    · replace ho := ite_t c20 ho
      refine lv_bipush (v := (-3 : Int32)) hx hb dX12_differ_21 (by decide) ?_
      cases ho
      exact rtI C0 hW dX12_differ_23
  · replace ho := ite_t c18 ho
    refine lv_bipush (v := (-2 : Int32)) hx hb dX12_differ_9 (by decide) ?_
    cases ho
    exact rtI C0 hW dX12_differ_11
noncomputable def m_from_B26 (v1 : Int32) (v2 : Int32) (t : St) : Option ((Int32 × St) ⊕ (St)) :=
  if (16 : Int32) ≤ v2 then (some (.inr t)) else (nm (((80 : Int32) * v1) + ((5 : Int32) * v2)) (fun x2 : Int32 => gd x2 160 (gd v2 16 (nm (sA t 0 v2 (gA t 67 (x2).toNatClampNeg)) (fun t5 : St => gd (x2 + (1 : Int32)) 160 (gd v2 16 (nm (sA t5 1 v2 (gA t5 67 ((x2 + (1 : Int32))).toNatClampNeg)) (fun t8 : St => gd (x2 + (2 : Int32)) 160 (gd v2 16 (nm (sA t8 2 v2 (gA t8 67 ((x2 + (2 : Int32))).toNatClampNeg)) (fun t11 : St => gd (x2 + (3 : Int32)) 160 (gd v2 16 (nm (sA t11 3 v2 (gA t11 67 ((x2 + (3 : Int32))).toNatClampNeg)) (fun t14 : St => gd (x2 + (4 : Int32)) 160 (gd v2 16 (nm (sA t14 4 v2 (gA t14 67 ((x2 + (4 : Int32))).toNatClampNeg)) (fun t17 : St => nm (v2 + (1 : Int32)) (fun x18 : Int32 => some (.inl (x18, t17))))))))))))))))))))
noncomputable def m_from (t : St) (a1 : Int32) : Option (Int32 × St) :=
  (m_in t a1 (0 : Int32) (1 : Int32)).bind (fun q19 => if q19 = 0 then (some ((-2 : Int32), t)) else (gd a1 2 (if (gA t 66 (a1).toNatClampNeg) = 0 then (some ((-3 : Int32), t)) else ((lp (fun x => m_from_B26 a1 x.1 x.2) ((0 : Int32), t)).bind (fun y25 => some ((1 : Int32), y25))))))
set_option maxHeartbeats 4000000 in
set_option maxRecDepth 100000 in
theorem m_from_L26 {p : Program} {l : Launch} {e : Env} {s : State} {m : MethodId} {args : Array Value} {below : List Frame} {meth : Method} {c : Code} {Q : State → Prop} {D : va_G} {cI cJ cZ : ClassId} {am : Nat → Nat} {A : Nat → Prop} (C0 : cx p s m args meth c cX12_from RX12 4 (some .int) D (tyM cI cJ cZ) A) {v1 : Int32} {y : St} (hK0 : ∀ (H : Heap) (locs : List Loc) (ls : Array Slot), wl D A s (wM cI cJ cZ am y) H locs → lv_has ls 4 [(0, .ref (am 68))] → W p l e (rmN 1 22) s m args below meth c H locs 0 0 Q (F0 m 115 ls [])) :
    ∀ (n : Nat) (v2 : Int32) (t : St), lpn (fun x => m_from_B26 v1 x.1 x.2) n (v2, t) = some y → ∀ (H : Heap) (locs : List Loc) (ls : Array Slot), wl D A s (wM cI cJ cZ am t) H locs → lv_has ls 4 [(0, .ref (am 68)), (1, .int v1), (2, .int v2)] → W p l e (rmN 1 22) s m args below meth c H locs 0 0 Q (F0 m 26 ls []) := by
  have hx := C0.1
  have hb := C0.2.1
  have hta := C0.2.2.2.2.2.1
  have hown := C0.2.2.2.2.1
  intro n
  induction n with
  | zero => intro _ _ h; cases h
  | succ n ih =>
    intro v2 t hrun H locs ls hW hl
    obtain ⟨o, ho, hrun⟩ := bd_some hrun
    unfold m_from_B26 at ho
    refine lv_iload_n hx hb dX12_from_26 rfl (lv_at hl 2 rfl) ?_
    refine lv_bipush (v := (16 : Int32)) hx hb dX12_from_27 (by decide) ?_
    refine lv_icmp_ge (tgt := 115) hx hb dX12_from_29 (by decide) (fun c1 => ?_) (fun c1 => ?_)
    · replace ho := ite_t c1 ho
      cases ho
      cases hrun
      exact hK0 _ _ _ hW (lv_sub hl [0] rfl)
    · replace ho := ite_f c1 ho
      refine lv_bipush (v := (80 : Int32)) hx hb dX12_from_32 (by decide) ?_
      refine lv_iload_n hx hb dX12_from_34 rfl (lv_at hl 1 rfl) ?_
      refine lv_imul hx hb dX12_from_35 ?_
      refine lv_iconst (v := (5 : Int32)) hx hb dX12_from_36 (by decide) ?_
      refine lv_iload_n hx hb dX12_from_37 rfl (lv_at hl 2 rfl) ?_
      refine lv_imul hx hb dX12_from_38 ?_
      refine lv_iadd hx hb dX12_from_39 ?_
      refine lv_nmi ho (fun x2 ho => ?_)
      refine lv_istore_n (lv' := [(3, .int x2), (0, .ref (am 68)), (1, .int v1), (2, .int v2)]) hx hb dX12_from_40 rfl hl (by decide) rfl (fun ls hl => ?_)
      refine lv_aload_n hx hb dX12_from_41 rfl (lv_at hl 1 rfl) ?_
      refine mGET_0 C0 hW dX12_from_42 ?_
      refine lv_iload_n hx hb dX12_from_45 rfl (lv_at hl 3 rfl) ?_
      refine lv_aload_n hx hb dX12_from_46 rfl (lv_at hl 1 rfl) ?_
      refine mGET_67 C0 hW dX12_from_47 ?_
      refine lv_iload_n hx hb dX12_from_50 rfl (lv_at hl 0 rfl) ?_
      obtain ⟨g3, ho⟩ := gd_some ho
      refine mLD_67 C0 hW g3 dX12_from_51 ?_
      obtain ⟨g4, ho⟩ := gd_some ho
      refine mST_0 C0 hW g4 dX12_from_52 (fun H locs hW => ?_)
      obtain ⟨t5, ho, hW⟩ := nm_w (P := fun t => wl D A s (wM cI cJ cZ am t) H locs) ho hW
      refine lv_aload_n hx hb dX12_from_53 rfl (lv_at hl 1 rfl) ?_
      refine mGET_1 C0 hW dX12_from_54 ?_
      refine lv_iload_n hx hb dX12_from_57 rfl (lv_at hl 3 rfl) ?_
      refine lv_aload_n hx hb dX12_from_58 rfl (lv_at hl 1 rfl) ?_
      refine mGET_67 C0 hW dX12_from_59 ?_
      refine lv_iload_n hx hb dX12_from_62 rfl (lv_at hl 0 rfl) ?_
      refine lv_iconst (v := (1 : Int32)) hx hb dX12_from_63 (by decide) ?_
      refine lv_iadd hx hb dX12_from_64 ?_
      obtain ⟨g6, ho⟩ := gd_some ho
      refine mLD_67 C0 hW g6 dX12_from_65 ?_
      obtain ⟨g7, ho⟩ := gd_some ho
      refine mST_1 C0 hW g7 dX12_from_66 (fun H locs hW => ?_)
      obtain ⟨t8, ho, hW⟩ := nm_w (P := fun t => wl D A s (wM cI cJ cZ am t) H locs) ho hW
      refine lv_aload_n hx hb dX12_from_67 rfl (lv_at hl 1 rfl) ?_
      refine mGET_2 C0 hW dX12_from_68 ?_
      refine lv_iload_n hx hb dX12_from_71 rfl (lv_at hl 3 rfl) ?_
      refine lv_aload_n hx hb dX12_from_72 rfl (lv_at hl 1 rfl) ?_
      refine mGET_67 C0 hW dX12_from_73 ?_
      refine lv_iload_n hx hb dX12_from_76 rfl (lv_at hl 0 rfl) ?_
      refine lv_iconst (v := (2 : Int32)) hx hb dX12_from_77 (by decide) ?_
      refine lv_iadd hx hb dX12_from_78 ?_
      obtain ⟨g9, ho⟩ := gd_some ho
      refine mLD_67 C0 hW g9 dX12_from_79 ?_
      obtain ⟨g10, ho⟩ := gd_some ho
      refine mST_2 C0 hW g10 dX12_from_80 (fun H locs hW => ?_)
      obtain ⟨t11, ho, hW⟩ := nm_w (P := fun t => wl D A s (wM cI cJ cZ am t) H locs) ho hW
      refine lv_aload_n hx hb dX12_from_81 rfl (lv_at hl 1 rfl) ?_
      refine mGET_3 C0 hW dX12_from_82 ?_
      refine lv_iload_n hx hb dX12_from_85 rfl (lv_at hl 3 rfl) ?_
      refine lv_aload_n hx hb dX12_from_86 rfl (lv_at hl 1 rfl) ?_
      refine mGET_67 C0 hW dX12_from_87 ?_
      refine lv_iload_n hx hb dX12_from_90 rfl (lv_at hl 0 rfl) ?_
      refine lv_iconst (v := (3 : Int32)) hx hb dX12_from_91 (by decide) ?_
      refine lv_iadd hx hb dX12_from_92 ?_
      obtain ⟨g12, ho⟩ := gd_some ho
      refine mLD_67 C0 hW g12 dX12_from_93 ?_
      obtain ⟨g13, ho⟩ := gd_some ho
      refine mST_3 C0 hW g13 dX12_from_94 (fun H locs hW => ?_)
      obtain ⟨t14, ho, hW⟩ := nm_w (P := fun t => wl D A s (wM cI cJ cZ am t) H locs) ho hW
      refine lv_aload_n hx hb dX12_from_95 rfl (lv_at hl 1 rfl) ?_
      refine mGET_4 C0 hW dX12_from_96 ?_
      refine lv_iload_n hx hb dX12_from_99 rfl (lv_at hl 3 rfl) ?_
      refine lv_aload_n hx hb dX12_from_100 rfl (lv_at hl 1 rfl) ?_
      refine mGET_67 C0 hW dX12_from_101 ?_
      refine lv_iload_n hx hb dX12_from_104 rfl (lv_at hl 0 rfl) ?_
      refine lv_iconst (v := (4 : Int32)) hx hb dX12_from_105 (by decide) ?_
      refine lv_iadd hx hb dX12_from_106 ?_
      obtain ⟨g15, ho⟩ := gd_some ho
      refine mLD_67 C0 hW g15 dX12_from_107 ?_
      obtain ⟨g16, ho⟩ := gd_some ho
      refine mST_4 C0 hW g16 dX12_from_108 (fun H locs hW => ?_)
      obtain ⟨t17, ho, hW⟩ := nm_w (P := fun t => wl D A s (wM cI cJ cZ am t) H locs) ho hW
      obtain ⟨x18, ex18, ho⟩ := nm_x ho
      refine lv_iinc (v := x18) (lv' := [(2, .int x18), (3, .int x2), (0, .ref (am 68)), (1, .int v1)]) hx hb dX12_from_109 hl (k := 3) rfl (by rw [ex18]; rfl) (by decide) rfl (fun ls hl => ?_)
      clear ex18
      refine lv_goto (tgt := 26) hx hb dX12_from_112 (by decide) ?_
      cases ho
      exact ih _ _ hrun _ _ _ hW (lv_sub hl [2, 3, 0] rfl)
set_option maxHeartbeats 4000000 in
set_option maxRecDepth 100000 in
theorem c_m_from (l : Launch) {D : va_G} {cI cJ cZ : ClassId} {am : Nat → Nat} (sz : Nat) (t : St) (a1 : Int32) {r : Int32} {t' : St} (ho : m_from t a1 = some (r, t')) : Met l yX12_from (.code yX12_from cX12_from 4 (some .int) :: wsAll) (rmN 1 22) (va_Pc [.ref (am 68), .int a1] (prW D (tyM cI cJ cZ) (wM cI cJ cZ am t) sz)) (qI r D (tyM cI cJ cZ) (wM cI cJ cZ am t') (va_A (wM cI cJ cZ am t) sz)) 0 0 (va_A (wM cI cJ cZ am t) sz) := by
  refine Met.ofW (cc := cX12_from) (maxL := 4) (ret := (some .int)) (by decide) rfl ?_
  intro p e s m args below meth c s₁ B hml hv
  obtain ⟨rfl, hsz, hP, hK, hD0⟩ := hv
  have hx := B.exec
  have hb := B.bytes
  have hts := atoms_spec (ws := (.code yX12_from cX12_from 4 (some .int) :: wsAll)) B.pre
  have hta := fun w h => hts w (List.mem_cons_of_mem _ h)
  have hown : s.vm.findClass RX12 = some m.cls := findClass_of_methodNamed B.named
  have hlocks := B.notSynchronized
  subst hsz
  have hD := hD0.self (sz := s.heap.size)
  generalize hAe : va_A (wM cI cJ cZ am t) s.heap.size = A at hD ⊢
  have hA : ∀ q : Nat, s.heap.size ≤ q → A q := fun q h => by rw [← hAe]; exact Or.inr h
  have C0 : cx p s m ([.ref (am 68), .int a1].toArray) meth c cX12_from RX12 4 (some .int) D (tyM cI cJ cZ) A := ⟨hx, hb, B.returns, hml, hown, hta, hlocks, hK, hA⟩
  have hW : wl D A s (wM cI cJ cZ am t) s.heap [] := ⟨hP, hD, va_S.rf⟩
  have hl := lv_entry [.ref (am 68), .int a1] (n := 4) (Nat.le_of_ble_eq_true rfl)
  rw [lg_entry_eq]
  generalize (lg_sl [.ref (am 68), .int a1] ++ List.replicate (4 - (lg_sl [.ref (am 68), .int a1]).length) Slot.unset).toArray = ls at hl ⊢
  have hl : lv_has ls 4 [(0, .ref (am 68)), (1, .int a1)] := hl
  unfold m_from at ho
  refine lv_iload_n hx hb dX12_from_0 rfl (lv_at hl 1 rfl) ?_
  refine lv_iconst (v := (0 : Int32)) hx hb dX12_from_1 (by decide) ?_
  refine lv_iconst (v := (1 : Int32)) hx hb dX12_from_2 (by decide) ?_
  obtain ⟨q19, hc20, ho⟩ := bd_some ho
  refine bkZ C0 hW (runS (As := [.int a1, .int (0 : Int32), .int (1 : Int32)]) (rest := []) C0 hW (c_m_in l _ t a1 (0 : Int32) (1 : Int32) (r := q19) hc20) ca_X12_in_179 rfl rfl ⟨rfl, rfl⟩ ⟨Nat.le_of_ble_eq_true rfl, Nat.le_of_ble_eq_true rfl⟩ (Nat.le_of_ble_eq_true rfl) hl.1 dX12_from_3 ⟨Nat.le_of_ble_eq_true rfl, Nat.le_of_ble_eq_true rfl⟩) (fun z21 H locs hW => ?_)
  refine lv_if_ne (tgt := 12) hx hb dX12_from_6 (by decide) (fun c22 => ?_) (fun c22 => ?_)
  · replace ho := ite_f c22 ho
    refine lv_aload_n hx hb dX12_from_12 rfl (lv_at hl 0 rfl) ?_
    refine mGET_66 C0 hW dX12_from_13 ?_
    refine lv_iload_n hx hb dX12_from_16 rfl (lv_at hl 1 rfl) ?_
    obtain ⟨g23, ho⟩ := gd_some ho
    refine mLD_66 C0 hW g23 dX12_from_17 ?_
    refine lv_if_ne (tgt := 24) hx hb dX12_from_18 (by decide) (fun c24 => ?_) (fun c24 => ?_)
    · replace ho := ite_f c24 ho
      refine lv_iconst (v := (0 : Int32)) hx hb dX12_from_24 (by decide) ?_
      refine lv_istore_n (lv' := [(2, .int (0 : Int32)), (0, .ref (am 68)), (1, .int a1)]) hx hb dX12_from_25 rfl hl (by decide) rfl (fun ls hl => ?_)
      obtain ⟨y25, hc27, ho⟩ := bd_some ho
      obtain ⟨ny25, hc27⟩ := lp_to hc27
      refine m_from_L26 C0 ?_ ny25 _ _ hc27 _ _ _ hW (lv_sub hl [1, 2, 0] rfl)
      intro H locs ls hW hl
      refine lv_iconst (v := (1 : Int32)) hx hb dX12_from_115 (by decide) ?_
      cases ho
      exact rtI C0 hW dX12_from_116
    · replace ho := ite_t c24 ho
      refine lv_bipush (v := (-3 : Int32)) hx hb dX12_from_21 (by decide) ?_
      cases ho
      exact rtI C0 hW dX12_from_23
  · replace ho := ite_t c22 ho
    refine lv_bipush (v := (-2 : Int32)) hx hb dX12_from_9 (by decide) ?_
    cases ho
    exact rtI C0 hW dX12_from_11
noncomputable def m_count_B56 (t : St) (v2 : Int32) (v3 : Int32) : Option ((Int32 × Int32) ⊕ (Int32)) :=
  if (10 : Int32) ≤ v3 then (some (.inr v2)) else (gd v3 10 (if (gA t 16 (v3).toNatClampNeg) = (-1 : Int32) then (nm (v2 + (0 : Int32)) (fun x6 : Int32 => nm (v3 + (1 : Int32)) (fun x7 : Int32 => some (.inl (x6, x7))))) else (nm (v2 + (1 : Int32)) (fun x4 : Int32 => nm (v3 + (1 : Int32)) (fun x5 : Int32 => some (.inl (x4, x5)))))))
noncomputable def m_count (t : St) (a1 : Int32) : Option (Int32) :=
  if a1 = (0 : Int32) then (some (gI t 5)) else if a1 = (1 : Int32) then (some (gI t 7)) else if a1 = (2 : Int32) then ((lp (fun x => m_count_B56 t x.1 x.2) ((0 : Int32), (0 : Int32))).bind (fun y11 => some y11)) else if a1 = (3 : Int32) then (some (gI t 45)) else if a1 = (4 : Int32) then (some (gI t 50)) else if a1 = (5 : Int32) then (some (gI t 54)) else if a1 = (6 : Int32) then (some (gI t 56)) else (some (-2 : Int32))
set_option maxHeartbeats 4000000 in
set_option maxRecDepth 100000 in
theorem m_count_L56 {p : Program} {l : Launch} {e : Env} {s : State} {m : MethodId} {args : Array Value} {below : List Frame} {meth : Method} {c : Code} {Q : State → Prop} {D : va_G} {cI cJ cZ : ClassId} {am : Nat → Nat} {A : Nat → Prop} (C0 : cx p s m args meth c cX12_count RX12 4 (some .int) D (tyM cI cJ cZ) A) {t : St} {y : Int32} (hK0 : ∀ (H : Heap) (locs : List Loc) (ls : Array Slot), wl D A s (wM cI cJ cZ am t) H locs → lv_has ls 4 [(0, .ref (am 68)), (2, .int y)] → W p l e (rmN 0 0) s m args below meth c H locs 0 0 Q (F0 m 86 ls [])) :
    ∀ (n : Nat) (v2 : Int32) (v3 : Int32), lpn (fun x => m_count_B56 t x.1 x.2) n (v2, v3) = some y → ∀ (H : Heap) (locs : List Loc) (ls : Array Slot), wl D A s (wM cI cJ cZ am t) H locs → lv_has ls 4 [(0, .ref (am 68)), (2, .int v2), (3, .int v3)] → W p l e (rmN 0 0) s m args below meth c H locs 0 0 Q (F0 m 56 ls []) := by
  have hx := C0.1
  have hb := C0.2.1
  have hta := C0.2.2.2.2.2.1
  have hown := C0.2.2.2.2.1
  intro n
  induction n with
  | zero => intro _ _ h; cases h
  | succ n ih =>
    intro v2 v3 hrun H locs ls hW hl
    obtain ⟨o, ho, hrun⟩ := bd_some hrun
    unfold m_count_B56 at ho
    refine lv_iload_n hx hb dX12_count_56 rfl (lv_at hl 2 rfl) ?_
    refine lv_bipush (v := (10 : Int32)) hx hb dX12_count_57 (by decide) ?_
    refine lv_icmp_ge (tgt := 86) hx hb dX12_count_59 (by decide) (fun c1 => ?_) (fun c1 => ?_)
    · replace ho := ite_t c1 ho
      cases ho
      cases hrun
      exact hK0 _ _ _ hW (lv_sub hl [0, 1] rfl)
    · replace ho := ite_f c1 ho
      refine lv_iload_n hx hb dX12_count_62 rfl (lv_at hl 1 rfl) ?_
      refine lv_aload_n hx hb dX12_count_63 rfl (lv_at hl 0 rfl) ?_
      refine mGET_16 C0 hW dX12_count_64 ?_
      refine lv_iload_n hx hb dX12_count_67 rfl (lv_at hl 2 rfl) ?_
      obtain ⟨g2, ho⟩ := gd_some ho
      refine mLD_16 C0 hW g2 dX12_count_68 ?_
      refine lv_iconst (v := (-1 : Int32)) hx hb dX12_count_69 (by decide) ?_
      refine lv_icmp_ne (tgt := 77) hx hb dX12_count_70 (by decide) (fun c3 => ?_) (fun c3 => ?_)
      · replace ho := ite_f c3 ho
        refine lv_iconst (v := (1 : Int32)) hx hb dX12_count_77 (by decide) ?_
        refine lv_iadd hx hb dX12_count_78 ?_
        refine lv_nmi ho (fun x4 ho => ?_)
        refine lv_istore_n (lv' := [(2, .int x4), (0, .ref (am 68)), (3, .int v3)]) hx hb dX12_count_79 rfl hl (by decide) rfl (fun ls hl => ?_)
        obtain ⟨x5, ex5, ho⟩ := nm_x ho
        refine lv_iinc (v := x5) (lv' := [(3, .int x5), (2, .int x4), (0, .ref (am 68))]) hx hb dX12_count_80 hl (k := 2) rfl (by rw [ex5]; rfl) (by decide) rfl (fun ls hl => ?_)
        clear ex5
        refine lv_goto (tgt := 56) hx hb dX12_count_83 (by decide) ?_
        cases ho
        exact ih _ _ hrun _ _ _ hW (lv_sub hl [2, 1, 0] rfl)
      · replace ho := ite_t c3 ho
        refine lv_iconst (v := (0 : Int32)) hx hb dX12_count_73 (by decide) ?_
        refine lv_goto (tgt := 78) hx hb dX12_count_74 (by decide) ?_
        refine lv_iadd hx hb dX12_count_78 ?_
        refine lv_nmi ho (fun x6 ho => ?_)
        refine lv_istore_n (lv' := [(2, .int x6), (0, .ref (am 68)), (3, .int v3)]) hx hb dX12_count_79 rfl hl (by decide) rfl (fun ls hl => ?_)
        obtain ⟨x7, ex7, ho⟩ := nm_x ho
        refine lv_iinc (v := x7) (lv' := [(3, .int x7), (2, .int x6), (0, .ref (am 68))]) hx hb dX12_count_80 hl (k := 2) rfl (by rw [ex7]; rfl) (by decide) rfl (fun ls hl => ?_)
        clear ex7
        refine lv_goto (tgt := 56) hx hb dX12_count_83 (by decide) ?_
        cases ho
        exact ih _ _ hrun _ _ _ hW (lv_sub hl [2, 1, 0] rfl)
set_option maxHeartbeats 4000000 in
set_option maxRecDepth 100000 in
theorem c_m_count (l : Launch) {D : va_G} {cI cJ cZ : ClassId} {am : Nat → Nat} (sz : Nat) (t : St) (a1 : Int32) {r : Int32} (ho : m_count t a1 = some r) : Met l yX12_count (.code yX12_count cX12_count 4 (some .int) :: wsAll) (rmN 0 0) (va_Pc [.ref (am 68), .int a1] (prW D (tyM cI cJ cZ) (wM cI cJ cZ am t) sz)) (qI r D (tyM cI cJ cZ) (wM cI cJ cZ am t) (va_A (wM cI cJ cZ am t) sz)) 0 0 (va_A (wM cI cJ cZ am t) sz) := by
  refine Met.ofW (cc := cX12_count) (maxL := 4) (ret := (some .int)) (by decide) rfl ?_
  intro p e s m args below meth c s₁ B hml hv
  obtain ⟨rfl, hsz, hP, hK, hD0⟩ := hv
  have hx := B.exec
  have hb := B.bytes
  have hts := atoms_spec (ws := (.code yX12_count cX12_count 4 (some .int) :: wsAll)) B.pre
  have hta := fun w h => hts w (List.mem_cons_of_mem _ h)
  have hown : s.vm.findClass RX12 = some m.cls := findClass_of_methodNamed B.named
  have hlocks := B.notSynchronized
  subst hsz
  have hD := hD0.self (sz := s.heap.size)
  generalize hAe : va_A (wM cI cJ cZ am t) s.heap.size = A at hD ⊢
  have hA : ∀ q : Nat, s.heap.size ≤ q → A q := fun q h => by rw [← hAe]; exact Or.inr h
  have C0 : cx p s m ([.ref (am 68), .int a1].toArray) meth c cX12_count RX12 4 (some .int) D (tyM cI cJ cZ) A := ⟨hx, hb, B.returns, hml, hown, hta, hlocks, hK, hA⟩
  have hW : wl D A s (wM cI cJ cZ am t) s.heap [] := ⟨hP, hD, va_S.rf⟩
  have hl := lv_entry [.ref (am 68), .int a1] (n := 4) (Nat.le_of_ble_eq_true rfl)
  rw [lg_entry_eq]
  generalize (lg_sl [.ref (am 68), .int a1] ++ List.replicate (4 - (lg_sl [.ref (am 68), .int a1]).length) Slot.unset).toArray = ls at hl ⊢
  have hl : lv_has ls 4 [(0, .ref (am 68)), (1, .int a1)] := hl
  unfold m_count at ho
  refine lv_iconst (v := (0 : Int32)) hx hb dX12_count_0 (by decide) ?_
  refine lv_istore_n (lv' := [(2, .int (0 : Int32)), (0, .ref (am 68)), (1, .int a1)]) hx hb dX12_count_1 rfl hl (by decide) rfl (fun ls hl => ?_)
  refine lv_iload_n hx hb dX12_count_2 rfl (lv_at hl 2 rfl) ?_
  by_cases c8 : a1 = (0 : Int32)
  · replace ho := ite_t c8 ho
    refine lv_tableIn (tgt := 44) (off := 41) hx hb dX12_count_3 (by rw [c8]; decide) (by rw [c8]; decide) (by rw [c8]; rfl) (by decide) ?_
    refine lv_aload_n hx hb dX12_count_44 rfl (lv_at hl 1 rfl) ?_
    refine mGET_5 C0 hW dX12_count_45 ?_
    cases ho
    exact rtI C0 hW dX12_count_48
  replace ho := ite_f c8 ho
  by_cases c9 : a1 = (1 : Int32)
  · replace ho := ite_t c9 ho
    refine lv_tableIn (tgt := 49) (off := 46) hx hb dX12_count_3 (by rw [c9]; decide) (by rw [c9]; decide) (by rw [c9]; rfl) (by decide) ?_
    refine lv_aload_n hx hb dX12_count_49 rfl (lv_at hl 1 rfl) ?_
    refine mGET_7 C0 hW dX12_count_50 ?_
    cases ho
    exact rtI C0 hW dX12_count_53
  replace ho := ite_f c9 ho
  by_cases c10 : a1 = (2 : Int32)
  · replace ho := ite_t c10 ho
    refine lv_tableIn (tgt := 54) (off := 51) hx hb dX12_count_3 (by rw [c10]; decide) (by rw [c10]; decide) (by rw [c10]; rfl) (by decide) ?_
    refine lv_iconst (v := (0 : Int32)) hx hb dX12_count_54 (by decide) ?_
    refine lv_istore_n (lv' := [(3, .int (0 : Int32)), (2, .int (0 : Int32)), (0, .ref (am 68)), (1, .int a1)]) hx hb dX12_count_55 rfl hl (by decide) rfl (fun ls hl => ?_)
    obtain ⟨y11, hc13, ho⟩ := bd_some ho
    obtain ⟨ny11, hc13⟩ := lp_to hc13
    refine m_count_L56 C0 ?_ ny11 _ _ hc13 _ _ _ hW (lv_sub hl [2, 1, 0] rfl)
    intro H locs ls hW hl
    refine lv_iload_n hx hb dX12_count_86 rfl (lv_at hl 1 rfl) ?_
    cases ho
    exact rtI C0 hW dX12_count_87
  replace ho := ite_f c10 ho
  by_cases c14 : a1 = (3 : Int32)
  · replace ho := ite_t c14 ho
    refine lv_tableIn (tgt := 88) (off := 85) hx hb dX12_count_3 (by rw [c14]; decide) (by rw [c14]; decide) (by rw [c14]; rfl) (by decide) ?_
    refine lv_aload_n hx hb dX12_count_88 rfl (lv_at hl 1 rfl) ?_
    refine mGET_45 C0 hW dX12_count_89 ?_
    cases ho
    exact rtI C0 hW dX12_count_92
  replace ho := ite_f c14 ho
  by_cases c15 : a1 = (4 : Int32)
  · replace ho := ite_t c15 ho
    refine lv_tableIn (tgt := 93) (off := 90) hx hb dX12_count_3 (by rw [c15]; decide) (by rw [c15]; decide) (by rw [c15]; rfl) (by decide) ?_
    refine lv_aload_n hx hb dX12_count_93 rfl (lv_at hl 1 rfl) ?_
    refine mGET_50 C0 hW dX12_count_94 ?_
    cases ho
    exact rtI C0 hW dX12_count_97
  replace ho := ite_f c15 ho
  by_cases c16 : a1 = (5 : Int32)
  · replace ho := ite_t c16 ho
    refine lv_tableIn (tgt := 98) (off := 95) hx hb dX12_count_3 (by rw [c16]; decide) (by rw [c16]; decide) (by rw [c16]; rfl) (by decide) ?_
    refine lv_aload_n hx hb dX12_count_98 rfl (lv_at hl 1 rfl) ?_
    refine mGET_54 C0 hW dX12_count_99 ?_
    cases ho
    exact rtI C0 hW dX12_count_102
  replace ho := ite_f c16 ho
  by_cases c17 : a1 = (6 : Int32)
  · replace ho := ite_t c17 ho
    refine lv_tableIn (tgt := 103) (off := 100) hx hb dX12_count_3 (by rw [c17]; decide) (by rw [c17]; decide) (by rw [c17]; rfl) (by decide) ?_
    refine lv_aload_n hx hb dX12_count_103 rfl (lv_at hl 1 rfl) ?_
    refine mGET_56 C0 hW dX12_count_104 ?_
    cases ho
    exact rtI C0 hW dX12_count_107
  replace ho := ite_f c17 ho
  refine lv_tableOut (tgt := 108) hx hb dX12_count_3 (tsw_6 c8 c9 c10 c14 c15 c16 c17) (by decide) ?_
  refine lv_bipush (v := (-2 : Int32)) hx hb dX12_count_108 (by decide) ?_
  cases ho
  exact rtI C0 hW dX12_count_110
noncomputable def m_digest_B6 (t : St) (v1 : Int64) (v3 : Int32) : Option ((Int64 × Int32) ⊕ (Int64)) :=
  if (7 : Int32) ≤ v3 then (some (.inr v1)) else ((m_count t v3).bind (fun q2 => nm (((31 : Int64) * v1) + (q2).toInt64) (fun x4 : Int64 => nm (v3 + (1 : Int32)) (fun x5 : Int32 => some (.inl (x4, x5))))))
noncomputable def m_digest_B42 (t : St) (v3 : Int32) (v1 : Int64) (v4 : Int32) : Option ((Int64 × Int32) ⊕ (Int64)) :=
  if (5 : Int32) ≤ v4 then (some (.inr v1)) else ((m_stepOf t v3 v4).bind (fun q7 => nm (((31 : Int64) * v1) + (q7).toInt64) (fun x9 : Int64 => nm (v4 + (1 : Int32)) (fun x10 : Int32 => some (.inl (x9, x10))))))
noncomputable def m_digest_B77 (t : St) (v1 : Int64) (v3 : Int32) : Option ((Int64 × Int32) ⊕ (Int64)) :=
  if (gI t 5) ≤ v3 then (some (.inr v1)) else (gd v3 80 (nm (((31 : Int64) * v1) + ((gA t 6 (v3).toNatClampNeg)).toInt64) (fun x13 : Int64 => nm (v3 + (1 : Int32)) (fun x14 : Int32 => some (.inl (x13, x14))))))
noncomputable def m_digest_B325 (t : St) (v1 : Int64) (v3 : Int32) : Option ((Int64 × Int32) ⊕ (Int64)) :=
  if (gI t 54) ≤ v3 then (some (.inr v1)) else (gd v3 6 (nm (((31 : Int64) * v1) + ((gA t 55 (v3).toNatClampNeg)).toInt64) (fun x17 : Int64 => nm (v3 + (1 : Int32)) (fun x18 : Int32 => some (.inl (x17, x18))))))
noncomputable def m_digest_B292 (t : St) (v1 : Int64) (v3 : Int32) : Option ((Int64 × Int32) ⊕ (Int64)) :=
  if ((16 : Int32) * (gI t 50)) ≤ v3 then (some (.inr v1)) else (gd v3 96 (nm (((31 : Int64) * v1) + ((gA t 51 (v3).toNatClampNeg)).toInt64) (fun x21 : Int64 => nm (v3 + (1 : Int32)) (fun x22 : Int32 => some (.inl (x21, x22))))))
noncomputable def m_digest_B33 (t : St) (v1 : Int64) (v3 : Int32) : Option ((Int64 × Int32) ⊕ (Int64)) :=
  if (16 : Int32) ≤ v3 then (some (.inr v1)) else ((lp (fun x => m_digest_B42 t v3 x.1 x.2) (v1, (0 : Int32))).bind (fun y24 => nm (v3 + (1 : Int32)) (fun x27 : Int32 => some (.inl (y24, x27)))))
noncomputable def m_digest_B419 (t : St) (v3 : Int32) (v1 : Int64) (v4 : Int32) : Option ((Int64 × Int32) ⊕ (Int64)) :=
  gd v3 4 (if (gA t 60 (v3).toNatClampNeg) ≤ v4 then (some (.inr v1)) else (gd (((12 : Int32) * v3) + v4) 48 (nm (((31 : Int64) * v1) + ((gA t 61 ((((12 : Int32) * v3) + v4)).toNatClampNeg)).toInt64) (fun x31 : Int64 => nm (v4 + (1 : Int32)) (fun x32 : Int32 => some (.inl (x31, x32)))))))
noncomputable def m_digest_B203 (t : St) (v3 : Int32) (v1 : Int64) (v4 : Int32) : Option ((Int64 × Int32) ⊕ (Int64)) :=
  gd v3 400 (if (gA t 12 (v3).toNatClampNeg) ≤ v4 then (some (.inr v1)) else (gd v3 400 (gd ((gA t 11 (v3).toNatClampNeg) + v4) 20000 (nm (((31 : Int64) * v1) + ((gA t 14 (((gA t 11 (v3).toNatClampNeg) + v4)).toNatClampNeg)).toInt64) (fun x37 : Int64 => nm (v4 + (1 : Int32)) (fun x38 : Int32 => some (.inl (x37, x38))))))))
noncomputable def m_digest_B250 (t : St) (v1 : Int64) (v3 : Int32) : Option ((Int64 × Int32) ⊕ (Int64)) :=
  if (gI t 45) ≤ v3 then (some (.inr v1)) else (gd v3 10 (gd v3 10 (nm (((31 : Int64) * (((31 : Int64) * v1) + ((gA t 46 (v3).toNatClampNeg)).toInt64)) + ((gA t 47 (v3).toNatClampNeg)).toInt64) (fun x42 : Int64 => nm (v3 + (1 : Int32)) (fun x43 : Int32 => some (.inl (x42, x43)))))))
noncomputable def m_digest_B355 (t : St) (v1 : Int64) (v3 : Int32) : Option ((Int64 × Int32) ⊕ (Int64)) :=
  if (gI t 56) ≤ v3 then (some (.inr v1)) else (gd v3 40 (gd v3 40 (nm (((31 : Int64) * (((31 : Int64) * v1) + ((gA t 57 (v3).toNatClampNeg)).toInt64)) + ((gA t 58 (v3).toNatClampNeg)).toInt64) (fun x47 : Int64 => nm (v3 + (1 : Int32)) (fun x48 : Int32 => some (.inl (x47, x48)))))))
noncomputable def m_digest_B107 (t : St) (v1 : Int64) (v3 : Int32) : Option ((Int64 × Int32) ⊕ (Int64)) :=
  if (10 : Int32) ≤ v3 then (some (.inr v1)) else (gd v3 10 (if (gA t 16 (v3).toNatClampNeg) = (-1 : Int32) then (nm (v3 + (1 : Int32)) (fun x52 : Int32 => some (.inl (v1, x52)))) else (gd v3 10 (nm (((31 : Int64) * (((31 : Int64) * v1) + (v3).toInt64)) + ((gA t 16 (v3).toNatClampNeg)).toInt64) (fun x54 : Int64 => nm (v3 + (1 : Int32)) (fun x55 : Int32 => some (.inl (x54, x55))))))))
noncomputable def m_digest_B397 (t : St) (v1 : Int64) (v3 : Int32) : Option ((Int64 × Int32) ⊕ (Int64)) :=
  if (4 : Int32) ≤ v3 then (some (.inr v1)) else (gd v3 4 (nm (((31 : Int64) * v1) + ((gA t 60 (v3).toNatClampNeg)).toInt64) (fun x58 : Int64 => (lp (fun x => m_digest_B419 t v3 x.1 x.2) (x58, (0 : Int32))).bind (fun y59 => nm (v3 + (1 : Int32)) (fun x62 : Int32 => some (.inl (y59, x62)))))))
noncomputable def m_digest_B152 (t : St) (v1 : Int64) (v3 : Int32) : Option ((Int64 × Int32) ⊕ (Int64)) :=
  if (gI t 7) ≤ v3 then (some (.inr v1)) else (gd v3 400 ((m_knotOf t v3 (2 : Int32)).bind (fun q65 => nm (((31 : Int64) * (((31 : Int64) * v1) + ((gA t 8 (v3).toNatClampNeg)).toInt64)) + (q65).toInt64) (fun x67 : Int64 => gd v3 400 (nm (((31 : Int64) * x67) + ((gA t 9 (v3).toNatClampNeg)).toInt64) (fun x69 : Int64 => (lp (fun x => m_digest_B203 t v3 x.1 x.2) (x69, (0 : Int32))).bind (fun y70 => nm (v3 + (1 : Int32)) (fun x73 : Int32 => some (.inl (y70, x73))))))))))
noncomputable def m_digest (t : St) : Option (Int64) :=
  (lp (fun x => m_digest_B6 t x.1 x.2) ((269 : Int64), (0 : Int32))).bind (fun y74 => (lp (fun x => m_digest_B33 t x.1 x.2) (y74, (0 : Int32))).bind (fun y77 => (lp (fun x => m_digest_B77 t x.1 x.2) (y77, (0 : Int32))).bind (fun y80 => (lp (fun x => m_digest_B107 t x.1 x.2) (y80, (0 : Int32))).bind (fun y83 => (lp (fun x => m_digest_B152 t x.1 x.2) (y83, (0 : Int32))).bind (fun y86 => (lp (fun x => m_digest_B250 t x.1 x.2) (y86, (0 : Int32))).bind (fun y89 => (lp (fun x => m_digest_B292 t x.1 x.2) (y89, (0 : Int32))).bind (fun y92 => (lp (fun x => m_digest_B325 t x.1 x.2) (y92, (0 : Int32))).bind (fun y95 => (lp (fun x => m_digest_B355 t x.1 x.2) (y95, (0 : Int32))).bind (fun y98 => (lp (fun x => m_digest_B397 t x.1 x.2) (y98, (0 : Int32))).bind (fun y101 => some y101))))))))))
set_option maxHeartbeats 4000000 in
set_option maxRecDepth 100000 in
theorem m_digest_L6 {p : Program} {l : Launch} {e : Env} {s : State} {m : MethodId} {args : Array Value} {below : List Frame} {meth : Method} {c : Code} {Q : State → Prop} {D : va_G} {cI cJ cZ : ClassId} {am : Nat → Nat} {A : Nat → Prop} (C0 : cx p s m args meth c cX12_digest RX12 5 (some .long) D (tyM cI cJ cZ) A) {t : St} {y : Int64} (hK0 : ∀ (H : Heap) (locs : List Loc) (ls : Array Slot), wl D A s (wM cI cJ cZ am t) H locs → lv_has ls 5 [(0, .ref (am 68)), (1, .long y)] → W p l e (rmN 1 23) s m args below meth c H locs 0 0 Q (F0 m 31 ls [])) :
    ∀ (n : Nat) (v1 : Int64) (v3 : Int32), lpn (fun x => m_digest_B6 t x.1 x.2) n (v1, v3) = some y → ∀ (H : Heap) (locs : List Loc) (ls : Array Slot), wl D A s (wM cI cJ cZ am t) H locs → lv_has ls 5 [(0, .ref (am 68)), (1, .long v1), (3, .int v3)] → W p l e (rmN 1 23) s m args below meth c H locs 0 0 Q (F0 m 6 ls []) := by
  have hx := C0.1
  have hb := C0.2.1
  have hta := C0.2.2.2.2.2.1
  have hown := C0.2.2.2.2.1
  intro n
  induction n with
  | zero => intro _ _ h; cases h
  | succ n ih =>
    intro v1 v3 hrun H locs ls hW hl
    obtain ⟨o, ho, hrun⟩ := bd_some hrun
    unfold m_digest_B6 at ho
    refine lv_iload_n hx hb dX12_digest_6 rfl (lv_at hl 2 rfl) ?_
    refine lv_bipush (v := (7 : Int32)) hx hb dX12_digest_7 (by decide) ?_
    refine lv_icmp_ge (tgt := 31) hx hb dX12_digest_9 (by decide) (fun c1 => ?_) (fun c1 => ?_)
    · replace ho := ite_t c1 ho
      cases ho
      cases hrun
      exact hK0 _ _ _ hW (lv_sub hl [0, 1] rfl)
    · replace ho := ite_f c1 ho
      refine lv_ldc2 hx hb hown (hta _ kw_2211) dX12_digest_12 ?_
      refine lv_lload_n hx hb dX12_digest_15 rfl (lv_at hl 1 rfl) ?_
      refine lv_lmul hx hb dX12_digest_16 ?_
      refine lv_aload_n hx hb dX12_digest_17 rfl (lv_at hl 0 rfl) ?_
      refine lv_iload_n hx hb dX12_digest_18 rfl (lv_at hl 2 rfl) ?_
      obtain ⟨q2, hc3, ho⟩ := bd_some ho
      refine bkI C0 hW (runV (As := [.int v3]) (rest := [.long ((31 : Int64) * v1)]) C0 hW (c_m_count l _ t v3 (r := q2) hc3) ca_X12_count_486 0 12 rfl rfl rfl rfl rfl ⟨rfl, rfl⟩ ⟨Nat.le_of_ble_eq_true rfl, Nat.le_of_ble_eq_true rfl⟩ (Nat.le_of_ble_eq_true rfl) hl.1 dX12_digest_19 ⟨Nat.le_of_ble_eq_true rfl, Nat.le_of_ble_eq_true rfl⟩) (fun H locs hW => ?_)
      refine lv_i2l hx hb dX12_digest_22 rfl ?_
      refine lv_ladd hx hb dX12_digest_23 ?_
      refine lv_nml ho (fun x4 ho => ?_)
      refine lv_lstore_n (lv' := [(1, .long x4), (0, .ref (am 68)), (3, .int v3)]) hx hb dX12_digest_24 rfl hl (by decide) rfl (fun ls hl => ?_)
      obtain ⟨x5, ex5, ho⟩ := nm_x ho
      refine lv_iinc (v := x5) (lv' := [(3, .int x5), (1, .long x4), (0, .ref (am 68))]) hx hb dX12_digest_25 hl (k := 2) rfl (by rw [ex5]; rfl) (by decide) rfl (fun ls hl => ?_)
      clear ex5
      refine lv_goto (tgt := 6) hx hb dX12_digest_28 (by decide) ?_
      cases ho
      exact ih _ _ hrun _ _ _ hW (lv_sub hl [2, 1, 0] rfl)
set_option maxHeartbeats 4000000 in
set_option maxRecDepth 100000 in
theorem m_digest_L42 {p : Program} {l : Launch} {e : Env} {s : State} {m : MethodId} {args : Array Value} {below : List Frame} {meth : Method} {c : Code} {Q : State → Prop} {D : va_G} {cI cJ cZ : ClassId} {am : Nat → Nat} {A : Nat → Prop} (C0 : cx p s m args meth c cX12_digest RX12 5 (some .long) D (tyM cI cJ cZ) A) {t : St} {v3 : Int32} {y : Int64} (hK0 : ∀ (H : Heap) (locs : List Loc) (ls : Array Slot), wl D A s (wM cI cJ cZ am t) H locs → lv_has ls 5 [(0, .ref (am 68)), (1, .long y), (3, .int v3)] → W p l e (rmN 1 23) s m args below meth c H locs 0 0 Q (F0 m 69 ls [])) :
    ∀ (n : Nat) (v1 : Int64) (v4 : Int32), lpn (fun x => m_digest_B42 t v3 x.1 x.2) n (v1, v4) = some y → ∀ (H : Heap) (locs : List Loc) (ls : Array Slot), wl D A s (wM cI cJ cZ am t) H locs → lv_has ls 5 [(0, .ref (am 68)), (1, .long v1), (3, .int v3), (4, .int v4)] → W p l e (rmN 1 23) s m args below meth c H locs 0 0 Q (F0 m 42 ls []) := by
  have hx := C0.1
  have hb := C0.2.1
  have hta := C0.2.2.2.2.2.1
  have hown := C0.2.2.2.2.1
  intro n
  induction n with
  | zero => intro _ _ h; cases h
  | succ n ih =>
    intro v1 v4 hrun H locs ls hW hl
    obtain ⟨o, ho, hrun⟩ := bd_some hrun
    unfold m_digest_B42 at ho
    refine lv_iload hx hb dX12_digest_42 (lv_at hl 3 rfl) ?_
    refine lv_iconst (v := (5 : Int32)) hx hb dX12_digest_44 (by decide) ?_
    refine lv_icmp_ge (tgt := 69) hx hb dX12_digest_45 (by decide) (fun c6 => ?_) (fun c6 => ?_)
    · replace ho := ite_t c6 ho
      cases ho
      cases hrun
      exact hK0 _ _ _ hW (lv_sub hl [0, 1, 2] rfl)
    · replace ho := ite_f c6 ho
      refine lv_ldc2 hx hb hown (hta _ kw_2211) dX12_digest_48 ?_
      refine lv_lload_n hx hb dX12_digest_51 rfl (lv_at hl 1 rfl) ?_
      refine lv_lmul hx hb dX12_digest_52 ?_
      refine lv_aload_n hx hb dX12_digest_53 rfl (lv_at hl 0 rfl) ?_
      refine lv_iload_n hx hb dX12_digest_54 rfl (lv_at hl 2 rfl) ?_
      refine lv_iload hx hb dX12_digest_55 (lv_at hl 3 rfl) ?_
      obtain ⟨q7, hc8, ho⟩ := bd_some ho
      refine bkI C0 hW (runV (As := [.int v3, .int v4]) (rest := [.long ((31 : Int64) * v1)]) C0 hW (c_m_stepOf l _ t v3 v4 (r := q7) hc8) ca_X12_stepOf_187 0 12 rfl rfl rfl rfl rfl ⟨rfl, rfl⟩ ⟨Nat.le_of_ble_eq_true rfl, Nat.le_of_ble_eq_true rfl⟩ (Nat.le_of_ble_eq_true rfl) hl.1 dX12_digest_57 ⟨Nat.le_of_ble_eq_true rfl, Nat.le_of_ble_eq_true rfl⟩) (fun H locs hW => ?_)
      refine lv_i2l hx hb dX12_digest_60 rfl ?_
      refine lv_ladd hx hb dX12_digest_61 ?_
      refine lv_nml ho (fun x9 ho => ?_)
      refine lv_lstore_n (lv' := [(1, .long x9), (0, .ref (am 68)), (3, .int v3), (4, .int v4)]) hx hb dX12_digest_62 rfl hl (by decide) rfl (fun ls hl => ?_)
      obtain ⟨x10, ex10, ho⟩ := nm_x ho
      refine lv_iinc (v := x10) (lv' := [(4, .int x10), (1, .long x9), (0, .ref (am 68)), (3, .int v3)]) hx hb dX12_digest_63 hl (k := 3) rfl (by rw [ex10]; rfl) (by decide) rfl (fun ls hl => ?_)
      clear ex10
      refine lv_goto (tgt := 42) hx hb dX12_digest_66 (by decide) ?_
      cases ho
      exact ih _ _ hrun _ _ _ hW (lv_sub hl [2, 1, 3, 0] rfl)
set_option maxHeartbeats 4000000 in
set_option maxRecDepth 100000 in
theorem m_digest_L77 {p : Program} {l : Launch} {e : Env} {s : State} {m : MethodId} {args : Array Value} {below : List Frame} {meth : Method} {c : Code} {Q : State → Prop} {D : va_G} {cI cJ cZ : ClassId} {am : Nat → Nat} {A : Nat → Prop} (C0 : cx p s m args meth c cX12_digest RX12 5 (some .long) D (tyM cI cJ cZ) A) {t : St} {y : Int64} (hK0 : ∀ (H : Heap) (locs : List Loc) (ls : Array Slot), wl D A s (wM cI cJ cZ am t) H locs → lv_has ls 5 [(0, .ref (am 68)), (1, .long y)] → W p l e (rmN 1 23) s m args below meth c H locs 0 0 Q (F0 m 105 ls [])) :
    ∀ (n : Nat) (v1 : Int64) (v3 : Int32), lpn (fun x => m_digest_B77 t x.1 x.2) n (v1, v3) = some y → ∀ (H : Heap) (locs : List Loc) (ls : Array Slot), wl D A s (wM cI cJ cZ am t) H locs → lv_has ls 5 [(0, .ref (am 68)), (1, .long v1), (3, .int v3)] → W p l e (rmN 1 23) s m args below meth c H locs 0 0 Q (F0 m 77 ls []) := by
  have hx := C0.1
  have hb := C0.2.1
  have hta := C0.2.2.2.2.2.1
  have hown := C0.2.2.2.2.1
  intro n
  induction n with
  | zero => intro _ _ h; cases h
  | succ n ih =>
    intro v1 v3 hrun H locs ls hW hl
    obtain ⟨o, ho, hrun⟩ := bd_some hrun
    unfold m_digest_B77 at ho
    refine lv_iload_n hx hb dX12_digest_77 rfl (lv_at hl 2 rfl) ?_
    refine lv_aload_n hx hb dX12_digest_78 rfl (lv_at hl 0 rfl) ?_
    refine mGET_5 C0 hW dX12_digest_79 ?_
    refine lv_icmp_ge (tgt := 105) hx hb dX12_digest_82 (by decide) (fun c11 => ?_) (fun c11 => ?_)
    · replace ho := ite_t c11 ho
      cases ho
      cases hrun
      exact hK0 _ _ _ hW (lv_sub hl [0, 1] rfl)
    · replace ho := ite_f c11 ho
      refine lv_ldc2 hx hb hown (hta _ kw_2211) dX12_digest_85 ?_
      refine lv_lload_n hx hb dX12_digest_88 rfl (lv_at hl 1 rfl) ?_
      refine lv_lmul hx hb dX12_digest_89 ?_
      refine lv_aload_n hx hb dX12_digest_90 rfl (lv_at hl 0 rfl) ?_
      refine mGET_6 C0 hW dX12_digest_91 ?_
      refine lv_iload_n hx hb dX12_digest_94 rfl (lv_at hl 2 rfl) ?_
      obtain ⟨g12, ho⟩ := gd_some ho
      refine mLD_6 C0 hW g12 dX12_digest_95 ?_
      refine lv_i2l hx hb dX12_digest_96 rfl ?_
      refine lv_ladd hx hb dX12_digest_97 ?_
      refine lv_nml ho (fun x13 ho => ?_)
      refine lv_lstore_n (lv' := [(1, .long x13), (0, .ref (am 68)), (3, .int v3)]) hx hb dX12_digest_98 rfl hl (by decide) rfl (fun ls hl => ?_)
      obtain ⟨x14, ex14, ho⟩ := nm_x ho
      refine lv_iinc (v := x14) (lv' := [(3, .int x14), (1, .long x13), (0, .ref (am 68))]) hx hb dX12_digest_99 hl (k := 2) rfl (by rw [ex14]; rfl) (by decide) rfl (fun ls hl => ?_)
      clear ex14
      refine lv_goto (tgt := 77) hx hb dX12_digest_102 (by decide) ?_
      cases ho
      exact ih _ _ hrun _ _ _ hW (lv_sub hl [2, 1, 0] rfl)
set_option maxHeartbeats 4000000 in
set_option maxRecDepth 100000 in
theorem m_digest_L325 {p : Program} {l : Launch} {e : Env} {s : State} {m : MethodId} {args : Array Value} {below : List Frame} {meth : Method} {c : Code} {Q : State → Prop} {D : va_G} {cI cJ cZ : ClassId} {am : Nat → Nat} {A : Nat → Prop} (C0 : cx p s m args meth c cX12_digest RX12 5 (some .long) D (tyM cI cJ cZ) A) {t : St} {y : Int64} (hK0 : ∀ (H : Heap) (locs : List Loc) (ls : Array Slot), wl D A s (wM cI cJ cZ am t) H locs → lv_has ls 5 [(0, .ref (am 68)), (1, .long y)] → W p l e (rmN 1 23) s m args below meth c H locs 0 0 Q (F0 m 353 ls [])) :
    ∀ (n : Nat) (v1 : Int64) (v3 : Int32), lpn (fun x => m_digest_B325 t x.1 x.2) n (v1, v3) = some y → ∀ (H : Heap) (locs : List Loc) (ls : Array Slot), wl D A s (wM cI cJ cZ am t) H locs → lv_has ls 5 [(0, .ref (am 68)), (1, .long v1), (3, .int v3)] → W p l e (rmN 1 23) s m args below meth c H locs 0 0 Q (F0 m 325 ls []) := by
  have hx := C0.1
  have hb := C0.2.1
  have hta := C0.2.2.2.2.2.1
  have hown := C0.2.2.2.2.1
  intro n
  induction n with
  | zero => intro _ _ h; cases h
  | succ n ih =>
    intro v1 v3 hrun H locs ls hW hl
    obtain ⟨o, ho, hrun⟩ := bd_some hrun
    unfold m_digest_B325 at ho
    refine lv_iload_n hx hb dX12_digest_325 rfl (lv_at hl 2 rfl) ?_
    refine lv_aload_n hx hb dX12_digest_326 rfl (lv_at hl 0 rfl) ?_
    refine mGET_54 C0 hW dX12_digest_327 ?_
    refine lv_icmp_ge (tgt := 353) hx hb dX12_digest_330 (by decide) (fun c15 => ?_) (fun c15 => ?_)
    · replace ho := ite_t c15 ho
      cases ho
      cases hrun
      exact hK0 _ _ _ hW (lv_sub hl [0, 1] rfl)
    · replace ho := ite_f c15 ho
      refine lv_ldc2 hx hb hown (hta _ kw_2211) dX12_digest_333 ?_
      refine lv_lload_n hx hb dX12_digest_336 rfl (lv_at hl 1 rfl) ?_
      refine lv_lmul hx hb dX12_digest_337 ?_
      refine lv_aload_n hx hb dX12_digest_338 rfl (lv_at hl 0 rfl) ?_
      refine mGET_55 C0 hW dX12_digest_339 ?_
      refine lv_iload_n hx hb dX12_digest_342 rfl (lv_at hl 2 rfl) ?_
      obtain ⟨g16, ho⟩ := gd_some ho
      refine mLD_55 C0 hW g16 dX12_digest_343 ?_
      refine lv_i2l hx hb dX12_digest_344 rfl ?_
      refine lv_ladd hx hb dX12_digest_345 ?_
      refine lv_nml ho (fun x17 ho => ?_)
      refine lv_lstore_n (lv' := [(1, .long x17), (0, .ref (am 68)), (3, .int v3)]) hx hb dX12_digest_346 rfl hl (by decide) rfl (fun ls hl => ?_)
      obtain ⟨x18, ex18, ho⟩ := nm_x ho
      refine lv_iinc (v := x18) (lv' := [(3, .int x18), (1, .long x17), (0, .ref (am 68))]) hx hb dX12_digest_347 hl (k := 2) rfl (by rw [ex18]; rfl) (by decide) rfl (fun ls hl => ?_)
      clear ex18
      refine lv_goto (tgt := 325) hx hb dX12_digest_350 (by decide) ?_
      cases ho
      exact ih _ _ hrun _ _ _ hW (lv_sub hl [2, 1, 0] rfl)
set_option maxHeartbeats 4000000 in
set_option maxRecDepth 100000 in
theorem m_digest_L292 {p : Program} {l : Launch} {e : Env} {s : State} {m : MethodId} {args : Array Value} {below : List Frame} {meth : Method} {c : Code} {Q : State → Prop} {D : va_G} {cI cJ cZ : ClassId} {am : Nat → Nat} {A : Nat → Prop} (C0 : cx p s m args meth c cX12_digest RX12 5 (some .long) D (tyM cI cJ cZ) A) {t : St} {y : Int64} (hK0 : ∀ (H : Heap) (locs : List Loc) (ls : Array Slot), wl D A s (wM cI cJ cZ am t) H locs → lv_has ls 5 [(0, .ref (am 68)), (1, .long y)] → W p l e (rmN 1 23) s m args below meth c H locs 0 0 Q (F0 m 323 ls [])) :
    ∀ (n : Nat) (v1 : Int64) (v3 : Int32), lpn (fun x => m_digest_B292 t x.1 x.2) n (v1, v3) = some y → ∀ (H : Heap) (locs : List Loc) (ls : Array Slot), wl D A s (wM cI cJ cZ am t) H locs → lv_has ls 5 [(0, .ref (am 68)), (1, .long v1), (3, .int v3)] → W p l e (rmN 1 23) s m args below meth c H locs 0 0 Q (F0 m 292 ls []) := by
  have hx := C0.1
  have hb := C0.2.1
  have hta := C0.2.2.2.2.2.1
  have hown := C0.2.2.2.2.1
  intro n
  induction n with
  | zero => intro _ _ h; cases h
  | succ n ih =>
    intro v1 v3 hrun H locs ls hW hl
    obtain ⟨o, ho, hrun⟩ := bd_some hrun
    unfold m_digest_B292 at ho
    refine lv_iload_n hx hb dX12_digest_292 rfl (lv_at hl 2 rfl) ?_
    refine lv_bipush (v := (16 : Int32)) hx hb dX12_digest_293 (by decide) ?_
    refine lv_aload_n hx hb dX12_digest_295 rfl (lv_at hl 0 rfl) ?_
    refine mGET_50 C0 hW dX12_digest_296 ?_
    refine lv_imul hx hb dX12_digest_299 ?_
    refine lv_icmp_ge (tgt := 323) hx hb dX12_digest_300 (by decide) (fun c19 => ?_) (fun c19 => ?_)
    · replace ho := ite_t c19 ho
      cases ho
      cases hrun
      exact hK0 _ _ _ hW (lv_sub hl [0, 1] rfl)
    · replace ho := ite_f c19 ho
      refine lv_ldc2 hx hb hown (hta _ kw_2211) dX12_digest_303 ?_
      refine lv_lload_n hx hb dX12_digest_306 rfl (lv_at hl 1 rfl) ?_
      refine lv_lmul hx hb dX12_digest_307 ?_
      refine lv_aload_n hx hb dX12_digest_308 rfl (lv_at hl 0 rfl) ?_
      refine mGET_51 C0 hW dX12_digest_309 ?_
      refine lv_iload_n hx hb dX12_digest_312 rfl (lv_at hl 2 rfl) ?_
      obtain ⟨g20, ho⟩ := gd_some ho
      refine mLD_51 C0 hW g20 dX12_digest_313 ?_
      refine lv_i2l hx hb dX12_digest_314 rfl ?_
      refine lv_ladd hx hb dX12_digest_315 ?_
      refine lv_nml ho (fun x21 ho => ?_)
      refine lv_lstore_n (lv' := [(1, .long x21), (0, .ref (am 68)), (3, .int v3)]) hx hb dX12_digest_316 rfl hl (by decide) rfl (fun ls hl => ?_)
      obtain ⟨x22, ex22, ho⟩ := nm_x ho
      refine lv_iinc (v := x22) (lv' := [(3, .int x22), (1, .long x21), (0, .ref (am 68))]) hx hb dX12_digest_317 hl (k := 2) rfl (by rw [ex22]; rfl) (by decide) rfl (fun ls hl => ?_)
      clear ex22
      refine lv_goto (tgt := 292) hx hb dX12_digest_320 (by decide) ?_
      cases ho
      exact ih _ _ hrun _ _ _ hW (lv_sub hl [2, 1, 0] rfl)
set_option maxHeartbeats 4000000 in
set_option maxRecDepth 100000 in
theorem m_digest_L33 {p : Program} {l : Launch} {e : Env} {s : State} {m : MethodId} {args : Array Value} {below : List Frame} {meth : Method} {c : Code} {Q : State → Prop} {D : va_G} {cI cJ cZ : ClassId} {am : Nat → Nat} {A : Nat → Prop} (C0 : cx p s m args meth c cX12_digest RX12 5 (some .long) D (tyM cI cJ cZ) A) {t : St} {y : Int64} (hK0 : ∀ (H : Heap) (locs : List Loc) (ls : Array Slot), wl D A s (wM cI cJ cZ am t) H locs → lv_has ls 5 [(0, .ref (am 68)), (1, .long y)] → W p l e (rmN 1 23) s m args below meth c H locs 0 0 Q (F0 m 75 ls [])) :
    ∀ (n : Nat) (v1 : Int64) (v3 : Int32), lpn (fun x => m_digest_B33 t x.1 x.2) n (v1, v3) = some y → ∀ (H : Heap) (locs : List Loc) (ls : Array Slot), wl D A s (wM cI cJ cZ am t) H locs → lv_has ls 5 [(0, .ref (am 68)), (1, .long v1), (3, .int v3)] → W p l e (rmN 1 23) s m args below meth c H locs 0 0 Q (F0 m 33 ls []) := by
  have hx := C0.1
  have hb := C0.2.1
  have hta := C0.2.2.2.2.2.1
  have hown := C0.2.2.2.2.1
  intro n
  induction n with
  | zero => intro _ _ h; cases h
  | succ n ih =>
    intro v1 v3 hrun H locs ls hW hl
    obtain ⟨o, ho, hrun⟩ := bd_some hrun
    unfold m_digest_B33 at ho
    refine lv_iload_n hx hb dX12_digest_33 rfl (lv_at hl 2 rfl) ?_
    refine lv_bipush (v := (16 : Int32)) hx hb dX12_digest_34 (by decide) ?_
    refine lv_icmp_ge (tgt := 75) hx hb dX12_digest_36 (by decide) (fun c23 => ?_) (fun c23 => ?_)
    · replace ho := ite_t c23 ho
      cases ho
      cases hrun
      exact hK0 _ _ _ hW (lv_sub hl [0, 1] rfl)
    · replace ho := ite_f c23 ho
      refine lv_iconst (v := (0 : Int32)) hx hb dX12_digest_39 (by decide) ?_
      refine lv_istore (lv' := [(4, .int (0 : Int32)), (0, .ref (am 68)), (1, .long v1), (3, .int v3)]) hx hb dX12_digest_40 hl (by decide) rfl (fun ls hl => ?_)
      obtain ⟨y24, hc26, ho⟩ := bd_some ho
      obtain ⟨ny24, hc26⟩ := lp_to hc26
      refine m_digest_L42 C0 ?_ ny24 _ _ hc26 _ _ _ hW (lv_sub hl [1, 2, 3, 0] rfl)
      intro H locs ls hW hl
      obtain ⟨x27, ex27, ho⟩ := nm_x ho
      refine lv_iinc (v := x27) (lv' := [(3, .int x27), (0, .ref (am 68)), (1, .long y24)]) hx hb dX12_digest_69 hl (k := 2) rfl (by rw [ex27]; rfl) (by decide) rfl (fun ls hl => ?_)
      clear ex27
      refine lv_goto (tgt := 33) hx hb dX12_digest_72 (by decide) ?_
      cases ho
      exact ih _ _ hrun _ _ _ hW (lv_sub hl [1, 2, 0] rfl)
set_option maxHeartbeats 4000000 in
set_option maxRecDepth 100000 in
theorem m_digest_L419 {p : Program} {l : Launch} {e : Env} {s : State} {m : MethodId} {args : Array Value} {below : List Frame} {meth : Method} {c : Code} {Q : State → Prop} {D : va_G} {cI cJ cZ : ClassId} {am : Nat → Nat} {A : Nat → Prop} (C0 : cx p s m args meth c cX12_digest RX12 5 (some .long) D (tyM cI cJ cZ) A) {t : St} {v3 : Int32} {y : Int64} (hK0 : ∀ (H : Heap) (locs : List Loc) (ls : Array Slot), wl D A s (wM cI cJ cZ am t) H locs → lv_has ls 5 [(0, .ref (am 68)), (1, .long y), (3, .int v3)] → W p l e (rmN 1 23) s m args below meth c H locs 0 0 Q (F0 m 456 ls [])) :
    ∀ (n : Nat) (v1 : Int64) (v4 : Int32), lpn (fun x => m_digest_B419 t v3 x.1 x.2) n (v1, v4) = some y → ∀ (H : Heap) (locs : List Loc) (ls : Array Slot), wl D A s (wM cI cJ cZ am t) H locs → lv_has ls 5 [(0, .ref (am 68)), (1, .long v1), (3, .int v3), (4, .int v4)] → W p l e (rmN 1 23) s m args below meth c H locs 0 0 Q (F0 m 419 ls []) := by
  have hx := C0.1
  have hb := C0.2.1
  have hta := C0.2.2.2.2.2.1
  have hown := C0.2.2.2.2.1
  intro n
  induction n with
  | zero => intro _ _ h; cases h
  | succ n ih =>
    intro v1 v4 hrun H locs ls hW hl
    obtain ⟨o, ho, hrun⟩ := bd_some hrun
    unfold m_digest_B419 at ho
    refine lv_iload hx hb dX12_digest_419 (lv_at hl 3 rfl) ?_
    refine lv_aload_n hx hb dX12_digest_421 rfl (lv_at hl 0 rfl) ?_
    refine mGET_60 C0 hW dX12_digest_422 ?_
    refine lv_iload_n hx hb dX12_digest_425 rfl (lv_at hl 2 rfl) ?_
    obtain ⟨g28, ho⟩ := gd_some ho
    refine mLD_60 C0 hW g28 dX12_digest_426 ?_
    refine lv_icmp_ge (tgt := 456) hx hb dX12_digest_427 (by decide) (fun c29 => ?_) (fun c29 => ?_)
    · replace ho := ite_t c29 ho
      cases ho
      cases hrun
      exact hK0 _ _ _ hW (lv_sub hl [0, 1, 2] rfl)
    · replace ho := ite_f c29 ho
      refine lv_ldc2 hx hb hown (hta _ kw_2211) dX12_digest_430 ?_
      refine lv_lload_n hx hb dX12_digest_433 rfl (lv_at hl 1 rfl) ?_
      refine lv_lmul hx hb dX12_digest_434 ?_
      refine lv_aload_n hx hb dX12_digest_435 rfl (lv_at hl 0 rfl) ?_
      refine mGET_61 C0 hW dX12_digest_436 ?_
      refine lv_bipush (v := (12 : Int32)) hx hb dX12_digest_439 (by decide) ?_
      refine lv_iload_n hx hb dX12_digest_441 rfl (lv_at hl 2 rfl) ?_
      refine lv_imul hx hb dX12_digest_442 ?_
      refine lv_iload hx hb dX12_digest_443 (lv_at hl 3 rfl) ?_
      refine lv_iadd hx hb dX12_digest_445 ?_
      obtain ⟨g30, ho⟩ := gd_some ho
      refine mLD_61 C0 hW g30 dX12_digest_446 ?_
      refine lv_i2l hx hb dX12_digest_447 rfl ?_
      refine lv_ladd hx hb dX12_digest_448 ?_
      refine lv_nml ho (fun x31 ho => ?_)
      refine lv_lstore_n (lv' := [(1, .long x31), (0, .ref (am 68)), (3, .int v3), (4, .int v4)]) hx hb dX12_digest_449 rfl hl (by decide) rfl (fun ls hl => ?_)
      obtain ⟨x32, ex32, ho⟩ := nm_x ho
      refine lv_iinc (v := x32) (lv' := [(4, .int x32), (1, .long x31), (0, .ref (am 68)), (3, .int v3)]) hx hb dX12_digest_450 hl (k := 3) rfl (by rw [ex32]; rfl) (by decide) rfl (fun ls hl => ?_)
      clear ex32
      refine lv_goto (tgt := 419) hx hb dX12_digest_453 (by decide) ?_
      cases ho
      exact ih _ _ hrun _ _ _ hW (lv_sub hl [2, 1, 3, 0] rfl)
set_option maxHeartbeats 4000000 in
set_option maxRecDepth 100000 in
theorem m_digest_L203 {p : Program} {l : Launch} {e : Env} {s : State} {m : MethodId} {args : Array Value} {below : List Frame} {meth : Method} {c : Code} {Q : State → Prop} {D : va_G} {cI cJ cZ : ClassId} {am : Nat → Nat} {A : Nat → Prop} (C0 : cx p s m args meth c cX12_digest RX12 5 (some .long) D (tyM cI cJ cZ) A) {t : St} {v3 : Int32} {y : Int64} (hK0 : ∀ (H : Heap) (locs : List Loc) (ls : Array Slot), wl D A s (wM cI cJ cZ am t) H locs → lv_has ls 5 [(0, .ref (am 68)), (1, .long y), (3, .int v3)] → W p l e (rmN 1 23) s m args below meth c H locs 0 0 Q (F0 m 242 ls [])) :
    ∀ (n : Nat) (v1 : Int64) (v4 : Int32), lpn (fun x => m_digest_B203 t v3 x.1 x.2) n (v1, v4) = some y → ∀ (H : Heap) (locs : List Loc) (ls : Array Slot), wl D A s (wM cI cJ cZ am t) H locs → lv_has ls 5 [(0, .ref (am 68)), (1, .long v1), (3, .int v3), (4, .int v4)] → W p l e (rmN 1 23) s m args below meth c H locs 0 0 Q (F0 m 203 ls []) := by
  have hx := C0.1
  have hb := C0.2.1
  have hta := C0.2.2.2.2.2.1
  have hown := C0.2.2.2.2.1
  intro n
  induction n with
  | zero => intro _ _ h; cases h
  | succ n ih =>
    intro v1 v4 hrun H locs ls hW hl
    obtain ⟨o, ho, hrun⟩ := bd_some hrun
    unfold m_digest_B203 at ho
    refine lv_iload hx hb dX12_digest_203 (lv_at hl 3 rfl) ?_
    refine lv_aload_n hx hb dX12_digest_205 rfl (lv_at hl 0 rfl) ?_
    refine mGET_12 C0 hW dX12_digest_206 ?_
    refine lv_iload_n hx hb dX12_digest_209 rfl (lv_at hl 2 rfl) ?_
    obtain ⟨g33, ho⟩ := gd_some ho
    refine mLD_12 C0 hW g33 dX12_digest_210 ?_
    refine lv_icmp_ge (tgt := 242) hx hb dX12_digest_211 (by decide) (fun c34 => ?_) (fun c34 => ?_)
    · replace ho := ite_t c34 ho
      cases ho
      cases hrun
      exact hK0 _ _ _ hW (lv_sub hl [0, 1, 2] rfl)
    · replace ho := ite_f c34 ho
      refine lv_ldc2 hx hb hown (hta _ kw_2211) dX12_digest_214 ?_
      refine lv_lload_n hx hb dX12_digest_217 rfl (lv_at hl 1 rfl) ?_
      refine lv_lmul hx hb dX12_digest_218 ?_
      refine lv_aload_n hx hb dX12_digest_219 rfl (lv_at hl 0 rfl) ?_
      refine mGET_14 C0 hW dX12_digest_220 ?_
      refine lv_aload_n hx hb dX12_digest_223 rfl (lv_at hl 0 rfl) ?_
      refine mGET_11 C0 hW dX12_digest_224 ?_
      refine lv_iload_n hx hb dX12_digest_227 rfl (lv_at hl 2 rfl) ?_
      obtain ⟨g35, ho⟩ := gd_some ho
      refine mLD_11 C0 hW g35 dX12_digest_228 ?_
      refine lv_iload hx hb dX12_digest_229 (lv_at hl 3 rfl) ?_
      refine lv_iadd hx hb dX12_digest_231 ?_
      obtain ⟨g36, ho⟩ := gd_some ho
      refine mLD_14 C0 hW g36 dX12_digest_232 ?_
      refine lv_i2l hx hb dX12_digest_233 rfl ?_
      refine lv_ladd hx hb dX12_digest_234 ?_
      refine lv_nml ho (fun x37 ho => ?_)
      refine lv_lstore_n (lv' := [(1, .long x37), (0, .ref (am 68)), (3, .int v3), (4, .int v4)]) hx hb dX12_digest_235 rfl hl (by decide) rfl (fun ls hl => ?_)
      obtain ⟨x38, ex38, ho⟩ := nm_x ho
      refine lv_iinc (v := x38) (lv' := [(4, .int x38), (1, .long x37), (0, .ref (am 68)), (3, .int v3)]) hx hb dX12_digest_236 hl (k := 3) rfl (by rw [ex38]; rfl) (by decide) rfl (fun ls hl => ?_)
      clear ex38
      refine lv_goto (tgt := 203) hx hb dX12_digest_239 (by decide) ?_
      cases ho
      exact ih _ _ hrun _ _ _ hW (lv_sub hl [2, 1, 3, 0] rfl)
set_option maxHeartbeats 4000000 in
set_option maxRecDepth 100000 in
theorem m_digest_L250 {p : Program} {l : Launch} {e : Env} {s : State} {m : MethodId} {args : Array Value} {below : List Frame} {meth : Method} {c : Code} {Q : State → Prop} {D : va_G} {cI cJ cZ : ClassId} {am : Nat → Nat} {A : Nat → Prop} (C0 : cx p s m args meth c cX12_digest RX12 5 (some .long) D (tyM cI cJ cZ) A) {t : St} {y : Int64} (hK0 : ∀ (H : Heap) (locs : List Loc) (ls : Array Slot), wl D A s (wM cI cJ cZ am t) H locs → lv_has ls 5 [(0, .ref (am 68)), (1, .long y)] → W p l e (rmN 1 23) s m args below meth c H locs 0 0 Q (F0 m 290 ls [])) :
    ∀ (n : Nat) (v1 : Int64) (v3 : Int32), lpn (fun x => m_digest_B250 t x.1 x.2) n (v1, v3) = some y → ∀ (H : Heap) (locs : List Loc) (ls : Array Slot), wl D A s (wM cI cJ cZ am t) H locs → lv_has ls 5 [(0, .ref (am 68)), (1, .long v1), (3, .int v3)] → W p l e (rmN 1 23) s m args below meth c H locs 0 0 Q (F0 m 250 ls []) := by
  have hx := C0.1
  have hb := C0.2.1
  have hta := C0.2.2.2.2.2.1
  have hown := C0.2.2.2.2.1
  intro n
  induction n with
  | zero => intro _ _ h; cases h
  | succ n ih =>
    intro v1 v3 hrun H locs ls hW hl
    obtain ⟨o, ho, hrun⟩ := bd_some hrun
    unfold m_digest_B250 at ho
    refine lv_iload_n hx hb dX12_digest_250 rfl (lv_at hl 2 rfl) ?_
    refine lv_aload_n hx hb dX12_digest_251 rfl (lv_at hl 0 rfl) ?_
    refine mGET_45 C0 hW dX12_digest_252 ?_
    refine lv_icmp_ge (tgt := 290) hx hb dX12_digest_255 (by decide) (fun c39 => ?_) (fun c39 => ?_)
    · replace ho := ite_t c39 ho
      cases ho
      cases hrun
      exact hK0 _ _ _ hW (lv_sub hl [0, 1] rfl)
    · replace ho := ite_f c39 ho
      refine lv_ldc2 hx hb hown (hta _ kw_2211) dX12_digest_258 ?_
      refine lv_ldc2 hx hb hown (hta _ kw_2211) dX12_digest_261 ?_
      refine lv_lload_n hx hb dX12_digest_264 rfl (lv_at hl 1 rfl) ?_
      refine lv_lmul hx hb dX12_digest_265 ?_
      refine lv_aload_n hx hb dX12_digest_266 rfl (lv_at hl 0 rfl) ?_
      refine mGET_46 C0 hW dX12_digest_267 ?_
      refine lv_iload_n hx hb dX12_digest_270 rfl (lv_at hl 2 rfl) ?_
      obtain ⟨g40, ho⟩ := gd_some ho
      refine mLD_46 C0 hW g40 dX12_digest_271 ?_
      refine lv_i2l hx hb dX12_digest_272 rfl ?_
      refine lv_ladd hx hb dX12_digest_273 ?_
      refine lv_lmul hx hb dX12_digest_274 ?_
      refine lv_aload_n hx hb dX12_digest_275 rfl (lv_at hl 0 rfl) ?_
      refine mGET_47 C0 hW dX12_digest_276 ?_
      refine lv_iload_n hx hb dX12_digest_279 rfl (lv_at hl 2 rfl) ?_
      obtain ⟨g41, ho⟩ := gd_some ho
      refine mLD_47 C0 hW g41 dX12_digest_280 ?_
      refine lv_i2l hx hb dX12_digest_281 rfl ?_
      refine lv_ladd hx hb dX12_digest_282 ?_
      refine lv_nml ho (fun x42 ho => ?_)
      refine lv_lstore_n (lv' := [(1, .long x42), (0, .ref (am 68)), (3, .int v3)]) hx hb dX12_digest_283 rfl hl (by decide) rfl (fun ls hl => ?_)
      obtain ⟨x43, ex43, ho⟩ := nm_x ho
      refine lv_iinc (v := x43) (lv' := [(3, .int x43), (1, .long x42), (0, .ref (am 68))]) hx hb dX12_digest_284 hl (k := 2) rfl (by rw [ex43]; rfl) (by decide) rfl (fun ls hl => ?_)
      clear ex43
      refine lv_goto (tgt := 250) hx hb dX12_digest_287 (by decide) ?_
      cases ho
      exact ih _ _ hrun _ _ _ hW (lv_sub hl [2, 1, 0] rfl)
set_option maxHeartbeats 4000000 in
set_option maxRecDepth 100000 in
theorem m_digest_L355 {p : Program} {l : Launch} {e : Env} {s : State} {m : MethodId} {args : Array Value} {below : List Frame} {meth : Method} {c : Code} {Q : State → Prop} {D : va_G} {cI cJ cZ : ClassId} {am : Nat → Nat} {A : Nat → Prop} (C0 : cx p s m args meth c cX12_digest RX12 5 (some .long) D (tyM cI cJ cZ) A) {t : St} {y : Int64} (hK0 : ∀ (H : Heap) (locs : List Loc) (ls : Array Slot), wl D A s (wM cI cJ cZ am t) H locs → lv_has ls 5 [(0, .ref (am 68)), (1, .long y)] → W p l e (rmN 1 23) s m args below meth c H locs 0 0 Q (F0 m 395 ls [])) :
    ∀ (n : Nat) (v1 : Int64) (v3 : Int32), lpn (fun x => m_digest_B355 t x.1 x.2) n (v1, v3) = some y → ∀ (H : Heap) (locs : List Loc) (ls : Array Slot), wl D A s (wM cI cJ cZ am t) H locs → lv_has ls 5 [(0, .ref (am 68)), (1, .long v1), (3, .int v3)] → W p l e (rmN 1 23) s m args below meth c H locs 0 0 Q (F0 m 355 ls []) := by
  have hx := C0.1
  have hb := C0.2.1
  have hta := C0.2.2.2.2.2.1
  have hown := C0.2.2.2.2.1
  intro n
  induction n with
  | zero => intro _ _ h; cases h
  | succ n ih =>
    intro v1 v3 hrun H locs ls hW hl
    obtain ⟨o, ho, hrun⟩ := bd_some hrun
    unfold m_digest_B355 at ho
    refine lv_iload_n hx hb dX12_digest_355 rfl (lv_at hl 2 rfl) ?_
    refine lv_aload_n hx hb dX12_digest_356 rfl (lv_at hl 0 rfl) ?_
    refine mGET_56 C0 hW dX12_digest_357 ?_
    refine lv_icmp_ge (tgt := 395) hx hb dX12_digest_360 (by decide) (fun c44 => ?_) (fun c44 => ?_)
    · replace ho := ite_t c44 ho
      cases ho
      cases hrun
      exact hK0 _ _ _ hW (lv_sub hl [0, 1] rfl)
    · replace ho := ite_f c44 ho
      refine lv_ldc2 hx hb hown (hta _ kw_2211) dX12_digest_363 ?_
      refine lv_ldc2 hx hb hown (hta _ kw_2211) dX12_digest_366 ?_
      refine lv_lload_n hx hb dX12_digest_369 rfl (lv_at hl 1 rfl) ?_
      refine lv_lmul hx hb dX12_digest_370 ?_
      refine lv_aload_n hx hb dX12_digest_371 rfl (lv_at hl 0 rfl) ?_
      refine mGET_57 C0 hW dX12_digest_372 ?_
      refine lv_iload_n hx hb dX12_digest_375 rfl (lv_at hl 2 rfl) ?_
      obtain ⟨g45, ho⟩ := gd_some ho
      refine mLD_57 C0 hW g45 dX12_digest_376 ?_
      refine lv_i2l hx hb dX12_digest_377 rfl ?_
      refine lv_ladd hx hb dX12_digest_378 ?_
      refine lv_lmul hx hb dX12_digest_379 ?_
      refine lv_aload_n hx hb dX12_digest_380 rfl (lv_at hl 0 rfl) ?_
      refine mGET_58 C0 hW dX12_digest_381 ?_
      refine lv_iload_n hx hb dX12_digest_384 rfl (lv_at hl 2 rfl) ?_
      obtain ⟨g46, ho⟩ := gd_some ho
      refine mLD_58 C0 hW g46 dX12_digest_385 ?_
      refine lv_i2l hx hb dX12_digest_386 rfl ?_
      refine lv_ladd hx hb dX12_digest_387 ?_
      refine lv_nml ho (fun x47 ho => ?_)
      refine lv_lstore_n (lv' := [(1, .long x47), (0, .ref (am 68)), (3, .int v3)]) hx hb dX12_digest_388 rfl hl (by decide) rfl (fun ls hl => ?_)
      obtain ⟨x48, ex48, ho⟩ := nm_x ho
      refine lv_iinc (v := x48) (lv' := [(3, .int x48), (1, .long x47), (0, .ref (am 68))]) hx hb dX12_digest_389 hl (k := 2) rfl (by rw [ex48]; rfl) (by decide) rfl (fun ls hl => ?_)
      clear ex48
      refine lv_goto (tgt := 355) hx hb dX12_digest_392 (by decide) ?_
      cases ho
      exact ih _ _ hrun _ _ _ hW (lv_sub hl [2, 1, 0] rfl)
set_option maxHeartbeats 4000000 in
set_option maxRecDepth 100000 in
theorem m_digest_L107 {p : Program} {l : Launch} {e : Env} {s : State} {m : MethodId} {args : Array Value} {below : List Frame} {meth : Method} {c : Code} {Q : State → Prop} {D : va_G} {cI cJ cZ : ClassId} {am : Nat → Nat} {A : Nat → Prop} (C0 : cx p s m args meth c cX12_digest RX12 5 (some .long) D (tyM cI cJ cZ) A) {t : St} {y : Int64} (hK0 : ∀ (H : Heap) (locs : List Loc) (ls : Array Slot), wl D A s (wM cI cJ cZ am t) H locs → lv_has ls 5 [(0, .ref (am 68)), (1, .long y)] → W p l e (rmN 1 23) s m args below meth c H locs 0 0 Q (F0 m 150 ls [])) :
    ∀ (n : Nat) (v1 : Int64) (v3 : Int32), lpn (fun x => m_digest_B107 t x.1 x.2) n (v1, v3) = some y → ∀ (H : Heap) (locs : List Loc) (ls : Array Slot), wl D A s (wM cI cJ cZ am t) H locs → lv_has ls 5 [(0, .ref (am 68)), (1, .long v1), (3, .int v3)] → W p l e (rmN 1 23) s m args below meth c H locs 0 0 Q (F0 m 107 ls []) := by
  have hx := C0.1
  have hb := C0.2.1
  have hta := C0.2.2.2.2.2.1
  have hown := C0.2.2.2.2.1
  intro n
  induction n with
  | zero => intro _ _ h; cases h
  | succ n ih =>
    intro v1 v3 hrun H locs ls hW hl
    obtain ⟨o, ho, hrun⟩ := bd_some hrun
    unfold m_digest_B107 at ho
    refine lv_iload_n hx hb dX12_digest_107 rfl (lv_at hl 2 rfl) ?_
    refine lv_bipush (v := (10 : Int32)) hx hb dX12_digest_108 (by decide) ?_
    refine lv_icmp_ge (tgt := 150) hx hb dX12_digest_110 (by decide) (fun c49 => ?_) (fun c49 => ?_)
    · replace ho := ite_t c49 ho
      cases ho
      cases hrun
      exact hK0 _ _ _ hW (lv_sub hl [0, 1] rfl)
    · replace ho := ite_f c49 ho
      refine lv_aload_n hx hb dX12_digest_113 rfl (lv_at hl 0 rfl) ?_
      refine mGET_16 C0 hW dX12_digest_114 ?_
      refine lv_iload_n hx hb dX12_digest_117 rfl (lv_at hl 2 rfl) ?_
      obtain ⟨g50, ho⟩ := gd_some ho
      refine mLD_16 C0 hW g50 dX12_digest_118 ?_
      refine lv_iconst (v := (-1 : Int32)) hx hb dX12_digest_119 (by decide) ?_
      refine lv_icmp_eq (tgt := 144) hx hb dX12_digest_120 (by decide) (fun c51 => ?_) (fun c51 => ?_)
      · replace ho := ite_t c51 ho
        obtain ⟨x52, ex52, ho⟩ := nm_x ho
        refine lv_iinc (v := x52) (lv' := [(3, .int x52), (0, .ref (am 68)), (1, .long v1)]) hx hb dX12_digest_144 hl (k := 2) rfl (by rw [ex52]; rfl) (by decide) rfl (fun ls hl => ?_)
        clear ex52
        refine lv_goto (tgt := 107) hx hb dX12_digest_147 (by decide) ?_
        cases ho
        exact ih _ _ hrun _ _ _ hW (lv_sub hl [1, 2, 0] rfl)
      · replace ho := ite_f c51 ho
        refine lv_ldc2 hx hb hown (hta _ kw_2211) dX12_digest_123 ?_
        refine lv_ldc2 hx hb hown (hta _ kw_2211) dX12_digest_126 ?_
        refine lv_lload_n hx hb dX12_digest_129 rfl (lv_at hl 1 rfl) ?_
        refine lv_lmul hx hb dX12_digest_130 ?_
        refine lv_iload_n hx hb dX12_digest_131 rfl (lv_at hl 2 rfl) ?_
        refine lv_i2l hx hb dX12_digest_132 rfl ?_
        refine lv_ladd hx hb dX12_digest_133 ?_
        refine lv_lmul hx hb dX12_digest_134 ?_
        refine lv_aload_n hx hb dX12_digest_135 rfl (lv_at hl 0 rfl) ?_
        refine mGET_16 C0 hW dX12_digest_136 ?_
        refine lv_iload_n hx hb dX12_digest_139 rfl (lv_at hl 2 rfl) ?_
        obtain ⟨g53, ho⟩ := gd_some ho
        refine mLD_16 C0 hW g53 dX12_digest_140 ?_
        refine lv_i2l hx hb dX12_digest_141 rfl ?_
        refine lv_ladd hx hb dX12_digest_142 ?_
        refine lv_nml ho (fun x54 ho => ?_)
        refine lv_lstore_n (lv' := [(1, .long x54), (0, .ref (am 68)), (3, .int v3)]) hx hb dX12_digest_143 rfl hl (by decide) rfl (fun ls hl => ?_)
        obtain ⟨x55, ex55, ho⟩ := nm_x ho
        refine lv_iinc (v := x55) (lv' := [(3, .int x55), (1, .long x54), (0, .ref (am 68))]) hx hb dX12_digest_144 hl (k := 2) rfl (by rw [ex55]; rfl) (by decide) rfl (fun ls hl => ?_)
        clear ex55
        refine lv_goto (tgt := 107) hx hb dX12_digest_147 (by decide) ?_
        cases ho
        exact ih _ _ hrun _ _ _ hW (lv_sub hl [2, 1, 0] rfl)
set_option maxHeartbeats 4000000 in
set_option maxRecDepth 100000 in
theorem m_digest_L397 {p : Program} {l : Launch} {e : Env} {s : State} {m : MethodId} {args : Array Value} {below : List Frame} {meth : Method} {c : Code} {Q : State → Prop} {D : va_G} {cI cJ cZ : ClassId} {am : Nat → Nat} {A : Nat → Prop} (C0 : cx p s m args meth c cX12_digest RX12 5 (some .long) D (tyM cI cJ cZ) A) {t : St} {y : Int64} (hK0 : ∀ (H : Heap) (locs : List Loc) (ls : Array Slot), wl D A s (wM cI cJ cZ am t) H locs → lv_has ls 5 [(0, .ref (am 68)), (1, .long y)] → W p l e (rmN 1 23) s m args below meth c H locs 0 0 Q (F0 m 462 ls [])) :
    ∀ (n : Nat) (v1 : Int64) (v3 : Int32), lpn (fun x => m_digest_B397 t x.1 x.2) n (v1, v3) = some y → ∀ (H : Heap) (locs : List Loc) (ls : Array Slot), wl D A s (wM cI cJ cZ am t) H locs → lv_has ls 5 [(0, .ref (am 68)), (1, .long v1), (3, .int v3)] → W p l e (rmN 1 23) s m args below meth c H locs 0 0 Q (F0 m 397 ls []) := by
  have hx := C0.1
  have hb := C0.2.1
  have hta := C0.2.2.2.2.2.1
  have hown := C0.2.2.2.2.1
  intro n
  induction n with
  | zero => intro _ _ h; cases h
  | succ n ih =>
    intro v1 v3 hrun H locs ls hW hl
    obtain ⟨o, ho, hrun⟩ := bd_some hrun
    unfold m_digest_B397 at ho
    refine lv_iload_n hx hb dX12_digest_397 rfl (lv_at hl 2 rfl) ?_
    refine lv_iconst (v := (4 : Int32)) hx hb dX12_digest_398 (by decide) ?_
    refine lv_icmp_ge (tgt := 462) hx hb dX12_digest_399 (by decide) (fun c56 => ?_) (fun c56 => ?_)
    · replace ho := ite_t c56 ho
      cases ho
      cases hrun
      exact hK0 _ _ _ hW (lv_sub hl [0, 1] rfl)
    · replace ho := ite_f c56 ho
      refine lv_ldc2 hx hb hown (hta _ kw_2211) dX12_digest_402 ?_
      refine lv_lload_n hx hb dX12_digest_405 rfl (lv_at hl 1 rfl) ?_
      refine lv_lmul hx hb dX12_digest_406 ?_
      refine lv_aload_n hx hb dX12_digest_407 rfl (lv_at hl 0 rfl) ?_
      refine mGET_60 C0 hW dX12_digest_408 ?_
      refine lv_iload_n hx hb dX12_digest_411 rfl (lv_at hl 2 rfl) ?_
      obtain ⟨g57, ho⟩ := gd_some ho
      refine mLD_60 C0 hW g57 dX12_digest_412 ?_
      refine lv_i2l hx hb dX12_digest_413 rfl ?_
      refine lv_ladd hx hb dX12_digest_414 ?_
      refine lv_nml ho (fun x58 ho => ?_)
      refine lv_lstore_n (lv' := [(1, .long x58), (0, .ref (am 68)), (3, .int v3)]) hx hb dX12_digest_415 rfl hl (by decide) rfl (fun ls hl => ?_)
      refine lv_iconst (v := (0 : Int32)) hx hb dX12_digest_416 (by decide) ?_
      refine lv_istore (lv' := [(4, .int (0 : Int32)), (1, .long x58), (0, .ref (am 68)), (3, .int v3)]) hx hb dX12_digest_417 hl (by decide) rfl (fun ls hl => ?_)
      obtain ⟨y59, hc61, ho⟩ := bd_some ho
      obtain ⟨ny59, hc61⟩ := lp_to hc61
      refine m_digest_L419 C0 ?_ ny59 _ _ hc61 _ _ _ hW (lv_sub hl [2, 1, 3, 0] rfl)
      intro H locs ls hW hl
      obtain ⟨x62, ex62, ho⟩ := nm_x ho
      refine lv_iinc (v := x62) (lv' := [(3, .int x62), (0, .ref (am 68)), (1, .long y59)]) hx hb dX12_digest_456 hl (k := 2) rfl (by rw [ex62]; rfl) (by decide) rfl (fun ls hl => ?_)
      clear ex62
      refine lv_goto (tgt := 397) hx hb dX12_digest_459 (by decide) ?_
      cases ho
      exact ih _ _ hrun _ _ _ hW (lv_sub hl [1, 2, 0] rfl)
set_option maxHeartbeats 4000000 in
set_option maxRecDepth 100000 in
theorem m_digest_L152 {p : Program} {l : Launch} {e : Env} {s : State} {m : MethodId} {args : Array Value} {below : List Frame} {meth : Method} {c : Code} {Q : State → Prop} {D : va_G} {cI cJ cZ : ClassId} {am : Nat → Nat} {A : Nat → Prop} (C0 : cx p s m args meth c cX12_digest RX12 5 (some .long) D (tyM cI cJ cZ) A) {t : St} {y : Int64} (hK0 : ∀ (H : Heap) (locs : List Loc) (ls : Array Slot), wl D A s (wM cI cJ cZ am t) H locs → lv_has ls 5 [(0, .ref (am 68)), (1, .long y)] → W p l e (rmN 1 23) s m args below meth c H locs 0 0 Q (F0 m 248 ls [])) :
    ∀ (n : Nat) (v1 : Int64) (v3 : Int32), lpn (fun x => m_digest_B152 t x.1 x.2) n (v1, v3) = some y → ∀ (H : Heap) (locs : List Loc) (ls : Array Slot), wl D A s (wM cI cJ cZ am t) H locs → lv_has ls 5 [(0, .ref (am 68)), (1, .long v1), (3, .int v3)] → W p l e (rmN 1 23) s m args below meth c H locs 0 0 Q (F0 m 152 ls []) := by
  have hx := C0.1
  have hb := C0.2.1
  have hta := C0.2.2.2.2.2.1
  have hown := C0.2.2.2.2.1
  intro n
  induction n with
  | zero => intro _ _ h; cases h
  | succ n ih =>
    intro v1 v3 hrun H locs ls hW hl
    obtain ⟨o, ho, hrun⟩ := bd_some hrun
    unfold m_digest_B152 at ho
    refine lv_iload_n hx hb dX12_digest_152 rfl (lv_at hl 2 rfl) ?_
    refine lv_aload_n hx hb dX12_digest_153 rfl (lv_at hl 0 rfl) ?_
    refine mGET_7 C0 hW dX12_digest_154 ?_
    refine lv_icmp_ge (tgt := 248) hx hb dX12_digest_157 (by decide) (fun c63 => ?_) (fun c63 => ?_)
    · replace ho := ite_t c63 ho
      cases ho
      cases hrun
      exact hK0 _ _ _ hW (lv_sub hl [0, 1] rfl)
    · replace ho := ite_f c63 ho
      refine lv_ldc2 hx hb hown (hta _ kw_2211) dX12_digest_160 ?_
      refine lv_ldc2 hx hb hown (hta _ kw_2211) dX12_digest_163 ?_
      refine lv_lload_n hx hb dX12_digest_166 rfl (lv_at hl 1 rfl) ?_
      refine lv_lmul hx hb dX12_digest_167 ?_
      refine lv_aload_n hx hb dX12_digest_168 rfl (lv_at hl 0 rfl) ?_
      refine mGET_8 C0 hW dX12_digest_169 ?_
      refine lv_iload_n hx hb dX12_digest_172 rfl (lv_at hl 2 rfl) ?_
      obtain ⟨g64, ho⟩ := gd_some ho
      refine mLD_8 C0 hW g64 dX12_digest_173 ?_
      refine lv_i2l hx hb dX12_digest_174 rfl ?_
      refine lv_ladd hx hb dX12_digest_175 ?_
      refine lv_lmul hx hb dX12_digest_176 ?_
      refine lv_aload_n hx hb dX12_digest_177 rfl (lv_at hl 0 rfl) ?_
      refine lv_iload_n hx hb dX12_digest_178 rfl (lv_at hl 2 rfl) ?_
      refine lv_iconst (v := (2 : Int32)) hx hb dX12_digest_179 (by decide) ?_
      obtain ⟨q65, hc66, ho⟩ := bd_some ho
      refine bkI C0 hW (runV (As := [.int v3, .int (2 : Int32)]) (rest := [.long ((31 : Int64) * (((31 : Int64) * v1) + ((gA t 8 (v3).toNatClampNeg)).toInt64))]) C0 hW (c_m_knotOf l _ t v3 (2 : Int32) (r := q65) hc66) ca_X12_knotOf_275 0 12 rfl rfl rfl rfl rfl ⟨rfl, rfl⟩ ⟨Nat.le_of_ble_eq_true rfl, Nat.le_of_ble_eq_true rfl⟩ (Nat.le_of_ble_eq_true rfl) hl.1 dX12_digest_180 ⟨Nat.le_of_ble_eq_true rfl, Nat.le_of_ble_eq_true rfl⟩) (fun H locs hW => ?_)
      refine lv_i2l hx hb dX12_digest_183 rfl ?_
      refine lv_ladd hx hb dX12_digest_184 ?_
      refine lv_nml ho (fun x67 ho => ?_)
      refine lv_lstore_n (lv' := [(1, .long x67), (0, .ref (am 68)), (3, .int v3)]) hx hb dX12_digest_185 rfl hl (by decide) rfl (fun ls hl => ?_)
      refine lv_ldc2 hx hb hown (hta _ kw_2211) dX12_digest_186 ?_
      refine lv_lload_n hx hb dX12_digest_189 rfl (lv_at hl 0 rfl) ?_
      refine lv_lmul hx hb dX12_digest_190 ?_
      refine lv_aload_n hx hb dX12_digest_191 rfl (lv_at hl 1 rfl) ?_
      refine mGET_9 C0 hW dX12_digest_192 ?_
      refine lv_iload_n hx hb dX12_digest_195 rfl (lv_at hl 2 rfl) ?_
      obtain ⟨g68, ho⟩ := gd_some ho
      refine mLD_9 C0 hW g68 dX12_digest_196 ?_
      refine lv_i2l hx hb dX12_digest_197 rfl ?_
      refine lv_ladd hx hb dX12_digest_198 ?_
      refine lv_nml ho (fun x69 ho => ?_)
      refine lv_lstore_n (lv' := [(1, .long x69), (0, .ref (am 68)), (3, .int v3)]) hx hb dX12_digest_199 rfl hl (by decide) rfl (fun ls hl => ?_)
      refine lv_iconst (v := (0 : Int32)) hx hb dX12_digest_200 (by decide) ?_
      refine lv_istore (lv' := [(4, .int (0 : Int32)), (1, .long x69), (0, .ref (am 68)), (3, .int v3)]) hx hb dX12_digest_201 hl (by decide) rfl (fun ls hl => ?_)
      obtain ⟨y70, hc72, ho⟩ := bd_some ho
      obtain ⟨ny70, hc72⟩ := lp_to hc72
      refine m_digest_L203 C0 ?_ ny70 _ _ hc72 _ _ _ hW (lv_sub hl [2, 1, 3, 0] rfl)
      intro H locs ls hW hl
      obtain ⟨x73, ex73, ho⟩ := nm_x ho
      refine lv_iinc (v := x73) (lv' := [(3, .int x73), (0, .ref (am 68)), (1, .long y70)]) hx hb dX12_digest_242 hl (k := 2) rfl (by rw [ex73]; rfl) (by decide) rfl (fun ls hl => ?_)
      clear ex73
      refine lv_goto (tgt := 152) hx hb dX12_digest_245 (by decide) ?_
      cases ho
      exact ih _ _ hrun _ _ _ hW (lv_sub hl [1, 2, 0] rfl)
set_option maxHeartbeats 4000000 in
set_option maxRecDepth 100000 in
theorem c_m_digest (l : Launch) {D : va_G} {cI cJ cZ : ClassId} {am : Nat → Nat} (sz : Nat) (t : St) {r : Int64} (ho : m_digest t = some r) : Met l yX12_digest (.code yX12_digest cX12_digest 5 (some .long) :: wsAll) (rmN 1 23) (va_Pc [.ref (am 68)] (prW D (tyM cI cJ cZ) (wM cI cJ cZ am t) sz)) (qJ r D (tyM cI cJ cZ) (wM cI cJ cZ am t) (va_A (wM cI cJ cZ am t) sz)) 0 0 (va_A (wM cI cJ cZ am t) sz) := by
  refine Met.ofW (cc := cX12_digest) (maxL := 5) (ret := (some .long)) (by decide) rfl ?_
  intro p e s m args below meth c s₁ B hml hv
  obtain ⟨rfl, hsz, hP, hK, hD0⟩ := hv
  have hx := B.exec
  have hb := B.bytes
  have hts := atoms_spec (ws := (.code yX12_digest cX12_digest 5 (some .long) :: wsAll)) B.pre
  have hta := fun w h => hts w (List.mem_cons_of_mem _ h)
  have hown : s.vm.findClass RX12 = some m.cls := findClass_of_methodNamed B.named
  have hlocks := B.notSynchronized
  subst hsz
  have hD := hD0.self (sz := s.heap.size)
  generalize hAe : va_A (wM cI cJ cZ am t) s.heap.size = A at hD ⊢
  have hA : ∀ q : Nat, s.heap.size ≤ q → A q := fun q h => by rw [← hAe]; exact Or.inr h
  have C0 : cx p s m ([.ref (am 68)].toArray) meth c cX12_digest RX12 5 (some .long) D (tyM cI cJ cZ) A := ⟨hx, hb, B.returns, hml, hown, hta, hlocks, hK, hA⟩
  have hW : wl D A s (wM cI cJ cZ am t) s.heap [] := ⟨hP, hD, va_S.rf⟩
  have hl := lv_entry [.ref (am 68)] (n := 5) (Nat.le_of_ble_eq_true rfl)
  rw [lg_entry_eq]
  generalize (lg_sl [.ref (am 68)] ++ List.replicate (5 - (lg_sl [.ref (am 68)]).length) Slot.unset).toArray = ls at hl ⊢
  have hl : lv_has ls 5 [(0, .ref (am 68))] := hl
  unfold m_digest at ho
  refine lv_ldc2 hx hb hown (hta _ kw_2210) dX12_digest_0 ?_
  refine lv_lstore_n (lv' := [(1, .long (269 : Int64)), (0, .ref (am 68))]) hx hb dX12_digest_3 rfl hl (by decide) rfl (fun ls hl => ?_)
  refine lv_iconst (v := (0 : Int32)) hx hb dX12_digest_4 (by decide) ?_
  refine lv_istore_n (lv' := [(3, .int (0 : Int32)), (1, .long (269 : Int64)), (0, .ref (am 68))]) hx hb dX12_digest_5 rfl hl (by decide) rfl (fun ls hl => ?_)
  obtain ⟨y74, hc76, ho⟩ := bd_some ho
  obtain ⟨ny74, hc76⟩ := lp_to hc76
  refine m_digest_L6 C0 ?_ ny74 _ _ hc76 _ _ _ hW (lv_sub hl [2, 1, 0] rfl)
  intro H locs ls hW hl
  refine lv_iconst (v := (0 : Int32)) hx hb dX12_digest_31 (by decide) ?_
  refine lv_istore_n (lv' := [(3, .int (0 : Int32)), (0, .ref (am 68)), (1, .long y74)]) hx hb dX12_digest_32 rfl hl (by decide) rfl (fun ls hl => ?_)
  obtain ⟨y77, hc79, ho⟩ := bd_some ho
  obtain ⟨ny77, hc79⟩ := lp_to hc79
  refine m_digest_L33 C0 ?_ ny77 _ _ hc79 _ _ _ hW (lv_sub hl [1, 2, 0] rfl)
  intro H locs ls hW hl
  refine lv_iconst (v := (0 : Int32)) hx hb dX12_digest_75 (by decide) ?_
  refine lv_istore_n (lv' := [(3, .int (0 : Int32)), (0, .ref (am 68)), (1, .long y77)]) hx hb dX12_digest_76 rfl hl (by decide) rfl (fun ls hl => ?_)
  obtain ⟨y80, hc82, ho⟩ := bd_some ho
  obtain ⟨ny80, hc82⟩ := lp_to hc82
  refine m_digest_L77 C0 ?_ ny80 _ _ hc82 _ _ _ hW (lv_sub hl [1, 2, 0] rfl)
  intro H locs ls hW hl
  refine lv_iconst (v := (0 : Int32)) hx hb dX12_digest_105 (by decide) ?_
  refine lv_istore_n (lv' := [(3, .int (0 : Int32)), (0, .ref (am 68)), (1, .long y80)]) hx hb dX12_digest_106 rfl hl (by decide) rfl (fun ls hl => ?_)
  obtain ⟨y83, hc85, ho⟩ := bd_some ho
  obtain ⟨ny83, hc85⟩ := lp_to hc85
  refine m_digest_L107 C0 ?_ ny83 _ _ hc85 _ _ _ hW (lv_sub hl [1, 2, 0] rfl)
  intro H locs ls hW hl
  refine lv_iconst (v := (0 : Int32)) hx hb dX12_digest_150 (by decide) ?_
  refine lv_istore_n (lv' := [(3, .int (0 : Int32)), (0, .ref (am 68)), (1, .long y83)]) hx hb dX12_digest_151 rfl hl (by decide) rfl (fun ls hl => ?_)
  obtain ⟨y86, hc88, ho⟩ := bd_some ho
  obtain ⟨ny86, hc88⟩ := lp_to hc88
  refine m_digest_L152 C0 ?_ ny86 _ _ hc88 _ _ _ hW (lv_sub hl [1, 2, 0] rfl)
  intro H locs ls hW hl
  refine lv_iconst (v := (0 : Int32)) hx hb dX12_digest_248 (by decide) ?_
  refine lv_istore_n (lv' := [(3, .int (0 : Int32)), (0, .ref (am 68)), (1, .long y86)]) hx hb dX12_digest_249 rfl hl (by decide) rfl (fun ls hl => ?_)
  obtain ⟨y89, hc91, ho⟩ := bd_some ho
  obtain ⟨ny89, hc91⟩ := lp_to hc91
  refine m_digest_L250 C0 ?_ ny89 _ _ hc91 _ _ _ hW (lv_sub hl [1, 2, 0] rfl)
  intro H locs ls hW hl
  refine lv_iconst (v := (0 : Int32)) hx hb dX12_digest_290 (by decide) ?_
  refine lv_istore_n (lv' := [(3, .int (0 : Int32)), (0, .ref (am 68)), (1, .long y89)]) hx hb dX12_digest_291 rfl hl (by decide) rfl (fun ls hl => ?_)
  obtain ⟨y92, hc94, ho⟩ := bd_some ho
  obtain ⟨ny92, hc94⟩ := lp_to hc94
  refine m_digest_L292 C0 ?_ ny92 _ _ hc94 _ _ _ hW (lv_sub hl [1, 2, 0] rfl)
  intro H locs ls hW hl
  refine lv_iconst (v := (0 : Int32)) hx hb dX12_digest_323 (by decide) ?_
  refine lv_istore_n (lv' := [(3, .int (0 : Int32)), (0, .ref (am 68)), (1, .long y92)]) hx hb dX12_digest_324 rfl hl (by decide) rfl (fun ls hl => ?_)
  obtain ⟨y95, hc97, ho⟩ := bd_some ho
  obtain ⟨ny95, hc97⟩ := lp_to hc97
  refine m_digest_L325 C0 ?_ ny95 _ _ hc97 _ _ _ hW (lv_sub hl [1, 2, 0] rfl)
  intro H locs ls hW hl
  refine lv_iconst (v := (0 : Int32)) hx hb dX12_digest_353 (by decide) ?_
  refine lv_istore_n (lv' := [(3, .int (0 : Int32)), (0, .ref (am 68)), (1, .long y95)]) hx hb dX12_digest_354 rfl hl (by decide) rfl (fun ls hl => ?_)
  obtain ⟨y98, hc100, ho⟩ := bd_some ho
  obtain ⟨ny98, hc100⟩ := lp_to hc100
  refine m_digest_L355 C0 ?_ ny98 _ _ hc100 _ _ _ hW (lv_sub hl [1, 2, 0] rfl)
  intro H locs ls hW hl
  refine lv_iconst (v := (0 : Int32)) hx hb dX12_digest_395 (by decide) ?_
  refine lv_istore_n (lv' := [(3, .int (0 : Int32)), (0, .ref (am 68)), (1, .long y98)]) hx hb dX12_digest_396 rfl hl (by decide) rfl (fun ls hl => ?_)
  obtain ⟨y101, hc103, ho⟩ := bd_some ho
  obtain ⟨ny101, hc103⟩ := lp_to hc103
  refine m_digest_L397 C0 ?_ ny101 _ _ hc103 _ _ _ hW (lv_sub hl [1, 2, 0] rfl)
  intro H locs ls hW hl
  refine lv_lload_n hx hb dX12_digest_462 rfl (lv_at hl 1 rfl) ?_
  cases ho
  exact rtJ C0 hW dX12_digest_463
