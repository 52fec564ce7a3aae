noncomputable def x11_from (t : St) (a1 : Int32) : Option (Int32 × St) :=
  (x11_outside t a1 (0 : Int32) (1 : Int32)).bind (fun q1 => if q1 = 0 then (gd a1 (gN t 502) (if (gA t 502 (a1).toNatClampNeg) = 0 then (some ((-3 : Int32), t)) else ((x5_restore t a1).bind (fun q7 => (x4_forgetFront q7).bind (fun q9 => some ((1 : Int32), q9)))))) else (some ((-2 : Int32), t)))
theorem mm_x11_from (t : St) (a1 : Int32) : MR (x11_from t a1) t (fun (a : Int32 × St) => a.2) := by
  unfold x11_from
  exact MR_bindn (fun q1 => MR_ite (MR_gd (MR_ite (MR_some mle.rfl) (MR_bind (mm_x5_restore t a1) (fun q7 hq7 => MR_bind (mm_x4_forgetFront q7) (fun q9 hq9 => MR_some (mle.trans hq7 hq9)))))) (MR_some mle.rfl))
set_option maxHeartbeats 4000000 in
set_option maxRecDepth 100000 in
theorem c_x11_from (l : Launch) {D : va_G} {cI cJ cZ cR : ClassId} {am gm : Nat → Nat} {st : Nat} (sz : Nat) (t : St) (a1 : Int32) {r : Int32} {t' : St} (ho : x11_from t a1 = some (r, t')) : Met l yX11_from (.code yX11_from cX11_from 2 (some .int) :: wsAll) (rmN 2 81) (va_Pc [.ref (am 2011), .int a1] (prX D (tyX cI cJ cZ cR) (wX cI cJ cZ cR am gm t) sz st)) (qI r D (tyX cI cJ cZ cR) (wX cI cJ cZ cR am gm t') (va_A (wX cI cJ cZ cR am gm t) sz)) 0 0 (va_A (wX cI cJ cZ cR am gm t) sz) := by
  refine Met.ofW (cc := cX11_from) (maxL := 2) (ret := (some .int)) (by decide) rfl ?_
  intro p e s m args below meth c s₁ B hml hv
  obtain ⟨rfl, ⟨hsz, hP, hK, hD0⟩, hsx⟩ := hv
  have hx := B.exec
  have hb := B.bytes
  have hts := atoms_spec (ws := (.code yX11_from cX11_from 2 (some .int) :: wsAll)) B.pre
  have hta := fun w h => hts w (List.mem_cons_of_mem _ h)
  have hown : s.vm.findClass RX11 = some m.cls := findClass_of_methodNamed B.named
  have hlocks := B.notSynchronized
  subst hsz
  have hD := hD0.self (sz := s.heap.size)
  generalize hAe : va_A (wX cI cJ cZ cR am gm t) s.heap.size = A at hD ⊢
  have hA : ∀ q : Nat, s.heap.size ≤ q → A q := fun q h => by rw [← hAe]; exact Or.inr h
  have C0 : cxX p s m ([.ref (am 2011), .int a1].toArray) meth c cX11_from RX11 2 (some .int) D (tyX cI cJ cZ cR) st A := ⟨⟨hx, hb, B.returns, hml, hown, hta, hlocks, hK, hA⟩, by rw [← hAe]; exact hsx⟩
  have hW : wl D A s (wX cI cJ cZ cR am gm t) s.heap [] := ⟨hP, hD, va_S.rf⟩
  have hl := lv_entry [.ref (am 2011), .int a1] (n := 2) (Nat.le_of_ble_eq_true rfl)
  rw [lg_entry_eq]
  generalize (lg_sl [.ref (am 2011), .int a1] ++ List.replicate (2 - (lg_sl [.ref (am 2011), .int a1]).length) Slot.unset).toArray = ls at hl ⊢
  have hl : lv_has ls 2 [(0, .ref (am 2011)), (1, .int a1)] := hl
  unfold x11_from at ho
  refine lv_iload_n hx hb dX11_from_0 rfl (lv_at hl 1 rfl) ?_
  refine lv_iconst (v := (0 : Int32)) hx hb dX11_from_1 (by decide) ?_
  refine lv_iconst (v := (1 : Int32)) hx hb dX11_from_2 (by decide) ?_
  obtain ⟨q1, hc2, ho⟩ := bd_some ho
  refine bkZ C0.1 hW (runSX (As := [.int a1, .int (0 : Int32), .int (1 : Int32)]) (rest := []) C0 hW (c_x11_outside l _ t a1 (0 : Int32) (1 : Int32) (r := q1) hc2) cb_X11_X11_outside_102 rfl rfl ⟨rfl, rfl⟩ ⟨Nat.le_of_ble_eq_true rfl, Nat.le_of_ble_eq_true rfl⟩ (Nat.le_of_ble_eq_true rfl) hl.1 dX11_from_3 ⟨Nat.le_of_ble_eq_true rfl, Nat.le_of_ble_eq_true rfl⟩) (fun z3 H locs hW => ?_)
  refine lv_if_eq (tgt := 12) hx hb dX11_from_6 (by decide) (fun c4 => ?_) (fun c4 => ?_)
  · replace ho := ite_t c4 ho
    refine lv_aload_n hx hb dX11_from_12 rfl (lv_at hl 0 rfl) ?_
    refine xGET_1100 C0 kw_591 hW dX11_from_13 ?_
    refine xGET_502 C0 kw_159 hW dX11_from_16 ?_
    refine lv_iload_n hx hb dX11_from_19 rfl (lv_at hl 1 rfl) ?_
    obtain ⟨g5, ho⟩ := gd_some ho
    refine xLD_502 C0 hW g5 dX11_from_20 ?_
    refine lv_if_ne (tgt := 27) hx hb dX11_from_21 (by decide) (fun c6 => ?_) (fun c6 => ?_)
    · replace ho := ite_f c6 ho
      refine lv_aload_n hx hb dX11_from_27 rfl (lv_at hl 0 rfl) ?_
      refine xGET_1100 C0 kw_591 hW dX11_from_28 ?_
      refine lv_iload_n hx hb dX11_from_31 rfl (lv_at hl 1 rfl) ?_
      obtain ⟨q7, hc8, ho⟩ := bd_some ho
      refine bkV C0.1 hW (runVX (As := [.int a1]) (rest := []) C0 hW (c_x5_restore l _ t a1 (t' := q7) hc8) cb_X11_X5_restore_365 5 5 rfl rfl rfl rfl rfl ⟨rfl, rfl⟩ ⟨Nat.le_of_ble_eq_true rfl, Nat.le_of_ble_eq_true rfl⟩ (Nat.le_of_ble_eq_true rfl) hl.1 dX11_from_32 ⟨Nat.le_of_ble_eq_true rfl, Nat.le_of_ble_eq_true rfl⟩) (fun H locs hW => ?_)
      refine lv_aload_n hx hb dX11_from_35 rfl (lv_at hl 0 rfl) ?_
      refine xGET_1107 C0 kw_598 hW dX11_from_36 ?_
      obtain ⟨q9, hc10, ho⟩ := bd_some ho
      refine bkV C0.1 hW (runVX (As := []) (rest := []) C0 hW (c_x4_forgetFront l _ q7 (t' := q9) hc10) cb_X11_X4_forgetFront_110 4 4 rfl rfl rfl rfl rfl ⟨rfl, rfl⟩ ⟨Nat.le_of_ble_eq_true rfl, Nat.le_of_ble_eq_true rfl⟩ (Nat.le_of_ble_eq_true rfl) hl.1 dX11_from_39 ⟨Nat.le_of_ble_eq_true rfl, Nat.le_of_ble_eq_true rfl⟩) (fun H locs hW => ?_)
      refine lv_iconst (v := (1 : Int32)) hx hb dX11_from_42 (by decide) ?_
      cases ho
      exact rtI C0.1 hW dX11_from_43
    · replace ho := ite_t c6 ho
      refine lv_bipush (v := (-3 : Int32)) hx hb dX11_from_24 (by decide) ?_
      cases ho
      exact rtI C0.1 hW dX11_from_26
  · replace ho := ite_f c4 ho
    refine lv_bipush (v := (-2 : Int32)) hx hb dX11_from_9 (by decide) ?_
    cases ho
    exact rtI C0.1 hW dX11_from_11
noncomputable def x6_standing_B4 (t : St) (v1 : Int32) (v2 : Int32) : Option ((Int32 × Int32) ⊕ (Int32)) :=
  if (9 : Int32) < v2 then (some (.inr v1)) else (gd v2 (gN t 602) (if (gA t 602 (v2).toNatClampNeg) < 0 then (nm (v2 + (1 : Int32)) (fun x4 : Int32 => some (.inl (v1, x4)))) else (nm (v1 + (1 : Int32)) (fun x5 : Int32 => nm (v2 + (1 : Int32)) (fun x6 : Int32 => some (.inl (x5, x6)))))))
noncomputable def x6_standing (t : St) : Option (Int32) :=
  (lp (fun x => x6_standing_B4 t x.1 x.2) ((0 : Int32), (0 : Int32))).bind (fun y7 => some y7)
set_option maxHeartbeats 4000000 in
set_option maxRecDepth 100000 in
theorem x6_standing_L4 {p : Program} {l : Launch} {e : Env} {s : State} {m : MethodId} {args : Array Value} {below : List Frame} {meth : Method} {c : Code} {Q : State → Prop} {D : va_G} {cI cJ cZ cR : ClassId} {am gm : Nat → Nat} {st : Nat} {A : Nat → Prop} (C0 : cxX p s m args meth c cX6_standing RX6 3 (some .int) D (tyX cI cJ cZ cR) st A) {t : St} {y : Int32} (hK0 : ∀ (H : Heap) (locs : List Loc) (ls : Array Slot), wl D A s (wX cI cJ cZ cR am gm t) H locs → lv_has ls 3 [(0, .ref (am 2006)), (1, .int y)] → W p l e (rmN 0 0) s m args below meth c H locs 0 0 Q (F0 m 28 ls [])) :
    ∀ (n : Nat) (v1 : Int32) (v2 : Int32), lpn (fun x => x6_standing_B4 t x.1 x.2) n (v1, v2) = some y → ∀ (H : Heap) (locs : List Loc) (ls : Array Slot), wl D A s (wX cI cJ cZ cR am gm t) H locs → lv_has ls 3 [(0, .ref (am 2006)), (1, .int v1), (2, .int v2)] → W p l e (rmN 0 0) s m args below meth c H locs 0 0 Q (F0 m 4 ls []) := by
  have hx := C0.1.1
  have hb := C0.1.2.1
  have hta := C0.1.2.2.2.2.2.1
  have hown := C0.1.2.2.2.2.1
  intro n
  induction n with
  | zero => intro _ _ h; cases h
  | succ n ih =>
    intro v1 v2 hrun H locs ls hW hl
    obtain ⟨o, ho, hrun⟩ := bd_some hrun
    unfold x6_standing_B4 at ho
    refine lv_iload_n hx hb dX6_standing_4 rfl (lv_at hl 2 rfl) ?_
    refine lv_bipush (v := (9 : Int32)) hx hb dX6_standing_5 (by decide) ?_
    refine lv_icmp_gt (tgt := 28) hx hb dX6_standing_7 (by decide) (fun c1 => ?_) (fun c1 => ?_)
    · replace ho := ite_t c1 ho
      cases ho
      cases hrun
      exact hK0 _ _ _ hW (lv_sub hl [0, 1] rfl)
    · replace ho := ite_f c1 ho
      refine lv_aload_n hx hb dX6_standing_10 rfl (lv_at hl 0 rfl) ?_
      refine xGET_602 C0 kw_183 hW dX6_standing_11 ?_
      refine lv_iload_n hx hb dX6_standing_14 rfl (lv_at hl 2 rfl) ?_
      obtain ⟨g2, ho⟩ := gd_some ho
      refine xLD_602 C0 hW g2 dX6_standing_15 ?_
      refine lv_if_lt (tgt := 22) hx hb dX6_standing_16 (by decide) (fun c3 => ?_) (fun c3 => ?_)
      · replace ho := ite_t c3 ho
        obtain ⟨x4, ex4, ho⟩ := nm_x ho
        refine lv_iinc (v := x4) (lv' := [(2, .int x4), (0, .ref (am 2006)), (1, .int v1)]) hx hb dX6_standing_22 hl (k := 2) rfl (by rw [ex4]; rfl) (by decide) rfl (fun ls hl => ?_)
        clear ex4
        refine lv_goto (tgt := 4) hx hb dX6_standing_25 (by decide) ?_
        cases ho
        exact ih _ _ hrun _ _ _ hW (lv_sub hl [1, 2, 0] rfl)
      · replace ho := ite_f c3 ho
        obtain ⟨x5, ex5, ho⟩ := nm_x ho
        refine lv_iinc (v := x5) (lv' := [(1, .int x5), (0, .ref (am 2006)), (2, .int v2)]) hx hb dX6_standing_19 hl (k := 1) rfl (by rw [ex5]; rfl) (by decide) rfl (fun ls hl => ?_)
        clear ex5
        obtain ⟨x6, ex6, ho⟩ := nm_x ho
        refine lv_iinc (v := x6) (lv' := [(2, .int x6), (1, .int x5), (0, .ref (am 2006))]) hx hb dX6_standing_22 hl (k := 2) rfl (by rw [ex6]; rfl) (by decide) rfl (fun ls hl => ?_)
        clear ex6
        refine lv_goto (tgt := 4) hx hb dX6_standing_25 (by decide) ?_
        cases ho
        exact ih _ _ hrun _ _ _ hW (lv_sub hl [2, 1, 0] rfl)
set_option maxHeartbeats 4000000 in
set_option maxRecDepth 100000 in
theorem c_x6_standing (l : Launch) {D : va_G} {cI cJ cZ cR : ClassId} {am gm : Nat → Nat} {st : Nat} (sz : Nat) (t : St) {r : Int32} (ho : x6_standing t = some r) : Met l yX6_standing (.code yX6_standing cX6_standing 3 (some .int) :: wsAll) (rmN 0 0) (va_Pc [.ref (am 2006)] (prX D (tyX cI cJ cZ cR) (wX cI cJ cZ cR am gm t) sz st)) (qI r D (tyX cI cJ cZ cR) (wX cI cJ cZ cR am gm t) (va_A (wX cI cJ cZ cR am gm t) sz)) 0 0 (va_A (wX cI cJ cZ cR am gm t) sz) := by
  refine Met.ofW (cc := cX6_standing) (maxL := 3) (ret := (some .int)) (by decide) rfl ?_
  intro p e s m args below meth c s₁ B hml hv
  obtain ⟨rfl, ⟨hsz, hP, hK, hD0⟩, hsx⟩ := hv
  have hx := B.exec
  have hb := B.bytes
  have hts := atoms_spec (ws := (.code yX6_standing cX6_standing 3 (some .int) :: wsAll)) B.pre
  have hta := fun w h => hts w (List.mem_cons_of_mem _ h)
  have hown : s.vm.findClass RX6 = some m.cls := findClass_of_methodNamed B.named
  have hlocks := B.notSynchronized
  subst hsz
  have hD := hD0.self (sz := s.heap.size)
  generalize hAe : va_A (wX cI cJ cZ cR am gm t) s.heap.size = A at hD ⊢
  have hA : ∀ q : Nat, s.heap.size ≤ q → A q := fun q h => by rw [← hAe]; exact Or.inr h
  have C0 : cxX p s m ([.ref (am 2006)].toArray) meth c cX6_standing RX6 3 (some .int) D (tyX cI cJ cZ cR) st A := ⟨⟨hx, hb, B.returns, hml, hown, hta, hlocks, hK, hA⟩, by rw [← hAe]; exact hsx⟩
  have hW : wl D A s (wX cI cJ cZ cR am gm t) s.heap [] := ⟨hP, hD, va_S.rf⟩
  have hl := lv_entry [.ref (am 2006)] (n := 3) (Nat.le_of_ble_eq_true rfl)
  rw [lg_entry_eq]
  generalize (lg_sl [.ref (am 2006)] ++ List.replicate (3 - (lg_sl [.ref (am 2006)]).length) Slot.unset).toArray = ls at hl ⊢
  have hl : lv_has ls 3 [(0, .ref (am 2006))] := hl
  unfold x6_standing at ho
  refine lv_iconst (v := (0 : Int32)) hx hb dX6_standing_0 (by decide) ?_
  refine lv_istore_n (lv' := [(1, .int (0 : Int32)), (0, .ref (am 2006))]) hx hb dX6_standing_1 rfl hl (by decide) rfl (fun ls hl => ?_)
  refine lv_iconst (v := (0 : Int32)) hx hb dX6_standing_2 (by decide) ?_
  refine lv_istore_n (lv' := [(2, .int (0 : Int32)), (1, .int (0 : Int32)), (0, .ref (am 2006))]) hx hb dX6_standing_3 rfl hl (by decide) rfl (fun ls hl => ?_)
  obtain ⟨y7, hc9, ho⟩ := bd_some ho
  obtain ⟨ny7, hc9⟩ := lp_to hc9
  refine x6_standing_L4 C0 ?_ ny7 _ _ hc9 _ _ _ hW (lv_sub hl [2, 1, 0] rfl)
  intro H locs ls hW hl
  refine lv_iload_n hx hb dX6_standing_28 rfl (lv_at hl 1 rfl) ?_
  cases ho
  exact rtI C0.1 hW dX6_standing_29
noncomputable def x11_count (t : St) (a1 : Int32) : Option (Int32) :=
  if a1 = (0 : Int32) then (some (gI t 601)) else if a1 = (1 : Int32) then (some (gI t 609)) else if a1 = (2 : Int32) then ((x6_standing t).bind (fun q4 => some q4)) else if a1 = (3 : Int32) then (some (gI t 402)) else if a1 = (4 : Int32) then (some (gI t 302)) else if a1 = (5 : Int32) then (some (gI t 1007)) else if a1 = (6 : Int32) then (some (gI t 104)) else (some (-2 : Int32))
set_option maxHeartbeats 4000000 in
set_option maxRecDepth 100000 in
theorem c_x11_count (l : Launch) {D : va_G} {cI cJ cZ cR : ClassId} {am gm : Nat → Nat} {st : Nat} (sz : Nat) (t : St) (a1 : Int32) {r : Int32} (ho : x11_count t a1 = some r) : Met l yX11_count (.code yX11_count cX11_count 2 (some .int) :: wsAll) (rmN 1 22) (va_Pc [.ref (am 2011), .int a1] (prX D (tyX cI cJ cZ cR) (wX cI cJ cZ cR am gm t) sz st)) (qI r D (tyX cI cJ cZ cR) (wX cI cJ cZ cR am gm t) (va_A (wX cI cJ cZ cR am gm t) sz)) 0 0 (va_A (wX cI cJ cZ cR am gm t) sz) := by
  refine Met.ofW (cc := cX11_count) (maxL := 2) (ret := (some .int)) (by decide) rfl ?_
  intro p e s m args below meth c s₁ B hml hv
  obtain ⟨rfl, ⟨hsz, hP, hK, hD0⟩, hsx⟩ := hv
  have hx := B.exec
  have hb := B.bytes
  have hts := atoms_spec (ws := (.code yX11_count cX11_count 2 (some .int) :: wsAll)) B.pre
  have hta := fun w h => hts w (List.mem_cons_of_mem _ h)
  have hown : s.vm.findClass RX11 = some m.cls := findClass_of_methodNamed B.named
  have hlocks := B.notSynchronized
  subst hsz
  have hD := hD0.self (sz := s.heap.size)
  generalize hAe : va_A (wX cI cJ cZ cR am gm t) s.heap.size = A at hD ⊢
  have hA : ∀ q : Nat, s.heap.size ≤ q → A q := fun q h => by rw [← hAe]; exact Or.inr h
  have C0 : cxX p s m ([.ref (am 2011), .int a1].toArray) meth c cX11_count RX11 2 (some .int) D (tyX cI cJ cZ cR) st A := ⟨⟨hx, hb, B.returns, hml, hown, hta, hlocks, hK, hA⟩, by rw [← hAe]; exact hsx⟩
  have hW : wl D A s (wX cI cJ cZ cR am gm t) s.heap [] := ⟨hP, hD, va_S.rf⟩
  have hl := lv_entry [.ref (am 2011), .int a1] (n := 2) (Nat.le_of_ble_eq_true rfl)
  rw [lg_entry_eq]
  generalize (lg_sl [.ref (am 2011), .int a1] ++ List.replicate (2 - (lg_sl [.ref (am 2011), .int a1]).length) Slot.unset).toArray = ls at hl ⊢
  have hl : lv_has ls 2 [(0, .ref (am 2011)), (1, .int a1)] := hl
  unfold x11_count at ho
  refine lv_iload_n hx hb dX11_count_0 rfl (lv_at hl 1 rfl) ?_
  by_cases c1 : a1 = (0 : Int32)
  · replace ho := ite_t c1 ho
    refine lv_tableIn (tgt := 44) (off := 43) hx hb dX11_count_1 (by rw [c1]; decide) (by rw [c1]; decide) (by rw [c1]; rfl) (by decide) ?_
    refine lv_aload_n hx hb dX11_count_44 rfl (lv_at hl 0 rfl) ?_
    refine xGET_1101 C0 kw_592 hW dX11_count_45 ?_
    refine xGET_601 C0 kw_182 hW dX11_count_48 ?_
    cases ho
    exact rtI C0.1 hW dX11_count_51
  replace ho := ite_f c1 ho
  by_cases c2 : a1 = (1 : Int32)
  · replace ho := ite_t c2 ho
    refine lv_tableIn (tgt := 52) (off := 51) hx hb dX11_count_1 (by rw [c2]; decide) (by rw [c2]; decide) (by rw [c2]; rfl) (by decide) ?_
    refine lv_aload_n hx hb dX11_count_52 rfl (lv_at hl 0 rfl) ?_
    refine xGET_1101 C0 kw_592 hW dX11_count_53 ?_
    refine xGET_609 C0 kw_205 hW dX11_count_56 ?_
    cases ho
    exact rtI C0.1 hW dX11_count_59
  replace ho := ite_f c2 ho
  by_cases c3 : a1 = (2 : Int32)
  · replace ho := ite_t c3 ho
    refine lv_tableIn (tgt := 60) (off := 59) hx hb dX11_count_1 (by rw [c3]; decide) (by rw [c3]; decide) (by rw [c3]; rfl) (by decide) ?_
    refine lv_aload_n hx hb dX11_count_60 rfl (lv_at hl 0 rfl) ?_
    refine xGET_1101 C0 kw_592 hW dX11_count_61 ?_
    obtain ⟨q4, hc5, ho⟩ := bd_some ho
    refine bkI C0.1 hW (runVX (As := []) (rest := []) C0 hW (c_x6_standing l _ t (r := q4) hc5) cb_X11_X6_standing_368 6 6 rfl rfl rfl rfl rfl ⟨rfl, rfl⟩ ⟨Nat.le_of_ble_eq_true rfl, Nat.le_of_ble_eq_true rfl⟩ (Nat.le_of_ble_eq_true rfl) hl.1 dX11_count_64 ⟨Nat.le_of_ble_eq_true rfl, Nat.le_of_ble_eq_true rfl⟩) (fun H locs hW => ?_)
    cases ho
    exact rtI C0.1 hW dX11_count_67
  replace ho := ite_f c3 ho
  by_cases c6 : a1 = (3 : Int32)
  · replace ho := ite_t c6 ho
    refine lv_tableIn (tgt := 68) (off := 67) hx hb dX11_count_1 (by rw [c6]; decide) (by rw [c6]; decide) (by rw [c6]; rfl) (by decide) ?_
    refine lv_aload_n hx hb dX11_count_68 rfl (lv_at hl 0 rfl) ?_
    refine xGET_1107 C0 kw_598 hW dX11_count_69 ?_
    refine xGET_402 C0 kw_442 hW dX11_count_72 ?_
    cases ho
    exact rtI C0.1 hW dX11_count_75
  replace ho := ite_f c6 ho
  by_cases c7 : a1 = (4 : Int32)
  · replace ho := ite_t c7 ho
    refine lv_tableIn (tgt := 76) (off := 75) hx hb dX11_count_1 (by rw [c7]; decide) (by rw [c7]; decide) (by rw [c7]; rfl) (by decide) ?_
    refine lv_aload_n hx hb dX11_count_76 rfl (lv_at hl 0 rfl) ?_
    refine xGET_1108 C0 kw_599 hW dX11_count_77 ?_
    refine xGET_302 C0 kw_493 hW dX11_count_80 ?_
    cases ho
    exact rtI C0.1 hW dX11_count_83
  replace ho := ite_f c7 ho
  by_cases c8 : a1 = (5 : Int32)
  · replace ho := ite_t c8 ho
    refine lv_tableIn (tgt := 84) (off := 83) hx hb dX11_count_1 (by rw [c8]; decide) (by rw [c8]; decide) (by rw [c8]; rfl) (by decide) ?_
    refine lv_aload_n hx hb dX11_count_84 rfl (lv_at hl 0 rfl) ?_
    refine xGET_1104 C0 kw_595 hW dX11_count_85 ?_
    refine xGET_1007 C0 kw_342 hW dX11_count_88 ?_
    cases ho
    exact rtI C0.1 hW dX11_count_91
  replace ho := ite_f c8 ho
  by_cases c9 : a1 = (6 : Int32)
  · replace ho := ite_t c9 ho
    refine lv_tableIn (tgt := 92) (off := 91) hx hb dX11_count_1 (by rw [c9]; decide) (by rw [c9]; decide) (by rw [c9]; rfl) (by decide) ?_
    refine lv_aload_n hx hb dX11_count_92 rfl (lv_at hl 0 rfl) ?_
    refine xGET_1109 C0 kw_600 hW dX11_count_93 ?_
    refine xGET_104 C0 kw_538 hW dX11_count_96 ?_
    cases ho
    exact rtI C0.1 hW dX11_count_99
  replace ho := ite_f c9 ho
  refine lv_tableOut (tgt := 100) hx hb dX11_count_1 (tsw_6 c1 c2 c3 c6 c7 c8 c9) (by decide) ?_
  refine lv_bipush (v := (-2 : Int32)) hx hb dX11_count_100 (by decide) ?_
  cases ho
  exact rtI C0.1 hW dX11_count_102
noncomputable def x5_mixInto_B2 (t : St) (v1 : Int64) (v3 : Int32) : Option ((Int64 × Int32) ⊕ (Int64)) :=
  if (Int32.ofNat (gN t 500)) ≤ v3 then (some (.inr v1)) else (gd v3 (gN t 500) (nm (((31 : Int64) * v1) + ((gA t 500 (v3).toNatClampNeg)).toInt64) (fun x3 : Int64 => nm (v3 + (1 : Int32)) (fun x4 : Int32 => some (.inl (x3, x4))))))
noncomputable def x5_mixInto (t : St) (a1 : Int64) : Option (Int64) :=
  (lp (fun x => x5_mixInto_B2 t x.1 x.2) (a1, (0 : Int32))).bind (fun y5 => some y5)
set_option maxHeartbeats 4000000 in
set_option maxRecDepth 100000 in
theorem x5_mixInto_L2 {p : Program} {l : Launch} {e : Env} {s : State} {m : MethodId} {args : Array Value} {below : List Frame} {meth : Method} {c : Code} {Q : State → Prop} {D : va_G} {cI cJ cZ cR : ClassId} {am gm : Nat → Nat} {st : Nat} {A : Nat → Prop} (C0 : cxX p s m args meth c cX5_mixInto RX5 4 (some .long) D (tyX cI cJ cZ cR) st A) {t : St} {y : Int64} (hK0 : ∀ (H : Heap) (locs : List Loc) (ls : Array Slot), wl D A s (wX cI cJ cZ cR am gm t) H locs → lv_has ls 4 [(0, .ref (am 2005)), (1, .long y)] → W p l e (rmN 0 0) s m args below meth c H locs 0 0 Q (F0 m 31 ls [])) :
    ∀ (n : Nat) (v1 : Int64) (v3 : Int32), lpn (fun x => x5_mixInto_B2 t x.1 x.2) n (v1, v3) = some y → ∀ (H : Heap) (locs : List Loc) (ls : Array Slot), wl D A s (wX cI cJ cZ cR am gm t) H locs → lv_has ls 4 [(0, .ref (am 2005)), (1, .long v1), (3, .int v3)] → W p l e (rmN 0 0) s m args below meth c H locs 0 0 Q (F0 m 2 ls []) := by
  have hx := C0.1.1
  have hb := C0.1.2.1
  have hta := C0.1.2.2.2.2.2.1
  have hown := C0.1.2.2.2.2.1
  intro n
  induction n with
  | zero => intro _ _ h; cases h
  | succ n ih =>
    intro v1 v3 hrun H locs ls hW hl
    obtain ⟨o, ho, hrun⟩ := bd_some hrun
    unfold x5_mixInto_B2 at ho
    refine lv_iload_n hx hb dX5_mixInto_2 rfl (lv_at hl 2 rfl) ?_
    refine lv_aload_n hx hb dX5_mixInto_3 rfl (lv_at hl 0 rfl) ?_
    refine xGET_500 C0 kw_156 hW dX5_mixInto_4 ?_
    refine xLEN_500 C0 hW dX5_mixInto_7 ?_
    refine lv_icmp_ge (tgt := 31) hx hb dX5_mixInto_8 (by decide) (fun c1 => ?_) (fun c1 => ?_)
    · replace ho := ite_t c1 ho
      cases ho
      cases hrun
      exact hK0 _ _ _ hW (lv_sub hl [0, 1] rfl)
    · replace ho := ite_f c1 ho
      refine lv_ldc2 hx hb hown (hta _ kw_1459) dX5_mixInto_11 ?_
      refine lv_lload_n hx hb dX5_mixInto_14 rfl (lv_at hl 1 rfl) ?_
      refine lv_lmul hx hb dX5_mixInto_15 ?_
      refine lv_aload_n hx hb dX5_mixInto_16 rfl (lv_at hl 0 rfl) ?_
      refine xGET_500 C0 kw_156 hW dX5_mixInto_17 ?_
      refine lv_iload_n hx hb dX5_mixInto_20 rfl (lv_at hl 2 rfl) ?_
      obtain ⟨g2, ho⟩ := gd_some ho
      refine xLD_500 C0 hW g2 dX5_mixInto_21 ?_
      refine lv_i2l hx hb dX5_mixInto_22 rfl ?_
      refine lv_ladd hx hb dX5_mixInto_23 ?_
      refine lv_nml ho (fun x3 ho => ?_)
      refine lv_lstore_n (lv' := [(1, .long x3), (0, .ref (am 2005)), (3, .int v3)]) hx hb dX5_mixInto_24 rfl hl (by decide) rfl (fun ls hl => ?_)
      obtain ⟨x4, ex4, ho⟩ := nm_x ho
      refine lv_iinc (v := x4) (lv' := [(3, .int x4), (1, .long x3), (0, .ref (am 2005))]) hx hb dX5_mixInto_25 hl (k := 2) rfl (by rw [ex4]; rfl) (by decide) rfl (fun ls hl => ?_)
      clear ex4
      refine lv_goto (tgt := 2) hx hb dX5_mixInto_28 (by decide) ?_
      cases ho
      exact ih _ _ hrun _ _ _ hW (lv_sub hl [2, 1, 0] rfl)
set_option maxHeartbeats 4000000 in
set_option maxRecDepth 100000 in
theorem c_x5_mixInto (l : Launch) {D : va_G} {cI cJ cZ cR : ClassId} {am gm : Nat → Nat} {st : Nat} (sz : Nat) (t : St) (a1 : Int64) {r : Int64} (ho : x5_mixInto t a1 = some r) : Met l yX5_mixInto (.code yX5_mixInto cX5_mixInto 4 (some .long) :: wsAll) (rmN 0 0) (va_Pc [.ref (am 2005), .long a1] (prX D (tyX cI cJ cZ cR) (wX cI cJ cZ cR am gm t) sz st)) (qJ r D (tyX cI cJ cZ cR) (wX cI cJ cZ cR am gm t) (va_A (wX cI cJ cZ cR am gm t) sz)) 0 0 (va_A (wX cI cJ cZ cR am gm t) sz) := by
  refine Met.ofW (cc := cX5_mixInto) (maxL := 4) (ret := (some .long)) (by decide) rfl ?_
  intro p e s m args below meth c s₁ B hml hv
  obtain ⟨rfl, ⟨hsz, hP, hK, hD0⟩, hsx⟩ := hv
  have hx := B.exec
  have hb := B.bytes
  have hts := atoms_spec (ws := (.code yX5_mixInto cX5_mixInto 4 (some .long) :: wsAll)) B.pre
  have hta := fun w h => hts w (List.mem_cons_of_mem _ h)
  have hown : s.vm.findClass RX5 = some m.cls := findClass_of_methodNamed B.named
  have hlocks := B.notSynchronized
  subst hsz
  have hD := hD0.self (sz := s.heap.size)
  generalize hAe : va_A (wX cI cJ cZ cR am gm t) s.heap.size = A at hD ⊢
  have hA : ∀ q : Nat, s.heap.size ≤ q → A q := fun q h => by rw [← hAe]; exact Or.inr h
  have C0 : cxX p s m ([.ref (am 2005), .long a1].toArray) meth c cX5_mixInto RX5 4 (some .long) D (tyX cI cJ cZ cR) st A := ⟨⟨hx, hb, B.returns, hml, hown, hta, hlocks, hK, hA⟩, by rw [← hAe]; exact hsx⟩
  have hW : wl D A s (wX cI cJ cZ cR am gm t) s.heap [] := ⟨hP, hD, va_S.rf⟩
  have hl := lv_entry [.ref (am 2005), .long a1] (n := 4) (Nat.le_of_ble_eq_true rfl)
  rw [lg_entry_eq]
  generalize (lg_sl [.ref (am 2005), .long a1] ++ List.replicate (4 - (lg_sl [.ref (am 2005), .long a1]).length) Slot.unset).toArray = ls at hl ⊢
  have hl : lv_has ls 4 [(0, .ref (am 2005)), (1, .long a1)] := hl
  unfold x5_mixInto at ho
  refine lv_iconst (v := (0 : Int32)) hx hb dX5_mixInto_0 (by decide) ?_
  refine lv_istore_n (lv' := [(3, .int (0 : Int32)), (0, .ref (am 2005)), (1, .long a1)]) hx hb dX5_mixInto_1 rfl hl (by decide) rfl (fun ls hl => ?_)
  obtain ⟨y5, hc7, ho⟩ := bd_some ho
  obtain ⟨ny5, hc7⟩ := lp_to hc7
  refine x5_mixInto_L2 C0 ?_ ny5 _ _ hc7 _ _ _ hW (lv_sub hl [1, 2, 0] rfl)
  intro H locs ls hW hl
  refine lv_lload_n hx hb dX5_mixInto_31 rfl (lv_at hl 1 rfl) ?_
  cases ho
  exact rtJ C0.1 hW dX5_mixInto_32
noncomputable def x6_mixInto_B146 (t : St) (v3 : Int32) (v4 : Int32) (v1 : Int64) (v5 : Int32) : Option ((Int64 × Int32) ⊕ (Int64)) :=
  if v4 ≤ v5 then (some (.inr v1)) else ((x6_partOf t v3 v5).bind (fun q2 => nm (((31 : Int64) * v1) + (q2).toInt64) (fun x4 : Int64 => nm (v5 + (1 : Int32)) (fun x5 : Int32 => some (.inl (x4, x5))))))
noncomputable def x6_mixInto_B2 (t : St) (v1 : Int64) (v3 : Int32) : Option ((Int64 × Int32) ⊕ (Int64)) :=
  if (gI t 601) ≤ v3 then (some (.inr v1)) else (gd v3 (gN t 600) (nm (((31 : Int64) * v1) + ((gA t 600 (v3).toNatClampNeg)).toInt64) (fun x8 : Int64 => nm (v3 + (1 : Int32)) (fun x9 : Int32 => some (.inl (x8, x9))))))
noncomputable def x6_mixInto_B32 (t : St) (v1 : Int64) (v3 : Int32) : Option ((Int64 × Int32) ⊕ (Int64)) :=
  if (9 : Int32) < v3 then (some (.inr v1)) else (gd v3 (gN t 602) (if (gA t 602 (v3).toNatClampNeg) < 0 then (nm (v3 + (1 : Int32)) (fun x13 : Int32 => some (.inl (v1, x13)))) else (gd v3 (gN t 602) (nm (((31 : Int64) * (((31 : Int64) * v1) + (v3).toInt64)) + ((gA t 602 (v3).toNatClampNeg)).toInt64) (fun x15 : Int64 => nm (v3 + (1 : Int32)) (fun x16 : Int32 => some (.inl (x15, x16))))))))
noncomputable def x6_mixInto_J141 (t : St) (v1 : Int64) (v3 : Int32) (w0 : Int32) : Option ((Int64 × Int32) ⊕ (Int64)) :=
  (lp (fun x => x6_mixInto_B146 t v3 w0 x.1 x.2) (v1, (0 : Int32))).bind (fun y17 => nm (v3 + (1 : Int32)) (fun x20 : Int32 => some (.inl (y17, x20))))
noncomputable def x6_mixInto_B76 (t : St) (v1 : Int64) (v3 : Int32) : Option ((Int64 × Int32) ⊕ (Int64)) :=
  if (gI t 609) ≤ v3 then (some (.inr v1)) else (gd v3 (gN t 603) (gd v3 (gN t 604) (gd v3 (gN t 605) (nm (((31 : Int64) * (((31 : Int64) * (((31 : Int64) * v1) + ((gA t 603 (v3).toNatClampNeg)).toInt64)) + ((gA t 604 (v3).toNatClampNeg)).toInt64)) + ((gA t 605 (v3).toNatClampNeg)).toInt64) (fun x25 : Int64 => gd v3 (gN t 603) (if (gA t 603 (v3).toNatClampNeg) = 0 then (x6_mixInto_J141 t x25 v3 (0 : Int32)) else (gd v3 (gN t 604) (x6_mixInto_J141 t x25 v3 (gA t 604 (v3).toNatClampNeg)))))))))
noncomputable def x6_mixInto (t : St) (a1 : Int64) : Option (Int64) :=
  (lp (fun x => x6_mixInto_B2 t x.1 x.2) (a1, (0 : Int32))).bind (fun y29 => (lp (fun x => x6_mixInto_B32 t x.1 x.2) (y29, (0 : Int32))).bind (fun y32 => (lp (fun x => x6_mixInto_B76 t x.1 x.2) (y32, (0 : Int32))).bind (fun y35 => some y35)))
set_option maxHeartbeats 4000000 in
set_option maxRecDepth 100000 in
theorem x6_mixInto_L146 {p : Program} {l : Launch} {e : Env} {s : State} {m : MethodId} {args : Array Value} {below : List Frame} {meth : Method} {c : Code} {Q : State → Prop} {D : va_G} {cI cJ cZ cR : ClassId} {am gm : Nat → Nat} {st : Nat} {A : Nat → Prop} (C0 : cxX p s m args meth c cX6_mixInto RX6 6 (some .long) D (tyX cI cJ cZ cR) st A) {t : St} {v3 : Int32} {v4 : Int32} {y : Int64} (hK0 : ∀ (H : Heap) (locs : List Loc) (ls : Array Slot), wl D A s (wX cI cJ cZ cR am gm t) H locs → lv_has ls 6 [(0, .ref (am 2006)), (1, .long y), (3, .int v3)] → W p l e (rmN 1 22) s m args below meth c H locs 0 0 Q (F0 m 174 ls [])) :
    ∀ (n : Nat) (v1 : Int64) (v5 : Int32), lpn (fun x => x6_mixInto_B146 t v3 v4 x.1 x.2) n (v1, v5) = some y → ∀ (H : Heap) (locs : List Loc) (ls : Array Slot), wl D A s (wX cI cJ cZ cR am gm t) H locs → lv_has ls 6 [(0, .ref (am 2006)), (1, .long v1), (3, .int v3), (4, .int v4), (5, .int v5)] → W p l e (rmN 1 22) s m args below meth c H locs 0 0 Q (F0 m 146 ls []) := by
  have hx := C0.1.1
  have hb := C0.1.2.1
  have hta := C0.1.2.2.2.2.2.1
  have hown := C0.1.2.2.2.2.1
  intro n
  induction n with
  | zero => intro _ _ h; cases h
  | succ n ih =>
    intro v1 v5 hrun H locs ls hW hl
    obtain ⟨o, ho, hrun⟩ := bd_some hrun
    unfold x6_mixInto_B146 at ho
    refine lv_iload hx hb dX6_mixInto_146 (lv_at hl 4 rfl) ?_
    refine lv_iload hx hb dX6_mixInto_148 (lv_at hl 3 rfl) ?_
    refine lv_icmp_ge (tgt := 174) hx hb dX6_mixInto_150 (by decide) (fun c1 => ?_) (fun c1 => ?_)
    · replace ho := ite_t c1 ho
      cases ho
      cases hrun
      exact hK0 _ _ _ hW (lv_sub hl [0, 1, 2] rfl)
    · replace ho := ite_f c1 ho
      refine lv_ldc2 hx hb hown (hta _ kw_1464) dX6_mixInto_153 ?_
      refine lv_lload_n hx hb dX6_mixInto_156 rfl (lv_at hl 1 rfl) ?_
      refine lv_lmul hx hb dX6_mixInto_157 ?_
      refine lv_aload_n hx hb dX6_mixInto_158 rfl (lv_at hl 0 rfl) ?_
      refine lv_iload_n hx hb dX6_mixInto_159 rfl (lv_at hl 2 rfl) ?_
      refine lv_iload hx hb dX6_mixInto_160 (lv_at hl 4 rfl) ?_
      obtain ⟨q2, hc3, ho⟩ := bd_some ho
      refine bkI C0.1 hW (runVX (As := [.int v3, .int v5]) (rest := [.long ((31 : Int64) * v1)]) C0 hW (c_x6_partOf l _ t v3 v5 (r := q2) hc3) cb_X6_X6_partOf_86 6 6 rfl rfl rfl rfl rfl ⟨rfl, rfl⟩ ⟨Nat.le_of_ble_eq_true rfl, Nat.le_of_ble_eq_true rfl⟩ (Nat.le_of_ble_eq_true rfl) hl.1 dX6_mixInto_162 ⟨Nat.le_of_ble_eq_true rfl, Nat.le_of_ble_eq_true rfl⟩) (fun H locs hW => ?_)
      refine lv_i2l hx hb dX6_mixInto_165 rfl ?_
      refine lv_ladd hx hb dX6_mixInto_166 ?_
      refine lv_nml ho (fun x4 ho => ?_)
      refine lv_lstore_n (lv' := [(1, .long x4), (0, .ref (am 2006)), (3, .int v3), (4, .int v4), (5, .int v5)]) hx hb dX6_mixInto_167 rfl hl (by decide) rfl (fun ls hl => ?_)
      obtain ⟨x5, ex5, ho⟩ := nm_x ho
      refine lv_iinc (v := x5) (lv' := [(5, .int x5), (1, .long x4), (0, .ref (am 2006)), (3, .int v3), (4, .int v4)]) hx hb dX6_mixInto_168 hl (k := 4) rfl (by rw [ex5]; rfl) (by decide) rfl (fun ls hl => ?_)
      clear ex5
      refine lv_goto (tgt := 146) hx hb dX6_mixInto_171 (by decide) ?_
      cases ho
      exact ih _ _ hrun _ _ _ hW (lv_sub hl [2, 1, 3, 4, 0] rfl)
set_option maxHeartbeats 4000000 in
set_option maxRecDepth 100000 in
theorem x6_mixInto_L2 {p : Program} {l : Launch} {e : Env} {s : State} {m : MethodId} {args : Array Value} {below : List Frame} {meth : Method} {c : Code} {Q : State → Prop} {D : va_G} {cI cJ cZ cR : ClassId} {am gm : Nat → Nat} {st : Nat} {A : Nat → Prop} (C0 : cxX p s m args meth c cX6_mixInto RX6 6 (some .long) D (tyX cI cJ cZ cR) st A) {t : St} {y : Int64} (hK0 : ∀ (H : Heap) (locs : List Loc) (ls : Array Slot), wl D A s (wX cI cJ cZ cR am gm t) H locs → lv_has ls 6 [(0, .ref (am 2006)), (1, .long y)] → W p l e (rmN 1 22) s m args below meth c H locs 0 0 Q (F0 m 30 ls [])) :
    ∀ (n : Nat) (v1 : Int64) (v3 : Int32), lpn (fun x => x6_mixInto_B2 t x.1 x.2) n (v1, v3) = some y → ∀ (H : Heap) (locs : List Loc) (ls : Array Slot), wl D A s (wX cI cJ cZ cR am gm t) H locs → lv_has ls 6 [(0, .ref (am 2006)), (1, .long v1), (3, .int v3)] → W p l e (rmN 1 22) s m args below meth c H locs 0 0 Q (F0 m 2 ls []) := by
  have hx := C0.1.1
  have hb := C0.1.2.1
  have hta := C0.1.2.2.2.2.2.1
  have hown := C0.1.2.2.2.2.1
  intro n
  induction n with
  | zero => intro _ _ h; cases h
  | succ n ih =>
    intro v1 v3 hrun H locs ls hW hl
    obtain ⟨o, ho, hrun⟩ := bd_some hrun
    unfold x6_mixInto_B2 at ho
    refine lv_iload_n hx hb dX6_mixInto_2 rfl (lv_at hl 2 rfl) ?_
    refine lv_aload_n hx hb dX6_mixInto_3 rfl (lv_at hl 0 rfl) ?_
    refine xGET_601 C0 kw_180 hW dX6_mixInto_4 ?_
    refine lv_icmp_ge (tgt := 30) hx hb dX6_mixInto_7 (by decide) (fun c6 => ?_) (fun c6 => ?_)
    · replace ho := ite_t c6 ho
      cases ho
      cases hrun
      exact hK0 _ _ _ hW (lv_sub hl [0, 1] rfl)
    · replace ho := ite_f c6 ho
      refine lv_ldc2 hx hb hown (hta _ kw_1464) dX6_mixInto_10 ?_
      refine lv_lload_n hx hb dX6_mixInto_13 rfl (lv_at hl 1 rfl) ?_
      refine lv_lmul hx hb dX6_mixInto_14 ?_
      refine lv_aload_n hx hb dX6_mixInto_15 rfl (lv_at hl 0 rfl) ?_
      refine xGET_600 C0 kw_178 hW dX6_mixInto_16 ?_
      refine lv_iload_n hx hb dX6_mixInto_19 rfl (lv_at hl 2 rfl) ?_
      obtain ⟨g7, ho⟩ := gd_some ho
      refine xLD_600 C0 hW g7 dX6_mixInto_20 ?_
      refine lv_i2l hx hb dX6_mixInto_21 rfl ?_
      refine lv_ladd hx hb dX6_mixInto_22 ?_
      refine lv_nml ho (fun x8 ho => ?_)
      refine lv_lstore_n (lv' := [(1, .long x8), (0, .ref (am 2006)), (3, .int v3)]) hx hb dX6_mixInto_23 rfl hl (by decide) rfl (fun ls hl => ?_)
      obtain ⟨x9, ex9, ho⟩ := nm_x ho
      refine lv_iinc (v := x9) (lv' := [(3, .int x9), (1, .long x8), (0, .ref (am 2006))]) hx hb dX6_mixInto_24 hl (k := 2) rfl (by rw [ex9]; rfl) (by decide) rfl (fun ls hl => ?_)
      clear ex9
      refine lv_goto (tgt := 2) hx hb dX6_mixInto_27 (by decide) ?_
      cases ho
      exact ih _ _ hrun _ _ _ hW (lv_sub hl [2, 1, 0] rfl)
set_option maxHeartbeats 4000000 in
set_option maxRecDepth 100000 in
theorem x6_mixInto_L32 {p : Program} {l : Launch} {e : Env} {s : State} {m : MethodId} {args : Array Value} {below : List Frame} {meth : Method} {c : Code} {Q : State → Prop} {D : va_G} {cI cJ cZ cR : ClassId} {am gm : Nat → Nat} {st : Nat} {A : Nat → Prop} (C0 : cxX p s m args meth c cX6_mixInto RX6 6 (some .long) D (tyX cI cJ cZ cR) st A) {t : St} {y : Int64} (hK0 : ∀ (H : Heap) (locs : List Loc) (ls : Array Slot), wl D A s (wX cI cJ cZ cR am gm t) H locs → lv_has ls 6 [(0, .ref (am 2006)), (1, .long y)] → W p l e (rmN 1 22) s m args below meth c H locs 0 0 Q (F0 m 74 ls [])) :
    ∀ (n : Nat) (v1 : Int64) (v3 : Int32), lpn (fun x => x6_mixInto_B32 t x.1 x.2) n (v1, v3) = some y → ∀ (H : Heap) (locs : List Loc) (ls : Array Slot), wl D A s (wX cI cJ cZ cR am gm t) H locs → lv_has ls 6 [(0, .ref (am 2006)), (1, .long v1), (3, .int v3)] → W p l e (rmN 1 22) s m args below meth c H locs 0 0 Q (F0 m 32 ls []) := by
  have hx := C0.1.1
  have hb := C0.1.2.1
  have hta := C0.1.2.2.2.2.2.1
  have hown := C0.1.2.2.2.2.1
  intro n
  induction n with
  | zero => intro _ _ h; cases h
  | succ n ih =>
    intro v1 v3 hrun H locs ls hW hl
    obtain ⟨o, ho, hrun⟩ := bd_some hrun
    unfold x6_mixInto_B32 at ho
    refine lv_iload_n hx hb dX6_mixInto_32 rfl (lv_at hl 2 rfl) ?_
    refine lv_bipush (v := (9 : Int32)) hx hb dX6_mixInto_33 (by decide) ?_
    refine lv_icmp_gt (tgt := 74) hx hb dX6_mixInto_35 (by decide) (fun c10 => ?_) (fun c10 => ?_)
    · replace ho := ite_t c10 ho
      cases ho
      cases hrun
      exact hK0 _ _ _ hW (lv_sub hl [0, 1] rfl)
    · replace ho := ite_f c10 ho
      refine lv_aload_n hx hb dX6_mixInto_38 rfl (lv_at hl 0 rfl) ?_
      refine xGET_602 C0 kw_183 hW dX6_mixInto_39 ?_
      refine lv_iload_n hx hb dX6_mixInto_42 rfl (lv_at hl 2 rfl) ?_
      obtain ⟨g11, ho⟩ := gd_some ho
      refine xLD_602 C0 hW g11 dX6_mixInto_43 ?_
      refine lv_if_lt (tgt := 68) hx hb dX6_mixInto_44 (by decide) (fun c12 => ?_) (fun c12 => ?_)
      · replace ho := ite_t c12 ho
        obtain ⟨x13, ex13, ho⟩ := nm_x ho
        refine lv_iinc (v := x13) (lv' := [(3, .int x13), (0, .ref (am 2006)), (1, .long v1)]) hx hb dX6_mixInto_68 hl (k := 2) rfl (by rw [ex13]; rfl) (by decide) rfl (fun ls hl => ?_)
        clear ex13
        refine lv_goto (tgt := 32) hx hb dX6_mixInto_71 (by decide) ?_
        cases ho
        exact ih _ _ hrun _ _ _ hW (lv_sub hl [1, 2, 0] rfl)
      · replace ho := ite_f c12 ho
        refine lv_ldc2 hx hb hown (hta _ kw_1464) dX6_mixInto_47 ?_
        refine lv_ldc2 hx hb hown (hta _ kw_1464) dX6_mixInto_50 ?_
        refine lv_lload_n hx hb dX6_mixInto_53 rfl (lv_at hl 1 rfl) ?_
        refine lv_lmul hx hb dX6_mixInto_54 ?_
        refine lv_iload_n hx hb dX6_mixInto_55 rfl (lv_at hl 2 rfl) ?_
        refine lv_i2l hx hb dX6_mixInto_56 rfl ?_
        refine lv_ladd hx hb dX6_mixInto_57 ?_
        refine lv_lmul hx hb dX6_mixInto_58 ?_
        refine lv_aload_n hx hb dX6_mixInto_59 rfl (lv_at hl 0 rfl) ?_
        refine xGET_602 C0 kw_183 hW dX6_mixInto_60 ?_
        refine lv_iload_n hx hb dX6_mixInto_63 rfl (lv_at hl 2 rfl) ?_
        obtain ⟨g14, ho⟩ := gd_some ho
        refine xLD_602 C0 hW g14 dX6_mixInto_64 ?_
        refine lv_i2l hx hb dX6_mixInto_65 rfl ?_
        refine lv_ladd hx hb dX6_mixInto_66 ?_
        refine lv_nml ho (fun x15 ho => ?_)
        refine lv_lstore_n (lv' := [(1, .long x15), (0, .ref (am 2006)), (3, .int v3)]) hx hb dX6_mixInto_67 rfl hl (by decide) rfl (fun ls hl => ?_)
        obtain ⟨x16, ex16, ho⟩ := nm_x ho
        refine lv_iinc (v := x16) (lv' := [(3, .int x16), (1, .long x15), (0, .ref (am 2006))]) hx hb dX6_mixInto_68 hl (k := 2) rfl (by rw [ex16]; rfl) (by decide) rfl (fun ls hl => ?_)
        clear ex16
        refine lv_goto (tgt := 32) hx hb dX6_mixInto_71 (by decide) ?_
        cases ho
        exact ih _ _ hrun _ _ _ hW (lv_sub hl [2, 1, 0] rfl)
set_option maxHeartbeats 4000000 in
set_option maxRecDepth 100000 in
theorem x6_mixInto_L76 {p : Program} {l : Launch} {e : Env} {s : State} {m : MethodId} {args : Array Value} {below : List Frame} {meth : Method} {c : Code} {Q : State → Prop} {D : va_G} {cI cJ cZ cR : ClassId} {am gm : Nat → Nat} {st : Nat} {A : Nat → Prop} (C0 : cxX p s m args meth c cX6_mixInto RX6 6 (some .long) D (tyX cI cJ cZ cR) st A) {t : St} {y : Int64} (hK0 : ∀ (H : Heap) (locs : List Loc) (ls : Array Slot), wl D A s (wX cI cJ cZ cR am gm t) H locs → lv_has ls 6 [(0, .ref (am 2006)), (1, .long y)] → W p l e (rmN 1 22) s m args below meth c H locs 0 0 Q (F0 m 180 ls [])) :
    ∀ (n : Nat) (v1 : Int64) (v3 : Int32), lpn (fun x => x6_mixInto_B76 t x.1 x.2) n (v1, v3) = some y → ∀ (H : Heap) (locs : List Loc) (ls : Array Slot), wl D A s (wX cI cJ cZ cR am gm t) H locs → lv_has ls 6 [(0, .ref (am 2006)), (1, .long v1), (3, .int v3)] → W p l e (rmN 1 22) s m args below meth c H locs 0 0 Q (F0 m 76 ls []) := by
  have hx := C0.1.1
  have hb := C0.1.2.1
  have hta := C0.1.2.2.2.2.2.1
  have hown := C0.1.2.2.2.2.1
  intro n
  induction n with
  | zero => intro _ _ h; cases h
  | succ n ih =>
    intro v1 v3 hrun H locs ls hW hl
    obtain ⟨o, ho, hrun⟩ := bd_some hrun
    have J141 : ∀ (v1 : Int64) (v3 : Int32) (w0 : Int32) (_ : x6_mixInto_J141 t v1 v3 w0 = some o) (H : Heap) (locs : List Loc) (ls : Array Slot), wl D A s (wX cI cJ cZ cR am gm t) H locs → lv_has ls 6 [(0, .ref (am 2006)), (1, .long v1), (3, .int v3)] → W p l e (rmN 1 22) s m args below meth c H locs 0 0 Q (F0 m 141 ls [.int w0]) := by
      intro v1 v3 w0 ho H locs ls hW hl
      unfold x6_mixInto_J141 at ho
      refine lv_istore (lv' := [(4, .int w0), (0, .ref (am 2006)), (1, .long v1), (3, .int v3)]) hx hb dX6_mixInto_141 hl (by decide) rfl (fun ls hl => ?_)
      refine lv_iconst (v := (0 : Int32)) hx hb dX6_mixInto_143 (by decide) ?_
      refine lv_istore (lv' := [(5, .int (0 : Int32)), (4, .int w0), (0, .ref (am 2006)), (1, .long v1), (3, .int v3)]) hx hb dX6_mixInto_144 hl (by decide) rfl (fun ls hl => ?_)
      obtain ⟨y17, hc19, ho⟩ := bd_some ho
      obtain ⟨ny17, hc19⟩ := lp_to hc19
      refine x6_mixInto_L146 C0 ?_ ny17 _ _ hc19 _ _ _ hW (lv_sub hl [2, 3, 4, 1, 0] rfl)
      intro H locs ls hW hl
      obtain ⟨x20, ex20, ho⟩ := nm_x ho
      refine lv_iinc (v := x20) (lv' := [(3, .int x20), (0, .ref (am 2006)), (1, .long y17)]) hx hb dX6_mixInto_174 hl (k := 2) rfl (by rw [ex20]; rfl) (by decide) rfl (fun ls hl => ?_)
      clear ex20
      refine lv_goto (tgt := 76) hx hb dX6_mixInto_177 (by decide) ?_
      cases ho
      exact ih _ _ hrun _ _ _ hW (lv_sub hl [1, 2, 0] rfl)
    unfold x6_mixInto_B76 at ho
    refine lv_iload_n hx hb dX6_mixInto_76 rfl (lv_at hl 2 rfl) ?_
    refine lv_aload_n hx hb dX6_mixInto_77 rfl (lv_at hl 0 rfl) ?_
    refine xGET_609 C0 kw_203 hW dX6_mixInto_78 ?_
    refine lv_icmp_ge (tgt := 180) hx hb dX6_mixInto_81 (by decide) (fun c21 => ?_) (fun c21 => ?_)
    · replace ho := ite_t c21 ho
      cases ho
      cases hrun
      exact hK0 _ _ _ hW (lv_sub hl [0, 1] rfl)
    · replace ho := ite_f c21 ho
      refine lv_ldc2 hx hb hown (hta _ kw_1464) dX6_mixInto_84 ?_
      refine lv_ldc2 hx hb hown (hta _ kw_1464) dX6_mixInto_87 ?_
      refine lv_ldc2 hx hb hown (hta _ kw_1464) dX6_mixInto_90 ?_
      refine lv_lload_n hx hb dX6_mixInto_93 rfl (lv_at hl 1 rfl) ?_
      refine lv_lmul hx hb dX6_mixInto_94 ?_
      refine lv_aload_n hx hb dX6_mixInto_95 rfl (lv_at hl 0 rfl) ?_
      refine xGET_603 C0 kw_186 hW dX6_mixInto_96 ?_
      refine lv_iload_n hx hb dX6_mixInto_99 rfl (lv_at hl 2 rfl) ?_
      obtain ⟨g22, ho⟩ := gd_some ho
      refine xLD_603 C0 hW g22 dX6_mixInto_100 ?_
      refine lv_i2l hx hb dX6_mixInto_101 rfl ?_
      refine lv_ladd hx hb dX6_mixInto_102 ?_
      refine lv_lmul hx hb dX6_mixInto_103 ?_
      refine lv_aload_n hx hb dX6_mixInto_104 rfl (lv_at hl 0 rfl) ?_
      refine xGET_604 C0 kw_190 hW dX6_mixInto_105 ?_
      refine lv_iload_n hx hb dX6_mixInto_108 rfl (lv_at hl 2 rfl) ?_
      obtain ⟨g23, ho⟩ := gd_some ho
      refine xLD_604 C0 hW g23 dX6_mixInto_109 ?_
      refine lv_i2l hx hb dX6_mixInto_110 rfl ?_
      refine lv_ladd hx hb dX6_mixInto_111 ?_
      refine lv_lmul hx hb dX6_mixInto_112 ?_
      refine lv_aload_n hx hb dX6_mixInto_113 rfl (lv_at hl 0 rfl) ?_
      refine xGET_605 C0 kw_194 hW dX6_mixInto_114 ?_
      refine lv_iload_n hx hb dX6_mixInto_117 rfl (lv_at hl 2 rfl) ?_
      obtain ⟨g24, ho⟩ := gd_some ho
      refine xLD_605 C0 hW g24 dX6_mixInto_118 ?_
      refine lv_i2l hx hb dX6_mixInto_119 rfl ?_
      refine lv_ladd hx hb dX6_mixInto_120 ?_
      refine lv_nml ho (fun x25 ho => ?_)
      refine lv_lstore_n (lv' := [(1, .long x25), (0, .ref (am 2006)), (3, .int v3)]) hx hb dX6_mixInto_121 rfl hl (by decide) rfl (fun ls hl => ?_)
      refine lv_aload_n hx hb dX6_mixInto_122 rfl (lv_at hl 1 rfl) ?_
      refine xGET_603 C0 kw_186 hW dX6_mixInto_123 ?_
      refine lv_iload_n hx hb dX6_mixInto_126 rfl (lv_at hl 2 rfl) ?_
      obtain ⟨g26, ho⟩ := gd_some ho
      refine xLD_603 C0 hW g26 dX6_mixInto_127 ?_
      refine lv_if_ne (tgt := 135) hx hb dX6_mixInto_128 (by decide) (fun c27 => ?_) (fun c27 => ?_)
      · replace ho := ite_f c27 ho
        refine lv_aload_n hx hb dX6_mixInto_135 rfl (lv_at hl 1 rfl) ?_
        refine xGET_604 C0 kw_190 hW dX6_mixInto_136 ?_
        refine lv_iload_n hx hb dX6_mixInto_139 rfl (lv_at hl 2 rfl) ?_
        obtain ⟨g28, ho⟩ := gd_some ho
        refine xLD_604 C0 hW g28 dX6_mixInto_140 ?_
        exact J141 _ _ _ ho _ _ _ hW (lv_sub hl [1, 0, 2] rfl)
      · replace ho := ite_t c27 ho
        refine lv_iconst (v := (0 : Int32)) hx hb dX6_mixInto_131 (by decide) ?_
        refine lv_goto (tgt := 141) hx hb dX6_mixInto_132 (by decide) ?_
        exact J141 _ _ _ ho _ _ _ hW (lv_sub hl [1, 0, 2] rfl)
set_option maxHeartbeats 4000000 in
set_option maxRecDepth 100000 in
theorem c_x6_mixInto (l : Launch) {D : va_G} {cI cJ cZ cR : ClassId} {am gm : Nat → Nat} {st : Nat} (sz : Nat) (t : St) (a1 : Int64) {r : Int64} (ho : x6_mixInto t a1 = some r) : Met l yX6_mixInto (.code yX6_mixInto cX6_mixInto 6 (some .long) :: wsAll) (rmN 1 22) (va_Pc [.ref (am 2006), .long a1] (prX D (tyX cI cJ cZ cR) (wX cI cJ cZ cR am gm t) sz st)) (qJ r D (tyX cI cJ cZ cR) (wX cI cJ cZ cR am gm t) (va_A (wX cI cJ cZ cR am gm t) sz)) 0 0 (va_A (wX cI cJ cZ cR am gm t) sz) := by
  refine Met.ofW (cc := cX6_mixInto) (maxL := 6) (ret := (some .long)) (by decide) rfl ?_
  intro p e s m args below meth c s₁ B hml hv
  obtain ⟨rfl, ⟨hsz, hP, hK, hD0⟩, hsx⟩ := hv
  have hx := B.exec
  have hb := B.bytes
  have hts := atoms_spec (ws := (.code yX6_mixInto cX6_mixInto 6 (some .long) :: wsAll)) B.pre
  have hta := fun w h => hts w (List.mem_cons_of_mem _ h)
  have hown : s.vm.findClass RX6 = some m.cls := findClass_of_methodNamed B.named
  have hlocks := B.notSynchronized
  subst hsz
  have hD := hD0.self (sz := s.heap.size)
  generalize hAe : va_A (wX cI cJ cZ cR am gm t) s.heap.size = A at hD ⊢
  have hA : ∀ q : Nat, s.heap.size ≤ q → A q := fun q h => by rw [← hAe]; exact Or.inr h
  have C0 : cxX p s m ([.ref (am 2006), .long a1].toArray) meth c cX6_mixInto RX6 6 (some .long) D (tyX cI cJ cZ cR) st A := ⟨⟨hx, hb, B.returns, hml, hown, hta, hlocks, hK, hA⟩, by rw [← hAe]; exact hsx⟩
  have hW : wl D A s (wX cI cJ cZ cR am gm t) s.heap [] := ⟨hP, hD, va_S.rf⟩
  have hl := lv_entry [.ref (am 2006), .long a1] (n := 6) (Nat.le_of_ble_eq_true rfl)
  rw [lg_entry_eq]
  generalize (lg_sl [.ref (am 2006), .long a1] ++ List.replicate (6 - (lg_sl [.ref (am 2006), .long a1]).length) Slot.unset).toArray = ls at hl ⊢
  have hl : lv_has ls 6 [(0, .ref (am 2006)), (1, .long a1)] := hl
  unfold x6_mixInto at ho
  refine lv_iconst (v := (0 : Int32)) hx hb dX6_mixInto_0 (by decide) ?_
  refine lv_istore_n (lv' := [(3, .int (0 : Int32)), (0, .ref (am 2006)), (1, .long a1)]) hx hb dX6_mixInto_1 rfl hl (by decide) rfl (fun ls hl => ?_)
  obtain ⟨y29, hc31, ho⟩ := bd_some ho
  obtain ⟨ny29, hc31⟩ := lp_to hc31
  refine x6_mixInto_L2 C0 ?_ ny29 _ _ hc31 _ _ _ hW (lv_sub hl [1, 2, 0] rfl)
  intro H locs ls hW hl
  refine lv_iconst (v := (0 : Int32)) hx hb dX6_mixInto_30 (by decide) ?_
  refine lv_istore_n (lv' := [(3, .int (0 : Int32)), (0, .ref (am 2006)), (1, .long y29)]) hx hb dX6_mixInto_31 rfl hl (by decide) rfl (fun ls hl => ?_)
  obtain ⟨y32, hc34, ho⟩ := bd_some ho
  obtain ⟨ny32, hc34⟩ := lp_to hc34
  refine x6_mixInto_L32 C0 ?_ ny32 _ _ hc34 _ _ _ hW (lv_sub hl [1, 2, 0] rfl)
  intro H locs ls hW hl
  refine lv_iconst (v := (0 : Int32)) hx hb dX6_mixInto_74 (by decide) ?_
  refine lv_istore_n (lv' := [(3, .int (0 : Int32)), (0, .ref (am 2006)), (1, .long y32)]) hx hb dX6_mixInto_75 rfl hl (by decide) rfl (fun ls hl => ?_)
  obtain ⟨y35, hc37, ho⟩ := bd_some ho
  obtain ⟨ny35, hc37⟩ := lp_to hc37
  refine x6_mixInto_L76 C0 ?_ ny35 _ _ hc37 _ _ _ hW (lv_sub hl [1, 2, 0] rfl)
  intro H locs ls hW hl
  refine lv_lload_n hx hb dX6_mixInto_180 rfl (lv_at hl 1 rfl) ?_
  cases ho
  exact rtJ C0.1 hW dX6_mixInto_181
noncomputable def x4_mixInto_B2 (t : St) (v1 : Int64) (v3 : Int32) : Option ((Int64 × Int32) ⊕ (Int64)) :=
  if (gI t 402) ≤ v3 then (some (.inr v1)) else (gd ((1 : Int32) <<< (v3 &&& 31)) (gN t 403) (gd ((1 : Int32) <<< (v3 &&& 31)) (gN t 404) (nm (((31 : Int64) * (((31 : Int64) * v1) + ((gA t 403 (((1 : Int32) <<< (v3 &&& 31))).toNatClampNeg)).toInt64)) + ((gA t 404 (((1 : Int32) <<< (v3 &&& 31))).toNatClampNeg)).toInt64) (fun x4 : Int64 => nm (v3 + (1 : Int32)) (fun x5 : Int32 => some (.inl (x4, x5)))))))
noncomputable def x4_mixInto (t : St) (a1 : Int64) : Option (Int64) :=
  (lp (fun x => x4_mixInto_B2 t x.1 x.2) (a1, (0 : Int32))).bind (fun y6 => some y6)
set_option maxHeartbeats 4000000 in
set_option maxRecDepth 100000 in
theorem x4_mixInto_L2 {p : Program} {l : Launch} {e : Env} {s : State} {m : MethodId} {args : Array Value} {below : List Frame} {meth : Method} {c : Code} {Q : State → Prop} {D : va_G} {cI cJ cZ cR : ClassId} {am gm : Nat → Nat} {st : Nat} {A : Nat → Prop} (C0 : cxX p s m args meth c cX4_mixInto RX4 4 (some .long) D (tyX cI cJ cZ cR) st A) {t : St} {y : Int64} (hK0 : ∀ (H : Heap) (locs : List Loc) (ls : Array Slot), wl D A s (wX cI cJ cZ cR am gm t) H locs → lv_has ls 4 [(0, .ref (am 2004)), (1, .long y)] → W p l e (rmN 0 0) s m args below meth c H locs 0 0 Q (F0 m 46 ls [])) :
    ∀ (n : Nat) (v1 : Int64) (v3 : Int32), lpn (fun x => x4_mixInto_B2 t x.1 x.2) n (v1, v3) = some y → ∀ (H : Heap) (locs : List Loc) (ls : Array Slot), wl D A s (wX cI cJ cZ cR am gm t) H locs → lv_has ls 4 [(0, .ref (am 2004)), (1, .long v1), (3, .int v3)] → W p l e (rmN 0 0) s m args below meth c H locs 0 0 Q (F0 m 2 ls []) := by
  have hx := C0.1.1
  have hb := C0.1.2.1
  have hta := C0.1.2.2.2.2.2.1
  have hown := C0.1.2.2.2.2.1
  intro n
  induction n with
  | zero => intro _ _ h; cases h
  | succ n ih =>
    intro v1 v3 hrun H locs ls hW hl
    obtain ⟨o, ho, hrun⟩ := bd_some hrun
    unfold x4_mixInto_B2 at ho
    refine lv_iload_n hx hb dX4_mixInto_2 rfl (lv_at hl 2 rfl) ?_
    refine lv_aload_n hx hb dX4_mixInto_3 rfl (lv_at hl 0 rfl) ?_
    refine xGET_402 C0 kw_441 hW dX4_mixInto_4 ?_
    refine lv_icmp_ge (tgt := 46) hx hb dX4_mixInto_7 (by decide) (fun c1 => ?_) (fun c1 => ?_)
    · replace ho := ite_t c1 ho
      cases ho
      cases hrun
      exact hK0 _ _ _ hW (lv_sub hl [0, 1] rfl)
    · replace ho := ite_f c1 ho
      refine lv_ldc2 hx hb hown (hta _ kw_1469) dX4_mixInto_10 ?_
      refine lv_ldc2 hx hb hown (hta _ kw_1469) dX4_mixInto_13 ?_
      refine lv_lload_n hx hb dX4_mixInto_16 rfl (lv_at hl 1 rfl) ?_
      refine lv_lmul hx hb dX4_mixInto_17 ?_
      refine lv_aload_n hx hb dX4_mixInto_18 rfl (lv_at hl 0 rfl) ?_
      refine xGET_403 C0 kw_443 hW dX4_mixInto_19 ?_
      refine lv_iconst (v := (1 : Int32)) hx hb dX4_mixInto_22 (by decide) ?_
      refine lv_iload_n hx hb dX4_mixInto_23 rfl (lv_at hl 2 rfl) ?_
      refine lv_ishl hx hb dX4_mixInto_24 ?_
      obtain ⟨g2, ho⟩ := gd_some ho
      refine xLD_403 C0 hW g2 dX4_mixInto_25 ?_
      refine lv_i2l hx hb dX4_mixInto_26 rfl ?_
      refine lv_ladd hx hb dX4_mixInto_27 ?_
      refine lv_lmul hx hb dX4_mixInto_28 ?_
      refine lv_aload_n hx hb dX4_mixInto_29 rfl (lv_at hl 0 rfl) ?_
      refine xGET_404 C0 kw_445 hW dX4_mixInto_30 ?_
      refine lv_iconst (v := (1 : Int32)) hx hb dX4_mixInto_33 (by decide) ?_
      refine lv_iload_n hx hb dX4_mixInto_34 rfl (lv_at hl 2 rfl) ?_
      refine lv_ishl hx hb dX4_mixInto_35 ?_
      obtain ⟨g3, ho⟩ := gd_some ho
      refine xLD_404 C0 hW g3 dX4_mixInto_36 ?_
      refine lv_i2l hx hb dX4_mixInto_37 rfl ?_
      refine lv_ladd hx hb dX4_mixInto_38 ?_
      refine lv_nml ho (fun x4 ho => ?_)
      refine lv_lstore_n (lv' := [(1, .long x4), (0, .ref (am 2004)), (3, .int v3)]) hx hb dX4_mixInto_39 rfl hl (by decide) rfl (fun ls hl => ?_)
      obtain ⟨x5, ex5, ho⟩ := nm_x ho
      refine lv_iinc (v := x5) (lv' := [(3, .int x5), (1, .long x4), (0, .ref (am 2004))]) hx hb dX4_mixInto_40 hl (k := 2) rfl (by rw [ex5]; rfl) (by decide) rfl (fun ls hl => ?_)
      clear ex5
      refine lv_goto (tgt := 2) hx hb dX4_mixInto_43 (by decide) ?_
      cases ho
      exact ih _ _ hrun _ _ _ hW (lv_sub hl [2, 1, 0] rfl)
set_option maxHeartbeats 4000000 in
set_option maxRecDepth 100000 in
theorem c_x4_mixInto (l : Launch) {D : va_G} {cI cJ cZ cR : ClassId} {am gm : Nat → Nat} {st : Nat} (sz : Nat) (t : St) (a1 : Int64) {r : Int64} (ho : x4_mixInto t a1 = some r) : Met l yX4_mixInto (.code yX4_mixInto cX4_mixInto 4 (some .long) :: wsAll) (rmN 0 0) (va_Pc [.ref (am 2004), .long a1] (prX D (tyX cI cJ cZ cR) (wX cI cJ cZ cR am gm t) sz st)) (qJ r D (tyX cI cJ cZ cR) (wX cI cJ cZ cR am gm t) (va_A (wX cI cJ cZ cR am gm t) sz)) 0 0 (va_A (wX cI cJ cZ cR am gm t) sz) := by
  refine Met.ofW (cc := cX4_mixInto) (maxL := 4) (ret := (some .long)) (by decide) rfl ?_
  intro p e s m args below meth c s₁ B hml hv
  obtain ⟨rfl, ⟨hsz, hP, hK, hD0⟩, hsx⟩ := hv
  have hx := B.exec
  have hb := B.bytes
  have hts := atoms_spec (ws := (.code yX4_mixInto cX4_mixInto 4 (some .long) :: wsAll)) B.pre
  have hta := fun w h => hts w (List.mem_cons_of_mem _ h)
  have hown : s.vm.findClass RX4 = some m.cls := findClass_of_methodNamed B.named
  have hlocks := B.notSynchronized
  subst hsz
  have hD := hD0.self (sz := s.heap.size)
  generalize hAe : va_A (wX cI cJ cZ cR am gm t) s.heap.size = A at hD ⊢
  have hA : ∀ q : Nat, s.heap.size ≤ q → A q := fun q h => by rw [← hAe]; exact Or.inr h
  have C0 : cxX p s m ([.ref (am 2004), .long a1].toArray) meth c cX4_mixInto RX4 4 (some .long) D (tyX cI cJ cZ cR) st A := ⟨⟨hx, hb, B.returns, hml, hown, hta, hlocks, hK, hA⟩, by rw [← hAe]; exact hsx⟩
  have hW : wl D A s (wX cI cJ cZ cR am gm t) s.heap [] := ⟨hP, hD, va_S.rf⟩
  have hl := lv_entry [.ref (am 2004), .long a1] (n := 4) (Nat.le_of_ble_eq_true rfl)
  rw [lg_entry_eq]
  generalize (lg_sl [.ref (am 2004), .long a1] ++ List.replicate (4 - (lg_sl [.ref (am 2004), .long a1]).length) Slot.unset).toArray = ls at hl ⊢
  have hl : lv_has ls 4 [(0, .ref (am 2004)), (1, .long a1)] := hl
  unfold x4_mixInto at ho
  refine lv_iconst (v := (0 : Int32)) hx hb dX4_mixInto_0 (by decide) ?_
  refine lv_istore_n (lv' := [(3, .int (0 : Int32)), (0, .ref (am 2004)), (1, .long a1)]) hx hb dX4_mixInto_1 rfl hl (by decide) rfl (fun ls hl => ?_)
  obtain ⟨y6, hc8, ho⟩ := bd_some ho
  obtain ⟨ny6, hc8⟩ := lp_to hc8
  refine x4_mixInto_L2 C0 ?_ ny6 _ _ hc8 _ _ _ hW (lv_sub hl [1, 2, 0] rfl)
  intro H locs ls hW hl
  refine lv_lload_n hx hb dX4_mixInto_46 rfl (lv_at hl 1 rfl) ?_
  cases ho
  exact rtJ C0.1 hW dX4_mixInto_47
noncomputable def x3_mixInto_B2 (t : St) (v1 : Int64) (v3 : Int32) : Option ((Int64 × Int32) ⊕ (Int64)) :=
  if ((gI t 302) * (16 : Int32)) ≤ v3 then (some (.inr v1)) else (gd v3 (gN t 301) (nm (((31 : Int64) * v1) + ((gA t 301 (v3).toNatClampNeg)).toInt64) (fun x3 : Int64 => nm (v3 + (1 : Int32)) (fun x4 : Int32 => some (.inl (x3, x4))))))
noncomputable def x3_mixInto (t : St) (a1 : Int64) : Option (Int64) :=
  (lp (fun x => x3_mixInto_B2 t x.1 x.2) (a1, (0 : Int32))).bind (fun y5 => some y5)
set_option maxHeartbeats 4000000 in
set_option maxRecDepth 100000 in
theorem x3_mixInto_L2 {p : Program} {l : Launch} {e : Env} {s : State} {m : MethodId} {args : Array Value} {below : List Frame} {meth : Method} {c : Code} {Q : State → Prop} {D : va_G} {cI cJ cZ cR : ClassId} {am gm : Nat → Nat} {st : Nat} {A : Nat → Prop} (C0 : cxX p s m args meth c cX3_mixInto RX3 4 (some .long) D (tyX cI cJ cZ cR) st A) {t : St} {y : Int64} (hK0 : ∀ (H : Heap) (locs : List Loc) (ls : Array Slot), wl D A s (wX cI cJ cZ cR am gm t) H locs → lv_has ls 4 [(0, .ref (am 2003)), (1, .long y)] → W p l e (rmN 0 0) s m args below meth c H locs 0 0 Q (F0 m 33 ls [])) :
    ∀ (n : Nat) (v1 : Int64) (v3 : Int32), lpn (fun x => x3_mixInto_B2 t x.1 x.2) n (v1, v3) = some y → ∀ (H : Heap) (locs : List Loc) (ls : Array Slot), wl D A s (wX cI cJ cZ cR am gm t) H locs → lv_has ls 4 [(0, .ref (am 2003)), (1, .long v1), (3, .int v3)] → W p l e (rmN 0 0) s m args below meth c H locs 0 0 Q (F0 m 2 ls []) := by
  have hx := C0.1.1
  have hb := C0.1.2.1
  have hta := C0.1.2.2.2.2.2.1
  have hown := C0.1.2.2.2.2.1
  intro n
  induction n with
  | zero => intro _ _ h; cases h
  | succ n ih =>
    intro v1 v3 hrun H locs ls hW hl
    obtain ⟨o, ho, hrun⟩ := bd_some hrun
    unfold x3_mixInto_B2 at ho
    refine lv_iload_n hx hb dX3_mixInto_2 rfl (lv_at hl 2 rfl) ?_
    refine lv_aload_n hx hb dX3_mixInto_3 rfl (lv_at hl 0 rfl) ?_
    refine xGET_302 C0 kw_492 hW dX3_mixInto_4 ?_
    refine lv_bipush (v := (16 : Int32)) hx hb dX3_mixInto_7 (by decide) ?_
    refine lv_imul hx hb dX3_mixInto_9 ?_
    refine lv_icmp_ge (tgt := 33) hx hb dX3_mixInto_10 (by decide) (fun c1 => ?_) (fun c1 => ?_)
    · replace ho := ite_t c1 ho
      cases ho
      cases hrun
      exact hK0 _ _ _ hW (lv_sub hl [0, 1] rfl)
    · replace ho := ite_f c1 ho
      refine lv_ldc2 hx hb hown (hta _ kw_1474) dX3_mixInto_13 ?_
      refine lv_lload_n hx hb dX3_mixInto_16 rfl (lv_at hl 1 rfl) ?_
      refine lv_lmul hx hb dX3_mixInto_17 ?_
      refine lv_aload_n hx hb dX3_mixInto_18 rfl (lv_at hl 0 rfl) ?_
      refine xGET_301 C0 kw_491 hW dX3_mixInto_19 ?_
      refine lv_iload_n hx hb dX3_mixInto_22 rfl (lv_at hl 2 rfl) ?_
      obtain ⟨g2, ho⟩ := gd_some ho
      refine xLD_301 C0 hW g2 dX3_mixInto_23 ?_
      refine lv_i2l hx hb dX3_mixInto_24 rfl ?_
      refine lv_ladd hx hb dX3_mixInto_25 ?_
      refine lv_nml ho (fun x3 ho => ?_)
      refine lv_lstore_n (lv' := [(1, .long x3), (0, .ref (am 2003)), (3, .int v3)]) hx hb dX3_mixInto_26 rfl hl (by decide) rfl (fun ls hl => ?_)
      obtain ⟨x4, ex4, ho⟩ := nm_x ho
      refine lv_iinc (v := x4) (lv' := [(3, .int x4), (1, .long x3), (0, .ref (am 2003))]) hx hb dX3_mixInto_27 hl (k := 2) rfl (by rw [ex4]; rfl) (by decide) rfl (fun ls hl => ?_)
      clear ex4
      refine lv_goto (tgt := 2) hx hb dX3_mixInto_30 (by decide) ?_
      cases ho
      exact ih _ _ hrun _ _ _ hW (lv_sub hl [2, 1, 0] rfl)
set_option maxHeartbeats 4000000 in
set_option maxRecDepth 100000 in
theorem c_x3_mixInto (l : Launch) {D : va_G} {cI cJ cZ cR : ClassId} {am gm : Nat → Nat} {st : Nat} (sz : Nat) (t : St) (a1 : Int64) {r : Int64} (ho : x3_mixInto t a1 = some r) : Met l yX3_mixInto (.code yX3_mixInto cX3_mixInto 4 (some .long) :: wsAll) (rmN 0 0) (va_Pc [.ref (am 2003), .long a1] (prX D (tyX cI cJ cZ cR) (wX cI cJ cZ cR am gm t) sz st)) (qJ r D (tyX cI cJ cZ cR) (wX cI cJ cZ cR am gm t) (va_A (wX cI cJ cZ cR am gm t) sz)) 0 0 (va_A (wX cI cJ cZ cR am gm t) sz) := by
  refine Met.ofW (cc := cX3_mixInto) (maxL := 4) (ret := (some .long)) (by decide) rfl ?_
  intro p e s m args below meth c s₁ B hml hv
  obtain ⟨rfl, ⟨hsz, hP, hK, hD0⟩, hsx⟩ := hv
  have hx := B.exec
  have hb := B.bytes
  have hts := atoms_spec (ws := (.code yX3_mixInto cX3_mixInto 4 (some .long) :: wsAll)) B.pre
  have hta := fun w h => hts w (List.mem_cons_of_mem _ h)
  have hown : s.vm.findClass RX3 = some m.cls := findClass_of_methodNamed B.named
  have hlocks := B.notSynchronized
  subst hsz
  have hD := hD0.self (sz := s.heap.size)
  generalize hAe : va_A (wX cI cJ cZ cR am gm t) s.heap.size = A at hD ⊢
  have hA : ∀ q : Nat, s.heap.size ≤ q → A q := fun q h => by rw [← hAe]; exact Or.inr h
  have C0 : cxX p s m ([.ref (am 2003), .long a1].toArray) meth c cX3_mixInto RX3 4 (some .long) D (tyX cI cJ cZ cR) st A := ⟨⟨hx, hb, B.returns, hml, hown, hta, hlocks, hK, hA⟩, by rw [← hAe]; exact hsx⟩
  have hW : wl D A s (wX cI cJ cZ cR am gm t) s.heap [] := ⟨hP, hD, va_S.rf⟩
  have hl := lv_entry [.ref (am 2003), .long a1] (n := 4) (Nat.le_of_ble_eq_true rfl)
  rw [lg_entry_eq]
  generalize (lg_sl [.ref (am 2003), .long a1] ++ List.replicate (4 - (lg_sl [.ref (am 2003), .long a1]).length) Slot.unset).toArray = ls at hl ⊢
  have hl : lv_has ls 4 [(0, .ref (am 2003)), (1, .long a1)] := hl
  unfold x3_mixInto at ho
  refine lv_iconst (v := (0 : Int32)) hx hb dX3_mixInto_0 (by decide) ?_
  refine lv_istore_n (lv' := [(3, .int (0 : Int32)), (0, .ref (am 2003)), (1, .long a1)]) hx hb dX3_mixInto_1 rfl hl (by decide) rfl (fun ls hl => ?_)
  obtain ⟨y5, hc7, ho⟩ := bd_some ho
  obtain ⟨ny5, hc7⟩ := lp_to hc7
  refine x3_mixInto_L2 C0 ?_ ny5 _ _ hc7 _ _ _ hW (lv_sub hl [1, 2, 0] rfl)
  intro H locs ls hW hl
  refine lv_lload_n hx hb dX3_mixInto_33 rfl (lv_at hl 1 rfl) ?_
  cases ho
  exact rtJ C0.1 hW dX3_mixInto_34
noncomputable def x10_mixInto_B2 (t : St) (v1 : Int64) (v3 : Int32) : Option ((Int64 × Int32) ⊕ (Int64)) :=
  if (gI t 1007) ≤ v3 then (some (.inr v1)) else (gd v3 (gN t 1006) (nm (((31 : Int64) * v1) + ((gA t 1006 (v3).toNatClampNeg)).toInt64) (fun x3 : Int64 => nm (v3 + (1 : Int32)) (fun x4 : Int32 => some (.inl (x3, x4))))))
noncomputable def x10_mixInto (t : St) (a1 : Int64) : Option (Int64) :=
  (lp (fun x => x10_mixInto_B2 t x.1 x.2) (a1, (0 : Int32))).bind (fun y5 => some y5)
set_option maxHeartbeats 4000000 in
set_option maxRecDepth 100000 in
theorem x10_mixInto_L2 {p : Program} {l : Launch} {e : Env} {s : State} {m : MethodId} {args : Array Value} {below : List Frame} {meth : Method} {c : Code} {Q : State → Prop} {D : va_G} {cI cJ cZ cR : ClassId} {am gm : Nat → Nat} {st : Nat} {A : Nat → Prop} (C0 : cxX p s m args meth c cX10_mixInto RX10 4 (some .long) D (tyX cI cJ cZ cR) st A) {t : St} {y : Int64} (hK0 : ∀ (H : Heap) (locs : List Loc) (ls : Array Slot), wl D A s (wX cI cJ cZ cR am gm t) H locs → lv_has ls 4 [(0, .ref (am 2010)), (1, .long y)] → W p l e (rmN 0 0) s m args below meth c H locs 0 0 Q (F0 m 30 ls [])) :
    ∀ (n : Nat) (v1 : Int64) (v3 : Int32), lpn (fun x => x10_mixInto_B2 t x.1 x.2) n (v1, v3) = some y → ∀ (H : Heap) (locs : List Loc) (ls : Array Slot), wl D A s (wX cI cJ cZ cR am gm t) H locs → lv_has ls 4 [(0, .ref (am 2010)), (1, .long v1), (3, .int v3)] → W p l e (rmN 0 0) s m args below meth c H locs 0 0 Q (F0 m 2 ls []) := by
  have hx := C0.1.1
  have hb := C0.1.2.1
  have hta := C0.1.2.2.2.2.2.1
  have hown := C0.1.2.2.2.2.1
  intro n
  induction n with
  | zero => intro _ _ h; cases h
  | succ n ih =>
    intro v1 v3 hrun H locs ls hW hl
    obtain ⟨o, ho, hrun⟩ := bd_some hrun
    unfold x10_mixInto_B2 at ho
    refine lv_iload_n hx hb dX10_mixInto_2 rfl (lv_at hl 2 rfl) ?_
    refine lv_aload_n hx hb dX10_mixInto_3 rfl (lv_at hl 0 rfl) ?_
    refine xGET_1007 C0 kw_341 hW dX10_mixInto_4 ?_
    refine lv_icmp_ge (tgt := 30) hx hb dX10_mixInto_7 (by decide) (fun c1 => ?_) (fun c1 => ?_)
    · replace ho := ite_t c1 ho
      cases ho
      cases hrun
      exact hK0 _ _ _ hW (lv_sub hl [0, 1] rfl)
    · replace ho := ite_f c1 ho
      refine lv_ldc2 hx hb hown (hta _ kw_1479) dX10_mixInto_10 ?_
      refine lv_lload_n hx hb dX10_mixInto_13 rfl (lv_at hl 1 rfl) ?_
      refine lv_lmul hx hb dX10_mixInto_14 ?_
      refine lv_aload_n hx hb dX10_mixInto_15 rfl (lv_at hl 0 rfl) ?_
      refine xGET_1006 C0 kw_340 hW dX10_mixInto_16 ?_
      refine lv_iload_n hx hb dX10_mixInto_19 rfl (lv_at hl 2 rfl) ?_
      obtain ⟨g2, ho⟩ := gd_some ho
      refine xLD_1006 C0 hW g2 dX10_mixInto_20 ?_
      refine lv_i2l hx hb dX10_mixInto_21 rfl ?_
      refine lv_ladd hx hb dX10_mixInto_22 ?_
      refine lv_nml ho (fun x3 ho => ?_)
      refine lv_lstore_n (lv' := [(1, .long x3), (0, .ref (am 2010)), (3, .int v3)]) hx hb dX10_mixInto_23 rfl hl (by decide) rfl (fun ls hl => ?_)
      obtain ⟨x4, ex4, ho⟩ := nm_x ho
      refine lv_iinc (v := x4) (lv' := [(3, .int x4), (1, .long x3), (0, .ref (am 2010))]) hx hb dX10_mixInto_24 hl (k := 2) rfl (by rw [ex4]; rfl) (by decide) rfl (fun ls hl => ?_)
      clear ex4
      refine lv_goto (tgt := 2) hx hb dX10_mixInto_27 (by decide) ?_
      cases ho
      exact ih _ _ hrun _ _ _ hW (lv_sub hl [2, 1, 0] rfl)
set_option maxHeartbeats 4000000 in
set_option maxRecDepth 100000 in
theorem c_x10_mixInto (l : Launch) {D : va_G} {cI cJ cZ cR : ClassId} {am gm : Nat → Nat} {st : Nat} (sz : Nat) (t : St) (a1 : Int64) {r : Int64} (ho : x10_mixInto t a1 = some r) : Met l yX10_mixInto (.code yX10_mixInto cX10_mixInto 4 (some .long) :: wsAll) (rmN 0 0) (va_Pc [.ref (am 2010), .long a1] (prX D (tyX cI cJ cZ cR) (wX cI cJ cZ cR am gm t) sz st)) (qJ r D (tyX cI cJ cZ cR) (wX cI cJ cZ cR am gm t) (va_A (wX cI cJ cZ cR am gm t) sz)) 0 0 (va_A (wX cI cJ cZ cR am gm t) sz) := by
  refine Met.ofW (cc := cX10_mixInto) (maxL := 4) (ret := (some .long)) (by decide) rfl ?_
  intro p e s m args below meth c s₁ B hml hv
  obtain ⟨rfl, ⟨hsz, hP, hK, hD0⟩, hsx⟩ := hv
  have hx := B.exec
  have hb := B.bytes
  have hts := atoms_spec (ws := (.code yX10_mixInto cX10_mixInto 4 (some .long) :: wsAll)) B.pre
  have hta := fun w h => hts w (List.mem_cons_of_mem _ h)
  have hown : s.vm.findClass RX10 = some m.cls := findClass_of_methodNamed B.named
  have hlocks := B.notSynchronized
  subst hsz
  have hD := hD0.self (sz := s.heap.size)
  generalize hAe : va_A (wX cI cJ cZ cR am gm t) s.heap.size = A at hD ⊢
  have hA : ∀ q : Nat, s.heap.size ≤ q → A q := fun q h => by rw [← hAe]; exact Or.inr h
  have C0 : cxX p s m ([.ref (am 2010), .long a1].toArray) meth c cX10_mixInto RX10 4 (some .long) D (tyX cI cJ cZ cR) st A := ⟨⟨hx, hb, B.returns, hml, hown, hta, hlocks, hK, hA⟩, by rw [← hAe]; exact hsx⟩
  have hW : wl D A s (wX cI cJ cZ cR am gm t) s.heap [] := ⟨hP, hD, va_S.rf⟩
  have hl := lv_entry [.ref (am 2010), .long a1] (n := 4) (Nat.le_of_ble_eq_true rfl)
  rw [lg_entry_eq]
  generalize (lg_sl [.ref (am 2010), .long a1] ++ List.replicate (4 - (lg_sl [.ref (am 2010), .long a1]).length) Slot.unset).toArray = ls at hl ⊢
  have hl : lv_has ls 4 [(0, .ref (am 2010)), (1, .long a1)] := hl
  unfold x10_mixInto at ho
  refine lv_iconst (v := (0 : Int32)) hx hb dX10_mixInto_0 (by decide) ?_
  refine lv_istore_n (lv' := [(3, .int (0 : Int32)), (0, .ref (am 2010)), (1, .long a1)]) hx hb dX10_mixInto_1 rfl hl (by decide) rfl (fun ls hl => ?_)
  obtain ⟨y5, hc7, ho⟩ := bd_some ho
  obtain ⟨ny5, hc7⟩ := lp_to hc7
  refine x10_mixInto_L2 C0 ?_ ny5 _ _ hc7 _ _ _ hW (lv_sub hl [1, 2, 0] rfl)
  intro H locs ls hW hl
  refine lv_lload_n hx hb dX10_mixInto_30 rfl (lv_at hl 1 rfl) ?_
  cases ho
  exact rtJ C0.1 hW dX10_mixInto_31
noncomputable def x1_mixInto_B2 (t : St) (v1 : Int64) (v3 : Int32) : Option ((Int64 × Int32) ⊕ (Int64)) :=
  if (gI t 104) ≤ v3 then (some (.inr v1)) else (gd v3 (gN t 102) (gd v3 (gN t 103) (nm (((31 : Int64) * (((31 : Int64) * v1) + ((gA t 102 (v3).toNatClampNeg)).toInt64)) + ((gA t 103 (v3).toNatClampNeg)).toInt64) (fun x4 : Int64 => nm (v3 + (1 : Int32)) (fun x5 : Int32 => some (.inl (x4, x5)))))))
noncomputable def x1_mixInto (t : St) (a1 : Int64) : Option (Int64) :=
  (lp (fun x => x1_mixInto_B2 t x.1 x.2) (a1, (0 : Int32))).bind (fun y6 => some y6)
set_option maxHeartbeats 4000000 in
set_option maxRecDepth 100000 in
theorem x1_mixInto_L2 {p : Program} {l : Launch} {e : Env} {s : State} {m : MethodId} {args : Array Value} {below : List Frame} {meth : Method} {c : Code} {Q : State → Prop} {D : va_G} {cI cJ cZ cR : ClassId} {am gm : Nat → Nat} {st : Nat} {A : Nat → Prop} (C0 : cxX p s m args meth c cX1_mixInto RX1 4 (some .long) D (tyX cI cJ cZ cR) st A) {t : St} {y : Int64} (hK0 : ∀ (H : Heap) (locs : List Loc) (ls : Array Slot), wl D A s (wX cI cJ cZ cR am gm t) H locs → lv_has ls 4 [(0, .ref (am 2001)), (1, .long y)] → W p l e (rmN 0 0) s m args below meth c H locs 0 0 Q (F0 m 42 ls [])) :
    ∀ (n : Nat) (v1 : Int64) (v3 : Int32), lpn (fun x => x1_mixInto_B2 t x.1 x.2) n (v1, v3) = some y → ∀ (H : Heap) (locs : List Loc) (ls : Array Slot), wl D A s (wX cI cJ cZ cR am gm t) H locs → lv_has ls 4 [(0, .ref (am 2001)), (1, .long v1), (3, .int v3)] → W p l e (rmN 0 0) s m args below meth c H locs 0 0 Q (F0 m 2 ls []) := by
  have hx := C0.1.1
  have hb := C0.1.2.1
  have hta := C0.1.2.2.2.2.2.1
  have hown := C0.1.2.2.2.2.1
  intro n
  induction n with
  | zero => intro _ _ h; cases h
  | succ n ih =>
    intro v1 v3 hrun H locs ls hW hl
    obtain ⟨o, ho, hrun⟩ := bd_some hrun
    unfold x1_mixInto_B2 at ho
    refine lv_iload_n hx hb dX1_mixInto_2 rfl (lv_at hl 2 rfl) ?_
    refine lv_aload_n hx hb dX1_mixInto_3 rfl (lv_at hl 0 rfl) ?_
    refine xGET_104 C0 kw_537 hW dX1_mixInto_4 ?_
    refine lv_icmp_ge (tgt := 42) hx hb dX1_mixInto_7 (by decide) (fun c1 => ?_) (fun c1 => ?_)
    · replace ho := ite_t c1 ho
      cases ho
      cases hrun
      exact hK0 _ _ _ hW (lv_sub hl [0, 1] rfl)
    · replace ho := ite_f c1 ho
      refine lv_ldc2 hx hb hown (hta _ kw_1484) dX1_mixInto_10 ?_
      refine lv_ldc2 hx hb hown (hta _ kw_1484) dX1_mixInto_13 ?_
      refine lv_lload_n hx hb dX1_mixInto_16 rfl (lv_at hl 1 rfl) ?_
      refine lv_lmul hx hb dX1_mixInto_17 ?_
      refine lv_aload_n hx hb dX1_mixInto_18 rfl (lv_at hl 0 rfl) ?_
      refine xGET_102 C0 kw_535 hW dX1_mixInto_19 ?_
      refine lv_iload_n hx hb dX1_mixInto_22 rfl (lv_at hl 2 rfl) ?_
      obtain ⟨g2, ho⟩ := gd_some ho
      refine xLD_102 C0 hW g2 dX1_mixInto_23 ?_
      refine lv_i2l hx hb dX1_mixInto_24 rfl ?_
      refine lv_ladd hx hb dX1_mixInto_25 ?_
      refine lv_lmul hx hb dX1_mixInto_26 ?_
      refine lv_aload_n hx hb dX1_mixInto_27 rfl (lv_at hl 0 rfl) ?_
      refine xGET_103 C0 kw_536 hW dX1_mixInto_28 ?_
      refine lv_iload_n hx hb dX1_mixInto_31 rfl (lv_at hl 2 rfl) ?_
      obtain ⟨g3, ho⟩ := gd_some ho
      refine xLD_103 C0 hW g3 dX1_mixInto_32 ?_
      refine lv_i2l hx hb dX1_mixInto_33 rfl ?_
      refine lv_ladd hx hb dX1_mixInto_34 ?_
      refine lv_nml ho (fun x4 ho => ?_)
      refine lv_lstore_n (lv' := [(1, .long x4), (0, .ref (am 2001)), (3, .int v3)]) hx hb dX1_mixInto_35 rfl hl (by decide) rfl (fun ls hl => ?_)
      obtain ⟨x5, ex5, ho⟩ := nm_x ho
      refine lv_iinc (v := x5) (lv' := [(3, .int x5), (1, .long x4), (0, .ref (am 2001))]) hx hb dX1_mixInto_36 hl (k := 2) rfl (by rw [ex5]; rfl) (by decide) rfl (fun ls hl => ?_)
      clear ex5
      refine lv_goto (tgt := 2) hx hb dX1_mixInto_39 (by decide) ?_
      cases ho
      exact ih _ _ hrun _ _ _ hW (lv_sub hl [2, 1, 0] rfl)
set_option maxHeartbeats 4000000 in
set_option maxRecDepth 100000 in
theorem c_x1_mixInto (l : Launch) {D : va_G} {cI cJ cZ cR : ClassId} {am gm : Nat → Nat} {st : Nat} (sz : Nat) (t : St) (a1 : Int64) {r : Int64} (ho : x1_mixInto t a1 = some r) : Met l yX1_mixInto (.code yX1_mixInto cX1_mixInto 4 (some .long) :: wsAll) (rmN 0 0) (va_Pc [.ref (am 2001), .long a1] (prX D (tyX cI cJ cZ cR) (wX cI cJ cZ cR am gm t) sz st)) (qJ r D (tyX cI cJ cZ cR) (wX cI cJ cZ cR am gm t) (va_A (wX cI cJ cZ cR am gm t) sz)) 0 0 (va_A (wX cI cJ cZ cR am gm t) sz) := by
  refine Met.ofW (cc := cX1_mixInto) (maxL := 4) (ret := (some .long)) (by decide) rfl ?_
  intro p e s m args below meth c s₁ B hml hv
  obtain ⟨rfl, ⟨hsz, hP, hK, hD0⟩, hsx⟩ := hv
  have hx := B.exec
  have hb := B.bytes
  have hts := atoms_spec (ws := (.code yX1_mixInto cX1_mixInto 4 (some .long) :: wsAll)) B.pre
  have hta := fun w h => hts w (List.mem_cons_of_mem _ h)
  have hown : s.vm.findClass RX1 = some m.cls := findClass_of_methodNamed B.named
  have hlocks := B.notSynchronized
  subst hsz
  have hD := hD0.self (sz := s.heap.size)
  generalize hAe : va_A (wX cI cJ cZ cR am gm t) s.heap.size = A at hD ⊢
  have hA : ∀ q : Nat, s.heap.size ≤ q → A q := fun q h => by rw [← hAe]; exact Or.inr h
  have C0 : cxX p s m ([.ref (am 2001), .long a1].toArray) meth c cX1_mixInto RX1 4 (some .long) D (tyX cI cJ cZ cR) st A := ⟨⟨hx, hb, B.returns, hml, hown, hta, hlocks, hK, hA⟩, by rw [← hAe]; exact hsx⟩
  have hW : wl D A s (wX cI cJ cZ cR am gm t) s.heap [] := ⟨hP, hD, va_S.rf⟩
  have hl := lv_entry [.ref (am 2001), .long a1] (n := 4) (Nat.le_of_ble_eq_true rfl)
  rw [lg_entry_eq]
  generalize (lg_sl [.ref (am 2001), .long a1] ++ List.replicate (4 - (lg_sl [.ref (am 2001), .long a1]).length) Slot.unset).toArray = ls at hl ⊢
  have hl : lv_has ls 4 [(0, .ref (am 2001)), (1, .long a1)] := hl
  unfold x1_mixInto at ho
  refine lv_iconst (v := (0 : Int32)) hx hb dX1_mixInto_0 (by decide) ?_
  refine lv_istore_n (lv' := [(3, .int (0 : Int32)), (0, .ref (am 2001)), (1, .long a1)]) hx hb dX1_mixInto_1 rfl hl (by decide) rfl (fun ls hl => ?_)
  obtain ⟨y6, hc8, ho⟩ := bd_some ho
  obtain ⟨ny6, hc8⟩ := lp_to hc8
  refine x1_mixInto_L2 C0 ?_ ny6 _ _ hc8 _ _ _ hW (lv_sub hl [1, 2, 0] rfl)
  intro H locs ls hW hl
  refine lv_lload_n hx hb dX1_mixInto_42 rfl (lv_at hl 1 rfl) ?_
  cases ho
  exact rtJ C0.1 hW dX1_mixInto_43
noncomputable def x9_mixInto_B24 (t : St) (v3 : Int32) (v1 : Int64) (v4 : Int32) : Option ((Int64 × Int32) ⊕ (Int64)) :=
  gd v3 (gN t 902) (if (gA t 902 (v3).toNatClampNeg) ≤ v4 then (some (.inr v1)) else (gd ((v3 * (12 : Int32)) + v4) (gN t 901) (nm (((31 : Int64) * v1) + ((gA t 901 (((v3 * (12 : Int32)) + v4)).toNatClampNeg)).toInt64) (fun x4 : Int64 => nm (v4 + (1 : Int32)) (fun x5 : Int32 => some (.inl (x4, x5)))))))
noncomputable def x9_mixInto_B2 (t : St) (v1 : Int64) (v3 : Int32) : Option ((Int64 × Int32) ⊕ (Int64)) :=
  if (3 : Int32) < v3 then (some (.inr v1)) else (gd v3 (gN t 902) (nm (((31 : Int64) * v1) + ((gA t 902 (v3).toNatClampNeg)).toInt64) (fun x8 : Int64 => (lp (fun x => x9_mixInto_B24 t v3 x.1 x.2) (x8, (0 : Int32))).bind (fun y9 => nm (v3 + (1 : Int32)) (fun x12 : Int32 => some (.inl (y9, x12)))))))
noncomputable def x9_mixInto (t : St) (a1 : Int64) : Option (Int64) :=
  (lp (fun x => x9_mixInto_B2 t x.1 x.2) (a1, (0 : Int32))).bind (fun y13 => some y13)
set_option maxHeartbeats 4000000 in
set_option maxRecDepth 100000 in
theorem x9_mixInto_L24 {p : Program} {l : Launch} {e : Env} {s : State} {m : MethodId} {args : Array Value} {below : List Frame} {meth : Method} {c : Code} {Q : State → Prop} {D : va_G} {cI cJ cZ cR : ClassId} {am gm : Nat → Nat} {st : Nat} {A : Nat → Prop} (C0 : cxX p s m args meth c cX9_mixInto RX9 5 (some .long) D (tyX cI cJ cZ cR) st A) {t : St} {v3 : Int32} {y : Int64} (hK0 : ∀ (H : Heap) (locs : List Loc) (ls : Array Slot), wl D A s (wX cI cJ cZ cR am gm t) H locs → lv_has ls 5 [(0, .ref (am 2009)), (1, .long y), (3, .int v3)] → W p l e (rmN 0 0) s m args below meth c H locs 0 0 Q (F0 m 61 ls [])) :
    ∀ (n : Nat) (v1 : Int64) (v4 : Int32), lpn (fun x => x9_mixInto_B24 t v3 x.1 x.2) n (v1, v4) = some y → ∀ (H : Heap) (locs : List Loc) (ls : Array Slot), wl D A s (wX cI cJ cZ cR am gm t) H locs → lv_has ls 5 [(0, .ref (am 2009)), (1, .long v1), (3, .int v3), (4, .int v4)] → W p l e (rmN 0 0) s m args below meth c H locs 0 0 Q (F0 m 24 ls []) := by
  have hx := C0.1.1
  have hb := C0.1.2.1
  have hta := C0.1.2.2.2.2.2.1
  have hown := C0.1.2.2.2.2.1
  intro n
  induction n with
  | zero => intro _ _ h; cases h
  | succ n ih =>
    intro v1 v4 hrun H locs ls hW hl
    obtain ⟨o, ho, hrun⟩ := bd_some hrun
    unfold x9_mixInto_B24 at ho
    refine lv_iload hx hb dX9_mixInto_24 (lv_at hl 3 rfl) ?_
    refine lv_aload_n hx hb dX9_mixInto_26 rfl (lv_at hl 0 rfl) ?_
    refine xGET_902 C0 kw_567 hW dX9_mixInto_27 ?_
    refine lv_iload_n hx hb dX9_mixInto_30 rfl (lv_at hl 2 rfl) ?_
    obtain ⟨g1, ho⟩ := gd_some ho
    refine xLD_902 C0 hW g1 dX9_mixInto_31 ?_
    refine lv_icmp_ge (tgt := 61) hx hb dX9_mixInto_32 (by decide) (fun c2 => ?_) (fun c2 => ?_)
    · replace ho := ite_t c2 ho
      cases ho
      cases hrun
      exact hK0 _ _ _ hW (lv_sub hl [0, 1, 2] rfl)
    · replace ho := ite_f c2 ho
      refine lv_ldc2 hx hb hown (hta _ kw_1489) dX9_mixInto_35 ?_
      refine lv_lload_n hx hb dX9_mixInto_38 rfl (lv_at hl 1 rfl) ?_
      refine lv_lmul hx hb dX9_mixInto_39 ?_
      refine lv_aload_n hx hb dX9_mixInto_40 rfl (lv_at hl 0 rfl) ?_
      refine xGET_901 C0 kw_566 hW dX9_mixInto_41 ?_
      refine lv_iload_n hx hb dX9_mixInto_44 rfl (lv_at hl 2 rfl) ?_
      refine lv_bipush (v := (12 : Int32)) hx hb dX9_mixInto_45 (by decide) ?_
      refine lv_imul hx hb dX9_mixInto_47 ?_
      refine lv_iload hx hb dX9_mixInto_48 (lv_at hl 3 rfl) ?_
      refine lv_iadd hx hb dX9_mixInto_50 ?_
      obtain ⟨g3, ho⟩ := gd_some ho
      refine xLD_901 C0 hW g3 dX9_mixInto_51 ?_
      refine lv_i2l hx hb dX9_mixInto_52 rfl ?_
      refine lv_ladd hx hb dX9_mixInto_53 ?_
      refine lv_nml ho (fun x4 ho => ?_)
      refine lv_lstore_n (lv' := [(1, .long x4), (0, .ref (am 2009)), (3, .int v3), (4, .int v4)]) hx hb dX9_mixInto_54 rfl hl (by decide) rfl (fun ls hl => ?_)
      obtain ⟨x5, ex5, ho⟩ := nm_x ho
      refine lv_iinc (v := x5) (lv' := [(4, .int x5), (1, .long x4), (0, .ref (am 2009)), (3, .int v3)]) hx hb dX9_mixInto_55 hl (k := 3) rfl (by rw [ex5]; rfl) (by decide) rfl (fun ls hl => ?_)
      clear ex5
      refine lv_goto (tgt := 24) hx hb dX9_mixInto_58 (by decide) ?_
      cases ho
      exact ih _ _ hrun _ _ _ hW (lv_sub hl [2, 1, 3, 0] rfl)
set_option maxHeartbeats 4000000 in
set_option maxRecDepth 100000 in
theorem x9_mixInto_L2 {p : Program} {l : Launch} {e : Env} {s : State} {m : MethodId} {args : Array Value} {below : List Frame} {meth : Method} {c : Code} {Q : State → Prop} {D : va_G} {cI cJ cZ cR : ClassId} {am gm : Nat → Nat} {st : Nat} {A : Nat → Prop} (C0 : cxX p s m args meth c cX9_mixInto RX9 5 (some .long) D (tyX cI cJ cZ cR) st A) {t : St} {y : Int64} (hK0 : ∀ (H : Heap) (locs : List Loc) (ls : Array Slot), wl D A s (wX cI cJ cZ cR am gm t) H locs → lv_has ls 5 [(0, .ref (am 2009)), (1, .long y)] → W p l e (rmN 0 0) s m args below meth c H locs 0 0 Q (F0 m 67 ls [])) :
    ∀ (n : Nat) (v1 : Int64) (v3 : Int32), lpn (fun x => x9_mixInto_B2 t x.1 x.2) n (v1, v3) = some y → ∀ (H : Heap) (locs : List Loc) (ls : Array Slot), wl D A s (wX cI cJ cZ cR am gm t) H locs → lv_has ls 5 [(0, .ref (am 2009)), (1, .long v1), (3, .int v3)] → W p l e (rmN 0 0) s m args below meth c H locs 0 0 Q (F0 m 2 ls []) := by
  have hx := C0.1.1
  have hb := C0.1.2.1
  have hta := C0.1.2.2.2.2.2.1
  have hown := C0.1.2.2.2.2.1
  intro n
  induction n with
  | zero => intro _ _ h; cases h
  | succ n ih =>
    intro v1 v3 hrun H locs ls hW hl
    obtain ⟨o, ho, hrun⟩ := bd_some hrun
    unfold x9_mixInto_B2 at ho
    refine lv_iload_n hx hb dX9_mixInto_2 rfl (lv_at hl 2 rfl) ?_
    refine lv_iconst (v := (3 : Int32)) hx hb dX9_mixInto_3 (by decide) ?_
    refine lv_icmp_gt (tgt := 67) hx hb dX9_mixInto_4 (by decide) (fun c6 => ?_) (fun c6 => ?_)
    · replace ho := ite_t c6 ho
      cases ho
      cases hrun
      exact hK0 _ _ _ hW (lv_sub hl [0, 1] rfl)
    · replace ho := ite_f c6 ho
      refine lv_ldc2 hx hb hown (hta _ kw_1489) dX9_mixInto_7 ?_
      refine lv_lload_n hx hb dX9_mixInto_10 rfl (lv_at hl 1 rfl) ?_
      refine lv_lmul hx hb dX9_mixInto_11 ?_
      refine lv_aload_n hx hb dX9_mixInto_12 rfl (lv_at hl 0 rfl) ?_
      refine xGET_902 C0 kw_567 hW dX9_mixInto_13 ?_
      refine lv_iload_n hx hb dX9_mixInto_16 rfl (lv_at hl 2 rfl) ?_
      obtain ⟨g7, ho⟩ := gd_some ho
      refine xLD_902 C0 hW g7 dX9_mixInto_17 ?_
      refine lv_i2l hx hb dX9_mixInto_18 rfl ?_
      refine lv_ladd hx hb dX9_mixInto_19 ?_
      refine lv_nml ho (fun x8 ho => ?_)
      refine lv_lstore_n (lv' := [(1, .long x8), (0, .ref (am 2009)), (3, .int v3)]) hx hb dX9_mixInto_20 rfl hl (by decide) rfl (fun ls hl => ?_)
      refine lv_iconst (v := (0 : Int32)) hx hb dX9_mixInto_21 (by decide) ?_
      refine lv_istore (lv' := [(4, .int (0 : Int32)), (1, .long x8), (0, .ref (am 2009)), (3, .int v3)]) hx hb dX9_mixInto_22 hl (by decide) rfl (fun ls hl => ?_)
      obtain ⟨y9, hc11, ho⟩ := bd_some ho
      obtain ⟨ny9, hc11⟩ := lp_to hc11
      refine x9_mixInto_L24 C0 ?_ ny9 _ _ hc11 _ _ _ hW (lv_sub hl [2, 1, 3, 0] rfl)
      intro H locs ls hW hl
      obtain ⟨x12, ex12, ho⟩ := nm_x ho
      refine lv_iinc (v := x12) (lv' := [(3, .int x12), (0, .ref (am 2009)), (1, .long y9)]) hx hb dX9_mixInto_61 hl (k := 2) rfl (by rw [ex12]; rfl) (by decide) rfl (fun ls hl => ?_)
      clear ex12
      refine lv_goto (tgt := 2) hx hb dX9_mixInto_64 (by decide) ?_
      cases ho
      exact ih _ _ hrun _ _ _ hW (lv_sub hl [1, 2, 0] rfl)
set_option maxHeartbeats 4000000 in
set_option maxRecDepth 100000 in
theorem c_x9_mixInto (l : Launch) {D : va_G} {cI cJ cZ cR : ClassId} {am gm : Nat → Nat} {st : Nat} (sz : Nat) (t : St) (a1 : Int64) {r : Int64} (ho : x9_mixInto t a1 = some r) : Met l yX9_mixInto (.code yX9_mixInto cX9_mixInto 5 (some .long) :: wsAll) (rmN 0 0) (va_Pc [.ref (am 2009), .long a1] (prX D (tyX cI cJ cZ cR) (wX cI cJ cZ cR am gm t) sz st)) (qJ r D (tyX cI cJ cZ cR) (wX cI cJ cZ cR am gm t) (va_A (wX cI cJ cZ cR am gm t) sz)) 0 0 (va_A (wX cI cJ cZ cR am gm t) sz) := by
  refine Met.ofW (cc := cX9_mixInto) (maxL := 5) (ret := (some .long)) (by decide) rfl ?_
  intro p e s m args below meth c s₁ B hml hv
  obtain ⟨rfl, ⟨hsz, hP, hK, hD0⟩, hsx⟩ := hv
  have hx := B.exec
  have hb := B.bytes
  have hts := atoms_spec (ws := (.code yX9_mixInto cX9_mixInto 5 (some .long) :: wsAll)) B.pre
  have hta := fun w h => hts w (List.mem_cons_of_mem _ h)
  have hown : s.vm.findClass RX9 = some m.cls := findClass_of_methodNamed B.named
  have hlocks := B.notSynchronized
  subst hsz
  have hD := hD0.self (sz := s.heap.size)
  generalize hAe : va_A (wX cI cJ cZ cR am gm t) s.heap.size = A at hD ⊢
  have hA : ∀ q : Nat, s.heap.size ≤ q → A q := fun q h => by rw [← hAe]; exact Or.inr h
  have C0 : cxX p s m ([.ref (am 2009), .long a1].toArray) meth c cX9_mixInto RX9 5 (some .long) D (tyX cI cJ cZ cR) st A := ⟨⟨hx, hb, B.returns, hml, hown, hta, hlocks, hK, hA⟩, by rw [← hAe]; exact hsx⟩
  have hW : wl D A s (wX cI cJ cZ cR am gm t) s.heap [] := ⟨hP, hD, va_S.rf⟩
  have hl := lv_entry [.ref (am 2009), .long a1] (n := 5) (Nat.le_of_ble_eq_true rfl)
  rw [lg_entry_eq]
  generalize (lg_sl [.ref (am 2009), .long a1] ++ List.replicate (5 - (lg_sl [.ref (am 2009), .long a1]).length) Slot.unset).toArray = ls at hl ⊢
  have hl : lv_has ls 5 [(0, .ref (am 2009)), (1, .long a1)] := hl
  unfold x9_mixInto at ho
  refine lv_iconst (v := (0 : Int32)) hx hb dX9_mixInto_0 (by decide) ?_
  refine lv_istore_n (lv' := [(3, .int (0 : Int32)), (0, .ref (am 2009)), (1, .long a1)]) hx hb dX9_mixInto_1 rfl hl (by decide) rfl (fun ls hl => ?_)
  obtain ⟨y13, hc15, ho⟩ := bd_some ho
  obtain ⟨ny13, hc15⟩ := lp_to hc15
  refine x9_mixInto_L2 C0 ?_ ny13 _ _ hc15 _ _ _ hW (lv_sub hl [1, 2, 0] rfl)
  intro H locs ls hW hl
  refine lv_lload_n hx hb dX9_mixInto_67 rfl (lv_at hl 1 rfl) ?_
  cases ho
  exact rtJ C0.1 hW dX9_mixInto_68
noncomputable def x11_digest_B6 (t : St) (v1 : Int64) (v3 : Int32) : Option ((Int64 × Int32) ⊕ (Int64)) :=
  if (6 : Int32) < v3 then (some (.inr v1)) else ((x11_count t v3).bind (fun q2 => nm (((31 : Int64) * v1) + (q2).toInt64) (fun x4 : Int64 => nm (v3 + (1 : Int32)) (fun x5 : Int32 => some (.inl (x4, x5))))))
noncomputable def x11_digest (t : St) : Option (Int64) :=
  (lp (fun x => x11_digest_B6 t x.1 x.2) ((269 : Int64), (0 : Int32))).bind (fun y6 => (x5_mixInto t y6).bind (fun q9 => (x6_mixInto t q9).bind (fun q11 => (x4_mixInto t q11).bind (fun q13 => (x3_mixInto t q13).bind (fun q15 => (x10_mixInto t q15).bind (fun q17 => (x1_mixInto t q17).bind (fun q19 => (x9_mixInto t q19).bind (fun q21 => some q21))))))))
set_option maxHeartbeats 4000000 in
set_option maxRecDepth 100000 in
theorem x11_digest_L6 {p : Program} {l : Launch} {e : Env} {s : State} {m : MethodId} {args : Array Value} {below : List Frame} {meth : Method} {c : Code} {Q : State → Prop} {D : va_G} {cI cJ cZ cR : ClassId} {am gm : Nat → Nat} {st : Nat} {A : Nat → Prop} (C0 : cxX p s m args meth c cX11_digest RX11 4 (some .long) D (tyX cI cJ cZ cR) st A) {t : St} {y : Int64} (hK0 : ∀ (H : Heap) (locs : List Loc) (ls : Array Slot), wl D A s (wX cI cJ cZ cR am gm t) H locs → lv_has ls 4 [(0, .ref (am 2011)), (1, .long y)] → W p l e (rmN 2 47) s m args below meth c H locs 0 0 Q (F0 m 31 ls [])) :
    ∀ (n : Nat) (v1 : Int64) (v3 : Int32), lpn (fun x => x11_digest_B6 t x.1 x.2) n (v1, v3) = some y → ∀ (H : Heap) (locs : List Loc) (ls : Array Slot), wl D A s (wX cI cJ cZ cR am gm t) H locs → lv_has ls 4 [(0, .ref (am 2011)), (1, .long v1), (3, .int v3)] → W p l e (rmN 2 47) s m args below meth c H locs 0 0 Q (F0 m 6 ls []) := by
  have hx := C0.1.1
  have hb := C0.1.2.1
  have hta := C0.1.2.2.2.2.2.1
  have hown := C0.1.2.2.2.2.1
  intro n
  induction n with
  | zero => intro _ _ h; cases h
  | succ n ih =>
    intro v1 v3 hrun H locs ls hW hl
    obtain ⟨o, ho, hrun⟩ := bd_some hrun
    unfold x11_digest_B6 at ho
    refine lv_iload_n hx hb dX11_digest_6 rfl (lv_at hl 2 rfl) ?_
    refine lv_bipush (v := (6 : Int32)) hx hb dX11_digest_7 (by decide) ?_
    refine lv_icmp_gt (tgt := 31) hx hb dX11_digest_9 (by decide) (fun c1 => ?_) (fun c1 => ?_)
    · replace ho := ite_t c1 ho
      cases ho
      cases hrun
      exact hK0 _ _ _ hW (lv_sub hl [0, 1] rfl)
    · replace ho := ite_f c1 ho
      refine lv_ldc2 hx hb hown (hta _ kw_1453) dX11_digest_12 ?_
      refine lv_lload_n hx hb dX11_digest_15 rfl (lv_at hl 1 rfl) ?_
      refine lv_lmul hx hb dX11_digest_16 ?_
      refine lv_aload_n hx hb dX11_digest_17 rfl (lv_at hl 0 rfl) ?_
      refine lv_iload_n hx hb dX11_digest_18 rfl (lv_at hl 2 rfl) ?_
      obtain ⟨q2, hc3, ho⟩ := bd_some ho
      refine bkI C0.1 hW (runVX (As := [.int v3]) (rest := [.long ((31 : Int64) * v1)]) C0 hW (c_x11_count l _ t v3 (r := q2) hc3) cb_X11_X11_count_375 11 11 rfl rfl rfl rfl rfl ⟨rfl, rfl⟩ ⟨Nat.le_of_ble_eq_true rfl, Nat.le_of_ble_eq_true rfl⟩ (Nat.le_of_ble_eq_true rfl) hl.1 dX11_digest_19 ⟨Nat.le_of_ble_eq_true rfl, Nat.le_of_ble_eq_true rfl⟩) (fun H locs hW => ?_)
      refine lv_i2l hx hb dX11_digest_22 rfl ?_
      refine lv_ladd hx hb dX11_digest_23 ?_
      refine lv_nml ho (fun x4 ho => ?_)
      refine lv_lstore_n (lv' := [(1, .long x4), (0, .ref (am 2011)), (3, .int v3)]) hx hb dX11_digest_24 rfl hl (by decide) rfl (fun ls hl => ?_)
      obtain ⟨x5, ex5, ho⟩ := nm_x ho
      refine lv_iinc (v := x5) (lv' := [(3, .int x5), (1, .long x4), (0, .ref (am 2011))]) hx hb dX11_digest_25 hl (k := 2) rfl (by rw [ex5]; rfl) (by decide) rfl (fun ls hl => ?_)
      clear ex5
      refine lv_goto (tgt := 6) hx hb dX11_digest_28 (by decide) ?_
      cases ho
      exact ih _ _ hrun _ _ _ hW (lv_sub hl [2, 1, 0] rfl)
set_option maxHeartbeats 4000000 in
set_option maxRecDepth 100000 in
theorem c_x11_digest (l : Launch) {D : va_G} {cI cJ cZ cR : ClassId} {am gm : Nat → Nat} {st : Nat} (sz : Nat) (t : St) {r : Int64} (ho : x11_digest t = some r) : Met l yX11_digest (.code yX11_digest cX11_digest 4 (some .long) :: wsAll) (rmN 2 47) (va_Pc [.ref (am 2011)] (prX D (tyX cI cJ cZ cR) (wX cI cJ cZ cR am gm t) sz st)) (qJ r D (tyX cI cJ cZ cR) (wX cI cJ cZ cR am gm t) (va_A (wX cI cJ cZ cR am gm t) sz)) 0 0 (va_A (wX cI cJ cZ cR am gm t) sz) := by
  refine Met.ofW (cc := cX11_digest) (maxL := 4) (ret := (some .long)) (by decide) rfl ?_
  intro p e s m args below meth c s₁ B hml hv
  obtain ⟨rfl, ⟨hsz, hP, hK, hD0⟩, hsx⟩ := hv
  have hx := B.exec
  have hb := B.bytes
  have hts := atoms_spec (ws := (.code yX11_digest cX11_digest 4 (some .long) :: wsAll)) B.pre
  have hta := fun w h => hts w (List.mem_cons_of_mem _ h)
  have hown : s.vm.findClass RX11 = some m.cls := findClass_of_methodNamed B.named
  have hlocks := B.notSynchronized
  subst hsz
  have hD := hD0.self (sz := s.heap.size)
  generalize hAe : va_A (wX cI cJ cZ cR am gm t) s.heap.size = A at hD ⊢
  have hA : ∀ q : Nat, s.heap.size ≤ q → A q := fun q h => by rw [← hAe]; exact Or.inr h
  have C0 : cxX p s m ([.ref (am 2011)].toArray) meth c cX11_digest RX11 4 (some .long) D (tyX cI cJ cZ cR) st A := ⟨⟨hx, hb, B.returns, hml, hown, hta, hlocks, hK, hA⟩, by rw [← hAe]; exact hsx⟩
  have hW : wl D A s (wX cI cJ cZ cR am gm t) s.heap [] := ⟨hP, hD, va_S.rf⟩
  have hl := lv_entry [.ref (am 2011)] (n := 4) (Nat.le_of_ble_eq_true rfl)
  rw [lg_entry_eq]
  generalize (lg_sl [.ref (am 2011)] ++ List.replicate (4 - (lg_sl [.ref (am 2011)]).length) Slot.unset).toArray = ls at hl ⊢
  have hl : lv_has ls 4 [(0, .ref (am 2011))] := hl
  unfold x11_digest at ho
  refine lv_ldc2 hx hb hown (hta _ kw_1452) dX11_digest_0 ?_
  refine lv_lstore_n (lv' := [(1, .long (269 : Int64)), (0, .ref (am 2011))]) hx hb dX11_digest_3 rfl hl (by decide) rfl (fun ls hl => ?_)
  refine lv_iconst (v := (0 : Int32)) hx hb dX11_digest_4 (by decide) ?_
  refine lv_istore_n (lv' := [(3, .int (0 : Int32)), (1, .long (269 : Int64)), (0, .ref (am 2011))]) hx hb dX11_digest_5 rfl hl (by decide) rfl (fun ls hl => ?_)
  obtain ⟨y6, hc8, ho⟩ := bd_some ho
  obtain ⟨ny6, hc8⟩ := lp_to hc8
  refine x11_digest_L6 C0 ?_ ny6 _ _ hc8 _ _ _ hW (lv_sub hl [2, 1, 0] rfl)
  intro H locs ls hW hl
  refine lv_aload_n hx hb dX11_digest_31 rfl (lv_at hl 0 rfl) ?_
  refine xGET_1100 C0 kw_591 hW dX11_digest_32 ?_
  refine lv_lload_n hx hb dX11_digest_35 rfl (lv_at hl 1 rfl) ?_
  obtain ⟨q9, hc10, ho⟩ := bd_some ho
  refine bkJ C0.1 hW (runVX (As := [.long y6]) (rest := []) C0 hW (c_x5_mixInto l _ t y6 (r := q9) hc10) cb_X11_X5_mixInto_378 5 5 rfl rfl rfl rfl rfl ⟨rfl, rfl⟩ ⟨Nat.le_of_ble_eq_true rfl, Nat.le_of_ble_eq_true rfl⟩ (Nat.le_of_ble_eq_true rfl) hl.1 dX11_digest_36 ⟨Nat.le_of_ble_eq_true rfl, Nat.le_of_ble_eq_true rfl⟩) (fun H locs hW => ?_)
  refine lv_lstore_n (lv' := [(1, .long q9), (0, .ref (am 2011))]) hx hb dX11_digest_39 rfl hl (by decide) rfl (fun ls hl => ?_)
  refine lv_aload_n hx hb dX11_digest_40 rfl (lv_at hl 1 rfl) ?_
  refine xGET_1101 C0 kw_592 hW dX11_digest_41 ?_
  refine lv_lload_n hx hb dX11_digest_44 rfl (lv_at hl 0 rfl) ?_
  obtain ⟨q11, hc12, ho⟩ := bd_some ho
  refine bkJ C0.1 hW (runVX (As := [.long q9]) (rest := []) C0 hW (c_x6_mixInto l _ t q9 (r := q11) hc12) cb_X11_X6_mixInto_382 6 6 rfl rfl rfl rfl rfl ⟨rfl, rfl⟩ ⟨Nat.le_of_ble_eq_true rfl, Nat.le_of_ble_eq_true rfl⟩ (Nat.le_of_ble_eq_true rfl) hl.1 dX11_digest_45 ⟨Nat.le_of_ble_eq_true rfl, Nat.le_of_ble_eq_true rfl⟩) (fun H locs hW => ?_)
  refine lv_lstore_n (lv' := [(1, .long q11), (0, .ref (am 2011))]) hx hb dX11_digest_48 rfl hl (by decide) rfl (fun ls hl => ?_)
  refine lv_aload_n hx hb dX11_digest_49 rfl (lv_at hl 1 rfl) ?_
  refine xGET_1107 C0 kw_598 hW dX11_digest_50 ?_
  refine lv_lload_n hx hb dX11_digest_53 rfl (lv_at hl 0 rfl) ?_
  obtain ⟨q13, hc14, ho⟩ := bd_some ho
  refine bkJ C0.1 hW (runVX (As := [.long q11]) (rest := []) C0 hW (c_x4_mixInto l _ t q11 (r := q13) hc14) cb_X11_X4_mixInto_383 4 4 rfl rfl rfl rfl rfl ⟨rfl, rfl⟩ ⟨Nat.le_of_ble_eq_true rfl, Nat.le_of_ble_eq_true rfl⟩ (Nat.le_of_ble_eq_true rfl) hl.1 dX11_digest_54 ⟨Nat.le_of_ble_eq_true rfl, Nat.le_of_ble_eq_true rfl⟩) (fun H locs hW => ?_)
  refine lv_lstore_n (lv' := [(1, .long q13), (0, .ref (am 2011))]) hx hb dX11_digest_57 rfl hl (by decide) rfl (fun ls hl => ?_)
  refine lv_aload_n hx hb dX11_digest_58 rfl (lv_at hl 1 rfl) ?_
  refine xGET_1108 C0 kw_599 hW dX11_digest_59 ?_
  refine lv_lload_n hx hb dX11_digest_62 rfl (lv_at hl 0 rfl) ?_
  obtain ⟨q15, hc16, ho⟩ := bd_some ho
  refine bkJ C0.1 hW (runVX (As := [.long q13]) (rest := []) C0 hW (c_x3_mixInto l _ t q13 (r := q15) hc16) cb_X11_X3_mixInto_384 3 3 rfl rfl rfl rfl rfl ⟨rfl, rfl⟩ ⟨Nat.le_of_ble_eq_true rfl, Nat.le_of_ble_eq_true rfl⟩ (Nat.le_of_ble_eq_true rfl) hl.1 dX11_digest_63 ⟨Nat.le_of_ble_eq_true rfl, Nat.le_of_ble_eq_true rfl⟩) (fun H locs hW => ?_)
  refine lv_lstore_n (lv' := [(1, .long q15), (0, .ref (am 2011))]) hx hb dX11_digest_66 rfl hl (by decide) rfl (fun ls hl => ?_)
  refine lv_aload_n hx hb dX11_digest_67 rfl (lv_at hl 1 rfl) ?_
  refine xGET_1104 C0 kw_595 hW dX11_digest_68 ?_
  refine lv_lload_n hx hb dX11_digest_71 rfl (lv_at hl 0 rfl) ?_
  obtain ⟨q17, hc18, ho⟩ := bd_some ho
  refine bkJ C0.1 hW (runVX (As := [.long q15]) (rest := []) C0 hW (c_x10_mixInto l _ t q15 (r := q17) hc18) cb_X11_X10_mixInto_385 10 10 rfl rfl rfl rfl rfl ⟨rfl, rfl⟩ ⟨Nat.le_of_ble_eq_true rfl, Nat.le_of_ble_eq_true rfl⟩ (Nat.le_of_ble_eq_true rfl) hl.1 dX11_digest_72 ⟨Nat.le_of_ble_eq_true rfl, Nat.le_of_ble_eq_true rfl⟩) (fun H locs hW => ?_)
  refine lv_lstore_n (lv' := [(1, .long q17), (0, .ref (am 2011))]) hx hb dX11_digest_75 rfl hl (by decide) rfl (fun ls hl => ?_)
  refine lv_aload_n hx hb dX11_digest_76 rfl (lv_at hl 1 rfl) ?_
  refine xGET_1109 C0 kw_600 hW dX11_digest_77 ?_
  refine lv_lload_n hx hb dX11_digest_80 rfl (lv_at hl 0 rfl) ?_
  obtain ⟨q19, hc20, ho⟩ := bd_some ho
  refine bkJ C0.1 hW (runVX (As := [.long q17]) (rest := []) C0 hW (c_x1_mixInto l _ t q17 (r := q19) hc20) cb_X11_X1_mixInto_386 1 1 rfl rfl rfl rfl rfl ⟨rfl, rfl⟩ ⟨Nat.le_of_ble_eq_true rfl, Nat.le_of_ble_eq_true rfl⟩ (Nat.le_of_ble_eq_true rfl) hl.1 dX11_digest_81 ⟨Nat.le_of_ble_eq_true rfl, Nat.le_of_ble_eq_true rfl⟩) (fun H locs hW => ?_)
  refine lv_lstore_n (lv' := [(1, .long q19), (0, .ref (am 2011))]) hx hb dX11_digest_84 rfl hl (by decide) rfl (fun ls hl => ?_)
  refine lv_aload_n hx hb dX11_digest_85 rfl (lv_at hl 1 rfl) ?_
  refine xGET_1110 C0 kw_601 hW dX11_digest_86 ?_
  refine lv_lload_n hx hb dX11_digest_89 rfl (lv_at hl 0 rfl) ?_
  obtain ⟨q21, hc22, ho⟩ := bd_some ho
  refine bkJ C0.1 hW (runVX (As := [.long q19]) (rest := []) C0 hW (c_x9_mixInto l _ t q19 (r := q21) hc22) cb_X11_X9_mixInto_387 9 9 rfl rfl rfl rfl rfl ⟨rfl, rfl⟩ ⟨Nat.le_of_ble_eq_true rfl, Nat.le_of_ble_eq_true rfl⟩ (Nat.le_of_ble_eq_true rfl) hl.1 dX11_digest_90 ⟨Nat.le_of_ble_eq_true rfl, Nat.le_of_ble_eq_true rfl⟩) (fun H locs hW => ?_)
  cases ho
  exact rtJ C0.1 hW dX11_digest_93
