noncomputable def x3_play_B6 (v1 : Int32) (t : St) : Option ((Int32 × St) ⊕ ((St) ⊕ (St) ⊕ (St))) :=
  if (1000000 : Int32) ≤ v1 then (some (.inr (.inr (.inr t)))) else ((x3_enteringColumn t).bind (fun q2 => if 0 ≤ q2 then ((x3_leavingRow t q2).bind (fun q5 => if 0 ≤ q5 then ((x3_turn t q5 q2).bind (fun q8 => nm (v1 + (1 : Int32)) (fun x10 : Int32 => some (.inl (x10, q8))))) else (some (.inr (.inr (.inl t)))))) else (some (.inr (.inl t)))))
theorem mm_x3_play_B6 (v1 : Int32) (t : St) : MR (x3_play_B6 v1 t) t (Sum.elim (fun (x : Int32 × St) => x.2) (Sum.elim (fun (y : St) => y) (Sum.elim (fun (y : St) => y) (fun (y : St) => y)))) := by
  unfold x3_play_B6
  exact MR_ite (MR_some mle.rfl) (MR_bindn (fun q2 => MR_ite (MR_bindn (fun q5 => MR_ite (MR_bind (mm_x3_turn t q5 q2) (fun q8 hq8 => MR_nm (fun x10 _ => MR_some hq8))) (MR_some mle.rfl))) (MR_some mle.rfl)))
theorem mm_x3_play_L6 (v1 : Int32) (t : St) : MR (lp (fun x => x3_play_B6 x.1 x.2) (v1, t)) t (Sum.elim (fun (y : St) => y) (Sum.elim (fun (y : St) => y) (fun (y : St) => y))) := MR_lp (p := (fun (x : Int32 × St) => x.2)) (q := (Sum.elim (fun (y : St) => y) (Sum.elim (fun (y : St) => y) (fun (y : St) => y)))) (fun x => mm_x3_play_B6 x.1 x.2) (v1, t)
noncomputable def x3_play_J101 (t : St) (w1 : Int64) : Option (St) :=
  nm (sJ t 310 w1) (fun t11 : St => some t11)
theorem mm_x3_play_J101 (t : St) (w1 : Int64) : MR (x3_play_J101 t w1) t (fun (a : St) => a) := by
  unfold x3_play_J101
  exact MR_nmS mle_sJ (fun t11 ht11 => MR_some ht11)
noncomputable def x3_play_J86 (t : St) (v1 : Int64) (w1 : Int64) : Option (St) :=
  nm (sJ t 309 w1) (fun t12 : St => if (lg_cmp v1 (0 : Int64)) ≤ 0 then (x3_play_J101 t12 (1 : Int64)) else (x3_play_J101 t12 v1))
theorem mm_x3_play_J86 (t : St) (v1 : Int64) (w1 : Int64) : MR (x3_play_J86 t v1 w1) t (fun (a : St) => a) := by
  unfold x3_play_J86
  exact MR_nmS mle_sJ (fun t12 ht12 => MR_ite (MR_wk ht12 (mm_x3_play_J101 t12 (1 : Int64))) (MR_wk ht12 (mm_x3_play_J101 t12 v1)))
noncomputable def x3_play_J49 (t : St) : Option (St) :=
  gd (((gI t 302) * (gI t 307)) + (gI t 306)) (gN t 303) (nm (gB t 303 ((((gI t 302) * (gI t 307)) + (gI t 306))).toNatClampNeg) (fun x15 : Int64 => if (lg_cmp x15 (0 : Int64)) ≤ 0 then (x3_play_J86 t x15 (0 : Int64)) else (x3_play_J86 t x15 ((gJ t 308) - x15))))
theorem mm_x3_play_J49 (t : St) : MR (x3_play_J49 t) t (fun (a : St) => a) := by
  unfold x3_play_J49
  exact MR_gd (MR_nm (fun x15 _ => MR_ite (MR_wk mle.rfl (mm_x3_play_J86 t x15 (0 : Int64))) (MR_wk mle.rfl (mm_x3_play_J86 t x15 ((gJ t 308) - x15)))))
noncomputable def x3_play (t : St) : Option (St) :=
  (x3_layOut t).bind (fun q17 => (lp (fun x => x3_play_B6 x.1 x.2) ((0 : Int32), q17)).bind (fun y19 => (Sum.elim (fun u22 => x3_play_J49 u22) (Sum.elim (fun u22 => x3_play_J49 u22) (fun u22 => x3_play_J49 u22))) y19))
theorem mm_x3_play (t : St) : MR (x3_play t) t (fun (a : St) => a) := by
  unfold x3_play
  exact MR_bind (mm_x3_layOut t) (fun q17 hq17 => MR_bind (mm_x3_play_L6 (0 : Int32) q17) (fun y19 hm20 => (MR_sum y19 hm20 (fun u22 hm20 => MR_wk (mle.trans hq17 hm20) (mm_x3_play_J49 u22)) (fun u23 hm20 => (MR_sum u23 hm20 (fun u22 hm20 => MR_wk (mle.trans hq17 hm20) (mm_x3_play_J49 u22)) (fun u22 hm20 => MR_wk (mle.trans hq17 hm20) (mm_x3_play_J49 u22)))))))
set_option maxHeartbeats 4000000 in
set_option maxRecDepth 100000 in
theorem x3_play_L6 {p : Program} {l : Launch} {e : Env} {s : State} {m : MethodId} {args : Array Value} {below : List Frame} {meth : Method} {c : Code} {Q : State → Prop} {D : va_G} {cI cJ cZ cR : ClassId} {am gm : Nat → Nat} {st : Nat} {A : Nat → Prop} (C0 : cxX p s m args meth c cX3_play RX3 4 none D (tyX cI cJ cZ cR) st A) {y : (St) ⊕ (St) ⊕ (St)} (hK0 : ∀ u, y = (.inl u) → ∀ (H : Heap) (locs : List Loc) (ls : Array Slot), wl D A s (wX cI cJ cZ cR am gm u) H locs → lv_has ls 4 [(0, .ref (am 2003))] → W p l e (rmN 4 115) s m args below meth c H locs 0 0 Q (F0 m 21 ls [])) (hK1 : ∀ u, y = (.inr (.inl u)) → ∀ (H : Heap) (locs : List Loc) (ls : Array Slot), wl D A s (wX cI cJ cZ cR am gm u) H locs → lv_has ls 4 [(0, .ref (am 2003))] → W p l e (rmN 4 115) s m args below meth c H locs 0 0 Q (F0 m 34 ls [])) (hK2 : ∀ u, y = (.inr (.inr u)) → ∀ (H : Heap) (locs : List Loc) (ls : Array Slot), wl D A s (wX cI cJ cZ cR am gm u) H locs → lv_has ls 4 [(0, .ref (am 2003))] → W p l e (rmN 4 115) s m args below meth c H locs 0 0 Q (F0 m 49 ls [])) :
    ∀ (n : Nat) (v1 : Int32) (t : St), lpn (fun x => x3_play_B6 x.1 x.2) n (v1, t) = some y → ∀ (H : Heap) (locs : List Loc) (ls : Array Slot), wl D A s (wX cI cJ cZ cR am gm t) H locs → lv_has ls 4 [(0, .ref (am 2003)), (1, .int v1)] → W p l e (rmN 4 115) s m args below meth c H locs 0 0 Q (F0 m 6 ls []) := by
  have hx := C0.1.1
  have hb := C0.1.2.1
  have hta := C0.1.2.2.2.2.2.1
  have hown := C0.1.2.2.2.2.1
  intro n
  induction n with
  | zero => intro _ _ h; cases h
  | succ n ih =>
    intro v1 t hrun H locs ls hW hl
    obtain ⟨o, ho, hrun⟩ := bd_some hrun
    unfold x3_play_B6 at ho
    refine lv_iload_n hx hb dX3_play_6 rfl (lv_at hl 1 rfl) ?_
    refine lv_ldc hx hb hown (hta _ kw_1183) dX3_play_7 ?_
    refine lv_icmp_ge (tgt := 49) hx hb dX3_play_9 (by decide) (fun c1 => ?_) (fun c1 => ?_)
    · replace ho := ite_t c1 ho
      cases ho
      cases hrun
      exact hK2 _ rfl _ _ _ hW (lv_sub hl [0] rfl)
    · replace ho := ite_f c1 ho
      refine lv_aload_n hx hb dX3_play_12 rfl (lv_at hl 0 rfl) ?_
      obtain ⟨q2, hc3, ho⟩ := bd_some ho
      refine bkI C0.1 hW (runVX (As := []) (rest := []) C0 hW (c_x3_enteringColumn l _ t (r := q2) hc3) cb_X3_X3_enteringColumn_59 3 3 rfl rfl rfl rfl rfl ⟨rfl, rfl⟩ ⟨Nat.le_of_ble_eq_true rfl, Nat.le_of_ble_eq_true rfl⟩ (Nat.le_of_ble_eq_true rfl) hl.1 dX3_play_13 ⟨Nat.le_of_ble_eq_true rfl, Nat.le_of_ble_eq_true rfl⟩) (fun H locs hW => ?_)
      refine lv_istore_n (lv' := [(2, .int q2), (0, .ref (am 2003)), (1, .int v1)]) hx hb dX3_play_16 rfl hl (by decide) rfl (fun ls hl => ?_)
      refine lv_iload_n hx hb dX3_play_17 rfl (lv_at hl 0 rfl) ?_
      refine lv_if_ge (tgt := 24) hx hb dX3_play_18 (by decide) (fun c4 => ?_) (fun c4 => ?_)
      · replace ho := ite_t c4 ho
        refine lv_aload_n hx hb dX3_play_24 rfl (lv_at hl 1 rfl) ?_
        refine lv_iload_n hx hb dX3_play_25 rfl (lv_at hl 0 rfl) ?_
        obtain ⟨q5, hc6, ho⟩ := bd_some ho
        refine bkI C0.1 hW (runVX (As := [.int q2]) (rest := []) C0 hW (c_x3_leavingRow l _ t q2 (r := q5) hc6) cb_X3_X3_leavingRow_63 3 3 rfl rfl rfl rfl rfl ⟨rfl, rfl⟩ ⟨Nat.le_of_ble_eq_true rfl, Nat.le_of_ble_eq_true rfl⟩ (Nat.le_of_ble_eq_true rfl) hl.1 dX3_play_26 ⟨Nat.le_of_ble_eq_true rfl, Nat.le_of_ble_eq_true rfl⟩) (fun H locs hW => ?_)
        refine lv_istore_n (lv' := [(3, .int q5), (2, .int q2), (0, .ref (am 2003)), (1, .int v1)]) hx hb dX3_play_29 rfl hl (by decide) rfl (fun ls hl => ?_)
        refine lv_iload_n hx hb dX3_play_30 rfl (lv_at hl 0 rfl) ?_
        refine lv_if_ge (tgt := 37) hx hb dX3_play_31 (by decide) (fun c7 => ?_) (fun c7 => ?_)
        · replace ho := ite_t c7 ho
          refine lv_aload_n hx hb dX3_play_37 rfl (lv_at hl 2 rfl) ?_
          refine lv_iload_n hx hb dX3_play_38 rfl (lv_at hl 0 rfl) ?_
          refine lv_iload_n hx hb dX3_play_39 rfl (lv_at hl 1 rfl) ?_
          obtain ⟨q8, hc9, ho⟩ := bd_some ho
          refine bkV C0.1 hW (runVX (As := [.int q5, .int q2]) (rest := []) C0 hW (c_x3_turn l _ t q5 q2 (t' := q8) hc9) cb_X3_X3_turn_67 3 3 rfl rfl rfl rfl rfl ⟨rfl, rfl⟩ ⟨Nat.le_of_ble_eq_true rfl, Nat.le_of_ble_eq_true rfl⟩ (Nat.le_of_ble_eq_true rfl) hl.1 dX3_play_40 ⟨Nat.le_of_ble_eq_true rfl, Nat.le_of_ble_eq_true rfl⟩) (fun H locs hW => ?_)
          obtain ⟨x10, ex10, ho⟩ := nm_x ho
          refine lv_iinc (v := x10) (lv' := [(1, .int x10), (3, .int q5), (2, .int q2), (0, .ref (am 2003))]) hx hb dX3_play_43 hl (k := 3) rfl (by rw [ex10]; rfl) (by decide) rfl (fun ls hl => ?_)
          clear ex10
          refine lv_goto (tgt := 6) hx hb dX3_play_46 (by decide) ?_
          cases ho
          exact ih _ _ hrun _ _ _ hW (lv_sub hl [3, 0] rfl)
        · replace ho := ite_f c7 ho
          cases ho
          cases hrun
          exact hK1 _ rfl _ _ _ hW (lv_sub hl [2] rfl)
      · replace ho := ite_f c4 ho
        cases ho
        cases hrun
        exact hK0 _ rfl _ _ _ hW (lv_sub hl [1] rfl)
set_option maxHeartbeats 4000000 in
set_option maxRecDepth 100000 in
theorem c_x3_play (l : Launch) {D : va_G} {cI cJ cZ cR : ClassId} {am gm : Nat → Nat} {st : Nat} (sz : Nat) (t : St) {t' : St} (ho : x3_play t = some t') : Met l yX3_play (.code yX3_play cX3_play 4 none :: wsAll) (rmN 4 115) (va_Pc [.ref (am 2003)] (prX D (tyX cI cJ cZ cR) (wX cI cJ cZ cR am gm t) sz st)) (qV D (tyX cI cJ cZ cR) (wX cI cJ cZ cR am gm t') (va_A (wX cI cJ cZ cR am gm t) sz)) 0 0 (va_A (wX cI cJ cZ cR am gm t) sz) := by
  refine Met.ofW (cc := cX3_play) (maxL := 4) (ret := none) (by decide) rfl ?_
  intro p e s m args below meth c s₁ B hml hv
  obtain ⟨rfl, ⟨hsz, hP, hK, hD0⟩, hsx⟩ := hv
  have hx := B.exec
  have hb := B.bytes
  have hts := atoms_spec (ws := (.code yX3_play cX3_play 4 none :: wsAll)) B.pre
  have hta := fun w h => hts w (List.mem_cons_of_mem _ h)
  have hown : s.vm.findClass RX3 = some m.cls := findClass_of_methodNamed B.named
  have hlocks := B.notSynchronized
  subst hsz
  have hD := hD0.self (sz := s.heap.size)
  generalize hAe : va_A (wX cI cJ cZ cR am gm t) s.heap.size = A at hD ⊢
  have hA : ∀ q : Nat, s.heap.size ≤ q → A q := fun q h => by rw [← hAe]; exact Or.inr h
  have C0 : cxX p s m ([.ref (am 2003)].toArray) meth c cX3_play RX3 4 none D (tyX cI cJ cZ cR) st A := ⟨⟨hx, hb, B.returns, hml, hown, hta, hlocks, hK, hA⟩, by rw [← hAe]; exact hsx⟩
  have hW : wl D A s (wX cI cJ cZ cR am gm t) s.heap [] := ⟨hP, hD, va_S.rf⟩
  have hl := lv_entry [.ref (am 2003)] (n := 4) (Nat.le_of_ble_eq_true rfl)
  rw [lg_entry_eq]
  generalize (lg_sl [.ref (am 2003)] ++ List.replicate (4 - (lg_sl [.ref (am 2003)]).length) Slot.unset).toArray = ls at hl ⊢
  have hl : lv_has ls 4 [(0, .ref (am 2003))] := hl
  clear hAe hD hP hD0 hts
  have J101 : ∀ (t : St) (w1 : Int64) (_ : x3_play_J101 t w1 = some t') (H : Heap) (locs : List Loc) (ls : Array Slot), wl D A s (wX cI cJ cZ cR am gm t) H locs → lv_has ls 4 [(0, .ref (am 2003))] → W p l e (rmN 4 115) s m ([.ref (am 2003)].toArray) below meth c H locs 0 0 (MQ below (qV D (tyX cI cJ cZ cR) (wX cI cJ cZ cR am gm t') A) ([.ref (am 2003)].toArray) s 0 0 A) (F0 m 101 ls [.long w1, .ref (am 2003)]) := by
    intro t w1 ho H locs ls hW hl
    unfold x3_play_J101 at ho
    refine xPUT_310 C0 kw_502 hW dX3_play_101 (fun H locs hW => ?_)
    obtain ⟨t11, ho, hW⟩ := nm_w (P := fun t => wl D A s (wX cI cJ cZ cR am gm t) H locs) ho hW
    cases ho
    exact rtV C0.1 hW dX3_play_104
  have J86 : ∀ (t : St) (v1 : Int64) (w1 : Int64) (_ : x3_play_J86 t v1 w1 = some t') (H : Heap) (locs : List Loc) (ls : Array Slot), wl D A s (wX cI cJ cZ cR am gm t) H locs → lv_has ls 4 [(0, .ref (am 2003)), (1, .long v1)] → W p l e (rmN 4 115) s m ([.ref (am 2003)].toArray) below meth c H locs 0 0 (MQ below (qV D (tyX cI cJ cZ cR) (wX cI cJ cZ cR am gm t') A) ([.ref (am 2003)].toArray) s 0 0 A) (F0 m 86 ls [.long w1, .ref (am 2003)]) := by
    intro t v1 w1 ho H locs ls hW hl
    unfold x3_play_J86 at ho
    refine xPUT_309 C0 kw_500 hW dX3_play_86 (fun H locs hW => ?_)
    obtain ⟨t12, ho, hW⟩ := nm_w (P := fun t => wl D A s (wX cI cJ cZ cR am gm t) H locs) ho hW
    refine lv_aload_n hx hb dX3_play_89 rfl (lv_at hl 0 rfl) ?_
    refine lv_lload_n hx hb dX3_play_90 rfl (lv_at hl 1 rfl) ?_
    refine lv_lconst (v := (0 : Int64)) hx hb dX3_play_91 (by decide) ?_
    refine W.lcmp hx hb dX3_play_92 ?_
    refine lv_if_le (tgt := 100) hx hb dX3_play_93 (by decide) (fun c13 => ?_) (fun c13 => ?_)
    · replace ho := ite_t c13 ho
      refine lv_lconst (v := (1 : Int64)) hx hb dX3_play_100 (by decide) ?_
      exact J101 _ _ ho _ _ _ hW (lv_sub hl [0] rfl)
    · replace ho := ite_f c13 ho
      refine lv_lload_n hx hb dX3_play_96 rfl (lv_at hl 1 rfl) ?_
      refine lv_goto (tgt := 101) hx hb dX3_play_97 (by decide) ?_
      exact J101 _ _ ho _ _ _ hW (lv_sub hl [0] rfl)
  have J49 : ∀ (t : St) (_ : x3_play_J49 t = some t') (H : Heap) (locs : List Loc) (ls : Array Slot), wl D A s (wX cI cJ cZ cR am gm t) H locs → lv_has ls 4 [(0, .ref (am 2003))] → W p l e (rmN 4 115) s m ([.ref (am 2003)].toArray) below meth c H locs 0 0 (MQ below (qV D (tyX cI cJ cZ cR) (wX cI cJ cZ cR am gm t') A) ([.ref (am 2003)].toArray) s 0 0 A) (F0 m 49 ls []) := by
    intro t ho H locs ls hW hl
    unfold x3_play_J49 at ho
    refine lv_aload_n hx hb dX3_play_49 rfl (lv_at hl 0 rfl) ?_
    refine xGET_303 C0 kw_494 hW dX3_play_50 ?_
    refine lv_aload_n hx hb dX3_play_53 rfl (lv_at hl 0 rfl) ?_
    refine xGET_302 C0 kw_492 hW dX3_play_54 ?_
    refine lv_aload_n hx hb dX3_play_57 rfl (lv_at hl 0 rfl) ?_
    refine xGET_307 C0 kw_498 hW dX3_play_58 ?_
    refine lv_imul hx hb dX3_play_61 ?_
    refine lv_aload_n hx hb dX3_play_62 rfl (lv_at hl 0 rfl) ?_
    refine xGET_306 C0 kw_497 hW dX3_play_63 ?_
    refine lv_iadd hx hb dX3_play_66 ?_
    obtain ⟨g14, ho⟩ := gd_some ho
    refine xLD_303 C0 hW g14 dX3_play_67 ?_
    refine lv_nml ho (fun x15 ho => ?_)
    refine lv_lstore_n (lv' := [(1, .long x15), (0, .ref (am 2003))]) hx hb dX3_play_68 rfl hl (by decide) rfl (fun ls hl => ?_)
    refine lv_aload_n hx hb dX3_play_69 rfl (lv_at hl 1 rfl) ?_
    refine lv_lload_n hx hb dX3_play_70 rfl (lv_at hl 0 rfl) ?_
    refine lv_lconst (v := (0 : Int64)) hx hb dX3_play_71 (by decide) ?_
    refine W.lcmp hx hb dX3_play_72 ?_
    refine lv_if_le (tgt := 85) hx hb dX3_play_73 (by decide) (fun c16 => ?_) (fun c16 => ?_)
    · replace ho := ite_t c16 ho
      refine lv_lconst (v := (0 : Int64)) hx hb dX3_play_85 (by decide) ?_
      exact J86 _ _ _ ho _ _ _ hW (lv_sub hl [1, 0] rfl)
    · replace ho := ite_f c16 ho
      refine lv_aload_n hx hb dX3_play_76 rfl (lv_at hl 1 rfl) ?_
      refine xGET_308 C0 kw_499 hW dX3_play_77 ?_
      refine lv_lload_n hx hb dX3_play_80 rfl (lv_at hl 0 rfl) ?_
      refine lv_lsub hx hb dX3_play_81 ?_
      refine lv_goto (tgt := 86) hx hb dX3_play_82 (by decide) ?_
      exact J86 _ _ _ ho _ _ _ hW (lv_sub hl [1, 0] rfl)
  unfold x3_play at ho
  refine lv_aload_n hx hb dX3_play_0 rfl (lv_at hl 0 rfl) ?_
  obtain ⟨q17, hc18, ho⟩ := bd_some ho
  refine bkV C0.1 hW (runVX (As := []) (rest := []) C0 hW (c_x3_layOut l _ t (t' := q17) hc18) cb_X3_X3_layOut_55 3 3 rfl rfl rfl rfl rfl ⟨rfl, rfl⟩ ⟨Nat.le_of_ble_eq_true rfl, Nat.le_of_ble_eq_true rfl⟩ (Nat.le_of_ble_eq_true rfl) hl.1 dX3_play_1 ⟨Nat.le_of_ble_eq_true rfl, Nat.le_of_ble_eq_true rfl⟩) (fun H locs hW => ?_)
  refine lv_iconst (v := (0 : Int32)) hx hb dX3_play_4 (by decide) ?_
  refine lv_istore_n (lv' := [(1, .int (0 : Int32)), (0, .ref (am 2003))]) hx hb dX3_play_5 rfl hl (by decide) rfl (fun ls hl => ?_)
  obtain ⟨y19, hc21, ho⟩ := bd_some ho
  obtain ⟨ny19, hc21⟩ := lp_to hc21
  refine x3_play_L6 C0 ?_ ?_ ?_ ny19 _ _ hc21 _ _ _ hW (lv_sub hl [1, 0] rfl)
  · intro u22 hy H locs ls hW hl
    subst hy
    replace ho := sum_l ho
    refine lv_goto (tgt := 49) hx hb dX3_play_21 (by decide) ?_
    exact J49 _ ho _ _ _ hW (lv_sub hl [0] rfl)
  · intro u22 hy H locs ls hW hl
    subst hy
    replace ho := sum_r ho
    replace ho := sum_l ho
    refine lv_goto (tgt := 49) hx hb dX3_play_34 (by decide) ?_
    exact J49 _ ho _ _ _ hW (lv_sub hl [0] rfl)
  · intro u22 hy H locs ls hW hl
    subst hy
    replace ho := sum_r ho
    replace ho := sum_r ho
    exact J49 _ ho _ _ _ hW (lv_sub hl [0] rfl)
noncomputable def x2_commonDivisor_B3 (t : St) (v0 : Int64) (v2 : Int64) (v4 : Int32) : Option ((Int64 × Int64 × Int32) ⊕ (Int64)) :=
  if (100 : Int32) ≤ v4 then (some (.inr v0)) else (if (lg_cmp v2 (0 : Int64)) = 0 then (some (.inr v0)) else (dvl v2 (nm (v0 - v0 / v2 * v2) (fun x4 : Int64 => nm (v4 + (1 : Int32)) (fun x5 : Int32 => some (.inl (v2, x4, x5)))))))
noncomputable def x2_commonDivisor (t : St) (a0 : Int64) (a2 : Int64) : Option (Int64) :=
  (lp (fun x => x2_commonDivisor_B3 t x.1 x.2.1 x.2.2) (a0, a2, (0 : Int32))).bind (fun y6 => some y6)
set_option maxHeartbeats 4000000 in
set_option maxRecDepth 100000 in
theorem x2_commonDivisor_L3 {p : Program} {l : Launch} {e : Env} {s : State} {m : MethodId} {args : Array Value} {below : List Frame} {meth : Method} {c : Code} {Q : State → Prop} {D : va_G} {cI cJ cZ cR : ClassId} {am gm : Nat → Nat} {st : Nat} {A : Nat → Prop} (C0 : cxX p s m args meth c cX2_commonDivisor RX2 7 (some .long) D (tyX cI cJ cZ cR) st A) {t : St} {y : Int64} (hK0 : ∀ (H : Heap) (locs : List Loc) (ls : Array Slot), wl D A s (wX cI cJ cZ cR am gm t) H locs → lv_has ls 7 [(0, .long y)] → W p l e (rmN 0 0) s m args below meth c H locs 0 0 Q (F0 m 32 ls [])) :
    ∀ (n : Nat) (v0 : Int64) (v2 : Int64) (v4 : Int32), lpn (fun x => x2_commonDivisor_B3 t x.1 x.2.1 x.2.2) n (v0, v2, v4) = some y → ∀ (H : Heap) (locs : List Loc) (ls : Array Slot), wl D A s (wX cI cJ cZ cR am gm t) H locs → lv_has ls 7 [(0, .long v0), (2, .long v2), (4, .int v4)] → W p l e (rmN 0 0) s m args below meth c H locs 0 0 Q (F0 m 3 ls []) := by
  have hx := C0.1.1
  have hb := C0.1.2.1
  have hta := C0.1.2.2.2.2.2.1
  have hown := C0.1.2.2.2.2.1
  intro n
  induction n with
  | zero => intro _ _ _ h; cases h
  | succ n ih =>
    intro v0 v2 v4 hrun H locs ls hW hl
    obtain ⟨o, ho, hrun⟩ := bd_some hrun
    unfold x2_commonDivisor_B3 at ho
    refine lv_iload hx hb dX2_commonDivisor_3 (lv_at hl 2 rfl) ?_
    refine lv_bipush (v := (100 : Int32)) hx hb dX2_commonDivisor_5 (by decide) ?_
    refine lv_icmp_ge (tgt := 32) hx hb dX2_commonDivisor_7 (by decide) (fun c1 => ?_) (fun c1 => ?_)
    · replace ho := ite_t c1 ho
      cases ho
      cases hrun
      exact hK0 _ _ _ hW (lv_sub hl [0] rfl)
    · replace ho := ite_f c1 ho
      refine lv_lload_n hx hb dX2_commonDivisor_10 rfl (lv_at hl 1 rfl) ?_
      refine lv_lconst (v := (0 : Int64)) hx hb dX2_commonDivisor_11 (by decide) ?_
      refine W.lcmp hx hb dX2_commonDivisor_12 ?_
      refine lv_if_eq (tgt := 32) hx hb dX2_commonDivisor_13 (by decide) (fun c2 => ?_) (fun c2 => ?_)
      · replace ho := ite_t c2 ho
        cases ho
        cases hrun
        exact hK0 _ _ _ hW (lv_sub hl [0] rfl)
      · replace ho := ite_f c2 ho
        refine lv_lload_n hx hb dX2_commonDivisor_16 rfl (lv_at hl 0 rfl) ?_
        refine lv_lload_n hx hb dX2_commonDivisor_17 rfl (lv_at hl 1 rfl) ?_
        obtain ⟨g3, ho⟩ := dvl_some ho
        refine lv_lrem hx hb dX2_commonDivisor_18 g3 ?_
        refine lv_nml ho (fun x4 ho => ?_)
        refine lv_lstore (lv' := [(5, .long x4), (0, .long v0), (2, .long v2), (4, .int v4)]) hx hb dX2_commonDivisor_19 hl (by decide) rfl (fun ls hl => ?_)
        refine lv_lload_n hx hb dX2_commonDivisor_21 rfl (lv_at hl 2 rfl) ?_
        refine lv_lstore_n (lv' := [(0, .long v2), (5, .long x4), (2, .long v2), (4, .int v4)]) hx hb dX2_commonDivisor_22 rfl hl (by decide) rfl (fun ls hl => ?_)
        refine lv_lload hx hb dX2_commonDivisor_23 (lv_at hl 1 rfl) ?_
        refine lv_lstore_n (lv' := [(2, .long x4), (0, .long v2), (5, .long x4), (4, .int v4)]) hx hb dX2_commonDivisor_25 rfl hl (by decide) rfl (fun ls hl => ?_)
        obtain ⟨x5, ex5, ho⟩ := nm_x ho
        refine lv_iinc (v := x5) (lv' := [(4, .int x5), (2, .long x4), (0, .long v2), (5, .long x4)]) hx hb dX2_commonDivisor_26 hl (k := 3) rfl (by rw [ex5]; rfl) (by decide) rfl (fun ls hl => ?_)
        clear ex5
        refine lv_goto (tgt := 3) hx hb dX2_commonDivisor_29 (by decide) ?_
        cases ho
        exact ih _ _ _ hrun _ _ _ hW (lv_sub hl [2, 1, 0] rfl)
set_option maxHeartbeats 4000000 in
set_option maxRecDepth 100000 in
theorem c_x2_commonDivisor (l : Launch) {D : va_G} {cI cJ cZ cR : ClassId} {am gm : Nat → Nat} {st : Nat} (sz : Nat) (t : St) (a0 : Int64) (a2 : Int64) {r : Int64} (ho : x2_commonDivisor t a0 a2 = some r) : Met l yX2_commonDivisor (.code yX2_commonDivisor cX2_commonDivisor 7 (some .long) :: wsAll) (rmN 0 0) (va_Pc [.long a0, .long a2] (prX D (tyX cI cJ cZ cR) (wX cI cJ cZ cR am gm t) sz st)) (qJ r D (tyX cI cJ cZ cR) (wX cI cJ cZ cR am gm t) (va_A (wX cI cJ cZ cR am gm t) sz)) 0 0 (va_A (wX cI cJ cZ cR am gm t) sz) := by
  refine Met.ofW (cc := cX2_commonDivisor) (maxL := 7) (ret := (some .long)) (by decide) rfl ?_
  intro p e s m args below meth c s₁ B hml hv
  obtain ⟨rfl, ⟨hsz, hP, hK, hD0⟩, hsx⟩ := hv
  have hx := B.exec
  have hb := B.bytes
  have hts := atoms_spec (ws := (.code yX2_commonDivisor cX2_commonDivisor 7 (some .long) :: wsAll)) B.pre
  have hta := fun w h => hts w (List.mem_cons_of_mem _ h)
  have hown : s.vm.findClass RX2 = some m.cls := findClass_of_methodNamed B.named
  have hlocks := B.notSynchronized
  subst hsz
  have hD := hD0.self (sz := s.heap.size)
  generalize hAe : va_A (wX cI cJ cZ cR am gm t) s.heap.size = A at hD ⊢
  have hA : ∀ q : Nat, s.heap.size ≤ q → A q := fun q h => by rw [← hAe]; exact Or.inr h
  have C0 : cxX p s m ([.long a0, .long a2].toArray) meth c cX2_commonDivisor RX2 7 (some .long) D (tyX cI cJ cZ cR) st A := ⟨⟨hx, hb, B.returns, hml, hown, hta, hlocks, hK, hA⟩, by rw [← hAe]; exact hsx⟩
  have hW : wl D A s (wX cI cJ cZ cR am gm t) s.heap [] := ⟨hP, hD, va_S.rf⟩
  have hl := lv_entry [.long a0, .long a2] (n := 7) (Nat.le_of_ble_eq_true rfl)
  rw [lg_entry_eq]
  generalize (lg_sl [.long a0, .long a2] ++ List.replicate (7 - (lg_sl [.long a0, .long a2]).length) Slot.unset).toArray = ls at hl ⊢
  have hl : lv_has ls 7 [(0, .long a0), (2, .long a2)] := hl
  unfold x2_commonDivisor at ho
  refine lv_iconst (v := (0 : Int32)) hx hb dX2_commonDivisor_0 (by decide) ?_
  refine lv_istore (lv' := [(4, .int (0 : Int32)), (0, .long a0), (2, .long a2)]) hx hb dX2_commonDivisor_1 hl (by decide) rfl (fun ls hl => ?_)
  obtain ⟨y6, hc8, ho⟩ := bd_some ho
  obtain ⟨ny6, hc8⟩ := lp_to hc8
  refine x2_commonDivisor_L3 C0 ?_ ny6 _ _ _ hc8 _ _ _ hW (lv_sub hl [1, 2, 0] rfl)
  intro H locs ls hW hl
  refine lv_lload_n hx hb dX2_commonDivisor_32 rfl (lv_at hl 0 rfl) ?_
  cases ho
  exact rtJ C0.1 hW dX2_commonDivisor_33
noncomputable def x2_spread_200_B7 (v0 : Int64) (v3 : Int32) (t : St) : Option ((Int64 × Int32 × St) ⊕ (St)) :=
  if (3 : Int32) ≤ v3 then (some (.inr t)) else (gd v3 (gN t 200) (nm (sA t 200 v3 ((v0 &&& (1073741823 : Int64))).toInt32) (fun t3 : St => nm ((v0 >>> (((30 : Int32)).toInt64 &&& 63))) (fun x4 : Int64 => nm (v3 + (1 : Int32)) (fun x5 : Int32 => some (.inl (x4, x5, t3)))))))
theorem mm_x2_spread_200_B7 (v0 : Int64) (v3 : Int32) (t : St) : MR (x2_spread_200_B7 v0 v3 t) t (Sum.elim (fun (x : Int64 × Int32 × St) => x.2.2) (fun (y : St) => y)) := by
  unfold x2_spread_200_B7
  exact MR_ite (MR_some mle.rfl) (MR_gd (MR_nmS mle_sA (fun t3 ht3 => MR_nm (fun x4 _ => MR_nm (fun x5 _ => MR_some ht3)))))
theorem mm_x2_spread_200_L7 (v0 : Int64) (v3 : Int32) (t : St) : MR (lp (fun x => x2_spread_200_B7 x.1 x.2.1 x.2.2) (v0, v3, t)) t (fun (y : St) => y) := MR_lp (p := (fun (x : Int64 × Int32 × St) => x.2.2)) (q := (fun (y : St) => y)) (fun x => mm_x2_spread_200_B7 x.1 x.2.1 x.2.2) (v0, v3, t)
noncomputable def x2_spread_200 (t : St) (a0 : Int64) : Option (St) :=
  (j7_fill_53178_200 t (0 : Int32)).bind (fun q6 => (lp (fun x => x2_spread_200_B7 x.1 x.2.1 x.2.2) (a0, (0 : Int32), q6)).bind (fun y8 => some y8))
theorem mm_x2_spread_200 (t : St) (a0 : Int64) : MR (x2_spread_200 t a0) t (fun (a : St) => a) := by
  unfold x2_spread_200
  exact MR_bind (mm_j7_fill_53178_200 t (0 : Int32)) (fun q6 hq6 => MR_bind (mm_x2_spread_200_L7 a0 (0 : Int32) q6) (fun y8 hm9 => MR_some (mle.trans hq6 hm9)))
set_option maxHeartbeats 4000000 in
set_option maxRecDepth 100000 in
theorem x2_spread_200_L7 {p : Program} {l : Launch} {e : Env} {s : State} {m : MethodId} {args : Array Value} {below : List Frame} {meth : Method} {c : Code} {Q : State → Prop} {D : va_G} {cI cJ cZ cR : ClassId} {am gm : Nat → Nat} {st : Nat} {A : Nat → Prop} (C0 : cxX p s m args meth c cX2_spread RX2 4 none D (tyX cI cJ cZ cR) st A) {y : St} (hK0 : ∀ (H : Heap) (locs : List Loc) (ls : Array Slot), wl D A s (wX cI cJ cZ cR am gm y) H locs → lv_has ls 4 [] → W p l e (rmN 1 23) s m args below meth c H locs 0 0 Q (F0 m 32 ls [])) :
    ∀ (n : Nat) (v0 : Int64) (v3 : Int32) (t : St), lpn (fun x => x2_spread_200_B7 x.1 x.2.1 x.2.2) n (v0, v3, t) = some y → ∀ (H : Heap) (locs : List Loc) (ls : Array Slot), wl D A s (wX cI cJ cZ cR am gm t) H locs → lv_has ls 4 [(0, .long v0), (2, .ref (am 200)), (3, .int v3)] → W p l e (rmN 1 23) s m args below meth c H locs 0 0 Q (F0 m 7 ls []) := by
  have hx := C0.1.1
  have hb := C0.1.2.1
  have hta := C0.1.2.2.2.2.2.1
  have hown := C0.1.2.2.2.2.1
  intro n
  induction n with
  | zero => intro _ _ _ h; cases h
  | succ n ih =>
    intro v0 v3 t hrun H locs ls hW hl
    obtain ⟨o, ho, hrun⟩ := bd_some hrun
    unfold x2_spread_200_B7 at ho
    refine lv_iload_n hx hb dX2_spread_7 rfl (lv_at hl 2 rfl) ?_
    refine lv_iconst (v := (3 : Int32)) hx hb dX2_spread_8 (by decide) ?_
    refine lv_icmp_ge (tgt := 32) hx hb dX2_spread_9 (by decide) (fun c1 => ?_) (fun c1 => ?_)
    · replace ho := ite_t c1 ho
      cases ho
      cases hrun
      exact hK0 _ _ _ hW (lv_sub hl [] rfl)
    · replace ho := ite_f c1 ho
      refine lv_aload_n hx hb dX2_spread_12 rfl (lv_at hl 1 rfl) ?_
      refine lv_iload_n hx hb dX2_spread_13 rfl (lv_at hl 2 rfl) ?_
      refine lv_lload_n hx hb dX2_spread_14 rfl (lv_at hl 0 rfl) ?_
      refine lv_ldc2 hx hb hown (hta _ kw_996) dX2_spread_15 ?_
      refine lv_land hx hb dX2_spread_18 ?_
      refine lv_l2i hx hb dX2_spread_19 rfl ?_
      obtain ⟨g2, ho⟩ := gd_some ho
      refine xST_200 C0 hW g2 dX2_spread_20 (fun H locs hW => ?_)
      obtain ⟨t3, ho, hW⟩ := nm_w (P := fun t => wl D A s (wX cI cJ cZ cR am gm t) H locs) ho hW
      refine lv_lload_n hx hb dX2_spread_21 rfl (lv_at hl 0 rfl) ?_
      refine lv_bipush (v := (30 : Int32)) hx hb dX2_spread_22 (by decide) ?_
      refine lv_lshr hx hb dX2_spread_24 rfl ?_
      refine lv_nml ho (fun x4 ho => ?_)
      refine lv_lstore_n (lv' := [(0, .long x4), (2, .ref (am 200)), (3, .int v3)]) hx hb dX2_spread_25 rfl hl (by decide) rfl (fun ls hl => ?_)
      obtain ⟨x5, ex5, ho⟩ := nm_x ho
      refine lv_iinc (v := x5) (lv' := [(3, .int x5), (0, .long x4), (2, .ref (am 200))]) hx hb dX2_spread_26 hl (k := 2) rfl (by rw [ex5]; rfl) (by decide) rfl (fun ls hl => ?_)
      clear ex5
      refine lv_goto (tgt := 7) hx hb dX2_spread_29 (by decide) ?_
      cases ho
      exact ih _ _ _ hrun _ _ _ hW (lv_sub hl [1, 2, 0] rfl)
set_option maxHeartbeats 4000000 in
set_option maxRecDepth 100000 in
theorem c_x2_spread_200 (l : Launch) {D : va_G} {cI cJ cZ cR : ClassId} {am gm : Nat → Nat} {st : Nat} (sz : Nat) (t : St) (a0 : Int64) {t' : St} (ho : x2_spread_200 t a0 = some t') : Met l yX2_spread (.code yX2_spread cX2_spread 4 none :: wsAll) (rmN 1 23) (va_Pc [.long a0, .ref (am 200)] (prX D (tyX cI cJ cZ cR) (wX cI cJ cZ cR am gm t) sz st)) (qV D (tyX cI cJ cZ cR) (wX cI cJ cZ cR am gm t') (va_A (wX cI cJ cZ cR am gm t) sz)) 0 0 (va_A (wX cI cJ cZ cR am gm t) sz) := by
  refine Met.ofW (cc := cX2_spread) (maxL := 4) (ret := none) (by decide) rfl ?_
  intro p e s m args below meth c s₁ B hml hv
  obtain ⟨rfl, ⟨hsz, hP, hK, hD0⟩, hsx⟩ := hv
  have hx := B.exec
  have hb := B.bytes
  have hts := atoms_spec (ws := (.code yX2_spread cX2_spread 4 none :: wsAll)) B.pre
  have hta := fun w h => hts w (List.mem_cons_of_mem _ h)
  have hown : s.vm.findClass RX2 = some m.cls := findClass_of_methodNamed B.named
  have hlocks := B.notSynchronized
  subst hsz
  have hD := hD0.self (sz := s.heap.size)
  generalize hAe : va_A (wX cI cJ cZ cR am gm t) s.heap.size = A at hD ⊢
  have hA : ∀ q : Nat, s.heap.size ≤ q → A q := fun q h => by rw [← hAe]; exact Or.inr h
  have C0 : cxX p s m ([.long a0, .ref (am 200)].toArray) meth c cX2_spread RX2 4 none D (tyX cI cJ cZ cR) st A := ⟨⟨hx, hb, B.returns, hml, hown, hta, hlocks, hK, hA⟩, by rw [← hAe]; exact hsx⟩
  have hW : wl D A s (wX cI cJ cZ cR am gm t) s.heap [] := ⟨hP, hD, va_S.rf⟩
  have hl := lv_entry [.long a0, .ref (am 200)] (n := 4) (Nat.le_of_ble_eq_true rfl)
  rw [lg_entry_eq]
  generalize (lg_sl [.long a0, .ref (am 200)] ++ List.replicate (4 - (lg_sl [.long a0, .ref (am 200)]).length) Slot.unset).toArray = ls at hl ⊢
  have hl : lv_has ls 4 [(0, .long a0), (2, .ref (am 200))] := hl
  unfold x2_spread_200 at ho
  refine lv_aload_n hx hb dX2_spread_0 rfl (lv_at hl 1 rfl) ?_
  refine lv_iconst (v := (0 : Int32)) hx hb dX2_spread_1 (by decide) ?_
  obtain ⟨q6, hc7, ho⟩ := bd_some ho
  refine bkV C0.1 hW (runSX (As := [.ref (am 200), .int (0 : Int32)]) (rest := []) C0 hW (c_j7_fill_53178_200 l _ t (0 : Int32) (t' := q6) hc7) cb_X2_J7_fill_53178_22 rfl rfl ⟨rfl, rfl⟩ ⟨Nat.le_of_ble_eq_true rfl, Nat.le_of_ble_eq_true rfl⟩ (Nat.le_of_ble_eq_true rfl) hl.1 dX2_spread_2 ⟨Nat.le_of_ble_eq_true rfl, Nat.le_of_ble_eq_true rfl⟩) (fun H locs hW => ?_)
  refine lv_iconst (v := (0 : Int32)) hx hb dX2_spread_5 (by decide) ?_
  refine lv_istore_n (lv' := [(3, .int (0 : Int32)), (0, .long a0), (2, .ref (am 200))]) hx hb dX2_spread_6 rfl hl (by decide) rfl (fun ls hl => ?_)
  obtain ⟨y8, hc10, ho⟩ := bd_some ho
  obtain ⟨ny8, hc10⟩ := lp_to hc10
  refine x2_spread_200_L7 C0 ?_ ny8 _ _ _ hc10 _ _ _ hW (lv_sub hl [1, 2, 0] rfl)
  intro H locs ls hW hl
  cases ho
  exact rtV C0.1 hW dX2_spread_32
noncomputable def x2_spread_201_B7 (v0 : Int64) (v3 : Int32) (t : St) : Option ((Int64 × Int32 × St) ⊕ (St)) :=
  if (3 : Int32) ≤ v3 then (some (.inr t)) else (gd v3 (gN t 201) (nm (sA t 201 v3 ((v0 &&& (1073741823 : Int64))).toInt32) (fun t3 : St => nm ((v0 >>> (((30 : Int32)).toInt64 &&& 63))) (fun x4 : Int64 => nm (v3 + (1 : Int32)) (fun x5 : Int32 => some (.inl (x4, x5, t3)))))))
theorem mm_x2_spread_201_B7 (v0 : Int64) (v3 : Int32) (t : St) : MR (x2_spread_201_B7 v0 v3 t) t (Sum.elim (fun (x : Int64 × Int32 × St) => x.2.2) (fun (y : St) => y)) := by
  unfold x2_spread_201_B7
  exact MR_ite (MR_some mle.rfl) (MR_gd (MR_nmS mle_sA (fun t3 ht3 => MR_nm (fun x4 _ => MR_nm (fun x5 _ => MR_some ht3)))))
theorem mm_x2_spread_201_L7 (v0 : Int64) (v3 : Int32) (t : St) : MR (lp (fun x => x2_spread_201_B7 x.1 x.2.1 x.2.2) (v0, v3, t)) t (fun (y : St) => y) := MR_lp (p := (fun (x : Int64 × Int32 × St) => x.2.2)) (q := (fun (y : St) => y)) (fun x => mm_x2_spread_201_B7 x.1 x.2.1 x.2.2) (v0, v3, t)
noncomputable def x2_spread_201 (t : St) (a0 : Int64) : Option (St) :=
  (j7_fill_53178_201 t (0 : Int32)).bind (fun q6 => (lp (fun x => x2_spread_201_B7 x.1 x.2.1 x.2.2) (a0, (0 : Int32), q6)).bind (fun y8 => some y8))
theorem mm_x2_spread_201 (t : St) (a0 : Int64) : MR (x2_spread_201 t a0) t (fun (a : St) => a) := by
  unfold x2_spread_201
  exact MR_bind (mm_j7_fill_53178_201 t (0 : Int32)) (fun q6 hq6 => MR_bind (mm_x2_spread_201_L7 a0 (0 : Int32) q6) (fun y8 hm9 => MR_some (mle.trans hq6 hm9)))
set_option maxHeartbeats 4000000 in
set_option maxRecDepth 100000 in
theorem x2_spread_201_L7 {p : Program} {l : Launch} {e : Env} {s : State} {m : MethodId} {args : Array Value} {below : List Frame} {meth : Method} {c : Code} {Q : State → Prop} {D : va_G} {cI cJ cZ cR : ClassId} {am gm : Nat → Nat} {st : Nat} {A : Nat → Prop} (C0 : cxX p s m args meth c cX2_spread RX2 4 none D (tyX cI cJ cZ cR) st A) {y : St} (hK0 : ∀ (H : Heap) (locs : List Loc) (ls : Array Slot), wl D A s (wX cI cJ cZ cR am gm y) H locs → lv_has ls 4 [] → W p l e (rmN 1 23) s m args below meth c H locs 0 0 Q (F0 m 32 ls [])) :
    ∀ (n : Nat) (v0 : Int64) (v3 : Int32) (t : St), lpn (fun x => x2_spread_201_B7 x.1 x.2.1 x.2.2) n (v0, v3, t) = some y → ∀ (H : Heap) (locs : List Loc) (ls : Array Slot), wl D A s (wX cI cJ cZ cR am gm t) H locs → lv_has ls 4 [(0, .long v0), (2, .ref (am 201)), (3, .int v3)] → W p l e (rmN 1 23) s m args below meth c H locs 0 0 Q (F0 m 7 ls []) := by
  have hx := C0.1.1
  have hb := C0.1.2.1
  have hta := C0.1.2.2.2.2.2.1
  have hown := C0.1.2.2.2.2.1
  intro n
  induction n with
  | zero => intro _ _ _ h; cases h
  | succ n ih =>
    intro v0 v3 t hrun H locs ls hW hl
    obtain ⟨o, ho, hrun⟩ := bd_some hrun
    unfold x2_spread_201_B7 at ho
    refine lv_iload_n hx hb dX2_spread_7 rfl (lv_at hl 2 rfl) ?_
    refine lv_iconst (v := (3 : Int32)) hx hb dX2_spread_8 (by decide) ?_
    refine lv_icmp_ge (tgt := 32) hx hb dX2_spread_9 (by decide) (fun c1 => ?_) (fun c1 => ?_)
    · replace ho := ite_t c1 ho
      cases ho
      cases hrun
      exact hK0 _ _ _ hW (lv_sub hl [] rfl)
    · replace ho := ite_f c1 ho
      refine lv_aload_n hx hb dX2_spread_12 rfl (lv_at hl 1 rfl) ?_
      refine lv_iload_n hx hb dX2_spread_13 rfl (lv_at hl 2 rfl) ?_
      refine lv_lload_n hx hb dX2_spread_14 rfl (lv_at hl 0 rfl) ?_
      refine lv_ldc2 hx hb hown (hta _ kw_996) dX2_spread_15 ?_
      refine lv_land hx hb dX2_spread_18 ?_
      refine lv_l2i hx hb dX2_spread_19 rfl ?_
      obtain ⟨g2, ho⟩ := gd_some ho
      refine xST_201 C0 hW g2 dX2_spread_20 (fun H locs hW => ?_)
      obtain ⟨t3, ho, hW⟩ := nm_w (P := fun t => wl D A s (wX cI cJ cZ cR am gm t) H locs) ho hW
      refine lv_lload_n hx hb dX2_spread_21 rfl (lv_at hl 0 rfl) ?_
      refine lv_bipush (v := (30 : Int32)) hx hb dX2_spread_22 (by decide) ?_
      refine lv_lshr hx hb dX2_spread_24 rfl ?_
      refine lv_nml ho (fun x4 ho => ?_)
      refine lv_lstore_n (lv' := [(0, .long x4), (2, .ref (am 201)), (3, .int v3)]) hx hb dX2_spread_25 rfl hl (by decide) rfl (fun ls hl => ?_)
      obtain ⟨x5, ex5, ho⟩ := nm_x ho
      refine lv_iinc (v := x5) (lv' := [(3, .int x5), (0, .long x4), (2, .ref (am 201))]) hx hb dX2_spread_26 hl (k := 2) rfl (by rw [ex5]; rfl) (by decide) rfl (fun ls hl => ?_)
      clear ex5
      refine lv_goto (tgt := 7) hx hb dX2_spread_29 (by decide) ?_
      cases ho
      exact ih _ _ _ hrun _ _ _ hW (lv_sub hl [1, 2, 0] rfl)
set_option maxHeartbeats 4000000 in
set_option maxRecDepth 100000 in
theorem c_x2_spread_201 (l : Launch) {D : va_G} {cI cJ cZ cR : ClassId} {am gm : Nat → Nat} {st : Nat} (sz : Nat) (t : St) (a0 : Int64) {t' : St} (ho : x2_spread_201 t a0 = some t') : Met l yX2_spread (.code yX2_spread cX2_spread 4 none :: wsAll) (rmN 1 23) (va_Pc [.long a0, .ref (am 201)] (prX D (tyX cI cJ cZ cR) (wX cI cJ cZ cR am gm t) sz st)) (qV D (tyX cI cJ cZ cR) (wX cI cJ cZ cR am gm t') (va_A (wX cI cJ cZ cR am gm t) sz)) 0 0 (va_A (wX cI cJ cZ cR am gm t) sz) := by
  refine Met.ofW (cc := cX2_spread) (maxL := 4) (ret := none) (by decide) rfl ?_
  intro p e s m args below meth c s₁ B hml hv
  obtain ⟨rfl, ⟨hsz, hP, hK, hD0⟩, hsx⟩ := hv
  have hx := B.exec
  have hb := B.bytes
  have hts := atoms_spec (ws := (.code yX2_spread cX2_spread 4 none :: wsAll)) B.pre
  have hta := fun w h => hts w (List.mem_cons_of_mem _ h)
  have hown : s.vm.findClass RX2 = some m.cls := findClass_of_methodNamed B.named
  have hlocks := B.notSynchronized
  subst hsz
  have hD := hD0.self (sz := s.heap.size)
  generalize hAe : va_A (wX cI cJ cZ cR am gm t) s.heap.size = A at hD ⊢
  have hA : ∀ q : Nat, s.heap.size ≤ q → A q := fun q h => by rw [← hAe]; exact Or.inr h
  have C0 : cxX p s m ([.long a0, .ref (am 201)].toArray) meth c cX2_spread RX2 4 none D (tyX cI cJ cZ cR) st A := ⟨⟨hx, hb, B.returns, hml, hown, hta, hlocks, hK, hA⟩, by rw [← hAe]; exact hsx⟩
  have hW : wl D A s (wX cI cJ cZ cR am gm t) s.heap [] := ⟨hP, hD, va_S.rf⟩
  have hl := lv_entry [.long a0, .ref (am 201)] (n := 4) (Nat.le_of_ble_eq_true rfl)
  rw [lg_entry_eq]
  generalize (lg_sl [.long a0, .ref (am 201)] ++ List.replicate (4 - (lg_sl [.long a0, .ref (am 201)]).length) Slot.unset).toArray = ls at hl ⊢
  have hl : lv_has ls 4 [(0, .long a0), (2, .ref (am 201))] := hl
  unfold x2_spread_201 at ho
  refine lv_aload_n hx hb dX2_spread_0 rfl (lv_at hl 1 rfl) ?_
  refine lv_iconst (v := (0 : Int32)) hx hb dX2_spread_1 (by decide) ?_
  obtain ⟨q6, hc7, ho⟩ := bd_some ho
  refine bkV C0.1 hW (runSX (As := [.ref (am 201), .int (0 : Int32)]) (rest := []) C0 hW (c_j7_fill_53178_201 l _ t (0 : Int32) (t' := q6) hc7) cb_X2_J7_fill_53178_22 rfl rfl ⟨rfl, rfl⟩ ⟨Nat.le_of_ble_eq_true rfl, Nat.le_of_ble_eq_true rfl⟩ (Nat.le_of_ble_eq_true rfl) hl.1 dX2_spread_2 ⟨Nat.le_of_ble_eq_true rfl, Nat.le_of_ble_eq_true rfl⟩) (fun H locs hW => ?_)
  refine lv_iconst (v := (0 : Int32)) hx hb dX2_spread_5 (by decide) ?_
  refine lv_istore_n (lv' := [(3, .int (0 : Int32)), (0, .long a0), (2, .ref (am 201))]) hx hb dX2_spread_6 rfl hl (by decide) rfl (fun ls hl => ?_)
  obtain ⟨y8, hc10, ho⟩ := bd_some ho
  obtain ⟨ny8, hc10⟩ := lp_to hc10
  refine x2_spread_201_L7 C0 ?_ ny8 _ _ _ hc10 _ _ _ hW (lv_sub hl [1, 2, 0] rfl)
  intro H locs ls hW hl
  cases ho
  exact rtV C0.1 hW dX2_spread_32
noncomputable def x2_putRatio_J17 (t : St) (v1 : Int64) (v3 : Int64) (v5 : Int64) : Option (St) :=
  dvl v5 ((x2_spread_200 t (v1 / v5)).bind (fun q2 => dvl v5 ((x2_spread_201 q2 (v3 / v5)).bind (fun q5 => some q5))))
theorem mm_x2_putRatio_J17 (t : St) (v1 : Int64) (v3 : Int64) (v5 : Int64) : MR (x2_putRatio_J17 t v1 v3 v5) t (fun (a : St) => a) := by
  unfold x2_putRatio_J17
  exact MR_dvl (MR_bind (mm_x2_spread_200 t (v1 / v5)) (fun q2 hq2 => MR_dvl (MR_bind (mm_x2_spread_201 q2 (v3 / v5)) (fun q5 hq5 => MR_some (mle.trans hq2 hq5)))))
noncomputable def x2_putRatio (t : St) (a1 : Int64) (a3 : Int64) : Option (St) :=
  (x2_commonDivisor t a1 a3).bind (fun q7 => if 0 ≤ (lg_cmp q7 (1 : Int64)) then (x2_putRatio_J17 t a1 a3 q7) else (x2_putRatio_J17 t a1 a3 (1 : Int64)))
theorem mm_x2_putRatio (t : St) (a1 : Int64) (a3 : Int64) : MR (x2_putRatio t a1 a3) t (fun (a : St) => a) := by
  unfold x2_putRatio
  exact MR_bindn (fun q7 => MR_ite (MR_wk mle.rfl (mm_x2_putRatio_J17 t a1 a3 q7)) (MR_wk mle.rfl (mm_x2_putRatio_J17 t a1 a3 (1 : Int64))))
set_option maxHeartbeats 4000000 in
set_option maxRecDepth 100000 in
theorem c_x2_putRatio (l : Launch) {D : va_G} {cI cJ cZ cR : ClassId} {am gm : Nat → Nat} {st : Nat} (sz : Nat) (t : St) (a1 : Int64) (a3 : Int64) {t' : St} (ho : x2_putRatio t a1 a3 = some t') : Met l yX2_putRatio (.code yX2_putRatio cX2_putRatio 7 none :: wsAll) (rmN 2 46) (va_Pc [.ref (am 2002), .long a1, .long a3] (prX D (tyX cI cJ cZ cR) (wX cI cJ cZ cR am gm t) sz st)) (qV D (tyX cI cJ cZ cR) (wX cI cJ cZ cR am gm t') (va_A (wX cI cJ cZ cR am gm t) sz)) 0 0 (va_A (wX cI cJ cZ cR am gm t) sz) := by
  refine Met.ofW (cc := cX2_putRatio) (maxL := 7) (ret := none) (by decide) rfl ?_
  intro p e s m args below meth c s₁ B hml hv
  obtain ⟨rfl, ⟨hsz, hP, hK, hD0⟩, hsx⟩ := hv
  have hx := B.exec
  have hb := B.bytes
  have hts := atoms_spec (ws := (.code yX2_putRatio cX2_putRatio 7 none :: wsAll)) B.pre
  have hta := fun w h => hts w (List.mem_cons_of_mem _ h)
  have hown : s.vm.findClass RX2 = some m.cls := findClass_of_methodNamed B.named
  have hlocks := B.notSynchronized
  subst hsz
  have hD := hD0.self (sz := s.heap.size)
  generalize hAe : va_A (wX cI cJ cZ cR am gm t) s.heap.size = A at hD ⊢
  have hA : ∀ q : Nat, s.heap.size ≤ q → A q := fun q h => by rw [← hAe]; exact Or.inr h
  have C0 : cxX p s m ([.ref (am 2002), .long a1, .long a3].toArray) meth c cX2_putRatio RX2 7 none D (tyX cI cJ cZ cR) st A := ⟨⟨hx, hb, B.returns, hml, hown, hta, hlocks, hK, hA⟩, by rw [← hAe]; exact hsx⟩
  have hW : wl D A s (wX cI cJ cZ cR am gm t) s.heap [] := ⟨hP, hD, va_S.rf⟩
  have hl := lv_entry [.ref (am 2002), .long a1, .long a3] (n := 7) (Nat.le_of_ble_eq_true rfl)
  rw [lg_entry_eq]
  generalize (lg_sl [.ref (am 2002), .long a1, .long a3] ++ List.replicate (7 - (lg_sl [.ref (am 2002), .long a1, .long a3]).length) Slot.unset).toArray = ls at hl ⊢
  have hl : lv_has ls 7 [(0, .ref (am 2002)), (1, .long a1), (3, .long a3)] := hl
  clear hAe hD hP hD0 hts
  have J17 : ∀ (t : St) (v1 : Int64) (v3 : Int64) (v5 : Int64) (_ : x2_putRatio_J17 t v1 v3 v5 = some t') (H : Heap) (locs : List Loc) (ls : Array Slot), wl D A s (wX cI cJ cZ cR am gm t) H locs → lv_has ls 7 [(0, .ref (am 2002)), (1, .long v1), (3, .long v3), (5, .long v5)] → W p l e (rmN 2 46) s m ([.ref (am 2002), .long a1, .long a3].toArray) below meth c H locs 0 0 (MQ below (qV D (tyX cI cJ cZ cR) (wX cI cJ cZ cR am gm t') A) ([.ref (am 2002), .long a1, .long a3].toArray) s 0 0 A) (F0 m 17 ls []) := by
    intro t v1 v3 v5 ho H locs ls hW hl
    unfold x2_putRatio_J17 at ho
    refine lv_lload_n hx hb dX2_putRatio_17 rfl (lv_at hl 1 rfl) ?_
    refine lv_lload hx hb dX2_putRatio_18 (lv_at hl 3 rfl) ?_
    obtain ⟨g1, ho⟩ := dvl_some ho
    refine lv_ldiv hx hb dX2_putRatio_20 g1 ?_
    refine lv_aload_n hx hb dX2_putRatio_21 rfl (lv_at hl 0 rfl) ?_
    refine xGET_200 C0 kw_369 hW dX2_putRatio_22 ?_
    obtain ⟨q2, hc3, ho⟩ := bd_some ho
    refine bkV C0.1 hW (runSX (As := [.long (v1 / v5), .ref (am 200)]) (rest := []) C0 hW (c_x2_spread_200 l _ t (v1 / v5) (t' := q2) hc3) cb_X2_X2_spread_59 rfl rfl ⟨rfl, rfl⟩ ⟨Nat.le_of_ble_eq_true rfl, Nat.le_of_ble_eq_true rfl⟩ (Nat.le_of_ble_eq_true rfl) hl.1 dX2_putRatio_25 ⟨Nat.le_of_ble_eq_true rfl, Nat.le_of_ble_eq_true rfl⟩) (fun H locs hW => ?_)
    refine lv_lload_n hx hb dX2_putRatio_28 rfl (lv_at hl 2 rfl) ?_
    refine lv_lload hx hb dX2_putRatio_29 (lv_at hl 3 rfl) ?_
    obtain ⟨g4, ho⟩ := dvl_some ho
    refine lv_ldiv hx hb dX2_putRatio_31 g4 ?_
    refine lv_aload_n hx hb dX2_putRatio_32 rfl (lv_at hl 0 rfl) ?_
    refine xGET_201 C0 kw_370 hW dX2_putRatio_33 ?_
    obtain ⟨q5, hc6, ho⟩ := bd_some ho
    refine bkV C0.1 hW (runSX (As := [.long (v3 / v5), .ref (am 201)]) (rest := []) C0 hW (c_x2_spread_201 l _ q2 (v3 / v5) (t' := q5) hc6) cb_X2_X2_spread_59 rfl rfl ⟨rfl, rfl⟩ ⟨Nat.le_of_ble_eq_true rfl, Nat.le_of_ble_eq_true rfl⟩ (Nat.le_of_ble_eq_true rfl) hl.1 dX2_putRatio_36 ⟨Nat.le_of_ble_eq_true rfl, Nat.le_of_ble_eq_true rfl⟩) (fun H locs hW => ?_)
    cases ho
    exact rtV C0.1 hW dX2_putRatio_39
  unfold x2_putRatio at ho
  refine lv_lload_n hx hb dX2_putRatio_0 rfl (lv_at hl 1 rfl) ?_
  refine lv_lload_n hx hb dX2_putRatio_1 rfl (lv_at hl 2 rfl) ?_
  obtain ⟨q7, hc8, ho⟩ := bd_some ho
  refine bkJ C0.1 hW (runSX (As := [.long a1, .long a3]) (rest := []) C0 hW (c_x2_commonDivisor l _ t a1 a3 (r := q7) hc8) cb_X2_X2_commonDivisor_55 rfl rfl ⟨rfl, rfl⟩ ⟨Nat.le_of_ble_eq_true rfl, Nat.le_of_ble_eq_true rfl⟩ (Nat.le_of_ble_eq_true rfl) hl.1 dX2_putRatio_2 ⟨Nat.le_of_ble_eq_true rfl, Nat.le_of_ble_eq_true rfl⟩) (fun H locs hW => ?_)
  refine lv_lstore (lv' := [(5, .long q7), (0, .ref (am 2002)), (1, .long a1), (3, .long a3)]) hx hb dX2_putRatio_5 hl (by decide) rfl (fun ls hl => ?_)
  refine lv_lload hx hb dX2_putRatio_7 (lv_at hl 0 rfl) ?_
  refine lv_lconst (v := (1 : Int64)) hx hb dX2_putRatio_9 (by decide) ?_
  refine W.lcmp hx hb dX2_putRatio_10 ?_
  refine lv_if_ge (tgt := 17) hx hb dX2_putRatio_11 (by decide) (fun c9 => ?_) (fun c9 => ?_)
  · replace ho := ite_t c9 ho
    exact J17 _ _ _ _ ho _ _ _ hW (lv_sub hl [1, 2, 3, 0] rfl)
  · replace ho := ite_f c9 ho
    refine lv_lconst (v := (1 : Int64)) hx hb dX2_putRatio_14 (by decide) ?_
    refine lv_lstore (lv' := [(5, .long (1 : Int64)), (0, .ref (am 2002)), (1, .long a1), (3, .long a3)]) hx hb dX2_putRatio_15 hl (by decide) rfl (fun ls hl => ?_)
    exact J17 _ _ _ _ ho _ _ _ hW (lv_sub hl [1, 2, 3, 0] rfl)
noncomputable def x11_game_J45 (t : St) (w0 : Int32) : Option (Int32 × St) :=
  if w0 = 0 then (some ((-5 : Int32), t)) else (if (gI t 1004) ≤ (24 : Int32) then ((x3_play t).bind (fun q3 => (x2_putRatio q3 (gJ q3 309) (gJ q3 310)).bind (fun q5 => some ((1 : Int32), q5)))) else (some ((-5 : Int32), t)))
theorem mm_x11_game_J45 (t : St) (w0 : Int32) : MR (x11_game_J45 t w0) t (fun (a : Int32 × St) => a.2) := by
  unfold x11_game_J45
  exact MR_ite (MR_some mle.rfl) (MR_ite (MR_bind (mm_x3_play t) (fun q3 hq3 => MR_bind (mm_x2_putRatio q3 (gJ q3 309) (gJ q3 310)) (fun q5 hq5 => MR_some (mle.trans hq3 hq5)))) (MR_some mle.rfl))
noncomputable def x11_game (t0 : St) (a1 : Int32) : Option (Int32 × St) :=
  (x11_noNet t0 a1).bind (fun q7 => if q7 = 0 then (gd a1 (gN t0 602) (nm (gA t0 602 (a1).toNatClampNeg) (fun x12 : Int32 => if x12 < 0 then (some ((-3 : Int32), t0)) else (if (gI t0 302) = 0 then (some ((-3 : Int32), t0)) else ((x10_listAll t0 x12).bind (fun q15 => x11_game_J45 q15.2 q15.1)))))) else (some ((-2 : Int32), t0)))
theorem mm_x11_game (t0 : St) (a1 : Int32) : MR (x11_game t0 a1) t0 (fun (a : Int32 × St) => a.2) := by
  unfold x11_game
  exact MR_bindn (fun q7 => MR_ite (MR_gd (MR_nm (fun x12 _ => MR_ite (MR_some mle.rfl) (MR_ite (MR_some mle.rfl) (MR_bind (mm_x10_listAll t0 x12) (fun q15 hq15 => MR_wk hq15 (mm_x11_game_J45 q15.2 q15.1))))))) (MR_some mle.rfl))
set_option maxHeartbeats 4000000 in
set_option maxRecDepth 100000 in
theorem c_x11_game (l : Launch) {D : va_G} {cI cJ cZ cR : ClassId} {am gm : Nat → Nat} {st : Nat} (sz : Nat) (t0 : St) (a1 : Int32) {r : Int32} {t' : St} (ho : x11_game t0 a1 = some (r, t')) : Met l yX11_game (.code yX11_game cX11_game 3 (some .int) :: wsAll) (rmA 5 138 t0 t') (va_Pc [.ref (am 2011), .int a1] (prX D (tyX cI cJ cZ cR) (wX cI cJ cZ cR am gm t0) sz st)) (qIa r D (tyX cI cJ cZ cR) (fun gm => wX cI cJ cZ cR am gm t') (va_A (wX cI cJ cZ cR am gm t0) sz)) (mC t0 t') (mS t0 t') (va_A (wX cI cJ cZ cR am gm t0) sz) := by
  refine Met.ofW (cc := cX11_game) (maxL := 3) (ret := (some .int)) (by decide) rfl ?_
  intro p e s m args below meth c s₁ B hml hv
  obtain ⟨rfl, ⟨hsz, hP, hK, hD0⟩, hsx⟩ := hv
  have hx := B.exec
  have hb := B.bytes
  have hts := atoms_spec (ws := (.code yX11_game cX11_game 3 (some .int) :: wsAll)) B.pre
  have hta := fun w h => hts w (List.mem_cons_of_mem _ h)
  have hown : s.vm.findClass RX11 = some m.cls := findClass_of_methodNamed B.named
  have hlocks := B.notSynchronized
  subst hsz
  have hD := hD0.self (sz := s.heap.size)
  generalize hAe : va_A (wX cI cJ cZ cR am gm t0) s.heap.size = A at hD ⊢
  have hA : ∀ q : Nat, s.heap.size ≤ q → A q := fun q h => by rw [← hAe]; exact Or.inr h
  have C0 : cxX p s m ([.ref (am 2011), .int a1].toArray) meth c cX11_game RX11 3 (some .int) D (tyX cI cJ cZ cR) st A := ⟨⟨hx, hb, B.returns, hml, hown, hta, hlocks, hK, hA⟩, by rw [← hAe]; exact hsx⟩
  have hW : wl D A s (wX cI cJ cZ cR am gm t0) s.heap [] := ⟨hP, hD, va_S.rf⟩
  have hl := lv_entry [.ref (am 2011), .int a1] (n := 3) (Nat.le_of_ble_eq_true rfl)
  rw [lg_entry_eq]
  generalize (lg_sl [.ref (am 2011), .int a1] ++ List.replicate (3 - (lg_sl [.ref (am 2011), .int a1]).length) Slot.unset).toArray = ls at hl ⊢
  have hl : lv_has ls 3 [(0, .ref (am 2011)), (1, .int a1)] := hl
  clear hAe hD hP hD0 hts
  have J45 : ∀ (gm : Nat → Nat) (t : St) (w0 : Int32) (_ : x11_game_J45 t w0 = some (r, t')) (_ : mle t0 t) (H : Heap) (locs : List Loc) (ls : Array Slot), wl D A s (wX cI cJ cZ cR am gm t) H locs → lv_has ls 3 [(0, .ref (am 2011))] → W p l e (rmA 5 138 t0 t') s m ([.ref (am 2011), .int a1].toArray) below meth c H locs (mC t0 t) (mS t0 t) (MQ below (qIa r D (tyX cI cJ cZ cR) (fun gm => wX cI cJ cZ cR am gm t') A) ([.ref (am 2011), .int a1].toArray) s (mC t0 t') (mS t0 t') A) (F0 m 45 ls [.int w0]) := by
    intro gm t w0 ho h0 H locs ls hW hl
    have hE : mle t t' := (mm_x11_game_J45 _ _ _ ho)
    have hR := hR_of (t0 := t0) hE
    unfold x11_game_J45 at ho
    refine lv_if_eq (tgt := 60) hx hb dX11_game_45 (by decide) (fun c1 => ?_) (fun c1 => ?_)
    · replace ho := ite_t c1 ho
      refine lv_bipush (v := (-5 : Int32)) hx hb dX11_game_60 (by decide) ?_
      cases ho
      exact rtIa gm C0.1 hW dX11_game_62
    · replace ho := ite_f c1 ho
      refine lv_aload_n hx hb dX11_game_48 rfl (lv_at hl 0 rfl) ?_
      refine xGET_1104 C0 kw_595 hW dX11_game_49 ?_
      refine xGET_1004 C0 kw_338 hW dX11_game_52 ?_
      refine lv_bipush (v := (24 : Int32)) hx hb dX11_game_55 (by decide) ?_
      refine lv_icmp_le (tgt := 63) hx hb dX11_game_57 (by decide) (fun c2 => ?_) (fun c2 => ?_)
      · replace ho := ite_t c2 ho
        refine lv_aload_n hx hb dX11_game_63 rfl (lv_at hl 0 rfl) ?_
        refine xGET_1108 C0 kw_599 hW dX11_game_64 ?_
        obtain ⟨q3, hc4, ho⟩ := bd_some ho
        have hq3 := mm_x3_play t _ hc4
        refine bkV C0.1 hW (runVX (As := []) (rest := []) C0 hW (c_x3_play l _ t (t' := q3) hc4) cb_X11_X3_play_286 3 3 rfl rfl rfl rfl rfl ⟨rfl, rfl⟩ ⟨Nat.le_of_ble_eq_true rfl, Nat.le_of_ble_eq_true rfl⟩ (Nat.le_of_ble_eq_true rfl) hl.1 dX11_game_67 ⟨hR.1, hR.2⟩) (fun H locs hW => ?_)
        refine lv_aload_n hx hb dX11_game_70 rfl (lv_at hl 0 rfl) ?_
        refine xGET_1105 C0 kw_596 hW dX11_game_71 ?_
        refine lv_aload_n hx hb dX11_game_74 rfl (lv_at hl 0 rfl) ?_
        refine xGET_1108 C0 kw_599 hW dX11_game_75 ?_
        refine xGET_309 C0 kw_501 hW dX11_game_78 ?_
        refine lv_aload_n hx hb dX11_game_81 rfl (lv_at hl 0 rfl) ?_
        refine xGET_1108 C0 kw_599 hW dX11_game_82 ?_
        refine xGET_310 C0 kw_503 hW dX11_game_85 ?_
        obtain ⟨q5, hc6, ho⟩ := bd_some ho
        have hq5 := mm_x2_putRatio q3 (gJ q3 309) (gJ q3 310) _ hc6
        refine bkV C0.1 hW (runVX (As := [.long (gJ q3 309), .long (gJ q3 310)]) (rest := []) C0 hW (c_x2_putRatio l _ q3 (gJ q3 309) (gJ q3 310) (t' := q5) hc6) cb_X11_X2_putRatio_296 2 2 rfl rfl rfl rfl rfl ⟨rfl, rfl⟩ ⟨Nat.le_of_ble_eq_true rfl, Nat.le_of_ble_eq_true rfl⟩ (Nat.le_of_ble_eq_true rfl) hl.1 dX11_game_88 ⟨hR.1, hR.2⟩) (fun H locs hW => ?_)
        refine lv_iconst (v := (1 : Int32)) hx hb dX11_game_91 (by decide) ?_
        refine W_up h0 (mle.trans hq3 hq5) ?_
        cases ho
        exact rtIa gm C0.1 hW dX11_game_92
      · replace ho := ite_f c2 ho
        refine lv_bipush (v := (-5 : Int32)) hx hb dX11_game_60 (by decide) ?_
        cases ho
        exact rtIa gm C0.1 hW dX11_game_62
  have hE : mle t0 t' := mm_x11_game _ _ _ ho
  have hR := hR_of (t0 := t0) hE
  have h0 : mle t0 t0 := mle.rfl
  refine W_0 (t0 := t0) ?_
  unfold x11_game at ho
  refine lv_iload_n hx hb dX11_game_0 rfl (lv_at hl 1 rfl) ?_
  obtain ⟨q7, hc8, ho⟩ := bd_some ho
  refine bkZ C0.1 hW (runSX (As := [.int a1]) (rest := []) C0 hW (c_x11_noNet l _ t0 a1 (r := q7) hc8) cb_X11_X11_noNet_124 rfl rfl ⟨rfl, rfl⟩ ⟨Nat.le_of_ble_eq_true rfl, Nat.le_of_ble_eq_true rfl⟩ (Nat.le_of_ble_eq_true rfl) hl.1 dX11_game_1 ⟨hR.1, hR.2⟩) (fun z9 H locs hW => ?_)
  refine lv_if_eq (tgt := 10) hx hb dX11_game_4 (by decide) (fun c10 => ?_) (fun c10 => ?_)
  · replace ho := ite_t c10 ho
    refine lv_aload_n hx hb dX11_game_10 rfl (lv_at hl 0 rfl) ?_
    refine xGET_1101 C0 kw_592 hW dX11_game_11 ?_
    refine xGET_602 C0 kw_184 hW dX11_game_14 ?_
    refine lv_iload_n hx hb dX11_game_17 rfl (lv_at hl 1 rfl) ?_
    obtain ⟨g11, ho⟩ := gd_some ho
    refine xLD_602 C0 hW g11 dX11_game_18 ?_
    refine lv_nmi ho (fun x12 ho => ?_)
    refine lv_istore_n (lv' := [(2, .int x12), (0, .ref (am 2011)), (1, .int a1)]) hx hb dX11_game_19 rfl hl (by decide) rfl (fun ls hl => ?_)
    refine lv_iload_n hx hb dX11_game_20 rfl (lv_at hl 0 rfl) ?_
    refine lv_if_lt (tgt := 34) hx hb dX11_game_21 (by decide) (fun c13 => ?_) (fun c13 => ?_)
    · replace ho := ite_t c13 ho
      refine lv_bipush (v := (-3 : Int32)) hx hb dX11_game_34 (by decide) ?_
      cases ho
      exact rtIa gm C0.1 hW dX11_game_36
    · replace ho := ite_f c13 ho
      refine lv_aload_n hx hb dX11_game_24 rfl (lv_at hl 1 rfl) ?_
      refine xGET_1108 C0 kw_599 hW dX11_game_25 ?_
      refine xGET_302 C0 kw_493 hW dX11_game_28 ?_
      refine lv_if_ne (tgt := 37) hx hb dX11_game_31 (by decide) (fun c14 => ?_) (fun c14 => ?_)
      · replace ho := ite_f c14 ho
        refine lv_aload_n hx hb dX11_game_37 rfl (lv_at hl 1 rfl) ?_
        refine xGET_1104 C0 kw_595 hW dX11_game_38 ?_
        refine lv_iload_n hx hb dX11_game_41 rfl (lv_at hl 0 rfl) ?_
        obtain ⟨q15, hc16, ho⟩ := bd_some ho
        have hq15 := mm_x10_listAll t0 x12 _ hc16
        have hEq15 := (mm_x11_game_J45 _ _ _ ho)
        refine bkZa C0.1 hW h0 hq15 (runVX (As := [.int x12]) (rest := []) C0 hW (c_x10_listAll l _ t0 x12 (r := q15.1) (t' := q15.2) hc16) cb_X11_X10_listAll_167 10 10 rfl rfl rfl rfl rfl ⟨rfl, rfl⟩ ⟨Nat.le_of_ble_eq_true rfl, Nat.le_of_ble_eq_true rfl⟩ (Nat.le_of_ble_eq_true rfl) hl.1 dX11_game_42 (hf_of h0 hq15 hEq15)) (fun z17 gm H locs hW => ?_)
        have h0 := mle.trans h0 hq15
        exact J45 gm _ _ ho h0 _ _ _ hW (lv_sub hl [1] rfl)
      · replace ho := ite_t c14 ho
        refine lv_bipush (v := (-3 : Int32)) hx hb dX11_game_34 (by decide) ?_
        cases ho
        exact rtIa gm C0.1 hW dX11_game_36
  · replace ho := ite_f c10 ho
    refine lv_bipush (v := (-2 : Int32)) hx hb dX11_game_7 (by decide) ?_
    cases ho
    exact rtIa gm C0.1 hW dX11_game_9
noncomputable def x10_bribe (t : St) (a1 : Int32) : Option (Int32 × St) :=
  if (gI t 1007) < (6 : Int32) then (gd (gI t 1007) (gN t 1006) (nm (sA t 1006 (gI t 1007) a1) (fun t3 : St => nm (sI t3 1007 ((gI t3 1007) + (1 : Int32))) (fun t4 : St => some ((1 : Int32), t4))))) else (some ((0 : Int32), t))
theorem mm_x10_bribe (t : St) (a1 : Int32) : MR (x10_bribe t a1) t (fun (a : Int32 × St) => a.2) := by
  unfold x10_bribe
  exact MR_ite (MR_gd (MR_nmS mle_sA (fun t3 ht3 => MR_nmS mle_sI (fun t4 ht4 => MR_some (mle.trans ht3 ht4))))) (MR_some mle.rfl)
set_option maxHeartbeats 4000000 in
set_option maxRecDepth 100000 in
theorem c_x10_bribe (l : Launch) {D : va_G} {cI cJ cZ cR : ClassId} {am gm : Nat → Nat} {st : Nat} (sz : Nat) (t : St) (a1 : Int32) {r : Int32} {t' : St} (ho : x10_bribe t a1 = some (r, t')) : Met l yX10_bribe (.code yX10_bribe cX10_bribe 2 (some .boolean) :: wsAll) (rmN 0 0) (va_Pc [.ref (am 2010), .int a1] (prX D (tyX cI cJ cZ cR) (wX cI cJ cZ cR am gm t) sz st)) (qZ r D (tyX cI cJ cZ cR) (wX cI cJ cZ cR am gm t') (va_A (wX cI cJ cZ cR am gm t) sz)) 0 0 (va_A (wX cI cJ cZ cR am gm t) sz) := by
  refine Met.ofW (cc := cX10_bribe) (maxL := 2) (ret := (some .boolean)) (by decide) rfl ?_
  intro p e s m args below meth c s₁ B hml hv
  obtain ⟨rfl, ⟨hsz, hP, hK, hD0⟩, hsx⟩ := hv
  have hx := B.exec
  have hb := B.bytes
  have hts := atoms_spec (ws := (.code yX10_bribe cX10_bribe 2 (some .boolean) :: wsAll)) B.pre
  have hta := fun w h => hts w (List.mem_cons_of_mem _ h)
  have hown : s.vm.findClass RX10 = some m.cls := findClass_of_methodNamed B.named
  have hlocks := B.notSynchronized
  subst hsz
  have hD := hD0.self (sz := s.heap.size)
  generalize hAe : va_A (wX cI cJ cZ cR am gm t) s.heap.size = A at hD ⊢
  have hA : ∀ q : Nat, s.heap.size ≤ q → A q := fun q h => by rw [← hAe]; exact Or.inr h
  have C0 : cxX p s m ([.ref (am 2010), .int a1].toArray) meth c cX10_bribe RX10 2 (some .boolean) D (tyX cI cJ cZ cR) st A := ⟨⟨hx, hb, B.returns, hml, hown, hta, hlocks, hK, hA⟩, by rw [← hAe]; exact hsx⟩
  have hW : wl D A s (wX cI cJ cZ cR am gm t) s.heap [] := ⟨hP, hD, va_S.rf⟩
  have hl := lv_entry [.ref (am 2010), .int a1] (n := 2) (Nat.le_of_ble_eq_true rfl)
  rw [lg_entry_eq]
  generalize (lg_sl [.ref (am 2010), .int a1] ++ List.replicate (2 - (lg_sl [.ref (am 2010), .int a1]).length) Slot.unset).toArray = ls at hl ⊢
  have hl : lv_has ls 2 [(0, .ref (am 2010)), (1, .int a1)] := hl
  unfold x10_bribe at ho
  refine lv_aload_n hx hb dX10_bribe_0 rfl (lv_at hl 0 rfl) ?_
  refine xGET_1007 C0 kw_341 hW dX10_bribe_1 ?_
  refine lv_bipush (v := (6 : Int32)) hx hb dX10_bribe_4 (by decide) ?_
  refine lv_icmp_lt (tgt := 11) hx hb dX10_bribe_6 (by decide) (fun c1 => ?_) (fun c1 => ?_)
  · replace ho := ite_t c1 ho
    refine lv_aload_n hx hb dX10_bribe_11 rfl (lv_at hl 0 rfl) ?_
    refine xGET_1006 C0 kw_340 hW dX10_bribe_12 ?_
    refine lv_aload_n hx hb dX10_bribe_15 rfl (lv_at hl 0 rfl) ?_
    refine xGET_1007 C0 kw_341 hW dX10_bribe_16 ?_
    refine lv_iload_n hx hb dX10_bribe_19 rfl (lv_at hl 1 rfl) ?_
    obtain ⟨g2, ho⟩ := gd_some ho
    refine xST_1006 C0 hW g2 dX10_bribe_20 (fun H locs hW => ?_)
    obtain ⟨t3, ho, hW⟩ := nm_w (P := fun t => wl D A s (wX cI cJ cZ cR am gm t) H locs) ho hW
    refine lv_aload_n hx hb dX10_bribe_21 rfl (lv_at hl 0 rfl) ?_
    refine lv_dup hx hb dX10_bribe_22 rfl ?_
    refine xGET_1007 C0 kw_341 hW dX10_bribe_23 ?_
    refine lv_iconst (v := (1 : Int32)) hx hb dX10_bribe_26 (by decide) ?_
    refine lv_iadd hx hb dX10_bribe_27 ?_
    refine xPUT_1007 C0 kw_341 hW dX10_bribe_28 (fun H locs hW => ?_)
    obtain ⟨t4, ho, hW⟩ := nm_w (P := fun t => wl D A s (wX cI cJ cZ cR am gm t) H locs) ho hW
    refine lv_iconst (v := (1 : Int32)) hx hb dX10_bribe_31 (by decide) ?_
    cases ho
    exact rtZ C0.1 hW (Or.inr (rfl : (1 : Int32) = 1)) dX10_bribe_32
  · replace ho := ite_f c1 ho
    refine lv_iconst (v := (0 : Int32)) hx hb dX10_bribe_9 (by decide) ?_
    cases ho
    exact rtZ C0.1 hW (Or.inl (rfl : (0 : Int32) = 0)) dX10_bribe_10
noncomputable def x11_insider (t : St) (a1 : Int32) : Option (Int32 × St) :=
  (x11_outside t a1 (0 : Int32) (65535 : Int32)).bind (fun q1 => if q1 = 0 then ((x10_bribe t a1).bind (fun q5 => if q5.1 = 0 then (some ((-4 : Int32), q5.2)) else (some (((gI q5.2 1007) - (1 : Int32)), q5.2)))) else (some ((-2 : Int32), t)))
theorem mm_x11_insider (t : St) (a1 : Int32) : MR (x11_insider t a1) t (fun (a : Int32 × St) => a.2) := by
  unfold x11_insider
  exact MR_bindn (fun q1 => MR_ite (MR_bind (mm_x10_bribe t a1) (fun q5 hq5 => MR_ite (MR_some hq5) (MR_some hq5))) (MR_some mle.rfl))
set_option maxHeartbeats 4000000 in
set_option maxRecDepth 100000 in
theorem c_x11_insider (l : Launch) {D : va_G} {cI cJ cZ cR : ClassId} {am gm : Nat → Nat} {st : Nat} (sz : Nat) (t : St) (a1 : Int32) {r : Int32} {t' : St} (ho : x11_insider t a1 = some (r, t')) : Met l yX11_insider (.code yX11_insider cX11_insider 2 (some .int) :: wsAll) (rmN 1 22) (va_Pc [.ref (am 2011), .int a1] (prX D (tyX cI cJ cZ cR) (wX cI cJ cZ cR am gm t) sz st)) (qI r D (tyX cI cJ cZ cR) (wX cI cJ cZ cR am gm t') (va_A (wX cI cJ cZ cR am gm t) sz)) 0 0 (va_A (wX cI cJ cZ cR am gm t) sz) := by
  refine Met.ofW (cc := cX11_insider) (maxL := 2) (ret := (some .int)) (by decide) rfl ?_
  intro p e s m args below meth c s₁ B hml hv
  obtain ⟨rfl, ⟨hsz, hP, hK, hD0⟩, hsx⟩ := hv
  have hx := B.exec
  have hb := B.bytes
  have hts := atoms_spec (ws := (.code yX11_insider cX11_insider 2 (some .int) :: wsAll)) B.pre
  have hta := fun w h => hts w (List.mem_cons_of_mem _ h)
  have hown : s.vm.findClass RX11 = some m.cls := findClass_of_methodNamed B.named
  have hlocks := B.notSynchronized
  subst hsz
  have hD := hD0.self (sz := s.heap.size)
  generalize hAe : va_A (wX cI cJ cZ cR am gm t) s.heap.size = A at hD ⊢
  have hA : ∀ q : Nat, s.heap.size ≤ q → A q := fun q h => by rw [← hAe]; exact Or.inr h
  have C0 : cxX p s m ([.ref (am 2011), .int a1].toArray) meth c cX11_insider RX11 2 (some .int) D (tyX cI cJ cZ cR) st A := ⟨⟨hx, hb, B.returns, hml, hown, hta, hlocks, hK, hA⟩, by rw [← hAe]; exact hsx⟩
  have hW : wl D A s (wX cI cJ cZ cR am gm t) s.heap [] := ⟨hP, hD, va_S.rf⟩
  have hl := lv_entry [.ref (am 2011), .int a1] (n := 2) (Nat.le_of_ble_eq_true rfl)
  rw [lg_entry_eq]
  generalize (lg_sl [.ref (am 2011), .int a1] ++ List.replicate (2 - (lg_sl [.ref (am 2011), .int a1]).length) Slot.unset).toArray = ls at hl ⊢
  have hl : lv_has ls 2 [(0, .ref (am 2011)), (1, .int a1)] := hl
  unfold x11_insider at ho
  refine lv_iload_n hx hb dX11_insider_0 rfl (lv_at hl 1 rfl) ?_
  refine lv_iconst (v := (0 : Int32)) hx hb dX11_insider_1 (by decide) ?_
  refine lv_ldc hx hb hown (hta _ kw_798) dX11_insider_2 ?_
  obtain ⟨q1, hc2, ho⟩ := bd_some ho
  refine bkZ C0.1 hW (runSX (As := [.int a1, .int (0 : Int32), .int (65535 : Int32)]) (rest := []) C0 hW (c_x11_outside l _ t a1 (0 : Int32) (65535 : Int32) (r := q1) hc2) cb_X11_X11_outside_102 rfl rfl ⟨rfl, rfl⟩ ⟨Nat.le_of_ble_eq_true rfl, Nat.le_of_ble_eq_true rfl⟩ (Nat.le_of_ble_eq_true rfl) hl.1 dX11_insider_4 ⟨Nat.le_of_ble_eq_true rfl, Nat.le_of_ble_eq_true rfl⟩) (fun z3 H locs hW => ?_)
  refine lv_if_eq (tgt := 13) hx hb dX11_insider_7 (by decide) (fun c4 => ?_) (fun c4 => ?_)
  · replace ho := ite_t c4 ho
    refine lv_aload_n hx hb dX11_insider_13 rfl (lv_at hl 0 rfl) ?_
    refine xGET_1104 C0 kw_595 hW dX11_insider_14 ?_
    refine lv_iload_n hx hb dX11_insider_17 rfl (lv_at hl 1 rfl) ?_
    obtain ⟨q5, hc6, ho⟩ := bd_some ho
    refine bkZ C0.1 hW (runVX (As := [.int a1]) (rest := []) C0 hW (c_x10_bribe l _ t a1 (r := q5.1) (t' := q5.2) hc6) cb_X11_X10_bribe_300 10 10 rfl rfl rfl rfl rfl ⟨rfl, rfl⟩ ⟨Nat.le_of_ble_eq_true rfl, Nat.le_of_ble_eq_true rfl⟩ (Nat.le_of_ble_eq_true rfl) hl.1 dX11_insider_18 ⟨Nat.le_of_ble_eq_true rfl, Nat.le_of_ble_eq_true rfl⟩) (fun z7 H locs hW => ?_)
    refine lv_if_eq (tgt := 36) hx hb dX11_insider_21 (by decide) (fun c8 => ?_) (fun c8 => ?_)
    · replace ho := ite_t c8 ho
      refine lv_bipush (v := (-4 : Int32)) hx hb dX11_insider_36 (by decide) ?_
      cases ho
      exact rtI C0.1 hW dX11_insider_38
    · replace ho := ite_f c8 ho
      refine lv_aload_n hx hb dX11_insider_24 rfl (lv_at hl 0 rfl) ?_
      refine xGET_1104 C0 kw_595 hW dX11_insider_25 ?_
      refine xGET_1007 C0 kw_342 hW dX11_insider_28 ?_
      refine lv_iconst (v := (1 : Int32)) hx hb dX11_insider_31 (by decide) ?_
      refine lv_isub hx hb dX11_insider_32 ?_
      refine lv_goto (tgt := 38) hx hb dX11_insider_33 (by decide) ?_
      cases ho
      exact rtI C0.1 hW dX11_insider_38
  · replace ho := ite_f c4 ho
    refine lv_bipush (v := (-2 : Int32)) hx hb dX11_insider_10 (by decide) ?_
    cases ho
    exact rtI C0.1 hW dX11_insider_12
noncomputable def x10_givenBy_B4 (t : St) (v1 : Int32) (v2 : Int32) (v3 : Int32) : Option ((Int32 × Int32) ⊕ (Int32)) :=
  if (gI t 1007) ≤ v3 then (some (.inr v2)) else (if ((v1 >>> (v3 &&& 31)) &&& (1 : Int32)) = (1 : Int32) then (gd v3 (gN t 1006) (nm (v2 ||| (gA t 1006 (v3).toNatClampNeg)) (fun x5 : Int32 => nm (v3 + (1 : Int32)) (fun x6 : Int32 => some (.inl (x5, x6)))))) else (nm (v3 + (1 : Int32)) (fun x3 : Int32 => some (.inl (v2, x3)))))
noncomputable def x10_givenBy (t : St) (a1 : Int32) : Option (Int32) :=
  (lp (fun x => x10_givenBy_B4 t a1 x.1 x.2) ((0 : Int32), (0 : Int32))).bind (fun y7 => some y7)
set_option maxHeartbeats 4000000 in
set_option maxRecDepth 100000 in
theorem x10_givenBy_L4 {p : Program} {l : Launch} {e : Env} {s : State} {m : MethodId} {args : Array Value} {below : List Frame} {meth : Method} {c : Code} {Q : State → Prop} {D : va_G} {cI cJ cZ cR : ClassId} {am gm : Nat → Nat} {st : Nat} {A : Nat → Prop} (C0 : cxX p s m args meth c cX10_givenBy RX10 4 (some .int) D (tyX cI cJ cZ cR) st A) {t : St} {v1 : Int32} {y : Int32} (hK0 : ∀ (H : Heap) (locs : List Loc) (ls : Array Slot), wl D A s (wX cI cJ cZ cR am gm t) H locs → lv_has ls 4 [(0, .ref (am 2010)), (2, .int y)] → W p l e (rmN 0 0) s m args below meth c H locs 0 0 Q (F0 m 36 ls [])) :
    ∀ (n : Nat) (v2 : Int32) (v3 : Int32), lpn (fun x => x10_givenBy_B4 t v1 x.1 x.2) n (v2, v3) = some y → ∀ (H : Heap) (locs : List Loc) (ls : Array Slot), wl D A s (wX cI cJ cZ cR am gm t) H locs → lv_has ls 4 [(0, .ref (am 2010)), (1, .int v1), (2, .int v2), (3, .int v3)] → W p l e (rmN 0 0) s m args below meth c H locs 0 0 Q (F0 m 4 ls []) := by
  have hx := C0.1.1
  have hb := C0.1.2.1
  have hta := C0.1.2.2.2.2.2.1
  have hown := C0.1.2.2.2.2.1
  intro n
  induction n with
  | zero => intro _ _ h; cases h
  | succ n ih =>
    intro v2 v3 hrun H locs ls hW hl
    obtain ⟨o, ho, hrun⟩ := bd_some hrun
    unfold x10_givenBy_B4 at ho
    refine lv_iload_n hx hb dX10_givenBy_4 rfl (lv_at hl 3 rfl) ?_
    refine lv_aload_n hx hb dX10_givenBy_5 rfl (lv_at hl 0 rfl) ?_
    refine xGET_1007 C0 kw_341 hW dX10_givenBy_6 ?_
    refine lv_icmp_ge (tgt := 36) hx hb dX10_givenBy_9 (by decide) (fun c1 => ?_) (fun c1 => ?_)
    · replace ho := ite_t c1 ho
      cases ho
      cases hrun
      exact hK0 _ _ _ hW (lv_sub hl [0, 2] rfl)
    · replace ho := ite_f c1 ho
      refine lv_iload_n hx hb dX10_givenBy_12 rfl (lv_at hl 1 rfl) ?_
      refine lv_iload_n hx hb dX10_givenBy_13 rfl (lv_at hl 3 rfl) ?_
      refine lv_ishr hx hb dX10_givenBy_14 ?_
      refine lv_iconst (v := (1 : Int32)) hx hb dX10_givenBy_15 (by decide) ?_
      refine lv_iand hx hb dX10_givenBy_16 ?_
      refine lv_iconst (v := (1 : Int32)) hx hb dX10_givenBy_17 (by decide) ?_
      refine lv_icmp_ne (tgt := 30) hx hb dX10_givenBy_18 (by decide) (fun c2 => ?_) (fun c2 => ?_)
      · replace ho := ite_f c2 ho
        obtain ⟨x3, ex3, ho⟩ := nm_x ho
        refine lv_iinc (v := x3) (lv' := [(3, .int x3), (0, .ref (am 2010)), (1, .int v1), (2, .int v2)]) hx hb dX10_givenBy_30 hl (k := 3) rfl (by rw [ex3]; rfl) (by decide) rfl (fun ls hl => ?_)
        clear ex3
        refine lv_goto (tgt := 4) hx hb dX10_givenBy_33 (by decide) ?_
        cases ho
        exact ih _ _ hrun _ _ _ hW (lv_sub hl [1, 2, 3, 0] rfl)
      · replace ho := ite_t c2 ho
        refine lv_iload_n hx hb dX10_givenBy_21 rfl (lv_at hl 2 rfl) ?_
        refine lv_aload_n hx hb dX10_givenBy_22 rfl (lv_at hl 0 rfl) ?_
        refine xGET_1006 C0 kw_340 hW dX10_givenBy_23 ?_
        refine lv_iload_n hx hb dX10_givenBy_26 rfl (lv_at hl 3 rfl) ?_
        obtain ⟨g4, ho⟩ := gd_some ho
        refine xLD_1006 C0 hW g4 dX10_givenBy_27 ?_
        refine lv_ior hx hb dX10_givenBy_28 ?_
        refine lv_nmi ho (fun x5 ho => ?_)
        refine lv_istore_n (lv' := [(2, .int x5), (0, .ref (am 2010)), (1, .int v1), (3, .int v3)]) hx hb dX10_givenBy_29 rfl hl (by decide) rfl (fun ls hl => ?_)
        obtain ⟨x6, ex6, ho⟩ := nm_x ho
        refine lv_iinc (v := x6) (lv' := [(3, .int x6), (2, .int x5), (0, .ref (am 2010)), (1, .int v1)]) hx hb dX10_givenBy_30 hl (k := 3) rfl (by rw [ex6]; rfl) (by decide) rfl (fun ls hl => ?_)
        clear ex6
        refine lv_goto (tgt := 4) hx hb dX10_givenBy_33 (by decide) ?_
        cases ho
        exact ih _ _ hrun _ _ _ hW (lv_sub hl [2, 3, 1, 0] rfl)
set_option maxHeartbeats 4000000 in
set_option maxRecDepth 100000 in
theorem c_x10_givenBy (l : Launch) {D : va_G} {cI cJ cZ cR : ClassId} {am gm : Nat → Nat} {st : Nat} (sz : Nat) (t : St) (a1 : Int32) {r : Int32} (ho : x10_givenBy t a1 = some r) : Met l yX10_givenBy (.code yX10_givenBy cX10_givenBy 4 (some .int) :: wsAll) (rmN 0 0) (va_Pc [.ref (am 2010), .int a1] (prX D (tyX cI cJ cZ cR) (wX cI cJ cZ cR am gm t) sz st)) (qI r D (tyX cI cJ cZ cR) (wX cI cJ cZ cR am gm t) (va_A (wX cI cJ cZ cR am gm t) sz)) 0 0 (va_A (wX cI cJ cZ cR am gm t) sz) := by
  refine Met.ofW (cc := cX10_givenBy) (maxL := 4) (ret := (some .int)) (by decide) rfl ?_
  intro p e s m args below meth c s₁ B hml hv
  obtain ⟨rfl, ⟨hsz, hP, hK, hD0⟩, hsx⟩ := hv
  have hx := B.exec
  have hb := B.bytes
  have hts := atoms_spec (ws := (.code yX10_givenBy cX10_givenBy 4 (some .int) :: wsAll)) B.pre
  have hta := fun w h => hts w (List.mem_cons_of_mem _ h)
  have hown : s.vm.findClass RX10 = some m.cls := findClass_of_methodNamed B.named
  have hlocks := B.notSynchronized
  subst hsz
  have hD := hD0.self (sz := s.heap.size)
  generalize hAe : va_A (wX cI cJ cZ cR am gm t) s.heap.size = A at hD ⊢
  have hA : ∀ q : Nat, s.heap.size ≤ q → A q := fun q h => by rw [← hAe]; exact Or.inr h
  have C0 : cxX p s m ([.ref (am 2010), .int a1].toArray) meth c cX10_givenBy RX10 4 (some .int) D (tyX cI cJ cZ cR) st A := ⟨⟨hx, hb, B.returns, hml, hown, hta, hlocks, hK, hA⟩, by rw [← hAe]; exact hsx⟩
  have hW : wl D A s (wX cI cJ cZ cR am gm t) s.heap [] := ⟨hP, hD, va_S.rf⟩
  have hl := lv_entry [.ref (am 2010), .int a1] (n := 4) (Nat.le_of_ble_eq_true rfl)
  rw [lg_entry_eq]
  generalize (lg_sl [.ref (am 2010), .int a1] ++ List.replicate (4 - (lg_sl [.ref (am 2010), .int a1]).length) Slot.unset).toArray = ls at hl ⊢
  have hl : lv_has ls 4 [(0, .ref (am 2010)), (1, .int a1)] := hl
  unfold x10_givenBy at ho
  refine lv_iconst (v := (0 : Int32)) hx hb dX10_givenBy_0 (by decide) ?_
  refine lv_istore_n (lv' := [(2, .int (0 : Int32)), (0, .ref (am 2010)), (1, .int a1)]) hx hb dX10_givenBy_1 rfl hl (by decide) rfl (fun ls hl => ?_)
  refine lv_iconst (v := (0 : Int32)) hx hb dX10_givenBy_2 (by decide) ?_
  refine lv_istore_n (lv' := [(3, .int (0 : Int32)), (2, .int (0 : Int32)), (0, .ref (am 2010)), (1, .int a1)]) hx hb dX10_givenBy_3 rfl hl (by decide) rfl (fun ls hl => ?_)
  obtain ⟨y7, hc9, ho⟩ := bd_some ho
  obtain ⟨ny7, hc9⟩ := lp_to hc9
  refine x10_givenBy_L4 C0 ?_ ny7 _ _ hc9 _ _ _ hW (lv_sub hl [2, 3, 1, 0] rfl)
  intro H locs ls hW hl
  refine lv_iload_n hx hb dX10_givenBy_36 rfl (lv_at hl 1 rfl) ?_
  cases ho
  exact rtI C0.1 hW dX10_givenBy_37
noncomputable def x10_leastPriceWith_B6 (t : St) (v1 : Int32) (v2 : Int32) (v3 : Int32) : Option ((Int32 × Int32) ⊕ (Int32)) :=
  if (gI t 1004) ≤ v3 then (some (.inr v2)) else (gd v3 (gN t 1002) ((x5_sumOf t ((gA t 1002 (v3).toNatClampNeg) &&& (v1 ^^^ (-1 : Int32))) (0 : Int32)).bind (fun q3 => nm (if q3 < v2 then q3 else v2) (fun x5 : Int32 => nm (v3 + (1 : Int32)) (fun x6 : Int32 => some (.inl (x5, x6)))))))
noncomputable def x10_leastPriceWith (t : St) (a1 : Int32) : Option (Int32) :=
  (lp (fun x => x10_leastPriceWith_B6 t a1 x.1 x.2) ((16001 : Int32), (0 : Int32))).bind (fun y7 => some y7)
set_option maxHeartbeats 4000000 in
set_option maxRecDepth 100000 in
theorem x10_leastPriceWith_L6 {p : Program} {l : Launch} {e : Env} {s : State} {m : MethodId} {args : Array Value} {below : List Frame} {meth : Method} {c : Code} {Q : State → Prop} {D : va_G} {cI cJ cZ cR : ClassId} {am gm : Nat → Nat} {st : Nat} {A : Nat → Prop} (C0 : cxX p s m args meth c cX10_leastPriceWith RX10 4 (some .int) D (tyX cI cJ cZ cR) st A) {t : St} {v1 : Int32} {y : Int32} (hK0 : ∀ (H : Heap) (locs : List Loc) (ls : Array Slot), wl D A s (wX cI cJ cZ cR am gm t) H locs → lv_has ls 4 [(0, .ref (am 2010)), (2, .int y)] → W p l e (rmN 2 46) s m args below meth c H locs 0 0 Q (F0 m 43 ls [])) :
    ∀ (n : Nat) (v2 : Int32) (v3 : Int32), lpn (fun x => x10_leastPriceWith_B6 t v1 x.1 x.2) n (v2, v3) = some y → ∀ (H : Heap) (locs : List Loc) (ls : Array Slot), wl D A s (wX cI cJ cZ cR am gm t) H locs → lv_has ls 4 [(0, .ref (am 2010)), (1, .int v1), (2, .int v2), (3, .int v3)] → W p l e (rmN 2 46) s m args below meth c H locs 0 0 Q (F0 m 6 ls []) := by
  have hx := C0.1.1
  have hb := C0.1.2.1
  have hta := C0.1.2.2.2.2.2.1
  have hown := C0.1.2.2.2.2.1
  intro n
  induction n with
  | zero => intro _ _ h; cases h
  | succ n ih =>
    intro v2 v3 hrun H locs ls hW hl
    obtain ⟨o, ho, hrun⟩ := bd_some hrun
    unfold x10_leastPriceWith_B6 at ho
    refine lv_iload_n hx hb dX10_leastPriceWith_6 rfl (lv_at hl 3 rfl) ?_
    refine lv_aload_n hx hb dX10_leastPriceWith_7 rfl (lv_at hl 0 rfl) ?_
    refine xGET_1004 C0 kw_336 hW dX10_leastPriceWith_8 ?_
    refine lv_icmp_ge (tgt := 43) hx hb dX10_leastPriceWith_11 (by decide) (fun c1 => ?_) (fun c1 => ?_)
    · replace ho := ite_t c1 ho
      cases ho
      cases hrun
      exact hK0 _ _ _ hW (lv_sub hl [0, 2] rfl)
    · replace ho := ite_f c1 ho
      refine lv_iload_n hx hb dX10_leastPriceWith_14 rfl (lv_at hl 2 rfl) ?_
      refine lv_aload_n hx hb dX10_leastPriceWith_15 rfl (lv_at hl 0 rfl) ?_
      refine xGET_1000 C0 kw_330 hW dX10_leastPriceWith_16 ?_
      refine lv_aload_n hx hb dX10_leastPriceWith_19 rfl (lv_at hl 0 rfl) ?_
      refine xGET_1002 C0 kw_332 hW dX10_leastPriceWith_20 ?_
      refine lv_iload_n hx hb dX10_leastPriceWith_23 rfl (lv_at hl 3 rfl) ?_
      obtain ⟨g2, ho⟩ := gd_some ho
      refine xLD_1002 C0 hW g2 dX10_leastPriceWith_24 ?_
      refine lv_iload_n hx hb dX10_leastPriceWith_25 rfl (lv_at hl 1 rfl) ?_
      refine lv_iconst (v := (-1 : Int32)) hx hb dX10_leastPriceWith_26 (by decide) ?_
      refine lv_ixor hx hb dX10_leastPriceWith_27 ?_
      refine lv_iand hx hb dX10_leastPriceWith_28 ?_
      refine lv_iconst (v := (0 : Int32)) hx hb dX10_leastPriceWith_29 (by decide) ?_
      obtain ⟨q3, hc4, ho⟩ := bd_some ho
      refine bkI C0.1 hW (runVX (As := [.int ((gA t 1002 (v3).toNatClampNeg) &&& (v1 ^^^ (-1 : Int32))), .int (0 : Int32)]) (rest := [.int v2]) C0 hW (c_x5_sumOf l _ t ((gA t 1002 (v3).toNatClampNeg) &&& (v1 ^^^ (-1 : Int32))) (0 : Int32) (r := q3) hc4) cb_X10_X5_sumOf_80 5 5 rfl rfl rfl rfl rfl ⟨rfl, rfl⟩ ⟨Nat.le_of_ble_eq_true rfl, Nat.le_of_ble_eq_true rfl⟩ (Nat.le_of_ble_eq_true rfl) hl.1 dX10_leastPriceWith_30 ⟨Nat.le_of_ble_eq_true rfl, Nat.le_of_ble_eq_true rfl⟩) (fun H locs hW => ?_)
      refine va_mmin (rest := []) hx hb (C0.1.2.2.2.1.trans hl.1.symm) hown (hta _ kw_1250) (hta _ kw_748) (hta _ kw_136) (hta _ kw_749) (Nat.le_of_ble_eq_true rfl) (Nat.le_of_ble_eq_true rfl) (Nat.le_of_ble_eq_true rfl) (Nat.le_of_ble_eq_true rfl) dX10_leastPriceWith_33 ?_
      refine lv_nmi ho (fun x5 ho => ?_)
      refine lv_istore_n (lv' := [(2, .int x5), (0, .ref (am 2010)), (1, .int v1), (3, .int v3)]) hx hb dX10_leastPriceWith_36 rfl hl (by decide) rfl (fun ls hl => ?_)
      obtain ⟨x6, ex6, ho⟩ := nm_x ho
      refine lv_iinc (v := x6) (lv' := [(3, .int x6), (2, .int x5), (0, .ref (am 2010)), (1, .int v1)]) hx hb dX10_leastPriceWith_37 hl (k := 3) rfl (by rw [ex6]; rfl) (by decide) rfl (fun ls hl => ?_)
      clear ex6
      refine lv_goto (tgt := 6) hx hb dX10_leastPriceWith_40 (by decide) ?_
      cases ho
      exact ih _ _ hrun _ _ _ hW (lv_sub hl [2, 3, 1, 0] rfl)
set_option maxHeartbeats 4000000 in
set_option maxRecDepth 100000 in
theorem c_x10_leastPriceWith (l : Launch) {D : va_G} {cI cJ cZ cR : ClassId} {am gm : Nat → Nat} {st : Nat} (sz : Nat) (t : St) (a1 : Int32) {r : Int32} (ho : x10_leastPriceWith t a1 = some r) : Met l yX10_leastPriceWith (.code yX10_leastPriceWith cX10_leastPriceWith 4 (some .int) :: wsAll) (rmN 2 46) (va_Pc [.ref (am 2010), .int a1] (prX D (tyX cI cJ cZ cR) (wX cI cJ cZ cR am gm t) sz st)) (qI r D (tyX cI cJ cZ cR) (wX cI cJ cZ cR am gm t) (va_A (wX cI cJ cZ cR am gm t) sz)) 0 0 (va_A (wX cI cJ cZ cR am gm t) sz) := by
  refine Met.ofW (cc := cX10_leastPriceWith) (maxL := 4) (ret := (some .int)) (by decide) rfl ?_
  intro p e s m args below meth c s₁ B hml hv
  obtain ⟨rfl, ⟨hsz, hP, hK, hD0⟩, hsx⟩ := hv
  have hx := B.exec
  have hb := B.bytes
  have hts := atoms_spec (ws := (.code yX10_leastPriceWith cX10_leastPriceWith 4 (some .int) :: wsAll)) B.pre
  have hta := fun w h => hts w (List.mem_cons_of_mem _ h)
  have hown : s.vm.findClass RX10 = some m.cls := findClass_of_methodNamed B.named
  have hlocks := B.notSynchronized
  subst hsz
  have hD := hD0.self (sz := s.heap.size)
  generalize hAe : va_A (wX cI cJ cZ cR am gm t) s.heap.size = A at hD ⊢
  have hA : ∀ q : Nat, s.heap.size ≤ q → A q := fun q h => by rw [← hAe]; exact Or.inr h
  have C0 : cxX p s m ([.ref (am 2010), .int a1].toArray) meth c cX10_leastPriceWith RX10 4 (some .int) D (tyX cI cJ cZ cR) st A := ⟨⟨hx, hb, B.returns, hml, hown, hta, hlocks, hK, hA⟩, by rw [← hAe]; exact hsx⟩
  have hW : wl D A s (wX cI cJ cZ cR am gm t) s.heap [] := ⟨hP, hD, va_S.rf⟩
  have hl := lv_entry [.ref (am 2010), .int a1] (n := 4) (Nat.le_of_ble_eq_true rfl)
  rw [lg_entry_eq]
  generalize (lg_sl [.ref (am 2010), .int a1] ++ List.replicate (4 - (lg_sl [.ref (am 2010), .int a1]).length) Slot.unset).toArray = ls at hl ⊢
  have hl : lv_has ls 4 [(0, .ref (am 2010)), (1, .int a1)] := hl
  unfold x10_leastPriceWith at ho
  refine lv_sipush (v := (16001 : Int32)) hx hb dX10_leastPriceWith_0 (by decide) ?_
  refine lv_istore_n (lv' := [(2, .int (16001 : Int32)), (0, .ref (am 2010)), (1, .int a1)]) hx hb dX10_leastPriceWith_3 rfl hl (by decide) rfl (fun ls hl => ?_)
  refine lv_iconst (v := (0 : Int32)) hx hb dX10_leastPriceWith_4 (by decide) ?_
  refine lv_istore_n (lv' := [(3, .int (0 : Int32)), (2, .int (16001 : Int32)), (0, .ref (am 2010)), (1, .int a1)]) hx hb dX10_leastPriceWith_5 rfl hl (by decide) rfl (fun ls hl => ?_)
  obtain ⟨y7, hc9, ho⟩ := bd_some ho
  obtain ⟨ny7, hc9⟩ := lp_to hc9
  refine x10_leastPriceWith_L6 C0 ?_ ny7 _ _ hc9 _ _ _ hW (lv_sub hl [2, 3, 1, 0] rfl)
  intro H locs ls hW hl
  refine lv_iload_n hx hb dX10_leastPriceWith_43 rfl (lv_at hl 1 rfl) ?_
  cases ho
  exact rtI C0.1 hW dX10_leastPriceWith_44
noncomputable def x10_worstSet_B9 (t : St) (v1 : Int32) (v2 : Int32) (v3 : Int32) (v4 : Int32) : Option ((Int32 × Int32 × Int32) ⊕ (Int32)) :=
  if ((1 : Int32) <<< ((gI t 1007) &&& 31)) ≤ v4 then (some (.inr v2)) else ((j6_bitCount_0f7a4 t v4).bind (fun q2 => if q2 = v1 then ((x10_givenBy t v4).bind (fun q5 => (x10_leastPriceWith t q5).bind (fun q7 => if v3 ≤ q7 then (nm (v4 + (1 : Int32)) (fun x10 : Int32 => some (.inl (v2, v3, x10)))) else (nm (v4 + (1 : Int32)) (fun x11 : Int32 => some (.inl (v4, q7, x11))))))) else (nm (v4 + (1 : Int32)) (fun x12 : Int32 => some (.inl (v2, v3, x12))))))
noncomputable def x10_worstSet (t : St) (a1 : Int32) : Option (Int32) :=
  (lp (fun x => x10_worstSet_B9 t a1 x.1 x.2.1 x.2.2) ((0 : Int32), (16001 : Int32), (0 : Int32))).bind (fun y13 => some y13)
set_option maxHeartbeats 4000000 in
set_option maxRecDepth 100000 in
theorem x10_worstSet_L9 {p : Program} {l : Launch} {e : Env} {s : State} {m : MethodId} {args : Array Value} {below : List Frame} {meth : Method} {c : Code} {Q : State → Prop} {D : va_G} {cI cJ cZ cR : ClassId} {am gm : Nat → Nat} {st : Nat} {A : Nat → Prop} (C0 : cxX p s m args meth c cX10_worstSet RX10 6 (some .int) D (tyX cI cJ cZ cR) st A) {t : St} {v1 : Int32} {y : Int32} (hK0 : ∀ (H : Heap) (locs : List Loc) (ls : Array Slot), wl D A s (wX cI cJ cZ cR am gm t) H locs → lv_has ls 6 [(0, .ref (am 2010)), (2, .int y)] → W p l e (rmN 3 69) s m args below meth c H locs 0 0 Q (F0 m 62 ls [])) :
    ∀ (n : Nat) (v2 : Int32) (v3 : Int32) (v4 : Int32), lpn (fun x => x10_worstSet_B9 t v1 x.1 x.2.1 x.2.2) n (v2, v3, v4) = some y → ∀ (H : Heap) (locs : List Loc) (ls : Array Slot), wl D A s (wX cI cJ cZ cR am gm t) H locs → lv_has ls 6 [(0, .ref (am 2010)), (1, .int v1), (2, .int v2), (3, .int v3), (4, .int v4)] → W p l e (rmN 3 69) s m args below meth c H locs 0 0 Q (F0 m 9 ls []) := by
  have hx := C0.1.1
  have hb := C0.1.2.1
  have hta := C0.1.2.2.2.2.2.1
  have hown := C0.1.2.2.2.2.1
  intro n
  induction n with
  | zero => intro _ _ _ h; cases h
  | succ n ih =>
    intro v2 v3 v4 hrun H locs ls hW hl
    obtain ⟨o, ho, hrun⟩ := bd_some hrun
    unfold x10_worstSet_B9 at ho
    refine lv_iload hx hb dX10_worstSet_9 (lv_at hl 4 rfl) ?_
    refine lv_iconst (v := (1 : Int32)) hx hb dX10_worstSet_11 (by decide) ?_
    refine lv_aload_n hx hb dX10_worstSet_12 rfl (lv_at hl 0 rfl) ?_
    refine xGET_1007 C0 kw_341 hW dX10_worstSet_13 ?_
    refine lv_ishl hx hb dX10_worstSet_16 ?_
    refine lv_icmp_ge (tgt := 62) hx hb dX10_worstSet_17 (by decide) (fun c1 => ?_) (fun c1 => ?_)
    · replace ho := ite_t c1 ho
      cases ho
      cases hrun
      exact hK0 _ _ _ hW (lv_sub hl [0, 2] rfl)
    · replace ho := ite_f c1 ho
      refine lv_iload hx hb dX10_worstSet_20 (lv_at hl 4 rfl) ?_
      obtain ⟨q2, hc3, ho⟩ := bd_some ho
      refine bkI C0.1 hW (runSX (As := [.int v4]) (rest := []) C0 hW (c_j6_bitCount_0f7a4 l _ t v4 (r := q2) hc3) cb_X10_J6_bitCount_0f7a4_73 rfl rfl ⟨rfl, rfl⟩ ⟨Nat.le_of_ble_eq_true rfl, Nat.le_of_ble_eq_true rfl⟩ (Nat.le_of_ble_eq_true rfl) hl.1 dX10_worstSet_22 ⟨Nat.le_of_ble_eq_true rfl, Nat.le_of_ble_eq_true rfl⟩) (fun H locs hW => ?_)
      refine lv_iload_n hx hb dX10_worstSet_25 rfl (lv_at hl 1 rfl) ?_
      refine lv_icmp_eq (tgt := 32) hx hb dX10_worstSet_26 (by decide) (fun c4 => ?_) (fun c4 => ?_)
      · replace ho := ite_t c4 ho
        refine lv_aload_n hx hb dX10_worstSet_32 rfl (lv_at hl 0 rfl) ?_
        refine lv_aload_n hx hb dX10_worstSet_33 rfl (lv_at hl 0 rfl) ?_
        refine lv_iload hx hb dX10_worstSet_34 (lv_at hl 4 rfl) ?_
        obtain ⟨q5, hc6, ho⟩ := bd_some ho
        refine bkI C0.1 hW (runVX (As := [.int v4]) (rest := [.ref (am 2010)]) C0 hW (c_x10_givenBy l _ t v4 (r := q5) hc6) cb_X10_X10_givenBy_89 10 10 rfl rfl rfl rfl rfl ⟨rfl, rfl⟩ ⟨Nat.le_of_ble_eq_true rfl, Nat.le_of_ble_eq_true rfl⟩ (Nat.le_of_ble_eq_true rfl) hl.1 dX10_worstSet_36 ⟨Nat.le_of_ble_eq_true rfl, Nat.le_of_ble_eq_true rfl⟩) (fun H locs hW => ?_)
        obtain ⟨q7, hc8, ho⟩ := bd_some ho
        refine bkI C0.1 hW (runVX (As := [.int q5]) (rest := []) C0 hW (c_x10_leastPriceWith l _ t q5 (r := q7) hc8) cb_X10_X10_leastPriceWith_92 10 10 rfl rfl rfl rfl rfl ⟨rfl, rfl⟩ ⟨Nat.le_of_ble_eq_true rfl, Nat.le_of_ble_eq_true rfl⟩ (Nat.le_of_ble_eq_true rfl) hl.1 dX10_worstSet_39 ⟨Nat.le_of_ble_eq_true rfl, Nat.le_of_ble_eq_true rfl⟩) (fun H locs hW => ?_)
        refine lv_istore (lv' := [(5, .int q7), (0, .ref (am 2010)), (1, .int v1), (2, .int v2), (3, .int v3), (4, .int v4)]) hx hb dX10_worstSet_42 hl (by decide) rfl (fun ls hl => ?_)
        refine lv_iload hx hb dX10_worstSet_44 (lv_at hl 0 rfl) ?_
        refine lv_iload_n hx hb dX10_worstSet_46 rfl (lv_at hl 4 rfl) ?_
        refine lv_icmp_ge (tgt := 56) hx hb dX10_worstSet_47 (by decide) (fun c9 => ?_) (fun c9 => ?_)
        · replace ho := ite_t c9 ho
          obtain ⟨x10, ex10, ho⟩ := nm_x ho
          refine lv_iinc (v := x10) (lv' := [(4, .int x10), (5, .int q7), (0, .ref (am 2010)), (1, .int v1), (2, .int v2), (3, .int v3)]) hx hb dX10_worstSet_56 hl (k := 5) rfl (by rw [ex10]; rfl) (by decide) rfl (fun ls hl => ?_)
          clear ex10
          refine lv_goto (tgt := 9) hx hb dX10_worstSet_59 (by decide) ?_
          cases ho
          exact ih _ _ _ hrun _ _ _ hW (lv_sub hl [2, 3, 4, 5, 0] rfl)
        · replace ho := ite_f c9 ho
          refine lv_iload hx hb dX10_worstSet_50 (lv_at hl 0 rfl) ?_
          refine lv_istore_n (lv' := [(3, .int q7), (5, .int q7), (0, .ref (am 2010)), (1, .int v1), (2, .int v2), (4, .int v4)]) hx hb dX10_worstSet_52 rfl hl (by decide) rfl (fun ls hl => ?_)
          refine lv_iload hx hb dX10_worstSet_53 (lv_at hl 5 rfl) ?_
          refine lv_istore_n (lv' := [(2, .int v4), (3, .int q7), (5, .int q7), (0, .ref (am 2010)), (1, .int v1), (4, .int v4)]) hx hb dX10_worstSet_55 rfl hl (by decide) rfl (fun ls hl => ?_)
          obtain ⟨x11, ex11, ho⟩ := nm_x ho
          refine lv_iinc (v := x11) (lv' := [(4, .int x11), (2, .int v4), (3, .int q7), (5, .int q7), (0, .ref (am 2010)), (1, .int v1)]) hx hb dX10_worstSet_56 hl (k := 5) rfl (by rw [ex11]; rfl) (by decide) rfl (fun ls hl => ?_)
          clear ex11
          refine lv_goto (tgt := 9) hx hb dX10_worstSet_59 (by decide) ?_
          cases ho
          exact ih _ _ _ hrun _ _ _ hW (lv_sub hl [4, 5, 1, 2, 0] rfl)
      · replace ho := ite_f c4 ho
        refine lv_goto (tgt := 56) hx hb dX10_worstSet_29 (by decide) ?_
        obtain ⟨x12, ex12, ho⟩ := nm_x ho
        refine lv_iinc (v := x12) (lv' := [(4, .int x12), (0, .ref (am 2010)), (1, .int v1), (2, .int v2), (3, .int v3)]) hx hb dX10_worstSet_56 hl (k := 4) rfl (by rw [ex12]; rfl) (by decide) rfl (fun ls hl => ?_)
        clear ex12
        refine lv_goto (tgt := 9) hx hb dX10_worstSet_59 (by decide) ?_
        cases ho
        exact ih _ _ _ hrun _ _ _ hW (lv_sub hl [1, 2, 3, 4, 0] rfl)
set_option maxHeartbeats 4000000 in
set_option maxRecDepth 100000 in
theorem c_x10_worstSet (l : Launch) {D : va_G} {cI cJ cZ cR : ClassId} {am gm : Nat → Nat} {st : Nat} (sz : Nat) (t : St) (a1 : Int32) {r : Int32} (ho : x10_worstSet t a1 = some r) : Met l yX10_worstSet (.code yX10_worstSet cX10_worstSet 6 (some .int) :: wsAll) (rmN 3 69) (va_Pc [.ref (am 2010), .int a1] (prX D (tyX cI cJ cZ cR) (wX cI cJ cZ cR am gm t) sz st)) (qI r D (tyX cI cJ cZ cR) (wX cI cJ cZ cR am gm t) (va_A (wX cI cJ cZ cR am gm t) sz)) 0 0 (va_A (wX cI cJ cZ cR am gm t) sz) := by
  refine Met.ofW (cc := cX10_worstSet) (maxL := 6) (ret := (some .int)) (by decide) rfl ?_
  intro p e s m args below meth c s₁ B hml hv
  obtain ⟨rfl, ⟨hsz, hP, hK, hD0⟩, hsx⟩ := hv
  have hx := B.exec
  have hb := B.bytes
  have hts := atoms_spec (ws := (.code yX10_worstSet cX10_worstSet 6 (some .int) :: wsAll)) B.pre
  have hta := fun w h => hts w (List.mem_cons_of_mem _ h)
  have hown : s.vm.findClass RX10 = some m.cls := findClass_of_methodNamed B.named
  have hlocks := B.notSynchronized
  subst hsz
  have hD := hD0.self (sz := s.heap.size)
  generalize hAe : va_A (wX cI cJ cZ cR am gm t) s.heap.size = A at hD ⊢
  have hA : ∀ q : Nat, s.heap.size ≤ q → A q := fun q h => by rw [← hAe]; exact Or.inr h
  have C0 : cxX p s m ([.ref (am 2010), .int a1].toArray) meth c cX10_worstSet RX10 6 (some .int) D (tyX cI cJ cZ cR) st A := ⟨⟨hx, hb, B.returns, hml, hown, hta, hlocks, hK, hA⟩, by rw [← hAe]; exact hsx⟩
  have hW : wl D A s (wX cI cJ cZ cR am gm t) s.heap [] := ⟨hP, hD, va_S.rf⟩
  have hl := lv_entry [.ref (am 2010), .int a1] (n := 6) (Nat.le_of_ble_eq_true rfl)
  rw [lg_entry_eq]
  generalize (lg_sl [.ref (am 2010), .int a1] ++ List.replicate (6 - (lg_sl [.ref (am 2010), .int a1]).length) Slot.unset).toArray = ls at hl ⊢
  have hl : lv_has ls 6 [(0, .ref (am 2010)), (1, .int a1)] := hl
  unfold x10_worstSet at ho
  refine lv_iconst (v := (0 : Int32)) hx hb dX10_worstSet_0 (by decide) ?_
  refine lv_istore_n (lv' := [(2, .int (0 : Int32)), (0, .ref (am 2010)), (1, .int a1)]) hx hb dX10_worstSet_1 rfl hl (by decide) rfl (fun ls hl => ?_)
  refine lv_sipush (v := (16001 : Int32)) hx hb dX10_worstSet_2 (by decide) ?_
  refine lv_istore_n (lv' := [(3, .int (16001 : Int32)), (2, .int (0 : Int32)), (0, .ref (am 2010)), (1, .int a1)]) hx hb dX10_worstSet_5 rfl hl (by decide) rfl (fun ls hl => ?_)
  refine lv_iconst (v := (0 : Int32)) hx hb dX10_worstSet_6 (by decide) ?_
  refine lv_istore (lv' := [(4, .int (0 : Int32)), (3, .int (16001 : Int32)), (2, .int (0 : Int32)), (0, .ref (am 2010)), (1, .int a1)]) hx hb dX10_worstSet_7 hl (by decide) rfl (fun ls hl => ?_)
  obtain ⟨y13, hc15, ho⟩ := bd_some ho
  obtain ⟨ny13, hc15⟩ := lp_to hc15
  refine x10_worstSet_L9 C0 ?_ ny13 _ _ _ hc15 _ _ _ hW (lv_sub hl [3, 4, 2, 1, 0] rfl)
  intro H locs ls hW hl
  refine lv_iload_n hx hb dX10_worstSet_62 rfl (lv_at hl 1 rfl) ?_
  cases ho
  exact rtI C0.1 hW dX10_worstSet_63
noncomputable def x11_worst_J62 (t : St) (v2 : Int32) (v3 : Int32) (w0 : Int32) : Option (Int32 × St) :=
  if w0 = 0 then (some ((-5 : Int32), t)) else ((x10_worstSet t v2).bind (fun q2 => if v3 = 0 then ((x10_givenBy t q2).bind (fun q5 => (x10_leastPriceWith t q5).bind (fun q7 => some (q7, t)))) else (some (q2, t))))
theorem mm_x11_worst_J62 (t : St) (v2 : Int32) (v3 : Int32) (w0 : Int32) : MR (x11_worst_J62 t v2 v3 w0) t (fun (a : Int32 × St) => a.2) := by
  unfold x11_worst_J62
  exact MR_ite (MR_some mle.rfl) (MR_bindn (fun q2 => MR_ite (MR_bindn (fun q5 => MR_bindn (fun q7 => MR_some mle.rfl))) (MR_some mle.rfl)))
noncomputable def x11_worst (t0 : St) (a1 : Int32) (a2 : Int32) (a3 : Int32) : Option (Int32 × St) :=
  (x11_noNet t0 a1).bind (fun q9 => if q9 = 0 then ((x11_outside t0 a2 (0 : Int32) (gI t0 1007)).bind (fun q13 => if q13 = 0 then ((x11_outside t0 a3 (0 : Int32) (1 : Int32)).bind (fun q17 => if q17 = 0 then (gd a1 (gN t0 602) (nm (gA t0 602 (a1).toNatClampNeg) (fun x22 : Int32 => if 0 ≤ x22 then ((x10_listAll t0 x22).bind (fun q24 => x11_worst_J62 q24.2 a2 a3 q24.1)) else (some ((-3 : Int32), t0))))) else (some ((-2 : Int32), t0)))) else (some ((-2 : Int32), t0)))) else (some ((-2 : Int32), t0)))
theorem mm_x11_worst (t0 : St) (a1 : Int32) (a2 : Int32) (a3 : Int32) : MR (x11_worst t0 a1 a2 a3) t0 (fun (a : Int32 × St) => a.2) := by
  unfold x11_worst
  exact MR_bindn (fun q9 => MR_ite (MR_bindn (fun q13 => MR_ite (MR_bindn (fun q17 => MR_ite (MR_gd (MR_nm (fun x22 _ => MR_ite (MR_bind (mm_x10_listAll t0 x22) (fun q24 hq24 => MR_wk hq24 (mm_x11_worst_J62 q24.2 a2 a3 q24.1))) (MR_some mle.rfl)))) (MR_some mle.rfl))) (MR_some mle.rfl))) (MR_some mle.rfl))
set_option maxHeartbeats 4000000 in
set_option maxRecDepth 100000 in
theorem c_x11_worst (l : Launch) {D : va_G} {cI cJ cZ cR : ClassId} {am gm : Nat → Nat} {st : Nat} (sz : Nat) (t0 : St) (a1 : Int32) (a2 : Int32) (a3 : Int32) {r : Int32} {t' : St} (ho : x11_worst t0 a1 a2 a3 = some (r, t')) : Met l yX11_worst (.code yX11_worst cX11_worst 6 (some .int) :: wsAll) (rmA 5 118 t0 t') (va_Pc [.ref (am 2011), .int a1, .int a2, .int a3] (prX D (tyX cI cJ cZ cR) (wX cI cJ cZ cR am gm t0) sz st)) (qIa r D (tyX cI cJ cZ cR) (fun gm => wX cI cJ cZ cR am gm t') (va_A (wX cI cJ cZ cR am gm t0) sz)) (mC t0 t') (mS t0 t') (va_A (wX cI cJ cZ cR am gm t0) sz) := by
  refine Met.ofW (cc := cX11_worst) (maxL := 6) (ret := (some .int)) (by decide) rfl ?_
  intro p e s m args below meth c s₁ B hml hv
  obtain ⟨rfl, ⟨hsz, hP, hK, hD0⟩, hsx⟩ := hv
  have hx := B.exec
  have hb := B.bytes
  have hts := atoms_spec (ws := (.code yX11_worst cX11_worst 6 (some .int) :: wsAll)) B.pre
  have hta := fun w h => hts w (List.mem_cons_of_mem _ h)
  have hown : s.vm.findClass RX11 = some m.cls := findClass_of_methodNamed B.named
  have hlocks := B.notSynchronized
  subst hsz
  have hD := hD0.self (sz := s.heap.size)
  generalize hAe : va_A (wX cI cJ cZ cR am gm t0) s.heap.size = A at hD ⊢
  have hA : ∀ q : Nat, s.heap.size ≤ q → A q := fun q h => by rw [← hAe]; exact Or.inr h
  have C0 : cxX p s m ([.ref (am 2011), .int a1, .int a2, .int a3].toArray) meth c cX11_worst RX11 6 (some .int) D (tyX cI cJ cZ cR) st A := ⟨⟨hx, hb, B.returns, hml, hown, hta, hlocks, hK, hA⟩, by rw [← hAe]; exact hsx⟩
  have hW : wl D A s (wX cI cJ cZ cR am gm t0) s.heap [] := ⟨hP, hD, va_S.rf⟩
  have hl := lv_entry [.ref (am 2011), .int a1, .int a2, .int a3] (n := 6) (Nat.le_of_ble_eq_true rfl)
  rw [lg_entry_eq]
  generalize (lg_sl [.ref (am 2011), .int a1, .int a2, .int a3] ++ List.replicate (6 - (lg_sl [.ref (am 2011), .int a1, .int a2, .int a3]).length) Slot.unset).toArray = ls at hl ⊢
  have hl : lv_has ls 6 [(0, .ref (am 2011)), (1, .int a1), (2, .int a2), (3, .int a3)] := hl
  clear hAe hD hP hD0 hts
  have J62 : ∀ (gm : Nat → Nat) (t : St) (v2 : Int32) (v3 : Int32) (w0 : Int32) (_ : x11_worst_J62 t v2 v3 w0 = some (r, t')) (_ : mle t0 t) (H : Heap) (locs : List Loc) (ls : Array Slot), wl D A s (wX cI cJ cZ cR am gm t) H locs → lv_has ls 6 [(0, .ref (am 2011)), (2, .int v2), (3, .int v3)] → W p l e (rmA 5 118 t0 t') s m ([.ref (am 2011), .int a1, .int a2, .int a3].toArray) below meth c H locs (mC t0 t) (mS t0 t) (MQ below (qIa r D (tyX cI cJ cZ cR) (fun gm => wX cI cJ cZ cR am gm t') A) ([.ref (am 2011), .int a1, .int a2, .int a3].toArray) s (mC t0 t') (mS t0 t') A) (F0 m 62 ls [.int w0]) := by
    intro gm t v2 v3 w0 ho h0 H locs ls hW hl
    have hE : mle t t' := (mm_x11_worst_J62 _ _ _ _ _ ho)
    have hR := hR_of (t0 := t0) hE
    unfold x11_worst_J62 at ho
    refine lv_if_ne (tgt := 68) hx hb dX11_worst_62 (by decide) (fun c1 => ?_) (fun c1 => ?_)
    · replace ho := ite_f c1 ho
      refine lv_aload_n hx hb dX11_worst_68 rfl (lv_at hl 0 rfl) ?_
      refine xGET_1104 C0 kw_595 hW dX11_worst_69 ?_
      refine lv_iload_n hx hb dX11_worst_72 rfl (lv_at hl 1 rfl) ?_
      obtain ⟨q2, hc3, ho⟩ := bd_some ho
      refine bkI C0.1 hW (runVX (As := [.int v2]) (rest := []) C0 hW (c_x10_worstSet l _ t v2 (r := q2) hc3) cb_X11_X10_worstSet_306 10 10 rfl rfl rfl rfl rfl ⟨rfl, rfl⟩ ⟨Nat.le_of_ble_eq_true rfl, Nat.le_of_ble_eq_true rfl⟩ (Nat.le_of_ble_eq_true rfl) hl.1 dX11_worst_73 ⟨hR.1, hR.2⟩) (fun H locs hW => ?_)
      refine lv_istore (lv' := [(5, .int q2), (0, .ref (am 2011)), (2, .int v2), (3, .int v3)]) hx hb dX11_worst_76 hl (by decide) rfl (fun ls hl => ?_)
      refine lv_iload_n hx hb dX11_worst_78 rfl (lv_at hl 3 rfl) ?_
      refine lv_if_ne (tgt := 101) hx hb dX11_worst_79 (by decide) (fun c4 => ?_) (fun c4 => ?_)
      · replace ho := ite_f c4 ho
        refine lv_iload hx hb dX11_worst_101 (lv_at hl 0 rfl) ?_
        cases ho
        exact rtIa gm C0.1 hW dX11_worst_103
      · replace ho := ite_t c4 ho
        refine lv_aload_n hx hb dX11_worst_82 rfl (lv_at hl 1 rfl) ?_
        refine xGET_1104 C0 kw_595 hW dX11_worst_83 ?_
        refine lv_aload_n hx hb dX11_worst_86 rfl (lv_at hl 1 rfl) ?_
        refine xGET_1104 C0 kw_595 hW dX11_worst_87 ?_
        refine lv_iload hx hb dX11_worst_90 (lv_at hl 0 rfl) ?_
        obtain ⟨q5, hc6, ho⟩ := bd_some ho
        refine bkI C0.1 hW (runVX (As := [.int q2]) (rest := [.ref (am 2010)]) C0 hW (c_x10_givenBy l _ t q2 (r := q5) hc6) cb_X11_X10_givenBy_309 10 10 rfl rfl rfl rfl rfl ⟨rfl, rfl⟩ ⟨Nat.le_of_ble_eq_true rfl, Nat.le_of_ble_eq_true rfl⟩ (Nat.le_of_ble_eq_true rfl) hl.1 dX11_worst_92 ⟨hR.1, hR.2⟩) (fun H locs hW => ?_)
        obtain ⟨q7, hc8, ho⟩ := bd_some ho
        refine bkI C0.1 hW (runVX (As := [.int q5]) (rest := []) C0 hW (c_x10_leastPriceWith l _ t q5 (r := q7) hc8) cb_X11_X10_leastPriceWith_312 10 10 rfl rfl rfl rfl rfl ⟨rfl, rfl⟩ ⟨Nat.le_of_ble_eq_true rfl, Nat.le_of_ble_eq_true rfl⟩ (Nat.le_of_ble_eq_true rfl) hl.1 dX11_worst_95 ⟨hR.1, hR.2⟩) (fun H locs hW => ?_)
        refine lv_goto (tgt := 103) hx hb dX11_worst_98 (by decide) ?_
        cases ho
        exact rtIa gm C0.1 hW dX11_worst_103
    · replace ho := ite_t c1 ho
      refine lv_bipush (v := (-5 : Int32)) hx hb dX11_worst_65 (by decide) ?_
      cases ho
      exact rtIa gm C0.1 hW dX11_worst_67
  have hE : mle t0 t' := mm_x11_worst _ _ _ _ _ ho
  have hR := hR_of (t0 := t0) hE
  have h0 : mle t0 t0 := mle.rfl
  refine W_0 (t0 := t0) ?_
  unfold x11_worst at ho
  refine lv_iload_n hx hb dX11_worst_0 rfl (lv_at hl 1 rfl) ?_
  obtain ⟨q9, hc10, ho⟩ := bd_some ho
  refine bkZ C0.1 hW (runSX (As := [.int a1]) (rest := []) C0 hW (c_x11_noNet l _ t0 a1 (r := q9) hc10) cb_X11_X11_noNet_124 rfl rfl ⟨rfl, rfl⟩ ⟨Nat.le_of_ble_eq_true rfl, Nat.le_of_ble_eq_true rfl⟩ (Nat.le_of_ble_eq_true rfl) hl.1 dX11_worst_1 ⟨hR.1, hR.2⟩) (fun z11 H locs hW => ?_)
  refine lv_if_ne (tgt := 31) hx hb dX11_worst_4 (by decide) (fun c12 => ?_) (fun c12 => ?_)
  · replace ho := ite_f c12 ho
    refine lv_bipush (v := (-2 : Int32)) hx hb dX11_worst_31 (by decide) ?_
    cases ho
    exact rtIa gm C0.1 hW dX11_worst_33
  · replace ho := ite_t c12 ho
    refine lv_iload_n hx hb dX11_worst_7 rfl (lv_at hl 2 rfl) ?_
    refine lv_iconst (v := (0 : Int32)) hx hb dX11_worst_8 (by decide) ?_
    refine lv_aload_n hx hb dX11_worst_9 rfl (lv_at hl 0 rfl) ?_
    refine xGET_1104 C0 kw_595 hW dX11_worst_10 ?_
    refine xGET_1007 C0 kw_342 hW dX11_worst_13 ?_
    obtain ⟨q13, hc14, ho⟩ := bd_some ho
    refine bkZ C0.1 hW (runSX (As := [.int a2, .int (0 : Int32), .int (gI t0 1007)]) (rest := []) C0 hW (c_x11_outside l _ t0 a2 (0 : Int32) (gI t0 1007) (r := q13) hc14) cb_X11_X11_outside_102 rfl rfl ⟨rfl, rfl⟩ ⟨Nat.le_of_ble_eq_true rfl, Nat.le_of_ble_eq_true rfl⟩ (Nat.le_of_ble_eq_true rfl) hl.1 dX11_worst_16 ⟨hR.1, hR.2⟩) (fun z15 H locs hW => ?_)
    refine lv_if_ne (tgt := 31) hx hb dX11_worst_19 (by decide) (fun c16 => ?_) (fun c16 => ?_)
    · replace ho := ite_f c16 ho
      refine lv_bipush (v := (-2 : Int32)) hx hb dX11_worst_31 (by decide) ?_
      cases ho
      exact rtIa gm C0.1 hW dX11_worst_33
    · replace ho := ite_t c16 ho
      refine lv_iload_n hx hb dX11_worst_22 rfl (lv_at hl 3 rfl) ?_
      refine lv_iconst (v := (0 : Int32)) hx hb dX11_worst_23 (by decide) ?_
      refine lv_iconst (v := (1 : Int32)) hx hb dX11_worst_24 (by decide) ?_
      obtain ⟨q17, hc18, ho⟩ := bd_some ho
      refine bkZ C0.1 hW (runSX (As := [.int a3, .int (0 : Int32), .int (1 : Int32)]) (rest := []) C0 hW (c_x11_outside l _ t0 a3 (0 : Int32) (1 : Int32) (r := q17) hc18) cb_X11_X11_outside_102 rfl rfl ⟨rfl, rfl⟩ ⟨Nat.le_of_ble_eq_true rfl, Nat.le_of_ble_eq_true rfl⟩ (Nat.le_of_ble_eq_true rfl) hl.1 dX11_worst_25 ⟨hR.1, hR.2⟩) (fun z19 H locs hW => ?_)
      refine lv_if_eq (tgt := 34) hx hb dX11_worst_28 (by decide) (fun c20 => ?_) (fun c20 => ?_)
      · replace ho := ite_t c20 ho
        refine lv_aload_n hx hb dX11_worst_34 rfl (lv_at hl 0 rfl) ?_
        refine xGET_1101 C0 kw_592 hW dX11_worst_35 ?_
        refine xGET_602 C0 kw_184 hW dX11_worst_38 ?_
        refine lv_iload_n hx hb dX11_worst_41 rfl (lv_at hl 1 rfl) ?_
        obtain ⟨g21, ho⟩ := gd_some ho
        refine xLD_602 C0 hW g21 dX11_worst_42 ?_
        refine lv_nmi ho (fun x22 ho => ?_)
        refine lv_istore (lv' := [(4, .int x22), (0, .ref (am 2011)), (1, .int a1), (2, .int a2), (3, .int a3)]) hx hb dX11_worst_43 hl (by decide) rfl (fun ls hl => ?_)
        refine lv_iload hx hb dX11_worst_45 (lv_at hl 0 rfl) ?_
        refine lv_if_ge (tgt := 53) hx hb dX11_worst_47 (by decide) (fun c23 => ?_) (fun c23 => ?_)
        · replace ho := ite_t c23 ho
          refine lv_aload_n hx hb dX11_worst_53 rfl (lv_at hl 1 rfl) ?_
          refine xGET_1104 C0 kw_595 hW dX11_worst_54 ?_
          refine lv_iload hx hb dX11_worst_57 (lv_at hl 0 rfl) ?_
          obtain ⟨q24, hc25, ho⟩ := bd_some ho
          have hq24 := mm_x10_listAll t0 x22 _ hc25
          have hEq24 := (mm_x11_worst_J62 _ _ _ _ _ ho)
          refine bkZa C0.1 hW h0 hq24 (runVX (As := [.int x22]) (rest := []) C0 hW (c_x10_listAll l _ t0 x22 (r := q24.1) (t' := q24.2) hc25) cb_X11_X10_listAll_167 10 10 rfl rfl rfl rfl rfl ⟨rfl, rfl⟩ ⟨Nat.le_of_ble_eq_true rfl, Nat.le_of_ble_eq_true rfl⟩ (Nat.le_of_ble_eq_true rfl) hl.1 dX11_worst_59 (hf_of h0 hq24 hEq24)) (fun z26 gm H locs hW => ?_)
          have h0 := mle.trans h0 hq24
          exact J62 gm _ _ _ _ ho h0 _ _ _ hW (lv_sub hl [1, 3, 4] rfl)
        · replace ho := ite_f c23 ho
          refine lv_bipush (v := (-3 : Int32)) hx hb dX11_worst_50 (by decide) ?_
          cases ho
          exact rtIa gm C0.1 hW dX11_worst_52
      · replace ho := ite_f c20 ho
        refine lv_bipush (v := (-2 : Int32)) hx hb dX11_worst_31 (by decide) ?_
        cases ho
        exact rtIa gm C0.1 hW dX11_worst_33
noncomputable def x11_noMarks (t : St) (a0 : Int32) (a1 : Int32) : Option (Int32) :=
  (x11_outside t a0 (0 : Int32) (255 : Int32)).bind (fun q1 => if q1 = 0 then ((x11_outside t a1 (0 : Int32) (255 : Int32)).bind (fun q5 => if q5 = 0 then (if (a0 &&& a1) = 0 then (some (0 : Int32)) else (some (1 : Int32))) else (some (1 : Int32)))) else (some (1 : Int32)))
set_option maxHeartbeats 4000000 in
set_option maxRecDepth 100000 in
theorem c_x11_noMarks (l : Launch) {D : va_G} {cI cJ cZ cR : ClassId} {am gm : Nat → Nat} {st : Nat} (sz : Nat) (t : St) (a0 : Int32) (a1 : Int32) {r : Int32} (ho : x11_noMarks t a0 a1 = some r) : Met l yX11_noMarks (.code yX11_noMarks cX11_noMarks 2 (some .boolean) :: wsAll) (rmN 1 22) (va_Pc [.int a0, .int a1] (prX D (tyX cI cJ cZ cR) (wX cI cJ cZ cR am gm t) sz st)) (qZ r D (tyX cI cJ cZ cR) (wX cI cJ cZ cR am gm t) (va_A (wX cI cJ cZ cR am gm t) sz)) 0 0 (va_A (wX cI cJ cZ cR am gm t) sz) := by
  refine Met.ofW (cc := cX11_noMarks) (maxL := 2) (ret := (some .boolean)) (by decide) rfl ?_
  intro p e s m args below meth c s₁ B hml hv
  obtain ⟨rfl, ⟨hsz, hP, hK, hD0⟩, hsx⟩ := hv
  have hx := B.exec
  have hb := B.bytes
  have hts := atoms_spec (ws := (.code yX11_noMarks cX11_noMarks 2 (some .boolean) :: wsAll)) B.pre
  have hta := fun w h => hts w (List.mem_cons_of_mem _ h)
  have hown : s.vm.findClass RX11 = some m.cls := findClass_of_methodNamed B.named
  have hlocks := B.notSynchronized
  subst hsz
  have hD := hD0.self (sz := s.heap.size)
  generalize hAe : va_A (wX cI cJ cZ cR am gm t) s.heap.size = A at hD ⊢
  have hA : ∀ q : Nat, s.heap.size ≤ q → A q := fun q h => by rw [← hAe]; exact Or.inr h
  have C0 : cxX p s m ([.int a0, .int a1].toArray) meth c cX11_noMarks RX11 2 (some .boolean) D (tyX cI cJ cZ cR) st A := ⟨⟨hx, hb, B.returns, hml, hown, hta, hlocks, hK, hA⟩, by rw [← hAe]; exact hsx⟩
  have hW : wl D A s (wX cI cJ cZ cR am gm t) s.heap [] := ⟨hP, hD, va_S.rf⟩
  have hl := lv_entry [.int a0, .int a1] (n := 2) (Nat.le_of_ble_eq_true rfl)
  rw [lg_entry_eq]
  generalize (lg_sl [.int a0, .int a1] ++ List.replicate (2 - (lg_sl [.int a0, .int a1]).length) Slot.unset).toArray = ls at hl ⊢
  have hl : lv_has ls 2 [(0, .int a0), (1, .int a1)] := hl
  unfold x11_noMarks at ho
  refine lv_iload_n hx hb dX11_noMarks_0 rfl (lv_at hl 0 rfl) ?_
  refine lv_iconst (v := (0 : Int32)) hx hb dX11_noMarks_1 (by decide) ?_
  refine lv_sipush (v := (255 : Int32)) hx hb dX11_noMarks_2 (by decide) ?_
  obtain ⟨q1, hc2, ho⟩ := bd_some ho
  refine bkZ C0.1 hW (runSX (As := [.int a0, .int (0 : Int32), .int (255 : Int32)]) (rest := []) C0 hW (c_x11_outside l _ t a0 (0 : Int32) (255 : Int32) (r := q1) hc2) cb_X11_X11_outside_102 rfl rfl ⟨rfl, rfl⟩ ⟨Nat.le_of_ble_eq_true rfl, Nat.le_of_ble_eq_true rfl⟩ (Nat.le_of_ble_eq_true rfl) hl.1 dX11_noMarks_5 ⟨Nat.le_of_ble_eq_true rfl, Nat.le_of_ble_eq_true rfl⟩) (fun z3 H locs hW => ?_)
  refine lv_if_ne (tgt := 28) hx hb dX11_noMarks_8 (by decide) (fun c4 => ?_) (fun c4 => ?_)
  · replace ho := ite_f c4 ho
    refine lv_iconst (v := (1 : Int32)) hx hb dX11_noMarks_28 (by decide) ?_
    refine lv_goto (tgt := 33) hx hb dX11_noMarks_29 (by decide) ?_
    cases ho
    exact rtZ C0.1 hW (Or.inr (rfl : (1 : Int32) = 1)) dX11_noMarks_33
  · replace ho := ite_t c4 ho
    refine lv_iload_n hx hb dX11_noMarks_11 rfl (lv_at hl 1 rfl) ?_
    refine lv_iconst (v := (0 : Int32)) hx hb dX11_noMarks_12 (by decide) ?_
    refine lv_sipush (v := (255 : Int32)) hx hb dX11_noMarks_13 (by decide) ?_
    obtain ⟨q5, hc6, ho⟩ := bd_some ho
    refine bkZ C0.1 hW (runSX (As := [.int a1, .int (0 : Int32), .int (255 : Int32)]) (rest := []) C0 hW (c_x11_outside l _ t a1 (0 : Int32) (255 : Int32) (r := q5) hc6) cb_X11_X11_outside_102 rfl rfl ⟨rfl, rfl⟩ ⟨Nat.le_of_ble_eq_true rfl, Nat.le_of_ble_eq_true rfl⟩ (Nat.le_of_ble_eq_true rfl) hl.1 dX11_noMarks_16 ⟨Nat.le_of_ble_eq_true rfl, Nat.le_of_ble_eq_true rfl⟩) (fun z7 H locs hW => ?_)
    refine lv_if_ne (tgt := 28) hx hb dX11_noMarks_19 (by decide) (fun c8 => ?_) (fun c8 => ?_)
    · replace ho := ite_f c8 ho
      refine lv_iconst (v := (1 : Int32)) hx hb dX11_noMarks_28 (by decide) ?_
      refine lv_goto (tgt := 33) hx hb dX11_noMarks_29 (by decide) ?_
      cases ho
      exact rtZ C0.1 hW (Or.inr (rfl : (1 : Int32) = 1)) dX11_noMarks_33
    · replace ho := ite_t c8 ho
      refine lv_iload_n hx hb dX11_noMarks_22 rfl (lv_at hl 0 rfl) ?_
      refine lv_iload_n hx hb dX11_noMarks_23 rfl (lv_at hl 1 rfl) ?_
      refine lv_iand hx hb dX11_noMarks_24 ?_
      refine lv_if_eq (tgt := 32) hx hb dX11_noMarks_25 (by decide) (fun c9 => ?_) (fun c9 => ?_)
      · replace ho := ite_t c9 ho
        refine lv_iconst (v := (0 : Int32)) hx hb dX11_noMarks_32 (by decide) ?_
        cases ho
        exact rtZ C0.1 hW (Or.inl (rfl : (0 : Int32) = 0)) dX11_noMarks_33
      · replace ho := ite_f c9 ho
        refine lv_iconst (v := (1 : Int32)) hx hb dX11_noMarks_28 (by decide) ?_
        refine lv_goto (tgt := 33) hx hb dX11_noMarks_29 (by decide) ?_
        cases ho
        exact rtZ C0.1 hW (Or.inr (rfl : (1 : Int32) = 1)) dX11_noMarks_33
noncomputable def x5_marksOf_B4 (t : St) (v1 : Int32) (v2 : Int32) (v3 : Int32) : Option ((Int32 × Int32) ⊕ (Int32)) :=
  if (16 : Int32) ≤ v3 then (some (.inr v2)) else (if ((v1 >>> (v3 &&& 31)) &&& (1 : Int32)) = (1 : Int32) then ((x5_get t v3 (3 : Int32)).bind (fun q4 => nm (v2 ||| q4) (fun x6 : Int32 => nm (v3 + (1 : Int32)) (fun x7 : Int32 => some (.inl (x6, x7)))))) else (nm (v3 + (1 : Int32)) (fun x3 : Int32 => some (.inl (v2, x3)))))
noncomputable def x5_marksOf (t : St) (a1 : Int32) : Option (Int32) :=
  (lp (fun x => x5_marksOf_B4 t a1 x.1 x.2) ((0 : Int32), (0 : Int32))).bind (fun y8 => some y8)
set_option maxHeartbeats 4000000 in
set_option maxRecDepth 100000 in
theorem x5_marksOf_L4 {p : Program} {l : Launch} {e : Env} {s : State} {m : MethodId} {args : Array Value} {below : List Frame} {meth : Method} {c : Code} {Q : State → Prop} {D : va_G} {cI cJ cZ cR : ClassId} {am gm : Nat → Nat} {st : Nat} {A : Nat → Prop} (C0 : cxX p s m args meth c cX5_marksOf RX5 4 (some .int) D (tyX cI cJ cZ cR) st A) {t : St} {v1 : Int32} {y : Int32} (hK0 : ∀ (H : Heap) (locs : List Loc) (ls : Array Slot), wl D A s (wX cI cJ cZ cR am gm t) H locs → lv_has ls 4 [(0, .ref (am 2005)), (2, .int y)] → W p l e (rmN 1 22) s m args below meth c H locs 0 0 Q (F0 m 34 ls [])) :
    ∀ (n : Nat) (v2 : Int32) (v3 : Int32), lpn (fun x => x5_marksOf_B4 t v1 x.1 x.2) n (v2, v3) = some y → ∀ (H : Heap) (locs : List Loc) (ls : Array Slot), wl D A s (wX cI cJ cZ cR am gm t) H locs → lv_has ls 4 [(0, .ref (am 2005)), (1, .int v1), (2, .int v2), (3, .int v3)] → W p l e (rmN 1 22) s m args below meth c H locs 0 0 Q (F0 m 4 ls []) := by
  have hx := C0.1.1
  have hb := C0.1.2.1
  have hta := C0.1.2.2.2.2.2.1
  have hown := C0.1.2.2.2.2.1
  intro n
  induction n with
  | zero => intro _ _ h; cases h
  | succ n ih =>
    intro v2 v3 hrun H locs ls hW hl
    obtain ⟨o, ho, hrun⟩ := bd_some hrun
    unfold x5_marksOf_B4 at ho
    refine lv_iload_n hx hb dX5_marksOf_4 rfl (lv_at hl 3 rfl) ?_
    refine lv_bipush (v := (16 : Int32)) hx hb dX5_marksOf_5 (by decide) ?_
    refine lv_icmp_ge (tgt := 34) hx hb dX5_marksOf_7 (by decide) (fun c1 => ?_) (fun c1 => ?_)
    · replace ho := ite_t c1 ho
      cases ho
      cases hrun
      exact hK0 _ _ _ hW (lv_sub hl [0, 2] rfl)
    · replace ho := ite_f c1 ho
      refine lv_iload_n hx hb dX5_marksOf_10 rfl (lv_at hl 1 rfl) ?_
      refine lv_iload_n hx hb dX5_marksOf_11 rfl (lv_at hl 3 rfl) ?_
      refine lv_ishr hx hb dX5_marksOf_12 ?_
      refine lv_iconst (v := (1 : Int32)) hx hb dX5_marksOf_13 (by decide) ?_
      refine lv_iand hx hb dX5_marksOf_14 ?_
      refine lv_iconst (v := (1 : Int32)) hx hb dX5_marksOf_15 (by decide) ?_
      refine lv_icmp_ne (tgt := 28) hx hb dX5_marksOf_16 (by decide) (fun c2 => ?_) (fun c2 => ?_)
      · replace ho := ite_f c2 ho
        obtain ⟨x3, ex3, ho⟩ := nm_x ho
        refine lv_iinc (v := x3) (lv' := [(3, .int x3), (0, .ref (am 2005)), (1, .int v1), (2, .int v2)]) hx hb dX5_marksOf_28 hl (k := 3) rfl (by rw [ex3]; rfl) (by decide) rfl (fun ls hl => ?_)
        clear ex3
        refine lv_goto (tgt := 4) hx hb dX5_marksOf_31 (by decide) ?_
        cases ho
        exact ih _ _ hrun _ _ _ hW (lv_sub hl [1, 2, 3, 0] rfl)
      · replace ho := ite_t c2 ho
        refine lv_iload_n hx hb dX5_marksOf_19 rfl (lv_at hl 2 rfl) ?_
        refine lv_aload_n hx hb dX5_marksOf_20 rfl (lv_at hl 0 rfl) ?_
        refine lv_iload_n hx hb dX5_marksOf_21 rfl (lv_at hl 3 rfl) ?_
        refine lv_iconst (v := (3 : Int32)) hx hb dX5_marksOf_22 (by decide) ?_
        obtain ⟨q4, hc5, ho⟩ := bd_some ho
        refine bkI C0.1 hW (runVX (As := [.int v3, .int (3 : Int32)]) (rest := [.int v2]) C0 hW (c_x5_get l _ t v3 (3 : Int32) (r := q4) hc5) cb_X5_X5_get_24 5 5 rfl rfl rfl rfl rfl ⟨rfl, rfl⟩ ⟨Nat.le_of_ble_eq_true rfl, Nat.le_of_ble_eq_true rfl⟩ (Nat.le_of_ble_eq_true rfl) hl.1 dX5_marksOf_23 ⟨Nat.le_of_ble_eq_true rfl, Nat.le_of_ble_eq_true rfl⟩) (fun H locs hW => ?_)
        refine lv_ior hx hb dX5_marksOf_26 ?_
        refine lv_nmi ho (fun x6 ho => ?_)
        refine lv_istore_n (lv' := [(2, .int x6), (0, .ref (am 2005)), (1, .int v1), (3, .int v3)]) hx hb dX5_marksOf_27 rfl hl (by decide) rfl (fun ls hl => ?_)
        obtain ⟨x7, ex7, ho⟩ := nm_x ho
        refine lv_iinc (v := x7) (lv' := [(3, .int x7), (2, .int x6), (0, .ref (am 2005)), (1, .int v1)]) hx hb dX5_marksOf_28 hl (k := 3) rfl (by rw [ex7]; rfl) (by decide) rfl (fun ls hl => ?_)
        clear ex7
        refine lv_goto (tgt := 4) hx hb dX5_marksOf_31 (by decide) ?_
        cases ho
        exact ih _ _ hrun _ _ _ hW (lv_sub hl [2, 3, 1, 0] rfl)
set_option maxHeartbeats 4000000 in
set_option maxRecDepth 100000 in
theorem c_x5_marksOf (l : Launch) {D : va_G} {cI cJ cZ cR : ClassId} {am gm : Nat → Nat} {st : Nat} (sz : Nat) (t : St) (a1 : Int32) {r : Int32} (ho : x5_marksOf t a1 = some r) : Met l yX5_marksOf (.code yX5_marksOf cX5_marksOf 4 (some .int) :: wsAll) (rmN 1 22) (va_Pc [.ref (am 2005), .int a1] (prX D (tyX cI cJ cZ cR) (wX cI cJ cZ cR am gm t) sz st)) (qI r D (tyX cI cJ cZ cR) (wX cI cJ cZ cR am gm t) (va_A (wX cI cJ cZ cR am gm t) sz)) 0 0 (va_A (wX cI cJ cZ cR am gm t) sz) := by
  refine Met.ofW (cc := cX5_marksOf) (maxL := 4) (ret := (some .int)) (by decide) rfl ?_
  intro p e s m args below meth c s₁ B hml hv
  obtain ⟨rfl, ⟨hsz, hP, hK, hD0⟩, hsx⟩ := hv
  have hx := B.exec
  have hb := B.bytes
  have hts := atoms_spec (ws := (.code yX5_marksOf cX5_marksOf 4 (some .int) :: wsAll)) B.pre
  have hta := fun w h => hts w (List.mem_cons_of_mem _ h)
  have hown : s.vm.findClass RX5 = some m.cls := findClass_of_methodNamed B.named
  have hlocks := B.notSynchronized
  subst hsz
  have hD := hD0.self (sz := s.heap.size)
  generalize hAe : va_A (wX cI cJ cZ cR am gm t) s.heap.size = A at hD ⊢
  have hA : ∀ q : Nat, s.heap.size ≤ q → A q := fun q h => by rw [← hAe]; exact Or.inr h
  have C0 : cxX p s m ([.ref (am 2005), .int a1].toArray) meth c cX5_marksOf RX5 4 (some .int) D (tyX cI cJ cZ cR) st A := ⟨⟨hx, hb, B.returns, hml, hown, hta, hlocks, hK, hA⟩, by rw [← hAe]; exact hsx⟩
  have hW : wl D A s (wX cI cJ cZ cR am gm t) s.heap [] := ⟨hP, hD, va_S.rf⟩
  have hl := lv_entry [.ref (am 2005), .int a1] (n := 4) (Nat.le_of_ble_eq_true rfl)
  rw [lg_entry_eq]
  generalize (lg_sl [.ref (am 2005), .int a1] ++ List.replicate (4 - (lg_sl [.ref (am 2005), .int a1]).length) Slot.unset).toArray = ls at hl ⊢
  have hl : lv_has ls 4 [(0, .ref (am 2005)), (1, .int a1)] := hl
  unfold x5_marksOf at ho
  refine lv_iconst (v := (0 : Int32)) hx hb dX5_marksOf_0 (by decide) ?_
  refine lv_istore_n (lv' := [(2, .int (0 : Int32)), (0, .ref (am 2005)), (1, .int a1)]) hx hb dX5_marksOf_1 rfl hl (by decide) rfl (fun ls hl => ?_)
  refine lv_iconst (v := (0 : Int32)) hx hb dX5_marksOf_2 (by decide) ?_
  refine lv_istore_n (lv' := [(3, .int (0 : Int32)), (2, .int (0 : Int32)), (0, .ref (am 2005)), (1, .int a1)]) hx hb dX5_marksOf_3 rfl hl (by decide) rfl (fun ls hl => ?_)
  obtain ⟨y8, hc10, ho⟩ := bd_some ho
  obtain ⟨ny8, hc10⟩ := lp_to hc10
  refine x5_marksOf_L4 C0 ?_ ny8 _ _ hc10 _ _ _ hW (lv_sub hl [2, 3, 1, 0] rfl)
  intro H locs ls hW hl
  refine lv_iload_n hx hb dX5_marksOf_34 rfl (lv_at hl 1 rfl) ?_
  cases ho
  exact rtI C0.1 hW dX5_marksOf_35
noncomputable def x10_sift_B5 (v1 : Int32) (v2 : Int32) (v3 : Int32) (v4 : Int32) (t : St) : Option ((Int32 × Int32 × St) ⊕ (Int32 × St)) :=
  if (gI t 1004) ≤ v4 then (some (.inr (v3, t))) else (gd v4 (gN t 1002) ((x5_marksOf t (gA t 1002 (v4).toNatClampNeg)).bind (fun q3 => if (v1 &&& (q3 ^^^ (-1 : Int32))) = 0 then (if (v2 &&& q3) = 0 then (gd v3 (gN t 1008) (nm (sA t 1008 v3 q3) (fun t10 : St => nm (v3 + (1 : Int32)) (fun x11 : Int32 => nm (v4 + (1 : Int32)) (fun x12 : Int32 => some (.inl (x11, x12, t10))))))) else (nm (v4 + (1 : Int32)) (fun x8 : Int32 => some (.inl (v3, x8, t))))) else (nm (v4 + (1 : Int32)) (fun x6 : Int32 => some (.inl (v3, x6, t)))))))
theorem mm_x10_sift_B5 (v1 : Int32) (v2 : Int32) (v3 : Int32) (v4 : Int32) (t : St) : MR (x10_sift_B5 v1 v2 v3 v4 t) t (Sum.elim (fun (x : Int32 × Int32 × St) => x.2.2) (fun (y : Int32 × St) => y.2)) := by
  unfold x10_sift_B5
  exact MR_ite (MR_some mle.rfl) (MR_gd (MR_bindn (fun q3 => MR_ite (MR_ite (MR_gd (MR_nmS mle_sA (fun t10 ht10 => MR_nm (fun x11 _ => MR_nm (fun x12 _ => MR_some ht10))))) (MR_nm (fun x8 _ => MR_some mle.rfl))) (MR_nm (fun x6 _ => MR_some mle.rfl)))))
theorem mm_x10_sift_L5 (v1 : Int32) (v2 : Int32) (v3 : Int32) (v4 : Int32) (t : St) : MR (lp (fun x => x10_sift_B5 v1 v2 x.1 x.2.1 x.2.2) (v3, v4, t)) t (fun (y : Int32 × St) => y.2) := MR_lp (p := (fun (x : Int32 × Int32 × St) => x.2.2)) (q := (fun (y : Int32 × St) => y.2)) (fun x => mm_x10_sift_B5 v1 v2 x.1 x.2.1 x.2.2) (v3, v4, t)
noncomputable def x10_sift (t : St) (a1 : Int32) (a2 : Int32) : Option (Int32 × St) :=
  (lp (fun x => x10_sift_B5 a1 a2 x.1 x.2.1 x.2.2) ((0 : Int32), (0 : Int32), t)).bind (fun y13 => some (y13.1, y13.2))
theorem mm_x10_sift (t : St) (a1 : Int32) (a2 : Int32) : MR (x10_sift t a1 a2) t (fun (a : Int32 × St) => a.2) := by
  unfold x10_sift
  exact MR_bind (mm_x10_sift_L5 a1 a2 (0 : Int32) (0 : Int32) t) (fun y13 hm14 => MR_some hm14)
set_option maxHeartbeats 4000000 in
set_option maxRecDepth 100000 in
theorem x10_sift_L5 {p : Program} {l : Launch} {e : Env} {s : State} {m : MethodId} {args : Array Value} {below : List Frame} {meth : Method} {c : Code} {Q : State → Prop} {D : va_G} {cI cJ cZ cR : ClassId} {am gm : Nat → Nat} {st : Nat} {A : Nat → Prop} (C0 : cxX p s m args meth c cX10_sift RX10 6 (some .int) D (tyX cI cJ cZ cR) st A) {v1 : Int32} {v2 : Int32} {y : Int32 × St} (hK0 : ∀ (H : Heap) (locs : List Loc) (ls : Array Slot), wl D A s (wX cI cJ cZ cR am gm y.2) H locs → lv_has ls 6 [(0, .ref (am 2010)), (3, .int y.1)] → W p l e (rmN 2 45) s m args below meth c H locs 0 0 Q (F0 m 63 ls [])) :
    ∀ (n : Nat) (v3 : Int32) (v4 : Int32) (t : St), lpn (fun x => x10_sift_B5 v1 v2 x.1 x.2.1 x.2.2) n (v3, v4, t) = some y → ∀ (H : Heap) (locs : List Loc) (ls : Array Slot), wl D A s (wX cI cJ cZ cR am gm t) H locs → lv_has ls 6 [(0, .ref (am 2010)), (1, .int v1), (2, .int v2), (3, .int v3), (4, .int v4)] → W p l e (rmN 2 45) s m args below meth c H locs 0 0 Q (F0 m 5 ls []) := by
  have hx := C0.1.1
  have hb := C0.1.2.1
  have hta := C0.1.2.2.2.2.2.1
  have hown := C0.1.2.2.2.2.1
  intro n
  induction n with
  | zero => intro _ _ _ h; cases h
  | succ n ih =>
    intro v3 v4 t hrun H locs ls hW hl
    obtain ⟨o, ho, hrun⟩ := bd_some hrun
    unfold x10_sift_B5 at ho
    refine lv_iload hx hb dX10_sift_5 (lv_at hl 4 rfl) ?_
    refine lv_aload_n hx hb dX10_sift_7 rfl (lv_at hl 0 rfl) ?_
    refine xGET_1004 C0 kw_336 hW dX10_sift_8 ?_
    refine lv_icmp_ge (tgt := 63) hx hb dX10_sift_11 (by decide) (fun c1 => ?_) (fun c1 => ?_)
    · replace ho := ite_t c1 ho
      cases ho
      cases hrun
      exact hK0 _ _ _ hW (lv_sub hl [0, 3] rfl)
    · replace ho := ite_f c1 ho
      refine lv_aload_n hx hb dX10_sift_14 rfl (lv_at hl 0 rfl) ?_
      refine xGET_1000 C0 kw_330 hW dX10_sift_15 ?_
      refine lv_aload_n hx hb dX10_sift_18 rfl (lv_at hl 0 rfl) ?_
      refine xGET_1002 C0 kw_332 hW dX10_sift_19 ?_
      refine lv_iload hx hb dX10_sift_22 (lv_at hl 4 rfl) ?_
      obtain ⟨g2, ho⟩ := gd_some ho
      refine xLD_1002 C0 hW g2 dX10_sift_24 ?_
      obtain ⟨q3, hc4, ho⟩ := bd_some ho
      refine bkI C0.1 hW (runVX (As := [.int (gA t 1002 (v4).toNatClampNeg)]) (rest := []) C0 hW (c_x5_marksOf l _ t (gA t 1002 (v4).toNatClampNeg) (r := q3) hc4) cb_X10_X5_marksOf_95 5 5 rfl rfl rfl rfl rfl ⟨rfl, rfl⟩ ⟨Nat.le_of_ble_eq_true rfl, Nat.le_of_ble_eq_true rfl⟩ (Nat.le_of_ble_eq_true rfl) hl.1 dX10_sift_25 ⟨Nat.le_of_ble_eq_true rfl, Nat.le_of_ble_eq_true rfl⟩) (fun H locs hW => ?_)
      refine lv_istore (lv' := [(5, .int q3), (0, .ref (am 2010)), (1, .int v1), (2, .int v2), (3, .int v3), (4, .int v4)]) hx hb dX10_sift_28 hl (by decide) rfl (fun ls hl => ?_)
      refine lv_iload_n hx hb dX10_sift_30 rfl (lv_at hl 2 rfl) ?_
      refine lv_iload hx hb dX10_sift_31 (lv_at hl 0 rfl) ?_
      refine lv_iconst (v := (-1 : Int32)) hx hb dX10_sift_33 (by decide) ?_
      refine lv_ixor hx hb dX10_sift_34 ?_
      refine lv_iand hx hb dX10_sift_35 ?_
      refine lv_if_ne (tgt := 57) hx hb dX10_sift_36 (by decide) (fun c5 => ?_) (fun c5 => ?_)
      · replace ho := ite_f c5 ho
        obtain ⟨x6, ex6, ho⟩ := nm_x ho
        refine lv_iinc (v := x6) (lv' := [(4, .int x6), (5, .int q3), (0, .ref (am 2010)), (1, .int v1), (2, .int v2), (3, .int v3)]) hx hb dX10_sift_57 hl (k := 5) rfl (by rw [ex6]; rfl) (by decide) rfl (fun ls hl => ?_)
        clear ex6
        refine lv_goto (tgt := 5) hx hb dX10_sift_60 (by decide) ?_
        cases ho
        exact ih _ _ _ hrun _ _ _ hW (lv_sub hl [2, 3, 4, 5, 0] rfl)
      · replace ho := ite_t c5 ho
        refine lv_iload_n hx hb dX10_sift_39 rfl (lv_at hl 3 rfl) ?_
        refine lv_iload hx hb dX10_sift_40 (lv_at hl 0 rfl) ?_
        refine lv_iand hx hb dX10_sift_42 ?_
        refine lv_if_ne (tgt := 57) hx hb dX10_sift_43 (by decide) (fun c7 => ?_) (fun c7 => ?_)
        · replace ho := ite_f c7 ho
          obtain ⟨x8, ex8, ho⟩ := nm_x ho
          refine lv_iinc (v := x8) (lv' := [(4, .int x8), (5, .int q3), (0, .ref (am 2010)), (1, .int v1), (2, .int v2), (3, .int v3)]) hx hb dX10_sift_57 hl (k := 5) rfl (by rw [ex8]; rfl) (by decide) rfl (fun ls hl => ?_)
          clear ex8
          refine lv_goto (tgt := 5) hx hb dX10_sift_60 (by decide) ?_
          cases ho
          exact ih _ _ _ hrun _ _ _ hW (lv_sub hl [2, 3, 4, 5, 0] rfl)
        · replace ho := ite_t c7 ho
          refine lv_aload_n hx hb dX10_sift_46 rfl (lv_at hl 1 rfl) ?_
          refine xGET_1008 C0 kw_343 hW dX10_sift_47 ?_
          refine lv_iload_n hx hb dX10_sift_50 rfl (lv_at hl 4 rfl) ?_
          refine lv_iload hx hb dX10_sift_51 (lv_at hl 0 rfl) ?_
          obtain ⟨g9, ho⟩ := gd_some ho
          refine xST_1008 C0 hW g9 dX10_sift_53 (fun H locs hW => ?_)
          obtain ⟨t10, ho, hW⟩ := nm_w (P := fun t => wl D A s (wX cI cJ cZ cR am gm t) H locs) ho hW
          obtain ⟨x11, ex11, ho⟩ := nm_x ho
          refine lv_iinc (v := x11) (lv' := [(3, .int x11), (5, .int q3), (0, .ref (am 2010)), (1, .int v1), (2, .int v2), (4, .int v4)]) hx hb dX10_sift_54 hl (k := 4) rfl (by rw [ex11]; rfl) (by decide) rfl (fun ls hl => ?_)
          clear ex11
          obtain ⟨x12, ex12, ho⟩ := nm_x ho
          refine lv_iinc (v := x12) (lv' := [(4, .int x12), (3, .int x11), (5, .int q3), (0, .ref (am 2010)), (1, .int v1), (2, .int v2)]) hx hb dX10_sift_57 hl (k := 5) rfl (by rw [ex12]; rfl) (by decide) rfl (fun ls hl => ?_)
          clear ex12
          refine lv_goto (tgt := 5) hx hb dX10_sift_60 (by decide) ?_
          cases ho
          exact ih _ _ _ hrun _ _ _ hW (lv_sub hl [3, 4, 5, 1, 0] rfl)
set_option maxHeartbeats 4000000 in
set_option maxRecDepth 100000 in
theorem c_x10_sift (l : Launch) {D : va_G} {cI cJ cZ cR : ClassId} {am gm : Nat → Nat} {st : Nat} (sz : Nat) (t : St) (a1 : Int32) (a2 : Int32) {r : Int32} {t' : St} (ho : x10_sift t a1 a2 = some (r, t')) : Met l yX10_sift (.code yX10_sift cX10_sift 6 (some .int) :: wsAll) (rmN 2 45) (va_Pc [.ref (am 2010), .int a1, .int a2] (prX D (tyX cI cJ cZ cR) (wX cI cJ cZ cR am gm t) sz st)) (qI r D (tyX cI cJ cZ cR) (wX cI cJ cZ cR am gm t') (va_A (wX cI cJ cZ cR am gm t) sz)) 0 0 (va_A (wX cI cJ cZ cR am gm t) sz) := by
  refine Met.ofW (cc := cX10_sift) (maxL := 6) (ret := (some .int)) (by decide) rfl ?_
  intro p e s m args below meth c s₁ B hml hv
  obtain ⟨rfl, ⟨hsz, hP, hK, hD0⟩, hsx⟩ := hv
  have hx := B.exec
  have hb := B.bytes
  have hts := atoms_spec (ws := (.code yX10_sift cX10_sift 6 (some .int) :: wsAll)) B.pre
  have hta := fun w h => hts w (List.mem_cons_of_mem _ h)
  have hown : s.vm.findClass RX10 = some m.cls := findClass_of_methodNamed B.named
  have hlocks := B.notSynchronized
  subst hsz
  have hD := hD0.self (sz := s.heap.size)
  generalize hAe : va_A (wX cI cJ cZ cR am gm t) s.heap.size = A at hD ⊢
  have hA : ∀ q : Nat, s.heap.size ≤ q → A q := fun q h => by rw [← hAe]; exact Or.inr h
  have C0 : cxX p s m ([.ref (am 2010), .int a1, .int a2].toArray) meth c cX10_sift RX10 6 (some .int) D (tyX cI cJ cZ cR) st A := ⟨⟨hx, hb, B.returns, hml, hown, hta, hlocks, hK, hA⟩, by rw [← hAe]; exact hsx⟩
  have hW : wl D A s (wX cI cJ cZ cR am gm t) s.heap [] := ⟨hP, hD, va_S.rf⟩
  have hl := lv_entry [.ref (am 2010), .int a1, .int a2] (n := 6) (Nat.le_of_ble_eq_true rfl)
  rw [lg_entry_eq]
  generalize (lg_sl [.ref (am 2010), .int a1, .int a2] ++ List.replicate (6 - (lg_sl [.ref (am 2010), .int a1, .int a2]).length) Slot.unset).toArray = ls at hl ⊢
  have hl : lv_has ls 6 [(0, .ref (am 2010)), (1, .int a1), (2, .int a2)] := hl
  unfold x10_sift at ho
  refine lv_iconst (v := (0 : Int32)) hx hb dX10_sift_0 (by decide) ?_
  refine lv_istore_n (lv' := [(3, .int (0 : Int32)), (0, .ref (am 2010)), (1, .int a1), (2, .int a2)]) hx hb dX10_sift_1 rfl hl (by decide) rfl (fun ls hl => ?_)
  refine lv_iconst (v := (0 : Int32)) hx hb dX10_sift_2 (by decide) ?_
  refine lv_istore (lv' := [(4, .int (0 : Int32)), (3, .int (0 : Int32)), (0, .ref (am 2010)), (1, .int a1), (2, .int a2)]) hx hb dX10_sift_3 hl (by decide) rfl (fun ls hl => ?_)
  obtain ⟨y13, hc15, ho⟩ := bd_some ho
  obtain ⟨ny13, hc15⟩ := lp_to hc15
  refine x10_sift_L5 C0 ?_ ny13 _ _ _ hc15 _ _ _ hW (lv_sub hl [2, 3, 4, 1, 0] rfl)
  intro H locs ls hW hl
  refine lv_iload_n hx hb dX10_sift_63 rfl (lv_at hl 1 rfl) ?_
  cases ho
  exact rtI C0.1 hW dX10_sift_64
noncomputable def x11_may_J46 (t : St) (v2 : Int32) (v3 : Int32) (w0 : Int32) : Option (Int32 × St) :=
  if w0 = 0 then (some ((-5 : Int32), t)) else ((x10_sift t v2 v3).bind (fun q2 => some (q2.1, q2.2)))
theorem mm_x11_may_J46 (t : St) (v2 : Int32) (v3 : Int32) (w0 : Int32) : MR (x11_may_J46 t v2 v3 w0) t (fun (a : Int32 × St) => a.2) := by
  unfold x11_may_J46
  exact MR_ite (MR_some mle.rfl) (MR_bind (mm_x10_sift t v2 v3) (fun q2 hq2 => MR_some hq2))
noncomputable def x11_may (t0 : St) (a1 : Int32) (a2 : Int32) (a3 : Int32) : Option (Int32 × St) :=
  (x11_noNet t0 a1).bind (fun q4 => if q4 = 0 then ((x11_noMarks t0 a2 a3).bind (fun q8 => if q8 = 0 then (gd a1 (gN t0 602) (nm (gA t0 602 (a1).toNatClampNeg) (fun x13 : Int32 => if 0 ≤ x13 then ((x10_listAll t0 x13).bind (fun q15 => x11_may_J46 q15.2 a2 a3 q15.1)) else (some ((-3 : Int32), t0))))) else (some ((-2 : Int32), t0)))) else (some ((-2 : Int32), t0)))
theorem mm_x11_may (t0 : St) (a1 : Int32) (a2 : Int32) (a3 : Int32) : MR (x11_may t0 a1 a2 a3) t0 (fun (a : Int32 × St) => a.2) := by
  unfold x11_may
  exact MR_bindn (fun q4 => MR_ite (MR_bindn (fun q8 => MR_ite (MR_gd (MR_nm (fun x13 _ => MR_ite (MR_bind (mm_x10_listAll t0 x13) (fun q15 hq15 => MR_wk hq15 (mm_x11_may_J46 q15.2 a2 a3 q15.1))) (MR_some mle.rfl)))) (MR_some mle.rfl))) (MR_some mle.rfl))
set_option maxHeartbeats 4000000 in
set_option maxRecDepth 100000 in
theorem c_x11_may (l : Launch) {D : va_G} {cI cJ cZ cR : ClassId} {am gm : Nat → Nat} {st : Nat} (sz : Nat) (t0 : St) (a1 : Int32) (a2 : Int32) (a3 : Int32) {r : Int32} {t' : St} (ho : x11_may t0 a1 a2 a3 = some (r, t')) : Met l yX11_may (.code yX11_may cX11_may 5 (some .int) :: wsAll) (rmA 5 118 t0 t') (va_Pc [.ref (am 2011), .int a1, .int a2, .int a3] (prX D (tyX cI cJ cZ cR) (wX cI cJ cZ cR am gm t0) sz st)) (qIa r D (tyX cI cJ cZ cR) (fun gm => wX cI cJ cZ cR am gm t') (va_A (wX cI cJ cZ cR am gm t0) sz)) (mC t0 t') (mS t0 t') (va_A (wX cI cJ cZ cR am gm t0) sz) := by
  refine Met.ofW (cc := cX11_may) (maxL := 5) (ret := (some .int)) (by decide) rfl ?_
  intro p e s m args below meth c s₁ B hml hv
  obtain ⟨rfl, ⟨hsz, hP, hK, hD0⟩, hsx⟩ := hv
  have hx := B.exec
  have hb := B.bytes
  have hts := atoms_spec (ws := (.code yX11_may cX11_may 5 (some .int) :: wsAll)) B.pre
  have hta := fun w h => hts w (List.mem_cons_of_mem _ h)
  have hown : s.vm.findClass RX11 = some m.cls := findClass_of_methodNamed B.named
  have hlocks := B.notSynchronized
  subst hsz
  have hD := hD0.self (sz := s.heap.size)
  generalize hAe : va_A (wX cI cJ cZ cR am gm t0) s.heap.size = A at hD ⊢
  have hA : ∀ q : Nat, s.heap.size ≤ q → A q := fun q h => by rw [← hAe]; exact Or.inr h
  have C0 : cxX p s m ([.ref (am 2011), .int a1, .int a2, .int a3].toArray) meth c cX11_may RX11 5 (some .int) D (tyX cI cJ cZ cR) st A := ⟨⟨hx, hb, B.returns, hml, hown, hta, hlocks, hK, hA⟩, by rw [← hAe]; exact hsx⟩
  have hW : wl D A s (wX cI cJ cZ cR am gm t0) s.heap [] := ⟨hP, hD, va_S.rf⟩
  have hl := lv_entry [.ref (am 2011), .int a1, .int a2, .int a3] (n := 5) (Nat.le_of_ble_eq_true rfl)
  rw [lg_entry_eq]
  generalize (lg_sl [.ref (am 2011), .int a1, .int a2, .int a3] ++ List.replicate (5 - (lg_sl [.ref (am 2011), .int a1, .int a2, .int a3]).length) Slot.unset).toArray = ls at hl ⊢
  have hl : lv_has ls 5 [(0, .ref (am 2011)), (1, .int a1), (2, .int a2), (3, .int a3)] := hl
  clear hAe hD hP hD0 hts
  have J46 : ∀ (gm : Nat → Nat) (t : St) (v2 : Int32) (v3 : Int32) (w0 : Int32) (_ : x11_may_J46 t v2 v3 w0 = some (r, t')) (_ : mle t0 t) (H : Heap) (locs : List Loc) (ls : Array Slot), wl D A s (wX cI cJ cZ cR am gm t) H locs → lv_has ls 5 [(0, .ref (am 2011)), (2, .int v2), (3, .int v3)] → W p l e (rmA 5 118 t0 t') s m ([.ref (am 2011), .int a1, .int a2, .int a3].toArray) below meth c H locs (mC t0 t) (mS t0 t) (MQ below (qIa r D (tyX cI cJ cZ cR) (fun gm => wX cI cJ cZ cR am gm t') A) ([.ref (am 2011), .int a1, .int a2, .int a3].toArray) s (mC t0 t') (mS t0 t') A) (F0 m 46 ls [.int w0]) := by
    intro gm t v2 v3 w0 ho h0 H locs ls hW hl
    have hE : mle t t' := (mm_x11_may_J46 _ _ _ _ _ ho)
    have hR := hR_of (t0 := t0) hE
    unfold x11_may_J46 at ho
    refine lv_if_eq (tgt := 61) hx hb dX11_may_46 (by decide) (fun c1 => ?_) (fun c1 => ?_)
    · replace ho := ite_t c1 ho
      refine lv_bipush (v := (-5 : Int32)) hx hb dX11_may_61 (by decide) ?_
      cases ho
      exact rtIa gm C0.1 hW dX11_may_63
    · replace ho := ite_f c1 ho
      refine lv_aload_n hx hb dX11_may_49 rfl (lv_at hl 0 rfl) ?_
      refine xGET_1104 C0 kw_595 hW dX11_may_50 ?_
      refine lv_iload_n hx hb dX11_may_53 rfl (lv_at hl 1 rfl) ?_
      refine lv_iload_n hx hb dX11_may_54 rfl (lv_at hl 2 rfl) ?_
      obtain ⟨q2, hc3, ho⟩ := bd_some ho
      have hq2 := mm_x10_sift t v2 v3 _ hc3
      refine bkI C0.1 hW (runVX (As := [.int v2, .int v3]) (rest := []) C0 hW (c_x10_sift l _ t v2 v3 (r := q2.1) (t' := q2.2) hc3) cb_X11_X10_sift_318 10 10 rfl rfl rfl rfl rfl ⟨rfl, rfl⟩ ⟨Nat.le_of_ble_eq_true rfl, Nat.le_of_ble_eq_true rfl⟩ (Nat.le_of_ble_eq_true rfl) hl.1 dX11_may_55 ⟨hR.1, hR.2⟩) (fun H locs hW => ?_)
      refine lv_goto (tgt := 63) hx hb dX11_may_58 (by decide) ?_
      refine W_up h0 hq2 ?_
      cases ho
      exact rtIa gm C0.1 hW dX11_may_63
  have hE : mle t0 t' := mm_x11_may _ _ _ _ _ ho
  have hR := hR_of (t0 := t0) hE
  have h0 : mle t0 t0 := mle.rfl
  refine W_0 (t0 := t0) ?_
  unfold x11_may at ho
  refine lv_iload_n hx hb dX11_may_0 rfl (lv_at hl 1 rfl) ?_
  obtain ⟨q4, hc5, ho⟩ := bd_some ho
  refine bkZ C0.1 hW (runSX (As := [.int a1]) (rest := []) C0 hW (c_x11_noNet l _ t0 a1 (r := q4) hc5) cb_X11_X11_noNet_124 rfl rfl ⟨rfl, rfl⟩ ⟨Nat.le_of_ble_eq_true rfl, Nat.le_of_ble_eq_true rfl⟩ (Nat.le_of_ble_eq_true rfl) hl.1 dX11_may_1 ⟨hR.1, hR.2⟩) (fun z6 H locs hW => ?_)
  refine lv_if_ne (tgt := 15) hx hb dX11_may_4 (by decide) (fun c7 => ?_) (fun c7 => ?_)
  · replace ho := ite_f c7 ho
    refine lv_bipush (v := (-2 : Int32)) hx hb dX11_may_15 (by decide) ?_
    cases ho
    exact rtIa gm C0.1 hW dX11_may_17
  · replace ho := ite_t c7 ho
    refine lv_iload_n hx hb dX11_may_7 rfl (lv_at hl 2 rfl) ?_
    refine lv_iload_n hx hb dX11_may_8 rfl (lv_at hl 3 rfl) ?_
    obtain ⟨q8, hc9, ho⟩ := bd_some ho
    refine bkZ C0.1 hW (runSX (As := [.int a2, .int a3]) (rest := []) C0 hW (c_x11_noMarks l _ t0 a2 a3 (r := q8) hc9) cb_X11_X11_noMarks_315 rfl rfl ⟨rfl, rfl⟩ ⟨Nat.le_of_ble_eq_true rfl, Nat.le_of_ble_eq_true rfl⟩ (Nat.le_of_ble_eq_true rfl) hl.1 dX11_may_9 ⟨hR.1, hR.2⟩) (fun z10 H locs hW => ?_)
    refine lv_if_eq (tgt := 18) hx hb dX11_may_12 (by decide) (fun c11 => ?_) (fun c11 => ?_)
    · replace ho := ite_t c11 ho
      refine lv_aload_n hx hb dX11_may_18 rfl (lv_at hl 0 rfl) ?_
      refine xGET_1101 C0 kw_592 hW dX11_may_19 ?_
      refine xGET_602 C0 kw_184 hW dX11_may_22 ?_
      refine lv_iload_n hx hb dX11_may_25 rfl (lv_at hl 1 rfl) ?_
      obtain ⟨g12, ho⟩ := gd_some ho
      refine xLD_602 C0 hW g12 dX11_may_26 ?_
      refine lv_nmi ho (fun x13 ho => ?_)
      refine lv_istore (lv' := [(4, .int x13), (0, .ref (am 2011)), (1, .int a1), (2, .int a2), (3, .int a3)]) hx hb dX11_may_27 hl (by decide) rfl (fun ls hl => ?_)
      refine lv_iload hx hb dX11_may_29 (lv_at hl 0 rfl) ?_
      refine lv_if_ge (tgt := 37) hx hb dX11_may_31 (by decide) (fun c14 => ?_) (fun c14 => ?_)
      · replace ho := ite_t c14 ho
        refine lv_aload_n hx hb dX11_may_37 rfl (lv_at hl 1 rfl) ?_
        refine xGET_1104 C0 kw_595 hW dX11_may_38 ?_
        refine lv_iload hx hb dX11_may_41 (lv_at hl 0 rfl) ?_
        obtain ⟨q15, hc16, ho⟩ := bd_some ho
        have hq15 := mm_x10_listAll t0 x13 _ hc16
        have hEq15 := (mm_x11_may_J46 _ _ _ _ _ ho)
        refine bkZa C0.1 hW h0 hq15 (runVX (As := [.int x13]) (rest := []) C0 hW (c_x10_listAll l _ t0 x13 (r := q15.1) (t' := q15.2) hc16) cb_X11_X10_listAll_167 10 10 rfl rfl rfl rfl rfl ⟨rfl, rfl⟩ ⟨Nat.le_of_ble_eq_true rfl, Nat.le_of_ble_eq_true rfl⟩ (Nat.le_of_ble_eq_true rfl) hl.1 dX11_may_43 (hf_of h0 hq15 hEq15)) (fun z17 gm H locs hW => ?_)
        have h0 := mle.trans h0 hq15
        exact J46 gm _ _ _ _ ho h0 _ _ _ hW (lv_sub hl [1, 3, 4] rfl)
      · replace ho := ite_f c14 ho
        refine lv_bipush (v := (-3 : Int32)) hx hb dX11_may_34 (by decide) ?_
        cases ho
        exact rtIa gm C0.1 hW dX11_may_36
    · replace ho := ite_f c11 ho
      refine lv_bipush (v := (-2 : Int32)) hx hb dX11_may_15 (by decide) ?_
      cases ho
      exact rtIa gm C0.1 hW dX11_may_17
noncomputable def x10_markToAsk_B44 (t : St) (v1 : Int32) (v2 : Int32) (v3 : Int32) (v4 : Int32) (v5 : Int32) (v6 : Int32) (v7 : Int32) (v8 : Int32) : Option ((Int32 × Int32) ⊕ (Int32)) :=
  if v3 ≤ v8 then (some (.inr v7)) else (gd v8 (gN t 1008) (nm (v7 + (((gA t 1008 (v8).toNatClampNeg) >>> (v6 &&& 31)) &&& (1 : Int32))) (fun x3 : Int32 => nm (v8 + (1 : Int32)) (fun x4 : Int32 => some (.inl (x3, x4))))))
noncomputable def x10_markToAsk_B16 (t : St) (v1 : Int32) (v2 : Int32) (v3 : Int32) (v4 : Int32) (v5 : Int32) (v6 : Int32) : Option ((Int32 × Int32 × Int32) ⊕ (Int32)) :=
  if (8 : Int32) ≤ v6 then (some (.inr v4)) else (if (((v1 ||| v2) >>> (v6 &&& 31)) &&& (1 : Int32)) = (1 : Int32) then (nm (v6 + (1 : Int32)) (fun x14 : Int32 => some (.inl (v4, v5, x14)))) else ((lp (fun x => x10_markToAsk_B44 t v1 v2 v3 v4 v5 v6 x.1 x.2) ((0 : Int32), (0 : Int32))).bind (fun y7 => nm (if y7 < (v3 - y7) then (v3 - y7) else y7) (fun x10 : Int32 => if v5 ≤ x10 then (nm (v6 + (1 : Int32)) (fun x12 : Int32 => some (.inl (v4, v5, x12)))) else (nm (v6 + (1 : Int32)) (fun x13 : Int32 => some (.inl (v6, x10, x13))))))))
noncomputable def x10_markToAsk (t : St) (a1 : Int32) (a2 : Int32) : Option (Int32 × St) :=
  (x10_sift t a1 a2).bind (fun q15 => (lp (fun x => x10_markToAsk_B16 q15.2 a1 a2 q15.1 x.1 x.2.1 x.2.2) ((-1 : Int32), q15.1, (0 : Int32))).bind (fun y17 => some (y17, q15.2)))
theorem mm_x10_markToAsk (t : St) (a1 : Int32) (a2 : Int32) : MR (x10_markToAsk t a1 a2) t (fun (a : Int32 × St) => a.2) := by
  unfold x10_markToAsk
  exact MR_bind (mm_x10_sift t a1 a2) (fun q15 hq15 => MR_bindn (fun y17 => MR_some hq15))
set_option maxHeartbeats 4000000 in
set_option maxRecDepth 100000 in
theorem x10_markToAsk_L44 {p : Program} {l : Launch} {e : Env} {s : State} {m : MethodId} {args : Array Value} {below : List Frame} {meth : Method} {c : Code} {Q : State → Prop} {D : va_G} {cI cJ cZ cR : ClassId} {am gm : Nat → Nat} {st : Nat} {A : Nat → Prop} (C0 : cxX p s m args meth c cX10_markToAsk RX10 9 (some .int) D (tyX cI cJ cZ cR) st A) {t : St} {v1 : Int32} {v2 : Int32} {v3 : Int32} {v4 : Int32} {v5 : Int32} {v6 : Int32} {y : Int32} (hK0 : ∀ (H : Heap) (locs : List Loc) (ls : Array Slot), wl D A s (wX cI cJ cZ cR am gm t) H locs → lv_has ls 9 [(0, .ref (am 2010)), (1, .int v1), (2, .int v2), (3, .int v3), (4, .int v4), (5, .int v5), (6, .int v6), (7, .int y)] → W p l e (rmN 3 70) s m args below meth c H locs 0 0 Q (F0 m 73 ls [])) :
    ∀ (n : Nat) (v7 : Int32) (v8 : Int32), lpn (fun x => x10_markToAsk_B44 t v1 v2 v3 v4 v5 v6 x.1 x.2) n (v7, v8) = some y → ∀ (H : Heap) (locs : List Loc) (ls : Array Slot), wl D A s (wX cI cJ cZ cR am gm t) H locs → lv_has ls 9 [(0, .ref (am 2010)), (1, .int v1), (2, .int v2), (3, .int v3), (4, .int v4), (5, .int v5), (6, .int v6), (7, .int v7), (8, .int v8)] → W p l e (rmN 3 70) s m args below meth c H locs 0 0 Q (F0 m 44 ls []) := by
  have hx := C0.1.1
  have hb := C0.1.2.1
  have hta := C0.1.2.2.2.2.2.1
  have hown := C0.1.2.2.2.2.1
  intro n
  induction n with
  | zero => intro _ _ h; cases h
  | succ n ih =>
    intro v7 v8 hrun H locs ls hW hl
    obtain ⟨o, ho, hrun⟩ := bd_some hrun
    unfold x10_markToAsk_B44 at ho
    refine lv_iload hx hb dX10_markToAsk_44 (lv_at hl 8 rfl) ?_
    refine lv_iload_n hx hb dX10_markToAsk_46 rfl (lv_at hl 3 rfl) ?_
    refine lv_icmp_ge (tgt := 73) hx hb dX10_markToAsk_47 (by decide) (fun c1 => ?_) (fun c1 => ?_)
    · replace ho := ite_t c1 ho
      cases ho
      cases hrun
      exact hK0 _ _ _ hW (lv_sub hl [0, 1, 2, 3, 4, 5, 6, 7] rfl)
    · replace ho := ite_f c1 ho
      refine lv_iload hx hb dX10_markToAsk_50 (lv_at hl 7 rfl) ?_
      refine lv_aload_n hx hb dX10_markToAsk_52 rfl (lv_at hl 0 rfl) ?_
      refine xGET_1008 C0 kw_343 hW dX10_markToAsk_53 ?_
      refine lv_iload hx hb dX10_markToAsk_56 (lv_at hl 8 rfl) ?_
      obtain ⟨g2, ho⟩ := gd_some ho
      refine xLD_1008 C0 hW g2 dX10_markToAsk_58 ?_
      refine lv_iload hx hb dX10_markToAsk_59 (lv_at hl 6 rfl) ?_
      refine lv_ishr hx hb dX10_markToAsk_61 ?_
      refine lv_iconst (v := (1 : Int32)) hx hb dX10_markToAsk_62 (by decide) ?_
      refine lv_iand hx hb dX10_markToAsk_63 ?_
      refine lv_iadd hx hb dX10_markToAsk_64 ?_
      refine lv_nmi ho (fun x3 ho => ?_)
      refine lv_istore (lv' := [(7, .int x3), (0, .ref (am 2010)), (1, .int v1), (2, .int v2), (3, .int v3), (4, .int v4), (5, .int v5), (6, .int v6), (8, .int v8)]) hx hb dX10_markToAsk_65 hl (by decide) rfl (fun ls hl => ?_)
      obtain ⟨x4, ex4, ho⟩ := nm_x ho
      refine lv_iinc (v := x4) (lv' := [(8, .int x4), (7, .int x3), (0, .ref (am 2010)), (1, .int v1), (2, .int v2), (3, .int v3), (4, .int v4), (5, .int v5), (6, .int v6)]) hx hb dX10_markToAsk_67 hl (k := 8) rfl (by rw [ex4]; rfl) (by decide) rfl (fun ls hl => ?_)
      clear ex4
      refine lv_goto (tgt := 44) hx hb dX10_markToAsk_70 (by decide) ?_
      cases ho
      exact ih _ _ hrun _ _ _ hW (lv_sub hl [2, 3, 4, 5, 6, 7, 8, 1, 0] rfl)
set_option maxHeartbeats 4000000 in
set_option maxRecDepth 100000 in
theorem x10_markToAsk_L16 {p : Program} {l : Launch} {e : Env} {s : State} {m : MethodId} {args : Array Value} {below : List Frame} {meth : Method} {c : Code} {Q : State → Prop} {D : va_G} {cI cJ cZ cR : ClassId} {am gm : Nat → Nat} {st : Nat} {A : Nat → Prop} (C0 : cxX p s m args meth c cX10_markToAsk RX10 9 (some .int) D (tyX cI cJ cZ cR) st A) {t : St} {v1 : Int32} {v2 : Int32} {v3 : Int32} {y : Int32} (hK0 : ∀ (H : Heap) (locs : List Loc) (ls : Array Slot), wl D A s (wX cI cJ cZ cR am gm t) H locs → lv_has ls 9 [(0, .ref (am 2010)), (4, .int y)] → W p l e (rmN 3 70) s m args below meth c H locs 0 0 Q (F0 m 105 ls [])) :
    ∀ (n : Nat) (v4 : Int32) (v5 : Int32) (v6 : Int32), lpn (fun x => x10_markToAsk_B16 t v1 v2 v3 x.1 x.2.1 x.2.2) n (v4, v5, v6) = some y → ∀ (H : Heap) (locs : List Loc) (ls : Array Slot), wl D A s (wX cI cJ cZ cR am gm t) H locs → lv_has ls 9 [(0, .ref (am 2010)), (1, .int v1), (2, .int v2), (3, .int v3), (4, .int v4), (5, .int v5), (6, .int v6)] → W p l e (rmN 3 70) s m args below meth c H locs 0 0 Q (F0 m 16 ls []) := by
  have hx := C0.1.1
  have hb := C0.1.2.1
  have hta := C0.1.2.2.2.2.2.1
  have hown := C0.1.2.2.2.2.1
  intro n
  induction n with
  | zero => intro _ _ _ h; cases h
  | succ n ih =>
    intro v4 v5 v6 hrun H locs ls hW hl
    obtain ⟨o, ho, hrun⟩ := bd_some hrun
    unfold x10_markToAsk_B16 at ho
    refine lv_iload hx hb dX10_markToAsk_16 (lv_at hl 6 rfl) ?_
    refine lv_bipush (v := (8 : Int32)) hx hb dX10_markToAsk_18 (by decide) ?_
    refine lv_icmp_ge (tgt := 105) hx hb dX10_markToAsk_20 (by decide) (fun c5 => ?_) (fun c5 => ?_)
    · replace ho := ite_t c5 ho
      cases ho
      cases hrun
      exact hK0 _ _ _ hW (lv_sub hl [0, 4] rfl)
    · replace ho := ite_f c5 ho
      refine lv_iload_n hx hb dX10_markToAsk_23 rfl (lv_at hl 1 rfl) ?_
      refine lv_iload_n hx hb dX10_markToAsk_24 rfl (lv_at hl 2 rfl) ?_
      refine lv_ior hx hb dX10_markToAsk_25 ?_
      refine lv_iload hx hb dX10_markToAsk_26 (lv_at hl 6 rfl) ?_
      refine lv_ishr hx hb dX10_markToAsk_28 ?_
      refine lv_iconst (v := (1 : Int32)) hx hb dX10_markToAsk_29 (by decide) ?_
      refine lv_iand hx hb dX10_markToAsk_30 ?_
      refine lv_iconst (v := (1 : Int32)) hx hb dX10_markToAsk_31 (by decide) ?_
      refine lv_icmp_ne (tgt := 38) hx hb dX10_markToAsk_32 (by decide) (fun c6 => ?_) (fun c6 => ?_)
      · replace ho := ite_f c6 ho
        refine lv_iconst (v := (0 : Int32)) hx hb dX10_markToAsk_38 (by decide) ?_
        refine lv_istore (lv' := [(7, .int (0 : Int32)), (0, .ref (am 2010)), (1, .int v1), (2, .int v2), (3, .int v3), (4, .int v4), (5, .int v5), (6, .int v6)]) hx hb dX10_markToAsk_39 hl (by decide) rfl (fun ls hl => ?_)
        refine lv_iconst (v := (0 : Int32)) hx hb dX10_markToAsk_41 (by decide) ?_
        refine lv_istore (lv' := [(8, .int (0 : Int32)), (7, .int (0 : Int32)), (0, .ref (am 2010)), (1, .int v1), (2, .int v2), (3, .int v3), (4, .int v4), (5, .int v5), (6, .int v6)]) hx hb dX10_markToAsk_42 hl (by decide) rfl (fun ls hl => ?_)
        obtain ⟨y7, hc9, ho⟩ := bd_some ho
        obtain ⟨ny7, hc9⟩ := lp_to hc9
        refine x10_markToAsk_L44 C0 ?_ ny7 _ _ hc9 _ _ _ hW (lv_sub hl [2, 3, 4, 5, 6, 7, 8, 1, 0] rfl)
        intro H locs ls hW hl
        refine lv_iload hx hb dX10_markToAsk_73 (lv_at hl 7 rfl) ?_
        refine lv_iload_n hx hb dX10_markToAsk_75 rfl (lv_at hl 3 rfl) ?_
        refine lv_iload hx hb dX10_markToAsk_76 (lv_at hl 7 rfl) ?_
        refine lv_isub hx hb dX10_markToAsk_78 ?_
        refine va_mmax (rest := []) hx hb (C0.1.2.2.2.1.trans hl.1.symm) hown (hta _ kw_1277) (hta _ kw_735) (hta _ kw_136) (hta _ kw_736) (Nat.le_of_ble_eq_true rfl) (Nat.le_of_ble_eq_true rfl) (Nat.le_of_ble_eq_true rfl) (Nat.le_of_ble_eq_true rfl) dX10_markToAsk_79 ?_
        refine lv_nmi ho (fun x10 ho => ?_)
        refine lv_istore (lv' := [(8, .int x10), (0, .ref (am 2010)), (1, .int v1), (2, .int v2), (3, .int v3), (4, .int v4), (5, .int v5), (6, .int v6), (7, .int y7)]) hx hb dX10_markToAsk_82 hl (by decide) rfl (fun ls hl => ?_)
        refine lv_iload hx hb dX10_markToAsk_84 (lv_at hl 0 rfl) ?_
        refine lv_iload hx hb dX10_markToAsk_86 (lv_at hl 6 rfl) ?_
        refine lv_icmp_ge (tgt := 99) hx hb dX10_markToAsk_88 (by decide) (fun c11 => ?_) (fun c11 => ?_)
        · replace ho := ite_t c11 ho
          obtain ⟨x12, ex12, ho⟩ := nm_x ho
          refine lv_iinc (v := x12) (lv' := [(6, .int x12), (8, .int x10), (0, .ref (am 2010)), (1, .int v1), (2, .int v2), (3, .int v3), (4, .int v4), (5, .int v5), (7, .int y7)]) hx hb dX10_markToAsk_99 hl (k := 7) rfl (by rw [ex12]; rfl) (by decide) rfl (fun ls hl => ?_)
          clear ex12
          refine lv_goto (tgt := 16) hx hb dX10_markToAsk_102 (by decide) ?_
          cases ho
          exact ih _ _ _ hrun _ _ _ hW (lv_sub hl [2, 3, 4, 5, 6, 7, 0] rfl)
        · replace ho := ite_f c11 ho
          refine lv_iload hx hb dX10_markToAsk_91 (lv_at hl 0 rfl) ?_
          refine lv_istore (lv' := [(5, .int x10), (8, .int x10), (0, .ref (am 2010)), (1, .int v1), (2, .int v2), (3, .int v3), (4, .int v4), (6, .int v6), (7, .int y7)]) hx hb dX10_markToAsk_93 hl (by decide) rfl (fun ls hl => ?_)
          refine lv_iload hx hb dX10_markToAsk_95 (lv_at hl 7 rfl) ?_
          refine lv_istore (lv' := [(4, .int v6), (5, .int x10), (8, .int x10), (0, .ref (am 2010)), (1, .int v1), (2, .int v2), (3, .int v3), (6, .int v6), (7, .int y7)]) hx hb dX10_markToAsk_97 hl (by decide) rfl (fun ls hl => ?_)
          obtain ⟨x13, ex13, ho⟩ := nm_x ho
          refine lv_iinc (v := x13) (lv' := [(6, .int x13), (4, .int v6), (5, .int x10), (8, .int x10), (0, .ref (am 2010)), (1, .int v1), (2, .int v2), (3, .int v3), (7, .int y7)]) hx hb dX10_markToAsk_99 hl (k := 7) rfl (by rw [ex13]; rfl) (by decide) rfl (fun ls hl => ?_)
          clear ex13
          refine lv_goto (tgt := 16) hx hb dX10_markToAsk_102 (by decide) ?_
          cases ho
          exact ih _ _ _ hrun _ _ _ hW (lv_sub hl [4, 5, 6, 7, 1, 2, 0] rfl)
      · replace ho := ite_t c6 ho
        refine lv_goto (tgt := 99) hx hb dX10_markToAsk_35 (by decide) ?_
        obtain ⟨x14, ex14, ho⟩ := nm_x ho
        refine lv_iinc (v := x14) (lv' := [(6, .int x14), (0, .ref (am 2010)), (1, .int v1), (2, .int v2), (3, .int v3), (4, .int v4), (5, .int v5)]) hx hb dX10_markToAsk_99 hl (k := 6) rfl (by rw [ex14]; rfl) (by decide) rfl (fun ls hl => ?_)
        clear ex14
        refine lv_goto (tgt := 16) hx hb dX10_markToAsk_102 (by decide) ?_
        cases ho
        exact ih _ _ _ hrun _ _ _ hW (lv_sub hl [1, 2, 3, 4, 5, 6, 0] rfl)
set_option maxHeartbeats 4000000 in
set_option maxRecDepth 100000 in
theorem c_x10_markToAsk (l : Launch) {D : va_G} {cI cJ cZ cR : ClassId} {am gm : Nat → Nat} {st : Nat} (sz : Nat) (t : St) (a1 : Int32) (a2 : Int32) {r : Int32} {t' : St} (ho : x10_markToAsk t a1 a2 = some (r, t')) : Met l yX10_markToAsk (.code yX10_markToAsk cX10_markToAsk 9 (some .int) :: wsAll) (rmN 3 70) (va_Pc [.ref (am 2010), .int a1, .int a2] (prX D (tyX cI cJ cZ cR) (wX cI cJ cZ cR am gm t) sz st)) (qI r D (tyX cI cJ cZ cR) (wX cI cJ cZ cR am gm t') (va_A (wX cI cJ cZ cR am gm t) sz)) 0 0 (va_A (wX cI cJ cZ cR am gm t) sz) := by
  refine Met.ofW (cc := cX10_markToAsk) (maxL := 9) (ret := (some .int)) (by decide) rfl ?_
  intro p e s m args below meth c s₁ B hml hv
  obtain ⟨rfl, ⟨hsz, hP, hK, hD0⟩, hsx⟩ := hv
  have hx := B.exec
  have hb := B.bytes
  have hts := atoms_spec (ws := (.code yX10_markToAsk cX10_markToAsk 9 (some .int) :: wsAll)) B.pre
  have hta := fun w h => hts w (List.mem_cons_of_mem _ h)
  have hown : s.vm.findClass RX10 = some m.cls := findClass_of_methodNamed B.named
  have hlocks := B.notSynchronized
  subst hsz
  have hD := hD0.self (sz := s.heap.size)
  generalize hAe : va_A (wX cI cJ cZ cR am gm t) s.heap.size = A at hD ⊢
  have hA : ∀ q : Nat, s.heap.size ≤ q → A q := fun q h => by rw [← hAe]; exact Or.inr h
  have C0 : cxX p s m ([.ref (am 2010), .int a1, .int a2].toArray) meth c cX10_markToAsk RX10 9 (some .int) D (tyX cI cJ cZ cR) st A := ⟨⟨hx, hb, B.returns, hml, hown, hta, hlocks, hK, hA⟩, by rw [← hAe]; exact hsx⟩
  have hW : wl D A s (wX cI cJ cZ cR am gm t) s.heap [] := ⟨hP, hD, va_S.rf⟩
  have hl := lv_entry [.ref (am 2010), .int a1, .int a2] (n := 9) (Nat.le_of_ble_eq_true rfl)
  rw [lg_entry_eq]
  generalize (lg_sl [.ref (am 2010), .int a1, .int a2] ++ List.replicate (9 - (lg_sl [.ref (am 2010), .int a1, .int a2]).length) Slot.unset).toArray = ls at hl ⊢
  have hl : lv_has ls 9 [(0, .ref (am 2010)), (1, .int a1), (2, .int a2)] := hl
  unfold x10_markToAsk at ho
  refine lv_aload_n hx hb dX10_markToAsk_0 rfl (lv_at hl 0 rfl) ?_
  refine lv_iload_n hx hb dX10_markToAsk_1 rfl (lv_at hl 1 rfl) ?_
  refine lv_iload_n hx hb dX10_markToAsk_2 rfl (lv_at hl 2 rfl) ?_
  obtain ⟨q15, hc16, ho⟩ := bd_some ho
  refine bkI C0.1 hW (runVX (As := [.int a1, .int a2]) (rest := []) C0 hW (c_x10_sift l _ t a1 a2 (r := q15.1) (t' := q15.2) hc16) cb_X10_X10_sift_98 10 10 rfl rfl rfl rfl rfl ⟨rfl, rfl⟩ ⟨Nat.le_of_ble_eq_true rfl, Nat.le_of_ble_eq_true rfl⟩ (Nat.le_of_ble_eq_true rfl) hl.1 dX10_markToAsk_3 ⟨Nat.le_of_ble_eq_true rfl, Nat.le_of_ble_eq_true rfl⟩) (fun H locs hW => ?_)
  refine lv_istore_n (lv' := [(3, .int q15.1), (0, .ref (am 2010)), (1, .int a1), (2, .int a2)]) hx hb dX10_markToAsk_6 rfl hl (by decide) rfl (fun ls hl => ?_)
  refine lv_iconst (v := (-1 : Int32)) hx hb dX10_markToAsk_7 (by decide) ?_
  refine lv_istore (lv' := [(4, .int (-1 : Int32)), (3, .int q15.1), (0, .ref (am 2010)), (1, .int a1), (2, .int a2)]) hx hb dX10_markToAsk_8 hl (by decide) rfl (fun ls hl => ?_)
  refine lv_iload_n hx hb dX10_markToAsk_10 rfl (lv_at hl 1 rfl) ?_
  refine lv_istore (lv' := [(5, .int q15.1), (4, .int (-1 : Int32)), (3, .int q15.1), (0, .ref (am 2010)), (1, .int a1), (2, .int a2)]) hx hb dX10_markToAsk_11 hl (by decide) rfl (fun ls hl => ?_)
  refine lv_iconst (v := (0 : Int32)) hx hb dX10_markToAsk_13 (by decide) ?_
  refine lv_istore (lv' := [(6, .int (0 : Int32)), (5, .int q15.1), (4, .int (-1 : Int32)), (3, .int q15.1), (0, .ref (am 2010)), (1, .int a1), (2, .int a2)]) hx hb dX10_markToAsk_14 hl (by decide) rfl (fun ls hl => ?_)
  obtain ⟨y17, hc19, ho⟩ := bd_some ho
  obtain ⟨ny17, hc19⟩ := lp_to hc19
  refine x10_markToAsk_L16 C0 ?_ ny17 _ _ _ hc19 _ _ _ hW (lv_sub hl [4, 5, 6, 3, 2, 1, 0] rfl)
  intro H locs ls hW hl
  refine lv_iload hx hb dX10_markToAsk_105 (lv_at hl 1 rfl) ?_
  cases ho
  exact rtI C0.1 hW dX10_markToAsk_107
noncomputable def x11_ask_J46 (t : St) (v2 : Int32) (v3 : Int32) (w0 : Int32) : Option (Int32 × St) :=
  if w0 = 0 then (some ((-5 : Int32), t)) else ((x10_markToAsk t v2 v3).bind (fun q2 => some (q2.1, q2.2)))
theorem mm_x11_ask_J46 (t : St) (v2 : Int32) (v3 : Int32) (w0 : Int32) : MR (x11_ask_J46 t v2 v3 w0) t (fun (a : Int32 × St) => a.2) := by
  unfold x11_ask_J46
  exact MR_ite (MR_some mle.rfl) (MR_bind (mm_x10_markToAsk t v2 v3) (fun q2 hq2 => MR_some hq2))
noncomputable def x11_ask (t0 : St) (a1 : Int32) (a2 : Int32) (a3 : Int32) : Option (Int32 × St) :=
  (x11_noNet t0 a1).bind (fun q4 => if q4 = 0 then ((x11_noMarks t0 a2 a3).bind (fun q8 => if q8 = 0 then (gd a1 (gN t0 602) (nm (gA t0 602 (a1).toNatClampNeg) (fun x13 : Int32 => if 0 ≤ x13 then ((x10_listAll t0 x13).bind (fun q15 => x11_ask_J46 q15.2 a2 a3 q15.1)) else (some ((-3 : Int32), t0))))) else (some ((-2 : Int32), t0)))) else (some ((-2 : Int32), t0)))
theorem mm_x11_ask (t0 : St) (a1 : Int32) (a2 : Int32) (a3 : Int32) : MR (x11_ask t0 a1 a2 a3) t0 (fun (a : Int32 × St) => a.2) := by
  unfold x11_ask
  exact MR_bindn (fun q4 => MR_ite (MR_bindn (fun q8 => MR_ite (MR_gd (MR_nm (fun x13 _ => MR_ite (MR_bind (mm_x10_listAll t0 x13) (fun q15 hq15 => MR_wk hq15 (mm_x11_ask_J46 q15.2 a2 a3 q15.1))) (MR_some mle.rfl)))) (MR_some mle.rfl))) (MR_some mle.rfl))
set_option maxHeartbeats 4000000 in
set_option maxRecDepth 100000 in
theorem c_x11_ask (l : Launch) {D : va_G} {cI cJ cZ cR : ClassId} {am gm : Nat → Nat} {st : Nat} (sz : Nat) (t0 : St) (a1 : Int32) (a2 : Int32) (a3 : Int32) {r : Int32} {t' : St} (ho : x11_ask t0 a1 a2 a3 = some (r, t')) : Met l yX11_ask (.code yX11_ask cX11_ask 5 (some .int) :: wsAll) (rmA 5 118 t0 t') (va_Pc [.ref (am 2011), .int a1, .int a2, .int a3] (prX D (tyX cI cJ cZ cR) (wX cI cJ cZ cR am gm t0) sz st)) (qIa r D (tyX cI cJ cZ cR) (fun gm => wX cI cJ cZ cR am gm t') (va_A (wX cI cJ cZ cR am gm t0) sz)) (mC t0 t') (mS t0 t') (va_A (wX cI cJ cZ cR am gm t0) sz) := by
  refine Met.ofW (cc := cX11_ask) (maxL := 5) (ret := (some .int)) (by decide) rfl ?_
  intro p e s m args below meth c s₁ B hml hv
  obtain ⟨rfl, ⟨hsz, hP, hK, hD0⟩, hsx⟩ := hv
  have hx := B.exec
  have hb := B.bytes
  have hts := atoms_spec (ws := (.code yX11_ask cX11_ask 5 (some .int) :: wsAll)) B.pre
  have hta := fun w h => hts w (List.mem_cons_of_mem _ h)
  have hown : s.vm.findClass RX11 = some m.cls := findClass_of_methodNamed B.named
  have hlocks := B.notSynchronized
  subst hsz
  have hD := hD0.self (sz := s.heap.size)
  generalize hAe : va_A (wX cI cJ cZ cR am gm t0) s.heap.size = A at hD ⊢
  have hA : ∀ q : Nat, s.heap.size ≤ q → A q := fun q h => by rw [← hAe]; exact Or.inr h
  have C0 : cxX p s m ([.ref (am 2011), .int a1, .int a2, .int a3].toArray) meth c cX11_ask RX11 5 (some .int) D (tyX cI cJ cZ cR) st A := ⟨⟨hx, hb, B.returns, hml, hown, hta, hlocks, hK, hA⟩, by rw [← hAe]; exact hsx⟩
  have hW : wl D A s (wX cI cJ cZ cR am gm t0) s.heap [] := ⟨hP, hD, va_S.rf⟩
  have hl := lv_entry [.ref (am 2011), .int a1, .int a2, .int a3] (n := 5) (Nat.le_of_ble_eq_true rfl)
  rw [lg_entry_eq]
  generalize (lg_sl [.ref (am 2011), .int a1, .int a2, .int a3] ++ List.replicate (5 - (lg_sl [.ref (am 2011), .int a1, .int a2, .int a3]).length) Slot.unset).toArray = ls at hl ⊢
  have hl : lv_has ls 5 [(0, .ref (am 2011)), (1, .int a1), (2, .int a2), (3, .int a3)] := hl
  clear hAe hD hP hD0 hts
  have J46 : ∀ (gm : Nat → Nat) (t : St) (v2 : Int32) (v3 : Int32) (w0 : Int32) (_ : x11_ask_J46 t v2 v3 w0 = some (r, t')) (_ : mle t0 t) (H : Heap) (locs : List Loc) (ls : Array Slot), wl D A s (wX cI cJ cZ cR am gm t) H locs → lv_has ls 5 [(0, .ref (am 2011)), (2, .int v2), (3, .int v3)] → W p l e (rmA 5 118 t0 t') s m ([.ref (am 2011), .int a1, .int a2, .int a3].toArray) below meth c H locs (mC t0 t) (mS t0 t) (MQ below (qIa r D (tyX cI cJ cZ cR) (fun gm => wX cI cJ cZ cR am gm t') A) ([.ref (am 2011), .int a1, .int a2, .int a3].toArray) s (mC t0 t') (mS t0 t') A) (F0 m 46 ls [.int w0]) := by
    intro gm t v2 v3 w0 ho h0 H locs ls hW hl
    have hE : mle t t' := (mm_x11_ask_J46 _ _ _ _ _ ho)
    have hR := hR_of (t0 := t0) hE
    unfold x11_ask_J46 at ho
    refine lv_if_eq (tgt := 61) hx hb dX11_ask_46 (by decide) (fun c1 => ?_) (fun c1 => ?_)
    · replace ho := ite_t c1 ho
      refine lv_bipush (v := (-5 : Int32)) hx hb dX11_ask_61 (by decide) ?_
      cases ho
      exact rtIa gm C0.1 hW dX11_ask_63
    · replace ho := ite_f c1 ho
      refine lv_aload_n hx hb dX11_ask_49 rfl (lv_at hl 0 rfl) ?_
      refine xGET_1104 C0 kw_595 hW dX11_ask_50 ?_
      refine lv_iload_n hx hb dX11_ask_53 rfl (lv_at hl 1 rfl) ?_
      refine lv_iload_n hx hb dX11_ask_54 rfl (lv_at hl 2 rfl) ?_
      obtain ⟨q2, hc3, ho⟩ := bd_some ho
      have hq2 := mm_x10_markToAsk t v2 v3 _ hc3
      refine bkI C0.1 hW (runVX (As := [.int v2, .int v3]) (rest := []) C0 hW (c_x10_markToAsk l _ t v2 v3 (r := q2.1) (t' := q2.2) hc3) cb_X11_X10_markToAsk_321 10 10 rfl rfl rfl rfl rfl ⟨rfl, rfl⟩ ⟨Nat.le_of_ble_eq_true rfl, Nat.le_of_ble_eq_true rfl⟩ (Nat.le_of_ble_eq_true rfl) hl.1 dX11_ask_55 ⟨hR.1, hR.2⟩) (fun H locs hW => ?_)
      refine lv_goto (tgt := 63) hx hb dX11_ask_58 (by decide) ?_
      refine W_up h0 hq2 ?_
      cases ho
      exact rtIa gm C0.1 hW dX11_ask_63
  have hE : mle t0 t' := mm_x11_ask _ _ _ _ _ ho
  have hR := hR_of (t0 := t0) hE
  have h0 : mle t0 t0 := mle.rfl
  refine W_0 (t0 := t0) ?_
  unfold x11_ask at ho
  refine lv_iload_n hx hb dX11_ask_0 rfl (lv_at hl 1 rfl) ?_
  obtain ⟨q4, hc5, ho⟩ := bd_some ho
  refine bkZ C0.1 hW (runSX (As := [.int a1]) (rest := []) C0 hW (c_x11_noNet l _ t0 a1 (r := q4) hc5) cb_X11_X11_noNet_124 rfl rfl ⟨rfl, rfl⟩ ⟨Nat.le_of_ble_eq_true rfl, Nat.le_of_ble_eq_true rfl⟩ (Nat.le_of_ble_eq_true rfl) hl.1 dX11_ask_1 ⟨hR.1, hR.2⟩) (fun z6 H locs hW => ?_)
  refine lv_if_ne (tgt := 15) hx hb dX11_ask_4 (by decide) (fun c7 => ?_) (fun c7 => ?_)
  · replace ho := ite_f c7 ho
    refine lv_bipush (v := (-2 : Int32)) hx hb dX11_ask_15 (by decide) ?_
    cases ho
    exact rtIa gm C0.1 hW dX11_ask_17
  · replace ho := ite_t c7 ho
    refine lv_iload_n hx hb dX11_ask_7 rfl (lv_at hl 2 rfl) ?_
    refine lv_iload_n hx hb dX11_ask_8 rfl (lv_at hl 3 rfl) ?_
    obtain ⟨q8, hc9, ho⟩ := bd_some ho
    refine bkZ C0.1 hW (runSX (As := [.int a2, .int a3]) (rest := []) C0 hW (c_x11_noMarks l _ t0 a2 a3 (r := q8) hc9) cb_X11_X11_noMarks_315 rfl rfl ⟨rfl, rfl⟩ ⟨Nat.le_of_ble_eq_true rfl, Nat.le_of_ble_eq_true rfl⟩ (Nat.le_of_ble_eq_true rfl) hl.1 dX11_ask_9 ⟨hR.1, hR.2⟩) (fun z10 H locs hW => ?_)
    refine lv_if_eq (tgt := 18) hx hb dX11_ask_12 (by decide) (fun c11 => ?_) (fun c11 => ?_)
    · replace ho := ite_t c11 ho
      refine lv_aload_n hx hb dX11_ask_18 rfl (lv_at hl 0 rfl) ?_
      refine xGET_1101 C0 kw_592 hW dX11_ask_19 ?_
      refine xGET_602 C0 kw_184 hW dX11_ask_22 ?_
      refine lv_iload_n hx hb dX11_ask_25 rfl (lv_at hl 1 rfl) ?_
      obtain ⟨g12, ho⟩ := gd_some ho
      refine xLD_602 C0 hW g12 dX11_ask_26 ?_
      refine lv_nmi ho (fun x13 ho => ?_)
      refine lv_istore (lv' := [(4, .int x13), (0, .ref (am 2011)), (1, .int a1), (2, .int a2), (3, .int a3)]) hx hb dX11_ask_27 hl (by decide) rfl (fun ls hl => ?_)
      refine lv_iload hx hb dX11_ask_29 (lv_at hl 0 rfl) ?_
      refine lv_if_ge (tgt := 37) hx hb dX11_ask_31 (by decide) (fun c14 => ?_) (fun c14 => ?_)
      · replace ho := ite_t c14 ho
        refine lv_aload_n hx hb dX11_ask_37 rfl (lv_at hl 1 rfl) ?_
        refine xGET_1104 C0 kw_595 hW dX11_ask_38 ?_
        refine lv_iload hx hb dX11_ask_41 (lv_at hl 0 rfl) ?_
        obtain ⟨q15, hc16, ho⟩ := bd_some ho
        have hq15 := mm_x10_listAll t0 x13 _ hc16
        have hEq15 := (mm_x11_ask_J46 _ _ _ _ _ ho)
        refine bkZa C0.1 hW h0 hq15 (runVX (As := [.int x13]) (rest := []) C0 hW (c_x10_listAll l _ t0 x13 (r := q15.1) (t' := q15.2) hc16) cb_X11_X10_listAll_167 10 10 rfl rfl rfl rfl rfl ⟨rfl, rfl⟩ ⟨Nat.le_of_ble_eq_true rfl, Nat.le_of_ble_eq_true rfl⟩ (Nat.le_of_ble_eq_true rfl) hl.1 dX11_ask_43 (hf_of h0 hq15 hEq15)) (fun z17 gm H locs hW => ?_)
        have h0 := mle.trans h0 hq15
        exact J46 gm _ _ _ _ ho h0 _ _ _ hW (lv_sub hl [1, 3, 4] rfl)
      · replace ho := ite_f c14 ho
        refine lv_bipush (v := (-3 : Int32)) hx hb dX11_ask_34 (by decide) ?_
        cases ho
        exact rtIa gm C0.1 hW dX11_ask_36
    · replace ho := ite_f c11 ho
      refine lv_bipush (v := (-2 : Int32)) hx hb dX11_ask_15 (by decide) ?_
      cases ho
      exact rtIa gm C0.1 hW dX11_ask_17
