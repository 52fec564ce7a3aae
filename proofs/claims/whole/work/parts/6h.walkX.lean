noncomputable def x3_layOut_B124 (v1 : Int32) (t : St) : Option ((Int32 × St) ⊕ (St)) :=
  if (gI t 306) ≤ v1 then (some (.inr t)) else (gd v1 (gN t 305) (nm (sA t 305 v1 v1) (fun t3 : St => gd (((gI t3 302) * (gI t3 307)) + v1) (gN t3 303) (nm (sB t3 303 (((gI t3 302) * (gI t3 307)) + v1) (-1 : Int64)) (fun t5 : St => nm (v1 + (1 : Int32)) (fun x6 : Int32 => some (.inl (x6, t5))))))))
theorem mm_x3_layOut_B124 (v1 : Int32) (t : St) : MR (x3_layOut_B124 v1 t) t (Sum.elim (fun (x : Int32 × St) => x.2) (fun (y : St) => y)) := by
  unfold x3_layOut_B124
  exact MR_ite (MR_some mle.rfl) (MR_gd (MR_nmS mle_sA (fun t3 ht3 => MR_gd (MR_nmS mle_sB (fun t5 ht5 => MR_nm (fun x6 _ => MR_some (mle.trans ht3 ht5)))))))
theorem mm_x3_layOut_L124 (v1 : Int32) (t : St) : MR (lp (fun x => x3_layOut_B124 x.1 x.2) (v1, t)) t (fun (y : St) => y) := MR_lp (p := (fun (x : Int32 × St) => x.2)) (q := (fun (y : St) => y)) (fun x => mm_x3_layOut_B124 x.1 x.2) (v1, t)
noncomputable def x3_layOut_B55 (v1 : Int32) (v2 : Int32) (t : St) : Option ((Int32 × St) ⊕ (St)) :=
  if (gI t 306) ≤ v2 then (some (.inr t)) else (gd v2 (gN t 1002) ((x3_greatestCatch t v1 (gA t 1002 (v2).toNatClampNeg)).bind (fun q9 => gd ((v1 * (gI t 307)) + v2) (gN t 303) (nm (sB t 303 ((v1 * (gI t 307)) + v2) (((1 : Int32) + q9)).toInt64) (fun t12 : St => nm (v2 + (1 : Int32)) (fun x13 : Int32 => some (.inl (x13, t12))))))))
theorem mm_x3_layOut_B55 (v1 : Int32) (v2 : Int32) (t : St) : MR (x3_layOut_B55 v1 v2 t) t (Sum.elim (fun (x : Int32 × St) => x.2) (fun (y : St) => y)) := by
  unfold x3_layOut_B55
  exact MR_ite (MR_some mle.rfl) (MR_gd (MR_bindn (fun q9 => MR_gd (MR_nmS mle_sB (fun t12 ht12 => MR_nm (fun x13 _ => MR_some ht12))))))
theorem mm_x3_layOut_L55 (v1 : Int32) (v2 : Int32) (t : St) : MR (lp (fun x => x3_layOut_B55 v1 x.1 x.2) (v2, t)) t (fun (y : St) => y) := MR_lp (p := (fun (x : Int32 × St) => x.2)) (q := (fun (y : St) => y)) (fun x => mm_x3_layOut_B55 v1 x.1 x.2) (v2, t)
noncomputable def x3_layOut_B33 (v1 : Int32) (t : St) : Option ((Int32 × St) ⊕ (St)) :=
  if (gI t 302) ≤ v1 then (some (.inr t)) else (gd v1 (gN t 304) (nm (sA t 304 v1 ((gI t 306) + v1)) (fun t16 : St => (lp (fun x => x3_layOut_B55 v1 x.1 x.2) ((0 : Int32), t16)).bind (fun y17 => gd ((v1 * (gI y17 307)) + (gI y17 306)) (gN y17 303) (nm (sB y17 303 ((v1 * (gI y17 307)) + (gI y17 306)) (1 : Int64)) (fun t21 : St => nm (v1 + (1 : Int32)) (fun x22 : Int32 => some (.inl (x22, t21)))))))))
theorem mm_x3_layOut_B33 (v1 : Int32) (t : St) : MR (x3_layOut_B33 v1 t) t (Sum.elim (fun (x : Int32 × St) => x.2) (fun (y : St) => y)) := by
  unfold x3_layOut_B33
  exact MR_ite (MR_some mle.rfl) (MR_gd (MR_nmS mle_sA (fun t16 ht16 => MR_bind (mm_x3_layOut_L55 v1 (0 : Int32) t16) (fun y17 hm18 => MR_gd (MR_nmS mle_sB (fun t21 ht21 => MR_nm (fun x22 _ => MR_some (mle.trans (mle.trans ht16 hm18) ht21))))))))
theorem mm_x3_layOut_L33 (v1 : Int32) (t : St) : MR (lp (fun x => x3_layOut_B33 x.1 x.2) (v1, t)) t (fun (y : St) => y) := MR_lp (p := (fun (x : Int32 × St) => x.2)) (q := (fun (y : St) => y)) (fun x => mm_x3_layOut_B33 x.1 x.2) (v1, t)
noncomputable def x3_layOut (t : St) : Option (St) :=
  nm (sI t 306 (if (24 : Int32) < (gI t 1004) then (24 : Int32) else (gI t 1004))) (fun t23 : St => nm (sI t23 307 ((gI t23 306) + (1 : Int32))) (fun t24 : St => nm (sJ t24 308 (1 : Int64)) (fun t25 : St => (lp (fun x => x3_layOut_B33 x.1 x.2) ((0 : Int32), t25)).bind (fun y26 => (lp (fun x => x3_layOut_B124 x.1 x.2) ((0 : Int32), y26)).bind (fun y29 => gd (((gI y29 302) * (gI y29 307)) + (gI y29 306)) (gN y29 303) (nm (sB y29 303 (((gI y29 302) * (gI y29 307)) + (gI y29 306)) (0 : Int64)) (fun t33 : St => some t33)))))))
theorem mm_x3_layOut (t : St) : MR (x3_layOut t) t (fun (a : St) => a) := by
  unfold x3_layOut
  exact MR_nmS mle_sI (fun t23 ht23 => MR_nmS mle_sI (fun t24 ht24 => MR_nmS mle_sJ (fun t25 ht25 => MR_bind (mm_x3_layOut_L33 (0 : Int32) t25) (fun y26 hm27 => MR_bind (mm_x3_layOut_L124 (0 : Int32) y26) (fun y29 hm30 => MR_gd (MR_nmS mle_sB (fun t33 ht33 => MR_some (mle.trans (mle.trans (mle.trans (mle.trans (mle.trans ht23 ht24) ht25) hm27) hm30) ht33))))))))
set_option maxHeartbeats 4000000 in
set_option maxRecDepth 100000 in
theorem x3_layOut_L124 {p : Program} {l : Launch} {e : Env} {s : State} {m : MethodId} {args : Array Value} {below : List Frame} {meth : Method} {c : Code} {Q : State → Prop} {D : va_G} {cI cJ cZ cR : ClassId} {am gm : Nat → Nat} {st : Nat} {A : Nat → Prop} (C0 : cxX p s m args meth c cX3_layOut RX3 3 none D (tyX cI cJ cZ cR) st A) {y : St} (hK0 : ∀ (H : Heap) (locs : List Loc) (ls : Array Slot), wl D A s (wX cI cJ cZ cR am gm y) H locs → lv_has ls 3 [(0, .ref (am 1003))] → W p l e (rmN 2 46) s m args below meth c H locs 0 0 Q (F0 m 164 ls [])) :
    ∀ (n : Nat) (v1 : Int32) (t : St), lpn (fun x => x3_layOut_B124 x.1 x.2) n (v1, t) = some y → ∀ (H : Heap) (locs : List Loc) (ls : Array Slot), wl D A s (wX cI cJ cZ cR am gm t) H locs → lv_has ls 3 [(0, .ref (am 1003)), (1, .int v1)] → W p l e (rmN 2 46) s m args below meth c H locs 0 0 Q (F0 m 124 ls []) := by
  have hx := C0.1.1
  have hb := C0.1.2.1
  have hta := C0.1.2.2.2.2.2.1
  have hown := C0.1.2.2.2.2.1
  intro n
  induction n with
  | zero => intro _ _ h; cases h
  | succ n ih =>
    intro v1 t hrun H locs ls hW hl
    obtain ⟨o, ho, hrun⟩ := bd_some hrun
    unfold x3_layOut_B124 at ho
    refine lv_iload_n hx hb dX3_layOut_124 rfl (lv_at hl 1 rfl) ?_
    refine lv_aload_n hx hb dX3_layOut_125 rfl (lv_at hl 0 rfl) ?_
    refine xGET_306 C0 kw_497 hW dX3_layOut_126 ?_
    refine lv_icmp_ge (tgt := 164) hx hb dX3_layOut_129 (by decide) (fun c1 => ?_) (fun c1 => ?_)
    · replace ho := ite_t c1 ho
      cases ho
      cases hrun
      exact hK0 _ _ _ hW (lv_sub hl [0] rfl)
    · replace ho := ite_f c1 ho
      refine lv_aload_n hx hb dX3_layOut_132 rfl (lv_at hl 0 rfl) ?_
      refine xGET_305 C0 kw_496 hW dX3_layOut_133 ?_
      refine lv_iload_n hx hb dX3_layOut_136 rfl (lv_at hl 1 rfl) ?_
      refine lv_iload_n hx hb dX3_layOut_137 rfl (lv_at hl 1 rfl) ?_
      obtain ⟨g2, ho⟩ := gd_some ho
      refine xST_305 C0 hW g2 dX3_layOut_138 (fun H locs hW => ?_)
      obtain ⟨t3, ho, hW⟩ := nm_w (P := fun t => wl D A s (wX cI cJ cZ cR am gm t) H locs) ho hW
      refine lv_aload_n hx hb dX3_layOut_139 rfl (lv_at hl 0 rfl) ?_
      refine xGET_303 C0 kw_494 hW dX3_layOut_140 ?_
      refine lv_aload_n hx hb dX3_layOut_143 rfl (lv_at hl 0 rfl) ?_
      refine xGET_302 C0 kw_492 hW dX3_layOut_144 ?_
      refine lv_aload_n hx hb dX3_layOut_147 rfl (lv_at hl 0 rfl) ?_
      refine xGET_307 C0 kw_498 hW dX3_layOut_148 ?_
      refine lv_imul hx hb dX3_layOut_151 ?_
      refine lv_iload_n hx hb dX3_layOut_152 rfl (lv_at hl 1 rfl) ?_
      refine lv_iadd hx hb dX3_layOut_153 ?_
      refine lv_ldc2 hx hb hown (hta _ kw_1182) dX3_layOut_154 ?_
      obtain ⟨g4, ho⟩ := gd_some ho
      refine xST_303 C0 hW g4 dX3_layOut_157 (fun H locs hW => ?_)
      obtain ⟨t5, ho, hW⟩ := nm_w (P := fun t => wl D A s (wX cI cJ cZ cR am gm t) H locs) ho hW
      obtain ⟨x6, ex6, ho⟩ := nm_x ho
      refine lv_iinc (v := x6) (lv' := [(1, .int x6), (0, .ref (am 1003))]) hx hb dX3_layOut_158 hl (k := 1) rfl (by rw [ex6]; rfl) (by decide) rfl (fun ls hl => ?_)
      clear ex6
      refine lv_goto (tgt := 124) hx hb dX3_layOut_161 (by decide) ?_
      cases ho
      exact ih _ _ hrun _ _ _ hW (lv_sub hl [1, 0] rfl)
set_option maxHeartbeats 4000000 in
set_option maxRecDepth 100000 in
theorem x3_layOut_L55 {p : Program} {l : Launch} {e : Env} {s : State} {m : MethodId} {args : Array Value} {below : List Frame} {meth : Method} {c : Code} {Q : State → Prop} {D : va_G} {cI cJ cZ cR : ClassId} {am gm : Nat → Nat} {st : Nat} {A : Nat → Prop} (C0 : cxX p s m args meth c cX3_layOut RX3 3 none D (tyX cI cJ cZ cR) st A) {v1 : Int32} {y : St} (hK0 : ∀ (H : Heap) (locs : List Loc) (ls : Array Slot), wl D A s (wX cI cJ cZ cR am gm y) H locs → lv_has ls 3 [(0, .ref (am 1003)), (1, .int v1)] → W p l e (rmN 2 46) s m args below meth c H locs 0 0 Q (F0 m 99 ls [])) :
    ∀ (n : Nat) (v2 : Int32) (t : St), lpn (fun x => x3_layOut_B55 v1 x.1 x.2) n (v2, t) = some y → ∀ (H : Heap) (locs : List Loc) (ls : Array Slot), wl D A s (wX cI cJ cZ cR am gm t) H locs → lv_has ls 3 [(0, .ref (am 1003)), (1, .int v1), (2, .int v2)] → W p l e (rmN 2 46) s m args below meth c H locs 0 0 Q (F0 m 55 ls []) := by
  have hx := C0.1.1
  have hb := C0.1.2.1
  have hta := C0.1.2.2.2.2.2.1
  have hown := C0.1.2.2.2.2.1
  intro n
  induction n with
  | zero => intro _ _ h; cases h
  | succ n ih =>
    intro v2 t hrun H locs ls hW hl
    obtain ⟨o, ho, hrun⟩ := bd_some hrun
    unfold x3_layOut_B55 at ho
    refine lv_iload_n hx hb dX3_layOut_55 rfl (lv_at hl 2 rfl) ?_
    refine lv_aload_n hx hb dX3_layOut_56 rfl (lv_at hl 0 rfl) ?_
    refine xGET_306 C0 kw_497 hW dX3_layOut_57 ?_
    refine lv_icmp_ge (tgt := 99) hx hb dX3_layOut_60 (by decide) (fun c7 => ?_) (fun c7 => ?_)
    · replace ho := ite_t c7 ho
      cases ho
      cases hrun
      exact hK0 _ _ _ hW (lv_sub hl [0, 1] rfl)
    · replace ho := ite_f c7 ho
      refine lv_aload_n hx hb dX3_layOut_63 rfl (lv_at hl 0 rfl) ?_
      refine xGET_303 C0 kw_494 hW dX3_layOut_64 ?_
      refine lv_iload_n hx hb dX3_layOut_67 rfl (lv_at hl 1 rfl) ?_
      refine lv_aload_n hx hb dX3_layOut_68 rfl (lv_at hl 0 rfl) ?_
      refine xGET_307 C0 kw_498 hW dX3_layOut_69 ?_
      refine lv_imul hx hb dX3_layOut_72 ?_
      refine lv_iload_n hx hb dX3_layOut_73 rfl (lv_at hl 2 rfl) ?_
      refine lv_iadd hx hb dX3_layOut_74 ?_
      refine lv_iconst (v := (1 : Int32)) hx hb dX3_layOut_75 (by decide) ?_
      refine lv_aload_n hx hb dX3_layOut_76 rfl (lv_at hl 0 rfl) ?_
      refine lv_iload_n hx hb dX3_layOut_77 rfl (lv_at hl 1 rfl) ?_
      refine lv_aload_n hx hb dX3_layOut_78 rfl (lv_at hl 0 rfl) ?_
      refine xGET_300 C0 kw_490 hW dX3_layOut_79 ?_
      refine xGET_1002 C0 kw_333 hW dX3_layOut_82 ?_
      refine lv_iload_n hx hb dX3_layOut_85 rfl (lv_at hl 2 rfl) ?_
      obtain ⟨g8, ho⟩ := gd_some ho
      refine xLD_1002 C0 hW g8 dX3_layOut_86 ?_
      obtain ⟨q9, hc10, ho⟩ := bd_some ho
      refine bkI C0.1 hW (runVX (As := [.int v1, .int (gA t 1002 (v2).toNatClampNeg)]) (rest := [.int (1 : Int32), .int ((v1 * (gI t 307)) + v2), .ref (am 303)]) C0 hW (c_x3_greatestCatch l _ t v1 (gA t 1002 (v2).toNatClampNeg) (r := q9) hc10) cb_X3_X3_greatestCatch_83 3 3 rfl rfl rfl rfl rfl ⟨rfl, rfl⟩ ⟨Nat.le_of_ble_eq_true rfl, Nat.le_of_ble_eq_true rfl⟩ (Nat.le_of_ble_eq_true rfl) hl.1 dX3_layOut_87 ⟨Nat.le_of_ble_eq_true rfl, Nat.le_of_ble_eq_true rfl⟩) (fun H locs hW => ?_)
      refine lv_iadd hx hb dX3_layOut_90 ?_
      refine lv_i2l hx hb dX3_layOut_91 rfl ?_
      obtain ⟨g11, ho⟩ := gd_some ho
      refine xST_303 C0 hW g11 dX3_layOut_92 (fun H locs hW => ?_)
      obtain ⟨t12, ho, hW⟩ := nm_w (P := fun t => wl D A s (wX cI cJ cZ cR am gm t) H locs) ho hW
      obtain ⟨x13, ex13, ho⟩ := nm_x ho
      refine lv_iinc (v := x13) (lv' := [(2, .int x13), (0, .ref (am 1003)), (1, .int v1)]) hx hb dX3_layOut_93 hl (k := 2) rfl (by rw [ex13]; rfl) (by decide) rfl (fun ls hl => ?_)
      clear ex13
      refine lv_goto (tgt := 55) hx hb dX3_layOut_96 (by decide) ?_
      cases ho
      exact ih _ _ hrun _ _ _ hW (lv_sub hl [1, 2, 0] rfl)
set_option maxHeartbeats 4000000 in
set_option maxRecDepth 100000 in
theorem x3_layOut_L33 {p : Program} {l : Launch} {e : Env} {s : State} {m : MethodId} {args : Array Value} {below : List Frame} {meth : Method} {c : Code} {Q : State → Prop} {D : va_G} {cI cJ cZ cR : ClassId} {am gm : Nat → Nat} {st : Nat} {A : Nat → Prop} (C0 : cxX p s m args meth c cX3_layOut RX3 3 none D (tyX cI cJ cZ cR) st A) {y : St} (hK0 : ∀ (H : Heap) (locs : List Loc) (ls : Array Slot), wl D A s (wX cI cJ cZ cR am gm y) H locs → lv_has ls 3 [(0, .ref (am 1003))] → W p l e (rmN 2 46) s m args below meth c H locs 0 0 Q (F0 m 122 ls [])) :
    ∀ (n : Nat) (v1 : Int32) (t : St), lpn (fun x => x3_layOut_B33 x.1 x.2) n (v1, t) = some y → ∀ (H : Heap) (locs : List Loc) (ls : Array Slot), wl D A s (wX cI cJ cZ cR am gm t) H locs → lv_has ls 3 [(0, .ref (am 1003)), (1, .int v1)] → W p l e (rmN 2 46) s m args below meth c H locs 0 0 Q (F0 m 33 ls []) := by
  have hx := C0.1.1
  have hb := C0.1.2.1
  have hta := C0.1.2.2.2.2.2.1
  have hown := C0.1.2.2.2.2.1
  intro n
  induction n with
  | zero => intro _ _ h; cases h
  | succ n ih =>
    intro v1 t hrun H locs ls hW hl
    obtain ⟨o, ho, hrun⟩ := bd_some hrun
    unfold x3_layOut_B33 at ho
    refine lv_iload_n hx hb dX3_layOut_33 rfl (lv_at hl 1 rfl) ?_
    refine lv_aload_n hx hb dX3_layOut_34 rfl (lv_at hl 0 rfl) ?_
    refine xGET_302 C0 kw_492 hW dX3_layOut_35 ?_
    refine lv_icmp_ge (tgt := 122) hx hb dX3_layOut_38 (by decide) (fun c14 => ?_) (fun c14 => ?_)
    · replace ho := ite_t c14 ho
      cases ho
      cases hrun
      exact hK0 _ _ _ hW (lv_sub hl [0] rfl)
    · replace ho := ite_f c14 ho
      refine lv_aload_n hx hb dX3_layOut_41 rfl (lv_at hl 0 rfl) ?_
      refine xGET_304 C0 kw_495 hW dX3_layOut_42 ?_
      refine lv_iload_n hx hb dX3_layOut_45 rfl (lv_at hl 1 rfl) ?_
      refine lv_aload_n hx hb dX3_layOut_46 rfl (lv_at hl 0 rfl) ?_
      refine xGET_306 C0 kw_497 hW dX3_layOut_47 ?_
      refine lv_iload_n hx hb dX3_layOut_50 rfl (lv_at hl 1 rfl) ?_
      refine lv_iadd hx hb dX3_layOut_51 ?_
      obtain ⟨g15, ho⟩ := gd_some ho
      refine xST_304 C0 hW g15 dX3_layOut_52 (fun H locs hW => ?_)
      obtain ⟨t16, ho, hW⟩ := nm_w (P := fun t => wl D A s (wX cI cJ cZ cR am gm t) H locs) ho hW
      refine lv_iconst (v := (0 : Int32)) hx hb dX3_layOut_53 (by decide) ?_
      refine lv_istore_n (lv' := [(2, .int (0 : Int32)), (0, .ref (am 1003)), (1, .int v1)]) hx hb dX3_layOut_54 rfl hl (by decide) rfl (fun ls hl => ?_)
      obtain ⟨y17, hc19, ho⟩ := bd_some ho
      obtain ⟨ny17, hc19⟩ := lp_to hc19
      refine x3_layOut_L55 C0 ?_ ny17 _ _ hc19 _ _ _ hW (lv_sub hl [1, 2, 0] rfl)
      intro H locs ls hW hl
      refine lv_aload_n hx hb dX3_layOut_99 rfl (lv_at hl 0 rfl) ?_
      refine xGET_303 C0 kw_494 hW dX3_layOut_100 ?_
      refine lv_iload_n hx hb dX3_layOut_103 rfl (lv_at hl 1 rfl) ?_
      refine lv_aload_n hx hb dX3_layOut_104 rfl (lv_at hl 0 rfl) ?_
      refine xGET_307 C0 kw_498 hW dX3_layOut_105 ?_
      refine lv_imul hx hb dX3_layOut_108 ?_
      refine lv_aload_n hx hb dX3_layOut_109 rfl (lv_at hl 0 rfl) ?_
      refine xGET_306 C0 kw_497 hW dX3_layOut_110 ?_
      refine lv_iadd hx hb dX3_layOut_113 ?_
      refine lv_lconst (v := (1 : Int64)) hx hb dX3_layOut_114 (by decide) ?_
      obtain ⟨g20, ho⟩ := gd_some ho
      refine xST_303 C0 hW g20 dX3_layOut_115 (fun H locs hW => ?_)
      obtain ⟨t21, ho, hW⟩ := nm_w (P := fun t => wl D A s (wX cI cJ cZ cR am gm t) H locs) ho hW
      obtain ⟨x22, ex22, ho⟩ := nm_x ho
      refine lv_iinc (v := x22) (lv' := [(1, .int x22), (0, .ref (am 1003))]) hx hb dX3_layOut_116 hl (k := 1) rfl (by rw [ex22]; rfl) (by decide) rfl (fun ls hl => ?_)
      clear ex22
      refine lv_goto (tgt := 33) hx hb dX3_layOut_119 (by decide) ?_
      cases ho
      exact ih _ _ hrun _ _ _ hW (lv_sub hl [1, 0] rfl)
set_option maxHeartbeats 4000000 in
set_option maxRecDepth 100000 in
theorem c_x3_layOut (l : Launch) {D : va_G} {cI cJ cZ cR : ClassId} {am gm : Nat → Nat} {st : Nat} (sz : Nat) (t : St) {t' : St} (ho : x3_layOut t = some t') : Met l yX3_layOut (.code yX3_layOut cX3_layOut 3 none :: wsAll) (rmN 2 46) (va_Pc [.ref (am 1003)] (prX D (tyX cI cJ cZ cR) (wX cI cJ cZ cR am gm t) sz st)) (qV D (tyX cI cJ cZ cR) (wX cI cJ cZ cR am gm t') (va_A (wX cI cJ cZ cR am gm t) sz)) 0 0 (va_A (wX cI cJ cZ cR am gm t) sz) := by
  refine Met.ofW (cc := cX3_layOut) (maxL := 3) (ret := none) (by decide) rfl ?_
  intro p e s m args below meth c s₁ B hml hv
  obtain ⟨rfl, ⟨hsz, hP, hK, hD0⟩, hsx⟩ := hv
  have hx := B.exec
  have hb := B.bytes
  have hts := atoms_spec (ws := (.code yX3_layOut cX3_layOut 3 none :: wsAll)) B.pre
  have hta := fun w h => hts w (List.mem_cons_of_mem _ h)
  have hown : s.vm.findClass RX3 = some m.cls := findClass_of_methodNamed B.named
  have hlocks := B.notSynchronized
  subst hsz
  have hD := hD0.self (sz := s.heap.size)
  generalize hAe : va_A (wX cI cJ cZ cR am gm t) s.heap.size = A at hD ⊢
  have hA : ∀ q : Nat, s.heap.size ≤ q → A q := fun q h => by rw [← hAe]; exact Or.inr h
  have C0 : cxX p s m ([.ref (am 1003)].toArray) meth c cX3_layOut RX3 3 none D (tyX cI cJ cZ cR) st A := ⟨⟨hx, hb, B.returns, hml, hown, hta, hlocks, hK, hA⟩, by rw [← hAe]; exact hsx⟩
  have hW : wl D A s (wX cI cJ cZ cR am gm t) s.heap [] := ⟨hP, hD, va_S.rf⟩
  have hl := lv_entry [.ref (am 1003)] (n := 3) (Nat.le_of_ble_eq_true rfl)
  rw [lg_entry_eq]
  generalize (lg_sl [.ref (am 1003)] ++ List.replicate (3 - (lg_sl [.ref (am 1003)]).length) Slot.unset).toArray = ls at hl ⊢
  have hl : lv_has ls 3 [(0, .ref (am 1003))] := hl
  unfold x3_layOut at ho
  refine lv_aload_n hx hb dX3_layOut_0 rfl (lv_at hl 0 rfl) ?_
  refine lv_aload_n hx hb dX3_layOut_1 rfl (lv_at hl 0 rfl) ?_
  refine xGET_300 C0 kw_490 hW dX3_layOut_2 ?_
  refine xGET_1004 C0 kw_337 hW dX3_layOut_5 ?_
  refine lv_bipush (v := (24 : Int32)) hx hb dX3_layOut_8 (by decide) ?_
  refine va_mmin (rest := [.ref (am 1003)]) hx hb (C0.1.2.2.2.1.trans hl.1.symm) hown (hta _ kw_1175) (hta _ kw_748) (hta _ kw_136) (hta _ kw_749) (Nat.le_of_ble_eq_true rfl) (Nat.le_of_ble_eq_true rfl) (Nat.le_of_ble_eq_true rfl) (Nat.le_of_ble_eq_true rfl) dX3_layOut_10 ?_
  refine xPUT_306 C0 kw_497 hW dX3_layOut_13 (fun H locs hW => ?_)
  obtain ⟨t23, ho, hW⟩ := nm_w (P := fun t => wl D A s (wX cI cJ cZ cR am gm t) H locs) ho hW
  refine lv_aload_n hx hb dX3_layOut_16 rfl (lv_at hl 0 rfl) ?_
  refine lv_aload_n hx hb dX3_layOut_17 rfl (lv_at hl 0 rfl) ?_
  refine xGET_306 C0 kw_497 hW dX3_layOut_18 ?_
  refine lv_iconst (v := (1 : Int32)) hx hb dX3_layOut_21 (by decide) ?_
  refine lv_iadd hx hb dX3_layOut_22 ?_
  refine xPUT_307 C0 kw_498 hW dX3_layOut_23 (fun H locs hW => ?_)
  obtain ⟨t24, ho, hW⟩ := nm_w (P := fun t => wl D A s (wX cI cJ cZ cR am gm t) H locs) ho hW
  refine lv_aload_n hx hb dX3_layOut_26 rfl (lv_at hl 0 rfl) ?_
  refine lv_lconst (v := (1 : Int64)) hx hb dX3_layOut_27 (by decide) ?_
  refine xPUT_308 C0 kw_499 hW dX3_layOut_28 (fun H locs hW => ?_)
  obtain ⟨t25, ho, hW⟩ := nm_w (P := fun t => wl D A s (wX cI cJ cZ cR am gm t) H locs) ho hW
  refine lv_iconst (v := (0 : Int32)) hx hb dX3_layOut_31 (by decide) ?_
  refine lv_istore_n (lv' := [(1, .int (0 : Int32)), (0, .ref (am 1003))]) hx hb dX3_layOut_32 rfl hl (by decide) rfl (fun ls hl => ?_)
  obtain ⟨y26, hc28, ho⟩ := bd_some ho
  obtain ⟨ny26, hc28⟩ := lp_to hc28
  refine x3_layOut_L33 C0 ?_ ny26 _ _ hc28 _ _ _ hW (lv_sub hl [1, 0] rfl)
  intro H locs ls hW hl
  refine lv_iconst (v := (0 : Int32)) hx hb dX3_layOut_122 (by decide) ?_
  refine lv_istore_n (lv' := [(1, .int (0 : Int32)), (0, .ref (am 1003))]) hx hb dX3_layOut_123 rfl hl (by decide) rfl (fun ls hl => ?_)
  obtain ⟨y29, hc31, ho⟩ := bd_some ho
  obtain ⟨ny29, hc31⟩ := lp_to hc31
  refine x3_layOut_L124 C0 ?_ ny29 _ _ hc31 _ _ _ hW (lv_sub hl [1, 0] rfl)
  intro H locs ls hW hl
  refine lv_aload_n hx hb dX3_layOut_164 rfl (lv_at hl 0 rfl) ?_
  refine xGET_303 C0 kw_494 hW dX3_layOut_165 ?_
  refine lv_aload_n hx hb dX3_layOut_168 rfl (lv_at hl 0 rfl) ?_
  refine xGET_302 C0 kw_492 hW dX3_layOut_169 ?_
  refine lv_aload_n hx hb dX3_layOut_172 rfl (lv_at hl 0 rfl) ?_
  refine xGET_307 C0 kw_498 hW dX3_layOut_173 ?_
  refine lv_imul hx hb dX3_layOut_176 ?_
  refine lv_aload_n hx hb dX3_layOut_177 rfl (lv_at hl 0 rfl) ?_
  refine xGET_306 C0 kw_497 hW dX3_layOut_178 ?_
  refine lv_iadd hx hb dX3_layOut_181 ?_
  refine lv_lconst (v := (0 : Int64)) hx hb dX3_layOut_182 (by decide) ?_
  obtain ⟨g32, ho⟩ := gd_some ho
  refine xST_303 C0 hW g32 dX3_layOut_183 (fun H locs hW => ?_)
  obtain ⟨t33, ho, hW⟩ := nm_w (P := fun t => wl D A s (wX cI cJ cZ cR am gm t) H locs) ho hW
  cases ho
  exact rtV C0.1 hW dX3_layOut_184
noncomputable def x3_enteringColumn_B4 (t : St) (v1 : Int32) (v2 : Int32) : Option ((Int32 × Int32) ⊕ (Int32)) :=
  if (gI t 306) ≤ v2 then (some (.inr v1)) else (gd (((gI t 302) * (gI t 307)) + v2) (gN t 303) (if (lg_cmp (gB t 303 ((((gI t 302) * (gI t 307)) + v2)).toNatClampNeg) (0 : Int64)) < 0 then (if v1 < 0 then (nm (v2 + (1 : Int32)) (fun x5 : Int32 => some (.inl (v2, x5)))) else (gd v2 (gN t 305) (gd v1 (gN t 305) (if (gA t 305 (v1).toNatClampNeg) ≤ (gA t 305 (v2).toNatClampNeg) then (nm (v2 + (1 : Int32)) (fun x9 : Int32 => some (.inl (v1, x9)))) else (nm (v2 + (1 : Int32)) (fun x10 : Int32 => some (.inl (v2, x10)))))))) else (nm (v2 + (1 : Int32)) (fun x11 : Int32 => some (.inl (v1, x11))))))
noncomputable def x3_enteringColumn (t : St) : Option (Int32) :=
  (lp (fun x => x3_enteringColumn_B4 t x.1 x.2) ((-1 : Int32), (0 : Int32))).bind (fun y12 => some y12)
set_option maxHeartbeats 4000000 in
set_option maxRecDepth 100000 in
theorem x3_enteringColumn_L4 {p : Program} {l : Launch} {e : Env} {s : State} {m : MethodId} {args : Array Value} {below : List Frame} {meth : Method} {c : Code} {Q : State → Prop} {D : va_G} {cI cJ cZ cR : ClassId} {am gm : Nat → Nat} {st : Nat} {A : Nat → Prop} (C0 : cxX p s m args meth c cX3_enteringColumn RX3 3 (some .int) D (tyX cI cJ cZ cR) st A) {t : St} {y : Int32} (hK0 : ∀ (H : Heap) (locs : List Loc) (ls : Array Slot), wl D A s (wX cI cJ cZ cR am gm t) H locs → lv_has ls 3 [(0, .ref (am 1003)), (1, .int y)] → W p l e (rmN 0 0) s m args below meth c H locs 0 0 Q (F0 m 63 ls [])) :
    ∀ (n : Nat) (v1 : Int32) (v2 : Int32), lpn (fun x => x3_enteringColumn_B4 t x.1 x.2) n (v1, v2) = some y → ∀ (H : Heap) (locs : List Loc) (ls : Array Slot), wl D A s (wX cI cJ cZ cR am gm t) H locs → lv_has ls 3 [(0, .ref (am 1003)), (1, .int v1), (2, .int v2)] → W p l e (rmN 0 0) s m args below meth c H locs 0 0 Q (F0 m 4 ls []) := by
  have hx := C0.1.1
  have hb := C0.1.2.1
  have hta := C0.1.2.2.2.2.2.1
  have hown := C0.1.2.2.2.2.1
  intro n
  induction n with
  | zero => intro _ _ h; cases h
  | succ n ih =>
    intro v1 v2 hrun H locs ls hW hl
    obtain ⟨o, ho, hrun⟩ := bd_some hrun
    unfold x3_enteringColumn_B4 at ho
    refine lv_iload_n hx hb dX3_enteringColumn_4 rfl (lv_at hl 2 rfl) ?_
    refine lv_aload_n hx hb dX3_enteringColumn_5 rfl (lv_at hl 0 rfl) ?_
    refine xGET_306 C0 kw_497 hW dX3_enteringColumn_6 ?_
    refine lv_icmp_ge (tgt := 63) hx hb dX3_enteringColumn_9 (by decide) (fun c1 => ?_) (fun c1 => ?_)
    · replace ho := ite_t c1 ho
      cases ho
      cases hrun
      exact hK0 _ _ _ hW (lv_sub hl [0, 1] rfl)
    · replace ho := ite_f c1 ho
      refine lv_aload_n hx hb dX3_enteringColumn_12 rfl (lv_at hl 0 rfl) ?_
      refine xGET_303 C0 kw_494 hW dX3_enteringColumn_13 ?_
      refine lv_aload_n hx hb dX3_enteringColumn_16 rfl (lv_at hl 0 rfl) ?_
      refine xGET_302 C0 kw_492 hW dX3_enteringColumn_17 ?_
      refine lv_aload_n hx hb dX3_enteringColumn_20 rfl (lv_at hl 0 rfl) ?_
      refine xGET_307 C0 kw_498 hW dX3_enteringColumn_21 ?_
      refine lv_imul hx hb dX3_enteringColumn_24 ?_
      refine lv_iload_n hx hb dX3_enteringColumn_25 rfl (lv_at hl 2 rfl) ?_
      refine lv_iadd hx hb dX3_enteringColumn_26 ?_
      obtain ⟨g2, ho⟩ := gd_some ho
      refine xLD_303 C0 hW g2 dX3_enteringColumn_27 ?_
      refine lv_lconst (v := (0 : Int64)) hx hb dX3_enteringColumn_28 (by decide) ?_
      refine W.lcmp hx hb dX3_enteringColumn_29 ?_
      refine lv_if_lt (tgt := 36) hx hb dX3_enteringColumn_30 (by decide) (fun c3 => ?_) (fun c3 => ?_)
      · replace ho := ite_t c3 ho
        refine lv_iload_n hx hb dX3_enteringColumn_36 rfl (lv_at hl 1 rfl) ?_
        refine lv_if_lt (tgt := 55) hx hb dX3_enteringColumn_37 (by decide) (fun c4 => ?_) (fun c4 => ?_)
        · replace ho := ite_t c4 ho
          refine lv_iload_n hx hb dX3_enteringColumn_55 rfl (lv_at hl 2 rfl) ?_
          refine lv_istore_n (lv' := [(1, .int v2), (0, .ref (am 1003)), (2, .int v2)]) hx hb dX3_enteringColumn_56 rfl hl (by decide) rfl (fun ls hl => ?_)
          obtain ⟨x5, ex5, ho⟩ := nm_x ho
          refine lv_iinc (v := x5) (lv' := [(2, .int x5), (1, .int v2), (0, .ref (am 1003))]) hx hb dX3_enteringColumn_57 hl (k := 2) rfl (by rw [ex5]; rfl) (by decide) rfl (fun ls hl => ?_)
          clear ex5
          refine lv_goto (tgt := 4) hx hb dX3_enteringColumn_60 (by decide) ?_
          cases ho
          exact ih _ _ hrun _ _ _ hW (lv_sub hl [2, 1, 0] rfl)
        · replace ho := ite_f c4 ho
          refine lv_aload_n hx hb dX3_enteringColumn_40 rfl (lv_at hl 0 rfl) ?_
          refine xGET_305 C0 kw_496 hW dX3_enteringColumn_41 ?_
          refine lv_iload_n hx hb dX3_enteringColumn_44 rfl (lv_at hl 2 rfl) ?_
          obtain ⟨g6, ho⟩ := gd_some ho
          refine xLD_305 C0 hW g6 dX3_enteringColumn_45 ?_
          refine lv_aload_n hx hb dX3_enteringColumn_46 rfl (lv_at hl 0 rfl) ?_
          refine xGET_305 C0 kw_496 hW dX3_enteringColumn_47 ?_
          refine lv_iload_n hx hb dX3_enteringColumn_50 rfl (lv_at hl 1 rfl) ?_
          obtain ⟨g7, ho⟩ := gd_some ho
          refine xLD_305 C0 hW g7 dX3_enteringColumn_51 ?_
          refine lv_icmp_ge (tgt := 57) hx hb dX3_enteringColumn_52 (by decide) (fun c8 => ?_) (fun c8 => ?_)
          · replace ho := ite_t c8 ho
            obtain ⟨x9, ex9, ho⟩ := nm_x ho
            refine lv_iinc (v := x9) (lv' := [(2, .int x9), (0, .ref (am 1003)), (1, .int v1)]) hx hb dX3_enteringColumn_57 hl (k := 2) rfl (by rw [ex9]; rfl) (by decide) rfl (fun ls hl => ?_)
            clear ex9
            refine lv_goto (tgt := 4) hx hb dX3_enteringColumn_60 (by decide) ?_
            cases ho
            exact ih _ _ hrun _ _ _ hW (lv_sub hl [1, 2, 0] rfl)
          · replace ho := ite_f c8 ho
            refine lv_iload_n hx hb dX3_enteringColumn_55 rfl (lv_at hl 2 rfl) ?_
            refine lv_istore_n (lv' := [(1, .int v2), (0, .ref (am 1003)), (2, .int v2)]) hx hb dX3_enteringColumn_56 rfl hl (by decide) rfl (fun ls hl => ?_)
            obtain ⟨x10, ex10, ho⟩ := nm_x ho
            refine lv_iinc (v := x10) (lv' := [(2, .int x10), (1, .int v2), (0, .ref (am 1003))]) hx hb dX3_enteringColumn_57 hl (k := 2) rfl (by rw [ex10]; rfl) (by decide) rfl (fun ls hl => ?_)
            clear ex10
            refine lv_goto (tgt := 4) hx hb dX3_enteringColumn_60 (by decide) ?_
            cases ho
            exact ih _ _ hrun _ _ _ hW (lv_sub hl [2, 1, 0] rfl)
      · replace ho := ite_f c3 ho
        refine lv_goto (tgt := 57) hx hb dX3_enteringColumn_33 (by decide) ?_
        obtain ⟨x11, ex11, ho⟩ := nm_x ho
        refine lv_iinc (v := x11) (lv' := [(2, .int x11), (0, .ref (am 1003)), (1, .int v1)]) hx hb dX3_enteringColumn_57 hl (k := 2) rfl (by rw [ex11]; rfl) (by decide) rfl (fun ls hl => ?_)
        clear ex11
        refine lv_goto (tgt := 4) hx hb dX3_enteringColumn_60 (by decide) ?_
        cases ho
        exact ih _ _ hrun _ _ _ hW (lv_sub hl [1, 2, 0] rfl)
set_option maxHeartbeats 4000000 in
set_option maxRecDepth 100000 in
theorem c_x3_enteringColumn (l : Launch) {D : va_G} {cI cJ cZ cR : ClassId} {am gm : Nat → Nat} {st : Nat} (sz : Nat) (t : St) {r : Int32} (ho : x3_enteringColumn t = some r) : Met l yX3_enteringColumn (.code yX3_enteringColumn cX3_enteringColumn 3 (some .int) :: wsAll) (rmN 0 0) (va_Pc [.ref (am 1003)] (prX D (tyX cI cJ cZ cR) (wX cI cJ cZ cR am gm t) sz st)) (qI r D (tyX cI cJ cZ cR) (wX cI cJ cZ cR am gm t) (va_A (wX cI cJ cZ cR am gm t) sz)) 0 0 (va_A (wX cI cJ cZ cR am gm t) sz) := by
  refine Met.ofW (cc := cX3_enteringColumn) (maxL := 3) (ret := (some .int)) (by decide) rfl ?_
  intro p e s m args below meth c s₁ B hml hv
  obtain ⟨rfl, ⟨hsz, hP, hK, hD0⟩, hsx⟩ := hv
  have hx := B.exec
  have hb := B.bytes
  have hts := atoms_spec (ws := (.code yX3_enteringColumn cX3_enteringColumn 3 (some .int) :: wsAll)) B.pre
  have hta := fun w h => hts w (List.mem_cons_of_mem _ h)
  have hown : s.vm.findClass RX3 = some m.cls := findClass_of_methodNamed B.named
  have hlocks := B.notSynchronized
  subst hsz
  have hD := hD0.self (sz := s.heap.size)
  generalize hAe : va_A (wX cI cJ cZ cR am gm t) s.heap.size = A at hD ⊢
  have hA : ∀ q : Nat, s.heap.size ≤ q → A q := fun q h => by rw [← hAe]; exact Or.inr h
  have C0 : cxX p s m ([.ref (am 1003)].toArray) meth c cX3_enteringColumn RX3 3 (some .int) D (tyX cI cJ cZ cR) st A := ⟨⟨hx, hb, B.returns, hml, hown, hta, hlocks, hK, hA⟩, by rw [← hAe]; exact hsx⟩
  have hW : wl D A s (wX cI cJ cZ cR am gm t) s.heap [] := ⟨hP, hD, va_S.rf⟩
  have hl := lv_entry [.ref (am 1003)] (n := 3) (Nat.le_of_ble_eq_true rfl)
  rw [lg_entry_eq]
  generalize (lg_sl [.ref (am 1003)] ++ List.replicate (3 - (lg_sl [.ref (am 1003)]).length) Slot.unset).toArray = ls at hl ⊢
  have hl : lv_has ls 3 [(0, .ref (am 1003))] := hl
  unfold x3_enteringColumn at ho
  refine lv_iconst (v := (-1 : Int32)) hx hb dX3_enteringColumn_0 (by decide) ?_
  refine lv_istore_n (lv' := [(1, .int (-1 : Int32)), (0, .ref (am 1003))]) hx hb dX3_enteringColumn_1 rfl hl (by decide) rfl (fun ls hl => ?_)
  refine lv_iconst (v := (0 : Int32)) hx hb dX3_enteringColumn_2 (by decide) ?_
  refine lv_istore_n (lv' := [(2, .int (0 : Int32)), (1, .int (-1 : Int32)), (0, .ref (am 1003))]) hx hb dX3_enteringColumn_3 rfl hl (by decide) rfl (fun ls hl => ?_)
  obtain ⟨y12, hc14, ho⟩ := bd_some ho
  obtain ⟨ny12, hc14⟩ := lp_to hc14
  refine x3_enteringColumn_L4 C0 ?_ ny12 _ _ hc14 _ _ _ hW (lv_sub hl [2, 1, 0] rfl)
  intro H locs ls hW hl
  refine lv_iload_n hx hb dX3_enteringColumn_63 rfl (lv_at hl 1 rfl) ?_
  cases ho
  exact rtI C0.1 hW dX3_enteringColumn_64
noncomputable def x3_highOfProduct (t : St) (a0 : Int64) (a2 : Int64) : Option (Int64) :=
  nm ((a0 &&& (4294967295 : Int64)) * (a2 &&& (4294967295 : Int64))) (fun x1 : Int64 => nm ((((a0 >>> (((32 : Int32)).toInt64 &&& 63))) * (a2 &&& (4294967295 : Int64))) + (((x1).toUInt64 >>> (((32 : Int32)).toInt64.toUInt64 &&& Int64.toUInt64 63)).toInt64)) (fun x2 : Int64 => nm (((a0 &&& (4294967295 : Int64)) * ((a2 >>> (((32 : Int32)).toInt64 &&& 63)))) + (x2 &&& (4294967295 : Int64))) (fun x3 : Int64 => some (((((a0 >>> (((32 : Int32)).toInt64 &&& 63))) * ((a2 >>> (((32 : Int32)).toInt64 &&& 63)))) + ((x2 >>> (((32 : Int32)).toInt64 &&& 63)))) + ((x3 >>> (((32 : Int32)).toInt64 &&& 63)))))))
set_option maxHeartbeats 4000000 in
set_option maxRecDepth 100000 in
theorem c_x3_highOfProduct (l : Launch) {D : va_G} {cI cJ cZ cR : ClassId} {am gm : Nat → Nat} {st : Nat} (sz : Nat) (t : St) (a0 : Int64) (a2 : Int64) {r : Int64} (ho : x3_highOfProduct t a0 a2 = some r) : Met l yX3_highOfProduct (.code yX3_highOfProduct cX3_highOfProduct 12 (some .long) :: wsAll) (rmN 0 0) (va_Pc [.long a0, .long a2] (prX D (tyX cI cJ cZ cR) (wX cI cJ cZ cR am gm t) sz st)) (qJ r D (tyX cI cJ cZ cR) (wX cI cJ cZ cR am gm t) (va_A (wX cI cJ cZ cR am gm t) sz)) 0 0 (va_A (wX cI cJ cZ cR am gm t) sz) := by
  refine Met.ofW (cc := cX3_highOfProduct) (maxL := 12) (ret := (some .long)) (by decide) rfl ?_
  intro p e s m args below meth c s₁ B hml hv
  obtain ⟨rfl, ⟨hsz, hP, hK, hD0⟩, hsx⟩ := hv
  have hx := B.exec
  have hb := B.bytes
  have hts := atoms_spec (ws := (.code yX3_highOfProduct cX3_highOfProduct 12 (some .long) :: wsAll)) B.pre
  have hta := fun w h => hts w (List.mem_cons_of_mem _ h)
  have hown : s.vm.findClass RX3 = some m.cls := findClass_of_methodNamed B.named
  have hlocks := B.notSynchronized
  subst hsz
  have hD := hD0.self (sz := s.heap.size)
  generalize hAe : va_A (wX cI cJ cZ cR am gm t) s.heap.size = A at hD ⊢
  have hA : ∀ q : Nat, s.heap.size ≤ q → A q := fun q h => by rw [← hAe]; exact Or.inr h
  have C0 : cxX p s m ([.long a0, .long a2].toArray) meth c cX3_highOfProduct RX3 12 (some .long) D (tyX cI cJ cZ cR) st A := ⟨⟨hx, hb, B.returns, hml, hown, hta, hlocks, hK, hA⟩, by rw [← hAe]; exact hsx⟩
  have hW : wl D A s (wX cI cJ cZ cR am gm t) s.heap [] := ⟨hP, hD, va_S.rf⟩
  have hl := lv_entry [.long a0, .long a2] (n := 12) (Nat.le_of_ble_eq_true rfl)
  rw [lg_entry_eq]
  generalize (lg_sl [.long a0, .long a2] ++ List.replicate (12 - (lg_sl [.long a0, .long a2]).length) Slot.unset).toArray = ls at hl ⊢
  have hl : lv_has ls 12 [(0, .long a0), (2, .long a2)] := hl
  unfold x3_highOfProduct at ho
  refine lv_ldc2 hx hb hown (hta _ kw_1203) dX3_highOfProduct_0 ?_
  refine lv_lstore (lv' := [(4, .long (4294967295 : Int64)), (0, .long a0), (2, .long a2)]) hx hb dX3_highOfProduct_3 hl (by decide) rfl (fun ls hl => ?_)
  refine lv_lload_n hx hb dX3_highOfProduct_5 rfl (lv_at hl 1 rfl) ?_
  refine lv_lload hx hb dX3_highOfProduct_6 (lv_at hl 0 rfl) ?_
  refine lv_land hx hb dX3_highOfProduct_8 ?_
  refine lv_lload_n hx hb dX3_highOfProduct_9 rfl (lv_at hl 2 rfl) ?_
  refine lv_lload hx hb dX3_highOfProduct_10 (lv_at hl 0 rfl) ?_
  refine lv_land hx hb dX3_highOfProduct_12 ?_
  refine lv_lmul hx hb dX3_highOfProduct_13 ?_
  refine lv_nml ho (fun x1 ho => ?_)
  refine lv_lstore (lv' := [(6, .long x1), (4, .long (4294967295 : Int64)), (0, .long a0), (2, .long a2)]) hx hb dX3_highOfProduct_14 hl (by decide) rfl (fun ls hl => ?_)
  refine lv_lload_n hx hb dX3_highOfProduct_16 rfl (lv_at hl 2 rfl) ?_
  refine lv_bipush (v := (32 : Int32)) hx hb dX3_highOfProduct_17 (by decide) ?_
  refine lv_lshr hx hb dX3_highOfProduct_19 rfl ?_
  refine lv_lload_n hx hb dX3_highOfProduct_20 rfl (lv_at hl 3 rfl) ?_
  refine lv_lload hx hb dX3_highOfProduct_21 (lv_at hl 1 rfl) ?_
  refine lv_land hx hb dX3_highOfProduct_23 ?_
  refine lv_lmul hx hb dX3_highOfProduct_24 ?_
  refine lv_lload hx hb dX3_highOfProduct_25 (lv_at hl 0 rfl) ?_
  refine lv_bipush (v := (32 : Int32)) hx hb dX3_highOfProduct_27 (by decide) ?_
  refine lv_lushr hx hb dX3_highOfProduct_29 rfl ?_
  refine lv_ladd hx hb dX3_highOfProduct_30 ?_
  refine lv_nml ho (fun x2 ho => ?_)
  refine lv_lstore (lv' := [(8, .long x2), (6, .long x1), (4, .long (4294967295 : Int64)), (0, .long a0), (2, .long a2)]) hx hb dX3_highOfProduct_31 hl (by decide) rfl (fun ls hl => ?_)
  refine lv_lload_n hx hb dX3_highOfProduct_33 rfl (lv_at hl 3 rfl) ?_
  refine lv_lload hx hb dX3_highOfProduct_34 (lv_at hl 2 rfl) ?_
  refine lv_land hx hb dX3_highOfProduct_36 ?_
  refine lv_lload_n hx hb dX3_highOfProduct_37 rfl (lv_at hl 4 rfl) ?_
  refine lv_bipush (v := (32 : Int32)) hx hb dX3_highOfProduct_38 (by decide) ?_
  refine lv_lshr hx hb dX3_highOfProduct_40 rfl ?_
  refine lv_lmul hx hb dX3_highOfProduct_41 ?_
  refine lv_lload hx hb dX3_highOfProduct_42 (lv_at hl 0 rfl) ?_
  refine lv_lload hx hb dX3_highOfProduct_44 (lv_at hl 2 rfl) ?_
  refine lv_land hx hb dX3_highOfProduct_46 ?_
  refine lv_ladd hx hb dX3_highOfProduct_47 ?_
  refine lv_nml ho (fun x3 ho => ?_)
  refine lv_lstore (lv' := [(10, .long x3), (8, .long x2), (6, .long x1), (4, .long (4294967295 : Int64)), (0, .long a0), (2, .long a2)]) hx hb dX3_highOfProduct_48 hl (by decide) rfl (fun ls hl => ?_)
  refine lv_lload_n hx hb dX3_highOfProduct_50 rfl (lv_at hl 4 rfl) ?_
  refine lv_bipush (v := (32 : Int32)) hx hb dX3_highOfProduct_51 (by decide) ?_
  refine lv_lshr hx hb dX3_highOfProduct_53 rfl ?_
  refine lv_lload_n hx hb dX3_highOfProduct_54 rfl (lv_at hl 5 rfl) ?_
  refine lv_bipush (v := (32 : Int32)) hx hb dX3_highOfProduct_55 (by decide) ?_
  refine lv_lshr hx hb dX3_highOfProduct_57 rfl ?_
  refine lv_lmul hx hb dX3_highOfProduct_58 ?_
  refine lv_lload hx hb dX3_highOfProduct_59 (lv_at hl 1 rfl) ?_
  refine lv_bipush (v := (32 : Int32)) hx hb dX3_highOfProduct_61 (by decide) ?_
  refine lv_lshr hx hb dX3_highOfProduct_63 rfl ?_
  refine lv_ladd hx hb dX3_highOfProduct_64 ?_
  refine lv_lload hx hb dX3_highOfProduct_65 (lv_at hl 0 rfl) ?_
  refine lv_bipush (v := (32 : Int32)) hx hb dX3_highOfProduct_67 (by decide) ?_
  refine lv_lshr hx hb dX3_highOfProduct_69 rfl ?_
  refine lv_ladd hx hb dX3_highOfProduct_70 ?_
  cases ho
  exact rtJ C0.1 hW dX3_highOfProduct_71
noncomputable def x3_highOfDifference_J25 (t : St) (v0 : Int64) (v2 : Int64) (v4 : Int64) (v6 : Int64) (w0 : Int32) : Option (Int64) :=
  (x3_highOfProduct t v0 v2).bind (fun q1 => (x3_highOfProduct t v4 v6).bind (fun q3 => if w0 = 0 then (some ((q1 - q3) - ((0 : Int32)).toInt64)) else (some ((q1 - q3) - ((1 : Int32)).toInt64))))
noncomputable def x3_highOfDifference (t : St) (a0 : Int64) (a2 : Int64) (a4 : Int64) (a6 : Int64) : Option (Int64) :=
  if 0 ≤ (lg_cmp ((a0 * a2) + (-9223372036854775808 : Int64)) ((a4 * a6) + (-9223372036854775808 : Int64))) then (x3_highOfDifference_J25 t a0 a2 a4 a6 (0 : Int32)) else (x3_highOfDifference_J25 t a0 a2 a4 a6 (1 : Int32))
set_option maxHeartbeats 4000000 in
set_option maxRecDepth 100000 in
theorem c_x3_highOfDifference (l : Launch) {D : va_G} {cI cJ cZ cR : ClassId} {am gm : Nat → Nat} {st : Nat} (sz : Nat) (t : St) (a0 : Int64) (a2 : Int64) (a4 : Int64) (a6 : Int64) {r : Int64} (ho : x3_highOfDifference t a0 a2 a4 a6 = some r) : Met l yX3_highOfDifference (.code yX3_highOfDifference cX3_highOfDifference 9 (some .long) :: wsAll) (rmN 1 31) (va_Pc [.long a0, .long a2, .long a4, .long a6] (prX D (tyX cI cJ cZ cR) (wX cI cJ cZ cR am gm t) sz st)) (qJ r D (tyX cI cJ cZ cR) (wX cI cJ cZ cR am gm t) (va_A (wX cI cJ cZ cR am gm t) sz)) 0 0 (va_A (wX cI cJ cZ cR am gm t) sz) := by
  refine Met.ofW (cc := cX3_highOfDifference) (maxL := 9) (ret := (some .long)) (by decide) rfl ?_
  intro p e s m args below meth c s₁ B hml hv
  obtain ⟨rfl, ⟨hsz, hP, hK, hD0⟩, hsx⟩ := hv
  have hx := B.exec
  have hb := B.bytes
  have hts := atoms_spec (ws := (.code yX3_highOfDifference cX3_highOfDifference 9 (some .long) :: wsAll)) B.pre
  have hta := fun w h => hts w (List.mem_cons_of_mem _ h)
  have hown : s.vm.findClass RX3 = some m.cls := findClass_of_methodNamed B.named
  have hlocks := B.notSynchronized
  subst hsz
  have hD := hD0.self (sz := s.heap.size)
  generalize hAe : va_A (wX cI cJ cZ cR am gm t) s.heap.size = A at hD ⊢
  have hA : ∀ q : Nat, s.heap.size ≤ q → A q := fun q h => by rw [← hAe]; exact Or.inr h
  have C0 : cxX p s m ([.long a0, .long a2, .long a4, .long a6].toArray) meth c cX3_highOfDifference RX3 9 (some .long) D (tyX cI cJ cZ cR) st A := ⟨⟨hx, hb, B.returns, hml, hown, hta, hlocks, hK, hA⟩, by rw [← hAe]; exact hsx⟩
  have hW : wl D A s (wX cI cJ cZ cR am gm t) s.heap [] := ⟨hP, hD, va_S.rf⟩
  have hl := lv_entry [.long a0, .long a2, .long a4, .long a6] (n := 9) (Nat.le_of_ble_eq_true rfl)
  rw [lg_entry_eq]
  generalize (lg_sl [.long a0, .long a2, .long a4, .long a6] ++ List.replicate (9 - (lg_sl [.long a0, .long a2, .long a4, .long a6]).length) Slot.unset).toArray = ls at hl ⊢
  have hl : lv_has ls 9 [(0, .long a0), (2, .long a2), (4, .long a4), (6, .long a6)] := hl
  clear hAe hD hP hD0 hts
  have J25 : ∀ (v0 : Int64) (v2 : Int64) (v4 : Int64) (v6 : Int64) (w0 : Int32) (_ : x3_highOfDifference_J25 t v0 v2 v4 v6 w0 = some r) (H : Heap) (locs : List Loc) (ls : Array Slot), wl D A s (wX cI cJ cZ cR am gm t) H locs → lv_has ls 9 [(0, .long v0), (2, .long v2), (4, .long v4), (6, .long v6)] → W p l e (rmN 1 31) s m ([.long a0, .long a2, .long a4, .long a6].toArray) below meth c H locs 0 0 (MQ below (qJ r D (tyX cI cJ cZ cR) (wX cI cJ cZ cR am gm t) A) ([.long a0, .long a2, .long a4, .long a6].toArray) s 0 0 A) (F0 m 25 ls [.int w0]) := by
    intro v0 v2 v4 v6 w0 ho H locs ls hW hl
    unfold x3_highOfDifference_J25 at ho
    refine lv_istore (lv' := [(8, .int w0), (0, .long v0), (2, .long v2), (4, .long v4), (6, .long v6)]) hx hb dX3_highOfDifference_25 hl (by decide) rfl (fun ls hl => ?_)
    refine lv_lload_n hx hb dX3_highOfDifference_27 rfl (lv_at hl 1 rfl) ?_
    refine lv_lload_n hx hb dX3_highOfDifference_28 rfl (lv_at hl 2 rfl) ?_
    obtain ⟨q1, hc2, ho⟩ := bd_some ho
    refine bkJ C0.1 hW (runSX (As := [.long v0, .long v2]) (rest := []) C0 hW (c_x3_highOfProduct l _ t v0 v2 (r := q1) hc2) cb_X3_X3_highOfProduct_120 rfl rfl ⟨rfl, rfl⟩ ⟨Nat.le_of_ble_eq_true rfl, Nat.le_of_ble_eq_true rfl⟩ (Nat.le_of_ble_eq_true rfl) hl.1 dX3_highOfDifference_29 ⟨Nat.le_of_ble_eq_true rfl, Nat.le_of_ble_eq_true rfl⟩) (fun H locs hW => ?_)
    refine lv_lload hx hb dX3_highOfDifference_32 (lv_at hl 3 rfl) ?_
    refine lv_lload hx hb dX3_highOfDifference_34 (lv_at hl 4 rfl) ?_
    obtain ⟨q3, hc4, ho⟩ := bd_some ho
    refine bkJ C0.1 hW (runSX (As := [.long v4, .long v6]) (rest := [.long q1]) C0 hW (c_x3_highOfProduct l _ t v4 v6 (r := q3) hc4) cb_X3_X3_highOfProduct_120 rfl rfl ⟨rfl, rfl⟩ ⟨Nat.le_of_ble_eq_true rfl, Nat.le_of_ble_eq_true rfl⟩ (Nat.le_of_ble_eq_true rfl) hl.1 dX3_highOfDifference_36 ⟨Nat.le_of_ble_eq_true rfl, Nat.le_of_ble_eq_true rfl⟩) (fun H locs hW => ?_)
    refine lv_lsub hx hb dX3_highOfDifference_39 ?_
    refine lv_iload hx hb dX3_highOfDifference_40 (lv_at hl 0 rfl) ?_
    refine lv_if_eq (tgt := 49) hx hb dX3_highOfDifference_42 (by decide) (fun c5 => ?_) (fun c5 => ?_)
    · replace ho := ite_t c5 ho
      refine lv_iconst (v := (0 : Int32)) hx hb dX3_highOfDifference_49 (by decide) ?_
      refine lv_i2l hx hb dX3_highOfDifference_50 rfl ?_
      refine lv_lsub hx hb dX3_highOfDifference_51 ?_
      cases ho
      exact rtJ C0.1 hW dX3_highOfDifference_52
    · replace ho := ite_f c5 ho
      refine lv_iconst (v := (1 : Int32)) hx hb dX3_highOfDifference_45 (by decide) ?_
      refine lv_goto (tgt := 50) hx hb dX3_highOfDifference_46 (by decide) ?_
      refine lv_i2l hx hb dX3_highOfDifference_50 rfl ?_
      refine lv_lsub hx hb dX3_highOfDifference_51 ?_
      cases ho
      exact rtJ C0.1 hW dX3_highOfDifference_52
  unfold x3_highOfDifference at ho
  refine lv_lload_n hx hb dX3_highOfDifference_0 rfl (lv_at hl 0 rfl) ?_
  refine lv_lload_n hx hb dX3_highOfDifference_1 rfl (lv_at hl 1 rfl) ?_
  refine lv_lmul hx hb dX3_highOfDifference_2 ?_
  refine lv_ldc2 hx hb hown (hta _ kw_1199) dX3_highOfDifference_3 ?_
  refine lv_ladd hx hb dX3_highOfDifference_6 ?_
  refine lv_lload hx hb dX3_highOfDifference_7 (lv_at hl 2 rfl) ?_
  refine lv_lload hx hb dX3_highOfDifference_9 (lv_at hl 3 rfl) ?_
  refine lv_lmul hx hb dX3_highOfDifference_11 ?_
  refine lv_ldc2 hx hb hown (hta _ kw_1199) dX3_highOfDifference_12 ?_
  refine lv_ladd hx hb dX3_highOfDifference_15 ?_
  refine W.lcmp hx hb dX3_highOfDifference_16 ?_
  refine lv_if_ge (tgt := 24) hx hb dX3_highOfDifference_17 (by decide) (fun c6 => ?_) (fun c6 => ?_)
  · replace ho := ite_t c6 ho
    refine lv_iconst (v := (0 : Int32)) hx hb dX3_highOfDifference_24 (by decide) ?_
    exact J25 _ _ _ _ _ ho _ _ _ hW (lv_sub hl [0, 1, 2, 3] rfl)
  · replace ho := ite_f c6 ho
    refine lv_iconst (v := (1 : Int32)) hx hb dX3_highOfDifference_20 (by decide) ?_
    refine lv_goto (tgt := 25) hx hb dX3_highOfDifference_21 (by decide) ?_
    exact J25 _ _ _ _ _ ho _ _ _ hW (lv_sub hl [0, 1, 2, 3] rfl)
noncomputable def x3_isTighter (t : St) (a1 : Int32) (a2 : Int32) (a3 : Int32) : Option (Int32) :=
  gd ((a1 * (gI t 307)) + (gI t 306)) (gN t 303) (nm (gB t 303 (((a1 * (gI t 307)) + (gI t 306))).toNatClampNeg) (fun x2 : Int64 => gd ((a2 * (gI t 307)) + a3) (gN t 303) (nm (gB t 303 (((a2 * (gI t 307)) + a3)).toNatClampNeg) (fun x4 : Int64 => gd ((a2 * (gI t 307)) + (gI t 306)) (gN t 303) (nm (gB t 303 (((a2 * (gI t 307)) + (gI t 306))).toNatClampNeg) (fun x6 : Int64 => gd ((a1 * (gI t 307)) + a3) (gN t 303) (nm (gB t 303 (((a1 * (gI t 307)) + a3)).toNatClampNeg) (fun x8 : Int64 => (x3_highOfDifference t x2 x4 x6 x8).bind (fun q9 => if (lg_cmp q9 (0 : Int64)) = 0 then (if (lg_cmp (x2 * x4) (x6 * x8)) = 0 then (gd a1 (gN t 304) (gd a2 (gN t 304) (if (gA t 304 (a2).toNatClampNeg) ≤ (gA t 304 (a1).toNatClampNeg) then (some (0 : Int32)) else (some (1 : Int32))))) else (some (0 : Int32))) else (if 0 ≤ (lg_cmp q9 (0 : Int64)) then (some (0 : Int32)) else (some (1 : Int32))))))))))))
set_option maxHeartbeats 4000000 in
set_option maxRecDepth 100000 in
theorem c_x3_isTighter (l : Launch) {D : va_G} {cI cJ cZ cR : ClassId} {am gm : Nat → Nat} {st : Nat} (sz : Nat) (t : St) (a1 : Int32) (a2 : Int32) (a3 : Int32) {r : Int32} (ho : x3_isTighter t a1 a2 a3 = some r) : Met l yX3_isTighter (.code yX3_isTighter cX3_isTighter 14 (some .boolean) :: wsAll) (rmN 2 59) (va_Pc [.ref (am 1003), .int a1, .int a2, .int a3] (prX D (tyX cI cJ cZ cR) (wX cI cJ cZ cR am gm t) sz st)) (qZ r D (tyX cI cJ cZ cR) (wX cI cJ cZ cR am gm t) (va_A (wX cI cJ cZ cR am gm t) sz)) 0 0 (va_A (wX cI cJ cZ cR am gm t) sz) := by
  refine Met.ofW (cc := cX3_isTighter) (maxL := 14) (ret := (some .boolean)) (by decide) rfl ?_
  intro p e s m args below meth c s₁ B hml hv
  obtain ⟨rfl, ⟨hsz, hP, hK, hD0⟩, hsx⟩ := hv
  have hx := B.exec
  have hb := B.bytes
  have hts := atoms_spec (ws := (.code yX3_isTighter cX3_isTighter 14 (some .boolean) :: wsAll)) B.pre
  have hta := fun w h => hts w (List.mem_cons_of_mem _ h)
  have hown : s.vm.findClass RX3 = some m.cls := findClass_of_methodNamed B.named
  have hlocks := B.notSynchronized
  subst hsz
  have hD := hD0.self (sz := s.heap.size)
  generalize hAe : va_A (wX cI cJ cZ cR am gm t) s.heap.size = A at hD ⊢
  have hA : ∀ q : Nat, s.heap.size ≤ q → A q := fun q h => by rw [← hAe]; exact Or.inr h
  have C0 : cxX p s m ([.ref (am 1003), .int a1, .int a2, .int a3].toArray) meth c cX3_isTighter RX3 14 (some .boolean) D (tyX cI cJ cZ cR) st A := ⟨⟨hx, hb, B.returns, hml, hown, hta, hlocks, hK, hA⟩, by rw [← hAe]; exact hsx⟩
  have hW : wl D A s (wX cI cJ cZ cR am gm t) s.heap [] := ⟨hP, hD, va_S.rf⟩
  have hl := lv_entry [.ref (am 1003), .int a1, .int a2, .int a3] (n := 14) (Nat.le_of_ble_eq_true rfl)
  rw [lg_entry_eq]
  generalize (lg_sl [.ref (am 1003), .int a1, .int a2, .int a3] ++ List.replicate (14 - (lg_sl [.ref (am 1003), .int a1, .int a2, .int a3]).length) Slot.unset).toArray = ls at hl ⊢
  have hl : lv_has ls 14 [(0, .ref (am 1003)), (1, .int a1), (2, .int a2), (3, .int a3)] := hl
  unfold x3_isTighter at ho
  refine lv_aload_n hx hb dX3_isTighter_0 rfl (lv_at hl 0 rfl) ?_
  refine xGET_303 C0 kw_494 hW dX3_isTighter_1 ?_
  refine lv_iload_n hx hb dX3_isTighter_4 rfl (lv_at hl 1 rfl) ?_
  refine lv_aload_n hx hb dX3_isTighter_5 rfl (lv_at hl 0 rfl) ?_
  refine xGET_307 C0 kw_498 hW dX3_isTighter_6 ?_
  refine lv_imul hx hb dX3_isTighter_9 ?_
  refine lv_aload_n hx hb dX3_isTighter_10 rfl (lv_at hl 0 rfl) ?_
  refine xGET_306 C0 kw_497 hW dX3_isTighter_11 ?_
  refine lv_iadd hx hb dX3_isTighter_14 ?_
  obtain ⟨g1, ho⟩ := gd_some ho
  refine xLD_303 C0 hW g1 dX3_isTighter_15 ?_
  refine lv_nml ho (fun x2 ho => ?_)
  refine lv_lstore (lv' := [(4, .long x2), (0, .ref (am 1003)), (1, .int a1), (2, .int a2), (3, .int a3)]) hx hb dX3_isTighter_16 hl (by decide) rfl (fun ls hl => ?_)
  refine lv_aload_n hx hb dX3_isTighter_18 rfl (lv_at hl 1 rfl) ?_
  refine xGET_303 C0 kw_494 hW dX3_isTighter_19 ?_
  refine lv_iload_n hx hb dX3_isTighter_22 rfl (lv_at hl 3 rfl) ?_
  refine lv_aload_n hx hb dX3_isTighter_23 rfl (lv_at hl 1 rfl) ?_
  refine xGET_307 C0 kw_498 hW dX3_isTighter_24 ?_
  refine lv_imul hx hb dX3_isTighter_27 ?_
  refine lv_iload_n hx hb dX3_isTighter_28 rfl (lv_at hl 4 rfl) ?_
  refine lv_iadd hx hb dX3_isTighter_29 ?_
  obtain ⟨g3, ho⟩ := gd_some ho
  refine xLD_303 C0 hW g3 dX3_isTighter_30 ?_
  refine lv_nml ho (fun x4 ho => ?_)
  refine lv_lstore (lv' := [(6, .long x4), (4, .long x2), (0, .ref (am 1003)), (1, .int a1), (2, .int a2), (3, .int a3)]) hx hb dX3_isTighter_31 hl (by decide) rfl (fun ls hl => ?_)
  refine lv_aload_n hx hb dX3_isTighter_33 rfl (lv_at hl 2 rfl) ?_
  refine xGET_303 C0 kw_494 hW dX3_isTighter_34 ?_
  refine lv_iload_n hx hb dX3_isTighter_37 rfl (lv_at hl 4 rfl) ?_
  refine lv_aload_n hx hb dX3_isTighter_38 rfl (lv_at hl 2 rfl) ?_
  refine xGET_307 C0 kw_498 hW dX3_isTighter_39 ?_
  refine lv_imul hx hb dX3_isTighter_42 ?_
  refine lv_aload_n hx hb dX3_isTighter_43 rfl (lv_at hl 2 rfl) ?_
  refine xGET_306 C0 kw_497 hW dX3_isTighter_44 ?_
  refine lv_iadd hx hb dX3_isTighter_47 ?_
  obtain ⟨g5, ho⟩ := gd_some ho
  refine xLD_303 C0 hW g5 dX3_isTighter_48 ?_
  refine lv_nml ho (fun x6 ho => ?_)
  refine lv_lstore (lv' := [(8, .long x6), (6, .long x4), (4, .long x2), (0, .ref (am 1003)), (1, .int a1), (2, .int a2), (3, .int a3)]) hx hb dX3_isTighter_49 hl (by decide) rfl (fun ls hl => ?_)
  refine lv_aload_n hx hb dX3_isTighter_51 rfl (lv_at hl 3 rfl) ?_
  refine xGET_303 C0 kw_494 hW dX3_isTighter_52 ?_
  refine lv_iload_n hx hb dX3_isTighter_55 rfl (lv_at hl 4 rfl) ?_
  refine lv_aload_n hx hb dX3_isTighter_56 rfl (lv_at hl 3 rfl) ?_
  refine xGET_307 C0 kw_498 hW dX3_isTighter_57 ?_
  refine lv_imul hx hb dX3_isTighter_60 ?_
  refine lv_iload_n hx hb dX3_isTighter_61 rfl (lv_at hl 6 rfl) ?_
  refine lv_iadd hx hb dX3_isTighter_62 ?_
  obtain ⟨g7, ho⟩ := gd_some ho
  refine xLD_303 C0 hW g7 dX3_isTighter_63 ?_
  refine lv_nml ho (fun x8 ho => ?_)
  refine lv_lstore (lv' := [(10, .long x8), (8, .long x6), (6, .long x4), (4, .long x2), (0, .ref (am 1003)), (1, .int a1), (2, .int a2), (3, .int a3)]) hx hb dX3_isTighter_64 hl (by decide) rfl (fun ls hl => ?_)
  refine lv_lload hx hb dX3_isTighter_66 (lv_at hl 3 rfl) ?_
  refine lv_lload hx hb dX3_isTighter_68 (lv_at hl 2 rfl) ?_
  refine lv_lload hx hb dX3_isTighter_70 (lv_at hl 1 rfl) ?_
  refine lv_lload hx hb dX3_isTighter_72 (lv_at hl 0 rfl) ?_
  obtain ⟨q9, hc10, ho⟩ := bd_some ho
  refine bkJ C0.1 hW (runSX (As := [.long x2, .long x4, .long x6, .long x8]) (rest := []) C0 hW (c_x3_highOfDifference l _ t x2 x4 x6 x8 (r := q9) hc10) cb_X3_X3_highOfDifference_98 rfl rfl ⟨rfl, rfl⟩ ⟨Nat.le_of_ble_eq_true rfl, Nat.le_of_ble_eq_true rfl⟩ (Nat.le_of_ble_eq_true rfl) hl.1 dX3_isTighter_74 ⟨Nat.le_of_ble_eq_true rfl, Nat.le_of_ble_eq_true rfl⟩) (fun H locs hW => ?_)
  refine lv_lstore (lv' := [(12, .long q9), (10, .long x8), (8, .long x6), (6, .long x4), (4, .long x2), (0, .ref (am 1003)), (1, .int a1), (2, .int a2), (3, .int a3)]) hx hb dX3_isTighter_77 hl (by decide) rfl (fun ls hl => ?_)
  refine lv_lload hx hb dX3_isTighter_79 (lv_at hl 0 rfl) ?_
  refine lv_lconst (v := (0 : Int64)) hx hb dX3_isTighter_81 (by decide) ?_
  refine W.lcmp hx hb dX3_isTighter_82 ?_
  refine lv_if_eq (tgt := 99) hx hb dX3_isTighter_83 (by decide) (fun c11 => ?_) (fun c11 => ?_)
  · replace ho := ite_t c11 ho
    refine lv_lload hx hb dX3_isTighter_99 (lv_at hl 4 rfl) ?_
    refine lv_lload hx hb dX3_isTighter_101 (lv_at hl 3 rfl) ?_
    refine lv_lmul hx hb dX3_isTighter_103 ?_
    refine lv_lload hx hb dX3_isTighter_104 (lv_at hl 2 rfl) ?_
    refine lv_lload hx hb dX3_isTighter_106 (lv_at hl 1 rfl) ?_
    refine lv_lmul hx hb dX3_isTighter_108 ?_
    refine W.lcmp hx hb dX3_isTighter_109 ?_
    refine lv_if_ne (tgt := 132) hx hb dX3_isTighter_110 (by decide) (fun c12 => ?_) (fun c12 => ?_)
    · replace ho := ite_f c12 ho
      refine lv_iconst (v := (0 : Int32)) hx hb dX3_isTighter_132 (by decide) ?_
      cases ho
      exact rtZ C0.1 hW (Or.inl (rfl : (0 : Int32) = 0)) dX3_isTighter_133
    · replace ho := ite_t c12 ho
      refine lv_aload_n hx hb dX3_isTighter_113 rfl (lv_at hl 5 rfl) ?_
      refine xGET_304 C0 kw_495 hW dX3_isTighter_114 ?_
      refine lv_iload_n hx hb dX3_isTighter_117 rfl (lv_at hl 6 rfl) ?_
      obtain ⟨g13, ho⟩ := gd_some ho
      refine xLD_304 C0 hW g13 dX3_isTighter_118 ?_
      refine lv_aload_n hx hb dX3_isTighter_119 rfl (lv_at hl 5 rfl) ?_
      refine xGET_304 C0 kw_495 hW dX3_isTighter_120 ?_
      refine lv_iload_n hx hb dX3_isTighter_123 rfl (lv_at hl 7 rfl) ?_
      obtain ⟨g14, ho⟩ := gd_some ho
      refine xLD_304 C0 hW g14 dX3_isTighter_124 ?_
      refine lv_icmp_ge (tgt := 132) hx hb dX3_isTighter_125 (by decide) (fun c15 => ?_) (fun c15 => ?_)
      · replace ho := ite_t c15 ho
        refine lv_iconst (v := (0 : Int32)) hx hb dX3_isTighter_132 (by decide) ?_
        cases ho
        exact rtZ C0.1 hW (Or.inl (rfl : (0 : Int32) = 0)) dX3_isTighter_133
      · replace ho := ite_f c15 ho
        refine lv_iconst (v := (1 : Int32)) hx hb dX3_isTighter_128 (by decide) ?_
        refine lv_goto (tgt := 133) hx hb dX3_isTighter_129 (by decide) ?_
        cases ho
        exact rtZ C0.1 hW (Or.inr (rfl : (1 : Int32) = 1)) dX3_isTighter_133
  · replace ho := ite_f c11 ho
    refine lv_lload hx hb dX3_isTighter_86 (lv_at hl 0 rfl) ?_
    refine lv_lconst (v := (0 : Int64)) hx hb dX3_isTighter_88 (by decide) ?_
    refine W.lcmp hx hb dX3_isTighter_89 ?_
    refine lv_if_ge (tgt := 97) hx hb dX3_isTighter_90 (by decide) (fun c16 => ?_) (fun c16 => ?_)
    · replace ho := ite_t c16 ho
      refine lv_iconst (v := (0 : Int32)) hx hb dX3_isTighter_97 (by decide) ?_
      cases ho
      exact rtZ C0.1 hW (Or.inl (rfl : (0 : Int32) = 0)) dX3_isTighter_98
    · replace ho := ite_f c16 ho
      refine lv_iconst (v := (1 : Int32)) hx hb dX3_isTighter_93 (by decide) ?_
      refine lv_goto (tgt := 98) hx hb dX3_isTighter_94 (by decide) ?_
      cases ho
      exact rtZ C0.1 hW (Or.inr (rfl : (1 : Int32) = 1)) dX3_isTighter_98
noncomputable def x3_leavingRow_B4 (t : St) (v1 : Int32) (v2 : Int32) (v3 : Int32) : Option ((Int32 × Int32) ⊕ (Int32)) :=
  if (gI t 302) ≤ v3 then (some (.inr v2)) else (gd ((v3 * (gI t 307)) + v1) (gN t 303) (if (lg_cmp (gB t 303 (((v3 * (gI t 307)) + v1)).toNatClampNeg) (0 : Int64)) ≤ 0 then (nm (v3 + (1 : Int32)) (fun x4 : Int32 => some (.inl (v2, x4)))) else (if v2 < 0 then (nm (v3 + (1 : Int32)) (fun x6 : Int32 => some (.inl (v3, x6)))) else ((x3_isTighter t v3 v2 v1).bind (fun q7 => if q7 = 0 then (nm (v3 + (1 : Int32)) (fun x11 : Int32 => some (.inl (v2, x11)))) else (nm (v3 + (1 : Int32)) (fun x12 : Int32 => some (.inl (v3, x12)))))))))
noncomputable def x3_leavingRow (t : St) (a1 : Int32) : Option (Int32) :=
  (lp (fun x => x3_leavingRow_B4 t a1 x.1 x.2) ((-1 : Int32), (0 : Int32))).bind (fun y13 => some y13)
set_option maxHeartbeats 4000000 in
set_option maxRecDepth 100000 in
theorem x3_leavingRow_L4 {p : Program} {l : Launch} {e : Env} {s : State} {m : MethodId} {args : Array Value} {below : List Frame} {meth : Method} {c : Code} {Q : State → Prop} {D : va_G} {cI cJ cZ cR : ClassId} {am gm : Nat → Nat} {st : Nat} {A : Nat → Prop} (C0 : cxX p s m args meth c cX3_leavingRow RX3 4 (some .int) D (tyX cI cJ cZ cR) st A) {t : St} {v1 : Int32} {y : Int32} (hK0 : ∀ (H : Heap) (locs : List Loc) (ls : Array Slot), wl D A s (wX cI cJ cZ cR am gm t) H locs → lv_has ls 4 [(0, .ref (am 1003)), (2, .int y)] → W p l e (rmN 3 92) s m args below meth c H locs 0 0 Q (F0 m 52 ls [])) :
    ∀ (n : Nat) (v2 : Int32) (v3 : Int32), lpn (fun x => x3_leavingRow_B4 t v1 x.1 x.2) n (v2, v3) = some y → ∀ (H : Heap) (locs : List Loc) (ls : Array Slot), wl D A s (wX cI cJ cZ cR am gm t) H locs → lv_has ls 4 [(0, .ref (am 1003)), (1, .int v1), (2, .int v2), (3, .int v3)] → W p l e (rmN 3 92) s m args below meth c H locs 0 0 Q (F0 m 4 ls []) := by
  have hx := C0.1.1
  have hb := C0.1.2.1
  have hta := C0.1.2.2.2.2.2.1
  have hown := C0.1.2.2.2.2.1
  intro n
  induction n with
  | zero => intro _ _ h; cases h
  | succ n ih =>
    intro v2 v3 hrun H locs ls hW hl
    obtain ⟨o, ho, hrun⟩ := bd_some hrun
    unfold x3_leavingRow_B4 at ho
    refine lv_iload_n hx hb dX3_leavingRow_4 rfl (lv_at hl 3 rfl) ?_
    refine lv_aload_n hx hb dX3_leavingRow_5 rfl (lv_at hl 0 rfl) ?_
    refine xGET_302 C0 kw_492 hW dX3_leavingRow_6 ?_
    refine lv_icmp_ge (tgt := 52) hx hb dX3_leavingRow_9 (by decide) (fun c1 => ?_) (fun c1 => ?_)
    · replace ho := ite_t c1 ho
      cases ho
      cases hrun
      exact hK0 _ _ _ hW (lv_sub hl [0, 2] rfl)
    · replace ho := ite_f c1 ho
      refine lv_aload_n hx hb dX3_leavingRow_12 rfl (lv_at hl 0 rfl) ?_
      refine xGET_303 C0 kw_494 hW dX3_leavingRow_13 ?_
      refine lv_iload_n hx hb dX3_leavingRow_16 rfl (lv_at hl 3 rfl) ?_
      refine lv_aload_n hx hb dX3_leavingRow_17 rfl (lv_at hl 0 rfl) ?_
      refine xGET_307 C0 kw_498 hW dX3_leavingRow_18 ?_
      refine lv_imul hx hb dX3_leavingRow_21 ?_
      refine lv_iload_n hx hb dX3_leavingRow_22 rfl (lv_at hl 1 rfl) ?_
      refine lv_iadd hx hb dX3_leavingRow_23 ?_
      obtain ⟨g2, ho⟩ := gd_some ho
      refine xLD_303 C0 hW g2 dX3_leavingRow_24 ?_
      refine lv_lconst (v := (0 : Int64)) hx hb dX3_leavingRow_25 (by decide) ?_
      refine W.lcmp hx hb dX3_leavingRow_26 ?_
      refine lv_if_le (tgt := 46) hx hb dX3_leavingRow_27 (by decide) (fun c3 => ?_) (fun c3 => ?_)
      · replace ho := ite_t c3 ho
        obtain ⟨x4, ex4, ho⟩ := nm_x ho
        refine lv_iinc (v := x4) (lv' := [(3, .int x4), (0, .ref (am 1003)), (1, .int v1), (2, .int v2)]) hx hb dX3_leavingRow_46 hl (k := 3) rfl (by rw [ex4]; rfl) (by decide) rfl (fun ls hl => ?_)
        clear ex4
        refine lv_goto (tgt := 4) hx hb dX3_leavingRow_49 (by decide) ?_
        cases ho
        exact ih _ _ hrun _ _ _ hW (lv_sub hl [1, 2, 3, 0] rfl)
      · replace ho := ite_f c3 ho
        refine lv_iload_n hx hb dX3_leavingRow_30 rfl (lv_at hl 2 rfl) ?_
        refine lv_if_lt (tgt := 44) hx hb dX3_leavingRow_31 (by decide) (fun c5 => ?_) (fun c5 => ?_)
        · replace ho := ite_t c5 ho
          refine lv_iload_n hx hb dX3_leavingRow_44 rfl (lv_at hl 3 rfl) ?_
          refine lv_istore_n (lv' := [(2, .int v3), (0, .ref (am 1003)), (1, .int v1), (3, .int v3)]) hx hb dX3_leavingRow_45 rfl hl (by decide) rfl (fun ls hl => ?_)
          obtain ⟨x6, ex6, ho⟩ := nm_x ho
          refine lv_iinc (v := x6) (lv' := [(3, .int x6), (2, .int v3), (0, .ref (am 1003)), (1, .int v1)]) hx hb dX3_leavingRow_46 hl (k := 3) rfl (by rw [ex6]; rfl) (by decide) rfl (fun ls hl => ?_)
          clear ex6
          refine lv_goto (tgt := 4) hx hb dX3_leavingRow_49 (by decide) ?_
          cases ho
          exact ih _ _ hrun _ _ _ hW (lv_sub hl [2, 3, 1, 0] rfl)
        · replace ho := ite_f c5 ho
          refine lv_aload_n hx hb dX3_leavingRow_34 rfl (lv_at hl 0 rfl) ?_
          refine lv_iload_n hx hb dX3_leavingRow_35 rfl (lv_at hl 3 rfl) ?_
          refine lv_iload_n hx hb dX3_leavingRow_36 rfl (lv_at hl 2 rfl) ?_
          refine lv_iload_n hx hb dX3_leavingRow_37 rfl (lv_at hl 1 rfl) ?_
          obtain ⟨q7, hc8, ho⟩ := bd_some ho
          refine bkZ C0.1 hW (runVX (As := [.int v3, .int v2, .int v1]) (rest := []) C0 hW (c_x3_isTighter l _ t v3 v2 v1 (r := q7) hc8) cb_X3_X3_isTighter_94 3 3 rfl rfl rfl rfl rfl ⟨rfl, rfl⟩ ⟨Nat.le_of_ble_eq_true rfl, Nat.le_of_ble_eq_true rfl⟩ (Nat.le_of_ble_eq_true rfl) hl.1 dX3_leavingRow_38 ⟨Nat.le_of_ble_eq_true rfl, Nat.le_of_ble_eq_true rfl⟩) (fun z9 H locs hW => ?_)
          refine lv_if_eq (tgt := 46) hx hb dX3_leavingRow_41 (by decide) (fun c10 => ?_) (fun c10 => ?_)
          · replace ho := ite_t c10 ho
            obtain ⟨x11, ex11, ho⟩ := nm_x ho
            refine lv_iinc (v := x11) (lv' := [(3, .int x11), (0, .ref (am 1003)), (1, .int v1), (2, .int v2)]) hx hb dX3_leavingRow_46 hl (k := 3) rfl (by rw [ex11]; rfl) (by decide) rfl (fun ls hl => ?_)
            clear ex11
            refine lv_goto (tgt := 4) hx hb dX3_leavingRow_49 (by decide) ?_
            cases ho
            exact ih _ _ hrun _ _ _ hW (lv_sub hl [1, 2, 3, 0] rfl)
          · replace ho := ite_f c10 ho
            refine lv_iload_n hx hb dX3_leavingRow_44 rfl (lv_at hl 3 rfl) ?_
            refine lv_istore_n (lv' := [(2, .int v3), (0, .ref (am 1003)), (1, .int v1), (3, .int v3)]) hx hb dX3_leavingRow_45 rfl hl (by decide) rfl (fun ls hl => ?_)
            obtain ⟨x12, ex12, ho⟩ := nm_x ho
            refine lv_iinc (v := x12) (lv' := [(3, .int x12), (2, .int v3), (0, .ref (am 1003)), (1, .int v1)]) hx hb dX3_leavingRow_46 hl (k := 3) rfl (by rw [ex12]; rfl) (by decide) rfl (fun ls hl => ?_)
            clear ex12
            refine lv_goto (tgt := 4) hx hb dX3_leavingRow_49 (by decide) ?_
            cases ho
            exact ih _ _ hrun _ _ _ hW (lv_sub hl [2, 3, 1, 0] rfl)
set_option maxHeartbeats 4000000 in
set_option maxRecDepth 100000 in
theorem c_x3_leavingRow (l : Launch) {D : va_G} {cI cJ cZ cR : ClassId} {am gm : Nat → Nat} {st : Nat} (sz : Nat) (t : St) (a1 : Int32) {r : Int32} (ho : x3_leavingRow t a1 = some r) : Met l yX3_leavingRow (.code yX3_leavingRow cX3_leavingRow 4 (some .int) :: wsAll) (rmN 3 92) (va_Pc [.ref (am 1003), .int a1] (prX D (tyX cI cJ cZ cR) (wX cI cJ cZ cR am gm t) sz st)) (qI r D (tyX cI cJ cZ cR) (wX cI cJ cZ cR am gm t) (va_A (wX cI cJ cZ cR am gm t) sz)) 0 0 (va_A (wX cI cJ cZ cR am gm t) sz) := by
  refine Met.ofW (cc := cX3_leavingRow) (maxL := 4) (ret := (some .int)) (by decide) rfl ?_
  intro p e s m args below meth c s₁ B hml hv
  obtain ⟨rfl, ⟨hsz, hP, hK, hD0⟩, hsx⟩ := hv
  have hx := B.exec
  have hb := B.bytes
  have hts := atoms_spec (ws := (.code yX3_leavingRow cX3_leavingRow 4 (some .int) :: wsAll)) B.pre
  have hta := fun w h => hts w (List.mem_cons_of_mem _ h)
  have hown : s.vm.findClass RX3 = some m.cls := findClass_of_methodNamed B.named
  have hlocks := B.notSynchronized
  subst hsz
  have hD := hD0.self (sz := s.heap.size)
  generalize hAe : va_A (wX cI cJ cZ cR am gm t) s.heap.size = A at hD ⊢
  have hA : ∀ q : Nat, s.heap.size ≤ q → A q := fun q h => by rw [← hAe]; exact Or.inr h
  have C0 : cxX p s m ([.ref (am 1003), .int a1].toArray) meth c cX3_leavingRow RX3 4 (some .int) D (tyX cI cJ cZ cR) st A := ⟨⟨hx, hb, B.returns, hml, hown, hta, hlocks, hK, hA⟩, by rw [← hAe]; exact hsx⟩
  have hW : wl D A s (wX cI cJ cZ cR am gm t) s.heap [] := ⟨hP, hD, va_S.rf⟩
  have hl := lv_entry [.ref (am 1003), .int a1] (n := 4) (Nat.le_of_ble_eq_true rfl)
  rw [lg_entry_eq]
  generalize (lg_sl [.ref (am 1003), .int a1] ++ List.replicate (4 - (lg_sl [.ref (am 1003), .int a1]).length) Slot.unset).toArray = ls at hl ⊢
  have hl : lv_has ls 4 [(0, .ref (am 1003)), (1, .int a1)] := hl
  unfold x3_leavingRow at ho
  refine lv_iconst (v := (-1 : Int32)) hx hb dX3_leavingRow_0 (by decide) ?_
  refine lv_istore_n (lv' := [(2, .int (-1 : Int32)), (0, .ref (am 1003)), (1, .int a1)]) hx hb dX3_leavingRow_1 rfl hl (by decide) rfl (fun ls hl => ?_)
  refine lv_iconst (v := (0 : Int32)) hx hb dX3_leavingRow_2 (by decide) ?_
  refine lv_istore_n (lv' := [(3, .int (0 : Int32)), (2, .int (-1 : Int32)), (0, .ref (am 1003)), (1, .int a1)]) hx hb dX3_leavingRow_3 rfl hl (by decide) rfl (fun ls hl => ?_)
  obtain ⟨y13, hc15, ho⟩ := bd_some ho
  obtain ⟨ny13, hc15⟩ := lp_to hc15
  refine x3_leavingRow_L4 C0 ?_ ny13 _ _ hc15 _ _ _ hW (lv_sub hl [2, 3, 1, 0] rfl)
  intro H locs ls hW hl
  refine lv_iload_n hx hb dX3_leavingRow_52 rfl (lv_at hl 1 rfl) ?_
  cases ho
  exact rtI C0.1 hW dX3_leavingRow_53
noncomputable def x3_inverseOf_B5 (t : St) (v0 : Int64) (v2 : Int64) (v4 : Int32) : Option ((Int64 × Int32) ⊕ (Int64)) :=
  if (5 : Int32) ≤ v4 then (some (.inr v2)) else (nm (v2 * ((2 : Int64) - (v0 * v2))) (fun x2 : Int64 => nm (v4 + (1 : Int32)) (fun x3 : Int32 => some (.inl (x2, x3)))))
noncomputable def x3_inverseOf (t : St) (a0 : Int64) : Option (Int64) :=
  (lp (fun x => x3_inverseOf_B5 t a0 x.1 x.2) (a0, (0 : Int32))).bind (fun y4 => some y4)
set_option maxHeartbeats 4000000 in
set_option maxRecDepth 100000 in
theorem x3_inverseOf_L5 {p : Program} {l : Launch} {e : Env} {s : State} {m : MethodId} {args : Array Value} {below : List Frame} {meth : Method} {c : Code} {Q : State → Prop} {D : va_G} {cI cJ cZ cR : ClassId} {am gm : Nat → Nat} {st : Nat} {A : Nat → Prop} (C0 : cxX p s m args meth c cX3_inverseOf RX3 5 (some .long) D (tyX cI cJ cZ cR) st A) {t : St} {v0 : Int64} {y : Int64} (hK0 : ∀ (H : Heap) (locs : List Loc) (ls : Array Slot), wl D A s (wX cI cJ cZ cR am gm t) H locs → lv_has ls 5 [(2, .long y)] → W p l e (rmN 0 0) s m args below meth c H locs 0 0 Q (F0 m 27 ls [])) :
    ∀ (n : Nat) (v2 : Int64) (v4 : Int32), lpn (fun x => x3_inverseOf_B5 t v0 x.1 x.2) n (v2, v4) = some y → ∀ (H : Heap) (locs : List Loc) (ls : Array Slot), wl D A s (wX cI cJ cZ cR am gm t) H locs → lv_has ls 5 [(0, .long v0), (2, .long v2), (4, .int v4)] → W p l e (rmN 0 0) s m args below meth c H locs 0 0 Q (F0 m 5 ls []) := by
  have hx := C0.1.1
  have hb := C0.1.2.1
  have hta := C0.1.2.2.2.2.2.1
  have hown := C0.1.2.2.2.2.1
  intro n
  induction n with
  | zero => intro _ _ h; cases h
  | succ n ih =>
    intro v2 v4 hrun H locs ls hW hl
    obtain ⟨o, ho, hrun⟩ := bd_some hrun
    unfold x3_inverseOf_B5 at ho
    refine lv_iload hx hb dX3_inverseOf_5 (lv_at hl 2 rfl) ?_
    refine lv_iconst (v := (5 : Int32)) hx hb dX3_inverseOf_7 (by decide) ?_
    refine lv_icmp_ge (tgt := 27) hx hb dX3_inverseOf_8 (by decide) (fun c1 => ?_) (fun c1 => ?_)
    · replace ho := ite_t c1 ho
      cases ho
      cases hrun
      exact hK0 _ _ _ hW (lv_sub hl [1] rfl)
    · replace ho := ite_f c1 ho
      refine lv_lload_n hx hb dX3_inverseOf_11 rfl (lv_at hl 1 rfl) ?_
      refine lv_ldc2 hx hb hown (hta _ kw_1212) dX3_inverseOf_12 ?_
      refine lv_lload_n hx hb dX3_inverseOf_15 rfl (lv_at hl 0 rfl) ?_
      refine lv_lload_n hx hb dX3_inverseOf_16 rfl (lv_at hl 1 rfl) ?_
      refine lv_lmul hx hb dX3_inverseOf_17 ?_
      refine lv_lsub hx hb dX3_inverseOf_18 ?_
      refine lv_lmul hx hb dX3_inverseOf_19 ?_
      refine lv_nml ho (fun x2 ho => ?_)
      refine lv_lstore_n (lv' := [(2, .long x2), (0, .long v0), (4, .int v4)]) hx hb dX3_inverseOf_20 rfl hl (by decide) rfl (fun ls hl => ?_)
      obtain ⟨x3, ex3, ho⟩ := nm_x ho
      refine lv_iinc (v := x3) (lv' := [(4, .int x3), (2, .long x2), (0, .long v0)]) hx hb dX3_inverseOf_21 hl (k := 2) rfl (by rw [ex3]; rfl) (by decide) rfl (fun ls hl => ?_)
      clear ex3
      refine lv_goto (tgt := 5) hx hb dX3_inverseOf_24 (by decide) ?_
      cases ho
      exact ih _ _ hrun _ _ _ hW (lv_sub hl [2, 1, 0] rfl)
set_option maxHeartbeats 4000000 in
set_option maxRecDepth 100000 in
theorem c_x3_inverseOf (l : Launch) {D : va_G} {cI cJ cZ cR : ClassId} {am gm : Nat → Nat} {st : Nat} (sz : Nat) (t : St) (a0 : Int64) {r : Int64} (ho : x3_inverseOf t a0 = some r) : Met l yX3_inverseOf (.code yX3_inverseOf cX3_inverseOf 5 (some .long) :: wsAll) (rmN 0 0) (va_Pc [.long a0] (prX D (tyX cI cJ cZ cR) (wX cI cJ cZ cR am gm t) sz st)) (qJ r D (tyX cI cJ cZ cR) (wX cI cJ cZ cR am gm t) (va_A (wX cI cJ cZ cR am gm t) sz)) 0 0 (va_A (wX cI cJ cZ cR am gm t) sz) := by
  refine Met.ofW (cc := cX3_inverseOf) (maxL := 5) (ret := (some .long)) (by decide) rfl ?_
  intro p e s m args below meth c s₁ B hml hv
  obtain ⟨rfl, ⟨hsz, hP, hK, hD0⟩, hsx⟩ := hv
  have hx := B.exec
  have hb := B.bytes
  have hts := atoms_spec (ws := (.code yX3_inverseOf cX3_inverseOf 5 (some .long) :: wsAll)) B.pre
  have hta := fun w h => hts w (List.mem_cons_of_mem _ h)
  have hown : s.vm.findClass RX3 = some m.cls := findClass_of_methodNamed B.named
  have hlocks := B.notSynchronized
  subst hsz
  have hD := hD0.self (sz := s.heap.size)
  generalize hAe : va_A (wX cI cJ cZ cR am gm t) s.heap.size = A at hD ⊢
  have hA : ∀ q : Nat, s.heap.size ≤ q → A q := fun q h => by rw [← hAe]; exact Or.inr h
  have C0 : cxX p s m ([.long a0].toArray) meth c cX3_inverseOf RX3 5 (some .long) D (tyX cI cJ cZ cR) st A := ⟨⟨hx, hb, B.returns, hml, hown, hta, hlocks, hK, hA⟩, by rw [← hAe]; exact hsx⟩
  have hW : wl D A s (wX cI cJ cZ cR am gm t) s.heap [] := ⟨hP, hD, va_S.rf⟩
  have hl := lv_entry [.long a0] (n := 5) (Nat.le_of_ble_eq_true rfl)
  rw [lg_entry_eq]
  generalize (lg_sl [.long a0] ++ List.replicate (5 - (lg_sl [.long a0]).length) Slot.unset).toArray = ls at hl ⊢
  have hl : lv_has ls 5 [(0, .long a0)] := hl
  unfold x3_inverseOf at ho
  refine lv_lload_n hx hb dX3_inverseOf_0 rfl (lv_at hl 0 rfl) ?_
  refine lv_lstore_n (lv' := [(2, .long a0), (0, .long a0)]) hx hb dX3_inverseOf_1 rfl hl (by decide) rfl (fun ls hl => ?_)
  refine lv_iconst (v := (0 : Int32)) hx hb dX3_inverseOf_2 (by decide) ?_
  refine lv_istore (lv' := [(4, .int (0 : Int32)), (2, .long a0), (0, .long a0)]) hx hb dX3_inverseOf_3 hl (by decide) rfl (fun ls hl => ?_)
  obtain ⟨y4, hc6, ho⟩ := bd_some ho
  obtain ⟨ny4, hc6⟩ := lp_to hc6
  refine x3_inverseOf_L5 C0 ?_ ny4 _ _ hc6 _ _ _ hW (lv_sub hl [2, 1, 0] rfl)
  intro H locs ls hW hl
  refine lv_lload_n hx hb dX3_inverseOf_27 rfl (lv_at hl 0 rfl) ?_
  cases ho
  exact rtJ C0.1 hW dX3_inverseOf_28
noncomputable def x3_shifted (t : St) (a0 : Int64) (a2 : Int64) (a4 : Int32) : Option (Int64) :=
  if a4 = 0 then (some a2) else (some ((((a2).toUInt64 >>> ((a4).toInt64.toUInt64 &&& Int64.toUInt64 63)).toInt64) ||| ((a0 <<< ((((64 : Int32) - a4)).toInt64 &&& 63)))))
set_option maxHeartbeats 4000000 in
set_option maxRecDepth 100000 in
theorem c_x3_shifted (l : Launch) {D : va_G} {cI cJ cZ cR : ClassId} {am gm : Nat → Nat} {st : Nat} (sz : Nat) (t : St) (a0 : Int64) (a2 : Int64) (a4 : Int32) {r : Int64} (ho : x3_shifted t a0 a2 a4 = some r) : Met l yX3_shifted (.code yX3_shifted cX3_shifted 5 (some .long) :: wsAll) (rmN 0 0) (va_Pc [.long a0, .long a2, .int a4] (prX D (tyX cI cJ cZ cR) (wX cI cJ cZ cR am gm t) sz st)) (qJ r D (tyX cI cJ cZ cR) (wX cI cJ cZ cR am gm t) (va_A (wX cI cJ cZ cR am gm t) sz)) 0 0 (va_A (wX cI cJ cZ cR am gm t) sz) := by
  refine Met.ofW (cc := cX3_shifted) (maxL := 5) (ret := (some .long)) (by decide) rfl ?_
  intro p e s m args below meth c s₁ B hml hv
  obtain ⟨rfl, ⟨hsz, hP, hK, hD0⟩, hsx⟩ := hv
  have hx := B.exec
  have hb := B.bytes
  have hts := atoms_spec (ws := (.code yX3_shifted cX3_shifted 5 (some .long) :: wsAll)) B.pre
  have hta := fun w h => hts w (List.mem_cons_of_mem _ h)
  have hown : s.vm.findClass RX3 = some m.cls := findClass_of_methodNamed B.named
  have hlocks := B.notSynchronized
  subst hsz
  have hD := hD0.self (sz := s.heap.size)
  generalize hAe : va_A (wX cI cJ cZ cR am gm t) s.heap.size = A at hD ⊢
  have hA : ∀ q : Nat, s.heap.size ≤ q → A q := fun q h => by rw [← hAe]; exact Or.inr h
  have C0 : cxX p s m ([.long a0, .long a2, .int a4].toArray) meth c cX3_shifted RX3 5 (some .long) D (tyX cI cJ cZ cR) st A := ⟨⟨hx, hb, B.returns, hml, hown, hta, hlocks, hK, hA⟩, by rw [← hAe]; exact hsx⟩
  have hW : wl D A s (wX cI cJ cZ cR am gm t) s.heap [] := ⟨hP, hD, va_S.rf⟩
  have hl := lv_entry [.long a0, .long a2, .int a4] (n := 5) (Nat.le_of_ble_eq_true rfl)
  rw [lg_entry_eq]
  generalize (lg_sl [.long a0, .long a2, .int a4] ++ List.replicate (5 - (lg_sl [.long a0, .long a2, .int a4]).length) Slot.unset).toArray = ls at hl ⊢
  have hl : lv_has ls 5 [(0, .long a0), (2, .long a2), (4, .int a4)] := hl
  unfold x3_shifted at ho
  refine lv_iload hx hb dX3_shifted_0 (lv_at hl 2 rfl) ?_
  refine lv_if_ne (tgt := 9) hx hb dX3_shifted_2 (by decide) (fun c1 => ?_) (fun c1 => ?_)
  · replace ho := ite_f c1 ho
    refine lv_lload_n hx hb dX3_shifted_9 rfl (lv_at hl 1 rfl) ?_
    refine lv_iload hx hb dX3_shifted_10 (lv_at hl 2 rfl) ?_
    refine lv_lushr hx hb dX3_shifted_12 rfl ?_
    refine lv_lload_n hx hb dX3_shifted_13 rfl (lv_at hl 0 rfl) ?_
    refine lv_bipush (v := (64 : Int32)) hx hb dX3_shifted_14 (by decide) ?_
    refine lv_iload hx hb dX3_shifted_16 (lv_at hl 2 rfl) ?_
    refine lv_isub hx hb dX3_shifted_18 ?_
    refine lv_lshl hx hb dX3_shifted_19 rfl ?_
    refine lv_lor hx hb dX3_shifted_20 ?_
    cases ho
    exact rtJ C0.1 hW dX3_shifted_21
  · replace ho := ite_t c1 ho
    refine lv_lload_n hx hb dX3_shifted_5 rfl (lv_at hl 1 rfl) ?_
    refine lv_goto (tgt := 21) hx hb dX3_shifted_6 (by decide) ?_
    cases ho
    exact rtJ C0.1 hW dX3_shifted_21
noncomputable def x3_turn_B83 (v1 : Int32) (v2 : Int32) (v3 : Int64) (v5 : Int32) (v6 : Int64) (v8 : Int32) (v9 : Int64) (v11 : Int32) (t : St) : Option ((Int32 × St) ⊕ (St)) :=
  if (gI t 306) < v11 then (some (.inr t)) else (if v11 = v2 then (nm (v11 + (1 : Int32)) (fun x14 : Int32 => some (.inl (x14, t)))) else (gd ((v8 * (gI t 307)) + v11) (gN t 303) (nm (gB t 303 (((v8 * (gI t 307)) + v11)).toNatClampNeg) (fun x4 : Int64 => gd ((v1 * (gI t 307)) + v11) (gN t 303) (nm (gB t 303 (((v1 * (gI t 307)) + v11)).toNatClampNeg) (fun x6 : Int64 => (x3_highOfDifference t x4 v3 v9 x6).bind (fun q7 => (x3_shifted t q7 ((x4 * v3) - (v9 * x6)) v5).bind (fun q9 => gd ((v8 * (gI t 307)) + v11) (gN t 303) (nm (sB t 303 ((v8 * (gI t 307)) + v11) (q9 * v6)) (fun t12 : St => nm (v11 + (1 : Int32)) (fun x13 : Int32 => some (.inl (x13, t12)))))))))))))
theorem mm_x3_turn_B83 (v1 : Int32) (v2 : Int32) (v3 : Int64) (v5 : Int32) (v6 : Int64) (v8 : Int32) (v9 : Int64) (v11 : Int32) (t : St) : MR (x3_turn_B83 v1 v2 v3 v5 v6 v8 v9 v11 t) t (Sum.elim (fun (x : Int32 × St) => x.2) (fun (y : St) => y)) := by
  unfold x3_turn_B83
  exact MR_ite (MR_some mle.rfl) (MR_ite (MR_nm (fun x14 _ => MR_some mle.rfl)) (MR_gd (MR_nm (fun x4 _ => MR_gd (MR_nm (fun x6 _ => MR_bindn (fun q7 => MR_bindn (fun q9 => MR_gd (MR_nmS mle_sB (fun t12 ht12 => MR_nm (fun x13 _ => MR_some ht12)))))))))))
theorem mm_x3_turn_L83 (v1 : Int32) (v2 : Int32) (v3 : Int64) (v5 : Int32) (v6 : Int64) (v8 : Int32) (v9 : Int64) (v11 : Int32) (t : St) : MR (lp (fun x => x3_turn_B83 v1 v2 v3 v5 v6 v8 v9 x.1 x.2) (v11, t)) t (fun (y : St) => y) := MR_lp (p := (fun (x : Int32 × St) => x.2)) (q := (fun (y : St) => y)) (fun x => mm_x3_turn_B83 v1 v2 v3 v5 v6 v8 v9 x.1 x.2) (v11, t)
noncomputable def x3_turn_B46 (v1 : Int32) (v2 : Int32) (v3 : Int64) (v5 : Int32) (v6 : Int64) (v8 : Int32) (t : St) : Option ((Int32 × St) ⊕ (St)) :=
  if (gI t 302) < v8 then (some (.inr t)) else (if v8 = v1 then (nm (v8 + (1 : Int32)) (fun x25 : Int32 => some (.inl (x25, t)))) else (gd ((v8 * (gI t 307)) + v2) (gN t 303) (nm (gB t 303 (((v8 * (gI t 307)) + v2)).toNatClampNeg) (fun x18 : Int64 => (lp (fun x => x3_turn_B83 v1 v2 v3 v5 v6 v8 x18 x.1 x.2) ((0 : Int32), t)).bind (fun y19 => gd ((v8 * (gI y19 307)) + v2) (gN y19 303) (nm (sB y19 303 ((v8 * (gI y19 307)) + v2) (-x18)) (fun t23 : St => nm (v8 + (1 : Int32)) (fun x24 : Int32 => some (.inl (x24, t23))))))))))
theorem mm_x3_turn_B46 (v1 : Int32) (v2 : Int32) (v3 : Int64) (v5 : Int32) (v6 : Int64) (v8 : Int32) (t : St) : MR (x3_turn_B46 v1 v2 v3 v5 v6 v8 t) t (Sum.elim (fun (x : Int32 × St) => x.2) (fun (y : St) => y)) := by
  unfold x3_turn_B46
  exact MR_ite (MR_some mle.rfl) (MR_ite (MR_nm (fun x25 _ => MR_some mle.rfl)) (MR_gd (MR_nm (fun x18 _ => MR_bind (mm_x3_turn_L83 v1 v2 v3 v5 v6 v8 x18 (0 : Int32) t) (fun y19 hm20 => MR_gd (MR_nmS mle_sB (fun t23 ht23 => MR_nm (fun x24 _ => MR_some (mle.trans hm20 ht23)))))))))
theorem mm_x3_turn_L46 (v1 : Int32) (v2 : Int32) (v3 : Int64) (v5 : Int32) (v6 : Int64) (v8 : Int32) (t : St) : MR (lp (fun x => x3_turn_B46 v1 v2 v3 v5 v6 x.1 x.2) (v8, t)) t (fun (y : St) => y) := MR_lp (p := (fun (x : Int32 × St) => x.2)) (q := (fun (y : St) => y)) (fun x => mm_x3_turn_B46 v1 v2 v3 v5 v6 x.1 x.2) (v8, t)
noncomputable def x3_turn (t : St) (a1 : Int32) (a2 : Int32) : Option (St) :=
  gd ((a1 * (gI t 307)) + a2) (gN t 303) (nm (gB t 303 (((a1 * (gI t 307)) + a2)).toNatClampNeg) (fun x27 : Int64 => (j13_bitCount_95d88 t (((gJ t 308) &&& (-(gJ t 308))) - (1 : Int64))).bind (fun q28 => (x3_inverseOf t (((gJ t 308) >>> ((q28).toInt64 &&& 63)))).bind (fun q30 => (lp (fun x => x3_turn_B46 a1 a2 x27 q28 q30 x.1 x.2) ((0 : Int32), t)).bind (fun y32 => gd ((a1 * (gI y32 307)) + a2) (gN y32 303) (nm (sB y32 303 ((a1 * (gI y32 307)) + a2) (gJ y32 308)) (fun t36 : St => nm (sJ t36 308 x27) (fun t37 : St => gd a1 (gN t37 304) (nm (gA t37 304 (a1).toNatClampNeg) (fun x39 : Int32 => gd a2 (gN t37 305) (gd a1 (gN t37 304) (nm (sA t37 304 a1 (gA t37 305 (a2).toNatClampNeg)) (fun t42 : St => gd a2 (gN t42 305) (nm (sA t42 305 a2 x39) (fun t44 : St => some t44)))))))))))))))
theorem mm_x3_turn (t : St) (a1 : Int32) (a2 : Int32) : MR (x3_turn t a1 a2) t (fun (a : St) => a) := by
  unfold x3_turn
  exact MR_gd (MR_nm (fun x27 _ => MR_bindn (fun q28 => MR_bindn (fun q30 => MR_bind (mm_x3_turn_L46 a1 a2 x27 q28 q30 (0 : Int32) t) (fun y32 hm33 => MR_gd (MR_nmS mle_sB (fun t36 ht36 => MR_nmS mle_sJ (fun t37 ht37 => MR_gd (MR_nm (fun x39 _ => MR_gd (MR_gd (MR_nmS mle_sA (fun t42 ht42 => MR_gd (MR_nmS mle_sA (fun t44 ht44 => MR_some (mle.trans (mle.trans (mle.trans (mle.trans hm33 ht36) ht37) ht42) ht44))))))))))))))))
set_option maxHeartbeats 4000000 in
set_option maxRecDepth 100000 in
theorem x3_turn_L83 {p : Program} {l : Launch} {e : Env} {s : State} {m : MethodId} {args : Array Value} {below : List Frame} {meth : Method} {c : Code} {Q : State → Prop} {D : va_G} {cI cJ cZ cR : ClassId} {am gm : Nat → Nat} {st : Nat} {A : Nat → Prop} (C0 : cxX p s m args meth c cX3_turn RX3 18 none D (tyX cI cJ cZ cR) st A) {v1 : Int32} {v2 : Int32} {v3 : Int64} {v5 : Int32} {v6 : Int64} {v8 : Int32} {v9 : Int64} {y : St} (hK0 : ∀ (H : Heap) (locs : List Loc) (ls : Array Slot), wl D A s (wX cI cJ cZ cR am gm y) H locs → lv_has ls 18 [(0, .ref (am 1003)), (1, .int v1), (2, .int v2), (3, .long v3), (5, .int v5), (6, .long v6), (8, .int v8), (9, .long v9)] → W p l e (rmN 2 59) s m args below meth c H locs 0 0 Q (F0 m 187 ls [])) :
    ∀ (n : Nat) (v11 : Int32) (t : St), lpn (fun x => x3_turn_B83 v1 v2 v3 v5 v6 v8 v9 x.1 x.2) n (v11, t) = some y → ∀ (H : Heap) (locs : List Loc) (ls : Array Slot), wl D A s (wX cI cJ cZ cR am gm t) H locs → lv_has ls 18 [(0, .ref (am 1003)), (1, .int v1), (2, .int v2), (3, .long v3), (5, .int v5), (6, .long v6), (8, .int v8), (9, .long v9), (11, .int v11)] → W p l e (rmN 2 59) s m args below meth c H locs 0 0 Q (F0 m 83 ls []) := by
  have hx := C0.1.1
  have hb := C0.1.2.1
  have hta := C0.1.2.2.2.2.2.1
  have hown := C0.1.2.2.2.2.1
  intro n
  induction n with
  | zero => intro _ _ h; cases h
  | succ n ih =>
    intro v11 t hrun H locs ls hW hl
    obtain ⟨o, ho, hrun⟩ := bd_some hrun
    unfold x3_turn_B83 at ho
    refine lv_iload hx hb dX3_turn_83 (lv_at hl 8 rfl) ?_
    refine lv_aload_n hx hb dX3_turn_85 rfl (lv_at hl 0 rfl) ?_
    refine xGET_306 C0 kw_497 hW dX3_turn_86 ?_
    refine lv_icmp_gt (tgt := 187) hx hb dX3_turn_89 (by decide) (fun c1 => ?_) (fun c1 => ?_)
    · replace ho := ite_t c1 ho
      cases ho
      cases hrun
      exact hK0 _ _ _ hW (lv_sub hl [0, 1, 2, 3, 4, 5, 6, 7] rfl)
    · replace ho := ite_f c1 ho
      refine lv_iload hx hb dX3_turn_92 (lv_at hl 8 rfl) ?_
      refine lv_iload_n hx hb dX3_turn_94 rfl (lv_at hl 2 rfl) ?_
      refine lv_icmp_ne (tgt := 101) hx hb dX3_turn_95 (by decide) (fun c2 => ?_) (fun c2 => ?_)
      · replace ho := ite_f c2 ho
        refine lv_aload_n hx hb dX3_turn_101 rfl (lv_at hl 0 rfl) ?_
        refine xGET_303 C0 kw_494 hW dX3_turn_102 ?_
        refine lv_iload hx hb dX3_turn_105 (lv_at hl 6 rfl) ?_
        refine lv_aload_n hx hb dX3_turn_107 rfl (lv_at hl 0 rfl) ?_
        refine xGET_307 C0 kw_498 hW dX3_turn_108 ?_
        refine lv_imul hx hb dX3_turn_111 ?_
        refine lv_iload hx hb dX3_turn_112 (lv_at hl 8 rfl) ?_
        refine lv_iadd hx hb dX3_turn_114 ?_
        obtain ⟨g3, ho⟩ := gd_some ho
        refine xLD_303 C0 hW g3 dX3_turn_115 ?_
        refine lv_nml ho (fun x4 ho => ?_)
        refine lv_lstore (lv' := [(12, .long x4), (0, .ref (am 1003)), (1, .int v1), (2, .int v2), (3, .long v3), (5, .int v5), (6, .long v6), (8, .int v8), (9, .long v9), (11, .int v11)]) hx hb dX3_turn_116 hl (by decide) rfl (fun ls hl => ?_)
        refine lv_aload_n hx hb dX3_turn_118 rfl (lv_at hl 1 rfl) ?_
        refine xGET_303 C0 kw_494 hW dX3_turn_119 ?_
        refine lv_iload_n hx hb dX3_turn_122 rfl (lv_at hl 2 rfl) ?_
        refine lv_aload_n hx hb dX3_turn_123 rfl (lv_at hl 1 rfl) ?_
        refine xGET_307 C0 kw_498 hW dX3_turn_124 ?_
        refine lv_imul hx hb dX3_turn_127 ?_
        refine lv_iload hx hb dX3_turn_128 (lv_at hl 9 rfl) ?_
        refine lv_iadd hx hb dX3_turn_130 ?_
        obtain ⟨g5, ho⟩ := gd_some ho
        refine xLD_303 C0 hW g5 dX3_turn_131 ?_
        refine lv_nml ho (fun x6 ho => ?_)
        refine lv_lstore (lv' := [(14, .long x6), (12, .long x4), (0, .ref (am 1003)), (1, .int v1), (2, .int v2), (3, .long v3), (5, .int v5), (6, .long v6), (8, .int v8), (9, .long v9), (11, .int v11)]) hx hb dX3_turn_132 hl (by decide) rfl (fun ls hl => ?_)
        refine lv_lload hx hb dX3_turn_134 (lv_at hl 1 rfl) ?_
        refine lv_lload_n hx hb dX3_turn_136 rfl (lv_at hl 5 rfl) ?_
        refine lv_lload hx hb dX3_turn_137 (lv_at hl 9 rfl) ?_
        refine lv_lload hx hb dX3_turn_139 (lv_at hl 0 rfl) ?_
        obtain ⟨q7, hc8, ho⟩ := bd_some ho
        refine bkJ C0.1 hW (runSX (As := [.long x4, .long v3, .long v9, .long x6]) (rest := []) C0 hW (c_x3_highOfDifference l _ t x4 v3 v9 x6 (r := q7) hc8) cb_X3_X3_highOfDifference_98 rfl rfl ⟨rfl, rfl⟩ ⟨Nat.le_of_ble_eq_true rfl, Nat.le_of_ble_eq_true rfl⟩ (Nat.le_of_ble_eq_true rfl) hl.1 dX3_turn_141 ⟨Nat.le_of_ble_eq_true rfl, Nat.le_of_ble_eq_true rfl⟩) (fun H locs hW => ?_)
        refine lv_lstore (lv' := [(16, .long q7), (14, .long x6), (12, .long x4), (0, .ref (am 1003)), (1, .int v1), (2, .int v2), (3, .long v3), (5, .int v5), (6, .long v6), (8, .int v8), (9, .long v9), (11, .int v11)]) hx hb dX3_turn_144 hl (by decide) rfl (fun ls hl => ?_)
        refine lv_aload_n hx hb dX3_turn_146 rfl (lv_at hl 3 rfl) ?_
        refine xGET_303 C0 kw_494 hW dX3_turn_147 ?_
        refine lv_iload hx hb dX3_turn_150 (lv_at hl 9 rfl) ?_
        refine lv_aload_n hx hb dX3_turn_152 rfl (lv_at hl 3 rfl) ?_
        refine xGET_307 C0 kw_498 hW dX3_turn_153 ?_
        refine lv_imul hx hb dX3_turn_156 ?_
        refine lv_iload hx hb dX3_turn_157 (lv_at hl 11 rfl) ?_
        refine lv_iadd hx hb dX3_turn_159 ?_
        refine lv_lload hx hb dX3_turn_160 (lv_at hl 0 rfl) ?_
        refine lv_lload hx hb dX3_turn_162 (lv_at hl 2 rfl) ?_
        refine lv_lload_n hx hb dX3_turn_164 rfl (lv_at hl 6 rfl) ?_
        refine lv_lmul hx hb dX3_turn_165 ?_
        refine lv_lload hx hb dX3_turn_166 (lv_at hl 10 rfl) ?_
        refine lv_lload hx hb dX3_turn_168 (lv_at hl 1 rfl) ?_
        refine lv_lmul hx hb dX3_turn_170 ?_
        refine lv_lsub hx hb dX3_turn_171 ?_
        refine lv_iload hx hb dX3_turn_172 (lv_at hl 7 rfl) ?_
        obtain ⟨q9, hc10, ho⟩ := bd_some ho
        refine bkJ C0.1 hW (runSX (As := [.long q7, .long ((x4 * v3) - (v9 * x6)), .int v5]) (rest := [.int ((v8 * (gI t 307)) + v11), .ref (am 303)]) C0 hW (c_x3_shifted l _ t q7 ((x4 * v3) - (v9 * x6)) v5 (r := q9) hc10) cb_X3_X3_shifted_112 rfl rfl ⟨rfl, rfl⟩ ⟨Nat.le_of_ble_eq_true rfl, Nat.le_of_ble_eq_true rfl⟩ (Nat.le_of_ble_eq_true rfl) hl.1 dX3_turn_174 ⟨Nat.le_of_ble_eq_true rfl, Nat.le_of_ble_eq_true rfl⟩) (fun H locs hW => ?_)
        refine lv_lload hx hb dX3_turn_177 (lv_at hl 8 rfl) ?_
        refine lv_lmul hx hb dX3_turn_179 ?_
        obtain ⟨g11, ho⟩ := gd_some ho
        refine xST_303 C0 hW g11 dX3_turn_180 (fun H locs hW => ?_)
        obtain ⟨t12, ho, hW⟩ := nm_w (P := fun t => wl D A s (wX cI cJ cZ cR am gm t) H locs) ho hW
        obtain ⟨x13, ex13, ho⟩ := nm_x ho
        refine lv_iinc (v := x13) (lv' := [(11, .int x13), (16, .long q7), (14, .long x6), (12, .long x4), (0, .ref (am 1003)), (1, .int v1), (2, .int v2), (3, .long v3), (5, .int v5), (6, .long v6), (8, .int v8), (9, .long v9)]) hx hb dX3_turn_181 hl (k := 11) rfl (by rw [ex13]; rfl) (by decide) rfl (fun ls hl => ?_)
        clear ex13
        refine lv_goto (tgt := 83) hx hb dX3_turn_184 (by decide) ?_
        cases ho
        exact ih _ _ hrun _ _ _ hW (lv_sub hl [4, 5, 6, 7, 8, 9, 10, 11, 0] rfl)
      · replace ho := ite_t c2 ho
        refine lv_goto (tgt := 181) hx hb dX3_turn_98 (by decide) ?_
        obtain ⟨x14, ex14, ho⟩ := nm_x ho
        refine lv_iinc (v := x14) (lv' := [(11, .int x14), (0, .ref (am 1003)), (1, .int v1), (2, .int v2), (3, .long v3), (5, .int v5), (6, .long v6), (8, .int v8), (9, .long v9)]) hx hb dX3_turn_181 hl (k := 8) rfl (by rw [ex14]; rfl) (by decide) rfl (fun ls hl => ?_)
        clear ex14
        refine lv_goto (tgt := 83) hx hb dX3_turn_184 (by decide) ?_
        cases ho
        exact ih _ _ hrun _ _ _ hW (lv_sub hl [1, 2, 3, 4, 5, 6, 7, 8, 0] rfl)
set_option maxHeartbeats 4000000 in
set_option maxRecDepth 100000 in
theorem x3_turn_L46 {p : Program} {l : Launch} {e : Env} {s : State} {m : MethodId} {args : Array Value} {below : List Frame} {meth : Method} {c : Code} {Q : State → Prop} {D : va_G} {cI cJ cZ cR : ClassId} {am gm : Nat → Nat} {st : Nat} {A : Nat → Prop} (C0 : cxX p s m args meth c cX3_turn RX3 18 none D (tyX cI cJ cZ cR) st A) {v1 : Int32} {v2 : Int32} {v3 : Int64} {v5 : Int32} {v6 : Int64} {y : St} (hK0 : ∀ (H : Heap) (locs : List Loc) (ls : Array Slot), wl D A s (wX cI cJ cZ cR am gm y) H locs → lv_has ls 18 [(0, .ref (am 1003)), (1, .int v1), (2, .int v2), (3, .long v3)] → W p l e (rmN 2 59) s m args below meth c H locs 0 0 Q (F0 m 210 ls [])) :
    ∀ (n : Nat) (v8 : Int32) (t : St), lpn (fun x => x3_turn_B46 v1 v2 v3 v5 v6 x.1 x.2) n (v8, t) = some y → ∀ (H : Heap) (locs : List Loc) (ls : Array Slot), wl D A s (wX cI cJ cZ cR am gm t) H locs → lv_has ls 18 [(0, .ref (am 1003)), (1, .int v1), (2, .int v2), (3, .long v3), (5, .int v5), (6, .long v6), (8, .int v8)] → W p l e (rmN 2 59) s m args below meth c H locs 0 0 Q (F0 m 46 ls []) := by
  have hx := C0.1.1
  have hb := C0.1.2.1
  have hta := C0.1.2.2.2.2.2.1
  have hown := C0.1.2.2.2.2.1
  intro n
  induction n with
  | zero => intro _ _ h; cases h
  | succ n ih =>
    intro v8 t hrun H locs ls hW hl
    obtain ⟨o, ho, hrun⟩ := bd_some hrun
    unfold x3_turn_B46 at ho
    refine lv_iload hx hb dX3_turn_46 (lv_at hl 6 rfl) ?_
    refine lv_aload_n hx hb dX3_turn_48 rfl (lv_at hl 0 rfl) ?_
    refine xGET_302 C0 kw_492 hW dX3_turn_49 ?_
    refine lv_icmp_gt (tgt := 210) hx hb dX3_turn_52 (by decide) (fun c15 => ?_) (fun c15 => ?_)
    · replace ho := ite_t c15 ho
      cases ho
      cases hrun
      exact hK0 _ _ _ hW (lv_sub hl [0, 1, 2, 3] rfl)
    · replace ho := ite_f c15 ho
      refine lv_iload hx hb dX3_turn_55 (lv_at hl 6 rfl) ?_
      refine lv_iload_n hx hb dX3_turn_57 rfl (lv_at hl 1 rfl) ?_
      refine lv_icmp_ne (tgt := 64) hx hb dX3_turn_58 (by decide) (fun c16 => ?_) (fun c16 => ?_)
      · replace ho := ite_f c16 ho
        refine lv_aload_n hx hb dX3_turn_64 rfl (lv_at hl 0 rfl) ?_
        refine xGET_303 C0 kw_494 hW dX3_turn_65 ?_
        refine lv_iload hx hb dX3_turn_68 (lv_at hl 6 rfl) ?_
        refine lv_aload_n hx hb dX3_turn_70 rfl (lv_at hl 0 rfl) ?_
        refine xGET_307 C0 kw_498 hW dX3_turn_71 ?_
        refine lv_imul hx hb dX3_turn_74 ?_
        refine lv_iload_n hx hb dX3_turn_75 rfl (lv_at hl 2 rfl) ?_
        refine lv_iadd hx hb dX3_turn_76 ?_
        obtain ⟨g17, ho⟩ := gd_some ho
        refine xLD_303 C0 hW g17 dX3_turn_77 ?_
        refine lv_nml ho (fun x18 ho => ?_)
        refine lv_lstore (lv' := [(9, .long x18), (0, .ref (am 1003)), (1, .int v1), (2, .int v2), (3, .long v3), (5, .int v5), (6, .long v6), (8, .int v8)]) hx hb dX3_turn_78 hl (by decide) rfl (fun ls hl => ?_)
        refine lv_iconst (v := (0 : Int32)) hx hb dX3_turn_80 (by decide) ?_
        refine lv_istore (lv' := [(11, .int (0 : Int32)), (9, .long x18), (0, .ref (am 1003)), (1, .int v1), (2, .int v2), (3, .long v3), (5, .int v5), (6, .long v6), (8, .int v8)]) hx hb dX3_turn_81 hl (by decide) rfl (fun ls hl => ?_)
        obtain ⟨y19, hc21, ho⟩ := bd_some ho
        obtain ⟨ny19, hc21⟩ := lp_to hc21
        refine x3_turn_L83 C0 ?_ ny19 _ _ hc21 _ _ _ hW (lv_sub hl [2, 3, 4, 5, 6, 7, 8, 1, 0] rfl)
        intro H locs ls hW hl
        refine lv_aload_n hx hb dX3_turn_187 rfl (lv_at hl 0 rfl) ?_
        refine xGET_303 C0 kw_494 hW dX3_turn_188 ?_
        refine lv_iload hx hb dX3_turn_191 (lv_at hl 6 rfl) ?_
        refine lv_aload_n hx hb dX3_turn_193 rfl (lv_at hl 0 rfl) ?_
        refine xGET_307 C0 kw_498 hW dX3_turn_194 ?_
        refine lv_imul hx hb dX3_turn_197 ?_
        refine lv_iload_n hx hb dX3_turn_198 rfl (lv_at hl 2 rfl) ?_
        refine lv_iadd hx hb dX3_turn_199 ?_
        refine lv_lload hx hb dX3_turn_200 (lv_at hl 7 rfl) ?_
        refine lv_lneg hx hb dX3_turn_202 ?_
        obtain ⟨g22, ho⟩ := gd_some ho
        refine xST_303 C0 hW g22 dX3_turn_203 (fun H locs hW => ?_)
        obtain ⟨t23, ho, hW⟩ := nm_w (P := fun t => wl D A s (wX cI cJ cZ cR am gm t) H locs) ho hW
        obtain ⟨x24, ex24, ho⟩ := nm_x ho
        refine lv_iinc (v := x24) (lv' := [(8, .int x24), (0, .ref (am 1003)), (1, .int v1), (2, .int v2), (3, .long v3), (5, .int v5), (6, .long v6), (9, .long x18)]) hx hb dX3_turn_204 hl (k := 6) rfl (by rw [ex24]; rfl) (by decide) rfl (fun ls hl => ?_)
        clear ex24
        refine lv_goto (tgt := 46) hx hb dX3_turn_207 (by decide) ?_
        cases ho
        exact ih _ _ hrun _ _ _ hW (lv_sub hl [1, 2, 3, 4, 5, 6, 0] rfl)
      · replace ho := ite_t c16 ho
        refine lv_goto (tgt := 204) hx hb dX3_turn_61 (by decide) ?_
        obtain ⟨x25, ex25, ho⟩ := nm_x ho
        refine lv_iinc (v := x25) (lv' := [(8, .int x25), (0, .ref (am 1003)), (1, .int v1), (2, .int v2), (3, .long v3), (5, .int v5), (6, .long v6)]) hx hb dX3_turn_204 hl (k := 6) rfl (by rw [ex25]; rfl) (by decide) rfl (fun ls hl => ?_)
        clear ex25
        refine lv_goto (tgt := 46) hx hb dX3_turn_207 (by decide) ?_
        cases ho
        exact ih _ _ hrun _ _ _ hW (lv_sub hl [1, 2, 3, 4, 5, 6, 0] rfl)
set_option maxHeartbeats 4000000 in
set_option maxRecDepth 100000 in
theorem c_x3_turn (l : Launch) {D : va_G} {cI cJ cZ cR : ClassId} {am gm : Nat → Nat} {st : Nat} (sz : Nat) (t : St) (a1 : Int32) (a2 : Int32) {t' : St} (ho : x3_turn t a1 a2 = some t') : Met l yX3_turn (.code yX3_turn cX3_turn 18 none :: wsAll) (rmN 2 59) (va_Pc [.ref (am 1003), .int a1, .int a2] (prX D (tyX cI cJ cZ cR) (wX cI cJ cZ cR am gm t) sz st)) (qV D (tyX cI cJ cZ cR) (wX cI cJ cZ cR am gm t') (va_A (wX cI cJ cZ cR am gm t) sz)) 0 0 (va_A (wX cI cJ cZ cR am gm t) sz) := by
  refine Met.ofW (cc := cX3_turn) (maxL := 18) (ret := none) (by decide) rfl ?_
  intro p e s m args below meth c s₁ B hml hv
  obtain ⟨rfl, ⟨hsz, hP, hK, hD0⟩, hsx⟩ := hv
  have hx := B.exec
  have hb := B.bytes
  have hts := atoms_spec (ws := (.code yX3_turn cX3_turn 18 none :: wsAll)) B.pre
  have hta := fun w h => hts w (List.mem_cons_of_mem _ h)
  have hown : s.vm.findClass RX3 = some m.cls := findClass_of_methodNamed B.named
  have hlocks := B.notSynchronized
  subst hsz
  have hD := hD0.self (sz := s.heap.size)
  generalize hAe : va_A (wX cI cJ cZ cR am gm t) s.heap.size = A at hD ⊢
  have hA : ∀ q : Nat, s.heap.size ≤ q → A q := fun q h => by rw [← hAe]; exact Or.inr h
  have C0 : cxX p s m ([.ref (am 1003), .int a1, .int a2].toArray) meth c cX3_turn RX3 18 none D (tyX cI cJ cZ cR) st A := ⟨⟨hx, hb, B.returns, hml, hown, hta, hlocks, hK, hA⟩, by rw [← hAe]; exact hsx⟩
  have hW : wl D A s (wX cI cJ cZ cR am gm t) s.heap [] := ⟨hP, hD, va_S.rf⟩
  have hl := lv_entry [.ref (am 1003), .int a1, .int a2] (n := 18) (Nat.le_of_ble_eq_true rfl)
  rw [lg_entry_eq]
  generalize (lg_sl [.ref (am 1003), .int a1, .int a2] ++ List.replicate (18 - (lg_sl [.ref (am 1003), .int a1, .int a2]).length) Slot.unset).toArray = ls at hl ⊢
  have hl : lv_has ls 18 [(0, .ref (am 1003)), (1, .int a1), (2, .int a2)] := hl
  unfold x3_turn at ho
  refine lv_aload_n hx hb dX3_turn_0 rfl (lv_at hl 0 rfl) ?_
  refine xGET_303 C0 kw_494 hW dX3_turn_1 ?_
  refine lv_iload_n hx hb dX3_turn_4 rfl (lv_at hl 1 rfl) ?_
  refine lv_aload_n hx hb dX3_turn_5 rfl (lv_at hl 0 rfl) ?_
  refine xGET_307 C0 kw_498 hW dX3_turn_6 ?_
  refine lv_imul hx hb dX3_turn_9 ?_
  refine lv_iload_n hx hb dX3_turn_10 rfl (lv_at hl 2 rfl) ?_
  refine lv_iadd hx hb dX3_turn_11 ?_
  obtain ⟨g26, ho⟩ := gd_some ho
  refine xLD_303 C0 hW g26 dX3_turn_12 ?_
  refine lv_nml ho (fun x27 ho => ?_)
  refine lv_lstore_n (lv' := [(3, .long x27), (0, .ref (am 1003)), (1, .int a1), (2, .int a2)]) hx hb dX3_turn_13 rfl hl (by decide) rfl (fun ls hl => ?_)
  refine lv_aload_n hx hb dX3_turn_14 rfl (lv_at hl 1 rfl) ?_
  refine xGET_308 C0 kw_499 hW dX3_turn_15 ?_
  refine lv_aload_n hx hb dX3_turn_18 rfl (lv_at hl 1 rfl) ?_
  refine xGET_308 C0 kw_499 hW dX3_turn_19 ?_
  refine lv_lneg hx hb dX3_turn_22 ?_
  refine lv_land hx hb dX3_turn_23 ?_
  refine lv_lconst (v := (1 : Int64)) hx hb dX3_turn_24 (by decide) ?_
  refine lv_lsub hx hb dX3_turn_25 ?_
  obtain ⟨q28, hc29, ho⟩ := bd_some ho
  refine bkI C0.1 hW (runSX (As := [.long (((gJ t 308) &&& (-(gJ t 308))) - (1 : Int64))]) (rest := []) C0 hW (c_j13_bitCount_95d88 l _ t (((gJ t 308) &&& (-(gJ t 308))) - (1 : Int64)) (r := q28) hc29) cb_X3_J13_bitCount_95d88_102 rfl rfl ⟨rfl, rfl⟩ ⟨Nat.le_of_ble_eq_true rfl, Nat.le_of_ble_eq_true rfl⟩ (Nat.le_of_ble_eq_true rfl) hl.1 dX3_turn_26 ⟨Nat.le_of_ble_eq_true rfl, Nat.le_of_ble_eq_true rfl⟩) (fun H locs hW => ?_)
  refine lv_istore (lv' := [(5, .int q28), (3, .long x27), (0, .ref (am 1003)), (1, .int a1), (2, .int a2)]) hx hb dX3_turn_29 hl (by decide) rfl (fun ls hl => ?_)
  refine lv_aload_n hx hb dX3_turn_31 rfl (lv_at hl 2 rfl) ?_
  refine xGET_308 C0 kw_499 hW dX3_turn_32 ?_
  refine lv_iload hx hb dX3_turn_35 (lv_at hl 0 rfl) ?_
  refine lv_lshr hx hb dX3_turn_37 rfl ?_
  obtain ⟨q30, hc31, ho⟩ := bd_some ho
  refine bkJ C0.1 hW (runSX (As := [.long (((gJ t 308) >>> ((q28).toInt64 &&& 63)))]) (rest := []) C0 hW (c_x3_inverseOf l _ t (((gJ t 308) >>> ((q28).toInt64 &&& 63))) (r := q30) hc31) cb_X3_X3_inverseOf_108 rfl rfl ⟨rfl, rfl⟩ ⟨Nat.le_of_ble_eq_true rfl, Nat.le_of_ble_eq_true rfl⟩ (Nat.le_of_ble_eq_true rfl) hl.1 dX3_turn_38 ⟨Nat.le_of_ble_eq_true rfl, Nat.le_of_ble_eq_true rfl⟩) (fun H locs hW => ?_)
  refine lv_lstore (lv' := [(6, .long q30), (5, .int q28), (3, .long x27), (0, .ref (am 1003)), (1, .int a1), (2, .int a2)]) hx hb dX3_turn_41 hl (by decide) rfl (fun ls hl => ?_)
  refine lv_iconst (v := (0 : Int32)) hx hb dX3_turn_43 (by decide) ?_
  refine lv_istore (lv' := [(8, .int (0 : Int32)), (6, .long q30), (5, .int q28), (3, .long x27), (0, .ref (am 1003)), (1, .int a1), (2, .int a2)]) hx hb dX3_turn_44 hl (by decide) rfl (fun ls hl => ?_)
  obtain ⟨y32, hc34, ho⟩ := bd_some ho
  obtain ⟨ny32, hc34⟩ := lp_to hc34
  refine x3_turn_L46 C0 ?_ ny32 _ _ hc34 _ _ _ hW (lv_sub hl [4, 5, 6, 3, 2, 1, 0] rfl)
  intro H locs ls hW hl
  refine lv_aload_n hx hb dX3_turn_210 rfl (lv_at hl 0 rfl) ?_
  refine xGET_303 C0 kw_494 hW dX3_turn_211 ?_
  refine lv_iload_n hx hb dX3_turn_214 rfl (lv_at hl 1 rfl) ?_
  refine lv_aload_n hx hb dX3_turn_215 rfl (lv_at hl 0 rfl) ?_
  refine xGET_307 C0 kw_498 hW dX3_turn_216 ?_
  refine lv_imul hx hb dX3_turn_219 ?_
  refine lv_iload_n hx hb dX3_turn_220 rfl (lv_at hl 2 rfl) ?_
  refine lv_iadd hx hb dX3_turn_221 ?_
  refine lv_aload_n hx hb dX3_turn_222 rfl (lv_at hl 0 rfl) ?_
  refine xGET_308 C0 kw_499 hW dX3_turn_223 ?_
  obtain ⟨g35, ho⟩ := gd_some ho
  refine xST_303 C0 hW g35 dX3_turn_226 (fun H locs hW => ?_)
  obtain ⟨t36, ho, hW⟩ := nm_w (P := fun t => wl D A s (wX cI cJ cZ cR am gm t) H locs) ho hW
  refine lv_aload_n hx hb dX3_turn_227 rfl (lv_at hl 0 rfl) ?_
  refine lv_lload_n hx hb dX3_turn_228 rfl (lv_at hl 3 rfl) ?_
  refine xPUT_308 C0 kw_499 hW dX3_turn_229 (fun H locs hW => ?_)
  obtain ⟨t37, ho, hW⟩ := nm_w (P := fun t => wl D A s (wX cI cJ cZ cR am gm t) H locs) ho hW
  refine lv_aload_n hx hb dX3_turn_232 rfl (lv_at hl 0 rfl) ?_
  refine xGET_304 C0 kw_495 hW dX3_turn_233 ?_
  refine lv_iload_n hx hb dX3_turn_236 rfl (lv_at hl 1 rfl) ?_
  obtain ⟨g38, ho⟩ := gd_some ho
  refine xLD_304 C0 hW g38 dX3_turn_237 ?_
  refine lv_nmi ho (fun x39 ho => ?_)
  refine lv_istore (lv' := [(8, .int x39), (0, .ref (am 1003)), (1, .int a1), (2, .int a2), (3, .long x27)]) hx hb dX3_turn_238 hl (by decide) rfl (fun ls hl => ?_)
  refine lv_aload_n hx hb dX3_turn_240 rfl (lv_at hl 1 rfl) ?_
  refine xGET_304 C0 kw_495 hW dX3_turn_241 ?_
  refine lv_iload_n hx hb dX3_turn_244 rfl (lv_at hl 2 rfl) ?_
  refine lv_aload_n hx hb dX3_turn_245 rfl (lv_at hl 1 rfl) ?_
  refine xGET_305 C0 kw_496 hW dX3_turn_246 ?_
  refine lv_iload_n hx hb dX3_turn_249 rfl (lv_at hl 3 rfl) ?_
  obtain ⟨g40, ho⟩ := gd_some ho
  refine xLD_305 C0 hW g40 dX3_turn_250 ?_
  obtain ⟨g41, ho⟩ := gd_some ho
  refine xST_304 C0 hW g41 dX3_turn_251 (fun H locs hW => ?_)
  obtain ⟨t42, ho, hW⟩ := nm_w (P := fun t => wl D A s (wX cI cJ cZ cR am gm t) H locs) ho hW
  refine lv_aload_n hx hb dX3_turn_252 rfl (lv_at hl 1 rfl) ?_
  refine xGET_305 C0 kw_496 hW dX3_turn_253 ?_
  refine lv_iload_n hx hb dX3_turn_256 rfl (lv_at hl 3 rfl) ?_
  refine lv_iload hx hb dX3_turn_257 (lv_at hl 0 rfl) ?_
  obtain ⟨g43, ho⟩ := gd_some ho
  refine xST_305 C0 hW g43 dX3_turn_259 (fun H locs hW => ?_)
  obtain ⟨t44, ho, hW⟩ := nm_w (P := fun t => wl D A s (wX cI cJ cZ cR am gm t) H locs) ho hW
  cases ho
  exact rtV C0.1 hW dX3_turn_260
noncomputable def x3_play_B6 (v1 : Int32) (t : St) : Option ((Int32 × St) ⊕ ((St) ⊕ (St) ⊕ (St))) :=
  if (1000000 : Int32) ≤ v1 then (some (.inr (.inr (.inr t)))) else ((x3_enteringColumn t).bind (fun q2 => if 0 ≤ q2 then ((x3_leavingRow t q2).bind (fun q5 => if 0 ≤ q5 then ((x3_turn t q5 q2).bind (fun q8 => nm (v1 + (1 : Int32)) (fun x10 : Int32 => some (.inl (x10, q8))))) else (some (.inr (.inr (.inl t)))))) else (some (.inr (.inl t)))))
theorem mm_x3_play_B6 (v1 : Int32) (t : St) : MR (x3_play_B6 v1 t) t (Sum.elim (fun (x : Int32 × St) => x.2) (Sum.elim (fun (y : St) => y) (Sum.elim (fun (y : St) => y) (fun (y : St) => y)))) := by
  unfold x3_play_B6
  exact MR_ite (MR_some mle.rfl) (MR_bindn (fun q2 => MR_ite (MR_bindn (fun q5 => MR_ite (MR_bind (mm_x3_turn t q5 q2) (fun q8 hq8 => MR_nm (fun x10 _ => MR_some hq8))) (MR_some mle.rfl))) (MR_some mle.rfl)))
theorem mm_x3_play_L6 (v1 : Int32) (t : St) : MR (lp (fun x => x3_play_B6 x.1 x.2) (v1, t)) t (Sum.elim (fun (y : St) => y) (Sum.elim (fun (y : St) => y) (fun (y : St) => y))) := MR_lp (p := (fun (x : Int32 × St) => x.2)) (q := (Sum.elim (fun (y : St) => y) (Sum.elim (fun (y : St) => y) (fun (y : St) => y)))) (fun x => mm_x3_play_B6 x.1 x.2) (v1, t)
noncomputable def x3_play_J101 (t : St) (w1 : Int64) : Option (St) :=
  nm (sJ t 310 w1) (fun t11 : St => some t11)
theorem mm_x3_play_J101 (t : St) (w1 : Int64) : MR (x3_play_J101 t w1) t (fun (a : St) => a) := by
  unfold x3_play_J101
  exact MR_nmS mle_sJ (fun t11 ht11 => MR_some ht11)
noncomputable def x3_play_J86 (t : St) (v1 : Int64) (w1 : Int64) : Option (St) :=
  nm (sJ t 309 w1) (fun t12 : St => if (lg_cmp v1 (0 : Int64)) ≤ 0 then (x3_play_J101 t12 (1 : Int64)) else (x3_play_J101 t12 v1))
theorem mm_x3_play_J86 (t : St) (v1 : Int64) (w1 : Int64) : MR (x3_play_J86 t v1 w1) t (fun (a : St) => a) := by
  unfold x3_play_J86
  exact MR_nmS mle_sJ (fun t12 ht12 => MR_ite (MR_wk ht12 (mm_x3_play_J101 t12 (1 : Int64))) (MR_wk ht12 (mm_x3_play_J101 t12 v1)))
noncomputable def x3_play_J49 (t : St) : Option (St) :=
  gd (((gI t 302) * (gI t 307)) + (gI t 306)) (gN t 303) (nm (gB t 303 ((((gI t 302) * (gI t 307)) + (gI t 306))).toNatClampNeg) (fun x15 : Int64 => if (lg_cmp x15 (0 : Int64)) ≤ 0 then (x3_play_J86 t x15 (0 : Int64)) else (x3_play_J86 t x15 ((gJ t 308) - x15))))
theorem mm_x3_play_J49 (t : St) : MR (x3_play_J49 t) t (fun (a : St) => a) := by
  unfold x3_play_J49
  exact MR_gd (MR_nm (fun x15 _ => MR_ite (MR_wk mle.rfl (mm_x3_play_J86 t x15 (0 : Int64))) (MR_wk mle.rfl (mm_x3_play_J86 t x15 ((gJ t 308) - x15)))))
noncomputable def x3_play (t : St) : Option (St) :=
  (x3_layOut t).bind (fun q17 => (lp (fun x => x3_play_B6 x.1 x.2) ((0 : Int32), q17)).bind (fun y19 => (Sum.elim (fun u22 => x3_play_J49 u22) (Sum.elim (fun u22 => x3_play_J49 u22) (fun u22 => x3_play_J49 u22))) y19))
theorem mm_x3_play (t : St) : MR (x3_play t) t (fun (a : St) => a) := by
  unfold x3_play
  exact MR_bind (mm_x3_layOut t) (fun q17 hq17 => MR_bind (mm_x3_play_L6 (0 : Int32) q17) (fun y19 hm20 => (MR_sum y19 hm20 (fun u22 hm20 => MR_wk (mle.trans hq17 hm20) (mm_x3_play_J49 u22)) (fun u23 hm20 => (MR_sum u23 hm20 (fun u22 hm20 => MR_wk (mle.trans hq17 hm20) (mm_x3_play_J49 u22)) (fun u22 hm20 => MR_wk (mle.trans hq17 hm20) (mm_x3_play_J49 u22)))))))
set_option maxHeartbeats 4000000 in
set_option maxRecDepth 100000 in
theorem x3_play_L6 {p : Program} {l : Launch} {e : Env} {s : State} {m : MethodId} {args : Array Value} {below : List Frame} {meth : Method} {c : Code} {Q : State → Prop} {D : va_G} {cI cJ cZ cR : ClassId} {am gm : Nat → Nat} {st : Nat} {A : Nat → Prop} (C0 : cxX p s m args meth c cX3_play RX3 4 none D (tyX cI cJ cZ cR) st A) {y : (St) ⊕ (St) ⊕ (St)} (hK0 : ∀ u, y = (.inl u) → ∀ (H : Heap) (locs : List Loc) (ls : Array Slot), wl D A s (wX cI cJ cZ cR am gm u) H locs → lv_has ls 4 [(0, .ref (am 1003))] → W p l e (rmN 4 115) s m args below meth c H locs 0 0 Q (F0 m 21 ls [])) (hK1 : ∀ u, y = (.inr (.inl u)) → ∀ (H : Heap) (locs : List Loc) (ls : Array Slot), wl D A s (wX cI cJ cZ cR am gm u) H locs → lv_has ls 4 [(0, .ref (am 1003))] → W p l e (rmN 4 115) s m args below meth c H locs 0 0 Q (F0 m 34 ls [])) (hK2 : ∀ u, y = (.inr (.inr u)) → ∀ (H : Heap) (locs : List Loc) (ls : Array Slot), wl D A s (wX cI cJ cZ cR am gm u) H locs → lv_has ls 4 [(0, .ref (am 1003))] → W p l e (rmN 4 115) s m args below meth c H locs 0 0 Q (F0 m 49 ls [])) :
    ∀ (n : Nat) (v1 : Int32) (t : St), lpn (fun x => x3_play_B6 x.1 x.2) n (v1, t) = some y → ∀ (H : Heap) (locs : List Loc) (ls : Array Slot), wl D A s (wX cI cJ cZ cR am gm t) H locs → lv_has ls 4 [(0, .ref (am 1003)), (1, .int v1)] → W p l e (rmN 4 115) s m args below meth c H locs 0 0 Q (F0 m 6 ls []) := by
  have hx := C0.1.1
  have hb := C0.1.2.1
  have hta := C0.1.2.2.2.2.2.1
  have hown := C0.1.2.2.2.2.1
  intro n
  induction n with
  | zero => intro _ _ h; cases h
  | succ n ih =>
    intro v1 t hrun H locs ls hW hl
    obtain ⟨o, ho, hrun⟩ := bd_some hrun
    unfold x3_play_B6 at ho
    refine lv_iload_n hx hb dX3_play_6 rfl (lv_at hl 1 rfl) ?_
    refine lv_ldc hx hb hown (hta _ kw_1183) dX3_play_7 ?_
    refine lv_icmp_ge (tgt := 49) hx hb dX3_play_9 (by decide) (fun c1 => ?_) (fun c1 => ?_)
    · replace ho := ite_t c1 ho
      cases ho
      cases hrun
      exact hK2 _ rfl _ _ _ hW (lv_sub hl [0] rfl)
    · replace ho := ite_f c1 ho
      refine lv_aload_n hx hb dX3_play_12 rfl (lv_at hl 0 rfl) ?_
      obtain ⟨q2, hc3, ho⟩ := bd_some ho
      refine bkI C0.1 hW (runVX (As := []) (rest := []) C0 hW (c_x3_enteringColumn l _ t (r := q2) hc3) cb_X3_X3_enteringColumn_59 3 3 rfl rfl rfl rfl rfl ⟨rfl, rfl⟩ ⟨Nat.le_of_ble_eq_true rfl, Nat.le_of_ble_eq_true rfl⟩ (Nat.le_of_ble_eq_true rfl) hl.1 dX3_play_13 ⟨Nat.le_of_ble_eq_true rfl, Nat.le_of_ble_eq_true rfl⟩) (fun H locs hW => ?_)
      refine lv_istore_n (lv' := [(2, .int q2), (0, .ref (am 1003)), (1, .int v1)]) hx hb dX3_play_16 rfl hl (by decide) rfl (fun ls hl => ?_)
      refine lv_iload_n hx hb dX3_play_17 rfl (lv_at hl 0 rfl) ?_
      refine lv_if_ge (tgt := 24) hx hb dX3_play_18 (by decide) (fun c4 => ?_) (fun c4 => ?_)
      · replace ho := ite_t c4 ho
        refine lv_aload_n hx hb dX3_play_24 rfl (lv_at hl 1 rfl) ?_
        refine lv_iload_n hx hb dX3_play_25 rfl (lv_at hl 0 rfl) ?_
        obtain ⟨q5, hc6, ho⟩ := bd_some ho
        refine bkI C0.1 hW (runVX (As := [.int q2]) (rest := []) C0 hW (c_x3_leavingRow l _ t q2 (r := q5) hc6) cb_X3_X3_leavingRow_63 3 3 rfl rfl rfl rfl rfl ⟨rfl, rfl⟩ ⟨Nat.le_of_ble_eq_true rfl, Nat.le_of_ble_eq_true rfl⟩ (Nat.le_of_ble_eq_true rfl) hl.1 dX3_play_26 ⟨Nat.le_of_ble_eq_true rfl, Nat.le_of_ble_eq_true rfl⟩) (fun H locs hW => ?_)
        refine lv_istore_n (lv' := [(3, .int q5), (2, .int q2), (0, .ref (am 1003)), (1, .int v1)]) hx hb dX3_play_29 rfl hl (by decide) rfl (fun ls hl => ?_)
        refine lv_iload_n hx hb dX3_play_30 rfl (lv_at hl 0 rfl) ?_
        refine lv_if_ge (tgt := 37) hx hb dX3_play_31 (by decide) (fun c7 => ?_) (fun c7 => ?_)
        · replace ho := ite_t c7 ho
          refine lv_aload_n hx hb dX3_play_37 rfl (lv_at hl 2 rfl) ?_
          refine lv_iload_n hx hb dX3_play_38 rfl (lv_at hl 0 rfl) ?_
          refine lv_iload_n hx hb dX3_play_39 rfl (lv_at hl 1 rfl) ?_
          obtain ⟨q8, hc9, ho⟩ := bd_some ho
          refine bkV C0.1 hW (runVX (As := [.int q5, .int q2]) (rest := []) C0 hW (c_x3_turn l _ t q5 q2 (t' := q8) hc9) cb_X3_X3_turn_67 3 3 rfl rfl rfl rfl rfl ⟨rfl, rfl⟩ ⟨Nat.le_of_ble_eq_true rfl, Nat.le_of_ble_eq_true rfl⟩ (Nat.le_of_ble_eq_true rfl) hl.1 dX3_play_40 ⟨Nat.le_of_ble_eq_true rfl, Nat.le_of_ble_eq_true rfl⟩) (fun H locs hW => ?_)
          obtain ⟨x10, ex10, ho⟩ := nm_x ho
          refine lv_iinc (v := x10) (lv' := [(1, .int x10), (3, .int q5), (2, .int q2), (0, .ref (am 1003))]) hx hb dX3_play_43 hl (k := 3) rfl (by rw [ex10]; rfl) (by decide) rfl (fun ls hl => ?_)
          clear ex10
          refine lv_goto (tgt := 6) hx hb dX3_play_46 (by decide) ?_
          cases ho
          exact ih _ _ hrun _ _ _ hW (lv_sub hl [3, 0] rfl)
        · replace ho := ite_f c7 ho
          cases ho
          cases hrun
          exact hK1 _ rfl _ _ _ hW (lv_sub hl [2] rfl)
      · replace ho := ite_f c4 ho
        cases ho
        cases hrun
        exact hK0 _ rfl _ _ _ hW (lv_sub hl [1] rfl)
set_option maxHeartbeats 4000000 in
set_option maxRecDepth 100000 in
theorem c_x3_play (l : Launch) {D : va_G} {cI cJ cZ cR : ClassId} {am gm : Nat → Nat} {st : Nat} (sz : Nat) (t : St) {t' : St} (ho : x3_play t = some t') : Met l yX3_play (.code yX3_play cX3_play 4 none :: wsAll) (rmN 4 115) (va_Pc [.ref (am 1003)] (prX D (tyX cI cJ cZ cR) (wX cI cJ cZ cR am gm t) sz st)) (qV D (tyX cI cJ cZ cR) (wX cI cJ cZ cR am gm t') (va_A (wX cI cJ cZ cR am gm t) sz)) 0 0 (va_A (wX cI cJ cZ cR am gm t) sz) := by
  refine Met.ofW (cc := cX3_play) (maxL := 4) (ret := none) (by decide) rfl ?_
  intro p e s m args below meth c s₁ B hml hv
  obtain ⟨rfl, ⟨hsz, hP, hK, hD0⟩, hsx⟩ := hv
  have hx := B.exec
  have hb := B.bytes
  have hts := atoms_spec (ws := (.code yX3_play cX3_play 4 none :: wsAll)) B.pre
  have hta := fun w h => hts w (List.mem_cons_of_mem _ h)
  have hown : s.vm.findClass RX3 = some m.cls := findClass_of_methodNamed B.named
  have hlocks := B.notSynchronized
  subst hsz
  have hD := hD0.self (sz := s.heap.size)
  generalize hAe : va_A (wX cI cJ cZ cR am gm t) s.heap.size = A at hD ⊢
  have hA : ∀ q : Nat, s.heap.size ≤ q → A q := fun q h => by rw [← hAe]; exact Or.inr h
  have C0 : cxX p s m ([.ref (am 1003)].toArray) meth c cX3_play RX3 4 none D (tyX cI cJ cZ cR) st A := ⟨⟨hx, hb, B.returns, hml, hown, hta, hlocks, hK, hA⟩, by rw [← hAe]; exact hsx⟩
  have hW : wl D A s (wX cI cJ cZ cR am gm t) s.heap [] := ⟨hP, hD, va_S.rf⟩
  have hl := lv_entry [.ref (am 1003)] (n := 4) (Nat.le_of_ble_eq_true rfl)
  rw [lg_entry_eq]
  generalize (lg_sl [.ref (am 1003)] ++ List.replicate (4 - (lg_sl [.ref (am 1003)]).length) Slot.unset).toArray = ls at hl ⊢
  have hl : lv_has ls 4 [(0, .ref (am 1003))] := hl
  clear hAe hD hP hD0 hts
  have J101 : ∀ (t : St) (w1 : Int64) (_ : x3_play_J101 t w1 = some t') (H : Heap) (locs : List Loc) (ls : Array Slot), wl D A s (wX cI cJ cZ cR am gm t) H locs → lv_has ls 4 [(0, .ref (am 1003))] → W p l e (rmN 4 115) s m ([.ref (am 1003)].toArray) below meth c H locs 0 0 (MQ below (qV D (tyX cI cJ cZ cR) (wX cI cJ cZ cR am gm t') A) ([.ref (am 1003)].toArray) s 0 0 A) (F0 m 101 ls [.long w1, .ref (am 1003)]) := by
    intro t w1 ho H locs ls hW hl
    unfold x3_play_J101 at ho
    refine xPUT_310 C0 kw_502 hW dX3_play_101 (fun H locs hW => ?_)
    obtain ⟨t11, ho, hW⟩ := nm_w (P := fun t => wl D A s (wX cI cJ cZ cR am gm t) H locs) ho hW
    cases ho
    exact rtV C0.1 hW dX3_play_104
  have J86 : ∀ (t : St) (v1 : Int64) (w1 : Int64) (_ : x3_play_J86 t v1 w1 = some t') (H : Heap) (locs : List Loc) (ls : Array Slot), wl D A s (wX cI cJ cZ cR am gm t) H locs → lv_has ls 4 [(0, .ref (am 1003)), (1, .long v1)] → W p l e (rmN 4 115) s m ([.ref (am 1003)].toArray) below meth c H locs 0 0 (MQ below (qV D (tyX cI cJ cZ cR) (wX cI cJ cZ cR am gm t') A) ([.ref (am 1003)].toArray) s 0 0 A) (F0 m 86 ls [.long w1, .ref (am 1003)]) := by
    intro t v1 w1 ho H locs ls hW hl
    unfold x3_play_J86 at ho
    refine xPUT_309 C0 kw_500 hW dX3_play_86 (fun H locs hW => ?_)
    obtain ⟨t12, ho, hW⟩ := nm_w (P := fun t => wl D A s (wX cI cJ cZ cR am gm t) H locs) ho hW
    refine lv_aload_n hx hb dX3_play_89 rfl (lv_at hl 0 rfl) ?_
    refine lv_lload_n hx hb dX3_play_90 rfl (lv_at hl 1 rfl) ?_
    refine lv_lconst (v := (0 : Int64)) hx hb dX3_play_91 (by decide) ?_
    refine W.lcmp hx hb dX3_play_92 ?_
    refine lv_if_le (tgt := 100) hx hb dX3_play_93 (by decide) (fun c13 => ?_) (fun c13 => ?_)
    · replace ho := ite_t c13 ho
      refine lv_lconst (v := (1 : Int64)) hx hb dX3_play_100 (by decide) ?_
      exact J101 _ _ ho _ _ _ hW (lv_sub hl [0] rfl)
    · replace ho := ite_f c13 ho
      refine lv_lload_n hx hb dX3_play_96 rfl (lv_at hl 1 rfl) ?_
      refine lv_goto (tgt := 101) hx hb dX3_play_97 (by decide) ?_
      exact J101 _ _ ho _ _ _ hW (lv_sub hl [0] rfl)
  have J49 : ∀ (t : St) (_ : x3_play_J49 t = some t') (H : Heap) (locs : List Loc) (ls : Array Slot), wl D A s (wX cI cJ cZ cR am gm t) H locs → lv_has ls 4 [(0, .ref (am 1003))] → W p l e (rmN 4 115) s m ([.ref (am 1003)].toArray) below meth c H locs 0 0 (MQ below (qV D (tyX cI cJ cZ cR) (wX cI cJ cZ cR am gm t') A) ([.ref (am 1003)].toArray) s 0 0 A) (F0 m 49 ls []) := by
    intro t ho H locs ls hW hl
    unfold x3_play_J49 at ho
    refine lv_aload_n hx hb dX3_play_49 rfl (lv_at hl 0 rfl) ?_
    refine xGET_303 C0 kw_494 hW dX3_play_50 ?_
    refine lv_aload_n hx hb dX3_play_53 rfl (lv_at hl 0 rfl) ?_
    refine xGET_302 C0 kw_492 hW dX3_play_54 ?_
    refine lv_aload_n hx hb dX3_play_57 rfl (lv_at hl 0 rfl) ?_
    refine xGET_307 C0 kw_498 hW dX3_play_58 ?_
    refine lv_imul hx hb dX3_play_61 ?_
    refine lv_aload_n hx hb dX3_play_62 rfl (lv_at hl 0 rfl) ?_
    refine xGET_306 C0 kw_497 hW dX3_play_63 ?_
    refine lv_iadd hx hb dX3_play_66 ?_
    obtain ⟨g14, ho⟩ := gd_some ho
    refine xLD_303 C0 hW g14 dX3_play_67 ?_
    refine lv_nml ho (fun x15 ho => ?_)
    refine lv_lstore_n (lv' := [(1, .long x15), (0, .ref (am 1003))]) hx hb dX3_play_68 rfl hl (by decide) rfl (fun ls hl => ?_)
    refine lv_aload_n hx hb dX3_play_69 rfl (lv_at hl 1 rfl) ?_
    refine lv_lload_n hx hb dX3_play_70 rfl (lv_at hl 0 rfl) ?_
    refine lv_lconst (v := (0 : Int64)) hx hb dX3_play_71 (by decide) ?_
    refine W.lcmp hx hb dX3_play_72 ?_
    refine lv_if_le (tgt := 85) hx hb dX3_play_73 (by decide) (fun c16 => ?_) (fun c16 => ?_)
    · replace ho := ite_t c16 ho
      refine lv_lconst (v := (0 : Int64)) hx hb dX3_play_85 (by decide) ?_
      exact J86 _ _ _ ho _ _ _ hW (lv_sub hl [1, 0] rfl)
    · replace ho := ite_f c16 ho
      refine lv_aload_n hx hb dX3_play_76 rfl (lv_at hl 1 rfl) ?_
      refine xGET_308 C0 kw_499 hW dX3_play_77 ?_
      refine lv_lload_n hx hb dX3_play_80 rfl (lv_at hl 0 rfl) ?_
      refine lv_lsub hx hb dX3_play_81 ?_
      refine lv_goto (tgt := 86) hx hb dX3_play_82 (by decide) ?_
      exact J86 _ _ _ ho _ _ _ hW (lv_sub hl [1, 0] rfl)
  unfold x3_play at ho
  refine lv_aload_n hx hb dX3_play_0 rfl (lv_at hl 0 rfl) ?_
  obtain ⟨q17, hc18, ho⟩ := bd_some ho
  refine bkV C0.1 hW (runVX (As := []) (rest := []) C0 hW (c_x3_layOut l _ t (t' := q17) hc18) cb_X3_X3_layOut_55 3 3 rfl rfl rfl rfl rfl ⟨rfl, rfl⟩ ⟨Nat.le_of_ble_eq_true rfl, Nat.le_of_ble_eq_true rfl⟩ (Nat.le_of_ble_eq_true rfl) hl.1 dX3_play_1 ⟨Nat.le_of_ble_eq_true rfl, Nat.le_of_ble_eq_true rfl⟩) (fun H locs hW => ?_)
  refine lv_iconst (v := (0 : Int32)) hx hb dX3_play_4 (by decide) ?_
  refine lv_istore_n (lv' := [(1, .int (0 : Int32)), (0, .ref (am 1003))]) hx hb dX3_play_5 rfl hl (by decide) rfl (fun ls hl => ?_)
  obtain ⟨y19, hc21, ho⟩ := bd_some ho
  obtain ⟨ny19, hc21⟩ := lp_to hc21
  refine x3_play_L6 C0 ?_ ?_ ?_ ny19 _ _ hc21 _ _ _ hW (lv_sub hl [1, 0] rfl)
  · intro u22 hy H locs ls hW hl
    subst hy
    replace ho := sum_l ho
    refine lv_goto (tgt := 49) hx hb dX3_play_21 (by decide) ?_
    exact J49 _ ho _ _ _ hW (lv_sub hl [0] rfl)
  · intro u22 hy H locs ls hW hl
    subst hy
    replace ho := sum_r ho
    replace ho := sum_l ho
    refine lv_goto (tgt := 49) hx hb dX3_play_34 (by decide) ?_
    exact J49 _ ho _ _ _ hW (lv_sub hl [0] rfl)
  · intro u22 hy H locs ls hW hl
    subst hy
    replace ho := sum_r ho
    replace ho := sum_r ho
    exact J49 _ ho _ _ _ hW (lv_sub hl [0] rfl)
noncomputable def x2_commonDivisor_B3 (t : St) (v0 : Int64) (v2 : Int64) (v4 : Int32) : Option ((Int64 × Int64 × Int32) ⊕ (Int64)) :=
  if (100 : Int32) ≤ v4 then (some (.inr v0)) else (if (lg_cmp v2 (0 : Int64)) = 0 then (some (.inr v0)) else (dvl v2 (nm (v0 - v0 / v2 * v2) (fun x4 : Int64 => nm (v4 + (1 : Int32)) (fun x5 : Int32 => some (.inl (v2, x4, x5)))))))
noncomputable def x2_commonDivisor (t : St) (a0 : Int64) (a2 : Int64) : Option (Int64) :=
  (lp (fun x => x2_commonDivisor_B3 t x.1 x.2.1 x.2.2) (a0, a2, (0 : Int32))).bind (fun y6 => some y6)
set_option maxHeartbeats 4000000 in
set_option maxRecDepth 100000 in
theorem x2_commonDivisor_L3 {p : Program} {l : Launch} {e : Env} {s : State} {m : MethodId} {args : Array Value} {below : List Frame} {meth : Method} {c : Code} {Q : State → Prop} {D : va_G} {cI cJ cZ cR : ClassId} {am gm : Nat → Nat} {st : Nat} {A : Nat → Prop} (C0 : cxX p s m args meth c cX2_commonDivisor RX2 7 (some .long) D (tyX cI cJ cZ cR) st A) {t : St} {y : Int64} (hK0 : ∀ (H : Heap) (locs : List Loc) (ls : Array Slot), wl D A s (wX cI cJ cZ cR am gm t) H locs → lv_has ls 7 [(0, .long y)] → W p l e (rmN 0 0) s m args below meth c H locs 0 0 Q (F0 m 32 ls [])) :
    ∀ (n : Nat) (v0 : Int64) (v2 : Int64) (v4 : Int32), lpn (fun x => x2_commonDivisor_B3 t x.1 x.2.1 x.2.2) n (v0, v2, v4) = some y → ∀ (H : Heap) (locs : List Loc) (ls : Array Slot), wl D A s (wX cI cJ cZ cR am gm t) H locs → lv_has ls 7 [(0, .long v0), (2, .long v2), (4, .int v4)] → W p l e (rmN 0 0) s m args below meth c H locs 0 0 Q (F0 m 3 ls []) := by
  have hx := C0.1.1
  have hb := C0.1.2.1
  have hta := C0.1.2.2.2.2.2.1
  have hown := C0.1.2.2.2.2.1
  intro n
  induction n with
  | zero => intro _ _ _ h; cases h
  | succ n ih =>
    intro v0 v2 v4 hrun H locs ls hW hl
    obtain ⟨o, ho, hrun⟩ := bd_some hrun
    unfold x2_commonDivisor_B3 at ho
    refine lv_iload hx hb dX2_commonDivisor_3 (lv_at hl 2 rfl) ?_
    refine lv_bipush (v := (100 : Int32)) hx hb dX2_commonDivisor_5 (by decide) ?_
    refine lv_icmp_ge (tgt := 32) hx hb dX2_commonDivisor_7 (by decide) (fun c1 => ?_) (fun c1 => ?_)
    · replace ho := ite_t c1 ho
      cases ho
      cases hrun
      exact hK0 _ _ _ hW (lv_sub hl [0] rfl)
    · replace ho := ite_f c1 ho
      refine lv_lload_n hx hb dX2_commonDivisor_10 rfl (lv_at hl 1 rfl) ?_
      refine lv_lconst (v := (0 : Int64)) hx hb dX2_commonDivisor_11 (by decide) ?_
      refine W.lcmp hx hb dX2_commonDivisor_12 ?_
      refine lv_if_eq (tgt := 32) hx hb dX2_commonDivisor_13 (by decide) (fun c2 => ?_) (fun c2 => ?_)
      · replace ho := ite_t c2 ho
        cases ho
        cases hrun
        exact hK0 _ _ _ hW (lv_sub hl [0] rfl)
      · replace ho := ite_f c2 ho
        refine lv_lload_n hx hb dX2_commonDivisor_16 rfl (lv_at hl 0 rfl) ?_
        refine lv_lload_n hx hb dX2_commonDivisor_17 rfl (lv_at hl 1 rfl) ?_
        obtain ⟨g3, ho⟩ := dvl_some ho
        refine lv_lrem hx hb dX2_commonDivisor_18 g3 ?_
        refine lv_nml ho (fun x4 ho => ?_)
        refine lv_lstore (lv' := [(5, .long x4), (0, .long v0), (2, .long v2), (4, .int v4)]) hx hb dX2_commonDivisor_19 hl (by decide) rfl (fun ls hl => ?_)
        refine lv_lload_n hx hb dX2_commonDivisor_21 rfl (lv_at hl 2 rfl) ?_
        refine lv_lstore_n (lv' := [(0, .long v2), (5, .long x4), (2, .long v2), (4, .int v4)]) hx hb dX2_commonDivisor_22 rfl hl (by decide) rfl (fun ls hl => ?_)
        refine lv_lload hx hb dX2_commonDivisor_23 (lv_at hl 1 rfl) ?_
        refine lv_lstore_n (lv' := [(2, .long x4), (0, .long v2), (5, .long x4), (4, .int v4)]) hx hb dX2_commonDivisor_25 rfl hl (by decide) rfl (fun ls hl => ?_)
        obtain ⟨x5, ex5, ho⟩ := nm_x ho
        refine lv_iinc (v := x5) (lv' := [(4, .int x5), (2, .long x4), (0, .long v2), (5, .long x4)]) hx hb dX2_commonDivisor_26 hl (k := 3) rfl (by rw [ex5]; rfl) (by decide) rfl (fun ls hl => ?_)
        clear ex5
        refine lv_goto (tgt := 3) hx hb dX2_commonDivisor_29 (by decide) ?_
        cases ho
        exact ih _ _ _ hrun _ _ _ hW (lv_sub hl [2, 1, 0] rfl)
set_option maxHeartbeats 4000000 in
set_option maxRecDepth 100000 in
theorem c_x2_commonDivisor (l : Launch) {D : va_G} {cI cJ cZ cR : ClassId} {am gm : Nat → Nat} {st : Nat} (sz : Nat) (t : St) (a0 : Int64) (a2 : Int64) {r : Int64} (ho : x2_commonDivisor t a0 a2 = some r) : Met l yX2_commonDivisor (.code yX2_commonDivisor cX2_commonDivisor 7 (some .long) :: wsAll) (rmN 0 0) (va_Pc [.long a0, .long a2] (prX D (tyX cI cJ cZ cR) (wX cI cJ cZ cR am gm t) sz st)) (qJ r D (tyX cI cJ cZ cR) (wX cI cJ cZ cR am gm t) (va_A (wX cI cJ cZ cR am gm t) sz)) 0 0 (va_A (wX cI cJ cZ cR am gm t) sz) := by
  refine Met.ofW (cc := cX2_commonDivisor) (maxL := 7) (ret := (some .long)) (by decide) rfl ?_
  intro p e s m args below meth c s₁ B hml hv
  obtain ⟨rfl, ⟨hsz, hP, hK, hD0⟩, hsx⟩ := hv
  have hx := B.exec
  have hb := B.bytes
  have hts := atoms_spec (ws := (.code yX2_commonDivisor cX2_commonDivisor 7 (some .long) :: wsAll)) B.pre
  have hta := fun w h => hts w (List.mem_cons_of_mem _ h)
  have hown : s.vm.findClass RX2 = some m.cls := findClass_of_methodNamed B.named
  have hlocks := B.notSynchronized
  subst hsz
  have hD := hD0.self (sz := s.heap.size)
  generalize hAe : va_A (wX cI cJ cZ cR am gm t) s.heap.size = A at hD ⊢
  have hA : ∀ q : Nat, s.heap.size ≤ q → A q := fun q h => by rw [← hAe]; exact Or.inr h
  have C0 : cxX p s m ([.long a0, .long a2].toArray) meth c cX2_commonDivisor RX2 7 (some .long) D (tyX cI cJ cZ cR) st A := ⟨⟨hx, hb, B.returns, hml, hown, hta, hlocks, hK, hA⟩, by rw [← hAe]; exact hsx⟩
  have hW : wl D A s (wX cI cJ cZ cR am gm t) s.heap [] := ⟨hP, hD, va_S.rf⟩
  have hl := lv_entry [.long a0, .long a2] (n := 7) (Nat.le_of_ble_eq_true rfl)
  rw [lg_entry_eq]
  generalize (lg_sl [.long a0, .long a2] ++ List.replicate (7 - (lg_sl [.long a0, .long a2]).length) Slot.unset).toArray = ls at hl ⊢
  have hl : lv_has ls 7 [(0, .long a0), (2, .long a2)] := hl
  unfold x2_commonDivisor at ho
  refine lv_iconst (v := (0 : Int32)) hx hb dX2_commonDivisor_0 (by decide) ?_
  refine lv_istore (lv' := [(4, .int (0 : Int32)), (0, .long a0), (2, .long a2)]) hx hb dX2_commonDivisor_1 hl (by decide) rfl (fun ls hl => ?_)
  obtain ⟨y6, hc8, ho⟩ := bd_some ho
  obtain ⟨ny6, hc8⟩ := lp_to hc8
  refine x2_commonDivisor_L3 C0 ?_ ny6 _ _ _ hc8 _ _ _ hW (lv_sub hl [1, 2, 0] rfl)
  intro H locs ls hW hl
  refine lv_lload_n hx hb dX2_commonDivisor_32 rfl (lv_at hl 0 rfl) ?_
  cases ho
  exact rtJ C0.1 hW dX2_commonDivisor_33
noncomputable def x2_spread_200_B7 (v0 : Int64) (v3 : Int32) (t : St) : Option ((Int64 × Int32 × St) ⊕ (St)) :=
  if (3 : Int32) ≤ v3 then (some (.inr t)) else (gd v3 (gN t 200) (nm (sA t 200 v3 ((v0 &&& (1073741823 : Int64))).toInt32) (fun t3 : St => nm ((v0 >>> (((30 : Int32)).toInt64 &&& 63))) (fun x4 : Int64 => nm (v3 + (1 : Int32)) (fun x5 : Int32 => some (.inl (x4, x5, t3)))))))
theorem mm_x2_spread_200_B7 (v0 : Int64) (v3 : Int32) (t : St) : MR (x2_spread_200_B7 v0 v3 t) t (Sum.elim (fun (x : Int64 × Int32 × St) => x.2.2) (fun (y : St) => y)) := by
  unfold x2_spread_200_B7
  exact MR_ite (MR_some mle.rfl) (MR_gd (MR_nmS mle_sA (fun t3 ht3 => MR_nm (fun x4 _ => MR_nm (fun x5 _ => MR_some ht3)))))
theorem mm_x2_spread_200_L7 (v0 : Int64) (v3 : Int32) (t : St) : MR (lp (fun x => x2_spread_200_B7 x.1 x.2.1 x.2.2) (v0, v3, t)) t (fun (y : St) => y) := MR_lp (p := (fun (x : Int64 × Int32 × St) => x.2.2)) (q := (fun (y : St) => y)) (fun x => mm_x2_spread_200_B7 x.1 x.2.1 x.2.2) (v0, v3, t)
noncomputable def x2_spread_200 (t : St) (a0 : Int64) : Option (St) :=
  (j7_fill_53178_200 t (0 : Int32)).bind (fun q6 => (lp (fun x => x2_spread_200_B7 x.1 x.2.1 x.2.2) (a0, (0 : Int32), q6)).bind (fun y8 => some y8))
theorem mm_x2_spread_200 (t : St) (a0 : Int64) : MR (x2_spread_200 t a0) t (fun (a : St) => a) := by
  unfold x2_spread_200
  exact MR_bind (mm_j7_fill_53178_200 t (0 : Int32)) (fun q6 hq6 => MR_bind (mm_x2_spread_200_L7 a0 (0 : Int32) q6) (fun y8 hm9 => MR_some (mle.trans hq6 hm9)))
set_option maxHeartbeats 4000000 in
set_option maxRecDepth 100000 in
theorem x2_spread_200_L7 {p : Program} {l : Launch} {e : Env} {s : State} {m : MethodId} {args : Array Value} {below : List Frame} {meth : Method} {c : Code} {Q : State → Prop} {D : va_G} {cI cJ cZ cR : ClassId} {am gm : Nat → Nat} {st : Nat} {A : Nat → Prop} (C0 : cxX p s m args meth c cX2_spread RX2 4 none D (tyX cI cJ cZ cR) st A) {y : St} (hK0 : ∀ (H : Heap) (locs : List Loc) (ls : Array Slot), wl D A s (wX cI cJ cZ cR am gm y) H locs → lv_has ls 4 [] → W p l e (rmN 1 23) s m args below meth c H locs 0 0 Q (F0 m 32 ls [])) :
    ∀ (n : Nat) (v0 : Int64) (v3 : Int32) (t : St), lpn (fun x => x2_spread_200_B7 x.1 x.2.1 x.2.2) n (v0, v3, t) = some y → ∀ (H : Heap) (locs : List Loc) (ls : Array Slot), wl D A s (wX cI cJ cZ cR am gm t) H locs → lv_has ls 4 [(0, .long v0), (2, .ref (am 200)), (3, .int v3)] → W p l e (rmN 1 23) s m args below meth c H locs 0 0 Q (F0 m 7 ls []) := by
  have hx := C0.1.1
  have hb := C0.1.2.1
  have hta := C0.1.2.2.2.2.2.1
  have hown := C0.1.2.2.2.2.1
  intro n
  induction n with
  | zero => intro _ _ _ h; cases h
  | succ n ih =>
    intro v0 v3 t hrun H locs ls hW hl
    obtain ⟨o, ho, hrun⟩ := bd_some hrun
    unfold x2_spread_200_B7 at ho
    refine lv_iload_n hx hb dX2_spread_7 rfl (lv_at hl 2 rfl) ?_
    refine lv_iconst (v := (3 : Int32)) hx hb dX2_spread_8 (by decide) ?_
    refine lv_icmp_ge (tgt := 32) hx hb dX2_spread_9 (by decide) (fun c1 => ?_) (fun c1 => ?_)
    · replace ho := ite_t c1 ho
      cases ho
      cases hrun
      exact hK0 _ _ _ hW (lv_sub hl [] rfl)
    · replace ho := ite_f c1 ho
      refine lv_aload_n hx hb dX2_spread_12 rfl (lv_at hl 1 rfl) ?_
      refine lv_iload_n hx hb dX2_spread_13 rfl (lv_at hl 2 rfl) ?_
      refine lv_lload_n hx hb dX2_spread_14 rfl (lv_at hl 0 rfl) ?_
      refine lv_ldc2 hx hb hown (hta _ kw_996) dX2_spread_15 ?_
      refine lv_land hx hb dX2_spread_18 ?_
      refine lv_l2i hx hb dX2_spread_19 rfl ?_
      obtain ⟨g2, ho⟩ := gd_some ho
      refine xST_200 C0 hW g2 dX2_spread_20 (fun H locs hW => ?_)
      obtain ⟨t3, ho, hW⟩ := nm_w (P := fun t => wl D A s (wX cI cJ cZ cR am gm t) H locs) ho hW
      refine lv_lload_n hx hb dX2_spread_21 rfl (lv_at hl 0 rfl) ?_
      refine lv_bipush (v := (30 : Int32)) hx hb dX2_spread_22 (by decide) ?_
      refine lv_lshr hx hb dX2_spread_24 rfl ?_
      refine lv_nml ho (fun x4 ho => ?_)
      refine lv_lstore_n (lv' := [(0, .long x4), (2, .ref (am 200)), (3, .int v3)]) hx hb dX2_spread_25 rfl hl (by decide) rfl (fun ls hl => ?_)
      obtain ⟨x5, ex5, ho⟩ := nm_x ho
      refine lv_iinc (v := x5) (lv' := [(3, .int x5), (0, .long x4), (2, .ref (am 200))]) hx hb dX2_spread_26 hl (k := 2) rfl (by rw [ex5]; rfl) (by decide) rfl (fun ls hl => ?_)
      clear ex5
      refine lv_goto (tgt := 7) hx hb dX2_spread_29 (by decide) ?_
      cases ho
      exact ih _ _ _ hrun _ _ _ hW (lv_sub hl [1, 2, 0] rfl)
set_option maxHeartbeats 4000000 in
set_option maxRecDepth 100000 in
theorem c_x2_spread_200 (l : Launch) {D : va_G} {cI cJ cZ cR : ClassId} {am gm : Nat → Nat} {st : Nat} (sz : Nat) (t : St) (a0 : Int64) {t' : St} (ho : x2_spread_200 t a0 = some t') : Met l yX2_spread (.code yX2_spread cX2_spread 4 none :: wsAll) (rmN 1 23) (va_Pc [.long a0, .ref (am 200)] (prX D (tyX cI cJ cZ cR) (wX cI cJ cZ cR am gm t) sz st)) (qV D (tyX cI cJ cZ cR) (wX cI cJ cZ cR am gm t') (va_A (wX cI cJ cZ cR am gm t) sz)) 0 0 (va_A (wX cI cJ cZ cR am gm t) sz) := by
  refine Met.ofW (cc := cX2_spread) (maxL := 4) (ret := none) (by decide) rfl ?_
  intro p e s m args below meth c s₁ B hml hv
  obtain ⟨rfl, ⟨hsz, hP, hK, hD0⟩, hsx⟩ := hv
  have hx := B.exec
  have hb := B.bytes
  have hts := atoms_spec (ws := (.code yX2_spread cX2_spread 4 none :: wsAll)) B.pre
  have hta := fun w h => hts w (List.mem_cons_of_mem _ h)
  have hown : s.vm.findClass RX2 = some m.cls := findClass_of_methodNamed B.named
  have hlocks := B.notSynchronized
  subst hsz
  have hD := hD0.self (sz := s.heap.size)
  generalize hAe : va_A (wX cI cJ cZ cR am gm t) s.heap.size = A at hD ⊢
  have hA : ∀ q : Nat, s.heap.size ≤ q → A q := fun q h => by rw [← hAe]; exact Or.inr h
  have C0 : cxX p s m ([.long a0, .ref (am 200)].toArray) meth c cX2_spread RX2 4 none D (tyX cI cJ cZ cR) st A := ⟨⟨hx, hb, B.returns, hml, hown, hta, hlocks, hK, hA⟩, by rw [← hAe]; exact hsx⟩
  have hW : wl D A s (wX cI cJ cZ cR am gm t) s.heap [] := ⟨hP, hD, va_S.rf⟩
  have hl := lv_entry [.long a0, .ref (am 200)] (n := 4) (Nat.le_of_ble_eq_true rfl)
  rw [lg_entry_eq]
  generalize (lg_sl [.long a0, .ref (am 200)] ++ List.replicate (4 - (lg_sl [.long a0, .ref (am 200)]).length) Slot.unset).toArray = ls at hl ⊢
  have hl : lv_has ls 4 [(0, .long a0), (2, .ref (am 200))] := hl
  unfold x2_spread_200 at ho
  refine lv_aload_n hx hb dX2_spread_0 rfl (lv_at hl 1 rfl) ?_
  refine lv_iconst (v := (0 : Int32)) hx hb dX2_spread_1 (by decide) ?_
  obtain ⟨q6, hc7, ho⟩ := bd_some ho
  refine bkV C0.1 hW (runSX (As := [.ref (am 200), .int (0 : Int32)]) (rest := []) C0 hW (c_j7_fill_53178_200 l _ t (0 : Int32) (t' := q6) hc7) cb_X2_J7_fill_53178_22 rfl rfl ⟨rfl, rfl⟩ ⟨Nat.le_of_ble_eq_true rfl, Nat.le_of_ble_eq_true rfl⟩ (Nat.le_of_ble_eq_true rfl) hl.1 dX2_spread_2 ⟨Nat.le_of_ble_eq_true rfl, Nat.le_of_ble_eq_true rfl⟩) (fun H locs hW => ?_)
  refine lv_iconst (v := (0 : Int32)) hx hb dX2_spread_5 (by decide) ?_
  refine lv_istore_n (lv' := [(3, .int (0 : Int32)), (0, .long a0), (2, .ref (am 200))]) hx hb dX2_spread_6 rfl hl (by decide) rfl (fun ls hl => ?_)
  obtain ⟨y8, hc10, ho⟩ := bd_some ho
  obtain ⟨ny8, hc10⟩ := lp_to hc10
  refine x2_spread_200_L7 C0 ?_ ny8 _ _ _ hc10 _ _ _ hW (lv_sub hl [1, 2, 0] rfl)
  intro H locs ls hW hl
  cases ho
  exact rtV C0.1 hW dX2_spread_32
noncomputable def x2_spread_201_B7 (v0 : Int64) (v3 : Int32) (t : St) : Option ((Int64 × Int32 × St) ⊕ (St)) :=
  if (3 : Int32) ≤ v3 then (some (.inr t)) else (gd v3 (gN t 201) (nm (sA t 201 v3 ((v0 &&& (1073741823 : Int64))).toInt32) (fun t3 : St => nm ((v0 >>> (((30 : Int32)).toInt64 &&& 63))) (fun x4 : Int64 => nm (v3 + (1 : Int32)) (fun x5 : Int32 => some (.inl (x4, x5, t3)))))))
theorem mm_x2_spread_201_B7 (v0 : Int64) (v3 : Int32) (t : St) : MR (x2_spread_201_B7 v0 v3 t) t (Sum.elim (fun (x : Int64 × Int32 × St) => x.2.2) (fun (y : St) => y)) := by
  unfold x2_spread_201_B7
  exact MR_ite (MR_some mle.rfl) (MR_gd (MR_nmS mle_sA (fun t3 ht3 => MR_nm (fun x4 _ => MR_nm (fun x5 _ => MR_some ht3)))))
theorem mm_x2_spread_201_L7 (v0 : Int64) (v3 : Int32) (t : St) : MR (lp (fun x => x2_spread_201_B7 x.1 x.2.1 x.2.2) (v0, v3, t)) t (fun (y : St) => y) := MR_lp (p := (fun (x : Int64 × Int32 × St) => x.2.2)) (q := (fun (y : St) => y)) (fun x => mm_x2_spread_201_B7 x.1 x.2.1 x.2.2) (v0, v3, t)
noncomputable def x2_spread_201 (t : St) (a0 : Int64) : Option (St) :=
  (j7_fill_53178_201 t (0 : Int32)).bind (fun q6 => (lp (fun x => x2_spread_201_B7 x.1 x.2.1 x.2.2) (a0, (0 : Int32), q6)).bind (fun y8 => some y8))
theorem mm_x2_spread_201 (t : St) (a0 : Int64) : MR (x2_spread_201 t a0) t (fun (a : St) => a) := by
  unfold x2_spread_201
  exact MR_bind (mm_j7_fill_53178_201 t (0 : Int32)) (fun q6 hq6 => MR_bind (mm_x2_spread_201_L7 a0 (0 : Int32) q6) (fun y8 hm9 => MR_some (mle.trans hq6 hm9)))
set_option maxHeartbeats 4000000 in
set_option maxRecDepth 100000 in
theorem x2_spread_201_L7 {p : Program} {l : Launch} {e : Env} {s : State} {m : MethodId} {args : Array Value} {below : List Frame} {meth : Method} {c : Code} {Q : State → Prop} {D : va_G} {cI cJ cZ cR : ClassId} {am gm : Nat → Nat} {st : Nat} {A : Nat → Prop} (C0 : cxX p s m args meth c cX2_spread RX2 4 none D (tyX cI cJ cZ cR) st A) {y : St} (hK0 : ∀ (H : Heap) (locs : List Loc) (ls : Array Slot), wl D A s (wX cI cJ cZ cR am gm y) H locs → lv_has ls 4 [] → W p l e (rmN 1 23) s m args below meth c H locs 0 0 Q (F0 m 32 ls [])) :
    ∀ (n : Nat) (v0 : Int64) (v3 : Int32) (t : St), lpn (fun x => x2_spread_201_B7 x.1 x.2.1 x.2.2) n (v0, v3, t) = some y → ∀ (H : Heap) (locs : List Loc) (ls : Array Slot), wl D A s (wX cI cJ cZ cR am gm t) H locs → lv_has ls 4 [(0, .long v0), (2, .ref (am 201)), (3, .int v3)] → W p l e (rmN 1 23) s m args below meth c H locs 0 0 Q (F0 m 7 ls []) := by
  have hx := C0.1.1
  have hb := C0.1.2.1
  have hta := C0.1.2.2.2.2.2.1
  have hown := C0.1.2.2.2.2.1
  intro n
  induction n with
  | zero => intro _ _ _ h; cases h
  | succ n ih =>
    intro v0 v3 t hrun H locs ls hW hl
    obtain ⟨o, ho, hrun⟩ := bd_some hrun
    unfold x2_spread_201_B7 at ho
    refine lv_iload_n hx hb dX2_spread_7 rfl (lv_at hl 2 rfl) ?_
    refine lv_iconst (v := (3 : Int32)) hx hb dX2_spread_8 (by decide) ?_
    refine lv_icmp_ge (tgt := 32) hx hb dX2_spread_9 (by decide) (fun c1 => ?_) (fun c1 => ?_)
    · replace ho := ite_t c1 ho
      cases ho
      cases hrun
      exact hK0 _ _ _ hW (lv_sub hl [] rfl)
    · replace ho := ite_f c1 ho
      refine lv_aload_n hx hb dX2_spread_12 rfl (lv_at hl 1 rfl) ?_
      refine lv_iload_n hx hb dX2_spread_13 rfl (lv_at hl 2 rfl) ?_
      refine lv_lload_n hx hb dX2_spread_14 rfl (lv_at hl 0 rfl) ?_
      refine lv_ldc2 hx hb hown (hta _ kw_996) dX2_spread_15 ?_
      refine lv_land hx hb dX2_spread_18 ?_
      refine lv_l2i hx hb dX2_spread_19 rfl ?_
      obtain ⟨g2, ho⟩ := gd_some ho
      refine xST_201 C0 hW g2 dX2_spread_20 (fun H locs hW => ?_)
      obtain ⟨t3, ho, hW⟩ := nm_w (P := fun t => wl D A s (wX cI cJ cZ cR am gm t) H locs) ho hW
      refine lv_lload_n hx hb dX2_spread_21 rfl (lv_at hl 0 rfl) ?_
      refine lv_bipush (v := (30 : Int32)) hx hb dX2_spread_22 (by decide) ?_
      refine lv_lshr hx hb dX2_spread_24 rfl ?_
      refine lv_nml ho (fun x4 ho => ?_)
      refine lv_lstore_n (lv' := [(0, .long x4), (2, .ref (am 201)), (3, .int v3)]) hx hb dX2_spread_25 rfl hl (by decide) rfl (fun ls hl => ?_)
      obtain ⟨x5, ex5, ho⟩ := nm_x ho
      refine lv_iinc (v := x5) (lv' := [(3, .int x5), (0, .long x4), (2, .ref (am 201))]) hx hb dX2_spread_26 hl (k := 2) rfl (by rw [ex5]; rfl) (by decide) rfl (fun ls hl => ?_)
      clear ex5
      refine lv_goto (tgt := 7) hx hb dX2_spread_29 (by decide) ?_
      cases ho
      exact ih _ _ _ hrun _ _ _ hW (lv_sub hl [1, 2, 0] rfl)
set_option maxHeartbeats 4000000 in
set_option maxRecDepth 100000 in
theorem c_x2_spread_201 (l : Launch) {D : va_G} {cI cJ cZ cR : ClassId} {am gm : Nat → Nat} {st : Nat} (sz : Nat) (t : St) (a0 : Int64) {t' : St} (ho : x2_spread_201 t a0 = some t') : Met l yX2_spread (.code yX2_spread cX2_spread 4 none :: wsAll) (rmN 1 23) (va_Pc [.long a0, .ref (am 201)] (prX D (tyX cI cJ cZ cR) (wX cI cJ cZ cR am gm t) sz st)) (qV D (tyX cI cJ cZ cR) (wX cI cJ cZ cR am gm t') (va_A (wX cI cJ cZ cR am gm t) sz)) 0 0 (va_A (wX cI cJ cZ cR am gm t) sz) := by
  refine Met.ofW (cc := cX2_spread) (maxL := 4) (ret := none) (by decide) rfl ?_
  intro p e s m args below meth c s₁ B hml hv
  obtain ⟨rfl, ⟨hsz, hP, hK, hD0⟩, hsx⟩ := hv
  have hx := B.exec
  have hb := B.bytes
  have hts := atoms_spec (ws := (.code yX2_spread cX2_spread 4 none :: wsAll)) B.pre
  have hta := fun w h => hts w (List.mem_cons_of_mem _ h)
  have hown : s.vm.findClass RX2 = some m.cls := findClass_of_methodNamed B.named
  have hlocks := B.notSynchronized
  subst hsz
  have hD := hD0.self (sz := s.heap.size)
  generalize hAe : va_A (wX cI cJ cZ cR am gm t) s.heap.size = A at hD ⊢
  have hA : ∀ q : Nat, s.heap.size ≤ q → A q := fun q h => by rw [← hAe]; exact Or.inr h
  have C0 : cxX p s m ([.long a0, .ref (am 201)].toArray) meth c cX2_spread RX2 4 none D (tyX cI cJ cZ cR) st A := ⟨⟨hx, hb, B.returns, hml, hown, hta, hlocks, hK, hA⟩, by rw [← hAe]; exact hsx⟩
  have hW : wl D A s (wX cI cJ cZ cR am gm t) s.heap [] := ⟨hP, hD, va_S.rf⟩
  have hl := lv_entry [.long a0, .ref (am 201)] (n := 4) (Nat.le_of_ble_eq_true rfl)
  rw [lg_entry_eq]
  generalize (lg_sl [.long a0, .ref (am 201)] ++ List.replicate (4 - (lg_sl [.long a0, .ref (am 201)]).length) Slot.unset).toArray = ls at hl ⊢
  have hl : lv_has ls 4 [(0, .long a0), (2, .ref (am 201))] := hl
  unfold x2_spread_201 at ho
  refine lv_aload_n hx hb dX2_spread_0 rfl (lv_at hl 1 rfl) ?_
  refine lv_iconst (v := (0 : Int32)) hx hb dX2_spread_1 (by decide) ?_
  obtain ⟨q6, hc7, ho⟩ := bd_some ho
  refine bkV C0.1 hW (runSX (As := [.ref (am 201), .int (0 : Int32)]) (rest := []) C0 hW (c_j7_fill_53178_201 l _ t (0 : Int32) (t' := q6) hc7) cb_X2_J7_fill_53178_22 rfl rfl ⟨rfl, rfl⟩ ⟨Nat.le_of_ble_eq_true rfl, Nat.le_of_ble_eq_true rfl⟩ (Nat.le_of_ble_eq_true rfl) hl.1 dX2_spread_2 ⟨Nat.le_of_ble_eq_true rfl, Nat.le_of_ble_eq_true rfl⟩) (fun H locs hW => ?_)
  refine lv_iconst (v := (0 : Int32)) hx hb dX2_spread_5 (by decide) ?_
  refine lv_istore_n (lv' := [(3, .int (0 : Int32)), (0, .long a0), (2, .ref (am 201))]) hx hb dX2_spread_6 rfl hl (by decide) rfl (fun ls hl => ?_)
  obtain ⟨y8, hc10, ho⟩ := bd_some ho
  obtain ⟨ny8, hc10⟩ := lp_to hc10
  refine x2_spread_201_L7 C0 ?_ ny8 _ _ _ hc10 _ _ _ hW (lv_sub hl [1, 2, 0] rfl)
  intro H locs ls hW hl
  cases ho
  exact rtV C0.1 hW dX2_spread_32
noncomputable def x2_putRatio_J17 (t : St) (v1 : Int64) (v3 : Int64) (v5 : Int64) : Option (St) :=
  dvl v5 ((x2_spread_200 t (v1 / v5)).bind (fun q2 => dvl v5 ((x2_spread_201 q2 (v3 / v5)).bind (fun q5 => some q5))))
theorem mm_x2_putRatio_J17 (t : St) (v1 : Int64) (v3 : Int64) (v5 : Int64) : MR (x2_putRatio_J17 t v1 v3 v5) t (fun (a : St) => a) := by
  unfold x2_putRatio_J17
  exact MR_dvl (MR_bind (mm_x2_spread_200 t (v1 / v5)) (fun q2 hq2 => MR_dvl (MR_bind (mm_x2_spread_201 q2 (v3 / v5)) (fun q5 hq5 => MR_some (mle.trans hq2 hq5)))))
noncomputable def x2_putRatio (t : St) (a1 : Int64) (a3 : Int64) : Option (St) :=
  (x2_commonDivisor t a1 a3).bind (fun q7 => if 0 ≤ (lg_cmp q7 (1 : Int64)) then (x2_putRatio_J17 t a1 a3 q7) else (x2_putRatio_J17 t a1 a3 (1 : Int64)))
theorem mm_x2_putRatio (t : St) (a1 : Int64) (a3 : Int64) : MR (x2_putRatio t a1 a3) t (fun (a : St) => a) := by
  unfold x2_putRatio
  exact MR_bindn (fun q7 => MR_ite (MR_wk mle.rfl (mm_x2_putRatio_J17 t a1 a3 q7)) (MR_wk mle.rfl (mm_x2_putRatio_J17 t a1 a3 (1 : Int64))))
set_option maxHeartbeats 4000000 in
set_option maxRecDepth 100000 in
theorem c_x2_putRatio (l : Launch) {D : va_G} {cI cJ cZ cR : ClassId} {am gm : Nat → Nat} {st : Nat} (sz : Nat) (t : St) (a1 : Int64) (a3 : Int64) {t' : St} (ho : x2_putRatio t a1 a3 = some t') : Met l yX2_putRatio (.code yX2_putRatio cX2_putRatio 7 none :: wsAll) (rmN 2 46) (va_Pc [.ref (am 1002), .long a1, .long a3] (prX D (tyX cI cJ cZ cR) (wX cI cJ cZ cR am gm t) sz st)) (qV D (tyX cI cJ cZ cR) (wX cI cJ cZ cR am gm t') (va_A (wX cI cJ cZ cR am gm t) sz)) 0 0 (va_A (wX cI cJ cZ cR am gm t) sz) := by
  refine Met.ofW (cc := cX2_putRatio) (maxL := 7) (ret := none) (by decide) rfl ?_
  intro p e s m args below meth c s₁ B hml hv
  obtain ⟨rfl, ⟨hsz, hP, hK, hD0⟩, hsx⟩ := hv
  have hx := B.exec
  have hb := B.bytes
  have hts := atoms_spec (ws := (.code yX2_putRatio cX2_putRatio 7 none :: wsAll)) B.pre
  have hta := fun w h => hts w (List.mem_cons_of_mem _ h)
  have hown : s.vm.findClass RX2 = some m.cls := findClass_of_methodNamed B.named
  have hlocks := B.notSynchronized
  subst hsz
  have hD := hD0.self (sz := s.heap.size)
  generalize hAe : va_A (wX cI cJ cZ cR am gm t) s.heap.size = A at hD ⊢
  have hA : ∀ q : Nat, s.heap.size ≤ q → A q := fun q h => by rw [← hAe]; exact Or.inr h
  have C0 : cxX p s m ([.ref (am 1002), .long a1, .long a3].toArray) meth c cX2_putRatio RX2 7 none D (tyX cI cJ cZ cR) st A := ⟨⟨hx, hb, B.returns, hml, hown, hta, hlocks, hK, hA⟩, by rw [← hAe]; exact hsx⟩
  have hW : wl D A s (wX cI cJ cZ cR am gm t) s.heap [] := ⟨hP, hD, va_S.rf⟩
  have hl := lv_entry [.ref (am 1002), .long a1, .long a3] (n := 7) (Nat.le_of_ble_eq_true rfl)
  rw [lg_entry_eq]
  generalize (lg_sl [.ref (am 1002), .long a1, .long a3] ++ List.replicate (7 - (lg_sl [.ref (am 1002), .long a1, .long a3]).length) Slot.unset).toArray = ls at hl ⊢
  have hl : lv_has ls 7 [(0, .ref (am 1002)), (1, .long a1), (3, .long a3)] := hl
  clear hAe hD hP hD0 hts
  have J17 : ∀ (t : St) (v1 : Int64) (v3 : Int64) (v5 : Int64) (_ : x2_putRatio_J17 t v1 v3 v5 = some t') (H : Heap) (locs : List Loc) (ls : Array Slot), wl D A s (wX cI cJ cZ cR am gm t) H locs → lv_has ls 7 [(0, .ref (am 1002)), (1, .long v1), (3, .long v3), (5, .long v5)] → W p l e (rmN 2 46) s m ([.ref (am 1002), .long a1, .long a3].toArray) below meth c H locs 0 0 (MQ below (qV D (tyX cI cJ cZ cR) (wX cI cJ cZ cR am gm t') A) ([.ref (am 1002), .long a1, .long a3].toArray) s 0 0 A) (F0 m 17 ls []) := by
    intro t v1 v3 v5 ho H locs ls hW hl
    unfold x2_putRatio_J17 at ho
    refine lv_lload_n hx hb dX2_putRatio_17 rfl (lv_at hl 1 rfl) ?_
    refine lv_lload hx hb dX2_putRatio_18 (lv_at hl 3 rfl) ?_
    obtain ⟨g1, ho⟩ := dvl_some ho
    refine lv_ldiv hx hb dX2_putRatio_20 g1 ?_
    refine lv_aload_n hx hb dX2_putRatio_21 rfl (lv_at hl 0 rfl) ?_
    refine xGET_200 C0 kw_369 hW dX2_putRatio_22 ?_
    obtain ⟨q2, hc3, ho⟩ := bd_some ho
    refine bkV C0.1 hW (runSX (As := [.long (v1 / v5), .ref (am 200)]) (rest := []) C0 hW (c_x2_spread_200 l _ t (v1 / v5) (t' := q2) hc3) cb_X2_X2_spread_59 rfl rfl ⟨rfl, rfl⟩ ⟨Nat.le_of_ble_eq_true rfl, Nat.le_of_ble_eq_true rfl⟩ (Nat.le_of_ble_eq_true rfl) hl.1 dX2_putRatio_25 ⟨Nat.le_of_ble_eq_true rfl, Nat.le_of_ble_eq_true rfl⟩) (fun H locs hW => ?_)
    refine lv_lload_n hx hb dX2_putRatio_28 rfl (lv_at hl 2 rfl) ?_
    refine lv_lload hx hb dX2_putRatio_29 (lv_at hl 3 rfl) ?_
    obtain ⟨g4, ho⟩ := dvl_some ho
    refine lv_ldiv hx hb dX2_putRatio_31 g4 ?_
    refine lv_aload_n hx hb dX2_putRatio_32 rfl (lv_at hl 0 rfl) ?_
    refine xGET_201 C0 kw_370 hW dX2_putRatio_33 ?_
    obtain ⟨q5, hc6, ho⟩ := bd_some ho
    refine bkV C0.1 hW (runSX (As := [.long (v3 / v5), .ref (am 201)]) (rest := []) C0 hW (c_x2_spread_201 l _ q2 (v3 / v5) (t' := q5) hc6) cb_X2_X2_spread_59 rfl rfl ⟨rfl, rfl⟩ ⟨Nat.le_of_ble_eq_true rfl, Nat.le_of_ble_eq_true rfl⟩ (Nat.le_of_ble_eq_true rfl) hl.1 dX2_putRatio_36 ⟨Nat.le_of_ble_eq_true rfl, Nat.le_of_ble_eq_true rfl⟩) (fun H locs hW => ?_)
    cases ho
    exact rtV C0.1 hW dX2_putRatio_39
  unfold x2_putRatio at ho
  refine lv_lload_n hx hb dX2_putRatio_0 rfl (lv_at hl 1 rfl) ?_
  refine lv_lload_n hx hb dX2_putRatio_1 rfl (lv_at hl 2 rfl) ?_
  obtain ⟨q7, hc8, ho⟩ := bd_some ho
  refine bkJ C0.1 hW (runSX (As := [.long a1, .long a3]) (rest := []) C0 hW (c_x2_commonDivisor l _ t a1 a3 (r := q7) hc8) cb_X2_X2_commonDivisor_55 rfl rfl ⟨rfl, rfl⟩ ⟨Nat.le_of_ble_eq_true rfl, Nat.le_of_ble_eq_true rfl⟩ (Nat.le_of_ble_eq_true rfl) hl.1 dX2_putRatio_2 ⟨Nat.le_of_ble_eq_true rfl, Nat.le_of_ble_eq_true rfl⟩) (fun H locs hW => ?_)
  refine lv_lstore (lv' := [(5, .long q7), (0, .ref (am 1002)), (1, .long a1), (3, .long a3)]) hx hb dX2_putRatio_5 hl (by decide) rfl (fun ls hl => ?_)
  refine lv_lload hx hb dX2_putRatio_7 (lv_at hl 0 rfl) ?_
  refine lv_lconst (v := (1 : Int64)) hx hb dX2_putRatio_9 (by decide) ?_
  refine W.lcmp hx hb dX2_putRatio_10 ?_
  refine lv_if_ge (tgt := 17) hx hb dX2_putRatio_11 (by decide) (fun c9 => ?_) (fun c9 => ?_)
  · replace ho := ite_t c9 ho
    exact J17 _ _ _ _ ho _ _ _ hW (lv_sub hl [1, 2, 3, 0] rfl)
  · replace ho := ite_f c9 ho
    refine lv_lconst (v := (1 : Int64)) hx hb dX2_putRatio_14 (by decide) ?_
    refine lv_lstore (lv' := [(5, .long (1 : Int64)), (0, .ref (am 1002)), (1, .long a1), (3, .long a3)]) hx hb dX2_putRatio_15 hl (by decide) rfl (fun ls hl => ?_)
    exact J17 _ _ _ _ ho _ _ _ hW (lv_sub hl [1, 2, 3, 0] rfl)
noncomputable def x11_game_J45 (t : St) (w0 : Int32) : Option (Int32 × St) :=
  if w0 = 0 then (some ((-5 : Int32), t)) else (if (gI t 1004) ≤ (24 : Int32) then ((x3_play t).bind (fun q3 => (x2_putRatio q3 (gJ q3 309) (gJ q3 310)).bind (fun q5 => some ((1 : Int32), q5)))) else (some ((-5 : Int32), t)))
theorem mm_x11_game_J45 (t : St) (w0 : Int32) : MR (x11_game_J45 t w0) t (fun (a : Int32 × St) => a.2) := by
  unfold x11_game_J45
  exact MR_ite (MR_some mle.rfl) (MR_ite (MR_bind (mm_x3_play t) (fun q3 hq3 => MR_bind (mm_x2_putRatio q3 (gJ q3 309) (gJ q3 310)) (fun q5 hq5 => MR_some (mle.trans hq3 hq5)))) (MR_some mle.rfl))
noncomputable def x11_game (t0 : St) (a1 : Int32) : Option (Int32 × St) :=
  (x11_noNet t0 a1).bind (fun q7 => if q7 = 0 then (gd a1 (gN t0 602) (nm (gA t0 602 (a1).toNatClampNeg) (fun x12 : Int32 => if x12 < 0 then (some ((-3 : Int32), t0)) else (if (gI t0 302) = 0 then (some ((-3 : Int32), t0)) else ((x10_listAll t0 x12).bind (fun q15 => x11_game_J45 q15.2 q15.1)))))) else (some ((-2 : Int32), t0)))
theorem mm_x11_game (t0 : St) (a1 : Int32) : MR (x11_game t0 a1) t0 (fun (a : Int32 × St) => a.2) := by
  unfold x11_game
  exact MR_bindn (fun q7 => MR_ite (MR_gd (MR_nm (fun x12 _ => MR_ite (MR_some mle.rfl) (MR_ite (MR_some mle.rfl) (MR_bind (mm_x10_listAll t0 x12) (fun q15 hq15 => MR_wk hq15 (mm_x11_game_J45 q15.2 q15.1))))))) (MR_some mle.rfl))
set_option maxHeartbeats 4000000 in
set_option maxRecDepth 100000 in
theorem c_x11_game (l : Launch) {D : va_G} {cI cJ cZ cR : ClassId} {am gm : Nat → Nat} {st : Nat} (sz : Nat) (t0 : St) (a1 : Int32) {r : Int32} {t' : St} (ho : x11_game t0 a1 = some (r, t')) : Met l yX11_game (.code yX11_game cX11_game 3 (some .int) :: wsAll) (rmA 5 138 t0 t') (va_Pc [.ref (am 1011), .int a1] (prX D (tyX cI cJ cZ cR) (wX cI cJ cZ cR am gm t0) sz st)) (qIa r D (tyX cI cJ cZ cR) (fun gm => wX cI cJ cZ cR am gm t') (va_A (wX cI cJ cZ cR am gm t0) sz)) (mC t0 t') (mS t0 t') (va_A (wX cI cJ cZ cR am gm t0) sz) := by
  refine Met.ofW (cc := cX11_game) (maxL := 3) (ret := (some .int)) (by decide) rfl ?_
  intro p e s m args below meth c s₁ B hml hv
  obtain ⟨rfl, ⟨hsz, hP, hK, hD0⟩, hsx⟩ := hv
  have hx := B.exec
  have hb := B.bytes
  have hts := atoms_spec (ws := (.code yX11_game cX11_game 3 (some .int) :: wsAll)) B.pre
  have hta := fun w h => hts w (List.mem_cons_of_mem _ h)
  have hown : s.vm.findClass RX11 = some m.cls := findClass_of_methodNamed B.named
  have hlocks := B.notSynchronized
  subst hsz
  have hD := hD0.self (sz := s.heap.size)
  generalize hAe : va_A (wX cI cJ cZ cR am gm t0) s.heap.size = A at hD ⊢
  have hA : ∀ q : Nat, s.heap.size ≤ q → A q := fun q h => by rw [← hAe]; exact Or.inr h
  have C0 : cxX p s m ([.ref (am 1011), .int a1].toArray) meth c cX11_game RX11 3 (some .int) D (tyX cI cJ cZ cR) st A := ⟨⟨hx, hb, B.returns, hml, hown, hta, hlocks, hK, hA⟩, by rw [← hAe]; exact hsx⟩
  have hW : wl D A s (wX cI cJ cZ cR am gm t0) s.heap [] := ⟨hP, hD, va_S.rf⟩
  have hl := lv_entry [.ref (am 1011), .int a1] (n := 3) (Nat.le_of_ble_eq_true rfl)
  rw [lg_entry_eq]
  generalize (lg_sl [.ref (am 1011), .int a1] ++ List.replicate (3 - (lg_sl [.ref (am 1011), .int a1]).length) Slot.unset).toArray = ls at hl ⊢
  have hl : lv_has ls 3 [(0, .ref (am 1011)), (1, .int a1)] := hl
  clear hAe hD hP hD0 hts
  have J45 : ∀ (gm : Nat → Nat) (t : St) (w0 : Int32) (_ : x11_game_J45 t w0 = some (r, t')) (_ : mle t0 t) (H : Heap) (locs : List Loc) (ls : Array Slot), wl D A s (wX cI cJ cZ cR am gm t) H locs → lv_has ls 3 [(0, .ref (am 1011))] → W p l e (rmA 5 138 t0 t') s m ([.ref (am 1011), .int a1].toArray) below meth c H locs (mC t0 t) (mS t0 t) (MQ below (qIa r D (tyX cI cJ cZ cR) (fun gm => wX cI cJ cZ cR am gm t') A) ([.ref (am 1011), .int a1].toArray) s (mC t0 t') (mS t0 t') A) (F0 m 45 ls [.int w0]) := by
    intro gm t w0 ho h0 H locs ls hW hl
    have hE : mle t t' := (mm_x11_game_J45 _ _ _ ho)
    have hR := hR_of (t0 := t0) hE
    unfold x11_game_J45 at ho
    refine lv_if_eq (tgt := 60) hx hb dX11_game_45 (by decide) (fun c1 => ?_) (fun c1 => ?_)
    · replace ho := ite_t c1 ho
      refine lv_bipush (v := (-5 : Int32)) hx hb dX11_game_60 (by decide) ?_
      cases ho
      exact rtIa gm C0.1 hW dX11_game_62
    · replace ho := ite_f c1 ho
      refine lv_aload_n hx hb dX11_game_48 rfl (lv_at hl 0 rfl) ?_
      refine xGET_1104 C0 kw_595 hW dX11_game_49 ?_
      refine xGET_1004 C0 kw_338 hW dX11_game_52 ?_
      refine lv_bipush (v := (24 : Int32)) hx hb dX11_game_55 (by decide) ?_
      refine lv_icmp_le (tgt := 63) hx hb dX11_game_57 (by decide) (fun c2 => ?_) (fun c2 => ?_)
      · replace ho := ite_t c2 ho
        refine lv_aload_n hx hb dX11_game_63 rfl (lv_at hl 0 rfl) ?_
        refine xGET_1108 C0 kw_599 hW dX11_game_64 ?_
        obtain ⟨q3, hc4, ho⟩ := bd_some ho
        have hq3 := mm_x3_play t _ hc4
        refine bkV C0.1 hW (runVX (As := []) (rest := []) C0 hW (c_x3_play l _ t (t' := q3) hc4) cb_X11_X3_play_286 3 3 rfl rfl rfl rfl rfl ⟨rfl, rfl⟩ ⟨Nat.le_of_ble_eq_true rfl, Nat.le_of_ble_eq_true rfl⟩ (Nat.le_of_ble_eq_true rfl) hl.1 dX11_game_67 ⟨hR.1, hR.2⟩) (fun H locs hW => ?_)
        refine lv_aload_n hx hb dX11_game_70 rfl (lv_at hl 0 rfl) ?_
        refine xGET_1105 C0 kw_596 hW dX11_game_71 ?_
        refine lv_aload_n hx hb dX11_game_74 rfl (lv_at hl 0 rfl) ?_
        refine xGET_1108 C0 kw_599 hW dX11_game_75 ?_
        refine xGET_309 C0 kw_501 hW dX11_game_78 ?_
        refine lv_aload_n hx hb dX11_game_81 rfl (lv_at hl 0 rfl) ?_
        refine xGET_1108 C0 kw_599 hW dX11_game_82 ?_
        refine xGET_310 C0 kw_503 hW dX11_game_85 ?_
        obtain ⟨q5, hc6, ho⟩ := bd_some ho
        have hq5 := mm_x2_putRatio q3 (gJ q3 309) (gJ q3 310) _ hc6
        refine bkV C0.1 hW (runVX (As := [.long (gJ q3 309), .long (gJ q3 310)]) (rest := []) C0 hW (c_x2_putRatio l _ q3 (gJ q3 309) (gJ q3 310) (t' := q5) hc6) cb_X11_X2_putRatio_296 2 2 rfl rfl rfl rfl rfl ⟨rfl, rfl⟩ ⟨Nat.le_of_ble_eq_true rfl, Nat.le_of_ble_eq_true rfl⟩ (Nat.le_of_ble_eq_true rfl) hl.1 dX11_game_88 ⟨hR.1, hR.2⟩) (fun H locs hW => ?_)
        refine lv_iconst (v := (1 : Int32)) hx hb dX11_game_91 (by decide) ?_
        refine W_up h0 (mle.trans hq3 hq5) ?_
        cases ho
        exact rtIa gm C0.1 hW dX11_game_92
      · replace ho := ite_f c2 ho
        refine lv_bipush (v := (-5 : Int32)) hx hb dX11_game_60 (by decide) ?_
        cases ho
        exact rtIa gm C0.1 hW dX11_game_62
  have hE : mle t0 t' := mm_x11_game _ _ _ ho
  have hR := hR_of (t0 := t0) hE
  have h0 : mle t0 t0 := mle.rfl
  refine W_0 (t0 := t0) ?_
  unfold x11_game at ho
  refine lv_iload_n hx hb dX11_game_0 rfl (lv_at hl 1 rfl) ?_
  obtain ⟨q7, hc8, ho⟩ := bd_some ho
  refine bkZ C0.1 hW (runSX (As := [.int a1]) (rest := []) C0 hW (c_x11_noNet l _ t0 a1 (r := q7) hc8) cb_X11_X11_noNet_124 rfl rfl ⟨rfl, rfl⟩ ⟨Nat.le_of_ble_eq_true rfl, Nat.le_of_ble_eq_true rfl⟩ (Nat.le_of_ble_eq_true rfl) hl.1 dX11_game_1 ⟨hR.1, hR.2⟩) (fun z9 H locs hW => ?_)
  refine lv_if_eq (tgt := 10) hx hb dX11_game_4 (by decide) (fun c10 => ?_) (fun c10 => ?_)
  · replace ho := ite_t c10 ho
    refine lv_aload_n hx hb dX11_game_10 rfl (lv_at hl 0 rfl) ?_
    refine xGET_1101 C0 kw_592 hW dX11_game_11 ?_
    refine xGET_602 C0 kw_184 hW dX11_game_14 ?_
    refine lv_iload_n hx hb dX11_game_17 rfl (lv_at hl 1 rfl) ?_
    obtain ⟨g11, ho⟩ := gd_some ho
    refine xLD_602 C0 hW g11 dX11_game_18 ?_
    refine lv_nmi ho (fun x12 ho => ?_)
    refine lv_istore_n (lv' := [(2, .int x12), (0, .ref (am 1011)), (1, .int a1)]) hx hb dX11_game_19 rfl hl (by decide) rfl (fun ls hl => ?_)
    refine lv_iload_n hx hb dX11_game_20 rfl (lv_at hl 0 rfl) ?_
    refine lv_if_lt (tgt := 34) hx hb dX11_game_21 (by decide) (fun c13 => ?_) (fun c13 => ?_)
    · replace ho := ite_t c13 ho
      refine lv_bipush (v := (-3 : Int32)) hx hb dX11_game_34 (by decide) ?_
      cases ho
      exact rtIa gm C0.1 hW dX11_game_36
    · replace ho := ite_f c13 ho
      refine lv_aload_n hx hb dX11_game_24 rfl (lv_at hl 1 rfl) ?_
      refine xGET_1108 C0 kw_599 hW dX11_game_25 ?_
      refine xGET_302 C0 kw_493 hW dX11_game_28 ?_
      refine lv_if_ne (tgt := 37) hx hb dX11_game_31 (by decide) (fun c14 => ?_) (fun c14 => ?_)
      · replace ho := ite_f c14 ho
        refine lv_aload_n hx hb dX11_game_37 rfl (lv_at hl 1 rfl) ?_
        refine xGET_1104 C0 kw_595 hW dX11_game_38 ?_
        refine lv_iload_n hx hb dX11_game_41 rfl (lv_at hl 0 rfl) ?_
        obtain ⟨q15, hc16, ho⟩ := bd_some ho
        have hq15 := mm_x10_listAll t0 x12 _ hc16
        have hEq15 := (mm_x11_game_J45 _ _ _ ho)
        refine bkZa C0.1 hW h0 hq15 (runVX (As := [.int x12]) (rest := []) C0 hW (c_x10_listAll l _ t0 x12 (r := q15.1) (t' := q15.2) hc16) cb_X11_X10_listAll_167 10 10 rfl rfl rfl rfl rfl ⟨rfl, rfl⟩ ⟨Nat.le_of_ble_eq_true rfl, Nat.le_of_ble_eq_true rfl⟩ (Nat.le_of_ble_eq_true rfl) hl.1 dX11_game_42 (hf_of h0 hq15 hEq15)) (fun z17 gm H locs hW => ?_)
        have h0 := mle.trans h0 hq15
        exact J45 gm _ _ ho h0 _ _ _ hW (lv_sub hl [1] rfl)
      · replace ho := ite_t c14 ho
        refine lv_bipush (v := (-3 : Int32)) hx hb dX11_game_34 (by decide) ?_
        cases ho
        exact rtIa gm C0.1 hW dX11_game_36
  · replace ho := ite_f c10 ho
    refine lv_bipush (v := (-2 : Int32)) hx hb dX11_game_7 (by decide) ?_
    cases ho
    exact rtIa gm C0.1 hW dX11_game_9
noncomputable def x10_bribe (t : St) (a1 : Int32) : Option (Int32 × St) :=
  if (gI t 1007) < (6 : Int32) then (gd (gI t 1007) (gN t 1006) (nm (sA t 1006 (gI t 1007) a1) (fun t3 : St => nm (sI t3 1007 ((gI t3 1007) + (1 : Int32))) (fun t4 : St => some ((1 : Int32), t4))))) else (some ((0 : Int32), t))
theorem mm_x10_bribe (t : St) (a1 : Int32) : MR (x10_bribe t a1) t (fun (a : Int32 × St) => a.2) := by
  unfold x10_bribe
  exact MR_ite (MR_gd (MR_nmS mle_sA (fun t3 ht3 => MR_nmS mle_sI (fun t4 ht4 => MR_some (mle.trans ht3 ht4))))) (MR_some mle.rfl)
set_option maxHeartbeats 4000000 in
set_option maxRecDepth 100000 in
theorem c_x10_bribe (l : Launch) {D : va_G} {cI cJ cZ cR : ClassId} {am gm : Nat → Nat} {st : Nat} (sz : Nat) (t : St) (a1 : Int32) {r : Int32} {t' : St} (ho : x10_bribe t a1 = some (r, t')) : Met l yX10_bribe (.code yX10_bribe cX10_bribe 2 (some .boolean) :: wsAll) (rmN 0 0) (va_Pc [.ref (am 1010), .int a1] (prX D (tyX cI cJ cZ cR) (wX cI cJ cZ cR am gm t) sz st)) (qZ r D (tyX cI cJ cZ cR) (wX cI cJ cZ cR am gm t') (va_A (wX cI cJ cZ cR am gm t) sz)) 0 0 (va_A (wX cI cJ cZ cR am gm t) sz) := by
  refine Met.ofW (cc := cX10_bribe) (maxL := 2) (ret := (some .boolean)) (by decide) rfl ?_
  intro p e s m args below meth c s₁ B hml hv
  obtain ⟨rfl, ⟨hsz, hP, hK, hD0⟩, hsx⟩ := hv
  have hx := B.exec
  have hb := B.bytes
  have hts := atoms_spec (ws := (.code yX10_bribe cX10_bribe 2 (some .boolean) :: wsAll)) B.pre
  have hta := fun w h => hts w (List.mem_cons_of_mem _ h)
  have hown : s.vm.findClass RX10 = some m.cls := findClass_of_methodNamed B.named
  have hlocks := B.notSynchronized
  subst hsz
  have hD := hD0.self (sz := s.heap.size)
  generalize hAe : va_A (wX cI cJ cZ cR am gm t) s.heap.size = A at hD ⊢
  have hA : ∀ q : Nat, s.heap.size ≤ q → A q := fun q h => by rw [← hAe]; exact Or.inr h
  have C0 : cxX p s m ([.ref (am 1010), .int a1].toArray) meth c cX10_bribe RX10 2 (some .boolean) D (tyX cI cJ cZ cR) st A := ⟨⟨hx, hb, B.returns, hml, hown, hta, hlocks, hK, hA⟩, by rw [← hAe]; exact hsx⟩
  have hW : wl D A s (wX cI cJ cZ cR am gm t) s.heap [] := ⟨hP, hD, va_S.rf⟩
  have hl := lv_entry [.ref (am 1010), .int a1] (n := 2) (Nat.le_of_ble_eq_true rfl)
  rw [lg_entry_eq]
  generalize (lg_sl [.ref (am 1010), .int a1] ++ List.replicate (2 - (lg_sl [.ref (am 1010), .int a1]).length) Slot.unset).toArray = ls at hl ⊢
  have hl : lv_has ls 2 [(0, .ref (am 1010)), (1, .int a1)] := hl
  unfold x10_bribe at ho
  refine lv_aload_n hx hb dX10_bribe_0 rfl (lv_at hl 0 rfl) ?_
  refine xGET_1007 C0 kw_341 hW dX10_bribe_1 ?_
  refine lv_bipush (v := (6 : Int32)) hx hb dX10_bribe_4 (by decide) ?_
  refine lv_icmp_lt (tgt := 11) hx hb dX10_bribe_6 (by decide) (fun c1 => ?_) (fun c1 => ?_)
  · replace ho := ite_t c1 ho
    refine lv_aload_n hx hb dX10_bribe_11 rfl (lv_at hl 0 rfl) ?_
    refine xGET_1006 C0 kw_340 hW dX10_bribe_12 ?_
    refine lv_aload_n hx hb dX10_bribe_15 rfl (lv_at hl 0 rfl) ?_
    refine xGET_1007 C0 kw_341 hW dX10_bribe_16 ?_
    refine lv_iload_n hx hb dX10_bribe_19 rfl (lv_at hl 1 rfl) ?_
    obtain ⟨g2, ho⟩ := gd_some ho
    refine xST_1006 C0 hW g2 dX10_bribe_20 (fun H locs hW => ?_)
    obtain ⟨t3, ho, hW⟩ := nm_w (P := fun t => wl D A s (wX cI cJ cZ cR am gm t) H locs) ho hW
    refine lv_aload_n hx hb dX10_bribe_21 rfl (lv_at hl 0 rfl) ?_
    refine lv_dup hx hb dX10_bribe_22 rfl ?_
    refine xGET_1007 C0 kw_341 hW dX10_bribe_23 ?_
    refine lv_iconst (v := (1 : Int32)) hx hb dX10_bribe_26 (by decide) ?_
    refine lv_iadd hx hb dX10_bribe_27 ?_
    refine xPUT_1007 C0 kw_341 hW dX10_bribe_28 (fun H locs hW => ?_)
    obtain ⟨t4, ho, hW⟩ := nm_w (P := fun t => wl D A s (wX cI cJ cZ cR am gm t) H locs) ho hW
    refine lv_iconst (v := (1 : Int32)) hx hb dX10_bribe_31 (by decide) ?_
    cases ho
    exact rtZ C0.1 hW (Or.inr (rfl : (1 : Int32) = 1)) dX10_bribe_32
  · replace ho := ite_f c1 ho
    refine lv_iconst (v := (0 : Int32)) hx hb dX10_bribe_9 (by decide) ?_
    cases ho
    exact rtZ C0.1 hW (Or.inl (rfl : (0 : Int32) = 0)) dX10_bribe_10
