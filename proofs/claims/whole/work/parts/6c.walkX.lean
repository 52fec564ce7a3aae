noncomputable def x8_fillRow_J62 (t : St) (v1 : Int32) (v2 : Int32) (v3 : Int32) (v4 : Int32) (w1 : Int32) (w2 : Int64) : Option ((Int32 × St) ⊕ (St)) :=
  gd w1 (gN t 808) (nm (sB t 808 w1 w2) (fun t2 : St => nm (v4 + (1 : Int32)) (fun x3 : Int32 => some (.inl (x3, t2)))))
theorem mm_x8_fillRow_J62 (t : St) (v1 : Int32) (v2 : Int32) (v3 : Int32) (v4 : Int32) (w1 : Int32) (w2 : Int64) : MR (x8_fillRow_J62 t v1 v2 v3 v4 w1 w2) t (Sum.elim (fun (x : Int32 × St) => x.2) (fun (y : St) => y)) := by
  unfold x8_fillRow_J62
  exact MR_gd (MR_nmS mle_sB (fun t2 ht2 => MR_nm (fun x3 _ => MR_some ht2)))
noncomputable def x8_fillRow_B34 (v1 : Int32) (v2 : Int32) (v3 : Int32) (v4 : Int32) (t : St) : Option ((Int32 × St) ⊕ (St)) :=
  if (gI t 804) ≤ v4 then (some (.inr t)) else (if v3 = 0 then (x8_fillRow_J62 t v1 v2 v3 v4 (v2 + v4) (-1 : Int64)) else (x8_fillRow_J62 t v1 v2 v3 v4 (v2 + v4) (0 : Int64)))
theorem mm_x8_fillRow_B34 (v1 : Int32) (v2 : Int32) (v3 : Int32) (v4 : Int32) (t : St) : MR (x8_fillRow_B34 v1 v2 v3 v4 t) t (Sum.elim (fun (x : Int32 × St) => x.2) (fun (y : St) => y)) := by
  unfold x8_fillRow_B34
  exact MR_ite (MR_some mle.rfl) (MR_ite (MR_wk mle.rfl (mm_x8_fillRow_J62 t v1 v2 v3 v4 (v2 + v4) (-1 : Int64))) (MR_wk mle.rfl (mm_x8_fillRow_J62 t v1 v2 v3 v4 (v2 + v4) (0 : Int64))))
theorem mm_x8_fillRow_L34 (v1 : Int32) (v2 : Int32) (v3 : Int32) (v4 : Int32) (t : St) : MR (lp (fun x => x8_fillRow_B34 v1 v2 v3 x.1 x.2) (v4, t)) t (fun (y : St) => y) := MR_lp (p := (fun (x : Int32 × St) => x.2)) (q := (fun (y : St) => y)) (fun x => mm_x8_fillRow_B34 v1 v2 v3 x.1 x.2) (v4, t)
noncomputable def x8_fillRow_B111 (v1 : Int32) (v2 : Int32) (v3 : Int32) (v4 : Int32) (v5 : Int32) (v6 : Int32) (t : St) : Option ((Int32 × St) ⊕ (St)) :=
  if (gI t 804) ≤ v6 then (some (.inr t)) else (if v3 = 0 then (gd (v2 + v6) (gN t 808) (gd (v5 + v6) (gN t 808) (gd (v2 + v6) (gN t 808) (nm (sB t 808 (v2 + v6) ((gB t 808 ((v2 + v6)).toNatClampNeg) &&& (gB t 808 ((v5 + v6)).toNatClampNeg))) (fun t11 : St => nm (v6 + (1 : Int32)) (fun x12 : Int32 => some (.inl (x12, t11)))))))) else (gd (v2 + v6) (gN t 808) (gd (v5 + v6) (gN t 808) (gd (v2 + v6) (gN t 808) (nm (sB t 808 (v2 + v6) ((gB t 808 ((v2 + v6)).toNatClampNeg) ||| (gB t 808 ((v5 + v6)).toNatClampNeg))) (fun t16 : St => nm (v6 + (1 : Int32)) (fun x17 : Int32 => some (.inl (x17, t16)))))))))
theorem mm_x8_fillRow_B111 (v1 : Int32) (v2 : Int32) (v3 : Int32) (v4 : Int32) (v5 : Int32) (v6 : Int32) (t : St) : MR (x8_fillRow_B111 v1 v2 v3 v4 v5 v6 t) t (Sum.elim (fun (x : Int32 × St) => x.2) (fun (y : St) => y)) := by
  unfold x8_fillRow_B111
  exact MR_ite (MR_some mle.rfl) (MR_ite (MR_gd (MR_gd (MR_gd (MR_nmS mle_sB (fun t11 ht11 => MR_nm (fun x12 _ => MR_some ht11)))))) (MR_gd (MR_gd (MR_gd (MR_nmS mle_sB (fun t16 ht16 => MR_nm (fun x17 _ => MR_some ht16)))))))
theorem mm_x8_fillRow_L111 (v1 : Int32) (v2 : Int32) (v3 : Int32) (v4 : Int32) (v5 : Int32) (v6 : Int32) (t : St) : MR (lp (fun x => x8_fillRow_B111 v1 v2 v3 v4 v5 x.1 x.2) (v6, t)) t (fun (y : St) => y) := MR_lp (p := (fun (x : Int32 × St) => x.2)) (q := (fun (y : St) => y)) (fun x => mm_x8_fillRow_B111 v1 v2 v3 v4 v5 x.1 x.2) (v6, t)
noncomputable def x8_fillRow_B72 (v1 : Int32) (v2 : Int32) (v3 : Int32) (v4 : Int32) (t : St) : Option ((Int32 × St) ⊕ (St)) :=
  gd v1 (gN t 604) (if (gA t 604 (v1).toNatClampNeg) ≤ v4 then (some (.inr t)) else ((x6_partOf t v1 v4).bind (fun q20 => gd q20 (gN t 812) (nm ((gA t 812 (q20).toNatClampNeg) * (gI t 804)) (fun x23 : Int32 => (lp (fun x => x8_fillRow_B111 v1 v2 v3 v4 x23 x.1 x.2) ((0 : Int32), t)).bind (fun y24 => nm (v4 + (1 : Int32)) (fun x27 : Int32 => some (.inl (x27, y24)))))))))
theorem mm_x8_fillRow_B72 (v1 : Int32) (v2 : Int32) (v3 : Int32) (v4 : Int32) (t : St) : MR (x8_fillRow_B72 v1 v2 v3 v4 t) t (Sum.elim (fun (x : Int32 × St) => x.2) (fun (y : St) => y)) := by
  unfold x8_fillRow_B72
  exact MR_gd (MR_ite (MR_some mle.rfl) (MR_bindn (fun q20 => MR_gd (MR_nm (fun x23 _ => MR_bind (mm_x8_fillRow_L111 v1 v2 v3 v4 x23 (0 : Int32) t) (fun y24 hm25 => MR_nm (fun x27 _ => MR_some hm25)))))))
theorem mm_x8_fillRow_L72 (v1 : Int32) (v2 : Int32) (v3 : Int32) (v4 : Int32) (t : St) : MR (lp (fun x => x8_fillRow_B72 v1 v2 v3 x.1 x.2) (v4, t)) t (fun (y : St) => y) := MR_lp (p := (fun (x : Int32 × St) => x.2)) (q := (fun (y : St) => y)) (fun x => mm_x8_fillRow_B72 v1 v2 v3 x.1 x.2) (v4, t)
noncomputable def x8_fillRow_J30 (t : St) (v1 : Int32) (v2 : Int32) (w0 : Int32) : Option (St) :=
  (lp (fun x => x8_fillRow_B34 v1 v2 w0 x.1 x.2) ((0 : Int32), t)).bind (fun y28 => (lp (fun x => x8_fillRow_B72 v1 v2 w0 x.1 x.2) ((0 : Int32), y28)).bind (fun y31 => some y31))
theorem mm_x8_fillRow_J30 (t : St) (v1 : Int32) (v2 : Int32) (w0 : Int32) : MR (x8_fillRow_J30 t v1 v2 w0) t (fun (a : St) => a) := by
  unfold x8_fillRow_J30
  exact MR_bind (mm_x8_fillRow_L34 v1 v2 w0 (0 : Int32) t) (fun y28 hm29 => MR_bind (mm_x8_fillRow_L72 v1 v2 w0 (0 : Int32) y28) (fun y31 hm32 => MR_some (mle.trans hm29 hm32)))
noncomputable def x8_fillRow (t : St) (a1 : Int32) : Option (St) :=
  gd a1 (gN t 812) (nm ((gA t 812 (a1).toNatClampNeg) * (gI t 804)) (fun x35 : Int32 => gd a1 (gN t 603) (if (gA t 603 (a1).toNatClampNeg) = (1 : Int32) then (x8_fillRow_J30 t a1 x35 (1 : Int32)) else (x8_fillRow_J30 t a1 x35 (0 : Int32)))))
theorem mm_x8_fillRow (t : St) (a1 : Int32) : MR (x8_fillRow t a1) t (fun (a : St) => a) := by
  unfold x8_fillRow
  exact MR_gd (MR_nm (fun x35 _ => MR_gd (MR_ite (MR_wk mle.rfl (mm_x8_fillRow_J30 t a1 x35 (1 : Int32))) (MR_wk mle.rfl (mm_x8_fillRow_J30 t a1 x35 (0 : Int32))))))
set_option maxHeartbeats 4000000 in
set_option maxRecDepth 100000 in
theorem x8_fillRow_L34 {p : Program} {l : Launch} {e : Env} {s : State} {m : MethodId} {args : Array Value} {below : List Frame} {meth : Method} {c : Code} {Q : State → Prop} {D : va_G} {cI cJ cZ cR : ClassId} {am gm : Nat → Nat} {st : Nat} {A : Nat → Prop} (C0 : cxX p s m args meth c cX8_fillRow RX8 7 none D (tyX cI cJ cZ cR) st A) {v1 : Int32} {v2 : Int32} {v3 : Int32} {y : St} (hK0 : ∀ (H : Heap) (locs : List Loc) (ls : Array Slot), wl D A s (wX cI cJ cZ cR am gm y) H locs → lv_has ls 7 [(0, .ref (am 2008)), (1, .int v1), (2, .int v2), (3, .int v3)] → W p l e (rmN 1 22) s m args below meth c H locs 0 0 Q (F0 m 69 ls [])) :
    ∀ (n : Nat) (v4 : Int32) (t : St), lpn (fun x => x8_fillRow_B34 v1 v2 v3 x.1 x.2) n (v4, t) = some y → ∀ (H : Heap) (locs : List Loc) (ls : Array Slot), wl D A s (wX cI cJ cZ cR am gm t) H locs → lv_has ls 7 [(0, .ref (am 2008)), (1, .int v1), (2, .int v2), (3, .int v3), (4, .int v4)] → W p l e (rmN 1 22) s m args below meth c H locs 0 0 Q (F0 m 34 ls []) := by
  have hx := C0.1.1
  have hb := C0.1.2.1
  have hta := C0.1.2.2.2.2.2.1
  have hown := C0.1.2.2.2.2.1
  intro n
  induction n with
  | zero => intro _ _ h; cases h
  | succ n ih =>
    intro v4 t hrun H locs ls hW hl
    obtain ⟨o, ho, hrun⟩ := bd_some hrun
    have J62 : ∀ (t : St) (v4 : Int32) (w1 : Int32) (w2 : Int64) (_ : x8_fillRow_J62 t v1 v2 v3 v4 w1 w2 = some o) (H : Heap) (locs : List Loc) (ls : Array Slot), wl D A s (wX cI cJ cZ cR am gm t) H locs → lv_has ls 7 [(0, .ref (am 2008)), (1, .int v1), (2, .int v2), (3, .int v3), (4, .int v4)] → W p l e (rmN 1 22) s m args below meth c H locs 0 0 Q (F0 m 62 ls [.long w2, .int w1, .ref (gm 808)]) := by
      intro t v4 w1 w2 ho H locs ls hW hl
      unfold x8_fillRow_J62 at ho
      obtain ⟨g1, ho⟩ := gd_some ho
      refine xST_808 C0 hW g1 dX8_fillRow_62 (fun H locs hW => ?_)
      obtain ⟨t2, ho, hW⟩ := nm_w (P := fun t => wl D A s (wX cI cJ cZ cR am gm t) H locs) ho hW
      obtain ⟨x3, ex3, ho⟩ := nm_x ho
      refine lv_iinc (v := x3) (lv' := [(4, .int x3), (0, .ref (am 2008)), (1, .int v1), (2, .int v2), (3, .int v3)]) hx hb dX8_fillRow_63 hl (k := 4) rfl (by rw [ex3]; rfl) (by decide) rfl (fun ls hl => ?_)
      clear ex3
      refine lv_goto (tgt := 34) hx hb dX8_fillRow_66 (by decide) ?_
      cases ho
      exact ih _ _ hrun _ _ _ hW (lv_sub hl [1, 2, 3, 4, 0] rfl)
    unfold x8_fillRow_B34 at ho
    refine lv_iload hx hb dX8_fillRow_34 (lv_at hl 4 rfl) ?_
    refine lv_aload_n hx hb dX8_fillRow_36 rfl (lv_at hl 0 rfl) ?_
    refine xGET_804 C0 kw_278 hW dX8_fillRow_37 ?_
    refine lv_icmp_ge (tgt := 69) hx hb dX8_fillRow_40 (by decide) (fun c4 => ?_) (fun c4 => ?_)
    · replace ho := ite_t c4 ho
      cases ho
      cases hrun
      exact hK0 _ _ _ hW (lv_sub hl [0, 1, 2, 3] rfl)
    · replace ho := ite_f c4 ho
      refine lv_aload_n hx hb dX8_fillRow_43 rfl (lv_at hl 0 rfl) ?_
      refine xGET_808 C0 kw_285 hW dX8_fillRow_44 ?_
      refine lv_iload_n hx hb dX8_fillRow_47 rfl (lv_at hl 2 rfl) ?_
      refine lv_iload hx hb dX8_fillRow_48 (lv_at hl 4 rfl) ?_
      refine lv_iadd hx hb dX8_fillRow_50 ?_
      refine lv_iload_n hx hb dX8_fillRow_51 rfl (lv_at hl 3 rfl) ?_
      refine lv_if_eq (tgt := 59) hx hb dX8_fillRow_52 (by decide) (fun c5 => ?_) (fun c5 => ?_)
      · replace ho := ite_t c5 ho
        refine lv_ldc2 hx hb hown (hta _ kw_837) dX8_fillRow_59 ?_
        exact J62 _ _ _ _ ho _ _ _ hW (lv_sub hl [0, 1, 2, 3, 4] rfl)
      · replace ho := ite_f c5 ho
        refine lv_lconst (v := (0 : Int64)) hx hb dX8_fillRow_55 (by decide) ?_
        refine lv_goto (tgt := 62) hx hb dX8_fillRow_56 (by decide) ?_
        exact J62 _ _ _ _ ho _ _ _ hW (lv_sub hl [0, 1, 2, 3, 4] rfl)
set_option maxHeartbeats 4000000 in
set_option maxRecDepth 100000 in
theorem x8_fillRow_L111 {p : Program} {l : Launch} {e : Env} {s : State} {m : MethodId} {args : Array Value} {below : List Frame} {meth : Method} {c : Code} {Q : State → Prop} {D : va_G} {cI cJ cZ cR : ClassId} {am gm : Nat → Nat} {st : Nat} {A : Nat → Prop} (C0 : cxX p s m args meth c cX8_fillRow RX8 7 none D (tyX cI cJ cZ cR) st A) {v1 : Int32} {v2 : Int32} {v3 : Int32} {v4 : Int32} {v5 : Int32} {y : St} (hK0 : ∀ (H : Heap) (locs : List Loc) (ls : Array Slot), wl D A s (wX cI cJ cZ cR am gm y) H locs → lv_has ls 7 [(0, .ref (am 2008)), (1, .int v1), (2, .int v2), (3, .int v3), (4, .int v4)] → W p l e (rmN 1 22) s m args below meth c H locs 0 0 Q (F0 m 177 ls [])) :
    ∀ (n : Nat) (v6 : Int32) (t : St), lpn (fun x => x8_fillRow_B111 v1 v2 v3 v4 v5 x.1 x.2) n (v6, t) = some y → ∀ (H : Heap) (locs : List Loc) (ls : Array Slot), wl D A s (wX cI cJ cZ cR am gm t) H locs → lv_has ls 7 [(0, .ref (am 2008)), (1, .int v1), (2, .int v2), (3, .int v3), (4, .int v4), (5, .int v5), (6, .int v6)] → W p l e (rmN 1 22) s m args below meth c H locs 0 0 Q (F0 m 111 ls []) := by
  have hx := C0.1.1
  have hb := C0.1.2.1
  have hta := C0.1.2.2.2.2.2.1
  have hown := C0.1.2.2.2.2.1
  intro n
  induction n with
  | zero => intro _ _ h; cases h
  | succ n ih =>
    intro v6 t hrun H locs ls hW hl
    obtain ⟨o, ho, hrun⟩ := bd_some hrun
    unfold x8_fillRow_B111 at ho
    refine lv_iload hx hb dX8_fillRow_111 (lv_at hl 6 rfl) ?_
    refine lv_aload_n hx hb dX8_fillRow_113 rfl (lv_at hl 0 rfl) ?_
    refine xGET_804 C0 kw_278 hW dX8_fillRow_114 ?_
    refine lv_icmp_ge (tgt := 177) hx hb dX8_fillRow_117 (by decide) (fun c6 => ?_) (fun c6 => ?_)
    · replace ho := ite_t c6 ho
      cases ho
      cases hrun
      exact hK0 _ _ _ hW (lv_sub hl [0, 1, 2, 3, 4] rfl)
    · replace ho := ite_f c6 ho
      refine lv_iload_n hx hb dX8_fillRow_120 rfl (lv_at hl 3 rfl) ?_
      refine lv_if_eq (tgt := 149) hx hb dX8_fillRow_121 (by decide) (fun c7 => ?_) (fun c7 => ?_)
      · replace ho := ite_t c7 ho
        refine lv_aload_n hx hb dX8_fillRow_149 rfl (lv_at hl 0 rfl) ?_
        refine xGET_808 C0 kw_285 hW dX8_fillRow_150 ?_
        refine lv_iload_n hx hb dX8_fillRow_153 rfl (lv_at hl 2 rfl) ?_
        refine lv_iload hx hb dX8_fillRow_154 (lv_at hl 6 rfl) ?_
        refine lv_iadd hx hb dX8_fillRow_156 ?_
        refine lv_dup2_11 hx hb dX8_fillRow_157 rfl rfl ?_
        obtain ⟨g8, ho⟩ := gd_some ho
        refine xLD_808 C0 hW g8 dX8_fillRow_158 ?_
        refine lv_aload_n hx hb dX8_fillRow_159 rfl (lv_at hl 0 rfl) ?_
        refine xGET_808 C0 kw_285 hW dX8_fillRow_160 ?_
        refine lv_iload hx hb dX8_fillRow_163 (lv_at hl 5 rfl) ?_
        refine lv_iload hx hb dX8_fillRow_165 (lv_at hl 6 rfl) ?_
        refine lv_iadd hx hb dX8_fillRow_167 ?_
        obtain ⟨g9, ho⟩ := gd_some ho
        refine xLD_808 C0 hW g9 dX8_fillRow_168 ?_
        refine lv_land hx hb dX8_fillRow_169 ?_
        obtain ⟨g10, ho⟩ := gd_some ho
        refine xST_808 C0 hW g10 dX8_fillRow_170 (fun H locs hW => ?_)
        obtain ⟨t11, ho, hW⟩ := nm_w (P := fun t => wl D A s (wX cI cJ cZ cR am gm t) H locs) ho hW
        obtain ⟨x12, ex12, ho⟩ := nm_x ho
        refine lv_iinc (v := x12) (lv' := [(6, .int x12), (0, .ref (am 2008)), (1, .int v1), (2, .int v2), (3, .int v3), (4, .int v4), (5, .int v5)]) hx hb dX8_fillRow_171 hl (k := 6) rfl (by rw [ex12]; rfl) (by decide) rfl (fun ls hl => ?_)
        clear ex12
        refine lv_goto (tgt := 111) hx hb dX8_fillRow_174 (by decide) ?_
        cases ho
        exact ih _ _ hrun _ _ _ hW (lv_sub hl [1, 2, 3, 4, 5, 6, 0] rfl)
      · replace ho := ite_f c7 ho
        refine lv_aload_n hx hb dX8_fillRow_124 rfl (lv_at hl 0 rfl) ?_
        refine xGET_808 C0 kw_285 hW dX8_fillRow_125 ?_
        refine lv_iload_n hx hb dX8_fillRow_128 rfl (lv_at hl 2 rfl) ?_
        refine lv_iload hx hb dX8_fillRow_129 (lv_at hl 6 rfl) ?_
        refine lv_iadd hx hb dX8_fillRow_131 ?_
        refine lv_dup2_11 hx hb dX8_fillRow_132 rfl rfl ?_
        obtain ⟨g13, ho⟩ := gd_some ho
        refine xLD_808 C0 hW g13 dX8_fillRow_133 ?_
        refine lv_aload_n hx hb dX8_fillRow_134 rfl (lv_at hl 0 rfl) ?_
        refine xGET_808 C0 kw_285 hW dX8_fillRow_135 ?_
        refine lv_iload hx hb dX8_fillRow_138 (lv_at hl 5 rfl) ?_
        refine lv_iload hx hb dX8_fillRow_140 (lv_at hl 6 rfl) ?_
        refine lv_iadd hx hb dX8_fillRow_142 ?_
        obtain ⟨g14, ho⟩ := gd_some ho
        refine xLD_808 C0 hW g14 dX8_fillRow_143 ?_
        refine lv_lor hx hb dX8_fillRow_144 ?_
        obtain ⟨g15, ho⟩ := gd_some ho
        refine xST_808 C0 hW g15 dX8_fillRow_145 (fun H locs hW => ?_)
        obtain ⟨t16, ho, hW⟩ := nm_w (P := fun t => wl D A s (wX cI cJ cZ cR am gm t) H locs) ho hW
        refine lv_goto (tgt := 171) hx hb dX8_fillRow_146 (by decide) ?_
        obtain ⟨x17, ex17, ho⟩ := nm_x ho
        refine lv_iinc (v := x17) (lv' := [(6, .int x17), (0, .ref (am 2008)), (1, .int v1), (2, .int v2), (3, .int v3), (4, .int v4), (5, .int v5)]) hx hb dX8_fillRow_171 hl (k := 6) rfl (by rw [ex17]; rfl) (by decide) rfl (fun ls hl => ?_)
        clear ex17
        refine lv_goto (tgt := 111) hx hb dX8_fillRow_174 (by decide) ?_
        cases ho
        exact ih _ _ hrun _ _ _ hW (lv_sub hl [1, 2, 3, 4, 5, 6, 0] rfl)
set_option maxHeartbeats 4000000 in
set_option maxRecDepth 100000 in
theorem x8_fillRow_L72 {p : Program} {l : Launch} {e : Env} {s : State} {m : MethodId} {args : Array Value} {below : List Frame} {meth : Method} {c : Code} {Q : State → Prop} {D : va_G} {cI cJ cZ cR : ClassId} {am gm : Nat → Nat} {st : Nat} {A : Nat → Prop} (C0 : cxX p s m args meth c cX8_fillRow RX8 7 none D (tyX cI cJ cZ cR) st A) {v1 : Int32} {v2 : Int32} {v3 : Int32} {y : St} (hK0 : ∀ (H : Heap) (locs : List Loc) (ls : Array Slot), wl D A s (wX cI cJ cZ cR am gm y) H locs → lv_has ls 7 [(0, .ref (am 2008))] → W p l e (rmN 1 22) s m args below meth c H locs 0 0 Q (F0 m 183 ls [])) :
    ∀ (n : Nat) (v4 : Int32) (t : St), lpn (fun x => x8_fillRow_B72 v1 v2 v3 x.1 x.2) n (v4, t) = some y → ∀ (H : Heap) (locs : List Loc) (ls : Array Slot), wl D A s (wX cI cJ cZ cR am gm t) H locs → lv_has ls 7 [(0, .ref (am 2008)), (1, .int v1), (2, .int v2), (3, .int v3), (4, .int v4)] → W p l e (rmN 1 22) s m args below meth c H locs 0 0 Q (F0 m 72 ls []) := by
  have hx := C0.1.1
  have hb := C0.1.2.1
  have hta := C0.1.2.2.2.2.2.1
  have hown := C0.1.2.2.2.2.1
  intro n
  induction n with
  | zero => intro _ _ h; cases h
  | succ n ih =>
    intro v4 t hrun H locs ls hW hl
    obtain ⟨o, ho, hrun⟩ := bd_some hrun
    unfold x8_fillRow_B72 at ho
    refine lv_iload hx hb dX8_fillRow_72 (lv_at hl 4 rfl) ?_
    refine lv_aload_n hx hb dX8_fillRow_74 rfl (lv_at hl 0 rfl) ?_
    refine xGET_800 C0 kw_269 hW dX8_fillRow_75 ?_
    refine xGET_604 C0 kw_191 hW dX8_fillRow_78 ?_
    refine lv_iload_n hx hb dX8_fillRow_81 rfl (lv_at hl 1 rfl) ?_
    obtain ⟨g18, ho⟩ := gd_some ho
    refine xLD_604 C0 hW g18 dX8_fillRow_82 ?_
    refine lv_icmp_ge (tgt := 183) hx hb dX8_fillRow_83 (by decide) (fun c19 => ?_) (fun c19 => ?_)
    · replace ho := ite_t c19 ho
      cases ho
      cases hrun
      exact hK0 _ _ _ hW (lv_sub hl [0] rfl)
    · replace ho := ite_f c19 ho
      refine lv_aload_n hx hb dX8_fillRow_86 rfl (lv_at hl 0 rfl) ?_
      refine xGET_812 C0 kw_289 hW dX8_fillRow_87 ?_
      refine lv_aload_n hx hb dX8_fillRow_90 rfl (lv_at hl 0 rfl) ?_
      refine xGET_800 C0 kw_269 hW dX8_fillRow_91 ?_
      refine lv_iload_n hx hb dX8_fillRow_94 rfl (lv_at hl 1 rfl) ?_
      refine lv_iload hx hb dX8_fillRow_95 (lv_at hl 4 rfl) ?_
      obtain ⟨q20, hc21, ho⟩ := bd_some ho
      refine bkI C0.1 hW (runVX (As := [.int v1, .int v4]) (rest := [.ref (am 812)]) C0 hW (c_x6_partOf l _ t v1 v4 (r := q20) hc21) cb_X8_X6_partOf_107 6 6 rfl rfl rfl rfl rfl ⟨rfl, rfl⟩ ⟨Nat.le_of_ble_eq_true rfl, Nat.le_of_ble_eq_true rfl⟩ (Nat.le_of_ble_eq_true rfl) hl.1 dX8_fillRow_97 ⟨Nat.le_of_ble_eq_true rfl, Nat.le_of_ble_eq_true rfl⟩) (fun H locs hW => ?_)
      obtain ⟨g22, ho⟩ := gd_some ho
      refine xLD_812 C0 hW g22 dX8_fillRow_100 ?_
      refine lv_aload_n hx hb dX8_fillRow_101 rfl (lv_at hl 0 rfl) ?_
      refine xGET_804 C0 kw_278 hW dX8_fillRow_102 ?_
      refine lv_imul hx hb dX8_fillRow_105 ?_
      refine lv_nmi ho (fun x23 ho => ?_)
      refine lv_istore (lv' := [(5, .int x23), (0, .ref (am 2008)), (1, .int v1), (2, .int v2), (3, .int v3), (4, .int v4)]) hx hb dX8_fillRow_106 hl (by decide) rfl (fun ls hl => ?_)
      refine lv_iconst (v := (0 : Int32)) hx hb dX8_fillRow_108 (by decide) ?_
      refine lv_istore (lv' := [(6, .int (0 : Int32)), (5, .int x23), (0, .ref (am 2008)), (1, .int v1), (2, .int v2), (3, .int v3), (4, .int v4)]) hx hb dX8_fillRow_109 hl (by decide) rfl (fun ls hl => ?_)
      obtain ⟨y24, hc26, ho⟩ := bd_some ho
      obtain ⟨ny24, hc26⟩ := lp_to hc26
      refine x8_fillRow_L111 C0 ?_ ny24 _ _ hc26 _ _ _ hW (lv_sub hl [2, 3, 4, 5, 6, 1, 0] rfl)
      intro H locs ls hW hl
      obtain ⟨x27, ex27, ho⟩ := nm_x ho
      refine lv_iinc (v := x27) (lv' := [(4, .int x27), (0, .ref (am 2008)), (1, .int v1), (2, .int v2), (3, .int v3)]) hx hb dX8_fillRow_177 hl (k := 4) rfl (by rw [ex27]; rfl) (by decide) rfl (fun ls hl => ?_)
      clear ex27
      refine lv_goto (tgt := 72) hx hb dX8_fillRow_180 (by decide) ?_
      cases ho
      exact ih _ _ hrun _ _ _ hW (lv_sub hl [1, 2, 3, 4, 0] rfl)
set_option maxHeartbeats 4000000 in
set_option maxRecDepth 100000 in
theorem c_x8_fillRow (l : Launch) {D : va_G} {cI cJ cZ cR : ClassId} {am gm : Nat → Nat} {st : Nat} (sz : Nat) (t : St) (a1 : Int32) {t' : St} (ho : x8_fillRow t a1 = some t') : Met l yX8_fillRow (.code yX8_fillRow cX8_fillRow 7 none :: wsAll) (rmN 1 22) (va_Pc [.ref (am 2008), .int a1] (prX D (tyX cI cJ cZ cR) (wX cI cJ cZ cR am gm t) sz st)) (qV D (tyX cI cJ cZ cR) (wX cI cJ cZ cR am gm t') (va_A (wX cI cJ cZ cR am gm t) sz)) 0 0 (va_A (wX cI cJ cZ cR am gm t) sz) := by
  refine Met.ofW (cc := cX8_fillRow) (maxL := 7) (ret := none) (by decide) rfl ?_
  intro p e s m args below meth c s₁ B hml hv
  obtain ⟨rfl, ⟨hsz, hP, hK, hD0⟩, hsx⟩ := hv
  have hx := B.exec
  have hb := B.bytes
  have hts := atoms_spec (ws := (.code yX8_fillRow cX8_fillRow 7 none :: wsAll)) B.pre
  have hta := fun w h => hts w (List.mem_cons_of_mem _ h)
  have hown : s.vm.findClass RX8 = some m.cls := findClass_of_methodNamed B.named
  have hlocks := B.notSynchronized
  subst hsz
  have hD := hD0.self (sz := s.heap.size)
  generalize hAe : va_A (wX cI cJ cZ cR am gm t) s.heap.size = A at hD ⊢
  have hA : ∀ q : Nat, s.heap.size ≤ q → A q := fun q h => by rw [← hAe]; exact Or.inr h
  have C0 : cxX p s m ([.ref (am 2008), .int a1].toArray) meth c cX8_fillRow RX8 7 none D (tyX cI cJ cZ cR) st A := ⟨⟨hx, hb, B.returns, hml, hown, hta, hlocks, hK, hA⟩, by rw [← hAe]; exact hsx⟩
  have hW : wl D A s (wX cI cJ cZ cR am gm t) s.heap [] := ⟨hP, hD, va_S.rf⟩
  have hl := lv_entry [.ref (am 2008), .int a1] (n := 7) (Nat.le_of_ble_eq_true rfl)
  rw [lg_entry_eq]
  generalize (lg_sl [.ref (am 2008), .int a1] ++ List.replicate (7 - (lg_sl [.ref (am 2008), .int a1]).length) Slot.unset).toArray = ls at hl ⊢
  have hl : lv_has ls 7 [(0, .ref (am 2008)), (1, .int a1)] := hl
  clear hAe hD hP hD0 hts
  have J30 : ∀ (t : St) (v1 : Int32) (v2 : Int32) (w0 : Int32) (_ : x8_fillRow_J30 t v1 v2 w0 = some t') (H : Heap) (locs : List Loc) (ls : Array Slot), wl D A s (wX cI cJ cZ cR am gm t) H locs → lv_has ls 7 [(0, .ref (am 2008)), (1, .int v1), (2, .int v2)] → W p l e (rmN 1 22) s m ([.ref (am 2008), .int a1].toArray) below meth c H locs 0 0 (MQ below (qV D (tyX cI cJ cZ cR) (wX cI cJ cZ cR am gm t') A) ([.ref (am 2008), .int a1].toArray) s 0 0 A) (F0 m 30 ls [.int w0]) := by
    intro t v1 v2 w0 ho H locs ls hW hl
    unfold x8_fillRow_J30 at ho
    refine lv_istore_n (lv' := [(3, .int w0), (0, .ref (am 2008)), (1, .int v1), (2, .int v2)]) hx hb dX8_fillRow_30 rfl hl (by decide) rfl (fun ls hl => ?_)
    refine lv_iconst (v := (0 : Int32)) hx hb dX8_fillRow_31 (by decide) ?_
    refine lv_istore (lv' := [(4, .int (0 : Int32)), (3, .int w0), (0, .ref (am 2008)), (1, .int v1), (2, .int v2)]) hx hb dX8_fillRow_32 hl (by decide) rfl (fun ls hl => ?_)
    obtain ⟨y28, hc30, ho⟩ := bd_some ho
    obtain ⟨ny28, hc30⟩ := lp_to hc30
    refine x8_fillRow_L34 C0 ?_ ny28 _ _ hc30 _ _ _ hW (lv_sub hl [2, 3, 4, 1, 0] rfl)
    intro H locs ls hW hl
    refine lv_iconst (v := (0 : Int32)) hx hb dX8_fillRow_69 (by decide) ?_
    refine lv_istore (lv' := [(4, .int (0 : Int32)), (0, .ref (am 2008)), (1, .int v1), (2, .int v2), (3, .int w0)]) hx hb dX8_fillRow_70 hl (by decide) rfl (fun ls hl => ?_)
    obtain ⟨y31, hc33, ho⟩ := bd_some ho
    obtain ⟨ny31, hc33⟩ := lp_to hc33
    refine x8_fillRow_L72 C0 ?_ ny31 _ _ hc33 _ _ _ hW (lv_sub hl [1, 2, 3, 4, 0] rfl)
    intro H locs ls hW hl
    cases ho
    exact rtV C0.1 hW dX8_fillRow_183
  unfold x8_fillRow at ho
  refine lv_aload_n hx hb dX8_fillRow_0 rfl (lv_at hl 0 rfl) ?_
  refine xGET_812 C0 kw_289 hW dX8_fillRow_1 ?_
  refine lv_iload_n hx hb dX8_fillRow_4 rfl (lv_at hl 1 rfl) ?_
  obtain ⟨g34, ho⟩ := gd_some ho
  refine xLD_812 C0 hW g34 dX8_fillRow_5 ?_
  refine lv_aload_n hx hb dX8_fillRow_6 rfl (lv_at hl 0 rfl) ?_
  refine xGET_804 C0 kw_278 hW dX8_fillRow_7 ?_
  refine lv_imul hx hb dX8_fillRow_10 ?_
  refine lv_nmi ho (fun x35 ho => ?_)
  refine lv_istore_n (lv' := [(2, .int x35), (0, .ref (am 2008)), (1, .int a1)]) hx hb dX8_fillRow_11 rfl hl (by decide) rfl (fun ls hl => ?_)
  refine lv_aload_n hx hb dX8_fillRow_12 rfl (lv_at hl 1 rfl) ?_
  refine xGET_800 C0 kw_269 hW dX8_fillRow_13 ?_
  refine xGET_603 C0 kw_187 hW dX8_fillRow_16 ?_
  refine lv_iload_n hx hb dX8_fillRow_19 rfl (lv_at hl 2 rfl) ?_
  obtain ⟨g36, ho⟩ := gd_some ho
  refine xLD_603 C0 hW g36 dX8_fillRow_20 ?_
  refine lv_iconst (v := (1 : Int32)) hx hb dX8_fillRow_21 (by decide) ?_
  refine lv_icmp_ne (tgt := 29) hx hb dX8_fillRow_22 (by decide) (fun c37 => ?_) (fun c37 => ?_)
  · replace ho := ite_f c37 ho
    refine lv_iconst (v := (0 : Int32)) hx hb dX8_fillRow_29 (by decide) ?_
    exact J30 _ _ _ _ ho _ _ _ hW (lv_sub hl [1, 2, 0] rfl)
  · replace ho := ite_t c37 ho
    refine lv_iconst (v := (1 : Int32)) hx hb dX8_fillRow_25 (by decide) ?_
    refine lv_goto (tgt := 30) hx hb dX8_fillRow_26 (by decide) ?_
    exact J30 _ _ _ _ ho _ _ _ hW (lv_sub hl [1, 2, 0] rfl)
noncomputable def j7_fill_d0a16_814_B6 (v1 : Int64) (v4 : Int32) (v3 : Int32) (t : St) : Option ((Int32 × St) ⊕ (St)) :=
  if v4 ≤ v3 then (some (.inr t)) else (gd v3 (gN t 814) (nm (sB t 814 v3 v1) (fun t3 : St => nm (v3 + (1 : Int32)) (fun x4 : Int32 => some (.inl (x4, t3))))))
theorem mm_j7_fill_d0a16_814_B6 (v1 : Int64) (v4 : Int32) (v3 : Int32) (t : St) : MR (j7_fill_d0a16_814_B6 v1 v4 v3 t) t (Sum.elim (fun (x : Int32 × St) => x.2) (fun (y : St) => y)) := by
  unfold j7_fill_d0a16_814_B6
  exact MR_ite (MR_some mle.rfl) (MR_gd (MR_nmS mle_sB (fun t3 ht3 => MR_nm (fun x4 _ => MR_some ht3))))
theorem mm_j7_fill_d0a16_814_L6 (v1 : Int64) (v4 : Int32) (v3 : Int32) (t : St) : MR (lp (fun x => j7_fill_d0a16_814_B6 v1 v4 x.1 x.2) (v3, t)) t (fun (y : St) => y) := MR_lp (p := (fun (x : Int32 × St) => x.2)) (q := (fun (y : St) => y)) (fun x => mm_j7_fill_d0a16_814_B6 v1 v4 x.1 x.2) (v3, t)
noncomputable def j7_fill_d0a16_814 (t : St) (a1 : Int64) : Option (St) :=
  nm (Int32.ofNat (gN t 814)) (fun x5 : Int32 => (lp (fun x => j7_fill_d0a16_814_B6 a1 x5 x.1 x.2) ((0 : Int32), t)).bind (fun y6 => some y6))
theorem mm_j7_fill_d0a16_814 (t : St) (a1 : Int64) : MR (j7_fill_d0a16_814 t a1) t (fun (a : St) => a) := by
  unfold j7_fill_d0a16_814
  exact MR_nm (fun x5 _ => MR_bind (mm_j7_fill_d0a16_814_L6 a1 x5 (0 : Int32) t) (fun y6 hm7 => MR_some hm7))
set_option maxHeartbeats 4000000 in
set_option maxRecDepth 100000 in
theorem j7_fill_d0a16_814_L6 {p : Program} {l : Launch} {e : Env} {s : State} {m : MethodId} {args : Array Value} {below : List Frame} {meth : Method} {c : Code} {Q : State → Prop} {D : va_G} {cI cJ cZ cR : ClassId} {am gm : Nat → Nat} {st : Nat} {A : Nat → Prop} (C0 : cxX p s m args meth c cJ7_fill_d0a16 RJ7 5 none D (tyX cI cJ cZ cR) st A) {v1 : Int64} {v4 : Int32} {y : St} (hK0 : ∀ (H : Heap) (locs : List Loc) (ls : Array Slot), wl D A s (wX cI cJ cZ cR am gm y) H locs → lv_has ls 5 [] → W p l e (rmN 0 0) s m args below meth c H locs 0 0 Q (F0 m 22 ls [])) :
    ∀ (n : Nat) (v3 : Int32) (t : St), lpn (fun x => j7_fill_d0a16_814_B6 v1 v4 x.1 x.2) n (v3, t) = some y → ∀ (H : Heap) (locs : List Loc) (ls : Array Slot), wl D A s (wX cI cJ cZ cR am gm t) H locs → lv_has ls 5 [(0, .ref (am 814)), (1, .long v1), (3, .int v3), (4, .int v4)] → W p l e (rmN 0 0) s m args below meth c H locs 0 0 Q (F0 m 6 ls []) := by
  have hx := C0.1.1
  have hb := C0.1.2.1
  have hta := C0.1.2.2.2.2.2.1
  have hown := C0.1.2.2.2.2.1
  intro n
  induction n with
  | zero => intro _ _ h; cases h
  | succ n ih =>
    intro v3 t hrun H locs ls hW hl
    obtain ⟨o, ho, hrun⟩ := bd_some hrun
    unfold j7_fill_d0a16_814_B6 at ho
    refine lv_iload_n hx hb dJ7_fill_d0a16_6 rfl (lv_at hl 2 rfl) ?_
    refine lv_iload hx hb dJ7_fill_d0a16_7 (lv_at hl 3 rfl) ?_
    refine lv_icmp_ge (tgt := 22) hx hb dJ7_fill_d0a16_9 (by decide) (fun c1 => ?_) (fun c1 => ?_)
    · replace ho := ite_t c1 ho
      cases ho
      cases hrun
      exact hK0 _ _ _ hW (lv_sub hl [] rfl)
    · replace ho := ite_f c1 ho
      refine lv_aload_n hx hb dJ7_fill_d0a16_12 rfl (lv_at hl 0 rfl) ?_
      refine lv_iload_n hx hb dJ7_fill_d0a16_13 rfl (lv_at hl 2 rfl) ?_
      refine lv_lload_n hx hb dJ7_fill_d0a16_14 rfl (lv_at hl 1 rfl) ?_
      obtain ⟨g2, ho⟩ := gd_some ho
      refine xST_814 C0 hW g2 dJ7_fill_d0a16_15 (fun H locs hW => ?_)
      obtain ⟨t3, ho, hW⟩ := nm_w (P := fun t => wl D A s (wX cI cJ cZ cR am gm t) H locs) ho hW
      obtain ⟨x4, ex4, ho⟩ := nm_x ho
      refine lv_iinc (v := x4) (lv' := [(3, .int x4), (0, .ref (am 814)), (1, .long v1), (4, .int v4)]) hx hb dJ7_fill_d0a16_16 hl (k := 2) rfl (by rw [ex4]; rfl) (by decide) rfl (fun ls hl => ?_)
      clear ex4
      refine lv_goto (tgt := 6) hx hb dJ7_fill_d0a16_19 (by decide) ?_
      cases ho
      exact ih _ _ hrun _ _ _ hW (lv_sub hl [1, 2, 0, 3] rfl)
set_option maxHeartbeats 4000000 in
set_option maxRecDepth 100000 in
theorem c_j7_fill_d0a16_814 (l : Launch) {D : va_G} {cI cJ cZ cR : ClassId} {am gm : Nat → Nat} {st : Nat} (sz : Nat) (t : St) (a1 : Int64) {t' : St} (ho : j7_fill_d0a16_814 t a1 = some t') : Met l yJ7_fill_d0a16 (.code yJ7_fill_d0a16 cJ7_fill_d0a16 5 none :: wsAll) (rmN 0 0) (va_Pc [.ref (am 814), .long a1] (prX D (tyX cI cJ cZ cR) (wX cI cJ cZ cR am gm t) sz st)) (qV D (tyX cI cJ cZ cR) (wX cI cJ cZ cR am gm t') (va_A (wX cI cJ cZ cR am gm t) sz)) 0 0 (va_A (wX cI cJ cZ cR am gm t) sz) := by
  refine Met.ofW (cc := cJ7_fill_d0a16) (maxL := 5) (ret := none) (by decide) rfl ?_
  intro p e s m args below meth c s₁ B hml hv
  obtain ⟨rfl, ⟨hsz, hP, hK, hD0⟩, hsx⟩ := hv
  have hx := B.exec
  have hb := B.bytes
  have hts := atoms_spec (ws := (.code yJ7_fill_d0a16 cJ7_fill_d0a16 5 none :: wsAll)) B.pre
  have hta := fun w h => hts w (List.mem_cons_of_mem _ h)
  have hown : s.vm.findClass RJ7 = some m.cls := findClass_of_methodNamed B.named
  have hlocks := B.notSynchronized
  subst hsz
  have hD := hD0.self (sz := s.heap.size)
  generalize hAe : va_A (wX cI cJ cZ cR am gm t) s.heap.size = A at hD ⊢
  have hA : ∀ q : Nat, s.heap.size ≤ q → A q := fun q h => by rw [← hAe]; exact Or.inr h
  have C0 : cxX p s m ([.ref (am 814), .long a1].toArray) meth c cJ7_fill_d0a16 RJ7 5 none D (tyX cI cJ cZ cR) st A := ⟨⟨hx, hb, B.returns, hml, hown, hta, hlocks, hK, hA⟩, by rw [← hAe]; exact hsx⟩
  have hW : wl D A s (wX cI cJ cZ cR am gm t) s.heap [] := ⟨hP, hD, va_S.rf⟩
  have hl := lv_entry [.ref (am 814), .long a1] (n := 5) (Nat.le_of_ble_eq_true rfl)
  rw [lg_entry_eq]
  generalize (lg_sl [.ref (am 814), .long a1] ++ List.replicate (5 - (lg_sl [.ref (am 814), .long a1]).length) Slot.unset).toArray = ls at hl ⊢
  have hl : lv_has ls 5 [(0, .ref (am 814)), (1, .long a1)] := hl
  unfold j7_fill_d0a16_814 at ho
  refine lv_iconst (v := (0 : Int32)) hx hb dJ7_fill_d0a16_0 (by decide) ?_
  refine lv_istore_n (lv' := [(3, .int (0 : Int32)), (0, .ref (am 814)), (1, .long a1)]) hx hb dJ7_fill_d0a16_1 rfl hl (by decide) rfl (fun ls hl => ?_)
  refine lv_aload_n hx hb dJ7_fill_d0a16_2 rfl (lv_at hl 1 rfl) ?_
  refine xLEN_814 C0 hW dJ7_fill_d0a16_3 ?_
  refine lv_nmi ho (fun x5 ho => ?_)
  refine lv_istore (lv' := [(4, .int x5), (3, .int (0 : Int32)), (0, .ref (am 814)), (1, .long a1)]) hx hb dJ7_fill_d0a16_4 hl (by decide) rfl (fun ls hl => ?_)
  obtain ⟨y6, hc8, ho⟩ := bd_some ho
  obtain ⟨ny6, hc8⟩ := lp_to hc8
  refine j7_fill_d0a16_814_L6 C0 ?_ ny6 _ _ hc8 _ _ _ hW (lv_sub hl [2, 3, 1, 0] rfl)
  intro H locs ls hW hl
  cases ho
  exact rtV C0.1 hW dJ7_fill_d0a16_22
noncomputable def x8_fillSome_B96 (v1 : Int32) (v2 : Int32) (v3 : Int32) (v4 : Int32) (v5 : Int64) (v7 : Int32) (t : St) : Option ((Int32 × St) ⊕ (St)) :=
  if v7 ≤ 0 then (some (.inr t)) else (gd v7 (gN t 814) (gd (v7 - (1 : Int32)) (gN t 814) (gd v7 (gN t 814) (nm (sB t 814 v7 ((gB t 814 (v7).toNatClampNeg) ||| ((gB t 814 ((v7 - (1 : Int32))).toNatClampNeg) &&& v5))) (fun t5 : St => nm (v7 + (-1 : Int32)) (fun x6 : Int32 => some (.inl (x6, t5))))))))
theorem mm_x8_fillSome_B96 (v1 : Int32) (v2 : Int32) (v3 : Int32) (v4 : Int32) (v5 : Int64) (v7 : Int32) (t : St) : MR (x8_fillSome_B96 v1 v2 v3 v4 v5 v7 t) t (Sum.elim (fun (x : Int32 × St) => x.2) (fun (y : St) => y)) := by
  unfold x8_fillSome_B96
  exact MR_ite (MR_some mle.rfl) (MR_gd (MR_gd (MR_gd (MR_nmS mle_sB (fun t5 ht5 => MR_nm (fun x6 _ => MR_some ht5))))))
theorem mm_x8_fillSome_L96 (v1 : Int32) (v2 : Int32) (v3 : Int32) (v4 : Int32) (v5 : Int64) (v7 : Int32) (t : St) : MR (lp (fun x => x8_fillSome_B96 v1 v2 v3 v4 v5 x.1 x.2) (v7, t)) t (fun (y : St) => y) := MR_lp (p := (fun (x : Int32 × St) => x.2)) (q := (fun (y : St) => y)) (fun x => mm_x8_fillSome_B96 v1 v2 v3 v4 v5 x.1 x.2) (v7, t)
noncomputable def x8_fillSome_B50 (v1 : Int32) (v2 : Int32) (v3 : Int32) (v4 : Int32) (t : St) : Option ((Int32 × St) ⊕ (St)) :=
  gd v1 (gN t 604) (if (gA t 604 (v1).toNatClampNeg) ≤ v4 then (some (.inr t)) else ((x6_partOf t v1 v4).bind (fun q9 => gd q9 (gN t 812) (gd (((gA t 812 (q9).toNatClampNeg) * (gI t 804)) + v3) (gN t 808) (nm (gB t 808 ((((gA t 812 (q9).toNatClampNeg) * (gI t 804)) + v3)).toNatClampNeg) (fun x13 : Int64 => (lp (fun x => x8_fillSome_B96 v1 v2 v3 v4 x13 x.1 x.2) (v2, t)).bind (fun y14 => nm (v4 + (1 : Int32)) (fun x17 : Int32 => some (.inl (x17, y14))))))))))
theorem mm_x8_fillSome_B50 (v1 : Int32) (v2 : Int32) (v3 : Int32) (v4 : Int32) (t : St) : MR (x8_fillSome_B50 v1 v2 v3 v4 t) t (Sum.elim (fun (x : Int32 × St) => x.2) (fun (y : St) => y)) := by
  unfold x8_fillSome_B50
  exact MR_gd (MR_ite (MR_some mle.rfl) (MR_bindn (fun q9 => MR_gd (MR_gd (MR_nm (fun x13 _ => MR_bind (mm_x8_fillSome_L96 v1 v2 v3 v4 x13 v2 t) (fun y14 hm15 => MR_nm (fun x17 _ => MR_some hm15))))))))
theorem mm_x8_fillSome_L50 (v1 : Int32) (v2 : Int32) (v3 : Int32) (v4 : Int32) (t : St) : MR (lp (fun x => x8_fillSome_B50 v1 v2 v3 x.1 x.2) (v4, t)) t (fun (y : St) => y) := MR_lp (p := (fun (x : Int32 × St) => x.2)) (q := (fun (y : St) => y)) (fun x => mm_x8_fillSome_B50 v1 v2 v3 x.1 x.2) (v4, t)
noncomputable def x8_fillSome_B22 (v1 : Int32) (v2 : Int32) (v3 : Int32) (t : St) : Option ((Int32 × St) ⊕ (St)) :=
  if (gI t 804) ≤ v3 then (some (.inr t)) else ((j7_fill_d0a16_814 t (0 : Int64)).bind (fun q19 => gd (0 : Int32) (gN q19 814) (nm (sB q19 814 (0 : Int32) (-1 : Int64)) (fun t22 : St => (lp (fun x => x8_fillSome_B50 v1 v2 v3 x.1 x.2) ((0 : Int32), t22)).bind (fun y23 => gd v1 (gN y23 812) (gd v2 (gN y23 814) (gd (((gA y23 812 (v1).toNatClampNeg) * (gI y23 804)) + v3) (gN y23 808) (nm (sB y23 808 (((gA y23 812 (v1).toNatClampNeg) * (gI y23 804)) + v3) (gB y23 814 (v2).toNatClampNeg)) (fun t29 : St => nm (v3 + (1 : Int32)) (fun x30 : Int32 => some (.inl (x30, t29))))))))))))
theorem mm_x8_fillSome_B22 (v1 : Int32) (v2 : Int32) (v3 : Int32) (t : St) : MR (x8_fillSome_B22 v1 v2 v3 t) t (Sum.elim (fun (x : Int32 × St) => x.2) (fun (y : St) => y)) := by
  unfold x8_fillSome_B22
  exact MR_ite (MR_some mle.rfl) (MR_bind (mm_j7_fill_d0a16_814 t (0 : Int64)) (fun q19 hq19 => MR_gd (MR_nmS mle_sB (fun t22 ht22 => MR_bind (mm_x8_fillSome_L50 v1 v2 v3 (0 : Int32) t22) (fun y23 hm24 => MR_gd (MR_gd (MR_gd (MR_nmS mle_sB (fun t29 ht29 => MR_nm (fun x30 _ => MR_some (mle.trans (mle.trans (mle.trans hq19 ht22) hm24) ht29)))))))))))
theorem mm_x8_fillSome_L22 (v1 : Int32) (v2 : Int32) (v3 : Int32) (t : St) : MR (lp (fun x => x8_fillSome_B22 v1 v2 x.1 x.2) (v3, t)) t (fun (y : St) => y) := MR_lp (p := (fun (x : Int32 × St) => x.2)) (q := (fun (y : St) => y)) (fun x => mm_x8_fillSome_B22 v1 v2 x.1 x.2) (v3, t)
noncomputable def x8_fillSome (t : St) (a1 : Int32) : Option (St) :=
  gd a1 (gN t 605) (nm (if ((Int32.ofNat (gN t 814)) - (1 : Int32)) < (gA t 605 (a1).toNatClampNeg) then ((Int32.ofNat (gN t 814)) - (1 : Int32)) else (gA t 605 (a1).toNatClampNeg)) (fun x32 : Int32 => (lp (fun x => x8_fillSome_B22 a1 x32 x.1 x.2) ((0 : Int32), t)).bind (fun y33 => some y33)))
theorem mm_x8_fillSome (t : St) (a1 : Int32) : MR (x8_fillSome t a1) t (fun (a : St) => a) := by
  unfold x8_fillSome
  exact MR_gd (MR_nm (fun x32 _ => MR_bind (mm_x8_fillSome_L22 a1 x32 (0 : Int32) t) (fun y33 hm34 => MR_some hm34)))
set_option maxHeartbeats 4000000 in
set_option maxRecDepth 100000 in
theorem x8_fillSome_L96 {p : Program} {l : Launch} {e : Env} {s : State} {m : MethodId} {args : Array Value} {below : List Frame} {meth : Method} {c : Code} {Q : State → Prop} {D : va_G} {cI cJ cZ cR : ClassId} {am gm : Nat → Nat} {st : Nat} {A : Nat → Prop} (C0 : cxX p s m args meth c cX8_fillSome RX8 8 none D (tyX cI cJ cZ cR) st A) {v1 : Int32} {v2 : Int32} {v3 : Int32} {v4 : Int32} {v5 : Int64} {y : St} (hK0 : ∀ (H : Heap) (locs : List Loc) (ls : Array Slot), wl D A s (wX cI cJ cZ cR am gm y) H locs → lv_has ls 8 [(0, .ref (am 2008)), (1, .int v1), (2, .int v2), (3, .int v3), (4, .int v4)] → W p l e (rmN 1 24) s m args below meth c H locs 0 0 Q (F0 m 129 ls [])) :
    ∀ (n : Nat) (v7 : Int32) (t : St), lpn (fun x => x8_fillSome_B96 v1 v2 v3 v4 v5 x.1 x.2) n (v7, t) = some y → ∀ (H : Heap) (locs : List Loc) (ls : Array Slot), wl D A s (wX cI cJ cZ cR am gm t) H locs → lv_has ls 8 [(0, .ref (am 2008)), (1, .int v1), (2, .int v2), (3, .int v3), (4, .int v4), (5, .long v5), (7, .int v7)] → W p l e (rmN 1 24) s m args below meth c H locs 0 0 Q (F0 m 96 ls []) := by
  have hx := C0.1.1
  have hb := C0.1.2.1
  have hta := C0.1.2.2.2.2.2.1
  have hown := C0.1.2.2.2.2.1
  intro n
  induction n with
  | zero => intro _ _ h; cases h
  | succ n ih =>
    intro v7 t hrun H locs ls hW hl
    obtain ⟨o, ho, hrun⟩ := bd_some hrun
    unfold x8_fillSome_B96 at ho
    refine lv_iload hx hb dX8_fillSome_96 (lv_at hl 6 rfl) ?_
    refine lv_if_le (tgt := 129) hx hb dX8_fillSome_98 (by decide) (fun c1 => ?_) (fun c1 => ?_)
    · replace ho := ite_t c1 ho
      cases ho
      cases hrun
      exact hK0 _ _ _ hW (lv_sub hl [0, 1, 2, 3, 4] rfl)
    · replace ho := ite_f c1 ho
      refine lv_aload_n hx hb dX8_fillSome_101 rfl (lv_at hl 0 rfl) ?_
      refine xGET_814 C0 kw_291 hW dX8_fillSome_102 ?_
      refine lv_iload hx hb dX8_fillSome_105 (lv_at hl 6 rfl) ?_
      refine lv_dup2_11 hx hb dX8_fillSome_107 rfl rfl ?_
      obtain ⟨g2, ho⟩ := gd_some ho
      refine xLD_814 C0 hW g2 dX8_fillSome_108 ?_
      refine lv_aload_n hx hb dX8_fillSome_109 rfl (lv_at hl 0 rfl) ?_
      refine xGET_814 C0 kw_291 hW dX8_fillSome_110 ?_
      refine lv_iload hx hb dX8_fillSome_113 (lv_at hl 6 rfl) ?_
      refine lv_iconst (v := (1 : Int32)) hx hb dX8_fillSome_115 (by decide) ?_
      refine lv_isub hx hb dX8_fillSome_116 ?_
      obtain ⟨g3, ho⟩ := gd_some ho
      refine xLD_814 C0 hW g3 dX8_fillSome_117 ?_
      refine lv_lload hx hb dX8_fillSome_118 (lv_at hl 5 rfl) ?_
      refine lv_land hx hb dX8_fillSome_120 ?_
      refine lv_lor hx hb dX8_fillSome_121 ?_
      obtain ⟨g4, ho⟩ := gd_some ho
      refine xST_814 C0 hW g4 dX8_fillSome_122 (fun H locs hW => ?_)
      obtain ⟨t5, ho, hW⟩ := nm_w (P := fun t => wl D A s (wX cI cJ cZ cR am gm t) H locs) ho hW
      obtain ⟨x6, ex6, ho⟩ := nm_x ho
      refine lv_iinc (v := x6) (lv' := [(7, .int x6), (0, .ref (am 2008)), (1, .int v1), (2, .int v2), (3, .int v3), (4, .int v4), (5, .long v5)]) hx hb dX8_fillSome_123 hl (k := 6) rfl (by rw [ex6]; rfl) (by decide) rfl (fun ls hl => ?_)
      clear ex6
      refine lv_goto (tgt := 96) hx hb dX8_fillSome_126 (by decide) ?_
      cases ho
      exact ih _ _ hrun _ _ _ hW (lv_sub hl [1, 2, 3, 4, 5, 6, 0] rfl)
set_option maxHeartbeats 4000000 in
set_option maxRecDepth 100000 in
theorem x8_fillSome_L50 {p : Program} {l : Launch} {e : Env} {s : State} {m : MethodId} {args : Array Value} {below : List Frame} {meth : Method} {c : Code} {Q : State → Prop} {D : va_G} {cI cJ cZ cR : ClassId} {am gm : Nat → Nat} {st : Nat} {A : Nat → Prop} (C0 : cxX p s m args meth c cX8_fillSome RX8 8 none D (tyX cI cJ cZ cR) st A) {v1 : Int32} {v2 : Int32} {v3 : Int32} {y : St} (hK0 : ∀ (H : Heap) (locs : List Loc) (ls : Array Slot), wl D A s (wX cI cJ cZ cR am gm y) H locs → lv_has ls 8 [(0, .ref (am 2008)), (1, .int v1), (2, .int v2), (3, .int v3)] → W p l e (rmN 1 24) s m args below meth c H locs 0 0 Q (F0 m 135 ls [])) :
    ∀ (n : Nat) (v4 : Int32) (t : St), lpn (fun x => x8_fillSome_B50 v1 v2 v3 x.1 x.2) n (v4, t) = some y → ∀ (H : Heap) (locs : List Loc) (ls : Array Slot), wl D A s (wX cI cJ cZ cR am gm t) H locs → lv_has ls 8 [(0, .ref (am 2008)), (1, .int v1), (2, .int v2), (3, .int v3), (4, .int v4)] → W p l e (rmN 1 24) s m args below meth c H locs 0 0 Q (F0 m 50 ls []) := by
  have hx := C0.1.1
  have hb := C0.1.2.1
  have hta := C0.1.2.2.2.2.2.1
  have hown := C0.1.2.2.2.2.1
  intro n
  induction n with
  | zero => intro _ _ h; cases h
  | succ n ih =>
    intro v4 t hrun H locs ls hW hl
    obtain ⟨o, ho, hrun⟩ := bd_some hrun
    unfold x8_fillSome_B50 at ho
    refine lv_iload hx hb dX8_fillSome_50 (lv_at hl 4 rfl) ?_
    refine lv_aload_n hx hb dX8_fillSome_52 rfl (lv_at hl 0 rfl) ?_
    refine xGET_800 C0 kw_269 hW dX8_fillSome_53 ?_
    refine xGET_604 C0 kw_191 hW dX8_fillSome_56 ?_
    refine lv_iload_n hx hb dX8_fillSome_59 rfl (lv_at hl 1 rfl) ?_
    obtain ⟨g7, ho⟩ := gd_some ho
    refine xLD_604 C0 hW g7 dX8_fillSome_60 ?_
    refine lv_icmp_ge (tgt := 135) hx hb dX8_fillSome_61 (by decide) (fun c8 => ?_) (fun c8 => ?_)
    · replace ho := ite_t c8 ho
      cases ho
      cases hrun
      exact hK0 _ _ _ hW (lv_sub hl [0, 1, 2, 3] rfl)
    · replace ho := ite_f c8 ho
      refine lv_aload_n hx hb dX8_fillSome_64 rfl (lv_at hl 0 rfl) ?_
      refine xGET_808 C0 kw_285 hW dX8_fillSome_65 ?_
      refine lv_aload_n hx hb dX8_fillSome_68 rfl (lv_at hl 0 rfl) ?_
      refine xGET_812 C0 kw_289 hW dX8_fillSome_69 ?_
      refine lv_aload_n hx hb dX8_fillSome_72 rfl (lv_at hl 0 rfl) ?_
      refine xGET_800 C0 kw_269 hW dX8_fillSome_73 ?_
      refine lv_iload_n hx hb dX8_fillSome_76 rfl (lv_at hl 1 rfl) ?_
      refine lv_iload hx hb dX8_fillSome_77 (lv_at hl 4 rfl) ?_
      obtain ⟨q9, hc10, ho⟩ := bd_some ho
      refine bkI C0.1 hW (runVX (As := [.int v1, .int v4]) (rest := [.ref (am 812), .ref (gm 808)]) C0 hW (c_x6_partOf l _ t v1 v4 (r := q9) hc10) cb_X8_X6_partOf_107 6 6 rfl rfl rfl rfl rfl ⟨rfl, rfl⟩ ⟨Nat.le_of_ble_eq_true rfl, Nat.le_of_ble_eq_true rfl⟩ (Nat.le_of_ble_eq_true rfl) hl.1 dX8_fillSome_79 ⟨Nat.le_of_ble_eq_true rfl, Nat.le_of_ble_eq_true rfl⟩) (fun H locs hW => ?_)
      obtain ⟨g11, ho⟩ := gd_some ho
      refine xLD_812 C0 hW g11 dX8_fillSome_82 ?_
      refine lv_aload_n hx hb dX8_fillSome_83 rfl (lv_at hl 0 rfl) ?_
      refine xGET_804 C0 kw_278 hW dX8_fillSome_84 ?_
      refine lv_imul hx hb dX8_fillSome_87 ?_
      refine lv_iload_n hx hb dX8_fillSome_88 rfl (lv_at hl 3 rfl) ?_
      refine lv_iadd hx hb dX8_fillSome_89 ?_
      obtain ⟨g12, ho⟩ := gd_some ho
      refine xLD_808 C0 hW g12 dX8_fillSome_90 ?_
      refine lv_nml ho (fun x13 ho => ?_)
      refine lv_lstore (lv' := [(5, .long x13), (0, .ref (am 2008)), (1, .int v1), (2, .int v2), (3, .int v3), (4, .int v4)]) hx hb dX8_fillSome_91 hl (by decide) rfl (fun ls hl => ?_)
      refine lv_iload_n hx hb dX8_fillSome_93 rfl (lv_at hl 3 rfl) ?_
      refine lv_istore (lv' := [(7, .int v2), (5, .long x13), (0, .ref (am 2008)), (1, .int v1), (2, .int v2), (3, .int v3), (4, .int v4)]) hx hb dX8_fillSome_94 hl (by decide) rfl (fun ls hl => ?_)
      obtain ⟨y14, hc16, ho⟩ := bd_some ho
      obtain ⟨ny14, hc16⟩ := lp_to hc16
      refine x8_fillSome_L96 C0 ?_ ny14 _ _ hc16 _ _ _ hW (lv_sub hl [2, 3, 4, 5, 6, 1, 0] rfl)
      intro H locs ls hW hl
      obtain ⟨x17, ex17, ho⟩ := nm_x ho
      refine lv_iinc (v := x17) (lv' := [(4, .int x17), (0, .ref (am 2008)), (1, .int v1), (2, .int v2), (3, .int v3)]) hx hb dX8_fillSome_129 hl (k := 4) rfl (by rw [ex17]; rfl) (by decide) rfl (fun ls hl => ?_)
      clear ex17
      refine lv_goto (tgt := 50) hx hb dX8_fillSome_132 (by decide) ?_
      cases ho
      exact ih _ _ hrun _ _ _ hW (lv_sub hl [1, 2, 3, 4, 0] rfl)
set_option maxHeartbeats 4000000 in
set_option maxRecDepth 100000 in
theorem x8_fillSome_L22 {p : Program} {l : Launch} {e : Env} {s : State} {m : MethodId} {args : Array Value} {below : List Frame} {meth : Method} {c : Code} {Q : State → Prop} {D : va_G} {cI cJ cZ cR : ClassId} {am gm : Nat → Nat} {st : Nat} {A : Nat → Prop} (C0 : cxX p s m args meth c cX8_fillSome RX8 8 none D (tyX cI cJ cZ cR) st A) {v1 : Int32} {v2 : Int32} {y : St} (hK0 : ∀ (H : Heap) (locs : List Loc) (ls : Array Slot), wl D A s (wX cI cJ cZ cR am gm y) H locs → lv_has ls 8 [(0, .ref (am 2008))] → W p l e (rmN 1 24) s m args below meth c H locs 0 0 Q (F0 m 165 ls [])) :
    ∀ (n : Nat) (v3 : Int32) (t : St), lpn (fun x => x8_fillSome_B22 v1 v2 x.1 x.2) n (v3, t) = some y → ∀ (H : Heap) (locs : List Loc) (ls : Array Slot), wl D A s (wX cI cJ cZ cR am gm t) H locs → lv_has ls 8 [(0, .ref (am 2008)), (1, .int v1), (2, .int v2), (3, .int v3)] → W p l e (rmN 1 24) s m args below meth c H locs 0 0 Q (F0 m 22 ls []) := by
  have hx := C0.1.1
  have hb := C0.1.2.1
  have hta := C0.1.2.2.2.2.2.1
  have hown := C0.1.2.2.2.2.1
  intro n
  induction n with
  | zero => intro _ _ h; cases h
  | succ n ih =>
    intro v3 t hrun H locs ls hW hl
    obtain ⟨o, ho, hrun⟩ := bd_some hrun
    unfold x8_fillSome_B22 at ho
    refine lv_iload_n hx hb dX8_fillSome_22 rfl (lv_at hl 3 rfl) ?_
    refine lv_aload_n hx hb dX8_fillSome_23 rfl (lv_at hl 0 rfl) ?_
    refine xGET_804 C0 kw_278 hW dX8_fillSome_24 ?_
    refine lv_icmp_ge (tgt := 165) hx hb dX8_fillSome_27 (by decide) (fun c18 => ?_) (fun c18 => ?_)
    · replace ho := ite_t c18 ho
      cases ho
      cases hrun
      exact hK0 _ _ _ hW (lv_sub hl [0] rfl)
    · replace ho := ite_f c18 ho
      refine lv_aload_n hx hb dX8_fillSome_30 rfl (lv_at hl 0 rfl) ?_
      refine xGET_814 C0 kw_291 hW dX8_fillSome_31 ?_
      refine lv_lconst (v := (0 : Int64)) hx hb dX8_fillSome_34 (by decide) ?_
      obtain ⟨q19, hc20, ho⟩ := bd_some ho
      refine bkV C0.1 hW (runSX (As := [.ref (am 814), .long (0 : Int64)]) (rest := []) C0 hW (c_j7_fill_d0a16_814 l _ t (0 : Int64) (t' := q19) hc20) cb_X8_J7_fill_d0a16_125 rfl rfl ⟨rfl, rfl⟩ ⟨Nat.le_of_ble_eq_true rfl, Nat.le_of_ble_eq_true rfl⟩ (Nat.le_of_ble_eq_true rfl) hl.1 dX8_fillSome_35 ⟨Nat.le_of_ble_eq_true rfl, Nat.le_of_ble_eq_true rfl⟩) (fun H locs hW => ?_)
      refine lv_aload_n hx hb dX8_fillSome_38 rfl (lv_at hl 0 rfl) ?_
      refine xGET_814 C0 kw_291 hW dX8_fillSome_39 ?_
      refine lv_iconst (v := (0 : Int32)) hx hb dX8_fillSome_42 (by decide) ?_
      refine lv_ldc2 hx hb hown (hta _ kw_837) dX8_fillSome_43 ?_
      obtain ⟨g21, ho⟩ := gd_some ho
      refine xST_814 C0 hW g21 dX8_fillSome_46 (fun H locs hW => ?_)
      obtain ⟨t22, ho, hW⟩ := nm_w (P := fun t => wl D A s (wX cI cJ cZ cR am gm t) H locs) ho hW
      refine lv_iconst (v := (0 : Int32)) hx hb dX8_fillSome_47 (by decide) ?_
      refine lv_istore (lv' := [(4, .int (0 : Int32)), (0, .ref (am 2008)), (1, .int v1), (2, .int v2), (3, .int v3)]) hx hb dX8_fillSome_48 hl (by decide) rfl (fun ls hl => ?_)
      obtain ⟨y23, hc25, ho⟩ := bd_some ho
      obtain ⟨ny23, hc25⟩ := lp_to hc25
      refine x8_fillSome_L50 C0 ?_ ny23 _ _ hc25 _ _ _ hW (lv_sub hl [1, 2, 3, 4, 0] rfl)
      intro H locs ls hW hl
      refine lv_aload_n hx hb dX8_fillSome_135 rfl (lv_at hl 0 rfl) ?_
      refine xGET_808 C0 kw_285 hW dX8_fillSome_136 ?_
      refine lv_aload_n hx hb dX8_fillSome_139 rfl (lv_at hl 0 rfl) ?_
      refine xGET_812 C0 kw_289 hW dX8_fillSome_140 ?_
      refine lv_iload_n hx hb dX8_fillSome_143 rfl (lv_at hl 1 rfl) ?_
      obtain ⟨g26, ho⟩ := gd_some ho
      refine xLD_812 C0 hW g26 dX8_fillSome_144 ?_
      refine lv_aload_n hx hb dX8_fillSome_145 rfl (lv_at hl 0 rfl) ?_
      refine xGET_804 C0 kw_278 hW dX8_fillSome_146 ?_
      refine lv_imul hx hb dX8_fillSome_149 ?_
      refine lv_iload_n hx hb dX8_fillSome_150 rfl (lv_at hl 3 rfl) ?_
      refine lv_iadd hx hb dX8_fillSome_151 ?_
      refine lv_aload_n hx hb dX8_fillSome_152 rfl (lv_at hl 0 rfl) ?_
      refine xGET_814 C0 kw_291 hW dX8_fillSome_153 ?_
      refine lv_iload_n hx hb dX8_fillSome_156 rfl (lv_at hl 2 rfl) ?_
      obtain ⟨g27, ho⟩ := gd_some ho
      refine xLD_814 C0 hW g27 dX8_fillSome_157 ?_
      obtain ⟨g28, ho⟩ := gd_some ho
      refine xST_808 C0 hW g28 dX8_fillSome_158 (fun H locs hW => ?_)
      obtain ⟨t29, ho, hW⟩ := nm_w (P := fun t => wl D A s (wX cI cJ cZ cR am gm t) H locs) ho hW
      obtain ⟨x30, ex30, ho⟩ := nm_x ho
      refine lv_iinc (v := x30) (lv' := [(3, .int x30), (0, .ref (am 2008)), (1, .int v1), (2, .int v2)]) hx hb dX8_fillSome_159 hl (k := 3) rfl (by rw [ex30]; rfl) (by decide) rfl (fun ls hl => ?_)
      clear ex30
      refine lv_goto (tgt := 22) hx hb dX8_fillSome_162 (by decide) ?_
      cases ho
      exact ih _ _ hrun _ _ _ hW (lv_sub hl [1, 2, 3, 0] rfl)
set_option maxHeartbeats 4000000 in
set_option maxRecDepth 100000 in
theorem c_x8_fillSome (l : Launch) {D : va_G} {cI cJ cZ cR : ClassId} {am gm : Nat → Nat} {st : Nat} (sz : Nat) (t : St) (a1 : Int32) {t' : St} (ho : x8_fillSome t a1 = some t') : Met l yX8_fillSome (.code yX8_fillSome cX8_fillSome 8 none :: wsAll) (rmN 1 24) (va_Pc [.ref (am 2008), .int a1] (prX D (tyX cI cJ cZ cR) (wX cI cJ cZ cR am gm t) sz st)) (qV D (tyX cI cJ cZ cR) (wX cI cJ cZ cR am gm t') (va_A (wX cI cJ cZ cR am gm t) sz)) 0 0 (va_A (wX cI cJ cZ cR am gm t) sz) := by
  refine Met.ofW (cc := cX8_fillSome) (maxL := 8) (ret := none) (by decide) rfl ?_
  intro p e s m args below meth c s₁ B hml hv
  obtain ⟨rfl, ⟨hsz, hP, hK, hD0⟩, hsx⟩ := hv
  have hx := B.exec
  have hb := B.bytes
  have hts := atoms_spec (ws := (.code yX8_fillSome cX8_fillSome 8 none :: wsAll)) B.pre
  have hta := fun w h => hts w (List.mem_cons_of_mem _ h)
  have hown : s.vm.findClass RX8 = some m.cls := findClass_of_methodNamed B.named
  have hlocks := B.notSynchronized
  subst hsz
  have hD := hD0.self (sz := s.heap.size)
  generalize hAe : va_A (wX cI cJ cZ cR am gm t) s.heap.size = A at hD ⊢
  have hA : ∀ q : Nat, s.heap.size ≤ q → A q := fun q h => by rw [← hAe]; exact Or.inr h
  have C0 : cxX p s m ([.ref (am 2008), .int a1].toArray) meth c cX8_fillSome RX8 8 none D (tyX cI cJ cZ cR) st A := ⟨⟨hx, hb, B.returns, hml, hown, hta, hlocks, hK, hA⟩, by rw [← hAe]; exact hsx⟩
  have hW : wl D A s (wX cI cJ cZ cR am gm t) s.heap [] := ⟨hP, hD, va_S.rf⟩
  have hl := lv_entry [.ref (am 2008), .int a1] (n := 8) (Nat.le_of_ble_eq_true rfl)
  rw [lg_entry_eq]
  generalize (lg_sl [.ref (am 2008), .int a1] ++ List.replicate (8 - (lg_sl [.ref (am 2008), .int a1]).length) Slot.unset).toArray = ls at hl ⊢
  have hl : lv_has ls 8 [(0, .ref (am 2008)), (1, .int a1)] := hl
  unfold x8_fillSome at ho
  refine lv_aload_n hx hb dX8_fillSome_0 rfl (lv_at hl 0 rfl) ?_
  refine xGET_800 C0 kw_269 hW dX8_fillSome_1 ?_
  refine xGET_605 C0 kw_196 hW dX8_fillSome_4 ?_
  refine lv_iload_n hx hb dX8_fillSome_7 rfl (lv_at hl 1 rfl) ?_
  obtain ⟨g31, ho⟩ := gd_some ho
  refine xLD_605 C0 hW g31 dX8_fillSome_8 ?_
  refine lv_aload_n hx hb dX8_fillSome_9 rfl (lv_at hl 0 rfl) ?_
  refine xGET_814 C0 kw_291 hW dX8_fillSome_10 ?_
  refine xLEN_814 C0 hW dX8_fillSome_13 ?_
  refine lv_iconst (v := (1 : Int32)) hx hb dX8_fillSome_14 (by decide) ?_
  refine lv_isub hx hb dX8_fillSome_15 ?_
  refine va_mmin (rest := []) hx hb (C0.1.2.2.2.1.trans hl.1.symm) hown (hta _ kw_851) (hta _ kw_748) (hta _ kw_136) (hta _ kw_749) (Nat.le_of_ble_eq_true rfl) (Nat.le_of_ble_eq_true rfl) (Nat.le_of_ble_eq_true rfl) (Nat.le_of_ble_eq_true rfl) dX8_fillSome_16 ?_
  refine lv_nmi ho (fun x32 ho => ?_)
  refine lv_istore_n (lv' := [(2, .int x32), (0, .ref (am 2008)), (1, .int a1)]) hx hb dX8_fillSome_19 rfl hl (by decide) rfl (fun ls hl => ?_)
  refine lv_iconst (v := (0 : Int32)) hx hb dX8_fillSome_20 (by decide) ?_
  refine lv_istore_n (lv' := [(3, .int (0 : Int32)), (2, .int x32), (0, .ref (am 2008)), (1, .int a1)]) hx hb dX8_fillSome_21 rfl hl (by decide) rfl (fun ls hl => ?_)
  obtain ⟨y33, hc35, ho⟩ := bd_some ho
  obtain ⟨ny33, hc35⟩ := lp_to hc35
  refine x8_fillSome_L22 C0 ?_ ny33 _ _ hc35 _ _ _ hW (lv_sub hl [2, 3, 1, 0] rfl)
  intro H locs ls hW hl
  cases ho
  exact rtV C0.1 hW dX8_fillSome_165
noncomputable def x8_fillKnot_B3 (t : St) (v1 : Int32) (v2 : Int32) : Option ((Int32) ⊕ (Int32)) :=
  if (55 : Int32) ≤ v2 then (some (.inr v2)) else (gd v2 (gN t 809) (if (gA t 809 (v2).toNatClampNeg) = 0 then (some (.inr v2)) else (nm (v2 + (1 : Int32)) (fun x4 : Int32 => some (.inl x4)))))
noncomputable def x8_fillKnot_B66 (v1 : Int32) (v3 : Int32) (t : St) : Option ((Int32 × St) ⊕ (St)) :=
  gd v1 (gN t 604) (if (gA t 604 (v1).toNatClampNeg) ≤ v3 then (some (.inr t)) else ((x6_partOf t v1 v3).bind (fun q7 => gd q7 (gN t 603) (if (gA t 603 (q7).toNatClampNeg) = 0 then (nm (v3 + (1 : Int32)) (fun x11 : Int32 => some (.inl (x11, t)))) else (gd q7 (gN t 811) (if (gA t 811 (q7).toNatClampNeg) = v1 then (gd q7 (gN t 812) (gd (gA t 812 (q7).toNatClampNeg) (gN t 809) (nm (sA t 809 (gA t 812 (q7).toNatClampNeg) (vp_nar .boolean (0 : Int32))) (fun t17 : St => nm (v3 + (1 : Int32)) (fun x18 : Int32 => some (.inl (x18, t17))))))) else (nm (v3 + (1 : Int32)) (fun x14 : Int32 => some (.inl (x14, t))))))))))
theorem mm_x8_fillKnot_B66 (v1 : Int32) (v3 : Int32) (t : St) : MR (x8_fillKnot_B66 v1 v3 t) t (Sum.elim (fun (x : Int32 × St) => x.2) (fun (y : St) => y)) := by
  unfold x8_fillKnot_B66
  exact MR_gd (MR_ite (MR_some mle.rfl) (MR_bindn (fun q7 => MR_gd (MR_ite (MR_nm (fun x11 _ => MR_some mle.rfl)) (MR_gd (MR_ite (MR_gd (MR_gd (MR_nmS mle_sA (fun t17 ht17 => MR_nm (fun x18 _ => MR_some ht17))))) (MR_nm (fun x14 _ => MR_some mle.rfl))))))))
theorem mm_x8_fillKnot_L66 (v1 : Int32) (v3 : Int32) (t : St) : MR (lp (fun x => x8_fillKnot_B66 v1 x.1 x.2) (v3, t)) t (fun (y : St) => y) := MR_lp (p := (fun (x : Int32 × St) => x.2)) (q := (fun (y : St) => y)) (fun x => mm_x8_fillKnot_B66 v1 x.1 x.2) (v3, t)
noncomputable def x8_fillKnot_J64 (t : St) (v1 : Int32) : Option (St) :=
  (lp (fun x => x8_fillKnot_B66 v1 x.1 x.2) ((0 : Int32), t)).bind (fun y19 => some y19)
theorem mm_x8_fillKnot_J64 (t : St) (v1 : Int32) : MR (x8_fillKnot_J64 t v1) t (fun (a : St) => a) := by
  unfold x8_fillKnot_J64
  exact MR_bind (mm_x8_fillKnot_L66 v1 (0 : Int32) t) (fun y19 hm20 => MR_some hm20)
noncomputable def x8_fillKnot (t : St) (a1 : Int32) : Option (St) :=
  (lp (fun x => x8_fillKnot_B3 t a1 x) (16 : Int32)).bind (fun y22 => gd y22 (gN t 809) (nm (sA t 809 y22 (vp_nar .boolean (1 : Int32))) (fun t26 : St => gd a1 (gN t26 812) (nm (sA t26 812 a1 y22) (fun t28 : St => gd a1 (gN t28 603) (if (gA t28 603 (a1).toNatClampNeg) = (4 : Int32) then ((x8_fillSome t28 a1).bind (fun q33 => x8_fillKnot_J64 q33 a1)) else ((x8_fillRow t28 a1).bind (fun q31 => x8_fillKnot_J64 q31 a1))))))))
theorem mm_x8_fillKnot (t : St) (a1 : Int32) : MR (x8_fillKnot t a1) t (fun (a : St) => a) := by
  unfold x8_fillKnot
  exact MR_bindn (fun y22 => MR_gd (MR_nmS mle_sA (fun t26 ht26 => MR_gd (MR_nmS mle_sA (fun t28 ht28 => MR_gd (MR_ite (MR_bind (mm_x8_fillSome t28 a1) (fun q33 hq33 => MR_wk (mle.trans (mle.trans ht26 ht28) hq33) (mm_x8_fillKnot_J64 q33 a1))) (MR_bind (mm_x8_fillRow t28 a1) (fun q31 hq31 => MR_wk (mle.trans (mle.trans ht26 ht28) hq31) (mm_x8_fillKnot_J64 q31 a1)))))))))
set_option maxHeartbeats 4000000 in
set_option maxRecDepth 100000 in
theorem x8_fillKnot_L3 {p : Program} {l : Launch} {e : Env} {s : State} {m : MethodId} {args : Array Value} {below : List Frame} {meth : Method} {c : Code} {Q : State → Prop} {D : va_G} {cI cJ cZ cR : ClassId} {am gm : Nat → Nat} {st : Nat} {A : Nat → Prop} (C0 : cxX p s m args meth c cX8_fillKnot RX8 5 none D (tyX cI cJ cZ cR) st A) {t : St} {v1 : Int32} {y : Int32} (hK0 : ∀ (H : Heap) (locs : List Loc) (ls : Array Slot), wl D A s (wX cI cJ cZ cR am gm t) H locs → lv_has ls 5 [(0, .ref (am 2008)), (1, .int v1), (2, .int y)] → W p l e (rmN 2 51) s m args below meth c H locs 0 0 Q (F0 m 24 ls [])) :
    ∀ (n : Nat) (v2 : Int32), lpn (fun x => x8_fillKnot_B3 t v1 x) n v2 = some y → ∀ (H : Heap) (locs : List Loc) (ls : Array Slot), wl D A s (wX cI cJ cZ cR am gm t) H locs → lv_has ls 5 [(0, .ref (am 2008)), (1, .int v1), (2, .int v2)] → W p l e (rmN 2 51) s m args below meth c H locs 0 0 Q (F0 m 3 ls []) := by
  have hx := C0.1.1
  have hb := C0.1.2.1
  have hta := C0.1.2.2.2.2.2.1
  have hown := C0.1.2.2.2.2.1
  intro n
  induction n with
  | zero => intro _ h; cases h
  | succ n ih =>
    intro v2 hrun H locs ls hW hl
    obtain ⟨o, ho, hrun⟩ := bd_some hrun
    unfold x8_fillKnot_B3 at ho
    refine lv_iload_n hx hb dX8_fillKnot_3 rfl (lv_at hl 2 rfl) ?_
    refine lv_bipush (v := (55 : Int32)) hx hb dX8_fillKnot_4 (by decide) ?_
    refine lv_icmp_ge (tgt := 24) hx hb dX8_fillKnot_6 (by decide) (fun c1 => ?_) (fun c1 => ?_)
    · replace ho := ite_t c1 ho
      cases ho
      cases hrun
      exact hK0 _ _ _ hW (lv_sub hl [0, 1, 2] rfl)
    · replace ho := ite_f c1 ho
      refine lv_aload_n hx hb dX8_fillKnot_9 rfl (lv_at hl 0 rfl) ?_
      refine xGET_809 C0 kw_286 hW dX8_fillKnot_10 ?_
      refine lv_iload_n hx hb dX8_fillKnot_13 rfl (lv_at hl 2 rfl) ?_
      obtain ⟨g2, ho⟩ := gd_some ho
      refine xLD_809 C0 hW g2 dX8_fillKnot_14 ?_
      refine lv_if_eq (tgt := 24) hx hb dX8_fillKnot_15 (by decide) (fun c3 => ?_) (fun c3 => ?_)
      · replace ho := ite_t c3 ho
        cases ho
        cases hrun
        exact hK0 _ _ _ hW (lv_sub hl [0, 1, 2] rfl)
      · replace ho := ite_f c3 ho
        obtain ⟨x4, ex4, ho⟩ := nm_x ho
        refine lv_iinc (v := x4) (lv' := [(2, .int x4), (0, .ref (am 2008)), (1, .int v1)]) hx hb dX8_fillKnot_18 hl (k := 2) rfl (by rw [ex4]; rfl) (by decide) rfl (fun ls hl => ?_)
        clear ex4
        refine lv_goto (tgt := 3) hx hb dX8_fillKnot_21 (by decide) ?_
        cases ho
        exact ih _ hrun _ _ _ hW (lv_sub hl [1, 2, 0] rfl)
set_option maxHeartbeats 4000000 in
set_option maxRecDepth 100000 in
theorem x8_fillKnot_L66 {p : Program} {l : Launch} {e : Env} {s : State} {m : MethodId} {args : Array Value} {below : List Frame} {meth : Method} {c : Code} {Q : State → Prop} {D : va_G} {cI cJ cZ cR : ClassId} {am gm : Nat → Nat} {st : Nat} {A : Nat → Prop} (C0 : cxX p s m args meth c cX8_fillKnot RX8 5 none D (tyX cI cJ cZ cR) st A) {v1 : Int32} {y : St} (hK0 : ∀ (H : Heap) (locs : List Loc) (ls : Array Slot), wl D A s (wX cI cJ cZ cR am gm y) H locs → lv_has ls 5 [(0, .ref (am 2008))] → W p l e (rmN 2 51) s m args below meth c H locs 0 0 Q (F0 m 133 ls [])) :
    ∀ (n : Nat) (v3 : Int32) (t : St), lpn (fun x => x8_fillKnot_B66 v1 x.1 x.2) n (v3, t) = some y → ∀ (H : Heap) (locs : List Loc) (ls : Array Slot), wl D A s (wX cI cJ cZ cR am gm t) H locs → lv_has ls 5 [(0, .ref (am 2008)), (1, .int v1), (3, .int v3)] → W p l e (rmN 2 51) s m args below meth c H locs 0 0 Q (F0 m 66 ls []) := by
  have hx := C0.1.1
  have hb := C0.1.2.1
  have hta := C0.1.2.2.2.2.2.1
  have hown := C0.1.2.2.2.2.1
  intro n
  induction n with
  | zero => intro _ _ h; cases h
  | succ n ih =>
    intro v3 t hrun H locs ls hW hl
    obtain ⟨o, ho, hrun⟩ := bd_some hrun
    unfold x8_fillKnot_B66 at ho
    refine lv_iload_n hx hb dX8_fillKnot_66 rfl (lv_at hl 2 rfl) ?_
    refine lv_aload_n hx hb dX8_fillKnot_67 rfl (lv_at hl 0 rfl) ?_
    refine xGET_800 C0 kw_269 hW dX8_fillKnot_68 ?_
    refine xGET_604 C0 kw_191 hW dX8_fillKnot_71 ?_
    refine lv_iload_n hx hb dX8_fillKnot_74 rfl (lv_at hl 1 rfl) ?_
    obtain ⟨g5, ho⟩ := gd_some ho
    refine xLD_604 C0 hW g5 dX8_fillKnot_75 ?_
    refine lv_icmp_ge (tgt := 133) hx hb dX8_fillKnot_76 (by decide) (fun c6 => ?_) (fun c6 => ?_)
    · replace ho := ite_t c6 ho
      cases ho
      cases hrun
      exact hK0 _ _ _ hW (lv_sub hl [0] rfl)
    · replace ho := ite_f c6 ho
      refine lv_aload_n hx hb dX8_fillKnot_79 rfl (lv_at hl 0 rfl) ?_
      refine xGET_800 C0 kw_269 hW dX8_fillKnot_80 ?_
      refine lv_iload_n hx hb dX8_fillKnot_83 rfl (lv_at hl 1 rfl) ?_
      refine lv_iload_n hx hb dX8_fillKnot_84 rfl (lv_at hl 2 rfl) ?_
      obtain ⟨q7, hc8, ho⟩ := bd_some ho
      refine bkI C0.1 hW (runVX (As := [.int v1, .int v3]) (rest := []) C0 hW (c_x6_partOf l _ t v1 v3 (r := q7) hc8) cb_X8_X6_partOf_107 6 6 rfl rfl rfl rfl rfl ⟨rfl, rfl⟩ ⟨Nat.le_of_ble_eq_true rfl, Nat.le_of_ble_eq_true rfl⟩ (Nat.le_of_ble_eq_true rfl) hl.1 dX8_fillKnot_85 ⟨Nat.le_of_ble_eq_true rfl, Nat.le_of_ble_eq_true rfl⟩) (fun H locs hW => ?_)
      refine lv_istore (lv' := [(4, .int q7), (0, .ref (am 2008)), (1, .int v1), (3, .int v3)]) hx hb dX8_fillKnot_88 hl (by decide) rfl (fun ls hl => ?_)
      refine lv_aload_n hx hb dX8_fillKnot_90 rfl (lv_at hl 1 rfl) ?_
      refine xGET_800 C0 kw_269 hW dX8_fillKnot_91 ?_
      refine xGET_603 C0 kw_187 hW dX8_fillKnot_94 ?_
      refine lv_iload hx hb dX8_fillKnot_97 (lv_at hl 0 rfl) ?_
      obtain ⟨g9, ho⟩ := gd_some ho
      refine xLD_603 C0 hW g9 dX8_fillKnot_99 ?_
      refine lv_if_eq (tgt := 127) hx hb dX8_fillKnot_100 (by decide) (fun c10 => ?_) (fun c10 => ?_)
      · replace ho := ite_t c10 ho
        obtain ⟨x11, ex11, ho⟩ := nm_x ho
        refine lv_iinc (v := x11) (lv' := [(3, .int x11), (4, .int q7), (0, .ref (am 2008)), (1, .int v1)]) hx hb dX8_fillKnot_127 hl (k := 3) rfl (by rw [ex11]; rfl) (by decide) rfl (fun ls hl => ?_)
        clear ex11
        refine lv_goto (tgt := 66) hx hb dX8_fillKnot_130 (by decide) ?_
        cases ho
        exact ih _ _ hrun _ _ _ hW (lv_sub hl [2, 3, 0] rfl)
      · replace ho := ite_f c10 ho
        refine lv_aload_n hx hb dX8_fillKnot_103 rfl (lv_at hl 1 rfl) ?_
        refine xGET_811 C0 kw_288 hW dX8_fillKnot_104 ?_
        refine lv_iload hx hb dX8_fillKnot_107 (lv_at hl 0 rfl) ?_
        obtain ⟨g12, ho⟩ := gd_some ho
        refine xLD_811 C0 hW g12 dX8_fillKnot_109 ?_
        refine lv_iload_n hx hb dX8_fillKnot_110 rfl (lv_at hl 2 rfl) ?_
        refine lv_icmp_ne (tgt := 127) hx hb dX8_fillKnot_111 (by decide) (fun c13 => ?_) (fun c13 => ?_)
        · replace ho := ite_f c13 ho
          obtain ⟨x14, ex14, ho⟩ := nm_x ho
          refine lv_iinc (v := x14) (lv' := [(3, .int x14), (4, .int q7), (0, .ref (am 2008)), (1, .int v1)]) hx hb dX8_fillKnot_127 hl (k := 3) rfl (by rw [ex14]; rfl) (by decide) rfl (fun ls hl => ?_)
          clear ex14
          refine lv_goto (tgt := 66) hx hb dX8_fillKnot_130 (by decide) ?_
          cases ho
          exact ih _ _ hrun _ _ _ hW (lv_sub hl [2, 3, 0] rfl)
        · replace ho := ite_t c13 ho
          refine lv_aload_n hx hb dX8_fillKnot_114 rfl (lv_at hl 1 rfl) ?_
          refine xGET_809 C0 kw_286 hW dX8_fillKnot_115 ?_
          refine lv_aload_n hx hb dX8_fillKnot_118 rfl (lv_at hl 1 rfl) ?_
          refine xGET_812 C0 kw_289 hW dX8_fillKnot_119 ?_
          refine lv_iload hx hb dX8_fillKnot_122 (lv_at hl 0 rfl) ?_
          obtain ⟨g15, ho⟩ := gd_some ho
          refine xLD_812 C0 hW g15 dX8_fillKnot_124 ?_
          refine lv_iconst (v := (0 : Int32)) hx hb dX8_fillKnot_125 (by decide) ?_
          obtain ⟨g16, ho⟩ := gd_some ho
          refine xST_809 C0 hW g16 dX8_fillKnot_126 (fun H locs hW => ?_)
          obtain ⟨t17, ho, hW⟩ := nm_w (P := fun t => wl D A s (wX cI cJ cZ cR am gm t) H locs) ho hW
          obtain ⟨x18, ex18, ho⟩ := nm_x ho
          refine lv_iinc (v := x18) (lv' := [(3, .int x18), (4, .int q7), (0, .ref (am 2008)), (1, .int v1)]) hx hb dX8_fillKnot_127 hl (k := 3) rfl (by rw [ex18]; rfl) (by decide) rfl (fun ls hl => ?_)
          clear ex18
          refine lv_goto (tgt := 66) hx hb dX8_fillKnot_130 (by decide) ?_
          cases ho
          exact ih _ _ hrun _ _ _ hW (lv_sub hl [2, 3, 0] rfl)
set_option maxHeartbeats 4000000 in
set_option maxRecDepth 100000 in
theorem c_x8_fillKnot (l : Launch) {D : va_G} {cI cJ cZ cR : ClassId} {am gm : Nat → Nat} {st : Nat} (sz : Nat) (t : St) (a1 : Int32) {t' : St} (ho : x8_fillKnot t a1 = some t') : Met l yX8_fillKnot (.code yX8_fillKnot cX8_fillKnot 5 none :: wsAll) (rmN 2 51) (va_Pc [.ref (am 2008), .int a1] (prX D (tyX cI cJ cZ cR) (wX cI cJ cZ cR am gm t) sz st)) (qV D (tyX cI cJ cZ cR) (wX cI cJ cZ cR am gm t') (va_A (wX cI cJ cZ cR am gm t) sz)) 0 0 (va_A (wX cI cJ cZ cR am gm t) sz) := by
  refine Met.ofW (cc := cX8_fillKnot) (maxL := 5) (ret := none) (by decide) rfl ?_
  intro p e s m args below meth c s₁ B hml hv
  obtain ⟨rfl, ⟨hsz, hP, hK, hD0⟩, hsx⟩ := hv
  have hx := B.exec
  have hb := B.bytes
  have hts := atoms_spec (ws := (.code yX8_fillKnot cX8_fillKnot 5 none :: wsAll)) B.pre
  have hta := fun w h => hts w (List.mem_cons_of_mem _ h)
  have hown : s.vm.findClass RX8 = some m.cls := findClass_of_methodNamed B.named
  have hlocks := B.notSynchronized
  subst hsz
  have hD := hD0.self (sz := s.heap.size)
  generalize hAe : va_A (wX cI cJ cZ cR am gm t) s.heap.size = A at hD ⊢
  have hA : ∀ q : Nat, s.heap.size ≤ q → A q := fun q h => by rw [← hAe]; exact Or.inr h
  have C0 : cxX p s m ([.ref (am 2008), .int a1].toArray) meth c cX8_fillKnot RX8 5 none D (tyX cI cJ cZ cR) st A := ⟨⟨hx, hb, B.returns, hml, hown, hta, hlocks, hK, hA⟩, by rw [← hAe]; exact hsx⟩
  have hW : wl D A s (wX cI cJ cZ cR am gm t) s.heap [] := ⟨hP, hD, va_S.rf⟩
  have hl := lv_entry [.ref (am 2008), .int a1] (n := 5) (Nat.le_of_ble_eq_true rfl)
  rw [lg_entry_eq]
  generalize (lg_sl [.ref (am 2008), .int a1] ++ List.replicate (5 - (lg_sl [.ref (am 2008), .int a1]).length) Slot.unset).toArray = ls at hl ⊢
  have hl : lv_has ls 5 [(0, .ref (am 2008)), (1, .int a1)] := hl
  clear hAe hD hP hD0 hts
  have J64 : ∀ (t : St) (v1 : Int32) (_ : x8_fillKnot_J64 t v1 = some t') (H : Heap) (locs : List Loc) (ls : Array Slot), wl D A s (wX cI cJ cZ cR am gm t) H locs → lv_has ls 5 [(0, .ref (am 2008)), (1, .int v1)] → W p l e (rmN 2 51) s m ([.ref (am 2008), .int a1].toArray) below meth c H locs 0 0 (MQ below (qV D (tyX cI cJ cZ cR) (wX cI cJ cZ cR am gm t') A) ([.ref (am 2008), .int a1].toArray) s 0 0 A) (F0 m 64 ls []) := by
    intro t v1 ho H locs ls hW hl
    unfold x8_fillKnot_J64 at ho
    refine lv_iconst (v := (0 : Int32)) hx hb dX8_fillKnot_64 (by decide) ?_
    refine lv_istore_n (lv' := [(3, .int (0 : Int32)), (0, .ref (am 2008)), (1, .int v1)]) hx hb dX8_fillKnot_65 rfl hl (by decide) rfl (fun ls hl => ?_)
    obtain ⟨y19, hc21, ho⟩ := bd_some ho
    obtain ⟨ny19, hc21⟩ := lp_to hc21
    refine x8_fillKnot_L66 C0 ?_ ny19 _ _ hc21 _ _ _ hW (lv_sub hl [1, 2, 0] rfl)
    intro H locs ls hW hl
    cases ho
    exact rtV C0.1 hW dX8_fillKnot_133
  unfold x8_fillKnot at ho
  refine lv_bipush (v := (16 : Int32)) hx hb dX8_fillKnot_0 (by decide) ?_
  refine lv_istore_n (lv' := [(2, .int (16 : Int32)), (0, .ref (am 2008)), (1, .int a1)]) hx hb dX8_fillKnot_2 rfl hl (by decide) rfl (fun ls hl => ?_)
  obtain ⟨y22, hc24, ho⟩ := bd_some ho
  obtain ⟨ny22, hc24⟩ := lp_to hc24
  refine x8_fillKnot_L3 C0 ?_ ny22 _ hc24 _ _ _ hW (lv_sub hl [1, 2, 0] rfl)
  intro H locs ls hW hl
  refine lv_aload_n hx hb dX8_fillKnot_24 rfl (lv_at hl 0 rfl) ?_
  refine xGET_809 C0 kw_286 hW dX8_fillKnot_25 ?_
  refine lv_iload_n hx hb dX8_fillKnot_28 rfl (lv_at hl 2 rfl) ?_
  refine lv_iconst (v := (1 : Int32)) hx hb dX8_fillKnot_29 (by decide) ?_
  obtain ⟨g25, ho⟩ := gd_some ho
  refine xST_809 C0 hW g25 dX8_fillKnot_30 (fun H locs hW => ?_)
  obtain ⟨t26, ho, hW⟩ := nm_w (P := fun t => wl D A s (wX cI cJ cZ cR am gm t) H locs) ho hW
  refine lv_aload_n hx hb dX8_fillKnot_31 rfl (lv_at hl 0 rfl) ?_
  refine xGET_812 C0 kw_289 hW dX8_fillKnot_32 ?_
  refine lv_iload_n hx hb dX8_fillKnot_35 rfl (lv_at hl 1 rfl) ?_
  refine lv_iload_n hx hb dX8_fillKnot_36 rfl (lv_at hl 2 rfl) ?_
  obtain ⟨g27, ho⟩ := gd_some ho
  refine xST_812 C0 hW g27 dX8_fillKnot_37 (fun H locs hW => ?_)
  obtain ⟨t28, ho, hW⟩ := nm_w (P := fun t => wl D A s (wX cI cJ cZ cR am gm t) H locs) ho hW
  refine lv_aload_n hx hb dX8_fillKnot_38 rfl (lv_at hl 0 rfl) ?_
  refine xGET_800 C0 kw_269 hW dX8_fillKnot_39 ?_
  refine xGET_603 C0 kw_187 hW dX8_fillKnot_42 ?_
  refine lv_iload_n hx hb dX8_fillKnot_45 rfl (lv_at hl 1 rfl) ?_
  obtain ⟨g29, ho⟩ := gd_some ho
  refine xLD_603 C0 hW g29 dX8_fillKnot_46 ?_
  refine lv_iconst (v := (4 : Int32)) hx hb dX8_fillKnot_47 (by decide) ?_
  refine lv_icmp_ne (tgt := 59) hx hb dX8_fillKnot_48 (by decide) (fun c30 => ?_) (fun c30 => ?_)
  · replace ho := ite_f c30 ho
    refine lv_aload_n hx hb dX8_fillKnot_59 rfl (lv_at hl 0 rfl) ?_
    refine lv_iload_n hx hb dX8_fillKnot_60 rfl (lv_at hl 1 rfl) ?_
    obtain ⟨q31, hc32, ho⟩ := bd_some ho
    refine bkV C0.1 hW (runVX (As := [.int a1]) (rest := []) C0 hW (c_x8_fillRow l _ t28 a1 (t' := q31) hc32) cb_X8_X8_fillRow_114 8 8 rfl rfl rfl rfl rfl ⟨rfl, rfl⟩ ⟨Nat.le_of_ble_eq_true rfl, Nat.le_of_ble_eq_true rfl⟩ (Nat.le_of_ble_eq_true rfl) hl.1 dX8_fillKnot_61 ⟨Nat.le_of_ble_eq_true rfl, Nat.le_of_ble_eq_true rfl⟩) (fun H locs hW => ?_)
    exact J64 _ _ ho _ _ _ hW (lv_sub hl [0, 1] rfl)
  · replace ho := ite_t c30 ho
    refine lv_aload_n hx hb dX8_fillKnot_51 rfl (lv_at hl 0 rfl) ?_
    refine lv_iload_n hx hb dX8_fillKnot_52 rfl (lv_at hl 1 rfl) ?_
    obtain ⟨q33, hc34, ho⟩ := bd_some ho
    refine bkV C0.1 hW (runVX (As := [.int a1]) (rest := []) C0 hW (c_x8_fillSome l _ t28 a1 (t' := q33) hc34) cb_X8_X8_fillSome_111 8 8 rfl rfl rfl rfl rfl ⟨rfl, rfl⟩ ⟨Nat.le_of_ble_eq_true rfl, Nat.le_of_ble_eq_true rfl⟩ (Nat.le_of_ble_eq_true rfl) hl.1 dX8_fillKnot_53 ⟨Nat.le_of_ble_eq_true rfl, Nat.le_of_ble_eq_true rfl⟩) (fun H locs hW => ?_)
    refine lv_goto (tgt := 64) hx hb dX8_fillKnot_56 (by decide) ?_
    exact J64 _ _ ho _ _ _ hW (lv_sub hl [0, 1] rfl)
noncomputable def x8_hasRank (t : St) (a0 : Int32) (a1 : Int32) : Option (Int32) :=
  if ((a0 >>> ((a1 - (6 : Int32)) &&& 31)) &&& (1 : Int32)) = (1 : Int32) then (some (1 : Int32)) else (some (0 : Int32))
set_option maxHeartbeats 4000000 in
set_option maxRecDepth 100000 in
theorem c_x8_hasRank (l : Launch) {D : va_G} {cI cJ cZ cR : ClassId} {am gm : Nat → Nat} {st : Nat} (sz : Nat) (t : St) (a0 : Int32) (a1 : Int32) {r : Int32} (ho : x8_hasRank t a0 a1 = some r) : Met l yX8_hasRank (.code yX8_hasRank cX8_hasRank 2 (some .boolean) :: wsAll) (rmN 0 0) (va_Pc [.int a0, .int a1] (prX D (tyX cI cJ cZ cR) (wX cI cJ cZ cR am gm t) sz st)) (qZ r D (tyX cI cJ cZ cR) (wX cI cJ cZ cR am gm t) (va_A (wX cI cJ cZ cR am gm t) sz)) 0 0 (va_A (wX cI cJ cZ cR am gm t) sz) := by
  refine Met.ofW (cc := cX8_hasRank) (maxL := 2) (ret := (some .boolean)) (by decide) rfl ?_
  intro p e s m args below meth c s₁ B hml hv
  obtain ⟨rfl, ⟨hsz, hP, hK, hD0⟩, hsx⟩ := hv
  have hx := B.exec
  have hb := B.bytes
  have hts := atoms_spec (ws := (.code yX8_hasRank cX8_hasRank 2 (some .boolean) :: wsAll)) B.pre
  have hta := fun w h => hts w (List.mem_cons_of_mem _ h)
  have hown : s.vm.findClass RX8 = some m.cls := findClass_of_methodNamed B.named
  have hlocks := B.notSynchronized
  subst hsz
  have hD := hD0.self (sz := s.heap.size)
  generalize hAe : va_A (wX cI cJ cZ cR am gm t) s.heap.size = A at hD ⊢
  have hA : ∀ q : Nat, s.heap.size ≤ q → A q := fun q h => by rw [← hAe]; exact Or.inr h
  have C0 : cxX p s m ([.int a0, .int a1].toArray) meth c cX8_hasRank RX8 2 (some .boolean) D (tyX cI cJ cZ cR) st A := ⟨⟨hx, hb, B.returns, hml, hown, hta, hlocks, hK, hA⟩, by rw [← hAe]; exact hsx⟩
  have hW : wl D A s (wX cI cJ cZ cR am gm t) s.heap [] := ⟨hP, hD, va_S.rf⟩
  have hl := lv_entry [.int a0, .int a1] (n := 2) (Nat.le_of_ble_eq_true rfl)
  rw [lg_entry_eq]
  generalize (lg_sl [.int a0, .int a1] ++ List.replicate (2 - (lg_sl [.int a0, .int a1]).length) Slot.unset).toArray = ls at hl ⊢
  have hl : lv_has ls 2 [(0, .int a0), (1, .int a1)] := hl
  unfold x8_hasRank at ho
  refine lv_iload_n hx hb dX8_hasRank_0 rfl (lv_at hl 0 rfl) ?_
  refine lv_iload_n hx hb dX8_hasRank_1 rfl (lv_at hl 1 rfl) ?_
  refine xSTR C0 kw_832 hW dX8_hasRank_2 ?_
  refine xSTRlen C0 hW dX8_hasRank_5 ?_
  refine lv_isub hx hb dX8_hasRank_6 ?_
  refine lv_ishr hx hb dX8_hasRank_7 ?_
  refine lv_iconst (v := (1 : Int32)) hx hb dX8_hasRank_8 (by decide) ?_
  refine lv_iand hx hb dX8_hasRank_9 ?_
  refine lv_iconst (v := (1 : Int32)) hx hb dX8_hasRank_10 (by decide) ?_
  refine lv_icmp_ne (tgt := 18) hx hb dX8_hasRank_11 (by decide) (fun c1 => ?_) (fun c1 => ?_)
  · replace ho := ite_f c1 ho
    refine lv_iconst (v := (0 : Int32)) hx hb dX8_hasRank_18 (by decide) ?_
    cases ho
    exact rtZ C0.1 hW (Or.inl (rfl : (0 : Int32) = 0)) dX8_hasRank_19
  · replace ho := ite_t c1 ho
    refine lv_iconst (v := (1 : Int32)) hx hb dX8_hasRank_14 (by decide) ?_
    refine lv_goto (tgt := 19) hx hb dX8_hasRank_15 (by decide) ?_
    cases ho
    exact rtZ C0.1 hW (Or.inr (rfl : (1 : Int32) = 1)) dX8_hasRank_19
noncomputable def x8_leastWord_B15 (t : St) (v1 : Int32) (v2 : Int32) (v3 : Int64) (v5 : Int64) (v7 : Int32) : Option ((Int64 × Int32) ⊕ (Int64)) :=
  if (gI t 803) ≤ v7 then (some (.inr v5)) else (if (6 : Int32) ≤ v7 then ((x8_hasRank t v2 v7).bind (fun q3 => if q3 = 0 then (nm (v7 + (1 : Int32)) (fun x7 : Int32 => some (.inl (v5, x7)))) else (gd ((v1 + v2) - ((1 : Int32) <<< ((v7 - (6 : Int32)) &&& 31))) (gN t 808) (nm (v5 ||| (gB t 808 (((v1 + v2) - ((1 : Int32) <<< ((v7 - (6 : Int32)) &&& 31)))).toNatClampNeg)) (fun x9 : Int64 => nm (v7 + (1 : Int32)) (fun x10 : Int32 => some (.inl (x9, x10)))))))) else (gd v7 6 (nm (v5 ||| (((v3 <<< ((((1 : Int32) <<< (v7 &&& 31))).toInt64 &&& 63))) &&& (stL (v7).toNatClampNeg))) (fun x12 : Int64 => nm (v7 + (1 : Int32)) (fun x13 : Int32 => some (.inl (x12, x13)))))))
noncomputable def x8_leastWord_J119 (t : St) (v3 : Int64) (v5 : Int64) (w0 : Int64) : Option (Int64) :=
  some ((v3 &&& (v5 ^^^ (-1 : Int64))) &&& w0)
noncomputable def x8_leastWord (t : St) (a1 : Int32) (a2 : Int32) : Option (Int64) :=
  gd (a1 + a2) (gN t 808) (nm (gB t 808 ((a1 + a2)).toNatClampNeg) (fun x15 : Int64 => (lp (fun x => x8_leastWord_B15 t a1 a2 x15 x.1 x.2) ((0 : Int64), (0 : Int32))).bind (fun y16 => if (6 : Int32) ≤ (gI t 803) then (x8_leastWord_J119 t x15 y16 (-1 : Int64)) else (x8_leastWord_J119 t x15 y16 ((((1 : Int64) <<< ((((1 : Int32) <<< ((gI t 803) &&& 31))).toInt64 &&& 63))) - (1 : Int64))))))
set_option maxHeartbeats 4000000 in
set_option maxRecDepth 100000 in
theorem x8_leastWord_L15 {p : Program} {l : Launch} {e : Env} {s : State} {m : MethodId} {args : Array Value} {below : List Frame} {meth : Method} {c : Code} {Q : State → Prop} {D : va_G} {cI cJ cZ cR : ClassId} {am gm : Nat → Nat} {st : Nat} {A : Nat → Prop} (C0 : cxX p s m args meth c cX8_leastWord RX8 9 (some .long) D (tyX cI cJ cZ cR) st A) {t : St} {v1 : Int32} {v2 : Int32} {v3 : Int64} {y : Int64} (hK0 : ∀ (H : Heap) (locs : List Loc) (ls : Array Slot), wl D A s (wX cI cJ cZ cR am gm t) H locs → lv_has ls 9 [(0, .ref (am 2008)), (3, .long v3), (5, .long y)] → W p l e (rmN 1 21) s m args below meth c H locs 0 0 Q (F0 m 92 ls [])) :
    ∀ (n : Nat) (v5 : Int64) (v7 : Int32), lpn (fun x => x8_leastWord_B15 t v1 v2 v3 x.1 x.2) n (v5, v7) = some y → ∀ (H : Heap) (locs : List Loc) (ls : Array Slot), wl D A s (wX cI cJ cZ cR am gm t) H locs → lv_has ls 9 [(0, .ref (am 2008)), (1, .int v1), (2, .int v2), (3, .long v3), (5, .long v5), (7, .int v7)] → W p l e (rmN 1 21) s m args below meth c H locs 0 0 Q (F0 m 15 ls []) := by
  have hx := C0.1.1
  have hb := C0.1.2.1
  have hta := C0.1.2.2.2.2.2.1
  have hown := C0.1.2.2.2.2.1
  intro n
  induction n with
  | zero => intro _ _ h; cases h
  | succ n ih =>
    intro v5 v7 hrun H locs ls hW hl
    obtain ⟨o, ho, hrun⟩ := bd_some hrun
    unfold x8_leastWord_B15 at ho
    refine lv_iload hx hb dX8_leastWord_15 (lv_at hl 5 rfl) ?_
    refine lv_aload_n hx hb dX8_leastWord_17 rfl (lv_at hl 0 rfl) ?_
    refine xGET_803 C0 kw_274 hW dX8_leastWord_18 ?_
    refine lv_icmp_ge (tgt := 92) hx hb dX8_leastWord_21 (by decide) (fun c1 => ?_) (fun c1 => ?_)
    · replace ho := ite_t c1 ho
      cases ho
      cases hrun
      exact hK0 _ _ _ hW (lv_sub hl [0, 3, 4] rfl)
    · replace ho := ite_f c1 ho
      refine lv_iload hx hb dX8_leastWord_24 (lv_at hl 5 rfl) ?_
      refine xSTR C0 kw_832 hW dX8_leastWord_26 ?_
      refine xSTRlen C0 hW dX8_leastWord_29 ?_
      refine lv_icmp_ge (tgt := 54) hx hb dX8_leastWord_30 (by decide) (fun c2 => ?_) (fun c2 => ?_)
      · replace ho := ite_t c2 ho
        refine lv_iload_n hx hb dX8_leastWord_54 rfl (lv_at hl 2 rfl) ?_
        refine lv_iload hx hb dX8_leastWord_55 (lv_at hl 5 rfl) ?_
        obtain ⟨q3, hc4, ho⟩ := bd_some ho
        refine bkZ C0.1 hW (runSX (As := [.int v2, .int v7]) (rest := []) C0 hW (c_x8_hasRank l _ t v2 v7 (r := q3) hc4) cb_X8_X8_hasRank_101 rfl rfl ⟨rfl, rfl⟩ ⟨Nat.le_of_ble_eq_true rfl, Nat.le_of_ble_eq_true rfl⟩ (Nat.le_of_ble_eq_true rfl) hl.1 dX8_leastWord_57 ⟨Nat.le_of_ble_eq_true rfl, Nat.le_of_ble_eq_true rfl⟩) (fun z5 H locs hW => ?_)
        refine lv_if_eq (tgt := 86) hx hb dX8_leastWord_60 (by decide) (fun c6 => ?_) (fun c6 => ?_)
        · replace ho := ite_t c6 ho
          obtain ⟨x7, ex7, ho⟩ := nm_x ho
          refine lv_iinc (v := x7) (lv' := [(7, .int x7), (0, .ref (am 2008)), (1, .int v1), (2, .int v2), (3, .long v3), (5, .long v5)]) hx hb dX8_leastWord_86 hl (k := 5) rfl (by rw [ex7]; rfl) (by decide) rfl (fun ls hl => ?_)
          clear ex7
          refine lv_goto (tgt := 15) hx hb dX8_leastWord_89 (by decide) ?_
          cases ho
          exact ih _ _ hrun _ _ _ hW (lv_sub hl [1, 2, 3, 4, 5, 0] rfl)
        · replace ho := ite_f c6 ho
          refine lv_lload hx hb dX8_leastWord_63 (lv_at hl 4 rfl) ?_
          refine lv_aload_n hx hb dX8_leastWord_65 rfl (lv_at hl 0 rfl) ?_
          refine xGET_808 C0 kw_285 hW dX8_leastWord_66 ?_
          refine lv_iload_n hx hb dX8_leastWord_69 rfl (lv_at hl 1 rfl) ?_
          refine lv_iload_n hx hb dX8_leastWord_70 rfl (lv_at hl 2 rfl) ?_
          refine lv_iadd hx hb dX8_leastWord_71 ?_
          refine lv_iconst (v := (1 : Int32)) hx hb dX8_leastWord_72 (by decide) ?_
          refine lv_iload hx hb dX8_leastWord_73 (lv_at hl 5 rfl) ?_
          refine xSTR C0 kw_832 hW dX8_leastWord_75 ?_
          refine xSTRlen C0 hW dX8_leastWord_78 ?_
          refine lv_isub hx hb dX8_leastWord_79 ?_
          refine lv_ishl hx hb dX8_leastWord_80 ?_
          refine lv_isub hx hb dX8_leastWord_81 ?_
          obtain ⟨g8, ho⟩ := gd_some ho
          refine xLD_808 C0 hW g8 dX8_leastWord_82 ?_
          refine lv_lor hx hb dX8_leastWord_83 ?_
          refine lv_nml ho (fun x9 ho => ?_)
          refine lv_lstore (lv' := [(5, .long x9), (0, .ref (am 2008)), (1, .int v1), (2, .int v2), (3, .long v3), (7, .int v7)]) hx hb dX8_leastWord_84 hl (by decide) rfl (fun ls hl => ?_)
          obtain ⟨x10, ex10, ho⟩ := nm_x ho
          refine lv_iinc (v := x10) (lv' := [(7, .int x10), (5, .long x9), (0, .ref (am 2008)), (1, .int v1), (2, .int v2), (3, .long v3)]) hx hb dX8_leastWord_86 hl (k := 5) rfl (by rw [ex10]; rfl) (by decide) rfl (fun ls hl => ?_)
          clear ex10
          refine lv_goto (tgt := 15) hx hb dX8_leastWord_89 (by decide) ?_
          cases ho
          exact ih _ _ hrun _ _ _ hW (lv_sub hl [2, 3, 4, 5, 1, 0] rfl)
      · replace ho := ite_f c2 ho
        refine lv_lload hx hb dX8_leastWord_33 (lv_at hl 4 rfl) ?_
        refine lv_lload_n hx hb dX8_leastWord_35 rfl (lv_at hl 3 rfl) ?_
        refine lv_iconst (v := (1 : Int32)) hx hb dX8_leastWord_36 (by decide) ?_
        refine lv_iload hx hb dX8_leastWord_37 (lv_at hl 5 rfl) ?_
        refine lv_ishl hx hb dX8_leastWord_39 ?_
        refine lv_lshl hx hb dX8_leastWord_40 rfl ?_
        refine xSTR C0 kw_832 hW dX8_leastWord_41 ?_
        refine lv_iload hx hb dX8_leastWord_44 (lv_at hl 5 rfl) ?_
        obtain ⟨g11, ho⟩ := gd_some ho
        refine xSTRld C0 hW g11 dX8_leastWord_46 ?_
        refine lv_land hx hb dX8_leastWord_47 ?_
        refine lv_lor hx hb dX8_leastWord_48 ?_
        refine lv_nml ho (fun x12 ho => ?_)
        refine lv_lstore (lv' := [(5, .long x12), (0, .ref (am 2008)), (1, .int v1), (2, .int v2), (3, .long v3), (7, .int v7)]) hx hb dX8_leastWord_49 hl (by decide) rfl (fun ls hl => ?_)
        refine lv_goto (tgt := 86) hx hb dX8_leastWord_51 (by decide) ?_
        obtain ⟨x13, ex13, ho⟩ := nm_x ho
        refine lv_iinc (v := x13) (lv' := [(7, .int x13), (5, .long x12), (0, .ref (am 2008)), (1, .int v1), (2, .int v2), (3, .long v3)]) hx hb dX8_leastWord_86 hl (k := 5) rfl (by rw [ex13]; rfl) (by decide) rfl (fun ls hl => ?_)
        clear ex13
        refine lv_goto (tgt := 15) hx hb dX8_leastWord_89 (by decide) ?_
        cases ho
        exact ih _ _ hrun _ _ _ hW (lv_sub hl [2, 3, 4, 5, 1, 0] rfl)
set_option maxHeartbeats 4000000 in
set_option maxRecDepth 100000 in
theorem c_x8_leastWord (l : Launch) {D : va_G} {cI cJ cZ cR : ClassId} {am gm : Nat → Nat} {st : Nat} (sz : Nat) (t : St) (a1 : Int32) (a2 : Int32) {r : Int64} (ho : x8_leastWord t a1 a2 = some r) : Met l yX8_leastWord (.code yX8_leastWord cX8_leastWord 9 (some .long) :: wsAll) (rmN 1 21) (va_Pc [.ref (am 2008), .int a1, .int a2] (prX D (tyX cI cJ cZ cR) (wX cI cJ cZ cR am gm t) sz st)) (qJ r D (tyX cI cJ cZ cR) (wX cI cJ cZ cR am gm t) (va_A (wX cI cJ cZ cR am gm t) sz)) 0 0 (va_A (wX cI cJ cZ cR am gm t) sz) := by
  refine Met.ofW (cc := cX8_leastWord) (maxL := 9) (ret := (some .long)) (by decide) rfl ?_
  intro p e s m args below meth c s₁ B hml hv
  obtain ⟨rfl, ⟨hsz, hP, hK, hD0⟩, hsx⟩ := hv
  have hx := B.exec
  have hb := B.bytes
  have hts := atoms_spec (ws := (.code yX8_leastWord cX8_leastWord 9 (some .long) :: wsAll)) B.pre
  have hta := fun w h => hts w (List.mem_cons_of_mem _ h)
  have hown : s.vm.findClass RX8 = some m.cls := findClass_of_methodNamed B.named
  have hlocks := B.notSynchronized
  subst hsz
  have hD := hD0.self (sz := s.heap.size)
  generalize hAe : va_A (wX cI cJ cZ cR am gm t) s.heap.size = A at hD ⊢
  have hA : ∀ q : Nat, s.heap.size ≤ q → A q := fun q h => by rw [← hAe]; exact Or.inr h
  have C0 : cxX p s m ([.ref (am 2008), .int a1, .int a2].toArray) meth c cX8_leastWord RX8 9 (some .long) D (tyX cI cJ cZ cR) st A := ⟨⟨hx, hb, B.returns, hml, hown, hta, hlocks, hK, hA⟩, by rw [← hAe]; exact hsx⟩
  have hW : wl D A s (wX cI cJ cZ cR am gm t) s.heap [] := ⟨hP, hD, va_S.rf⟩
  have hl := lv_entry [.ref (am 2008), .int a1, .int a2] (n := 9) (Nat.le_of_ble_eq_true rfl)
  rw [lg_entry_eq]
  generalize (lg_sl [.ref (am 2008), .int a1, .int a2] ++ List.replicate (9 - (lg_sl [.ref (am 2008), .int a1, .int a2]).length) Slot.unset).toArray = ls at hl ⊢
  have hl : lv_has ls 9 [(0, .ref (am 2008)), (1, .int a1), (2, .int a2)] := hl
  clear hAe hD hP hD0 hts
  have J119 : ∀ (v3 : Int64) (v5 : Int64) (w0 : Int64) (_ : x8_leastWord_J119 t v3 v5 w0 = some r) (H : Heap) (locs : List Loc) (ls : Array Slot), wl D A s (wX cI cJ cZ cR am gm t) H locs → lv_has ls 9 [(0, .ref (am 2008)), (3, .long v3), (5, .long v5)] → W p l e (rmN 1 21) s m ([.ref (am 2008), .int a1, .int a2].toArray) below meth c H locs 0 0 (MQ below (qJ r D (tyX cI cJ cZ cR) (wX cI cJ cZ cR am gm t) A) ([.ref (am 2008), .int a1, .int a2].toArray) s 0 0 A) (F0 m 119 ls [.long w0]) := by
    intro v3 v5 w0 ho H locs ls hW hl
    unfold x8_leastWord_J119 at ho
    refine lv_lstore (lv' := [(7, .long w0), (0, .ref (am 2008)), (3, .long v3), (5, .long v5)]) hx hb dX8_leastWord_119 hl (by decide) rfl (fun ls hl => ?_)
    refine lv_lload_n hx hb dX8_leastWord_121 rfl (lv_at hl 2 rfl) ?_
    refine lv_lload hx hb dX8_leastWord_122 (lv_at hl 3 rfl) ?_
    refine lv_ldc2 hx hb hown (hta _ kw_837) dX8_leastWord_124 ?_
    refine lv_lxor hx hb dX8_leastWord_127 ?_
    refine lv_land hx hb dX8_leastWord_128 ?_
    refine lv_lload hx hb dX8_leastWord_129 (lv_at hl 0 rfl) ?_
    refine lv_land hx hb dX8_leastWord_131 ?_
    cases ho
    exact rtJ C0.1 hW dX8_leastWord_132
  unfold x8_leastWord at ho
  refine lv_aload_n hx hb dX8_leastWord_0 rfl (lv_at hl 0 rfl) ?_
  refine xGET_808 C0 kw_285 hW dX8_leastWord_1 ?_
  refine lv_iload_n hx hb dX8_leastWord_4 rfl (lv_at hl 1 rfl) ?_
  refine lv_iload_n hx hb dX8_leastWord_5 rfl (lv_at hl 2 rfl) ?_
  refine lv_iadd hx hb dX8_leastWord_6 ?_
  obtain ⟨g14, ho⟩ := gd_some ho
  refine xLD_808 C0 hW g14 dX8_leastWord_7 ?_
  refine lv_nml ho (fun x15 ho => ?_)
  refine lv_lstore_n (lv' := [(3, .long x15), (0, .ref (am 2008)), (1, .int a1), (2, .int a2)]) hx hb dX8_leastWord_8 rfl hl (by decide) rfl (fun ls hl => ?_)
  refine lv_lconst (v := (0 : Int64)) hx hb dX8_leastWord_9 (by decide) ?_
  refine lv_lstore (lv' := [(5, .long (0 : Int64)), (3, .long x15), (0, .ref (am 2008)), (1, .int a1), (2, .int a2)]) hx hb dX8_leastWord_10 hl (by decide) rfl (fun ls hl => ?_)
  refine lv_iconst (v := (0 : Int32)) hx hb dX8_leastWord_12 (by decide) ?_
  refine lv_istore (lv' := [(7, .int (0 : Int32)), (5, .long (0 : Int64)), (3, .long x15), (0, .ref (am 2008)), (1, .int a1), (2, .int a2)]) hx hb dX8_leastWord_13 hl (by decide) rfl (fun ls hl => ?_)
  obtain ⟨y16, hc18, ho⟩ := bd_some ho
  obtain ⟨ny16, hc18⟩ := lp_to hc18
  refine x8_leastWord_L15 C0 ?_ ny16 _ _ hc18 _ _ _ hW (lv_sub hl [3, 4, 5, 2, 1, 0] rfl)
  intro H locs ls hW hl
  refine lv_aload_n hx hb dX8_leastWord_92 rfl (lv_at hl 0 rfl) ?_
  refine xGET_803 C0 kw_274 hW dX8_leastWord_93 ?_
  refine xSTR C0 kw_832 hW dX8_leastWord_96 ?_
  refine xSTRlen C0 hW dX8_leastWord_99 ?_
  refine lv_icmp_ge (tgt := 116) hx hb dX8_leastWord_100 (by decide) (fun c19 => ?_) (fun c19 => ?_)
  · replace ho := ite_t c19 ho
    refine lv_ldc2 hx hb hown (hta _ kw_837) dX8_leastWord_116 ?_
    exact J119 _ _ _ ho _ _ _ hW (lv_sub hl [0, 1, 2] rfl)
  · replace ho := ite_f c19 ho
    refine lv_lconst (v := (1 : Int64)) hx hb dX8_leastWord_103 (by decide) ?_
    refine lv_iconst (v := (1 : Int32)) hx hb dX8_leastWord_104 (by decide) ?_
    refine lv_aload_n hx hb dX8_leastWord_105 rfl (lv_at hl 0 rfl) ?_
    refine xGET_803 C0 kw_274 hW dX8_leastWord_106 ?_
    refine lv_ishl hx hb dX8_leastWord_109 ?_
    refine lv_lshl hx hb dX8_leastWord_110 rfl ?_
    refine lv_lconst (v := (1 : Int64)) hx hb dX8_leastWord_111 (by decide) ?_
    refine lv_lsub hx hb dX8_leastWord_112 ?_
    refine lv_goto (tgt := 119) hx hb dX8_leastWord_113 (by decide) ?_
    exact J119 _ _ _ ho _ _ _ hW (lv_sub hl [0, 1, 2] rfl)
noncomputable def j13_bitCount_95d88 (t : St) (a0 : Int64) : Option (Int32) :=
  nm (a0 - ((((a0).toUInt64 >>> (((1 : Int32)).toInt64.toUInt64 &&& Int64.toUInt64 63)).toInt64) &&& (6148914691236517205 : Int64))) (fun x1 : Int64 => nm ((x1 &&& (3689348814741910323 : Int64)) + ((((x1).toUInt64 >>> (((2 : Int32)).toInt64.toUInt64 &&& Int64.toUInt64 63)).toInt64) &&& (3689348814741910323 : Int64))) (fun x2 : Int64 => nm ((x2 + (((x2).toUInt64 >>> (((4 : Int32)).toInt64.toUInt64 &&& Int64.toUInt64 63)).toInt64)) &&& (1085102592571150095 : Int64)) (fun x3 : Int64 => nm (x3 + (((x3).toUInt64 >>> (((8 : Int32)).toInt64.toUInt64 &&& Int64.toUInt64 63)).toInt64)) (fun x4 : Int64 => nm (x4 + (((x4).toUInt64 >>> (((16 : Int32)).toInt64.toUInt64 &&& Int64.toUInt64 63)).toInt64)) (fun x5 : Int64 => nm (x5 + (((x5).toUInt64 >>> (((32 : Int32)).toInt64.toUInt64 &&& Int64.toUInt64 63)).toInt64)) (fun x6 : Int64 => some ((x6).toInt32 &&& (127 : Int32))))))))
set_option maxHeartbeats 4000000 in
set_option maxRecDepth 100000 in
theorem c_j13_bitCount_95d88 (l : Launch) {D : va_G} {cI cJ cZ cR : ClassId} {am gm : Nat → Nat} {st : Nat} (sz : Nat) (t : St) (a0 : Int64) {r : Int32} (ho : j13_bitCount_95d88 t a0 = some r) : Met l yJ13_bitCount_95d88 (.code yJ13_bitCount_95d88 cJ13_bitCount_95d88 2 (some .int) :: wsAll) (rmN 0 0) (va_Pc [.long a0] (prX D (tyX cI cJ cZ cR) (wX cI cJ cZ cR am gm t) sz st)) (qI r D (tyX cI cJ cZ cR) (wX cI cJ cZ cR am gm t) (va_A (wX cI cJ cZ cR am gm t) sz)) 0 0 (va_A (wX cI cJ cZ cR am gm t) sz) := by
  refine Met.ofW (cc := cJ13_bitCount_95d88) (maxL := 2) (ret := (some .int)) (by decide) rfl ?_
  intro p e s m args below meth c s₁ B hml hv
  obtain ⟨rfl, ⟨hsz, hP, hK, hD0⟩, hsx⟩ := hv
  have hx := B.exec
  have hb := B.bytes
  have hts := atoms_spec (ws := (.code yJ13_bitCount_95d88 cJ13_bitCount_95d88 2 (some .int) :: wsAll)) B.pre
  have hta := fun w h => hts w (List.mem_cons_of_mem _ h)
  have hown : s.vm.findClass RJ13 = some m.cls := findClass_of_methodNamed B.named
  have hlocks := B.notSynchronized
  subst hsz
  have hD := hD0.self (sz := s.heap.size)
  generalize hAe : va_A (wX cI cJ cZ cR am gm t) s.heap.size = A at hD ⊢
  have hA : ∀ q : Nat, s.heap.size ≤ q → A q := fun q h => by rw [← hAe]; exact Or.inr h
  have C0 : cxX p s m ([.long a0].toArray) meth c cJ13_bitCount_95d88 RJ13 2 (some .int) D (tyX cI cJ cZ cR) st A := ⟨⟨hx, hb, B.returns, hml, hown, hta, hlocks, hK, hA⟩, by rw [← hAe]; exact hsx⟩
  have hW : wl D A s (wX cI cJ cZ cR am gm t) s.heap [] := ⟨hP, hD, va_S.rf⟩
  have hl := lv_entry [.long a0] (n := 2) (Nat.le_of_ble_eq_true rfl)
  rw [lg_entry_eq]
  generalize (lg_sl [.long a0] ++ List.replicate (2 - (lg_sl [.long a0]).length) Slot.unset).toArray = ls at hl ⊢
  have hl : lv_has ls 2 [(0, .long a0)] := hl
  unfold j13_bitCount_95d88 at ho
  refine lv_lload_n hx hb dJ13_bitCount_95d88_0 rfl (lv_at hl 0 rfl) ?_
  refine lv_lload_n hx hb dJ13_bitCount_95d88_1 rfl (lv_at hl 0 rfl) ?_
  refine lv_iconst (v := (1 : Int32)) hx hb dJ13_bitCount_95d88_2 (by decide) ?_
  refine lv_lushr hx hb dJ13_bitCount_95d88_3 rfl ?_
  refine lv_ldc2 hx hb hown (hta _ kw_870) dJ13_bitCount_95d88_4 ?_
  refine lv_land hx hb dJ13_bitCount_95d88_7 ?_
  refine lv_lsub hx hb dJ13_bitCount_95d88_8 ?_
  refine lv_nml ho (fun x1 ho => ?_)
  refine lv_lstore_n (lv' := [(0, .long x1)]) hx hb dJ13_bitCount_95d88_9 rfl hl (by decide) rfl (fun ls hl => ?_)
  refine lv_lload_n hx hb dJ13_bitCount_95d88_10 rfl (lv_at hl 0 rfl) ?_
  refine lv_ldc2 hx hb hown (hta _ kw_871) dJ13_bitCount_95d88_11 ?_
  refine lv_land hx hb dJ13_bitCount_95d88_14 ?_
  refine lv_lload_n hx hb dJ13_bitCount_95d88_15 rfl (lv_at hl 0 rfl) ?_
  refine lv_iconst (v := (2 : Int32)) hx hb dJ13_bitCount_95d88_16 (by decide) ?_
  refine lv_lushr hx hb dJ13_bitCount_95d88_17 rfl ?_
  refine lv_ldc2 hx hb hown (hta _ kw_871) dJ13_bitCount_95d88_18 ?_
  refine lv_land hx hb dJ13_bitCount_95d88_21 ?_
  refine lv_ladd hx hb dJ13_bitCount_95d88_22 ?_
  refine lv_nml ho (fun x2 ho => ?_)
  refine lv_lstore_n (lv' := [(0, .long x2)]) hx hb dJ13_bitCount_95d88_23 rfl hl (by decide) rfl (fun ls hl => ?_)
  refine lv_lload_n hx hb dJ13_bitCount_95d88_24 rfl (lv_at hl 0 rfl) ?_
  refine lv_lload_n hx hb dJ13_bitCount_95d88_25 rfl (lv_at hl 0 rfl) ?_
  refine lv_iconst (v := (4 : Int32)) hx hb dJ13_bitCount_95d88_26 (by decide) ?_
  refine lv_lushr hx hb dJ13_bitCount_95d88_27 rfl ?_
  refine lv_ladd hx hb dJ13_bitCount_95d88_28 ?_
  refine lv_ldc2 hx hb hown (hta _ kw_872) dJ13_bitCount_95d88_29 ?_
  refine lv_land hx hb dJ13_bitCount_95d88_32 ?_
  refine lv_nml ho (fun x3 ho => ?_)
  refine lv_lstore_n (lv' := [(0, .long x3)]) hx hb dJ13_bitCount_95d88_33 rfl hl (by decide) rfl (fun ls hl => ?_)
  refine lv_lload_n hx hb dJ13_bitCount_95d88_34 rfl (lv_at hl 0 rfl) ?_
  refine lv_lload_n hx hb dJ13_bitCount_95d88_35 rfl (lv_at hl 0 rfl) ?_
  refine lv_bipush (v := (8 : Int32)) hx hb dJ13_bitCount_95d88_36 (by decide) ?_
  refine lv_lushr hx hb dJ13_bitCount_95d88_38 rfl ?_
  refine lv_ladd hx hb dJ13_bitCount_95d88_39 ?_
  refine lv_nml ho (fun x4 ho => ?_)
  refine lv_lstore_n (lv' := [(0, .long x4)]) hx hb dJ13_bitCount_95d88_40 rfl hl (by decide) rfl (fun ls hl => ?_)
  refine lv_lload_n hx hb dJ13_bitCount_95d88_41 rfl (lv_at hl 0 rfl) ?_
  refine lv_lload_n hx hb dJ13_bitCount_95d88_42 rfl (lv_at hl 0 rfl) ?_
  refine lv_bipush (v := (16 : Int32)) hx hb dJ13_bitCount_95d88_43 (by decide) ?_
  refine lv_lushr hx hb dJ13_bitCount_95d88_45 rfl ?_
  refine lv_ladd hx hb dJ13_bitCount_95d88_46 ?_
  refine lv_nml ho (fun x5 ho => ?_)
  refine lv_lstore_n (lv' := [(0, .long x5)]) hx hb dJ13_bitCount_95d88_47 rfl hl (by decide) rfl (fun ls hl => ?_)
  refine lv_lload_n hx hb dJ13_bitCount_95d88_48 rfl (lv_at hl 0 rfl) ?_
  refine lv_lload_n hx hb dJ13_bitCount_95d88_49 rfl (lv_at hl 0 rfl) ?_
  refine lv_bipush (v := (32 : Int32)) hx hb dJ13_bitCount_95d88_50 (by decide) ?_
  refine lv_lushr hx hb dJ13_bitCount_95d88_52 rfl ?_
  refine lv_ladd hx hb dJ13_bitCount_95d88_53 ?_
  refine lv_nml ho (fun x6 ho => ?_)
  refine lv_lstore_n (lv' := [(0, .long x6)]) hx hb dJ13_bitCount_95d88_54 rfl hl (by decide) rfl (fun ls hl => ?_)
  refine lv_lload_n hx hb dJ13_bitCount_95d88_55 rfl (lv_at hl 0 rfl) ?_
  refine lv_l2i hx hb dJ13_bitCount_95d88_56 rfl ?_
  refine lv_bipush (v := (127 : Int32)) hx hb dJ13_bitCount_95d88_57 (by decide) ?_
  refine lv_iand hx hb dJ13_bitCount_95d88_59 ?_
  cases ho
  exact rtI C0.1 hW dJ13_bitCount_95d88_60
noncomputable def x8_countLeast_B4 (t : St) (v1 : Int32) (v2 : Int32) (v3 : Int32) : Option ((Int32 × Int32) ⊕ (Int32)) :=
  if (gI t 804) ≤ v3 then (some (.inr v2)) else (if (200 : Int32) < v2 then (some (.inr v2)) else ((x8_leastWord t v1 v3).bind (fun q3 => (j13_bitCount_95d88 t q3).bind (fun q5 => nm (v2 + q5) (fun x7 : Int32 => nm (v3 + (1 : Int32)) (fun x8 : Int32 => some (.inl (x7, x8))))))))
noncomputable def x8_countLeast (t : St) (a1 : Int32) : Option (Int32) :=
  (lp (fun x => x8_countLeast_B4 t a1 x.1 x.2) ((0 : Int32), (0 : Int32))).bind (fun y9 => some y9)
set_option maxHeartbeats 4000000 in
set_option maxRecDepth 100000 in
theorem x8_countLeast_L4 {p : Program} {l : Launch} {e : Env} {s : State} {m : MethodId} {args : Array Value} {below : List Frame} {meth : Method} {c : Code} {Q : State → Prop} {D : va_G} {cI cJ cZ cR : ClassId} {am gm : Nat → Nat} {st : Nat} {A : Nat → Prop} (C0 : cxX p s m args meth c cX8_countLeast RX8 4 (some .int) D (tyX cI cJ cZ cR) st A) {t : St} {v1 : Int32} {y : Int32} (hK0 : ∀ (H : Heap) (locs : List Loc) (ls : Array Slot), wl D A s (wX cI cJ cZ cR am gm t) H locs → lv_has ls 4 [(0, .ref (am 2008)), (2, .int y)] → W p l e (rmN 2 49) s m args below meth c H locs 0 0 Q (F0 m 37 ls [])) :
    ∀ (n : Nat) (v2 : Int32) (v3 : Int32), lpn (fun x => x8_countLeast_B4 t v1 x.1 x.2) n (v2, v3) = some y → ∀ (H : Heap) (locs : List Loc) (ls : Array Slot), wl D A s (wX cI cJ cZ cR am gm t) H locs → lv_has ls 4 [(0, .ref (am 2008)), (1, .int v1), (2, .int v2), (3, .int v3)] → W p l e (rmN 2 49) s m args below meth c H locs 0 0 Q (F0 m 4 ls []) := by
  have hx := C0.1.1
  have hb := C0.1.2.1
  have hta := C0.1.2.2.2.2.2.1
  have hown := C0.1.2.2.2.2.1
  intro n
  induction n with
  | zero => intro _ _ h; cases h
  | succ n ih =>
    intro v2 v3 hrun H locs ls hW hl
    obtain ⟨o, ho, hrun⟩ := bd_some hrun
    unfold x8_countLeast_B4 at ho
    refine lv_iload_n hx hb dX8_countLeast_4 rfl (lv_at hl 3 rfl) ?_
    refine lv_aload_n hx hb dX8_countLeast_5 rfl (lv_at hl 0 rfl) ?_
    refine xGET_804 C0 kw_278 hW dX8_countLeast_6 ?_
    refine lv_icmp_ge (tgt := 37) hx hb dX8_countLeast_9 (by decide) (fun c1 => ?_) (fun c1 => ?_)
    · replace ho := ite_t c1 ho
      cases ho
      cases hrun
      exact hK0 _ _ _ hW (lv_sub hl [0, 2] rfl)
    · replace ho := ite_f c1 ho
      refine lv_iload_n hx hb dX8_countLeast_12 rfl (lv_at hl 2 rfl) ?_
      refine lv_sipush (v := (200 : Int32)) hx hb dX8_countLeast_13 (by decide) ?_
      refine lv_icmp_gt (tgt := 37) hx hb dX8_countLeast_16 (by decide) (fun c2 => ?_) (fun c2 => ?_)
      · replace ho := ite_t c2 ho
        cases ho
        cases hrun
        exact hK0 _ _ _ hW (lv_sub hl [0, 2] rfl)
      · replace ho := ite_f c2 ho
        refine lv_iload_n hx hb dX8_countLeast_19 rfl (lv_at hl 2 rfl) ?_
        refine lv_aload_n hx hb dX8_countLeast_20 rfl (lv_at hl 0 rfl) ?_
        refine lv_iload_n hx hb dX8_countLeast_21 rfl (lv_at hl 1 rfl) ?_
        refine lv_iload_n hx hb dX8_countLeast_22 rfl (lv_at hl 3 rfl) ?_
        obtain ⟨q3, hc4, ho⟩ := bd_some ho
        refine bkJ C0.1 hW (runVX (As := [.int v1, .int v3]) (rest := [.int v2]) C0 hW (c_x8_leastWord l _ t v1 v3 (r := q3) hc4) cb_X8_X8_leastWord_128 8 8 rfl rfl rfl rfl rfl ⟨rfl, rfl⟩ ⟨Nat.le_of_ble_eq_true rfl, Nat.le_of_ble_eq_true rfl⟩ (Nat.le_of_ble_eq_true rfl) hl.1 dX8_countLeast_23 ⟨Nat.le_of_ble_eq_true rfl, Nat.le_of_ble_eq_true rfl⟩) (fun H locs hW => ?_)
        obtain ⟨q5, hc6, ho⟩ := bd_some ho
        refine bkI C0.1 hW (runSX (As := [.long q3]) (rest := [.int v2]) C0 hW (c_j13_bitCount_95d88 l _ t q3 (r := q5) hc6) cb_X8_J13_bitCount_95d88_132 rfl rfl ⟨rfl, rfl⟩ ⟨Nat.le_of_ble_eq_true rfl, Nat.le_of_ble_eq_true rfl⟩ (Nat.le_of_ble_eq_true rfl) hl.1 dX8_countLeast_26 ⟨Nat.le_of_ble_eq_true rfl, Nat.le_of_ble_eq_true rfl⟩) (fun H locs hW => ?_)
        refine lv_iadd hx hb dX8_countLeast_29 ?_
        refine lv_nmi ho (fun x7 ho => ?_)
        refine lv_istore_n (lv' := [(2, .int x7), (0, .ref (am 2008)), (1, .int v1), (3, .int v3)]) hx hb dX8_countLeast_30 rfl hl (by decide) rfl (fun ls hl => ?_)
        obtain ⟨x8, ex8, ho⟩ := nm_x ho
        refine lv_iinc (v := x8) (lv' := [(3, .int x8), (2, .int x7), (0, .ref (am 2008)), (1, .int v1)]) hx hb dX8_countLeast_31 hl (k := 3) rfl (by rw [ex8]; rfl) (by decide) rfl (fun ls hl => ?_)
        clear ex8
        refine lv_goto (tgt := 4) hx hb dX8_countLeast_34 (by decide) ?_
        cases ho
        exact ih _ _ hrun _ _ _ hW (lv_sub hl [2, 3, 1, 0] rfl)
set_option maxHeartbeats 4000000 in
set_option maxRecDepth 100000 in
theorem c_x8_countLeast (l : Launch) {D : va_G} {cI cJ cZ cR : ClassId} {am gm : Nat → Nat} {st : Nat} (sz : Nat) (t : St) (a1 : Int32) {r : Int32} (ho : x8_countLeast t a1 = some r) : Met l yX8_countLeast (.code yX8_countLeast cX8_countLeast 4 (some .int) :: wsAll) (rmN 2 49) (va_Pc [.ref (am 2008), .int a1] (prX D (tyX cI cJ cZ cR) (wX cI cJ cZ cR am gm t) sz st)) (qI r D (tyX cI cJ cZ cR) (wX cI cJ cZ cR am gm t) (va_A (wX cI cJ cZ cR am gm t) sz)) 0 0 (va_A (wX cI cJ cZ cR am gm t) sz) := by
  refine Met.ofW (cc := cX8_countLeast) (maxL := 4) (ret := (some .int)) (by decide) rfl ?_
  intro p e s m args below meth c s₁ B hml hv
  obtain ⟨rfl, ⟨hsz, hP, hK, hD0⟩, hsx⟩ := hv
  have hx := B.exec
  have hb := B.bytes
  have hts := atoms_spec (ws := (.code yX8_countLeast cX8_countLeast 4 (some .int) :: wsAll)) B.pre
  have hta := fun w h => hts w (List.mem_cons_of_mem _ h)
  have hown : s.vm.findClass RX8 = some m.cls := findClass_of_methodNamed B.named
  have hlocks := B.notSynchronized
  subst hsz
  have hD := hD0.self (sz := s.heap.size)
  generalize hAe : va_A (wX cI cJ cZ cR am gm t) s.heap.size = A at hD ⊢
  have hA : ∀ q : Nat, s.heap.size ≤ q → A q := fun q h => by rw [← hAe]; exact Or.inr h
  have C0 : cxX p s m ([.ref (am 2008), .int a1].toArray) meth c cX8_countLeast RX8 4 (some .int) D (tyX cI cJ cZ cR) st A := ⟨⟨hx, hb, B.returns, hml, hown, hta, hlocks, hK, hA⟩, by rw [← hAe]; exact hsx⟩
  have hW : wl D A s (wX cI cJ cZ cR am gm t) s.heap [] := ⟨hP, hD, va_S.rf⟩
  have hl := lv_entry [.ref (am 2008), .int a1] (n := 4) (Nat.le_of_ble_eq_true rfl)
  rw [lg_entry_eq]
  generalize (lg_sl [.ref (am 2008), .int a1] ++ List.replicate (4 - (lg_sl [.ref (am 2008), .int a1]).length) Slot.unset).toArray = ls at hl ⊢
  have hl : lv_has ls 4 [(0, .ref (am 2008)), (1, .int a1)] := hl
  unfold x8_countLeast at ho
  refine lv_iconst (v := (0 : Int32)) hx hb dX8_countLeast_0 (by decide) ?_
  refine lv_istore_n (lv' := [(2, .int (0 : Int32)), (0, .ref (am 2008)), (1, .int a1)]) hx hb dX8_countLeast_1 rfl hl (by decide) rfl (fun ls hl => ?_)
  refine lv_iconst (v := (0 : Int32)) hx hb dX8_countLeast_2 (by decide) ?_
  refine lv_istore_n (lv' := [(3, .int (0 : Int32)), (2, .int (0 : Int32)), (0, .ref (am 2008)), (1, .int a1)]) hx hb dX8_countLeast_3 rfl hl (by decide) rfl (fun ls hl => ?_)
  obtain ⟨y9, hc11, ho⟩ := bd_some ho
  obtain ⟨ny9, hc11⟩ := lp_to hc11
  refine x8_countLeast_L4 C0 ?_ ny9 _ _ hc11 _ _ _ hW (lv_sub hl [2, 3, 1, 0] rfl)
  intro H locs ls hW hl
  refine lv_iload_n hx hb dX8_countLeast_37 rfl (lv_at hl 1 rfl) ?_
  cases ho
  exact rtI C0.1 hW dX8_countLeast_38
noncomputable def x8_fillStep_J66 (t : St) (v1 : Int32) (v2 : Int32) (w1 : Int32) (w2 : Int64) : Option ((Int32 × St) ⊕ (St)) :=
  gd w1 (gN t 808) (nm (sB t 808 w1 w2) (fun t2 : St => nm (v2 + (1 : Int32)) (fun x3 : Int32 => some (.inl (x3, t2)))))
theorem mm_x8_fillStep_J66 (t : St) (v1 : Int32) (v2 : Int32) (w1 : Int32) (w2 : Int64) : MR (x8_fillStep_J66 t v1 v2 w1 w2) t (Sum.elim (fun (x : Int32 × St) => x.2) (fun (y : St) => y)) := by
  unfold x8_fillStep_J66
  exact MR_gd (MR_nmS mle_sB (fun t2 ht2 => MR_nm (fun x3 _ => MR_some ht2)))
noncomputable def x8_fillStep_B2 (v1 : Int32) (v2 : Int32) (t : St) : Option ((Int32 × St) ⊕ (St)) :=
  if (gI t 804) ≤ v2 then (some (.inr t)) else (if (6 : Int32) ≤ v1 then ((x8_hasRank t v2 v1).bind (fun q6 => if q6 = 0 then (x8_fillStep_J66 t v1 v2 ((v1 * (gI t 804)) + v2) (0 : Int64)) else (x8_fillStep_J66 t v1 v2 ((v1 * (gI t 804)) + v2) (-1 : Int64)))) else (gd v1 6 (gd ((v1 * (gI t 804)) + v2) (gN t 808) (nm (sB t 808 ((v1 * (gI t 804)) + v2) (stL (v1).toNatClampNeg)) (fun t12 : St => nm (v2 + (1 : Int32)) (fun x13 : Int32 => some (.inl (x13, t12))))))))
theorem mm_x8_fillStep_B2 (v1 : Int32) (v2 : Int32) (t : St) : MR (x8_fillStep_B2 v1 v2 t) t (Sum.elim (fun (x : Int32 × St) => x.2) (fun (y : St) => y)) := by
  unfold x8_fillStep_B2
  exact MR_ite (MR_some mle.rfl) (MR_ite (MR_bindn (fun q6 => MR_ite (MR_wk mle.rfl (mm_x8_fillStep_J66 t v1 v2 ((v1 * (gI t 804)) + v2) (0 : Int64))) (MR_wk mle.rfl (mm_x8_fillStep_J66 t v1 v2 ((v1 * (gI t 804)) + v2) (-1 : Int64))))) (MR_gd (MR_gd (MR_nmS mle_sB (fun t12 ht12 => MR_nm (fun x13 _ => MR_some ht12))))))
theorem mm_x8_fillStep_L2 (v1 : Int32) (v2 : Int32) (t : St) : MR (lp (fun x => x8_fillStep_B2 v1 x.1 x.2) (v2, t)) t (fun (y : St) => y) := MR_lp (p := (fun (x : Int32 × St) => x.2)) (q := (fun (y : St) => y)) (fun x => mm_x8_fillStep_B2 v1 x.1 x.2) (v2, t)
noncomputable def x8_fillStep (t : St) (a1 : Int32) : Option (St) :=
  (lp (fun x => x8_fillStep_B2 a1 x.1 x.2) ((0 : Int32), t)).bind (fun y14 => some y14)
theorem mm_x8_fillStep (t : St) (a1 : Int32) : MR (x8_fillStep t a1) t (fun (a : St) => a) := by
  unfold x8_fillStep
  exact MR_bind (mm_x8_fillStep_L2 a1 (0 : Int32) t) (fun y14 hm15 => MR_some hm15)
set_option maxHeartbeats 4000000 in
set_option maxRecDepth 100000 in
theorem x8_fillStep_L2 {p : Program} {l : Launch} {e : Env} {s : State} {m : MethodId} {args : Array Value} {below : List Frame} {meth : Method} {c : Code} {Q : State → Prop} {D : va_G} {cI cJ cZ cR : ClassId} {am gm : Nat → Nat} {st : Nat} {A : Nat → Prop} (C0 : cxX p s m args meth c cX8_fillStep RX8 3 none D (tyX cI cJ cZ cR) st A) {v1 : Int32} {y : St} (hK0 : ∀ (H : Heap) (locs : List Loc) (ls : Array Slot), wl D A s (wX cI cJ cZ cR am gm y) H locs → lv_has ls 3 [(0, .ref (am 2008))] → W p l e (rmN 1 21) s m args below meth c H locs 0 0 Q (F0 m 73 ls [])) :
    ∀ (n : Nat) (v2 : Int32) (t : St), lpn (fun x => x8_fillStep_B2 v1 x.1 x.2) n (v2, t) = some y → ∀ (H : Heap) (locs : List Loc) (ls : Array Slot), wl D A s (wX cI cJ cZ cR am gm t) H locs → lv_has ls 3 [(0, .ref (am 2008)), (1, .int v1), (2, .int v2)] → W p l e (rmN 1 21) s m args below meth c H locs 0 0 Q (F0 m 2 ls []) := by
  have hx := C0.1.1
  have hb := C0.1.2.1
  have hta := C0.1.2.2.2.2.2.1
  have hown := C0.1.2.2.2.2.1
  intro n
  induction n with
  | zero => intro _ _ h; cases h
  | succ n ih =>
    intro v2 t hrun H locs ls hW hl
    obtain ⟨o, ho, hrun⟩ := bd_some hrun
    have J66 : ∀ (t : St) (v2 : Int32) (w1 : Int32) (w2 : Int64) (_ : x8_fillStep_J66 t v1 v2 w1 w2 = some o) (H : Heap) (locs : List Loc) (ls : Array Slot), wl D A s (wX cI cJ cZ cR am gm t) H locs → lv_has ls 3 [(0, .ref (am 2008)), (1, .int v1), (2, .int v2)] → W p l e (rmN 1 21) s m args below meth c H locs 0 0 Q (F0 m 66 ls [.long w2, .int w1, .ref (gm 808)]) := by
      intro t v2 w1 w2 ho H locs ls hW hl
      unfold x8_fillStep_J66 at ho
      obtain ⟨g1, ho⟩ := gd_some ho
      refine xST_808 C0 hW g1 dX8_fillStep_66 (fun H locs hW => ?_)
      obtain ⟨t2, ho, hW⟩ := nm_w (P := fun t => wl D A s (wX cI cJ cZ cR am gm t) H locs) ho hW
      obtain ⟨x3, ex3, ho⟩ := nm_x ho
      refine lv_iinc (v := x3) (lv' := [(2, .int x3), (0, .ref (am 2008)), (1, .int v1)]) hx hb dX8_fillStep_67 hl (k := 2) rfl (by rw [ex3]; rfl) (by decide) rfl (fun ls hl => ?_)
      clear ex3
      refine lv_goto (tgt := 2) hx hb dX8_fillStep_70 (by decide) ?_
      cases ho
      exact ih _ _ hrun _ _ _ hW (lv_sub hl [1, 2, 0] rfl)
    unfold x8_fillStep_B2 at ho
    refine lv_iload_n hx hb dX8_fillStep_2 rfl (lv_at hl 2 rfl) ?_
    refine lv_aload_n hx hb dX8_fillStep_3 rfl (lv_at hl 0 rfl) ?_
    refine xGET_804 C0 kw_278 hW dX8_fillStep_4 ?_
    refine lv_icmp_ge (tgt := 73) hx hb dX8_fillStep_7 (by decide) (fun c4 => ?_) (fun c4 => ?_)
    · replace ho := ite_t c4 ho
      cases ho
      cases hrun
      exact hK0 _ _ _ hW (lv_sub hl [0] rfl)
    · replace ho := ite_f c4 ho
      refine lv_iload_n hx hb dX8_fillStep_10 rfl (lv_at hl 1 rfl) ?_
      refine xSTR C0 kw_832 hW dX8_fillStep_11 ?_
      refine xSTRlen C0 hW dX8_fillStep_14 ?_
      refine lv_icmp_ge (tgt := 39) hx hb dX8_fillStep_15 (by decide) (fun c5 => ?_) (fun c5 => ?_)
      · replace ho := ite_t c5 ho
        refine lv_aload_n hx hb dX8_fillStep_39 rfl (lv_at hl 0 rfl) ?_
        refine xGET_808 C0 kw_285 hW dX8_fillStep_40 ?_
        refine lv_iload_n hx hb dX8_fillStep_43 rfl (lv_at hl 1 rfl) ?_
        refine lv_aload_n hx hb dX8_fillStep_44 rfl (lv_at hl 0 rfl) ?_
        refine xGET_804 C0 kw_278 hW dX8_fillStep_45 ?_
        refine lv_imul hx hb dX8_fillStep_48 ?_
        refine lv_iload_n hx hb dX8_fillStep_49 rfl (lv_at hl 2 rfl) ?_
        refine lv_iadd hx hb dX8_fillStep_50 ?_
        refine lv_iload_n hx hb dX8_fillStep_51 rfl (lv_at hl 2 rfl) ?_
        refine lv_iload_n hx hb dX8_fillStep_52 rfl (lv_at hl 1 rfl) ?_
        obtain ⟨q6, hc7, ho⟩ := bd_some ho
        refine bkZ C0.1 hW (runSX (As := [.int v2, .int v1]) (rest := [.int ((v1 * (gI t 804)) + v2), .ref (gm 808)]) C0 hW (c_x8_hasRank l _ t v2 v1 (r := q6) hc7) cb_X8_X8_hasRank_101 rfl rfl ⟨rfl, rfl⟩ ⟨Nat.le_of_ble_eq_true rfl, Nat.le_of_ble_eq_true rfl⟩ (Nat.le_of_ble_eq_true rfl) hl.1 dX8_fillStep_53 ⟨Nat.le_of_ble_eq_true rfl, Nat.le_of_ble_eq_true rfl⟩) (fun z8 H locs hW => ?_)
        refine lv_if_eq (tgt := 65) hx hb dX8_fillStep_56 (by decide) (fun c9 => ?_) (fun c9 => ?_)
        · replace ho := ite_t c9 ho
          refine lv_lconst (v := (0 : Int64)) hx hb dX8_fillStep_65 (by decide) ?_
          exact J66 _ _ _ _ ho _ _ _ hW (lv_sub hl [0, 1, 2] rfl)
        · replace ho := ite_f c9 ho
          refine lv_ldc2 hx hb hown (hta _ kw_837) dX8_fillStep_59 ?_
          refine lv_goto (tgt := 66) hx hb dX8_fillStep_62 (by decide) ?_
          exact J66 _ _ _ _ ho _ _ _ hW (lv_sub hl [0, 1, 2] rfl)
      · replace ho := ite_f c5 ho
        refine lv_aload_n hx hb dX8_fillStep_18 rfl (lv_at hl 0 rfl) ?_
        refine xGET_808 C0 kw_285 hW dX8_fillStep_19 ?_
        refine lv_iload_n hx hb dX8_fillStep_22 rfl (lv_at hl 1 rfl) ?_
        refine lv_aload_n hx hb dX8_fillStep_23 rfl (lv_at hl 0 rfl) ?_
        refine xGET_804 C0 kw_278 hW dX8_fillStep_24 ?_
        refine lv_imul hx hb dX8_fillStep_27 ?_
        refine lv_iload_n hx hb dX8_fillStep_28 rfl (lv_at hl 2 rfl) ?_
        refine lv_iadd hx hb dX8_fillStep_29 ?_
        refine xSTR C0 kw_832 hW dX8_fillStep_30 ?_
        refine lv_iload_n hx hb dX8_fillStep_33 rfl (lv_at hl 1 rfl) ?_
        obtain ⟨g10, ho⟩ := gd_some ho
        refine xSTRld C0 hW g10 dX8_fillStep_34 ?_
        obtain ⟨g11, ho⟩ := gd_some ho
        refine xST_808 C0 hW g11 dX8_fillStep_35 (fun H locs hW => ?_)
        obtain ⟨t12, ho, hW⟩ := nm_w (P := fun t => wl D A s (wX cI cJ cZ cR am gm t) H locs) ho hW
        refine lv_goto (tgt := 67) hx hb dX8_fillStep_36 (by decide) ?_
        obtain ⟨x13, ex13, ho⟩ := nm_x ho
        refine lv_iinc (v := x13) (lv' := [(2, .int x13), (0, .ref (am 2008)), (1, .int v1)]) hx hb dX8_fillStep_67 hl (k := 2) rfl (by rw [ex13]; rfl) (by decide) rfl (fun ls hl => ?_)
        clear ex13
        refine lv_goto (tgt := 2) hx hb dX8_fillStep_70 (by decide) ?_
        cases ho
        exact ih _ _ hrun _ _ _ hW (lv_sub hl [1, 2, 0] rfl)
set_option maxHeartbeats 4000000 in
set_option maxRecDepth 100000 in
theorem c_x8_fillStep (l : Launch) {D : va_G} {cI cJ cZ cR : ClassId} {am gm : Nat → Nat} {st : Nat} (sz : Nat) (t : St) (a1 : Int32) {t' : St} (ho : x8_fillStep t a1 = some t') : Met l yX8_fillStep (.code yX8_fillStep cX8_fillStep 3 none :: wsAll) (rmN 1 21) (va_Pc [.ref (am 2008), .int a1] (prX D (tyX cI cJ cZ cR) (wX cI cJ cZ cR am gm t) sz st)) (qV D (tyX cI cJ cZ cR) (wX cI cJ cZ cR am gm t') (va_A (wX cI cJ cZ cR am gm t) sz)) 0 0 (va_A (wX cI cJ cZ cR am gm t) sz) := by
  refine Met.ofW (cc := cX8_fillStep) (maxL := 3) (ret := none) (by decide) rfl ?_
  intro p e s m args below meth c s₁ B hml hv
  obtain ⟨rfl, ⟨hsz, hP, hK, hD0⟩, hsx⟩ := hv
  have hx := B.exec
  have hb := B.bytes
  have hts := atoms_spec (ws := (.code yX8_fillStep cX8_fillStep 3 none :: wsAll)) B.pre
  have hta := fun w h => hts w (List.mem_cons_of_mem _ h)
  have hown : s.vm.findClass RX8 = some m.cls := findClass_of_methodNamed B.named
  have hlocks := B.notSynchronized
  subst hsz
  have hD := hD0.self (sz := s.heap.size)
  generalize hAe : va_A (wX cI cJ cZ cR am gm t) s.heap.size = A at hD ⊢
  have hA : ∀ q : Nat, s.heap.size ≤ q → A q := fun q h => by rw [← hAe]; exact Or.inr h
  have C0 : cxX p s m ([.ref (am 2008), .int a1].toArray) meth c cX8_fillStep RX8 3 none D (tyX cI cJ cZ cR) st A := ⟨⟨hx, hb, B.returns, hml, hown, hta, hlocks, hK, hA⟩, by rw [← hAe]; exact hsx⟩
  have hW : wl D A s (wX cI cJ cZ cR am gm t) s.heap [] := ⟨hP, hD, va_S.rf⟩
  have hl := lv_entry [.ref (am 2008), .int a1] (n := 3) (Nat.le_of_ble_eq_true rfl)
  rw [lg_entry_eq]
  generalize (lg_sl [.ref (am 2008), .int a1] ++ List.replicate (3 - (lg_sl [.ref (am 2008), .int a1]).length) Slot.unset).toArray = ls at hl ⊢
  have hl : lv_has ls 3 [(0, .ref (am 2008)), (1, .int a1)] := hl
  unfold x8_fillStep at ho
  refine lv_iconst (v := (0 : Int32)) hx hb dX8_fillStep_0 (by decide) ?_
  refine lv_istore_n (lv' := [(2, .int (0 : Int32)), (0, .ref (am 2008)), (1, .int a1)]) hx hb dX8_fillStep_1 rfl hl (by decide) rfl (fun ls hl => ?_)
  obtain ⟨y14, hc16, ho⟩ := bd_some ho
  obtain ⟨ny14, hc16⟩ := lp_to hc16
  refine x8_fillStep_L2 C0 ?_ ny14 _ _ hc16 _ _ _ hW (lv_sub hl [1, 2, 0] rfl)
  intro H locs ls hW hl
  cases ho
  exact rtV C0.1 hW dX8_fillStep_73
noncomputable def x8_fillFor_B83 (v2 : Int32) (t : St) : Option ((Int32 × St) ⊕ (St)) :=
  if (gI t 803) ≤ v2 then (some (.inr t)) else ((x8_fillStep t v2).bind (fun q2 => nm (v2 + (1 : Int32)) (fun x4 : Int32 => some (.inl (x4, q2)))))
theorem mm_x8_fillFor_B83 (v2 : Int32) (t : St) : MR (x8_fillFor_B83 v2 t) t (Sum.elim (fun (x : Int32 × St) => x.2) (fun (y : St) => y)) := by
  unfold x8_fillFor_B83
  exact MR_ite (MR_some mle.rfl) (MR_bind (mm_x8_fillStep t v2) (fun q2 hq2 => MR_nm (fun x4 _ => MR_some hq2)))
theorem mm_x8_fillFor_L83 (v2 : Int32) (t : St) : MR (lp (fun x => x8_fillFor_B83 x.1 x.2) (v2, t)) t (fun (y : St) => y) := MR_lp (p := (fun (x : Int32 × St) => x.2)) (q := (fun (y : St) => y)) (fun x => mm_x8_fillFor_B83 x.1 x.2) (v2, t)
noncomputable def x8_fillFor_J126 (t : St) (v2 : Int32) (w1 : Int32) (w2 : Int32) : Option ((Int32 × St) ⊕ (St)) :=
  gd w1 (gN t 809) (nm (sA t 809 w1 (vp_nar .boolean w2)) (fun t6 : St => nm (v2 + (1 : Int32)) (fun x7 : Int32 => some (.inl (x7, t6)))))
theorem mm_x8_fillFor_J126 (t : St) (v2 : Int32) (w1 : Int32) (w2 : Int32) : MR (x8_fillFor_J126 t v2 w1 w2) t (Sum.elim (fun (x : Int32 × St) => x.2) (fun (y : St) => y)) := by
  unfold x8_fillFor_J126
  exact MR_gd (MR_nmS mle_sA (fun t6 ht6 => MR_nm (fun x7 _ => MR_some ht6)))
noncomputable def x8_fillFor_B104 (v2 : Int32) (t : St) : Option ((Int32 × St) ⊕ (St)) :=
  if (56 : Int32) ≤ v2 then (some (.inr t)) else (if (16 : Int32) ≤ v2 then (x8_fillFor_J126 t v2 v2 (0 : Int32)) else (x8_fillFor_J126 t v2 v2 (1 : Int32)))
theorem mm_x8_fillFor_B104 (v2 : Int32) (t : St) : MR (x8_fillFor_B104 v2 t) t (Sum.elim (fun (x : Int32 × St) => x.2) (fun (y : St) => y)) := by
  unfold x8_fillFor_B104
  exact MR_ite (MR_some mle.rfl) (MR_ite (MR_wk mle.rfl (mm_x8_fillFor_J126 t v2 v2 (0 : Int32))) (MR_wk mle.rfl (mm_x8_fillFor_J126 t v2 v2 (1 : Int32))))
theorem mm_x8_fillFor_L104 (v2 : Int32) (t : St) : MR (lp (fun x => x8_fillFor_B104 x.1 x.2) (v2, t)) t (fun (y : St) => y) := MR_lp (p := (fun (x : Int32 × St) => x.2)) (q := (fun (y : St) => y)) (fun x => mm_x8_fillFor_B104 x.1 x.2) (v2, t)
noncomputable def x8_fillFor_J234 (t : St) (v2 : Int32) : Option ((Int32 × St) ⊕ (St)) :=
  gd v2 (gN t 813) (if (gA t 813 (v2).toNatClampNeg) ≤ (200 : Int32) then (nm (v2 + (1 : Int32)) (fun x12 : Int32 => some (.inl (x12, t)))) else (nm (sI t 807 (1 : Int32)) (fun t13 : St => nm (v2 + (1 : Int32)) (fun x14 : Int32 => some (.inl (x14, t13))))))
theorem mm_x8_fillFor_J234 (t : St) (v2 : Int32) : MR (x8_fillFor_J234 t v2) t (Sum.elim (fun (x : Int32 × St) => x.2) (fun (y : St) => y)) := by
  unfold x8_fillFor_J234
  exact MR_gd (MR_ite (MR_nm (fun x12 _ => MR_some mle.rfl)) (MR_nmS mle_sI (fun t13 ht13 => MR_nm (fun x14 _ => MR_some ht13))))
noncomputable def x8_fillFor_B144 (v2 : Int32) (t : St) : Option ((Int32 × St) ⊕ (St)) :=
  if (gI t 805) < v2 then (some (.inr t)) else (gd v2 (gN t 810) (if (gA t 810 (v2).toNatClampNeg) = 0 then (nm (v2 + (1 : Int32)) (fun x34 : Int32 => some (.inl (x34, t)))) else (gd v2 (gN t 603) (if (gA t 603 (v2).toNatClampNeg) = 0 then (gd v2 (gN t 604) (gd (gA t 604 (v2).toNatClampNeg) (gN t 802) (gd v2 (gN t 812) (nm (sA t 812 v2 (gA t 802 ((gA t 604 (v2).toNatClampNeg)).toNatClampNeg)) (fun t32 : St => nm (v2 + (1 : Int32)) (fun x33 : Int32 => some (.inl (x33, t32)))))))) else ((x8_fillKnot t v2).bind (fun q20 => gd v2 (gN q20 813) (if (gA q20 813 (v2).toNatClampNeg) = 0 then (gd v2 (gN q20 812) ((x8_countLeast q20 ((gA q20 812 (v2).toNatClampNeg) * (gI q20 804))).bind (fun q25 => gd v2 (gN q20 813) (nm (sA q20 813 v2 q25) (fun t28 : St => x8_fillFor_J234 t28 v2))))) else (x8_fillFor_J234 q20 v2))))))))
theorem mm_x8_fillFor_B144 (v2 : Int32) (t : St) : MR (x8_fillFor_B144 v2 t) t (Sum.elim (fun (x : Int32 × St) => x.2) (fun (y : St) => y)) := by
  unfold x8_fillFor_B144
  exact MR_ite (MR_some mle.rfl) (MR_gd (MR_ite (MR_nm (fun x34 _ => MR_some mle.rfl)) (MR_gd (MR_ite (MR_gd (MR_gd (MR_gd (MR_nmS mle_sA (fun t32 ht32 => MR_nm (fun x33 _ => MR_some ht32)))))) (MR_bind (mm_x8_fillKnot t v2) (fun q20 hq20 => MR_gd (MR_ite (MR_gd (MR_bindn (fun q25 => MR_gd (MR_nmS mle_sA (fun t28 ht28 => MR_wk (mle.trans hq20 ht28) (mm_x8_fillFor_J234 t28 v2)))))) (MR_wk hq20 (mm_x8_fillFor_J234 q20 v2)))))))))
theorem mm_x8_fillFor_L144 (v2 : Int32) (t : St) : MR (lp (fun x => x8_fillFor_B144 x.1 x.2) (v2, t)) t (fun (y : St) => y) := MR_lp (p := (fun (x : Int32 × St) => x.2)) (q := (fun (y : St) => y)) (fun x => mm_x8_fillFor_B144 x.1 x.2) (v2, t)
noncomputable def x8_fillFor_J81 (t : St) : Option (St) :=
  (lp (fun x => x8_fillFor_B83 x.1 x.2) ((0 : Int32), t)).bind (fun y35 => (lp (fun x => x8_fillFor_B104 x.1 x.2) ((0 : Int32), y35)).bind (fun y38 => (x8_markNeeded y38).bind (fun q41 => nm (sI q41 807 (0 : Int32)) (fun t43 : St => (lp (fun x => x8_fillFor_B144 x.1 x.2) ((0 : Int32), t43)).bind (fun y44 => gd (gI y44 805) (gN y44 812) (nm (sI y44 806 ((gA y44 812 ((gI y44 805)).toNatClampNeg) * (gI y44 804))) (fun t48 : St => some t48)))))))
theorem mm_x8_fillFor_J81 (t : St) : MR (x8_fillFor_J81 t) t (fun (a : St) => a) := by
  unfold x8_fillFor_J81
  exact MR_bind (mm_x8_fillFor_L83 (0 : Int32) t) (fun y35 hm36 => MR_bind (mm_x8_fillFor_L104 (0 : Int32) y35) (fun y38 hm39 => MR_bind (mm_x8_markNeeded y38) (fun q41 hq41 => MR_nmS mle_sI (fun t43 ht43 => MR_bind (mm_x8_fillFor_L144 (0 : Int32) t43) (fun y44 hm45 => MR_gd (MR_nmS mle_sI (fun t48 ht48 => MR_some (mle.trans (mle.trans (mle.trans (mle.trans (mle.trans hm36 hm39) hq41) ht43) hm45) ht48))))))))
noncomputable def x8_fillFor_J50 (t : St) (w1 : Int32) : Option (St) :=
  nm (sI t 804 w1) (fun t49 : St => if ((56 : Int32) * (gI t49 804)) ≤ (Int32.ofNat (gN t49 808)) then (x8_fillFor_J81 t49) else (nwl t49 808 ((56 : Int32) * (gI t49 804)) (fun t51 : St => x8_fillFor_J81 t51)))
theorem mm_x8_fillFor_J50 (t : St) (w1 : Int32) : MR (x8_fillFor_J50 t w1) t (fun (a : St) => a) := by
  unfold x8_fillFor_J50
  exact MR_nmS mle_sI (fun t49 ht49 => MR_ite (MR_wk ht49 (mm_x8_fillFor_J81 t49)) (MR_nwl (fun t51 ht51 => MR_wk (mle.trans ht49 ht51) (mm_x8_fillFor_J81 t51))))
noncomputable def x8_fillFor (t0 : St) (a1 : Int32) : Option (St) :=
  if a1 = (gI t0 805) then (some t0) else (nm (sI t0 805 a1) (fun t54 : St => gd a1 (gN t54 607) ((x8_rankSteps t54 (gA t54 607 (a1).toNatClampNeg)).bind (fun q56 => if (6 : Int32) < (gI q56 803) then (x8_fillFor_J50 q56 ((1 : Int32) <<< (((gI q56 803) - (6 : Int32)) &&& 31))) else (x8_fillFor_J50 q56 (1 : Int32))))))
theorem mm_x8_fillFor (t0 : St) (a1 : Int32) : MR (x8_fillFor t0 a1) t0 (fun (a : St) => a) := by
  unfold x8_fillFor
  exact MR_ite (MR_some mle.rfl) (MR_nmS mle_sI (fun t54 ht54 => MR_gd (MR_bind (mm_x8_rankSteps t54 (gA t54 607 (a1).toNatClampNeg)) (fun q56 hq56 => MR_ite (MR_wk (mle.trans ht54 hq56) (mm_x8_fillFor_J50 q56 ((1 : Int32) <<< (((gI q56 803) - (6 : Int32)) &&& 31)))) (MR_wk (mle.trans ht54 hq56) (mm_x8_fillFor_J50 q56 (1 : Int32)))))))
set_option maxHeartbeats 4000000 in
set_option maxRecDepth 100000 in
theorem x8_fillFor_L83 {p : Program} {l : Launch} {e : Env} {s : State} {m : MethodId} {args : Array Value} {below : List Frame} {meth : Method} {c : Code} {Q : State → Prop} {D : va_G} {cI cJ cZ cR : ClassId} {am gm : Nat → Nat} {st : Nat} {A : Nat → Prop} (C0 : cxX p s m args meth c cX8_fillFor RX8 3 none D (tyX cI cJ cZ cR) st A) {t0 t' : St} {cells slots : Nat} (hR : cells ≤ mC t0 t' ∧ slots ≤ mS t0 t') {y : St} (hK0 : ∀ (H : Heap) (locs : List Loc) (ls : Array Slot), wl D A s (wX cI cJ cZ cR am gm y) H locs → lv_has ls 3 [(0, .ref (am 2008))] → W p l e (rmA 3 75 t0 t') s m args below meth c H locs cells slots Q (F0 m 102 ls [])) :
    ∀ (n : Nat) (v2 : Int32) (t : St), lpn (fun x => x8_fillFor_B83 x.1 x.2) n (v2, t) = some y → ∀ (H : Heap) (locs : List Loc) (ls : Array Slot), wl D A s (wX cI cJ cZ cR am gm t) H locs → lv_has ls 3 [(0, .ref (am 2008)), (2, .int v2)] → W p l e (rmA 3 75 t0 t') s m args below meth c H locs cells slots Q (F0 m 83 ls []) := by
  have hx := C0.1.1
  have hb := C0.1.2.1
  have hta := C0.1.2.2.2.2.2.1
  have hown := C0.1.2.2.2.2.1
  intro n
  induction n with
  | zero => intro _ _ h; cases h
  | succ n ih =>
    intro v2 t hrun H locs ls hW hl
    obtain ⟨o, ho, hrun⟩ := bd_some hrun
    unfold x8_fillFor_B83 at ho
    refine lv_iload_n hx hb dX8_fillFor_83 rfl (lv_at hl 1 rfl) ?_
    refine lv_aload_n hx hb dX8_fillFor_84 rfl (lv_at hl 0 rfl) ?_
    refine xGET_803 C0 kw_274 hW dX8_fillFor_85 ?_
    refine lv_icmp_ge (tgt := 102) hx hb dX8_fillFor_88 (by decide) (fun c1 => ?_) (fun c1 => ?_)
    · replace ho := ite_t c1 ho
      cases ho
      cases hrun
      exact hK0 _ _ _ hW (lv_sub hl [0] rfl)
    · replace ho := ite_f c1 ho
      refine lv_aload_n hx hb dX8_fillFor_91 rfl (lv_at hl 0 rfl) ?_
      refine lv_iload_n hx hb dX8_fillFor_92 rfl (lv_at hl 1 rfl) ?_
      obtain ⟨q2, hc3, ho⟩ := bd_some ho
      have hq2 := mm_x8_fillStep t v2 _ hc3
      refine bkV C0.1 hW (runVX (As := [.int v2]) (rest := []) C0 hW (c_x8_fillStep l _ t v2 (t' := q2) hc3) cb_X8_X8_fillStep_79 8 8 rfl rfl rfl rfl rfl ⟨rfl, rfl⟩ ⟨Nat.le_of_ble_eq_true rfl, Nat.le_of_ble_eq_true rfl⟩ (Nat.le_of_ble_eq_true rfl) hl.1 dX8_fillFor_93 ⟨hR.1, hR.2⟩) (fun H locs hW => ?_)
      obtain ⟨x4, ex4, ho⟩ := nm_x ho
      refine lv_iinc (v := x4) (lv' := [(2, .int x4), (0, .ref (am 2008))]) hx hb dX8_fillFor_96 hl (k := 1) rfl (by rw [ex4]; rfl) (by decide) rfl (fun ls hl => ?_)
      clear ex4
      refine lv_goto (tgt := 83) hx hb dX8_fillFor_99 (by decide) ?_
      cases ho
      exact ih _ _ hrun _ _ _ hW (lv_sub hl [1, 0] rfl)
set_option maxHeartbeats 4000000 in
set_option maxRecDepth 100000 in
theorem x8_fillFor_L104 {p : Program} {l : Launch} {e : Env} {s : State} {m : MethodId} {args : Array Value} {below : List Frame} {meth : Method} {c : Code} {Q : State → Prop} {D : va_G} {cI cJ cZ cR : ClassId} {am gm : Nat → Nat} {st : Nat} {A : Nat → Prop} (C0 : cxX p s m args meth c cX8_fillFor RX8 3 none D (tyX cI cJ cZ cR) st A) {t0 t' : St} {cells slots : Nat} (hR : cells ≤ mC t0 t' ∧ slots ≤ mS t0 t') {y : St} (hK0 : ∀ (H : Heap) (locs : List Loc) (ls : Array Slot), wl D A s (wX cI cJ cZ cR am gm y) H locs → lv_has ls 3 [(0, .ref (am 2008))] → W p l e (rmA 3 75 t0 t') s m args below meth c H locs cells slots Q (F0 m 133 ls [])) :
    ∀ (n : Nat) (v2 : Int32) (t : St), lpn (fun x => x8_fillFor_B104 x.1 x.2) n (v2, t) = some y → ∀ (H : Heap) (locs : List Loc) (ls : Array Slot), wl D A s (wX cI cJ cZ cR am gm t) H locs → lv_has ls 3 [(0, .ref (am 2008)), (2, .int v2)] → W p l e (rmA 3 75 t0 t') s m args below meth c H locs cells slots Q (F0 m 104 ls []) := by
  have hx := C0.1.1
  have hb := C0.1.2.1
  have hta := C0.1.2.2.2.2.2.1
  have hown := C0.1.2.2.2.2.1
  intro n
  induction n with
  | zero => intro _ _ h; cases h
  | succ n ih =>
    intro v2 t hrun H locs ls hW hl
    obtain ⟨o, ho, hrun⟩ := bd_some hrun
    have J126 : ∀ (t : St) (v2 : Int32) (w1 : Int32) (w2 : Int32) (_ : x8_fillFor_J126 t v2 w1 w2 = some o) (H : Heap) (locs : List Loc) (ls : Array Slot), wl D A s (wX cI cJ cZ cR am gm t) H locs → lv_has ls 3 [(0, .ref (am 2008)), (2, .int v2)] → W p l e (rmA 3 75 t0 t') s m args below meth c H locs cells slots Q (F0 m 126 ls [.int w2, .int w1, .ref (am 809)]) := by
      intro t v2 w1 w2 ho H locs ls hW hl
      unfold x8_fillFor_J126 at ho
      obtain ⟨g5, ho⟩ := gd_some ho
      refine xST_809 C0 hW g5 dX8_fillFor_126 (fun H locs hW => ?_)
      obtain ⟨t6, ht6, ho, hW⟩ := nm_wm (P := fun t => wl D A s (wX cI cJ cZ cR am gm t) H locs) mle_sA ho hW
      obtain ⟨x7, ex7, ho⟩ := nm_x ho
      refine lv_iinc (v := x7) (lv' := [(2, .int x7), (0, .ref (am 2008))]) hx hb dX8_fillFor_127 hl (k := 1) rfl (by rw [ex7]; rfl) (by decide) rfl (fun ls hl => ?_)
      clear ex7
      refine lv_goto (tgt := 104) hx hb dX8_fillFor_130 (by decide) ?_
      cases ho
      exact ih _ _ hrun _ _ _ hW (lv_sub hl [1, 0] rfl)
    unfold x8_fillFor_B104 at ho
    refine lv_iload_n hx hb dX8_fillFor_104 rfl (lv_at hl 1 rfl) ?_
    refine lv_bipush (v := (56 : Int32)) hx hb dX8_fillFor_105 (by decide) ?_
    refine lv_icmp_ge (tgt := 133) hx hb dX8_fillFor_107 (by decide) (fun c8 => ?_) (fun c8 => ?_)
    · replace ho := ite_t c8 ho
      cases ho
      cases hrun
      exact hK0 _ _ _ hW (lv_sub hl [0] rfl)
    · replace ho := ite_f c8 ho
      refine lv_aload_n hx hb dX8_fillFor_110 rfl (lv_at hl 0 rfl) ?_
      refine xGET_809 C0 kw_286 hW dX8_fillFor_111 ?_
      refine lv_iload_n hx hb dX8_fillFor_114 rfl (lv_at hl 1 rfl) ?_
      refine lv_iload_n hx hb dX8_fillFor_115 rfl (lv_at hl 1 rfl) ?_
      refine lv_bipush (v := (16 : Int32)) hx hb dX8_fillFor_116 (by decide) ?_
      refine lv_icmp_ge (tgt := 125) hx hb dX8_fillFor_118 (by decide) (fun c9 => ?_) (fun c9 => ?_)
      · replace ho := ite_t c9 ho
        refine lv_iconst (v := (0 : Int32)) hx hb dX8_fillFor_125 (by decide) ?_
        exact J126 _ _ _ _ ho _ _ _ hW (lv_sub hl [0, 1] rfl)
      · replace ho := ite_f c9 ho
        refine lv_iconst (v := (1 : Int32)) hx hb dX8_fillFor_121 (by decide) ?_
        refine lv_goto (tgt := 126) hx hb dX8_fillFor_122 (by decide) ?_
        exact J126 _ _ _ _ ho _ _ _ hW (lv_sub hl [0, 1] rfl)
set_option maxHeartbeats 4000000 in
set_option maxRecDepth 100000 in
theorem x8_fillFor_L144 {p : Program} {l : Launch} {e : Env} {s : State} {m : MethodId} {args : Array Value} {below : List Frame} {meth : Method} {c : Code} {Q : State → Prop} {D : va_G} {cI cJ cZ cR : ClassId} {am gm : Nat → Nat} {st : Nat} {A : Nat → Prop} (C0 : cxX p s m args meth c cX8_fillFor RX8 3 none D (tyX cI cJ cZ cR) st A) {t0 t' : St} {cells slots : Nat} (hR : cells ≤ mC t0 t' ∧ slots ≤ mS t0 t') {y : St} (hK0 : ∀ (H : Heap) (locs : List Loc) (ls : Array Slot), wl D A s (wX cI cJ cZ cR am gm y) H locs → lv_has ls 3 [(0, .ref (am 2008))] → W p l e (rmA 3 75 t0 t') s m args below meth c H locs cells slots Q (F0 m 257 ls [])) :
    ∀ (n : Nat) (v2 : Int32) (t : St), lpn (fun x => x8_fillFor_B144 x.1 x.2) n (v2, t) = some y → ∀ (H : Heap) (locs : List Loc) (ls : Array Slot), wl D A s (wX cI cJ cZ cR am gm t) H locs → lv_has ls 3 [(0, .ref (am 2008)), (2, .int v2)] → W p l e (rmA 3 75 t0 t') s m args below meth c H locs cells slots Q (F0 m 144 ls []) := by
  have hx := C0.1.1
  have hb := C0.1.2.1
  have hta := C0.1.2.2.2.2.2.1
  have hown := C0.1.2.2.2.2.1
  intro n
  induction n with
  | zero => intro _ _ h; cases h
  | succ n ih =>
    intro v2 t hrun H locs ls hW hl
    obtain ⟨o, ho, hrun⟩ := bd_some hrun
    have J234 : ∀ (t : St) (v2 : Int32) (_ : x8_fillFor_J234 t v2 = some o) (H : Heap) (locs : List Loc) (ls : Array Slot), wl D A s (wX cI cJ cZ cR am gm t) H locs → lv_has ls 3 [(0, .ref (am 2008)), (2, .int v2)] → W p l e (rmA 3 75 t0 t') s m args below meth c H locs cells slots Q (F0 m 234 ls []) := by
      intro t v2 ho H locs ls hW hl
      unfold x8_fillFor_J234 at ho
      refine lv_aload_n hx hb dX8_fillFor_234 rfl (lv_at hl 0 rfl) ?_
      refine xGET_813 C0 kw_290 hW dX8_fillFor_235 ?_
      refine lv_iload_n hx hb dX8_fillFor_238 rfl (lv_at hl 1 rfl) ?_
      obtain ⟨g10, ho⟩ := gd_some ho
      refine xLD_813 C0 hW g10 dX8_fillFor_239 ?_
      refine lv_sipush (v := (200 : Int32)) hx hb dX8_fillFor_240 (by decide) ?_
      refine lv_icmp_le (tgt := 251) hx hb dX8_fillFor_243 (by decide) (fun c11 => ?_) (fun c11 => ?_)
      · replace ho := ite_t c11 ho
        obtain ⟨x12, ex12, ho⟩ := nm_x ho
        refine lv_iinc (v := x12) (lv' := [(2, .int x12), (0, .ref (am 2008))]) hx hb dX8_fillFor_251 hl (k := 1) rfl (by rw [ex12]; rfl) (by decide) rfl (fun ls hl => ?_)
        clear ex12
        refine lv_goto (tgt := 144) hx hb dX8_fillFor_254 (by decide) ?_
        cases ho
        exact ih _ _ hrun _ _ _ hW (lv_sub hl [1, 0] rfl)
      · replace ho := ite_f c11 ho
        refine lv_aload_n hx hb dX8_fillFor_246 rfl (lv_at hl 0 rfl) ?_
        refine lv_iconst (v := (1 : Int32)) hx hb dX8_fillFor_247 (by decide) ?_
        refine xPUT_807 C0 kw_283 (Or.inr rfl) hW dX8_fillFor_248 (fun H locs hW => ?_)
        obtain ⟨t13, ht13, ho, hW⟩ := nm_wm (P := fun t => wl D A s (wX cI cJ cZ cR am gm t) H locs) mle_sI ho hW
        obtain ⟨x14, ex14, ho⟩ := nm_x ho
        refine lv_iinc (v := x14) (lv' := [(2, .int x14), (0, .ref (am 2008))]) hx hb dX8_fillFor_251 hl (k := 1) rfl (by rw [ex14]; rfl) (by decide) rfl (fun ls hl => ?_)
        clear ex14
        refine lv_goto (tgt := 144) hx hb dX8_fillFor_254 (by decide) ?_
        cases ho
        exact ih _ _ hrun _ _ _ hW (lv_sub hl [1, 0] rfl)
    unfold x8_fillFor_B144 at ho
    refine lv_iload_n hx hb dX8_fillFor_144 rfl (lv_at hl 1 rfl) ?_
    refine lv_aload_n hx hb dX8_fillFor_145 rfl (lv_at hl 0 rfl) ?_
    refine xGET_805 C0 kw_280 hW dX8_fillFor_146 ?_
    refine lv_icmp_gt (tgt := 257) hx hb dX8_fillFor_149 (by decide) (fun c15 => ?_) (fun c15 => ?_)
    · replace ho := ite_t c15 ho
      cases ho
      cases hrun
      exact hK0 _ _ _ hW (lv_sub hl [0] rfl)
    · replace ho := ite_f c15 ho
      refine lv_aload_n hx hb dX8_fillFor_152 rfl (lv_at hl 0 rfl) ?_
      refine xGET_810 C0 kw_287 hW dX8_fillFor_153 ?_
      refine lv_iload_n hx hb dX8_fillFor_156 rfl (lv_at hl 1 rfl) ?_
      obtain ⟨g16, ho⟩ := gd_some ho
      refine xLD_810 C0 hW g16 dX8_fillFor_157 ?_
      refine lv_if_ne (tgt := 164) hx hb dX8_fillFor_158 (by decide) (fun c17 => ?_) (fun c17 => ?_)
      · replace ho := ite_f c17 ho
        refine lv_aload_n hx hb dX8_fillFor_164 rfl (lv_at hl 0 rfl) ?_
        refine xGET_800 C0 kw_269 hW dX8_fillFor_165 ?_
        refine xGET_603 C0 kw_187 hW dX8_fillFor_168 ?_
        refine lv_iload_n hx hb dX8_fillFor_171 rfl (lv_at hl 1 rfl) ?_
        obtain ⟨g18, ho⟩ := gd_some ho
        refine xLD_603 C0 hW g18 dX8_fillFor_172 ?_
        refine lv_if_ne (tgt := 199) hx hb dX8_fillFor_173 (by decide) (fun c19 => ?_) (fun c19 => ?_)
        · replace ho := ite_f c19 ho
          refine lv_aload_n hx hb dX8_fillFor_199 rfl (lv_at hl 0 rfl) ?_
          refine lv_iload_n hx hb dX8_fillFor_200 rfl (lv_at hl 1 rfl) ?_
          obtain ⟨q20, hc21, ho⟩ := bd_some ho
          have hq20 := mm_x8_fillKnot t v2 _ hc21
          refine bkV C0.1 hW (runVX (As := [.int v2]) (rest := []) C0 hW (c_x8_fillKnot l _ t v2 (t' := q20) hc21) cb_X8_X8_fillKnot_91 8 8 rfl rfl rfl rfl rfl ⟨rfl, rfl⟩ ⟨Nat.le_of_ble_eq_true rfl, Nat.le_of_ble_eq_true rfl⟩ (Nat.le_of_ble_eq_true rfl) hl.1 dX8_fillFor_201 ⟨hR.1, hR.2⟩) (fun H locs hW => ?_)
          refine lv_aload_n hx hb dX8_fillFor_204 rfl (lv_at hl 0 rfl) ?_
          refine xGET_813 C0 kw_290 hW dX8_fillFor_205 ?_
          refine lv_iload_n hx hb dX8_fillFor_208 rfl (lv_at hl 1 rfl) ?_
          obtain ⟨g22, ho⟩ := gd_some ho
          refine xLD_813 C0 hW g22 dX8_fillFor_209 ?_
          refine lv_if_ne (tgt := 234) hx hb dX8_fillFor_210 (by decide) (fun c23 => ?_) (fun c23 => ?_)
          · replace ho := ite_f c23 ho
            exact J234 _ _ ho _ _ _ hW (lv_sub hl [0, 1] rfl)
          · replace ho := ite_t c23 ho
            refine lv_aload_n hx hb dX8_fillFor_213 rfl (lv_at hl 0 rfl) ?_
            refine xGET_813 C0 kw_290 hW dX8_fillFor_214 ?_
            refine lv_iload_n hx hb dX8_fillFor_217 rfl (lv_at hl 1 rfl) ?_
            refine lv_aload_n hx hb dX8_fillFor_218 rfl (lv_at hl 0 rfl) ?_
            refine lv_aload_n hx hb dX8_fillFor_219 rfl (lv_at hl 0 rfl) ?_
            refine xGET_812 C0 kw_289 hW dX8_fillFor_220 ?_
            refine lv_iload_n hx hb dX8_fillFor_223 rfl (lv_at hl 1 rfl) ?_
            obtain ⟨g24, ho⟩ := gd_some ho
            refine xLD_812 C0 hW g24 dX8_fillFor_224 ?_
            refine lv_aload_n hx hb dX8_fillFor_225 rfl (lv_at hl 0 rfl) ?_
            refine xGET_804 C0 kw_278 hW dX8_fillFor_226 ?_
            refine lv_imul hx hb dX8_fillFor_229 ?_
            obtain ⟨q25, hc26, ho⟩ := bd_some ho
            refine bkI C0.1 hW (runVX (As := [.int ((gA q20 812 (v2).toNatClampNeg) * (gI q20 804))]) (rest := [.int v2, .ref (am 813)]) C0 hW (c_x8_countLeast l _ q20 ((gA q20 812 (v2).toNatClampNeg) * (gI q20 804)) (r := q25) hc26) cb_X8_X8_countLeast_94 8 8 rfl rfl rfl rfl rfl ⟨rfl, rfl⟩ ⟨Nat.le_of_ble_eq_true rfl, Nat.le_of_ble_eq_true rfl⟩ (Nat.le_of_ble_eq_true rfl) hl.1 dX8_fillFor_230 ⟨hR.1, hR.2⟩) (fun H locs hW => ?_)
            obtain ⟨g27, ho⟩ := gd_some ho
            refine xST_813 C0 hW g27 dX8_fillFor_233 (fun H locs hW => ?_)
            obtain ⟨t28, ht28, ho, hW⟩ := nm_wm (P := fun t => wl D A s (wX cI cJ cZ cR am gm t) H locs) mle_sA ho hW
            exact J234 _ _ ho _ _ _ hW (lv_sub hl [0, 1] rfl)
        · replace ho := ite_t c19 ho
          refine lv_aload_n hx hb dX8_fillFor_176 rfl (lv_at hl 0 rfl) ?_
          refine xGET_812 C0 kw_289 hW dX8_fillFor_177 ?_
          refine lv_iload_n hx hb dX8_fillFor_180 rfl (lv_at hl 1 rfl) ?_
          refine lv_aload_n hx hb dX8_fillFor_181 rfl (lv_at hl 0 rfl) ?_
          refine xGET_802 C0 kw_272 hW dX8_fillFor_182 ?_
          refine lv_aload_n hx hb dX8_fillFor_185 rfl (lv_at hl 0 rfl) ?_
          refine xGET_800 C0 kw_269 hW dX8_fillFor_186 ?_
          refine xGET_604 C0 kw_191 hW dX8_fillFor_189 ?_
          refine lv_iload_n hx hb dX8_fillFor_192 rfl (lv_at hl 1 rfl) ?_
          obtain ⟨g29, ho⟩ := gd_some ho
          refine xLD_604 C0 hW g29 dX8_fillFor_193 ?_
          obtain ⟨g30, ho⟩ := gd_some ho
          refine xLD_802 C0 hW g30 dX8_fillFor_194 ?_
          obtain ⟨g31, ho⟩ := gd_some ho
          refine xST_812 C0 hW g31 dX8_fillFor_195 (fun H locs hW => ?_)
          obtain ⟨t32, ht32, ho, hW⟩ := nm_wm (P := fun t => wl D A s (wX cI cJ cZ cR am gm t) H locs) mle_sA ho hW
          refine lv_goto (tgt := 251) hx hb dX8_fillFor_196 (by decide) ?_
          obtain ⟨x33, ex33, ho⟩ := nm_x ho
          refine lv_iinc (v := x33) (lv' := [(2, .int x33), (0, .ref (am 2008))]) hx hb dX8_fillFor_251 hl (k := 1) rfl (by rw [ex33]; rfl) (by decide) rfl (fun ls hl => ?_)
          clear ex33
          refine lv_goto (tgt := 144) hx hb dX8_fillFor_254 (by decide) ?_
          cases ho
          exact ih _ _ hrun _ _ _ hW (lv_sub hl [1, 0] rfl)
      · replace ho := ite_t c17 ho
        refine lv_goto (tgt := 251) hx hb dX8_fillFor_161 (by decide) ?_
        obtain ⟨x34, ex34, ho⟩ := nm_x ho
        refine lv_iinc (v := x34) (lv' := [(2, .int x34), (0, .ref (am 2008))]) hx hb dX8_fillFor_251 hl (k := 1) rfl (by rw [ex34]; rfl) (by decide) rfl (fun ls hl => ?_)
        clear ex34
        refine lv_goto (tgt := 144) hx hb dX8_fillFor_254 (by decide) ?_
        cases ho
        exact ih _ _ hrun _ _ _ hW (lv_sub hl [1, 0] rfl)
set_option maxHeartbeats 4000000 in
set_option maxRecDepth 100000 in
theorem c_x8_fillFor (l : Launch) {D : va_G} {cI cJ cZ cR : ClassId} {am gm : Nat → Nat} {st : Nat} (sz : Nat) (t0 : St) (a1 : Int32) {t' : St} (ho : x8_fillFor t0 a1 = some t') : Met l yX8_fillFor (.code yX8_fillFor cX8_fillFor 3 none :: wsAll) (rmA 3 75 t0 t') (va_Pc [.ref (am 2008), .int a1] (prX D (tyX cI cJ cZ cR) (wX cI cJ cZ cR am gm t0) sz st)) (qVa D (tyX cI cJ cZ cR) (fun gm => wX cI cJ cZ cR am gm t') (va_A (wX cI cJ cZ cR am gm t0) sz)) (mC t0 t') (mS t0 t') (va_A (wX cI cJ cZ cR am gm t0) sz) := by
  refine Met.ofW (cc := cX8_fillFor) (maxL := 3) (ret := none) (by decide) rfl ?_
  intro p e s m args below meth c s₁ B hml hv
  obtain ⟨rfl, ⟨hsz, hP, hK, hD0⟩, hsx⟩ := hv
  have hx := B.exec
  have hb := B.bytes
  have hts := atoms_spec (ws := (.code yX8_fillFor cX8_fillFor 3 none :: wsAll)) B.pre
  have hta := fun w h => hts w (List.mem_cons_of_mem _ h)
  have hown : s.vm.findClass RX8 = some m.cls := findClass_of_methodNamed B.named
  have hlocks := B.notSynchronized
  subst hsz
  have hD := hD0.self (sz := s.heap.size)
  generalize hAe : va_A (wX cI cJ cZ cR am gm t0) s.heap.size = A at hD ⊢
  have hA : ∀ q : Nat, s.heap.size ≤ q → A q := fun q h => by rw [← hAe]; exact Or.inr h
  have C0 : cxX p s m ([.ref (am 2008), .int a1].toArray) meth c cX8_fillFor RX8 3 none D (tyX cI cJ cZ cR) st A := ⟨⟨hx, hb, B.returns, hml, hown, hta, hlocks, hK, hA⟩, by rw [← hAe]; exact hsx⟩
  have hW : wl D A s (wX cI cJ cZ cR am gm t0) s.heap [] := ⟨hP, hD, va_S.rf⟩
  have hl := lv_entry [.ref (am 2008), .int a1] (n := 3) (Nat.le_of_ble_eq_true rfl)
  rw [lg_entry_eq]
  generalize (lg_sl [.ref (am 2008), .int a1] ++ List.replicate (3 - (lg_sl [.ref (am 2008), .int a1]).length) Slot.unset).toArray = ls at hl ⊢
  have hl : lv_has ls 3 [(0, .ref (am 2008)), (1, .int a1)] := hl
  clear hAe hD hP hD0 hts
  have J81 : ∀ (gm : Nat → Nat) (t : St) (_ : x8_fillFor_J81 t = some t') (_ : mle t0 t) (H : Heap) (locs : List Loc) (ls : Array Slot), wl D A s (wX cI cJ cZ cR am gm t) H locs → lv_has ls 3 [(0, .ref (am 2008))] → W p l e (rmA 3 75 t0 t') s m ([.ref (am 2008), .int a1].toArray) below meth c H locs (mC t0 t) (mS t0 t) (MQ below (qVa D (tyX cI cJ cZ cR) (fun gm => wX cI cJ cZ cR am gm t') A) ([.ref (am 2008), .int a1].toArray) s (mC t0 t') (mS t0 t') A) (F0 m 81 ls []) := by
    intro gm t ho h0 H locs ls hW hl
    have hE : mle t t' := (mm_x8_fillFor_J81 _ _ ho)
    have hR := hR_of (t0 := t0) hE
    unfold x8_fillFor_J81 at ho
    refine lv_iconst (v := (0 : Int32)) hx hb dX8_fillFor_81 (by decide) ?_
    refine lv_istore_n (lv' := [(2, .int (0 : Int32)), (0, .ref (am 2008))]) hx hb dX8_fillFor_82 rfl hl (by decide) rfl (fun ls hl => ?_)
    obtain ⟨y35, hc37, ho⟩ := bd_some ho
    have hm36 := mm_x8_fillFor_L83 (0 : Int32) t _ hc37
    obtain ⟨ny35, hc37⟩ := lp_to hc37
    refine x8_fillFor_L83 C0 hR ?_ ny35 _ _ hc37 _ _ _ hW (lv_sub hl [1, 0] rfl)
    intro H locs ls hW hl
    refine lv_iconst (v := (0 : Int32)) hx hb dX8_fillFor_102 (by decide) ?_
    refine lv_istore_n (lv' := [(2, .int (0 : Int32)), (0, .ref (am 2008))]) hx hb dX8_fillFor_103 rfl hl (by decide) rfl (fun ls hl => ?_)
    obtain ⟨y38, hc40, ho⟩ := bd_some ho
    have hm39 := mm_x8_fillFor_L104 (0 : Int32) y35 _ hc40
    obtain ⟨ny38, hc40⟩ := lp_to hc40
    refine x8_fillFor_L104 C0 hR ?_ ny38 _ _ hc40 _ _ _ hW (lv_sub hl [1, 0] rfl)
    intro H locs ls hW hl
    refine lv_aload_n hx hb dX8_fillFor_133 rfl (lv_at hl 0 rfl) ?_
    obtain ⟨q41, hc42, ho⟩ := bd_some ho
    have hq41 := mm_x8_markNeeded y38 _ hc42
    refine bkV C0.1 hW (runVX (As := []) (rest := []) C0 hW (c_x8_markNeeded l _ y38 (t' := q41) hc42) cb_X8_X8_markNeeded_82 8 8 rfl rfl rfl rfl rfl ⟨rfl, rfl⟩ ⟨Nat.le_of_ble_eq_true rfl, Nat.le_of_ble_eq_true rfl⟩ (Nat.le_of_ble_eq_true rfl) hl.1 dX8_fillFor_134 ⟨hR.1, hR.2⟩) (fun H locs hW => ?_)
    refine lv_aload_n hx hb dX8_fillFor_137 rfl (lv_at hl 0 rfl) ?_
    refine lv_iconst (v := (0 : Int32)) hx hb dX8_fillFor_138 (by decide) ?_
    refine xPUT_807 C0 kw_283 (Or.inl rfl) hW dX8_fillFor_139 (fun H locs hW => ?_)
    obtain ⟨t43, ht43, ho, hW⟩ := nm_wm (P := fun t => wl D A s (wX cI cJ cZ cR am gm t) H locs) mle_sI ho hW
    refine lv_iconst (v := (0 : Int32)) hx hb dX8_fillFor_142 (by decide) ?_
    refine lv_istore_n (lv' := [(2, .int (0 : Int32)), (0, .ref (am 2008))]) hx hb dX8_fillFor_143 rfl hl (by decide) rfl (fun ls hl => ?_)
    obtain ⟨y44, hc46, ho⟩ := bd_some ho
    have hm45 := mm_x8_fillFor_L144 (0 : Int32) t43 _ hc46
    obtain ⟨ny44, hc46⟩ := lp_to hc46
    refine x8_fillFor_L144 C0 hR ?_ ny44 _ _ hc46 _ _ _ hW (lv_sub hl [1, 0] rfl)
    intro H locs ls hW hl
    refine lv_aload_n hx hb dX8_fillFor_257 rfl (lv_at hl 0 rfl) ?_
    refine lv_aload_n hx hb dX8_fillFor_258 rfl (lv_at hl 0 rfl) ?_
    refine xGET_812 C0 kw_289 hW dX8_fillFor_259 ?_
    refine lv_aload_n hx hb dX8_fillFor_262 rfl (lv_at hl 0 rfl) ?_
    refine xGET_805 C0 kw_280 hW dX8_fillFor_263 ?_
    obtain ⟨g47, ho⟩ := gd_some ho
    refine xLD_812 C0 hW g47 dX8_fillFor_266 ?_
    refine lv_aload_n hx hb dX8_fillFor_267 rfl (lv_at hl 0 rfl) ?_
    refine xGET_804 C0 kw_278 hW dX8_fillFor_268 ?_
    refine lv_imul hx hb dX8_fillFor_271 ?_
    refine xPUT_806 C0 kw_281 hW dX8_fillFor_272 (fun H locs hW => ?_)
    obtain ⟨t48, ht48, ho, hW⟩ := nm_wm (P := fun t => wl D A s (wX cI cJ cZ cR am gm t) H locs) mle_sI ho hW
    refine W_up h0 (mle.trans (mle.trans (mle.trans (mle.trans (mle.trans hm36 hm39) hq41) ht43) hm45) ht48) ?_
    cases ho
    exact rtVa gm C0.1 hW dX8_fillFor_275
  have J50 : ∀ (gm : Nat → Nat) (t : St) (w1 : Int32) (_ : x8_fillFor_J50 t w1 = some t') (_ : mle t0 t) (H : Heap) (locs : List Loc) (ls : Array Slot), wl D A s (wX cI cJ cZ cR am gm t) H locs → lv_has ls 3 [(0, .ref (am 2008))] → W p l e (rmA 3 75 t0 t') s m ([.ref (am 2008), .int a1].toArray) below meth c H locs (mC t0 t) (mS t0 t) (MQ below (qVa D (tyX cI cJ cZ cR) (fun gm => wX cI cJ cZ cR am gm t') A) ([.ref (am 2008), .int a1].toArray) s (mC t0 t') (mS t0 t') A) (F0 m 50 ls [.int w1, .ref (am 2008)]) := by
    intro gm t w1 ho h0 H locs ls hW hl
    have hE : mle t t' := (mm_x8_fillFor_J50 _ _ _ ho)
    have hR := hR_of (t0 := t0) hE
    unfold x8_fillFor_J50 at ho
    refine xPUT_804 C0 kw_278 hW dX8_fillFor_50 (fun H locs hW => ?_)
    obtain ⟨t49, ht49, ho, hW⟩ := nm_wm (P := fun t => wl D A s (wX cI cJ cZ cR am gm t) H locs) mle_sI ho hW
    refine lv_aload_n hx hb dX8_fillFor_53 rfl (lv_at hl 0 rfl) ?_
    refine xGET_808 C0 kw_285 hW dX8_fillFor_54 ?_
    refine xLEN_808 C0 hW dX8_fillFor_57 ?_
    refine lv_bipush (v := (56 : Int32)) hx hb dX8_fillFor_58 (by decide) ?_
    refine lv_aload_n hx hb dX8_fillFor_60 rfl (lv_at hl 0 rfl) ?_
    refine xGET_804 C0 kw_278 hW dX8_fillFor_61 ?_
    refine lv_imul hx hb dX8_fillFor_64 ?_
    refine lv_icmp_ge (tgt := 81) hx hb dX8_fillFor_65 (by decide) (fun c50 => ?_) (fun c50 => ?_)
    · replace ho := ite_t c50 ho
      refine W_up h0 ht49 ?_
      exact J81 gm _ ho (mle.trans h0 ht49) _ _ _ hW (lv_sub hl [0] rfl)
    · replace ho := ite_f c50 ho
      refine lv_aload_n hx hb dX8_fillFor_68 rfl (lv_at hl 0 rfl) ?_
      refine lv_bipush (v := (56 : Int32)) hx hb dX8_fillFor_69 (by decide) ?_
      refine lv_aload_n hx hb dX8_fillFor_71 rfl (lv_at hl 0 rfl) ?_
      refine xGET_804 C0 kw_278 hW dX8_fillFor_72 ?_
      refine lv_imul hx hb dX8_fillFor_75 ?_
      obtain ⟨t51, g52, ho⟩ := nwl_some ho
      have ht51 := g52.mle
      have hEt51 := (mm_x8_fillFor_J81 _ _ ho)
      refine W_up h0 ht49 ?_
      have h0 := (mle.trans h0 ht49)
      refine xNEWJ_808 (rest := []) C0 kw_285 hW g52 h0 hEt51 dX8_fillFor_76 dX8_fillFor_78 (fun gm H locs hW => ?_)
      have h0 := mle.trans h0 ht51
      exact J81 gm _ ho h0 _ _ _ hW (lv_sub hl [0] rfl)
  have hE : mle t0 t' := mm_x8_fillFor _ _ _ ho
  have hR := hR_of (t0 := t0) hE
  have h0 : mle t0 t0 := mle.rfl
  refine W_0 (t0 := t0) ?_
  unfold x8_fillFor at ho
  refine lv_iload_n hx hb dX8_fillFor_0 rfl (lv_at hl 1 rfl) ?_
  refine lv_aload_n hx hb dX8_fillFor_1 rfl (lv_at hl 0 rfl) ?_
  refine xGET_805 C0 kw_280 hW dX8_fillFor_2 ?_
  refine lv_icmp_ne (tgt := 9) hx hb dX8_fillFor_5 (by decide) (fun c53 => ?_) (fun c53 => ?_)
  · replace ho := ite_f c53 ho
    refine lv_aload_n hx hb dX8_fillFor_9 rfl (lv_at hl 0 rfl) ?_
    refine lv_iload_n hx hb dX8_fillFor_10 rfl (lv_at hl 1 rfl) ?_
    refine xPUT_805 C0 kw_280 hW dX8_fillFor_11 (fun H locs hW => ?_)
    obtain ⟨t54, ht54, ho, hW⟩ := nm_wm (P := fun t => wl D A s (wX cI cJ cZ cR am gm t) H locs) mle_sI ho hW
    refine lv_aload_n hx hb dX8_fillFor_14 rfl (lv_at hl 0 rfl) ?_
    refine lv_aload_n hx hb dX8_fillFor_15 rfl (lv_at hl 0 rfl) ?_
    refine xGET_800 C0 kw_269 hW dX8_fillFor_16 ?_
    refine xGET_607 C0 kw_200 hW dX8_fillFor_19 ?_
    refine lv_iload_n hx hb dX8_fillFor_22 rfl (lv_at hl 1 rfl) ?_
    obtain ⟨g55, ho⟩ := gd_some ho
    refine xLD_607 C0 hW g55 dX8_fillFor_23 ?_
    obtain ⟨q56, hc57, ho⟩ := bd_some ho
    have hq56 := mm_x8_rankSteps t54 (gA t54 607 (a1).toNatClampNeg) _ hc57
    refine bkV C0.1 hW (runVX (As := [.int (gA t54 607 (a1).toNatClampNeg)]) (rest := []) C0 hW (c_x8_rankSteps l _ t54 (gA t54 607 (a1).toNatClampNeg) (t' := q56) hc57) cb_X8_X8_rankSteps_75 8 8 rfl rfl rfl rfl rfl ⟨rfl, rfl⟩ ⟨Nat.le_of_ble_eq_true rfl, Nat.le_of_ble_eq_true rfl⟩ (Nat.le_of_ble_eq_true rfl) hl.1 dX8_fillFor_24 ⟨hR.1, hR.2⟩) (fun H locs hW => ?_)
    refine lv_aload_n hx hb dX8_fillFor_27 rfl (lv_at hl 0 rfl) ?_
    refine lv_aload_n hx hb dX8_fillFor_28 rfl (lv_at hl 0 rfl) ?_
    refine xGET_803 C0 kw_274 hW dX8_fillFor_29 ?_
    refine lv_bipush (v := (6 : Int32)) hx hb dX8_fillFor_32 (by decide) ?_
    refine lv_icmp_gt (tgt := 41) hx hb dX8_fillFor_34 (by decide) (fun c58 => ?_) (fun c58 => ?_)
    · replace ho := ite_t c58 ho
      refine lv_iconst (v := (1 : Int32)) hx hb dX8_fillFor_41 (by decide) ?_
      refine lv_aload_n hx hb dX8_fillFor_42 rfl (lv_at hl 0 rfl) ?_
      refine xGET_803 C0 kw_274 hW dX8_fillFor_43 ?_
      refine lv_bipush (v := (6 : Int32)) hx hb dX8_fillFor_46 (by decide) ?_
      refine lv_isub hx hb dX8_fillFor_48 ?_
      refine lv_ishl hx hb dX8_fillFor_49 ?_
      refine W_up h0 (mle.trans ht54 hq56) ?_
      exact J50 gm _ _ ho (mle.trans h0 (mle.trans ht54 hq56)) _ _ _ hW (lv_sub hl [0] rfl)
    · replace ho := ite_f c58 ho
      refine lv_iconst (v := (1 : Int32)) hx hb dX8_fillFor_37 (by decide) ?_
      refine lv_goto (tgt := 50) hx hb dX8_fillFor_38 (by decide) ?_
      refine W_up h0 (mle.trans ht54 hq56) ?_
      exact J50 gm _ _ ho (mle.trans h0 (mle.trans ht54 hq56)) _ _ _ hW (lv_sub hl [0] rfl)
  · replace ho := ite_t c53 ho
    cases ho
    exact rtVa gm C0.1 hW dX8_fillFor_8
noncomputable def x8_widened_B4 (t : St) (v1 : Int32) (v2 : Int32) (v3 : Int32) : Option ((Int32 × Int32) ⊕ (Int32)) :=
  if (gI t 803) ≤ v3 then (some (.inr v2)) else (gd v3 (gN t 801) (nm (v2 ||| (((v1 >>> (v3 &&& 31)) &&& (1 : Int32)) <<< ((gA t 801 (v3).toNatClampNeg) &&& 31))) (fun x3 : Int32 => nm (v3 + (1 : Int32)) (fun x4 : Int32 => some (.inl (x3, x4))))))
noncomputable def x8_widened (t : St) (a1 : Int32) : Option (Int32) :=
  (lp (fun x => x8_widened_B4 t a1 x.1 x.2) ((0 : Int32), (0 : Int32))).bind (fun y5 => some y5)
set_option maxHeartbeats 4000000 in
set_option maxRecDepth 100000 in
theorem x8_widened_L4 {p : Program} {l : Launch} {e : Env} {s : State} {m : MethodId} {args : Array Value} {below : List Frame} {meth : Method} {c : Code} {Q : State → Prop} {D : va_G} {cI cJ cZ cR : ClassId} {am gm : Nat → Nat} {st : Nat} {A : Nat → Prop} (C0 : cxX p s m args meth c cX8_widened RX8 4 (some .int) D (tyX cI cJ cZ cR) st A) {t : St} {v1 : Int32} {y : Int32} (hK0 : ∀ (H : Heap) (locs : List Loc) (ls : Array Slot), wl D A s (wX cI cJ cZ cR am gm t) H locs → lv_has ls 4 [(0, .ref (am 2008)), (2, .int y)] → W p l e (rmN 0 0) s m args below meth c H locs 0 0 Q (F0 m 33 ls [])) :
    ∀ (n : Nat) (v2 : Int32) (v3 : Int32), lpn (fun x => x8_widened_B4 t v1 x.1 x.2) n (v2, v3) = some y → ∀ (H : Heap) (locs : List Loc) (ls : Array Slot), wl D A s (wX cI cJ cZ cR am gm t) H locs → lv_has ls 4 [(0, .ref (am 2008)), (1, .int v1), (2, .int v2), (3, .int v3)] → W p l e (rmN 0 0) s m args below meth c H locs 0 0 Q (F0 m 4 ls []) := by
  have hx := C0.1.1
  have hb := C0.1.2.1
  have hta := C0.1.2.2.2.2.2.1
  have hown := C0.1.2.2.2.2.1
  intro n
  induction n with
  | zero => intro _ _ h; cases h
  | succ n ih =>
    intro v2 v3 hrun H locs ls hW hl
    obtain ⟨o, ho, hrun⟩ := bd_some hrun
    unfold x8_widened_B4 at ho
    refine lv_iload_n hx hb dX8_widened_4 rfl (lv_at hl 3 rfl) ?_
    refine lv_aload_n hx hb dX8_widened_5 rfl (lv_at hl 0 rfl) ?_
    refine xGET_803 C0 kw_274 hW dX8_widened_6 ?_
    refine lv_icmp_ge (tgt := 33) hx hb dX8_widened_9 (by decide) (fun c1 => ?_) (fun c1 => ?_)
    · replace ho := ite_t c1 ho
      cases ho
      cases hrun
      exact hK0 _ _ _ hW (lv_sub hl [0, 2] rfl)
    · replace ho := ite_f c1 ho
      refine lv_iload_n hx hb dX8_widened_12 rfl (lv_at hl 2 rfl) ?_
      refine lv_iload_n hx hb dX8_widened_13 rfl (lv_at hl 1 rfl) ?_
      refine lv_iload_n hx hb dX8_widened_14 rfl (lv_at hl 3 rfl) ?_
      refine lv_ishr hx hb dX8_widened_15 ?_
      refine lv_iconst (v := (1 : Int32)) hx hb dX8_widened_16 (by decide) ?_
      refine lv_iand hx hb dX8_widened_17 ?_
      refine lv_aload_n hx hb dX8_widened_18 rfl (lv_at hl 0 rfl) ?_
      refine xGET_801 C0 kw_270 hW dX8_widened_19 ?_
      refine lv_iload_n hx hb dX8_widened_22 rfl (lv_at hl 3 rfl) ?_
      obtain ⟨g2, ho⟩ := gd_some ho
      refine xLD_801 C0 hW g2 dX8_widened_23 ?_
      refine lv_ishl hx hb dX8_widened_24 ?_
      refine lv_ior hx hb dX8_widened_25 ?_
      refine lv_nmi ho (fun x3 ho => ?_)
      refine lv_istore_n (lv' := [(2, .int x3), (0, .ref (am 2008)), (1, .int v1), (3, .int v3)]) hx hb dX8_widened_26 rfl hl (by decide) rfl (fun ls hl => ?_)
      obtain ⟨x4, ex4, ho⟩ := nm_x ho
      refine lv_iinc (v := x4) (lv' := [(3, .int x4), (2, .int x3), (0, .ref (am 2008)), (1, .int v1)]) hx hb dX8_widened_27 hl (k := 3) rfl (by rw [ex4]; rfl) (by decide) rfl (fun ls hl => ?_)
      clear ex4
      refine lv_goto (tgt := 4) hx hb dX8_widened_30 (by decide) ?_
      cases ho
      exact ih _ _ hrun _ _ _ hW (lv_sub hl [2, 3, 1, 0] rfl)
set_option maxHeartbeats 4000000 in
set_option maxRecDepth 100000 in
theorem c_x8_widened (l : Launch) {D : va_G} {cI cJ cZ cR : ClassId} {am gm : Nat → Nat} {st : Nat} (sz : Nat) (t : St) (a1 : Int32) {r : Int32} (ho : x8_widened t a1 = some r) : Met l yX8_widened (.code yX8_widened cX8_widened 4 (some .int) :: wsAll) (rmN 0 0) (va_Pc [.ref (am 2008), .int a1] (prX D (tyX cI cJ cZ cR) (wX cI cJ cZ cR am gm t) sz st)) (qI r D (tyX cI cJ cZ cR) (wX cI cJ cZ cR am gm t) (va_A (wX cI cJ cZ cR am gm t) sz)) 0 0 (va_A (wX cI cJ cZ cR am gm t) sz) := by
  refine Met.ofW (cc := cX8_widened) (maxL := 4) (ret := (some .int)) (by decide) rfl ?_
  intro p e s m args below meth c s₁ B hml hv
  obtain ⟨rfl, ⟨hsz, hP, hK, hD0⟩, hsx⟩ := hv
  have hx := B.exec
  have hb := B.bytes
  have hts := atoms_spec (ws := (.code yX8_widened cX8_widened 4 (some .int) :: wsAll)) B.pre
  have hta := fun w h => hts w (List.mem_cons_of_mem _ h)
  have hown : s.vm.findClass RX8 = some m.cls := findClass_of_methodNamed B.named
  have hlocks := B.notSynchronized
  subst hsz
  have hD := hD0.self (sz := s.heap.size)
  generalize hAe : va_A (wX cI cJ cZ cR am gm t) s.heap.size = A at hD ⊢
  have hA : ∀ q : Nat, s.heap.size ≤ q → A q := fun q h => by rw [← hAe]; exact Or.inr h
  have C0 : cxX p s m ([.ref (am 2008), .int a1].toArray) meth c cX8_widened RX8 4 (some .int) D (tyX cI cJ cZ cR) st A := ⟨⟨hx, hb, B.returns, hml, hown, hta, hlocks, hK, hA⟩, by rw [← hAe]; exact hsx⟩
  have hW : wl D A s (wX cI cJ cZ cR am gm t) s.heap [] := ⟨hP, hD, va_S.rf⟩
  have hl := lv_entry [.ref (am 2008), .int a1] (n := 4) (Nat.le_of_ble_eq_true rfl)
  rw [lg_entry_eq]
  generalize (lg_sl [.ref (am 2008), .int a1] ++ List.replicate (4 - (lg_sl [.ref (am 2008), .int a1]).length) Slot.unset).toArray = ls at hl ⊢
  have hl : lv_has ls 4 [(0, .ref (am 2008)), (1, .int a1)] := hl
  unfold x8_widened at ho
  refine lv_iconst (v := (0 : Int32)) hx hb dX8_widened_0 (by decide) ?_
  refine lv_istore_n (lv' := [(2, .int (0 : Int32)), (0, .ref (am 2008)), (1, .int a1)]) hx hb dX8_widened_1 rfl hl (by decide) rfl (fun ls hl => ?_)
  refine lv_iconst (v := (0 : Int32)) hx hb dX8_widened_2 (by decide) ?_
  refine lv_istore_n (lv' := [(3, .int (0 : Int32)), (2, .int (0 : Int32)), (0, .ref (am 2008)), (1, .int a1)]) hx hb dX8_widened_3 rfl hl (by decide) rfl (fun ls hl => ?_)
  obtain ⟨y5, hc7, ho⟩ := bd_some ho
  obtain ⟨ny5, hc7⟩ := lp_to hc7
  refine x8_widened_L4 C0 ?_ ny5 _ _ hc7 _ _ _ hW (lv_sub hl [2, 3, 1, 0] rfl)
  intro H locs ls hW hl
  refine lv_iload_n hx hb dX8_widened_33 rfl (lv_at hl 1 rfl) ?_
  cases ho
  exact rtI C0.1 hW dX8_widened_34
noncomputable def x10_findAll_B34 (v2 : Int32) (v3 : Int64) (v1 : Int32) (v5 : Int32) (t : St) : Option ((Int32 × Int32 × St) ⊕ (Int32 × St)) :=
  if (64 : Int32) ≤ v5 then (some (.inr (v1, t))) else (if (lg_cmp v3 (0 : Int64)) = 0 then (some (.inr (v1, t))) else (if (lg_cmp ((((v3).toUInt64 >>> ((v5).toInt64.toUInt64 &&& Int64.toUInt64 63)).toInt64) &&& (1 : Int64)) (1 : Int64)) = 0 then (if (Int32.ofNat (gN t 1003)) ≤ v1 then (nm (v5 + (1 : Int32)) (fun x6 : Int32 => some (.inl (v1, x6, t)))) else ((x8_widened t ((v2 * (64 : Int32)) + v5)).bind (fun q7 => gd v1 (gN t 1003) (nm (sA t 1003 v1 q7) (fun t10 : St => nm (v1 + (1 : Int32)) (fun x11 : Int32 => nm (v5 + (1 : Int32)) (fun x12 : Int32 => some (.inl (x11, x12, t10))))))))) else (nm (v5 + (1 : Int32)) (fun x4 : Int32 => some (.inl (v1, x4, t))))))
theorem mm_x10_findAll_B34 (v2 : Int32) (v3 : Int64) (v1 : Int32) (v5 : Int32) (t : St) : MR (x10_findAll_B34 v2 v3 v1 v5 t) t (Sum.elim (fun (x : Int32 × Int32 × St) => x.2.2) (fun (y : Int32 × St) => y.2)) := by
  unfold x10_findAll_B34
  exact MR_ite (MR_some mle.rfl) (MR_ite (MR_some mle.rfl) (MR_ite (MR_ite (MR_nm (fun x6 _ => MR_some mle.rfl)) (MR_bindn (fun q7 => MR_gd (MR_nmS mle_sA (fun t10 ht10 => MR_nm (fun x11 _ => MR_nm (fun x12 _ => MR_some ht10))))))) (MR_nm (fun x4 _ => MR_some mle.rfl))))
theorem mm_x10_findAll_L34 (v2 : Int32) (v3 : Int64) (v1 : Int32) (v5 : Int32) (t : St) : MR (lp (fun x => x10_findAll_B34 v2 v3 x.1 x.2.1 x.2.2) (v1, v5, t)) t (fun (y : Int32 × St) => y.2) := MR_lp (p := (fun (x : Int32 × Int32 × St) => x.2.2)) (q := (fun (y : Int32 × St) => y.2)) (fun x => mm_x10_findAll_B34 v2 v3 x.1 x.2.1 x.2.2) (v1, v5, t)
noncomputable def x10_findAll_B4 (v1 : Int32) (v2 : Int32) (t : St) : Option ((Int32 × Int32 × St) ⊕ (Int32 × St)) :=
  if (gI t 804) ≤ v2 then (some (.inr (v1, t))) else ((x8_leastWord t (gI t 806) v2).bind (fun q14 => (lp (fun x => x10_findAll_B34 v2 q14 x.1 x.2.1 x.2.2) (v1, (0 : Int32), t)).bind (fun y16 => nm (v2 + (1 : Int32)) (fun x19 : Int32 => some (.inl (y16.1, x19, y16.2))))))
theorem mm_x10_findAll_B4 (v1 : Int32) (v2 : Int32) (t : St) : MR (x10_findAll_B4 v1 v2 t) t (Sum.elim (fun (x : Int32 × Int32 × St) => x.2.2) (fun (y : Int32 × St) => y.2)) := by
  unfold x10_findAll_B4
  exact MR_ite (MR_some mle.rfl) (MR_bindn (fun q14 => MR_bind (mm_x10_findAll_L34 v2 q14 v1 (0 : Int32) t) (fun y16 hm17 => MR_nm (fun x19 _ => MR_some hm17))))
theorem mm_x10_findAll_L4 (v1 : Int32) (v2 : Int32) (t : St) : MR (lp (fun x => x10_findAll_B4 x.1 x.2.1 x.2.2) (v1, v2, t)) t (fun (y : Int32 × St) => y.2) := MR_lp (p := (fun (x : Int32 × Int32 × St) => x.2.2)) (q := (fun (y : Int32 × St) => y.2)) (fun x => mm_x10_findAll_B4 x.1 x.2.1 x.2.2) (v1, v2, t)
noncomputable def x10_findAll (t : St) : Option (Int32 × St) :=
  (lp (fun x => x10_findAll_B4 x.1 x.2.1 x.2.2) ((0 : Int32), (0 : Int32), t)).bind (fun y20 => some (y20.1, y20.2))
theorem mm_x10_findAll (t : St) : MR (x10_findAll t) t (fun (a : Int32 × St) => a.2) := by
  unfold x10_findAll
  exact MR_bind (mm_x10_findAll_L4 (0 : Int32) (0 : Int32) t) (fun y20 hm21 => MR_some hm21)
set_option maxHeartbeats 4000000 in
set_option maxRecDepth 100000 in
theorem x10_findAll_L34 {p : Program} {l : Launch} {e : Env} {s : State} {m : MethodId} {args : Array Value} {below : List Frame} {meth : Method} {c : Code} {Q : State → Prop} {D : va_G} {cI cJ cZ cR : ClassId} {am gm : Nat → Nat} {st : Nat} {A : Nat → Prop} (C0 : cxX p s m args meth c cX10_findAll RX10 6 (some .int) D (tyX cI cJ cZ cR) st A) {v2 : Int32} {v3 : Int64} {y : Int32 × St} (hK0 : ∀ (H : Heap) (locs : List Loc) (ls : Array Slot), wl D A s (wX cI cJ cZ cR am gm y.2) H locs → lv_has ls 6 [(0, .ref (am 2010)), (1, .int y.1), (2, .int v2)] → W p l e (rmN 2 49) s m args below meth c H locs 0 0 Q (F0 m 96 ls [])) :
    ∀ (n : Nat) (v1 : Int32) (v5 : Int32) (t : St), lpn (fun x => x10_findAll_B34 v2 v3 x.1 x.2.1 x.2.2) n (v1, v5, t) = some y → ∀ (H : Heap) (locs : List Loc) (ls : Array Slot), wl D A s (wX cI cJ cZ cR am gm t) H locs → lv_has ls 6 [(0, .ref (am 2010)), (1, .int v1), (2, .int v2), (3, .long v3), (5, .int v5)] → W p l e (rmN 2 49) s m args below meth c H locs 0 0 Q (F0 m 34 ls []) := by
  have hx := C0.1.1
  have hb := C0.1.2.1
  have hta := C0.1.2.2.2.2.2.1
  have hown := C0.1.2.2.2.2.1
  intro n
  induction n with
  | zero => intro _ _ _ h; cases h
  | succ n ih =>
    intro v1 v5 t hrun H locs ls hW hl
    obtain ⟨o, ho, hrun⟩ := bd_some hrun
    unfold x10_findAll_B34 at ho
    refine lv_iload hx hb dX10_findAll_34 (lv_at hl 4 rfl) ?_
    refine lv_bipush (v := (64 : Int32)) hx hb dX10_findAll_36 (by decide) ?_
    refine lv_icmp_ge (tgt := 96) hx hb dX10_findAll_38 (by decide) (fun c1 => ?_) (fun c1 => ?_)
    · replace ho := ite_t c1 ho
      cases ho
      cases hrun
      exact hK0 _ _ _ hW (lv_sub hl [0, 1, 2] rfl)
    · replace ho := ite_f c1 ho
      refine lv_lload_n hx hb dX10_findAll_41 rfl (lv_at hl 3 rfl) ?_
      refine lv_lconst (v := (0 : Int64)) hx hb dX10_findAll_42 (by decide) ?_
      refine W.lcmp hx hb dX10_findAll_43 ?_
      refine lv_if_eq (tgt := 96) hx hb dX10_findAll_44 (by decide) (fun c2 => ?_) (fun c2 => ?_)
      · replace ho := ite_t c2 ho
        cases ho
        cases hrun
        exact hK0 _ _ _ hW (lv_sub hl [0, 1, 2] rfl)
      · replace ho := ite_f c2 ho
        refine lv_lload_n hx hb dX10_findAll_47 rfl (lv_at hl 3 rfl) ?_
        refine lv_iload hx hb dX10_findAll_48 (lv_at hl 4 rfl) ?_
        refine lv_lushr hx hb dX10_findAll_50 rfl ?_
        refine lv_lconst (v := (1 : Int64)) hx hb dX10_findAll_51 (by decide) ?_
        refine lv_land hx hb dX10_findAll_52 ?_
        refine lv_lconst (v := (1 : Int64)) hx hb dX10_findAll_53 (by decide) ?_
        refine W.lcmp hx hb dX10_findAll_54 ?_
        refine lv_if_ne (tgt := 90) hx hb dX10_findAll_55 (by decide) (fun c3 => ?_) (fun c3 => ?_)
        · replace ho := ite_f c3 ho
          obtain ⟨x4, ex4, ho⟩ := nm_x ho
          refine lv_iinc (v := x4) (lv' := [(5, .int x4), (0, .ref (am 2010)), (1, .int v1), (2, .int v2), (3, .long v3)]) hx hb dX10_findAll_90 hl (k := 4) rfl (by rw [ex4]; rfl) (by decide) rfl (fun ls hl => ?_)
          clear ex4
          refine lv_goto (tgt := 34) hx hb dX10_findAll_93 (by decide) ?_
          cases ho
          exact ih _ _ _ hrun _ _ _ hW (lv_sub hl [1, 2, 3, 4, 0] rfl)
        · replace ho := ite_t c3 ho
          refine lv_iload_n hx hb dX10_findAll_58 rfl (lv_at hl 1 rfl) ?_
          refine lv_aload_n hx hb dX10_findAll_59 rfl (lv_at hl 0 rfl) ?_
          refine xGET_1003 C0 kw_335 hW dX10_findAll_60 ?_
          refine xLEN_1003 C0 hW dX10_findAll_63 ?_
          refine lv_icmp_ge (tgt := 90) hx hb dX10_findAll_64 (by decide) (fun c5 => ?_) (fun c5 => ?_)
          · replace ho := ite_t c5 ho
            obtain ⟨x6, ex6, ho⟩ := nm_x ho
            refine lv_iinc (v := x6) (lv' := [(5, .int x6), (0, .ref (am 2010)), (1, .int v1), (2, .int v2), (3, .long v3)]) hx hb dX10_findAll_90 hl (k := 4) rfl (by rw [ex6]; rfl) (by decide) rfl (fun ls hl => ?_)
            clear ex6
            refine lv_goto (tgt := 34) hx hb dX10_findAll_93 (by decide) ?_
            cases ho
            exact ih _ _ _ hrun _ _ _ hW (lv_sub hl [1, 2, 3, 4, 0] rfl)
          · replace ho := ite_f c5 ho
            refine lv_aload_n hx hb dX10_findAll_67 rfl (lv_at hl 0 rfl) ?_
            refine xGET_1003 C0 kw_335 hW dX10_findAll_68 ?_
            refine lv_iload_n hx hb dX10_findAll_71 rfl (lv_at hl 1 rfl) ?_
            refine lv_aload_n hx hb dX10_findAll_72 rfl (lv_at hl 0 rfl) ?_
            refine xGET_1001 C0 kw_331 hW dX10_findAll_73 ?_
            refine lv_iload_n hx hb dX10_findAll_76 rfl (lv_at hl 2 rfl) ?_
            refine lv_bipush (v := (64 : Int32)) hx hb dX10_findAll_77 (by decide) ?_
            refine lv_imul hx hb dX10_findAll_79 ?_
            refine lv_iload hx hb dX10_findAll_80 (lv_at hl 4 rfl) ?_
            refine lv_iadd hx hb dX10_findAll_82 ?_
            obtain ⟨q7, hc8, ho⟩ := bd_some ho
            refine bkI C0.1 hW (runVX (As := [.int ((v2 * (64 : Int32)) + v5)]) (rest := [.int v1, .ref (am 1003)]) C0 hW (c_x8_widened l _ t ((v2 * (64 : Int32)) + v5) (r := q7) hc8) cb_X10_X8_widened_69 8 8 rfl rfl rfl rfl rfl ⟨rfl, rfl⟩ ⟨Nat.le_of_ble_eq_true rfl, Nat.le_of_ble_eq_true rfl⟩ (Nat.le_of_ble_eq_true rfl) hl.1 dX10_findAll_83 ⟨Nat.le_of_ble_eq_true rfl, Nat.le_of_ble_eq_true rfl⟩) (fun H locs hW => ?_)
            obtain ⟨g9, ho⟩ := gd_some ho
            refine xST_1003 C0 hW g9 dX10_findAll_86 (fun H locs hW => ?_)
            obtain ⟨t10, ho, hW⟩ := nm_w (P := fun t => wl D A s (wX cI cJ cZ cR am gm t) H locs) ho hW
            obtain ⟨x11, ex11, ho⟩ := nm_x ho
            refine lv_iinc (v := x11) (lv' := [(1, .int x11), (0, .ref (am 2010)), (2, .int v2), (3, .long v3), (5, .int v5)]) hx hb dX10_findAll_87 hl (k := 1) rfl (by rw [ex11]; rfl) (by decide) rfl (fun ls hl => ?_)
            clear ex11
            obtain ⟨x12, ex12, ho⟩ := nm_x ho
            refine lv_iinc (v := x12) (lv' := [(5, .int x12), (1, .int x11), (0, .ref (am 2010)), (2, .int v2), (3, .long v3)]) hx hb dX10_findAll_90 hl (k := 4) rfl (by rw [ex12]; rfl) (by decide) rfl (fun ls hl => ?_)
            clear ex12
            refine lv_goto (tgt := 34) hx hb dX10_findAll_93 (by decide) ?_
            cases ho
            exact ih _ _ _ hrun _ _ _ hW (lv_sub hl [2, 1, 3, 4, 0] rfl)
set_option maxHeartbeats 4000000 in
set_option maxRecDepth 100000 in
theorem x10_findAll_L4 {p : Program} {l : Launch} {e : Env} {s : State} {m : MethodId} {args : Array Value} {below : List Frame} {meth : Method} {c : Code} {Q : State → Prop} {D : va_G} {cI cJ cZ cR : ClassId} {am gm : Nat → Nat} {st : Nat} {A : Nat → Prop} (C0 : cxX p s m args meth c cX10_findAll RX10 6 (some .int) D (tyX cI cJ cZ cR) st A) {y : Int32 × St} (hK0 : ∀ (H : Heap) (locs : List Loc) (ls : Array Slot), wl D A s (wX cI cJ cZ cR am gm y.2) H locs → lv_has ls 6 [(0, .ref (am 2010)), (1, .int y.1)] → W p l e (rmN 2 49) s m args below meth c H locs 0 0 Q (F0 m 102 ls [])) :
    ∀ (n : Nat) (v1 : Int32) (v2 : Int32) (t : St), lpn (fun x => x10_findAll_B4 x.1 x.2.1 x.2.2) n (v1, v2, t) = some y → ∀ (H : Heap) (locs : List Loc) (ls : Array Slot), wl D A s (wX cI cJ cZ cR am gm t) H locs → lv_has ls 6 [(0, .ref (am 2010)), (1, .int v1), (2, .int v2)] → W p l e (rmN 2 49) s m args below meth c H locs 0 0 Q (F0 m 4 ls []) := by
  have hx := C0.1.1
  have hb := C0.1.2.1
  have hta := C0.1.2.2.2.2.2.1
  have hown := C0.1.2.2.2.2.1
  intro n
  induction n with
  | zero => intro _ _ _ h; cases h
  | succ n ih =>
    intro v1 v2 t hrun H locs ls hW hl
    obtain ⟨o, ho, hrun⟩ := bd_some hrun
    unfold x10_findAll_B4 at ho
    refine lv_iload_n hx hb dX10_findAll_4 rfl (lv_at hl 2 rfl) ?_
    refine lv_aload_n hx hb dX10_findAll_5 rfl (lv_at hl 0 rfl) ?_
    refine xGET_1001 C0 kw_331 hW dX10_findAll_6 ?_
    refine xGET_804 C0 kw_279 hW dX10_findAll_9 ?_
    refine lv_icmp_ge (tgt := 102) hx hb dX10_findAll_12 (by decide) (fun c13 => ?_) (fun c13 => ?_)
    · replace ho := ite_t c13 ho
      cases ho
      cases hrun
      exact hK0 _ _ _ hW (lv_sub hl [0, 1] rfl)
    · replace ho := ite_f c13 ho
      refine lv_aload_n hx hb dX10_findAll_15 rfl (lv_at hl 0 rfl) ?_
      refine xGET_1001 C0 kw_331 hW dX10_findAll_16 ?_
      refine lv_aload_n hx hb dX10_findAll_19 rfl (lv_at hl 0 rfl) ?_
      refine xGET_1001 C0 kw_331 hW dX10_findAll_20 ?_
      refine xGET_806 C0 kw_282 hW dX10_findAll_23 ?_
      refine lv_iload_n hx hb dX10_findAll_26 rfl (lv_at hl 2 rfl) ?_
      obtain ⟨q14, hc15, ho⟩ := bd_some ho
      refine bkJ C0.1 hW (runVX (As := [.int (gI t 806), .int v2]) (rest := []) C0 hW (c_x8_leastWord l _ t (gI t 806) v2 (r := q14) hc15) cb_X10_X8_leastWord_65 8 8 rfl rfl rfl rfl rfl ⟨rfl, rfl⟩ ⟨Nat.le_of_ble_eq_true rfl, Nat.le_of_ble_eq_true rfl⟩ (Nat.le_of_ble_eq_true rfl) hl.1 dX10_findAll_27 ⟨Nat.le_of_ble_eq_true rfl, Nat.le_of_ble_eq_true rfl⟩) (fun H locs hW => ?_)
      refine lv_lstore_n (lv' := [(3, .long q14), (0, .ref (am 2010)), (1, .int v1), (2, .int v2)]) hx hb dX10_findAll_30 rfl hl (by decide) rfl (fun ls hl => ?_)
      refine lv_iconst (v := (0 : Int32)) hx hb dX10_findAll_31 (by decide) ?_
      refine lv_istore (lv' := [(5, .int (0 : Int32)), (3, .long q14), (0, .ref (am 2010)), (1, .int v1), (2, .int v2)]) hx hb dX10_findAll_32 hl (by decide) rfl (fun ls hl => ?_)
      obtain ⟨y16, hc18, ho⟩ := bd_some ho
      obtain ⟨ny16, hc18⟩ := lp_to hc18
      refine x10_findAll_L34 C0 ?_ ny16 _ _ _ hc18 _ _ _ hW (lv_sub hl [2, 3, 4, 1, 0] rfl)
      intro H locs ls hW hl
      obtain ⟨x19, ex19, ho⟩ := nm_x ho
      refine lv_iinc (v := x19) (lv' := [(2, .int x19), (0, .ref (am 2010)), (1, .int y16.1)]) hx hb dX10_findAll_96 hl (k := 2) rfl (by rw [ex19]; rfl) (by decide) rfl (fun ls hl => ?_)
      clear ex19
      refine lv_goto (tgt := 4) hx hb dX10_findAll_99 (by decide) ?_
      cases ho
      exact ih _ _ _ hrun _ _ _ hW (lv_sub hl [1, 2, 0] rfl)
set_option maxHeartbeats 4000000 in
set_option maxRecDepth 100000 in
theorem c_x10_findAll (l : Launch) {D : va_G} {cI cJ cZ cR : ClassId} {am gm : Nat → Nat} {st : Nat} (sz : Nat) (t : St) {r : Int32} {t' : St} (ho : x10_findAll t = some (r, t')) : Met l yX10_findAll (.code yX10_findAll cX10_findAll 6 (some .int) :: wsAll) (rmN 2 49) (va_Pc [.ref (am 2010)] (prX D (tyX cI cJ cZ cR) (wX cI cJ cZ cR am gm t) sz st)) (qI r D (tyX cI cJ cZ cR) (wX cI cJ cZ cR am gm t') (va_A (wX cI cJ cZ cR am gm t) sz)) 0 0 (va_A (wX cI cJ cZ cR am gm t) sz) := by
  refine Met.ofW (cc := cX10_findAll) (maxL := 6) (ret := (some .int)) (by decide) rfl ?_
  intro p e s m args below meth c s₁ B hml hv
  obtain ⟨rfl, ⟨hsz, hP, hK, hD0⟩, hsx⟩ := hv
  have hx := B.exec
  have hb := B.bytes
  have hts := atoms_spec (ws := (.code yX10_findAll cX10_findAll 6 (some .int) :: wsAll)) B.pre
  have hta := fun w h => hts w (List.mem_cons_of_mem _ h)
  have hown : s.vm.findClass RX10 = some m.cls := findClass_of_methodNamed B.named
  have hlocks := B.notSynchronized
  subst hsz
  have hD := hD0.self (sz := s.heap.size)
  generalize hAe : va_A (wX cI cJ cZ cR am gm t) s.heap.size = A at hD ⊢
  have hA : ∀ q : Nat, s.heap.size ≤ q → A q := fun q h => by rw [← hAe]; exact Or.inr h
  have C0 : cxX p s m ([.ref (am 2010)].toArray) meth c cX10_findAll RX10 6 (some .int) D (tyX cI cJ cZ cR) st A := ⟨⟨hx, hb, B.returns, hml, hown, hta, hlocks, hK, hA⟩, by rw [← hAe]; exact hsx⟩
  have hW : wl D A s (wX cI cJ cZ cR am gm t) s.heap [] := ⟨hP, hD, va_S.rf⟩
  have hl := lv_entry [.ref (am 2010)] (n := 6) (Nat.le_of_ble_eq_true rfl)
  rw [lg_entry_eq]
  generalize (lg_sl [.ref (am 2010)] ++ List.replicate (6 - (lg_sl [.ref (am 2010)]).length) Slot.unset).toArray = ls at hl ⊢
  have hl : lv_has ls 6 [(0, .ref (am 2010))] := hl
  unfold x10_findAll at ho
  refine lv_iconst (v := (0 : Int32)) hx hb dX10_findAll_0 (by decide) ?_
  refine lv_istore_n (lv' := [(1, .int (0 : Int32)), (0, .ref (am 2010))]) hx hb dX10_findAll_1 rfl hl (by decide) rfl (fun ls hl => ?_)
  refine lv_iconst (v := (0 : Int32)) hx hb dX10_findAll_2 (by decide) ?_
  refine lv_istore_n (lv' := [(2, .int (0 : Int32)), (1, .int (0 : Int32)), (0, .ref (am 2010))]) hx hb dX10_findAll_3 rfl hl (by decide) rfl (fun ls hl => ?_)
  obtain ⟨y20, hc22, ho⟩ := bd_some ho
  obtain ⟨ny20, hc22⟩ := lp_to hc22
  refine x10_findAll_L4 C0 ?_ ny20 _ _ _ hc22 _ _ _ hW (lv_sub hl [2, 1, 0] rfl)
  intro H locs ls hW hl
  refine lv_iload_n hx hb dX10_findAll_102 rfl (lv_at hl 1 rfl) ?_
  cases ho
  exact rtI C0.1 hW dX10_findAll_103
