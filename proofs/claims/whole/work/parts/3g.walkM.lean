noncomputable def m_reachedOf_B11 (t : St) (v1 : Int32) (v3 : Int32) : Option ((Int32) ⊕ ((Int32) ⊕ (Unit))) :=
  if (gI t 56) ≤ v3 then (some (.inr (.inr ()))) else (gd v3 40 (gd v1 400 (if (gA t 57 (v3).toNatClampNeg) = (gA t 10 (v1).toNatClampNeg) then (some (.inr (.inl v3))) else (nm (v3 + (1 : Int32)) (fun x5 : Int32 => some (.inl x5))))))
noncomputable def m_reachedOf_J183 (t : St) (v1 : Int32) (v2 : Int32) (v5 : Int32) (v6 : Int32) (w0 : Int32) : Option ((Int32 × Int32 × Int32 × St) ⊕ (Int32 × St)) :=
  gd v1 400 (if (gA t 8 (v1).toNatClampNeg) = (2 : Int32) then (nm (v6 + (1 : Int32)) (fun x9 : Int32 => nm (v5 + (1 : Int32)) (fun x10 : Int32 => some (.inl (x9, w0, x10, t))))) else (nm (v5 + (1 : Int32)) (fun x8 : Int32 => some (.inl (v2, w0, x8, t)))))
noncomputable def m_reachedOf_J116 (t : St) (v1 : Int32) (v2 : Int32) (v4 : Int32) (v5 : Int32) (w0 : Int32) : Option ((Int32 × Int32 × Int32 × St) ⊕ (Int32 × St)) :=
  gd v5 40 (nm (sA t 33 v5 w0) (fun t12 : St => gd v1 400 (if (gA t12 8 (v1).toNatClampNeg) = (1 : Int32) then (if v4 ≤ w0 then (m_reachedOf_J183 t12 v1 v2 v5 w0 v4) else (m_reachedOf_J183 t12 v1 v2 v5 w0 w0)) else (gd v1 400 (if (gA t12 8 (v1).toNatClampNeg) = (3 : Int32) then (if w0 ≤ v4 then (m_reachedOf_J183 t12 v1 v2 v5 w0 v4) else (m_reachedOf_J183 t12 v1 v2 v5 w0 w0)) else (m_reachedOf_J183 t12 v1 v2 v5 w0 w0))))))
noncomputable def m_reachedOf_B68 (v1 : Int32) (v2 : Int32) (v3 : Int32) (v4 : Int32) (v5 : Int32) (t : St) : Option ((Int32 × Int32 × Int32 × St) ⊕ (Int32 × St)) :=
  gd v1 400 (if (gA t 12 (v1).toNatClampNeg) ≤ v5 then (some (.inr (v4, t))) else (if v3 ≤ (gI t 56) then (gd v1 400 (gd ((gA t 11 (v1).toNatClampNeg) + v5) 20000 (gd (((42 : Int32) * (gA t 14 (((gA t 11 (v1).toNatClampNeg) + v5)).toNatClampNeg)) + v3) 10500 (m_reachedOf_J116 t v1 v2 v4 v5 (gA t 59 ((((42 : Int32) * (gA t 14 (((gA t 11 (v1).toNatClampNeg) + v5)).toNatClampNeg)) + v3)).toNatClampNeg))))) else (m_reachedOf_J116 t v1 v2 v4 v5 (99 : Int32))))
noncomputable def m_reachedOf_J63 (t : St) (v1 : Int32) (v2 : Int32) (v3 : Int32) (w0 : Int32) : Option (Int32 × St) :=
  (lp (fun x => m_reachedOf_B68 v1 v2 x.1 x.2.1 x.2.2.1 x.2.2.2) (v3, w0, (0 : Int32), t)).bind (fun y25 => gd v1 400 (if (gA y25.2 8 (v1).toNatClampNeg) = (4 : Int32) then (gd v1 400 (gd v1 400 ((m_sorted y25.2 (gA y25.2 12 (v1).toNatClampNeg) ((gA y25.2 9 (v1).toNatClampNeg) - (1 : Int32))).bind (fun q32 => some (q32.1, q32.2))))) else (some (y25.1, y25.2))))
noncomputable def m_reachedOf (t : St) (a1 : Int32) (a2 : Int32) : Option (Int32 × St) :=
  gd a1 400 (if (gA t 8 (a1).toNatClampNeg) = 0 then ((lp (fun x => m_reachedOf_B11 t a1 x) a2).bind (fun y38 => (Sum.elim (fun u41 => some (u41, t)) (fun u41 => some ((99 : Int32), t))) y38)) else (gd a1 400 (if (gA t 8 (a1).toNatClampNeg) = (1 : Int32) then (m_reachedOf_J63 t a1 a2 a2 (99 : Int32)) else (m_reachedOf_J63 t a1 a2 a2 (0 : Int32)))))
set_option maxHeartbeats 4000000 in
set_option maxRecDepth 100000 in
theorem m_reachedOf_L11 {p : Program} {l : Launch} {e : Env} {s : State} {m : MethodId} {args : Array Value} {below : List Frame} {meth : Method} {c : Code} {Q : State → Prop} {D : va_G} {cI cJ cZ : ClassId} {am : Nat → Nat} {A : Nat → Prop} (C0 : cx p s m args meth c cX12_reachedOf RX12 7 (some .int) D (tyM cI cJ cZ) A) {t : St} {v1 : Int32} {y : (Int32) ⊕ (Unit)} (hK0 : ∀ u, y = (.inl u) → ∀ (H : Heap) (locs : List Loc) (ls : Array Slot), wl D A s (wM cI cJ cZ am t) H locs → lv_has ls 7 [(0, .ref (am 68)), (3, .int u)] → W p l e (rmN 1 25) s m args below meth c H locs 0 0 Q (F0 m 34 ls [])) (hK1 : ∀ u, y = (.inr u) → ∀ (H : Heap) (locs : List Loc) (ls : Array Slot), wl D A s (wM cI cJ cZ am t) H locs → lv_has ls 7 [(0, .ref (am 68))] → W p l e (rmN 1 25) s m args below meth c H locs 0 0 Q (F0 m 42 ls [])) :
    ∀ (n : Nat) (v3 : Int32), lpn (fun x => m_reachedOf_B11 t v1 x) n v3 = some y → ∀ (H : Heap) (locs : List Loc) (ls : Array Slot), wl D A s (wM cI cJ cZ am t) H locs → lv_has ls 7 [(0, .ref (am 68)), (1, .int v1), (3, .int v3)] → W p l e (rmN 1 25) s m args below meth c H locs 0 0 Q (F0 m 11 ls []) := by
  have hx := C0.1
  have hb := C0.2.1
  have hta := C0.2.2.2.2.2.1
  have hown := C0.2.2.2.2.1
  intro n
  induction n with
  | zero => intro _ h; cases h
  | succ n ih =>
    intro v3 hrun H locs ls hW hl
    obtain ⟨o, ho, hrun⟩ := bd_some hrun
    unfold m_reachedOf_B11 at ho
    refine lv_iload_n hx hb dX12_reachedOf_11 rfl (lv_at hl 2 rfl) ?_
    refine lv_aload_n hx hb dX12_reachedOf_12 rfl (lv_at hl 0 rfl) ?_
    refine mGET_56 C0 hW dX12_reachedOf_13 ?_
    refine lv_icmp_ge (tgt := 42) hx hb dX12_reachedOf_16 (by decide) (fun c1 => ?_) (fun c1 => ?_)
    · replace ho := ite_t c1 ho
      cases ho
      cases hrun
      exact hK1 _ rfl _ _ _ hW (lv_sub hl [0] rfl)
    · replace ho := ite_f c1 ho
      refine lv_aload_n hx hb dX12_reachedOf_19 rfl (lv_at hl 0 rfl) ?_
      refine mGET_57 C0 hW dX12_reachedOf_20 ?_
      refine lv_iload_n hx hb dX12_reachedOf_23 rfl (lv_at hl 2 rfl) ?_
      obtain ⟨g2, ho⟩ := gd_some ho
      refine mLD_57 C0 hW g2 dX12_reachedOf_24 ?_
      refine lv_aload_n hx hb dX12_reachedOf_25 rfl (lv_at hl 0 rfl) ?_
      refine mGET_10 C0 hW dX12_reachedOf_26 ?_
      refine lv_iload_n hx hb dX12_reachedOf_29 rfl (lv_at hl 1 rfl) ?_
      obtain ⟨g3, ho⟩ := gd_some ho
      refine mLD_10 C0 hW g3 dX12_reachedOf_30 ?_
      refine lv_icmp_ne (tgt := 36) hx hb dX12_reachedOf_31 (by decide) (fun c4 => ?_) (fun c4 => ?_)
      · replace ho := ite_f c4 ho
        obtain ⟨x5, ex5, ho⟩ := nm_x ho
        refine lv_iinc (v := x5) (lv' := [(3, .int x5), (0, .ref (am 68)), (1, .int v1)]) hx hb dX12_reachedOf_36 hl (k := 2) rfl (by rw [ex5]; rfl) (by decide) rfl (fun ls hl => ?_)
        clear ex5
        refine lv_goto (tgt := 11) hx hb dX12_reachedOf_39 (by decide) ?_
        cases ho
        exact ih _ hrun _ _ _ hW (lv_sub hl [1, 2, 0] rfl)
      · replace ho := ite_t c4 ho
        cases ho
        cases hrun
        exact hK0 _ rfl _ _ _ hW (lv_sub hl [0, 2] rfl)
set_option maxHeartbeats 4000000 in
set_option maxRecDepth 100000 in
theorem m_reachedOf_L68 {p : Program} {l : Launch} {e : Env} {s : State} {m : MethodId} {args : Array Value} {below : List Frame} {meth : Method} {c : Code} {Q : State → Prop} {D : va_G} {cI cJ cZ : ClassId} {am : Nat → Nat} {A : Nat → Prop} (C0 : cx p s m args meth c cX12_reachedOf RX12 7 (some .int) D (tyM cI cJ cZ) A) {v1 : Int32} {v2 : Int32} {y : Int32 × St} (hK0 : ∀ (H : Heap) (locs : List Loc) (ls : Array Slot), wl D A s (wM cI cJ cZ am y.2) H locs → lv_has ls 7 [(0, .ref (am 68)), (1, .int v1), (4, .int y.1)] → W p l e (rmN 1 25) s m args below meth c H locs 0 0 Q (F0 m 210 ls [])) :
    ∀ (n : Nat) (v3 : Int32) (v4 : Int32) (v5 : Int32) (t : St), lpn (fun x => m_reachedOf_B68 v1 v2 x.1 x.2.1 x.2.2.1 x.2.2.2) n (v3, v4, v5, t) = some y → ∀ (H : Heap) (locs : List Loc) (ls : Array Slot), wl D A s (wM cI cJ cZ am t) H locs → lv_has ls 7 [(0, .ref (am 68)), (1, .int v1), (2, .int v2), (3, .int v3), (4, .int v4), (5, .int v5)] → W p l e (rmN 1 25) s m args below meth c H locs 0 0 Q (F0 m 68 ls []) := by
  have hx := C0.1
  have hb := C0.2.1
  have hta := C0.2.2.2.2.2.1
  have hown := C0.2.2.2.2.1
  intro n
  induction n with
  | zero => intro _ _ _ _ h; cases h
  | succ n ih =>
    intro v3 v4 v5 t hrun H locs ls hW hl
    obtain ⟨o, ho, hrun⟩ := bd_some hrun
    have J183 : ∀ (t : St) (v5 : Int32) (v6 : Int32) (w0 : Int32) (_ : m_reachedOf_J183 t v1 v2 v5 v6 w0 = some o) (H : Heap) (locs : List Loc) (ls : Array Slot), wl D A s (wM cI cJ cZ am t) H locs → lv_has ls 7 [(0, .ref (am 68)), (1, .int v1), (2, .int v2), (5, .int v5), (6, .int v6)] → W p l e (rmN 1 25) s m args below meth c H locs 0 0 Q (F0 m 183 ls [.int w0]) := by
      intro t v5 v6 w0 ho H locs ls hW hl
      unfold m_reachedOf_J183 at ho
      refine lv_istore (lv' := [(4, .int w0), (0, .ref (am 68)), (1, .int v1), (2, .int v2), (5, .int v5), (6, .int v6)]) hx hb dX12_reachedOf_183 hl (by decide) rfl (fun ls hl => ?_)
      refine lv_aload_n hx hb dX12_reachedOf_185 rfl (lv_at hl 1 rfl) ?_
      refine mGET_8 C0 hW dX12_reachedOf_186 ?_
      refine lv_iload_n hx hb dX12_reachedOf_189 rfl (lv_at hl 2 rfl) ?_
      obtain ⟨g6, ho⟩ := gd_some ho
      refine mLD_8 C0 hW g6 dX12_reachedOf_190 ?_
      refine lv_iconst (v := (2 : Int32)) hx hb dX12_reachedOf_191 (by decide) ?_
      refine lv_icmp_ne (tgt := 202) hx hb dX12_reachedOf_192 (by decide) (fun c7 => ?_) (fun c7 => ?_)
      · replace ho := ite_f c7 ho
        refine lv_iload_n hx hb dX12_reachedOf_202 rfl (lv_at hl 3 rfl) ?_
        refine lv_istore_n (lv' := [(3, .int v2), (4, .int w0), (0, .ref (am 68)), (1, .int v1), (2, .int v2), (5, .int v5), (6, .int v6)]) hx hb dX12_reachedOf_203 rfl hl (by decide) rfl (fun ls hl => ?_)
        obtain ⟨x8, ex8, ho⟩ := nm_x ho
        refine lv_iinc (v := x8) (lv' := [(5, .int x8), (3, .int v2), (4, .int w0), (0, .ref (am 68)), (1, .int v1), (2, .int v2), (6, .int v6)]) hx hb dX12_reachedOf_204 hl (k := 5) rfl (by rw [ex8]; rfl) (by decide) rfl (fun ls hl => ?_)
        clear ex8
        refine lv_goto (tgt := 68) hx hb dX12_reachedOf_207 (by decide) ?_
        cases ho
        exact ih _ _ _ _ hrun _ _ _ hW (lv_sub hl [3, 4, 5, 1, 2, 0] rfl)
      · replace ho := ite_t c7 ho
        refine lv_iload hx hb dX12_reachedOf_195 (lv_at hl 5 rfl) ?_
        refine lv_iconst (v := (1 : Int32)) hx hb dX12_reachedOf_197 (by decide) ?_
        refine lv_iadd hx hb dX12_reachedOf_198 ?_
        refine lv_goto (tgt := 203) hx hb dX12_reachedOf_199 (by decide) ?_
        refine lv_nmi ho (fun x9 ho => ?_)
        refine lv_istore_n (lv' := [(3, .int x9), (4, .int w0), (0, .ref (am 68)), (1, .int v1), (2, .int v2), (5, .int v5), (6, .int v6)]) hx hb dX12_reachedOf_203 rfl hl (by decide) rfl (fun ls hl => ?_)
        obtain ⟨x10, ex10, ho⟩ := nm_x ho
        refine lv_iinc (v := x10) (lv' := [(5, .int x10), (3, .int x9), (4, .int w0), (0, .ref (am 68)), (1, .int v1), (2, .int v2), (6, .int v6)]) hx hb dX12_reachedOf_204 hl (k := 5) rfl (by rw [ex10]; rfl) (by decide) rfl (fun ls hl => ?_)
        clear ex10
        refine lv_goto (tgt := 68) hx hb dX12_reachedOf_207 (by decide) ?_
        cases ho
        exact ih _ _ _ _ hrun _ _ _ hW (lv_sub hl [3, 4, 5, 1, 2, 0] rfl)
    have J116 : ∀ (t : St) (v4 : Int32) (v5 : Int32) (w0 : Int32) (_ : m_reachedOf_J116 t v1 v2 v4 v5 w0 = some o) (H : Heap) (locs : List Loc) (ls : Array Slot), wl D A s (wM cI cJ cZ am t) H locs → lv_has ls 7 [(0, .ref (am 68)), (1, .int v1), (2, .int v2), (4, .int v4), (5, .int v5)] → W p l e (rmN 1 25) s m args below meth c H locs 0 0 Q (F0 m 116 ls [.int w0]) := by
      intro t v4 v5 w0 ho H locs ls hW hl
      unfold m_reachedOf_J116 at ho
      refine lv_istore (lv' := [(6, .int w0), (0, .ref (am 68)), (1, .int v1), (2, .int v2), (4, .int v4), (5, .int v5)]) hx hb dX12_reachedOf_116 hl (by decide) rfl (fun ls hl => ?_)
      refine lv_aload_n hx hb dX12_reachedOf_118 rfl (lv_at hl 1 rfl) ?_
      refine mGET_33 C0 hW dX12_reachedOf_119 ?_
      refine lv_iload hx hb dX12_reachedOf_122 (lv_at hl 5 rfl) ?_
      refine lv_iload hx hb dX12_reachedOf_124 (lv_at hl 0 rfl) ?_
      obtain ⟨g11, ho⟩ := gd_some ho
      refine mST_33 C0 hW g11 dX12_reachedOf_126 (fun H locs hW => ?_)
      obtain ⟨t12, ho, hW⟩ := nm_w (P := fun t => wl D A s (wM cI cJ cZ am t) H locs) ho hW
      refine lv_aload_n hx hb dX12_reachedOf_127 rfl (lv_at hl 1 rfl) ?_
      refine mGET_8 C0 hW dX12_reachedOf_128 ?_
      refine lv_iload_n hx hb dX12_reachedOf_131 rfl (lv_at hl 2 rfl) ?_
      obtain ⟨g13, ho⟩ := gd_some ho
      refine mLD_8 C0 hW g13 dX12_reachedOf_132 ?_
      refine lv_iconst (v := (1 : Int32)) hx hb dX12_reachedOf_133 (by decide) ?_
      refine lv_icmp_ne (tgt := 154) hx hb dX12_reachedOf_134 (by decide) (fun c14 => ?_) (fun c14 => ?_)
      · replace ho := ite_f c14 ho
        refine lv_aload_n hx hb dX12_reachedOf_154 rfl (lv_at hl 1 rfl) ?_
        refine mGET_8 C0 hW dX12_reachedOf_155 ?_
        refine lv_iload_n hx hb dX12_reachedOf_158 rfl (lv_at hl 2 rfl) ?_
        obtain ⟨g15, ho⟩ := gd_some ho
        refine mLD_8 C0 hW g15 dX12_reachedOf_159 ?_
        refine lv_iconst (v := (3 : Int32)) hx hb dX12_reachedOf_160 (by decide) ?_
        refine lv_icmp_ne (tgt := 181) hx hb dX12_reachedOf_161 (by decide) (fun c16 => ?_) (fun c16 => ?_)
        · replace ho := ite_f c16 ho
          refine lv_iload hx hb dX12_reachedOf_181 (lv_at hl 0 rfl) ?_
          exact J183 _ _ _ _ ho _ _ _ hW (lv_sub hl [1, 2, 3, 5, 0] rfl)
        · replace ho := ite_t c16 ho
          refine lv_iload hx hb dX12_reachedOf_164 (lv_at hl 0 rfl) ?_
          refine lv_iload hx hb dX12_reachedOf_166 (lv_at hl 4 rfl) ?_
          refine lv_icmp_le (tgt := 176) hx hb dX12_reachedOf_168 (by decide) (fun c17 => ?_) (fun c17 => ?_)
          · replace ho := ite_t c17 ho
            refine lv_iload hx hb dX12_reachedOf_176 (lv_at hl 4 rfl) ?_
            refine lv_goto (tgt := 183) hx hb dX12_reachedOf_178 (by decide) ?_
            exact J183 _ _ _ _ ho _ _ _ hW (lv_sub hl [1, 2, 3, 5, 0] rfl)
          · replace ho := ite_f c17 ho
            refine lv_iload hx hb dX12_reachedOf_171 (lv_at hl 0 rfl) ?_
            refine lv_goto (tgt := 183) hx hb dX12_reachedOf_173 (by decide) ?_
            exact J183 _ _ _ _ ho _ _ _ hW (lv_sub hl [1, 2, 3, 5, 0] rfl)
      · replace ho := ite_t c14 ho
        refine lv_iload hx hb dX12_reachedOf_137 (lv_at hl 0 rfl) ?_
        refine lv_iload hx hb dX12_reachedOf_139 (lv_at hl 4 rfl) ?_
        refine lv_icmp_ge (tgt := 149) hx hb dX12_reachedOf_141 (by decide) (fun c18 => ?_) (fun c18 => ?_)
        · replace ho := ite_t c18 ho
          refine lv_iload hx hb dX12_reachedOf_149 (lv_at hl 4 rfl) ?_
          refine lv_goto (tgt := 183) hx hb dX12_reachedOf_151 (by decide) ?_
          exact J183 _ _ _ _ ho _ _ _ hW (lv_sub hl [1, 2, 3, 5, 0] rfl)
        · replace ho := ite_f c18 ho
          refine lv_iload hx hb dX12_reachedOf_144 (lv_at hl 0 rfl) ?_
          refine lv_goto (tgt := 183) hx hb dX12_reachedOf_146 (by decide) ?_
          exact J183 _ _ _ _ ho _ _ _ hW (lv_sub hl [1, 2, 3, 5, 0] rfl)
    unfold m_reachedOf_B68 at ho
    refine lv_iload hx hb dX12_reachedOf_68 (lv_at hl 5 rfl) ?_
    refine lv_aload_n hx hb dX12_reachedOf_70 rfl (lv_at hl 0 rfl) ?_
    refine mGET_12 C0 hW dX12_reachedOf_71 ?_
    refine lv_iload_n hx hb dX12_reachedOf_74 rfl (lv_at hl 1 rfl) ?_
    obtain ⟨g19, ho⟩ := gd_some ho
    refine mLD_12 C0 hW g19 dX12_reachedOf_75 ?_
    refine lv_icmp_ge (tgt := 210) hx hb dX12_reachedOf_76 (by decide) (fun c20 => ?_) (fun c20 => ?_)
    · replace ho := ite_t c20 ho
      cases ho
      cases hrun
      exact hK0 _ _ _ hW (lv_sub hl [0, 1, 4] rfl)
    · replace ho := ite_f c20 ho
      refine lv_iload_n hx hb dX12_reachedOf_79 rfl (lv_at hl 3 rfl) ?_
      refine lv_aload_n hx hb dX12_reachedOf_80 rfl (lv_at hl 0 rfl) ?_
      refine mGET_56 C0 hW dX12_reachedOf_81 ?_
      refine lv_icmp_le (tgt := 92) hx hb dX12_reachedOf_84 (by decide) (fun c21 => ?_) (fun c21 => ?_)
      · replace ho := ite_t c21 ho
        refine lv_aload_n hx hb dX12_reachedOf_92 rfl (lv_at hl 0 rfl) ?_
        refine mGET_59 C0 hW dX12_reachedOf_93 ?_
        refine lv_bipush (v := (42 : Int32)) hx hb dX12_reachedOf_96 (by decide) ?_
        refine lv_aload_n hx hb dX12_reachedOf_98 rfl (lv_at hl 0 rfl) ?_
        refine mGET_14 C0 hW dX12_reachedOf_99 ?_
        refine lv_aload_n hx hb dX12_reachedOf_102 rfl (lv_at hl 0 rfl) ?_
        refine mGET_11 C0 hW dX12_reachedOf_103 ?_
        refine lv_iload_n hx hb dX12_reachedOf_106 rfl (lv_at hl 1 rfl) ?_
        obtain ⟨g22, ho⟩ := gd_some ho
        refine mLD_11 C0 hW g22 dX12_reachedOf_107 ?_
        refine lv_iload hx hb dX12_reachedOf_108 (lv_at hl 5 rfl) ?_
        refine lv_iadd hx hb dX12_reachedOf_110 ?_
        obtain ⟨g23, ho⟩ := gd_some ho
        refine mLD_14 C0 hW g23 dX12_reachedOf_111 ?_
        refine lv_imul hx hb dX12_reachedOf_112 ?_
        refine lv_iload_n hx hb dX12_reachedOf_113 rfl (lv_at hl 3 rfl) ?_
        refine lv_iadd hx hb dX12_reachedOf_114 ?_
        obtain ⟨g24, ho⟩ := gd_some ho
        refine mLD_59 C0 hW g24 dX12_reachedOf_115 ?_
        exact J116 _ _ _ _ ho _ _ _ hW (lv_sub hl [0, 1, 2, 4, 5] rfl)
      · replace ho := ite_f c21 ho
        refine lv_bipush (v := (99 : Int32)) hx hb dX12_reachedOf_87 (by decide) ?_
        refine lv_goto (tgt := 116) hx hb dX12_reachedOf_89 (by decide) ?_
        exact J116 _ _ _ _ ho _ _ _ hW (lv_sub hl [0, 1, 2, 4, 5] rfl)
set_option maxHeartbeats 4000000 in
set_option maxRecDepth 100000 in
theorem c_m_reachedOf (l : Launch) {D : va_G} {cI cJ cZ : ClassId} {am : Nat → Nat} (sz : Nat) (t : St) (a1 : Int32) (a2 : Int32) {r : Int32} {t' : St} (ho : m_reachedOf t a1 a2 = some (r, t')) : Met l yX12_reachedOf (.code yX12_reachedOf cX12_reachedOf 7 (some .int) :: wsAll) (rmN 1 25) (va_Pc [.ref (am 68), .int a1, .int a2] (prW D (tyM cI cJ cZ) (wM cI cJ cZ am t) sz)) (qI r D (tyM cI cJ cZ) (wM cI cJ cZ am t') (va_A (wM cI cJ cZ am t) sz)) 0 0 (va_A (wM cI cJ cZ am t) sz) := by
  refine Met.ofW (cc := cX12_reachedOf) (maxL := 7) (ret := (some .int)) (by decide) rfl ?_
  intro p e s m args below meth c s₁ B hml hv
  obtain ⟨rfl, hsz, hP, hK, hD0⟩ := hv
  have hx := B.exec
  have hb := B.bytes
  have hts := atoms_spec (ws := (.code yX12_reachedOf cX12_reachedOf 7 (some .int) :: wsAll)) B.pre
  have hta := fun w h => hts w (List.mem_cons_of_mem _ h)
  have hown : s.vm.findClass RX12 = some m.cls := findClass_of_methodNamed B.named
  have hlocks := B.notSynchronized
  subst hsz
  have hD := hD0.self (sz := s.heap.size)
  generalize hAe : va_A (wM cI cJ cZ am t) s.heap.size = A at hD ⊢
  have hA : ∀ q : Nat, s.heap.size ≤ q → A q := fun q h => by rw [← hAe]; exact Or.inr h
  have C0 : cx p s m ([.ref (am 68), .int a1, .int a2].toArray) meth c cX12_reachedOf RX12 7 (some .int) D (tyM cI cJ cZ) A := ⟨hx, hb, B.returns, hml, hown, hta, hlocks, hK, hA⟩
  have hW : wl D A s (wM cI cJ cZ am t) s.heap [] := ⟨hP, hD, va_S.rf⟩
  have hl := lv_entry [.ref (am 68), .int a1, .int a2] (n := 7) (Nat.le_of_ble_eq_true rfl)
  rw [lg_entry_eq]
  generalize (lg_sl [.ref (am 68), .int a1, .int a2] ++ List.replicate (7 - (lg_sl [.ref (am 68), .int a1, .int a2]).length) Slot.unset).toArray = ls at hl ⊢
  have hl : lv_has ls 7 [(0, .ref (am 68)), (1, .int a1), (2, .int a2)] := hl
  clear hAe hD hP hD0 hts
  have J63 : ∀ (t : St) (v1 : Int32) (v2 : Int32) (v3 : Int32) (w0 : Int32) (_ : m_reachedOf_J63 t v1 v2 v3 w0 = some (r, t')) (H : Heap) (locs : List Loc) (ls : Array Slot), wl D A s (wM cI cJ cZ am t) H locs → lv_has ls 7 [(0, .ref (am 68)), (1, .int v1), (2, .int v2), (3, .int v3)] → W p l e (rmN 1 25) s m ([.ref (am 68), .int a1, .int a2].toArray) below meth c H locs 0 0 (MQ below (qI r D (tyM cI cJ cZ) (wM cI cJ cZ am t') A) ([.ref (am 68), .int a1, .int a2].toArray) s 0 0 A) (F0 m 63 ls [.int w0]) := by
    intro t v1 v2 v3 w0 ho H locs ls hW hl
    unfold m_reachedOf_J63 at ho
    refine lv_istore (lv' := [(4, .int w0), (0, .ref (am 68)), (1, .int v1), (2, .int v2), (3, .int v3)]) hx hb dX12_reachedOf_63 hl (by decide) rfl (fun ls hl => ?_)
    refine lv_iconst (v := (0 : Int32)) hx hb dX12_reachedOf_65 (by decide) ?_
    refine lv_istore (lv' := [(5, .int (0 : Int32)), (4, .int w0), (0, .ref (am 68)), (1, .int v1), (2, .int v2), (3, .int v3)]) hx hb dX12_reachedOf_66 hl (by decide) rfl (fun ls hl => ?_)
    obtain ⟨y25, hc27, ho⟩ := bd_some ho
    obtain ⟨ny25, hc27⟩ := lp_to hc27
    refine m_reachedOf_L68 C0 ?_ ny25 _ _ _ _ hc27 _ _ _ hW (lv_sub hl [2, 3, 4, 5, 1, 0] rfl)
    intro H locs ls hW hl
    refine lv_aload_n hx hb dX12_reachedOf_210 rfl (lv_at hl 0 rfl) ?_
    refine mGET_8 C0 hW dX12_reachedOf_211 ?_
    refine lv_iload_n hx hb dX12_reachedOf_214 rfl (lv_at hl 1 rfl) ?_
    obtain ⟨g28, ho⟩ := gd_some ho
    refine mLD_8 C0 hW g28 dX12_reachedOf_215 ?_
    refine lv_iconst (v := (4 : Int32)) hx hb dX12_reachedOf_216 (by decide) ?_
    refine lv_icmp_ne (tgt := 241) hx hb dX12_reachedOf_217 (by decide) (fun c29 => ?_) (fun c29 => ?_)
    · replace ho := ite_f c29 ho
      refine lv_iload hx hb dX12_reachedOf_241 (lv_at hl 2 rfl) ?_
      cases ho
      exact rtI C0 hW dX12_reachedOf_243
    · replace ho := ite_t c29 ho
      refine lv_aload_n hx hb dX12_reachedOf_220 rfl (lv_at hl 0 rfl) ?_
      refine lv_aload_n hx hb dX12_reachedOf_221 rfl (lv_at hl 0 rfl) ?_
      refine mGET_12 C0 hW dX12_reachedOf_222 ?_
      refine lv_iload_n hx hb dX12_reachedOf_225 rfl (lv_at hl 1 rfl) ?_
      obtain ⟨g30, ho⟩ := gd_some ho
      refine mLD_12 C0 hW g30 dX12_reachedOf_226 ?_
      refine lv_aload_n hx hb dX12_reachedOf_227 rfl (lv_at hl 0 rfl) ?_
      refine mGET_9 C0 hW dX12_reachedOf_228 ?_
      refine lv_iload_n hx hb dX12_reachedOf_231 rfl (lv_at hl 1 rfl) ?_
      obtain ⟨g31, ho⟩ := gd_some ho
      refine mLD_9 C0 hW g31 dX12_reachedOf_232 ?_
      refine lv_iconst (v := (1 : Int32)) hx hb dX12_reachedOf_233 (by decide) ?_
      refine lv_isub hx hb dX12_reachedOf_234 ?_
      obtain ⟨q32, hc33, ho⟩ := bd_some ho
      refine bkI C0 hW (runV (As := [.int (gA y25.2 12 (v1).toNatClampNeg), .int ((gA y25.2 9 (v1).toNatClampNeg) - (1 : Int32))]) (rest := []) C0 hW (c_m_sorted l _ y25.2 (gA y25.2 12 (v1).toNatClampNeg) ((gA y25.2 9 (v1).toNatClampNeg) - (1 : Int32)) (r := q32.1) (t' := q32.2) hc33) ca_X12_sorted_311 0 12 rfl rfl rfl rfl rfl ⟨rfl, rfl⟩ ⟨Nat.le_of_ble_eq_true rfl, Nat.le_of_ble_eq_true rfl⟩ (Nat.le_of_ble_eq_true rfl) hl.1 dX12_reachedOf_235 ⟨Nat.le_of_ble_eq_true rfl, Nat.le_of_ble_eq_true rfl⟩) (fun H locs hW => ?_)
      refine lv_goto (tgt := 243) hx hb dX12_reachedOf_238 (by decide) ?_
      cases ho
      exact rtI C0 hW dX12_reachedOf_243
  unfold m_reachedOf at ho
  refine lv_aload_n hx hb dX12_reachedOf_0 rfl (lv_at hl 0 rfl) ?_
  refine mGET_8 C0 hW dX12_reachedOf_1 ?_
  refine lv_iload_n hx hb dX12_reachedOf_4 rfl (lv_at hl 1 rfl) ?_
  obtain ⟨g34, ho⟩ := gd_some ho
  refine mLD_8 C0 hW g34 dX12_reachedOf_5 ?_
  refine lv_if_ne (tgt := 45) hx hb dX12_reachedOf_6 (by decide) (fun c35 => ?_) (fun c35 => ?_)
  · replace ho := ite_f c35 ho
    refine lv_iload_n hx hb dX12_reachedOf_45 rfl (lv_at hl 2 rfl) ?_
    refine lv_istore_n (lv' := [(3, .int a2), (0, .ref (am 68)), (1, .int a1), (2, .int a2)]) hx hb dX12_reachedOf_46 rfl hl (by decide) rfl (fun ls hl => ?_)
    refine lv_aload_n hx hb dX12_reachedOf_47 rfl (lv_at hl 1 rfl) ?_
    refine mGET_8 C0 hW dX12_reachedOf_48 ?_
    refine lv_iload_n hx hb dX12_reachedOf_51 rfl (lv_at hl 2 rfl) ?_
    obtain ⟨g36, ho⟩ := gd_some ho
    refine mLD_8 C0 hW g36 dX12_reachedOf_52 ?_
    refine lv_iconst (v := (1 : Int32)) hx hb dX12_reachedOf_53 (by decide) ?_
    refine lv_icmp_ne (tgt := 62) hx hb dX12_reachedOf_54 (by decide) (fun c37 => ?_) (fun c37 => ?_)
    · replace ho := ite_f c37 ho
      refine lv_iconst (v := (0 : Int32)) hx hb dX12_reachedOf_62 (by decide) ?_
      exact J63 _ _ _ _ _ ho _ _ _ hW (lv_sub hl [1, 2, 3, 0] rfl)
    · replace ho := ite_t c37 ho
      refine lv_bipush (v := (99 : Int32)) hx hb dX12_reachedOf_57 (by decide) ?_
      refine lv_goto (tgt := 63) hx hb dX12_reachedOf_59 (by decide) ?_
      exact J63 _ _ _ _ _ ho _ _ _ hW (lv_sub hl [1, 2, 3, 0] rfl)
  · replace ho := ite_t c35 ho
    refine lv_iload_n hx hb dX12_reachedOf_9 rfl (lv_at hl 2 rfl) ?_
    refine lv_istore_n (lv' := [(3, .int a2), (0, .ref (am 68)), (1, .int a1), (2, .int a2)]) hx hb dX12_reachedOf_10 rfl hl (by decide) rfl (fun ls hl => ?_)
    obtain ⟨y38, hc40, ho⟩ := bd_some ho
    obtain ⟨ny38, hc40⟩ := lp_to hc40
    refine m_reachedOf_L11 C0 ?_ ?_ ny38 _ hc40 _ _ _ hW (lv_sub hl [1, 2, 0] rfl)
    · intro u41 hy H locs ls hW hl
      subst hy
      replace ho := sum_l ho
      refine lv_iload_n hx hb dX12_reachedOf_34 rfl (lv_at hl 1 rfl) ?_
      cases ho
      exact rtI C0 hW dX12_reachedOf_35
    · intro u41 hy H locs ls hW hl
      subst hy
      replace ho := sum_r ho
      refine lv_bipush (v := (99 : Int32)) hx hb dX12_reachedOf_42 (by decide) ?_
      cases ho
      exact rtI C0 hW dX12_reachedOf_44
noncomputable def m_reached_B39 (v1 : Int32) (v2 : Int32) (v4 : Int32) (v5 : Int32) (t : St) : Option ((Int32 × St) ⊕ (St)) :=
  if (gI t 56) < v5 then (some (.inr t)) else ((m_reachedOf t v4 v5).bind (fun q2 => gd (((42 : Int32) * v4) + v5) 10500 (nm (sA q2.2 59 (((42 : Int32) * v4) + v5) q2.1) (fun t5 : St => nm (v5 + (1 : Int32)) (fun x6 : Int32 => some (.inl (x6, t5)))))))
noncomputable def m_reached_B25 (v1 : Int32) (v2 : Int32) (v4 : Int32) (t : St) : Option ((Int32 × St) ⊕ (St)) :=
  gd v1 10 (if (gA t 16 (v1).toNatClampNeg) < v4 then (some (.inr t)) else ((lp (fun x => m_reached_B39 v1 v2 v4 x.1 x.2) ((0 : Int32), t)).bind (fun y9 => nm (v4 + (1 : Int32)) (fun x12 : Int32 => some (.inl (x12, y9))))))
noncomputable def m_reached (t : St) (a1 : Int32) (a2 : Int32) : Option (Int32 × St) :=
  (m_in t a2 (0 : Int32) (gI t 56)).bind (fun q13 => (m_why t a1 q13).bind (fun q16 => if q16 = (1 : Int32) then ((lp (fun x => m_reached_B25 a1 a2 x.1 x.2) ((0 : Int32), t)).bind (fun y19 => gd a1 10 (gd (((42 : Int32) * (gA y19 16 (a1).toNatClampNeg)) + a2) 10500 (nm (gA y19 59 ((((42 : Int32) * (gA y19 16 (a1).toNatClampNeg)) + a2)).toNatClampNeg) (fun x24 : Int32 => if x24 = (99 : Int32) then (some ((-1 : Int32), y19)) else (some (x24, y19))))))) else (some (q16, t))))
set_option maxHeartbeats 4000000 in
set_option maxRecDepth 100000 in
theorem m_reached_L39 {p : Program} {l : Launch} {e : Env} {s : State} {m : MethodId} {args : Array Value} {below : List Frame} {meth : Method} {c : Code} {Q : State → Prop} {D : va_G} {cI cJ cZ : ClassId} {am : Nat → Nat} {A : Nat → Prop} (C0 : cx p s m args meth c cX12_reached RX12 6 (some .int) D (tyM cI cJ cZ) A) {v1 : Int32} {v2 : Int32} {v4 : Int32} {y : St} (hK0 : ∀ (H : Heap) (locs : List Loc) (ls : Array Slot), wl D A s (wM cI cJ cZ am y) H locs → lv_has ls 6 [(0, .ref (am 68)), (1, .int v1), (2, .int v2), (4, .int v4)] → W p l e (rmN 3 64) s m args below meth c H locs 0 0 Q (F0 m 75 ls [])) :
    ∀ (n : Nat) (v5 : Int32) (t : St), lpn (fun x => m_reached_B39 v1 v2 v4 x.1 x.2) n (v5, t) = some y → ∀ (H : Heap) (locs : List Loc) (ls : Array Slot), wl D A s (wM cI cJ cZ am t) H locs → lv_has ls 6 [(0, .ref (am 68)), (1, .int v1), (2, .int v2), (4, .int v4), (5, .int v5)] → W p l e (rmN 3 64) s m args below meth c H locs 0 0 Q (F0 m 39 ls []) := by
  have hx := C0.1
  have hb := C0.2.1
  have hta := C0.2.2.2.2.2.1
  have hown := C0.2.2.2.2.1
  intro n
  induction n with
  | zero => intro _ _ h; cases h
  | succ n ih =>
    intro v5 t hrun H locs ls hW hl
    obtain ⟨o, ho, hrun⟩ := bd_some hrun
    unfold m_reached_B39 at ho
    refine lv_iload hx hb dX12_reached_39 (lv_at hl 4 rfl) ?_
    refine lv_aload_n hx hb dX12_reached_41 rfl (lv_at hl 0 rfl) ?_
    refine mGET_56 C0 hW dX12_reached_42 ?_
    refine lv_icmp_gt (tgt := 75) hx hb dX12_reached_45 (by decide) (fun c1 => ?_) (fun c1 => ?_)
    · replace ho := ite_t c1 ho
      cases ho
      cases hrun
      exact hK0 _ _ _ hW (lv_sub hl [0, 1, 2, 3] rfl)
    · replace ho := ite_f c1 ho
      refine lv_aload_n hx hb dX12_reached_48 rfl (lv_at hl 0 rfl) ?_
      refine mGET_59 C0 hW dX12_reached_49 ?_
      refine lv_bipush (v := (42 : Int32)) hx hb dX12_reached_52 (by decide) ?_
      refine lv_iload hx hb dX12_reached_54 (lv_at hl 3 rfl) ?_
      refine lv_imul hx hb dX12_reached_56 ?_
      refine lv_iload hx hb dX12_reached_57 (lv_at hl 4 rfl) ?_
      refine lv_iadd hx hb dX12_reached_59 ?_
      refine lv_aload_n hx hb dX12_reached_60 rfl (lv_at hl 0 rfl) ?_
      refine lv_iload hx hb dX12_reached_61 (lv_at hl 3 rfl) ?_
      refine lv_iload hx hb dX12_reached_63 (lv_at hl 4 rfl) ?_
      obtain ⟨q2, hc3, ho⟩ := bd_some ho
      refine bkI C0 hW (runV (As := [.int v4, .int v5]) (rest := [.int (((42 : Int32) * v4) + v5), .ref (am 59)]) C0 hW (c_m_reachedOf l _ t v4 v5 (r := q2.1) (t' := q2.2) hc3) ca_X12_reachedOf_457 0 12 rfl rfl rfl rfl rfl ⟨rfl, rfl⟩ ⟨Nat.le_of_ble_eq_true rfl, Nat.le_of_ble_eq_true rfl⟩ (Nat.le_of_ble_eq_true rfl) hl.1 dX12_reached_65 ⟨Nat.le_of_ble_eq_true rfl, Nat.le_of_ble_eq_true rfl⟩) (fun H locs hW => ?_)
      obtain ⟨g4, ho⟩ := gd_some ho
      refine mST_59 C0 hW g4 dX12_reached_68 (fun H locs hW => ?_)
      obtain ⟨t5, ho, hW⟩ := nm_w (P := fun t => wl D A s (wM cI cJ cZ am t) H locs) ho hW
      obtain ⟨x6, ex6, ho⟩ := nm_x ho
      refine lv_iinc (v := x6) (lv' := [(5, .int x6), (0, .ref (am 68)), (1, .int v1), (2, .int v2), (4, .int v4)]) hx hb dX12_reached_69 hl (k := 4) rfl (by rw [ex6]; rfl) (by decide) rfl (fun ls hl => ?_)
      clear ex6
      refine lv_goto (tgt := 39) hx hb dX12_reached_72 (by decide) ?_
      cases ho
      exact ih _ _ hrun _ _ _ hW (lv_sub hl [1, 2, 3, 4, 0] rfl)
set_option maxHeartbeats 4000000 in
set_option maxRecDepth 100000 in
theorem m_reached_L25 {p : Program} {l : Launch} {e : Env} {s : State} {m : MethodId} {args : Array Value} {below : List Frame} {meth : Method} {c : Code} {Q : State → Prop} {D : va_G} {cI cJ cZ : ClassId} {am : Nat → Nat} {A : Nat → Prop} (C0 : cx p s m args meth c cX12_reached RX12 6 (some .int) D (tyM cI cJ cZ) A) {v1 : Int32} {v2 : Int32} {y : St} (hK0 : ∀ (H : Heap) (locs : List Loc) (ls : Array Slot), wl D A s (wM cI cJ cZ am y) H locs → lv_has ls 6 [(0, .ref (am 68)), (1, .int v1), (2, .int v2)] → W p l e (rmN 3 64) s m args below meth c H locs 0 0 Q (F0 m 81 ls [])) :
    ∀ (n : Nat) (v4 : Int32) (t : St), lpn (fun x => m_reached_B25 v1 v2 x.1 x.2) n (v4, t) = some y → ∀ (H : Heap) (locs : List Loc) (ls : Array Slot), wl D A s (wM cI cJ cZ am t) H locs → lv_has ls 6 [(0, .ref (am 68)), (1, .int v1), (2, .int v2), (4, .int v4)] → W p l e (rmN 3 64) s m args below meth c H locs 0 0 Q (F0 m 25 ls []) := by
  have hx := C0.1
  have hb := C0.2.1
  have hta := C0.2.2.2.2.2.1
  have hown := C0.2.2.2.2.1
  intro n
  induction n with
  | zero => intro _ _ h; cases h
  | succ n ih =>
    intro v4 t hrun H locs ls hW hl
    obtain ⟨o, ho, hrun⟩ := bd_some hrun
    unfold m_reached_B25 at ho
    refine lv_iload hx hb dX12_reached_25 (lv_at hl 3 rfl) ?_
    refine lv_aload_n hx hb dX12_reached_27 rfl (lv_at hl 0 rfl) ?_
    refine mGET_16 C0 hW dX12_reached_28 ?_
    refine lv_iload_n hx hb dX12_reached_31 rfl (lv_at hl 1 rfl) ?_
    obtain ⟨g7, ho⟩ := gd_some ho
    refine mLD_16 C0 hW g7 dX12_reached_32 ?_
    refine lv_icmp_gt (tgt := 81) hx hb dX12_reached_33 (by decide) (fun c8 => ?_) (fun c8 => ?_)
    · replace ho := ite_t c8 ho
      cases ho
      cases hrun
      exact hK0 _ _ _ hW (lv_sub hl [0, 1, 2] rfl)
    · replace ho := ite_f c8 ho
      refine lv_iconst (v := (0 : Int32)) hx hb dX12_reached_36 (by decide) ?_
      refine lv_istore (lv' := [(5, .int (0 : Int32)), (0, .ref (am 68)), (1, .int v1), (2, .int v2), (4, .int v4)]) hx hb dX12_reached_37 hl (by decide) rfl (fun ls hl => ?_)
      obtain ⟨y9, hc11, ho⟩ := bd_some ho
      obtain ⟨ny9, hc11⟩ := lp_to hc11
      refine m_reached_L39 C0 ?_ ny9 _ _ hc11 _ _ _ hW (lv_sub hl [1, 2, 3, 4, 0] rfl)
      intro H locs ls hW hl
      obtain ⟨x12, ex12, ho⟩ := nm_x ho
      refine lv_iinc (v := x12) (lv' := [(4, .int x12), (0, .ref (am 68)), (1, .int v1), (2, .int v2)]) hx hb dX12_reached_75 hl (k := 3) rfl (by rw [ex12]; rfl) (by decide) rfl (fun ls hl => ?_)
      clear ex12
      refine lv_goto (tgt := 25) hx hb dX12_reached_78 (by decide) ?_
      cases ho
      exact ih _ _ hrun _ _ _ hW (lv_sub hl [1, 2, 3, 0] rfl)
set_option maxHeartbeats 4000000 in
set_option maxRecDepth 100000 in
theorem c_m_reached (l : Launch) {D : va_G} {cI cJ cZ : ClassId} {am : Nat → Nat} (sz : Nat) (t : St) (a1 : Int32) (a2 : Int32) {r : Int32} {t' : St} (ho : m_reached t a1 a2 = some (r, t')) : Met l yX12_reached (.code yX12_reached cX12_reached 6 (some .int) :: wsAll) (rmN 3 64) (va_Pc [.ref (am 68), .int a1, .int a2] (prW D (tyM cI cJ cZ) (wM cI cJ cZ am t) sz)) (qI r D (tyM cI cJ cZ) (wM cI cJ cZ am t') (va_A (wM cI cJ cZ am t) sz)) 0 0 (va_A (wM cI cJ cZ am t) sz) := by
  refine Met.ofW (cc := cX12_reached) (maxL := 6) (ret := (some .int)) (by decide) rfl ?_
  intro p e s m args below meth c s₁ B hml hv
  obtain ⟨rfl, hsz, hP, hK, hD0⟩ := hv
  have hx := B.exec
  have hb := B.bytes
  have hts := atoms_spec (ws := (.code yX12_reached cX12_reached 6 (some .int) :: wsAll)) B.pre
  have hta := fun w h => hts w (List.mem_cons_of_mem _ h)
  have hown : s.vm.findClass RX12 = some m.cls := findClass_of_methodNamed B.named
  have hlocks := B.notSynchronized
  subst hsz
  have hD := hD0.self (sz := s.heap.size)
  generalize hAe : va_A (wM cI cJ cZ am t) s.heap.size = A at hD ⊢
  have hA : ∀ q : Nat, s.heap.size ≤ q → A q := fun q h => by rw [← hAe]; exact Or.inr h
  have C0 : cx p s m ([.ref (am 68), .int a1, .int a2].toArray) meth c cX12_reached RX12 6 (some .int) D (tyM cI cJ cZ) A := ⟨hx, hb, B.returns, hml, hown, hta, hlocks, hK, hA⟩
  have hW : wl D A s (wM cI cJ cZ am t) s.heap [] := ⟨hP, hD, va_S.rf⟩
  have hl := lv_entry [.ref (am 68), .int a1, .int a2] (n := 6) (Nat.le_of_ble_eq_true rfl)
  rw [lg_entry_eq]
  generalize (lg_sl [.ref (am 68), .int a1, .int a2] ++ List.replicate (6 - (lg_sl [.ref (am 68), .int a1, .int a2]).length) Slot.unset).toArray = ls at hl ⊢
  have hl : lv_has ls 6 [(0, .ref (am 68)), (1, .int a1), (2, .int a2)] := hl
  unfold m_reached at ho
  refine lv_aload_n hx hb dX12_reached_0 rfl (lv_at hl 0 rfl) ?_
  refine lv_iload_n hx hb dX12_reached_1 rfl (lv_at hl 1 rfl) ?_
  refine lv_iload_n hx hb dX12_reached_2 rfl (lv_at hl 2 rfl) ?_
  refine lv_iconst (v := (0 : Int32)) hx hb dX12_reached_3 (by decide) ?_
  refine lv_aload_n hx hb dX12_reached_4 rfl (lv_at hl 0 rfl) ?_
  refine mGET_56 C0 hW dX12_reached_5 ?_
  obtain ⟨q13, hc14, ho⟩ := bd_some ho
  refine bkZ C0 hW (runS (As := [.int a2, .int (0 : Int32), .int (gI t 56)]) (rest := [.int a1, .ref (am 68)]) C0 hW (c_m_in l _ t a2 (0 : Int32) (gI t 56) (r := q13) hc14) ca_X12_in_179 rfl rfl ⟨rfl, rfl⟩ ⟨Nat.le_of_ble_eq_true rfl, Nat.le_of_ble_eq_true rfl⟩ (Nat.le_of_ble_eq_true rfl) hl.1 dX12_reached_8 ⟨Nat.le_of_ble_eq_true rfl, Nat.le_of_ble_eq_true rfl⟩) (fun z15 H locs hW => ?_)
  obtain ⟨q16, hc17, ho⟩ := bd_some ho
  refine bkI C0 hW (runV (As := [.int a1, .int q13]) (rest := []) C0 hW (c_m_why l _ t a1 q13 (r := q16) hc17) ca_X12_why_271 0 12 rfl rfl rfl rfl rfl ⟨rfl, rfl⟩ ⟨Nat.le_of_ble_eq_true rfl, Nat.le_of_ble_eq_true rfl⟩ (Nat.le_of_ble_eq_true rfl) hl.1 dX12_reached_11 ⟨Nat.le_of_ble_eq_true rfl, Nat.le_of_ble_eq_true rfl⟩) (fun H locs hW => ?_)
  refine lv_istore_n (lv' := [(3, .int q16), (0, .ref (am 68)), (1, .int a1), (2, .int a2)]) hx hb dX12_reached_14 rfl hl (by decide) rfl (fun ls hl => ?_)
  refine lv_iload_n hx hb dX12_reached_15 rfl (lv_at hl 0 rfl) ?_
  refine lv_iconst (v := (1 : Int32)) hx hb dX12_reached_16 (by decide) ?_
  refine lv_icmp_eq (tgt := 22) hx hb dX12_reached_17 (by decide) (fun c18 => ?_) (fun c18 => ?_)
  · replace ho := ite_t c18 ho
    refine lv_iconst (v := (0 : Int32)) hx hb dX12_reached_22 (by decide) ?_
    refine lv_istore (lv' := [(4, .int (0 : Int32)), (3, .int q16), (0, .ref (am 68)), (1, .int a1), (2, .int a2)]) hx hb dX12_reached_23 hl (by decide) rfl (fun ls hl => ?_)
    obtain ⟨y19, hc21, ho⟩ := bd_some ho
    obtain ⟨ny19, hc21⟩ := lp_to hc21
    refine m_reached_L25 C0 ?_ ny19 _ _ hc21 _ _ _ hW (lv_sub hl [2, 3, 4, 0] rfl)
    intro H locs ls hW hl
    refine lv_aload_n hx hb dX12_reached_81 rfl (lv_at hl 0 rfl) ?_
    refine mGET_59 C0 hW dX12_reached_82 ?_
    refine lv_bipush (v := (42 : Int32)) hx hb dX12_reached_85 (by decide) ?_
    refine lv_aload_n hx hb dX12_reached_87 rfl (lv_at hl 0 rfl) ?_
    refine mGET_16 C0 hW dX12_reached_88 ?_
    refine lv_iload_n hx hb dX12_reached_91 rfl (lv_at hl 1 rfl) ?_
    obtain ⟨g22, ho⟩ := gd_some ho
    refine mLD_16 C0 hW g22 dX12_reached_92 ?_
    refine lv_imul hx hb dX12_reached_93 ?_
    refine lv_iload_n hx hb dX12_reached_94 rfl (lv_at hl 2 rfl) ?_
    refine lv_iadd hx hb dX12_reached_95 ?_
    obtain ⟨g23, ho⟩ := gd_some ho
    refine mLD_59 C0 hW g23 dX12_reached_96 ?_
    refine lv_nmi ho (fun x24 ho => ?_)
    refine lv_istore (lv' := [(4, .int x24), (0, .ref (am 68)), (1, .int a1), (2, .int a2)]) hx hb dX12_reached_97 hl (by decide) rfl (fun ls hl => ?_)
    refine lv_iload hx hb dX12_reached_99 (lv_at hl 0 rfl) ?_
    refine lv_bipush (v := (99 : Int32)) hx hb dX12_reached_101 (by decide) ?_
    refine lv_icmp_ne (tgt := 110) hx hb dX12_reached_103 (by decide) (fun c25 => ?_) (fun c25 => ?_)
    · replace ho := ite_f c25 ho
      refine lv_iload hx hb dX12_reached_110 (lv_at hl 0 rfl) ?_
      cases ho
      exact rtI C0 hW dX12_reached_112
    · replace ho := ite_t c25 ho
      refine lv_iconst (v := (-1 : Int32)) hx hb dX12_reached_106 (by decide) ?_
      refine lv_goto (tgt := 112) hx hb dX12_reached_107 (by decide) ?_
      cases ho
      exact rtI C0 hW dX12_reached_112
  · replace ho := ite_f c18 ho
    refine lv_iload_n hx hb dX12_reached_20 rfl (lv_at hl 0 rfl) ?_
    cases ho
    exact rtI C0 hW dX12_reached_21
noncomputable def m_walk (t : St) (a1 : Int32) (a2 : Int32) : Option (Int32 × St) :=
  (m_in t a1 (0 : Int32) (3 : Int32)).bind (fun q1 => if q1 = 0 then (some ((-2 : Int32), t)) else ((m_in t a2 (0 : Int32) (7 : Int32)).bind (fun q5 => if q5 = 0 then (some ((-2 : Int32), t)) else (gd a1 4 (if (gA t 60 (a1).toNatClampNeg) = (12 : Int32) then (some ((-4 : Int32), t)) else (gd a1 4 (gd (((12 : Int32) * a1) + (gA t 60 (a1).toNatClampNeg)) 48 (nm (sA t 61 (((12 : Int32) * a1) + (gA t 60 (a1).toNatClampNeg)) a2) (fun t13 : St => gd a1 4 (gd a1 4 (nm (sA t13 60 a1 ((gA t13 60 (a1).toNatClampNeg) + (1 : Int32))) (fun t16 : St => gd a1 4 (some ((gA t16 60 (a1).toNatClampNeg), t16))))))))))))))
set_option maxHeartbeats 4000000 in
set_option maxRecDepth 100000 in
theorem c_m_walk (l : Launch) {D : va_G} {cI cJ cZ : ClassId} {am : Nat → Nat} (sz : Nat) (t : St) (a1 : Int32) (a2 : Int32) {r : Int32} {t' : St} (ho : m_walk t a1 a2 = some (r, t')) : Met l yX12_walk (.code yX12_walk cX12_walk 3 (some .int) :: wsAll) (rmN 1 22) (va_Pc [.ref (am 68), .int a1, .int a2] (prW D (tyM cI cJ cZ) (wM cI cJ cZ am t) sz)) (qI r D (tyM cI cJ cZ) (wM cI cJ cZ am t') (va_A (wM cI cJ cZ am t) sz)) 0 0 (va_A (wM cI cJ cZ am t) sz) := by
  refine Met.ofW (cc := cX12_walk) (maxL := 3) (ret := (some .int)) (by decide) rfl ?_
  intro p e s m args below meth c s₁ B hml hv
  obtain ⟨rfl, hsz, hP, hK, hD0⟩ := hv
  have hx := B.exec
  have hb := B.bytes
  have hts := atoms_spec (ws := (.code yX12_walk cX12_walk 3 (some .int) :: wsAll)) B.pre
  have hta := fun w h => hts w (List.mem_cons_of_mem _ h)
  have hown : s.vm.findClass RX12 = some m.cls := findClass_of_methodNamed B.named
  have hlocks := B.notSynchronized
  subst hsz
  have hD := hD0.self (sz := s.heap.size)
  generalize hAe : va_A (wM cI cJ cZ am t) s.heap.size = A at hD ⊢
  have hA : ∀ q : Nat, s.heap.size ≤ q → A q := fun q h => by rw [← hAe]; exact Or.inr h
  have C0 : cx p s m ([.ref (am 68), .int a1, .int a2].toArray) meth c cX12_walk RX12 3 (some .int) D (tyM cI cJ cZ) A := ⟨hx, hb, B.returns, hml, hown, hta, hlocks, hK, hA⟩
  have hW : wl D A s (wM cI cJ cZ am t) s.heap [] := ⟨hP, hD, va_S.rf⟩
  have hl := lv_entry [.ref (am 68), .int a1, .int a2] (n := 3) (Nat.le_of_ble_eq_true rfl)
  rw [lg_entry_eq]
  generalize (lg_sl [.ref (am 68), .int a1, .int a2] ++ List.replicate (3 - (lg_sl [.ref (am 68), .int a1, .int a2]).length) Slot.unset).toArray = ls at hl ⊢
  have hl : lv_has ls 3 [(0, .ref (am 68)), (1, .int a1), (2, .int a2)] := hl
  unfold m_walk at ho
  refine lv_iload_n hx hb dX12_walk_0 rfl (lv_at hl 1 rfl) ?_
  refine lv_iconst (v := (0 : Int32)) hx hb dX12_walk_1 (by decide) ?_
  refine lv_iconst (v := (3 : Int32)) hx hb dX12_walk_2 (by decide) ?_
  obtain ⟨q1, hc2, ho⟩ := bd_some ho
  refine bkZ C0 hW (runS (As := [.int a1, .int (0 : Int32), .int (3 : Int32)]) (rest := []) C0 hW (c_m_in l _ t a1 (0 : Int32) (3 : Int32) (r := q1) hc2) ca_X12_in_179 rfl rfl ⟨rfl, rfl⟩ ⟨Nat.le_of_ble_eq_true rfl, Nat.le_of_ble_eq_true rfl⟩ (Nat.le_of_ble_eq_true rfl) hl.1 dX12_walk_3 ⟨Nat.le_of_ble_eq_true rfl, Nat.le_of_ble_eq_true rfl⟩) (fun z3 H locs hW => ?_)
  refine lv_if_eq (tgt := 19) hx hb dX12_walk_6 (by decide) (fun c4 => ?_) (fun c4 => ?_)
  · replace ho := ite_t c4 ho
    refine lv_bipush (v := (-2 : Int32)) hx hb dX12_walk_19 (by decide) ?_
    cases ho
    exact rtI C0 hW dX12_walk_21
  · replace ho := ite_f c4 ho
    refine lv_iload_n hx hb dX12_walk_9 rfl (lv_at hl 2 rfl) ?_
    refine lv_iconst (v := (0 : Int32)) hx hb dX12_walk_10 (by decide) ?_
    refine lv_bipush (v := (7 : Int32)) hx hb dX12_walk_11 (by decide) ?_
    obtain ⟨q5, hc6, ho⟩ := bd_some ho
    refine bkZ C0 hW (runS (As := [.int a2, .int (0 : Int32), .int (7 : Int32)]) (rest := []) C0 hW (c_m_in l _ t a2 (0 : Int32) (7 : Int32) (r := q5) hc6) ca_X12_in_179 rfl rfl ⟨rfl, rfl⟩ ⟨Nat.le_of_ble_eq_true rfl, Nat.le_of_ble_eq_true rfl⟩ (Nat.le_of_ble_eq_true rfl) hl.1 dX12_walk_13 ⟨Nat.le_of_ble_eq_true rfl, Nat.le_of_ble_eq_true rfl⟩) (fun z7 H locs hW => ?_)
    refine lv_if_ne (tgt := 22) hx hb dX12_walk_16 (by decide) (fun c8 => ?_) (fun c8 => ?_)
    · replace ho := ite_f c8 ho
      refine lv_aload_n hx hb dX12_walk_22 rfl (lv_at hl 0 rfl) ?_
      refine mGET_60 C0 hW dX12_walk_23 ?_
      refine lv_iload_n hx hb dX12_walk_26 rfl (lv_at hl 1 rfl) ?_
      obtain ⟨g9, ho⟩ := gd_some ho
      refine mLD_60 C0 hW g9 dX12_walk_27 ?_
      refine lv_bipush (v := (12 : Int32)) hx hb dX12_walk_28 (by decide) ?_
      refine lv_icmp_ne (tgt := 36) hx hb dX12_walk_30 (by decide) (fun c10 => ?_) (fun c10 => ?_)
      · replace ho := ite_f c10 ho
        refine lv_aload_n hx hb dX12_walk_36 rfl (lv_at hl 0 rfl) ?_
        refine mGET_61 C0 hW dX12_walk_37 ?_
        refine lv_bipush (v := (12 : Int32)) hx hb dX12_walk_40 (by decide) ?_
        refine lv_iload_n hx hb dX12_walk_42 rfl (lv_at hl 1 rfl) ?_
        refine lv_imul hx hb dX12_walk_43 ?_
        refine lv_aload_n hx hb dX12_walk_44 rfl (lv_at hl 0 rfl) ?_
        refine mGET_60 C0 hW dX12_walk_45 ?_
        refine lv_iload_n hx hb dX12_walk_48 rfl (lv_at hl 1 rfl) ?_
        obtain ⟨g11, ho⟩ := gd_some ho
        refine mLD_60 C0 hW g11 dX12_walk_49 ?_
        refine lv_iadd hx hb dX12_walk_50 ?_
        refine lv_iload_n hx hb dX12_walk_51 rfl (lv_at hl 2 rfl) ?_
        obtain ⟨g12, ho⟩ := gd_some ho
        refine mST_61 C0 hW g12 dX12_walk_52 (fun H locs hW => ?_)
        obtain ⟨t13, ho, hW⟩ := nm_w (P := fun t => wl D A s (wM cI cJ cZ am t) H locs) ho hW
        refine lv_aload_n hx hb dX12_walk_53 rfl (lv_at hl 0 rfl) ?_
        refine mGET_60 C0 hW dX12_walk_54 ?_
        refine lv_iload_n hx hb dX12_walk_57 rfl (lv_at hl 1 rfl) ?_
        refine lv_dup2_11 hx hb dX12_walk_58 rfl rfl ?_
        obtain ⟨g14, ho⟩ := gd_some ho
        refine mLD_60 C0 hW g14 dX12_walk_59 ?_
        refine lv_iconst (v := (1 : Int32)) hx hb dX12_walk_60 (by decide) ?_
        refine lv_iadd hx hb dX12_walk_61 ?_
        obtain ⟨g15, ho⟩ := gd_some ho
        refine mST_60 C0 hW g15 dX12_walk_62 (fun H locs hW => ?_)
        obtain ⟨t16, ho, hW⟩ := nm_w (P := fun t => wl D A s (wM cI cJ cZ am t) H locs) ho hW
        refine lv_aload_n hx hb dX12_walk_63 rfl (lv_at hl 0 rfl) ?_
        refine mGET_60 C0 hW dX12_walk_64 ?_
        refine lv_iload_n hx hb dX12_walk_67 rfl (lv_at hl 1 rfl) ?_
        obtain ⟨g17, ho⟩ := gd_some ho
        refine mLD_60 C0 hW g17 dX12_walk_68 ?_
        cases ho
        exact rtI C0 hW dX12_walk_69
      · replace ho := ite_t c10 ho
        refine lv_bipush (v := (-4 : Int32)) hx hb dX12_walk_33 (by decide) ?_
        cases ho
        exact rtI C0 hW dX12_walk_35
    · replace ho := ite_t c8 ho
      refine lv_bipush (v := (-2 : Int32)) hx hb dX12_walk_19 (by decide) ?_
      cases ho
      exact rtI C0 hW dX12_walk_21
noncomputable def m_home (t : St) (a1 : Int32) : Option (Int32 × St) :=
  (m_in t a1 (0 : Int32) (3 : Int32)).bind (fun q1 => if q1 = 0 then (some ((-2 : Int32), t)) else (gd a1 4 (nm (gA t 60 (a1).toNatClampNeg) (fun x6 : Int32 => gd a1 4 (nm (sA t 60 a1 (0 : Int32)) (fun t8 : St => some (x6, t8)))))))
set_option maxHeartbeats 4000000 in
set_option maxRecDepth 100000 in
theorem c_m_home (l : Launch) {D : va_G} {cI cJ cZ : ClassId} {am : Nat → Nat} (sz : Nat) (t : St) (a1 : Int32) {r : Int32} {t' : St} (ho : m_home t a1 = some (r, t')) : Met l yX12_home (.code yX12_home cX12_home 3 (some .int) :: wsAll) (rmN 1 22) (va_Pc [.ref (am 68), .int a1] (prW D (tyM cI cJ cZ) (wM cI cJ cZ am t) sz)) (qI r D (tyM cI cJ cZ) (wM cI cJ cZ am t') (va_A (wM cI cJ cZ am t) sz)) 0 0 (va_A (wM cI cJ cZ am t) sz) := by
  refine Met.ofW (cc := cX12_home) (maxL := 3) (ret := (some .int)) (by decide) rfl ?_
  intro p e s m args below meth c s₁ B hml hv
  obtain ⟨rfl, hsz, hP, hK, hD0⟩ := hv
  have hx := B.exec
  have hb := B.bytes
  have hts := atoms_spec (ws := (.code yX12_home cX12_home 3 (some .int) :: wsAll)) B.pre
  have hta := fun w h => hts w (List.mem_cons_of_mem _ h)
  have hown : s.vm.findClass RX12 = some m.cls := findClass_of_methodNamed B.named
  have hlocks := B.notSynchronized
  subst hsz
  have hD := hD0.self (sz := s.heap.size)
  generalize hAe : va_A (wM cI cJ cZ am t) s.heap.size = A at hD ⊢
  have hA : ∀ q : Nat, s.heap.size ≤ q → A q := fun q h => by rw [← hAe]; exact Or.inr h
  have C0 : cx p s m ([.ref (am 68), .int a1].toArray) meth c cX12_home RX12 3 (some .int) D (tyM cI cJ cZ) A := ⟨hx, hb, B.returns, hml, hown, hta, hlocks, hK, hA⟩
  have hW : wl D A s (wM cI cJ cZ am t) s.heap [] := ⟨hP, hD, va_S.rf⟩
  have hl := lv_entry [.ref (am 68), .int a1] (n := 3) (Nat.le_of_ble_eq_true rfl)
  rw [lg_entry_eq]
  generalize (lg_sl [.ref (am 68), .int a1] ++ List.replicate (3 - (lg_sl [.ref (am 68), .int a1]).length) Slot.unset).toArray = ls at hl ⊢
  have hl : lv_has ls 3 [(0, .ref (am 68)), (1, .int a1)] := hl
  unfold m_home at ho
  refine lv_iload_n hx hb dX12_home_0 rfl (lv_at hl 1 rfl) ?_
  refine lv_iconst (v := (0 : Int32)) hx hb dX12_home_1 (by decide) ?_
  refine lv_iconst (v := (3 : Int32)) hx hb dX12_home_2 (by decide) ?_
  obtain ⟨q1, hc2, ho⟩ := bd_some ho
  refine bkZ C0 hW (runS (As := [.int a1, .int (0 : Int32), .int (3 : Int32)]) (rest := []) C0 hW (c_m_in l _ t a1 (0 : Int32) (3 : Int32) (r := q1) hc2) ca_X12_in_179 rfl rfl ⟨rfl, rfl⟩ ⟨Nat.le_of_ble_eq_true rfl, Nat.le_of_ble_eq_true rfl⟩ (Nat.le_of_ble_eq_true rfl) hl.1 dX12_home_3 ⟨Nat.le_of_ble_eq_true rfl, Nat.le_of_ble_eq_true rfl⟩) (fun z3 H locs hW => ?_)
  refine lv_if_ne (tgt := 12) hx hb dX12_home_6 (by decide) (fun c4 => ?_) (fun c4 => ?_)
  · replace ho := ite_f c4 ho
    refine lv_aload_n hx hb dX12_home_12 rfl (lv_at hl 0 rfl) ?_
    refine mGET_60 C0 hW dX12_home_13 ?_
    refine lv_iload_n hx hb dX12_home_16 rfl (lv_at hl 1 rfl) ?_
    obtain ⟨g5, ho⟩ := gd_some ho
    refine mLD_60 C0 hW g5 dX12_home_17 ?_
    refine lv_nmi ho (fun x6 ho => ?_)
    refine lv_istore_n (lv' := [(2, .int x6), (0, .ref (am 68)), (1, .int a1)]) hx hb dX12_home_18 rfl hl (by decide) rfl (fun ls hl => ?_)
    refine lv_aload_n hx hb dX12_home_19 rfl (lv_at hl 1 rfl) ?_
    refine mGET_60 C0 hW dX12_home_20 ?_
    refine lv_iload_n hx hb dX12_home_23 rfl (lv_at hl 2 rfl) ?_
    refine lv_iconst (v := (0 : Int32)) hx hb dX12_home_24 (by decide) ?_
    obtain ⟨g7, ho⟩ := gd_some ho
    refine mST_60 C0 hW g7 dX12_home_25 (fun H locs hW => ?_)
    obtain ⟨t8, ho, hW⟩ := nm_w (P := fun t => wl D A s (wM cI cJ cZ am t) H locs) ho hW
    refine lv_iload_n hx hb dX12_home_26 rfl (lv_at hl 0 rfl) ?_
    cases ho
    exact rtI C0 hW dX12_home_27
  · replace ho := ite_t c4 ho
    refine lv_bipush (v := (-2 : Int32)) hx hb dX12_home_9 (by decide) ?_
    cases ho
    exact rtI C0 hW dX12_home_11
noncomputable def m_standing_J50 (t : St) (v1 : Int32) (v2 : Int32) (v4 : Int32) (w0 : Int32) : Option ((Int32 × Int32) ⊕ (Int32)) :=
  nm (w0 + (0 : Int32)) (fun x1 : Int32 => nm (v4 + (1 : Int32)) (fun x2 : Int32 => some (.inl (x1, x2))))
noncomputable def m_standing_B5 (t : St) (v1 : Int32) (v2 : Int32) (v3 : Int32) (v4 : Int32) : Option ((Int32 × Int32) ⊕ (Int32)) :=
  if (4 : Int32) ≤ v4 then (some (.inr v3)) else (gd v4 4 (if (gA t 60 (v4).toNatClampNeg) ≤ 0 then (m_standing_J50 t v1 v2 v4 v3) else (gd v4 4 (dv (gA t 60 (v4).toNatClampNeg) (gd (((12 : Int32) * v4) + (v2 - v2 / (gA t 60 (v4).toNatClampNeg) * (gA t 60 (v4).toNatClampNeg))) 48 (if (gA t 61 ((((12 : Int32) * v4) + (v2 - v2 / (gA t 60 (v4).toNatClampNeg) * (gA t 60 (v4).toNatClampNeg)))).toNatClampNeg) = v1 then (nm (v3 + (1 : Int32)) (fun x10 : Int32 => nm (v4 + (1 : Int32)) (fun x11 : Int32 => some (.inl (x10, x11))))) else (m_standing_J50 t v1 v2 v4 v3)))))))
noncomputable def m_standing (t : St) (a1 : Int32) (a2 : Int32) : Option (Int32) :=
  (lp (fun x => m_standing_B5 t a1 a2 x.1 x.2) ((0 : Int32), (0 : Int32))).bind (fun y12 => some y12)
set_option maxHeartbeats 4000000 in
set_option maxRecDepth 100000 in
theorem m_standing_L5 {p : Program} {l : Launch} {e : Env} {s : State} {m : MethodId} {args : Array Value} {below : List Frame} {meth : Method} {c : Code} {Q : State → Prop} {D : va_G} {cI cJ cZ : ClassId} {am : Nat → Nat} {A : Nat → Prop} (C0 : cx p s m args meth c cX12_standing RX12 5 (some .int) D (tyM cI cJ cZ) A) {t : St} {v1 : Int32} {v2 : Int32} {y : Int32} (hK0 : ∀ (H : Heap) (locs : List Loc) (ls : Array Slot), wl D A s (wM cI cJ cZ am t) H locs → lv_has ls 5 [(0, .ref (am 68)), (3, .int y)] → W p l e (rmN 0 0) s m args below meth c H locs 0 0 Q (F0 m 59 ls [])) :
    ∀ (n : Nat) (v3 : Int32) (v4 : Int32), lpn (fun x => m_standing_B5 t v1 v2 x.1 x.2) n (v3, v4) = some y → ∀ (H : Heap) (locs : List Loc) (ls : Array Slot), wl D A s (wM cI cJ cZ am t) H locs → lv_has ls 5 [(0, .ref (am 68)), (1, .int v1), (2, .int v2), (3, .int v3), (4, .int v4)] → W p l e (rmN 0 0) s m args below meth c H locs 0 0 Q (F0 m 5 ls []) := by
  have hx := C0.1
  have hb := C0.2.1
  have hta := C0.2.2.2.2.2.1
  have hown := C0.2.2.2.2.1
  intro n
  induction n with
  | zero => intro _ _ h; cases h
  | succ n ih =>
    intro v3 v4 hrun H locs ls hW hl
    obtain ⟨o, ho, hrun⟩ := bd_some hrun
    have J50 : ∀ (v4 : Int32) (w0 : Int32) (_ : m_standing_J50 t v1 v2 v4 w0 = some o) (H : Heap) (locs : List Loc) (ls : Array Slot), wl D A s (wM cI cJ cZ am t) H locs → lv_has ls 5 [(0, .ref (am 68)), (1, .int v1), (2, .int v2), (4, .int v4)] → W p l e (rmN 0 0) s m args below meth c H locs 0 0 Q (F0 m 50 ls [.int w0]) := by
      intro v4 w0 ho H locs ls hW hl
      unfold m_standing_J50 at ho
      refine lv_iconst (v := (0 : Int32)) hx hb dX12_standing_50 (by decide) ?_
      refine lv_iadd hx hb dX12_standing_51 ?_
      refine lv_nmi ho (fun x1 ho => ?_)
      refine lv_istore_n (lv' := [(3, .int x1), (0, .ref (am 68)), (1, .int v1), (2, .int v2), (4, .int v4)]) hx hb dX12_standing_52 rfl hl (by decide) rfl (fun ls hl => ?_)
      obtain ⟨x2, ex2, ho⟩ := nm_x ho
      refine lv_iinc (v := x2) (lv' := [(4, .int x2), (3, .int x1), (0, .ref (am 68)), (1, .int v1), (2, .int v2)]) hx hb dX12_standing_53 hl (k := 4) rfl (by rw [ex2]; rfl) (by decide) rfl (fun ls hl => ?_)
      clear ex2
      refine lv_goto (tgt := 5) hx hb dX12_standing_56 (by decide) ?_
      cases ho
      exact ih _ _ hrun _ _ _ hW (lv_sub hl [2, 3, 4, 1, 0] rfl)
    unfold m_standing_B5 at ho
    refine lv_iload hx hb dX12_standing_5 (lv_at hl 4 rfl) ?_
    refine lv_iconst (v := (4 : Int32)) hx hb dX12_standing_7 (by decide) ?_
    refine lv_icmp_ge (tgt := 59) hx hb dX12_standing_8 (by decide) (fun c3 => ?_) (fun c3 => ?_)
    · replace ho := ite_t c3 ho
      cases ho
      cases hrun
      exact hK0 _ _ _ hW (lv_sub hl [0, 3] rfl)
    · replace ho := ite_f c3 ho
      refine lv_iload_n hx hb dX12_standing_11 rfl (lv_at hl 3 rfl) ?_
      refine lv_aload_n hx hb dX12_standing_12 rfl (lv_at hl 0 rfl) ?_
      refine mGET_60 C0 hW dX12_standing_13 ?_
      refine lv_iload hx hb dX12_standing_16 (lv_at hl 4 rfl) ?_
      obtain ⟨g4, ho⟩ := gd_some ho
      refine mLD_60 C0 hW g4 dX12_standing_18 ?_
      refine lv_if_le (tgt := 50) hx hb dX12_standing_19 (by decide) (fun c5 => ?_) (fun c5 => ?_)
      · replace ho := ite_t c5 ho
        exact J50 _ _ ho _ _ _ hW (lv_sub hl [0, 1, 2, 4] rfl)
      · replace ho := ite_f c5 ho
        refine lv_aload_n hx hb dX12_standing_22 rfl (lv_at hl 0 rfl) ?_
        refine mGET_61 C0 hW dX12_standing_23 ?_
        refine lv_bipush (v := (12 : Int32)) hx hb dX12_standing_26 (by decide) ?_
        refine lv_iload hx hb dX12_standing_28 (lv_at hl 4 rfl) ?_
        refine lv_imul hx hb dX12_standing_30 ?_
        refine lv_iload_n hx hb dX12_standing_31 rfl (lv_at hl 2 rfl) ?_
        refine lv_aload_n hx hb dX12_standing_32 rfl (lv_at hl 0 rfl) ?_
        refine mGET_60 C0 hW dX12_standing_33 ?_
        refine lv_iload hx hb dX12_standing_36 (lv_at hl 4 rfl) ?_
        obtain ⟨g6, ho⟩ := gd_some ho
        refine mLD_60 C0 hW g6 dX12_standing_38 ?_
        obtain ⟨g7, ho⟩ := dv_some ho
        refine lv_irem hx hb dX12_standing_39 g7 ?_
        refine lv_iadd hx hb dX12_standing_40 ?_
        obtain ⟨g8, ho⟩ := gd_some ho
        refine mLD_61 C0 hW g8 dX12_standing_41 ?_
        refine lv_iload_n hx hb dX12_standing_42 rfl (lv_at hl 1 rfl) ?_
        refine lv_icmp_ne (tgt := 50) hx hb dX12_standing_43 (by decide) (fun c9 => ?_) (fun c9 => ?_)
        · replace ho := ite_f c9 ho
          exact J50 _ _ ho _ _ _ hW (lv_sub hl [0, 1, 2, 4] rfl)
        · replace ho := ite_t c9 ho
          refine lv_iconst (v := (1 : Int32)) hx hb dX12_standing_46 (by decide) ?_
          refine lv_goto (tgt := 51) hx hb dX12_standing_47 (by decide) ?_
          refine lv_iadd hx hb dX12_standing_51 ?_
          refine lv_nmi ho (fun x10 ho => ?_)
          refine lv_istore_n (lv' := [(3, .int x10), (0, .ref (am 68)), (1, .int v1), (2, .int v2), (4, .int v4)]) hx hb dX12_standing_52 rfl hl (by decide) rfl (fun ls hl => ?_)
          obtain ⟨x11, ex11, ho⟩ := nm_x ho
          refine lv_iinc (v := x11) (lv' := [(4, .int x11), (3, .int x10), (0, .ref (am 68)), (1, .int v1), (2, .int v2)]) hx hb dX12_standing_53 hl (k := 4) rfl (by rw [ex11]; rfl) (by decide) rfl (fun ls hl => ?_)
          clear ex11
          refine lv_goto (tgt := 5) hx hb dX12_standing_56 (by decide) ?_
          cases ho
          exact ih _ _ hrun _ _ _ hW (lv_sub hl [2, 3, 4, 1, 0] rfl)
set_option maxHeartbeats 4000000 in
set_option maxRecDepth 100000 in
theorem c_m_standing (l : Launch) {D : va_G} {cI cJ cZ : ClassId} {am : Nat → Nat} (sz : Nat) (t : St) (a1 : Int32) (a2 : Int32) {r : Int32} (ho : m_standing t a1 a2 = some r) : Met l yX12_standing (.code yX12_standing cX12_standing 5 (some .int) :: wsAll) (rmN 0 0) (va_Pc [.ref (am 68), .int a1, .int a2] (prW D (tyM cI cJ cZ) (wM cI cJ cZ am t) sz)) (qI r D (tyM cI cJ cZ) (wM cI cJ cZ am t) (va_A (wM cI cJ cZ am t) sz)) 0 0 (va_A (wM cI cJ cZ am t) sz) := by
  refine Met.ofW (cc := cX12_standing) (maxL := 5) (ret := (some .int)) (by decide) rfl ?_
  intro p e s m args below meth c s₁ B hml hv
  obtain ⟨rfl, hsz, hP, hK, hD0⟩ := hv
  have hx := B.exec
  have hb := B.bytes
  have hts := atoms_spec (ws := (.code yX12_standing cX12_standing 5 (some .int) :: wsAll)) B.pre
  have hta := fun w h => hts w (List.mem_cons_of_mem _ h)
  have hown : s.vm.findClass RX12 = some m.cls := findClass_of_methodNamed B.named
  have hlocks := B.notSynchronized
  subst hsz
  have hD := hD0.self (sz := s.heap.size)
  generalize hAe : va_A (wM cI cJ cZ am t) s.heap.size = A at hD ⊢
  have hA : ∀ q : Nat, s.heap.size ≤ q → A q := fun q h => by rw [← hAe]; exact Or.inr h
  have C0 : cx p s m ([.ref (am 68), .int a1, .int a2].toArray) meth c cX12_standing RX12 5 (some .int) D (tyM cI cJ cZ) A := ⟨hx, hb, B.returns, hml, hown, hta, hlocks, hK, hA⟩
  have hW : wl D A s (wM cI cJ cZ am t) s.heap [] := ⟨hP, hD, va_S.rf⟩
  have hl := lv_entry [.ref (am 68), .int a1, .int a2] (n := 5) (Nat.le_of_ble_eq_true rfl)
  rw [lg_entry_eq]
  generalize (lg_sl [.ref (am 68), .int a1, .int a2] ++ List.replicate (5 - (lg_sl [.ref (am 68), .int a1, .int a2]).length) Slot.unset).toArray = ls at hl ⊢
  have hl : lv_has ls 5 [(0, .ref (am 68)), (1, .int a1), (2, .int a2)] := hl
  unfold m_standing at ho
  refine lv_iconst (v := (0 : Int32)) hx hb dX12_standing_0 (by decide) ?_
  refine lv_istore_n (lv' := [(3, .int (0 : Int32)), (0, .ref (am 68)), (1, .int a1), (2, .int a2)]) hx hb dX12_standing_1 rfl hl (by decide) rfl (fun ls hl => ?_)
  refine lv_iconst (v := (0 : Int32)) hx hb dX12_standing_2 (by decide) ?_
  refine lv_istore (lv' := [(4, .int (0 : Int32)), (3, .int (0 : Int32)), (0, .ref (am 68)), (1, .int a1), (2, .int a2)]) hx hb dX12_standing_3 hl (by decide) rfl (fun ls hl => ?_)
  obtain ⟨y12, hc14, ho⟩ := bd_some ho
  obtain ⟨ny12, hc14⟩ := lp_to hc14
  refine m_standing_L5 C0 ?_ ny12 _ _ hc14 _ _ _ hW (lv_sub hl [2, 3, 4, 1, 0] rfl)
  intro H locs ls hW hl
  refine lv_iload_n hx hb dX12_standing_59 rfl (lv_at hl 1 rfl) ?_
  cases ho
  exact rtI C0 hW dX12_standing_60
noncomputable def m_stands (t : St) (a1 : Int32) (a2 : Int32) : Option (Int32) :=
  (m_in t a1 (0 : Int32) (7 : Int32)).bind (fun q1 => if q1 = 0 then (some (-2 : Int32)) else ((m_in t a2 (0 : Int32) (10000 : Int32)).bind (fun q5 => if q5 = 0 then (some (-2 : Int32)) else ((m_standing t a1 a2).bind (fun q9 => some q9)))))
set_option maxHeartbeats 4000000 in
set_option maxRecDepth 100000 in
theorem c_m_stands (l : Launch) {D : va_G} {cI cJ cZ : ClassId} {am : Nat → Nat} (sz : Nat) (t : St) (a1 : Int32) (a2 : Int32) {r : Int32} (ho : m_stands t a1 a2 = some r) : Met l yX12_stands (.code yX12_stands cX12_stands 3 (some .int) :: wsAll) (rmN 1 24) (va_Pc [.ref (am 68), .int a1, .int a2] (prW D (tyM cI cJ cZ) (wM cI cJ cZ am t) sz)) (qI r D (tyM cI cJ cZ) (wM cI cJ cZ am t) (va_A (wM cI cJ cZ am t) sz)) 0 0 (va_A (wM cI cJ cZ am t) sz) := by
  refine Met.ofW (cc := cX12_stands) (maxL := 3) (ret := (some .int)) (by decide) rfl ?_
  intro p e s m args below meth c s₁ B hml hv
  obtain ⟨rfl, hsz, hP, hK, hD0⟩ := hv
  have hx := B.exec
  have hb := B.bytes
  have hts := atoms_spec (ws := (.code yX12_stands cX12_stands 3 (some .int) :: wsAll)) B.pre
  have hta := fun w h => hts w (List.mem_cons_of_mem _ h)
  have hown : s.vm.findClass RX12 = some m.cls := findClass_of_methodNamed B.named
  have hlocks := B.notSynchronized
  subst hsz
  have hD := hD0.self (sz := s.heap.size)
  generalize hAe : va_A (wM cI cJ cZ am t) s.heap.size = A at hD ⊢
  have hA : ∀ q : Nat, s.heap.size ≤ q → A q := fun q h => by rw [← hAe]; exact Or.inr h
  have C0 : cx p s m ([.ref (am 68), .int a1, .int a2].toArray) meth c cX12_stands RX12 3 (some .int) D (tyM cI cJ cZ) A := ⟨hx, hb, B.returns, hml, hown, hta, hlocks, hK, hA⟩
  have hW : wl D A s (wM cI cJ cZ am t) s.heap [] := ⟨hP, hD, va_S.rf⟩
  have hl := lv_entry [.ref (am 68), .int a1, .int a2] (n := 3) (Nat.le_of_ble_eq_true rfl)
  rw [lg_entry_eq]
  generalize (lg_sl [.ref (am 68), .int a1, .int a2] ++ List.replicate (3 - (lg_sl [.ref (am 68), .int a1, .int a2]).length) Slot.unset).toArray = ls at hl ⊢
  have hl : lv_has ls 3 [(0, .ref (am 68)), (1, .int a1), (2, .int a2)] := hl
  unfold m_stands at ho
  refine lv_iload_n hx hb dX12_stands_0 rfl (lv_at hl 1 rfl) ?_
  refine lv_iconst (v := (0 : Int32)) hx hb dX12_stands_1 (by decide) ?_
  refine lv_bipush (v := (7 : Int32)) hx hb dX12_stands_2 (by decide) ?_
  obtain ⟨q1, hc2, ho⟩ := bd_some ho
  refine bkZ C0 hW (runS (As := [.int a1, .int (0 : Int32), .int (7 : Int32)]) (rest := []) C0 hW (c_m_in l _ t a1 (0 : Int32) (7 : Int32) (r := q1) hc2) ca_X12_in_179 rfl rfl ⟨rfl, rfl⟩ ⟨Nat.le_of_ble_eq_true rfl, Nat.le_of_ble_eq_true rfl⟩ (Nat.le_of_ble_eq_true rfl) hl.1 dX12_stands_4 ⟨Nat.le_of_ble_eq_true rfl, Nat.le_of_ble_eq_true rfl⟩) (fun z3 H locs hW => ?_)
  refine lv_if_eq (tgt := 30) hx hb dX12_stands_7 (by decide) (fun c4 => ?_) (fun c4 => ?_)
  · replace ho := ite_t c4 ho
    refine lv_bipush (v := (-2 : Int32)) hx hb dX12_stands_30 (by decide) ?_
    cases ho
    exact rtI C0 hW dX12_stands_32
  · replace ho := ite_f c4 ho
    refine lv_iload_n hx hb dX12_stands_10 rfl (lv_at hl 2 rfl) ?_
    refine lv_iconst (v := (0 : Int32)) hx hb dX12_stands_11 (by decide) ?_
    refine lv_sipush (v := (10000 : Int32)) hx hb dX12_stands_12 (by decide) ?_
    obtain ⟨q5, hc6, ho⟩ := bd_some ho
    refine bkZ C0 hW (runS (As := [.int a2, .int (0 : Int32), .int (10000 : Int32)]) (rest := []) C0 hW (c_m_in l _ t a2 (0 : Int32) (10000 : Int32) (r := q5) hc6) ca_X12_in_179 rfl rfl ⟨rfl, rfl⟩ ⟨Nat.le_of_ble_eq_true rfl, Nat.le_of_ble_eq_true rfl⟩ (Nat.le_of_ble_eq_true rfl) hl.1 dX12_stands_15 ⟨Nat.le_of_ble_eq_true rfl, Nat.le_of_ble_eq_true rfl⟩) (fun z7 H locs hW => ?_)
    refine lv_if_eq (tgt := 30) hx hb dX12_stands_18 (by decide) (fun c8 => ?_) (fun c8 => ?_)
    · replace ho := ite_t c8 ho
      refine lv_bipush (v := (-2 : Int32)) hx hb dX12_stands_30 (by decide) ?_
      cases ho
      exact rtI C0 hW dX12_stands_32
    · replace ho := ite_f c8 ho
      refine lv_aload_n hx hb dX12_stands_21 rfl (lv_at hl 0 rfl) ?_
      refine lv_iload_n hx hb dX12_stands_22 rfl (lv_at hl 1 rfl) ?_
      refine lv_iload_n hx hb dX12_stands_23 rfl (lv_at hl 2 rfl) ?_
      obtain ⟨q9, hc10, ho⟩ := bd_some ho
      refine bkI C0 hW (runV (As := [.int a1, .int a2]) (rest := []) C0 hW (c_m_standing l _ t a1 a2 (r := q9) hc10) ca_X12_standing_460 0 12 rfl rfl rfl rfl rfl ⟨rfl, rfl⟩ ⟨Nat.le_of_ble_eq_true rfl, Nat.le_of_ble_eq_true rfl⟩ (Nat.le_of_ble_eq_true rfl) hl.1 dX12_stands_24 ⟨Nat.le_of_ble_eq_true rfl, Nat.le_of_ble_eq_true rfl⟩) (fun H locs hW => ?_)
      refine lv_goto (tgt := 32) hx hb dX12_stands_27 (by decide) ?_
      cases ho
      exact rtI C0 hW dX12_stands_32
noncomputable def m_beginsAt_B5 (t : St) (v1 : Int32) (v3 : Int32) (v4 : Int32) : Option ((Int32 × Int32) ⊕ ((Int32) ⊕ (Unit))) :=
  gd v1 16 (if (600 : Int32) < (v3 + (gA t 1 (v1).toNatClampNeg)) then (some (.inr (.inr ()))) else (gd v1 16 ((m_standing t (gA t 4 (v1).toNatClampNeg) (v3 + v4)).bind (fun q4 => if q4 ≤ 0 then (nm (v4 + (1 : Int32)) (fun x7 : Int32 => gd v1 16 (if x7 = (gA t 1 (v1).toNatClampNeg) then (some (.inr (.inl v3))) else (some (.inl (v3, x7)))))) else (nm (v3 + (v4 + (1 : Int32))) (fun x10 : Int32 => some (.inl (x10, (0 : Int32)))))))))
noncomputable def m_beginsAt (t : St) (a1 : Int32) (a2 : Int32) : Option (Int32) :=
  (lp (fun x => m_beginsAt_B5 t a1 x.1 x.2) (a2, (0 : Int32))).bind (fun y11 => (Sum.elim (fun u14 => some u14) (fun u14 => some (-1 : Int32))) y11)
set_option maxHeartbeats 4000000 in
set_option maxRecDepth 100000 in
theorem m_beginsAt_L5 {p : Program} {l : Launch} {e : Env} {s : State} {m : MethodId} {args : Array Value} {below : List Frame} {meth : Method} {c : Code} {Q : State → Prop} {D : va_G} {cI cJ cZ : ClassId} {am : Nat → Nat} {A : Nat → Prop} (C0 : cx p s m args meth c cX12_beginsAt RX12 5 (some .int) D (tyM cI cJ cZ) A) {t : St} {v1 : Int32} {y : (Int32) ⊕ (Unit)} (hK0 : ∀ u, y = (.inl u) → ∀ (H : Heap) (locs : List Loc) (ls : Array Slot), wl D A s (wM cI cJ cZ am t) H locs → lv_has ls 5 [(0, .ref (am 68)), (3, .int u)] → W p l e (rmN 1 24) s m args below meth c H locs 0 0 Q (F0 m 63 ls [])) (hK1 : ∀ u, y = (.inr u) → ∀ (H : Heap) (locs : List Loc) (ls : Array Slot), wl D A s (wM cI cJ cZ am t) H locs → lv_has ls 5 [(0, .ref (am 68))] → W p l e (rmN 1 24) s m args below meth c H locs 0 0 Q (F0 m 65 ls [])) :
    ∀ (n : Nat) (v3 : Int32) (v4 : Int32), lpn (fun x => m_beginsAt_B5 t v1 x.1 x.2) n (v3, v4) = some y → ∀ (H : Heap) (locs : List Loc) (ls : Array Slot), wl D A s (wM cI cJ cZ am t) H locs → lv_has ls 5 [(0, .ref (am 68)), (1, .int v1), (3, .int v3), (4, .int v4)] → W p l e (rmN 1 24) s m args below meth c H locs 0 0 Q (F0 m 5 ls []) := by
  have hx := C0.1
  have hb := C0.2.1
  have hta := C0.2.2.2.2.2.1
  have hown := C0.2.2.2.2.1
  intro n
  induction n with
  | zero => intro _ _ h; cases h
  | succ n ih =>
    intro v3 v4 hrun H locs ls hW hl
    obtain ⟨o, ho, hrun⟩ := bd_some hrun
    unfold m_beginsAt_B5 at ho
    refine lv_iload_n hx hb dX12_beginsAt_5 rfl (lv_at hl 2 rfl) ?_
    refine lv_aload_n hx hb dX12_beginsAt_6 rfl (lv_at hl 0 rfl) ?_
    refine mGET_1 C0 hW dX12_beginsAt_7 ?_
    refine lv_iload_n hx hb dX12_beginsAt_10 rfl (lv_at hl 1 rfl) ?_
    obtain ⟨g1, ho⟩ := gd_some ho
    refine mLD_1 C0 hW g1 dX12_beginsAt_11 ?_
    refine lv_iadd hx hb dX12_beginsAt_12 ?_
    refine lv_sipush (v := (600 : Int32)) hx hb dX12_beginsAt_13 (by decide) ?_
    refine lv_icmp_gt (tgt := 65) hx hb dX12_beginsAt_16 (by decide) (fun c2 => ?_) (fun c2 => ?_)
    · replace ho := ite_t c2 ho
      cases ho
      cases hrun
      exact hK1 _ rfl _ _ _ hW (lv_sub hl [0] rfl)
    · replace ho := ite_f c2 ho
      refine lv_aload_n hx hb dX12_beginsAt_19 rfl (lv_at hl 0 rfl) ?_
      refine lv_aload_n hx hb dX12_beginsAt_20 rfl (lv_at hl 0 rfl) ?_
      refine mGET_4 C0 hW dX12_beginsAt_21 ?_
      refine lv_iload_n hx hb dX12_beginsAt_24 rfl (lv_at hl 1 rfl) ?_
      obtain ⟨g3, ho⟩ := gd_some ho
      refine mLD_4 C0 hW g3 dX12_beginsAt_25 ?_
      refine lv_iload_n hx hb dX12_beginsAt_26 rfl (lv_at hl 2 rfl) ?_
      refine lv_iload hx hb dX12_beginsAt_27 (lv_at hl 3 rfl) ?_
      refine lv_iadd hx hb dX12_beginsAt_29 ?_
      obtain ⟨q4, hc5, ho⟩ := bd_some ho
      refine bkI C0 hW (runV (As := [.int (gA t 4 (v1).toNatClampNeg), .int (v3 + v4)]) (rest := []) C0 hW (c_m_standing l _ t (gA t 4 (v1).toNatClampNeg) (v3 + v4) (r := q4) hc5) ca_X12_standing_460 0 12 rfl rfl rfl rfl rfl ⟨rfl, rfl⟩ ⟨Nat.le_of_ble_eq_true rfl, Nat.le_of_ble_eq_true rfl⟩ (Nat.le_of_ble_eq_true rfl) hl.1 dX12_beginsAt_30 ⟨Nat.le_of_ble_eq_true rfl, Nat.le_of_ble_eq_true rfl⟩) (fun H locs hW => ?_)
      refine lv_if_le (tgt := 49) hx hb dX12_beginsAt_33 (by decide) (fun c6 => ?_) (fun c6 => ?_)
      · replace ho := ite_t c6 ho
        obtain ⟨x7, ex7, ho⟩ := nm_x ho
        refine lv_iinc (v := x7) (lv' := [(4, .int x7), (0, .ref (am 68)), (1, .int v1), (3, .int v3)]) hx hb dX12_beginsAt_49 hl (k := 3) rfl (by rw [ex7]; rfl) (by decide) rfl (fun ls hl => ?_)
        clear ex7
        refine lv_iload hx hb dX12_beginsAt_52 (lv_at hl 0 rfl) ?_
        refine lv_aload_n hx hb dX12_beginsAt_54 rfl (lv_at hl 1 rfl) ?_
        refine mGET_1 C0 hW dX12_beginsAt_55 ?_
        refine lv_iload_n hx hb dX12_beginsAt_58 rfl (lv_at hl 2 rfl) ?_
        obtain ⟨g8, ho⟩ := gd_some ho
        refine mLD_1 C0 hW g8 dX12_beginsAt_59 ?_
        refine lv_icmp_ne (tgt := 5) hx hb dX12_beginsAt_60 (by decide) (fun c9 => ?_) (fun c9 => ?_)
        · replace ho := ite_f c9 ho
          cases ho
          exact ih _ _ hrun _ _ _ hW (lv_sub hl [1, 2, 3, 0] rfl)
        · replace ho := ite_t c9 ho
          cases ho
          cases hrun
          exact hK0 _ rfl _ _ _ hW (lv_sub hl [1, 3] rfl)
      · replace ho := ite_f c6 ho
        refine lv_iload_n hx hb dX12_beginsAt_36 rfl (lv_at hl 2 rfl) ?_
        refine lv_iload hx hb dX12_beginsAt_37 (lv_at hl 3 rfl) ?_
        refine lv_iconst (v := (1 : Int32)) hx hb dX12_beginsAt_39 (by decide) ?_
        refine lv_iadd hx hb dX12_beginsAt_40 ?_
        refine lv_iadd hx hb dX12_beginsAt_41 ?_
        refine lv_nmi ho (fun x10 ho => ?_)
        refine lv_istore_n (lv' := [(3, .int x10), (0, .ref (am 68)), (1, .int v1), (4, .int v4)]) hx hb dX12_beginsAt_42 rfl hl (by decide) rfl (fun ls hl => ?_)
        refine lv_iconst (v := (0 : Int32)) hx hb dX12_beginsAt_43 (by decide) ?_
        refine lv_istore (lv' := [(4, .int (0 : Int32)), (3, .int x10), (0, .ref (am 68)), (1, .int v1)]) hx hb dX12_beginsAt_44 hl (by decide) rfl (fun ls hl => ?_)
        refine lv_goto (tgt := 5) hx hb dX12_beginsAt_46 (by decide) ?_
        cases ho
        exact ih _ _ hrun _ _ _ hW (lv_sub hl [2, 3, 1, 0] rfl)
set_option maxHeartbeats 4000000 in
set_option maxRecDepth 100000 in
theorem c_m_beginsAt (l : Launch) {D : va_G} {cI cJ cZ : ClassId} {am : Nat → Nat} (sz : Nat) (t : St) (a1 : Int32) (a2 : Int32) {r : Int32} (ho : m_beginsAt t a1 a2 = some r) : Met l yX12_beginsAt (.code yX12_beginsAt cX12_beginsAt 5 (some .int) :: wsAll) (rmN 1 24) (va_Pc [.ref (am 68), .int a1, .int a2] (prW D (tyM cI cJ cZ) (wM cI cJ cZ am t) sz)) (qI r D (tyM cI cJ cZ) (wM cI cJ cZ am t) (va_A (wM cI cJ cZ am t) sz)) 0 0 (va_A (wM cI cJ cZ am t) sz) := by
  refine Met.ofW (cc := cX12_beginsAt) (maxL := 5) (ret := (some .int)) (by decide) rfl ?_
  intro p e s m args below meth c s₁ B hml hv
  obtain ⟨rfl, hsz, hP, hK, hD0⟩ := hv
  have hx := B.exec
  have hb := B.bytes
  have hts := atoms_spec (ws := (.code yX12_beginsAt cX12_beginsAt 5 (some .int) :: wsAll)) B.pre
  have hta := fun w h => hts w (List.mem_cons_of_mem _ h)
  have hown : s.vm.findClass RX12 = some m.cls := findClass_of_methodNamed B.named
  have hlocks := B.notSynchronized
  subst hsz
  have hD := hD0.self (sz := s.heap.size)
  generalize hAe : va_A (wM cI cJ cZ am t) s.heap.size = A at hD ⊢
  have hA : ∀ q : Nat, s.heap.size ≤ q → A q := fun q h => by rw [← hAe]; exact Or.inr h
  have C0 : cx p s m ([.ref (am 68), .int a1, .int a2].toArray) meth c cX12_beginsAt RX12 5 (some .int) D (tyM cI cJ cZ) A := ⟨hx, hb, B.returns, hml, hown, hta, hlocks, hK, hA⟩
  have hW : wl D A s (wM cI cJ cZ am t) s.heap [] := ⟨hP, hD, va_S.rf⟩
  have hl := lv_entry [.ref (am 68), .int a1, .int a2] (n := 5) (Nat.le_of_ble_eq_true rfl)
  rw [lg_entry_eq]
  generalize (lg_sl [.ref (am 68), .int a1, .int a2] ++ List.replicate (5 - (lg_sl [.ref (am 68), .int a1, .int a2]).length) Slot.unset).toArray = ls at hl ⊢
  have hl : lv_has ls 5 [(0, .ref (am 68)), (1, .int a1), (2, .int a2)] := hl
  unfold m_beginsAt at ho
  refine lv_iload_n hx hb dX12_beginsAt_0 rfl (lv_at hl 2 rfl) ?_
  refine lv_istore_n (lv' := [(3, .int a2), (0, .ref (am 68)), (1, .int a1), (2, .int a2)]) hx hb dX12_beginsAt_1 rfl hl (by decide) rfl (fun ls hl => ?_)
  refine lv_iconst (v := (0 : Int32)) hx hb dX12_beginsAt_2 (by decide) ?_
  refine lv_istore (lv' := [(4, .int (0 : Int32)), (3, .int a2), (0, .ref (am 68)), (1, .int a1), (2, .int a2)]) hx hb dX12_beginsAt_3 hl (by decide) rfl (fun ls hl => ?_)
  obtain ⟨y11, hc13, ho⟩ := bd_some ho
  obtain ⟨ny11, hc13⟩ := lp_to hc13
  refine m_beginsAt_L5 C0 ?_ ?_ ny11 _ _ hc13 _ _ _ hW (lv_sub hl [2, 3, 1, 0] rfl)
  · intro u14 hy H locs ls hW hl
    subst hy
    replace ho := sum_l ho
    refine lv_iload_n hx hb dX12_beginsAt_63 rfl (lv_at hl 1 rfl) ?_
    cases ho
    exact rtI C0 hW dX12_beginsAt_64
  · intro u14 hy H locs ls hW hl
    subst hy
    replace ho := sum_r ho
    refine lv_iconst (v := (-1 : Int32)) hx hb dX12_beginsAt_65 (by decide) ?_
    cases ho
    exact rtI C0 hW dX12_beginsAt_66
noncomputable def m_begins (t : St) (a1 : Int32) (a2 : Int32) : Option (Int32) :=
  (m_isStep t a1).bind (fun q1 => if q1 = 0 then (some (-2 : Int32)) else ((m_in t a2 (0 : Int32) (600 : Int32)).bind (fun q5 => if q5 = 0 then (some (-2 : Int32)) else ((m_beginsAt t a1 a2).bind (fun q9 => some q9)))))
set_option maxHeartbeats 4000000 in
set_option maxRecDepth 100000 in
theorem c_m_begins (l : Launch) {D : va_G} {cI cJ cZ : ClassId} {am : Nat → Nat} (sz : Nat) (t : St) (a1 : Int32) (a2 : Int32) {r : Int32} (ho : m_begins t a1 a2 = some r) : Met l yX12_begins (.code yX12_begins cX12_begins 3 (some .int) :: wsAll) (rmN 2 48) (va_Pc [.ref (am 68), .int a1, .int a2] (prW D (tyM cI cJ cZ) (wM cI cJ cZ am t) sz)) (qI r D (tyM cI cJ cZ) (wM cI cJ cZ am t) (va_A (wM cI cJ cZ am t) sz)) 0 0 (va_A (wM cI cJ cZ am t) sz) := by
  refine Met.ofW (cc := cX12_begins) (maxL := 3) (ret := (some .int)) (by decide) rfl ?_
  intro p e s m args below meth c s₁ B hml hv
  obtain ⟨rfl, hsz, hP, hK, hD0⟩ := hv
  have hx := B.exec
  have hb := B.bytes
  have hts := atoms_spec (ws := (.code yX12_begins cX12_begins 3 (some .int) :: wsAll)) B.pre
  have hta := fun w h => hts w (List.mem_cons_of_mem _ h)
  have hown : s.vm.findClass RX12 = some m.cls := findClass_of_methodNamed B.named
  have hlocks := B.notSynchronized
  subst hsz
  have hD := hD0.self (sz := s.heap.size)
  generalize hAe : va_A (wM cI cJ cZ am t) s.heap.size = A at hD ⊢
  have hA : ∀ q : Nat, s.heap.size ≤ q → A q := fun q h => by rw [← hAe]; exact Or.inr h
  have C0 : cx p s m ([.ref (am 68), .int a1, .int a2].toArray) meth c cX12_begins RX12 3 (some .int) D (tyM cI cJ cZ) A := ⟨hx, hb, B.returns, hml, hown, hta, hlocks, hK, hA⟩
  have hW : wl D A s (wM cI cJ cZ am t) s.heap [] := ⟨hP, hD, va_S.rf⟩
  have hl := lv_entry [.ref (am 68), .int a1, .int a2] (n := 3) (Nat.le_of_ble_eq_true rfl)
  rw [lg_entry_eq]
  generalize (lg_sl [.ref (am 68), .int a1, .int a2] ++ List.replicate (3 - (lg_sl [.ref (am 68), .int a1, .int a2]).length) Slot.unset).toArray = ls at hl ⊢
  have hl : lv_has ls 3 [(0, .ref (am 68)), (1, .int a1), (2, .int a2)] := hl
  unfold m_begins at ho
  refine lv_iload_n hx hb dX12_begins_0 rfl (lv_at hl 1 rfl) ?_
  obtain ⟨q1, hc2, ho⟩ := bd_some ho
  refine bkZ C0 hW (runS (As := [.int a1]) (rest := []) C0 hW (c_m_isStep l _ t a1 (r := q1) hc2) ca_X12_isStep_183 rfl rfl ⟨rfl, rfl⟩ ⟨Nat.le_of_ble_eq_true rfl, Nat.le_of_ble_eq_true rfl⟩ (Nat.le_of_ble_eq_true rfl) hl.1 dX12_begins_1 ⟨Nat.le_of_ble_eq_true rfl, Nat.le_of_ble_eq_true rfl⟩) (fun z3 H locs hW => ?_)
  refine lv_if_eq (tgt := 27) hx hb dX12_begins_4 (by decide) (fun c4 => ?_) (fun c4 => ?_)
  · replace ho := ite_t c4 ho
    refine lv_bipush (v := (-2 : Int32)) hx hb dX12_begins_27 (by decide) ?_
    cases ho
    exact rtI C0 hW dX12_begins_29
  · replace ho := ite_f c4 ho
    refine lv_iload_n hx hb dX12_begins_7 rfl (lv_at hl 2 rfl) ?_
    refine lv_iconst (v := (0 : Int32)) hx hb dX12_begins_8 (by decide) ?_
    refine lv_sipush (v := (600 : Int32)) hx hb dX12_begins_9 (by decide) ?_
    obtain ⟨q5, hc6, ho⟩ := bd_some ho
    refine bkZ C0 hW (runS (As := [.int a2, .int (0 : Int32), .int (600 : Int32)]) (rest := []) C0 hW (c_m_in l _ t a2 (0 : Int32) (600 : Int32) (r := q5) hc6) ca_X12_in_179 rfl rfl ⟨rfl, rfl⟩ ⟨Nat.le_of_ble_eq_true rfl, Nat.le_of_ble_eq_true rfl⟩ (Nat.le_of_ble_eq_true rfl) hl.1 dX12_begins_12 ⟨Nat.le_of_ble_eq_true rfl, Nat.le_of_ble_eq_true rfl⟩) (fun z7 H locs hW => ?_)
    refine lv_if_eq (tgt := 27) hx hb dX12_begins_15 (by decide) (fun c8 => ?_) (fun c8 => ?_)
    · replace ho := ite_t c8 ho
      refine lv_bipush (v := (-2 : Int32)) hx hb dX12_begins_27 (by decide) ?_
      cases ho
      exact rtI C0 hW dX12_begins_29
    · replace ho := ite_f c8 ho
      refine lv_aload_n hx hb dX12_begins_18 rfl (lv_at hl 0 rfl) ?_
      refine lv_iload_n hx hb dX12_begins_19 rfl (lv_at hl 1 rfl) ?_
      refine lv_iload_n hx hb dX12_begins_20 rfl (lv_at hl 2 rfl) ?_
      obtain ⟨q9, hc10, ho⟩ := bd_some ho
      refine bkI C0 hW (runV (As := [.int a1, .int a2]) (rest := []) C0 hW (c_m_beginsAt l _ t a1 a2 (r := q9) hc10) ca_X12_beginsAt_463 0 12 rfl rfl rfl rfl rfl ⟨rfl, rfl⟩ ⟨Nat.le_of_ble_eq_true rfl, Nat.le_of_ble_eq_true rfl⟩ (Nat.le_of_ble_eq_true rfl) hl.1 dX12_begins_21 ⟨Nat.le_of_ble_eq_true rfl, Nat.le_of_ble_eq_true rfl⟩) (fun H locs hW => ?_)
      refine lv_goto (tgt := 29) hx hb dX12_begins_24 (by decide) ?_
      cases ho
      exact rtI C0 hW dX12_begins_29
noncomputable def m_endOf_B5 (t : St) (v1 : Int32) (v3 : Int32) (v4 : Int32) : Option ((Int32 × Int32) ⊕ (Int32)) :=
  if v1 ≤ v4 then (some (.inr v3)) else (if v3 = (-1 : Int32) then (some (.inr v3)) else (gd v4 7 (gd (((601 : Int32) * (gA t 63 (v4).toNatClampNeg)) + v3) 4207 (nm (gA t 62 ((((601 : Int32) * (gA t 63 (v4).toNatClampNeg)) + v3)).toNatClampNeg) (fun x5 : Int32 => nm (v4 + (1 : Int32)) (fun x6 : Int32 => some (.inl (x5, x6))))))))
noncomputable def m_endOf (t : St) (a1 : Int32) (a2 : Int32) : Option (Int32) :=
  (lp (fun x => m_endOf_B5 t a1 x.1 x.2) (a2, (0 : Int32))).bind (fun y7 => some y7)
set_option maxHeartbeats 4000000 in
set_option maxRecDepth 100000 in
theorem m_endOf_L5 {p : Program} {l : Launch} {e : Env} {s : State} {m : MethodId} {args : Array Value} {below : List Frame} {meth : Method} {c : Code} {Q : State → Prop} {D : va_G} {cI cJ cZ : ClassId} {am : Nat → Nat} {A : Nat → Prop} (C0 : cx p s m args meth c cX12_endOf RX12 5 (some .int) D (tyM cI cJ cZ) A) {t : St} {v1 : Int32} {y : Int32} (hK0 : ∀ (H : Heap) (locs : List Loc) (ls : Array Slot), wl D A s (wM cI cJ cZ am t) H locs → lv_has ls 5 [(0, .ref (am 68)), (3, .int y)] → W p l e (rmN 0 0) s m args below meth c H locs 0 0 Q (F0 m 41 ls [])) :
    ∀ (n : Nat) (v3 : Int32) (v4 : Int32), lpn (fun x => m_endOf_B5 t v1 x.1 x.2) n (v3, v4) = some y → ∀ (H : Heap) (locs : List Loc) (ls : Array Slot), wl D A s (wM cI cJ cZ am t) H locs → lv_has ls 5 [(0, .ref (am 68)), (1, .int v1), (3, .int v3), (4, .int v4)] → W p l e (rmN 0 0) s m args below meth c H locs 0 0 Q (F0 m 5 ls []) := by
  have hx := C0.1
  have hb := C0.2.1
  have hta := C0.2.2.2.2.2.1
  have hown := C0.2.2.2.2.1
  intro n
  induction n with
  | zero => intro _ _ h; cases h
  | succ n ih =>
    intro v3 v4 hrun H locs ls hW hl
    obtain ⟨o, ho, hrun⟩ := bd_some hrun
    unfold m_endOf_B5 at ho
    refine lv_iload hx hb dX12_endOf_5 (lv_at hl 3 rfl) ?_
    refine lv_iload_n hx hb dX12_endOf_7 rfl (lv_at hl 1 rfl) ?_
    refine lv_icmp_ge (tgt := 41) hx hb dX12_endOf_8 (by decide) (fun c1 => ?_) (fun c1 => ?_)
    · replace ho := ite_t c1 ho
      cases ho
      cases hrun
      exact hK0 _ _ _ hW (lv_sub hl [0, 2] rfl)
    · replace ho := ite_f c1 ho
      refine lv_iload_n hx hb dX12_endOf_11 rfl (lv_at hl 2 rfl) ?_
      refine lv_iconst (v := (-1 : Int32)) hx hb dX12_endOf_12 (by decide) ?_
      refine lv_icmp_eq (tgt := 41) hx hb dX12_endOf_13 (by decide) (fun c2 => ?_) (fun c2 => ?_)
      · replace ho := ite_t c2 ho
        cases ho
        cases hrun
        exact hK0 _ _ _ hW (lv_sub hl [0, 2] rfl)
      · replace ho := ite_f c2 ho
        refine lv_aload_n hx hb dX12_endOf_16 rfl (lv_at hl 0 rfl) ?_
        refine mGET_62 C0 hW dX12_endOf_17 ?_
        refine lv_sipush (v := (601 : Int32)) hx hb dX12_endOf_20 (by decide) ?_
        refine lv_aload_n hx hb dX12_endOf_23 rfl (lv_at hl 0 rfl) ?_
        refine mGET_63 C0 hW dX12_endOf_24 ?_
        refine lv_iload hx hb dX12_endOf_27 (lv_at hl 3 rfl) ?_
        obtain ⟨g3, ho⟩ := gd_some ho
        refine mLD_63 C0 hW g3 dX12_endOf_29 ?_
        refine lv_imul hx hb dX12_endOf_30 ?_
        refine lv_iload_n hx hb dX12_endOf_31 rfl (lv_at hl 2 rfl) ?_
        refine lv_iadd hx hb dX12_endOf_32 ?_
        obtain ⟨g4, ho⟩ := gd_some ho
        refine mLD_62 C0 hW g4 dX12_endOf_33 ?_
        refine lv_nmi ho (fun x5 ho => ?_)
        refine lv_istore_n (lv' := [(3, .int x5), (0, .ref (am 68)), (1, .int v1), (4, .int v4)]) hx hb dX12_endOf_34 rfl hl (by decide) rfl (fun ls hl => ?_)
        obtain ⟨x6, ex6, ho⟩ := nm_x ho
        refine lv_iinc (v := x6) (lv' := [(4, .int x6), (3, .int x5), (0, .ref (am 68)), (1, .int v1)]) hx hb dX12_endOf_35 hl (k := 3) rfl (by rw [ex6]; rfl) (by decide) rfl (fun ls hl => ?_)
        clear ex6
        refine lv_goto (tgt := 5) hx hb dX12_endOf_38 (by decide) ?_
        cases ho
        exact ih _ _ hrun _ _ _ hW (lv_sub hl [2, 3, 1, 0] rfl)
set_option maxHeartbeats 4000000 in
set_option maxRecDepth 100000 in
theorem c_m_endOf (l : Launch) {D : va_G} {cI cJ cZ : ClassId} {am : Nat → Nat} (sz : Nat) (t : St) (a1 : Int32) (a2 : Int32) {r : Int32} (ho : m_endOf t a1 a2 = some r) : Met l yX12_endOf (.code yX12_endOf cX12_endOf 5 (some .int) :: wsAll) (rmN 0 0) (va_Pc [.ref (am 68), .int a1, .int a2] (prW D (tyM cI cJ cZ) (wM cI cJ cZ am t) sz)) (qI r D (tyM cI cJ cZ) (wM cI cJ cZ am t) (va_A (wM cI cJ cZ am t) sz)) 0 0 (va_A (wM cI cJ cZ am t) sz) := by
  refine Met.ofW (cc := cX12_endOf) (maxL := 5) (ret := (some .int)) (by decide) rfl ?_
  intro p e s m args below meth c s₁ B hml hv
  obtain ⟨rfl, hsz, hP, hK, hD0⟩ := hv
  have hx := B.exec
  have hb := B.bytes
  have hts := atoms_spec (ws := (.code yX12_endOf cX12_endOf 5 (some .int) :: wsAll)) B.pre
  have hta := fun w h => hts w (List.mem_cons_of_mem _ h)
  have hown : s.vm.findClass RX12 = some m.cls := findClass_of_methodNamed B.named
  have hlocks := B.notSynchronized
  subst hsz
  have hD := hD0.self (sz := s.heap.size)
  generalize hAe : va_A (wM cI cJ cZ am t) s.heap.size = A at hD ⊢
  have hA : ∀ q : Nat, s.heap.size ≤ q → A q := fun q h => by rw [← hAe]; exact Or.inr h
  have C0 : cx p s m ([.ref (am 68), .int a1, .int a2].toArray) meth c cX12_endOf RX12 5 (some .int) D (tyM cI cJ cZ) A := ⟨hx, hb, B.returns, hml, hown, hta, hlocks, hK, hA⟩
  have hW : wl D A s (wM cI cJ cZ am t) s.heap [] := ⟨hP, hD, va_S.rf⟩
  have hl := lv_entry [.ref (am 68), .int a1, .int a2] (n := 5) (Nat.le_of_ble_eq_true rfl)
  rw [lg_entry_eq]
  generalize (lg_sl [.ref (am 68), .int a1, .int a2] ++ List.replicate (5 - (lg_sl [.ref (am 68), .int a1, .int a2]).length) Slot.unset).toArray = ls at hl ⊢
  have hl : lv_has ls 5 [(0, .ref (am 68)), (1, .int a1), (2, .int a2)] := hl
  unfold m_endOf at ho
  refine lv_iload_n hx hb dX12_endOf_0 rfl (lv_at hl 2 rfl) ?_
  refine lv_istore_n (lv' := [(3, .int a2), (0, .ref (am 68)), (1, .int a1), (2, .int a2)]) hx hb dX12_endOf_1 rfl hl (by decide) rfl (fun ls hl => ?_)
  refine lv_iconst (v := (0 : Int32)) hx hb dX12_endOf_2 (by decide) ?_
  refine lv_istore (lv' := [(4, .int (0 : Int32)), (3, .int a2), (0, .ref (am 68)), (1, .int a1), (2, .int a2)]) hx hb dX12_endOf_3 hl (by decide) rfl (fun ls hl => ?_)
  obtain ⟨y7, hc9, ho⟩ := bd_some ho
  obtain ⟨ny7, hc9⟩ := lp_to hc9
  refine m_endOf_L5 C0 ?_ ny7 _ _ hc9 _ _ _ hW (lv_sub hl [2, 3, 1, 0] rfl)
  intro H locs ls hW hl
  refine lv_iload_n hx hb dX12_endOf_41 rfl (lv_at hl 1 rfl) ?_
  cases ho
  exact rtI C0 hW dX12_endOf_42
noncomputable def m_next_B41 (t : St) (v1 : Int32) (v2 : Int32) (v3 : Int32) : Option ((Int32) ⊕ (Int32)) :=
  gd v3 7 (gd v2 7 (if (gA t 63 (v2).toNatClampNeg) ≤ (gA t 63 (v3).toNatClampNeg) then (some (.inr v3)) else (nm (v3 + (-1 : Int32)) (fun x4 : Int32 => some (.inl x4)))))
noncomputable def m_next_B4 (t : St) (v1 : Int32) (v2 : Int32) : Option ((Int32) ⊕ (Int32)) :=
  if v2 < 0 then (some (.inr v2)) else (gd v2 7 (gd (v2 + (1 : Int32)) 7 (if (gA t 63 (v2).toNatClampNeg) ≤ (gA t 63 ((v2 + (1 : Int32))).toNatClampNeg) then (some (.inr v2)) else (nm (v2 + (-1 : Int32)) (fun x9 : Int32 => some (.inl x9))))))
noncomputable def m_next_B100 (v5 : Int32) (v6 : Int32) (t : St) : Option ((Int32 × Int32 × St) ⊕ (St)) :=
  if v6 ≤ v5 then (some (.inr t)) else (gd v5 7 (nm (gA t 63 (v5).toNatClampNeg) (fun x12 : Int32 => gd v6 7 (gd v5 7 (nm (sA t 63 v5 (gA t 63 (v6).toNatClampNeg)) (fun t15 : St => gd v6 7 (nm (sA t15 63 v6 x12) (fun t17 : St => nm (v5 + (1 : Int32)) (fun x18 : Int32 => nm (v6 + (-1 : Int32)) (fun x19 : Int32 => some (.inl (x18, x19, t17))))))))))))
noncomputable def m_next (t : St) (a1 : Int32) : Option (Int32 × St) :=
  nm (a1 - (2 : Int32)) (fun x20 : Int32 => (lp (fun x => m_next_B4 t a1 x) x20).bind (fun y21 => if 0 ≤ y21 then (nm (a1 - (1 : Int32)) (fun x25 : Int32 => (lp (fun x => m_next_B41 t a1 y21 x) x25).bind (fun y26 => gd y21 7 (nm (gA t 63 (y21).toNatClampNeg) (fun x30 : Int32 => gd y26 7 (gd y21 7 (nm (sA t 63 y21 (gA t 63 (y26).toNatClampNeg)) (fun t33 : St => gd y26 7 (nm (sA t33 63 y26 x30) (fun t35 : St => nm (y21 + (1 : Int32)) (fun x36 : Int32 => nm (a1 - (1 : Int32)) (fun x37 : Int32 => (lp (fun x => m_next_B100 x.1 x.2.1 x.2.2) (x36, x37, t35)).bind (fun y38 => some ((1 : Int32), y38)))))))))))))) else (some ((0 : Int32), t))))
set_option maxHeartbeats 4000000 in
set_option maxRecDepth 100000 in
theorem m_next_L41 {p : Program} {l : Launch} {e : Env} {s : State} {m : MethodId} {args : Array Value} {below : List Frame} {meth : Method} {c : Code} {Q : State → Prop} {D : va_G} {cI cJ cZ : ClassId} {am : Nat → Nat} {A : Nat → Prop} (C0 : cx p s m args meth c cX12_next RX12 7 (some .boolean) D (tyM cI cJ cZ) A) {t : St} {v1 : Int32} {v2 : Int32} {y : Int32} (hK0 : ∀ (H : Heap) (locs : List Loc) (ls : Array Slot), wl D A s (wM cI cJ cZ am t) H locs → lv_has ls 7 [(0, .ref (am 68)), (1, .int v1), (2, .int v2), (3, .int y)] → W p l e (rmN 0 0) s m args below meth c H locs 0 0 Q (F0 m 62 ls [])) :
    ∀ (n : Nat) (v3 : Int32), lpn (fun x => m_next_B41 t v1 v2 x) n v3 = some y → ∀ (H : Heap) (locs : List Loc) (ls : Array Slot), wl D A s (wM cI cJ cZ am t) H locs → lv_has ls 7 [(0, .ref (am 68)), (1, .int v1), (2, .int v2), (3, .int v3)] → W p l e (rmN 0 0) s m args below meth c H locs 0 0 Q (F0 m 41 ls []) := by
  have hx := C0.1
  have hb := C0.2.1
  have hta := C0.2.2.2.2.2.1
  have hown := C0.2.2.2.2.1
  intro n
  induction n with
  | zero => intro _ h; cases h
  | succ n ih =>
    intro v3 hrun H locs ls hW hl
    obtain ⟨o, ho, hrun⟩ := bd_some hrun
    unfold m_next_B41 at ho
    refine lv_aload_n hx hb dX12_next_41 rfl (lv_at hl 0 rfl) ?_
    refine mGET_63 C0 hW dX12_next_42 ?_
    refine lv_iload_n hx hb dX12_next_45 rfl (lv_at hl 3 rfl) ?_
    obtain ⟨g1, ho⟩ := gd_some ho
    refine mLD_63 C0 hW g1 dX12_next_46 ?_
    refine lv_aload_n hx hb dX12_next_47 rfl (lv_at hl 0 rfl) ?_
    refine mGET_63 C0 hW dX12_next_48 ?_
    refine lv_iload_n hx hb dX12_next_51 rfl (lv_at hl 2 rfl) ?_
    obtain ⟨g2, ho⟩ := gd_some ho
    refine mLD_63 C0 hW g2 dX12_next_52 ?_
    refine lv_icmp_ge (tgt := 62) hx hb dX12_next_53 (by decide) (fun c3 => ?_) (fun c3 => ?_)
    · replace ho := ite_t c3 ho
      cases ho
      cases hrun
      exact hK0 _ _ _ hW (lv_sub hl [0, 1, 2, 3] rfl)
    · replace ho := ite_f c3 ho
      obtain ⟨x4, ex4, ho⟩ := nm_x ho
      refine lv_iinc (v := x4) (lv' := [(3, .int x4), (0, .ref (am 68)), (1, .int v1), (2, .int v2)]) hx hb dX12_next_56 hl (k := 3) rfl (by rw [ex4]; rfl) (by decide) rfl (fun ls hl => ?_)
      clear ex4
      refine lv_goto (tgt := 41) hx hb dX12_next_59 (by decide) ?_
      cases ho
      exact ih _ hrun _ _ _ hW (lv_sub hl [1, 2, 3, 0] rfl)
set_option maxHeartbeats 4000000 in
set_option maxRecDepth 100000 in
theorem m_next_L4 {p : Program} {l : Launch} {e : Env} {s : State} {m : MethodId} {args : Array Value} {below : List Frame} {meth : Method} {c : Code} {Q : State → Prop} {D : va_G} {cI cJ cZ : ClassId} {am : Nat → Nat} {A : Nat → Prop} (C0 : cx p s m args meth c cX12_next RX12 7 (some .boolean) D (tyM cI cJ cZ) A) {t : St} {v1 : Int32} {y : Int32} (hK0 : ∀ (H : Heap) (locs : List Loc) (ls : Array Slot), wl D A s (wM cI cJ cZ am t) H locs → lv_has ls 7 [(0, .ref (am 68)), (1, .int v1), (2, .int y)] → W p l e (rmN 0 0) s m args below meth c H locs 0 0 Q (F0 m 31 ls [])) :
    ∀ (n : Nat) (v2 : Int32), lpn (fun x => m_next_B4 t v1 x) n v2 = some y → ∀ (H : Heap) (locs : List Loc) (ls : Array Slot), wl D A s (wM cI cJ cZ am t) H locs → lv_has ls 7 [(0, .ref (am 68)), (1, .int v1), (2, .int v2)] → W p l e (rmN 0 0) s m args below meth c H locs 0 0 Q (F0 m 4 ls []) := by
  have hx := C0.1
  have hb := C0.2.1
  have hta := C0.2.2.2.2.2.1
  have hown := C0.2.2.2.2.1
  intro n
  induction n with
  | zero => intro _ h; cases h
  | succ n ih =>
    intro v2 hrun H locs ls hW hl
    obtain ⟨o, ho, hrun⟩ := bd_some hrun
    unfold m_next_B4 at ho
    refine lv_iload_n hx hb dX12_next_4 rfl (lv_at hl 2 rfl) ?_
    refine lv_if_lt (tgt := 31) hx hb dX12_next_5 (by decide) (fun c5 => ?_) (fun c5 => ?_)
    · replace ho := ite_t c5 ho
      cases ho
      cases hrun
      exact hK0 _ _ _ hW (lv_sub hl [0, 1, 2] rfl)
    · replace ho := ite_f c5 ho
      refine lv_aload_n hx hb dX12_next_8 rfl (lv_at hl 0 rfl) ?_
      refine mGET_63 C0 hW dX12_next_9 ?_
      refine lv_iload_n hx hb dX12_next_12 rfl (lv_at hl 2 rfl) ?_
      obtain ⟨g6, ho⟩ := gd_some ho
      refine mLD_63 C0 hW g6 dX12_next_13 ?_
      refine lv_aload_n hx hb dX12_next_14 rfl (lv_at hl 0 rfl) ?_
      refine mGET_63 C0 hW dX12_next_15 ?_
      refine lv_iload_n hx hb dX12_next_18 rfl (lv_at hl 2 rfl) ?_
      refine lv_iconst (v := (1 : Int32)) hx hb dX12_next_19 (by decide) ?_
      refine lv_iadd hx hb dX12_next_20 ?_
      obtain ⟨g7, ho⟩ := gd_some ho
      refine mLD_63 C0 hW g7 dX12_next_21 ?_
      refine lv_icmp_le (tgt := 31) hx hb dX12_next_22 (by decide) (fun c8 => ?_) (fun c8 => ?_)
      · replace ho := ite_t c8 ho
        cases ho
        cases hrun
        exact hK0 _ _ _ hW (lv_sub hl [0, 1, 2] rfl)
      · replace ho := ite_f c8 ho
        obtain ⟨x9, ex9, ho⟩ := nm_x ho
        refine lv_iinc (v := x9) (lv' := [(2, .int x9), (0, .ref (am 68)), (1, .int v1)]) hx hb dX12_next_25 hl (k := 2) rfl (by rw [ex9]; rfl) (by decide) rfl (fun ls hl => ?_)
        clear ex9
        refine lv_goto (tgt := 4) hx hb dX12_next_28 (by decide) ?_
        cases ho
        exact ih _ hrun _ _ _ hW (lv_sub hl [1, 2, 0] rfl)
set_option maxHeartbeats 4000000 in
set_option maxRecDepth 100000 in
theorem m_next_L100 {p : Program} {l : Launch} {e : Env} {s : State} {m : MethodId} {args : Array Value} {below : List Frame} {meth : Method} {c : Code} {Q : State → Prop} {D : va_G} {cI cJ cZ : ClassId} {am : Nat → Nat} {A : Nat → Prop} (C0 : cx p s m args meth c cX12_next RX12 7 (some .boolean) D (tyM cI cJ cZ) A) {y : St} (hK0 : ∀ (H : Heap) (locs : List Loc) (ls : Array Slot), wl D A s (wM cI cJ cZ am y) H locs → lv_has ls 7 [(0, .ref (am 68))] → W p l e (rmN 0 0) s m args below meth c H locs 0 0 Q (F0 m 148 ls [])) :
    ∀ (n : Nat) (v5 : Int32) (v6 : Int32) (t : St), lpn (fun x => m_next_B100 x.1 x.2.1 x.2.2) n (v5, v6, t) = some y → ∀ (H : Heap) (locs : List Loc) (ls : Array Slot), wl D A s (wM cI cJ cZ am t) H locs → lv_has ls 7 [(0, .ref (am 68)), (5, .int v5), (6, .int v6)] → W p l e (rmN 0 0) s m args below meth c H locs 0 0 Q (F0 m 100 ls []) := by
  have hx := C0.1
  have hb := C0.2.1
  have hta := C0.2.2.2.2.2.1
  have hown := C0.2.2.2.2.1
  intro n
  induction n with
  | zero => intro _ _ _ h; cases h
  | succ n ih =>
    intro v5 v6 t hrun H locs ls hW hl
    obtain ⟨o, ho, hrun⟩ := bd_some hrun
    unfold m_next_B100 at ho
    refine lv_iload hx hb dX12_next_100 (lv_at hl 1 rfl) ?_
    refine lv_iload hx hb dX12_next_102 (lv_at hl 2 rfl) ?_
    refine lv_icmp_ge (tgt := 148) hx hb dX12_next_104 (by decide) (fun c10 => ?_) (fun c10 => ?_)
    · replace ho := ite_t c10 ho
      cases ho
      cases hrun
      exact hK0 _ _ _ hW (lv_sub hl [0] rfl)
    · replace ho := ite_f c10 ho
      refine lv_aload_n hx hb dX12_next_107 rfl (lv_at hl 0 rfl) ?_
      refine mGET_63 C0 hW dX12_next_108 ?_
      refine lv_iload hx hb dX12_next_111 (lv_at hl 1 rfl) ?_
      obtain ⟨g11, ho⟩ := gd_some ho
      refine mLD_63 C0 hW g11 dX12_next_113 ?_
      refine lv_nmi ho (fun x12 ho => ?_)
      refine lv_istore (lv' := [(4, .int x12), (0, .ref (am 68)), (5, .int v5), (6, .int v6)]) hx hb dX12_next_114 hl (by decide) rfl (fun ls hl => ?_)
      refine lv_aload_n hx hb dX12_next_116 rfl (lv_at hl 1 rfl) ?_
      refine mGET_63 C0 hW dX12_next_117 ?_
      refine lv_iload hx hb dX12_next_120 (lv_at hl 2 rfl) ?_
      refine lv_aload_n hx hb dX12_next_122 rfl (lv_at hl 1 rfl) ?_
      refine mGET_63 C0 hW dX12_next_123 ?_
      refine lv_iload hx hb dX12_next_126 (lv_at hl 3 rfl) ?_
      obtain ⟨g13, ho⟩ := gd_some ho
      refine mLD_63 C0 hW g13 dX12_next_128 ?_
      obtain ⟨g14, ho⟩ := gd_some ho
      refine mST_63 C0 hW g14 dX12_next_129 (fun H locs hW => ?_)
      obtain ⟨t15, ho, hW⟩ := nm_w (P := fun t => wl D A s (wM cI cJ cZ am t) H locs) ho hW
      refine lv_aload_n hx hb dX12_next_130 rfl (lv_at hl 1 rfl) ?_
      refine mGET_63 C0 hW dX12_next_131 ?_
      refine lv_iload hx hb dX12_next_134 (lv_at hl 3 rfl) ?_
      refine lv_iload hx hb dX12_next_136 (lv_at hl 0 rfl) ?_
      obtain ⟨g16, ho⟩ := gd_some ho
      refine mST_63 C0 hW g16 dX12_next_138 (fun H locs hW => ?_)
      obtain ⟨t17, ho, hW⟩ := nm_w (P := fun t => wl D A s (wM cI cJ cZ am t) H locs) ho hW
      obtain ⟨x18, ex18, ho⟩ := nm_x ho
      refine lv_iinc (v := x18) (lv' := [(5, .int x18), (4, .int x12), (0, .ref (am 68)), (6, .int v6)]) hx hb dX12_next_139 hl (k := 2) rfl (by rw [ex18]; rfl) (by decide) rfl (fun ls hl => ?_)
      clear ex18
      obtain ⟨x19, ex19, ho⟩ := nm_x ho
      refine lv_iinc (v := x19) (lv' := [(6, .int x19), (5, .int x18), (4, .int x12), (0, .ref (am 68))]) hx hb dX12_next_142 hl (k := 3) rfl (by rw [ex19]; rfl) (by decide) rfl (fun ls hl => ?_)
      clear ex19
      refine lv_goto (tgt := 100) hx hb dX12_next_145 (by decide) ?_
      cases ho
      exact ih _ _ _ hrun _ _ _ hW (lv_sub hl [3, 1, 0] rfl)
set_option maxHeartbeats 4000000 in
set_option maxRecDepth 100000 in
theorem c_m_next (l : Launch) {D : va_G} {cI cJ cZ : ClassId} {am : Nat → Nat} (sz : Nat) (t : St) (a1 : Int32) {r : Int32} {t' : St} (ho : m_next t a1 = some (r, t')) : Met l yX12_next (.code yX12_next cX12_next 7 (some .boolean) :: wsAll) (rmN 0 0) (va_Pc [.ref (am 68), .int a1] (prW D (tyM cI cJ cZ) (wM cI cJ cZ am t) sz)) (qZ r D (tyM cI cJ cZ) (wM cI cJ cZ am t') (va_A (wM cI cJ cZ am t) sz)) 0 0 (va_A (wM cI cJ cZ am t) sz) := by
  refine Met.ofW (cc := cX12_next) (maxL := 7) (ret := (some .boolean)) (by decide) rfl ?_
  intro p e s m args below meth c s₁ B hml hv
  obtain ⟨rfl, hsz, hP, hK, hD0⟩ := hv
  have hx := B.exec
  have hb := B.bytes
  have hts := atoms_spec (ws := (.code yX12_next cX12_next 7 (some .boolean) :: wsAll)) B.pre
  have hta := fun w h => hts w (List.mem_cons_of_mem _ h)
  have hown : s.vm.findClass RX12 = some m.cls := findClass_of_methodNamed B.named
  have hlocks := B.notSynchronized
  subst hsz
  have hD := hD0.self (sz := s.heap.size)
  generalize hAe : va_A (wM cI cJ cZ am t) s.heap.size = A at hD ⊢
  have hA : ∀ q : Nat, s.heap.size ≤ q → A q := fun q h => by rw [← hAe]; exact Or.inr h
  have C0 : cx p s m ([.ref (am 68), .int a1].toArray) meth c cX12_next RX12 7 (some .boolean) D (tyM cI cJ cZ) A := ⟨hx, hb, B.returns, hml, hown, hta, hlocks, hK, hA⟩
  have hW : wl D A s (wM cI cJ cZ am t) s.heap [] := ⟨hP, hD, va_S.rf⟩
  have hl := lv_entry [.ref (am 68), .int a1] (n := 7) (Nat.le_of_ble_eq_true rfl)
  rw [lg_entry_eq]
  generalize (lg_sl [.ref (am 68), .int a1] ++ List.replicate (7 - (lg_sl [.ref (am 68), .int a1]).length) Slot.unset).toArray = ls at hl ⊢
  have hl : lv_has ls 7 [(0, .ref (am 68)), (1, .int a1)] := hl
  unfold m_next at ho
  refine lv_iload_n hx hb dX12_next_0 rfl (lv_at hl 1 rfl) ?_
  refine lv_iconst (v := (2 : Int32)) hx hb dX12_next_1 (by decide) ?_
  refine lv_isub hx hb dX12_next_2 ?_
  refine lv_nmi ho (fun x20 ho => ?_)
  refine lv_istore_n (lv' := [(2, .int x20), (0, .ref (am 68)), (1, .int a1)]) hx hb dX12_next_3 rfl hl (by decide) rfl (fun ls hl => ?_)
  obtain ⟨y21, hc23, ho⟩ := bd_some ho
  obtain ⟨ny21, hc23⟩ := lp_to hc23
  refine m_next_L4 C0 ?_ ny21 _ hc23 _ _ _ hW (lv_sub hl [1, 2, 0] rfl)
  intro H locs ls hW hl
  refine lv_iload_n hx hb dX12_next_31 rfl (lv_at hl 2 rfl) ?_
  refine lv_if_ge (tgt := 37) hx hb dX12_next_32 (by decide) (fun c24 => ?_) (fun c24 => ?_)
  · replace ho := ite_t c24 ho
    refine lv_iload_n hx hb dX12_next_37 rfl (lv_at hl 1 rfl) ?_
    refine lv_iconst (v := (1 : Int32)) hx hb dX12_next_38 (by decide) ?_
    refine lv_isub hx hb dX12_next_39 ?_
    refine lv_nmi ho (fun x25 ho => ?_)
    refine lv_istore_n (lv' := [(3, .int x25), (0, .ref (am 68)), (1, .int a1), (2, .int y21)]) hx hb dX12_next_40 rfl hl (by decide) rfl (fun ls hl => ?_)
    obtain ⟨y26, hc28, ho⟩ := bd_some ho
    obtain ⟨ny26, hc28⟩ := lp_to hc28
    refine m_next_L41 C0 ?_ ny26 _ hc28 _ _ _ hW (lv_sub hl [1, 2, 3, 0] rfl)
    intro H locs ls hW hl
    refine lv_aload_n hx hb dX12_next_62 rfl (lv_at hl 0 rfl) ?_
    refine mGET_63 C0 hW dX12_next_63 ?_
    refine lv_iload_n hx hb dX12_next_66 rfl (lv_at hl 2 rfl) ?_
    obtain ⟨g29, ho⟩ := gd_some ho
    refine mLD_63 C0 hW g29 dX12_next_67 ?_
    refine lv_nmi ho (fun x30 ho => ?_)
    refine lv_istore (lv' := [(4, .int x30), (0, .ref (am 68)), (1, .int a1), (2, .int y21), (3, .int y26)]) hx hb dX12_next_68 hl (by decide) rfl (fun ls hl => ?_)
    refine lv_aload_n hx hb dX12_next_70 rfl (lv_at hl 1 rfl) ?_
    refine mGET_63 C0 hW dX12_next_71 ?_
    refine lv_iload_n hx hb dX12_next_74 rfl (lv_at hl 3 rfl) ?_
    refine lv_aload_n hx hb dX12_next_75 rfl (lv_at hl 1 rfl) ?_
    refine mGET_63 C0 hW dX12_next_76 ?_
    refine lv_iload_n hx hb dX12_next_79 rfl (lv_at hl 4 rfl) ?_
    obtain ⟨g31, ho⟩ := gd_some ho
    refine mLD_63 C0 hW g31 dX12_next_80 ?_
    obtain ⟨g32, ho⟩ := gd_some ho
    refine mST_63 C0 hW g32 dX12_next_81 (fun H locs hW => ?_)
    obtain ⟨t33, ho, hW⟩ := nm_w (P := fun t => wl D A s (wM cI cJ cZ am t) H locs) ho hW
    refine lv_aload_n hx hb dX12_next_82 rfl (lv_at hl 1 rfl) ?_
    refine mGET_63 C0 hW dX12_next_83 ?_
    refine lv_iload_n hx hb dX12_next_86 rfl (lv_at hl 4 rfl) ?_
    refine lv_iload hx hb dX12_next_87 (lv_at hl 0 rfl) ?_
    obtain ⟨g34, ho⟩ := gd_some ho
    refine mST_63 C0 hW g34 dX12_next_89 (fun H locs hW => ?_)
    obtain ⟨t35, ho, hW⟩ := nm_w (P := fun t => wl D A s (wM cI cJ cZ am t) H locs) ho hW
    refine lv_iload_n hx hb dX12_next_90 rfl (lv_at hl 3 rfl) ?_
    refine lv_iconst (v := (1 : Int32)) hx hb dX12_next_91 (by decide) ?_
    refine lv_iadd hx hb dX12_next_92 ?_
    refine lv_nmi ho (fun x36 ho => ?_)
    refine lv_istore (lv' := [(5, .int x36), (4, .int x30), (0, .ref (am 68)), (1, .int a1), (2, .int y21), (3, .int y26)]) hx hb dX12_next_93 hl (by decide) rfl (fun ls hl => ?_)
    refine lv_iload_n hx hb dX12_next_95 rfl (lv_at hl 3 rfl) ?_
    refine lv_iconst (v := (1 : Int32)) hx hb dX12_next_96 (by decide) ?_
    refine lv_isub hx hb dX12_next_97 ?_
    refine lv_nmi ho (fun x37 ho => ?_)
    refine lv_istore (lv' := [(6, .int x37), (5, .int x36), (4, .int x30), (0, .ref (am 68)), (1, .int a1), (2, .int y21), (3, .int y26)]) hx hb dX12_next_98 hl (by decide) rfl (fun ls hl => ?_)
    obtain ⟨y38, hc40, ho⟩ := bd_some ho
    obtain ⟨ny38, hc40⟩ := lp_to hc40
    refine m_next_L100 C0 ?_ ny38 _ _ _ hc40 _ _ _ hW (lv_sub hl [3, 1, 0] rfl)
    intro H locs ls hW hl
    refine lv_iconst (v := (1 : Int32)) hx hb dX12_next_148 (by decide) ?_
    cases ho
    exact rtZ C0 hW (Or.inr (rfl : (1 : Int32) = 1)) dX12_next_149
  · replace ho := ite_f c24 ho
    refine lv_iconst (v := (0 : Int32)) hx hb dX12_next_35 (by decide) ?_
    cases ho
    exact rtZ C0 hW (Or.inl (rfl : (0 : Int32) = 0)) dX12_next_36
noncomputable def m_findOrder_B159 (v2 : Int32) (v3 : Int32) (v6 : Int32) (t : St) : Option ((Int32 × St) ⊕ (St)) :=
  if v3 ≤ v6 then (some (.inr t)) else (gd v6 7 (gd (gA t 63 (v6).toNatClampNeg) 16 (gd v6 7 (nm (sA t 64 v6 (gA t 44 ((gA t 63 (v6).toNatClampNeg)).toNatClampNeg)) (fun t5 : St => nm (v6 + (1 : Int32)) (fun x6 : Int32 => some (.inl (x6, t5))))))))
noncomputable def m_findOrder_J83 (t : St) (v1 : Int32) (v2 : Int32) (v3 : Int32) (v4 : Int32) (v5 : Int32) (w1 : Int32) (w2 : Int32) : Option ((Int32 × St) ⊕ (St)) :=
  gd w1 4207 (nm (sA t 62 w1 w2) (fun t8 : St => nm (v5 + (1 : Int32)) (fun x9 : Int32 => some (.inl (x9, t8)))))
noncomputable def m_findOrder_B33 (v1 : Int32) (v2 : Int32) (v3 : Int32) (v4 : Int32) (v5 : Int32) (t : St) : Option ((Int32 × St) ⊕ (St)) :=
  if (600 : Int32) < v5 then (some (.inr t)) else ((m_beginsAt t v4 v5).bind (fun q11 => if q11 = (-1 : Int32) then (m_findOrder_J83 t v1 v2 v3 v4 v5 (((601 : Int32) * v3) + v5) (-1 : Int32)) else (gd v4 16 (m_findOrder_J83 t v1 v2 v3 v4 v5 (((601 : Int32) * v3) + v5) (q11 + (gA t 1 (v4).toNatClampNeg))))))
noncomputable def m_findOrder_J190 (t : St) (v2 : Int32) (v3 : Int32) : Option ((Int32 × St) ⊕ (St)) :=
  (m_next t v3).bind (fun q15 => some (.inl (q15.1, q15.2)))
noncomputable def m_findOrder_J150 (t : St) (v2 : Int32) (v3 : Int32) (v5 : Int32) : Option ((Int32 × St) ⊕ (St)) :=
  nm (sI t 65 v5) (fun t18 : St => (lp (fun x => m_findOrder_B159 v2 v3 x.1 x.2) ((0 : Int32), t18)).bind (fun y19 => m_findOrder_J190 y19 v2 v3))
noncomputable def m_findOrder_B114 (v2 : Int32) (v3 : Int32) (v4 : Int32) (t : St) : Option ((Int32 × St) ⊕ (St)) :=
  if v4 = 0 then (some (.inr t)) else ((m_endOf t v3 v2).bind (fun q23 => if q23 = (-1 : Int32) then (m_findOrder_J190 t v2 v3) else (if (gI t 65) = (-1 : Int32) then (m_findOrder_J150 t v2 v3 q23) else (if (gI t 65) ≤ q23 then (m_findOrder_J190 t v2 v3) else (m_findOrder_J150 t v2 v3 q23)))))
noncomputable def m_findOrder_B5 (v1 : Int32) (v2 : Int32) (v3 : Int32) (v4 : Int32) (t : St) : Option ((Int32 × Int32 × St) ⊕ (Int32 × St)) :=
  if (16 : Int32) ≤ v4 then (some (.inr (v3, t))) else (if ((v1 >>> (v4 &&& 31)) &&& (1 : Int32)) = (1 : Int32) then (gd v3 16 (nm (sA t 44 v3 v4) (fun t32 : St => (lp (fun x => m_findOrder_B33 v1 v2 v3 v4 x.1 x.2) (v2, t32)).bind (fun y33 => gd v3 7 (nm (sA y33 63 v3 v3) (fun t37 : St => nm (v3 + (1 : Int32)) (fun x38 : Int32 => nm (v4 + (1 : Int32)) (fun x39 : Int32 => some (.inl (x38, x39, t37)))))))))) else (nm (v4 + (1 : Int32)) (fun x30 : Int32 => some (.inl (v3, x30, t)))))
noncomputable def m_findOrder (t : St) (a1 : Int32) (a2 : Int32) : Option (St) :=
  (lp (fun x => m_findOrder_B5 a1 a2 x.1 x.2.1 x.2.2) ((0 : Int32), (0 : Int32), t)).bind (fun y40 => nm (sI y40.2 65 (-1 : Int32)) (fun t43 : St => (lp (fun x => m_findOrder_B114 a2 y40.1 x.1 x.2) ((1 : Int32), t43)).bind (fun y44 => some y44)))
set_option maxHeartbeats 4000000 in
set_option maxRecDepth 100000 in
theorem m_findOrder_L159 {p : Program} {l : Launch} {e : Env} {s : State} {m : MethodId} {args : Array Value} {below : List Frame} {meth : Method} {c : Code} {Q : State → Prop} {D : va_G} {cI cJ cZ : ClassId} {am : Nat → Nat} {A : Nat → Prop} (C0 : cx p s m args meth c cX12_findOrder RX12 7 none D (tyM cI cJ cZ) A) {v2 : Int32} {v3 : Int32} {y : St} (hK0 : ∀ (H : Heap) (locs : List Loc) (ls : Array Slot), wl D A s (wM cI cJ cZ am y) H locs → lv_has ls 7 [(0, .ref (am 68)), (2, .int v2), (3, .int v3)] → W p l e (rmN 2 48) s m args below meth c H locs 0 0 Q (F0 m 190 ls [])) :
    ∀ (n : Nat) (v6 : Int32) (t : St), lpn (fun x => m_findOrder_B159 v2 v3 x.1 x.2) n (v6, t) = some y → ∀ (H : Heap) (locs : List Loc) (ls : Array Slot), wl D A s (wM cI cJ cZ am t) H locs → lv_has ls 7 [(0, .ref (am 68)), (2, .int v2), (3, .int v3), (6, .int v6)] → W p l e (rmN 2 48) s m args below meth c H locs 0 0 Q (F0 m 159 ls []) := by
  have hx := C0.1
  have hb := C0.2.1
  have hta := C0.2.2.2.2.2.1
  have hown := C0.2.2.2.2.1
  intro n
  induction n with
  | zero => intro _ _ h; cases h
  | succ n ih =>
    intro v6 t hrun H locs ls hW hl
    obtain ⟨o, ho, hrun⟩ := bd_some hrun
    unfold m_findOrder_B159 at ho
    refine lv_iload hx hb dX12_findOrder_159 (lv_at hl 3 rfl) ?_
    refine lv_iload_n hx hb dX12_findOrder_161 rfl (lv_at hl 2 rfl) ?_
    refine lv_icmp_ge (tgt := 190) hx hb dX12_findOrder_162 (by decide) (fun c1 => ?_) (fun c1 => ?_)
    · replace ho := ite_t c1 ho
      cases ho
      cases hrun
      exact hK0 _ _ _ hW (lv_sub hl [0, 1, 2] rfl)
    · replace ho := ite_f c1 ho
      refine lv_aload_n hx hb dX12_findOrder_165 rfl (lv_at hl 0 rfl) ?_
      refine mGET_64 C0 hW dX12_findOrder_166 ?_
      refine lv_iload hx hb dX12_findOrder_169 (lv_at hl 3 rfl) ?_
      refine lv_aload_n hx hb dX12_findOrder_171 rfl (lv_at hl 0 rfl) ?_
      refine mGET_44 C0 hW dX12_findOrder_172 ?_
      refine lv_aload_n hx hb dX12_findOrder_175 rfl (lv_at hl 0 rfl) ?_
      refine mGET_63 C0 hW dX12_findOrder_176 ?_
      refine lv_iload hx hb dX12_findOrder_179 (lv_at hl 3 rfl) ?_
      obtain ⟨g2, ho⟩ := gd_some ho
      refine mLD_63 C0 hW g2 dX12_findOrder_181 ?_
      obtain ⟨g3, ho⟩ := gd_some ho
      refine mLD_44 C0 hW g3 dX12_findOrder_182 ?_
      obtain ⟨g4, ho⟩ := gd_some ho
      refine mST_64 C0 hW g4 dX12_findOrder_183 (fun H locs hW => ?_)
      obtain ⟨t5, ho, hW⟩ := nm_w (P := fun t => wl D A s (wM cI cJ cZ am t) H locs) ho hW
      obtain ⟨x6, ex6, ho⟩ := nm_x ho
      refine lv_iinc (v := x6) (lv' := [(6, .int x6), (0, .ref (am 68)), (2, .int v2), (3, .int v3)]) hx hb dX12_findOrder_184 hl (k := 3) rfl (by rw [ex6]; rfl) (by decide) rfl (fun ls hl => ?_)
      clear ex6
      refine lv_goto (tgt := 159) hx hb dX12_findOrder_187 (by decide) ?_
      cases ho
      exact ih _ _ hrun _ _ _ hW (lv_sub hl [1, 2, 3, 0] rfl)
set_option maxHeartbeats 4000000 in
set_option maxRecDepth 100000 in
theorem m_findOrder_L33 {p : Program} {l : Launch} {e : Env} {s : State} {m : MethodId} {args : Array Value} {below : List Frame} {meth : Method} {c : Code} {Q : State → Prop} {D : va_G} {cI cJ cZ : ClassId} {am : Nat → Nat} {A : Nat → Prop} (C0 : cx p s m args meth c cX12_findOrder RX12 7 none D (tyM cI cJ cZ) A) {v1 : Int32} {v2 : Int32} {v3 : Int32} {v4 : Int32} {y : St} (hK0 : ∀ (H : Heap) (locs : List Loc) (ls : Array Slot), wl D A s (wM cI cJ cZ am y) H locs → lv_has ls 7 [(0, .ref (am 68)), (1, .int v1), (2, .int v2), (3, .int v3), (4, .int v4)] → W p l e (rmN 2 48) s m args below meth c H locs 0 0 Q (F0 m 90 ls [])) :
    ∀ (n : Nat) (v5 : Int32) (t : St), lpn (fun x => m_findOrder_B33 v1 v2 v3 v4 x.1 x.2) n (v5, t) = some y → ∀ (H : Heap) (locs : List Loc) (ls : Array Slot), wl D A s (wM cI cJ cZ am t) H locs → lv_has ls 7 [(0, .ref (am 68)), (1, .int v1), (2, .int v2), (3, .int v3), (4, .int v4), (5, .int v5)] → W p l e (rmN 2 48) s m args below meth c H locs 0 0 Q (F0 m 33 ls []) := by
  have hx := C0.1
  have hb := C0.2.1
  have hta := C0.2.2.2.2.2.1
  have hown := C0.2.2.2.2.1
  intro n
  induction n with
  | zero => intro _ _ h; cases h
  | succ n ih =>
    intro v5 t hrun H locs ls hW hl
    obtain ⟨o, ho, hrun⟩ := bd_some hrun
    have J83 : ∀ (t : St) (v5 : Int32) (w1 : Int32) (w2 : Int32) (_ : m_findOrder_J83 t v1 v2 v3 v4 v5 w1 w2 = some o) (H : Heap) (locs : List Loc) (ls : Array Slot), wl D A s (wM cI cJ cZ am t) H locs → lv_has ls 7 [(0, .ref (am 68)), (1, .int v1), (2, .int v2), (3, .int v3), (4, .int v4), (5, .int v5)] → W p l e (rmN 2 48) s m args below meth c H locs 0 0 Q (F0 m 83 ls [.int w2, .int w1, .ref (am 62)]) := by
      intro t v5 w1 w2 ho H locs ls hW hl
      unfold m_findOrder_J83 at ho
      obtain ⟨g7, ho⟩ := gd_some ho
      refine mST_62 C0 hW g7 dX12_findOrder_83 (fun H locs hW => ?_)
      obtain ⟨t8, ho, hW⟩ := nm_w (P := fun t => wl D A s (wM cI cJ cZ am t) H locs) ho hW
      obtain ⟨x9, ex9, ho⟩ := nm_x ho
      refine lv_iinc (v := x9) (lv' := [(5, .int x9), (0, .ref (am 68)), (1, .int v1), (2, .int v2), (3, .int v3), (4, .int v4)]) hx hb dX12_findOrder_84 hl (k := 5) rfl (by rw [ex9]; rfl) (by decide) rfl (fun ls hl => ?_)
      clear ex9
      refine lv_goto (tgt := 33) hx hb dX12_findOrder_87 (by decide) ?_
      cases ho
      exact ih _ _ hrun _ _ _ hW (lv_sub hl [1, 2, 3, 4, 5, 0] rfl)
    unfold m_findOrder_B33 at ho
    refine lv_iload hx hb dX12_findOrder_33 (lv_at hl 5 rfl) ?_
    refine lv_sipush (v := (600 : Int32)) hx hb dX12_findOrder_35 (by decide) ?_
    refine lv_icmp_gt (tgt := 90) hx hb dX12_findOrder_38 (by decide) (fun c10 => ?_) (fun c10 => ?_)
    · replace ho := ite_t c10 ho
      cases ho
      cases hrun
      exact hK0 _ _ _ hW (lv_sub hl [0, 1, 2, 3, 4] rfl)
    · replace ho := ite_f c10 ho
      refine lv_aload_n hx hb dX12_findOrder_41 rfl (lv_at hl 0 rfl) ?_
      refine lv_iload hx hb dX12_findOrder_42 (lv_at hl 4 rfl) ?_
      refine lv_iload hx hb dX12_findOrder_44 (lv_at hl 5 rfl) ?_
      obtain ⟨q11, hc12, ho⟩ := bd_some ho
      refine bkI C0 hW (runV (As := [.int v4, .int v5]) (rest := []) C0 hW (c_m_beginsAt l _ t v4 v5 (r := q11) hc12) ca_X12_beginsAt_463 0 12 rfl rfl rfl rfl rfl ⟨rfl, rfl⟩ ⟨Nat.le_of_ble_eq_true rfl, Nat.le_of_ble_eq_true rfl⟩ (Nat.le_of_ble_eq_true rfl) hl.1 dX12_findOrder_46 ⟨Nat.le_of_ble_eq_true rfl, Nat.le_of_ble_eq_true rfl⟩) (fun H locs hW => ?_)
      refine lv_istore (lv' := [(6, .int q11), (0, .ref (am 68)), (1, .int v1), (2, .int v2), (3, .int v3), (4, .int v4), (5, .int v5)]) hx hb dX12_findOrder_49 hl (by decide) rfl (fun ls hl => ?_)
      refine lv_aload_n hx hb dX12_findOrder_51 rfl (lv_at hl 1 rfl) ?_
      refine mGET_62 C0 hW dX12_findOrder_52 ?_
      refine lv_sipush (v := (601 : Int32)) hx hb dX12_findOrder_55 (by decide) ?_
      refine lv_iload_n hx hb dX12_findOrder_58 rfl (lv_at hl 4 rfl) ?_
      refine lv_imul hx hb dX12_findOrder_59 ?_
      refine lv_iload hx hb dX12_findOrder_60 (lv_at hl 6 rfl) ?_
      refine lv_iadd hx hb dX12_findOrder_62 ?_
      refine lv_iload hx hb dX12_findOrder_63 (lv_at hl 0 rfl) ?_
      refine lv_iconst (v := (-1 : Int32)) hx hb dX12_findOrder_65 (by decide) ?_
      refine lv_icmp_ne (tgt := 73) hx hb dX12_findOrder_66 (by decide) (fun c13 => ?_) (fun c13 => ?_)
      · replace ho := ite_f c13 ho
        refine lv_iload hx hb dX12_findOrder_73 (lv_at hl 0 rfl) ?_
        refine lv_aload_n hx hb dX12_findOrder_75 rfl (lv_at hl 1 rfl) ?_
        refine mGET_1 C0 hW dX12_findOrder_76 ?_
        refine lv_iload hx hb dX12_findOrder_79 (lv_at hl 5 rfl) ?_
        obtain ⟨g14, ho⟩ := gd_some ho
        refine mLD_1 C0 hW g14 dX12_findOrder_81 ?_
        refine lv_iadd hx hb dX12_findOrder_82 ?_
        exact J83 _ _ _ _ ho _ _ _ hW (lv_sub hl [1, 2, 3, 4, 5, 6] rfl)
      · replace ho := ite_t c13 ho
        refine lv_iconst (v := (-1 : Int32)) hx hb dX12_findOrder_69 (by decide) ?_
        refine lv_goto (tgt := 83) hx hb dX12_findOrder_70 (by decide) ?_
        exact J83 _ _ _ _ ho _ _ _ hW (lv_sub hl [1, 2, 3, 4, 5, 6] rfl)
set_option maxHeartbeats 4000000 in
set_option maxRecDepth 100000 in
theorem m_findOrder_L114 {p : Program} {l : Launch} {e : Env} {s : State} {m : MethodId} {args : Array Value} {below : List Frame} {meth : Method} {c : Code} {Q : State → Prop} {D : va_G} {cI cJ cZ : ClassId} {am : Nat → Nat} {A : Nat → Prop} (C0 : cx p s m args meth c cX12_findOrder RX12 7 none D (tyM cI cJ cZ) A) {v2 : Int32} {v3 : Int32} {y : St} (hK0 : ∀ (H : Heap) (locs : List Loc) (ls : Array Slot), wl D A s (wM cI cJ cZ am y) H locs → lv_has ls 7 [(0, .ref (am 68))] → W p l e (rmN 2 48) s m args below meth c H locs 0 0 Q (F0 m 200 ls [])) :
    ∀ (n : Nat) (v4 : Int32) (t : St), lpn (fun x => m_findOrder_B114 v2 v3 x.1 x.2) n (v4, t) = some y → ∀ (H : Heap) (locs : List Loc) (ls : Array Slot), wl D A s (wM cI cJ cZ am t) H locs → lv_has ls 7 [(0, .ref (am 68)), (2, .int v2), (3, .int v3), (4, .int v4)] → W p l e (rmN 2 48) s m args below meth c H locs 0 0 Q (F0 m 114 ls []) := by
  have hx := C0.1
  have hb := C0.2.1
  have hta := C0.2.2.2.2.2.1
  have hown := C0.2.2.2.2.1
  intro n
  induction n with
  | zero => intro _ _ h; cases h
  | succ n ih =>
    intro v4 t hrun H locs ls hW hl
    obtain ⟨o, ho, hrun⟩ := bd_some hrun
    have J190 : ∀ (t : St) (_ : m_findOrder_J190 t v2 v3 = some o) (H : Heap) (locs : List Loc) (ls : Array Slot), wl D A s (wM cI cJ cZ am t) H locs → lv_has ls 7 [(0, .ref (am 68)), (2, .int v2), (3, .int v3)] → W p l e (rmN 2 48) s m args below meth c H locs 0 0 Q (F0 m 190 ls []) := by
      intro t ho H locs ls hW hl
      unfold m_findOrder_J190 at ho
      refine lv_aload_n hx hb dX12_findOrder_190 rfl (lv_at hl 0 rfl) ?_
      refine lv_iload_n hx hb dX12_findOrder_191 rfl (lv_at hl 2 rfl) ?_
      obtain ⟨q15, hc16, ho⟩ := bd_some ho
      refine bkZ C0 hW (runV (As := [.int v3]) (rest := []) C0 hW (c_m_next l _ t v3 (r := q15.1) (t' := q15.2) hc16) ca_X12_next_472 0 12 rfl rfl rfl rfl rfl ⟨rfl, rfl⟩ ⟨Nat.le_of_ble_eq_true rfl, Nat.le_of_ble_eq_true rfl⟩ (Nat.le_of_ble_eq_true rfl) hl.1 dX12_findOrder_192 ⟨Nat.le_of_ble_eq_true rfl, Nat.le_of_ble_eq_true rfl⟩) (fun z17 H locs hW => ?_)
      refine lv_istore (lv' := [(4, .int q15.1), (0, .ref (am 68)), (2, .int v2), (3, .int v3)]) hx hb dX12_findOrder_195 hl (by decide) rfl (fun ls hl => ?_)
      refine lv_goto (tgt := 114) hx hb dX12_findOrder_197 (by decide) ?_
      cases ho
      exact ih _ _ hrun _ _ _ hW (lv_sub hl [1, 2, 3, 0] rfl)
    have J150 : ∀ (t : St) (v5 : Int32) (_ : m_findOrder_J150 t v2 v3 v5 = some o) (H : Heap) (locs : List Loc) (ls : Array Slot), wl D A s (wM cI cJ cZ am t) H locs → lv_has ls 7 [(0, .ref (am 68)), (2, .int v2), (3, .int v3), (5, .int v5)] → W p l e (rmN 2 48) s m args below meth c H locs 0 0 Q (F0 m 150 ls []) := by
      intro t v5 ho H locs ls hW hl
      unfold m_findOrder_J150 at ho
      refine lv_aload_n hx hb dX12_findOrder_150 rfl (lv_at hl 0 rfl) ?_
      refine lv_iload hx hb dX12_findOrder_151 (lv_at hl 3 rfl) ?_
      refine mPUT_65 C0 hW dX12_findOrder_153 (fun H locs hW => ?_)
      obtain ⟨t18, ho, hW⟩ := nm_w (P := fun t => wl D A s (wM cI cJ cZ am t) H locs) ho hW
      refine lv_iconst (v := (0 : Int32)) hx hb dX12_findOrder_156 (by decide) ?_
      refine lv_istore (lv' := [(6, .int (0 : Int32)), (0, .ref (am 68)), (2, .int v2), (3, .int v3), (5, .int v5)]) hx hb dX12_findOrder_157 hl (by decide) rfl (fun ls hl => ?_)
      obtain ⟨y19, hc21, ho⟩ := bd_some ho
      obtain ⟨ny19, hc21⟩ := lp_to hc21
      refine m_findOrder_L159 C0 ?_ ny19 _ _ hc21 _ _ _ hW (lv_sub hl [1, 2, 3, 0] rfl)
      intro H locs ls hW hl
      exact J190 _ ho _ _ _ hW (lv_sub hl [0, 1, 2] rfl)
    unfold m_findOrder_B114 at ho
    refine lv_iload hx hb dX12_findOrder_114 (lv_at hl 3 rfl) ?_
    refine lv_if_eq (tgt := 200) hx hb dX12_findOrder_116 (by decide) (fun c22 => ?_) (fun c22 => ?_)
    · replace ho := ite_t c22 ho
      cases ho
      cases hrun
      exact hK0 _ _ _ hW (lv_sub hl [0] rfl)
    · replace ho := ite_f c22 ho
      refine lv_aload_n hx hb dX12_findOrder_119 rfl (lv_at hl 0 rfl) ?_
      refine lv_iload_n hx hb dX12_findOrder_120 rfl (lv_at hl 2 rfl) ?_
      refine lv_iload_n hx hb dX12_findOrder_121 rfl (lv_at hl 1 rfl) ?_
      obtain ⟨q23, hc24, ho⟩ := bd_some ho
      refine bkI C0 hW (runV (As := [.int v3, .int v2]) (rest := []) C0 hW (c_m_endOf l _ t v3 v2 (r := q23) hc24) ca_X12_endOf_469 0 12 rfl rfl rfl rfl rfl ⟨rfl, rfl⟩ ⟨Nat.le_of_ble_eq_true rfl, Nat.le_of_ble_eq_true rfl⟩ (Nat.le_of_ble_eq_true rfl) hl.1 dX12_findOrder_122 ⟨Nat.le_of_ble_eq_true rfl, Nat.le_of_ble_eq_true rfl⟩) (fun H locs hW => ?_)
      refine lv_istore (lv' := [(5, .int q23), (0, .ref (am 68)), (2, .int v2), (3, .int v3), (4, .int v4)]) hx hb dX12_findOrder_125 hl (by decide) rfl (fun ls hl => ?_)
      refine lv_iload hx hb dX12_findOrder_127 (lv_at hl 0 rfl) ?_
      refine lv_iconst (v := (-1 : Int32)) hx hb dX12_findOrder_129 (by decide) ?_
      refine lv_icmp_eq (tgt := 190) hx hb dX12_findOrder_130 (by decide) (fun c25 => ?_) (fun c25 => ?_)
      · replace ho := ite_t c25 ho
        exact J190 _ ho _ _ _ hW (lv_sub hl [1, 2, 3] rfl)
      · replace ho := ite_f c25 ho
        refine lv_aload_n hx hb dX12_findOrder_133 rfl (lv_at hl 1 rfl) ?_
        refine mGET_65 C0 hW dX12_findOrder_134 ?_
        refine lv_iconst (v := (-1 : Int32)) hx hb dX12_findOrder_137 (by decide) ?_
        refine lv_icmp_eq (tgt := 150) hx hb dX12_findOrder_138 (by decide) (fun c26 => ?_) (fun c26 => ?_)
        · replace ho := ite_t c26 ho
          exact J150 _ _ ho _ _ _ hW (lv_sub hl [1, 2, 3, 0] rfl)
        · replace ho := ite_f c26 ho
          refine lv_iload hx hb dX12_findOrder_141 (lv_at hl 0 rfl) ?_
          refine lv_aload_n hx hb dX12_findOrder_143 rfl (lv_at hl 1 rfl) ?_
          refine mGET_65 C0 hW dX12_findOrder_144 ?_
          refine lv_icmp_ge (tgt := 190) hx hb dX12_findOrder_147 (by decide) (fun c27 => ?_) (fun c27 => ?_)
          · replace ho := ite_t c27 ho
            exact J190 _ ho _ _ _ hW (lv_sub hl [1, 2, 3] rfl)
          · replace ho := ite_f c27 ho
            exact J150 _ _ ho _ _ _ hW (lv_sub hl [1, 2, 3, 0] rfl)
set_option maxHeartbeats 4000000 in
set_option maxRecDepth 100000 in
theorem m_findOrder_L5 {p : Program} {l : Launch} {e : Env} {s : State} {m : MethodId} {args : Array Value} {below : List Frame} {meth : Method} {c : Code} {Q : State → Prop} {D : va_G} {cI cJ cZ : ClassId} {am : Nat → Nat} {A : Nat → Prop} (C0 : cx p s m args meth c cX12_findOrder RX12 7 none D (tyM cI cJ cZ) A) {v1 : Int32} {v2 : Int32} {y : Int32 × St} (hK0 : ∀ (H : Heap) (locs : List Loc) (ls : Array Slot), wl D A s (wM cI cJ cZ am y.2) H locs → lv_has ls 7 [(0, .ref (am 68)), (2, .int v2), (3, .int y.1)] → W p l e (rmN 2 48) s m args below meth c H locs 0 0 Q (F0 m 106 ls [])) :
    ∀ (n : Nat) (v3 : Int32) (v4 : Int32) (t : St), lpn (fun x => m_findOrder_B5 v1 v2 x.1 x.2.1 x.2.2) n (v3, v4, t) = some y → ∀ (H : Heap) (locs : List Loc) (ls : Array Slot), wl D A s (wM cI cJ cZ am t) H locs → lv_has ls 7 [(0, .ref (am 68)), (1, .int v1), (2, .int v2), (3, .int v3), (4, .int v4)] → W p l e (rmN 2 48) s m args below meth c H locs 0 0 Q (F0 m 5 ls []) := by
  have hx := C0.1
  have hb := C0.2.1
  have hta := C0.2.2.2.2.2.1
  have hown := C0.2.2.2.2.1
  intro n
  induction n with
  | zero => intro _ _ _ h; cases h
  | succ n ih =>
    intro v3 v4 t hrun H locs ls hW hl
    obtain ⟨o, ho, hrun⟩ := bd_some hrun
    unfold m_findOrder_B5 at ho
    refine lv_iload hx hb dX12_findOrder_5 (lv_at hl 4 rfl) ?_
    refine lv_bipush (v := (16 : Int32)) hx hb dX12_findOrder_7 (by decide) ?_
    refine lv_icmp_ge (tgt := 106) hx hb dX12_findOrder_9 (by decide) (fun c28 => ?_) (fun c28 => ?_)
    · replace ho := ite_t c28 ho
      cases ho
      cases hrun
      exact hK0 _ _ _ hW (lv_sub hl [0, 2, 3] rfl)
    · replace ho := ite_f c28 ho
      refine lv_iload_n hx hb dX12_findOrder_12 rfl (lv_at hl 1 rfl) ?_
      refine lv_iload hx hb dX12_findOrder_13 (lv_at hl 4 rfl) ?_
      refine lv_ishr hx hb dX12_findOrder_15 ?_
      refine lv_iconst (v := (1 : Int32)) hx hb dX12_findOrder_16 (by decide) ?_
      refine lv_iand hx hb dX12_findOrder_17 ?_
      refine lv_iconst (v := (1 : Int32)) hx hb dX12_findOrder_18 (by decide) ?_
      refine lv_icmp_ne (tgt := 100) hx hb dX12_findOrder_19 (by decide) (fun c29 => ?_) (fun c29 => ?_)
      · replace ho := ite_f c29 ho
        obtain ⟨x30, ex30, ho⟩ := nm_x ho
        refine lv_iinc (v := x30) (lv' := [(4, .int x30), (0, .ref (am 68)), (1, .int v1), (2, .int v2), (3, .int v3)]) hx hb dX12_findOrder_100 hl (k := 4) rfl (by rw [ex30]; rfl) (by decide) rfl (fun ls hl => ?_)
        clear ex30
        refine lv_goto (tgt := 5) hx hb dX12_findOrder_103 (by decide) ?_
        cases ho
        exact ih _ _ _ hrun _ _ _ hW (lv_sub hl [1, 2, 3, 4, 0] rfl)
      · replace ho := ite_t c29 ho
        refine lv_aload_n hx hb dX12_findOrder_22 rfl (lv_at hl 0 rfl) ?_
        refine mGET_44 C0 hW dX12_findOrder_23 ?_
        refine lv_iload_n hx hb dX12_findOrder_26 rfl (lv_at hl 3 rfl) ?_
        refine lv_iload hx hb dX12_findOrder_27 (lv_at hl 4 rfl) ?_
        obtain ⟨g31, ho⟩ := gd_some ho
        refine mST_44 C0 hW g31 dX12_findOrder_29 (fun H locs hW => ?_)
        obtain ⟨t32, ho, hW⟩ := nm_w (P := fun t => wl D A s (wM cI cJ cZ am t) H locs) ho hW
        refine lv_iload_n hx hb dX12_findOrder_30 rfl (lv_at hl 2 rfl) ?_
        refine lv_istore (lv' := [(5, .int v2), (0, .ref (am 68)), (1, .int v1), (2, .int v2), (3, .int v3), (4, .int v4)]) hx hb dX12_findOrder_31 hl (by decide) rfl (fun ls hl => ?_)
        obtain ⟨y33, hc35, ho⟩ := bd_some ho
        obtain ⟨ny33, hc35⟩ := lp_to hc35
        refine m_findOrder_L33 C0 ?_ ny33 _ _ hc35 _ _ _ hW (lv_sub hl [1, 2, 3, 4, 5, 0] rfl)
        intro H locs ls hW hl
        refine lv_aload_n hx hb dX12_findOrder_90 rfl (lv_at hl 0 rfl) ?_
        refine mGET_63 C0 hW dX12_findOrder_91 ?_
        refine lv_iload_n hx hb dX12_findOrder_94 rfl (lv_at hl 3 rfl) ?_
        refine lv_iload_n hx hb dX12_findOrder_95 rfl (lv_at hl 3 rfl) ?_
        obtain ⟨g36, ho⟩ := gd_some ho
        refine mST_63 C0 hW g36 dX12_findOrder_96 (fun H locs hW => ?_)
        obtain ⟨t37, ho, hW⟩ := nm_w (P := fun t => wl D A s (wM cI cJ cZ am t) H locs) ho hW
        obtain ⟨x38, ex38, ho⟩ := nm_x ho
        refine lv_iinc (v := x38) (lv' := [(3, .int x38), (0, .ref (am 68)), (1, .int v1), (2, .int v2), (4, .int v4)]) hx hb dX12_findOrder_97 hl (k := 3) rfl (by rw [ex38]; rfl) (by decide) rfl (fun ls hl => ?_)
        clear ex38
        obtain ⟨x39, ex39, ho⟩ := nm_x ho
        refine lv_iinc (v := x39) (lv' := [(4, .int x39), (3, .int x38), (0, .ref (am 68)), (1, .int v1), (2, .int v2)]) hx hb dX12_findOrder_100 hl (k := 4) rfl (by rw [ex39]; rfl) (by decide) rfl (fun ls hl => ?_)
        clear ex39
        refine lv_goto (tgt := 5) hx hb dX12_findOrder_103 (by decide) ?_
        cases ho
        exact ih _ _ _ hrun _ _ _ hW (lv_sub hl [2, 3, 4, 1, 0] rfl)
set_option maxHeartbeats 4000000 in
set_option maxRecDepth 100000 in
theorem c_m_findOrder (l : Launch) {D : va_G} {cI cJ cZ : ClassId} {am : Nat → Nat} (sz : Nat) (t : St) (a1 : Int32) (a2 : Int32) {t' : St} (ho : m_findOrder t a1 a2 = some t') : Met l yX12_findOrder (.code yX12_findOrder cX12_findOrder 7 none :: wsAll) (rmN 2 48) (va_Pc [.ref (am 68), .int a1, .int a2] (prW D (tyM cI cJ cZ) (wM cI cJ cZ am t) sz)) (qV D (tyM cI cJ cZ) (wM cI cJ cZ am t') (va_A (wM cI cJ cZ am t) sz)) 0 0 (va_A (wM cI cJ cZ am t) sz) := by
  refine Met.ofW (cc := cX12_findOrder) (maxL := 7) (ret := none) (by decide) rfl ?_
  intro p e s m args below meth c s₁ B hml hv
  obtain ⟨rfl, hsz, hP, hK, hD0⟩ := hv
  have hx := B.exec
  have hb := B.bytes
  have hts := atoms_spec (ws := (.code yX12_findOrder cX12_findOrder 7 none :: wsAll)) B.pre
  have hta := fun w h => hts w (List.mem_cons_of_mem _ h)
  have hown : s.vm.findClass RX12 = some m.cls := findClass_of_methodNamed B.named
  have hlocks := B.notSynchronized
  subst hsz
  have hD := hD0.self (sz := s.heap.size)
  generalize hAe : va_A (wM cI cJ cZ am t) s.heap.size = A at hD ⊢
  have hA : ∀ q : Nat, s.heap.size ≤ q → A q := fun q h => by rw [← hAe]; exact Or.inr h
  have C0 : cx p s m ([.ref (am 68), .int a1, .int a2].toArray) meth c cX12_findOrder RX12 7 none D (tyM cI cJ cZ) A := ⟨hx, hb, B.returns, hml, hown, hta, hlocks, hK, hA⟩
  have hW : wl D A s (wM cI cJ cZ am t) s.heap [] := ⟨hP, hD, va_S.rf⟩
  have hl := lv_entry [.ref (am 68), .int a1, .int a2] (n := 7) (Nat.le_of_ble_eq_true rfl)
  rw [lg_entry_eq]
  generalize (lg_sl [.ref (am 68), .int a1, .int a2] ++ List.replicate (7 - (lg_sl [.ref (am 68), .int a1, .int a2]).length) Slot.unset).toArray = ls at hl ⊢
  have hl : lv_has ls 7 [(0, .ref (am 68)), (1, .int a1), (2, .int a2)] := hl
  unfold m_findOrder at ho
  refine lv_iconst (v := (0 : Int32)) hx hb dX12_findOrder_0 (by decide) ?_
  refine lv_istore_n (lv' := [(3, .int (0 : Int32)), (0, .ref (am 68)), (1, .int a1), (2, .int a2)]) hx hb dX12_findOrder_1 rfl hl (by decide) rfl (fun ls hl => ?_)
  refine lv_iconst (v := (0 : Int32)) hx hb dX12_findOrder_2 (by decide) ?_
  refine lv_istore (lv' := [(4, .int (0 : Int32)), (3, .int (0 : Int32)), (0, .ref (am 68)), (1, .int a1), (2, .int a2)]) hx hb dX12_findOrder_3 hl (by decide) rfl (fun ls hl => ?_)
  obtain ⟨y40, hc42, ho⟩ := bd_some ho
  obtain ⟨ny40, hc42⟩ := lp_to hc42
  refine m_findOrder_L5 C0 ?_ ny40 _ _ _ hc42 _ _ _ hW (lv_sub hl [2, 3, 4, 1, 0] rfl)
  intro H locs ls hW hl
  refine lv_aload_n hx hb dX12_findOrder_106 rfl (lv_at hl 0 rfl) ?_
  refine lv_iconst (v := (-1 : Int32)) hx hb dX12_findOrder_107 (by decide) ?_
  refine mPUT_65 C0 hW dX12_findOrder_108 (fun H locs hW => ?_)
  obtain ⟨t43, ho, hW⟩ := nm_w (P := fun t => wl D A s (wM cI cJ cZ am t) H locs) ho hW
  refine lv_iconst (v := (1 : Int32)) hx hb dX12_findOrder_111 (by decide) ?_
  refine lv_istore (lv' := [(4, .int (1 : Int32)), (0, .ref (am 68)), (2, .int a2), (3, .int y40.1)]) hx hb dX12_findOrder_112 hl (by decide) rfl (fun ls hl => ?_)
  obtain ⟨y44, hc46, ho⟩ := bd_some ho
  obtain ⟨ny44, hc46⟩ := lp_to hc46
  refine m_findOrder_L114 C0 ?_ ny44 _ _ hc46 _ _ _ hW (lv_sub hl [1, 2, 3, 0] rfl)
  intro H locs ls hW hl
  cases ho
  exact rtV C0 hW dX12_findOrder_200
noncomputable def m_whyOrder (t : St) (a0 : Int32) (a1 : Int32) (a2 : Int32) : Option (Int32) :=
  (m_isSet t a0).bind (fun q1 => if q1 = 0 then (some (-2 : Int32)) else ((m_in t a1 (0 : Int32) (600 : Int32)).bind (fun q5 => if q5 = 0 then (some (-2 : Int32)) else (if a2 = 0 then (some (-2 : Int32)) else ((m_sizeOf t a0).bind (fun q10 => if q10 ≤ (7 : Int32) then (some (1 : Int32)) else (some (-3 : Int32))))))))
set_option maxHeartbeats 4000000 in
set_option maxRecDepth 100000 in
theorem c_m_whyOrder (l : Launch) {D : va_G} {cI cJ cZ : ClassId} {am : Nat → Nat} (sz : Nat) (t : St) (a0 : Int32) (a1 : Int32) (a2 : Int32) {r : Int32} (ho : m_whyOrder t a0 a1 a2 = some r) : Met l yX12_whyOrder (.code yX12_whyOrder cX12_whyOrder 3 (some .int) :: wsAll) (rmN 2 42) (va_Pc [.int a0, .int a1, .int a2] (prW D (tyM cI cJ cZ) (wM cI cJ cZ am t) sz)) (qI r D (tyM cI cJ cZ) (wM cI cJ cZ am t) (va_A (wM cI cJ cZ am t) sz)) 0 0 (va_A (wM cI cJ cZ am t) sz) := by
  refine Met.ofW (cc := cX12_whyOrder) (maxL := 3) (ret := (some .int)) (by decide) rfl ?_
  intro p e s m args below meth c s₁ B hml hv
  obtain ⟨rfl, hsz, hP, hK, hD0⟩ := hv
  have hx := B.exec
  have hb := B.bytes
  have hts := atoms_spec (ws := (.code yX12_whyOrder cX12_whyOrder 3 (some .int) :: wsAll)) B.pre
  have hta := fun w h => hts w (List.mem_cons_of_mem _ h)
  have hown : s.vm.findClass RX12 = some m.cls := findClass_of_methodNamed B.named
  have hlocks := B.notSynchronized
  subst hsz
  have hD := hD0.self (sz := s.heap.size)
  generalize hAe : va_A (wM cI cJ cZ am t) s.heap.size = A at hD ⊢
  have hA : ∀ q : Nat, s.heap.size ≤ q → A q := fun q h => by rw [← hAe]; exact Or.inr h
  have C0 : cx p s m ([.int a0, .int a1, .int a2].toArray) meth c cX12_whyOrder RX12 3 (some .int) D (tyM cI cJ cZ) A := ⟨hx, hb, B.returns, hml, hown, hta, hlocks, hK, hA⟩
  have hW : wl D A s (wM cI cJ cZ am t) s.heap [] := ⟨hP, hD, va_S.rf⟩
  have hl := lv_entry [.int a0, .int a1, .int a2] (n := 3) (Nat.le_of_ble_eq_true rfl)
  rw [lg_entry_eq]
  generalize (lg_sl [.int a0, .int a1, .int a2] ++ List.replicate (3 - (lg_sl [.int a0, .int a1, .int a2]).length) Slot.unset).toArray = ls at hl ⊢
  have hl : lv_has ls 3 [(0, .int a0), (1, .int a1), (2, .int a2)] := hl
  unfold m_whyOrder at ho
  refine lv_iload_n hx hb dX12_whyOrder_0 rfl (lv_at hl 0 rfl) ?_
  obtain ⟨q1, hc2, ho⟩ := bd_some ho
  refine bkZ C0 hW (runS (As := [.int a0]) (rest := []) C0 hW (c_m_isSet l _ t a0 (r := q1) hc2) ca_X12_isSet_279 rfl rfl ⟨rfl, rfl⟩ ⟨Nat.le_of_ble_eq_true rfl, Nat.le_of_ble_eq_true rfl⟩ (Nat.le_of_ble_eq_true rfl) hl.1 dX12_whyOrder_1 ⟨Nat.le_of_ble_eq_true rfl, Nat.le_of_ble_eq_true rfl⟩) (fun z3 H locs hW => ?_)
  refine lv_if_eq (tgt := 22) hx hb dX12_whyOrder_4 (by decide) (fun c4 => ?_) (fun c4 => ?_)
  · replace ho := ite_t c4 ho
    refine lv_bipush (v := (-2 : Int32)) hx hb dX12_whyOrder_22 (by decide) ?_
    refine lv_goto (tgt := 42) hx hb dX12_whyOrder_24 (by decide) ?_
    cases ho
    exact rtI C0 hW dX12_whyOrder_42
  · replace ho := ite_f c4 ho
    refine lv_iload_n hx hb dX12_whyOrder_7 rfl (lv_at hl 1 rfl) ?_
    refine lv_iconst (v := (0 : Int32)) hx hb dX12_whyOrder_8 (by decide) ?_
    refine lv_sipush (v := (600 : Int32)) hx hb dX12_whyOrder_9 (by decide) ?_
    obtain ⟨q5, hc6, ho⟩ := bd_some ho
    refine bkZ C0 hW (runS (As := [.int a1, .int (0 : Int32), .int (600 : Int32)]) (rest := []) C0 hW (c_m_in l _ t a1 (0 : Int32) (600 : Int32) (r := q5) hc6) ca_X12_in_179 rfl rfl ⟨rfl, rfl⟩ ⟨Nat.le_of_ble_eq_true rfl, Nat.le_of_ble_eq_true rfl⟩ (Nat.le_of_ble_eq_true rfl) hl.1 dX12_whyOrder_12 ⟨Nat.le_of_ble_eq_true rfl, Nat.le_of_ble_eq_true rfl⟩) (fun z7 H locs hW => ?_)
    refine lv_if_eq (tgt := 22) hx hb dX12_whyOrder_15 (by decide) (fun c8 => ?_) (fun c8 => ?_)
    · replace ho := ite_t c8 ho
      refine lv_bipush (v := (-2 : Int32)) hx hb dX12_whyOrder_22 (by decide) ?_
      refine lv_goto (tgt := 42) hx hb dX12_whyOrder_24 (by decide) ?_
      cases ho
      exact rtI C0 hW dX12_whyOrder_42
    · replace ho := ite_f c8 ho
      refine lv_iload_n hx hb dX12_whyOrder_18 rfl (lv_at hl 2 rfl) ?_
      refine lv_if_ne (tgt := 27) hx hb dX12_whyOrder_19 (by decide) (fun c9 => ?_) (fun c9 => ?_)
      · replace ho := ite_f c9 ho
        refine lv_iload_n hx hb dX12_whyOrder_27 rfl (lv_at hl 0 rfl) ?_
        obtain ⟨q10, hc11, ho⟩ := bd_some ho
        refine bkI C0 hW (runS (As := [.int a0]) (rest := []) C0 hW (c_m_sizeOf l _ t a0 (r := q10) hc11) ca_X12_sizeOf_295 rfl rfl ⟨rfl, rfl⟩ ⟨Nat.le_of_ble_eq_true rfl, Nat.le_of_ble_eq_true rfl⟩ (Nat.le_of_ble_eq_true rfl) hl.1 dX12_whyOrder_28 ⟨Nat.le_of_ble_eq_true rfl, Nat.le_of_ble_eq_true rfl⟩) (fun H locs hW => ?_)
        refine lv_bipush (v := (7 : Int32)) hx hb dX12_whyOrder_31 (by decide) ?_
        refine lv_icmp_le (tgt := 41) hx hb dX12_whyOrder_33 (by decide) (fun c12 => ?_) (fun c12 => ?_)
        · replace ho := ite_t c12 ho
          refine lv_iconst (v := (1 : Int32)) hx hb dX12_whyOrder_41 (by decide) ?_
          cases ho
          exact rtI C0 hW dX12_whyOrder_42
        · replace ho := ite_f c12 ho
          refine lv_bipush (v := (-3 : Int32)) hx hb dX12_whyOrder_36 (by decide) ?_
          refine lv_goto (tgt := 42) hx hb dX12_whyOrder_38 (by decide) ?_
          cases ho
          exact rtI C0 hW dX12_whyOrder_42
      · replace ho := ite_t c9 ho
        refine lv_bipush (v := (-2 : Int32)) hx hb dX12_whyOrder_22 (by decide) ?_
        refine lv_goto (tgt := 42) hx hb dX12_whyOrder_24 (by decide) ?_
        cases ho
        exact rtI C0 hW dX12_whyOrder_42
noncomputable def m_end (t : St) (a1 : Int32) (a2 : Int32) : Option (Int32 × St) :=
  (m_whyOrder t a1 a2 (1 : Int32)).bind (fun q1 => if q1 = (1 : Int32) then ((m_findOrder t a1 a2).bind (fun q4 => some ((gI q4 65), q4))) else (some (q1, t)))
set_option maxHeartbeats 4000000 in
set_option maxRecDepth 100000 in
theorem c_m_end (l : Launch) {D : va_G} {cI cJ cZ : ClassId} {am : Nat → Nat} (sz : Nat) (t : St) (a1 : Int32) (a2 : Int32) {r : Int32} {t' : St} (ho : m_end t a1 a2 = some (r, t')) : Met l yX12_end (.code yX12_end cX12_end 4 (some .int) :: wsAll) (rmN 3 74) (va_Pc [.ref (am 68), .int a1, .int a2] (prW D (tyM cI cJ cZ) (wM cI cJ cZ am t) sz)) (qI r D (tyM cI cJ cZ) (wM cI cJ cZ am t') (va_A (wM cI cJ cZ am t) sz)) 0 0 (va_A (wM cI cJ cZ am t) sz) := by
  refine Met.ofW (cc := cX12_end) (maxL := 4) (ret := (some .int)) (by decide) rfl ?_
  intro p e s m args below meth c s₁ B hml hv
  obtain ⟨rfl, hsz, hP, hK, hD0⟩ := hv
  have hx := B.exec
  have hb := B.bytes
  have hts := atoms_spec (ws := (.code yX12_end cX12_end 4 (some .int) :: wsAll)) B.pre
  have hta := fun w h => hts w (List.mem_cons_of_mem _ h)
  have hown : s.vm.findClass RX12 = some m.cls := findClass_of_methodNamed B.named
  have hlocks := B.notSynchronized
  subst hsz
  have hD := hD0.self (sz := s.heap.size)
  generalize hAe : va_A (wM cI cJ cZ am t) s.heap.size = A at hD ⊢
  have hA : ∀ q : Nat, s.heap.size ≤ q → A q := fun q h => by rw [← hAe]; exact Or.inr h
  have C0 : cx p s m ([.ref (am 68), .int a1, .int a2].toArray) meth c cX12_end RX12 4 (some .int) D (tyM cI cJ cZ) A := ⟨hx, hb, B.returns, hml, hown, hta, hlocks, hK, hA⟩
  have hW : wl D A s (wM cI cJ cZ am t) s.heap [] := ⟨hP, hD, va_S.rf⟩
  have hl := lv_entry [.ref (am 68), .int a1, .int a2] (n := 4) (Nat.le_of_ble_eq_true rfl)
  rw [lg_entry_eq]
  generalize (lg_sl [.ref (am 68), .int a1, .int a2] ++ List.replicate (4 - (lg_sl [.ref (am 68), .int a1, .int a2]).length) Slot.unset).toArray = ls at hl ⊢
  have hl : lv_has ls 4 [(0, .ref (am 68)), (1, .int a1), (2, .int a2)] := hl
  unfold m_end at ho
  refine lv_iload_n hx hb dX12_end_0 rfl (lv_at hl 1 rfl) ?_
  refine lv_iload_n hx hb dX12_end_1 rfl (lv_at hl 2 rfl) ?_
  refine lv_iconst (v := (1 : Int32)) hx hb dX12_end_2 (by decide) ?_
  obtain ⟨q1, hc2, ho⟩ := bd_some ho
  refine bkI C0 hW (runS (As := [.int a1, .int a2, .int (1 : Int32)]) (rest := []) C0 hW (c_m_whyOrder l _ t a1 a2 (1 : Int32) (r := q1) hc2) ca_X12_whyOrder_475 rfl rfl ⟨rfl, rfl⟩ ⟨Nat.le_of_ble_eq_true rfl, Nat.le_of_ble_eq_true rfl⟩ (Nat.le_of_ble_eq_true rfl) hl.1 dX12_end_3 ⟨Nat.le_of_ble_eq_true rfl, Nat.le_of_ble_eq_true rfl⟩) (fun H locs hW => ?_)
  refine lv_istore_n (lv' := [(3, .int q1), (0, .ref (am 68)), (1, .int a1), (2, .int a2)]) hx hb dX12_end_6 rfl hl (by decide) rfl (fun ls hl => ?_)
  refine lv_iload_n hx hb dX12_end_7 rfl (lv_at hl 0 rfl) ?_
  refine lv_iconst (v := (1 : Int32)) hx hb dX12_end_8 (by decide) ?_
  refine lv_icmp_eq (tgt := 14) hx hb dX12_end_9 (by decide) (fun c3 => ?_) (fun c3 => ?_)
  · replace ho := ite_t c3 ho
    refine lv_aload_n hx hb dX12_end_14 rfl (lv_at hl 1 rfl) ?_
    refine lv_iload_n hx hb dX12_end_15 rfl (lv_at hl 2 rfl) ?_
    refine lv_iload_n hx hb dX12_end_16 rfl (lv_at hl 3 rfl) ?_
    obtain ⟨q4, hc5, ho⟩ := bd_some ho
    refine bkV C0 hW (runV (As := [.int a1, .int a2]) (rest := []) C0 hW (c_m_findOrder l _ t a1 a2 (t' := q4) hc5) ca_X12_findOrder_479 0 12 rfl rfl rfl rfl rfl ⟨rfl, rfl⟩ ⟨Nat.le_of_ble_eq_true rfl, Nat.le_of_ble_eq_true rfl⟩ (Nat.le_of_ble_eq_true rfl) hl.1 dX12_end_17 ⟨Nat.le_of_ble_eq_true rfl, Nat.le_of_ble_eq_true rfl⟩) (fun H locs hW => ?_)
    refine lv_aload_n hx hb dX12_end_20 rfl (lv_at hl 1 rfl) ?_
    refine mGET_65 C0 hW dX12_end_21 ?_
    cases ho
    exact rtI C0 hW dX12_end_24
  · replace ho := ite_f c3 ho
    refine lv_iload_n hx hb dX12_end_12 rfl (lv_at hl 0 rfl) ?_
    cases ho
    exact rtI C0 hW dX12_end_13
noncomputable def m_orderAt_J11 (t : St) (v1 : Int32) (v2 : Int32) (v3 : Int32) (w0 : Int32) (w1 : Int32) (w2 : Int32) : Option (Int32 × St) :=
  (m_whyOrder t w0 w1 w2).bind (fun q1 => if q1 = (1 : Int32) then ((m_findOrder t v1 v2).bind (fun q4 => if (gI q4 65) = (-1 : Int32) then (some ((-1 : Int32), q4)) else ((m_sizeOf q4 v1).bind (fun q7 => if q7 ≤ v3 then (some ((-1 : Int32), q4)) else (gd v3 7 (some ((gA q4 64 (v3).toNatClampNeg), q4))))))) else (some (q1, t)))
noncomputable def m_orderAt (t : St) (a1 : Int32) (a2 : Int32) (a3 : Int32) : Option (Int32 × St) :=
  if a3 < 0 then (m_orderAt_J11 t a1 a2 a3 a1 a2 (0 : Int32)) else (m_orderAt_J11 t a1 a2 a3 a1 a2 (1 : Int32))
set_option maxHeartbeats 4000000 in
set_option maxRecDepth 100000 in
theorem c_m_orderAt (l : Launch) {D : va_G} {cI cJ cZ : ClassId} {am : Nat → Nat} (sz : Nat) (t : St) (a1 : Int32) (a2 : Int32) (a3 : Int32) {r : Int32} {t' : St} (ho : m_orderAt t a1 a2 a3 = some (r, t')) : Met l yX12_orderAt (.code yX12_orderAt cX12_orderAt 5 (some .int) :: wsAll) (rmN 3 74) (va_Pc [.ref (am 68), .int a1, .int a2, .int a3] (prW D (tyM cI cJ cZ) (wM cI cJ cZ am t) sz)) (qI r D (tyM cI cJ cZ) (wM cI cJ cZ am t') (va_A (wM cI cJ cZ am t) sz)) 0 0 (va_A (wM cI cJ cZ am t) sz) := by
  refine Met.ofW (cc := cX12_orderAt) (maxL := 5) (ret := (some .int)) (by decide) rfl ?_
  intro p e s m args below meth c s₁ B hml hv
  obtain ⟨rfl, hsz, hP, hK, hD0⟩ := hv
  have hx := B.exec
  have hb := B.bytes
  have hts := atoms_spec (ws := (.code yX12_orderAt cX12_orderAt 5 (some .int) :: wsAll)) B.pre
  have hta := fun w h => hts w (List.mem_cons_of_mem _ h)
  have hown : s.vm.findClass RX12 = some m.cls := findClass_of_methodNamed B.named
  have hlocks := B.notSynchronized
  subst hsz
  have hD := hD0.self (sz := s.heap.size)
  generalize hAe : va_A (wM cI cJ cZ am t) s.heap.size = A at hD ⊢
  have hA : ∀ q : Nat, s.heap.size ≤ q → A q := fun q h => by rw [← hAe]; exact Or.inr h
  have C0 : cx p s m ([.ref (am 68), .int a1, .int a2, .int a3].toArray) meth c cX12_orderAt RX12 5 (some .int) D (tyM cI cJ cZ) A := ⟨hx, hb, B.returns, hml, hown, hta, hlocks, hK, hA⟩
  have hW : wl D A s (wM cI cJ cZ am t) s.heap [] := ⟨hP, hD, va_S.rf⟩
  have hl := lv_entry [.ref (am 68), .int a1, .int a2, .int a3] (n := 5) (Nat.le_of_ble_eq_true rfl)
  rw [lg_entry_eq]
  generalize (lg_sl [.ref (am 68), .int a1, .int a2, .int a3] ++ List.replicate (5 - (lg_sl [.ref (am 68), .int a1, .int a2, .int a3]).length) Slot.unset).toArray = ls at hl ⊢
  have hl : lv_has ls 5 [(0, .ref (am 68)), (1, .int a1), (2, .int a2), (3, .int a3)] := hl
  clear hAe hD hP hD0 hts
  have J11 : ∀ (t : St) (v1 : Int32) (v2 : Int32) (v3 : Int32) (w0 : Int32) (w1 : Int32) (w2 : Int32) (_ : m_orderAt_J11 t v1 v2 v3 w0 w1 w2 = some (r, t')) (H : Heap) (locs : List Loc) (ls : Array Slot), wl D A s (wM cI cJ cZ am t) H locs → lv_has ls 5 [(0, .ref (am 68)), (1, .int v1), (2, .int v2), (3, .int v3)] → W p l e (rmN 3 74) s m ([.ref (am 68), .int a1, .int a2, .int a3].toArray) below meth c H locs 0 0 (MQ below (qI r D (tyM cI cJ cZ) (wM cI cJ cZ am t') A) ([.ref (am 68), .int a1, .int a2, .int a3].toArray) s 0 0 A) (F0 m 11 ls [.int w2, .int w1, .int w0]) := by
    intro t v1 v2 v3 w0 w1 w2 ho H locs ls hW hl
    unfold m_orderAt_J11 at ho
    obtain ⟨q1, hc2, ho⟩ := bd_some ho
    refine bkI C0 hW (runS (As := [.int w0, .int w1, .int w2]) (rest := []) C0 hW (c_m_whyOrder l _ t w0 w1 w2 (r := q1) hc2) ca_X12_whyOrder_475 rfl rfl ⟨rfl, rfl⟩ ⟨Nat.le_of_ble_eq_true rfl, Nat.le_of_ble_eq_true rfl⟩ (Nat.le_of_ble_eq_true rfl) hl.1 dX12_orderAt_11 ⟨Nat.le_of_ble_eq_true rfl, Nat.le_of_ble_eq_true rfl⟩) (fun H locs hW => ?_)
    refine lv_istore (lv' := [(4, .int q1), (0, .ref (am 68)), (1, .int v1), (2, .int v2), (3, .int v3)]) hx hb dX12_orderAt_14 hl (by decide) rfl (fun ls hl => ?_)
    refine lv_iload hx hb dX12_orderAt_16 (lv_at hl 0 rfl) ?_
    refine lv_iconst (v := (1 : Int32)) hx hb dX12_orderAt_18 (by decide) ?_
    refine lv_icmp_eq (tgt := 25) hx hb dX12_orderAt_19 (by decide) (fun c3 => ?_) (fun c3 => ?_)
    · replace ho := ite_t c3 ho
      refine lv_aload_n hx hb dX12_orderAt_25 rfl (lv_at hl 1 rfl) ?_
      refine lv_iload_n hx hb dX12_orderAt_26 rfl (lv_at hl 2 rfl) ?_
      refine lv_iload_n hx hb dX12_orderAt_27 rfl (lv_at hl 3 rfl) ?_
      obtain ⟨q4, hc5, ho⟩ := bd_some ho
      refine bkV C0 hW (runV (As := [.int v1, .int v2]) (rest := []) C0 hW (c_m_findOrder l _ t v1 v2 (t' := q4) hc5) ca_X12_findOrder_479 0 12 rfl rfl rfl rfl rfl ⟨rfl, rfl⟩ ⟨Nat.le_of_ble_eq_true rfl, Nat.le_of_ble_eq_true rfl⟩ (Nat.le_of_ble_eq_true rfl) hl.1 dX12_orderAt_28 ⟨Nat.le_of_ble_eq_true rfl, Nat.le_of_ble_eq_true rfl⟩) (fun H locs hW => ?_)
      refine lv_aload_n hx hb dX12_orderAt_31 rfl (lv_at hl 1 rfl) ?_
      refine mGET_65 C0 hW dX12_orderAt_32 ?_
      refine lv_iconst (v := (-1 : Int32)) hx hb dX12_orderAt_35 (by decide) ?_
      refine lv_icmp_eq (tgt := 56) hx hb dX12_orderAt_36 (by decide) (fun c6 => ?_) (fun c6 => ?_)
      · replace ho := ite_t c6 ho
        refine lv_iconst (v := (-1 : Int32)) hx hb dX12_orderAt_56 (by decide) ?_
        cases ho
        exact rtI C0 hW dX12_orderAt_57
      · replace ho := ite_f c6 ho
        refine lv_iload_n hx hb dX12_orderAt_39 rfl (lv_at hl 4 rfl) ?_
        refine lv_iload_n hx hb dX12_orderAt_40 rfl (lv_at hl 2 rfl) ?_
        obtain ⟨q7, hc8, ho⟩ := bd_some ho
        refine bkI C0 hW (runS (As := [.int v1]) (rest := [.int v3]) C0 hW (c_m_sizeOf l _ q4 v1 (r := q7) hc8) ca_X12_sizeOf_295 rfl rfl ⟨rfl, rfl⟩ ⟨Nat.le_of_ble_eq_true rfl, Nat.le_of_ble_eq_true rfl⟩ (Nat.le_of_ble_eq_true rfl) hl.1 dX12_orderAt_41 ⟨Nat.le_of_ble_eq_true rfl, Nat.le_of_ble_eq_true rfl⟩) (fun H locs hW => ?_)
        refine lv_icmp_ge (tgt := 56) hx hb dX12_orderAt_44 (by decide) (fun c9 => ?_) (fun c9 => ?_)
        · replace ho := ite_t c9 ho
          refine lv_iconst (v := (-1 : Int32)) hx hb dX12_orderAt_56 (by decide) ?_
          cases ho
          exact rtI C0 hW dX12_orderAt_57
        · replace ho := ite_f c9 ho
          refine lv_aload_n hx hb dX12_orderAt_47 rfl (lv_at hl 1 rfl) ?_
          refine mGET_64 C0 hW dX12_orderAt_48 ?_
          refine lv_iload_n hx hb dX12_orderAt_51 rfl (lv_at hl 4 rfl) ?_
          obtain ⟨g10, ho⟩ := gd_some ho
          refine mLD_64 C0 hW g10 dX12_orderAt_52 ?_
          refine lv_goto (tgt := 57) hx hb dX12_orderAt_53 (by decide) ?_
          cases ho
          exact rtI C0 hW dX12_orderAt_57
    · replace ho := ite_f c3 ho
      refine lv_iload hx hb dX12_orderAt_22 (lv_at hl 0 rfl) ?_
      cases ho
      exact rtI C0 hW dX12_orderAt_24
  unfold m_orderAt at ho
  refine lv_iload_n hx hb dX12_orderAt_0 rfl (lv_at hl 1 rfl) ?_
  refine lv_iload_n hx hb dX12_orderAt_1 rfl (lv_at hl 2 rfl) ?_
  refine lv_iload_n hx hb dX12_orderAt_2 rfl (lv_at hl 3 rfl) ?_
  refine lv_if_lt (tgt := 10) hx hb dX12_orderAt_3 (by decide) (fun c11 => ?_) (fun c11 => ?_)
  · replace ho := ite_t c11 ho
    refine lv_iconst (v := (0 : Int32)) hx hb dX12_orderAt_10 (by decide) ?_
    exact J11 _ _ _ _ _ _ _ ho _ _ _ hW (lv_sub hl [0, 1, 2, 3] rfl)
  · replace ho := ite_f c11 ho
    refine lv_iconst (v := (1 : Int32)) hx hb dX12_orderAt_6 (by decide) ?_
    refine lv_goto (tgt := 11) hx hb dX12_orderAt_7 (by decide) ?_
    exact J11 _ _ _ _ _ _ _ ho _ _ _ hW (lv_sub hl [0, 1, 2, 3] rfl)
noncomputable def m_image_B29 (v1 : Int32) (v2 : Int32) (v3 : Int32) (t : St) : Option ((Int32 × St) ⊕ (St)) :=
  if (5 : Int32) ≤ v3 then (some (.inr t)) else ((m_stepOf t v2 v3).bind (fun q2 => gd ((((80 : Int32) * v1) + ((5 : Int32) * v2)) + v3) 160 (nm (sA t 67 ((((80 : Int32) * v1) + ((5 : Int32) * v2)) + v3) q2) (fun t5 : St => nm (v3 + (1 : Int32)) (fun x6 : Int32 => some (.inl (x6, t5)))))))
noncomputable def m_image_B21 (v1 : Int32) (v2 : Int32) (t : St) : Option ((Int32 × St) ⊕ (St)) :=
  if (16 : Int32) ≤ v2 then (some (.inr t)) else ((lp (fun x => m_image_B29 v1 v2 x.1 x.2) ((0 : Int32), t)).bind (fun y8 => nm (v2 + (1 : Int32)) (fun x11 : Int32 => some (.inl (x11, y8)))))
noncomputable def m_image (t : St) (a1 : Int32) : Option (Int32 × St) :=
  (m_in t a1 (0 : Int32) (1 : Int32)).bind (fun q12 => if q12 = 0 then (some ((-2 : Int32), t)) else (gd a1 2 (nm (sA t 66 a1 (vp_nar .boolean (1 : Int32))) (fun t17 : St => (lp (fun x => m_image_B21 a1 x.1 x.2) ((0 : Int32), t17)).bind (fun y18 => some ((1 : Int32), y18))))))
set_option maxHeartbeats 4000000 in
set_option maxRecDepth 100000 in
theorem m_image_L29 {p : Program} {l : Launch} {e : Env} {s : State} {m : MethodId} {args : Array Value} {below : List Frame} {meth : Method} {c : Code} {Q : State → Prop} {D : va_G} {cI cJ cZ : ClassId} {am : Nat → Nat} {A : Nat → Prop} (C0 : cx p s m args meth c cX12_image RX12 4 (some .int) D (tyM cI cJ cZ) A) {v1 : Int32} {v2 : Int32} {y : St} (hK0 : ∀ (H : Heap) (locs : List Loc) (ls : Array Slot), wl D A s (wM cI cJ cZ am y) H locs → lv_has ls 4 [(0, .ref (am 68)), (1, .int v1), (2, .int v2)] → W p l e (rmN 1 22) s m args below meth c H locs 0 0 Q (F0 m 61 ls [])) :
    ∀ (n : Nat) (v3 : Int32) (t : St), lpn (fun x => m_image_B29 v1 v2 x.1 x.2) n (v3, t) = some y → ∀ (H : Heap) (locs : List Loc) (ls : Array Slot), wl D A s (wM cI cJ cZ am t) H locs → lv_has ls 4 [(0, .ref (am 68)), (1, .int v1), (2, .int v2), (3, .int v3)] → W p l e (rmN 1 22) s m args below meth c H locs 0 0 Q (F0 m 29 ls []) := by
  have hx := C0.1
  have hb := C0.2.1
  have hta := C0.2.2.2.2.2.1
  have hown := C0.2.2.2.2.1
  intro n
  induction n with
  | zero => intro _ _ h; cases h
  | succ n ih =>
    intro v3 t hrun H locs ls hW hl
    obtain ⟨o, ho, hrun⟩ := bd_some hrun
    unfold m_image_B29 at ho
    refine lv_iload_n hx hb dX12_image_29 rfl (lv_at hl 3 rfl) ?_
    refine lv_iconst (v := (5 : Int32)) hx hb dX12_image_30 (by decide) ?_
    refine lv_icmp_ge (tgt := 61) hx hb dX12_image_31 (by decide) (fun c1 => ?_) (fun c1 => ?_)
    · replace ho := ite_t c1 ho
      cases ho
      cases hrun
      exact hK0 _ _ _ hW (lv_sub hl [0, 1, 2] rfl)
    · replace ho := ite_f c1 ho
      refine lv_aload_n hx hb dX12_image_34 rfl (lv_at hl 0 rfl) ?_
      refine mGET_67 C0 hW dX12_image_35 ?_
      refine lv_bipush (v := (80 : Int32)) hx hb dX12_image_38 (by decide) ?_
      refine lv_iload_n hx hb dX12_image_40 rfl (lv_at hl 1 rfl) ?_
      refine lv_imul hx hb dX12_image_41 ?_
      refine lv_iconst (v := (5 : Int32)) hx hb dX12_image_42 (by decide) ?_
      refine lv_iload_n hx hb dX12_image_43 rfl (lv_at hl 2 rfl) ?_
      refine lv_imul hx hb dX12_image_44 ?_
      refine lv_iadd hx hb dX12_image_45 ?_
      refine lv_iload_n hx hb dX12_image_46 rfl (lv_at hl 3 rfl) ?_
      refine lv_iadd hx hb dX12_image_47 ?_
      refine lv_aload_n hx hb dX12_image_48 rfl (lv_at hl 0 rfl) ?_
      refine lv_iload_n hx hb dX12_image_49 rfl (lv_at hl 2 rfl) ?_
      refine lv_iload_n hx hb dX12_image_50 rfl (lv_at hl 3 rfl) ?_
      obtain ⟨q2, hc3, ho⟩ := bd_some ho
      refine bkI C0 hW (runV (As := [.int v2, .int v3]) (rest := [.int ((((80 : Int32) * v1) + ((5 : Int32) * v2)) + v3), .ref (am 67)]) C0 hW (c_m_stepOf l _ t v2 v3 (r := q2) hc3) ca_X12_stepOf_187 0 12 rfl rfl rfl rfl rfl ⟨rfl, rfl⟩ ⟨Nat.le_of_ble_eq_true rfl, Nat.le_of_ble_eq_true rfl⟩ (Nat.le_of_ble_eq_true rfl) hl.1 dX12_image_51 ⟨Nat.le_of_ble_eq_true rfl, Nat.le_of_ble_eq_true rfl⟩) (fun H locs hW => ?_)
      obtain ⟨g4, ho⟩ := gd_some ho
      refine mST_67 C0 hW g4 dX12_image_54 (fun H locs hW => ?_)
      obtain ⟨t5, ho, hW⟩ := nm_w (P := fun t => wl D A s (wM cI cJ cZ am t) H locs) ho hW
      obtain ⟨x6, ex6, ho⟩ := nm_x ho
      refine lv_iinc (v := x6) (lv' := [(3, .int x6), (0, .ref (am 68)), (1, .int v1), (2, .int v2)]) hx hb dX12_image_55 hl (k := 3) rfl (by rw [ex6]; rfl) (by decide) rfl (fun ls hl => ?_)
      clear ex6
      refine lv_goto (tgt := 29) hx hb dX12_image_58 (by decide) ?_
      cases ho
      exact ih _ _ hrun _ _ _ hW (lv_sub hl [1, 2, 3, 0] rfl)
set_option maxHeartbeats 4000000 in
set_option maxRecDepth 100000 in
theorem m_image_L21 {p : Program} {l : Launch} {e : Env} {s : State} {m : MethodId} {args : Array Value} {below : List Frame} {meth : Method} {c : Code} {Q : State → Prop} {D : va_G} {cI cJ cZ : ClassId} {am : Nat → Nat} {A : Nat → Prop} (C0 : cx p s m args meth c cX12_image RX12 4 (some .int) D (tyM cI cJ cZ) A) {v1 : Int32} {y : St} (hK0 : ∀ (H : Heap) (locs : List Loc) (ls : Array Slot), wl D A s (wM cI cJ cZ am y) H locs → lv_has ls 4 [(0, .ref (am 68))] → W p l e (rmN 1 22) s m args below meth c H locs 0 0 Q (F0 m 67 ls [])) :
    ∀ (n : Nat) (v2 : Int32) (t : St), lpn (fun x => m_image_B21 v1 x.1 x.2) n (v2, t) = some y → ∀ (H : Heap) (locs : List Loc) (ls : Array Slot), wl D A s (wM cI cJ cZ am t) H locs → lv_has ls 4 [(0, .ref (am 68)), (1, .int v1), (2, .int v2)] → W p l e (rmN 1 22) s m args below meth c H locs 0 0 Q (F0 m 21 ls []) := by
  have hx := C0.1
  have hb := C0.2.1
  have hta := C0.2.2.2.2.2.1
  have hown := C0.2.2.2.2.1
  intro n
  induction n with
  | zero => intro _ _ h; cases h
  | succ n ih =>
    intro v2 t hrun H locs ls hW hl
    obtain ⟨o, ho, hrun⟩ := bd_some hrun
    unfold m_image_B21 at ho
    refine lv_iload_n hx hb dX12_image_21 rfl (lv_at hl 2 rfl) ?_
    refine lv_bipush (v := (16 : Int32)) hx hb dX12_image_22 (by decide) ?_
    refine lv_icmp_ge (tgt := 67) hx hb dX12_image_24 (by decide) (fun c7 => ?_) (fun c7 => ?_)
    · replace ho := ite_t c7 ho
      cases ho
      cases hrun
      exact hK0 _ _ _ hW (lv_sub hl [0] rfl)
    · replace ho := ite_f c7 ho
      refine lv_iconst (v := (0 : Int32)) hx hb dX12_image_27 (by decide) ?_
      refine lv_istore_n (lv' := [(3, .int (0 : Int32)), (0, .ref (am 68)), (1, .int v1), (2, .int v2)]) hx hb dX12_image_28 rfl hl (by decide) rfl (fun ls hl => ?_)
      obtain ⟨y8, hc10, ho⟩ := bd_some ho
      obtain ⟨ny8, hc10⟩ := lp_to hc10
      refine m_image_L29 C0 ?_ ny8 _ _ hc10 _ _ _ hW (lv_sub hl [1, 2, 3, 0] rfl)
      intro H locs ls hW hl
      obtain ⟨x11, ex11, ho⟩ := nm_x ho
      refine lv_iinc (v := x11) (lv' := [(2, .int x11), (0, .ref (am 68)), (1, .int v1)]) hx hb dX12_image_61 hl (k := 2) rfl (by rw [ex11]; rfl) (by decide) rfl (fun ls hl => ?_)
      clear ex11
      refine lv_goto (tgt := 21) hx hb dX12_image_64 (by decide) ?_
      cases ho
      exact ih _ _ hrun _ _ _ hW (lv_sub hl [1, 2, 0] rfl)
set_option maxHeartbeats 4000000 in
set_option maxRecDepth 100000 in
theorem c_m_image (l : Launch) {D : va_G} {cI cJ cZ : ClassId} {am : Nat → Nat} (sz : Nat) (t : St) (a1 : Int32) {r : Int32} {t' : St} (ho : m_image t a1 = some (r, t')) : Met l yX12_image (.code yX12_image cX12_image 4 (some .int) :: wsAll) (rmN 1 22) (va_Pc [.ref (am 68), .int a1] (prW D (tyM cI cJ cZ) (wM cI cJ cZ am t) sz)) (qI r D (tyM cI cJ cZ) (wM cI cJ cZ am t') (va_A (wM cI cJ cZ am t) sz)) 0 0 (va_A (wM cI cJ cZ am t) sz) := by
  refine Met.ofW (cc := cX12_image) (maxL := 4) (ret := (some .int)) (by decide) rfl ?_
  intro p e s m args below meth c s₁ B hml hv
  obtain ⟨rfl, hsz, hP, hK, hD0⟩ := hv
  have hx := B.exec
  have hb := B.bytes
  have hts := atoms_spec (ws := (.code yX12_image cX12_image 4 (some .int) :: wsAll)) B.pre
  have hta := fun w h => hts w (List.mem_cons_of_mem _ h)
  have hown : s.vm.findClass RX12 = some m.cls := findClass_of_methodNamed B.named
  have hlocks := B.notSynchronized
  subst hsz
  have hD := hD0.self (sz := s.heap.size)
  generalize hAe : va_A (wM cI cJ cZ am t) s.heap.size = A at hD ⊢
  have hA : ∀ q : Nat, s.heap.size ≤ q → A q := fun q h => by rw [← hAe]; exact Or.inr h
  have C0 : cx p s m ([.ref (am 68), .int a1].toArray) meth c cX12_image RX12 4 (some .int) D (tyM cI cJ cZ) A := ⟨hx, hb, B.returns, hml, hown, hta, hlocks, hK, hA⟩
  have hW : wl D A s (wM cI cJ cZ am t) s.heap [] := ⟨hP, hD, va_S.rf⟩
  have hl := lv_entry [.ref (am 68), .int a1] (n := 4) (Nat.le_of_ble_eq_true rfl)
  rw [lg_entry_eq]
  generalize (lg_sl [.ref (am 68), .int a1] ++ List.replicate (4 - (lg_sl [.ref (am 68), .int a1]).length) Slot.unset).toArray = ls at hl ⊢
  have hl : lv_has ls 4 [(0, .ref (am 68)), (1, .int a1)] := hl
  unfold m_image at ho
  refine lv_iload_n hx hb dX12_image_0 rfl (lv_at hl 1 rfl) ?_
  refine lv_iconst (v := (0 : Int32)) hx hb dX12_image_1 (by decide) ?_
  refine lv_iconst (v := (1 : Int32)) hx hb dX12_image_2 (by decide) ?_
  obtain ⟨q12, hc13, ho⟩ := bd_some ho
  refine bkZ C0 hW (runS (As := [.int a1, .int (0 : Int32), .int (1 : Int32)]) (rest := []) C0 hW (c_m_in l _ t a1 (0 : Int32) (1 : Int32) (r := q12) hc13) ca_X12_in_179 rfl rfl ⟨rfl, rfl⟩ ⟨Nat.le_of_ble_eq_true rfl, Nat.le_of_ble_eq_true rfl⟩ (Nat.le_of_ble_eq_true rfl) hl.1 dX12_image_3 ⟨Nat.le_of_ble_eq_true rfl, Nat.le_of_ble_eq_true rfl⟩) (fun z14 H locs hW => ?_)
  refine lv_if_ne (tgt := 12) hx hb dX12_image_6 (by decide) (fun c15 => ?_) (fun c15 => ?_)
  · replace ho := ite_f c15 ho
    refine lv_aload_n hx hb dX12_image_12 rfl (lv_at hl 0 rfl) ?_
    refine mGET_66 C0 hW dX12_image_13 ?_
    refine lv_iload_n hx hb dX12_image_16 rfl (lv_at hl 1 rfl) ?_
    refine lv_iconst (v := (1 : Int32)) hx hb dX12_image_17 (by decide) ?_
    obtain ⟨g16, ho⟩ := gd_some ho
    refine mST_66 C0 hW g16 dX12_image_18 (fun H locs hW => ?_)
    obtain ⟨t17, ho, hW⟩ := nm_w (P := fun t => wl D A s (wM cI cJ cZ am t) H locs) ho hW
    refine lv_iconst (v := (0 : Int32)) hx hb dX12_image_19 (by decide) ?_
    refine lv_istore_n (lv' := [(2, .int (0 : Int32)), (0, .ref (am 68)), (1, .int a1)]) hx hb dX12_image_20 rfl hl (by decide) rfl (fun ls hl => ?_)
    obtain ⟨y18, hc20, ho⟩ := bd_some ho
    obtain ⟨ny18, hc20⟩ := lp_to hc20
    refine m_image_L21 C0 ?_ ny18 _ _ hc20 _ _ _ hW (lv_sub hl [1, 2, 0] rfl)
    intro H locs ls hW hl
    refine lv_iconst (v := (1 : Int32)) hx hb dX12_image_67 (by decide) ?_
    cases ho
    exact rtI C0 hW dX12_image_68
  · replace ho := ite_t c15 ho
    refine lv_bipush (v := (-2 : Int32)) hx hb dX12_image_9 (by decide) ?_
    cases ho
    exact rtI C0 hW dX12_image_11
