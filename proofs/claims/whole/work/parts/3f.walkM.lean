noncomputable def m_rowOf_J143 (t : St) (v1 : Int32) (v2 : Int32) (v4 : Int32) : Option ((Int32 × Int32 × St) ⊕ (Int32 × St)) :=
  nm (v4 + (1 : Int32)) (fun x1 : Int32 => some (.inl (v4, x1, t)))
noncomputable def m_rowOf_J117 (t : St) (v1 : Int32) (v2 : Int32) (v3 : Int32) (v4 : Int32) (v6 : Int32) : Option ((Int32 × Int32 × St) ⊕ (Int32 × St)) :=
  if v6 < 0 then (m_rowOf_J143 t v1 v2 v4) else (if v6 = 0 then (gd v4 6 (gd v3 6 (if (gA t 53 (v3).toNatClampNeg) ≤ (gA t 53 (v4).toNatClampNeg) then (nm (v4 + (1 : Int32)) (fun x8 : Int32 => some (.inl (v3, x8, t)))) else (m_rowOf_J143 t v1 v2 v4)))) else (nm (v4 + (1 : Int32)) (fun x4 : Int32 => some (.inl (v3, x4, t)))))
noncomputable def m_rowOf_B5 (v1 : Int32) (v2 : Int32) (v3 : Int32) (v4 : Int32) (t : St) : Option ((Int32 × Int32 × St) ⊕ (Int32 × St)) :=
  if (gI t 50) ≤ v4 then (some (.inr (v3, t))) else ((m_cell t v4 v1).bind (fun q10 => gd q10 400 (if (gA t 52 (q10).toNatClampNeg) = 0 then ((m_isNothing t ((402 : Int32) + q10)).bind (fun q15 => if q15 = 0 then (if v3 = (-1 : Int32) then (m_rowOf_J117 t v1 v2 v3 v4 (-1 : Int32)) else ((m_cell t v4 v2).bind (fun q21 => (m_cell t v3 v1).bind (fun q23 => (m_multiplies t (701 : Int32) ((402 : Int32) + q21) ((402 : Int32) + q23)).bind (fun q25 => (m_cell q25 v3 v2).bind (fun q27 => (m_multiplies q25 (702 : Int32) ((402 : Int32) + q27) ((402 : Int32) + q10)).bind (fun q29 => (m_against q29 (701 : Int32) (702 : Int32)).bind (fun q31 => m_rowOf_J117 q29 v1 v2 v3 v4 q31)))))))) else (nm (v4 + (1 : Int32)) (fun x19 : Int32 => some (.inl (v3, x19, t)))))) else (nm (v4 + (1 : Int32)) (fun x14 : Int32 => some (.inl (v3, x14, t)))))))
noncomputable def m_rowOf (t : St) (a1 : Int32) (a2 : Int32) : Option (Int32 × St) :=
  (lp (fun x => m_rowOf_B5 a1 a2 x.1 x.2.1 x.2.2) ((-1 : Int32), (0 : Int32), t)).bind (fun y33 => some (y33.1, y33.2))
set_option maxHeartbeats 4000000 in
set_option maxRecDepth 100000 in
theorem m_rowOf_L5 {p : Program} {l : Launch} {e : Env} {s : State} {m : MethodId} {args : Array Value} {below : List Frame} {meth : Method} {c : Code} {Q : State → Prop} {D : va_G} {cI cJ cZ : ClassId} {am : Nat → Nat} {A : Nat → Prop} (C0 : cx p s m args meth c cX12_rowOf RX12 7 (some .int) D (tyM cI cJ cZ) A) {v1 : Int32} {v2 : Int32} {y : Int32 × St} (hK0 : ∀ (H : Heap) (locs : List Loc) (ls : Array Slot), wl D A s (wM cI cJ cZ am y.2) H locs → lv_has ls 7 [(0, .ref (am 68)), (3, .int y.1)] → W p l e (rmN 2 52) s m args below meth c H locs 0 0 Q (F0 m 156 ls [])) :
    ∀ (n : Nat) (v3 : Int32) (v4 : Int32) (t : St), lpn (fun x => m_rowOf_B5 v1 v2 x.1 x.2.1 x.2.2) n (v3, v4, t) = some y → ∀ (H : Heap) (locs : List Loc) (ls : Array Slot), wl D A s (wM cI cJ cZ am t) H locs → lv_has ls 7 [(0, .ref (am 68)), (1, .int v1), (2, .int v2), (3, .int v3), (4, .int v4)] → W p l e (rmN 2 52) s m args below meth c H locs 0 0 Q (F0 m 5 ls []) := by
  have hx := C0.1
  have hb := C0.2.1
  have hta := C0.2.2.2.2.2.1
  have hown := C0.2.2.2.2.1
  intro n
  induction n with
  | zero => intro _ _ _ h; cases h
  | succ n ih =>
    intro v3 v4 t hrun H locs ls hW hl
    obtain ⟨o, ho, hrun⟩ := bd_some hrun
    have J143 : ∀ (t : St) (v4 : Int32) (_ : m_rowOf_J143 t v1 v2 v4 = some o) (H : Heap) (locs : List Loc) (ls : Array Slot), wl D A s (wM cI cJ cZ am t) H locs → lv_has ls 7 [(0, .ref (am 68)), (1, .int v1), (2, .int v2), (4, .int v4)] → W p l e (rmN 2 52) s m args below meth c H locs 0 0 Q (F0 m 143 ls []) := by
      intro t v4 ho H locs ls hW hl
      unfold m_rowOf_J143 at ho
      refine lv_iload hx hb dX12_rowOf_143 (lv_at hl 3 rfl) ?_
      refine lv_goto (tgt := 149) hx hb dX12_rowOf_145 (by decide) ?_
      refine lv_istore_n (lv' := [(3, .int v4), (0, .ref (am 68)), (1, .int v1), (2, .int v2), (4, .int v4)]) hx hb dX12_rowOf_149 rfl hl (by decide) rfl (fun ls hl => ?_)
      obtain ⟨x1, ex1, ho⟩ := nm_x ho
      refine lv_iinc (v := x1) (lv' := [(4, .int x1), (3, .int v4), (0, .ref (am 68)), (1, .int v1), (2, .int v2)]) hx hb dX12_rowOf_150 hl (k := 4) rfl (by rw [ex1]; rfl) (by decide) rfl (fun ls hl => ?_)
      clear ex1
      refine lv_goto (tgt := 5) hx hb dX12_rowOf_153 (by decide) ?_
      cases ho
      exact ih _ _ _ hrun _ _ _ hW (lv_sub hl [2, 3, 4, 1, 0] rfl)
    have J117 : ∀ (t : St) (v3 : Int32) (v4 : Int32) (v6 : Int32) (_ : m_rowOf_J117 t v1 v2 v3 v4 v6 = some o) (H : Heap) (locs : List Loc) (ls : Array Slot), wl D A s (wM cI cJ cZ am t) H locs → lv_has ls 7 [(0, .ref (am 68)), (1, .int v1), (2, .int v2), (3, .int v3), (4, .int v4), (6, .int v6)] → W p l e (rmN 2 52) s m args below meth c H locs 0 0 Q (F0 m 117 ls []) := by
      intro t v3 v4 v6 ho H locs ls hW hl
      unfold m_rowOf_J117 at ho
      refine lv_iload hx hb dX12_rowOf_117 (lv_at hl 5 rfl) ?_
      refine lv_if_lt (tgt := 143) hx hb dX12_rowOf_119 (by decide) (fun c2 => ?_) (fun c2 => ?_)
      · replace ho := ite_t c2 ho
        exact J143 _ _ ho _ _ _ hW (lv_sub hl [0, 1, 2, 4] rfl)
      · replace ho := ite_f c2 ho
        refine lv_iload hx hb dX12_rowOf_122 (lv_at hl 5 rfl) ?_
        refine lv_if_ne (tgt := 148) hx hb dX12_rowOf_124 (by decide) (fun c3 => ?_) (fun c3 => ?_)
        · replace ho := ite_f c3 ho
          refine lv_iload_n hx hb dX12_rowOf_148 rfl (lv_at hl 3 rfl) ?_
          refine lv_istore_n (lv' := [(3, .int v3), (0, .ref (am 68)), (1, .int v1), (2, .int v2), (4, .int v4), (6, .int v6)]) hx hb dX12_rowOf_149 rfl hl (by decide) rfl (fun ls hl => ?_)
          obtain ⟨x4, ex4, ho⟩ := nm_x ho
          refine lv_iinc (v := x4) (lv' := [(4, .int x4), (3, .int v3), (0, .ref (am 68)), (1, .int v1), (2, .int v2), (6, .int v6)]) hx hb dX12_rowOf_150 hl (k := 4) rfl (by rw [ex4]; rfl) (by decide) rfl (fun ls hl => ?_)
          clear ex4
          refine lv_goto (tgt := 5) hx hb dX12_rowOf_153 (by decide) ?_
          cases ho
          exact ih _ _ _ hrun _ _ _ hW (lv_sub hl [2, 3, 4, 1, 0] rfl)
        · replace ho := ite_t c3 ho
          refine lv_aload_n hx hb dX12_rowOf_127 rfl (lv_at hl 0 rfl) ?_
          refine mGET_53 C0 hW dX12_rowOf_128 ?_
          refine lv_iload hx hb dX12_rowOf_131 (lv_at hl 4 rfl) ?_
          obtain ⟨g5, ho⟩ := gd_some ho
          refine mLD_53 C0 hW g5 dX12_rowOf_133 ?_
          refine lv_aload_n hx hb dX12_rowOf_134 rfl (lv_at hl 0 rfl) ?_
          refine mGET_53 C0 hW dX12_rowOf_135 ?_
          refine lv_iload_n hx hb dX12_rowOf_138 rfl (lv_at hl 3 rfl) ?_
          obtain ⟨g6, ho⟩ := gd_some ho
          refine mLD_53 C0 hW g6 dX12_rowOf_139 ?_
          refine lv_icmp_ge (tgt := 148) hx hb dX12_rowOf_140 (by decide) (fun c7 => ?_) (fun c7 => ?_)
          · replace ho := ite_t c7 ho
            refine lv_iload_n hx hb dX12_rowOf_148 rfl (lv_at hl 3 rfl) ?_
            refine lv_istore_n (lv' := [(3, .int v3), (0, .ref (am 68)), (1, .int v1), (2, .int v2), (4, .int v4), (6, .int v6)]) hx hb dX12_rowOf_149 rfl hl (by decide) rfl (fun ls hl => ?_)
            obtain ⟨x8, ex8, ho⟩ := nm_x ho
            refine lv_iinc (v := x8) (lv' := [(4, .int x8), (3, .int v3), (0, .ref (am 68)), (1, .int v1), (2, .int v2), (6, .int v6)]) hx hb dX12_rowOf_150 hl (k := 4) rfl (by rw [ex8]; rfl) (by decide) rfl (fun ls hl => ?_)
            clear ex8
            refine lv_goto (tgt := 5) hx hb dX12_rowOf_153 (by decide) ?_
            cases ho
            exact ih _ _ _ hrun _ _ _ hW (lv_sub hl [2, 3, 4, 1, 0] rfl)
          · replace ho := ite_f c7 ho
            exact J143 _ _ ho _ _ _ hW (lv_sub hl [0, 1, 2, 4] rfl)
    unfold m_rowOf_B5 at ho
    refine lv_iload hx hb dX12_rowOf_5 (lv_at hl 4 rfl) ?_
    refine lv_aload_n hx hb dX12_rowOf_7 rfl (lv_at hl 0 rfl) ?_
    refine mGET_50 C0 hW dX12_rowOf_8 ?_
    refine lv_icmp_ge (tgt := 156) hx hb dX12_rowOf_11 (by decide) (fun c9 => ?_) (fun c9 => ?_)
    · replace ho := ite_t c9 ho
      cases ho
      cases hrun
      exact hK0 _ _ _ hW (lv_sub hl [0, 3] rfl)
    · replace ho := ite_f c9 ho
      refine lv_aload_n hx hb dX12_rowOf_14 rfl (lv_at hl 0 rfl) ?_
      refine lv_iload hx hb dX12_rowOf_15 (lv_at hl 4 rfl) ?_
      refine lv_iload_n hx hb dX12_rowOf_17 rfl (lv_at hl 1 rfl) ?_
      obtain ⟨q10, hc11, ho⟩ := bd_some ho
      refine bkI C0 hW (runV (As := [.int v4, .int v1]) (rest := []) C0 hW (c_m_cell l _ t v4 v1 (r := q10) hc11) ca_X12_cell_411 0 12 rfl rfl rfl rfl rfl ⟨rfl, rfl⟩ ⟨Nat.le_of_ble_eq_true rfl, Nat.le_of_ble_eq_true rfl⟩ (Nat.le_of_ble_eq_true rfl) hl.1 dX12_rowOf_18 ⟨Nat.le_of_ble_eq_true rfl, Nat.le_of_ble_eq_true rfl⟩) (fun H locs hW => ?_)
      refine lv_istore (lv' := [(5, .int q10), (0, .ref (am 68)), (1, .int v1), (2, .int v2), (3, .int v3), (4, .int v4)]) hx hb dX12_rowOf_21 hl (by decide) rfl (fun ls hl => ?_)
      refine lv_aload_n hx hb dX12_rowOf_23 rfl (lv_at hl 1 rfl) ?_
      refine mGET_52 C0 hW dX12_rowOf_24 ?_
      refine lv_iload hx hb dX12_rowOf_27 (lv_at hl 0 rfl) ?_
      obtain ⟨g12, ho⟩ := gd_some ho
      refine mLD_52 C0 hW g12 dX12_rowOf_29 ?_
      refine lv_if_ne (tgt := 150) hx hb dX12_rowOf_30 (by decide) (fun c13 => ?_) (fun c13 => ?_)
      · replace ho := ite_f c13 ho
        obtain ⟨x14, ex14, ho⟩ := nm_x ho
        refine lv_iinc (v := x14) (lv' := [(4, .int x14), (5, .int q10), (0, .ref (am 68)), (1, .int v1), (2, .int v2), (3, .int v3)]) hx hb dX12_rowOf_150 hl (k := 5) rfl (by rw [ex14]; rfl) (by decide) rfl (fun ls hl => ?_)
        clear ex14
        refine lv_goto (tgt := 5) hx hb dX12_rowOf_153 (by decide) ?_
        cases ho
        exact ih _ _ _ hrun _ _ _ hW (lv_sub hl [2, 3, 4, 5, 0] rfl)
      · replace ho := ite_t c13 ho
        refine lv_aload_n hx hb dX12_rowOf_33 rfl (lv_at hl 1 rfl) ?_
        refine lv_sipush (v := (402 : Int32)) hx hb dX12_rowOf_34 (by decide) ?_
        refine lv_iload hx hb dX12_rowOf_37 (lv_at hl 0 rfl) ?_
        refine lv_iadd hx hb dX12_rowOf_39 ?_
        obtain ⟨q15, hc16, ho⟩ := bd_some ho
        refine bkZ C0 hW (runV (As := [.int ((402 : Int32) + q10)]) (rest := []) C0 hW (c_m_isNothing l _ t ((402 : Int32) + q10) (r := q15) hc16) ca_X12_isNothing_324 0 12 rfl rfl rfl rfl rfl ⟨rfl, rfl⟩ ⟨Nat.le_of_ble_eq_true rfl, Nat.le_of_ble_eq_true rfl⟩ (Nat.le_of_ble_eq_true rfl) hl.1 dX12_rowOf_40 ⟨Nat.le_of_ble_eq_true rfl, Nat.le_of_ble_eq_true rfl⟩) (fun z17 H locs hW => ?_)
        refine lv_if_ne (tgt := 150) hx hb dX12_rowOf_43 (by decide) (fun c18 => ?_) (fun c18 => ?_)
        · replace ho := ite_f c18 ho
          obtain ⟨x19, ex19, ho⟩ := nm_x ho
          refine lv_iinc (v := x19) (lv' := [(4, .int x19), (5, .int q10), (0, .ref (am 68)), (1, .int v1), (2, .int v2), (3, .int v3)]) hx hb dX12_rowOf_150 hl (k := 5) rfl (by rw [ex19]; rfl) (by decide) rfl (fun ls hl => ?_)
          clear ex19
          refine lv_goto (tgt := 5) hx hb dX12_rowOf_153 (by decide) ?_
          cases ho
          exact ih _ _ _ hrun _ _ _ hW (lv_sub hl [2, 3, 4, 5, 0] rfl)
        · replace ho := ite_t c18 ho
          refine lv_iconst (v := (-1 : Int32)) hx hb dX12_rowOf_46 (by decide) ?_
          refine lv_istore (lv' := [(6, .int (-1 : Int32)), (5, .int q10), (0, .ref (am 68)), (1, .int v1), (2, .int v2), (3, .int v3), (4, .int v4)]) hx hb dX12_rowOf_47 hl (by decide) rfl (fun ls hl => ?_)
          refine lv_iload_n hx hb dX12_rowOf_49 rfl (lv_at hl 5 rfl) ?_
          refine lv_iconst (v := (-1 : Int32)) hx hb dX12_rowOf_50 (by decide) ?_
          refine lv_icmp_eq (tgt := 117) hx hb dX12_rowOf_51 (by decide) (fun c20 => ?_) (fun c20 => ?_)
          · replace ho := ite_t c20 ho
            exact J117 _ _ _ _ ho _ _ _ hW (lv_sub hl [2, 3, 4, 5, 6, 0] rfl)
          · replace ho := ite_f c20 ho
            refine lv_aload_n hx hb dX12_rowOf_54 rfl (lv_at hl 2 rfl) ?_
            refine lv_sipush (v := (701 : Int32)) hx hb dX12_rowOf_55 (by decide) ?_
            refine lv_sipush (v := (402 : Int32)) hx hb dX12_rowOf_58 (by decide) ?_
            refine lv_aload_n hx hb dX12_rowOf_61 rfl (lv_at hl 2 rfl) ?_
            refine lv_iload hx hb dX12_rowOf_62 (lv_at hl 6 rfl) ?_
            refine lv_iload_n hx hb dX12_rowOf_64 rfl (lv_at hl 4 rfl) ?_
            obtain ⟨q21, hc22, ho⟩ := bd_some ho
            refine bkI C0 hW (runV (As := [.int v4, .int v2]) (rest := [.int (402 : Int32), .int (701 : Int32), .ref (am 68)]) C0 hW (c_m_cell l _ t v4 v2 (r := q21) hc22) ca_X12_cell_411 0 12 rfl rfl rfl rfl rfl ⟨rfl, rfl⟩ ⟨Nat.le_of_ble_eq_true rfl, Nat.le_of_ble_eq_true rfl⟩ (Nat.le_of_ble_eq_true rfl) hl.1 dX12_rowOf_65 ⟨Nat.le_of_ble_eq_true rfl, Nat.le_of_ble_eq_true rfl⟩) (fun H locs hW => ?_)
            refine lv_iadd hx hb dX12_rowOf_68 ?_
            refine lv_sipush (v := (402 : Int32)) hx hb dX12_rowOf_69 (by decide) ?_
            refine lv_aload_n hx hb dX12_rowOf_72 rfl (lv_at hl 2 rfl) ?_
            refine lv_iload_n hx hb dX12_rowOf_73 rfl (lv_at hl 5 rfl) ?_
            refine lv_iload_n hx hb dX12_rowOf_74 rfl (lv_at hl 3 rfl) ?_
            obtain ⟨q23, hc24, ho⟩ := bd_some ho
            refine bkI C0 hW (runV (As := [.int v3, .int v1]) (rest := [.int (402 : Int32), .int ((402 : Int32) + q21), .int (701 : Int32), .ref (am 68)]) C0 hW (c_m_cell l _ t v3 v1 (r := q23) hc24) ca_X12_cell_411 0 12 rfl rfl rfl rfl rfl ⟨rfl, rfl⟩ ⟨Nat.le_of_ble_eq_true rfl, Nat.le_of_ble_eq_true rfl⟩ (Nat.le_of_ble_eq_true rfl) hl.1 dX12_rowOf_75 ⟨Nat.le_of_ble_eq_true rfl, Nat.le_of_ble_eq_true rfl⟩) (fun H locs hW => ?_)
            refine lv_iadd hx hb dX12_rowOf_78 ?_
            obtain ⟨q25, hc26, ho⟩ := bd_some ho
            refine bkV C0 hW (runV (As := [.int (701 : Int32), .int ((402 : Int32) + q21), .int ((402 : Int32) + q23)]) (rest := []) C0 hW (c_m_multiplies l _ t (701 : Int32) ((402 : Int32) + q21) ((402 : Int32) + q23) (t' := q25) hc26) ca_X12_multiplies_414 0 12 rfl rfl rfl rfl rfl ⟨rfl, rfl⟩ ⟨Nat.le_of_ble_eq_true rfl, Nat.le_of_ble_eq_true rfl⟩ (Nat.le_of_ble_eq_true rfl) hl.1 dX12_rowOf_79 ⟨Nat.le_of_ble_eq_true rfl, Nat.le_of_ble_eq_true rfl⟩) (fun H locs hW => ?_)
            refine lv_aload_n hx hb dX12_rowOf_82 rfl (lv_at hl 2 rfl) ?_
            refine lv_sipush (v := (702 : Int32)) hx hb dX12_rowOf_83 (by decide) ?_
            refine lv_sipush (v := (402 : Int32)) hx hb dX12_rowOf_86 (by decide) ?_
            refine lv_aload_n hx hb dX12_rowOf_89 rfl (lv_at hl 2 rfl) ?_
            refine lv_iload_n hx hb dX12_rowOf_90 rfl (lv_at hl 5 rfl) ?_
            refine lv_iload_n hx hb dX12_rowOf_91 rfl (lv_at hl 4 rfl) ?_
            obtain ⟨q27, hc28, ho⟩ := bd_some ho
            refine bkI C0 hW (runV (As := [.int v3, .int v2]) (rest := [.int (402 : Int32), .int (702 : Int32), .ref (am 68)]) C0 hW (c_m_cell l _ q25 v3 v2 (r := q27) hc28) ca_X12_cell_411 0 12 rfl rfl rfl rfl rfl ⟨rfl, rfl⟩ ⟨Nat.le_of_ble_eq_true rfl, Nat.le_of_ble_eq_true rfl⟩ (Nat.le_of_ble_eq_true rfl) hl.1 dX12_rowOf_92 ⟨Nat.le_of_ble_eq_true rfl, Nat.le_of_ble_eq_true rfl⟩) (fun H locs hW => ?_)
            refine lv_iadd hx hb dX12_rowOf_95 ?_
            refine lv_sipush (v := (402 : Int32)) hx hb dX12_rowOf_96 (by decide) ?_
            refine lv_iload hx hb dX12_rowOf_99 (lv_at hl 1 rfl) ?_
            refine lv_iadd hx hb dX12_rowOf_101 ?_
            obtain ⟨q29, hc30, ho⟩ := bd_some ho
            refine bkV C0 hW (runV (As := [.int (702 : Int32), .int ((402 : Int32) + q27), .int ((402 : Int32) + q10)]) (rest := []) C0 hW (c_m_multiplies l _ q25 (702 : Int32) ((402 : Int32) + q27) ((402 : Int32) + q10) (t' := q29) hc30) ca_X12_multiplies_414 0 12 rfl rfl rfl rfl rfl ⟨rfl, rfl⟩ ⟨Nat.le_of_ble_eq_true rfl, Nat.le_of_ble_eq_true rfl⟩ (Nat.le_of_ble_eq_true rfl) hl.1 dX12_rowOf_102 ⟨Nat.le_of_ble_eq_true rfl, Nat.le_of_ble_eq_true rfl⟩) (fun H locs hW => ?_)
            refine lv_aload_n hx hb dX12_rowOf_105 rfl (lv_at hl 2 rfl) ?_
            refine lv_sipush (v := (701 : Int32)) hx hb dX12_rowOf_106 (by decide) ?_
            refine lv_sipush (v := (702 : Int32)) hx hb dX12_rowOf_109 (by decide) ?_
            obtain ⟨q31, hc32, ho⟩ := bd_some ho
            refine bkI C0 hW (runV (As := [.int (701 : Int32), .int (702 : Int32)]) (rest := []) C0 hW (c_m_against l _ q29 (701 : Int32) (702 : Int32) (r := q31) hc32) ca_X12_against_327 0 12 rfl rfl rfl rfl rfl ⟨rfl, rfl⟩ ⟨Nat.le_of_ble_eq_true rfl, Nat.le_of_ble_eq_true rfl⟩ (Nat.le_of_ble_eq_true rfl) hl.1 dX12_rowOf_112 ⟨Nat.le_of_ble_eq_true rfl, Nat.le_of_ble_eq_true rfl⟩) (fun H locs hW => ?_)
            refine lv_istore (lv' := [(6, .int q31), (5, .int q10), (0, .ref (am 68)), (1, .int v1), (2, .int v2), (3, .int v3), (4, .int v4)]) hx hb dX12_rowOf_115 hl (by decide) rfl (fun ls hl => ?_)
            exact J117 _ _ _ _ ho _ _ _ hW (lv_sub hl [2, 3, 4, 5, 6, 0] rfl)
set_option maxHeartbeats 4000000 in
set_option maxRecDepth 100000 in
theorem c_m_rowOf (l : Launch) {D : va_G} {cI cJ cZ : ClassId} {am : Nat → Nat} (sz : Nat) (t : St) (a1 : Int32) (a2 : Int32) {r : Int32} {t' : St} (ho : m_rowOf t a1 a2 = some (r, t')) : Met l yX12_rowOf (.code yX12_rowOf cX12_rowOf 7 (some .int) :: wsAll) (rmN 2 52) (va_Pc [.ref (am 68), .int a1, .int a2] (prW D (tyM cI cJ cZ) (wM cI cJ cZ am t) sz)) (qI r D (tyM cI cJ cZ) (wM cI cJ cZ am t') (va_A (wM cI cJ cZ am t) sz)) 0 0 (va_A (wM cI cJ cZ am t) sz) := by
  refine Met.ofW (cc := cX12_rowOf) (maxL := 7) (ret := (some .int)) (by decide) rfl ?_
  intro p e s m args below meth c s₁ B hml hv
  obtain ⟨rfl, hsz, hP, hK, hD0⟩ := hv
  have hx := B.exec
  have hb := B.bytes
  have hts := atoms_spec (ws := (.code yX12_rowOf cX12_rowOf 7 (some .int) :: wsAll)) B.pre
  have hta := fun w h => hts w (List.mem_cons_of_mem _ h)
  have hown : s.vm.findClass RX12 = some m.cls := findClass_of_methodNamed B.named
  have hlocks := B.notSynchronized
  subst hsz
  have hD := hD0.self (sz := s.heap.size)
  generalize hAe : va_A (wM cI cJ cZ am t) s.heap.size = A at hD ⊢
  have hA : ∀ q : Nat, s.heap.size ≤ q → A q := fun q h => by rw [← hAe]; exact Or.inr h
  have C0 : cx p s m ([.ref (am 68), .int a1, .int a2].toArray) meth c cX12_rowOf RX12 7 (some .int) D (tyM cI cJ cZ) A := ⟨hx, hb, B.returns, hml, hown, hta, hlocks, hK, hA⟩
  have hW : wl D A s (wM cI cJ cZ am t) s.heap [] := ⟨hP, hD, va_S.rf⟩
  have hl := lv_entry [.ref (am 68), .int a1, .int a2] (n := 7) (Nat.le_of_ble_eq_true rfl)
  rw [lg_entry_eq]
  generalize (lg_sl [.ref (am 68), .int a1, .int a2] ++ List.replicate (7 - (lg_sl [.ref (am 68), .int a1, .int a2]).length) Slot.unset).toArray = ls at hl ⊢
  have hl : lv_has ls 7 [(0, .ref (am 68)), (1, .int a1), (2, .int a2)] := hl
  unfold m_rowOf at ho
  refine lv_iconst (v := (-1 : Int32)) hx hb dX12_rowOf_0 (by decide) ?_
  refine lv_istore_n (lv' := [(3, .int (-1 : Int32)), (0, .ref (am 68)), (1, .int a1), (2, .int a2)]) hx hb dX12_rowOf_1 rfl hl (by decide) rfl (fun ls hl => ?_)
  refine lv_iconst (v := (0 : Int32)) hx hb dX12_rowOf_2 (by decide) ?_
  refine lv_istore (lv' := [(4, .int (0 : Int32)), (3, .int (-1 : Int32)), (0, .ref (am 68)), (1, .int a1), (2, .int a2)]) hx hb dX12_rowOf_3 hl (by decide) rfl (fun ls hl => ?_)
  obtain ⟨y33, hc35, ho⟩ := bd_some ho
  obtain ⟨ny33, hc35⟩ := lp_to hc35
  refine m_rowOf_L5 C0 ?_ ny33 _ _ _ hc35 _ _ _ hW (lv_sub hl [2, 3, 4, 1, 0] rfl)
  intro H locs ls hW hl
  refine lv_iload_n hx hb dX12_rowOf_156 rfl (lv_at hl 1 rfl) ?_
  cases ho
  exact rtI C0 hW dX12_rowOf_157
noncomputable def m_plays_B176 (t : St) (v1 : Int32) (v2 : Int32) (v4 : Int32) : Option ((Int32) ⊕ (Int32)) :=
  if v2 ≤ v4 then (some (.inr v4)) else ((m_cell t (gI t 50) v4).bind (fun q2 => gd q2 400 (if (gA t 52 (q2).toNatClampNeg) = 0 then (nm (v4 + (1 : Int32)) (fun x6 : Int32 => some (.inl x6))) else (some (.inr v4)))))
noncomputable def m_plays_J217 (t : St) (v1 : Int32) (v2 : Int32) (v4 : Int32) (w0 : Int32) : Option ((Int32 × St) ⊕ (St)) :=
  if w0 = 0 then (some (.inl (w0, t))) else ((m_rowOf t v4 v2).bind (fun q8 => (m_turns q8.2 q8.1 v4 v1).bind (fun q10 => some (.inl (w0, q10)))))
noncomputable def m_plays_B169 (v1 : Int32) (v2 : Int32) (v3 : Int32) (t : St) : Option ((Int32 × St) ⊕ (St)) :=
  if v3 = 0 then (some (.inr t)) else ((lp (fun x => m_plays_B176 t v1 v2 x) (0 : Int32)).bind (fun y13 => if v2 ≤ y13 then (m_plays_J217 t v1 v2 y13 (0 : Int32)) else (m_plays_J217 t v1 v2 y13 (1 : Int32))))
noncomputable def m_plays_J124 (t : St) (v1 : Int32) (v2 : Int32) (v3 : Int32) (v4 : Int32) (w1 : Int32) (w2 : Int32) (w3 : Int32) : Option ((Int32 × St) ⊕ (St)) :=
  (m_setsCell t w1 w2 w3).bind (fun q17 => nm (v4 + (1 : Int32)) (fun x19 : Int32 => some (.inl (x19, q17))))
noncomputable def m_plays_J119 (t : St) (v1 : Int32) (v2 : Int32) (v3 : Int32) (v4 : Int32) (w1 : Int32) (w2 : Int32) : Option ((Int32 × St) ⊕ (St)) :=
  m_plays_J124 t v1 v2 v3 v4 w1 w2 (1 : Int32)
noncomputable def m_plays_J48 (t : St) (v1 : Int32) (v2 : Int32) (v3 : Int32) (v4 : Int32) (w0 : Int32) : Option ((Int32 × St) ⊕ (St)) :=
  if w0 = 0 then (if (gI t 31) ≤ v4 then (if v4 = v2 then (m_plays_J119 t v1 v2 v3 v4 v3 v4) else (if v4 = ((gI t 31) + v3) then (m_plays_J119 t v1 v2 v3 v4 v3 v4) else (m_plays_J124 t v1 v2 v3 v4 v3 v4 (0 : Int32)))) else (gd v4 200 ((m_greatest t v3 (gA t 30 (v4).toNatClampNeg)).bind (fun q25 => m_plays_J124 t v1 v2 v3 v4 v3 v4 (q25 + (1 : Int32)))))) else (if (gI t 31) ≤ v4 then (m_plays_J124 t v1 v2 v3 v4 v3 v4 (0 : Int32)) else (m_plays_J124 t v1 v2 v3 v4 v3 v4 (-1 : Int32)))
noncomputable def m_plays_B29 (v1 : Int32) (v2 : Int32) (v3 : Int32) (v4 : Int32) (t : St) : Option ((Int32 × St) ⊕ (St)) :=
  if v1 ≤ v4 then (some (.inr t)) else (if v3 = (gI t 50) then (m_plays_J48 t v1 v2 v3 v4 (1 : Int32)) else (m_plays_J48 t v1 v2 v3 v4 (0 : Int32)))
noncomputable def m_plays_B18 (v1 : Int32) (v2 : Int32) (v3 : Int32) (t : St) : Option ((Int32 × St) ⊕ (St)) :=
  if (gI t 50) < v3 then (some (.inr t)) else ((lp (fun x => m_plays_B29 v1 v2 v3 x.1 x.2) ((0 : Int32), t)).bind (fun y31 => if (gI y31 50) ≤ v3 then (nm (v3 + (1 : Int32)) (fun x35 : Int32 => some (.inl (x35, y31)))) else (gd v3 6 (nm (sA y31 53 v3 ((gI y31 31) + v3)) (fun t37 : St => nm (v3 + (1 : Int32)) (fun x38 : Int32 => some (.inl (x38, t37))))))))
noncomputable def m_plays (t : St) : Option (St) :=
  nm (((gI t 31) + (gI t 50)) + (1 : Int32)) (fun x39 : Int32 => nm (x39 - (1 : Int32)) (fun x40 : Int32 => (lp (fun x => m_plays_B18 x39 x40 x.1 x.2) ((0 : Int32), t)).bind (fun y41 => (m_puts y41 (700 : Int32) (1 : Int32)).bind (fun q44 => (lp (fun x => m_plays_B169 x39 x40 x.1 x.2) ((1 : Int32), q44)).bind (fun y46 => (m_takes y46 (4507 : Int32) (700 : Int32)).bind (fun q49 => (m_cell q49 (gI q49 50) x40).bind (fun q51 => (m_lessens q49 (4507 : Int32) ((402 : Int32) + q51)).bind (fun q53 => (m_cell q53 (gI q53 50) x40).bind (fun q55 => (m_takes q53 (4505 : Int32) ((402 : Int32) + q55)).bind (fun q57 => (m_tells q57 (4507 : Int32) (4505 : Int32)).bind (fun q59 => some q59)))))))))))
set_option maxHeartbeats 4000000 in
set_option maxRecDepth 100000 in
theorem m_plays_L176 {p : Program} {l : Launch} {e : Env} {s : State} {m : MethodId} {args : Array Value} {below : List Frame} {meth : Method} {c : Code} {Q : State → Prop} {D : va_G} {cI cJ cZ : ClassId} {am : Nat → Nat} {A : Nat → Prop} (C0 : cx p s m args meth c cX12_plays RX12 6 none D (tyM cI cJ cZ) A) {t : St} {v1 : Int32} {v2 : Int32} {y : Int32} (hK0 : ∀ (H : Heap) (locs : List Loc) (ls : Array Slot), wl D A s (wM cI cJ cZ am t) H locs → lv_has ls 6 [(0, .ref (am 68)), (1, .int v1), (2, .int v2), (4, .int y)] → W p l e (rmN 4 107) s m args below meth c H locs 0 0 Q (F0 m 206 ls [])) :
    ∀ (n : Nat) (v4 : Int32), lpn (fun x => m_plays_B176 t v1 v2 x) n v4 = some y → ∀ (H : Heap) (locs : List Loc) (ls : Array Slot), wl D A s (wM cI cJ cZ am t) H locs → lv_has ls 6 [(0, .ref (am 68)), (1, .int v1), (2, .int v2), (4, .int v4)] → W p l e (rmN 4 107) s m args below meth c H locs 0 0 Q (F0 m 176 ls []) := by
  have hx := C0.1
  have hb := C0.2.1
  have hta := C0.2.2.2.2.2.1
  have hown := C0.2.2.2.2.1
  intro n
  induction n with
  | zero => intro _ h; cases h
  | succ n ih =>
    intro v4 hrun H locs ls hW hl
    obtain ⟨o, ho, hrun⟩ := bd_some hrun
    unfold m_plays_B176 at ho
    refine lv_iload hx hb dX12_plays_176 (lv_at hl 3 rfl) ?_
    refine lv_iload_n hx hb dX12_plays_178 rfl (lv_at hl 2 rfl) ?_
    refine lv_icmp_ge (tgt := 206) hx hb dX12_plays_179 (by decide) (fun c1 => ?_) (fun c1 => ?_)
    · replace ho := ite_t c1 ho
      cases ho
      cases hrun
      exact hK0 _ _ _ hW (lv_sub hl [0, 1, 2, 3] rfl)
    · replace ho := ite_f c1 ho
      refine lv_aload_n hx hb dX12_plays_182 rfl (lv_at hl 0 rfl) ?_
      refine mGET_52 C0 hW dX12_plays_183 ?_
      refine lv_aload_n hx hb dX12_plays_186 rfl (lv_at hl 0 rfl) ?_
      refine lv_aload_n hx hb dX12_plays_187 rfl (lv_at hl 0 rfl) ?_
      refine mGET_50 C0 hW dX12_plays_188 ?_
      refine lv_iload hx hb dX12_plays_191 (lv_at hl 3 rfl) ?_
      obtain ⟨q2, hc3, ho⟩ := bd_some ho
      refine bkI C0 hW (runV (As := [.int (gI t 50), .int v4]) (rest := [.ref (am 52)]) C0 hW (c_m_cell l _ t (gI t 50) v4 (r := q2) hc3) ca_X12_cell_411 0 12 rfl rfl rfl rfl rfl ⟨rfl, rfl⟩ ⟨Nat.le_of_ble_eq_true rfl, Nat.le_of_ble_eq_true rfl⟩ (Nat.le_of_ble_eq_true rfl) hl.1 dX12_plays_193 ⟨Nat.le_of_ble_eq_true rfl, Nat.le_of_ble_eq_true rfl⟩) (fun H locs hW => ?_)
      obtain ⟨g4, ho⟩ := gd_some ho
      refine mLD_52 C0 hW g4 dX12_plays_196 ?_
      refine lv_if_ne (tgt := 206) hx hb dX12_plays_197 (by decide) (fun c5 => ?_) (fun c5 => ?_)
      · replace ho := ite_f c5 ho
        cases ho
        cases hrun
        exact hK0 _ _ _ hW (lv_sub hl [0, 1, 2, 3] rfl)
      · replace ho := ite_t c5 ho
        obtain ⟨x6, ex6, ho⟩ := nm_x ho
        refine lv_iinc (v := x6) (lv' := [(4, .int x6), (0, .ref (am 68)), (1, .int v1), (2, .int v2)]) hx hb dX12_plays_200 hl (k := 3) rfl (by rw [ex6]; rfl) (by decide) rfl (fun ls hl => ?_)
        clear ex6
        refine lv_goto (tgt := 176) hx hb dX12_plays_203 (by decide) ?_
        cases ho
        exact ih _ hrun _ _ _ hW (lv_sub hl [1, 2, 3, 0] rfl)
set_option maxHeartbeats 4000000 in
set_option maxRecDepth 100000 in
theorem m_plays_L169 {p : Program} {l : Launch} {e : Env} {s : State} {m : MethodId} {args : Array Value} {below : List Frame} {meth : Method} {c : Code} {Q : State → Prop} {D : va_G} {cI cJ cZ : ClassId} {am : Nat → Nat} {A : Nat → Prop} (C0 : cx p s m args meth c cX12_plays RX12 6 none D (tyM cI cJ cZ) A) {v1 : Int32} {v2 : Int32} {y : St} (hK0 : ∀ (H : Heap) (locs : List Loc) (ls : Array Slot), wl D A s (wM cI cJ cZ am y) H locs → lv_has ls 6 [(0, .ref (am 68)), (2, .int v2)] → W p l e (rmN 4 107) s m args below meth c H locs 0 0 Q (F0 m 239 ls [])) :
    ∀ (n : Nat) (v3 : Int32) (t : St), lpn (fun x => m_plays_B169 v1 v2 x.1 x.2) n (v3, t) = some y → ∀ (H : Heap) (locs : List Loc) (ls : Array Slot), wl D A s (wM cI cJ cZ am t) H locs → lv_has ls 6 [(0, .ref (am 68)), (1, .int v1), (2, .int v2), (3, .int v3)] → W p l e (rmN 4 107) s m args below meth c H locs 0 0 Q (F0 m 169 ls []) := by
  have hx := C0.1
  have hb := C0.2.1
  have hta := C0.2.2.2.2.2.1
  have hown := C0.2.2.2.2.1
  intro n
  induction n with
  | zero => intro _ _ h; cases h
  | succ n ih =>
    intro v3 t hrun H locs ls hW hl
    obtain ⟨o, ho, hrun⟩ := bd_some hrun
    have J217 : ∀ (t : St) (v4 : Int32) (w0 : Int32) (_ : m_plays_J217 t v1 v2 v4 w0 = some o) (H : Heap) (locs : List Loc) (ls : Array Slot), wl D A s (wM cI cJ cZ am t) H locs → lv_has ls 6 [(0, .ref (am 68)), (1, .int v1), (2, .int v2), (4, .int v4)] → W p l e (rmN 4 107) s m args below meth c H locs 0 0 Q (F0 m 217 ls [.int w0]) := by
      intro t v4 w0 ho H locs ls hW hl
      unfold m_plays_J217 at ho
      refine lv_istore_n (lv' := [(3, .int w0), (0, .ref (am 68)), (1, .int v1), (2, .int v2), (4, .int v4)]) hx hb dX12_plays_217 rfl hl (by decide) rfl (fun ls hl => ?_)
      refine lv_iload_n hx hb dX12_plays_218 rfl (lv_at hl 0 rfl) ?_
      refine lv_if_eq (tgt := 236) hx hb dX12_plays_219 (by decide) (fun c7 => ?_) (fun c7 => ?_)
      · replace ho := ite_t c7 ho
        refine lv_goto (tgt := 169) hx hb dX12_plays_236 (by decide) ?_
        cases ho
        exact ih _ _ hrun _ _ _ hW (lv_sub hl [1, 2, 3, 0] rfl)
      · replace ho := ite_f c7 ho
        refine lv_aload_n hx hb dX12_plays_222 rfl (lv_at hl 1 rfl) ?_
        refine lv_aload_n hx hb dX12_plays_223 rfl (lv_at hl 1 rfl) ?_
        refine lv_iload hx hb dX12_plays_224 (lv_at hl 4 rfl) ?_
        refine lv_iload_n hx hb dX12_plays_226 rfl (lv_at hl 3 rfl) ?_
        obtain ⟨q8, hc9, ho⟩ := bd_some ho
        refine bkI C0 hW (runV (As := [.int v4, .int v2]) (rest := [.ref (am 68)]) C0 hW (c_m_rowOf l _ t v4 v2 (r := q8.1) (t' := q8.2) hc9) ca_X12_rowOf_427 0 12 rfl rfl rfl rfl rfl ⟨rfl, rfl⟩ ⟨Nat.le_of_ble_eq_true rfl, Nat.le_of_ble_eq_true rfl⟩ (Nat.le_of_ble_eq_true rfl) hl.1 dX12_plays_227 ⟨Nat.le_of_ble_eq_true rfl, Nat.le_of_ble_eq_true rfl⟩) (fun H locs hW => ?_)
        refine lv_iload hx hb dX12_plays_230 (lv_at hl 4 rfl) ?_
        refine lv_iload_n hx hb dX12_plays_232 rfl (lv_at hl 2 rfl) ?_
        obtain ⟨q10, hc11, ho⟩ := bd_some ho
        refine bkV C0 hW (runV (As := [.int q8.1, .int v4, .int v1]) (rest := []) C0 hW (c_m_turns l _ q8.2 q8.1 v4 v1 (t' := q10) hc11) ca_X12_turns_430 0 12 rfl rfl rfl rfl rfl ⟨rfl, rfl⟩ ⟨Nat.le_of_ble_eq_true rfl, Nat.le_of_ble_eq_true rfl⟩ (Nat.le_of_ble_eq_true rfl) hl.1 dX12_plays_233 ⟨Nat.le_of_ble_eq_true rfl, Nat.le_of_ble_eq_true rfl⟩) (fun H locs hW => ?_)
        refine lv_goto (tgt := 169) hx hb dX12_plays_236 (by decide) ?_
        cases ho
        exact ih _ _ hrun _ _ _ hW (lv_sub hl [1, 2, 3, 0] rfl)
    unfold m_plays_B169 at ho
    refine lv_iload_n hx hb dX12_plays_169 rfl (lv_at hl 3 rfl) ?_
    refine lv_if_eq (tgt := 239) hx hb dX12_plays_170 (by decide) (fun c12 => ?_) (fun c12 => ?_)
    · replace ho := ite_t c12 ho
      cases ho
      cases hrun
      exact hK0 _ _ _ hW (lv_sub hl [0, 2] rfl)
    · replace ho := ite_f c12 ho
      refine lv_iconst (v := (0 : Int32)) hx hb dX12_plays_173 (by decide) ?_
      refine lv_istore (lv' := [(4, .int (0 : Int32)), (0, .ref (am 68)), (1, .int v1), (2, .int v2), (3, .int v3)]) hx hb dX12_plays_174 hl (by decide) rfl (fun ls hl => ?_)
      obtain ⟨y13, hc15, ho⟩ := bd_some ho
      obtain ⟨ny13, hc15⟩ := lp_to hc15
      refine m_plays_L176 C0 ?_ ny13 _ hc15 _ _ _ hW (lv_sub hl [1, 2, 3, 0] rfl)
      intro H locs ls hW hl
      refine lv_iload hx hb dX12_plays_206 (lv_at hl 3 rfl) ?_
      refine lv_iload_n hx hb dX12_plays_208 rfl (lv_at hl 2 rfl) ?_
      refine lv_icmp_ge (tgt := 216) hx hb dX12_plays_209 (by decide) (fun c16 => ?_) (fun c16 => ?_)
      · replace ho := ite_t c16 ho
        refine lv_iconst (v := (0 : Int32)) hx hb dX12_plays_216 (by decide) ?_
        exact J217 _ _ _ ho _ _ _ hW (lv_sub hl [0, 1, 2, 3] rfl)
      · replace ho := ite_f c16 ho
        refine lv_iconst (v := (1 : Int32)) hx hb dX12_plays_212 (by decide) ?_
        refine lv_goto (tgt := 217) hx hb dX12_plays_213 (by decide) ?_
        exact J217 _ _ _ ho _ _ _ hW (lv_sub hl [0, 1, 2, 3] rfl)
set_option maxHeartbeats 4000000 in
set_option maxRecDepth 100000 in
theorem m_plays_L29 {p : Program} {l : Launch} {e : Env} {s : State} {m : MethodId} {args : Array Value} {below : List Frame} {meth : Method} {c : Code} {Q : State → Prop} {D : va_G} {cI cJ cZ : ClassId} {am : Nat → Nat} {A : Nat → Prop} (C0 : cx p s m args meth c cX12_plays RX12 6 none D (tyM cI cJ cZ) A) {v1 : Int32} {v2 : Int32} {v3 : Int32} {y : St} (hK0 : ∀ (H : Heap) (locs : List Loc) (ls : Array Slot), wl D A s (wM cI cJ cZ am y) H locs → lv_has ls 6 [(0, .ref (am 68)), (1, .int v1), (2, .int v2), (3, .int v3)] → W p l e (rmN 4 107) s m args below meth c H locs 0 0 Q (F0 m 133 ls [])) :
    ∀ (n : Nat) (v4 : Int32) (t : St), lpn (fun x => m_plays_B29 v1 v2 v3 x.1 x.2) n (v4, t) = some y → ∀ (H : Heap) (locs : List Loc) (ls : Array Slot), wl D A s (wM cI cJ cZ am t) H locs → lv_has ls 6 [(0, .ref (am 68)), (1, .int v1), (2, .int v2), (3, .int v3), (4, .int v4)] → W p l e (rmN 4 107) s m args below meth c H locs 0 0 Q (F0 m 29 ls []) := by
  have hx := C0.1
  have hb := C0.2.1
  have hta := C0.2.2.2.2.2.1
  have hown := C0.2.2.2.2.1
  intro n
  induction n with
  | zero => intro _ _ h; cases h
  | succ n ih =>
    intro v4 t hrun H locs ls hW hl
    obtain ⟨o, ho, hrun⟩ := bd_some hrun
    have J124 : ∀ (t : St) (v4 : Int32) (w1 : Int32) (w2 : Int32) (w3 : Int32) (_ : m_plays_J124 t v1 v2 v3 v4 w1 w2 w3 = some o) (H : Heap) (locs : List Loc) (ls : Array Slot), wl D A s (wM cI cJ cZ am t) H locs → lv_has ls 6 [(0, .ref (am 68)), (1, .int v1), (2, .int v2), (3, .int v3), (4, .int v4)] → W p l e (rmN 4 107) s m args below meth c H locs 0 0 Q (F0 m 124 ls [.int w3, .int w2, .int w1, .ref (am 68)]) := by
      intro t v4 w1 w2 w3 ho H locs ls hW hl
      unfold m_plays_J124 at ho
      obtain ⟨q17, hc18, ho⟩ := bd_some ho
      refine bkV C0 hW (runV (As := [.int w1, .int w2, .int w3]) (rest := []) C0 hW (c_m_setsCell l _ t w1 w2 w3 (t' := q17) hc18) ca_X12_setsCell_424 0 12 rfl rfl rfl rfl rfl ⟨rfl, rfl⟩ ⟨Nat.le_of_ble_eq_true rfl, Nat.le_of_ble_eq_true rfl⟩ (Nat.le_of_ble_eq_true rfl) hl.1 dX12_plays_124 ⟨Nat.le_of_ble_eq_true rfl, Nat.le_of_ble_eq_true rfl⟩) (fun H locs hW => ?_)
      obtain ⟨x19, ex19, ho⟩ := nm_x ho
      refine lv_iinc (v := x19) (lv' := [(4, .int x19), (0, .ref (am 68)), (1, .int v1), (2, .int v2), (3, .int v3)]) hx hb dX12_plays_127 hl (k := 4) rfl (by rw [ex19]; rfl) (by decide) rfl (fun ls hl => ?_)
      clear ex19
      refine lv_goto (tgt := 29) hx hb dX12_plays_130 (by decide) ?_
      cases ho
      exact ih _ _ hrun _ _ _ hW (lv_sub hl [1, 2, 3, 4, 0] rfl)
    have J119 : ∀ (t : St) (v4 : Int32) (w1 : Int32) (w2 : Int32) (_ : m_plays_J119 t v1 v2 v3 v4 w1 w2 = some o) (H : Heap) (locs : List Loc) (ls : Array Slot), wl D A s (wM cI cJ cZ am t) H locs → lv_has ls 6 [(0, .ref (am 68)), (1, .int v1), (2, .int v2), (3, .int v3), (4, .int v4)] → W p l e (rmN 4 107) s m args below meth c H locs 0 0 Q (F0 m 119 ls [.int w2, .int w1, .ref (am 68)]) := by
      intro t v4 w1 w2 ho H locs ls hW hl
      unfold m_plays_J119 at ho
      refine lv_iconst (v := (1 : Int32)) hx hb dX12_plays_119 (by decide) ?_
      refine lv_goto (tgt := 124) hx hb dX12_plays_120 (by decide) ?_
      exact J124 _ _ _ _ _ ho _ _ _ hW (lv_sub hl [0, 1, 2, 3, 4] rfl)
    have J48 : ∀ (t : St) (v4 : Int32) (w0 : Int32) (_ : m_plays_J48 t v1 v2 v3 v4 w0 = some o) (H : Heap) (locs : List Loc) (ls : Array Slot), wl D A s (wM cI cJ cZ am t) H locs → lv_has ls 6 [(0, .ref (am 68)), (1, .int v1), (2, .int v2), (3, .int v3), (4, .int v4)] → W p l e (rmN 4 107) s m args below meth c H locs 0 0 Q (F0 m 48 ls [.int w0]) := by
      intro t v4 w0 ho H locs ls hW hl
      unfold m_plays_J48 at ho
      refine lv_istore (lv' := [(5, .int w0), (0, .ref (am 68)), (1, .int v1), (2, .int v2), (3, .int v3), (4, .int v4)]) hx hb dX12_plays_48 hl (by decide) rfl (fun ls hl => ?_)
      refine lv_aload_n hx hb dX12_plays_50 rfl (lv_at hl 1 rfl) ?_
      refine lv_iload_n hx hb dX12_plays_51 rfl (lv_at hl 4 rfl) ?_
      refine lv_iload hx hb dX12_plays_52 (lv_at hl 5 rfl) ?_
      refine lv_iload hx hb dX12_plays_54 (lv_at hl 0 rfl) ?_
      refine lv_if_eq (tgt := 76) hx hb dX12_plays_56 (by decide) (fun c20 => ?_) (fun c20 => ?_)
      · replace ho := ite_t c20 ho
        refine lv_iload hx hb dX12_plays_76 (lv_at hl 5 rfl) ?_
        refine lv_aload_n hx hb dX12_plays_78 rfl (lv_at hl 1 rfl) ?_
        refine mGET_31 C0 hW dX12_plays_79 ?_
        refine lv_icmp_ge (tgt := 102) hx hb dX12_plays_82 (by decide) (fun c21 => ?_) (fun c21 => ?_)
        · replace ho := ite_t c21 ho
          refine lv_iload hx hb dX12_plays_102 (lv_at hl 5 rfl) ?_
          refine lv_iload_n hx hb dX12_plays_104 rfl (lv_at hl 3 rfl) ?_
          refine lv_icmp_eq (tgt := 119) hx hb dX12_plays_105 (by decide) (fun c22 => ?_) (fun c22 => ?_)
          · replace ho := ite_t c22 ho
            exact J119 _ _ _ _ ho _ _ _ hW (lv_sub hl [1, 2, 3, 4, 5] rfl)
          · replace ho := ite_f c22 ho
            refine lv_iload hx hb dX12_plays_108 (lv_at hl 5 rfl) ?_
            refine lv_aload_n hx hb dX12_plays_110 rfl (lv_at hl 1 rfl) ?_
            refine mGET_31 C0 hW dX12_plays_111 ?_
            refine lv_iload_n hx hb dX12_plays_114 rfl (lv_at hl 4 rfl) ?_
            refine lv_iadd hx hb dX12_plays_115 ?_
            refine lv_icmp_ne (tgt := 123) hx hb dX12_plays_116 (by decide) (fun c23 => ?_) (fun c23 => ?_)
            · replace ho := ite_f c23 ho
              refine lv_iconst (v := (0 : Int32)) hx hb dX12_plays_123 (by decide) ?_
              exact J124 _ _ _ _ _ ho _ _ _ hW (lv_sub hl [1, 2, 3, 4, 5] rfl)
            · replace ho := ite_t c23 ho
              exact J119 _ _ _ _ ho _ _ _ hW (lv_sub hl [1, 2, 3, 4, 5] rfl)
        · replace ho := ite_f c21 ho
          refine lv_aload_n hx hb dX12_plays_85 rfl (lv_at hl 1 rfl) ?_
          refine lv_iload_n hx hb dX12_plays_86 rfl (lv_at hl 4 rfl) ?_
          refine lv_aload_n hx hb dX12_plays_87 rfl (lv_at hl 1 rfl) ?_
          refine mGET_30 C0 hW dX12_plays_88 ?_
          refine lv_iload hx hb dX12_plays_91 (lv_at hl 5 rfl) ?_
          obtain ⟨g24, ho⟩ := gd_some ho
          refine mLD_30 C0 hW g24 dX12_plays_93 ?_
          obtain ⟨q25, hc26, ho⟩ := bd_some ho
          refine bkI C0 hW (runV (As := [.int v3, .int (gA t 30 (v4).toNatClampNeg)]) (rest := [.int v4, .int v3, .ref (am 68)]) C0 hW (c_m_greatest l _ t v3 (gA t 30 (v4).toNatClampNeg) (r := q25) hc26) ca_X12_greatest_421 0 12 rfl rfl rfl rfl rfl ⟨rfl, rfl⟩ ⟨Nat.le_of_ble_eq_true rfl, Nat.le_of_ble_eq_true rfl⟩ (Nat.le_of_ble_eq_true rfl) hl.1 dX12_plays_94 ⟨Nat.le_of_ble_eq_true rfl, Nat.le_of_ble_eq_true rfl⟩) (fun H locs hW => ?_)
          refine lv_iconst (v := (1 : Int32)) hx hb dX12_plays_97 (by decide) ?_
          refine lv_iadd hx hb dX12_plays_98 ?_
          refine lv_goto (tgt := 124) hx hb dX12_plays_99 (by decide) ?_
          exact J124 _ _ _ _ _ ho _ _ _ hW (lv_sub hl [1, 2, 3, 4, 5] rfl)
      · replace ho := ite_f c20 ho
        refine lv_iload hx hb dX12_plays_59 (lv_at hl 5 rfl) ?_
        refine lv_aload_n hx hb dX12_plays_61 rfl (lv_at hl 1 rfl) ?_
        refine mGET_31 C0 hW dX12_plays_62 ?_
        refine lv_icmp_ge (tgt := 72) hx hb dX12_plays_65 (by decide) (fun c27 => ?_) (fun c27 => ?_)
        · replace ho := ite_t c27 ho
          refine lv_iconst (v := (0 : Int32)) hx hb dX12_plays_72 (by decide) ?_
          refine lv_goto (tgt := 124) hx hb dX12_plays_73 (by decide) ?_
          exact J124 _ _ _ _ _ ho _ _ _ hW (lv_sub hl [1, 2, 3, 4, 5] rfl)
        · replace ho := ite_f c27 ho
          refine lv_iconst (v := (-1 : Int32)) hx hb dX12_plays_68 (by decide) ?_
          refine lv_goto (tgt := 124) hx hb dX12_plays_69 (by decide) ?_
          exact J124 _ _ _ _ _ ho _ _ _ hW (lv_sub hl [1, 2, 3, 4, 5] rfl)
    unfold m_plays_B29 at ho
    refine lv_iload hx hb dX12_plays_29 (lv_at hl 4 rfl) ?_
    refine lv_iload_n hx hb dX12_plays_31 rfl (lv_at hl 1 rfl) ?_
    refine lv_icmp_ge (tgt := 133) hx hb dX12_plays_32 (by decide) (fun c28 => ?_) (fun c28 => ?_)
    · replace ho := ite_t c28 ho
      cases ho
      cases hrun
      exact hK0 _ _ _ hW (lv_sub hl [0, 1, 2, 3] rfl)
    · replace ho := ite_f c28 ho
      refine lv_iload_n hx hb dX12_plays_35 rfl (lv_at hl 3 rfl) ?_
      refine lv_aload_n hx hb dX12_plays_36 rfl (lv_at hl 0 rfl) ?_
      refine mGET_50 C0 hW dX12_plays_37 ?_
      refine lv_icmp_ne (tgt := 47) hx hb dX12_plays_40 (by decide) (fun c29 => ?_) (fun c29 => ?_)
      · replace ho := ite_f c29 ho
        refine lv_iconst (v := (0 : Int32)) hx hb dX12_plays_47 (by decide) ?_
        exact J48 _ _ _ ho _ _ _ hW (lv_sub hl [0, 1, 2, 3, 4] rfl)
      · replace ho := ite_t c29 ho
        refine lv_iconst (v := (1 : Int32)) hx hb dX12_plays_43 (by decide) ?_
        refine lv_goto (tgt := 48) hx hb dX12_plays_44 (by decide) ?_
        exact J48 _ _ _ ho _ _ _ hW (lv_sub hl [0, 1, 2, 3, 4] rfl)
set_option maxHeartbeats 4000000 in
set_option maxRecDepth 100000 in
theorem m_plays_L18 {p : Program} {l : Launch} {e : Env} {s : State} {m : MethodId} {args : Array Value} {below : List Frame} {meth : Method} {c : Code} {Q : State → Prop} {D : va_G} {cI cJ cZ : ClassId} {am : Nat → Nat} {A : Nat → Prop} (C0 : cx p s m args meth c cX12_plays RX12 6 none D (tyM cI cJ cZ) A) {v1 : Int32} {v2 : Int32} {y : St} (hK0 : ∀ (H : Heap) (locs : List Loc) (ls : Array Slot), wl D A s (wM cI cJ cZ am y) H locs → lv_has ls 6 [(0, .ref (am 68)), (1, .int v1), (2, .int v2)] → W p l e (rmN 4 107) s m args below meth c H locs 0 0 Q (F0 m 159 ls [])) :
    ∀ (n : Nat) (v3 : Int32) (t : St), lpn (fun x => m_plays_B18 v1 v2 x.1 x.2) n (v3, t) = some y → ∀ (H : Heap) (locs : List Loc) (ls : Array Slot), wl D A s (wM cI cJ cZ am t) H locs → lv_has ls 6 [(0, .ref (am 68)), (1, .int v1), (2, .int v2), (3, .int v3)] → W p l e (rmN 4 107) s m args below meth c H locs 0 0 Q (F0 m 18 ls []) := by
  have hx := C0.1
  have hb := C0.2.1
  have hta := C0.2.2.2.2.2.1
  have hown := C0.2.2.2.2.1
  intro n
  induction n with
  | zero => intro _ _ h; cases h
  | succ n ih =>
    intro v3 t hrun H locs ls hW hl
    obtain ⟨o, ho, hrun⟩ := bd_some hrun
    unfold m_plays_B18 at ho
    refine lv_iload_n hx hb dX12_plays_18 rfl (lv_at hl 3 rfl) ?_
    refine lv_aload_n hx hb dX12_plays_19 rfl (lv_at hl 0 rfl) ?_
    refine mGET_50 C0 hW dX12_plays_20 ?_
    refine lv_icmp_gt (tgt := 159) hx hb dX12_plays_23 (by decide) (fun c30 => ?_) (fun c30 => ?_)
    · replace ho := ite_t c30 ho
      cases ho
      cases hrun
      exact hK0 _ _ _ hW (lv_sub hl [0, 1, 2] rfl)
    · replace ho := ite_f c30 ho
      refine lv_iconst (v := (0 : Int32)) hx hb dX12_plays_26 (by decide) ?_
      refine lv_istore (lv' := [(4, .int (0 : Int32)), (0, .ref (am 68)), (1, .int v1), (2, .int v2), (3, .int v3)]) hx hb dX12_plays_27 hl (by decide) rfl (fun ls hl => ?_)
      obtain ⟨y31, hc33, ho⟩ := bd_some ho
      obtain ⟨ny31, hc33⟩ := lp_to hc33
      refine m_plays_L29 C0 ?_ ny31 _ _ hc33 _ _ _ hW (lv_sub hl [1, 2, 3, 4, 0] rfl)
      intro H locs ls hW hl
      refine lv_iload_n hx hb dX12_plays_133 rfl (lv_at hl 3 rfl) ?_
      refine lv_aload_n hx hb dX12_plays_134 rfl (lv_at hl 0 rfl) ?_
      refine mGET_50 C0 hW dX12_plays_135 ?_
      refine lv_icmp_ge (tgt := 153) hx hb dX12_plays_138 (by decide) (fun c34 => ?_) (fun c34 => ?_)
      · replace ho := ite_t c34 ho
        obtain ⟨x35, ex35, ho⟩ := nm_x ho
        refine lv_iinc (v := x35) (lv' := [(3, .int x35), (0, .ref (am 68)), (1, .int v1), (2, .int v2)]) hx hb dX12_plays_153 hl (k := 3) rfl (by rw [ex35]; rfl) (by decide) rfl (fun ls hl => ?_)
        clear ex35
        refine lv_goto (tgt := 18) hx hb dX12_plays_156 (by decide) ?_
        cases ho
        exact ih _ _ hrun _ _ _ hW (lv_sub hl [1, 2, 3, 0] rfl)
      · replace ho := ite_f c34 ho
        refine lv_aload_n hx hb dX12_plays_141 rfl (lv_at hl 0 rfl) ?_
        refine mGET_53 C0 hW dX12_plays_142 ?_
        refine lv_iload_n hx hb dX12_plays_145 rfl (lv_at hl 3 rfl) ?_
        refine lv_aload_n hx hb dX12_plays_146 rfl (lv_at hl 0 rfl) ?_
        refine mGET_31 C0 hW dX12_plays_147 ?_
        refine lv_iload_n hx hb dX12_plays_150 rfl (lv_at hl 3 rfl) ?_
        refine lv_iadd hx hb dX12_plays_151 ?_
        obtain ⟨g36, ho⟩ := gd_some ho
        refine mST_53 C0 hW g36 dX12_plays_152 (fun H locs hW => ?_)
        obtain ⟨t37, ho, hW⟩ := nm_w (P := fun t => wl D A s (wM cI cJ cZ am t) H locs) ho hW
        obtain ⟨x38, ex38, ho⟩ := nm_x ho
        refine lv_iinc (v := x38) (lv' := [(3, .int x38), (0, .ref (am 68)), (1, .int v1), (2, .int v2)]) hx hb dX12_plays_153 hl (k := 3) rfl (by rw [ex38]; rfl) (by decide) rfl (fun ls hl => ?_)
        clear ex38
        refine lv_goto (tgt := 18) hx hb dX12_plays_156 (by decide) ?_
        cases ho
        exact ih _ _ hrun _ _ _ hW (lv_sub hl [1, 2, 3, 0] rfl)
set_option maxHeartbeats 4000000 in
set_option maxRecDepth 100000 in
theorem c_m_plays (l : Launch) {D : va_G} {cI cJ cZ : ClassId} {am : Nat → Nat} (sz : Nat) (t : St) {t' : St} (ho : m_plays t = some t') : Met l yX12_plays (.code yX12_plays cX12_plays 6 none :: wsAll) (rmN 4 107) (va_Pc [.ref (am 68)] (prW D (tyM cI cJ cZ) (wM cI cJ cZ am t) sz)) (qV D (tyM cI cJ cZ) (wM cI cJ cZ am t') (va_A (wM cI cJ cZ am t) sz)) 0 0 (va_A (wM cI cJ cZ am t) sz) := by
  refine Met.ofW (cc := cX12_plays) (maxL := 6) (ret := none) (by decide) rfl ?_
  intro p e s m args below meth c s₁ B hml hv
  obtain ⟨rfl, hsz, hP, hK, hD0⟩ := hv
  have hx := B.exec
  have hb := B.bytes
  have hts := atoms_spec (ws := (.code yX12_plays cX12_plays 6 none :: wsAll)) B.pre
  have hta := fun w h => hts w (List.mem_cons_of_mem _ h)
  have hown : s.vm.findClass RX12 = some m.cls := findClass_of_methodNamed B.named
  have hlocks := B.notSynchronized
  subst hsz
  have hD := hD0.self (sz := s.heap.size)
  generalize hAe : va_A (wM cI cJ cZ am t) s.heap.size = A at hD ⊢
  have hA : ∀ q : Nat, s.heap.size ≤ q → A q := fun q h => by rw [← hAe]; exact Or.inr h
  have C0 : cx p s m ([.ref (am 68)].toArray) meth c cX12_plays RX12 6 none D (tyM cI cJ cZ) A := ⟨hx, hb, B.returns, hml, hown, hta, hlocks, hK, hA⟩
  have hW : wl D A s (wM cI cJ cZ am t) s.heap [] := ⟨hP, hD, va_S.rf⟩
  have hl := lv_entry [.ref (am 68)] (n := 6) (Nat.le_of_ble_eq_true rfl)
  rw [lg_entry_eq]
  generalize (lg_sl [.ref (am 68)] ++ List.replicate (6 - (lg_sl [.ref (am 68)]).length) Slot.unset).toArray = ls at hl ⊢
  have hl : lv_has ls 6 [(0, .ref (am 68))] := hl
  unfold m_plays at ho
  refine lv_aload_n hx hb dX12_plays_0 rfl (lv_at hl 0 rfl) ?_
  refine mGET_31 C0 hW dX12_plays_1 ?_
  refine lv_aload_n hx hb dX12_plays_4 rfl (lv_at hl 0 rfl) ?_
  refine mGET_50 C0 hW dX12_plays_5 ?_
  refine lv_iadd hx hb dX12_plays_8 ?_
  refine lv_iconst (v := (1 : Int32)) hx hb dX12_plays_9 (by decide) ?_
  refine lv_iadd hx hb dX12_plays_10 ?_
  refine lv_nmi ho (fun x39 ho => ?_)
  refine lv_istore_n (lv' := [(1, .int x39), (0, .ref (am 68))]) hx hb dX12_plays_11 rfl hl (by decide) rfl (fun ls hl => ?_)
  refine lv_iload_n hx hb dX12_plays_12 rfl (lv_at hl 0 rfl) ?_
  refine lv_iconst (v := (1 : Int32)) hx hb dX12_plays_13 (by decide) ?_
  refine lv_isub hx hb dX12_plays_14 ?_
  refine lv_nmi ho (fun x40 ho => ?_)
  refine lv_istore_n (lv' := [(2, .int x40), (1, .int x39), (0, .ref (am 68))]) hx hb dX12_plays_15 rfl hl (by decide) rfl (fun ls hl => ?_)
  refine lv_iconst (v := (0 : Int32)) hx hb dX12_plays_16 (by decide) ?_
  refine lv_istore_n (lv' := [(3, .int (0 : Int32)), (2, .int x40), (1, .int x39), (0, .ref (am 68))]) hx hb dX12_plays_17 rfl hl (by decide) rfl (fun ls hl => ?_)
  obtain ⟨y41, hc43, ho⟩ := bd_some ho
  obtain ⟨ny41, hc43⟩ := lp_to hc43
  refine m_plays_L18 C0 ?_ ny41 _ _ hc43 _ _ _ hW (lv_sub hl [3, 2, 1, 0] rfl)
  intro H locs ls hW hl
  refine lv_aload_n hx hb dX12_plays_159 rfl (lv_at hl 0 rfl) ?_
  refine lv_sipush (v := (700 : Int32)) hx hb dX12_plays_160 (by decide) ?_
  refine lv_iconst (v := (1 : Int32)) hx hb dX12_plays_163 (by decide) ?_
  obtain ⟨q44, hc45, ho⟩ := bd_some ho
  refine bkV C0 hW (runV (As := [.int (700 : Int32), .int (1 : Int32)]) (rest := []) C0 hW (c_m_puts l _ y41 (700 : Int32) (1 : Int32) (t' := q44) hc45) ca_X12_puts_175 0 12 rfl rfl rfl rfl rfl ⟨rfl, rfl⟩ ⟨Nat.le_of_ble_eq_true rfl, Nat.le_of_ble_eq_true rfl⟩ (Nat.le_of_ble_eq_true rfl) hl.1 dX12_plays_164 ⟨Nat.le_of_ble_eq_true rfl, Nat.le_of_ble_eq_true rfl⟩) (fun H locs hW => ?_)
  refine lv_iconst (v := (1 : Int32)) hx hb dX12_plays_167 (by decide) ?_
  refine lv_istore_n (lv' := [(3, .int (1 : Int32)), (0, .ref (am 68)), (1, .int x39), (2, .int x40)]) hx hb dX12_plays_168 rfl hl (by decide) rfl (fun ls hl => ?_)
  obtain ⟨y46, hc48, ho⟩ := bd_some ho
  obtain ⟨ny46, hc48⟩ := lp_to hc48
  refine m_plays_L169 C0 ?_ ny46 _ _ hc48 _ _ _ hW (lv_sub hl [1, 2, 3, 0] rfl)
  intro H locs ls hW hl
  refine lv_aload_n hx hb dX12_plays_239 rfl (lv_at hl 0 rfl) ?_
  refine lv_sipush (v := (4507 : Int32)) hx hb dX12_plays_240 (by decide) ?_
  refine lv_sipush (v := (700 : Int32)) hx hb dX12_plays_243 (by decide) ?_
  obtain ⟨q49, hc50, ho⟩ := bd_some ho
  refine bkV C0 hW (runV (As := [.int (4507 : Int32), .int (700 : Int32)]) (rest := []) C0 hW (c_m_takes l _ y46 (4507 : Int32) (700 : Int32) (t' := q49) hc50) ca_X12_takes_333 0 12 rfl rfl rfl rfl rfl ⟨rfl, rfl⟩ ⟨Nat.le_of_ble_eq_true rfl, Nat.le_of_ble_eq_true rfl⟩ (Nat.le_of_ble_eq_true rfl) hl.1 dX12_plays_246 ⟨Nat.le_of_ble_eq_true rfl, Nat.le_of_ble_eq_true rfl⟩) (fun H locs hW => ?_)
  refine lv_aload_n hx hb dX12_plays_249 rfl (lv_at hl 0 rfl) ?_
  refine lv_sipush (v := (4507 : Int32)) hx hb dX12_plays_250 (by decide) ?_
  refine lv_sipush (v := (402 : Int32)) hx hb dX12_plays_253 (by decide) ?_
  refine lv_aload_n hx hb dX12_plays_256 rfl (lv_at hl 0 rfl) ?_
  refine lv_aload_n hx hb dX12_plays_257 rfl (lv_at hl 0 rfl) ?_
  refine mGET_50 C0 hW dX12_plays_258 ?_
  refine lv_iload_n hx hb dX12_plays_261 rfl (lv_at hl 1 rfl) ?_
  obtain ⟨q51, hc52, ho⟩ := bd_some ho
  refine bkI C0 hW (runV (As := [.int (gI q49 50), .int x40]) (rest := [.int (402 : Int32), .int (4507 : Int32), .ref (am 68)]) C0 hW (c_m_cell l _ q49 (gI q49 50) x40 (r := q51) hc52) ca_X12_cell_411 0 12 rfl rfl rfl rfl rfl ⟨rfl, rfl⟩ ⟨Nat.le_of_ble_eq_true rfl, Nat.le_of_ble_eq_true rfl⟩ (Nat.le_of_ble_eq_true rfl) hl.1 dX12_plays_262 ⟨Nat.le_of_ble_eq_true rfl, Nat.le_of_ble_eq_true rfl⟩) (fun H locs hW => ?_)
  refine lv_iadd hx hb dX12_plays_265 ?_
  obtain ⟨q53, hc54, ho⟩ := bd_some ho
  refine bkV C0 hW (runV (As := [.int (4507 : Int32), .int ((402 : Int32) + q51)]) (rest := []) C0 hW (c_m_lessens l _ q49 (4507 : Int32) ((402 : Int32) + q51) (t' := q53) hc54) ca_X12_lessens_330 0 12 rfl rfl rfl rfl rfl ⟨rfl, rfl⟩ ⟨Nat.le_of_ble_eq_true rfl, Nat.le_of_ble_eq_true rfl⟩ (Nat.le_of_ble_eq_true rfl) hl.1 dX12_plays_266 ⟨Nat.le_of_ble_eq_true rfl, Nat.le_of_ble_eq_true rfl⟩) (fun H locs hW => ?_)
  refine lv_aload_n hx hb dX12_plays_269 rfl (lv_at hl 0 rfl) ?_
  refine lv_sipush (v := (4505 : Int32)) hx hb dX12_plays_270 (by decide) ?_
  refine lv_sipush (v := (402 : Int32)) hx hb dX12_plays_273 (by decide) ?_
  refine lv_aload_n hx hb dX12_plays_276 rfl (lv_at hl 0 rfl) ?_
  refine lv_aload_n hx hb dX12_plays_277 rfl (lv_at hl 0 rfl) ?_
  refine mGET_50 C0 hW dX12_plays_278 ?_
  refine lv_iload_n hx hb dX12_plays_281 rfl (lv_at hl 1 rfl) ?_
  obtain ⟨q55, hc56, ho⟩ := bd_some ho
  refine bkI C0 hW (runV (As := [.int (gI q53 50), .int x40]) (rest := [.int (402 : Int32), .int (4505 : Int32), .ref (am 68)]) C0 hW (c_m_cell l _ q53 (gI q53 50) x40 (r := q55) hc56) ca_X12_cell_411 0 12 rfl rfl rfl rfl rfl ⟨rfl, rfl⟩ ⟨Nat.le_of_ble_eq_true rfl, Nat.le_of_ble_eq_true rfl⟩ (Nat.le_of_ble_eq_true rfl) hl.1 dX12_plays_282 ⟨Nat.le_of_ble_eq_true rfl, Nat.le_of_ble_eq_true rfl⟩) (fun H locs hW => ?_)
  refine lv_iadd hx hb dX12_plays_285 ?_
  obtain ⟨q57, hc58, ho⟩ := bd_some ho
  refine bkV C0 hW (runV (As := [.int (4505 : Int32), .int ((402 : Int32) + q55)]) (rest := []) C0 hW (c_m_takes l _ q53 (4505 : Int32) ((402 : Int32) + q55) (t' := q57) hc58) ca_X12_takes_333 0 12 rfl rfl rfl rfl rfl ⟨rfl, rfl⟩ ⟨Nat.le_of_ble_eq_true rfl, Nat.le_of_ble_eq_true rfl⟩ (Nat.le_of_ble_eq_true rfl) hl.1 dX12_plays_286 ⟨Nat.le_of_ble_eq_true rfl, Nat.le_of_ble_eq_true rfl⟩) (fun H locs hW => ?_)
  refine lv_aload_n hx hb dX12_plays_289 rfl (lv_at hl 0 rfl) ?_
  refine lv_sipush (v := (4507 : Int32)) hx hb dX12_plays_290 (by decide) ?_
  refine lv_sipush (v := (4505 : Int32)) hx hb dX12_plays_293 (by decide) ?_
  obtain ⟨q59, hc60, ho⟩ := bd_some ho
  refine bkV C0 hW (runV (As := [.int (4507 : Int32), .int (4505 : Int32)]) (rest := []) C0 hW (c_m_tells l _ q57 (4507 : Int32) (4505 : Int32) (t' := q59) hc60) ca_X12_tells_384 0 12 rfl rfl rfl rfl rfl ⟨rfl, rfl⟩ ⟨Nat.le_of_ble_eq_true rfl, Nat.le_of_ble_eq_true rfl⟩ (Nat.le_of_ble_eq_true rfl) hl.1 dX12_plays_296 ⟨Nat.le_of_ble_eq_true rfl, Nat.le_of_ble_eq_true rfl⟩) (fun H locs hW => ?_)
  cases ho
  exact rtV C0 hW dX12_plays_299
noncomputable def m_game (t : St) (a1 : Int32) : Option (Int32 × St) :=
  (m_why t a1 (1 : Int32)).bind (fun q1 => if q1 = (1 : Int32) then (if (gI t 50) = 0 then (some ((-3 : Int32), t)) else (gd a1 10 ((m_findWays t (gA t 16 (a1).toNatClampNeg)).bind (fun q6 => if q6.1 = 0 then (some ((-5 : Int32), q6.2)) else (if (gI q6.2 31) ≤ (24 : Int32) then ((m_plays q6.2).bind (fun q11 => some ((1 : Int32), q11))) else (some ((-5 : Int32), q6.2))))))) else (some (q1, t)))
set_option maxHeartbeats 4000000 in
set_option maxRecDepth 100000 in
theorem c_m_game (l : Launch) {D : va_G} {cI cJ cZ : ClassId} {am : Nat → Nat} (sz : Nat) (t : St) (a1 : Int32) {r : Int32} {t' : St} (ho : m_game t a1 = some (r, t')) : Met l yX12_game (.code yX12_game cX12_game 3 (some .int) :: wsAll) (rmN 5 132) (va_Pc [.ref (am 68), .int a1] (prW D (tyM cI cJ cZ) (wM cI cJ cZ am t) sz)) (qI r D (tyM cI cJ cZ) (wM cI cJ cZ am t') (va_A (wM cI cJ cZ am t) sz)) 0 0 (va_A (wM cI cJ cZ am t) sz) := by
  refine Met.ofW (cc := cX12_game) (maxL := 3) (ret := (some .int)) (by decide) rfl ?_
  intro p e s m args below meth c s₁ B hml hv
  obtain ⟨rfl, hsz, hP, hK, hD0⟩ := hv
  have hx := B.exec
  have hb := B.bytes
  have hts := atoms_spec (ws := (.code yX12_game cX12_game 3 (some .int) :: wsAll)) B.pre
  have hta := fun w h => hts w (List.mem_cons_of_mem _ h)
  have hown : s.vm.findClass RX12 = some m.cls := findClass_of_methodNamed B.named
  have hlocks := B.notSynchronized
  subst hsz
  have hD := hD0.self (sz := s.heap.size)
  generalize hAe : va_A (wM cI cJ cZ am t) s.heap.size = A at hD ⊢
  have hA : ∀ q : Nat, s.heap.size ≤ q → A q := fun q h => by rw [← hAe]; exact Or.inr h
  have C0 : cx p s m ([.ref (am 68), .int a1].toArray) meth c cX12_game RX12 3 (some .int) D (tyM cI cJ cZ) A := ⟨hx, hb, B.returns, hml, hown, hta, hlocks, hK, hA⟩
  have hW : wl D A s (wM cI cJ cZ am t) s.heap [] := ⟨hP, hD, va_S.rf⟩
  have hl := lv_entry [.ref (am 68), .int a1] (n := 3) (Nat.le_of_ble_eq_true rfl)
  rw [lg_entry_eq]
  generalize (lg_sl [.ref (am 68), .int a1] ++ List.replicate (3 - (lg_sl [.ref (am 68), .int a1]).length) Slot.unset).toArray = ls at hl ⊢
  have hl : lv_has ls 3 [(0, .ref (am 68)), (1, .int a1)] := hl
  unfold m_game at ho
  refine lv_aload_n hx hb dX12_game_0 rfl (lv_at hl 0 rfl) ?_
  refine lv_iload_n hx hb dX12_game_1 rfl (lv_at hl 1 rfl) ?_
  refine lv_iconst (v := (1 : Int32)) hx hb dX12_game_2 (by decide) ?_
  obtain ⟨q1, hc2, ho⟩ := bd_some ho
  refine bkI C0 hW (runV (As := [.int a1, .int (1 : Int32)]) (rest := []) C0 hW (c_m_why l _ t a1 (1 : Int32) (r := q1) hc2) ca_X12_why_271 0 12 rfl rfl rfl rfl rfl ⟨rfl, rfl⟩ ⟨Nat.le_of_ble_eq_true rfl, Nat.le_of_ble_eq_true rfl⟩ (Nat.le_of_ble_eq_true rfl) hl.1 dX12_game_3 ⟨Nat.le_of_ble_eq_true rfl, Nat.le_of_ble_eq_true rfl⟩) (fun H locs hW => ?_)
  refine lv_istore_n (lv' := [(2, .int q1), (0, .ref (am 68)), (1, .int a1)]) hx hb dX12_game_6 rfl hl (by decide) rfl (fun ls hl => ?_)
  refine lv_iload_n hx hb dX12_game_7 rfl (lv_at hl 0 rfl) ?_
  refine lv_iconst (v := (1 : Int32)) hx hb dX12_game_8 (by decide) ?_
  refine lv_icmp_eq (tgt := 14) hx hb dX12_game_9 (by decide) (fun c3 => ?_) (fun c3 => ?_)
  · replace ho := ite_t c3 ho
    refine lv_aload_n hx hb dX12_game_14 rfl (lv_at hl 1 rfl) ?_
    refine mGET_50 C0 hW dX12_game_15 ?_
    refine lv_if_ne (tgt := 24) hx hb dX12_game_18 (by decide) (fun c4 => ?_) (fun c4 => ?_)
    · replace ho := ite_f c4 ho
      refine lv_aload_n hx hb dX12_game_24 rfl (lv_at hl 1 rfl) ?_
      refine lv_aload_n hx hb dX12_game_25 rfl (lv_at hl 1 rfl) ?_
      refine mGET_16 C0 hW dX12_game_26 ?_
      refine lv_iload_n hx hb dX12_game_29 rfl (lv_at hl 2 rfl) ?_
      obtain ⟨g5, ho⟩ := gd_some ho
      refine mLD_16 C0 hW g5 dX12_game_30 ?_
      obtain ⟨q6, hc7, ho⟩ := bd_some ho
      refine bkZ C0 hW (runV (As := [.int (gA t 16 (a1).toNatClampNeg)]) (rest := []) C0 hW (c_m_findWays l _ t (gA t 16 (a1).toNatClampNeg) (r := q6.1) (t' := q6.2) hc7) ca_X12_findWays_298 0 12 rfl rfl rfl rfl rfl ⟨rfl, rfl⟩ ⟨Nat.le_of_ble_eq_true rfl, Nat.le_of_ble_eq_true rfl⟩ (Nat.le_of_ble_eq_true rfl) hl.1 dX12_game_31 ⟨Nat.le_of_ble_eq_true rfl, Nat.le_of_ble_eq_true rfl⟩) (fun z8 H locs hW => ?_)
      refine lv_if_eq (tgt := 46) hx hb dX12_game_34 (by decide) (fun c9 => ?_) (fun c9 => ?_)
      · replace ho := ite_t c9 ho
        refine lv_bipush (v := (-5 : Int32)) hx hb dX12_game_46 (by decide) ?_
        cases ho
        exact rtI C0 hW dX12_game_48
      · replace ho := ite_f c9 ho
        refine lv_aload_n hx hb dX12_game_37 rfl (lv_at hl 1 rfl) ?_
        refine mGET_31 C0 hW dX12_game_38 ?_
        refine lv_bipush (v := (24 : Int32)) hx hb dX12_game_41 (by decide) ?_
        refine lv_icmp_le (tgt := 49) hx hb dX12_game_43 (by decide) (fun c10 => ?_) (fun c10 => ?_)
        · replace ho := ite_t c10 ho
          refine lv_aload_n hx hb dX12_game_49 rfl (lv_at hl 1 rfl) ?_
          obtain ⟨q11, hc12, ho⟩ := bd_some ho
          refine bkV C0 hW (runV (As := []) (rest := []) C0 hW (c_m_plays l _ q6.2 (t' := q11) hc12) ca_X12_plays_433 0 12 rfl rfl rfl rfl rfl ⟨rfl, rfl⟩ ⟨Nat.le_of_ble_eq_true rfl, Nat.le_of_ble_eq_true rfl⟩ (Nat.le_of_ble_eq_true rfl) hl.1 dX12_game_50 ⟨Nat.le_of_ble_eq_true rfl, Nat.le_of_ble_eq_true rfl⟩) (fun H locs hW => ?_)
          refine lv_iconst (v := (1 : Int32)) hx hb dX12_game_53 (by decide) ?_
          cases ho
          exact rtI C0 hW dX12_game_54
        · replace ho := ite_f c10 ho
          refine lv_bipush (v := (-5 : Int32)) hx hb dX12_game_46 (by decide) ?_
          cases ho
          exact rtI C0 hW dX12_game_48
    · replace ho := ite_t c4 ho
      refine lv_bipush (v := (-3 : Int32)) hx hb dX12_game_21 (by decide) ?_
      cases ho
      exact rtI C0 hW dX12_game_23
  · replace ho := ite_f c3 ho
    refine lv_iload_n hx hb dX12_game_12 rfl (lv_at hl 0 rfl) ?_
    cases ho
    exact rtI C0 hW dX12_game_13
noncomputable def m_insider (t : St) (a1 : Int32) : Option (Int32 × St) :=
  (m_isSet t a1).bind (fun q1 => if q1 = 0 then (some ((-2 : Int32), t)) else (if (gI t 54) = (6 : Int32) then (some ((-4 : Int32), t)) else (gd (gI t 54) 6 (nm (sA t 55 (gI t 54) a1) (fun t7 : St => nm (sI t7 54 ((gI t7 54) + (1 : Int32))) (fun t8 : St => some (((gI t8 54) - (1 : Int32)), t8)))))))
set_option maxHeartbeats 4000000 in
set_option maxRecDepth 100000 in
theorem c_m_insider (l : Launch) {D : va_G} {cI cJ cZ : ClassId} {am : Nat → Nat} (sz : Nat) (t : St) (a1 : Int32) {r : Int32} {t' : St} (ho : m_insider t a1 = some (r, t')) : Met l yX12_insider (.code yX12_insider cX12_insider 2 (some .int) :: wsAll) (rmN 2 42) (va_Pc [.ref (am 68), .int a1] (prW D (tyM cI cJ cZ) (wM cI cJ cZ am t) sz)) (qI r D (tyM cI cJ cZ) (wM cI cJ cZ am t') (va_A (wM cI cJ cZ am t) sz)) 0 0 (va_A (wM cI cJ cZ am t) sz) := by
  refine Met.ofW (cc := cX12_insider) (maxL := 2) (ret := (some .int)) (by decide) rfl ?_
  intro p e s m args below meth c s₁ B hml hv
  obtain ⟨rfl, hsz, hP, hK, hD0⟩ := hv
  have hx := B.exec
  have hb := B.bytes
  have hts := atoms_spec (ws := (.code yX12_insider cX12_insider 2 (some .int) :: wsAll)) B.pre
  have hta := fun w h => hts w (List.mem_cons_of_mem _ h)
  have hown : s.vm.findClass RX12 = some m.cls := findClass_of_methodNamed B.named
  have hlocks := B.notSynchronized
  subst hsz
  have hD := hD0.self (sz := s.heap.size)
  generalize hAe : va_A (wM cI cJ cZ am t) s.heap.size = A at hD ⊢
  have hA : ∀ q : Nat, s.heap.size ≤ q → A q := fun q h => by rw [← hAe]; exact Or.inr h
  have C0 : cx p s m ([.ref (am 68), .int a1].toArray) meth c cX12_insider RX12 2 (some .int) D (tyM cI cJ cZ) A := ⟨hx, hb, B.returns, hml, hown, hta, hlocks, hK, hA⟩
  have hW : wl D A s (wM cI cJ cZ am t) s.heap [] := ⟨hP, hD, va_S.rf⟩
  have hl := lv_entry [.ref (am 68), .int a1] (n := 2) (Nat.le_of_ble_eq_true rfl)
  rw [lg_entry_eq]
  generalize (lg_sl [.ref (am 68), .int a1] ++ List.replicate (2 - (lg_sl [.ref (am 68), .int a1]).length) Slot.unset).toArray = ls at hl ⊢
  have hl : lv_has ls 2 [(0, .ref (am 68)), (1, .int a1)] := hl
  unfold m_insider at ho
  refine lv_iload_n hx hb dX12_insider_0 rfl (lv_at hl 1 rfl) ?_
  obtain ⟨q1, hc2, ho⟩ := bd_some ho
  refine bkZ C0 hW (runS (As := [.int a1]) (rest := []) C0 hW (c_m_isSet l _ t a1 (r := q1) hc2) ca_X12_isSet_279 rfl rfl ⟨rfl, rfl⟩ ⟨Nat.le_of_ble_eq_true rfl, Nat.le_of_ble_eq_true rfl⟩ (Nat.le_of_ble_eq_true rfl) hl.1 dX12_insider_1 ⟨Nat.le_of_ble_eq_true rfl, Nat.le_of_ble_eq_true rfl⟩) (fun z3 H locs hW => ?_)
  refine lv_if_ne (tgt := 10) hx hb dX12_insider_4 (by decide) (fun c4 => ?_) (fun c4 => ?_)
  · replace ho := ite_f c4 ho
    refine lv_aload_n hx hb dX12_insider_10 rfl (lv_at hl 0 rfl) ?_
    refine mGET_54 C0 hW dX12_insider_11 ?_
    refine lv_bipush (v := (6 : Int32)) hx hb dX12_insider_14 (by decide) ?_
    refine lv_icmp_ne (tgt := 22) hx hb dX12_insider_16 (by decide) (fun c5 => ?_) (fun c5 => ?_)
    · replace ho := ite_f c5 ho
      refine lv_aload_n hx hb dX12_insider_22 rfl (lv_at hl 0 rfl) ?_
      refine mGET_55 C0 hW dX12_insider_23 ?_
      refine lv_aload_n hx hb dX12_insider_26 rfl (lv_at hl 0 rfl) ?_
      refine mGET_54 C0 hW dX12_insider_27 ?_
      refine lv_iload_n hx hb dX12_insider_30 rfl (lv_at hl 1 rfl) ?_
      obtain ⟨g6, ho⟩ := gd_some ho
      refine mST_55 C0 hW g6 dX12_insider_31 (fun H locs hW => ?_)
      obtain ⟨t7, ho, hW⟩ := nm_w (P := fun t => wl D A s (wM cI cJ cZ am t) H locs) ho hW
      refine lv_aload_n hx hb dX12_insider_32 rfl (lv_at hl 0 rfl) ?_
      refine lv_dup hx hb dX12_insider_33 rfl ?_
      refine mGET_54 C0 hW dX12_insider_34 ?_
      refine lv_iconst (v := (1 : Int32)) hx hb dX12_insider_37 (by decide) ?_
      refine lv_iadd hx hb dX12_insider_38 ?_
      refine mPUT_54 C0 hW dX12_insider_39 (fun H locs hW => ?_)
      obtain ⟨t8, ho, hW⟩ := nm_w (P := fun t => wl D A s (wM cI cJ cZ am t) H locs) ho hW
      refine lv_aload_n hx hb dX12_insider_42 rfl (lv_at hl 0 rfl) ?_
      refine mGET_54 C0 hW dX12_insider_43 ?_
      refine lv_iconst (v := (1 : Int32)) hx hb dX12_insider_46 (by decide) ?_
      refine lv_isub hx hb dX12_insider_47 ?_
      cases ho
      exact rtI C0 hW dX12_insider_48
    · replace ho := ite_t c5 ho
      refine lv_bipush (v := (-4 : Int32)) hx hb dX12_insider_19 (by decide) ?_
      cases ho
      exact rtI C0 hW dX12_insider_21
  · replace ho := ite_t c4 ho
    refine lv_bipush (v := (-2 : Int32)) hx hb dX12_insider_7 (by decide) ?_
    cases ho
    exact rtI C0 hW dX12_insider_9
noncomputable def m_given_B4 (t : St) (v1 : Int32) (v2 : Int32) (v3 : Int32) : Option ((Int32 × Int32) ⊕ (Int32)) :=
  if (gI t 54) ≤ v3 then (some (.inr v2)) else (if ((v1 >>> (v3 &&& 31)) &&& (1 : Int32)) = (1 : Int32) then (gd v3 6 (nm (v2 ||| (gA t 55 (v3).toNatClampNeg)) (fun x6 : Int32 => nm (v3 + (1 : Int32)) (fun x7 : Int32 => some (.inl (x6, x7)))))) else (nm (v2 ||| (0 : Int32)) (fun x3 : Int32 => nm (v3 + (1 : Int32)) (fun x4 : Int32 => some (.inl (x3, x4))))))
noncomputable def m_given (t : St) (a1 : Int32) : Option (Int32) :=
  (lp (fun x => m_given_B4 t a1 x.1 x.2) ((0 : Int32), (0 : Int32))).bind (fun y8 => some y8)
set_option maxHeartbeats 4000000 in
set_option maxRecDepth 100000 in
theorem m_given_L4 {p : Program} {l : Launch} {e : Env} {s : State} {m : MethodId} {args : Array Value} {below : List Frame} {meth : Method} {c : Code} {Q : State → Prop} {D : va_G} {cI cJ cZ : ClassId} {am : Nat → Nat} {A : Nat → Prop} (C0 : cx p s m args meth c cX12_given RX12 4 (some .int) D (tyM cI cJ cZ) A) {t : St} {v1 : Int32} {y : Int32} (hK0 : ∀ (H : Heap) (locs : List Loc) (ls : Array Slot), wl D A s (wM cI cJ cZ am t) H locs → lv_has ls 4 [(0, .ref (am 68)), (2, .int y)] → W p l e (rmN 0 0) s m args below meth c H locs 0 0 Q (F0 m 40 ls [])) :
    ∀ (n : Nat) (v2 : Int32) (v3 : Int32), lpn (fun x => m_given_B4 t v1 x.1 x.2) n (v2, v3) = some y → ∀ (H : Heap) (locs : List Loc) (ls : Array Slot), wl D A s (wM cI cJ cZ am t) H locs → lv_has ls 4 [(0, .ref (am 68)), (1, .int v1), (2, .int v2), (3, .int v3)] → W p l e (rmN 0 0) s m args below meth c H locs 0 0 Q (F0 m 4 ls []) := by
  have hx := C0.1
  have hb := C0.2.1
  have hta := C0.2.2.2.2.2.1
  have hown := C0.2.2.2.2.1
  intro n
  induction n with
  | zero => intro _ _ h; cases h
  | succ n ih =>
    intro v2 v3 hrun H locs ls hW hl
    obtain ⟨o, ho, hrun⟩ := bd_some hrun
    unfold m_given_B4 at ho
    refine lv_iload_n hx hb dX12_given_4 rfl (lv_at hl 3 rfl) ?_
    refine lv_aload_n hx hb dX12_given_5 rfl (lv_at hl 0 rfl) ?_
    refine mGET_54 C0 hW dX12_given_6 ?_
    refine lv_icmp_ge (tgt := 40) hx hb dX12_given_9 (by decide) (fun c1 => ?_) (fun c1 => ?_)
    · replace ho := ite_t c1 ho
      cases ho
      cases hrun
      exact hK0 _ _ _ hW (lv_sub hl [0, 2] rfl)
    · replace ho := ite_f c1 ho
      refine lv_iload_n hx hb dX12_given_12 rfl (lv_at hl 2 rfl) ?_
      refine lv_iload_n hx hb dX12_given_13 rfl (lv_at hl 1 rfl) ?_
      refine lv_iload_n hx hb dX12_given_14 rfl (lv_at hl 3 rfl) ?_
      refine lv_ishr hx hb dX12_given_15 ?_
      refine lv_iconst (v := (1 : Int32)) hx hb dX12_given_16 (by decide) ?_
      refine lv_iand hx hb dX12_given_17 ?_
      refine lv_iconst (v := (1 : Int32)) hx hb dX12_given_18 (by decide) ?_
      refine lv_icmp_ne (tgt := 31) hx hb dX12_given_19 (by decide) (fun c2 => ?_) (fun c2 => ?_)
      · replace ho := ite_f c2 ho
        refine lv_iconst (v := (0 : Int32)) hx hb dX12_given_31 (by decide) ?_
        refine lv_ior hx hb dX12_given_32 ?_
        refine lv_nmi ho (fun x3 ho => ?_)
        refine lv_istore_n (lv' := [(2, .int x3), (0, .ref (am 68)), (1, .int v1), (3, .int v3)]) hx hb dX12_given_33 rfl hl (by decide) rfl (fun ls hl => ?_)
        obtain ⟨x4, ex4, ho⟩ := nm_x ho
        refine lv_iinc (v := x4) (lv' := [(3, .int x4), (2, .int x3), (0, .ref (am 68)), (1, .int v1)]) hx hb dX12_given_34 hl (k := 3) rfl (by rw [ex4]; rfl) (by decide) rfl (fun ls hl => ?_)
        clear ex4
        refine lv_goto (tgt := 4) hx hb dX12_given_37 (by decide) ?_
        cases ho
        exact ih _ _ hrun _ _ _ hW (lv_sub hl [2, 3, 1, 0] rfl)
      · replace ho := ite_t c2 ho
        refine lv_aload_n hx hb dX12_given_22 rfl (lv_at hl 0 rfl) ?_
        refine mGET_55 C0 hW dX12_given_23 ?_
        refine lv_iload_n hx hb dX12_given_26 rfl (lv_at hl 3 rfl) ?_
        obtain ⟨g5, ho⟩ := gd_some ho
        refine mLD_55 C0 hW g5 dX12_given_27 ?_
        refine lv_goto (tgt := 32) hx hb dX12_given_28 (by decide) ?_
        refine lv_ior hx hb dX12_given_32 ?_
        refine lv_nmi ho (fun x6 ho => ?_)
        refine lv_istore_n (lv' := [(2, .int x6), (0, .ref (am 68)), (1, .int v1), (3, .int v3)]) hx hb dX12_given_33 rfl hl (by decide) rfl (fun ls hl => ?_)
        obtain ⟨x7, ex7, ho⟩ := nm_x ho
        refine lv_iinc (v := x7) (lv' := [(3, .int x7), (2, .int x6), (0, .ref (am 68)), (1, .int v1)]) hx hb dX12_given_34 hl (k := 3) rfl (by rw [ex7]; rfl) (by decide) rfl (fun ls hl => ?_)
        clear ex7
        refine lv_goto (tgt := 4) hx hb dX12_given_37 (by decide) ?_
        cases ho
        exact ih _ _ hrun _ _ _ hW (lv_sub hl [2, 3, 1, 0] rfl)
set_option maxHeartbeats 4000000 in
set_option maxRecDepth 100000 in
theorem c_m_given (l : Launch) {D : va_G} {cI cJ cZ : ClassId} {am : Nat → Nat} (sz : Nat) (t : St) (a1 : Int32) {r : Int32} (ho : m_given t a1 = some r) : Met l yX12_given (.code yX12_given cX12_given 4 (some .int) :: wsAll) (rmN 0 0) (va_Pc [.ref (am 68), .int a1] (prW D (tyM cI cJ cZ) (wM cI cJ cZ am t) sz)) (qI r D (tyM cI cJ cZ) (wM cI cJ cZ am t) (va_A (wM cI cJ cZ am t) sz)) 0 0 (va_A (wM cI cJ cZ am t) sz) := by
  refine Met.ofW (cc := cX12_given) (maxL := 4) (ret := (some .int)) (by decide) rfl ?_
  intro p e s m args below meth c s₁ B hml hv
  obtain ⟨rfl, hsz, hP, hK, hD0⟩ := hv
  have hx := B.exec
  have hb := B.bytes
  have hts := atoms_spec (ws := (.code yX12_given cX12_given 4 (some .int) :: wsAll)) B.pre
  have hta := fun w h => hts w (List.mem_cons_of_mem _ h)
  have hown : s.vm.findClass RX12 = some m.cls := findClass_of_methodNamed B.named
  have hlocks := B.notSynchronized
  subst hsz
  have hD := hD0.self (sz := s.heap.size)
  generalize hAe : va_A (wM cI cJ cZ am t) s.heap.size = A at hD ⊢
  have hA : ∀ q : Nat, s.heap.size ≤ q → A q := fun q h => by rw [← hAe]; exact Or.inr h
  have C0 : cx p s m ([.ref (am 68), .int a1].toArray) meth c cX12_given RX12 4 (some .int) D (tyM cI cJ cZ) A := ⟨hx, hb, B.returns, hml, hown, hta, hlocks, hK, hA⟩
  have hW : wl D A s (wM cI cJ cZ am t) s.heap [] := ⟨hP, hD, va_S.rf⟩
  have hl := lv_entry [.ref (am 68), .int a1] (n := 4) (Nat.le_of_ble_eq_true rfl)
  rw [lg_entry_eq]
  generalize (lg_sl [.ref (am 68), .int a1] ++ List.replicate (4 - (lg_sl [.ref (am 68), .int a1]).length) Slot.unset).toArray = ls at hl ⊢
  have hl : lv_has ls 4 [(0, .ref (am 68)), (1, .int a1)] := hl
  unfold m_given at ho
  refine lv_iconst (v := (0 : Int32)) hx hb dX12_given_0 (by decide) ?_
  refine lv_istore_n (lv' := [(2, .int (0 : Int32)), (0, .ref (am 68)), (1, .int a1)]) hx hb dX12_given_1 rfl hl (by decide) rfl (fun ls hl => ?_)
  refine lv_iconst (v := (0 : Int32)) hx hb dX12_given_2 (by decide) ?_
  refine lv_istore_n (lv' := [(3, .int (0 : Int32)), (2, .int (0 : Int32)), (0, .ref (am 68)), (1, .int a1)]) hx hb dX12_given_3 rfl hl (by decide) rfl (fun ls hl => ?_)
  obtain ⟨y8, hc10, ho⟩ := bd_some ho
  obtain ⟨ny8, hc10⟩ := lp_to hc10
  refine m_given_L4 C0 ?_ ny8 _ _ hc10 _ _ _ hW (lv_sub hl [2, 3, 1, 0] rfl)
  intro H locs ls hW hl
  refine lv_iload_n hx hb dX12_given_40 rfl (lv_at hl 1 rfl) ?_
  cases ho
  exact rtI C0 hW dX12_given_41
noncomputable def m_cheapest (t : St) (a1 : Int32) : Option (Int32) :=
  (m_leastAt t (0 : Int32) a1).bind (fun q1 => gd q1 200 ((m_sumOf t (gA t 30 (q1).toNatClampNeg) (0 : Int32) a1).bind (fun q4 => some q4)))
set_option maxHeartbeats 4000000 in
set_option maxRecDepth 100000 in
theorem c_m_cheapest (l : Launch) {D : va_G} {cI cJ cZ : ClassId} {am : Nat → Nat} (sz : Nat) (t : St) (a1 : Int32) {r : Int32} (ho : m_cheapest t a1 = some r) : Met l yX12_cheapest (.code yX12_cheapest cX12_cheapest 2 (some .int) :: wsAll) (rmN 2 49) (va_Pc [.ref (am 68), .int a1] (prW D (tyM cI cJ cZ) (wM cI cJ cZ am t) sz)) (qI r D (tyM cI cJ cZ) (wM cI cJ cZ am t) (va_A (wM cI cJ cZ am t) sz)) 0 0 (va_A (wM cI cJ cZ am t) sz) := by
  refine Met.ofW (cc := cX12_cheapest) (maxL := 2) (ret := (some .int)) (by decide) rfl ?_
  intro p e s m args below meth c s₁ B hml hv
  obtain ⟨rfl, hsz, hP, hK, hD0⟩ := hv
  have hx := B.exec
  have hb := B.bytes
  have hts := atoms_spec (ws := (.code yX12_cheapest cX12_cheapest 2 (some .int) :: wsAll)) B.pre
  have hta := fun w h => hts w (List.mem_cons_of_mem _ h)
  have hown : s.vm.findClass RX12 = some m.cls := findClass_of_methodNamed B.named
  have hlocks := B.notSynchronized
  subst hsz
  have hD := hD0.self (sz := s.heap.size)
  generalize hAe : va_A (wM cI cJ cZ am t) s.heap.size = A at hD ⊢
  have hA : ∀ q : Nat, s.heap.size ≤ q → A q := fun q h => by rw [← hAe]; exact Or.inr h
  have C0 : cx p s m ([.ref (am 68), .int a1].toArray) meth c cX12_cheapest RX12 2 (some .int) D (tyM cI cJ cZ) A := ⟨hx, hb, B.returns, hml, hown, hta, hlocks, hK, hA⟩
  have hW : wl D A s (wM cI cJ cZ am t) s.heap [] := ⟨hP, hD, va_S.rf⟩
  have hl := lv_entry [.ref (am 68), .int a1] (n := 2) (Nat.le_of_ble_eq_true rfl)
  rw [lg_entry_eq]
  generalize (lg_sl [.ref (am 68), .int a1] ++ List.replicate (2 - (lg_sl [.ref (am 68), .int a1]).length) Slot.unset).toArray = ls at hl ⊢
  have hl : lv_has ls 2 [(0, .ref (am 68)), (1, .int a1)] := hl
  unfold m_cheapest at ho
  refine lv_aload_n hx hb dX12_cheapest_0 rfl (lv_at hl 0 rfl) ?_
  refine lv_aload_n hx hb dX12_cheapest_1 rfl (lv_at hl 0 rfl) ?_
  refine mGET_30 C0 hW dX12_cheapest_2 ?_
  refine lv_aload_n hx hb dX12_cheapest_5 rfl (lv_at hl 0 rfl) ?_
  refine lv_iconst (v := (0 : Int32)) hx hb dX12_cheapest_6 (by decide) ?_
  refine lv_iload_n hx hb dX12_cheapest_7 rfl (lv_at hl 1 rfl) ?_
  obtain ⟨q1, hc2, ho⟩ := bd_some ho
  refine bkI C0 hW (runV (As := [.int (0 : Int32), .int a1]) (rest := [.ref (am 30), .ref (am 68)]) C0 hW (c_m_leastAt l _ t (0 : Int32) a1 (r := q1) hc2) ca_X12_leastAt_308 0 12 rfl rfl rfl rfl rfl ⟨rfl, rfl⟩ ⟨Nat.le_of_ble_eq_true rfl, Nat.le_of_ble_eq_true rfl⟩ (Nat.le_of_ble_eq_true rfl) hl.1 dX12_cheapest_8 ⟨Nat.le_of_ble_eq_true rfl, Nat.le_of_ble_eq_true rfl⟩) (fun H locs hW => ?_)
  obtain ⟨g3, ho⟩ := gd_some ho
  refine mLD_30 C0 hW g3 dX12_cheapest_11 ?_
  refine lv_iconst (v := (0 : Int32)) hx hb dX12_cheapest_12 (by decide) ?_
  refine lv_iload_n hx hb dX12_cheapest_13 rfl (lv_at hl 1 rfl) ?_
  obtain ⟨q4, hc5, ho⟩ := bd_some ho
  refine bkI C0 hW (runV (As := [.int (gA t 30 (q1).toNatClampNeg), .int (0 : Int32), .int a1]) (rest := []) C0 hW (c_m_sumOf l _ t (gA t 30 (q1).toNatClampNeg) (0 : Int32) a1 (r := q4) hc5) ca_X12_sumOf_304 0 12 rfl rfl rfl rfl rfl ⟨rfl, rfl⟩ ⟨Nat.le_of_ble_eq_true rfl, Nat.le_of_ble_eq_true rfl⟩ (Nat.le_of_ble_eq_true rfl) hl.1 dX12_cheapest_14 ⟨Nat.le_of_ble_eq_true rfl, Nat.le_of_ble_eq_true rfl⟩) (fun H locs hW => ?_)
  cases ho
  exact rtI C0 hW dX12_cheapest_17
noncomputable def m_worst_B48 (t : St) (v2 : Int32) (v3 : Int32) (v5 : Int32) (v6 : Int32) : Option ((Int32 × Int32) ⊕ (Int32)) :=
  if ((1 : Int32) <<< ((gI t 54) &&& 31)) ≤ v6 then (some (.inr v5)) else ((m_sizeOf t v6).bind (fun q2 => if q2 = v2 then (if v5 = (-1 : Int32) then (nm (v6 + (1 : Int32)) (fun x7 : Int32 => some (.inl (v6, x7)))) else ((m_given t v6).bind (fun q8 => (m_cheapest t q8).bind (fun q10 => (m_given t v5).bind (fun q12 => (m_cheapest t q12).bind (fun q14 => if q14 ≤ q10 then (nm (v6 + (1 : Int32)) (fun x17 : Int32 => some (.inl (v5, x17)))) else (nm (v6 + (1 : Int32)) (fun x18 : Int32 => some (.inl (v6, x18)))))))))) else (nm (v6 + (1 : Int32)) (fun x5 : Int32 => some (.inl (v5, x5))))))
noncomputable def m_worst_J28 (t : St) (v2 : Int32) (v3 : Int32) (w1 : Int32) (w2 : Int32) : Option (Int32 × St) :=
  (m_whyWays t w1 w2).bind (fun q19 => if q19.1 = (1 : Int32) then ((lp (fun x => m_worst_B48 q19.2 v2 v3 x.1 x.2) ((-1 : Int32), (0 : Int32))).bind (fun y22 => if v3 = 0 then ((m_given q19.2 y22).bind (fun q26 => (m_cheapest q19.2 q26).bind (fun q28 => some (q28, q19.2)))) else (some (y22, q19.2)))) else (some (q19.1, q19.2)))
noncomputable def m_worst_J27 (t : St) (v2 : Int32) (v3 : Int32) (w1 : Int32) : Option (Int32 × St) :=
  m_worst_J28 t v2 v3 w1 (0 : Int32)
noncomputable def m_worst (t : St) (a1 : Int32) (a2 : Int32) (a3 : Int32) : Option (Int32 × St) :=
  (m_in t a2 (0 : Int32) (gI t 54)).bind (fun q30 => if q30 = 0 then (m_worst_J27 t a2 a3 a1) else ((m_in t a3 (0 : Int32) (1 : Int32)).bind (fun q34 => if q34 = 0 then (m_worst_J27 t a2 a3 a1) else (m_worst_J28 t a2 a3 a1 (1 : Int32)))))
set_option maxHeartbeats 4000000 in
set_option maxRecDepth 100000 in
theorem m_worst_L48 {p : Program} {l : Launch} {e : Env} {s : State} {m : MethodId} {args : Array Value} {below : List Frame} {meth : Method} {c : Code} {Q : State → Prop} {D : va_G} {cI cJ cZ : ClassId} {am : Nat → Nat} {A : Nat → Prop} (C0 : cx p s m args meth c cX12_worst RX12 7 (some .int) D (tyM cI cJ cZ) A) {t : St} {v2 : Int32} {v3 : Int32} {y : Int32} (hK0 : ∀ (H : Heap) (locs : List Loc) (ls : Array Slot), wl D A s (wM cI cJ cZ am t) H locs → lv_has ls 7 [(0, .ref (am 68)), (3, .int v3), (5, .int y)] → W p l e (rmN 5 122) s m args below meth c H locs 0 0 Q (F0 m 107 ls [])) :
    ∀ (n : Nat) (v5 : Int32) (v6 : Int32), lpn (fun x => m_worst_B48 t v2 v3 x.1 x.2) n (v5, v6) = some y → ∀ (H : Heap) (locs : List Loc) (ls : Array Slot), wl D A s (wM cI cJ cZ am t) H locs → lv_has ls 7 [(0, .ref (am 68)), (2, .int v2), (3, .int v3), (5, .int v5), (6, .int v6)] → W p l e (rmN 5 122) s m args below meth c H locs 0 0 Q (F0 m 48 ls []) := by
  have hx := C0.1
  have hb := C0.2.1
  have hta := C0.2.2.2.2.2.1
  have hown := C0.2.2.2.2.1
  intro n
  induction n with
  | zero => intro _ _ h; cases h
  | succ n ih =>
    intro v5 v6 hrun H locs ls hW hl
    obtain ⟨o, ho, hrun⟩ := bd_some hrun
    unfold m_worst_B48 at ho
    refine lv_iload hx hb dX12_worst_48 (lv_at hl 4 rfl) ?_
    refine lv_iconst (v := (1 : Int32)) hx hb dX12_worst_50 (by decide) ?_
    refine lv_aload_n hx hb dX12_worst_51 rfl (lv_at hl 0 rfl) ?_
    refine mGET_54 C0 hW dX12_worst_52 ?_
    refine lv_ishl hx hb dX12_worst_55 ?_
    refine lv_icmp_ge (tgt := 107) hx hb dX12_worst_56 (by decide) (fun c1 => ?_) (fun c1 => ?_)
    · replace ho := ite_t c1 ho
      cases ho
      cases hrun
      exact hK0 _ _ _ hW (lv_sub hl [0, 2, 3] rfl)
    · replace ho := ite_f c1 ho
      refine lv_iload hx hb dX12_worst_59 (lv_at hl 4 rfl) ?_
      obtain ⟨q2, hc3, ho⟩ := bd_some ho
      refine bkI C0 hW (runS (As := [.int v6]) (rest := []) C0 hW (c_m_sizeOf l _ t v6 (r := q2) hc3) ca_X12_sizeOf_295 rfl rfl ⟨rfl, rfl⟩ ⟨Nat.le_of_ble_eq_true rfl, Nat.le_of_ble_eq_true rfl⟩ (Nat.le_of_ble_eq_true rfl) hl.1 dX12_worst_61 ⟨Nat.le_of_ble_eq_true rfl, Nat.le_of_ble_eq_true rfl⟩) (fun H locs hW => ?_)
      refine lv_iload_n hx hb dX12_worst_64 rfl (lv_at hl 1 rfl) ?_
      refine lv_icmp_ne (tgt := 101) hx hb dX12_worst_65 (by decide) (fun c4 => ?_) (fun c4 => ?_)
      · replace ho := ite_f c4 ho
        obtain ⟨x5, ex5, ho⟩ := nm_x ho
        refine lv_iinc (v := x5) (lv' := [(6, .int x5), (0, .ref (am 68)), (2, .int v2), (3, .int v3), (5, .int v5)]) hx hb dX12_worst_101 hl (k := 4) rfl (by rw [ex5]; rfl) (by decide) rfl (fun ls hl => ?_)
        clear ex5
        refine lv_goto (tgt := 48) hx hb dX12_worst_104 (by decide) ?_
        cases ho
        exact ih _ _ hrun _ _ _ hW (lv_sub hl [1, 2, 3, 4, 0] rfl)
      · replace ho := ite_t c4 ho
        refine lv_iload hx hb dX12_worst_68 (lv_at hl 3 rfl) ?_
        refine lv_iconst (v := (-1 : Int32)) hx hb dX12_worst_70 (by decide) ?_
        refine lv_icmp_eq (tgt := 97) hx hb dX12_worst_71 (by decide) (fun c6 => ?_) (fun c6 => ?_)
        · replace ho := ite_t c6 ho
          refine lv_iload hx hb dX12_worst_97 (lv_at hl 4 rfl) ?_
          refine lv_istore (lv' := [(5, .int v6), (0, .ref (am 68)), (2, .int v2), (3, .int v3), (6, .int v6)]) hx hb dX12_worst_99 hl (by decide) rfl (fun ls hl => ?_)
          obtain ⟨x7, ex7, ho⟩ := nm_x ho
          refine lv_iinc (v := x7) (lv' := [(6, .int x7), (5, .int v6), (0, .ref (am 68)), (2, .int v2), (3, .int v3)]) hx hb dX12_worst_101 hl (k := 4) rfl (by rw [ex7]; rfl) (by decide) rfl (fun ls hl => ?_)
          clear ex7
          refine lv_goto (tgt := 48) hx hb dX12_worst_104 (by decide) ?_
          cases ho
          exact ih _ _ hrun _ _ _ hW (lv_sub hl [2, 3, 4, 1, 0] rfl)
        · replace ho := ite_f c6 ho
          refine lv_aload_n hx hb dX12_worst_74 rfl (lv_at hl 0 rfl) ?_
          refine lv_aload_n hx hb dX12_worst_75 rfl (lv_at hl 0 rfl) ?_
          refine lv_iload hx hb dX12_worst_76 (lv_at hl 4 rfl) ?_
          obtain ⟨q8, hc9, ho⟩ := bd_some ho
          refine bkI C0 hW (runV (As := [.int v6]) (rest := [.ref (am 68)]) C0 hW (c_m_given l _ t v6 (r := q8) hc9) ca_X12_given_439 0 12 rfl rfl rfl rfl rfl ⟨rfl, rfl⟩ ⟨Nat.le_of_ble_eq_true rfl, Nat.le_of_ble_eq_true rfl⟩ (Nat.le_of_ble_eq_true rfl) hl.1 dX12_worst_78 ⟨Nat.le_of_ble_eq_true rfl, Nat.le_of_ble_eq_true rfl⟩) (fun H locs hW => ?_)
          obtain ⟨q10, hc11, ho⟩ := bd_some ho
          refine bkI C0 hW (runV (As := [.int q8]) (rest := []) C0 hW (c_m_cheapest l _ t q8 (r := q10) hc11) ca_X12_cheapest_442 0 12 rfl rfl rfl rfl rfl ⟨rfl, rfl⟩ ⟨Nat.le_of_ble_eq_true rfl, Nat.le_of_ble_eq_true rfl⟩ (Nat.le_of_ble_eq_true rfl) hl.1 dX12_worst_81 ⟨Nat.le_of_ble_eq_true rfl, Nat.le_of_ble_eq_true rfl⟩) (fun H locs hW => ?_)
          refine lv_aload_n hx hb dX12_worst_84 rfl (lv_at hl 0 rfl) ?_
          refine lv_aload_n hx hb dX12_worst_85 rfl (lv_at hl 0 rfl) ?_
          refine lv_iload hx hb dX12_worst_86 (lv_at hl 3 rfl) ?_
          obtain ⟨q12, hc13, ho⟩ := bd_some ho
          refine bkI C0 hW (runV (As := [.int v5]) (rest := [.ref (am 68), .int q10]) C0 hW (c_m_given l _ t v5 (r := q12) hc13) ca_X12_given_439 0 12 rfl rfl rfl rfl rfl ⟨rfl, rfl⟩ ⟨Nat.le_of_ble_eq_true rfl, Nat.le_of_ble_eq_true rfl⟩ (Nat.le_of_ble_eq_true rfl) hl.1 dX12_worst_88 ⟨Nat.le_of_ble_eq_true rfl, Nat.le_of_ble_eq_true rfl⟩) (fun H locs hW => ?_)
          obtain ⟨q14, hc15, ho⟩ := bd_some ho
          refine bkI C0 hW (runV (As := [.int q12]) (rest := [.int q10]) C0 hW (c_m_cheapest l _ t q12 (r := q14) hc15) ca_X12_cheapest_442 0 12 rfl rfl rfl rfl rfl ⟨rfl, rfl⟩ ⟨Nat.le_of_ble_eq_true rfl, Nat.le_of_ble_eq_true rfl⟩ (Nat.le_of_ble_eq_true rfl) hl.1 dX12_worst_91 ⟨Nat.le_of_ble_eq_true rfl, Nat.le_of_ble_eq_true rfl⟩) (fun H locs hW => ?_)
          refine lv_icmp_ge (tgt := 101) hx hb dX12_worst_94 (by decide) (fun c16 => ?_) (fun c16 => ?_)
          · replace ho := ite_t c16 ho
            obtain ⟨x17, ex17, ho⟩ := nm_x ho
            refine lv_iinc (v := x17) (lv' := [(6, .int x17), (0, .ref (am 68)), (2, .int v2), (3, .int v3), (5, .int v5)]) hx hb dX12_worst_101 hl (k := 4) rfl (by rw [ex17]; rfl) (by decide) rfl (fun ls hl => ?_)
            clear ex17
            refine lv_goto (tgt := 48) hx hb dX12_worst_104 (by decide) ?_
            cases ho
            exact ih _ _ hrun _ _ _ hW (lv_sub hl [1, 2, 3, 4, 0] rfl)
          · replace ho := ite_f c16 ho
            refine lv_iload hx hb dX12_worst_97 (lv_at hl 4 rfl) ?_
            refine lv_istore (lv' := [(5, .int v6), (0, .ref (am 68)), (2, .int v2), (3, .int v3), (6, .int v6)]) hx hb dX12_worst_99 hl (by decide) rfl (fun ls hl => ?_)
            obtain ⟨x18, ex18, ho⟩ := nm_x ho
            refine lv_iinc (v := x18) (lv' := [(6, .int x18), (5, .int v6), (0, .ref (am 68)), (2, .int v2), (3, .int v3)]) hx hb dX12_worst_101 hl (k := 4) rfl (by rw [ex18]; rfl) (by decide) rfl (fun ls hl => ?_)
            clear ex18
            refine lv_goto (tgt := 48) hx hb dX12_worst_104 (by decide) ?_
            cases ho
            exact ih _ _ hrun _ _ _ hW (lv_sub hl [2, 3, 4, 1, 0] rfl)
set_option maxHeartbeats 4000000 in
set_option maxRecDepth 100000 in
theorem c_m_worst (l : Launch) {D : va_G} {cI cJ cZ : ClassId} {am : Nat → Nat} (sz : Nat) (t : St) (a1 : Int32) (a2 : Int32) (a3 : Int32) {r : Int32} {t' : St} (ho : m_worst t a1 a2 a3 = some (r, t')) : Met l yX12_worst (.code yX12_worst cX12_worst 7 (some .int) :: wsAll) (rmN 5 122) (va_Pc [.ref (am 68), .int a1, .int a2, .int a3] (prW D (tyM cI cJ cZ) (wM cI cJ cZ am t) sz)) (qI r D (tyM cI cJ cZ) (wM cI cJ cZ am t') (va_A (wM cI cJ cZ am t) sz)) 0 0 (va_A (wM cI cJ cZ am t) sz) := by
  refine Met.ofW (cc := cX12_worst) (maxL := 7) (ret := (some .int)) (by decide) rfl ?_
  intro p e s m args below meth c s₁ B hml hv
  obtain ⟨rfl, hsz, hP, hK, hD0⟩ := hv
  have hx := B.exec
  have hb := B.bytes
  have hts := atoms_spec (ws := (.code yX12_worst cX12_worst 7 (some .int) :: wsAll)) B.pre
  have hta := fun w h => hts w (List.mem_cons_of_mem _ h)
  have hown : s.vm.findClass RX12 = some m.cls := findClass_of_methodNamed B.named
  have hlocks := B.notSynchronized
  subst hsz
  have hD := hD0.self (sz := s.heap.size)
  generalize hAe : va_A (wM cI cJ cZ am t) s.heap.size = A at hD ⊢
  have hA : ∀ q : Nat, s.heap.size ≤ q → A q := fun q h => by rw [← hAe]; exact Or.inr h
  have C0 : cx p s m ([.ref (am 68), .int a1, .int a2, .int a3].toArray) meth c cX12_worst RX12 7 (some .int) D (tyM cI cJ cZ) A := ⟨hx, hb, B.returns, hml, hown, hta, hlocks, hK, hA⟩
  have hW : wl D A s (wM cI cJ cZ am t) s.heap [] := ⟨hP, hD, va_S.rf⟩
  have hl := lv_entry [.ref (am 68), .int a1, .int a2, .int a3] (n := 7) (Nat.le_of_ble_eq_true rfl)
  rw [lg_entry_eq]
  generalize (lg_sl [.ref (am 68), .int a1, .int a2, .int a3] ++ List.replicate (7 - (lg_sl [.ref (am 68), .int a1, .int a2, .int a3]).length) Slot.unset).toArray = ls at hl ⊢
  have hl : lv_has ls 7 [(0, .ref (am 68)), (1, .int a1), (2, .int a2), (3, .int a3)] := hl
  clear hAe hD hP hD0 hts
  have J28 : ∀ (t : St) (v2 : Int32) (v3 : Int32) (w1 : Int32) (w2 : Int32) (_ : m_worst_J28 t v2 v3 w1 w2 = some (r, t')) (H : Heap) (locs : List Loc) (ls : Array Slot), wl D A s (wM cI cJ cZ am t) H locs → lv_has ls 7 [(0, .ref (am 68)), (2, .int v2), (3, .int v3)] → W p l e (rmN 5 122) s m ([.ref (am 68), .int a1, .int a2, .int a3].toArray) below meth c H locs 0 0 (MQ below (qI r D (tyM cI cJ cZ) (wM cI cJ cZ am t') A) ([.ref (am 68), .int a1, .int a2, .int a3].toArray) s 0 0 A) (F0 m 28 ls [.int w2, .int w1, .ref (am 68)]) := by
    intro t v2 v3 w1 w2 ho H locs ls hW hl
    unfold m_worst_J28 at ho
    obtain ⟨q19, hc20, ho⟩ := bd_some ho
    refine bkI C0 hW (runV (As := [.int w1, .int w2]) (rest := []) C0 hW (c_m_whyWays l _ t w1 w2 (r := q19.1) (t' := q19.2) hc20) ca_X12_whyWays_301 0 12 rfl rfl rfl rfl rfl ⟨rfl, rfl⟩ ⟨Nat.le_of_ble_eq_true rfl, Nat.le_of_ble_eq_true rfl⟩ (Nat.le_of_ble_eq_true rfl) hl.1 dX12_worst_28 ⟨Nat.le_of_ble_eq_true rfl, Nat.le_of_ble_eq_true rfl⟩) (fun H locs hW => ?_)
    refine lv_istore (lv' := [(4, .int q19.1), (0, .ref (am 68)), (2, .int v2), (3, .int v3)]) hx hb dX12_worst_31 hl (by decide) rfl (fun ls hl => ?_)
    refine lv_iload hx hb dX12_worst_33 (lv_at hl 0 rfl) ?_
    refine lv_iconst (v := (1 : Int32)) hx hb dX12_worst_35 (by decide) ?_
    refine lv_icmp_eq (tgt := 42) hx hb dX12_worst_36 (by decide) (fun c21 => ?_) (fun c21 => ?_)
    · replace ho := ite_t c21 ho
      refine lv_iconst (v := (-1 : Int32)) hx hb dX12_worst_42 (by decide) ?_
      refine lv_istore (lv' := [(5, .int (-1 : Int32)), (4, .int q19.1), (0, .ref (am 68)), (2, .int v2), (3, .int v3)]) hx hb dX12_worst_43 hl (by decide) rfl (fun ls hl => ?_)
      refine lv_iconst (v := (0 : Int32)) hx hb dX12_worst_45 (by decide) ?_
      refine lv_istore (lv' := [(6, .int (0 : Int32)), (5, .int (-1 : Int32)), (4, .int q19.1), (0, .ref (am 68)), (2, .int v2), (3, .int v3)]) hx hb dX12_worst_46 hl (by decide) rfl (fun ls hl => ?_)
      obtain ⟨y22, hc24, ho⟩ := bd_some ho
      obtain ⟨ny22, hc24⟩ := lp_to hc24
      refine m_worst_L48 C0 ?_ ny22 _ _ hc24 _ _ _ hW (lv_sub hl [3, 4, 5, 1, 0] rfl)
      intro H locs ls hW hl
      refine lv_iload_n hx hb dX12_worst_107 rfl (lv_at hl 1 rfl) ?_
      refine lv_if_ne (tgt := 124) hx hb dX12_worst_108 (by decide) (fun c25 => ?_) (fun c25 => ?_)
      · replace ho := ite_f c25 ho
        refine lv_iload hx hb dX12_worst_124 (lv_at hl 2 rfl) ?_
        cases ho
        exact rtI C0 hW dX12_worst_126
      · replace ho := ite_t c25 ho
        refine lv_aload_n hx hb dX12_worst_111 rfl (lv_at hl 0 rfl) ?_
        refine lv_aload_n hx hb dX12_worst_112 rfl (lv_at hl 0 rfl) ?_
        refine lv_iload hx hb dX12_worst_113 (lv_at hl 2 rfl) ?_
        obtain ⟨q26, hc27, ho⟩ := bd_some ho
        refine bkI C0 hW (runV (As := [.int y22]) (rest := [.ref (am 68)]) C0 hW (c_m_given l _ q19.2 y22 (r := q26) hc27) ca_X12_given_439 0 12 rfl rfl rfl rfl rfl ⟨rfl, rfl⟩ ⟨Nat.le_of_ble_eq_true rfl, Nat.le_of_ble_eq_true rfl⟩ (Nat.le_of_ble_eq_true rfl) hl.1 dX12_worst_115 ⟨Nat.le_of_ble_eq_true rfl, Nat.le_of_ble_eq_true rfl⟩) (fun H locs hW => ?_)
        obtain ⟨q28, hc29, ho⟩ := bd_some ho
        refine bkI C0 hW (runV (As := [.int q26]) (rest := []) C0 hW (c_m_cheapest l _ q19.2 q26 (r := q28) hc29) ca_X12_cheapest_442 0 12 rfl rfl rfl rfl rfl ⟨rfl, rfl⟩ ⟨Nat.le_of_ble_eq_true rfl, Nat.le_of_ble_eq_true rfl⟩ (Nat.le_of_ble_eq_true rfl) hl.1 dX12_worst_118 ⟨Nat.le_of_ble_eq_true rfl, Nat.le_of_ble_eq_true rfl⟩) (fun H locs hW => ?_)
        refine lv_goto (tgt := 126) hx hb dX12_worst_121 (by decide) ?_
        cases ho
        exact rtI C0 hW dX12_worst_126
    · replace ho := ite_f c21 ho
      refine lv_iload hx hb dX12_worst_39 (lv_at hl 0 rfl) ?_
      cases ho
      exact rtI C0 hW dX12_worst_41
  have J27 : ∀ (t : St) (v2 : Int32) (v3 : Int32) (w1 : Int32) (_ : m_worst_J27 t v2 v3 w1 = some (r, t')) (H : Heap) (locs : List Loc) (ls : Array Slot), wl D A s (wM cI cJ cZ am t) H locs → lv_has ls 7 [(0, .ref (am 68)), (2, .int v2), (3, .int v3)] → W p l e (rmN 5 122) s m ([.ref (am 68), .int a1, .int a2, .int a3].toArray) below meth c H locs 0 0 (MQ below (qI r D (tyM cI cJ cZ) (wM cI cJ cZ am t') A) ([.ref (am 68), .int a1, .int a2, .int a3].toArray) s 0 0 A) (F0 m 27 ls [.int w1, .ref (am 68)]) := by
    intro t v2 v3 w1 ho H locs ls hW hl
    unfold m_worst_J27 at ho
    refine lv_iconst (v := (0 : Int32)) hx hb dX12_worst_27 (by decide) ?_
    exact J28 _ _ _ _ _ ho _ _ _ hW (lv_sub hl [0, 1, 2] rfl)
  unfold m_worst at ho
  refine lv_aload_n hx hb dX12_worst_0 rfl (lv_at hl 0 rfl) ?_
  refine lv_iload_n hx hb dX12_worst_1 rfl (lv_at hl 1 rfl) ?_
  refine lv_iload_n hx hb dX12_worst_2 rfl (lv_at hl 2 rfl) ?_
  refine lv_iconst (v := (0 : Int32)) hx hb dX12_worst_3 (by decide) ?_
  refine lv_aload_n hx hb dX12_worst_4 rfl (lv_at hl 0 rfl) ?_
  refine mGET_54 C0 hW dX12_worst_5 ?_
  obtain ⟨q30, hc31, ho⟩ := bd_some ho
  refine bkZ C0 hW (runS (As := [.int a2, .int (0 : Int32), .int (gI t 54)]) (rest := [.int a1, .ref (am 68)]) C0 hW (c_m_in l _ t a2 (0 : Int32) (gI t 54) (r := q30) hc31) ca_X12_in_179 rfl rfl ⟨rfl, rfl⟩ ⟨Nat.le_of_ble_eq_true rfl, Nat.le_of_ble_eq_true rfl⟩ (Nat.le_of_ble_eq_true rfl) hl.1 dX12_worst_8 ⟨Nat.le_of_ble_eq_true rfl, Nat.le_of_ble_eq_true rfl⟩) (fun z32 H locs hW => ?_)
  refine lv_if_eq (tgt := 27) hx hb dX12_worst_11 (by decide) (fun c33 => ?_) (fun c33 => ?_)
  · replace ho := ite_t c33 ho
    exact J27 _ _ _ _ ho _ _ _ hW (lv_sub hl [0, 2, 3] rfl)
  · replace ho := ite_f c33 ho
    refine lv_iload_n hx hb dX12_worst_14 rfl (lv_at hl 3 rfl) ?_
    refine lv_iconst (v := (0 : Int32)) hx hb dX12_worst_15 (by decide) ?_
    refine lv_iconst (v := (1 : Int32)) hx hb dX12_worst_16 (by decide) ?_
    obtain ⟨q34, hc35, ho⟩ := bd_some ho
    refine bkZ C0 hW (runS (As := [.int a3, .int (0 : Int32), .int (1 : Int32)]) (rest := [.int a1, .ref (am 68)]) C0 hW (c_m_in l _ t a3 (0 : Int32) (1 : Int32) (r := q34) hc35) ca_X12_in_179 rfl rfl ⟨rfl, rfl⟩ ⟨Nat.le_of_ble_eq_true rfl, Nat.le_of_ble_eq_true rfl⟩ (Nat.le_of_ble_eq_true rfl) hl.1 dX12_worst_17 ⟨Nat.le_of_ble_eq_true rfl, Nat.le_of_ble_eq_true rfl⟩) (fun z36 H locs hW => ?_)
    refine lv_if_eq (tgt := 27) hx hb dX12_worst_20 (by decide) (fun c37 => ?_) (fun c37 => ?_)
    · replace ho := ite_t c37 ho
      exact J27 _ _ _ _ ho _ _ _ hW (lv_sub hl [0, 2, 3] rfl)
    · replace ho := ite_f c37 ho
      refine lv_iconst (v := (1 : Int32)) hx hb dX12_worst_23 (by decide) ?_
      refine lv_goto (tgt := 28) hx hb dX12_worst_24 (by decide) ?_
      exact J28 _ _ _ _ _ ho _ _ _ hW (lv_sub hl [0, 2, 3] rfl)
noncomputable def m_marksOf_B4 (t : St) (v1 : Int32) (v2 : Int32) (v3 : Int32) : Option ((Int32 × Int32) ⊕ (Int32)) :=
  if (16 : Int32) ≤ v3 then (some (.inr v2)) else (if ((v1 >>> (v3 &&& 31)) &&& (1 : Int32)) = (1 : Int32) then (gd v3 16 (nm (v2 ||| (gA t 3 (v3).toNatClampNeg)) (fun x6 : Int32 => nm (v3 + (1 : Int32)) (fun x7 : Int32 => some (.inl (x6, x7)))))) else (nm (v2 ||| (0 : Int32)) (fun x3 : Int32 => nm (v3 + (1 : Int32)) (fun x4 : Int32 => some (.inl (x3, x4))))))
noncomputable def m_marksOf (t : St) (a1 : Int32) : Option (Int32) :=
  (lp (fun x => m_marksOf_B4 t a1 x.1 x.2) ((0 : Int32), (0 : Int32))).bind (fun y8 => some y8)
set_option maxHeartbeats 4000000 in
set_option maxRecDepth 100000 in
theorem m_marksOf_L4 {p : Program} {l : Launch} {e : Env} {s : State} {m : MethodId} {args : Array Value} {below : List Frame} {meth : Method} {c : Code} {Q : State → Prop} {D : va_G} {cI cJ cZ : ClassId} {am : Nat → Nat} {A : Nat → Prop} (C0 : cx p s m args meth c cX12_marksOf RX12 4 (some .int) D (tyM cI cJ cZ) A) {t : St} {v1 : Int32} {y : Int32} (hK0 : ∀ (H : Heap) (locs : List Loc) (ls : Array Slot), wl D A s (wM cI cJ cZ am t) H locs → lv_has ls 4 [(0, .ref (am 68)), (2, .int y)] → W p l e (rmN 0 0) s m args below meth c H locs 0 0 Q (F0 m 38 ls [])) :
    ∀ (n : Nat) (v2 : Int32) (v3 : Int32), lpn (fun x => m_marksOf_B4 t v1 x.1 x.2) n (v2, v3) = some y → ∀ (H : Heap) (locs : List Loc) (ls : Array Slot), wl D A s (wM cI cJ cZ am t) H locs → lv_has ls 4 [(0, .ref (am 68)), (1, .int v1), (2, .int v2), (3, .int v3)] → W p l e (rmN 0 0) s m args below meth c H locs 0 0 Q (F0 m 4 ls []) := by
  have hx := C0.1
  have hb := C0.2.1
  have hta := C0.2.2.2.2.2.1
  have hown := C0.2.2.2.2.1
  intro n
  induction n with
  | zero => intro _ _ h; cases h
  | succ n ih =>
    intro v2 v3 hrun H locs ls hW hl
    obtain ⟨o, ho, hrun⟩ := bd_some hrun
    unfold m_marksOf_B4 at ho
    refine lv_iload_n hx hb dX12_marksOf_4 rfl (lv_at hl 3 rfl) ?_
    refine lv_bipush (v := (16 : Int32)) hx hb dX12_marksOf_5 (by decide) ?_
    refine lv_icmp_ge (tgt := 38) hx hb dX12_marksOf_7 (by decide) (fun c1 => ?_) (fun c1 => ?_)
    · replace ho := ite_t c1 ho
      cases ho
      cases hrun
      exact hK0 _ _ _ hW (lv_sub hl [0, 2] rfl)
    · replace ho := ite_f c1 ho
      refine lv_iload_n hx hb dX12_marksOf_10 rfl (lv_at hl 2 rfl) ?_
      refine lv_iload_n hx hb dX12_marksOf_11 rfl (lv_at hl 1 rfl) ?_
      refine lv_iload_n hx hb dX12_marksOf_12 rfl (lv_at hl 3 rfl) ?_
      refine lv_ishr hx hb dX12_marksOf_13 ?_
      refine lv_iconst (v := (1 : Int32)) hx hb dX12_marksOf_14 (by decide) ?_
      refine lv_iand hx hb dX12_marksOf_15 ?_
      refine lv_iconst (v := (1 : Int32)) hx hb dX12_marksOf_16 (by decide) ?_
      refine lv_icmp_ne (tgt := 29) hx hb dX12_marksOf_17 (by decide) (fun c2 => ?_) (fun c2 => ?_)
      · replace ho := ite_f c2 ho
        refine lv_iconst (v := (0 : Int32)) hx hb dX12_marksOf_29 (by decide) ?_
        refine lv_ior hx hb dX12_marksOf_30 ?_
        refine lv_nmi ho (fun x3 ho => ?_)
        refine lv_istore_n (lv' := [(2, .int x3), (0, .ref (am 68)), (1, .int v1), (3, .int v3)]) hx hb dX12_marksOf_31 rfl hl (by decide) rfl (fun ls hl => ?_)
        obtain ⟨x4, ex4, ho⟩ := nm_x ho
        refine lv_iinc (v := x4) (lv' := [(3, .int x4), (2, .int x3), (0, .ref (am 68)), (1, .int v1)]) hx hb dX12_marksOf_32 hl (k := 3) rfl (by rw [ex4]; rfl) (by decide) rfl (fun ls hl => ?_)
        clear ex4
        refine lv_goto (tgt := 4) hx hb dX12_marksOf_35 (by decide) ?_
        cases ho
        exact ih _ _ hrun _ _ _ hW (lv_sub hl [2, 3, 1, 0] rfl)
      · replace ho := ite_t c2 ho
        refine lv_aload_n hx hb dX12_marksOf_20 rfl (lv_at hl 0 rfl) ?_
        refine mGET_3 C0 hW dX12_marksOf_21 ?_
        refine lv_iload_n hx hb dX12_marksOf_24 rfl (lv_at hl 3 rfl) ?_
        obtain ⟨g5, ho⟩ := gd_some ho
        refine mLD_3 C0 hW g5 dX12_marksOf_25 ?_
        refine lv_goto (tgt := 30) hx hb dX12_marksOf_26 (by decide) ?_
        refine lv_ior hx hb dX12_marksOf_30 ?_
        refine lv_nmi ho (fun x6 ho => ?_)
        refine lv_istore_n (lv' := [(2, .int x6), (0, .ref (am 68)), (1, .int v1), (3, .int v3)]) hx hb dX12_marksOf_31 rfl hl (by decide) rfl (fun ls hl => ?_)
        obtain ⟨x7, ex7, ho⟩ := nm_x ho
        refine lv_iinc (v := x7) (lv' := [(3, .int x7), (2, .int x6), (0, .ref (am 68)), (1, .int v1)]) hx hb dX12_marksOf_32 hl (k := 3) rfl (by rw [ex7]; rfl) (by decide) rfl (fun ls hl => ?_)
        clear ex7
        refine lv_goto (tgt := 4) hx hb dX12_marksOf_35 (by decide) ?_
        cases ho
        exact ih _ _ hrun _ _ _ hW (lv_sub hl [2, 3, 1, 0] rfl)
set_option maxHeartbeats 4000000 in
set_option maxRecDepth 100000 in
theorem c_m_marksOf (l : Launch) {D : va_G} {cI cJ cZ : ClassId} {am : Nat → Nat} (sz : Nat) (t : St) (a1 : Int32) {r : Int32} (ho : m_marksOf t a1 = some r) : Met l yX12_marksOf (.code yX12_marksOf cX12_marksOf 4 (some .int) :: wsAll) (rmN 0 0) (va_Pc [.ref (am 68), .int a1] (prW D (tyM cI cJ cZ) (wM cI cJ cZ am t) sz)) (qI r D (tyM cI cJ cZ) (wM cI cJ cZ am t) (va_A (wM cI cJ cZ am t) sz)) 0 0 (va_A (wM cI cJ cZ am t) sz) := by
  refine Met.ofW (cc := cX12_marksOf) (maxL := 4) (ret := (some .int)) (by decide) rfl ?_
  intro p e s m args below meth c s₁ B hml hv
  obtain ⟨rfl, hsz, hP, hK, hD0⟩ := hv
  have hx := B.exec
  have hb := B.bytes
  have hts := atoms_spec (ws := (.code yX12_marksOf cX12_marksOf 4 (some .int) :: wsAll)) B.pre
  have hta := fun w h => hts w (List.mem_cons_of_mem _ h)
  have hown : s.vm.findClass RX12 = some m.cls := findClass_of_methodNamed B.named
  have hlocks := B.notSynchronized
  subst hsz
  have hD := hD0.self (sz := s.heap.size)
  generalize hAe : va_A (wM cI cJ cZ am t) s.heap.size = A at hD ⊢
  have hA : ∀ q : Nat, s.heap.size ≤ q → A q := fun q h => by rw [← hAe]; exact Or.inr h
  have C0 : cx p s m ([.ref (am 68), .int a1].toArray) meth c cX12_marksOf RX12 4 (some .int) D (tyM cI cJ cZ) A := ⟨hx, hb, B.returns, hml, hown, hta, hlocks, hK, hA⟩
  have hW : wl D A s (wM cI cJ cZ am t) s.heap [] := ⟨hP, hD, va_S.rf⟩
  have hl := lv_entry [.ref (am 68), .int a1] (n := 4) (Nat.le_of_ble_eq_true rfl)
  rw [lg_entry_eq]
  generalize (lg_sl [.ref (am 68), .int a1] ++ List.replicate (4 - (lg_sl [.ref (am 68), .int a1]).length) Slot.unset).toArray = ls at hl ⊢
  have hl : lv_has ls 4 [(0, .ref (am 68)), (1, .int a1)] := hl
  unfold m_marksOf at ho
  refine lv_iconst (v := (0 : Int32)) hx hb dX12_marksOf_0 (by decide) ?_
  refine lv_istore_n (lv' := [(2, .int (0 : Int32)), (0, .ref (am 68)), (1, .int a1)]) hx hb dX12_marksOf_1 rfl hl (by decide) rfl (fun ls hl => ?_)
  refine lv_iconst (v := (0 : Int32)) hx hb dX12_marksOf_2 (by decide) ?_
  refine lv_istore_n (lv' := [(3, .int (0 : Int32)), (2, .int (0 : Int32)), (0, .ref (am 68)), (1, .int a1)]) hx hb dX12_marksOf_3 rfl hl (by decide) rfl (fun ls hl => ?_)
  obtain ⟨y8, hc10, ho⟩ := bd_some ho
  obtain ⟨ny8, hc10⟩ := lp_to hc10
  refine m_marksOf_L4 C0 ?_ ny8 _ _ hc10 _ _ _ hW (lv_sub hl [2, 3, 1, 0] rfl)
  intro H locs ls hW hl
  refine lv_iload_n hx hb dX12_marksOf_38 rfl (lv_at hl 1 rfl) ?_
  cases ho
  exact rtI C0 hW dX12_marksOf_39
noncomputable def m_isMarks (t : St) (a0 : Int32) (a1 : Int32) : Option (Int32) :=
  (m_in t a0 (0 : Int32) (255 : Int32)).bind (fun q1 => if q1 = 0 then (some (0 : Int32)) else ((m_in t a1 (0 : Int32) (255 : Int32)).bind (fun q5 => if q5 = 0 then (some (0 : Int32)) else (if (a0 &&& a1) = 0 then (some (1 : Int32)) else (some (0 : Int32))))))
set_option maxHeartbeats 4000000 in
set_option maxRecDepth 100000 in
theorem c_m_isMarks (l : Launch) {D : va_G} {cI cJ cZ : ClassId} {am : Nat → Nat} (sz : Nat) (t : St) (a0 : Int32) (a1 : Int32) {r : Int32} (ho : m_isMarks t a0 a1 = some r) : Met l yX12_isMarks (.code yX12_isMarks cX12_isMarks 2 (some .boolean) :: wsAll) (rmN 1 22) (va_Pc [.int a0, .int a1] (prW D (tyM cI cJ cZ) (wM cI cJ cZ am t) sz)) (qZ r D (tyM cI cJ cZ) (wM cI cJ cZ am t) (va_A (wM cI cJ cZ am t) sz)) 0 0 (va_A (wM cI cJ cZ am t) sz) := by
  refine Met.ofW (cc := cX12_isMarks) (maxL := 2) (ret := (some .boolean)) (by decide) rfl ?_
  intro p e s m args below meth c s₁ B hml hv
  obtain ⟨rfl, hsz, hP, hK, hD0⟩ := hv
  have hx := B.exec
  have hb := B.bytes
  have hts := atoms_spec (ws := (.code yX12_isMarks cX12_isMarks 2 (some .boolean) :: wsAll)) B.pre
  have hta := fun w h => hts w (List.mem_cons_of_mem _ h)
  have hown : s.vm.findClass RX12 = some m.cls := findClass_of_methodNamed B.named
  have hlocks := B.notSynchronized
  subst hsz
  have hD := hD0.self (sz := s.heap.size)
  generalize hAe : va_A (wM cI cJ cZ am t) s.heap.size = A at hD ⊢
  have hA : ∀ q : Nat, s.heap.size ≤ q → A q := fun q h => by rw [← hAe]; exact Or.inr h
  have C0 : cx p s m ([.int a0, .int a1].toArray) meth c cX12_isMarks RX12 2 (some .boolean) D (tyM cI cJ cZ) A := ⟨hx, hb, B.returns, hml, hown, hta, hlocks, hK, hA⟩
  have hW : wl D A s (wM cI cJ cZ am t) s.heap [] := ⟨hP, hD, va_S.rf⟩
  have hl := lv_entry [.int a0, .int a1] (n := 2) (Nat.le_of_ble_eq_true rfl)
  rw [lg_entry_eq]
  generalize (lg_sl [.int a0, .int a1] ++ List.replicate (2 - (lg_sl [.int a0, .int a1]).length) Slot.unset).toArray = ls at hl ⊢
  have hl : lv_has ls 2 [(0, .int a0), (1, .int a1)] := hl
  unfold m_isMarks at ho
  refine lv_iload_n hx hb dX12_isMarks_0 rfl (lv_at hl 0 rfl) ?_
  refine lv_iconst (v := (0 : Int32)) hx hb dX12_isMarks_1 (by decide) ?_
  refine lv_sipush (v := (255 : Int32)) hx hb dX12_isMarks_2 (by decide) ?_
  obtain ⟨q1, hc2, ho⟩ := bd_some ho
  refine bkZ C0 hW (runS (As := [.int a0, .int (0 : Int32), .int (255 : Int32)]) (rest := []) C0 hW (c_m_in l _ t a0 (0 : Int32) (255 : Int32) (r := q1) hc2) ca_X12_in_179 rfl rfl ⟨rfl, rfl⟩ ⟨Nat.le_of_ble_eq_true rfl, Nat.le_of_ble_eq_true rfl⟩ (Nat.le_of_ble_eq_true rfl) hl.1 dX12_isMarks_5 ⟨Nat.le_of_ble_eq_true rfl, Nat.le_of_ble_eq_true rfl⟩) (fun z3 H locs hW => ?_)
  refine lv_if_eq (tgt := 32) hx hb dX12_isMarks_8 (by decide) (fun c4 => ?_) (fun c4 => ?_)
  · replace ho := ite_t c4 ho
    refine lv_iconst (v := (0 : Int32)) hx hb dX12_isMarks_32 (by decide) ?_
    cases ho
    exact rtZ C0 hW (Or.inl (rfl : (0 : Int32) = 0)) dX12_isMarks_33
  · replace ho := ite_f c4 ho
    refine lv_iload_n hx hb dX12_isMarks_11 rfl (lv_at hl 1 rfl) ?_
    refine lv_iconst (v := (0 : Int32)) hx hb dX12_isMarks_12 (by decide) ?_
    refine lv_sipush (v := (255 : Int32)) hx hb dX12_isMarks_13 (by decide) ?_
    obtain ⟨q5, hc6, ho⟩ := bd_some ho
    refine bkZ C0 hW (runS (As := [.int a1, .int (0 : Int32), .int (255 : Int32)]) (rest := []) C0 hW (c_m_in l _ t a1 (0 : Int32) (255 : Int32) (r := q5) hc6) ca_X12_in_179 rfl rfl ⟨rfl, rfl⟩ ⟨Nat.le_of_ble_eq_true rfl, Nat.le_of_ble_eq_true rfl⟩ (Nat.le_of_ble_eq_true rfl) hl.1 dX12_isMarks_16 ⟨Nat.le_of_ble_eq_true rfl, Nat.le_of_ble_eq_true rfl⟩) (fun z7 H locs hW => ?_)
    refine lv_if_eq (tgt := 32) hx hb dX12_isMarks_19 (by decide) (fun c8 => ?_) (fun c8 => ?_)
    · replace ho := ite_t c8 ho
      refine lv_iconst (v := (0 : Int32)) hx hb dX12_isMarks_32 (by decide) ?_
      cases ho
      exact rtZ C0 hW (Or.inl (rfl : (0 : Int32) = 0)) dX12_isMarks_33
    · replace ho := ite_f c8 ho
      refine lv_iload_n hx hb dX12_isMarks_22 rfl (lv_at hl 0 rfl) ?_
      refine lv_iload_n hx hb dX12_isMarks_23 rfl (lv_at hl 1 rfl) ?_
      refine lv_iand hx hb dX12_isMarks_24 ?_
      refine lv_if_ne (tgt := 32) hx hb dX12_isMarks_25 (by decide) (fun c9 => ?_) (fun c9 => ?_)
      · replace ho := ite_f c9 ho
        refine lv_iconst (v := (0 : Int32)) hx hb dX12_isMarks_32 (by decide) ?_
        cases ho
        exact rtZ C0 hW (Or.inl (rfl : (0 : Int32) = 0)) dX12_isMarks_33
      · replace ho := ite_t c9 ho
        refine lv_iconst (v := (1 : Int32)) hx hb dX12_isMarks_28 (by decide) ?_
        refine lv_goto (tgt := 33) hx hb dX12_isMarks_29 (by decide) ?_
        cases ho
        exact rtZ C0 hW (Or.inr (rfl : (1 : Int32) = 1)) dX12_isMarks_33
noncomputable def m_mayBe_J47 (t : St) (v1 : Int32) (v2 : Int32) (v4 : Int32) (w0 : Int32) : Option ((Int32 × Int32) ⊕ (Int32)) :=
  nm (w0 + (0 : Int32)) (fun x1 : Int32 => nm (v4 + (1 : Int32)) (fun x2 : Int32 => some (.inl (x1, x2))))
noncomputable def m_mayBe_B5 (t : St) (v1 : Int32) (v2 : Int32) (v3 : Int32) (v4 : Int32) : Option ((Int32 × Int32) ⊕ (Int32)) :=
  if (gI t 31) ≤ v4 then (some (.inr v3)) else (gd v4 200 ((m_marksOf t (gA t 30 (v4).toNatClampNeg)).bind (fun q5 => if (q5 &&& v1) = v1 then (if (q5 &&& v2) = 0 then (nm (v3 + (1 : Int32)) (fun x9 : Int32 => nm (v4 + (1 : Int32)) (fun x10 : Int32 => some (.inl (x9, x10))))) else (m_mayBe_J47 t v1 v2 v4 v3)) else (m_mayBe_J47 t v1 v2 v4 v3))))
noncomputable def m_mayBe (t : St) (a1 : Int32) (a2 : Int32) : Option (Int32) :=
  (lp (fun x => m_mayBe_B5 t a1 a2 x.1 x.2) ((0 : Int32), (0 : Int32))).bind (fun y11 => some y11)
set_option maxHeartbeats 4000000 in
set_option maxRecDepth 100000 in
theorem m_mayBe_L5 {p : Program} {l : Launch} {e : Env} {s : State} {m : MethodId} {args : Array Value} {below : List Frame} {meth : Method} {c : Code} {Q : State → Prop} {D : va_G} {cI cJ cZ : ClassId} {am : Nat → Nat} {A : Nat → Prop} (C0 : cx p s m args meth c cX12_mayBe RX12 6 (some .int) D (tyM cI cJ cZ) A) {t : St} {v1 : Int32} {v2 : Int32} {y : Int32} (hK0 : ∀ (H : Heap) (locs : List Loc) (ls : Array Slot), wl D A s (wM cI cJ cZ am t) H locs → lv_has ls 6 [(0, .ref (am 68)), (3, .int y)] → W p l e (rmN 1 23) s m args below meth c H locs 0 0 Q (F0 m 56 ls [])) :
    ∀ (n : Nat) (v3 : Int32) (v4 : Int32), lpn (fun x => m_mayBe_B5 t v1 v2 x.1 x.2) n (v3, v4) = some y → ∀ (H : Heap) (locs : List Loc) (ls : Array Slot), wl D A s (wM cI cJ cZ am t) H locs → lv_has ls 6 [(0, .ref (am 68)), (1, .int v1), (2, .int v2), (3, .int v3), (4, .int v4)] → W p l e (rmN 1 23) s m args below meth c H locs 0 0 Q (F0 m 5 ls []) := by
  have hx := C0.1
  have hb := C0.2.1
  have hta := C0.2.2.2.2.2.1
  have hown := C0.2.2.2.2.1
  intro n
  induction n with
  | zero => intro _ _ h; cases h
  | succ n ih =>
    intro v3 v4 hrun H locs ls hW hl
    obtain ⟨o, ho, hrun⟩ := bd_some hrun
    have J47 : ∀ (v4 : Int32) (w0 : Int32) (_ : m_mayBe_J47 t v1 v2 v4 w0 = some o) (H : Heap) (locs : List Loc) (ls : Array Slot), wl D A s (wM cI cJ cZ am t) H locs → lv_has ls 6 [(0, .ref (am 68)), (1, .int v1), (2, .int v2), (4, .int v4)] → W p l e (rmN 1 23) s m args below meth c H locs 0 0 Q (F0 m 47 ls [.int w0]) := by
      intro v4 w0 ho H locs ls hW hl
      unfold m_mayBe_J47 at ho
      refine lv_iconst (v := (0 : Int32)) hx hb dX12_mayBe_47 (by decide) ?_
      refine lv_iadd hx hb dX12_mayBe_48 ?_
      refine lv_nmi ho (fun x1 ho => ?_)
      refine lv_istore_n (lv' := [(3, .int x1), (0, .ref (am 68)), (1, .int v1), (2, .int v2), (4, .int v4)]) hx hb dX12_mayBe_49 rfl hl (by decide) rfl (fun ls hl => ?_)
      obtain ⟨x2, ex2, ho⟩ := nm_x ho
      refine lv_iinc (v := x2) (lv' := [(4, .int x2), (3, .int x1), (0, .ref (am 68)), (1, .int v1), (2, .int v2)]) hx hb dX12_mayBe_50 hl (k := 4) rfl (by rw [ex2]; rfl) (by decide) rfl (fun ls hl => ?_)
      clear ex2
      refine lv_goto (tgt := 5) hx hb dX12_mayBe_53 (by decide) ?_
      cases ho
      exact ih _ _ hrun _ _ _ hW (lv_sub hl [2, 3, 4, 1, 0] rfl)
    unfold m_mayBe_B5 at ho
    refine lv_iload hx hb dX12_mayBe_5 (lv_at hl 4 rfl) ?_
    refine lv_aload_n hx hb dX12_mayBe_7 rfl (lv_at hl 0 rfl) ?_
    refine mGET_31 C0 hW dX12_mayBe_8 ?_
    refine lv_icmp_ge (tgt := 56) hx hb dX12_mayBe_11 (by decide) (fun c3 => ?_) (fun c3 => ?_)
    · replace ho := ite_t c3 ho
      cases ho
      cases hrun
      exact hK0 _ _ _ hW (lv_sub hl [0, 3] rfl)
    · replace ho := ite_f c3 ho
      refine lv_aload_n hx hb dX12_mayBe_14 rfl (lv_at hl 0 rfl) ?_
      refine lv_aload_n hx hb dX12_mayBe_15 rfl (lv_at hl 0 rfl) ?_
      refine mGET_30 C0 hW dX12_mayBe_16 ?_
      refine lv_iload hx hb dX12_mayBe_19 (lv_at hl 4 rfl) ?_
      obtain ⟨g4, ho⟩ := gd_some ho
      refine mLD_30 C0 hW g4 dX12_mayBe_21 ?_
      obtain ⟨q5, hc6, ho⟩ := bd_some ho
      refine bkI C0 hW (runV (As := [.int (gA t 30 (v4).toNatClampNeg)]) (rest := []) C0 hW (c_m_marksOf l _ t (gA t 30 (v4).toNatClampNeg) (r := q5) hc6) ca_X12_marksOf_445 0 12 rfl rfl rfl rfl rfl ⟨rfl, rfl⟩ ⟨Nat.le_of_ble_eq_true rfl, Nat.le_of_ble_eq_true rfl⟩ (Nat.le_of_ble_eq_true rfl) hl.1 dX12_mayBe_22 ⟨Nat.le_of_ble_eq_true rfl, Nat.le_of_ble_eq_true rfl⟩) (fun H locs hW => ?_)
      refine lv_istore (lv' := [(5, .int q5), (0, .ref (am 68)), (1, .int v1), (2, .int v2), (3, .int v3), (4, .int v4)]) hx hb dX12_mayBe_25 hl (by decide) rfl (fun ls hl => ?_)
      refine lv_iload_n hx hb dX12_mayBe_27 rfl (lv_at hl 4 rfl) ?_
      refine lv_iload hx hb dX12_mayBe_28 (lv_at hl 0 rfl) ?_
      refine lv_iload_n hx hb dX12_mayBe_30 rfl (lv_at hl 2 rfl) ?_
      refine lv_iand hx hb dX12_mayBe_31 ?_
      refine lv_iload_n hx hb dX12_mayBe_32 rfl (lv_at hl 2 rfl) ?_
      refine lv_icmp_ne (tgt := 47) hx hb dX12_mayBe_33 (by decide) (fun c7 => ?_) (fun c7 => ?_)
      · replace ho := ite_f c7 ho
        exact J47 _ _ ho _ _ _ hW (lv_sub hl [1, 2, 3, 5] rfl)
      · replace ho := ite_t c7 ho
        refine lv_iload hx hb dX12_mayBe_36 (lv_at hl 0 rfl) ?_
        refine lv_iload_n hx hb dX12_mayBe_38 rfl (lv_at hl 3 rfl) ?_
        refine lv_iand hx hb dX12_mayBe_39 ?_
        refine lv_if_ne (tgt := 47) hx hb dX12_mayBe_40 (by decide) (fun c8 => ?_) (fun c8 => ?_)
        · replace ho := ite_f c8 ho
          exact J47 _ _ ho _ _ _ hW (lv_sub hl [1, 2, 3, 5] rfl)
        · replace ho := ite_t c8 ho
          refine lv_iconst (v := (1 : Int32)) hx hb dX12_mayBe_43 (by decide) ?_
          refine lv_goto (tgt := 48) hx hb dX12_mayBe_44 (by decide) ?_
          refine lv_iadd hx hb dX12_mayBe_48 ?_
          refine lv_nmi ho (fun x9 ho => ?_)
          refine lv_istore_n (lv' := [(3, .int x9), (5, .int q5), (0, .ref (am 68)), (1, .int v1), (2, .int v2), (4, .int v4)]) hx hb dX12_mayBe_49 rfl hl (by decide) rfl (fun ls hl => ?_)
          obtain ⟨x10, ex10, ho⟩ := nm_x ho
          refine lv_iinc (v := x10) (lv' := [(4, .int x10), (3, .int x9), (5, .int q5), (0, .ref (am 68)), (1, .int v1), (2, .int v2)]) hx hb dX12_mayBe_50 hl (k := 5) rfl (by rw [ex10]; rfl) (by decide) rfl (fun ls hl => ?_)
          clear ex10
          refine lv_goto (tgt := 5) hx hb dX12_mayBe_53 (by decide) ?_
          cases ho
          exact ih _ _ hrun _ _ _ hW (lv_sub hl [3, 4, 5, 1, 0] rfl)
set_option maxHeartbeats 4000000 in
set_option maxRecDepth 100000 in
theorem c_m_mayBe (l : Launch) {D : va_G} {cI cJ cZ : ClassId} {am : Nat → Nat} (sz : Nat) (t : St) (a1 : Int32) (a2 : Int32) {r : Int32} (ho : m_mayBe t a1 a2 = some r) : Met l yX12_mayBe (.code yX12_mayBe cX12_mayBe 6 (some .int) :: wsAll) (rmN 1 23) (va_Pc [.ref (am 68), .int a1, .int a2] (prW D (tyM cI cJ cZ) (wM cI cJ cZ am t) sz)) (qI r D (tyM cI cJ cZ) (wM cI cJ cZ am t) (va_A (wM cI cJ cZ am t) sz)) 0 0 (va_A (wM cI cJ cZ am t) sz) := by
  refine Met.ofW (cc := cX12_mayBe) (maxL := 6) (ret := (some .int)) (by decide) rfl ?_
  intro p e s m args below meth c s₁ B hml hv
  obtain ⟨rfl, hsz, hP, hK, hD0⟩ := hv
  have hx := B.exec
  have hb := B.bytes
  have hts := atoms_spec (ws := (.code yX12_mayBe cX12_mayBe 6 (some .int) :: wsAll)) B.pre
  have hta := fun w h => hts w (List.mem_cons_of_mem _ h)
  have hown : s.vm.findClass RX12 = some m.cls := findClass_of_methodNamed B.named
  have hlocks := B.notSynchronized
  subst hsz
  have hD := hD0.self (sz := s.heap.size)
  generalize hAe : va_A (wM cI cJ cZ am t) s.heap.size = A at hD ⊢
  have hA : ∀ q : Nat, s.heap.size ≤ q → A q := fun q h => by rw [← hAe]; exact Or.inr h
  have C0 : cx p s m ([.ref (am 68), .int a1, .int a2].toArray) meth c cX12_mayBe RX12 6 (some .int) D (tyM cI cJ cZ) A := ⟨hx, hb, B.returns, hml, hown, hta, hlocks, hK, hA⟩
  have hW : wl D A s (wM cI cJ cZ am t) s.heap [] := ⟨hP, hD, va_S.rf⟩
  have hl := lv_entry [.ref (am 68), .int a1, .int a2] (n := 6) (Nat.le_of_ble_eq_true rfl)
  rw [lg_entry_eq]
  generalize (lg_sl [.ref (am 68), .int a1, .int a2] ++ List.replicate (6 - (lg_sl [.ref (am 68), .int a1, .int a2]).length) Slot.unset).toArray = ls at hl ⊢
  have hl : lv_has ls 6 [(0, .ref (am 68)), (1, .int a1), (2, .int a2)] := hl
  unfold m_mayBe at ho
  refine lv_iconst (v := (0 : Int32)) hx hb dX12_mayBe_0 (by decide) ?_
  refine lv_istore_n (lv' := [(3, .int (0 : Int32)), (0, .ref (am 68)), (1, .int a1), (2, .int a2)]) hx hb dX12_mayBe_1 rfl hl (by decide) rfl (fun ls hl => ?_)
  refine lv_iconst (v := (0 : Int32)) hx hb dX12_mayBe_2 (by decide) ?_
  refine lv_istore (lv' := [(4, .int (0 : Int32)), (3, .int (0 : Int32)), (0, .ref (am 68)), (1, .int a1), (2, .int a2)]) hx hb dX12_mayBe_3 hl (by decide) rfl (fun ls hl => ?_)
  obtain ⟨y11, hc13, ho⟩ := bd_some ho
  obtain ⟨ny11, hc13⟩ := lp_to hc13
  refine m_mayBe_L5 C0 ?_ ny11 _ _ hc13 _ _ _ hW (lv_sub hl [2, 3, 4, 1, 0] rfl)
  intro H locs ls hW hl
  refine lv_iload_n hx hb dX12_mayBe_56 rfl (lv_at hl 1 rfl) ?_
  cases ho
  exact rtI C0 hW dX12_mayBe_57
noncomputable def m_may (t : St) (a1 : Int32) (a2 : Int32) (a3 : Int32) : Option (Int32 × St) :=
  (m_isMarks t a2 a3).bind (fun q1 => (m_whyWays t a1 q1).bind (fun q4 => if q4.1 = (1 : Int32) then ((m_mayBe q4.2 a2 a3).bind (fun q7 => some (q7, q4.2))) else (some (q4.1, q4.2))))
set_option maxHeartbeats 4000000 in
set_option maxRecDepth 100000 in
theorem c_m_may (l : Launch) {D : va_G} {cI cJ cZ : ClassId} {am : Nat → Nat} (sz : Nat) (t : St) (a1 : Int32) (a2 : Int32) (a3 : Int32) {r : Int32} {t' : St} (ho : m_may t a1 a2 a3 = some (r, t')) : Met l yX12_may (.code yX12_may cX12_may 5 (some .int) :: wsAll) (rmN 5 122) (va_Pc [.ref (am 68), .int a1, .int a2, .int a3] (prW D (tyM cI cJ cZ) (wM cI cJ cZ am t) sz)) (qI r D (tyM cI cJ cZ) (wM cI cJ cZ am t') (va_A (wM cI cJ cZ am t) sz)) 0 0 (va_A (wM cI cJ cZ am t) sz) := by
  refine Met.ofW (cc := cX12_may) (maxL := 5) (ret := (some .int)) (by decide) rfl ?_
  intro p e s m args below meth c s₁ B hml hv
  obtain ⟨rfl, hsz, hP, hK, hD0⟩ := hv
  have hx := B.exec
  have hb := B.bytes
  have hts := atoms_spec (ws := (.code yX12_may cX12_may 5 (some .int) :: wsAll)) B.pre
  have hta := fun w h => hts w (List.mem_cons_of_mem _ h)
  have hown : s.vm.findClass RX12 = some m.cls := findClass_of_methodNamed B.named
  have hlocks := B.notSynchronized
  subst hsz
  have hD := hD0.self (sz := s.heap.size)
  generalize hAe : va_A (wM cI cJ cZ am t) s.heap.size = A at hD ⊢
  have hA : ∀ q : Nat, s.heap.size ≤ q → A q := fun q h => by rw [← hAe]; exact Or.inr h
  have C0 : cx p s m ([.ref (am 68), .int a1, .int a2, .int a3].toArray) meth c cX12_may RX12 5 (some .int) D (tyM cI cJ cZ) A := ⟨hx, hb, B.returns, hml, hown, hta, hlocks, hK, hA⟩
  have hW : wl D A s (wM cI cJ cZ am t) s.heap [] := ⟨hP, hD, va_S.rf⟩
  have hl := lv_entry [.ref (am 68), .int a1, .int a2, .int a3] (n := 5) (Nat.le_of_ble_eq_true rfl)
  rw [lg_entry_eq]
  generalize (lg_sl [.ref (am 68), .int a1, .int a2, .int a3] ++ List.replicate (5 - (lg_sl [.ref (am 68), .int a1, .int a2, .int a3]).length) Slot.unset).toArray = ls at hl ⊢
  have hl : lv_has ls 5 [(0, .ref (am 68)), (1, .int a1), (2, .int a2), (3, .int a3)] := hl
  unfold m_may at ho
  refine lv_aload_n hx hb dX12_may_0 rfl (lv_at hl 0 rfl) ?_
  refine lv_iload_n hx hb dX12_may_1 rfl (lv_at hl 1 rfl) ?_
  refine lv_iload_n hx hb dX12_may_2 rfl (lv_at hl 2 rfl) ?_
  refine lv_iload_n hx hb dX12_may_3 rfl (lv_at hl 3 rfl) ?_
  obtain ⟨q1, hc2, ho⟩ := bd_some ho
  refine bkZ C0 hW (runS (As := [.int a2, .int a3]) (rest := [.int a1, .ref (am 68)]) C0 hW (c_m_isMarks l _ t a2 a3 (r := q1) hc2) ca_X12_isMarks_448 rfl rfl ⟨rfl, rfl⟩ ⟨Nat.le_of_ble_eq_true rfl, Nat.le_of_ble_eq_true rfl⟩ (Nat.le_of_ble_eq_true rfl) hl.1 dX12_may_4 ⟨Nat.le_of_ble_eq_true rfl, Nat.le_of_ble_eq_true rfl⟩) (fun z3 H locs hW => ?_)
  obtain ⟨q4, hc5, ho⟩ := bd_some ho
  refine bkI C0 hW (runV (As := [.int a1, .int q1]) (rest := []) C0 hW (c_m_whyWays l _ t a1 q1 (r := q4.1) (t' := q4.2) hc5) ca_X12_whyWays_301 0 12 rfl rfl rfl rfl rfl ⟨rfl, rfl⟩ ⟨Nat.le_of_ble_eq_true rfl, Nat.le_of_ble_eq_true rfl⟩ (Nat.le_of_ble_eq_true rfl) hl.1 dX12_may_7 ⟨Nat.le_of_ble_eq_true rfl, Nat.le_of_ble_eq_true rfl⟩) (fun H locs hW => ?_)
  refine lv_istore (lv' := [(4, .int q4.1), (0, .ref (am 68)), (1, .int a1), (2, .int a2), (3, .int a3)]) hx hb dX12_may_10 hl (by decide) rfl (fun ls hl => ?_)
  refine lv_iload hx hb dX12_may_12 (lv_at hl 0 rfl) ?_
  refine lv_iconst (v := (1 : Int32)) hx hb dX12_may_14 (by decide) ?_
  refine lv_icmp_eq (tgt := 23) hx hb dX12_may_15 (by decide) (fun c6 => ?_) (fun c6 => ?_)
  · replace ho := ite_t c6 ho
    refine lv_aload_n hx hb dX12_may_23 rfl (lv_at hl 1 rfl) ?_
    refine lv_iload_n hx hb dX12_may_24 rfl (lv_at hl 3 rfl) ?_
    refine lv_iload_n hx hb dX12_may_25 rfl (lv_at hl 4 rfl) ?_
    obtain ⟨q7, hc8, ho⟩ := bd_some ho
    refine bkI C0 hW (runV (As := [.int a2, .int a3]) (rest := []) C0 hW (c_m_mayBe l _ q4.2 a2 a3 (r := q7) hc8) ca_X12_mayBe_451 0 12 rfl rfl rfl rfl rfl ⟨rfl, rfl⟩ ⟨Nat.le_of_ble_eq_true rfl, Nat.le_of_ble_eq_true rfl⟩ (Nat.le_of_ble_eq_true rfl) hl.1 dX12_may_26 ⟨Nat.le_of_ble_eq_true rfl, Nat.le_of_ble_eq_true rfl⟩) (fun H locs hW => ?_)
    cases ho
    exact rtI C0 hW dX12_may_29
  · replace ho := ite_f c6 ho
    refine lv_iload hx hb dX12_may_18 (lv_at hl 0 rfl) ?_
    refine lv_goto (tgt := 29) hx hb dX12_may_20 (by decide) ?_
    cases ho
    exact rtI C0 hW dX12_may_29
noncomputable def m_ask_J106 (t : St) (v2 : Int32) (v3 : Int32) (v5 : Int32) (v7 : Int32) (v8 : Int32) (v10 : Int32) (w0 : Int32) : Option ((Int32 × Int32 × Int32) ⊕ (Int32)) :=
  if v7 ≤ v10 then (nm (v8 + (1 : Int32)) (fun x2 : Int32 => some (.inl (w0, v7, x2)))) else (nm (v8 + (1 : Int32)) (fun x3 : Int32 => some (.inl (w0, v10, x3))))
noncomputable def m_ask_J90 (t : St) (v2 : Int32) (v3 : Int32) (v5 : Int32) (v6 : Int32) (v7 : Int32) (v8 : Int32) (w0 : Int32) : Option ((Int32 × Int32 × Int32) ⊕ (Int32)) :=
  if v7 ≤ w0 then (m_ask_J106 t v2 v3 v5 v7 v8 w0 v6) else (m_ask_J106 t v2 v3 v5 v7 v8 w0 v8)
noncomputable def m_ask_B39 (t : St) (v2 : Int32) (v3 : Int32) (v5 : Int32) (v6 : Int32) (v7 : Int32) (v8 : Int32) : Option ((Int32 × Int32 × Int32) ⊕ (Int32)) :=
  if (8 : Int32) ≤ v8 then (some (.inr v6)) else (if (((v2 ||| v3) >>> (v8 &&& 31)) &&& (1 : Int32)) = 0 then ((m_mayBe t (v2 ||| ((1 : Int32) <<< (v8 &&& 31))) v3).bind (fun q8 => if q8 ≤ (v5 - q8) then (m_ask_J90 t v2 v3 v5 v6 v7 v8 (v5 - q8)) else (m_ask_J90 t v2 v3 v5 v6 v7 v8 q8))) else (nm (v8 + (1 : Int32)) (fun x7 : Int32 => some (.inl (v6, v7, x7)))))
noncomputable def m_ask (t : St) (a1 : Int32) (a2 : Int32) (a3 : Int32) : Option (Int32 × St) :=
  (m_isMarks t a2 a3).bind (fun q11 => (m_whyWays t a1 q11).bind (fun q14 => if q14.1 = (1 : Int32) then ((m_mayBe q14.2 a2 a3).bind (fun q17 => (lp (fun x => m_ask_B39 q14.2 a2 a3 q17 x.1 x.2.1 x.2.2) ((-1 : Int32), q17, (0 : Int32))).bind (fun y19 => if (2 : Int32) ≤ q17 then (some (y19, q14.2)) else (some ((-1 : Int32), q14.2))))) else (some (q14.1, q14.2))))
set_option maxHeartbeats 4000000 in
set_option maxRecDepth 100000 in
theorem m_ask_L39 {p : Program} {l : Launch} {e : Env} {s : State} {m : MethodId} {args : Array Value} {below : List Frame} {meth : Method} {c : Code} {Q : State → Prop} {D : va_G} {cI cJ cZ : ClassId} {am : Nat → Nat} {A : Nat → Prop} (C0 : cx p s m args meth c cX12_ask RX12 11 (some .int) D (tyM cI cJ cZ) A) {t : St} {v2 : Int32} {v3 : Int32} {v5 : Int32} {y : Int32} (hK0 : ∀ (H : Heap) (locs : List Loc) (ls : Array Slot), wl D A s (wM cI cJ cZ am t) H locs → lv_has ls 11 [(0, .ref (am 68)), (5, .int v5), (6, .int y)] → W p l e (rmN 5 122) s m args below meth c H locs 0 0 Q (F0 m 130 ls [])) :
    ∀ (n : Nat) (v6 : Int32) (v7 : Int32) (v8 : Int32), lpn (fun x => m_ask_B39 t v2 v3 v5 x.1 x.2.1 x.2.2) n (v6, v7, v8) = some y → ∀ (H : Heap) (locs : List Loc) (ls : Array Slot), wl D A s (wM cI cJ cZ am t) H locs → lv_has ls 11 [(0, .ref (am 68)), (2, .int v2), (3, .int v3), (5, .int v5), (6, .int v6), (7, .int v7), (8, .int v8)] → W p l e (rmN 5 122) s m args below meth c H locs 0 0 Q (F0 m 39 ls []) := by
  have hx := C0.1
  have hb := C0.2.1
  have hta := C0.2.2.2.2.2.1
  have hown := C0.2.2.2.2.1
  intro n
  induction n with
  | zero => intro _ _ _ h; cases h
  | succ n ih =>
    intro v6 v7 v8 hrun H locs ls hW hl
    obtain ⟨o, ho, hrun⟩ := bd_some hrun
    have J106 : ∀ (v7 : Int32) (v8 : Int32) (v10 : Int32) (w0 : Int32) (_ : m_ask_J106 t v2 v3 v5 v7 v8 v10 w0 = some o) (H : Heap) (locs : List Loc) (ls : Array Slot), wl D A s (wM cI cJ cZ am t) H locs → lv_has ls 11 [(0, .ref (am 68)), (2, .int v2), (3, .int v3), (5, .int v5), (7, .int v7), (8, .int v8), (10, .int v10)] → W p l e (rmN 5 122) s m args below meth c H locs 0 0 Q (F0 m 106 ls [.int w0]) := by
      intro v7 v8 v10 w0 ho H locs ls hW hl
      unfold m_ask_J106 at ho
      refine lv_istore (lv' := [(6, .int w0), (0, .ref (am 68)), (2, .int v2), (3, .int v3), (5, .int v5), (7, .int v7), (8, .int v8), (10, .int v10)]) hx hb dX12_ask_106 hl (by decide) rfl (fun ls hl => ?_)
      refine lv_iload hx hb dX12_ask_108 (lv_at hl 7 rfl) ?_
      refine lv_iload hx hb dX12_ask_110 (lv_at hl 5 rfl) ?_
      refine lv_icmp_ge (tgt := 120) hx hb dX12_ask_112 (by decide) (fun c1 => ?_) (fun c1 => ?_)
      · replace ho := ite_t c1 ho
        refine lv_iload hx hb dX12_ask_120 (lv_at hl 5 rfl) ?_
        refine lv_istore (lv' := [(7, .int v7), (6, .int w0), (0, .ref (am 68)), (2, .int v2), (3, .int v3), (5, .int v5), (8, .int v8), (10, .int v10)]) hx hb dX12_ask_122 hl (by decide) rfl (fun ls hl => ?_)
        obtain ⟨x2, ex2, ho⟩ := nm_x ho
        refine lv_iinc (v := x2) (lv' := [(8, .int x2), (7, .int v7), (6, .int w0), (0, .ref (am 68)), (2, .int v2), (3, .int v3), (5, .int v5), (10, .int v10)]) hx hb dX12_ask_124 hl (k := 6) rfl (by rw [ex2]; rfl) (by decide) rfl (fun ls hl => ?_)
        clear ex2
        refine lv_goto (tgt := 39) hx hb dX12_ask_127 (by decide) ?_
        cases ho
        exact ih _ _ _ hrun _ _ _ hW (lv_sub hl [3, 4, 5, 6, 2, 1, 0] rfl)
      · replace ho := ite_f c1 ho
        refine lv_iload hx hb dX12_ask_115 (lv_at hl 7 rfl) ?_
        refine lv_goto (tgt := 122) hx hb dX12_ask_117 (by decide) ?_
        refine lv_istore (lv' := [(7, .int v10), (6, .int w0), (0, .ref (am 68)), (2, .int v2), (3, .int v3), (5, .int v5), (8, .int v8), (10, .int v10)]) hx hb dX12_ask_122 hl (by decide) rfl (fun ls hl => ?_)
        obtain ⟨x3, ex3, ho⟩ := nm_x ho
        refine lv_iinc (v := x3) (lv' := [(8, .int x3), (7, .int v10), (6, .int w0), (0, .ref (am 68)), (2, .int v2), (3, .int v3), (5, .int v5), (10, .int v10)]) hx hb dX12_ask_124 hl (k := 6) rfl (by rw [ex3]; rfl) (by decide) rfl (fun ls hl => ?_)
        clear ex3
        refine lv_goto (tgt := 39) hx hb dX12_ask_127 (by decide) ?_
        cases ho
        exact ih _ _ _ hrun _ _ _ hW (lv_sub hl [3, 4, 5, 6, 2, 1, 0] rfl)
    have J90 : ∀ (v6 : Int32) (v7 : Int32) (v8 : Int32) (w0 : Int32) (_ : m_ask_J90 t v2 v3 v5 v6 v7 v8 w0 = some o) (H : Heap) (locs : List Loc) (ls : Array Slot), wl D A s (wM cI cJ cZ am t) H locs → lv_has ls 11 [(0, .ref (am 68)), (2, .int v2), (3, .int v3), (5, .int v5), (6, .int v6), (7, .int v7), (8, .int v8)] → W p l e (rmN 5 122) s m args below meth c H locs 0 0 Q (F0 m 90 ls [.int w0]) := by
      intro v6 v7 v8 w0 ho H locs ls hW hl
      unfold m_ask_J90 at ho
      refine lv_istore (lv' := [(10, .int w0), (0, .ref (am 68)), (2, .int v2), (3, .int v3), (5, .int v5), (6, .int v6), (7, .int v7), (8, .int v8)]) hx hb dX12_ask_90 hl (by decide) rfl (fun ls hl => ?_)
      refine lv_iload hx hb dX12_ask_92 (lv_at hl 0 rfl) ?_
      refine lv_iload hx hb dX12_ask_94 (lv_at hl 6 rfl) ?_
      refine lv_icmp_ge (tgt := 104) hx hb dX12_ask_96 (by decide) (fun c4 => ?_) (fun c4 => ?_)
      · replace ho := ite_t c4 ho
        refine lv_iload hx hb dX12_ask_104 (lv_at hl 5 rfl) ?_
        exact J106 _ _ _ _ ho _ _ _ hW (lv_sub hl [1, 2, 3, 4, 6, 7, 0] rfl)
      · replace ho := ite_f c4 ho
        refine lv_iload hx hb dX12_ask_99 (lv_at hl 7 rfl) ?_
        refine lv_goto (tgt := 106) hx hb dX12_ask_101 (by decide) ?_
        exact J106 _ _ _ _ ho _ _ _ hW (lv_sub hl [1, 2, 3, 4, 6, 7, 0] rfl)
    unfold m_ask_B39 at ho
    refine lv_iload hx hb dX12_ask_39 (lv_at hl 6 rfl) ?_
    refine lv_bipush (v := (8 : Int32)) hx hb dX12_ask_41 (by decide) ?_
    refine lv_icmp_ge (tgt := 130) hx hb dX12_ask_43 (by decide) (fun c5 => ?_) (fun c5 => ?_)
    · replace ho := ite_t c5 ho
      cases ho
      cases hrun
      exact hK0 _ _ _ hW (lv_sub hl [0, 3, 4] rfl)
    · replace ho := ite_f c5 ho
      refine lv_iload_n hx hb dX12_ask_46 rfl (lv_at hl 1 rfl) ?_
      refine lv_iload_n hx hb dX12_ask_47 rfl (lv_at hl 2 rfl) ?_
      refine lv_ior hx hb dX12_ask_48 ?_
      refine lv_iload hx hb dX12_ask_49 (lv_at hl 6 rfl) ?_
      refine lv_ishr hx hb dX12_ask_51 ?_
      refine lv_iconst (v := (1 : Int32)) hx hb dX12_ask_52 (by decide) ?_
      refine lv_iand hx hb dX12_ask_53 ?_
      refine lv_if_ne (tgt := 124) hx hb dX12_ask_54 (by decide) (fun c6 => ?_) (fun c6 => ?_)
      · replace ho := ite_f c6 ho
        obtain ⟨x7, ex7, ho⟩ := nm_x ho
        refine lv_iinc (v := x7) (lv' := [(8, .int x7), (0, .ref (am 68)), (2, .int v2), (3, .int v3), (5, .int v5), (6, .int v6), (7, .int v7)]) hx hb dX12_ask_124 hl (k := 6) rfl (by rw [ex7]; rfl) (by decide) rfl (fun ls hl => ?_)
        clear ex7
        refine lv_goto (tgt := 39) hx hb dX12_ask_127 (by decide) ?_
        cases ho
        exact ih _ _ _ hrun _ _ _ hW (lv_sub hl [1, 2, 3, 4, 5, 6, 0] rfl)
      · replace ho := ite_t c6 ho
        refine lv_aload_n hx hb dX12_ask_57 rfl (lv_at hl 0 rfl) ?_
        refine lv_iload_n hx hb dX12_ask_58 rfl (lv_at hl 1 rfl) ?_
        refine lv_iconst (v := (1 : Int32)) hx hb dX12_ask_59 (by decide) ?_
        refine lv_iload hx hb dX12_ask_60 (lv_at hl 6 rfl) ?_
        refine lv_ishl hx hb dX12_ask_62 ?_
        refine lv_ior hx hb dX12_ask_63 ?_
        refine lv_iload_n hx hb dX12_ask_64 rfl (lv_at hl 2 rfl) ?_
        obtain ⟨q8, hc9, ho⟩ := bd_some ho
        refine bkI C0 hW (runV (As := [.int (v2 ||| ((1 : Int32) <<< (v8 &&& 31))), .int v3]) (rest := []) C0 hW (c_m_mayBe l _ t (v2 ||| ((1 : Int32) <<< (v8 &&& 31))) v3 (r := q8) hc9) ca_X12_mayBe_451 0 12 rfl rfl rfl rfl rfl ⟨rfl, rfl⟩ ⟨Nat.le_of_ble_eq_true rfl, Nat.le_of_ble_eq_true rfl⟩ (Nat.le_of_ble_eq_true rfl) hl.1 dX12_ask_65 ⟨Nat.le_of_ble_eq_true rfl, Nat.le_of_ble_eq_true rfl⟩) (fun H locs hW => ?_)
        refine lv_istore (lv' := [(9, .int q8), (0, .ref (am 68)), (2, .int v2), (3, .int v3), (5, .int v5), (6, .int v6), (7, .int v7), (8, .int v8)]) hx hb dX12_ask_68 hl (by decide) rfl (fun ls hl => ?_)
        refine lv_iload hx hb dX12_ask_70 (lv_at hl 0 rfl) ?_
        refine lv_iload hx hb dX12_ask_72 (lv_at hl 4 rfl) ?_
        refine lv_iload hx hb dX12_ask_74 (lv_at hl 0 rfl) ?_
        refine lv_isub hx hb dX12_ask_76 ?_
        refine lv_icmp_le (tgt := 85) hx hb dX12_ask_77 (by decide) (fun c10 => ?_) (fun c10 => ?_)
        · replace ho := ite_t c10 ho
          refine lv_iload hx hb dX12_ask_85 (lv_at hl 4 rfl) ?_
          refine lv_iload hx hb dX12_ask_87 (lv_at hl 0 rfl) ?_
          refine lv_isub hx hb dX12_ask_89 ?_
          exact J90 _ _ _ _ ho _ _ _ hW (lv_sub hl [1, 2, 3, 4, 5, 6, 7] rfl)
        · replace ho := ite_f c10 ho
          refine lv_iload hx hb dX12_ask_80 (lv_at hl 0 rfl) ?_
          refine lv_goto (tgt := 90) hx hb dX12_ask_82 (by decide) ?_
          exact J90 _ _ _ _ ho _ _ _ hW (lv_sub hl [1, 2, 3, 4, 5, 6, 7] rfl)
set_option maxHeartbeats 4000000 in
set_option maxRecDepth 100000 in
theorem c_m_ask (l : Launch) {D : va_G} {cI cJ cZ : ClassId} {am : Nat → Nat} (sz : Nat) (t : St) (a1 : Int32) (a2 : Int32) (a3 : Int32) {r : Int32} {t' : St} (ho : m_ask t a1 a2 a3 = some (r, t')) : Met l yX12_ask (.code yX12_ask cX12_ask 11 (some .int) :: wsAll) (rmN 5 122) (va_Pc [.ref (am 68), .int a1, .int a2, .int a3] (prW D (tyM cI cJ cZ) (wM cI cJ cZ am t) sz)) (qI r D (tyM cI cJ cZ) (wM cI cJ cZ am t') (va_A (wM cI cJ cZ am t) sz)) 0 0 (va_A (wM cI cJ cZ am t) sz) := by
  refine Met.ofW (cc := cX12_ask) (maxL := 11) (ret := (some .int)) (by decide) rfl ?_
  intro p e s m args below meth c s₁ B hml hv
  obtain ⟨rfl, hsz, hP, hK, hD0⟩ := hv
  have hx := B.exec
  have hb := B.bytes
  have hts := atoms_spec (ws := (.code yX12_ask cX12_ask 11 (some .int) :: wsAll)) B.pre
  have hta := fun w h => hts w (List.mem_cons_of_mem _ h)
  have hown : s.vm.findClass RX12 = some m.cls := findClass_of_methodNamed B.named
  have hlocks := B.notSynchronized
  subst hsz
  have hD := hD0.self (sz := s.heap.size)
  generalize hAe : va_A (wM cI cJ cZ am t) s.heap.size = A at hD ⊢
  have hA : ∀ q : Nat, s.heap.size ≤ q → A q := fun q h => by rw [← hAe]; exact Or.inr h
  have C0 : cx p s m ([.ref (am 68), .int a1, .int a2, .int a3].toArray) meth c cX12_ask RX12 11 (some .int) D (tyM cI cJ cZ) A := ⟨hx, hb, B.returns, hml, hown, hta, hlocks, hK, hA⟩
  have hW : wl D A s (wM cI cJ cZ am t) s.heap [] := ⟨hP, hD, va_S.rf⟩
  have hl := lv_entry [.ref (am 68), .int a1, .int a2, .int a3] (n := 11) (Nat.le_of_ble_eq_true rfl)
  rw [lg_entry_eq]
  generalize (lg_sl [.ref (am 68), .int a1, .int a2, .int a3] ++ List.replicate (11 - (lg_sl [.ref (am 68), .int a1, .int a2, .int a3]).length) Slot.unset).toArray = ls at hl ⊢
  have hl : lv_has ls 11 [(0, .ref (am 68)), (1, .int a1), (2, .int a2), (3, .int a3)] := hl
  unfold m_ask at ho
  refine lv_aload_n hx hb dX12_ask_0 rfl (lv_at hl 0 rfl) ?_
  refine lv_iload_n hx hb dX12_ask_1 rfl (lv_at hl 1 rfl) ?_
  refine lv_iload_n hx hb dX12_ask_2 rfl (lv_at hl 2 rfl) ?_
  refine lv_iload_n hx hb dX12_ask_3 rfl (lv_at hl 3 rfl) ?_
  obtain ⟨q11, hc12, ho⟩ := bd_some ho
  refine bkZ C0 hW (runS (As := [.int a2, .int a3]) (rest := [.int a1, .ref (am 68)]) C0 hW (c_m_isMarks l _ t a2 a3 (r := q11) hc12) ca_X12_isMarks_448 rfl rfl ⟨rfl, rfl⟩ ⟨Nat.le_of_ble_eq_true rfl, Nat.le_of_ble_eq_true rfl⟩ (Nat.le_of_ble_eq_true rfl) hl.1 dX12_ask_4 ⟨Nat.le_of_ble_eq_true rfl, Nat.le_of_ble_eq_true rfl⟩) (fun z13 H locs hW => ?_)
  obtain ⟨q14, hc15, ho⟩ := bd_some ho
  refine bkI C0 hW (runV (As := [.int a1, .int q11]) (rest := []) C0 hW (c_m_whyWays l _ t a1 q11 (r := q14.1) (t' := q14.2) hc15) ca_X12_whyWays_301 0 12 rfl rfl rfl rfl rfl ⟨rfl, rfl⟩ ⟨Nat.le_of_ble_eq_true rfl, Nat.le_of_ble_eq_true rfl⟩ (Nat.le_of_ble_eq_true rfl) hl.1 dX12_ask_7 ⟨Nat.le_of_ble_eq_true rfl, Nat.le_of_ble_eq_true rfl⟩) (fun H locs hW => ?_)
  refine lv_istore (lv' := [(4, .int q14.1), (0, .ref (am 68)), (1, .int a1), (2, .int a2), (3, .int a3)]) hx hb dX12_ask_10 hl (by decide) rfl (fun ls hl => ?_)
  refine lv_iload hx hb dX12_ask_12 (lv_at hl 0 rfl) ?_
  refine lv_iconst (v := (1 : Int32)) hx hb dX12_ask_14 (by decide) ?_
  refine lv_icmp_eq (tgt := 21) hx hb dX12_ask_15 (by decide) (fun c16 => ?_) (fun c16 => ?_)
  · replace ho := ite_t c16 ho
    refine lv_aload_n hx hb dX12_ask_21 rfl (lv_at hl 1 rfl) ?_
    refine lv_iload_n hx hb dX12_ask_22 rfl (lv_at hl 3 rfl) ?_
    refine lv_iload_n hx hb dX12_ask_23 rfl (lv_at hl 4 rfl) ?_
    obtain ⟨q17, hc18, ho⟩ := bd_some ho
    refine bkI C0 hW (runV (As := [.int a2, .int a3]) (rest := []) C0 hW (c_m_mayBe l _ q14.2 a2 a3 (r := q17) hc18) ca_X12_mayBe_451 0 12 rfl rfl rfl rfl rfl ⟨rfl, rfl⟩ ⟨Nat.le_of_ble_eq_true rfl, Nat.le_of_ble_eq_true rfl⟩ (Nat.le_of_ble_eq_true rfl) hl.1 dX12_ask_24 ⟨Nat.le_of_ble_eq_true rfl, Nat.le_of_ble_eq_true rfl⟩) (fun H locs hW => ?_)
    refine lv_istore (lv' := [(5, .int q17), (4, .int q14.1), (0, .ref (am 68)), (1, .int a1), (2, .int a2), (3, .int a3)]) hx hb dX12_ask_27 hl (by decide) rfl (fun ls hl => ?_)
    refine lv_iconst (v := (-1 : Int32)) hx hb dX12_ask_29 (by decide) ?_
    refine lv_istore (lv' := [(6, .int (-1 : Int32)), (5, .int q17), (4, .int q14.1), (0, .ref (am 68)), (1, .int a1), (2, .int a2), (3, .int a3)]) hx hb dX12_ask_30 hl (by decide) rfl (fun ls hl => ?_)
    refine lv_iload hx hb dX12_ask_32 (lv_at hl 1 rfl) ?_
    refine lv_istore (lv' := [(7, .int q17), (6, .int (-1 : Int32)), (5, .int q17), (4, .int q14.1), (0, .ref (am 68)), (1, .int a1), (2, .int a2), (3, .int a3)]) hx hb dX12_ask_34 hl (by decide) rfl (fun ls hl => ?_)
    refine lv_iconst (v := (0 : Int32)) hx hb dX12_ask_36 (by decide) ?_
    refine lv_istore (lv' := [(8, .int (0 : Int32)), (7, .int q17), (6, .int (-1 : Int32)), (5, .int q17), (4, .int q14.1), (0, .ref (am 68)), (1, .int a1), (2, .int a2), (3, .int a3)]) hx hb dX12_ask_37 hl (by decide) rfl (fun ls hl => ?_)
    obtain ⟨y19, hc21, ho⟩ := bd_some ho
    obtain ⟨ny19, hc21⟩ := lp_to hc21
    refine m_ask_L39 C0 ?_ ny19 _ _ _ hc21 _ _ _ hW (lv_sub hl [5, 7, 8, 3, 2, 1, 0] rfl)
    intro H locs ls hW hl
    refine lv_iload hx hb dX12_ask_130 (lv_at hl 1 rfl) ?_
    refine lv_iconst (v := (2 : Int32)) hx hb dX12_ask_132 (by decide) ?_
    refine lv_icmp_ge (tgt := 140) hx hb dX12_ask_133 (by decide) (fun c22 => ?_) (fun c22 => ?_)
    · replace ho := ite_t c22 ho
      refine lv_iload hx hb dX12_ask_140 (lv_at hl 2 rfl) ?_
      cases ho
      exact rtI C0 hW dX12_ask_142
    · replace ho := ite_f c22 ho
      refine lv_iconst (v := (-1 : Int32)) hx hb dX12_ask_136 (by decide) ?_
      refine lv_goto (tgt := 142) hx hb dX12_ask_137 (by decide) ?_
      cases ho
      exact rtI C0 hW dX12_ask_142
  · replace ho := ite_f c16 ho
    refine lv_iload hx hb dX12_ask_18 (lv_at hl 0 rfl) ?_
    cases ho
    exact rtI C0 hW dX12_ask_20
noncomputable def m_event_J30 (t : St) (v1 : Int32) (v2 : Int32) (w0 : Int32) (w1 : Int32) : Option (Int32 × St) :=
  (m_in t w0 w1 (10000 : Int32)).bind (fun q1 => if q1 = 0 then (some ((-2 : Int32), t)) else (if (gI t 56) = (40 : Int32) then (some ((-4 : Int32), t)) else (gd (gI t 56) 40 (nm (sA t 57 (gI t 56) v1) (fun t7 : St => gd (gI t7 56) 40 (nm (sA t7 58 (gI t7 56) v2) (fun t9 : St => nm (sI t9 56 ((gI t9 56) + (1 : Int32))) (fun t10 : St => some ((gI t10 56), t10)))))))))
noncomputable def m_event (t : St) (a1 : Int32) (a2 : Int32) : Option (Int32 × St) :=
  (m_isStep t a1).bind (fun q11 => if q11 = 0 then (some ((-2 : Int32), t)) else (if (gI t 56) = 0 then (m_event_J30 t a1 a2 a2 (0 : Int32)) else (gd ((gI t 56) - (1 : Int32)) 40 (m_event_J30 t a1 a2 a2 (gA t 58 (((gI t 56) - (1 : Int32))).toNatClampNeg)))))
set_option maxHeartbeats 4000000 in
set_option maxRecDepth 100000 in
theorem c_m_event (l : Launch) {D : va_G} {cI cJ cZ : ClassId} {am : Nat → Nat} (sz : Nat) (t : St) (a1 : Int32) (a2 : Int32) {r : Int32} {t' : St} (ho : m_event t a1 a2 = some (r, t')) : Met l yX12_event (.code yX12_event cX12_event 3 (some .int) :: wsAll) (rmN 2 42) (va_Pc [.ref (am 68), .int a1, .int a2] (prW D (tyM cI cJ cZ) (wM cI cJ cZ am t) sz)) (qI r D (tyM cI cJ cZ) (wM cI cJ cZ am t') (va_A (wM cI cJ cZ am t) sz)) 0 0 (va_A (wM cI cJ cZ am t) sz) := by
  refine Met.ofW (cc := cX12_event) (maxL := 3) (ret := (some .int)) (by decide) rfl ?_
  intro p e s m args below meth c s₁ B hml hv
  obtain ⟨rfl, hsz, hP, hK, hD0⟩ := hv
  have hx := B.exec
  have hb := B.bytes
  have hts := atoms_spec (ws := (.code yX12_event cX12_event 3 (some .int) :: wsAll)) B.pre
  have hta := fun w h => hts w (List.mem_cons_of_mem _ h)
  have hown : s.vm.findClass RX12 = some m.cls := findClass_of_methodNamed B.named
  have hlocks := B.notSynchronized
  subst hsz
  have hD := hD0.self (sz := s.heap.size)
  generalize hAe : va_A (wM cI cJ cZ am t) s.heap.size = A at hD ⊢
  have hA : ∀ q : Nat, s.heap.size ≤ q → A q := fun q h => by rw [← hAe]; exact Or.inr h
  have C0 : cx p s m ([.ref (am 68), .int a1, .int a2].toArray) meth c cX12_event RX12 3 (some .int) D (tyM cI cJ cZ) A := ⟨hx, hb, B.returns, hml, hown, hta, hlocks, hK, hA⟩
  have hW : wl D A s (wM cI cJ cZ am t) s.heap [] := ⟨hP, hD, va_S.rf⟩
  have hl := lv_entry [.ref (am 68), .int a1, .int a2] (n := 3) (Nat.le_of_ble_eq_true rfl)
  rw [lg_entry_eq]
  generalize (lg_sl [.ref (am 68), .int a1, .int a2] ++ List.replicate (3 - (lg_sl [.ref (am 68), .int a1, .int a2]).length) Slot.unset).toArray = ls at hl ⊢
  have hl : lv_has ls 3 [(0, .ref (am 68)), (1, .int a1), (2, .int a2)] := hl
  clear hAe hD hP hD0 hts
  have J30 : ∀ (t : St) (v1 : Int32) (v2 : Int32) (w0 : Int32) (w1 : Int32) (_ : m_event_J30 t v1 v2 w0 w1 = some (r, t')) (H : Heap) (locs : List Loc) (ls : Array Slot), wl D A s (wM cI cJ cZ am t) H locs → lv_has ls 3 [(0, .ref (am 68)), (1, .int v1), (2, .int v2)] → W p l e (rmN 2 42) s m ([.ref (am 68), .int a1, .int a2].toArray) below meth c H locs 0 0 (MQ below (qI r D (tyM cI cJ cZ) (wM cI cJ cZ am t') A) ([.ref (am 68), .int a1, .int a2].toArray) s 0 0 A) (F0 m 30 ls [.int w1, .int w0]) := by
    intro t v1 v2 w0 w1 ho H locs ls hW hl
    unfold m_event_J30 at ho
    refine lv_sipush (v := (10000 : Int32)) hx hb dX12_event_30 (by decide) ?_
    obtain ⟨q1, hc2, ho⟩ := bd_some ho
    refine bkZ C0 hW (runS (As := [.int w0, .int w1, .int (10000 : Int32)]) (rest := []) C0 hW (c_m_in l _ t w0 w1 (10000 : Int32) (r := q1) hc2) ca_X12_in_179 rfl rfl ⟨rfl, rfl⟩ ⟨Nat.le_of_ble_eq_true rfl, Nat.le_of_ble_eq_true rfl⟩ (Nat.le_of_ble_eq_true rfl) hl.1 dX12_event_33 ⟨Nat.le_of_ble_eq_true rfl, Nat.le_of_ble_eq_true rfl⟩) (fun z3 H locs hW => ?_)
    refine lv_if_ne (tgt := 42) hx hb dX12_event_36 (by decide) (fun c4 => ?_) (fun c4 => ?_)
    · replace ho := ite_f c4 ho
      refine lv_aload_n hx hb dX12_event_42 rfl (lv_at hl 0 rfl) ?_
      refine mGET_56 C0 hW dX12_event_43 ?_
      refine lv_bipush (v := (40 : Int32)) hx hb dX12_event_46 (by decide) ?_
      refine lv_icmp_ne (tgt := 54) hx hb dX12_event_48 (by decide) (fun c5 => ?_) (fun c5 => ?_)
      · replace ho := ite_f c5 ho
        refine lv_aload_n hx hb dX12_event_54 rfl (lv_at hl 0 rfl) ?_
        refine mGET_57 C0 hW dX12_event_55 ?_
        refine lv_aload_n hx hb dX12_event_58 rfl (lv_at hl 0 rfl) ?_
        refine mGET_56 C0 hW dX12_event_59 ?_
        refine lv_iload_n hx hb dX12_event_62 rfl (lv_at hl 1 rfl) ?_
        obtain ⟨g6, ho⟩ := gd_some ho
        refine mST_57 C0 hW g6 dX12_event_63 (fun H locs hW => ?_)
        obtain ⟨t7, ho, hW⟩ := nm_w (P := fun t => wl D A s (wM cI cJ cZ am t) H locs) ho hW
        refine lv_aload_n hx hb dX12_event_64 rfl (lv_at hl 0 rfl) ?_
        refine mGET_58 C0 hW dX12_event_65 ?_
        refine lv_aload_n hx hb dX12_event_68 rfl (lv_at hl 0 rfl) ?_
        refine mGET_56 C0 hW dX12_event_69 ?_
        refine lv_iload_n hx hb dX12_event_72 rfl (lv_at hl 2 rfl) ?_
        obtain ⟨g8, ho⟩ := gd_some ho
        refine mST_58 C0 hW g8 dX12_event_73 (fun H locs hW => ?_)
        obtain ⟨t9, ho, hW⟩ := nm_w (P := fun t => wl D A s (wM cI cJ cZ am t) H locs) ho hW
        refine lv_aload_n hx hb dX12_event_74 rfl (lv_at hl 0 rfl) ?_
        refine lv_dup hx hb dX12_event_75 rfl ?_
        refine mGET_56 C0 hW dX12_event_76 ?_
        refine lv_iconst (v := (1 : Int32)) hx hb dX12_event_79 (by decide) ?_
        refine lv_iadd hx hb dX12_event_80 ?_
        refine mPUT_56 C0 hW dX12_event_81 (fun H locs hW => ?_)
        obtain ⟨t10, ho, hW⟩ := nm_w (P := fun t => wl D A s (wM cI cJ cZ am t) H locs) ho hW
        refine lv_aload_n hx hb dX12_event_84 rfl (lv_at hl 0 rfl) ?_
        refine mGET_56 C0 hW dX12_event_85 ?_
        cases ho
        exact rtI C0 hW dX12_event_88
      · replace ho := ite_t c5 ho
        refine lv_bipush (v := (-4 : Int32)) hx hb dX12_event_51 (by decide) ?_
        cases ho
        exact rtI C0 hW dX12_event_53
    · replace ho := ite_t c4 ho
      refine lv_bipush (v := (-2 : Int32)) hx hb dX12_event_39 (by decide) ?_
      cases ho
      exact rtI C0 hW dX12_event_41
  unfold m_event at ho
  refine lv_iload_n hx hb dX12_event_0 rfl (lv_at hl 1 rfl) ?_
  obtain ⟨q11, hc12, ho⟩ := bd_some ho
  refine bkZ C0 hW (runS (As := [.int a1]) (rest := []) C0 hW (c_m_isStep l _ t a1 (r := q11) hc12) ca_X12_isStep_183 rfl rfl ⟨rfl, rfl⟩ ⟨Nat.le_of_ble_eq_true rfl, Nat.le_of_ble_eq_true rfl⟩ (Nat.le_of_ble_eq_true rfl) hl.1 dX12_event_1 ⟨Nat.le_of_ble_eq_true rfl, Nat.le_of_ble_eq_true rfl⟩) (fun z13 H locs hW => ?_)
  refine lv_if_eq (tgt := 39) hx hb dX12_event_4 (by decide) (fun c14 => ?_) (fun c14 => ?_)
  · replace ho := ite_t c14 ho
    refine lv_bipush (v := (-2 : Int32)) hx hb dX12_event_39 (by decide) ?_
    cases ho
    exact rtI C0 hW dX12_event_41
  · replace ho := ite_f c14 ho
    refine lv_iload_n hx hb dX12_event_7 rfl (lv_at hl 2 rfl) ?_
    refine lv_aload_n hx hb dX12_event_8 rfl (lv_at hl 0 rfl) ?_
    refine mGET_56 C0 hW dX12_event_9 ?_
    refine lv_if_ne (tgt := 19) hx hb dX12_event_12 (by decide) (fun c15 => ?_) (fun c15 => ?_)
    · replace ho := ite_f c15 ho
      refine lv_aload_n hx hb dX12_event_19 rfl (lv_at hl 0 rfl) ?_
      refine mGET_58 C0 hW dX12_event_20 ?_
      refine lv_aload_n hx hb dX12_event_23 rfl (lv_at hl 0 rfl) ?_
      refine mGET_56 C0 hW dX12_event_24 ?_
      refine lv_iconst (v := (1 : Int32)) hx hb dX12_event_27 (by decide) ?_
      refine lv_isub hx hb dX12_event_28 ?_
      obtain ⟨g16, ho⟩ := gd_some ho
      refine mLD_58 C0 hW g16 dX12_event_29 ?_
      exact J30 _ _ _ _ _ ho _ _ _ hW (lv_sub hl [0, 1, 2] rfl)
    · replace ho := ite_t c15 ho
      refine lv_iconst (v := (0 : Int32)) hx hb dX12_event_15 (by decide) ?_
      refine lv_goto (tgt := 30) hx hb dX12_event_16 (by decide) ?_
      exact J30 _ _ _ _ _ ho _ _ _ hW (lv_sub hl [0, 1, 2] rfl)
noncomputable def m_rest (t : St) : Option (Int32 × St) :=
  nm (gI t 56) (fun x1 : Int32 => nm (sI t 56 (0 : Int32)) (fun t2 : St => some (x1, t2)))
set_option maxHeartbeats 4000000 in
set_option maxRecDepth 100000 in
theorem c_m_rest (l : Launch) {D : va_G} {cI cJ cZ : ClassId} {am : Nat → Nat} (sz : Nat) (t : St) {r : Int32} {t' : St} (ho : m_rest t = some (r, t')) : Met l yX12_rest (.code yX12_rest cX12_rest 2 (some .int) :: wsAll) (rmN 0 0) (va_Pc [.ref (am 68)] (prW D (tyM cI cJ cZ) (wM cI cJ cZ am t) sz)) (qI r D (tyM cI cJ cZ) (wM cI cJ cZ am t') (va_A (wM cI cJ cZ am t) sz)) 0 0 (va_A (wM cI cJ cZ am t) sz) := by
  refine Met.ofW (cc := cX12_rest) (maxL := 2) (ret := (some .int)) (by decide) rfl ?_
  intro p e s m args below meth c s₁ B hml hv
  obtain ⟨rfl, hsz, hP, hK, hD0⟩ := hv
  have hx := B.exec
  have hb := B.bytes
  have hts := atoms_spec (ws := (.code yX12_rest cX12_rest 2 (some .int) :: wsAll)) B.pre
  have hta := fun w h => hts w (List.mem_cons_of_mem _ h)
  have hown : s.vm.findClass RX12 = some m.cls := findClass_of_methodNamed B.named
  have hlocks := B.notSynchronized
  subst hsz
  have hD := hD0.self (sz := s.heap.size)
  generalize hAe : va_A (wM cI cJ cZ am t) s.heap.size = A at hD ⊢
  have hA : ∀ q : Nat, s.heap.size ≤ q → A q := fun q h => by rw [← hAe]; exact Or.inr h
  have C0 : cx p s m ([.ref (am 68)].toArray) meth c cX12_rest RX12 2 (some .int) D (tyM cI cJ cZ) A := ⟨hx, hb, B.returns, hml, hown, hta, hlocks, hK, hA⟩
  have hW : wl D A s (wM cI cJ cZ am t) s.heap [] := ⟨hP, hD, va_S.rf⟩
  have hl := lv_entry [.ref (am 68)] (n := 2) (Nat.le_of_ble_eq_true rfl)
  rw [lg_entry_eq]
  generalize (lg_sl [.ref (am 68)] ++ List.replicate (2 - (lg_sl [.ref (am 68)]).length) Slot.unset).toArray = ls at hl ⊢
  have hl : lv_has ls 2 [(0, .ref (am 68))] := hl
  unfold m_rest at ho
  refine lv_aload_n hx hb dX12_rest_0 rfl (lv_at hl 0 rfl) ?_
  refine mGET_56 C0 hW dX12_rest_1 ?_
  refine lv_nmi ho (fun x1 ho => ?_)
  refine lv_istore_n (lv' := [(1, .int x1), (0, .ref (am 68))]) hx hb dX12_rest_4 rfl hl (by decide) rfl (fun ls hl => ?_)
  refine lv_aload_n hx hb dX12_rest_5 rfl (lv_at hl 1 rfl) ?_
  refine lv_iconst (v := (0 : Int32)) hx hb dX12_rest_6 (by decide) ?_
  refine mPUT_56 C0 hW dX12_rest_7 (fun H locs hW => ?_)
  obtain ⟨t2, ho, hW⟩ := nm_w (P := fun t => wl D A s (wM cI cJ cZ am t) H locs) ho hW
  refine lv_iload_n hx hb dX12_rest_10 rfl (lv_at hl 0 rfl) ?_
  cases ho
  exact rtI C0 hW dX12_rest_11
noncomputable def m_soon_J32 (t : St) (v1 : Int32) (w0 : Int32) (w1 : Int32) : Option ((Int32) ⊕ ((Int32) ⊕ (Unit))) :=
  gd v1 40 (gd (gA t 57 (v1).toNatClampNeg) 16 (if (gA t 1 ((gA t 57 (v1).toNatClampNeg)).toNatClampNeg) ≤ (w0 - w1) then (nm (v1 + (1 : Int32)) (fun x4 : Int32 => some (.inl x4))) else (some (.inr (.inl v1)))))
noncomputable def m_soon_B2 (t : St) (v1 : Int32) : Option ((Int32) ⊕ ((Int32) ⊕ (Unit))) :=
  if (gI t 56) ≤ v1 then (some (.inr (.inr ()))) else (gd v1 40 (if v1 = 0 then (m_soon_J32 t v1 (gA t 58 (v1).toNatClampNeg) (0 : Int32)) else (gd (v1 - (1 : Int32)) 40 (m_soon_J32 t v1 (gA t 58 (v1).toNatClampNeg) (gA t 58 ((v1 - (1 : Int32))).toNatClampNeg)))))
noncomputable def m_soon (t : St) : Option (Int32) :=
  (lp (fun x => m_soon_B2 t x) (0 : Int32)).bind (fun y9 => (Sum.elim (fun u12 => some u12) (fun u12 => some (-1 : Int32))) y9)
set_option maxHeartbeats 4000000 in
set_option maxRecDepth 100000 in
theorem m_soon_L2 {p : Program} {l : Launch} {e : Env} {s : State} {m : MethodId} {args : Array Value} {below : List Frame} {meth : Method} {c : Code} {Q : State → Prop} {D : va_G} {cI cJ cZ : ClassId} {am : Nat → Nat} {A : Nat → Prop} (C0 : cx p s m args meth c cX12_soon RX12 2 (some .int) D (tyM cI cJ cZ) A) {t : St} {y : (Int32) ⊕ (Unit)} (hK0 : ∀ u, y = (.inl u) → ∀ (H : Heap) (locs : List Loc) (ls : Array Slot), wl D A s (wM cI cJ cZ am t) H locs → lv_has ls 2 [(0, .ref (am 68)), (1, .int u)] → W p l e (rmN 0 0) s m args below meth c H locs 0 0 Q (F0 m 47 ls [])) (hK1 : ∀ u, y = (.inr u) → ∀ (H : Heap) (locs : List Loc) (ls : Array Slot), wl D A s (wM cI cJ cZ am t) H locs → lv_has ls 2 [(0, .ref (am 68))] → W p l e (rmN 0 0) s m args below meth c H locs 0 0 Q (F0 m 55 ls [])) :
    ∀ (n : Nat) (v1 : Int32), lpn (fun x => m_soon_B2 t x) n v1 = some y → ∀ (H : Heap) (locs : List Loc) (ls : Array Slot), wl D A s (wM cI cJ cZ am t) H locs → lv_has ls 2 [(0, .ref (am 68)), (1, .int v1)] → W p l e (rmN 0 0) s m args below meth c H locs 0 0 Q (F0 m 2 ls []) := by
  have hx := C0.1
  have hb := C0.2.1
  have hta := C0.2.2.2.2.2.1
  have hown := C0.2.2.2.2.1
  intro n
  induction n with
  | zero => intro _ h; cases h
  | succ n ih =>
    intro v1 hrun H locs ls hW hl
    obtain ⟨o, ho, hrun⟩ := bd_some hrun
    have J32 : ∀ (v1 : Int32) (w0 : Int32) (w1 : Int32) (_ : m_soon_J32 t v1 w0 w1 = some o) (H : Heap) (locs : List Loc) (ls : Array Slot), wl D A s (wM cI cJ cZ am t) H locs → lv_has ls 2 [(0, .ref (am 68)), (1, .int v1)] → W p l e (rmN 0 0) s m args below meth c H locs 0 0 Q (F0 m 32 ls [.int w1, .int w0]) := by
      intro v1 w0 w1 ho H locs ls hW hl
      unfold m_soon_J32 at ho
      refine lv_isub hx hb dX12_soon_32 ?_
      refine lv_aload_n hx hb dX12_soon_33 rfl (lv_at hl 0 rfl) ?_
      refine mGET_1 C0 hW dX12_soon_34 ?_
      refine lv_aload_n hx hb dX12_soon_37 rfl (lv_at hl 0 rfl) ?_
      refine mGET_57 C0 hW dX12_soon_38 ?_
      refine lv_iload_n hx hb dX12_soon_41 rfl (lv_at hl 1 rfl) ?_
      obtain ⟨g1, ho⟩ := gd_some ho
      refine mLD_57 C0 hW g1 dX12_soon_42 ?_
      obtain ⟨g2, ho⟩ := gd_some ho
      refine mLD_1 C0 hW g2 dX12_soon_43 ?_
      refine lv_icmp_ge (tgt := 49) hx hb dX12_soon_44 (by decide) (fun c3 => ?_) (fun c3 => ?_)
      · replace ho := ite_t c3 ho
        obtain ⟨x4, ex4, ho⟩ := nm_x ho
        refine lv_iinc (v := x4) (lv' := [(1, .int x4), (0, .ref (am 68))]) hx hb dX12_soon_49 hl (k := 1) rfl (by rw [ex4]; rfl) (by decide) rfl (fun ls hl => ?_)
        clear ex4
        refine lv_goto (tgt := 2) hx hb dX12_soon_52 (by decide) ?_
        cases ho
        exact ih _ hrun _ _ _ hW (lv_sub hl [1, 0] rfl)
      · replace ho := ite_f c3 ho
        cases ho
        cases hrun
        exact hK0 _ rfl _ _ _ hW (lv_sub hl [0, 1] rfl)
    unfold m_soon_B2 at ho
    refine lv_iload_n hx hb dX12_soon_2 rfl (lv_at hl 1 rfl) ?_
    refine lv_aload_n hx hb dX12_soon_3 rfl (lv_at hl 0 rfl) ?_
    refine mGET_56 C0 hW dX12_soon_4 ?_
    refine lv_icmp_ge (tgt := 55) hx hb dX12_soon_7 (by decide) (fun c5 => ?_) (fun c5 => ?_)
    · replace ho := ite_t c5 ho
      cases ho
      cases hrun
      exact hK1 _ rfl _ _ _ hW (lv_sub hl [0] rfl)
    · replace ho := ite_f c5 ho
      refine lv_aload_n hx hb dX12_soon_10 rfl (lv_at hl 0 rfl) ?_
      refine mGET_58 C0 hW dX12_soon_11 ?_
      refine lv_iload_n hx hb dX12_soon_14 rfl (lv_at hl 1 rfl) ?_
      obtain ⟨g6, ho⟩ := gd_some ho
      refine mLD_58 C0 hW g6 dX12_soon_15 ?_
      refine lv_iload_n hx hb dX12_soon_16 rfl (lv_at hl 1 rfl) ?_
      refine lv_if_ne (tgt := 24) hx hb dX12_soon_17 (by decide) (fun c7 => ?_) (fun c7 => ?_)
      · replace ho := ite_f c7 ho
        refine lv_aload_n hx hb dX12_soon_24 rfl (lv_at hl 0 rfl) ?_
        refine mGET_58 C0 hW dX12_soon_25 ?_
        refine lv_iload_n hx hb dX12_soon_28 rfl (lv_at hl 1 rfl) ?_
        refine lv_iconst (v := (1 : Int32)) hx hb dX12_soon_29 (by decide) ?_
        refine lv_isub hx hb dX12_soon_30 ?_
        obtain ⟨g8, ho⟩ := gd_some ho
        refine mLD_58 C0 hW g8 dX12_soon_31 ?_
        exact J32 _ _ _ ho _ _ _ hW (lv_sub hl [0, 1] rfl)
      · replace ho := ite_t c7 ho
        refine lv_iconst (v := (0 : Int32)) hx hb dX12_soon_20 (by decide) ?_
        refine lv_goto (tgt := 32) hx hb dX12_soon_21 (by decide) ?_
        exact J32 _ _ _ ho _ _ _ hW (lv_sub hl [0, 1] rfl)
set_option maxHeartbeats 4000000 in
set_option maxRecDepth 100000 in
theorem c_m_soon (l : Launch) {D : va_G} {cI cJ cZ : ClassId} {am : Nat → Nat} (sz : Nat) (t : St) {r : Int32} (ho : m_soon t = some r) : Met l yX12_soon (.code yX12_soon cX12_soon 2 (some .int) :: wsAll) (rmN 0 0) (va_Pc [.ref (am 68)] (prW D (tyM cI cJ cZ) (wM cI cJ cZ am t) sz)) (qI r D (tyM cI cJ cZ) (wM cI cJ cZ am t) (va_A (wM cI cJ cZ am t) sz)) 0 0 (va_A (wM cI cJ cZ am t) sz) := by
  refine Met.ofW (cc := cX12_soon) (maxL := 2) (ret := (some .int)) (by decide) rfl ?_
  intro p e s m args below meth c s₁ B hml hv
  obtain ⟨rfl, hsz, hP, hK, hD0⟩ := hv
  have hx := B.exec
  have hb := B.bytes
  have hts := atoms_spec (ws := (.code yX12_soon cX12_soon 2 (some .int) :: wsAll)) B.pre
  have hta := fun w h => hts w (List.mem_cons_of_mem _ h)
  have hown : s.vm.findClass RX12 = some m.cls := findClass_of_methodNamed B.named
  have hlocks := B.notSynchronized
  subst hsz
  have hD := hD0.self (sz := s.heap.size)
  generalize hAe : va_A (wM cI cJ cZ am t) s.heap.size = A at hD ⊢
  have hA : ∀ q : Nat, s.heap.size ≤ q → A q := fun q h => by rw [← hAe]; exact Or.inr h
  have C0 : cx p s m ([.ref (am 68)].toArray) meth c cX12_soon RX12 2 (some .int) D (tyM cI cJ cZ) A := ⟨hx, hb, B.returns, hml, hown, hta, hlocks, hK, hA⟩
  have hW : wl D A s (wM cI cJ cZ am t) s.heap [] := ⟨hP, hD, va_S.rf⟩
  have hl := lv_entry [.ref (am 68)] (n := 2) (Nat.le_of_ble_eq_true rfl)
  rw [lg_entry_eq]
  generalize (lg_sl [.ref (am 68)] ++ List.replicate (2 - (lg_sl [.ref (am 68)]).length) Slot.unset).toArray = ls at hl ⊢
  have hl : lv_has ls 2 [(0, .ref (am 68))] := hl
  unfold m_soon at ho
  refine lv_iconst (v := (0 : Int32)) hx hb dX12_soon_0 (by decide) ?_
  refine lv_istore_n (lv' := [(1, .int (0 : Int32)), (0, .ref (am 68))]) hx hb dX12_soon_1 rfl hl (by decide) rfl (fun ls hl => ?_)
  obtain ⟨y9, hc11, ho⟩ := bd_some ho
  obtain ⟨ny9, hc11⟩ := lp_to hc11
  refine m_soon_L2 C0 ?_ ?_ ny9 _ hc11 _ _ _ hW (lv_sub hl [1, 0] rfl)
  · intro u12 hy H locs ls hW hl
    subst hy
    replace ho := sum_l ho
    refine lv_iload_n hx hb dX12_soon_47 rfl (lv_at hl 1 rfl) ?_
    cases ho
    exact rtI C0 hW dX12_soon_48
  · intro u12 hy H locs ls hW hl
    subst hy
    replace ho := sum_r ho
    refine lv_iconst (v := (-1 : Int32)) hx hb dX12_soon_55 (by decide) ?_
    cases ho
    exact rtI C0 hW dX12_soon_56
