theorem kw_arrI : Cond.arrayClass .int ∈ wsAll := wT_1 46 rfl rfl
theorem kw_arrJ : Cond.arrayClass .long ∈ wsAll := wT_1 202 rfl rfl
/-! Rows made anew: Fraction.grown, Arrays.copyOf, new long[], each with the store that follows it. -/
section XN
variable {p : Program} {l : Launch} {e : Env} {R : Room} {s : State} {m : MethodId} {args : Array Value} {below : List Frame} {meth : Method} {c : Code} {H : Heap} {locs : List Loc} {Q : State → Prop} {pc : Nat} {ls : Array Slot} {cc : ByteArray} {own : String} {nL : Nat} {D : va_G} {tys : List (ClassId × FieldType)} {A : Nat → Prop} {w : va_W} {cells slots st : Nat} {ret : Option FieldType} {rest : List Value}
theorem xNEWI (C0 : cxX p s m args meth c cc own nL ret D tys st A) (hk : Cond.arrayClass .int ∈ wsAll) {cI : ClassId} (h0 : tys[0]? = some (cI, .int)) (hW : wl D A s w H locs) {n : Int32} (h1 : ¬ n < 0) (h2 : n.toNatClampNeg ≤ 134217728) (hc : cells + 1 ≤ R.cells) (hs : slots + n.toNatClampNeg ≤ R.slots) (hdg : decode cc pc = .ok (.newarray .int, 2)) (kk : ∀ (q : Nat) (H : Heap), wl D A s (w ++ [(q, .inl (cI, n.toNatClampNeg, .inl (fun _ => 0)))]) H locs → W p l e R s m args below meth c H locs (cells + 1) (slots + n.toNatClampNeg) Q (F0 m (pc + 2) ls (.ref q :: rest))) : W p l e R s m args below meth c H locs cells slots Q (F0 m pc ls (.int n :: rest)) := by
  obtain ⟨⟨hx, hb, hret, hml, hown, hta, hlk, hK, hA⟩, hsx⟩ := C0
  refine va_newa (atype := .int) (ty := .int) (a0 := (n.toNatClampNeg, .inl (fun _ => 0))) hx hb (hta _ hk) rfl hK hW.1 hW.2.1 hW.2.2 hA (fun _ => rfl) h1 rfl (by show n.toNatClampNeg * 4 ≤ 536870912; omega) hc hs hdg (fun q cA H1 hK1 hP hD hS => ?_)
  obtain rfl : cA = cI := same_arr (fun C h => by cases h) hK h0 hK1
  exact kk q H1 ⟨hP, hD, hS⟩
theorem xNEWJ0 (C0 : cxX p s m args meth c cc own nL ret D tys st A) (hk : Cond.arrayClass .long ∈ wsAll) {cJ : ClassId} (h0 : tys[1]? = some (cJ, .long)) (hW : wl D A s w H locs) {n : Int32} (h1 : ¬ n < 0) (h2 : n.toNatClampNeg ≤ 67108864) (hc : cells + 1 ≤ R.cells) (hs : slots + n.toNatClampNeg ≤ R.slots) (hdg : decode cc pc = .ok (.newarray .long, 2)) (kk : ∀ (q : Nat) (H : Heap), wl D A s (w ++ [(q, .inl (cJ, n.toNatClampNeg, .inr (.inl (fun _ => 0))))]) H locs → W p l e R s m args below meth c H locs (cells + 1) (slots + n.toNatClampNeg) Q (F0 m (pc + 2) ls (.ref q :: rest))) : W p l e R s m args below meth c H locs cells slots Q (F0 m pc ls (.int n :: rest)) := by
  obtain ⟨⟨hx, hb, hret, hml, hown, hta, hlk, hK, hA⟩, hsx⟩ := C0
  refine va_newa (atype := .long) (ty := .long) (a0 := (n.toNatClampNeg, .inr (.inl (fun _ => 0)))) hx hb (hta _ hk) rfl hK hW.1 hW.2.1 hW.2.2 hA (fun _ => rfl) h1 rfl (by show n.toNatClampNeg * 8 ≤ 536870912; omega) hc hs hdg (fun q cA H1 hK1 hP hD hS => ?_)
  obtain rfl : cA = cJ := same_arr (fun C h => by cases h) hK h0 hK1
  exact kk q H1 ⟨hP, hD, hS⟩
theorem rtR (C0 : cxX p s m args meth c cc own nL (some (.array .int)) D tys st A) {w' : va_W} (hW : wl D A s w' H locs) {a : Nat} {P : Nat → va_W → Prop} (hp : P a w') (hdg : decode cc pc = .ok (.areturn, 1)) : W p l e R s m args below meth c H locs cells slots (MQ below (va_Qr (fun (_ : va_W) => True) (fun u ra T => P ra u ∧ poW D tys u A T) A) args s cells slots A) (F0 m pc ls [.ref a]) :=
  W.aret C0.1.1 C0.1.2.1 C0.1.2.2.1 (Or.inr ⟨_, rfl⟩) (Or.inr ⟨_, rfl⟩) (fun t ht hV => ⟨⟨w', a, rfl, trivial, ⟨hp, by rw [ht]; exact hW.1, va_K.moved hV.alike C0.1.2.2.2.2.2.2.2.1, hW.2.1⟩⟩, hW.2.2.F ht⟩) hW.2.2.2.2 hdg C0.1.2.2.2.2.2.2.1
theorem bkR (C0 : cxX p s m args meth c cc own nL ret D tys st A) (hW : wl D A s w H locs) {st0 : List Value} {mc ms : Nat} {P : Nat → va_W → Prop} {av : Array Value} (hr : va_Run p l e R s m args below meth c H locs cells slots mc ms (F0 m pc ls st0) rest (va_Qr (fun (_ : va_W) => True) (fun u ra T => P ra u ∧ poW D tys u (va_A w H.size) T) (va_A w H.size) av) (va_A w H.size)) (k : ∀ (a : Nat) (w' : va_W) (H1 : Heap) (locs1 : List Loc), P a w' → wl D A s w' H1 locs1 → W p l e R s m args below meth c H1 locs1 (cells + mc) (slots + ms) Q (F0 m (pc + 3) ls (.ref a :: rest))) : W p l e R s m args below meth c H locs cells slots Q (F0 m pc ls st0) :=
  va_callr hr hW.2.2 (fun q _ h => wl_A C0.1 hW q h) (wl_A C0.1 hW) (fun u ra t H1 locs1 ht _ _ hB _ _ hS => k ra u H1 locs1 hB.1 (wl_back C0.1 hW ht hB.2 hS))
end XN
set_option maxHeartbeats 4000000 in
set_option maxRecDepth 100000 in
/-- Fraction.grown: a row that is long enough comes back -/
theorem c_grown_old (l : Launch) {D : va_G} {tys : List (ClassId × FieldType)} {w : va_W} {st a q0 n0 : Nat} {cI : ClassId} {f : Nat → Int32} (ha : w[q0]? = some (a, .inl (cI, n0, .inl f))) (ht : tys[0]? = some (cI, .int)) (sz : Nat) (need : Int32) (h : ¬ Int32.ofNat n0 < need) : Met l yX2_grown (.code yX2_grown cX2_grown 2 (some (.array .int)) :: wsAll) (rmN 1 21) (va_Pc [.ref a, .int need] (prX D tys w sz st)) (va_Qr (fun (_ : va_W) => True) (fun u ra T => (ra = a ∧ u = w) ∧ poW D tys u (va_A w sz) T) (va_A w sz)) 0 0 (va_A w sz) := by
  refine Met.ofW (cc := cX2_grown) (maxL := 2) (ret := (some (.array .int))) (by decide) rfl ?_
  intro p e s m args below meth c s₁ B hml hv
  obtain ⟨rfl, ⟨hsz, hP, hK, hD0⟩, hsx⟩ := hv
  have hx := B.exec
  have hb := B.bytes
  have hts := atoms_spec (ws := (.code yX2_grown cX2_grown 2 (some (.array .int)) :: wsAll)) B.pre
  have hta := fun w h => hts w (List.mem_cons_of_mem _ h)
  have hown : s.vm.findClass RX2 = some m.cls := findClass_of_methodNamed B.named
  have hlocks := B.notSynchronized
  subst hsz
  have hD := hD0.self (sz := s.heap.size)
  generalize hAe : va_A w s.heap.size = A at hD ⊢
  have hA : ∀ q : Nat, s.heap.size ≤ q → A q := fun q h => by rw [← hAe]; exact Or.inr h
  have C0 : cxX p s m ([.ref a, .int need].toArray) meth c cX2_grown RX2 2 (some (.array .int)) D tys st A := ⟨⟨hx, hb, B.returns, hml, hown, hta, hlocks, hK, hA⟩, by rw [← hAe]; exact hsx⟩
  have hW : wl D A s w s.heap [] := ⟨hP, hD, va_S.rf⟩
  have hl := lv_entry [.ref a, .int need] (n := 2) (Nat.le_of_ble_eq_true rfl)
  rw [lg_entry_eq]
  generalize (lg_sl [.ref a, .int need] ++ List.replicate (2 - (lg_sl [.ref a, .int need]).length) Slot.unset).toArray = ls at hl ⊢
  have hl : lv_has ls 2 [(0, .ref a), (1, .int need)] := hl
  refine lv_aload_n hx hb dX2_grown_0 rfl (lv_at hl 0 rfl) ?_
  refine va_alen hx hb hK hW.1 q0 0 ha ht rfl dX2_grown_1 ?_
  refine lv_iload_n hx hb dX2_grown_2 rfl (lv_at hl 1 rfl) ?_
  refine lv_icmp_lt (tgt := 10) hx hb dX2_grown_3 (by decide) (fun c1 => absurd c1 h) (fun c1 => ?_)
  refine lv_aload_n hx hb dX2_grown_6 rfl (lv_at hl 0 rfl) ?_
  refine lv_goto (tgt := 20) hx hb dX2_grown_7 (by decide) ?_
  exact rtR C0 hW ⟨rfl, rfl⟩ dX2_grown_20
set_option maxHeartbeats 4000000 in
set_option maxRecDepth 100000 in
/-- Fraction.grown: else a new one -/
theorem c_grown_new (l : Launch) {D : va_G} {tys : List (ClassId × FieldType)} {w : va_W} {st a q0 n0 : Nat} {cI : ClassId} {f : Nat → Int32} (hk : Cond.arrayClass .int ∈ wsAll) (ha : w[q0]? = some (a, .inl (cI, n0, .inl f))) (ht : tys[0]? = some (cI, .int)) (sz : Nat) (need : Int32) (h : Int32.ofNat n0 < need) (h1 : ¬ gwn n0 need < 0) (h2 : (gwn n0 need).toNatClampNeg ≤ 134217728) : Met l yX2_grown (.code yX2_grown cX2_grown 2 (some (.array .int)) :: wsAll) ({ frames := 1, cells := 1, slots := (gwn n0 need).toNatClampNeg, locals := 21 }) (va_Pc [.ref a, .int need] (prX D tys w sz st)) (va_Qr (fun (_ : va_W) => True) (fun u ra T => (u = w ++ [(ra, .inl (cI, (gwn n0 need).toNatClampNeg, .inl (fun _ => 0)))]) ∧ poW D tys u (va_A w sz) T) (va_A w sz)) 1 (gwn n0 need).toNatClampNeg (va_A w sz) := by
  refine Met.ofW (cc := cX2_grown) (maxL := 2) (ret := (some (.array .int))) (by decide) rfl ?_
  intro p e s m args below meth c s₁ B hml hv
  obtain ⟨rfl, ⟨hsz, hP, hK, hD0⟩, hsx⟩ := hv
  have hx := B.exec
  have hb := B.bytes
  have hts := atoms_spec (ws := (.code yX2_grown cX2_grown 2 (some (.array .int)) :: wsAll)) B.pre
  have hta := fun w h => hts w (List.mem_cons_of_mem _ h)
  have hown : s.vm.findClass RX2 = some m.cls := findClass_of_methodNamed B.named
  have hlocks := B.notSynchronized
  subst hsz
  have hD := hD0.self (sz := s.heap.size)
  generalize hAe : va_A w s.heap.size = A at hD ⊢
  have hA : ∀ q : Nat, s.heap.size ≤ q → A q := fun q h => by rw [← hAe]; exact Or.inr h
  have C0 : cxX p s m ([.ref a, .int need].toArray) meth c cX2_grown RX2 2 (some (.array .int)) D tys st A := ⟨⟨hx, hb, B.returns, hml, hown, hta, hlocks, hK, hA⟩, by rw [← hAe]; exact hsx⟩
  have hW : wl D A s w s.heap [] := ⟨hP, hD, va_S.rf⟩
  have hl := lv_entry [.ref a, .int need] (n := 2) (Nat.le_of_ble_eq_true rfl)
  rw [lg_entry_eq]
  generalize (lg_sl [.ref a, .int need] ++ List.replicate (2 - (lg_sl [.ref a, .int need]).length) Slot.unset).toArray = ls at hl ⊢
  have hl : lv_has ls 2 [(0, .ref a), (1, .int need)] := hl
  refine lv_aload_n hx hb dX2_grown_0 rfl (lv_at hl 0 rfl) ?_
  refine va_alen hx hb hK hW.1 q0 0 ha ht rfl dX2_grown_1 ?_
  refine lv_iload_n hx hb dX2_grown_2 rfl (lv_at hl 1 rfl) ?_
  refine lv_icmp_lt (tgt := 10) hx hb dX2_grown_3 (by decide) (fun c1 => ?_) (fun c1 => absurd h c1)
  refine lv_iload_n hx hb dX2_grown_10 rfl (lv_at hl 1 rfl) ?_
  refine lv_iconst (v := (2 : Int32)) hx hb dX2_grown_11 (by decide) ?_
  refine lv_aload_n hx hb dX2_grown_12 rfl (lv_at hl 0 rfl) ?_
  refine va_alen hx hb hK hW.1 q0 0 ha ht rfl dX2_grown_13 ?_
  refine lv_imul hx hb dX2_grown_14 ?_
  refine va_mmax (rest := []) hx hb (hml.trans hl.1.symm) hown (hta _ kw_953) (hta _ kw_735) (hta _ kw_136) (hta _ kw_736) (Nat.le_refl _) (Nat.le_of_ble_eq_true rfl) (Nat.zero_le _) (Nat.zero_le _) dX2_grown_15 ?_
  refine xNEWI (n := gwn n0 need) C0 hk ht hW h1 h2 (Nat.le_of_eq (Nat.zero_add 1)) (Nat.le_of_eq (Nat.zero_add _)) dX2_grown_18 (fun q H hW => ?_)
  refine W.widen (k := 1) (n := (gwn n0 need).toNatClampNeg) (Nat.le_of_eq (Nat.zero_add 1)) (Nat.le_of_eq (Nat.zero_add _)) ?_
  exact rtR C0 hW rfl dX2_grown_20
theorem cpy_ok {n : Int32} {N : Nat} (h1 : ¬ n < 0) (h4 : N ≤ 134217728) : ¬ (if n < Int32.ofNat N then n else Int32.ofNat N) < 0 ∧ (if n < Int32.ofNat N then n else Int32.ofNat N).toNatClampNeg ≤ N ∧ (if n < Int32.ofNat N then n else Int32.ofNat N).toNatClampNeg ≤ n.toNatClampNeg := by
  obtain ⟨j, hj, rfl⟩ := nI_of h1
  have e : Int32.ofNat N = nI N := rfl
  rw [e]
  have hN : N < 2 ^ 31 := by omega
  by_cases c : nI j < nI N
  · rw [if_pos c]
    have := (nI_ltI hj hN).mp c
    rw [nI_clamp hj]
    exact ⟨h1, by omega, Nat.le_refl _⟩
  · rw [if_neg c]
    have hc : ¬ j < N := fun q => c ((nI_ltI hj hN).mpr q)
    rw [nI_clamp hj, nI_clamp hN]
    exact ⟨nI_pos hN, Nat.le_refl _, by omega⟩
set_option maxHeartbeats 4000000 in
set_option maxRecDepth 100000 in
theorem xGROW_7 {p : Program} {l : Launch} {e : Env} {s : State} {m : MethodId} {args : Array Value} {below : List Frame} {meth : Method} {c : Code} {H : Heap} {locs : List Loc} {Q : State → Prop} {pc : Nat} {ls : Array Slot} {cc : ByteArray} {own : String} {nL ix ig : Nat} {D : va_G} {cI cJ cZ cR : ClassId} {am gm : Nat → Nat} {st : Nat} {A : Nat → Prop} {ret : Option FieldType} {rest : List Value} {F L : Nat} {t0 t t1 tE : St} {need : Int32}
    (C0 : cxX p s m args meth c cc own nL ret D (tyX cI cJ cZ cR) st A) (hcal : calS own ig yX2_grown cX2_grown 2 (some (.array .int)) 2) (hk : Cond.fieldLink own ix "GuardNets$Diagram" "ids" "[I" ∈ wsAll) (hls : ls.size = nL) (hW : wl D A s (wX cI cJ cZ cR am gm t) H locs) (hg : grwR t 7 need t1) (h0 : mle t0 t) (hE : mle t1 tE) (hF : 2 ≤ F) (hL : 42 ≤ L) (hrest : (rest.map fun v => v.category).sum + 1 ≤ 8) (hd1 : decode cc pc = .ok (.invokestatic ig, 3)) (hd2 : decode cc (pc + 3) = .ok (.putfield ix, 3))
    (kk : ∀ (gm : Nat → Nat) (H : Heap) (locs : List Loc), wl D A s (wX cI cJ cZ cR am gm t1) H locs → W p l e (rmA F L t0 tE) s m args below meth c H locs (mC t0 t1) (mS t0 t1) Q (F0 m (pc + 6) ls rest)) : W p l e (rmA F L t0 tE) s m args below meth c H locs (mC t0 t) (mS t0 t) Q (F0 m pc ls (.int need :: .ref (gm 7) :: .ref (am 2000) :: rest)) := by
  have ha : (wX cI cJ cZ cR am gm t)[12]? = some (gm 7, .inl (cI, gN t 7, .inl (gA t 7))) := rfl
  have hrs : ([.ref (am 2000)] ++ rest : List Value).map (fun v => v.category) = 1 :: rest.map (fun v => v.category) := rfl
  have hrest' : ((.ref (am 2000) :: rest : List Value).map fun v => v.category).sum ≤ 8 := by
    show 1 + (rest.map fun v => v.category).sum ≤ 8
    omega
  have hmle := hg.mle
  have hR := hR_of (t0 := t0) (hmle.trans hE)
  have hf := hf_of h0 hmle hE
  obtain ⟨hx, hb, hret, hml, hown, hta, hlk, hK, hA⟩ := id C0.1
  rcases hg with ⟨hg, rfl⟩ | ⟨hg, g1, g2, rfl⟩
  · refine bkR C0 hW (runSX (As := [.ref (gm 7), .int need]) (rest := .ref (am 2000) :: rest) C0 hW (c_grown_old l ha rfl _ need hg) hcal rfl rfl ⟨rfl, rfl⟩ ⟨hF, hL⟩ hrest' hls hd1 hR) (fun a w' H locs hp hW => ?_)
    obtain ⟨rfl, rfl⟩ := hp
    refine va_put (D := D) (ci := 0) (ty := .array .int) (v := .ref (gm 7)) (C := RX0) (T := TX0) (N := 15) (fs := fsX0 am gm t1) hx hb hta inA0 tyX0 tyX0_ok nmX0 hown hK hW.1 hW.2.1 hW.2.2 0 rfl rfl 7 (by decide) (hta _ hk) (fun _ h9 => h9) rfl (by decide +kernel) rfl rfl (Nat.le_of_ble_eq_true rfl) hd2 (fun H locs hP hD hS => ?_)
    exact kk gm H locs ⟨hP, hD, hS⟩
  · have hcon := c_grown_new l kw_arrI ha (tys := tyX cI cJ cZ cR) (D := D) (st := st) rfl H.size need hg g1 g2
    generalize hgw : gwn (gN t 7) need = nd at *
    have hc : mC t (nwI t 7 nd.toNatClampNeg (fun _ => 0)) = 1 := by simp [mC, nwI, va_up, gN]
    have hs : mS t (nwI t 7 nd.toNatClampNeg (fun _ => 0)) = nd.toNatClampNeg := by simp [mS, nwI, va_up, gN]
    have hf1 : mC t0 t + 1 ≤ mC t0 tE := by have := hf.1; rw [hc] at this; exact this
    have hf2 : mS t0 t + nd.toNatClampNeg ≤ mS t0 tE := by have := hf.2; rw [hs] at this; exact this
    refine bkR C0 hW (runSX (As := [.ref (gm 7), .int need]) (rest := .ref (am 2000) :: rest) C0 hW hcon hcal rfl rfl ⟨rfl, rfl⟩ ⟨hF, hL⟩ hrest' hls hd1 ⟨hf1, hf2⟩) (fun a w' H locs hp hW => ?_)
    subst hp
    refine va_put (D := D) (ci := 0) (ty := .array .int) (v := .ref a) (C := RX0) (T := TX0) (N := 15) (fs := fsX0 am gm t) hx hb hta inA0 tyX0 tyX0_ok nmX0 hown hK hW.1 hW.2.1 hW.2.2 0 rfl rfl 7 (by decide) (hta _ hk) (fun _ h9 => h9) rfl (by decide +kernel) rfl rfl (Nat.le_of_ble_eq_true rfl) hd2 (fun H locs hP hD hS => ?_)
    have hP' := hP.sub (ws' := wX cI cJ cZ cR am (va_up gm 7 a) (nwI t 7 nd.toNatClampNeg (fun _ => 0))) [0, 1, 2, 3, 4, 5, 6, 7, 8, 9, 10, 11, 71, 13, 14, 15, 16, 17, 18, 19, 20, 21, 22, 23, 24, 25, 26, 27, 28, 29, 30, 31, 32, 33, 34, 35, 36, 37, 38, 39, 40, 41, 42, 43, 44, 45, 46, 47, 48, 49, 50, 51, 52, 53, 54, 55, 56, 57, 58, 59, 60, 61, 62, 63, 64, 65, 66, 67, 68, 69, 70] rfl
    have hD' := hD.sub (ws' := wX cI cJ cZ cR am (va_up gm 7 a) (nwI t 7 nd.toNatClampNeg (fun _ => 0))) [0, 1, 2, 3, 4, 5, 6, 7, 8, 9, 10, 11, 71, 13, 14, 15, 16, 17, 18, 19, 20, 21, 22, 23, 24, 25, 26, 27, 28, 29, 30, 31, 32, 33, 34, 35, 36, 37, 38, 39, 40, 41, 42, 43, 44, 45, 46, 47, 48, 49, 50, 51, 52, 53, 54, 55, 56, 57, 58, 59, 60, 61, 62, 63, 64, 65, 66, 67, 68, 69, 70] (by decide) rfl
    refine W.widen ?_ ?_ (kk (va_up gm 7 a) H locs ⟨hP', hD', hS⟩)
    · have := hmle.1; have := h0.1; have := hc; show gN t 9000 - gN t0 9000 + 1 ≤ gN (nwI t 7 nd.toNatClampNeg (fun _ => 0)) 9000 - gN t0 9000; unfold mC at hc; omega
    · have := hmle.2; have := h0.2; have := hs; show gN t 9001 - gN t0 9001 + nd.toNatClampNeg ≤ gN (nwI t 7 nd.toNatClampNeg (fun _ => 0)) 9001 - gN t0 9001; unfold mS at hs; omega
set_option maxHeartbeats 4000000 in
set_option maxRecDepth 100000 in
theorem xGROW_8 {p : Program} {l : Launch} {e : Env} {s : State} {m : MethodId} {args : Array Value} {below : List Frame} {meth : Method} {c : Code} {H : Heap} {locs : List Loc} {Q : State → Prop} {pc : Nat} {ls : Array Slot} {cc : ByteArray} {own : String} {nL ix ig : Nat} {D : va_G} {cI cJ cZ cR : ClassId} {am gm : Nat → Nat} {st : Nat} {A : Nat → Prop} {ret : Option FieldType} {rest : List Value} {F L : Nat} {t0 t t1 tE : St} {need : Int32}
    (C0 : cxX p s m args meth c cc own nL ret D (tyX cI cJ cZ cR) st A) (hcal : calS own ig yX2_grown cX2_grown 2 (some (.array .int)) 2) (hk : Cond.fieldLink own ix "GuardNets$Diagram" "hash" "[I" ∈ wsAll) (hls : ls.size = nL) (hW : wl D A s (wX cI cJ cZ cR am gm t) H locs) (hg : grwR t 8 need t1) (h0 : mle t0 t) (hE : mle t1 tE) (hF : 2 ≤ F) (hL : 42 ≤ L) (hrest : (rest.map fun v => v.category).sum + 1 ≤ 8) (hd1 : decode cc pc = .ok (.invokestatic ig, 3)) (hd2 : decode cc (pc + 3) = .ok (.putfield ix, 3))
    (kk : ∀ (gm : Nat → Nat) (H : Heap) (locs : List Loc), wl D A s (wX cI cJ cZ cR am gm t1) H locs → W p l e (rmA F L t0 tE) s m args below meth c H locs (mC t0 t1) (mS t0 t1) Q (F0 m (pc + 6) ls rest)) : W p l e (rmA F L t0 tE) s m args below meth c H locs (mC t0 t) (mS t0 t) Q (F0 m pc ls (.int need :: .ref (gm 8) :: .ref (am 2000) :: rest)) := by
  have ha : (wX cI cJ cZ cR am gm t)[13]? = some (gm 8, .inl (cI, gN t 8, .inl (gA t 8))) := rfl
  have hrs : ([.ref (am 2000)] ++ rest : List Value).map (fun v => v.category) = 1 :: rest.map (fun v => v.category) := rfl
  have hrest' : ((.ref (am 2000) :: rest : List Value).map fun v => v.category).sum ≤ 8 := by
    show 1 + (rest.map fun v => v.category).sum ≤ 8
    omega
  have hmle := hg.mle
  have hR := hR_of (t0 := t0) (hmle.trans hE)
  have hf := hf_of h0 hmle hE
  obtain ⟨hx, hb, hret, hml, hown, hta, hlk, hK, hA⟩ := id C0.1
  rcases hg with ⟨hg, rfl⟩ | ⟨hg, g1, g2, rfl⟩
  · refine bkR C0 hW (runSX (As := [.ref (gm 8), .int need]) (rest := .ref (am 2000) :: rest) C0 hW (c_grown_old l ha rfl _ need hg) hcal rfl rfl ⟨rfl, rfl⟩ ⟨hF, hL⟩ hrest' hls hd1 hR) (fun a w' H locs hp hW => ?_)
    obtain ⟨rfl, rfl⟩ := hp
    refine va_put (D := D) (ci := 0) (ty := .array .int) (v := .ref (gm 8)) (C := RX0) (T := TX0) (N := 15) (fs := fsX0 am gm t1) hx hb hta inA0 tyX0 tyX0_ok nmX0 hown hK hW.1 hW.2.1 hW.2.2 0 rfl rfl 8 (by decide) (hta _ hk) (fun _ h9 => h9) rfl (by decide +kernel) rfl rfl (Nat.le_of_ble_eq_true rfl) hd2 (fun H locs hP hD hS => ?_)
    exact kk gm H locs ⟨hP, hD, hS⟩
  · have hcon := c_grown_new l kw_arrI ha (tys := tyX cI cJ cZ cR) (D := D) (st := st) rfl H.size need hg g1 g2
    generalize hgw : gwn (gN t 8) need = nd at *
    have hc : mC t (nwI t 8 nd.toNatClampNeg (fun _ => 0)) = 1 := by simp [mC, nwI, va_up, gN]
    have hs : mS t (nwI t 8 nd.toNatClampNeg (fun _ => 0)) = nd.toNatClampNeg := by simp [mS, nwI, va_up, gN]
    have hf1 : mC t0 t + 1 ≤ mC t0 tE := by have := hf.1; rw [hc] at this; exact this
    have hf2 : mS t0 t + nd.toNatClampNeg ≤ mS t0 tE := by have := hf.2; rw [hs] at this; exact this
    refine bkR C0 hW (runSX (As := [.ref (gm 8), .int need]) (rest := .ref (am 2000) :: rest) C0 hW hcon hcal rfl rfl ⟨rfl, rfl⟩ ⟨hF, hL⟩ hrest' hls hd1 ⟨hf1, hf2⟩) (fun a w' H locs hp hW => ?_)
    subst hp
    refine va_put (D := D) (ci := 0) (ty := .array .int) (v := .ref a) (C := RX0) (T := TX0) (N := 15) (fs := fsX0 am gm t) hx hb hta inA0 tyX0 tyX0_ok nmX0 hown hK hW.1 hW.2.1 hW.2.2 0 rfl rfl 8 (by decide) (hta _ hk) (fun _ h9 => h9) rfl (by decide +kernel) rfl rfl (Nat.le_of_ble_eq_true rfl) hd2 (fun H locs hP hD hS => ?_)
    have hP' := hP.sub (ws' := wX cI cJ cZ cR am (va_up gm 8 a) (nwI t 8 nd.toNatClampNeg (fun _ => 0))) [0, 1, 2, 3, 4, 5, 6, 7, 8, 9, 10, 11, 12, 71, 14, 15, 16, 17, 18, 19, 20, 21, 22, 23, 24, 25, 26, 27, 28, 29, 30, 31, 32, 33, 34, 35, 36, 37, 38, 39, 40, 41, 42, 43, 44, 45, 46, 47, 48, 49, 50, 51, 52, 53, 54, 55, 56, 57, 58, 59, 60, 61, 62, 63, 64, 65, 66, 67, 68, 69, 70] rfl
    have hD' := hD.sub (ws' := wX cI cJ cZ cR am (va_up gm 8 a) (nwI t 8 nd.toNatClampNeg (fun _ => 0))) [0, 1, 2, 3, 4, 5, 6, 7, 8, 9, 10, 11, 12, 71, 14, 15, 16, 17, 18, 19, 20, 21, 22, 23, 24, 25, 26, 27, 28, 29, 30, 31, 32, 33, 34, 35, 36, 37, 38, 39, 40, 41, 42, 43, 44, 45, 46, 47, 48, 49, 50, 51, 52, 53, 54, 55, 56, 57, 58, 59, 60, 61, 62, 63, 64, 65, 66, 67, 68, 69, 70] (by decide) rfl
    refine W.widen ?_ ?_ (kk (va_up gm 8 a) H locs ⟨hP', hD', hS⟩)
    · have := hmle.1; have := h0.1; have := hc; show gN t 9000 - gN t0 9000 + 1 ≤ gN (nwI t 8 nd.toNatClampNeg (fun _ => 0)) 9000 - gN t0 9000; unfold mC at hc; omega
    · have := hmle.2; have := h0.2; have := hs; show gN t 9001 - gN t0 9001 + nd.toNatClampNeg ≤ gN (nwI t 8 nd.toNatClampNeg (fun _ => 0)) 9001 - gN t0 9001; unfold mS at hs; omega
set_option maxHeartbeats 4000000 in
set_option maxRecDepth 100000 in
theorem xGROW_9 {p : Program} {l : Launch} {e : Env} {s : State} {m : MethodId} {args : Array Value} {below : List Frame} {meth : Method} {c : Code} {H : Heap} {locs : List Loc} {Q : State → Prop} {pc : Nat} {ls : Array Slot} {cc : ByteArray} {own : String} {nL ix ig : Nat} {D : va_G} {cI cJ cZ cR : ClassId} {am gm : Nat → Nat} {st : Nat} {A : Nat → Prop} {ret : Option FieldType} {rest : List Value} {F L : Nat} {t0 t t1 tE : St} {need : Int32}
    (C0 : cxX p s m args meth c cc own nL ret D (tyX cI cJ cZ cR) st A) (hcal : calS own ig yX2_grown cX2_grown 2 (some (.array .int)) 2) (hk : Cond.fieldLink own ix "GuardNets$Diagram" "ranks" "[I" ∈ wsAll) (hls : ls.size = nL) (hW : wl D A s (wX cI cJ cZ cR am gm t) H locs) (hg : grwR t 9 need t1) (h0 : mle t0 t) (hE : mle t1 tE) (hF : 2 ≤ F) (hL : 42 ≤ L) (hrest : (rest.map fun v => v.category).sum + 1 ≤ 8) (hd1 : decode cc pc = .ok (.invokestatic ig, 3)) (hd2 : decode cc (pc + 3) = .ok (.putfield ix, 3))
    (kk : ∀ (gm : Nat → Nat) (H : Heap) (locs : List Loc), wl D A s (wX cI cJ cZ cR am gm t1) H locs → W p l e (rmA F L t0 tE) s m args below meth c H locs (mC t0 t1) (mS t0 t1) Q (F0 m (pc + 6) ls rest)) : W p l e (rmA F L t0 tE) s m args below meth c H locs (mC t0 t) (mS t0 t) Q (F0 m pc ls (.int need :: .ref (gm 9) :: .ref (am 2000) :: rest)) := by
  have ha : (wX cI cJ cZ cR am gm t)[14]? = some (gm 9, .inl (cI, gN t 9, .inl (gA t 9))) := rfl
  have hrs : ([.ref (am 2000)] ++ rest : List Value).map (fun v => v.category) = 1 :: rest.map (fun v => v.category) := rfl
  have hrest' : ((.ref (am 2000) :: rest : List Value).map fun v => v.category).sum ≤ 8 := by
    show 1 + (rest.map fun v => v.category).sum ≤ 8
    omega
  have hmle := hg.mle
  have hR := hR_of (t0 := t0) (hmle.trans hE)
  have hf := hf_of h0 hmle hE
  obtain ⟨hx, hb, hret, hml, hown, hta, hlk, hK, hA⟩ := id C0.1
  rcases hg with ⟨hg, rfl⟩ | ⟨hg, g1, g2, rfl⟩
  · refine bkR C0 hW (runSX (As := [.ref (gm 9), .int need]) (rest := .ref (am 2000) :: rest) C0 hW (c_grown_old l ha rfl _ need hg) hcal rfl rfl ⟨rfl, rfl⟩ ⟨hF, hL⟩ hrest' hls hd1 hR) (fun a w' H locs hp hW => ?_)
    obtain ⟨rfl, rfl⟩ := hp
    refine va_put (D := D) (ci := 0) (ty := .array .int) (v := .ref (gm 9)) (C := RX0) (T := TX0) (N := 15) (fs := fsX0 am gm t1) hx hb hta inA0 tyX0 tyX0_ok nmX0 hown hK hW.1 hW.2.1 hW.2.2 0 rfl rfl 9 (by decide) (hta _ hk) (fun _ h9 => h9) rfl (by decide +kernel) rfl rfl (Nat.le_of_ble_eq_true rfl) hd2 (fun H locs hP hD hS => ?_)
    exact kk gm H locs ⟨hP, hD, hS⟩
  · have hcon := c_grown_new l kw_arrI ha (tys := tyX cI cJ cZ cR) (D := D) (st := st) rfl H.size need hg g1 g2
    generalize hgw : gwn (gN t 9) need = nd at *
    have hc : mC t (nwI t 9 nd.toNatClampNeg (fun _ => 0)) = 1 := by simp [mC, nwI, va_up, gN]
    have hs : mS t (nwI t 9 nd.toNatClampNeg (fun _ => 0)) = nd.toNatClampNeg := by simp [mS, nwI, va_up, gN]
    have hf1 : mC t0 t + 1 ≤ mC t0 tE := by have := hf.1; rw [hc] at this; exact this
    have hf2 : mS t0 t + nd.toNatClampNeg ≤ mS t0 tE := by have := hf.2; rw [hs] at this; exact this
    refine bkR C0 hW (runSX (As := [.ref (gm 9), .int need]) (rest := .ref (am 2000) :: rest) C0 hW hcon hcal rfl rfl ⟨rfl, rfl⟩ ⟨hF, hL⟩ hrest' hls hd1 ⟨hf1, hf2⟩) (fun a w' H locs hp hW => ?_)
    subst hp
    refine va_put (D := D) (ci := 0) (ty := .array .int) (v := .ref a) (C := RX0) (T := TX0) (N := 15) (fs := fsX0 am gm t) hx hb hta inA0 tyX0 tyX0_ok nmX0 hown hK hW.1 hW.2.1 hW.2.2 0 rfl rfl 9 (by decide) (hta _ hk) (fun _ h9 => h9) rfl (by decide +kernel) rfl rfl (Nat.le_of_ble_eq_true rfl) hd2 (fun H locs hP hD hS => ?_)
    have hP' := hP.sub (ws' := wX cI cJ cZ cR am (va_up gm 9 a) (nwI t 9 nd.toNatClampNeg (fun _ => 0))) [0, 1, 2, 3, 4, 5, 6, 7, 8, 9, 10, 11, 12, 13, 71, 15, 16, 17, 18, 19, 20, 21, 22, 23, 24, 25, 26, 27, 28, 29, 30, 31, 32, 33, 34, 35, 36, 37, 38, 39, 40, 41, 42, 43, 44, 45, 46, 47, 48, 49, 50, 51, 52, 53, 54, 55, 56, 57, 58, 59, 60, 61, 62, 63, 64, 65, 66, 67, 68, 69, 70] rfl
    have hD' := hD.sub (ws' := wX cI cJ cZ cR am (va_up gm 9 a) (nwI t 9 nd.toNatClampNeg (fun _ => 0))) [0, 1, 2, 3, 4, 5, 6, 7, 8, 9, 10, 11, 12, 13, 71, 15, 16, 17, 18, 19, 20, 21, 22, 23, 24, 25, 26, 27, 28, 29, 30, 31, 32, 33, 34, 35, 36, 37, 38, 39, 40, 41, 42, 43, 44, 45, 46, 47, 48, 49, 50, 51, 52, 53, 54, 55, 56, 57, 58, 59, 60, 61, 62, 63, 64, 65, 66, 67, 68, 69, 70] (by decide) rfl
    refine W.widen ?_ ?_ (kk (va_up gm 9 a) H locs ⟨hP', hD', hS⟩)
    · have := hmle.1; have := h0.1; have := hc; show gN t 9000 - gN t0 9000 + 1 ≤ gN (nwI t 9 nd.toNatClampNeg (fun _ => 0)) 9000 - gN t0 9000; unfold mC at hc; omega
    · have := hmle.2; have := h0.2; have := hs; show gN t 9001 - gN t0 9001 + nd.toNatClampNeg ≤ gN (nwI t 9 nd.toNatClampNeg (fun _ => 0)) 9001 - gN t0 9001; unfold mS at hs; omega
set_option maxHeartbeats 4000000 in
set_option maxRecDepth 100000 in
theorem xGROW_10 {p : Program} {l : Launch} {e : Env} {s : State} {m : MethodId} {args : Array Value} {below : List Frame} {meth : Method} {c : Code} {H : Heap} {locs : List Loc} {Q : State → Prop} {pc : Nat} {ls : Array Slot} {cc : ByteArray} {own : String} {nL ix ig : Nat} {D : va_G} {cI cJ cZ cR : ClassId} {am gm : Nat → Nat} {st : Nat} {A : Nat → Prop} {ret : Option FieldType} {rest : List Value} {F L : Nat} {t0 t t1 tE : St} {need : Int32}
    (C0 : cxX p s m args meth c cc own nL ret D (tyX cI cJ cZ cR) st A) (hcal : calS own ig yX2_grown cX2_grown 2 (some (.array .int)) 2) (hk : Cond.fieldLink own ix "GuardNets$Diagram" "lows" "[I" ∈ wsAll) (hls : ls.size = nL) (hW : wl D A s (wX cI cJ cZ cR am gm t) H locs) (hg : grwR t 10 need t1) (h0 : mle t0 t) (hE : mle t1 tE) (hF : 2 ≤ F) (hL : 42 ≤ L) (hrest : (rest.map fun v => v.category).sum + 1 ≤ 8) (hd1 : decode cc pc = .ok (.invokestatic ig, 3)) (hd2 : decode cc (pc + 3) = .ok (.putfield ix, 3))
    (kk : ∀ (gm : Nat → Nat) (H : Heap) (locs : List Loc), wl D A s (wX cI cJ cZ cR am gm t1) H locs → W p l e (rmA F L t0 tE) s m args below meth c H locs (mC t0 t1) (mS t0 t1) Q (F0 m (pc + 6) ls rest)) : W p l e (rmA F L t0 tE) s m args below meth c H locs (mC t0 t) (mS t0 t) Q (F0 m pc ls (.int need :: .ref (gm 10) :: .ref (am 2000) :: rest)) := by
  have ha : (wX cI cJ cZ cR am gm t)[15]? = some (gm 10, .inl (cI, gN t 10, .inl (gA t 10))) := rfl
  have hrs : ([.ref (am 2000)] ++ rest : List Value).map (fun v => v.category) = 1 :: rest.map (fun v => v.category) := rfl
  have hrest' : ((.ref (am 2000) :: rest : List Value).map fun v => v.category).sum ≤ 8 := by
    show 1 + (rest.map fun v => v.category).sum ≤ 8
    omega
  have hmle := hg.mle
  have hR := hR_of (t0 := t0) (hmle.trans hE)
  have hf := hf_of h0 hmle hE
  obtain ⟨hx, hb, hret, hml, hown, hta, hlk, hK, hA⟩ := id C0.1
  rcases hg with ⟨hg, rfl⟩ | ⟨hg, g1, g2, rfl⟩
  · refine bkR C0 hW (runSX (As := [.ref (gm 10), .int need]) (rest := .ref (am 2000) :: rest) C0 hW (c_grown_old l ha rfl _ need hg) hcal rfl rfl ⟨rfl, rfl⟩ ⟨hF, hL⟩ hrest' hls hd1 hR) (fun a w' H locs hp hW => ?_)
    obtain ⟨rfl, rfl⟩ := hp
    refine va_put (D := D) (ci := 0) (ty := .array .int) (v := .ref (gm 10)) (C := RX0) (T := TX0) (N := 15) (fs := fsX0 am gm t1) hx hb hta inA0 tyX0 tyX0_ok nmX0 hown hK hW.1 hW.2.1 hW.2.2 0 rfl rfl 10 (by decide) (hta _ hk) (fun _ h9 => h9) rfl (by decide +kernel) rfl rfl (Nat.le_of_ble_eq_true rfl) hd2 (fun H locs hP hD hS => ?_)
    exact kk gm H locs ⟨hP, hD, hS⟩
  · have hcon := c_grown_new l kw_arrI ha (tys := tyX cI cJ cZ cR) (D := D) (st := st) rfl H.size need hg g1 g2
    generalize hgw : gwn (gN t 10) need = nd at *
    have hc : mC t (nwI t 10 nd.toNatClampNeg (fun _ => 0)) = 1 := by simp [mC, nwI, va_up, gN]
    have hs : mS t (nwI t 10 nd.toNatClampNeg (fun _ => 0)) = nd.toNatClampNeg := by simp [mS, nwI, va_up, gN]
    have hf1 : mC t0 t + 1 ≤ mC t0 tE := by have := hf.1; rw [hc] at this; exact this
    have hf2 : mS t0 t + nd.toNatClampNeg ≤ mS t0 tE := by have := hf.2; rw [hs] at this; exact this
    refine bkR C0 hW (runSX (As := [.ref (gm 10), .int need]) (rest := .ref (am 2000) :: rest) C0 hW hcon hcal rfl rfl ⟨rfl, rfl⟩ ⟨hF, hL⟩ hrest' hls hd1 ⟨hf1, hf2⟩) (fun a w' H locs hp hW => ?_)
    subst hp
    refine va_put (D := D) (ci := 0) (ty := .array .int) (v := .ref a) (C := RX0) (T := TX0) (N := 15) (fs := fsX0 am gm t) hx hb hta inA0 tyX0 tyX0_ok nmX0 hown hK hW.1 hW.2.1 hW.2.2 0 rfl rfl 10 (by decide) (hta _ hk) (fun _ h9 => h9) rfl (by decide +kernel) rfl rfl (Nat.le_of_ble_eq_true rfl) hd2 (fun H locs hP hD hS => ?_)
    have hP' := hP.sub (ws' := wX cI cJ cZ cR am (va_up gm 10 a) (nwI t 10 nd.toNatClampNeg (fun _ => 0))) [0, 1, 2, 3, 4, 5, 6, 7, 8, 9, 10, 11, 12, 13, 14, 71, 16, 17, 18, 19, 20, 21, 22, 23, 24, 25, 26, 27, 28, 29, 30, 31, 32, 33, 34, 35, 36, 37, 38, 39, 40, 41, 42, 43, 44, 45, 46, 47, 48, 49, 50, 51, 52, 53, 54, 55, 56, 57, 58, 59, 60, 61, 62, 63, 64, 65, 66, 67, 68, 69, 70] rfl
    have hD' := hD.sub (ws' := wX cI cJ cZ cR am (va_up gm 10 a) (nwI t 10 nd.toNatClampNeg (fun _ => 0))) [0, 1, 2, 3, 4, 5, 6, 7, 8, 9, 10, 11, 12, 13, 14, 71, 16, 17, 18, 19, 20, 21, 22, 23, 24, 25, 26, 27, 28, 29, 30, 31, 32, 33, 34, 35, 36, 37, 38, 39, 40, 41, 42, 43, 44, 45, 46, 47, 48, 49, 50, 51, 52, 53, 54, 55, 56, 57, 58, 59, 60, 61, 62, 63, 64, 65, 66, 67, 68, 69, 70] (by decide) rfl
    refine W.widen ?_ ?_ (kk (va_up gm 10 a) H locs ⟨hP', hD', hS⟩)
    · have := hmle.1; have := h0.1; have := hc; show gN t 9000 - gN t0 9000 + 1 ≤ gN (nwI t 10 nd.toNatClampNeg (fun _ => 0)) 9000 - gN t0 9000; unfold mC at hc; omega
    · have := hmle.2; have := h0.2; have := hs; show gN t 9001 - gN t0 9001 + nd.toNatClampNeg ≤ gN (nwI t 10 nd.toNatClampNeg (fun _ => 0)) 9001 - gN t0 9001; unfold mS at hs; omega
set_option maxHeartbeats 4000000 in
set_option maxRecDepth 100000 in
theorem xGROW_11 {p : Program} {l : Launch} {e : Env} {s : State} {m : MethodId} {args : Array Value} {below : List Frame} {meth : Method} {c : Code} {H : Heap} {locs : List Loc} {Q : State → Prop} {pc : Nat} {ls : Array Slot} {cc : ByteArray} {own : String} {nL ix ig : Nat} {D : va_G} {cI cJ cZ cR : ClassId} {am gm : Nat → Nat} {st : Nat} {A : Nat → Prop} {ret : Option FieldType} {rest : List Value} {F L : Nat} {t0 t t1 tE : St} {need : Int32}
    (C0 : cxX p s m args meth c cc own nL ret D (tyX cI cJ cZ cR) st A) (hcal : calS own ig yX2_grown cX2_grown 2 (some (.array .int)) 2) (hk : Cond.fieldLink own ix "GuardNets$Diagram" "highs" "[I" ∈ wsAll) (hls : ls.size = nL) (hW : wl D A s (wX cI cJ cZ cR am gm t) H locs) (hg : grwR t 11 need t1) (h0 : mle t0 t) (hE : mle t1 tE) (hF : 2 ≤ F) (hL : 42 ≤ L) (hrest : (rest.map fun v => v.category).sum + 1 ≤ 8) (hd1 : decode cc pc = .ok (.invokestatic ig, 3)) (hd2 : decode cc (pc + 3) = .ok (.putfield ix, 3))
    (kk : ∀ (gm : Nat → Nat) (H : Heap) (locs : List Loc), wl D A s (wX cI cJ cZ cR am gm t1) H locs → W p l e (rmA F L t0 tE) s m args below meth c H locs (mC t0 t1) (mS t0 t1) Q (F0 m (pc + 6) ls rest)) : W p l e (rmA F L t0 tE) s m args below meth c H locs (mC t0 t) (mS t0 t) Q (F0 m pc ls (.int need :: .ref (gm 11) :: .ref (am 2000) :: rest)) := by
  have ha : (wX cI cJ cZ cR am gm t)[16]? = some (gm 11, .inl (cI, gN t 11, .inl (gA t 11))) := rfl
  have hrs : ([.ref (am 2000)] ++ rest : List Value).map (fun v => v.category) = 1 :: rest.map (fun v => v.category) := rfl
  have hrest' : ((.ref (am 2000) :: rest : List Value).map fun v => v.category).sum ≤ 8 := by
    show 1 + (rest.map fun v => v.category).sum ≤ 8
    omega
  have hmle := hg.mle
  have hR := hR_of (t0 := t0) (hmle.trans hE)
  have hf := hf_of h0 hmle hE
  obtain ⟨hx, hb, hret, hml, hown, hta, hlk, hK, hA⟩ := id C0.1
  rcases hg with ⟨hg, rfl⟩ | ⟨hg, g1, g2, rfl⟩
  · refine bkR C0 hW (runSX (As := [.ref (gm 11), .int need]) (rest := .ref (am 2000) :: rest) C0 hW (c_grown_old l ha rfl _ need hg) hcal rfl rfl ⟨rfl, rfl⟩ ⟨hF, hL⟩ hrest' hls hd1 hR) (fun a w' H locs hp hW => ?_)
    obtain ⟨rfl, rfl⟩ := hp
    refine va_put (D := D) (ci := 0) (ty := .array .int) (v := .ref (gm 11)) (C := RX0) (T := TX0) (N := 15) (fs := fsX0 am gm t1) hx hb hta inA0 tyX0 tyX0_ok nmX0 hown hK hW.1 hW.2.1 hW.2.2 0 rfl rfl 11 (by decide) (hta _ hk) (fun _ h9 => h9) rfl (by decide +kernel) rfl rfl (Nat.le_of_ble_eq_true rfl) hd2 (fun H locs hP hD hS => ?_)
    exact kk gm H locs ⟨hP, hD, hS⟩
  · have hcon := c_grown_new l kw_arrI ha (tys := tyX cI cJ cZ cR) (D := D) (st := st) rfl H.size need hg g1 g2
    generalize hgw : gwn (gN t 11) need = nd at *
    have hc : mC t (nwI t 11 nd.toNatClampNeg (fun _ => 0)) = 1 := by simp [mC, nwI, va_up, gN]
    have hs : mS t (nwI t 11 nd.toNatClampNeg (fun _ => 0)) = nd.toNatClampNeg := by simp [mS, nwI, va_up, gN]
    have hf1 : mC t0 t + 1 ≤ mC t0 tE := by have := hf.1; rw [hc] at this; exact this
    have hf2 : mS t0 t + nd.toNatClampNeg ≤ mS t0 tE := by have := hf.2; rw [hs] at this; exact this
    refine bkR C0 hW (runSX (As := [.ref (gm 11), .int need]) (rest := .ref (am 2000) :: rest) C0 hW hcon hcal rfl rfl ⟨rfl, rfl⟩ ⟨hF, hL⟩ hrest' hls hd1 ⟨hf1, hf2⟩) (fun a w' H locs hp hW => ?_)
    subst hp
    refine va_put (D := D) (ci := 0) (ty := .array .int) (v := .ref a) (C := RX0) (T := TX0) (N := 15) (fs := fsX0 am gm t) hx hb hta inA0 tyX0 tyX0_ok nmX0 hown hK hW.1 hW.2.1 hW.2.2 0 rfl rfl 11 (by decide) (hta _ hk) (fun _ h9 => h9) rfl (by decide +kernel) rfl rfl (Nat.le_of_ble_eq_true rfl) hd2 (fun H locs hP hD hS => ?_)
    have hP' := hP.sub (ws' := wX cI cJ cZ cR am (va_up gm 11 a) (nwI t 11 nd.toNatClampNeg (fun _ => 0))) [0, 1, 2, 3, 4, 5, 6, 7, 8, 9, 10, 11, 12, 13, 14, 15, 71, 17, 18, 19, 20, 21, 22, 23, 24, 25, 26, 27, 28, 29, 30, 31, 32, 33, 34, 35, 36, 37, 38, 39, 40, 41, 42, 43, 44, 45, 46, 47, 48, 49, 50, 51, 52, 53, 54, 55, 56, 57, 58, 59, 60, 61, 62, 63, 64, 65, 66, 67, 68, 69, 70] rfl
    have hD' := hD.sub (ws' := wX cI cJ cZ cR am (va_up gm 11 a) (nwI t 11 nd.toNatClampNeg (fun _ => 0))) [0, 1, 2, 3, 4, 5, 6, 7, 8, 9, 10, 11, 12, 13, 14, 15, 71, 17, 18, 19, 20, 21, 22, 23, 24, 25, 26, 27, 28, 29, 30, 31, 32, 33, 34, 35, 36, 37, 38, 39, 40, 41, 42, 43, 44, 45, 46, 47, 48, 49, 50, 51, 52, 53, 54, 55, 56, 57, 58, 59, 60, 61, 62, 63, 64, 65, 66, 67, 68, 69, 70] (by decide) rfl
    refine W.widen ?_ ?_ (kk (va_up gm 11 a) H locs ⟨hP', hD', hS⟩)
    · have := hmle.1; have := h0.1; have := hc; show gN t 9000 - gN t0 9000 + 1 ≤ gN (nwI t 11 nd.toNatClampNeg (fun _ => 0)) 9000 - gN t0 9000; unfold mC at hc; omega
    · have := hmle.2; have := h0.2; have := hs; show gN t 9001 - gN t0 9001 + nd.toNatClampNeg ≤ gN (nwI t 11 nd.toNatClampNeg (fun _ => 0)) 9001 - gN t0 9001; unfold mS at hs; omega
set_option maxHeartbeats 4000000 in
set_option maxRecDepth 100000 in
theorem xGROW_12 {p : Program} {l : Launch} {e : Env} {s : State} {m : MethodId} {args : Array Value} {below : List Frame} {meth : Method} {c : Code} {H : Heap} {locs : List Loc} {Q : State → Prop} {pc : Nat} {ls : Array Slot} {cc : ByteArray} {own : String} {nL ix ig : Nat} {D : va_G} {cI cJ cZ cR : ClassId} {am gm : Nat → Nat} {st : Nat} {A : Nat → Prop} {ret : Option FieldType} {rest : List Value} {F L : Nat} {t0 t t1 tE : St} {need : Int32}
    (C0 : cxX p s m args meth c cc own nL ret D (tyX cI cJ cZ cR) st A) (hcal : calS own ig yX2_grown cX2_grown 2 (some (.array .int)) 2) (hk : Cond.fieldLink own ix "GuardNets$Diagram" "nums" "[I" ∈ wsAll) (hls : ls.size = nL) (hW : wl D A s (wX cI cJ cZ cR am gm t) H locs) (hg : grwR t 12 need t1) (h0 : mle t0 t) (hE : mle t1 tE) (hF : 2 ≤ F) (hL : 42 ≤ L) (hrest : (rest.map fun v => v.category).sum + 1 ≤ 8) (hd1 : decode cc pc = .ok (.invokestatic ig, 3)) (hd2 : decode cc (pc + 3) = .ok (.putfield ix, 3))
    (kk : ∀ (gm : Nat → Nat) (H : Heap) (locs : List Loc), wl D A s (wX cI cJ cZ cR am gm t1) H locs → W p l e (rmA F L t0 tE) s m args below meth c H locs (mC t0 t1) (mS t0 t1) Q (F0 m (pc + 6) ls rest)) : W p l e (rmA F L t0 tE) s m args below meth c H locs (mC t0 t) (mS t0 t) Q (F0 m pc ls (.int need :: .ref (gm 12) :: .ref (am 2000) :: rest)) := by
  have ha : (wX cI cJ cZ cR am gm t)[17]? = some (gm 12, .inl (cI, gN t 12, .inl (gA t 12))) := rfl
  have hrs : ([.ref (am 2000)] ++ rest : List Value).map (fun v => v.category) = 1 :: rest.map (fun v => v.category) := rfl
  have hrest' : ((.ref (am 2000) :: rest : List Value).map fun v => v.category).sum ≤ 8 := by
    show 1 + (rest.map fun v => v.category).sum ≤ 8
    omega
  have hmle := hg.mle
  have hR := hR_of (t0 := t0) (hmle.trans hE)
  have hf := hf_of h0 hmle hE
  obtain ⟨hx, hb, hret, hml, hown, hta, hlk, hK, hA⟩ := id C0.1
  rcases hg with ⟨hg, rfl⟩ | ⟨hg, g1, g2, rfl⟩
  · refine bkR C0 hW (runSX (As := [.ref (gm 12), .int need]) (rest := .ref (am 2000) :: rest) C0 hW (c_grown_old l ha rfl _ need hg) hcal rfl rfl ⟨rfl, rfl⟩ ⟨hF, hL⟩ hrest' hls hd1 hR) (fun a w' H locs hp hW => ?_)
    obtain ⟨rfl, rfl⟩ := hp
    refine va_put (D := D) (ci := 0) (ty := .array .int) (v := .ref (gm 12)) (C := RX0) (T := TX0) (N := 15) (fs := fsX0 am gm t1) hx hb hta inA0 tyX0 tyX0_ok nmX0 hown hK hW.1 hW.2.1 hW.2.2 0 rfl rfl 12 (by decide) (hta _ hk) (fun _ h9 => h9) rfl (by decide +kernel) rfl rfl (Nat.le_of_ble_eq_true rfl) hd2 (fun H locs hP hD hS => ?_)
    exact kk gm H locs ⟨hP, hD, hS⟩
  · have hcon := c_grown_new l kw_arrI ha (tys := tyX cI cJ cZ cR) (D := D) (st := st) rfl H.size need hg g1 g2
    generalize hgw : gwn (gN t 12) need = nd at *
    have hc : mC t (nwI t 12 nd.toNatClampNeg (fun _ => 0)) = 1 := by simp [mC, nwI, va_up, gN]
    have hs : mS t (nwI t 12 nd.toNatClampNeg (fun _ => 0)) = nd.toNatClampNeg := by simp [mS, nwI, va_up, gN]
    have hf1 : mC t0 t + 1 ≤ mC t0 tE := by have := hf.1; rw [hc] at this; exact this
    have hf2 : mS t0 t + nd.toNatClampNeg ≤ mS t0 tE := by have := hf.2; rw [hs] at this; exact this
    refine bkR C0 hW (runSX (As := [.ref (gm 12), .int need]) (rest := .ref (am 2000) :: rest) C0 hW hcon hcal rfl rfl ⟨rfl, rfl⟩ ⟨hF, hL⟩ hrest' hls hd1 ⟨hf1, hf2⟩) (fun a w' H locs hp hW => ?_)
    subst hp
    refine va_put (D := D) (ci := 0) (ty := .array .int) (v := .ref a) (C := RX0) (T := TX0) (N := 15) (fs := fsX0 am gm t) hx hb hta inA0 tyX0 tyX0_ok nmX0 hown hK hW.1 hW.2.1 hW.2.2 0 rfl rfl 12 (by decide) (hta _ hk) (fun _ h9 => h9) rfl (by decide +kernel) rfl rfl (Nat.le_of_ble_eq_true rfl) hd2 (fun H locs hP hD hS => ?_)
    have hP' := hP.sub (ws' := wX cI cJ cZ cR am (va_up gm 12 a) (nwI t 12 nd.toNatClampNeg (fun _ => 0))) [0, 1, 2, 3, 4, 5, 6, 7, 8, 9, 10, 11, 12, 13, 14, 15, 16, 71, 18, 19, 20, 21, 22, 23, 24, 25, 26, 27, 28, 29, 30, 31, 32, 33, 34, 35, 36, 37, 38, 39, 40, 41, 42, 43, 44, 45, 46, 47, 48, 49, 50, 51, 52, 53, 54, 55, 56, 57, 58, 59, 60, 61, 62, 63, 64, 65, 66, 67, 68, 69, 70] rfl
    have hD' := hD.sub (ws' := wX cI cJ cZ cR am (va_up gm 12 a) (nwI t 12 nd.toNatClampNeg (fun _ => 0))) [0, 1, 2, 3, 4, 5, 6, 7, 8, 9, 10, 11, 12, 13, 14, 15, 16, 71, 18, 19, 20, 21, 22, 23, 24, 25, 26, 27, 28, 29, 30, 31, 32, 33, 34, 35, 36, 37, 38, 39, 40, 41, 42, 43, 44, 45, 46, 47, 48, 49, 50, 51, 52, 53, 54, 55, 56, 57, 58, 59, 60, 61, 62, 63, 64, 65, 66, 67, 68, 69, 70] (by decide) rfl
    refine W.widen ?_ ?_ (kk (va_up gm 12 a) H locs ⟨hP', hD', hS⟩)
    · have := hmle.1; have := h0.1; have := hc; show gN t 9000 - gN t0 9000 + 1 ≤ gN (nwI t 12 nd.toNatClampNeg (fun _ => 0)) 9000 - gN t0 9000; unfold mC at hc; omega
    · have := hmle.2; have := h0.2; have := hs; show gN t 9001 - gN t0 9001 + nd.toNatClampNeg ≤ gN (nwI t 12 nd.toNatClampNeg (fun _ => 0)) 9001 - gN t0 9001; unfold mS at hs; omega
set_option maxHeartbeats 4000000 in
set_option maxRecDepth 100000 in
theorem xGROW_105 {p : Program} {l : Launch} {e : Env} {s : State} {m : MethodId} {args : Array Value} {below : List Frame} {meth : Method} {c : Code} {H : Heap} {locs : List Loc} {Q : State → Prop} {pc : Nat} {ls : Array Slot} {cc : ByteArray} {own : String} {nL ix ig : Nat} {D : va_G} {cI cJ cZ cR : ClassId} {am gm : Nat → Nat} {st : Nat} {A : Nat → Prop} {ret : Option FieldType} {rest : List Value} {F L : Nat} {t0 t t1 tE : St} {need : Int32}
    (C0 : cxX p s m args meth c cc own nL ret D (tyX cI cJ cZ cR) st A) (hcal : calS own ig yX2_grown cX2_grown 2 (some (.array .int)) 2) (hk : Cond.fieldLink own ix "GuardNets$Drill" "at" "[I" ∈ wsAll) (hls : ls.size = nL) (hW : wl D A s (wX cI cJ cZ cR am gm t) H locs) (hg : grwR t 105 need t1) (h0 : mle t0 t) (hE : mle t1 tE) (hF : 2 ≤ F) (hL : 42 ≤ L) (hrest : (rest.map fun v => v.category).sum + 1 ≤ 8) (hd1 : decode cc pc = .ok (.invokestatic ig, 3)) (hd2 : decode cc (pc + 3) = .ok (.putfield ix, 3))
    (kk : ∀ (gm : Nat → Nat) (H : Heap) (locs : List Loc), wl D A s (wX cI cJ cZ cR am gm t1) H locs → W p l e (rmA F L t0 tE) s m args below meth c H locs (mC t0 t1) (mS t0 t1) Q (F0 m (pc + 6) ls rest)) : W p l e (rmA F L t0 tE) s m args below meth c H locs (mC t0 t) (mS t0 t) Q (F0 m pc ls (.int need :: .ref (gm 105) :: .ref (am 2001) :: rest)) := by
  have ha : (wX cI cJ cZ cR am gm t)[22]? = some (gm 105, .inl (cI, gN t 105, .inl (gA t 105))) := rfl
  have hrs : ([.ref (am 2001)] ++ rest : List Value).map (fun v => v.category) = 1 :: rest.map (fun v => v.category) := rfl
  have hrest' : ((.ref (am 2001) :: rest : List Value).map fun v => v.category).sum ≤ 8 := by
    show 1 + (rest.map fun v => v.category).sum ≤ 8
    omega
  have hmle := hg.mle
  have hR := hR_of (t0 := t0) (hmle.trans hE)
  have hf := hf_of h0 hmle hE
  obtain ⟨hx, hb, hret, hml, hown, hta, hlk, hK, hA⟩ := id C0.1
  rcases hg with ⟨hg, rfl⟩ | ⟨hg, g1, g2, rfl⟩
  · refine bkR C0 hW (runSX (As := [.ref (gm 105), .int need]) (rest := .ref (am 2001) :: rest) C0 hW (c_grown_old l ha rfl _ need hg) hcal rfl rfl ⟨rfl, rfl⟩ ⟨hF, hL⟩ hrest' hls hd1 hR) (fun a w' H locs hp hW => ?_)
    obtain ⟨rfl, rfl⟩ := hp
    refine va_put (D := D) (ci := 1) (ty := .array .int) (v := .ref (gm 105)) (C := RX1) (T := TX1) (N := 8) (fs := fsX1 am gm t1) hx hb hta inA1 tyX1 tyX1_ok nmX1 hown hK hW.1 hW.2.1 hW.2.2 1 rfl rfl 5 (by decide) (hta _ hk) (fun _ h9 => h9) rfl (by decide +kernel) rfl rfl (Nat.le_of_ble_eq_true rfl) hd2 (fun H locs hP hD hS => ?_)
    exact kk gm H locs ⟨hP, hD, hS⟩
  · have hcon := c_grown_new l kw_arrI ha (tys := tyX cI cJ cZ cR) (D := D) (st := st) rfl H.size need hg g1 g2
    generalize hgw : gwn (gN t 105) need = nd at *
    have hc : mC t (nwI t 105 nd.toNatClampNeg (fun _ => 0)) = 1 := by simp [mC, nwI, va_up, gN]
    have hs : mS t (nwI t 105 nd.toNatClampNeg (fun _ => 0)) = nd.toNatClampNeg := by simp [mS, nwI, va_up, gN]
    have hf1 : mC t0 t + 1 ≤ mC t0 tE := by have := hf.1; rw [hc] at this; exact this
    have hf2 : mS t0 t + nd.toNatClampNeg ≤ mS t0 tE := by have := hf.2; rw [hs] at this; exact this
    refine bkR C0 hW (runSX (As := [.ref (gm 105), .int need]) (rest := .ref (am 2001) :: rest) C0 hW hcon hcal rfl rfl ⟨rfl, rfl⟩ ⟨hF, hL⟩ hrest' hls hd1 ⟨hf1, hf2⟩) (fun a w' H locs hp hW => ?_)
    subst hp
    refine va_put (D := D) (ci := 1) (ty := .array .int) (v := .ref a) (C := RX1) (T := TX1) (N := 8) (fs := fsX1 am gm t) hx hb hta inA1 tyX1 tyX1_ok nmX1 hown hK hW.1 hW.2.1 hW.2.2 1 rfl rfl 5 (by decide) (hta _ hk) (fun _ h9 => h9) rfl (by decide +kernel) rfl rfl (Nat.le_of_ble_eq_true rfl) hd2 (fun H locs hP hD hS => ?_)
    have hP' := hP.sub (ws' := wX cI cJ cZ cR am (va_up gm 105 a) (nwI t 105 nd.toNatClampNeg (fun _ => 0))) [0, 1, 2, 3, 4, 5, 6, 7, 8, 9, 10, 11, 12, 13, 14, 15, 16, 17, 18, 19, 20, 21, 71, 23, 24, 25, 26, 27, 28, 29, 30, 31, 32, 33, 34, 35, 36, 37, 38, 39, 40, 41, 42, 43, 44, 45, 46, 47, 48, 49, 50, 51, 52, 53, 54, 55, 56, 57, 58, 59, 60, 61, 62, 63, 64, 65, 66, 67, 68, 69, 70] rfl
    have hD' := hD.sub (ws' := wX cI cJ cZ cR am (va_up gm 105 a) (nwI t 105 nd.toNatClampNeg (fun _ => 0))) [0, 1, 2, 3, 4, 5, 6, 7, 8, 9, 10, 11, 12, 13, 14, 15, 16, 17, 18, 19, 20, 21, 71, 23, 24, 25, 26, 27, 28, 29, 30, 31, 32, 33, 34, 35, 36, 37, 38, 39, 40, 41, 42, 43, 44, 45, 46, 47, 48, 49, 50, 51, 52, 53, 54, 55, 56, 57, 58, 59, 60, 61, 62, 63, 64, 65, 66, 67, 68, 69, 70] (by decide) rfl
    refine W.widen ?_ ?_ (kk (va_up gm 105 a) H locs ⟨hP', hD', hS⟩)
    · have := hmle.1; have := h0.1; have := hc; show gN t 9000 - gN t0 9000 + 1 ≤ gN (nwI t 105 nd.toNatClampNeg (fun _ => 0)) 9000 - gN t0 9000; unfold mC at hc; omega
    · have := hmle.2; have := h0.2; have := hs; show gN t 9001 - gN t0 9001 + nd.toNatClampNeg ≤ gN (nwI t 105 nd.toNatClampNeg (fun _ => 0)) 9001 - gN t0 9001; unfold mS at hs; omega
set_option maxHeartbeats 4000000 in
set_option maxRecDepth 100000 in
theorem xGROW_405 {p : Program} {l : Launch} {e : Env} {s : State} {m : MethodId} {args : Array Value} {below : List Frame} {meth : Method} {c : Code} {H : Heap} {locs : List Loc} {Q : State → Prop} {pc : Nat} {ls : Array Slot} {cc : ByteArray} {own : String} {nL ix ig : Nat} {D : va_G} {cI cJ cZ cR : ClassId} {am gm : Nat → Nat} {st : Nat} {A : Nat → Prop} {ret : Option FieldType} {rest : List Value} {F L : Nat} {t0 t t1 tE : St} {need : Int32}
    (C0 : cxX p s m args meth c cc own nL ret D (tyX cI cJ cZ cR) st A) (hcal : calS own ig yX2_grown cX2_grown 2 (some (.array .int)) 2) (hk : Cond.fieldLink own ix "GuardNets$Guards" "chances" "[I" ∈ wsAll) (hls : ls.size = nL) (hW : wl D A s (wX cI cJ cZ cR am gm t) H locs) (hg : grwR t 405 need t1) (h0 : mle t0 t) (hE : mle t1 tE) (hF : 2 ≤ F) (hL : 42 ≤ L) (hrest : (rest.map fun v => v.category).sum + 1 ≤ 8) (hd1 : decode cc pc = .ok (.invokestatic ig, 3)) (hd2 : decode cc (pc + 3) = .ok (.putfield ix, 3))
    (kk : ∀ (gm : Nat → Nat) (H : Heap) (locs : List Loc), wl D A s (wX cI cJ cZ cR am gm t1) H locs → W p l e (rmA F L t0 tE) s m args below meth c H locs (mC t0 t1) (mS t0 t1) Q (F0 m (pc + 6) ls rest)) : W p l e (rmA F L t0 tE) s m args below meth c H locs (mC t0 t) (mS t0 t) Q (F0 m pc ls (.int need :: .ref (gm 405) :: .ref (am 2004) :: rest)) := by
  have ha : (wX cI cJ cZ cR am gm t)[32]? = some (gm 405, .inl (cI, gN t 405, .inl (gA t 405))) := rfl
  have hrs : ([.ref (am 2004)] ++ rest : List Value).map (fun v => v.category) = 1 :: rest.map (fun v => v.category) := rfl
  have hrest' : ((.ref (am 2004) :: rest : List Value).map fun v => v.category).sum ≤ 8 := by
    show 1 + (rest.map fun v => v.category).sum ≤ 8
    omega
  have hmle := hg.mle
  have hR := hR_of (t0 := t0) (hmle.trans hE)
  have hf := hf_of h0 hmle hE
  obtain ⟨hx, hb, hret, hml, hown, hta, hlk, hK, hA⟩ := id C0.1
  rcases hg with ⟨hg, rfl⟩ | ⟨hg, g1, g2, rfl⟩
  · refine bkR C0 hW (runSX (As := [.ref (gm 405), .int need]) (rest := .ref (am 2004) :: rest) C0 hW (c_grown_old l ha rfl _ need hg) hcal rfl rfl ⟨rfl, rfl⟩ ⟨hF, hL⟩ hrest' hls hd1 hR) (fun a w' H locs hp hW => ?_)
    obtain ⟨rfl, rfl⟩ := hp
    refine va_put (D := D) (ci := 4) (ty := .array .int) (v := .ref (gm 405)) (C := RX4) (T := TX4) (N := 12) (fs := fsX4 am gm t1) hx hb hta inA4 tyX4 tyX4_ok nmX4 hown hK hW.1 hW.2.1 hW.2.2 4 rfl rfl 5 (by decide) (hta _ hk) (fun _ h9 => h9) rfl (by decide +kernel) rfl rfl (Nat.le_of_ble_eq_true rfl) hd2 (fun H locs hP hD hS => ?_)
    exact kk gm H locs ⟨hP, hD, hS⟩
  · have hcon := c_grown_new l kw_arrI ha (tys := tyX cI cJ cZ cR) (D := D) (st := st) rfl H.size need hg g1 g2
    generalize hgw : gwn (gN t 405) need = nd at *
    have hc : mC t (nwI t 405 nd.toNatClampNeg (fun _ => 0)) = 1 := by simp [mC, nwI, va_up, gN]
    have hs : mS t (nwI t 405 nd.toNatClampNeg (fun _ => 0)) = nd.toNatClampNeg := by simp [mS, nwI, va_up, gN]
    have hf1 : mC t0 t + 1 ≤ mC t0 tE := by have := hf.1; rw [hc] at this; exact this
    have hf2 : mS t0 t + nd.toNatClampNeg ≤ mS t0 tE := by have := hf.2; rw [hs] at this; exact this
    refine bkR C0 hW (runSX (As := [.ref (gm 405), .int need]) (rest := .ref (am 2004) :: rest) C0 hW hcon hcal rfl rfl ⟨rfl, rfl⟩ ⟨hF, hL⟩ hrest' hls hd1 ⟨hf1, hf2⟩) (fun a w' H locs hp hW => ?_)
    subst hp
    refine va_put (D := D) (ci := 4) (ty := .array .int) (v := .ref a) (C := RX4) (T := TX4) (N := 12) (fs := fsX4 am gm t) hx hb hta inA4 tyX4 tyX4_ok nmX4 hown hK hW.1 hW.2.1 hW.2.2 4 rfl rfl 5 (by decide) (hta _ hk) (fun _ h9 => h9) rfl (by decide +kernel) rfl rfl (Nat.le_of_ble_eq_true rfl) hd2 (fun H locs hP hD hS => ?_)
    have hP' := hP.sub (ws' := wX cI cJ cZ cR am (va_up gm 405 a) (nwI t 405 nd.toNatClampNeg (fun _ => 0))) [0, 1, 2, 3, 4, 5, 6, 7, 8, 9, 10, 11, 12, 13, 14, 15, 16, 17, 18, 19, 20, 21, 22, 23, 24, 25, 26, 27, 28, 29, 30, 31, 71, 33, 34, 35, 36, 37, 38, 39, 40, 41, 42, 43, 44, 45, 46, 47, 48, 49, 50, 51, 52, 53, 54, 55, 56, 57, 58, 59, 60, 61, 62, 63, 64, 65, 66, 67, 68, 69, 70] rfl
    have hD' := hD.sub (ws' := wX cI cJ cZ cR am (va_up gm 405 a) (nwI t 405 nd.toNatClampNeg (fun _ => 0))) [0, 1, 2, 3, 4, 5, 6, 7, 8, 9, 10, 11, 12, 13, 14, 15, 16, 17, 18, 19, 20, 21, 22, 23, 24, 25, 26, 27, 28, 29, 30, 31, 71, 33, 34, 35, 36, 37, 38, 39, 40, 41, 42, 43, 44, 45, 46, 47, 48, 49, 50, 51, 52, 53, 54, 55, 56, 57, 58, 59, 60, 61, 62, 63, 64, 65, 66, 67, 68, 69, 70] (by decide) rfl
    refine W.widen ?_ ?_ (kk (va_up gm 405 a) H locs ⟨hP', hD', hS⟩)
    · have := hmle.1; have := h0.1; have := hc; show gN t 9000 - gN t0 9000 + 1 ≤ gN (nwI t 405 nd.toNatClampNeg (fun _ => 0)) 9000 - gN t0 9000; unfold mC at hc; omega
    · have := hmle.2; have := h0.2; have := hs; show gN t 9001 - gN t0 9001 + nd.toNatClampNeg ≤ gN (nwI t 405 nd.toNatClampNeg (fun _ => 0)) 9001 - gN t0 9001; unfold mS at hs; omega
set_option maxHeartbeats 4000000 in
set_option maxRecDepth 100000 in
theorem xGROW_406 {p : Program} {l : Launch} {e : Env} {s : State} {m : MethodId} {args : Array Value} {below : List Frame} {meth : Method} {c : Code} {H : Heap} {locs : List Loc} {Q : State → Prop} {pc : Nat} {ls : Array Slot} {cc : ByteArray} {own : String} {nL ix ig : Nat} {D : va_G} {cI cJ cZ cR : ClassId} {am gm : Nat → Nat} {st : Nat} {A : Nat → Prop} {ret : Option FieldType} {rest : List Value} {F L : Nat} {t0 t t1 tE : St} {need : Int32}
    (C0 : cxX p s m args meth c cc own nL ret D (tyX cI cJ cZ cR) st A) (hcal : calS own ig yX2_grown cX2_grown 2 (some (.array .int)) 2) (hk : Cond.fieldLink own ix "GuardNets$Guards" "frontSets" "[I" ∈ wsAll) (hls : ls.size = nL) (hW : wl D A s (wX cI cJ cZ cR am gm t) H locs) (hg : grwR t 406 need t1) (h0 : mle t0 t) (hE : mle t1 tE) (hF : 2 ≤ F) (hL : 42 ≤ L) (hrest : (rest.map fun v => v.category).sum + 1 ≤ 8) (hd1 : decode cc pc = .ok (.invokestatic ig, 3)) (hd2 : decode cc (pc + 3) = .ok (.putfield ix, 3))
    (kk : ∀ (gm : Nat → Nat) (H : Heap) (locs : List Loc), wl D A s (wX cI cJ cZ cR am gm t1) H locs → W p l e (rmA F L t0 tE) s m args below meth c H locs (mC t0 t1) (mS t0 t1) Q (F0 m (pc + 6) ls rest)) : W p l e (rmA F L t0 tE) s m args below meth c H locs (mC t0 t) (mS t0 t) Q (F0 m pc ls (.int need :: .ref (gm 406) :: .ref (am 2004) :: rest)) := by
  have ha : (wX cI cJ cZ cR am gm t)[33]? = some (gm 406, .inl (cI, gN t 406, .inl (gA t 406))) := rfl
  have hrs : ([.ref (am 2004)] ++ rest : List Value).map (fun v => v.category) = 1 :: rest.map (fun v => v.category) := rfl
  have hrest' : ((.ref (am 2004) :: rest : List Value).map fun v => v.category).sum ≤ 8 := by
    show 1 + (rest.map fun v => v.category).sum ≤ 8
    omega
  have hmle := hg.mle
  have hR := hR_of (t0 := t0) (hmle.trans hE)
  have hf := hf_of h0 hmle hE
  obtain ⟨hx, hb, hret, hml, hown, hta, hlk, hK, hA⟩ := id C0.1
  rcases hg with ⟨hg, rfl⟩ | ⟨hg, g1, g2, rfl⟩
  · refine bkR C0 hW (runSX (As := [.ref (gm 406), .int need]) (rest := .ref (am 2004) :: rest) C0 hW (c_grown_old l ha rfl _ need hg) hcal rfl rfl ⟨rfl, rfl⟩ ⟨hF, hL⟩ hrest' hls hd1 hR) (fun a w' H locs hp hW => ?_)
    obtain ⟨rfl, rfl⟩ := hp
    refine va_put (D := D) (ci := 4) (ty := .array .int) (v := .ref (gm 406)) (C := RX4) (T := TX4) (N := 12) (fs := fsX4 am gm t1) hx hb hta inA4 tyX4 tyX4_ok nmX4 hown hK hW.1 hW.2.1 hW.2.2 4 rfl rfl 6 (by decide) (hta _ hk) (fun _ h9 => h9) rfl (by decide +kernel) rfl rfl (Nat.le_of_ble_eq_true rfl) hd2 (fun H locs hP hD hS => ?_)
    exact kk gm H locs ⟨hP, hD, hS⟩
  · have hcon := c_grown_new l kw_arrI ha (tys := tyX cI cJ cZ cR) (D := D) (st := st) rfl H.size need hg g1 g2
    generalize hgw : gwn (gN t 406) need = nd at *
    have hc : mC t (nwI t 406 nd.toNatClampNeg (fun _ => 0)) = 1 := by simp [mC, nwI, va_up, gN]
    have hs : mS t (nwI t 406 nd.toNatClampNeg (fun _ => 0)) = nd.toNatClampNeg := by simp [mS, nwI, va_up, gN]
    have hf1 : mC t0 t + 1 ≤ mC t0 tE := by have := hf.1; rw [hc] at this; exact this
    have hf2 : mS t0 t + nd.toNatClampNeg ≤ mS t0 tE := by have := hf.2; rw [hs] at this; exact this
    refine bkR C0 hW (runSX (As := [.ref (gm 406), .int need]) (rest := .ref (am 2004) :: rest) C0 hW hcon hcal rfl rfl ⟨rfl, rfl⟩ ⟨hF, hL⟩ hrest' hls hd1 ⟨hf1, hf2⟩) (fun a w' H locs hp hW => ?_)
    subst hp
    refine va_put (D := D) (ci := 4) (ty := .array .int) (v := .ref a) (C := RX4) (T := TX4) (N := 12) (fs := fsX4 am gm t) hx hb hta inA4 tyX4 tyX4_ok nmX4 hown hK hW.1 hW.2.1 hW.2.2 4 rfl rfl 6 (by decide) (hta _ hk) (fun _ h9 => h9) rfl (by decide +kernel) rfl rfl (Nat.le_of_ble_eq_true rfl) hd2 (fun H locs hP hD hS => ?_)
    have hP' := hP.sub (ws' := wX cI cJ cZ cR am (va_up gm 406 a) (nwI t 406 nd.toNatClampNeg (fun _ => 0))) [0, 1, 2, 3, 4, 5, 6, 7, 8, 9, 10, 11, 12, 13, 14, 15, 16, 17, 18, 19, 20, 21, 22, 23, 24, 25, 26, 27, 28, 29, 30, 31, 32, 71, 34, 35, 36, 37, 38, 39, 40, 41, 42, 43, 44, 45, 46, 47, 48, 49, 50, 51, 52, 53, 54, 55, 56, 57, 58, 59, 60, 61, 62, 63, 64, 65, 66, 67, 68, 69, 70] rfl
    have hD' := hD.sub (ws' := wX cI cJ cZ cR am (va_up gm 406 a) (nwI t 406 nd.toNatClampNeg (fun _ => 0))) [0, 1, 2, 3, 4, 5, 6, 7, 8, 9, 10, 11, 12, 13, 14, 15, 16, 17, 18, 19, 20, 21, 22, 23, 24, 25, 26, 27, 28, 29, 30, 31, 32, 71, 34, 35, 36, 37, 38, 39, 40, 41, 42, 43, 44, 45, 46, 47, 48, 49, 50, 51, 52, 53, 54, 55, 56, 57, 58, 59, 60, 61, 62, 63, 64, 65, 66, 67, 68, 69, 70] (by decide) rfl
    refine W.widen ?_ ?_ (kk (va_up gm 406 a) H locs ⟨hP', hD', hS⟩)
    · have := hmle.1; have := h0.1; have := hc; show gN t 9000 - gN t0 9000 + 1 ≤ gN (nwI t 406 nd.toNatClampNeg (fun _ => 0)) 9000 - gN t0 9000; unfold mC at hc; omega
    · have := hmle.2; have := h0.2; have := hs; show gN t 9001 - gN t0 9001 + nd.toNatClampNeg ≤ gN (nwI t 406 nd.toNatClampNeg (fun _ => 0)) 9001 - gN t0 9001; unfold mS at hs; omega
set_option maxHeartbeats 4000000 in
set_option maxRecDepth 100000 in
theorem xGROW_407 {p : Program} {l : Launch} {e : Env} {s : State} {m : MethodId} {args : Array Value} {below : List Frame} {meth : Method} {c : Code} {H : Heap} {locs : List Loc} {Q : State → Prop} {pc : Nat} {ls : Array Slot} {cc : ByteArray} {own : String} {nL ix ig : Nat} {D : va_G} {cI cJ cZ cR : ClassId} {am gm : Nat → Nat} {st : Nat} {A : Nat → Prop} {ret : Option FieldType} {rest : List Value} {F L : Nat} {t0 t t1 tE : St} {need : Int32}
    (C0 : cxX p s m args meth c cc own nL ret D (tyX cI cJ cZ cR) st A) (hcal : calS own ig yX2_grown cX2_grown 2 (some (.array .int)) 2) (hk : Cond.fieldLink own ix "GuardNets$Guards" "keys" "[I" ∈ wsAll) (hls : ls.size = nL) (hW : wl D A s (wX cI cJ cZ cR am gm t) H locs) (hg : grwR t 407 need t1) (h0 : mle t0 t) (hE : mle t1 tE) (hF : 2 ≤ F) (hL : 42 ≤ L) (hrest : (rest.map fun v => v.category).sum + 1 ≤ 8) (hd1 : decode cc pc = .ok (.invokestatic ig, 3)) (hd2 : decode cc (pc + 3) = .ok (.putfield ix, 3))
    (kk : ∀ (gm : Nat → Nat) (H : Heap) (locs : List Loc), wl D A s (wX cI cJ cZ cR am gm t1) H locs → W p l e (rmA F L t0 tE) s m args below meth c H locs (mC t0 t1) (mS t0 t1) Q (F0 m (pc + 6) ls rest)) : W p l e (rmA F L t0 tE) s m args below meth c H locs (mC t0 t) (mS t0 t) Q (F0 m pc ls (.int need :: .ref (gm 407) :: .ref (am 2004) :: rest)) := by
  have ha : (wX cI cJ cZ cR am gm t)[34]? = some (gm 407, .inl (cI, gN t 407, .inl (gA t 407))) := rfl
  have hrs : ([.ref (am 2004)] ++ rest : List Value).map (fun v => v.category) = 1 :: rest.map (fun v => v.category) := rfl
  have hrest' : ((.ref (am 2004) :: rest : List Value).map fun v => v.category).sum ≤ 8 := by
    show 1 + (rest.map fun v => v.category).sum ≤ 8
    omega
  have hmle := hg.mle
  have hR := hR_of (t0 := t0) (hmle.trans hE)
  have hf := hf_of h0 hmle hE
  obtain ⟨hx, hb, hret, hml, hown, hta, hlk, hK, hA⟩ := id C0.1
  rcases hg with ⟨hg, rfl⟩ | ⟨hg, g1, g2, rfl⟩
  · refine bkR C0 hW (runSX (As := [.ref (gm 407), .int need]) (rest := .ref (am 2004) :: rest) C0 hW (c_grown_old l ha rfl _ need hg) hcal rfl rfl ⟨rfl, rfl⟩ ⟨hF, hL⟩ hrest' hls hd1 hR) (fun a w' H locs hp hW => ?_)
    obtain ⟨rfl, rfl⟩ := hp
    refine va_put (D := D) (ci := 4) (ty := .array .int) (v := .ref (gm 407)) (C := RX4) (T := TX4) (N := 12) (fs := fsX4 am gm t1) hx hb hta inA4 tyX4 tyX4_ok nmX4 hown hK hW.1 hW.2.1 hW.2.2 4 rfl rfl 7 (by decide) (hta _ hk) (fun _ h9 => h9) rfl (by decide +kernel) rfl rfl (Nat.le_of_ble_eq_true rfl) hd2 (fun H locs hP hD hS => ?_)
    exact kk gm H locs ⟨hP, hD, hS⟩
  · have hcon := c_grown_new l kw_arrI ha (tys := tyX cI cJ cZ cR) (D := D) (st := st) rfl H.size need hg g1 g2
    generalize hgw : gwn (gN t 407) need = nd at *
    have hc : mC t (nwI t 407 nd.toNatClampNeg (fun _ => 0)) = 1 := by simp [mC, nwI, va_up, gN]
    have hs : mS t (nwI t 407 nd.toNatClampNeg (fun _ => 0)) = nd.toNatClampNeg := by simp [mS, nwI, va_up, gN]
    have hf1 : mC t0 t + 1 ≤ mC t0 tE := by have := hf.1; rw [hc] at this; exact this
    have hf2 : mS t0 t + nd.toNatClampNeg ≤ mS t0 tE := by have := hf.2; rw [hs] at this; exact this
    refine bkR C0 hW (runSX (As := [.ref (gm 407), .int need]) (rest := .ref (am 2004) :: rest) C0 hW hcon hcal rfl rfl ⟨rfl, rfl⟩ ⟨hF, hL⟩ hrest' hls hd1 ⟨hf1, hf2⟩) (fun a w' H locs hp hW => ?_)
    subst hp
    refine va_put (D := D) (ci := 4) (ty := .array .int) (v := .ref a) (C := RX4) (T := TX4) (N := 12) (fs := fsX4 am gm t) hx hb hta inA4 tyX4 tyX4_ok nmX4 hown hK hW.1 hW.2.1 hW.2.2 4 rfl rfl 7 (by decide) (hta _ hk) (fun _ h9 => h9) rfl (by decide +kernel) rfl rfl (Nat.le_of_ble_eq_true rfl) hd2 (fun H locs hP hD hS => ?_)
    have hP' := hP.sub (ws' := wX cI cJ cZ cR am (va_up gm 407 a) (nwI t 407 nd.toNatClampNeg (fun _ => 0))) [0, 1, 2, 3, 4, 5, 6, 7, 8, 9, 10, 11, 12, 13, 14, 15, 16, 17, 18, 19, 20, 21, 22, 23, 24, 25, 26, 27, 28, 29, 30, 31, 32, 33, 71, 35, 36, 37, 38, 39, 40, 41, 42, 43, 44, 45, 46, 47, 48, 49, 50, 51, 52, 53, 54, 55, 56, 57, 58, 59, 60, 61, 62, 63, 64, 65, 66, 67, 68, 69, 70] rfl
    have hD' := hD.sub (ws' := wX cI cJ cZ cR am (va_up gm 407 a) (nwI t 407 nd.toNatClampNeg (fun _ => 0))) [0, 1, 2, 3, 4, 5, 6, 7, 8, 9, 10, 11, 12, 13, 14, 15, 16, 17, 18, 19, 20, 21, 22, 23, 24, 25, 26, 27, 28, 29, 30, 31, 32, 33, 71, 35, 36, 37, 38, 39, 40, 41, 42, 43, 44, 45, 46, 47, 48, 49, 50, 51, 52, 53, 54, 55, 56, 57, 58, 59, 60, 61, 62, 63, 64, 65, 66, 67, 68, 69, 70] (by decide) rfl
    refine W.widen ?_ ?_ (kk (va_up gm 407 a) H locs ⟨hP', hD', hS⟩)
    · have := hmle.1; have := h0.1; have := hc; show gN t 9000 - gN t0 9000 + 1 ≤ gN (nwI t 407 nd.toNatClampNeg (fun _ => 0)) 9000 - gN t0 9000; unfold mC at hc; omega
    · have := hmle.2; have := h0.2; have := hs; show gN t 9001 - gN t0 9001 + nd.toNatClampNeg ≤ gN (nwI t 407 nd.toNatClampNeg (fun _ => 0)) 9001 - gN t0 9001; unfold mS at hs; omega
set_option maxHeartbeats 4000000 in
set_option maxRecDepth 100000 in
theorem xGROW_906 {p : Program} {l : Launch} {e : Env} {s : State} {m : MethodId} {args : Array Value} {below : List Frame} {meth : Method} {c : Code} {H : Heap} {locs : List Loc} {Q : State → Prop} {pc : Nat} {ls : Array Slot} {cc : ByteArray} {own : String} {nL ix ig : Nat} {D : va_G} {cI cJ cZ cR : ClassId} {am gm : Nat → Nat} {st : Nat} {A : Nat → Prop} {ret : Option FieldType} {rest : List Value} {F L : Nat} {t0 t t1 tE : St} {need : Int32}
    (C0 : cxX p s m args meth c cc own nL ret D (tyX cI cJ cZ cR) st A) (hcal : calS own ig yX2_grown cX2_grown 2 (some (.array .int)) 2) (hk : Cond.fieldLink own ix "GuardNets$Watch" "ends" "[I" ∈ wsAll) (hls : ls.size = nL) (hW : wl D A s (wX cI cJ cZ cR am gm t) H locs) (hg : grwR t 906 need t1) (h0 : mle t0 t) (hE : mle t1 tE) (hF : 2 ≤ F) (hL : 42 ≤ L) (hrest : (rest.map fun v => v.category).sum + 1 ≤ 8) (hd1 : decode cc pc = .ok (.invokestatic ig, 3)) (hd2 : decode cc (pc + 3) = .ok (.putfield ix, 3))
    (kk : ∀ (gm : Nat → Nat) (H : Heap) (locs : List Loc), wl D A s (wX cI cJ cZ cR am gm t1) H locs → W p l e (rmA F L t0 tE) s m args below meth c H locs (mC t0 t1) (mS t0 t1) Q (F0 m (pc + 6) ls rest)) : W p l e (rmA F L t0 tE) s m args below meth c H locs (mC t0 t) (mS t0 t) Q (F0 m pc ls (.int need :: .ref (gm 906) :: .ref (am 2009) :: rest)) := by
  have ha : (wX cI cJ cZ cR am gm t)[62]? = some (gm 906, .inl (cI, gN t 906, .inl (gA t 906))) := rfl
  have hrs : ([.ref (am 2009)] ++ rest : List Value).map (fun v => v.category) = 1 :: rest.map (fun v => v.category) := rfl
  have hrest' : ((.ref (am 2009) :: rest : List Value).map fun v => v.category).sum ≤ 8 := by
    show 1 + (rest.map fun v => v.category).sum ≤ 8
    omega
  have hmle := hg.mle
  have hR := hR_of (t0 := t0) (hmle.trans hE)
  have hf := hf_of h0 hmle hE
  obtain ⟨hx, hb, hret, hml, hown, hta, hlk, hK, hA⟩ := id C0.1
  rcases hg with ⟨hg, rfl⟩ | ⟨hg, g1, g2, rfl⟩
  · refine bkR C0 hW (runSX (As := [.ref (gm 906), .int need]) (rest := .ref (am 2009) :: rest) C0 hW (c_grown_old l ha rfl _ need hg) hcal rfl rfl ⟨rfl, rfl⟩ ⟨hF, hL⟩ hrest' hls hd1 hR) (fun a w' H locs hp hW => ?_)
    obtain ⟨rfl, rfl⟩ := hp
    refine va_put (D := D) (ci := 9) (ty := .array .int) (v := .ref (gm 906)) (C := RX9) (T := TX9) (N := 8) (fs := fsX9 am gm t1) hx hb hta inA9 tyX9 tyX9_ok nmX9 hown hK hW.1 hW.2.1 hW.2.2 9 rfl rfl 6 (by decide) (hta _ hk) (fun _ h9 => h9) rfl (by decide +kernel) rfl rfl (Nat.le_of_ble_eq_true rfl) hd2 (fun H locs hP hD hS => ?_)
    exact kk gm H locs ⟨hP, hD, hS⟩
  · have hcon := c_grown_new l kw_arrI ha (tys := tyX cI cJ cZ cR) (D := D) (st := st) rfl H.size need hg g1 g2
    generalize hgw : gwn (gN t 906) need = nd at *
    have hc : mC t (nwI t 906 nd.toNatClampNeg (fun _ => 0)) = 1 := by simp [mC, nwI, va_up, gN]
    have hs : mS t (nwI t 906 nd.toNatClampNeg (fun _ => 0)) = nd.toNatClampNeg := by simp [mS, nwI, va_up, gN]
    have hf1 : mC t0 t + 1 ≤ mC t0 tE := by have := hf.1; rw [hc] at this; exact this
    have hf2 : mS t0 t + nd.toNatClampNeg ≤ mS t0 tE := by have := hf.2; rw [hs] at this; exact this
    refine bkR C0 hW (runSX (As := [.ref (gm 906), .int need]) (rest := .ref (am 2009) :: rest) C0 hW hcon hcal rfl rfl ⟨rfl, rfl⟩ ⟨hF, hL⟩ hrest' hls hd1 ⟨hf1, hf2⟩) (fun a w' H locs hp hW => ?_)
    subst hp
    refine va_put (D := D) (ci := 9) (ty := .array .int) (v := .ref a) (C := RX9) (T := TX9) (N := 8) (fs := fsX9 am gm t) hx hb hta inA9 tyX9 tyX9_ok nmX9 hown hK hW.1 hW.2.1 hW.2.2 9 rfl rfl 6 (by decide) (hta _ hk) (fun _ h9 => h9) rfl (by decide +kernel) rfl rfl (Nat.le_of_ble_eq_true rfl) hd2 (fun H locs hP hD hS => ?_)
    have hP' := hP.sub (ws' := wX cI cJ cZ cR am (va_up gm 906 a) (nwI t 906 nd.toNatClampNeg (fun _ => 0))) [0, 1, 2, 3, 4, 5, 6, 7, 8, 9, 10, 11, 12, 13, 14, 15, 16, 17, 18, 19, 20, 21, 22, 23, 24, 25, 26, 27, 28, 29, 30, 31, 32, 33, 34, 35, 36, 37, 38, 39, 40, 41, 42, 43, 44, 45, 46, 47, 48, 49, 50, 51, 52, 53, 54, 55, 56, 57, 58, 59, 60, 61, 71, 63, 64, 65, 66, 67, 68, 69, 70] rfl
    have hD' := hD.sub (ws' := wX cI cJ cZ cR am (va_up gm 906 a) (nwI t 906 nd.toNatClampNeg (fun _ => 0))) [0, 1, 2, 3, 4, 5, 6, 7, 8, 9, 10, 11, 12, 13, 14, 15, 16, 17, 18, 19, 20, 21, 22, 23, 24, 25, 26, 27, 28, 29, 30, 31, 32, 33, 34, 35, 36, 37, 38, 39, 40, 41, 42, 43, 44, 45, 46, 47, 48, 49, 50, 51, 52, 53, 54, 55, 56, 57, 58, 59, 60, 61, 71, 63, 64, 65, 66, 67, 68, 69, 70] (by decide) rfl
    refine W.widen ?_ ?_ (kk (va_up gm 906 a) H locs ⟨hP', hD', hS⟩)
    · have := hmle.1; have := h0.1; have := hc; show gN t 9000 - gN t0 9000 + 1 ≤ gN (nwI t 906 nd.toNatClampNeg (fun _ => 0)) 9000 - gN t0 9000; unfold mC at hc; omega
    · have := hmle.2; have := h0.2; have := hs; show gN t 9001 - gN t0 9001 + nd.toNatClampNeg ≤ gN (nwI t 906 nd.toNatClampNeg (fun _ => 0)) 9001 - gN t0 9001; unfold mS at hs; omega
set_option maxHeartbeats 4000000 in
set_option maxRecDepth 100000 in
/-- Arrays.copyOf of row 403, to another length -/
theorem c_copyOf_403 (l : Launch) {D : va_G} {cI cJ cZ cR : ClassId} {am gm : Nat → Nat} {st : Nat} (sz : Nat) (t : St) (n : Int32) (h0 : ¬ n = Int32.ofNat (gN t 403)) (h1 : ¬ n < 0) (h2 : n.toNatClampNeg ≤ 134217728) (h4 : gN t 403 ≤ 134217728) : Met l yJ7_copyOf_59c91 (.code yJ7_copyOf_59c91 cJ7_copyOf_59c91 3 (some (.array .int)) :: wsAll) ({ frames := 1, cells := 1, slots := n.toNatClampNeg, locals := 60 }) (va_Pc [.ref (gm 403), .int n] (prX D (tyX cI cJ cZ cR) (wX cI cJ cZ cR am gm t) sz st)) (va_Qr (fun (_ : va_W) => True) (fun u ra T => (u = wX cI cJ cZ cR am gm t ++ [(ra, .inl (cI, n.toNatClampNeg, .inl (va_cpy (gA t 403) (fun _ => 0) 0 0 (if n < Int32.ofNat (gN t 403) then n else Int32.ofNat (gN t 403)).toNatClampNeg)))]) ∧ poW D (tyX cI cJ cZ cR) u (va_A (wX cI cJ cZ cR am gm t) sz) T) (va_A (wX cI cJ cZ cR am gm t) sz)) 1 n.toNatClampNeg (va_A (wX cI cJ cZ cR am gm t) sz) := by
  refine Met.ofW (cc := cJ7_copyOf_59c91) (maxL := 3) (ret := (some (.array .int))) (by decide) rfl ?_
  intro p e s m args below meth c s₁ B hml hv
  obtain ⟨rfl, ⟨hsz, hP, hK, hD0⟩, hsx⟩ := hv
  have hx := B.exec
  have hb := B.bytes
  have hts := atoms_spec (ws := (.code yJ7_copyOf_59c91 cJ7_copyOf_59c91 3 (some (.array .int)) :: wsAll)) B.pre
  have hta := fun w h => hts w (List.mem_cons_of_mem _ h)
  have hown : s.vm.findClass RJ7 = some m.cls := findClass_of_methodNamed B.named
  have hlocks := B.notSynchronized
  subst hsz
  have hD := hD0.self (sz := s.heap.size)
  generalize hAe : va_A (wX cI cJ cZ cR am gm t) s.heap.size = A at hD ⊢
  have hA : ∀ q : Nat, s.heap.size ≤ q → A q := fun q h => by rw [← hAe]; exact Or.inr h
  have C0 : cxX p s m ([.ref (gm 403), .int n].toArray) meth c cJ7_copyOf_59c91 RJ7 3 (some (.array .int)) D (tyX cI cJ cZ cR) st A := ⟨⟨hx, hb, B.returns, hml, hown, hta, hlocks, hK, hA⟩, by rw [← hAe]; exact hsx⟩
  have hW : wl D A s (wX cI cJ cZ cR am gm t) s.heap [] := ⟨hP, hD, va_S.rf⟩
  have hl := lv_entry [.ref (gm 403), .int n] (n := 3) (Nat.le_of_ble_eq_true rfl)
  rw [lg_entry_eq]
  generalize (lg_sl [.ref (gm 403), .int n] ++ List.replicate (3 - (lg_sl [.ref (gm 403), .int n]).length) Slot.unset).toArray = ls at hl ⊢
  have hl : lv_has ls 3 [(0, .ref (gm 403)), (1, .int n)] := hl
  obtain ⟨m1, m2, m3⟩ := cpy_ok h1 h4
  refine lv_iload_n hx hb dJ7_copyOf_59c91_0 rfl (lv_at hl 1 rfl) ?_
  refine lv_aload_n hx hb dJ7_copyOf_59c91_1 rfl (lv_at hl 0 rfl) ?_
  refine xLEN_403 C0 hW dJ7_copyOf_59c91_2 ?_
  refine lv_icmp_ne (tgt := 14) hx hb dJ7_copyOf_59c91_3 (by decide) (fun c1 => ?_) (fun c1 => absurd c1 h0)
  refine lv_iload_n hx hb dJ7_copyOf_59c91_14 rfl (lv_at hl 1 rfl) ?_
  refine xNEWI C0 kw_arrI rfl hW h1 h2 (Nat.le_of_eq (Nat.zero_add 1)) (Nat.le_of_eq (Nat.zero_add _)) dJ7_copyOf_59c91_15 (fun q H hW => ?_)
  refine W.widen (k := 1) (n := n.toNatClampNeg) (Nat.le_of_eq (Nat.zero_add 1)) (Nat.le_of_eq (Nat.zero_add _)) ?_
  refine lv_astore_n (lv' := [(2, .ref q), (0, .ref (gm 403)), (1, .int n)]) hx hb dJ7_copyOf_59c91_17 rfl hl (by decide) rfl (fun ls hl => ?_)
  refine lv_aload_n hx hb dJ7_copyOf_59c91_18 rfl (lv_at hl 1 rfl) ?_
  refine lv_iconst (v := (0 : Int32)) hx hb dJ7_copyOf_59c91_19 (by decide) ?_
  refine lv_aload_n hx hb dJ7_copyOf_59c91_20 rfl (lv_at hl 0 rfl) ?_
  refine lv_iconst (v := (0 : Int32)) hx hb dJ7_copyOf_59c91_21 (by decide) ?_
  refine lv_aload_n hx hb dJ7_copyOf_59c91_22 rfl (lv_at hl 1 rfl) ?_
  refine va_alen hx hb hK hW.1 30 0 rfl rfl rfl dJ7_copyOf_59c91_23 ?_
  refine lv_iload_n hx hb dJ7_copyOf_59c91_24 rfl (lv_at hl 2 rfl) ?_
  refine va_mmin (rest := [.int 0, .ref q, .int 0, .ref (gm 403)]) hx hb (hml.trans hl.1.symm) hown (hta _ kw_747) (hta _ kw_748) (hta _ kw_136) (hta _ kw_749) (Nat.le_of_ble_eq_true rfl) (Nat.le_of_ble_eq_true rfl) (Nat.le_refl _) (Nat.le_refl _) dJ7_copyOf_59c91_25 ?_
  refine va_copyi (rest := []) (ty := .int) hx hb (hml.trans hl.1.symm) hown (hta _ kw_750) (hta _ kw_752) (hta _ kw_751) (hta _ kw_137) hK hW.1 hW.2.1 hW.2.2 30 71 0 0 rfl rfl rfl rfl rfl (by decide) (by decide) m1 (by rw [show (0 : Int32).toNatClampNeg = 0 from rfl, Nat.zero_add]; exact m2) (by rw [show (0 : Int32).toNatClampNeg = 0 from rfl, Nat.zero_add]; exact m3) (fun _ _ => rfl) (Nat.le_of_ble_eq_true rfl) (Nat.le_of_ble_eq_true rfl) dJ7_copyOf_59c91_28 (fun H locs hP hD hS => ?_)
  refine lv_aload_n hx hb dJ7_copyOf_59c91_31 rfl (lv_at hl 0 rfl) ?_
  exact rtR (w' := wX cI cJ cZ cR am gm t ++ [(q, .inl (cI, n.toNatClampNeg, .inl (va_cpy (gA t 403) (fun _ => 0) 0 0 (if n < Int32.ofNat (gN t 403) then n else Int32.ofNat (gN t 403)).toNatClampNeg)))]) C0 ⟨hP, hD, hS⟩ rfl dJ7_copyOf_59c91_32
set_option maxHeartbeats 4000000 in
set_option maxRecDepth 100000 in
theorem xCOPY_403 {p : Program} {l : Launch} {e : Env} {s : State} {m : MethodId} {args : Array Value} {below : List Frame} {meth : Method} {c : Code} {H : Heap} {locs : List Loc} {Q : State → Prop} {pc : Nat} {ls : Array Slot} {cc : ByteArray} {own : String} {nL ix ig : Nat} {D : va_G} {cI cJ cZ cR : ClassId} {am gm : Nat → Nat} {st : Nat} {A : Nat → Prop} {ret : Option FieldType} {rest : List Value} {F L : Nat} {t0 t t1 tE : St} {n : Int32}
    (C0 : cxX p s m args meth c cc own nL ret D (tyX cI cJ cZ cR) st A) (hcal : calS own ig yJ7_copyOf_59c91 cJ7_copyOf_59c91 3 (some (.array .int)) 2) (hk : Cond.fieldLink own ix "GuardNets$Guards" "stops" "[I" ∈ wsAll) (hls : ls.size = nL) (hW : wl D A s (wX cI cJ cZ cR am gm t) H locs) (hg : cpyR t 403 n t1) (h0 : mle t0 t) (hE : mle t1 tE) (hF : 2 ≤ F) (hL : 82 ≤ L) (hrest : (rest.map fun v => v.category).sum + 1 ≤ 8) (hd1 : decode cc pc = .ok (.invokestatic ig, 3)) (hd2 : decode cc (pc + 3) = .ok (.putfield ix, 3))
    (kk : ∀ (gm : Nat → Nat) (H : Heap) (locs : List Loc), wl D A s (wX cI cJ cZ cR am gm t1) H locs → W p l e (rmA F L t0 tE) s m args below meth c H locs (mC t0 t1) (mS t0 t1) Q (F0 m (pc + 6) ls rest)) : W p l e (rmA F L t0 tE) s m args below meth c H locs (mC t0 t) (mS t0 t) Q (F0 m pc ls (.int n :: .ref (gm 403) :: .ref (am 2004) :: rest)) := by
  have hrest' : ((.ref (am 2004) :: rest : List Value).map fun v => v.category).sum ≤ 8 := by
    show 1 + (rest.map fun v => v.category).sum ≤ 8
    omega
  have hmle := hg.mle
  have hf := hf_of h0 hmle hE
  obtain ⟨hx, hb, hret, hml, hown, hta, hlk, hK, hA⟩ := id C0.1
  obtain ⟨g0, g1, g2, g3, rfl⟩ := hg
  generalize hfe : va_cpy (gA t 403) (fun _ => 0) 0 0 (if n < Int32.ofNat (gN t 403) then n else Int32.ofNat (gN t 403)).toNatClampNeg = fn at *
  have hc : mC t (nwI t 403 n.toNatClampNeg fn) = 1 := by simp [mC, nwI, va_up, gN]
  have hs : mS t (nwI t 403 n.toNatClampNeg fn) = n.toNatClampNeg := by simp [mS, nwI, va_up, gN]
  have hf1 : mC t0 t + 1 ≤ mC t0 tE := by have := hf.1; rw [hc] at this; exact this
  have hf2 : mS t0 t + n.toNatClampNeg ≤ mS t0 tE := by have := hf.2; rw [hs] at this; exact this
  have hcon := c_copyOf_403 l (D := D) (cI := cI) (cJ := cJ) (cZ := cZ) (cR := cR) (am := am) (gm := gm) (st := st) H.size t n g0 g1 g2 g3
  rw [hfe] at hcon
  refine bkR C0 hW (runSX (As := [.ref (gm 403), .int n]) (rest := .ref (am 2004) :: rest) C0 hW hcon hcal rfl rfl ⟨rfl, rfl⟩ ⟨hF, hL⟩ hrest' hls hd1 ⟨hf1, hf2⟩) (fun a w' H locs hp hW => ?_)
  subst hp
  refine va_put (D := D) (ci := 4) (ty := .array .int) (v := .ref a) (C := RX4) (T := TX4) (N := 12) (fs := fsX4 am gm t) hx hb hta inA4 tyX4 tyX4_ok nmX4 hown hK hW.1 hW.2.1 hW.2.2 4 rfl rfl 3 (by decide) (hta _ hk) (fun _ h9 => h9) rfl (by decide +kernel) rfl rfl (Nat.le_of_ble_eq_true rfl) hd2 (fun H locs hP hD hS => ?_)
  have hP' := hP.sub (ws' := wX cI cJ cZ cR am (va_up gm 403 a) (nwI t 403 n.toNatClampNeg fn)) [0, 1, 2, 3, 4, 5, 6, 7, 8, 9, 10, 11, 12, 13, 14, 15, 16, 17, 18, 19, 20, 21, 22, 23, 24, 25, 26, 27, 28, 29, 71, 31, 32, 33, 34, 35, 36, 37, 38, 39, 40, 41, 42, 43, 44, 45, 46, 47, 48, 49, 50, 51, 52, 53, 54, 55, 56, 57, 58, 59, 60, 61, 62, 63, 64, 65, 66, 67, 68, 69, 70] rfl
  have hD' := hD.sub (ws' := wX cI cJ cZ cR am (va_up gm 403 a) (nwI t 403 n.toNatClampNeg fn)) [0, 1, 2, 3, 4, 5, 6, 7, 8, 9, 10, 11, 12, 13, 14, 15, 16, 17, 18, 19, 20, 21, 22, 23, 24, 25, 26, 27, 28, 29, 71, 31, 32, 33, 34, 35, 36, 37, 38, 39, 40, 41, 42, 43, 44, 45, 46, 47, 48, 49, 50, 51, 52, 53, 54, 55, 56, 57, 58, 59, 60, 61, 62, 63, 64, 65, 66, 67, 68, 69, 70] (by decide) rfl
  refine W.widen ?_ ?_ (kk (va_up gm 403 a) H locs ⟨hP', hD', hS⟩)
  · have := hmle.1; have := h0.1; show gN t 9000 - gN t0 9000 + 1 ≤ gN (nwI t 403 n.toNatClampNeg fn) 9000 - gN t0 9000; unfold mC at hc; omega
  · have := hmle.2; have := h0.2; show gN t 9001 - gN t0 9001 + n.toNatClampNeg ≤ gN (nwI t 403 n.toNatClampNeg fn) 9001 - gN t0 9001; unfold mS at hs; omega
set_option maxHeartbeats 4000000 in
set_option maxRecDepth 100000 in
/-- Arrays.copyOf of row 404, to another length -/
theorem c_copyOf_404 (l : Launch) {D : va_G} {cI cJ cZ cR : ClassId} {am gm : Nat → Nat} {st : Nat} (sz : Nat) (t : St) (n : Int32) (h0 : ¬ n = Int32.ofNat (gN t 404)) (h1 : ¬ n < 0) (h2 : n.toNatClampNeg ≤ 134217728) (h4 : gN t 404 ≤ 134217728) : Met l yJ7_copyOf_59c91 (.code yJ7_copyOf_59c91 cJ7_copyOf_59c91 3 (some (.array .int)) :: wsAll) ({ frames := 1, cells := 1, slots := n.toNatClampNeg, locals := 60 }) (va_Pc [.ref (gm 404), .int n] (prX D (tyX cI cJ cZ cR) (wX cI cJ cZ cR am gm t) sz st)) (va_Qr (fun (_ : va_W) => True) (fun u ra T => (u = wX cI cJ cZ cR am gm t ++ [(ra, .inl (cI, n.toNatClampNeg, .inl (va_cpy (gA t 404) (fun _ => 0) 0 0 (if n < Int32.ofNat (gN t 404) then n else Int32.ofNat (gN t 404)).toNatClampNeg)))]) ∧ poW D (tyX cI cJ cZ cR) u (va_A (wX cI cJ cZ cR am gm t) sz) T) (va_A (wX cI cJ cZ cR am gm t) sz)) 1 n.toNatClampNeg (va_A (wX cI cJ cZ cR am gm t) sz) := by
  refine Met.ofW (cc := cJ7_copyOf_59c91) (maxL := 3) (ret := (some (.array .int))) (by decide) rfl ?_
  intro p e s m args below meth c s₁ B hml hv
  obtain ⟨rfl, ⟨hsz, hP, hK, hD0⟩, hsx⟩ := hv
  have hx := B.exec
  have hb := B.bytes
  have hts := atoms_spec (ws := (.code yJ7_copyOf_59c91 cJ7_copyOf_59c91 3 (some (.array .int)) :: wsAll)) B.pre
  have hta := fun w h => hts w (List.mem_cons_of_mem _ h)
  have hown : s.vm.findClass RJ7 = some m.cls := findClass_of_methodNamed B.named
  have hlocks := B.notSynchronized
  subst hsz
  have hD := hD0.self (sz := s.heap.size)
  generalize hAe : va_A (wX cI cJ cZ cR am gm t) s.heap.size = A at hD ⊢
  have hA : ∀ q : Nat, s.heap.size ≤ q → A q := fun q h => by rw [← hAe]; exact Or.inr h
  have C0 : cxX p s m ([.ref (gm 404), .int n].toArray) meth c cJ7_copyOf_59c91 RJ7 3 (some (.array .int)) D (tyX cI cJ cZ cR) st A := ⟨⟨hx, hb, B.returns, hml, hown, hta, hlocks, hK, hA⟩, by rw [← hAe]; exact hsx⟩
  have hW : wl D A s (wX cI cJ cZ cR am gm t) s.heap [] := ⟨hP, hD, va_S.rf⟩
  have hl := lv_entry [.ref (gm 404), .int n] (n := 3) (Nat.le_of_ble_eq_true rfl)
  rw [lg_entry_eq]
  generalize (lg_sl [.ref (gm 404), .int n] ++ List.replicate (3 - (lg_sl [.ref (gm 404), .int n]).length) Slot.unset).toArray = ls at hl ⊢
  have hl : lv_has ls 3 [(0, .ref (gm 404)), (1, .int n)] := hl
  obtain ⟨m1, m2, m3⟩ := cpy_ok h1 h4
  refine lv_iload_n hx hb dJ7_copyOf_59c91_0 rfl (lv_at hl 1 rfl) ?_
  refine lv_aload_n hx hb dJ7_copyOf_59c91_1 rfl (lv_at hl 0 rfl) ?_
  refine xLEN_404 C0 hW dJ7_copyOf_59c91_2 ?_
  refine lv_icmp_ne (tgt := 14) hx hb dJ7_copyOf_59c91_3 (by decide) (fun c1 => ?_) (fun c1 => absurd c1 h0)
  refine lv_iload_n hx hb dJ7_copyOf_59c91_14 rfl (lv_at hl 1 rfl) ?_
  refine xNEWI C0 kw_arrI rfl hW h1 h2 (Nat.le_of_eq (Nat.zero_add 1)) (Nat.le_of_eq (Nat.zero_add _)) dJ7_copyOf_59c91_15 (fun q H hW => ?_)
  refine W.widen (k := 1) (n := n.toNatClampNeg) (Nat.le_of_eq (Nat.zero_add 1)) (Nat.le_of_eq (Nat.zero_add _)) ?_
  refine lv_astore_n (lv' := [(2, .ref q), (0, .ref (gm 404)), (1, .int n)]) hx hb dJ7_copyOf_59c91_17 rfl hl (by decide) rfl (fun ls hl => ?_)
  refine lv_aload_n hx hb dJ7_copyOf_59c91_18 rfl (lv_at hl 1 rfl) ?_
  refine lv_iconst (v := (0 : Int32)) hx hb dJ7_copyOf_59c91_19 (by decide) ?_
  refine lv_aload_n hx hb dJ7_copyOf_59c91_20 rfl (lv_at hl 0 rfl) ?_
  refine lv_iconst (v := (0 : Int32)) hx hb dJ7_copyOf_59c91_21 (by decide) ?_
  refine lv_aload_n hx hb dJ7_copyOf_59c91_22 rfl (lv_at hl 1 rfl) ?_
  refine va_alen hx hb hK hW.1 31 0 rfl rfl rfl dJ7_copyOf_59c91_23 ?_
  refine lv_iload_n hx hb dJ7_copyOf_59c91_24 rfl (lv_at hl 2 rfl) ?_
  refine va_mmin (rest := [.int 0, .ref q, .int 0, .ref (gm 404)]) hx hb (hml.trans hl.1.symm) hown (hta _ kw_747) (hta _ kw_748) (hta _ kw_136) (hta _ kw_749) (Nat.le_of_ble_eq_true rfl) (Nat.le_of_ble_eq_true rfl) (Nat.le_refl _) (Nat.le_refl _) dJ7_copyOf_59c91_25 ?_
  refine va_copyi (rest := []) (ty := .int) hx hb (hml.trans hl.1.symm) hown (hta _ kw_750) (hta _ kw_752) (hta _ kw_751) (hta _ kw_137) hK hW.1 hW.2.1 hW.2.2 31 71 0 0 rfl rfl rfl rfl rfl (by decide) (by decide) m1 (by rw [show (0 : Int32).toNatClampNeg = 0 from rfl, Nat.zero_add]; exact m2) (by rw [show (0 : Int32).toNatClampNeg = 0 from rfl, Nat.zero_add]; exact m3) (fun _ _ => rfl) (Nat.le_of_ble_eq_true rfl) (Nat.le_of_ble_eq_true rfl) dJ7_copyOf_59c91_28 (fun H locs hP hD hS => ?_)
  refine lv_aload_n hx hb dJ7_copyOf_59c91_31 rfl (lv_at hl 0 rfl) ?_
  exact rtR (w' := wX cI cJ cZ cR am gm t ++ [(q, .inl (cI, n.toNatClampNeg, .inl (va_cpy (gA t 404) (fun _ => 0) 0 0 (if n < Int32.ofNat (gN t 404) then n else Int32.ofNat (gN t 404)).toNatClampNeg)))]) C0 ⟨hP, hD, hS⟩ rfl dJ7_copyOf_59c91_32
set_option maxHeartbeats 4000000 in
set_option maxRecDepth 100000 in
theorem xCOPY_404 {p : Program} {l : Launch} {e : Env} {s : State} {m : MethodId} {args : Array Value} {below : List Frame} {meth : Method} {c : Code} {H : Heap} {locs : List Loc} {Q : State → Prop} {pc : Nat} {ls : Array Slot} {cc : ByteArray} {own : String} {nL ix ig : Nat} {D : va_G} {cI cJ cZ cR : ClassId} {am gm : Nat → Nat} {st : Nat} {A : Nat → Prop} {ret : Option FieldType} {rest : List Value} {F L : Nat} {t0 t t1 tE : St} {n : Int32}
    (C0 : cxX p s m args meth c cc own nL ret D (tyX cI cJ cZ cR) st A) (hcal : calS own ig yJ7_copyOf_59c91 cJ7_copyOf_59c91 3 (some (.array .int)) 2) (hk : Cond.fieldLink own ix "GuardNets$Guards" "prices" "[I" ∈ wsAll) (hls : ls.size = nL) (hW : wl D A s (wX cI cJ cZ cR am gm t) H locs) (hg : cpyR t 404 n t1) (h0 : mle t0 t) (hE : mle t1 tE) (hF : 2 ≤ F) (hL : 82 ≤ L) (hrest : (rest.map fun v => v.category).sum + 1 ≤ 8) (hd1 : decode cc pc = .ok (.invokestatic ig, 3)) (hd2 : decode cc (pc + 3) = .ok (.putfield ix, 3))
    (kk : ∀ (gm : Nat → Nat) (H : Heap) (locs : List Loc), wl D A s (wX cI cJ cZ cR am gm t1) H locs → W p l e (rmA F L t0 tE) s m args below meth c H locs (mC t0 t1) (mS t0 t1) Q (F0 m (pc + 6) ls rest)) : W p l e (rmA F L t0 tE) s m args below meth c H locs (mC t0 t) (mS t0 t) Q (F0 m pc ls (.int n :: .ref (gm 404) :: .ref (am 2004) :: rest)) := by
  have hrest' : ((.ref (am 2004) :: rest : List Value).map fun v => v.category).sum ≤ 8 := by
    show 1 + (rest.map fun v => v.category).sum ≤ 8
    omega
  have hmle := hg.mle
  have hf := hf_of h0 hmle hE
  obtain ⟨hx, hb, hret, hml, hown, hta, hlk, hK, hA⟩ := id C0.1
  obtain ⟨g0, g1, g2, g3, rfl⟩ := hg
  generalize hfe : va_cpy (gA t 404) (fun _ => 0) 0 0 (if n < Int32.ofNat (gN t 404) then n else Int32.ofNat (gN t 404)).toNatClampNeg = fn at *
  have hc : mC t (nwI t 404 n.toNatClampNeg fn) = 1 := by simp [mC, nwI, va_up, gN]
  have hs : mS t (nwI t 404 n.toNatClampNeg fn) = n.toNatClampNeg := by simp [mS, nwI, va_up, gN]
  have hf1 : mC t0 t + 1 ≤ mC t0 tE := by have := hf.1; rw [hc] at this; exact this
  have hf2 : mS t0 t + n.toNatClampNeg ≤ mS t0 tE := by have := hf.2; rw [hs] at this; exact this
  have hcon := c_copyOf_404 l (D := D) (cI := cI) (cJ := cJ) (cZ := cZ) (cR := cR) (am := am) (gm := gm) (st := st) H.size t n g0 g1 g2 g3
  rw [hfe] at hcon
  refine bkR C0 hW (runSX (As := [.ref (gm 404), .int n]) (rest := .ref (am 2004) :: rest) C0 hW hcon hcal rfl rfl ⟨rfl, rfl⟩ ⟨hF, hL⟩ hrest' hls hd1 ⟨hf1, hf2⟩) (fun a w' H locs hp hW => ?_)
  subst hp
  refine va_put (D := D) (ci := 4) (ty := .array .int) (v := .ref a) (C := RX4) (T := TX4) (N := 12) (fs := fsX4 am gm t) hx hb hta inA4 tyX4 tyX4_ok nmX4 hown hK hW.1 hW.2.1 hW.2.2 4 rfl rfl 4 (by decide) (hta _ hk) (fun _ h9 => h9) rfl (by decide +kernel) rfl rfl (Nat.le_of_ble_eq_true rfl) hd2 (fun H locs hP hD hS => ?_)
  have hP' := hP.sub (ws' := wX cI cJ cZ cR am (va_up gm 404 a) (nwI t 404 n.toNatClampNeg fn)) [0, 1, 2, 3, 4, 5, 6, 7, 8, 9, 10, 11, 12, 13, 14, 15, 16, 17, 18, 19, 20, 21, 22, 23, 24, 25, 26, 27, 28, 29, 30, 71, 32, 33, 34, 35, 36, 37, 38, 39, 40, 41, 42, 43, 44, 45, 46, 47, 48, 49, 50, 51, 52, 53, 54, 55, 56, 57, 58, 59, 60, 61, 62, 63, 64, 65, 66, 67, 68, 69, 70] rfl
  have hD' := hD.sub (ws' := wX cI cJ cZ cR am (va_up gm 404 a) (nwI t 404 n.toNatClampNeg fn)) [0, 1, 2, 3, 4, 5, 6, 7, 8, 9, 10, 11, 12, 13, 14, 15, 16, 17, 18, 19, 20, 21, 22, 23, 24, 25, 26, 27, 28, 29, 30, 71, 32, 33, 34, 35, 36, 37, 38, 39, 40, 41, 42, 43, 44, 45, 46, 47, 48, 49, 50, 51, 52, 53, 54, 55, 56, 57, 58, 59, 60, 61, 62, 63, 64, 65, 66, 67, 68, 69, 70] (by decide) rfl
  refine W.widen ?_ ?_ (kk (va_up gm 404 a) H locs ⟨hP', hD', hS⟩)
  · have := hmle.1; have := h0.1; show gN t 9000 - gN t0 9000 + 1 ≤ gN (nwI t 404 n.toNatClampNeg fn) 9000 - gN t0 9000; unfold mC at hc; omega
  · have := hmle.2; have := h0.2; show gN t 9001 - gN t0 9001 + n.toNatClampNeg ≤ gN (nwI t 404 n.toNatClampNeg fn) 9001 - gN t0 9001; unfold mS at hs; omega
set_option maxHeartbeats 4000000 in
set_option maxRecDepth 100000 in
/-- Arrays.copyOf of row 608, to another length -/
theorem c_copyOf_608 (l : Launch) {D : va_G} {cI cJ cZ cR : ClassId} {am gm : Nat → Nat} {st : Nat} (sz : Nat) (t : St) (n : Int32) (h0 : ¬ n = Int32.ofNat (gN t 608)) (h1 : ¬ n < 0) (h2 : n.toNatClampNeg ≤ 134217728) (h4 : gN t 608 ≤ 134217728) : Met l yJ7_copyOf_59c91 (.code yJ7_copyOf_59c91 cJ7_copyOf_59c91 3 (some (.array .int)) :: wsAll) ({ frames := 1, cells := 1, slots := n.toNatClampNeg, locals := 60 }) (va_Pc [.ref (gm 608), .int n] (prX D (tyX cI cJ cZ cR) (wX cI cJ cZ cR am gm t) sz st)) (va_Qr (fun (_ : va_W) => True) (fun u ra T => (u = wX cI cJ cZ cR am gm t ++ [(ra, .inl (cI, n.toNatClampNeg, .inl (va_cpy (gA t 608) (fun _ => 0) 0 0 (if n < Int32.ofNat (gN t 608) then n else Int32.ofNat (gN t 608)).toNatClampNeg)))]) ∧ poW D (tyX cI cJ cZ cR) u (va_A (wX cI cJ cZ cR am gm t) sz) T) (va_A (wX cI cJ cZ cR am gm t) sz)) 1 n.toNatClampNeg (va_A (wX cI cJ cZ cR am gm t) sz) := by
  refine Met.ofW (cc := cJ7_copyOf_59c91) (maxL := 3) (ret := (some (.array .int))) (by decide) rfl ?_
  intro p e s m args below meth c s₁ B hml hv
  obtain ⟨rfl, ⟨hsz, hP, hK, hD0⟩, hsx⟩ := hv
  have hx := B.exec
  have hb := B.bytes
  have hts := atoms_spec (ws := (.code yJ7_copyOf_59c91 cJ7_copyOf_59c91 3 (some (.array .int)) :: wsAll)) B.pre
  have hta := fun w h => hts w (List.mem_cons_of_mem _ h)
  have hown : s.vm.findClass RJ7 = some m.cls := findClass_of_methodNamed B.named
  have hlocks := B.notSynchronized
  subst hsz
  have hD := hD0.self (sz := s.heap.size)
  generalize hAe : va_A (wX cI cJ cZ cR am gm t) s.heap.size = A at hD ⊢
  have hA : ∀ q : Nat, s.heap.size ≤ q → A q := fun q h => by rw [← hAe]; exact Or.inr h
  have C0 : cxX p s m ([.ref (gm 608), .int n].toArray) meth c cJ7_copyOf_59c91 RJ7 3 (some (.array .int)) D (tyX cI cJ cZ cR) st A := ⟨⟨hx, hb, B.returns, hml, hown, hta, hlocks, hK, hA⟩, by rw [← hAe]; exact hsx⟩
  have hW : wl D A s (wX cI cJ cZ cR am gm t) s.heap [] := ⟨hP, hD, va_S.rf⟩
  have hl := lv_entry [.ref (gm 608), .int n] (n := 3) (Nat.le_of_ble_eq_true rfl)
  rw [lg_entry_eq]
  generalize (lg_sl [.ref (gm 608), .int n] ++ List.replicate (3 - (lg_sl [.ref (gm 608), .int n]).length) Slot.unset).toArray = ls at hl ⊢
  have hl : lv_has ls 3 [(0, .ref (gm 608)), (1, .int n)] := hl
  obtain ⟨m1, m2, m3⟩ := cpy_ok h1 h4
  refine lv_iload_n hx hb dJ7_copyOf_59c91_0 rfl (lv_at hl 1 rfl) ?_
  refine lv_aload_n hx hb dJ7_copyOf_59c91_1 rfl (lv_at hl 0 rfl) ?_
  refine xLEN_608 C0 hW dJ7_copyOf_59c91_2 ?_
  refine lv_icmp_ne (tgt := 14) hx hb dJ7_copyOf_59c91_3 (by decide) (fun c1 => ?_) (fun c1 => absurd c1 h0)
  refine lv_iload_n hx hb dJ7_copyOf_59c91_14 rfl (lv_at hl 1 rfl) ?_
  refine xNEWI C0 kw_arrI rfl hW h1 h2 (Nat.le_of_eq (Nat.zero_add 1)) (Nat.le_of_eq (Nat.zero_add _)) dJ7_copyOf_59c91_15 (fun q H hW => ?_)
  refine W.widen (k := 1) (n := n.toNatClampNeg) (Nat.le_of_eq (Nat.zero_add 1)) (Nat.le_of_eq (Nat.zero_add _)) ?_
  refine lv_astore_n (lv' := [(2, .ref q), (0, .ref (gm 608)), (1, .int n)]) hx hb dJ7_copyOf_59c91_17 rfl hl (by decide) rfl (fun ls hl => ?_)
  refine lv_aload_n hx hb dJ7_copyOf_59c91_18 rfl (lv_at hl 1 rfl) ?_
  refine lv_iconst (v := (0 : Int32)) hx hb dJ7_copyOf_59c91_19 (by decide) ?_
  refine lv_aload_n hx hb dJ7_copyOf_59c91_20 rfl (lv_at hl 0 rfl) ?_
  refine lv_iconst (v := (0 : Int32)) hx hb dJ7_copyOf_59c91_21 (by decide) ?_
  refine lv_aload_n hx hb dJ7_copyOf_59c91_22 rfl (lv_at hl 1 rfl) ?_
  refine va_alen hx hb hK hW.1 44 0 rfl rfl rfl dJ7_copyOf_59c91_23 ?_
  refine lv_iload_n hx hb dJ7_copyOf_59c91_24 rfl (lv_at hl 2 rfl) ?_
  refine va_mmin (rest := [.int 0, .ref q, .int 0, .ref (gm 608)]) hx hb (hml.trans hl.1.symm) hown (hta _ kw_747) (hta _ kw_748) (hta _ kw_136) (hta _ kw_749) (Nat.le_of_ble_eq_true rfl) (Nat.le_of_ble_eq_true rfl) (Nat.le_refl _) (Nat.le_refl _) dJ7_copyOf_59c91_25 ?_
  refine va_copyi (rest := []) (ty := .int) hx hb (hml.trans hl.1.symm) hown (hta _ kw_750) (hta _ kw_752) (hta _ kw_751) (hta _ kw_137) hK hW.1 hW.2.1 hW.2.2 44 71 0 0 rfl rfl rfl rfl rfl (by decide) (by decide) m1 (by rw [show (0 : Int32).toNatClampNeg = 0 from rfl, Nat.zero_add]; exact m2) (by rw [show (0 : Int32).toNatClampNeg = 0 from rfl, Nat.zero_add]; exact m3) (fun _ _ => rfl) (Nat.le_of_ble_eq_true rfl) (Nat.le_of_ble_eq_true rfl) dJ7_copyOf_59c91_28 (fun H locs hP hD hS => ?_)
  refine lv_aload_n hx hb dJ7_copyOf_59c91_31 rfl (lv_at hl 0 rfl) ?_
  exact rtR (w' := wX cI cJ cZ cR am gm t ++ [(q, .inl (cI, n.toNatClampNeg, .inl (va_cpy (gA t 608) (fun _ => 0) 0 0 (if n < Int32.ofNat (gN t 608) then n else Int32.ofNat (gN t 608)).toNatClampNeg)))]) C0 ⟨hP, hD, hS⟩ rfl dJ7_copyOf_59c91_32
set_option maxHeartbeats 4000000 in
set_option maxRecDepth 100000 in
theorem xCOPY_608 {p : Program} {l : Launch} {e : Env} {s : State} {m : MethodId} {args : Array Value} {below : List Frame} {meth : Method} {c : Code} {H : Heap} {locs : List Loc} {Q : State → Prop} {pc : Nat} {ls : Array Slot} {cc : ByteArray} {own : String} {nL ix ig : Nat} {D : va_G} {cI cJ cZ cR : ClassId} {am gm : Nat → Nat} {st : Nat} {A : Nat → Prop} {ret : Option FieldType} {rest : List Value} {F L : Nat} {t0 t t1 tE : St} {n : Int32}
    (C0 : cxX p s m args meth c cc own nL ret D (tyX cI cJ cZ cR) st A) (hcal : calS own ig yJ7_copyOf_59c91 cJ7_copyOf_59c91 3 (some (.array .int)) 2) (hk : Cond.fieldLink own ix "GuardNets$Nets" "parts" "[I" ∈ wsAll) (hls : ls.size = nL) (hW : wl D A s (wX cI cJ cZ cR am gm t) H locs) (hg : cpyR t 608 n t1) (h0 : mle t0 t) (hE : mle t1 tE) (hF : 2 ≤ F) (hL : 82 ≤ L) (hrest : (rest.map fun v => v.category).sum + 1 ≤ 8) (hd1 : decode cc pc = .ok (.invokestatic ig, 3)) (hd2 : decode cc (pc + 3) = .ok (.putfield ix, 3))
    (kk : ∀ (gm : Nat → Nat) (H : Heap) (locs : List Loc), wl D A s (wX cI cJ cZ cR am gm t1) H locs → W p l e (rmA F L t0 tE) s m args below meth c H locs (mC t0 t1) (mS t0 t1) Q (F0 m (pc + 6) ls rest)) : W p l e (rmA F L t0 tE) s m args below meth c H locs (mC t0 t) (mS t0 t) Q (F0 m pc ls (.int n :: .ref (gm 608) :: .ref (am 2006) :: rest)) := by
  have hrest' : ((.ref (am 2006) :: rest : List Value).map fun v => v.category).sum ≤ 8 := by
    show 1 + (rest.map fun v => v.category).sum ≤ 8
    omega
  have hmle := hg.mle
  have hf := hf_of h0 hmle hE
  obtain ⟨hx, hb, hret, hml, hown, hta, hlk, hK, hA⟩ := id C0.1
  obtain ⟨g0, g1, g2, g3, rfl⟩ := hg
  generalize hfe : va_cpy (gA t 608) (fun _ => 0) 0 0 (if n < Int32.ofNat (gN t 608) then n else Int32.ofNat (gN t 608)).toNatClampNeg = fn at *
  have hc : mC t (nwI t 608 n.toNatClampNeg fn) = 1 := by simp [mC, nwI, va_up, gN]
  have hs : mS t (nwI t 608 n.toNatClampNeg fn) = n.toNatClampNeg := by simp [mS, nwI, va_up, gN]
  have hf1 : mC t0 t + 1 ≤ mC t0 tE := by have := hf.1; rw [hc] at this; exact this
  have hf2 : mS t0 t + n.toNatClampNeg ≤ mS t0 tE := by have := hf.2; rw [hs] at this; exact this
  have hcon := c_copyOf_608 l (D := D) (cI := cI) (cJ := cJ) (cZ := cZ) (cR := cR) (am := am) (gm := gm) (st := st) H.size t n g0 g1 g2 g3
  rw [hfe] at hcon
  refine bkR C0 hW (runSX (As := [.ref (gm 608), .int n]) (rest := .ref (am 2006) :: rest) C0 hW hcon hcal rfl rfl ⟨rfl, rfl⟩ ⟨hF, hL⟩ hrest' hls hd1 ⟨hf1, hf2⟩) (fun a w' H locs hp hW => ?_)
  subst hp
  refine va_put (D := D) (ci := 6) (ty := .array .int) (v := .ref a) (C := RX6) (T := TX6) (N := 14) (fs := fsX6 am gm t) hx hb hta inA6 tyX6 tyX6_ok nmX6 hown hK hW.1 hW.2.1 hW.2.2 6 rfl rfl 8 (by decide) (hta _ hk) (fun _ h9 => h9) rfl (by decide +kernel) rfl rfl (Nat.le_of_ble_eq_true rfl) hd2 (fun H locs hP hD hS => ?_)
  have hP' := hP.sub (ws' := wX cI cJ cZ cR am (va_up gm 608 a) (nwI t 608 n.toNatClampNeg fn)) [0, 1, 2, 3, 4, 5, 6, 7, 8, 9, 10, 11, 12, 13, 14, 15, 16, 17, 18, 19, 20, 21, 22, 23, 24, 25, 26, 27, 28, 29, 30, 31, 32, 33, 34, 35, 36, 37, 38, 39, 40, 41, 42, 43, 71, 45, 46, 47, 48, 49, 50, 51, 52, 53, 54, 55, 56, 57, 58, 59, 60, 61, 62, 63, 64, 65, 66, 67, 68, 69, 70] rfl
  have hD' := hD.sub (ws' := wX cI cJ cZ cR am (va_up gm 608 a) (nwI t 608 n.toNatClampNeg fn)) [0, 1, 2, 3, 4, 5, 6, 7, 8, 9, 10, 11, 12, 13, 14, 15, 16, 17, 18, 19, 20, 21, 22, 23, 24, 25, 26, 27, 28, 29, 30, 31, 32, 33, 34, 35, 36, 37, 38, 39, 40, 41, 42, 43, 71, 45, 46, 47, 48, 49, 50, 51, 52, 53, 54, 55, 56, 57, 58, 59, 60, 61, 62, 63, 64, 65, 66, 67, 68, 69, 70] (by decide) rfl
  refine W.widen ?_ ?_ (kk (va_up gm 608 a) H locs ⟨hP', hD', hS⟩)
  · have := hmle.1; have := h0.1; show gN t 9000 - gN t0 9000 + 1 ≤ gN (nwI t 608 n.toNatClampNeg fn) 9000 - gN t0 9000; unfold mC at hc; omega
  · have := hmle.2; have := h0.2; show gN t 9001 - gN t0 9001 + n.toNatClampNeg ≤ gN (nwI t 608 n.toNatClampNeg fn) 9001 - gN t0 9001; unfold mS at hs; omega
set_option maxHeartbeats 4000000 in
set_option maxRecDepth 100000 in
theorem xNEWJ_808 {p : Program} {l : Launch} {e : Env} {s : State} {m : MethodId} {args : Array Value} {below : List Frame} {meth : Method} {c : Code} {H : Heap} {locs : List Loc} {Q : State → Prop} {pc : Nat} {ls : Array Slot} {cc : ByteArray} {own : String} {nL ix : Nat} {D : va_G} {cI cJ cZ cR : ClassId} {am gm : Nat → Nat} {st : Nat} {A : Nat → Prop} {ret : Option FieldType} {rest : List Value} {F L : Nat} {t0 t t1 tE : St} {n : Int32}
    (C0 : cxX p s m args meth c cc own nL ret D (tyX cI cJ cZ cR) st A) (hk : Cond.fieldLink own ix "GuardNets$Tables" "pool" "[J" ∈ wsAll) (hW : wl D A s (wX cI cJ cZ cR am gm t) H locs) (hg : nwlR t 808 n t1) (h0 : mle t0 t) (hE : mle t1 tE) (hd1 : decode cc pc = .ok (.newarray .long, 2)) (hd2 : decode cc (pc + 2) = .ok (.putfield ix, 3))
    (kk : ∀ (gm : Nat → Nat) (H : Heap) (locs : List Loc), wl D A s (wX cI cJ cZ cR am gm t1) H locs → W p l e (rmA F L t0 tE) s m args below meth c H locs (mC t0 t1) (mS t0 t1) Q (F0 m (pc + 5) ls rest)) : W p l e (rmA F L t0 tE) s m args below meth c H locs (mC t0 t) (mS t0 t) Q (F0 m pc ls (.int n :: .ref (am 2008) :: rest)) := by
  have hmle := hg.mle
  have hf := hf_of h0 hmle hE
  obtain ⟨hx, hb, hret, hml, hown, hta, hlk, hK, hA⟩ := id C0.1
  obtain ⟨g1, g2, rfl⟩ := hg
  have hc : mC t (nwJ t 808 n.toNatClampNeg (fun _ => 0)) = 1 := by simp [mC, nwJ, va_up, gN]
  have hs : mS t (nwJ t 808 n.toNatClampNeg (fun _ => 0)) = n.toNatClampNeg := by simp [mS, nwJ, va_up, gN]
  have hf1 : mC t0 t + 1 ≤ mC t0 tE := by have := hf.1; rw [hc] at this; exact this
  have hf2 : mS t0 t + n.toNatClampNeg ≤ mS t0 tE := by have := hf.2; rw [hs] at this; exact this
  refine xNEWJ0 C0 kw_arrJ rfl hW g1 g2 hf1 hf2 hd1 (fun a H hW => ?_)
  refine va_put (D := D) (ci := 8) (ty := .array .long) (v := .ref a) (C := RX8) (T := TX8) (N := 15) (fs := fsX8 am gm t) hx hb hta inA8 tyX8 tyX8_ok nmX8 hown hK hW.1 hW.2.1 hW.2.2 8 rfl rfl 8 (by decide) (hta _ hk) (fun _ h9 => h9) rfl (by decide +kernel) rfl rfl (Nat.le_of_ble_eq_true rfl) hd2 (fun H locs hP hD hS => ?_)
  have hP' := hP.sub (ws' := wX cI cJ cZ cR am (va_up gm 808 a) (nwJ t 808 n.toNatClampNeg (fun _ => 0))) [0, 1, 2, 3, 4, 5, 6, 7, 8, 9, 10, 11, 12, 13, 14, 15, 16, 17, 18, 19, 20, 21, 22, 23, 24, 25, 26, 27, 28, 29, 30, 31, 32, 33, 34, 35, 36, 37, 38, 39, 40, 41, 42, 43, 44, 45, 46, 47, 48, 49, 50, 71, 52, 53, 54, 55, 56, 57, 58, 59, 60, 61, 62, 63, 64, 65, 66, 67, 68, 69, 70] rfl
  have hD' := hD.sub (ws' := wX cI cJ cZ cR am (va_up gm 808 a) (nwJ t 808 n.toNatClampNeg (fun _ => 0))) [0, 1, 2, 3, 4, 5, 6, 7, 8, 9, 10, 11, 12, 13, 14, 15, 16, 17, 18, 19, 20, 21, 22, 23, 24, 25, 26, 27, 28, 29, 30, 31, 32, 33, 34, 35, 36, 37, 38, 39, 40, 41, 42, 43, 44, 45, 46, 47, 48, 49, 50, 71, 52, 53, 54, 55, 56, 57, 58, 59, 60, 61, 62, 63, 64, 65, 66, 67, 68, 69, 70] (by decide) rfl
  refine W.widen ?_ ?_ (kk (va_up gm 808 a) H locs ⟨hP', hD', hS⟩)
  · have := hmle.1; have := h0.1; show gN t 9000 - gN t0 9000 + 1 ≤ gN (nwJ t 808 n.toNatClampNeg (fun _ => 0)) 9000 - gN t0 9000; unfold mC at hc; omega
  · have := hmle.2; have := h0.2; show gN t 9001 - gN t0 9001 + n.toNatClampNeg ≤ gN (nwJ t 808 n.toNatClampNeg (fun _ => 0)) 9001 - gN t0 9001; unfold mS at hs; omega
