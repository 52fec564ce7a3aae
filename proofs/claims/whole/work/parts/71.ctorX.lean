/-! Calls on a part of the caller's world; constructors' calls. -/
def calI (own : String) (ix : Nat) (y : MethodName) (b : ByteArray) (ml n : Nat) : Prop :=
  (Cond.methodLink own ix y ∈ wsAll ∧ Cond.instanceMethod y ∈ wsAll ∧ Cond.initialized y.cls ∈ wsAll ∧ Cond.code y b ml none ∈ wsAll) ∧ y.name = "<init>" ∧ (y.cls ≠ "java/lang/invoke/MethodHandle" ∧ y.cls ≠ "java/lang/invoke/VarHandle" ∧ (parseMethodDescriptor y.desc).map (fun d => d.parameters.length) = some n)
section JN
variable {p : Program} {l : Launch} {e : Env} {R : Room} {s : State} {m : MethodId} {args : Array Value} {below : List Frame} {meth : Method} {c : Code} {H : Heap} {locs : List Loc} {Q : State → Prop} {pc : Nat} {ls : Array Slot} {cc : ByteArray} {own : String} {nL : Nat} {D : va_G} {tys : List (ClassId × FieldType)} {A : Nat → Prop} {w : va_W} {cells slots : Nat} {ret' : Option FieldType}
variable {y : MethodName} {b : ByteArray} {ml n ix : Nat} {rm : Room} {As rest st0 : List Value} {a mc ms : Nat}
theorem runI {Qc : Array Value → State → Outcome → State → Prop} (C0 : cx p s m args meth c cc own nL ret' D tys A) (hW : wl D A s w H locs) (hM : Met l y (.code y b ml none :: wsAll) rm (va_Pc (.ref a :: As) (prW D tys w H.size)) Qc mc ms (va_A w H.size)) (hc : calI own ix y b ml n) (hn : As.length = n) (hst : st0 = As.reverse ++ .ref a :: rest) (hrm : rm.cells = mc ∧ rm.slots = ms) (hR : rm.frames + 1 ≤ R.frames ∧ 8 + (ml + 11) + rm.locals ≤ R.locals) (hrest : (rest.map fun v => v.category).sum ≤ 8) (hls : ls.size = nL) (hdg : decode cc pc = .ok (.invokespecial ix, 3)) (hf : cells + mc ≤ R.cells ∧ slots + ms ≤ R.slots) :
    va_Run p l e R s m args below meth c H locs cells slots mc ms (F0 m pc ls st0) rest (Qc (Value.ref a :: As).toArray) (va_A w H.size) := by
  obtain ⟨hx, hb, hret, hml, hown, hta, hlk, hK, hA⟩ := C0
  obtain ⟨⟨h1, h2, h3, h4⟩, h5, h6⟩ := hc
  have hg : GoodIn wsAll (.code y b ml none :: wsAll) := by
    intro w hw
    have hm : w ∈ wsAll := by
      rcases List.mem_cons.mp hw with rfl | hw
      · exact h4
      · exact hw
    exact ⟨hm, wA_goodw hm⟩
  exact va_runI (Ts := wsAll) ⟨hx, hb, hml, hown, hta⟩ hM (cwI n hta hg rfl hrm.1 hrm.2 (hta _ h3) (hta _ h1) (hta _ h2) h5 h6 hR) ⟨prW_blind, fun U hU hW' => ⟨rfl, by rw [hU], by rw [hU]; exact hW.1, va_K.moved hW'.alike hK, hW.2.1.weaken (fun _ _ _ _ => trivial)⟩⟩ rfl hn hls hst (lv_room hrest) hdg hf
theorem bkVj {S : Type} {post : S → Prop} {wf : S → va_W} (C0 : cx p s m args meth c cc own nL ret' D tys A) (hW : wl D A s w H locs) {wc wr : va_W} (isC isR : List Nat) (hC : isC.map (fun i => w[i]?) = wc.map some) (hR : isR.map (fun i => w[i]?) = wr.map some) (hn : va_nd isR = true) (hdis : ∀ i ∈ isR, i ∉ isC) {av : Array Value} (hr : va_Run p l e R s m args below meth c H locs cells slots mc ms (F0 m pc ls st0) rest (va_Qv post (fun u => poW D tys (wf u) (va_A wc H.size)) (va_A wc H.size) av) (va_A wc H.size)) (k : ∀ (u : S) (H1 : Heap) (locs1 : List Loc), post u → wl D A s (wr ++ wf u) H1 locs1 → W p l e R s m args below meth c H1 locs1 (cells + mc) (slots + ms) Q (F0 m (pc + 3) ls rest)) : W p l e R s m args below meth c H locs cells slots Q (F0 m pc ls st0) := by
  have hF := va_free hW.2.1 hW.2.2 C0.2.2.2.2.2.2.2.2 isC hC
  exact va_callv hr hW.2.2 (fun q _ h => hF q h) hF (fun u t H1 locs1 ht _ hp hB _ hk hS => by
    have h := va_join hW.1 hW.2.1 isC isR hC hR hn hdis hk hF (by rw [← ht]; exact hB.1) hB.2.2
    exact k u H1 locs1 hp ⟨h.1, h.2, hS⟩)
end JN
set_option maxHeartbeats 4000000 in
set_option maxRecDepth 100000 in
theorem c_fill10 (l : Launch) {D : va_G} {cI cJ cZ cR : ClassId} (a sz : Nat) (g0 : Nat → Int32) (v : Int32) : Met l yJ7_fill_53178 (.code yJ7_fill_53178 cJ7_fill_53178 4 none :: wsAll) (rmN 0 0) (va_Pc [.ref a, .int v] (prW D (tyX cI cJ cZ cR) [(a, .inl (cI, 10, .inl g0))] sz)) (va_Qv (fun (_ : Unit) => True) (fun _ => poW D (tyX cI cJ cZ cR) [(a, .inl (cI, 10, .inl (upd (upd (upd (upd (upd (upd (upd (upd (upd (upd g0 0 v) 1 v) 2 v) 3 v) 4 v) 5 v) 6 v) 7 v) 8 v) 9 v)))] (va_A [(a, .inl (cI, 10, .inl g0))] sz)) (va_A [(a, .inl (cI, 10, .inl g0))] sz)) 0 0 (va_A [(a, .inl (cI, 10, .inl g0))] sz) := by
  refine Met.ofW (cc := cJ7_fill_53178) (maxL := 4) (ret := none) (by decide) rfl ?_
  intro p e s m args below meth c s₁ B hml hv
  obtain ⟨rfl, hsz, hP, hK, hD0⟩ := hv
  have hx := B.exec
  have hb := B.bytes
  have hts := atoms_spec (ws := (.code yJ7_fill_53178 cJ7_fill_53178 4 none :: wsAll)) B.pre
  have hlocks := B.notSynchronized
  subst hsz
  have hD := hD0.self (sz := s.heap.size)
  generalize hAe : va_A [(a, .inl (cI, 10, .inl g0))] s.heap.size = A at hD ⊢
  have hW : wl D A s [(a, .inl (cI, 10, .inl g0))] s.heap [] := ⟨hP, hD, va_S.rf⟩
  have hl := lv_entry [.ref a, .int v] (n := 4) (Nat.le_of_ble_eq_true rfl)
  rw [lg_entry_eq]
  generalize (lg_sl [.ref a, .int v] ++ List.replicate (4 - (lg_sl [.ref a, .int v]).length) Slot.unset).toArray = ls at hl ⊢
  have hl : lv_has ls 4 [(0, .ref a), (1, .int v)] := hl
  refine lv_iconst (v := (0 : Int32)) hx hb dJ7_fill_53178_0 (by decide) ?_
  refine lv_istore_n (lv' := [(2, .int 0), (0, .ref a), (1, .int v)]) hx hb dJ7_fill_53178_1 rfl hl (by decide) rfl (fun ls hl => ?_)
  refine lv_aload_n hx hb dJ7_fill_53178_2 rfl (lv_at hl 1 rfl) ?_
  refine va_alen (v := (10 : Int32)) hx hb hK hW.1 0 0 rfl rfl rfl dJ7_fill_53178_3 ?_
  refine lv_istore_n (lv' := [(3, .int 10), (2, .int 0), (0, .ref a), (1, .int v)]) hx hb dJ7_fill_53178_4 rfl hl (by decide) rfl (fun ls hl => ?_)
  have hl := lv_sub hl [1, 0, 2, 3] rfl
  have hl : lv_has ls 4 [(2, .int (0 : Int32)), (3, .int 10), (0, .ref a), (1, .int v)] := hl
  refine lv_iload_n hx hb dJ7_fill_53178_5 rfl (lv_at hl 0 rfl) ?_
  refine lv_iload_n hx hb dJ7_fill_53178_6 rfl (lv_at hl 1 rfl) ?_
  refine lv_icmp_ge (tgt := 20) hx hb dJ7_fill_53178_7 (by decide) (fun cc => absurd cc (by decide)) (fun cc => ?_)
  refine lv_aload_n hx hb dJ7_fill_53178_10 rfl (lv_at hl 2 rfl) ?_
  refine lv_iload_n hx hb dJ7_fill_53178_11 rfl (lv_at hl 0 rfl) ?_
  refine lv_iload_n hx hb dJ7_fill_53178_12 rfl (lv_at hl 3 rfl) ?_
  refine va_iast hx hb hK hW.1 hW.2.1 hW.2.2 0 0 rfl rfl (by unfold vp_in; decide) dJ7_fill_53178_13 (fun H locs hP hD hS => ?_)
  have hW : wl D A s [(a, .inl (cI, 10, .inl (upd g0 0 v)))] H locs := ⟨hP, hD, hS⟩
  refine lv_iinc (v := (1 : Int32)) (lv' := [(2, .int (1 : Int32)), (3, .int 10), (0, .ref a), (1, .int v)]) hx hb dJ7_fill_53178_14 hl (k := 0) rfl (by decide) (by decide) rfl (fun ls hl => ?_)
  refine lv_goto (tgt := 5) hx hb dJ7_fill_53178_17 (by decide) ?_
  have hl : lv_has ls 4 [(2, .int (1 : Int32)), (3, .int 10), (0, .ref a), (1, .int v)] := hl
  refine lv_iload_n hx hb dJ7_fill_53178_5 rfl (lv_at hl 0 rfl) ?_
  refine lv_iload_n hx hb dJ7_fill_53178_6 rfl (lv_at hl 1 rfl) ?_
  refine lv_icmp_ge (tgt := 20) hx hb dJ7_fill_53178_7 (by decide) (fun cc => absurd cc (by decide)) (fun cc => ?_)
  refine lv_aload_n hx hb dJ7_fill_53178_10 rfl (lv_at hl 2 rfl) ?_
  refine lv_iload_n hx hb dJ7_fill_53178_11 rfl (lv_at hl 0 rfl) ?_
  refine lv_iload_n hx hb dJ7_fill_53178_12 rfl (lv_at hl 3 rfl) ?_
  refine va_iast hx hb hK hW.1 hW.2.1 hW.2.2 0 0 rfl rfl (by unfold vp_in; decide) dJ7_fill_53178_13 (fun H locs hP hD hS => ?_)
  have hW : wl D A s [(a, .inl (cI, 10, .inl (upd (upd g0 0 v) 1 v)))] H locs := ⟨hP, hD, hS⟩
  refine lv_iinc (v := (2 : Int32)) (lv' := [(2, .int (2 : Int32)), (3, .int 10), (0, .ref a), (1, .int v)]) hx hb dJ7_fill_53178_14 hl (k := 0) rfl (by decide) (by decide) rfl (fun ls hl => ?_)
  refine lv_goto (tgt := 5) hx hb dJ7_fill_53178_17 (by decide) ?_
  have hl : lv_has ls 4 [(2, .int (2 : Int32)), (3, .int 10), (0, .ref a), (1, .int v)] := hl
  refine lv_iload_n hx hb dJ7_fill_53178_5 rfl (lv_at hl 0 rfl) ?_
  refine lv_iload_n hx hb dJ7_fill_53178_6 rfl (lv_at hl 1 rfl) ?_
  refine lv_icmp_ge (tgt := 20) hx hb dJ7_fill_53178_7 (by decide) (fun cc => absurd cc (by decide)) (fun cc => ?_)
  refine lv_aload_n hx hb dJ7_fill_53178_10 rfl (lv_at hl 2 rfl) ?_
  refine lv_iload_n hx hb dJ7_fill_53178_11 rfl (lv_at hl 0 rfl) ?_
  refine lv_iload_n hx hb dJ7_fill_53178_12 rfl (lv_at hl 3 rfl) ?_
  refine va_iast hx hb hK hW.1 hW.2.1 hW.2.2 0 0 rfl rfl (by unfold vp_in; decide) dJ7_fill_53178_13 (fun H locs hP hD hS => ?_)
  have hW : wl D A s [(a, .inl (cI, 10, .inl (upd (upd (upd g0 0 v) 1 v) 2 v)))] H locs := ⟨hP, hD, hS⟩
  refine lv_iinc (v := (3 : Int32)) (lv' := [(2, .int (3 : Int32)), (3, .int 10), (0, .ref a), (1, .int v)]) hx hb dJ7_fill_53178_14 hl (k := 0) rfl (by decide) (by decide) rfl (fun ls hl => ?_)
  refine lv_goto (tgt := 5) hx hb dJ7_fill_53178_17 (by decide) ?_
  have hl : lv_has ls 4 [(2, .int (3 : Int32)), (3, .int 10), (0, .ref a), (1, .int v)] := hl
  refine lv_iload_n hx hb dJ7_fill_53178_5 rfl (lv_at hl 0 rfl) ?_
  refine lv_iload_n hx hb dJ7_fill_53178_6 rfl (lv_at hl 1 rfl) ?_
  refine lv_icmp_ge (tgt := 20) hx hb dJ7_fill_53178_7 (by decide) (fun cc => absurd cc (by decide)) (fun cc => ?_)
  refine lv_aload_n hx hb dJ7_fill_53178_10 rfl (lv_at hl 2 rfl) ?_
  refine lv_iload_n hx hb dJ7_fill_53178_11 rfl (lv_at hl 0 rfl) ?_
  refine lv_iload_n hx hb dJ7_fill_53178_12 rfl (lv_at hl 3 rfl) ?_
  refine va_iast hx hb hK hW.1 hW.2.1 hW.2.2 0 0 rfl rfl (by unfold vp_in; decide) dJ7_fill_53178_13 (fun H locs hP hD hS => ?_)
  have hW : wl D A s [(a, .inl (cI, 10, .inl (upd (upd (upd (upd g0 0 v) 1 v) 2 v) 3 v)))] H locs := ⟨hP, hD, hS⟩
  refine lv_iinc (v := (4 : Int32)) (lv' := [(2, .int (4 : Int32)), (3, .int 10), (0, .ref a), (1, .int v)]) hx hb dJ7_fill_53178_14 hl (k := 0) rfl (by decide) (by decide) rfl (fun ls hl => ?_)
  refine lv_goto (tgt := 5) hx hb dJ7_fill_53178_17 (by decide) ?_
  have hl : lv_has ls 4 [(2, .int (4 : Int32)), (3, .int 10), (0, .ref a), (1, .int v)] := hl
  refine lv_iload_n hx hb dJ7_fill_53178_5 rfl (lv_at hl 0 rfl) ?_
  refine lv_iload_n hx hb dJ7_fill_53178_6 rfl (lv_at hl 1 rfl) ?_
  refine lv_icmp_ge (tgt := 20) hx hb dJ7_fill_53178_7 (by decide) (fun cc => absurd cc (by decide)) (fun cc => ?_)
  refine lv_aload_n hx hb dJ7_fill_53178_10 rfl (lv_at hl 2 rfl) ?_
  refine lv_iload_n hx hb dJ7_fill_53178_11 rfl (lv_at hl 0 rfl) ?_
  refine lv_iload_n hx hb dJ7_fill_53178_12 rfl (lv_at hl 3 rfl) ?_
  refine va_iast hx hb hK hW.1 hW.2.1 hW.2.2 0 0 rfl rfl (by unfold vp_in; decide) dJ7_fill_53178_13 (fun H locs hP hD hS => ?_)
  have hW : wl D A s [(a, .inl (cI, 10, .inl (upd (upd (upd (upd (upd g0 0 v) 1 v) 2 v) 3 v) 4 v)))] H locs := ⟨hP, hD, hS⟩
  refine lv_iinc (v := (5 : Int32)) (lv' := [(2, .int (5 : Int32)), (3, .int 10), (0, .ref a), (1, .int v)]) hx hb dJ7_fill_53178_14 hl (k := 0) rfl (by decide) (by decide) rfl (fun ls hl => ?_)
  refine lv_goto (tgt := 5) hx hb dJ7_fill_53178_17 (by decide) ?_
  have hl : lv_has ls 4 [(2, .int (5 : Int32)), (3, .int 10), (0, .ref a), (1, .int v)] := hl
  refine lv_iload_n hx hb dJ7_fill_53178_5 rfl (lv_at hl 0 rfl) ?_
  refine lv_iload_n hx hb dJ7_fill_53178_6 rfl (lv_at hl 1 rfl) ?_
  refine lv_icmp_ge (tgt := 20) hx hb dJ7_fill_53178_7 (by decide) (fun cc => absurd cc (by decide)) (fun cc => ?_)
  refine lv_aload_n hx hb dJ7_fill_53178_10 rfl (lv_at hl 2 rfl) ?_
  refine lv_iload_n hx hb dJ7_fill_53178_11 rfl (lv_at hl 0 rfl) ?_
  refine lv_iload_n hx hb dJ7_fill_53178_12 rfl (lv_at hl 3 rfl) ?_
  refine va_iast hx hb hK hW.1 hW.2.1 hW.2.2 0 0 rfl rfl (by unfold vp_in; decide) dJ7_fill_53178_13 (fun H locs hP hD hS => ?_)
  have hW : wl D A s [(a, .inl (cI, 10, .inl (upd (upd (upd (upd (upd (upd g0 0 v) 1 v) 2 v) 3 v) 4 v) 5 v)))] H locs := ⟨hP, hD, hS⟩
  refine lv_iinc (v := (6 : Int32)) (lv' := [(2, .int (6 : Int32)), (3, .int 10), (0, .ref a), (1, .int v)]) hx hb dJ7_fill_53178_14 hl (k := 0) rfl (by decide) (by decide) rfl (fun ls hl => ?_)
  refine lv_goto (tgt := 5) hx hb dJ7_fill_53178_17 (by decide) ?_
  have hl : lv_has ls 4 [(2, .int (6 : Int32)), (3, .int 10), (0, .ref a), (1, .int v)] := hl
  refine lv_iload_n hx hb dJ7_fill_53178_5 rfl (lv_at hl 0 rfl) ?_
  refine lv_iload_n hx hb dJ7_fill_53178_6 rfl (lv_at hl 1 rfl) ?_
  refine lv_icmp_ge (tgt := 20) hx hb dJ7_fill_53178_7 (by decide) (fun cc => absurd cc (by decide)) (fun cc => ?_)
  refine lv_aload_n hx hb dJ7_fill_53178_10 rfl (lv_at hl 2 rfl) ?_
  refine lv_iload_n hx hb dJ7_fill_53178_11 rfl (lv_at hl 0 rfl) ?_
  refine lv_iload_n hx hb dJ7_fill_53178_12 rfl (lv_at hl 3 rfl) ?_
  refine va_iast hx hb hK hW.1 hW.2.1 hW.2.2 0 0 rfl rfl (by unfold vp_in; decide) dJ7_fill_53178_13 (fun H locs hP hD hS => ?_)
  have hW : wl D A s [(a, .inl (cI, 10, .inl (upd (upd (upd (upd (upd (upd (upd g0 0 v) 1 v) 2 v) 3 v) 4 v) 5 v) 6 v)))] H locs := ⟨hP, hD, hS⟩
  refine lv_iinc (v := (7 : Int32)) (lv' := [(2, .int (7 : Int32)), (3, .int 10), (0, .ref a), (1, .int v)]) hx hb dJ7_fill_53178_14 hl (k := 0) rfl (by decide) (by decide) rfl (fun ls hl => ?_)
  refine lv_goto (tgt := 5) hx hb dJ7_fill_53178_17 (by decide) ?_
  have hl : lv_has ls 4 [(2, .int (7 : Int32)), (3, .int 10), (0, .ref a), (1, .int v)] := hl
  refine lv_iload_n hx hb dJ7_fill_53178_5 rfl (lv_at hl 0 rfl) ?_
  refine lv_iload_n hx hb dJ7_fill_53178_6 rfl (lv_at hl 1 rfl) ?_
  refine lv_icmp_ge (tgt := 20) hx hb dJ7_fill_53178_7 (by decide) (fun cc => absurd cc (by decide)) (fun cc => ?_)
  refine lv_aload_n hx hb dJ7_fill_53178_10 rfl (lv_at hl 2 rfl) ?_
  refine lv_iload_n hx hb dJ7_fill_53178_11 rfl (lv_at hl 0 rfl) ?_
  refine lv_iload_n hx hb dJ7_fill_53178_12 rfl (lv_at hl 3 rfl) ?_
  refine va_iast hx hb hK hW.1 hW.2.1 hW.2.2 0 0 rfl rfl (by unfold vp_in; decide) dJ7_fill_53178_13 (fun H locs hP hD hS => ?_)
  have hW : wl D A s [(a, .inl (cI, 10, .inl (upd (upd (upd (upd (upd (upd (upd (upd g0 0 v) 1 v) 2 v) 3 v) 4 v) 5 v) 6 v) 7 v)))] H locs := ⟨hP, hD, hS⟩
  refine lv_iinc (v := (8 : Int32)) (lv' := [(2, .int (8 : Int32)), (3, .int 10), (0, .ref a), (1, .int v)]) hx hb dJ7_fill_53178_14 hl (k := 0) rfl (by decide) (by decide) rfl (fun ls hl => ?_)
  refine lv_goto (tgt := 5) hx hb dJ7_fill_53178_17 (by decide) ?_
  have hl : lv_has ls 4 [(2, .int (8 : Int32)), (3, .int 10), (0, .ref a), (1, .int v)] := hl
  refine lv_iload_n hx hb dJ7_fill_53178_5 rfl (lv_at hl 0 rfl) ?_
  refine lv_iload_n hx hb dJ7_fill_53178_6 rfl (lv_at hl 1 rfl) ?_
  refine lv_icmp_ge (tgt := 20) hx hb dJ7_fill_53178_7 (by decide) (fun cc => absurd cc (by decide)) (fun cc => ?_)
  refine lv_aload_n hx hb dJ7_fill_53178_10 rfl (lv_at hl 2 rfl) ?_
  refine lv_iload_n hx hb dJ7_fill_53178_11 rfl (lv_at hl 0 rfl) ?_
  refine lv_iload_n hx hb dJ7_fill_53178_12 rfl (lv_at hl 3 rfl) ?_
  refine va_iast hx hb hK hW.1 hW.2.1 hW.2.2 0 0 rfl rfl (by unfold vp_in; decide) dJ7_fill_53178_13 (fun H locs hP hD hS => ?_)
  have hW : wl D A s [(a, .inl (cI, 10, .inl (upd (upd (upd (upd (upd (upd (upd (upd (upd g0 0 v) 1 v) 2 v) 3 v) 4 v) 5 v) 6 v) 7 v) 8 v)))] H locs := ⟨hP, hD, hS⟩
  refine lv_iinc (v := (9 : Int32)) (lv' := [(2, .int (9 : Int32)), (3, .int 10), (0, .ref a), (1, .int v)]) hx hb dJ7_fill_53178_14 hl (k := 0) rfl (by decide) (by decide) rfl (fun ls hl => ?_)
  refine lv_goto (tgt := 5) hx hb dJ7_fill_53178_17 (by decide) ?_
  have hl : lv_has ls 4 [(2, .int (9 : Int32)), (3, .int 10), (0, .ref a), (1, .int v)] := hl
  refine lv_iload_n hx hb dJ7_fill_53178_5 rfl (lv_at hl 0 rfl) ?_
  refine lv_iload_n hx hb dJ7_fill_53178_6 rfl (lv_at hl 1 rfl) ?_
  refine lv_icmp_ge (tgt := 20) hx hb dJ7_fill_53178_7 (by decide) (fun cc => absurd cc (by decide)) (fun cc => ?_)
  refine lv_aload_n hx hb dJ7_fill_53178_10 rfl (lv_at hl 2 rfl) ?_
  refine lv_iload_n hx hb dJ7_fill_53178_11 rfl (lv_at hl 0 rfl) ?_
  refine lv_iload_n hx hb dJ7_fill_53178_12 rfl (lv_at hl 3 rfl) ?_
  refine va_iast hx hb hK hW.1 hW.2.1 hW.2.2 0 0 rfl rfl (by unfold vp_in; decide) dJ7_fill_53178_13 (fun H locs hP hD hS => ?_)
  have hW : wl D A s [(a, .inl (cI, 10, .inl (upd (upd (upd (upd (upd (upd (upd (upd (upd (upd g0 0 v) 1 v) 2 v) 3 v) 4 v) 5 v) 6 v) 7 v) 8 v) 9 v)))] H locs := ⟨hP, hD, hS⟩
  refine lv_iinc (v := (10 : Int32)) (lv' := [(2, .int (10 : Int32)), (3, .int 10), (0, .ref a), (1, .int v)]) hx hb dJ7_fill_53178_14 hl (k := 0) rfl (by decide) (by decide) rfl (fun ls hl => ?_)
  refine lv_goto (tgt := 5) hx hb dJ7_fill_53178_17 (by decide) ?_
  refine lv_iload_n hx hb dJ7_fill_53178_5 rfl (lv_at hl 0 rfl) ?_
  refine lv_iload_n hx hb dJ7_fill_53178_6 rfl (lv_at hl 1 rfl) ?_
  refine lv_icmp_ge (tgt := 20) hx hb dJ7_fill_53178_7 (by decide) (fun cc => ?_) (fun cc => absurd (by decide) cc)
  exact W.vret hx hb B.returns (fun t ht hV => ⟨⟨(), rfl, trivial, by rw [ht]; exact hW.1, va_K.moved hV.alike hK, hW.2.1⟩, hW.2.2.F ht⟩) hW.2.2.2.2 dJ7_fill_53178_20
def wC0 (cI cJ cZ : ClassId) (h0 o1 o2 : Nat) (q : Nat → Nat) : va_W := [(h0, .inr (0, [.ref o1, .ref o2, .int (-1), .int 2, .int 0, .int 0, .int 1, .ref (q 7), .ref (q 8), .ref (q 9), .ref (q 10), .ref (q 11), .ref (q 12), .ref (q 13), .ref (q 14)])), (q 7, .inl (cI, 64, .inl (fun _ => 0))), (q 8, .inl (cI, 64, .inl (fun _ => 0))), (q 9, .inl (cI, 64, .inl (fun _ => 0))), (q 10, .inl (cI, 64, .inl (fun _ => 0))), (q 11, .inl (cI, 64, .inl (fun _ => 0))), (q 12, .inl (cI, 64, .inl (fun _ => 0))), (q 13, .inl (cI, 6, .inl (fun _ => 0))), (q 14, .inl (cI, 16, .inl (fun _ => 0)))]
set_option maxHeartbeats 4000000 in
set_option maxRecDepth 100000 in
theorem c_ctor0 (l : Launch) {D : va_G} {cI cJ cZ cR : ClassId} (h0 o1 o2 sz : Nat) : Met l yX0_init (.code yX0_init cX0_init 3 none :: wsAll) ({ frames := 1, cells := 8, slots := 406, locals := 20 } : Room) (va_Pc [.ref h0, .ref o1, .ref o2] (prW D (tyX cI cJ cZ cR) [(h0, .inr (0, [.null, .null, .int 0, .int 0, .int 0, .int 0, .int 0, .null, .null, .null, .null, .null, .null, .null, .null]))] sz)) (va_Qv (fun (_ : Nat → Nat) => True) (fun q => poW D (tyX cI cJ cZ cR) (wC0 cI cJ cZ h0 o1 o2 q) (va_A [(h0, .inr (0, [.null, .null, .int 0, .int 0, .int 0, .int 0, .int 0, .null, .null, .null, .null, .null, .null, .null, .null]))] sz)) (va_A [(h0, .inr (0, [.null, .null, .int 0, .int 0, .int 0, .int 0, .int 0, .null, .null, .null, .null, .null, .null, .null, .null]))] sz)) 8 406 (va_A [(h0, .inr (0, [.null, .null, .int 0, .int 0, .int 0, .int 0, .int 0, .null, .null, .null, .null, .null, .null, .null, .null]))] sz) := by
  refine Met.ofW (cc := cX0_init) (maxL := 3) (ret := none) (by decide) rfl ?_
  intro p e s m args below meth c s₁ B hml hv
  obtain ⟨rfl, hsz, hP, hK, hD0⟩ := hv
  have hx := B.exec
  have hb := B.bytes
  have hts := atoms_spec (ws := (.code yX0_init cX0_init 3 none :: wsAll)) B.pre
  have hta := fun w h => hts w (List.mem_cons_of_mem _ h)
  have hown : s.vm.findClass RX0 = some m.cls := findClass_of_methodNamed B.named
  have hlocks := B.notSynchronized
  have hin : meth.name = "<init>" := (name_of_methodNamed B.named B.method).1
  subst hsz
  have hD := hD0.self (sz := s.heap.size)
  generalize hAe : va_A [(h0, .inr (0, [.null, .null, .int 0, .int 0, .int 0, .int 0, .int 0, .null, .null, .null, .null, .null, .null, .null, .null]))] s.heap.size = A at hD ⊢
  have hA : ∀ q : Nat, s.heap.size ≤ q → A q := fun q h => by rw [← hAe]; exact Or.inr h
  have C0 : cx p s m ([.ref h0, .ref o1, .ref o2].toArray) meth c cX0_init RX0 3 none D (tyX cI cJ cZ cR) A := ⟨hx, hb, B.returns, hml, hown, hta, hlocks, hK, hA⟩
  have hW : wl D A s [(h0, .inr (0, [.null, .null, .int 0, .int 0, .int 0, .int 0, .int 0, .null, .null, .null, .null, .null, .null, .null, .null]))] s.heap [] := ⟨hP, hD, va_S.rf⟩
  have hl := lv_entry [.ref h0, .ref o1, .ref o2] (n := 3) (Nat.le_of_ble_eq_true rfl)
  rw [lg_entry_eq]
  generalize (lg_sl [.ref h0, .ref o1, .ref o2] ++ List.replicate (3 - (lg_sl [.ref h0, .ref o1, .ref o2]).length) Slot.unset).toArray = ls at hl ⊢
  have hl : lv_has ls 3 [(0, .ref h0), (1, .ref o1), (2, .ref o2)] := hl
  refine lv_aload_n hx hb dX0_init_0 rfl (lv_at hl 0 rfl) ?_
  refine W.objInit hx hb hown (hta _ kw_381) (hta _ kw_146) (hta _ kw_147) rfl (by rw [hml]; exact hl.1) rfl dX0_init_1 (Nat.le_of_ble_eq_true rfl) (Nat.le_of_ble_eq_true rfl) ?_
  refine W.eq (g2 := F0 m 4 ls []) rfl ?_
  refine lv_aload_n hx hb dX0_init_4 rfl (lv_at hl 0 rfl) ?_
  refine lv_iconst (v := (-1 : Int32)) hx hb dX0_init_5 (by decide) ?_
  refine va_put (D := D) (ci := 0) (v := .int (-1)) (ty := .int) (C := RX0) (T := TX0) (N := 15) hx hb hta inA0 tyX0 tyX0_ok nmX0 hown hK hW.1 hW.2.1 hW.2.2 0 rfl rfl 2 (by decide) (hta _ kw_384) (fun _ h9 => h9) rfl (by decide +kernel) rfl rfl (Nat.le_of_ble_eq_true rfl) dX0_init_6 (fun H locs hP hD hS => ?_)
  have hW : wl D A s [(h0, .inr (0, [.null, .null, .int (-1), .int 0, .int 0, .int 0, .int 0, .null, .null, .null, .null, .null, .null, .null, .null]))] H locs := ⟨hP, hD, hS⟩
  refine lv_aload_n hx hb dX0_init_9 rfl (lv_at hl 0 rfl) ?_
  refine lv_iconst (v := (2 : Int32)) hx hb dX0_init_10 (by decide) ?_
  refine va_put (D := D) (ci := 0) (v := .int 2) (ty := .int) (C := RX0) (T := TX0) (N := 15) hx hb hta inA0 tyX0 tyX0_ok nmX0 hown hK hW.1 hW.2.1 hW.2.2 0 rfl rfl 3 (by decide) (hta _ kw_385) (fun _ h9 => h9) rfl (by decide +kernel) rfl rfl (Nat.le_of_ble_eq_true rfl) dX0_init_11 (fun H locs hP hD hS => ?_)
  have hW : wl D A s [(h0, .inr (0, [.null, .null, .int (-1), .int 2, .int 0, .int 0, .int 0, .null, .null, .null, .null, .null, .null, .null, .null]))] H locs := ⟨hP, hD, hS⟩
  refine lv_aload_n hx hb dX0_init_14 rfl (lv_at hl 0 rfl) ?_
  refine lv_iconst (v := (0 : Int32)) hx hb dX0_init_15 (by decide) ?_
  refine va_put (D := D) (ci := 0) (v := .int 0) (ty := .int) (C := RX0) (T := TX0) (N := 15) hx hb hta inA0 tyX0 tyX0_ok nmX0 hown hK hW.1 hW.2.1 hW.2.2 0 rfl rfl 4 (by decide) (hta _ kw_386) (fun _ h9 => h9) rfl (by decide +kernel) rfl rfl (Nat.le_of_ble_eq_true rfl) dX0_init_16 (fun H locs hP hD hS => ?_)
  have hW : wl D A s [(h0, .inr (0, [.null, .null, .int (-1), .int 2, .int 0, .int 0, .int 0, .null, .null, .null, .null, .null, .null, .null, .null]))] H locs := ⟨hP, hD, hS⟩
  refine lv_aload_n hx hb dX0_init_19 rfl (lv_at hl 0 rfl) ?_
  refine lv_iconst (v := (0 : Int32)) hx hb dX0_init_20 (by decide) ?_
  refine va_put (D := D) (ci := 0) (v := .int 0) (ty := .int) (C := RX0) (T := TX0) (N := 15) hx hb hta inA0 tyX0 tyX0_ok nmX0 hown hK hW.1 hW.2.1 hW.2.2 0 rfl rfl 5 (by decide) (hta _ kw_387) (fun _ h9 => h9) rfl (by decide +kernel) rfl rfl (Nat.le_of_ble_eq_true rfl) dX0_init_21 (fun H locs hP hD hS => ?_)
  have hW : wl D A s [(h0, .inr (0, [.null, .null, .int (-1), .int 2, .int 0, .int 0, .int 0, .null, .null, .null, .null, .null, .null, .null, .null]))] H locs := ⟨hP, hD, hS⟩
  refine lv_aload_n hx hb dX0_init_24 rfl (lv_at hl 0 rfl) ?_
  refine lv_iconst (v := (1 : Int32)) hx hb dX0_init_25 (by decide) ?_
  refine va_put (D := D) (ci := 0) (v := .int 1) (ty := .int) (C := RX0) (T := TX0) (N := 15) hx hb hta inA0 tyX0 tyX0_ok nmX0 hown hK hW.1 hW.2.1 hW.2.2 0 rfl rfl 6 (by decide) (hta _ kw_388) (fun _ h9 => h9) rfl (by decide +kernel) rfl rfl (Nat.le_of_ble_eq_true rfl) dX0_init_26 (fun H locs hP hD hS => ?_)
  have hW : wl D A s [(h0, .inr (0, [.null, .null, .int (-1), .int 2, .int 0, .int 0, .int 1, .null, .null, .null, .null, .null, .null, .null, .null]))] H locs := ⟨hP, hD, hS⟩
  refine lv_aload_n hx hb dX0_init_29 rfl (lv_at hl 0 rfl) ?_
  refine lv_bipush (v := (64 : Int32)) hx hb dX0_init_30 (by decide) ?_
  refine nwcI (N := 64) C0 hW rfl (by decide) (by decide) (Nat.le_of_ble_eq_true rfl) (Nat.le_of_ble_eq_true rfl) dX0_init_32 (fun q7 H hW => ?_)
  refine W.widen (k := 1) (n := 64) (Nat.le_of_ble_eq_true rfl) (Nat.le_of_ble_eq_true rfl) ?_
  have hW : wl D A s [(h0, .inr (0, [.null, .null, .int (-1), .int 2, .int 0, .int 0, .int 1, .null, .null, .null, .null, .null, .null, .null, .null])), (q7, .inl (cI, 64, .inl (fun _ => 0)))] H _ := hW
  refine va_put (D := D) (ci := 0) (v := .ref q7) (ty := .array .int) (C := RX0) (T := TX0) (N := 15) hx hb hta inA0 tyX0 tyX0_ok nmX0 hown hK hW.1 hW.2.1 hW.2.2 0 rfl rfl 7 (by decide) (hta _ kw_391) (fun _ h9 => h9) rfl (by decide +kernel) rfl rfl (Nat.le_of_ble_eq_true rfl) dX0_init_34 (fun H locs hP hD hS => ?_)
  have hW : wl D A s [(h0, .inr (0, [.null, .null, .int (-1), .int 2, .int 0, .int 0, .int 1, .ref q7, .null, .null, .null, .null, .null, .null, .null])), (q7, .inl (cI, 64, .inl (fun _ => 0)))] H locs := ⟨hP, hD, hS⟩
  refine lv_aload_n hx hb dX0_init_37 rfl (lv_at hl 0 rfl) ?_
  refine lv_bipush (v := (64 : Int32)) hx hb dX0_init_38 (by decide) ?_
  refine nwcI (N := 64) C0 hW rfl (by decide) (by decide) (Nat.le_of_ble_eq_true rfl) (Nat.le_of_ble_eq_true rfl) dX0_init_40 (fun q8 H hW => ?_)
  refine W.widen (k := 2) (n := 128) (Nat.le_of_ble_eq_true rfl) (Nat.le_of_ble_eq_true rfl) ?_
  have hW : wl D A s [(h0, .inr (0, [.null, .null, .int (-1), .int 2, .int 0, .int 0, .int 1, .ref q7, .null, .null, .null, .null, .null, .null, .null])), (q7, .inl (cI, 64, .inl (fun _ => 0))), (q8, .inl (cI, 64, .inl (fun _ => 0)))] H _ := hW
  refine va_put (D := D) (ci := 0) (v := .ref q8) (ty := .array .int) (C := RX0) (T := TX0) (N := 15) hx hb hta inA0 tyX0 tyX0_ok nmX0 hown hK hW.1 hW.2.1 hW.2.2 0 rfl rfl 8 (by decide) (hta _ kw_392) (fun _ h9 => h9) rfl (by decide +kernel) rfl rfl (Nat.le_of_ble_eq_true rfl) dX0_init_42 (fun H locs hP hD hS => ?_)
  have hW : wl D A s [(h0, .inr (0, [.null, .null, .int (-1), .int 2, .int 0, .int 0, .int 1, .ref q7, .ref q8, .null, .null, .null, .null, .null, .null])), (q7, .inl (cI, 64, .inl (fun _ => 0))), (q8, .inl (cI, 64, .inl (fun _ => 0)))] H locs := ⟨hP, hD, hS⟩
  refine lv_aload_n hx hb dX0_init_45 rfl (lv_at hl 0 rfl) ?_
  refine lv_bipush (v := (64 : Int32)) hx hb dX0_init_46 (by decide) ?_
  refine nwcI (N := 64) C0 hW rfl (by decide) (by decide) (Nat.le_of_ble_eq_true rfl) (Nat.le_of_ble_eq_true rfl) dX0_init_48 (fun q9 H hW => ?_)
  refine W.widen (k := 3) (n := 192) (Nat.le_of_ble_eq_true rfl) (Nat.le_of_ble_eq_true rfl) ?_
  have hW : wl D A s [(h0, .inr (0, [.null, .null, .int (-1), .int 2, .int 0, .int 0, .int 1, .ref q7, .ref q8, .null, .null, .null, .null, .null, .null])), (q7, .inl (cI, 64, .inl (fun _ => 0))), (q8, .inl (cI, 64, .inl (fun _ => 0))), (q9, .inl (cI, 64, .inl (fun _ => 0)))] H _ := hW
  refine va_put (D := D) (ci := 0) (v := .ref q9) (ty := .array .int) (C := RX0) (T := TX0) (N := 15) hx hb hta inA0 tyX0 tyX0_ok nmX0 hown hK hW.1 hW.2.1 hW.2.2 0 rfl rfl 9 (by decide) (hta _ kw_393) (fun _ h9 => h9) rfl (by decide +kernel) rfl rfl (Nat.le_of_ble_eq_true rfl) dX0_init_50 (fun H locs hP hD hS => ?_)
  have hW : wl D A s [(h0, .inr (0, [.null, .null, .int (-1), .int 2, .int 0, .int 0, .int 1, .ref q7, .ref q8, .ref q9, .null, .null, .null, .null, .null])), (q7, .inl (cI, 64, .inl (fun _ => 0))), (q8, .inl (cI, 64, .inl (fun _ => 0))), (q9, .inl (cI, 64, .inl (fun _ => 0)))] H locs := ⟨hP, hD, hS⟩
  refine lv_aload_n hx hb dX0_init_53 rfl (lv_at hl 0 rfl) ?_
  refine lv_bipush (v := (64 : Int32)) hx hb dX0_init_54 (by decide) ?_
  refine nwcI (N := 64) C0 hW rfl (by decide) (by decide) (Nat.le_of_ble_eq_true rfl) (Nat.le_of_ble_eq_true rfl) dX0_init_56 (fun q10 H hW => ?_)
  refine W.widen (k := 4) (n := 256) (Nat.le_of_ble_eq_true rfl) (Nat.le_of_ble_eq_true rfl) ?_
  have hW : wl D A s [(h0, .inr (0, [.null, .null, .int (-1), .int 2, .int 0, .int 0, .int 1, .ref q7, .ref q8, .ref q9, .null, .null, .null, .null, .null])), (q7, .inl (cI, 64, .inl (fun _ => 0))), (q8, .inl (cI, 64, .inl (fun _ => 0))), (q9, .inl (cI, 64, .inl (fun _ => 0))), (q10, .inl (cI, 64, .inl (fun _ => 0)))] H _ := hW
  refine va_put (D := D) (ci := 0) (v := .ref q10) (ty := .array .int) (C := RX0) (T := TX0) (N := 15) hx hb hta inA0 tyX0 tyX0_ok nmX0 hown hK hW.1 hW.2.1 hW.2.2 0 rfl rfl 10 (by decide) (hta _ kw_394) (fun _ h9 => h9) rfl (by decide +kernel) rfl rfl (Nat.le_of_ble_eq_true rfl) dX0_init_58 (fun H locs hP hD hS => ?_)
  have hW : wl D A s [(h0, .inr (0, [.null, .null, .int (-1), .int 2, .int 0, .int 0, .int 1, .ref q7, .ref q8, .ref q9, .ref q10, .null, .null, .null, .null])), (q7, .inl (cI, 64, .inl (fun _ => 0))), (q8, .inl (cI, 64, .inl (fun _ => 0))), (q9, .inl (cI, 64, .inl (fun _ => 0))), (q10, .inl (cI, 64, .inl (fun _ => 0)))] H locs := ⟨hP, hD, hS⟩
  refine lv_aload_n hx hb dX0_init_61 rfl (lv_at hl 0 rfl) ?_
  refine lv_bipush (v := (64 : Int32)) hx hb dX0_init_62 (by decide) ?_
  refine nwcI (N := 64) C0 hW rfl (by decide) (by decide) (Nat.le_of_ble_eq_true rfl) (Nat.le_of_ble_eq_true rfl) dX0_init_64 (fun q11 H hW => ?_)
  refine W.widen (k := 5) (n := 320) (Nat.le_of_ble_eq_true rfl) (Nat.le_of_ble_eq_true rfl) ?_
  have hW : wl D A s [(h0, .inr (0, [.null, .null, .int (-1), .int 2, .int 0, .int 0, .int 1, .ref q7, .ref q8, .ref q9, .ref q10, .null, .null, .null, .null])), (q7, .inl (cI, 64, .inl (fun _ => 0))), (q8, .inl (cI, 64, .inl (fun _ => 0))), (q9, .inl (cI, 64, .inl (fun _ => 0))), (q10, .inl (cI, 64, .inl (fun _ => 0))), (q11, .inl (cI, 64, .inl (fun _ => 0)))] H _ := hW
  refine va_put (D := D) (ci := 0) (v := .ref q11) (ty := .array .int) (C := RX0) (T := TX0) (N := 15) hx hb hta inA0 tyX0 tyX0_ok nmX0 hown hK hW.1 hW.2.1 hW.2.2 0 rfl rfl 11 (by decide) (hta _ kw_395) (fun _ h9 => h9) rfl (by decide +kernel) rfl rfl (Nat.le_of_ble_eq_true rfl) dX0_init_66 (fun H locs hP hD hS => ?_)
  have hW : wl D A s [(h0, .inr (0, [.null, .null, .int (-1), .int 2, .int 0, .int 0, .int 1, .ref q7, .ref q8, .ref q9, .ref q10, .ref q11, .null, .null, .null])), (q7, .inl (cI, 64, .inl (fun _ => 0))), (q8, .inl (cI, 64, .inl (fun _ => 0))), (q9, .inl (cI, 64, .inl (fun _ => 0))), (q10, .inl (cI, 64, .inl (fun _ => 0))), (q11, .inl (cI, 64, .inl (fun _ => 0)))] H locs := ⟨hP, hD, hS⟩
  refine lv_aload_n hx hb dX0_init_69 rfl (lv_at hl 0 rfl) ?_
  refine lv_bipush (v := (64 : Int32)) hx hb dX0_init_70 (by decide) ?_
  refine nwcI (N := 64) C0 hW rfl (by decide) (by decide) (Nat.le_of_ble_eq_true rfl) (Nat.le_of_ble_eq_true rfl) dX0_init_72 (fun q12 H hW => ?_)
  refine W.widen (k := 6) (n := 384) (Nat.le_of_ble_eq_true rfl) (Nat.le_of_ble_eq_true rfl) ?_
  have hW : wl D A s [(h0, .inr (0, [.null, .null, .int (-1), .int 2, .int 0, .int 0, .int 1, .ref q7, .ref q8, .ref q9, .ref q10, .ref q11, .null, .null, .null])), (q7, .inl (cI, 64, .inl (fun _ => 0))), (q8, .inl (cI, 64, .inl (fun _ => 0))), (q9, .inl (cI, 64, .inl (fun _ => 0))), (q10, .inl (cI, 64, .inl (fun _ => 0))), (q11, .inl (cI, 64, .inl (fun _ => 0))), (q12, .inl (cI, 64, .inl (fun _ => 0)))] H _ := hW
  refine va_put (D := D) (ci := 0) (v := .ref q12) (ty := .array .int) (C := RX0) (T := TX0) (N := 15) hx hb hta inA0 tyX0 tyX0_ok nmX0 hown hK hW.1 hW.2.1 hW.2.2 0 rfl rfl 12 (by decide) (hta _ kw_396) (fun _ h9 => h9) rfl (by decide +kernel) rfl rfl (Nat.le_of_ble_eq_true rfl) dX0_init_74 (fun H locs hP hD hS => ?_)
  have hW : wl D A s [(h0, .inr (0, [.null, .null, .int (-1), .int 2, .int 0, .int 0, .int 1, .ref q7, .ref q8, .ref q9, .ref q10, .ref q11, .ref q12, .null, .null])), (q7, .inl (cI, 64, .inl (fun _ => 0))), (q8, .inl (cI, 64, .inl (fun _ => 0))), (q9, .inl (cI, 64, .inl (fun _ => 0))), (q10, .inl (cI, 64, .inl (fun _ => 0))), (q11, .inl (cI, 64, .inl (fun _ => 0))), (q12, .inl (cI, 64, .inl (fun _ => 0)))] H locs := ⟨hP, hD, hS⟩
  refine lv_aload_n hx hb dX0_init_77 rfl (lv_at hl 0 rfl) ?_
  refine lv_bipush (v := (6 : Int32)) hx hb dX0_init_78 (by decide) ?_
  refine nwcI (N := 6) C0 hW rfl (by decide) (by decide) (Nat.le_of_ble_eq_true rfl) (Nat.le_of_ble_eq_true rfl) dX0_init_80 (fun q13 H hW => ?_)
  refine W.widen (k := 7) (n := 390) (Nat.le_of_ble_eq_true rfl) (Nat.le_of_ble_eq_true rfl) ?_
  have hW : wl D A s [(h0, .inr (0, [.null, .null, .int (-1), .int 2, .int 0, .int 0, .int 1, .ref q7, .ref q8, .ref q9, .ref q10, .ref q11, .ref q12, .null, .null])), (q7, .inl (cI, 64, .inl (fun _ => 0))), (q8, .inl (cI, 64, .inl (fun _ => 0))), (q9, .inl (cI, 64, .inl (fun _ => 0))), (q10, .inl (cI, 64, .inl (fun _ => 0))), (q11, .inl (cI, 64, .inl (fun _ => 0))), (q12, .inl (cI, 64, .inl (fun _ => 0))), (q13, .inl (cI, 6, .inl (fun _ => 0)))] H _ := hW
  refine va_putF (D := D) (ci := 0) (v := .ref q13) (ty := .array .int) (C := RX0) (T := TX0) (N := 15) hx hb hta inA0 tyX0 tyX0_ok nmX0 hown hK hW.1 hW.2.1 hW.2.2 0 rfl rfl 13 (by decide) (hta _ kw_399) (fun _ h9 => h9) rfl hin rfl (by decide +kernel) rfl rfl (Nat.le_of_ble_eq_true rfl) dX0_init_82 (fun H locs hP hD hS => ?_)
  have hW : wl D A s [(h0, .inr (0, [.null, .null, .int (-1), .int 2, .int 0, .int 0, .int 1, .ref q7, .ref q8, .ref q9, .ref q10, .ref q11, .ref q12, .ref q13, .null])), (q7, .inl (cI, 64, .inl (fun _ => 0))), (q8, .inl (cI, 64, .inl (fun _ => 0))), (q9, .inl (cI, 64, .inl (fun _ => 0))), (q10, .inl (cI, 64, .inl (fun _ => 0))), (q11, .inl (cI, 64, .inl (fun _ => 0))), (q12, .inl (cI, 64, .inl (fun _ => 0))), (q13, .inl (cI, 6, .inl (fun _ => 0)))] H locs := ⟨hP, hD, hS⟩
  refine lv_aload_n hx hb dX0_init_85 rfl (lv_at hl 0 rfl) ?_
  refine lv_bipush (v := (16 : Int32)) hx hb dX0_init_86 (by decide) ?_
  refine nwcI (N := 16) C0 hW rfl (by decide) (by decide) (Nat.le_of_ble_eq_true rfl) (Nat.le_of_ble_eq_true rfl) dX0_init_88 (fun q14 H hW => ?_)
  refine W.widen (k := 8) (n := 406) (Nat.le_of_ble_eq_true rfl) (Nat.le_of_ble_eq_true rfl) ?_
  have hW : wl D A s [(h0, .inr (0, [.null, .null, .int (-1), .int 2, .int 0, .int 0, .int 1, .ref q7, .ref q8, .ref q9, .ref q10, .ref q11, .ref q12, .ref q13, .null])), (q7, .inl (cI, 64, .inl (fun _ => 0))), (q8, .inl (cI, 64, .inl (fun _ => 0))), (q9, .inl (cI, 64, .inl (fun _ => 0))), (q10, .inl (cI, 64, .inl (fun _ => 0))), (q11, .inl (cI, 64, .inl (fun _ => 0))), (q12, .inl (cI, 64, .inl (fun _ => 0))), (q13, .inl (cI, 6, .inl (fun _ => 0))), (q14, .inl (cI, 16, .inl (fun _ => 0)))] H _ := hW
  refine va_putF (D := D) (ci := 0) (v := .ref q14) (ty := .array .int) (C := RX0) (T := TX0) (N := 15) hx hb hta inA0 tyX0 tyX0_ok nmX0 hown hK hW.1 hW.2.1 hW.2.2 0 rfl rfl 14 (by decide) (hta _ kw_401) (fun _ h9 => h9) rfl hin rfl (by decide +kernel) rfl rfl (Nat.le_of_ble_eq_true rfl) dX0_init_90 (fun H locs hP hD hS => ?_)
  have hW : wl D A s [(h0, .inr (0, [.null, .null, .int (-1), .int 2, .int 0, .int 0, .int 1, .ref q7, .ref q8, .ref q9, .ref q10, .ref q11, .ref q12, .ref q13, .ref q14])), (q7, .inl (cI, 64, .inl (fun _ => 0))), (q8, .inl (cI, 64, .inl (fun _ => 0))), (q9, .inl (cI, 64, .inl (fun _ => 0))), (q10, .inl (cI, 64, .inl (fun _ => 0))), (q11, .inl (cI, 64, .inl (fun _ => 0))), (q12, .inl (cI, 64, .inl (fun _ => 0))), (q13, .inl (cI, 6, .inl (fun _ => 0))), (q14, .inl (cI, 16, .inl (fun _ => 0)))] H locs := ⟨hP, hD, hS⟩
  refine lv_aload_n hx hb dX0_init_93 rfl (lv_at hl 0 rfl) ?_
  refine lv_aload_n hx hb dX0_init_94 rfl (lv_at hl 1 rfl) ?_
  refine va_putF (D := D) (ci := 0) (v := .ref o1) (ty := .object "GuardNets$House") (C := RX0) (T := TX0) (N := 15) hx hb hta inA0 tyX0 tyX0_ok nmX0 hown hK hW.1 hW.2.1 hW.2.2 0 rfl rfl 0 (by decide) (hta _ kw_382) (fun _ h9 => h9) rfl hin rfl (by decide +kernel) rfl rfl (Nat.le_of_ble_eq_true rfl) dX0_init_95 (fun H locs hP hD hS => ?_)
  have hW : wl D A s [(h0, .inr (0, [.ref o1, .null, .int (-1), .int 2, .int 0, .int 0, .int 1, .ref q7, .ref q8, .ref q9, .ref q10, .ref q11, .ref q12, .ref q13, .ref q14])), (q7, .inl (cI, 64, .inl (fun _ => 0))), (q8, .inl (cI, 64, .inl (fun _ => 0))), (q9, .inl (cI, 64, .inl (fun _ => 0))), (q10, .inl (cI, 64, .inl (fun _ => 0))), (q11, .inl (cI, 64, .inl (fun _ => 0))), (q12, .inl (cI, 64, .inl (fun _ => 0))), (q13, .inl (cI, 6, .inl (fun _ => 0))), (q14, .inl (cI, 16, .inl (fun _ => 0)))] H locs := ⟨hP, hD, hS⟩
  refine lv_aload_n hx hb dX0_init_98 rfl (lv_at hl 0 rfl) ?_
  refine lv_aload_n hx hb dX0_init_99 rfl (lv_at hl 2 rfl) ?_
  refine va_putF (D := D) (ci := 0) (v := .ref o2) (ty := .object "GuardNets$Tables") (C := RX0) (T := TX0) (N := 15) hx hb hta inA0 tyX0 tyX0_ok nmX0 hown hK hW.1 hW.2.1 hW.2.2 0 rfl rfl 1 (by decide) (hta _ kw_383) (fun _ h9 => h9) rfl hin rfl (by decide +kernel) rfl rfl (Nat.le_of_ble_eq_true rfl) dX0_init_100 (fun H locs hP hD hS => ?_)
  have hW : wl D A s [(h0, .inr (0, [.ref o1, .ref o2, .int (-1), .int 2, .int 0, .int 0, .int 1, .ref q7, .ref q8, .ref q9, .ref q10, .ref q11, .ref q12, .ref q13, .ref q14])), (q7, .inl (cI, 64, .inl (fun _ => 0))), (q8, .inl (cI, 64, .inl (fun _ => 0))), (q9, .inl (cI, 64, .inl (fun _ => 0))), (q10, .inl (cI, 64, .inl (fun _ => 0))), (q11, .inl (cI, 64, .inl (fun _ => 0))), (q12, .inl (cI, 64, .inl (fun _ => 0))), (q13, .inl (cI, 6, .inl (fun _ => 0))), (q14, .inl (cI, 16, .inl (fun _ => 0)))] H locs := ⟨hP, hD, hS⟩
  have hW : wl D A s (wC0 cI cJ cZ h0 o1 o2 (fun k => amOf [0, 0, 0, 0, 0, 0, 0, q7, q8, q9, q10, q11, q12, q13, q14] (k - 0))) H locs := hW
  exact W.vret hx hb B.returns (fun t ht hV => ⟨⟨(fun k => amOf [0, 0, 0, 0, 0, 0, 0, q7, q8, q9, q10, q11, q12, q13, q14] (k - 0)), rfl, trivial, by rw [ht]; exact hW.1, va_K.moved hV.alike hK, hW.2.1⟩, hW.2.2.F ht⟩) hW.2.2.2.2 dX0_init_103
def wC1 (cI cJ cZ : ClassId) (h0 o1 o2 : Nat) (q : Nat → Nat) : va_W := [(h0, .inr (1, [.ref o1, .ref o2, .ref (q 102), .ref (q 103), .int 0, .ref (q 105), .int 1, .ref (q 107)])), (q 102, .inl (cI, 40, .inl (fun _ => 0))), (q 103, .inl (cI, 40, .inl (fun _ => 0))), (q 105, .inl (cI, 64, .inl (fun _ => 0))), (q 107, .inl (cI, 8, .inl (fun _ => 0)))]
set_option maxHeartbeats 4000000 in
set_option maxRecDepth 100000 in
theorem c_ctor1 (l : Launch) {D : va_G} {cI cJ cZ cR : ClassId} (h0 o1 o2 sz : Nat) : Met l yX1_init (.code yX1_init cX1_init 3 none :: wsAll) ({ frames := 1, cells := 4, slots := 152, locals := 20 } : Room) (va_Pc [.ref h0, .ref o1, .ref o2] (prW D (tyX cI cJ cZ cR) [(h0, .inr (1, [.null, .null, .null, .null, .int 0, .null, .int 0, .null]))] sz)) (va_Qv (fun (_ : Nat → Nat) => True) (fun q => poW D (tyX cI cJ cZ cR) (wC1 cI cJ cZ h0 o1 o2 q) (va_A [(h0, .inr (1, [.null, .null, .null, .null, .int 0, .null, .int 0, .null]))] sz)) (va_A [(h0, .inr (1, [.null, .null, .null, .null, .int 0, .null, .int 0, .null]))] sz)) 4 152 (va_A [(h0, .inr (1, [.null, .null, .null, .null, .int 0, .null, .int 0, .null]))] sz) := by
  refine Met.ofW (cc := cX1_init) (maxL := 3) (ret := none) (by decide) rfl ?_
  intro p e s m args below meth c s₁ B hml hv
  obtain ⟨rfl, hsz, hP, hK, hD0⟩ := hv
  have hx := B.exec
  have hb := B.bytes
  have hts := atoms_spec (ws := (.code yX1_init cX1_init 3 none :: wsAll)) B.pre
  have hta := fun w h => hts w (List.mem_cons_of_mem _ h)
  have hown : s.vm.findClass RX1 = some m.cls := findClass_of_methodNamed B.named
  have hlocks := B.notSynchronized
  have hin : meth.name = "<init>" := (name_of_methodNamed B.named B.method).1
  subst hsz
  have hD := hD0.self (sz := s.heap.size)
  generalize hAe : va_A [(h0, .inr (1, [.null, .null, .null, .null, .int 0, .null, .int 0, .null]))] s.heap.size = A at hD ⊢
  have hA : ∀ q : Nat, s.heap.size ≤ q → A q := fun q h => by rw [← hAe]; exact Or.inr h
  have C0 : cx p s m ([.ref h0, .ref o1, .ref o2].toArray) meth c cX1_init RX1 3 none D (tyX cI cJ cZ cR) A := ⟨hx, hb, B.returns, hml, hown, hta, hlocks, hK, hA⟩
  have hW : wl D A s [(h0, .inr (1, [.null, .null, .null, .null, .int 0, .null, .int 0, .null]))] s.heap [] := ⟨hP, hD, va_S.rf⟩
  have hl := lv_entry [.ref h0, .ref o1, .ref o2] (n := 3) (Nat.le_of_ble_eq_true rfl)
  rw [lg_entry_eq]
  generalize (lg_sl [.ref h0, .ref o1, .ref o2] ++ List.replicate (3 - (lg_sl [.ref h0, .ref o1, .ref o2]).length) Slot.unset).toArray = ls at hl ⊢
  have hl : lv_has ls 3 [(0, .ref h0), (1, .ref o1), (2, .ref o2)] := hl
  refine lv_aload_n hx hb dX1_init_0 rfl (lv_at hl 0 rfl) ?_
  refine W.objInit hx hb hown (hta _ kw_532) (hta _ kw_146) (hta _ kw_147) rfl (by rw [hml]; exact hl.1) rfl dX1_init_1 (Nat.le_of_ble_eq_true rfl) (Nat.le_of_ble_eq_true rfl) ?_
  refine W.eq (g2 := F0 m 4 ls []) rfl ?_
  refine lv_aload_n hx hb dX1_init_4 rfl (lv_at hl 0 rfl) ?_
  refine lv_bipush (v := (40 : Int32)) hx hb dX1_init_5 (by decide) ?_
  refine nwcI (N := 40) C0 hW rfl (by decide) (by decide) (Nat.le_of_ble_eq_true rfl) (Nat.le_of_ble_eq_true rfl) dX1_init_7 (fun q102 H hW => ?_)
  refine W.widen (k := 1) (n := 40) (Nat.le_of_ble_eq_true rfl) (Nat.le_of_ble_eq_true rfl) ?_
  have hW : wl D A s [(h0, .inr (1, [.null, .null, .null, .null, .int 0, .null, .int 0, .null])), (q102, .inl (cI, 40, .inl (fun _ => 0)))] H _ := hW
  refine va_putF (D := D) (ci := 1) (v := .ref q102) (ty := .array .int) (C := RX1) (T := TX1) (N := 8) hx hb hta inA1 tyX1 tyX1_ok nmX1 hown hK hW.1 hW.2.1 hW.2.2 0 rfl rfl 2 (by decide) (hta _ kw_535) (fun _ h9 => h9) rfl hin rfl (by decide +kernel) rfl rfl (Nat.le_of_ble_eq_true rfl) dX1_init_9 (fun H locs hP hD hS => ?_)
  have hW : wl D A s [(h0, .inr (1, [.null, .null, .ref q102, .null, .int 0, .null, .int 0, .null])), (q102, .inl (cI, 40, .inl (fun _ => 0)))] H locs := ⟨hP, hD, hS⟩
  refine lv_aload_n hx hb dX1_init_12 rfl (lv_at hl 0 rfl) ?_
  refine lv_bipush (v := (40 : Int32)) hx hb dX1_init_13 (by decide) ?_
  refine nwcI (N := 40) C0 hW rfl (by decide) (by decide) (Nat.le_of_ble_eq_true rfl) (Nat.le_of_ble_eq_true rfl) dX1_init_15 (fun q103 H hW => ?_)
  refine W.widen (k := 2) (n := 80) (Nat.le_of_ble_eq_true rfl) (Nat.le_of_ble_eq_true rfl) ?_
  have hW : wl D A s [(h0, .inr (1, [.null, .null, .ref q102, .null, .int 0, .null, .int 0, .null])), (q102, .inl (cI, 40, .inl (fun _ => 0))), (q103, .inl (cI, 40, .inl (fun _ => 0)))] H _ := hW
  refine va_putF (D := D) (ci := 1) (v := .ref q103) (ty := .array .int) (C := RX1) (T := TX1) (N := 8) hx hb hta inA1 tyX1 tyX1_ok nmX1 hown hK hW.1 hW.2.1 hW.2.2 0 rfl rfl 3 (by decide) (hta _ kw_536) (fun _ h9 => h9) rfl hin rfl (by decide +kernel) rfl rfl (Nat.le_of_ble_eq_true rfl) dX1_init_17 (fun H locs hP hD hS => ?_)
  have hW : wl D A s [(h0, .inr (1, [.null, .null, .ref q102, .ref q103, .int 0, .null, .int 0, .null])), (q102, .inl (cI, 40, .inl (fun _ => 0))), (q103, .inl (cI, 40, .inl (fun _ => 0)))] H locs := ⟨hP, hD, hS⟩
  refine lv_aload_n hx hb dX1_init_20 rfl (lv_at hl 0 rfl) ?_
  refine lv_iconst (v := (0 : Int32)) hx hb dX1_init_21 (by decide) ?_
  refine va_put (D := D) (ci := 1) (v := .int 0) (ty := .int) (C := RX1) (T := TX1) (N := 8) hx hb hta inA1 tyX1 tyX1_ok nmX1 hown hK hW.1 hW.2.1 hW.2.2 0 rfl rfl 4 (by decide) (hta _ kw_537) (fun _ h9 => h9) rfl (by decide +kernel) rfl rfl (Nat.le_of_ble_eq_true rfl) dX1_init_22 (fun H locs hP hD hS => ?_)
  have hW : wl D A s [(h0, .inr (1, [.null, .null, .ref q102, .ref q103, .int 0, .null, .int 0, .null])), (q102, .inl (cI, 40, .inl (fun _ => 0))), (q103, .inl (cI, 40, .inl (fun _ => 0)))] H locs := ⟨hP, hD, hS⟩
  refine lv_aload_n hx hb dX1_init_25 rfl (lv_at hl 0 rfl) ?_
  refine lv_bipush (v := (64 : Int32)) hx hb dX1_init_26 (by decide) ?_
  refine nwcI (N := 64) C0 hW rfl (by decide) (by decide) (Nat.le_of_ble_eq_true rfl) (Nat.le_of_ble_eq_true rfl) dX1_init_28 (fun q105 H hW => ?_)
  refine W.widen (k := 3) (n := 144) (Nat.le_of_ble_eq_true rfl) (Nat.le_of_ble_eq_true rfl) ?_
  have hW : wl D A s [(h0, .inr (1, [.null, .null, .ref q102, .ref q103, .int 0, .null, .int 0, .null])), (q102, .inl (cI, 40, .inl (fun _ => 0))), (q103, .inl (cI, 40, .inl (fun _ => 0))), (q105, .inl (cI, 64, .inl (fun _ => 0)))] H _ := hW
  refine va_put (D := D) (ci := 1) (v := .ref q105) (ty := .array .int) (C := RX1) (T := TX1) (N := 8) hx hb hta inA1 tyX1 tyX1_ok nmX1 hown hK hW.1 hW.2.1 hW.2.2 0 rfl rfl 5 (by decide) (hta _ kw_539) (fun _ h9 => h9) rfl (by decide +kernel) rfl rfl (Nat.le_of_ble_eq_true rfl) dX1_init_30 (fun H locs hP hD hS => ?_)
  have hW : wl D A s [(h0, .inr (1, [.null, .null, .ref q102, .ref q103, .int 0, .ref q105, .int 0, .null])), (q102, .inl (cI, 40, .inl (fun _ => 0))), (q103, .inl (cI, 40, .inl (fun _ => 0))), (q105, .inl (cI, 64, .inl (fun _ => 0)))] H locs := ⟨hP, hD, hS⟩
  refine lv_aload_n hx hb dX1_init_33 rfl (lv_at hl 0 rfl) ?_
  refine lv_iconst (v := (1 : Int32)) hx hb dX1_init_34 (by decide) ?_
  refine va_put (D := D) (ci := 1) (v := .int 1) (ty := .int) (C := RX1) (T := TX1) (N := 8) hx hb hta inA1 tyX1 tyX1_ok nmX1 hown hK hW.1 hW.2.1 hW.2.2 0 rfl rfl 6 (by decide) (hta _ kw_540) (fun _ h9 => h9) rfl (by decide +kernel) rfl rfl (Nat.le_of_ble_eq_true rfl) dX1_init_35 (fun H locs hP hD hS => ?_)
  have hW : wl D A s [(h0, .inr (1, [.null, .null, .ref q102, .ref q103, .int 0, .ref q105, .int 1, .null])), (q102, .inl (cI, 40, .inl (fun _ => 0))), (q103, .inl (cI, 40, .inl (fun _ => 0))), (q105, .inl (cI, 64, .inl (fun _ => 0)))] H locs := ⟨hP, hD, hS⟩
  refine lv_aload_n hx hb dX1_init_38 rfl (lv_at hl 0 rfl) ?_
  refine lv_bipush (v := (8 : Int32)) hx hb dX1_init_39 (by decide) ?_
  refine nwcI (N := 8) C0 hW rfl (by decide) (by decide) (Nat.le_of_ble_eq_true rfl) (Nat.le_of_ble_eq_true rfl) dX1_init_41 (fun q107 H hW => ?_)
  refine W.widen (k := 4) (n := 152) (Nat.le_of_ble_eq_true rfl) (Nat.le_of_ble_eq_true rfl) ?_
  have hW : wl D A s [(h0, .inr (1, [.null, .null, .ref q102, .ref q103, .int 0, .ref q105, .int 1, .null])), (q102, .inl (cI, 40, .inl (fun _ => 0))), (q103, .inl (cI, 40, .inl (fun _ => 0))), (q105, .inl (cI, 64, .inl (fun _ => 0))), (q107, .inl (cI, 8, .inl (fun _ => 0)))] H _ := hW
  refine va_putF (D := D) (ci := 1) (v := .ref q107) (ty := .array .int) (C := RX1) (T := TX1) (N := 8) hx hb hta inA1 tyX1 tyX1_ok nmX1 hown hK hW.1 hW.2.1 hW.2.2 0 rfl rfl 7 (by decide) (hta _ kw_541) (fun _ h9 => h9) rfl hin rfl (by decide +kernel) rfl rfl (Nat.le_of_ble_eq_true rfl) dX1_init_43 (fun H locs hP hD hS => ?_)
  have hW : wl D A s [(h0, .inr (1, [.null, .null, .ref q102, .ref q103, .int 0, .ref q105, .int 1, .ref q107])), (q102, .inl (cI, 40, .inl (fun _ => 0))), (q103, .inl (cI, 40, .inl (fun _ => 0))), (q105, .inl (cI, 64, .inl (fun _ => 0))), (q107, .inl (cI, 8, .inl (fun _ => 0)))] H locs := ⟨hP, hD, hS⟩
  refine lv_aload_n hx hb dX1_init_46 rfl (lv_at hl 0 rfl) ?_
  refine lv_aload_n hx hb dX1_init_47 rfl (lv_at hl 1 rfl) ?_
  refine va_putF (D := D) (ci := 1) (v := .ref o1) (ty := .object "GuardNets$House") (C := RX1) (T := TX1) (N := 8) hx hb hta inA1 tyX1 tyX1_ok nmX1 hown hK hW.1 hW.2.1 hW.2.2 0 rfl rfl 0 (by decide) (hta _ kw_533) (fun _ h9 => h9) rfl hin rfl (by decide +kernel) rfl rfl (Nat.le_of_ble_eq_true rfl) dX1_init_48 (fun H locs hP hD hS => ?_)
  have hW : wl D A s [(h0, .inr (1, [.ref o1, .null, .ref q102, .ref q103, .int 0, .ref q105, .int 1, .ref q107])), (q102, .inl (cI, 40, .inl (fun _ => 0))), (q103, .inl (cI, 40, .inl (fun _ => 0))), (q105, .inl (cI, 64, .inl (fun _ => 0))), (q107, .inl (cI, 8, .inl (fun _ => 0)))] H locs := ⟨hP, hD, hS⟩
  refine lv_aload_n hx hb dX1_init_51 rfl (lv_at hl 0 rfl) ?_
  refine lv_aload_n hx hb dX1_init_52 rfl (lv_at hl 2 rfl) ?_
  refine va_putF (D := D) (ci := 1) (v := .ref o2) (ty := .object "GuardNets$Nets") (C := RX1) (T := TX1) (N := 8) hx hb hta inA1 tyX1 tyX1_ok nmX1 hown hK hW.1 hW.2.1 hW.2.2 0 rfl rfl 1 (by decide) (hta _ kw_534) (fun _ h9 => h9) rfl hin rfl (by decide +kernel) rfl rfl (Nat.le_of_ble_eq_true rfl) dX1_init_53 (fun H locs hP hD hS => ?_)
  have hW : wl D A s [(h0, .inr (1, [.ref o1, .ref o2, .ref q102, .ref q103, .int 0, .ref q105, .int 1, .ref q107])), (q102, .inl (cI, 40, .inl (fun _ => 0))), (q103, .inl (cI, 40, .inl (fun _ => 0))), (q105, .inl (cI, 64, .inl (fun _ => 0))), (q107, .inl (cI, 8, .inl (fun _ => 0)))] H locs := ⟨hP, hD, hS⟩
  have hW : wl D A s (wC1 cI cJ cZ h0 o1 o2 (fun k => amOf [0, 0, q102, q103, 0, q105, 0, q107] (k - 100))) H locs := hW
  exact W.vret hx hb B.returns (fun t ht hV => ⟨⟨(fun k => amOf [0, 0, q102, q103, 0, q105, 0, q107] (k - 100)), rfl, trivial, by rw [ht]; exact hW.1, va_K.moved hV.alike hK, hW.2.1⟩, hW.2.2.F ht⟩) hW.2.2.2.2 dX1_init_56
def wC2 (cI cJ cZ : ClassId) (h0 : Nat) (q : Nat → Nat) : va_W := [(h0, .inr (2, [.ref (q 200), .ref (q 201)])), (q 200, .inl (cI, 6, .inl (fun _ => 0))), (q 201, .inl (cI, 6, .inl (upd (fun _ => 0) 0 1)))]
set_option maxHeartbeats 4000000 in
set_option maxRecDepth 100000 in
theorem c_ctor2 (l : Launch) {D : va_G} {cI cJ cZ cR : ClassId} (h0 sz : Nat) : Met l yX2_init (.code yX2_init cX2_init 1 none :: wsAll) ({ frames := 1, cells := 2, slots := 12, locals := 20 } : Room) (va_Pc [.ref h0] (prW D (tyX cI cJ cZ cR) [(h0, .inr (2, [.null, .null]))] sz)) (va_Qv (fun (_ : Nat → Nat) => True) (fun q => poW D (tyX cI cJ cZ cR) (wC2 cI cJ cZ h0 q) (va_A [(h0, .inr (2, [.null, .null]))] sz)) (va_A [(h0, .inr (2, [.null, .null]))] sz)) 2 12 (va_A [(h0, .inr (2, [.null, .null]))] sz) := by
  refine Met.ofW (cc := cX2_init) (maxL := 1) (ret := none) (by decide) rfl ?_
  intro p e s m args below meth c s₁ B hml hv
  obtain ⟨rfl, hsz, hP, hK, hD0⟩ := hv
  have hx := B.exec
  have hb := B.bytes
  have hts := atoms_spec (ws := (.code yX2_init cX2_init 1 none :: wsAll)) B.pre
  have hta := fun w h => hts w (List.mem_cons_of_mem _ h)
  have hown : s.vm.findClass RX2 = some m.cls := findClass_of_methodNamed B.named
  have hlocks := B.notSynchronized
  have hin : meth.name = "<init>" := (name_of_methodNamed B.named B.method).1
  subst hsz
  have hD := hD0.self (sz := s.heap.size)
  generalize hAe : va_A [(h0, .inr (2, [.null, .null]))] s.heap.size = A at hD ⊢
  have hA : ∀ q : Nat, s.heap.size ≤ q → A q := fun q h => by rw [← hAe]; exact Or.inr h
  have C0 : cx p s m ([.ref h0].toArray) meth c cX2_init RX2 1 none D (tyX cI cJ cZ cR) A := ⟨hx, hb, B.returns, hml, hown, hta, hlocks, hK, hA⟩
  have hW : wl D A s [(h0, .inr (2, [.null, .null]))] s.heap [] := ⟨hP, hD, va_S.rf⟩
  have hl := lv_entry [.ref h0] (n := 1) (Nat.le_of_ble_eq_true rfl)
  rw [lg_entry_eq]
  generalize (lg_sl [.ref h0] ++ List.replicate (1 - (lg_sl [.ref h0]).length) Slot.unset).toArray = ls at hl ⊢
  have hl : lv_has ls 1 [(0, .ref h0)] := hl
  refine lv_aload_n hx hb dX2_init_0 rfl (lv_at hl 0 rfl) ?_
  refine W.objInit hx hb hown (hta _ kw_368) (hta _ kw_146) (hta _ kw_147) rfl (by rw [hml]; exact hl.1) rfl dX2_init_1 (Nat.le_of_ble_eq_true rfl) (Nat.le_of_ble_eq_true rfl) ?_
  refine W.eq (g2 := F0 m 4 ls []) rfl ?_
  refine lv_aload_n hx hb dX2_init_4 rfl (lv_at hl 0 rfl) ?_
  refine lv_bipush (v := (6 : Int32)) hx hb dX2_init_5 (by decide) ?_
  refine nwcI (N := 6) C0 hW rfl (by decide) (by decide) (Nat.le_of_ble_eq_true rfl) (Nat.le_of_ble_eq_true rfl) dX2_init_7 (fun q200 H hW => ?_)
  refine W.widen (k := 1) (n := 6) (Nat.le_of_ble_eq_true rfl) (Nat.le_of_ble_eq_true rfl) ?_
  have hW : wl D A s [(h0, .inr (2, [.null, .null])), (q200, .inl (cI, 6, .inl (fun _ => 0)))] H _ := hW
  refine va_putF (D := D) (ci := 2) (v := .ref q200) (ty := .array .int) (C := RX2) (T := TX2) (N := 2) hx hb hta inA2 tyX2 tyX2_ok nmX2 hown hK hW.1 hW.2.1 hW.2.2 0 rfl rfl 0 (by decide) (hta _ kw_369) (fun _ h9 => h9) rfl hin rfl (by decide +kernel) rfl rfl (Nat.le_of_ble_eq_true rfl) dX2_init_9 (fun H locs hP hD hS => ?_)
  have hW : wl D A s [(h0, .inr (2, [.ref q200, .null])), (q200, .inl (cI, 6, .inl (fun _ => 0)))] H locs := ⟨hP, hD, hS⟩
  refine lv_aload_n hx hb dX2_init_12 rfl (lv_at hl 0 rfl) ?_
  refine lv_bipush (v := (6 : Int32)) hx hb dX2_init_13 (by decide) ?_
  refine nwcI (N := 6) C0 hW rfl (by decide) (by decide) (Nat.le_of_ble_eq_true rfl) (Nat.le_of_ble_eq_true rfl) dX2_init_15 (fun q201 H hW => ?_)
  refine W.widen (k := 2) (n := 12) (Nat.le_of_ble_eq_true rfl) (Nat.le_of_ble_eq_true rfl) ?_
  have hW : wl D A s [(h0, .inr (2, [.ref q200, .null])), (q200, .inl (cI, 6, .inl (fun _ => 0))), (q201, .inl (cI, 6, .inl (fun _ => 0)))] H _ := hW
  refine va_putF (D := D) (ci := 2) (v := .ref q201) (ty := .array .int) (C := RX2) (T := TX2) (N := 2) hx hb hta inA2 tyX2 tyX2_ok nmX2 hown hK hW.1 hW.2.1 hW.2.2 0 rfl rfl 1 (by decide) (hta _ kw_370) (fun _ h9 => h9) rfl hin rfl (by decide +kernel) rfl rfl (Nat.le_of_ble_eq_true rfl) dX2_init_17 (fun H locs hP hD hS => ?_)
  have hW : wl D A s [(h0, .inr (2, [.ref q200, .ref q201])), (q200, .inl (cI, 6, .inl (fun _ => 0))), (q201, .inl (cI, 6, .inl (fun _ => 0)))] H locs := ⟨hP, hD, hS⟩
  refine lv_aload_n hx hb dX2_init_20 rfl (lv_at hl 0 rfl) ?_
  refine va_get (D := D) (ci := 2) (v := .ref q201) (C := RX2) (T := TX2) (N := 2) hx hb hta inA2 hown hK hW.1 0 rfl rfl 1 (by decide) (hta _ kw_370) (fun _ h9 => h9) rfl dX2_init_21 ?_
  refine lv_iconst (v := (0 : Int32)) hx hb dX2_init_24 (by decide) ?_
  refine lv_iconst (v := (1 : Int32)) hx hb dX2_init_25 (by decide) ?_
  refine va_iast hx hb hK hW.1 hW.2.1 hW.2.2 2 0 rfl rfl (by unfold vp_in; decide) dX2_init_26 (fun H locs hP hD hS => ?_)
  have hW : wl D A s [(h0, .inr (2, [.ref q200, .ref q201])), (q200, .inl (cI, 6, .inl (fun _ => 0))), (q201, .inl (cI, 6, .inl (upd (fun _ => 0) 0 1)))] H locs := ⟨hP, hD, hS⟩
  have hW : wl D A s (wC2 cI cJ cZ h0 (fun k => amOf [q200, q201] (k - 200))) H locs := hW
  exact W.vret hx hb B.returns (fun t ht hV => ⟨⟨(fun k => amOf [q200, q201] (k - 200)), rfl, trivial, by rw [ht]; exact hW.1, va_K.moved hV.alike hK, hW.2.1⟩, hW.2.2.F ht⟩) hW.2.2.2.2 dX2_init_27
def wC3 (cI cJ cZ : ClassId) (h0 o1 : Nat) (q : Nat → Nat) : va_W := [(h0, .inr (3, [.ref o1, .ref (q 301), .int 0, .ref (q 303), .ref (q 304), .ref (q 305), .int 0, .int 0, .long 1, .long 0, .long 1])), (q 301, .inl (cI, 96, .inl (fun _ => 0))), (q 303, .inl (cJ, 175, .inr (.inl (fun _ => 0)))), (q 304, .inl (cI, 6, .inl (fun _ => 0))), (q 305, .inl (cI, 24, .inl (fun _ => 0)))]
set_option maxHeartbeats 4000000 in
set_option maxRecDepth 100000 in
theorem c_ctor3 (l : Launch) {D : va_G} {cI cJ cZ cR : ClassId} (h0 o1 sz : Nat) : Met l yX3_init (.code yX3_init cX3_init 2 none :: wsAll) ({ frames := 1, cells := 4, slots := 301, locals := 20 } : Room) (va_Pc [.ref h0, .ref o1] (prW D (tyX cI cJ cZ cR) [(h0, .inr (3, [.null, .null, .int 0, .null, .null, .null, .int 0, .int 0, .long 0, .long 0, .long 0]))] sz)) (va_Qv (fun (_ : Nat → Nat) => True) (fun q => poW D (tyX cI cJ cZ cR) (wC3 cI cJ cZ h0 o1 q) (va_A [(h0, .inr (3, [.null, .null, .int 0, .null, .null, .null, .int 0, .int 0, .long 0, .long 0, .long 0]))] sz)) (va_A [(h0, .inr (3, [.null, .null, .int 0, .null, .null, .null, .int 0, .int 0, .long 0, .long 0, .long 0]))] sz)) 4 301 (va_A [(h0, .inr (3, [.null, .null, .int 0, .null, .null, .null, .int 0, .int 0, .long 0, .long 0, .long 0]))] sz) := by
  refine Met.ofW (cc := cX3_init) (maxL := 2) (ret := none) (by decide) rfl ?_
  intro p e s m args below meth c s₁ B hml hv
  obtain ⟨rfl, hsz, hP, hK, hD0⟩ := hv
  have hx := B.exec
  have hb := B.bytes
  have hts := atoms_spec (ws := (.code yX3_init cX3_init 2 none :: wsAll)) B.pre
  have hta := fun w h => hts w (List.mem_cons_of_mem _ h)
  have hown : s.vm.findClass RX3 = some m.cls := findClass_of_methodNamed B.named
  have hlocks := B.notSynchronized
  have hin : meth.name = "<init>" := (name_of_methodNamed B.named B.method).1
  subst hsz
  have hD := hD0.self (sz := s.heap.size)
  generalize hAe : va_A [(h0, .inr (3, [.null, .null, .int 0, .null, .null, .null, .int 0, .int 0, .long 0, .long 0, .long 0]))] s.heap.size = A at hD ⊢
  have hA : ∀ q : Nat, s.heap.size ≤ q → A q := fun q h => by rw [← hAe]; exact Or.inr h
  have C0 : cx p s m ([.ref h0, .ref o1].toArray) meth c cX3_init RX3 2 none D (tyX cI cJ cZ cR) A := ⟨hx, hb, B.returns, hml, hown, hta, hlocks, hK, hA⟩
  have hW : wl D A s [(h0, .inr (3, [.null, .null, .int 0, .null, .null, .null, .int 0, .int 0, .long 0, .long 0, .long 0]))] s.heap [] := ⟨hP, hD, va_S.rf⟩
  have hl := lv_entry [.ref h0, .ref o1] (n := 2) (Nat.le_of_ble_eq_true rfl)
  rw [lg_entry_eq]
  generalize (lg_sl [.ref h0, .ref o1] ++ List.replicate (2 - (lg_sl [.ref h0, .ref o1]).length) Slot.unset).toArray = ls at hl ⊢
  have hl : lv_has ls 2 [(0, .ref h0), (1, .ref o1)] := hl
  refine lv_aload_n hx hb dX3_init_0 rfl (lv_at hl 0 rfl) ?_
  refine W.objInit hx hb hown (hta _ kw_489) (hta _ kw_146) (hta _ kw_147) rfl (by rw [hml]; exact hl.1) rfl dX3_init_1 (Nat.le_of_ble_eq_true rfl) (Nat.le_of_ble_eq_true rfl) ?_
  refine W.eq (g2 := F0 m 4 ls []) rfl ?_
  refine lv_aload_n hx hb dX3_init_4 rfl (lv_at hl 0 rfl) ?_
  refine lv_bipush (v := (96 : Int32)) hx hb dX3_init_5 (by decide) ?_
  refine nwcI (N := 96) C0 hW rfl (by decide) (by decide) (Nat.le_of_ble_eq_true rfl) (Nat.le_of_ble_eq_true rfl) dX3_init_7 (fun q301 H hW => ?_)
  refine W.widen (k := 1) (n := 96) (Nat.le_of_ble_eq_true rfl) (Nat.le_of_ble_eq_true rfl) ?_
  have hW : wl D A s [(h0, .inr (3, [.null, .null, .int 0, .null, .null, .null, .int 0, .int 0, .long 0, .long 0, .long 0])), (q301, .inl (cI, 96, .inl (fun _ => 0)))] H _ := hW
  refine va_putF (D := D) (ci := 3) (v := .ref q301) (ty := .array .int) (C := RX3) (T := TX3) (N := 11) hx hb hta inA3 tyX3 tyX3_ok nmX3 hown hK hW.1 hW.2.1 hW.2.2 0 rfl rfl 1 (by decide) (hta _ kw_491) (fun _ h9 => h9) rfl hin rfl (by decide +kernel) rfl rfl (Nat.le_of_ble_eq_true rfl) dX3_init_9 (fun H locs hP hD hS => ?_)
  have hW : wl D A s [(h0, .inr (3, [.null, .ref q301, .int 0, .null, .null, .null, .int 0, .int 0, .long 0, .long 0, .long 0])), (q301, .inl (cI, 96, .inl (fun _ => 0)))] H locs := ⟨hP, hD, hS⟩
  refine lv_aload_n hx hb dX3_init_12 rfl (lv_at hl 0 rfl) ?_
  refine lv_iconst (v := (0 : Int32)) hx hb dX3_init_13 (by decide) ?_
  refine va_put (D := D) (ci := 3) (v := .int 0) (ty := .int) (C := RX3) (T := TX3) (N := 11) hx hb hta inA3 tyX3 tyX3_ok nmX3 hown hK hW.1 hW.2.1 hW.2.2 0 rfl rfl 2 (by decide) (hta _ kw_492) (fun _ h9 => h9) rfl (by decide +kernel) rfl rfl (Nat.le_of_ble_eq_true rfl) dX3_init_14 (fun H locs hP hD hS => ?_)
  have hW : wl D A s [(h0, .inr (3, [.null, .ref q301, .int 0, .null, .null, .null, .int 0, .int 0, .long 0, .long 0, .long 0])), (q301, .inl (cI, 96, .inl (fun _ => 0)))] H locs := ⟨hP, hD, hS⟩
  refine lv_aload_n hx hb dX3_init_17 rfl (lv_at hl 0 rfl) ?_
  refine lv_sipush (v := (175 : Int32)) hx hb dX3_init_18 (by decide) ?_
  refine nwcJ (N := 175) C0 hW rfl (by decide) (by decide) (Nat.le_of_ble_eq_true rfl) (Nat.le_of_ble_eq_true rfl) dX3_init_21 (fun q303 H hW => ?_)
  refine W.widen (k := 2) (n := 271) (Nat.le_of_ble_eq_true rfl) (Nat.le_of_ble_eq_true rfl) ?_
  have hW : wl D A s [(h0, .inr (3, [.null, .ref q301, .int 0, .null, .null, .null, .int 0, .int 0, .long 0, .long 0, .long 0])), (q301, .inl (cI, 96, .inl (fun _ => 0))), (q303, .inl (cJ, 175, .inr (.inl (fun _ => 0))))] H _ := hW
  refine va_putF (D := D) (ci := 3) (v := .ref q303) (ty := .array .long) (C := RX3) (T := TX3) (N := 11) hx hb hta inA3 tyX3 tyX3_ok nmX3 hown hK hW.1 hW.2.1 hW.2.2 0 rfl rfl 3 (by decide) (hta _ kw_494) (fun _ h9 => h9) rfl hin rfl (by decide +kernel) rfl rfl (Nat.le_of_ble_eq_true rfl) dX3_init_23 (fun H locs hP hD hS => ?_)
  have hW : wl D A s [(h0, .inr (3, [.null, .ref q301, .int 0, .ref q303, .null, .null, .int 0, .int 0, .long 0, .long 0, .long 0])), (q301, .inl (cI, 96, .inl (fun _ => 0))), (q303, .inl (cJ, 175, .inr (.inl (fun _ => 0))))] H locs := ⟨hP, hD, hS⟩
  refine lv_aload_n hx hb dX3_init_26 rfl (lv_at hl 0 rfl) ?_
  refine lv_bipush (v := (6 : Int32)) hx hb dX3_init_27 (by decide) ?_
  refine nwcI (N := 6) C0 hW rfl (by decide) (by decide) (Nat.le_of_ble_eq_true rfl) (Nat.le_of_ble_eq_true rfl) dX3_init_29 (fun q304 H hW => ?_)
  refine W.widen (k := 3) (n := 277) (Nat.le_of_ble_eq_true rfl) (Nat.le_of_ble_eq_true rfl) ?_
  have hW : wl D A s [(h0, .inr (3, [.null, .ref q301, .int 0, .ref q303, .null, .null, .int 0, .int 0, .long 0, .long 0, .long 0])), (q301, .inl (cI, 96, .inl (fun _ => 0))), (q303, .inl (cJ, 175, .inr (.inl (fun _ => 0)))), (q304, .inl (cI, 6, .inl (fun _ => 0)))] H _ := hW
  refine va_putF (D := D) (ci := 3) (v := .ref q304) (ty := .array .int) (C := RX3) (T := TX3) (N := 11) hx hb hta inA3 tyX3 tyX3_ok nmX3 hown hK hW.1 hW.2.1 hW.2.2 0 rfl rfl 4 (by decide) (hta _ kw_495) (fun _ h9 => h9) rfl hin rfl (by decide +kernel) rfl rfl (Nat.le_of_ble_eq_true rfl) dX3_init_31 (fun H locs hP hD hS => ?_)
  have hW : wl D A s [(h0, .inr (3, [.null, .ref q301, .int 0, .ref q303, .ref q304, .null, .int 0, .int 0, .long 0, .long 0, .long 0])), (q301, .inl (cI, 96, .inl (fun _ => 0))), (q303, .inl (cJ, 175, .inr (.inl (fun _ => 0)))), (q304, .inl (cI, 6, .inl (fun _ => 0)))] H locs := ⟨hP, hD, hS⟩
  refine lv_aload_n hx hb dX3_init_34 rfl (lv_at hl 0 rfl) ?_
  refine lv_bipush (v := (24 : Int32)) hx hb dX3_init_35 (by decide) ?_
  refine nwcI (N := 24) C0 hW rfl (by decide) (by decide) (Nat.le_of_ble_eq_true rfl) (Nat.le_of_ble_eq_true rfl) dX3_init_37 (fun q305 H hW => ?_)
  refine W.widen (k := 4) (n := 301) (Nat.le_of_ble_eq_true rfl) (Nat.le_of_ble_eq_true rfl) ?_
  have hW : wl D A s [(h0, .inr (3, [.null, .ref q301, .int 0, .ref q303, .ref q304, .null, .int 0, .int 0, .long 0, .long 0, .long 0])), (q301, .inl (cI, 96, .inl (fun _ => 0))), (q303, .inl (cJ, 175, .inr (.inl (fun _ => 0)))), (q304, .inl (cI, 6, .inl (fun _ => 0))), (q305, .inl (cI, 24, .inl (fun _ => 0)))] H _ := hW
  refine va_putF (D := D) (ci := 3) (v := .ref q305) (ty := .array .int) (C := RX3) (T := TX3) (N := 11) hx hb hta inA3 tyX3 tyX3_ok nmX3 hown hK hW.1 hW.2.1 hW.2.2 0 rfl rfl 5 (by decide) (hta _ kw_496) (fun _ h9 => h9) rfl hin rfl (by decide +kernel) rfl rfl (Nat.le_of_ble_eq_true rfl) dX3_init_39 (fun H locs hP hD hS => ?_)
  have hW : wl D A s [(h0, .inr (3, [.null, .ref q301, .int 0, .ref q303, .ref q304, .ref q305, .int 0, .int 0, .long 0, .long 0, .long 0])), (q301, .inl (cI, 96, .inl (fun _ => 0))), (q303, .inl (cJ, 175, .inr (.inl (fun _ => 0)))), (q304, .inl (cI, 6, .inl (fun _ => 0))), (q305, .inl (cI, 24, .inl (fun _ => 0)))] H locs := ⟨hP, hD, hS⟩
  refine lv_aload_n hx hb dX3_init_42 rfl (lv_at hl 0 rfl) ?_
  refine lv_iconst (v := (0 : Int32)) hx hb dX3_init_43 (by decide) ?_
  refine va_put (D := D) (ci := 3) (v := .int 0) (ty := .int) (C := RX3) (T := TX3) (N := 11) hx hb hta inA3 tyX3 tyX3_ok nmX3 hown hK hW.1 hW.2.1 hW.2.2 0 rfl rfl 6 (by decide) (hta _ kw_497) (fun _ h9 => h9) rfl (by decide +kernel) rfl rfl (Nat.le_of_ble_eq_true rfl) dX3_init_44 (fun H locs hP hD hS => ?_)
  have hW : wl D A s [(h0, .inr (3, [.null, .ref q301, .int 0, .ref q303, .ref q304, .ref q305, .int 0, .int 0, .long 0, .long 0, .long 0])), (q301, .inl (cI, 96, .inl (fun _ => 0))), (q303, .inl (cJ, 175, .inr (.inl (fun _ => 0)))), (q304, .inl (cI, 6, .inl (fun _ => 0))), (q305, .inl (cI, 24, .inl (fun _ => 0)))] H locs := ⟨hP, hD, hS⟩
  refine lv_aload_n hx hb dX3_init_47 rfl (lv_at hl 0 rfl) ?_
  refine lv_iconst (v := (0 : Int32)) hx hb dX3_init_48 (by decide) ?_
  refine va_put (D := D) (ci := 3) (v := .int 0) (ty := .int) (C := RX3) (T := TX3) (N := 11) hx hb hta inA3 tyX3 tyX3_ok nmX3 hown hK hW.1 hW.2.1 hW.2.2 0 rfl rfl 7 (by decide) (hta _ kw_498) (fun _ h9 => h9) rfl (by decide +kernel) rfl rfl (Nat.le_of_ble_eq_true rfl) dX3_init_49 (fun H locs hP hD hS => ?_)
  have hW : wl D A s [(h0, .inr (3, [.null, .ref q301, .int 0, .ref q303, .ref q304, .ref q305, .int 0, .int 0, .long 0, .long 0, .long 0])), (q301, .inl (cI, 96, .inl (fun _ => 0))), (q303, .inl (cJ, 175, .inr (.inl (fun _ => 0)))), (q304, .inl (cI, 6, .inl (fun _ => 0))), (q305, .inl (cI, 24, .inl (fun _ => 0)))] H locs := ⟨hP, hD, hS⟩
  refine lv_aload_n hx hb dX3_init_52 rfl (lv_at hl 0 rfl) ?_
  refine lv_lconst (v := (1 : Int64)) hx hb dX3_init_53 (by decide) ?_
  refine va_put (D := D) (ci := 3) (v := .long 1) (ty := .long) (C := RX3) (T := TX3) (N := 11) hx hb hta inA3 tyX3 tyX3_ok nmX3 hown hK hW.1 hW.2.1 hW.2.2 0 rfl rfl 8 (by decide) (hta _ kw_499) (fun _ h9 => h9) rfl (by decide +kernel) rfl rfl (Nat.le_of_ble_eq_true rfl) dX3_init_54 (fun H locs hP hD hS => ?_)
  have hW : wl D A s [(h0, .inr (3, [.null, .ref q301, .int 0, .ref q303, .ref q304, .ref q305, .int 0, .int 0, .long 1, .long 0, .long 0])), (q301, .inl (cI, 96, .inl (fun _ => 0))), (q303, .inl (cJ, 175, .inr (.inl (fun _ => 0)))), (q304, .inl (cI, 6, .inl (fun _ => 0))), (q305, .inl (cI, 24, .inl (fun _ => 0)))] H locs := ⟨hP, hD, hS⟩
  refine lv_aload_n hx hb dX3_init_57 rfl (lv_at hl 0 rfl) ?_
  refine lv_lconst (v := (0 : Int64)) hx hb dX3_init_58 (by decide) ?_
  refine va_put (D := D) (ci := 3) (v := .long 0) (ty := .long) (C := RX3) (T := TX3) (N := 11) hx hb hta inA3 tyX3 tyX3_ok nmX3 hown hK hW.1 hW.2.1 hW.2.2 0 rfl rfl 9 (by decide) (hta _ kw_500) (fun _ h9 => h9) rfl (by decide +kernel) rfl rfl (Nat.le_of_ble_eq_true rfl) dX3_init_59 (fun H locs hP hD hS => ?_)
  have hW : wl D A s [(h0, .inr (3, [.null, .ref q301, .int 0, .ref q303, .ref q304, .ref q305, .int 0, .int 0, .long 1, .long 0, .long 0])), (q301, .inl (cI, 96, .inl (fun _ => 0))), (q303, .inl (cJ, 175, .inr (.inl (fun _ => 0)))), (q304, .inl (cI, 6, .inl (fun _ => 0))), (q305, .inl (cI, 24, .inl (fun _ => 0)))] H locs := ⟨hP, hD, hS⟩
  refine lv_aload_n hx hb dX3_init_62 rfl (lv_at hl 0 rfl) ?_
  refine lv_lconst (v := (1 : Int64)) hx hb dX3_init_63 (by decide) ?_
  refine va_put (D := D) (ci := 3) (v := .long 1) (ty := .long) (C := RX3) (T := TX3) (N := 11) hx hb hta inA3 tyX3 tyX3_ok nmX3 hown hK hW.1 hW.2.1 hW.2.2 0 rfl rfl 10 (by decide) (hta _ kw_502) (fun _ h9 => h9) rfl (by decide +kernel) rfl rfl (Nat.le_of_ble_eq_true rfl) dX3_init_64 (fun H locs hP hD hS => ?_)
  have hW : wl D A s [(h0, .inr (3, [.null, .ref q301, .int 0, .ref q303, .ref q304, .ref q305, .int 0, .int 0, .long 1, .long 0, .long 1])), (q301, .inl (cI, 96, .inl (fun _ => 0))), (q303, .inl (cJ, 175, .inr (.inl (fun _ => 0)))), (q304, .inl (cI, 6, .inl (fun _ => 0))), (q305, .inl (cI, 24, .inl (fun _ => 0)))] H locs := ⟨hP, hD, hS⟩
  refine lv_aload_n hx hb dX3_init_67 rfl (lv_at hl 0 rfl) ?_
  refine lv_aload_n hx hb dX3_init_68 rfl (lv_at hl 1 rfl) ?_
  refine va_putF (D := D) (ci := 3) (v := .ref o1) (ty := .object "GuardNets$Ways") (C := RX3) (T := TX3) (N := 11) hx hb hta inA3 tyX3 tyX3_ok nmX3 hown hK hW.1 hW.2.1 hW.2.2 0 rfl rfl 0 (by decide) (hta _ kw_490) (fun _ h9 => h9) rfl hin rfl (by decide +kernel) rfl rfl (Nat.le_of_ble_eq_true rfl) dX3_init_69 (fun H locs hP hD hS => ?_)
  have hW : wl D A s [(h0, .inr (3, [.ref o1, .ref q301, .int 0, .ref q303, .ref q304, .ref q305, .int 0, .int 0, .long 1, .long 0, .long 1])), (q301, .inl (cI, 96, .inl (fun _ => 0))), (q303, .inl (cJ, 175, .inr (.inl (fun _ => 0)))), (q304, .inl (cI, 6, .inl (fun _ => 0))), (q305, .inl (cI, 24, .inl (fun _ => 0)))] H locs := ⟨hP, hD, hS⟩
  have hW : wl D A s (wC3 cI cJ cZ h0 o1 (fun k => amOf [0, q301, 0, q303, q304, q305, 0, 0, 0, 0, 0] (k - 300))) H locs := hW
  exact W.vret hx hb B.returns (fun t ht hV => ⟨⟨(fun k => amOf [0, q301, 0, q303, q304, q305, 0, 0, 0, 0, 0] (k - 300)), rfl, trivial, by rw [ht]; exact hW.1, va_K.moved hV.alike hK, hW.2.1⟩, hW.2.2.F ht⟩) hW.2.2.2.2 dX3_init_72
def wC4 (cI cJ cZ : ClassId) (h0 o1 o2 : Nat) (q : Nat → Nat) : va_W := [(h0, .inr (4, [.ref o1, .ref o2, .int 0, .ref (q 403), .ref (q 404), .ref (q 405), .ref (q 406), .ref (q 407), .int 0, .int (-1), .int 1, .int 0])), (q 403, .inl (cI, 1, .inl (fun _ => 0))), (q 404, .inl (cI, 1, .inl (fun _ => 0))), (q 405, .inl (cI, 1, .inl (fun _ => 0))), (q 406, .inl (cI, 1, .inl (fun _ => 0))), (q 407, .inl (cI, 1, .inl (fun _ => 0)))]
set_option maxHeartbeats 4000000 in
set_option maxRecDepth 100000 in
theorem c_ctor4 (l : Launch) {D : va_G} {cI cJ cZ cR : ClassId} (h0 o1 o2 sz : Nat) : Met l yX4_init (.code yX4_init cX4_init 3 none :: wsAll) ({ frames := 1, cells := 5, slots := 5, locals := 20 } : Room) (va_Pc [.ref h0, .ref o1, .ref o2] (prW D (tyX cI cJ cZ cR) [(h0, .inr (4, [.null, .null, .int 0, .null, .null, .null, .null, .null, .int 0, .int 0, .int 0, .int 0]))] sz)) (va_Qv (fun (_ : Nat → Nat) => True) (fun q => poW D (tyX cI cJ cZ cR) (wC4 cI cJ cZ h0 o1 o2 q) (va_A [(h0, .inr (4, [.null, .null, .int 0, .null, .null, .null, .null, .null, .int 0, .int 0, .int 0, .int 0]))] sz)) (va_A [(h0, .inr (4, [.null, .null, .int 0, .null, .null, .null, .null, .null, .int 0, .int 0, .int 0, .int 0]))] sz)) 5 5 (va_A [(h0, .inr (4, [.null, .null, .int 0, .null, .null, .null, .null, .null, .int 0, .int 0, .int 0, .int 0]))] sz) := by
  refine Met.ofW (cc := cX4_init) (maxL := 3) (ret := none) (by decide) rfl ?_
  intro p e s m args below meth c s₁ B hml hv
  obtain ⟨rfl, hsz, hP, hK, hD0⟩ := hv
  have hx := B.exec
  have hb := B.bytes
  have hts := atoms_spec (ws := (.code yX4_init cX4_init 3 none :: wsAll)) B.pre
  have hta := fun w h => hts w (List.mem_cons_of_mem _ h)
  have hown : s.vm.findClass RX4 = some m.cls := findClass_of_methodNamed B.named
  have hlocks := B.notSynchronized
  have hin : meth.name = "<init>" := (name_of_methodNamed B.named B.method).1
  subst hsz
  have hD := hD0.self (sz := s.heap.size)
  generalize hAe : va_A [(h0, .inr (4, [.null, .null, .int 0, .null, .null, .null, .null, .null, .int 0, .int 0, .int 0, .int 0]))] s.heap.size = A at hD ⊢
  have hA : ∀ q : Nat, s.heap.size ≤ q → A q := fun q h => by rw [← hAe]; exact Or.inr h
  have C0 : cx p s m ([.ref h0, .ref o1, .ref o2].toArray) meth c cX4_init RX4 3 none D (tyX cI cJ cZ cR) A := ⟨hx, hb, B.returns, hml, hown, hta, hlocks, hK, hA⟩
  have hW : wl D A s [(h0, .inr (4, [.null, .null, .int 0, .null, .null, .null, .null, .null, .int 0, .int 0, .int 0, .int 0]))] s.heap [] := ⟨hP, hD, va_S.rf⟩
  have hl := lv_entry [.ref h0, .ref o1, .ref o2] (n := 3) (Nat.le_of_ble_eq_true rfl)
  rw [lg_entry_eq]
  generalize (lg_sl [.ref h0, .ref o1, .ref o2] ++ List.replicate (3 - (lg_sl [.ref h0, .ref o1, .ref o2]).length) Slot.unset).toArray = ls at hl ⊢
  have hl : lv_has ls 3 [(0, .ref h0), (1, .ref o1), (2, .ref o2)] := hl
  refine lv_aload_n hx hb dX4_init_0 rfl (lv_at hl 0 rfl) ?_
  refine W.objInit hx hb hown (hta _ kw_438) (hta _ kw_146) (hta _ kw_147) rfl (by rw [hml]; exact hl.1) rfl dX4_init_1 (Nat.le_of_ble_eq_true rfl) (Nat.le_of_ble_eq_true rfl) ?_
  refine W.eq (g2 := F0 m 4 ls []) rfl ?_
  refine lv_aload_n hx hb dX4_init_4 rfl (lv_at hl 0 rfl) ?_
  refine lv_iconst (v := (0 : Int32)) hx hb dX4_init_5 (by decide) ?_
  refine va_put (D := D) (ci := 4) (v := .int 0) (ty := .int) (C := RX4) (T := TX4) (N := 12) hx hb hta inA4 tyX4 tyX4_ok nmX4 hown hK hW.1 hW.2.1 hW.2.2 0 rfl rfl 2 (by decide) (hta _ kw_441) (fun _ h9 => h9) rfl (by decide +kernel) rfl rfl (Nat.le_of_ble_eq_true rfl) dX4_init_6 (fun H locs hP hD hS => ?_)
  have hW : wl D A s [(h0, .inr (4, [.null, .null, .int 0, .null, .null, .null, .null, .null, .int 0, .int 0, .int 0, .int 0]))] H locs := ⟨hP, hD, hS⟩
  refine lv_aload_n hx hb dX4_init_9 rfl (lv_at hl 0 rfl) ?_
  refine lv_iconst (v := (1 : Int32)) hx hb dX4_init_10 (by decide) ?_
  refine nwcI (N := 1) C0 hW rfl (by decide) (by decide) (Nat.le_of_ble_eq_true rfl) (Nat.le_of_ble_eq_true rfl) dX4_init_11 (fun q403 H hW => ?_)
  refine W.widen (k := 1) (n := 1) (Nat.le_of_ble_eq_true rfl) (Nat.le_of_ble_eq_true rfl) ?_
  have hW : wl D A s [(h0, .inr (4, [.null, .null, .int 0, .null, .null, .null, .null, .null, .int 0, .int 0, .int 0, .int 0])), (q403, .inl (cI, 1, .inl (fun _ => 0)))] H _ := hW
  refine va_put (D := D) (ci := 4) (v := .ref q403) (ty := .array .int) (C := RX4) (T := TX4) (N := 12) hx hb hta inA4 tyX4 tyX4_ok nmX4 hown hK hW.1 hW.2.1 hW.2.2 0 rfl rfl 3 (by decide) (hta _ kw_443) (fun _ h9 => h9) rfl (by decide +kernel) rfl rfl (Nat.le_of_ble_eq_true rfl) dX4_init_13 (fun H locs hP hD hS => ?_)
  have hW : wl D A s [(h0, .inr (4, [.null, .null, .int 0, .ref q403, .null, .null, .null, .null, .int 0, .int 0, .int 0, .int 0])), (q403, .inl (cI, 1, .inl (fun _ => 0)))] H locs := ⟨hP, hD, hS⟩
  refine lv_aload_n hx hb dX4_init_16 rfl (lv_at hl 0 rfl) ?_
  refine lv_iconst (v := (1 : Int32)) hx hb dX4_init_17 (by decide) ?_
  refine nwcI (N := 1) C0 hW rfl (by decide) (by decide) (Nat.le_of_ble_eq_true rfl) (Nat.le_of_ble_eq_true rfl) dX4_init_18 (fun q404 H hW => ?_)
  refine W.widen (k := 2) (n := 2) (Nat.le_of_ble_eq_true rfl) (Nat.le_of_ble_eq_true rfl) ?_
  have hW : wl D A s [(h0, .inr (4, [.null, .null, .int 0, .ref q403, .null, .null, .null, .null, .int 0, .int 0, .int 0, .int 0])), (q403, .inl (cI, 1, .inl (fun _ => 0))), (q404, .inl (cI, 1, .inl (fun _ => 0)))] H _ := hW
  refine va_put (D := D) (ci := 4) (v := .ref q404) (ty := .array .int) (C := RX4) (T := TX4) (N := 12) hx hb hta inA4 tyX4 tyX4_ok nmX4 hown hK hW.1 hW.2.1 hW.2.2 0 rfl rfl 4 (by decide) (hta _ kw_445) (fun _ h9 => h9) rfl (by decide +kernel) rfl rfl (Nat.le_of_ble_eq_true rfl) dX4_init_20 (fun H locs hP hD hS => ?_)
  have hW : wl D A s [(h0, .inr (4, [.null, .null, .int 0, .ref q403, .ref q404, .null, .null, .null, .int 0, .int 0, .int 0, .int 0])), (q403, .inl (cI, 1, .inl (fun _ => 0))), (q404, .inl (cI, 1, .inl (fun _ => 0)))] H locs := ⟨hP, hD, hS⟩
  refine lv_aload_n hx hb dX4_init_23 rfl (lv_at hl 0 rfl) ?_
  refine lv_iconst (v := (1 : Int32)) hx hb dX4_init_24 (by decide) ?_
  refine nwcI (N := 1) C0 hW rfl (by decide) (by decide) (Nat.le_of_ble_eq_true rfl) (Nat.le_of_ble_eq_true rfl) dX4_init_25 (fun q405 H hW => ?_)
  refine W.widen (k := 3) (n := 3) (Nat.le_of_ble_eq_true rfl) (Nat.le_of_ble_eq_true rfl) ?_
  have hW : wl D A s [(h0, .inr (4, [.null, .null, .int 0, .ref q403, .ref q404, .null, .null, .null, .int 0, .int 0, .int 0, .int 0])), (q403, .inl (cI, 1, .inl (fun _ => 0))), (q404, .inl (cI, 1, .inl (fun _ => 0))), (q405, .inl (cI, 1, .inl (fun _ => 0)))] H _ := hW
  refine va_put (D := D) (ci := 4) (v := .ref q405) (ty := .array .int) (C := RX4) (T := TX4) (N := 12) hx hb hta inA4 tyX4 tyX4_ok nmX4 hown hK hW.1 hW.2.1 hW.2.2 0 rfl rfl 5 (by decide) (hta _ kw_447) (fun _ h9 => h9) rfl (by decide +kernel) rfl rfl (Nat.le_of_ble_eq_true rfl) dX4_init_27 (fun H locs hP hD hS => ?_)
  have hW : wl D A s [(h0, .inr (4, [.null, .null, .int 0, .ref q403, .ref q404, .ref q405, .null, .null, .int 0, .int 0, .int 0, .int 0])), (q403, .inl (cI, 1, .inl (fun _ => 0))), (q404, .inl (cI, 1, .inl (fun _ => 0))), (q405, .inl (cI, 1, .inl (fun _ => 0)))] H locs := ⟨hP, hD, hS⟩
  refine lv_aload_n hx hb dX4_init_30 rfl (lv_at hl 0 rfl) ?_
  refine lv_iconst (v := (1 : Int32)) hx hb dX4_init_31 (by decide) ?_
  refine nwcI (N := 1) C0 hW rfl (by decide) (by decide) (Nat.le_of_ble_eq_true rfl) (Nat.le_of_ble_eq_true rfl) dX4_init_32 (fun q406 H hW => ?_)
  refine W.widen (k := 4) (n := 4) (Nat.le_of_ble_eq_true rfl) (Nat.le_of_ble_eq_true rfl) ?_
  have hW : wl D A s [(h0, .inr (4, [.null, .null, .int 0, .ref q403, .ref q404, .ref q405, .null, .null, .int 0, .int 0, .int 0, .int 0])), (q403, .inl (cI, 1, .inl (fun _ => 0))), (q404, .inl (cI, 1, .inl (fun _ => 0))), (q405, .inl (cI, 1, .inl (fun _ => 0))), (q406, .inl (cI, 1, .inl (fun _ => 0)))] H _ := hW
  refine va_put (D := D) (ci := 4) (v := .ref q406) (ty := .array .int) (C := RX4) (T := TX4) (N := 12) hx hb hta inA4 tyX4 tyX4_ok nmX4 hown hK hW.1 hW.2.1 hW.2.2 0 rfl rfl 6 (by decide) (hta _ kw_449) (fun _ h9 => h9) rfl (by decide +kernel) rfl rfl (Nat.le_of_ble_eq_true rfl) dX4_init_34 (fun H locs hP hD hS => ?_)
  have hW : wl D A s [(h0, .inr (4, [.null, .null, .int 0, .ref q403, .ref q404, .ref q405, .ref q406, .null, .int 0, .int 0, .int 0, .int 0])), (q403, .inl (cI, 1, .inl (fun _ => 0))), (q404, .inl (cI, 1, .inl (fun _ => 0))), (q405, .inl (cI, 1, .inl (fun _ => 0))), (q406, .inl (cI, 1, .inl (fun _ => 0)))] H locs := ⟨hP, hD, hS⟩
  refine lv_aload_n hx hb dX4_init_37 rfl (lv_at hl 0 rfl) ?_
  refine lv_iconst (v := (1 : Int32)) hx hb dX4_init_38 (by decide) ?_
  refine nwcI (N := 1) C0 hW rfl (by decide) (by decide) (Nat.le_of_ble_eq_true rfl) (Nat.le_of_ble_eq_true rfl) dX4_init_39 (fun q407 H hW => ?_)
  refine W.widen (k := 5) (n := 5) (Nat.le_of_ble_eq_true rfl) (Nat.le_of_ble_eq_true rfl) ?_
  have hW : wl D A s [(h0, .inr (4, [.null, .null, .int 0, .ref q403, .ref q404, .ref q405, .ref q406, .null, .int 0, .int 0, .int 0, .int 0])), (q403, .inl (cI, 1, .inl (fun _ => 0))), (q404, .inl (cI, 1, .inl (fun _ => 0))), (q405, .inl (cI, 1, .inl (fun _ => 0))), (q406, .inl (cI, 1, .inl (fun _ => 0))), (q407, .inl (cI, 1, .inl (fun _ => 0)))] H _ := hW
  refine va_put (D := D) (ci := 4) (v := .ref q407) (ty := .array .int) (C := RX4) (T := TX4) (N := 12) hx hb hta inA4 tyX4 tyX4_ok nmX4 hown hK hW.1 hW.2.1 hW.2.2 0 rfl rfl 7 (by decide) (hta _ kw_451) (fun _ h9 => h9) rfl (by decide +kernel) rfl rfl (Nat.le_of_ble_eq_true rfl) dX4_init_41 (fun H locs hP hD hS => ?_)
  have hW : wl D A s [(h0, .inr (4, [.null, .null, .int 0, .ref q403, .ref q404, .ref q405, .ref q406, .ref q407, .int 0, .int 0, .int 0, .int 0])), (q403, .inl (cI, 1, .inl (fun _ => 0))), (q404, .inl (cI, 1, .inl (fun _ => 0))), (q405, .inl (cI, 1, .inl (fun _ => 0))), (q406, .inl (cI, 1, .inl (fun _ => 0))), (q407, .inl (cI, 1, .inl (fun _ => 0)))] H locs := ⟨hP, hD, hS⟩
  refine lv_aload_n hx hb dX4_init_44 rfl (lv_at hl 0 rfl) ?_
  refine lv_iconst (v := (0 : Int32)) hx hb dX4_init_45 (by decide) ?_
  refine va_put (D := D) (ci := 4) (v := .int 0) (ty := .int) (C := RX4) (T := TX4) (N := 12) hx hb hta inA4 tyX4 tyX4_ok nmX4 hown hK hW.1 hW.2.1 hW.2.2 0 rfl rfl 8 (by decide) (hta _ kw_452) (fun _ h9 => h9) rfl (by decide +kernel) rfl rfl (Nat.le_of_ble_eq_true rfl) dX4_init_46 (fun H locs hP hD hS => ?_)
  have hW : wl D A s [(h0, .inr (4, [.null, .null, .int 0, .ref q403, .ref q404, .ref q405, .ref q406, .ref q407, .int 0, .int 0, .int 0, .int 0])), (q403, .inl (cI, 1, .inl (fun _ => 0))), (q404, .inl (cI, 1, .inl (fun _ => 0))), (q405, .inl (cI, 1, .inl (fun _ => 0))), (q406, .inl (cI, 1, .inl (fun _ => 0))), (q407, .inl (cI, 1, .inl (fun _ => 0)))] H locs := ⟨hP, hD, hS⟩
  refine lv_aload_n hx hb dX4_init_49 rfl (lv_at hl 0 rfl) ?_
  refine lv_iconst (v := (-1 : Int32)) hx hb dX4_init_50 (by decide) ?_
  refine va_put (D := D) (ci := 4) (v := .int (-1)) (ty := .int) (C := RX4) (T := TX4) (N := 12) hx hb hta inA4 tyX4 tyX4_ok nmX4 hown hK hW.1 hW.2.1 hW.2.2 0 rfl rfl 9 (by decide) (hta _ kw_454) (fun _ h9 => h9) rfl (by decide +kernel) rfl rfl (Nat.le_of_ble_eq_true rfl) dX4_init_51 (fun H locs hP hD hS => ?_)
  have hW : wl D A s [(h0, .inr (4, [.null, .null, .int 0, .ref q403, .ref q404, .ref q405, .ref q406, .ref q407, .int 0, .int (-1), .int 0, .int 0])), (q403, .inl (cI, 1, .inl (fun _ => 0))), (q404, .inl (cI, 1, .inl (fun _ => 0))), (q405, .inl (cI, 1, .inl (fun _ => 0))), (q406, .inl (cI, 1, .inl (fun _ => 0))), (q407, .inl (cI, 1, .inl (fun _ => 0)))] H locs := ⟨hP, hD, hS⟩
  refine lv_aload_n hx hb dX4_init_54 rfl (lv_at hl 0 rfl) ?_
  refine lv_iconst (v := (1 : Int32)) hx hb dX4_init_55 (by decide) ?_
  refine va_put (D := D) (ci := 4) (v := .int 1) (ty := .int) (C := RX4) (T := TX4) (N := 12) hx hb hta inA4 tyX4 tyX4_ok nmX4 hown hK hW.1 hW.2.1 hW.2.2 0 rfl rfl 10 (by decide) (hta _ kw_455) (fun _ h9 => h9) rfl (by decide +kernel) rfl rfl (Nat.le_of_ble_eq_true rfl) dX4_init_56 (fun H locs hP hD hS => ?_)
  have hW : wl D A s [(h0, .inr (4, [.null, .null, .int 0, .ref q403, .ref q404, .ref q405, .ref q406, .ref q407, .int 0, .int (-1), .int 1, .int 0])), (q403, .inl (cI, 1, .inl (fun _ => 0))), (q404, .inl (cI, 1, .inl (fun _ => 0))), (q405, .inl (cI, 1, .inl (fun _ => 0))), (q406, .inl (cI, 1, .inl (fun _ => 0))), (q407, .inl (cI, 1, .inl (fun _ => 0)))] H locs := ⟨hP, hD, hS⟩
  refine lv_aload_n hx hb dX4_init_59 rfl (lv_at hl 0 rfl) ?_
  refine lv_iconst (v := (0 : Int32)) hx hb dX4_init_60 (by decide) ?_
  refine va_put (D := D) (ci := 4) (v := .int 0) (ty := .int) (C := RX4) (T := TX4) (N := 12) hx hb hta inA4 tyX4 tyX4_ok nmX4 hown hK hW.1 hW.2.1 hW.2.2 0 rfl rfl 11 (by decide) (hta _ kw_457) (fun _ h9 => h9) rfl (by decide +kernel) rfl rfl (Nat.le_of_ble_eq_true rfl) dX4_init_61 (fun H locs hP hD hS => ?_)
  have hW : wl D A s [(h0, .inr (4, [.null, .null, .int 0, .ref q403, .ref q404, .ref q405, .ref q406, .ref q407, .int 0, .int (-1), .int 1, .int 0])), (q403, .inl (cI, 1, .inl (fun _ => 0))), (q404, .inl (cI, 1, .inl (fun _ => 0))), (q405, .inl (cI, 1, .inl (fun _ => 0))), (q406, .inl (cI, 1, .inl (fun _ => 0))), (q407, .inl (cI, 1, .inl (fun _ => 0)))] H locs := ⟨hP, hD, hS⟩
  refine lv_aload_n hx hb dX4_init_64 rfl (lv_at hl 0 rfl) ?_
  refine lv_aload_n hx hb dX4_init_65 rfl (lv_at hl 1 rfl) ?_
  refine va_putF (D := D) (ci := 4) (v := .ref o1) (ty := .object "GuardNets$Tables") (C := RX4) (T := TX4) (N := 12) hx hb hta inA4 tyX4 tyX4_ok nmX4 hown hK hW.1 hW.2.1 hW.2.2 0 rfl rfl 0 (by decide) (hta _ kw_439) (fun _ h9 => h9) rfl hin rfl (by decide +kernel) rfl rfl (Nat.le_of_ble_eq_true rfl) dX4_init_66 (fun H locs hP hD hS => ?_)
  have hW : wl D A s [(h0, .inr (4, [.ref o1, .null, .int 0, .ref q403, .ref q404, .ref q405, .ref q406, .ref q407, .int 0, .int (-1), .int 1, .int 0])), (q403, .inl (cI, 1, .inl (fun _ => 0))), (q404, .inl (cI, 1, .inl (fun _ => 0))), (q405, .inl (cI, 1, .inl (fun _ => 0))), (q406, .inl (cI, 1, .inl (fun _ => 0))), (q407, .inl (cI, 1, .inl (fun _ => 0)))] H locs := ⟨hP, hD, hS⟩
  refine lv_aload_n hx hb dX4_init_69 rfl (lv_at hl 0 rfl) ?_
  refine lv_aload_n hx hb dX4_init_70 rfl (lv_at hl 2 rfl) ?_
  refine va_putF (D := D) (ci := 4) (v := .ref o2) (ty := .object "GuardNets$Diagram") (C := RX4) (T := TX4) (N := 12) hx hb hta inA4 tyX4 tyX4_ok nmX4 hown hK hW.1 hW.2.1 hW.2.2 0 rfl rfl 1 (by decide) (hta _ kw_440) (fun _ h9 => h9) rfl hin rfl (by decide +kernel) rfl rfl (Nat.le_of_ble_eq_true rfl) dX4_init_71 (fun H locs hP hD hS => ?_)
  have hW : wl D A s [(h0, .inr (4, [.ref o1, .ref o2, .int 0, .ref q403, .ref q404, .ref q405, .ref q406, .ref q407, .int 0, .int (-1), .int 1, .int 0])), (q403, .inl (cI, 1, .inl (fun _ => 0))), (q404, .inl (cI, 1, .inl (fun _ => 0))), (q405, .inl (cI, 1, .inl (fun _ => 0))), (q406, .inl (cI, 1, .inl (fun _ => 0))), (q407, .inl (cI, 1, .inl (fun _ => 0)))] H locs := ⟨hP, hD, hS⟩
  have hW : wl D A s (wC4 cI cJ cZ h0 o1 o2 (fun k => amOf [0, 0, 0, q403, q404, q405, q406, q407, 0, 0, 0, 0] (k - 400))) H locs := hW
  exact W.vret hx hb B.returns (fun t ht hV => ⟨⟨(fun k => amOf [0, 0, 0, q403, q404, q405, q406, q407, 0, 0, 0, 0] (k - 400)), rfl, trivial, by rw [ht]; exact hW.1, va_K.moved hV.alike hK, hW.2.1⟩, hW.2.2.F ht⟩) hW.2.2.2.2 dX4_init_74
def wC6 (cI cJ cZ : ClassId) (h0 : Nat) (q : Nat → Nat) : va_W := [(h0, .inr (6, [.ref (q 600), .int 0, .ref (q 602), .ref (q 603), .ref (q 604), .ref (q 605), .ref (q 606), .ref (q 607), .ref (q 608), .int 0, .int 0, .ref (q 611), .ref (q 612), .ref (q 613)])), (q 600, .inl (cI, 80, .inl (fun _ => 0))), (q 603, .inl (cI, 330, .inl (fun _ => 0))), (q 604, .inl (cI, 330, .inl (fun _ => 0))), (q 605, .inl (cI, 330, .inl (fun _ => 0))), (q 606, .inl (cI, 330, .inl (fun _ => 0))), (q 607, .inl (cI, 330, .inl (fun _ => 0))), (q 608, .inl (cI, 512, .inl (fun _ => 0))), (q 611, .inl (cZ, 330, .inl (fun _ => 0))), (q 612, .inl (cI, 330, .inl (fun _ => 0))), (q 613, .inl (cI, 8, .inl (fun _ => 0))), (q 602, .inl (cI, 10, .inl (upd (upd (upd (upd (upd (upd (upd (upd (upd (upd (fun _ => 0) 0 (-1)) 1 (-1)) 2 (-1)) 3 (-1)) 4 (-1)) 5 (-1)) 6 (-1)) 7 (-1)) 8 (-1)) 9 (-1))))]
set_option maxHeartbeats 4000000 in
set_option maxRecDepth 100000 in
theorem c_ctor6 (l : Launch) {D : va_G} {cI cJ cZ cR : ClassId} (h0 sz : Nat) : Met l yX6_init (.code yX6_init cX6_init 1 none :: wsAll) ({ frames := 1, cells := 11, slots := 2920, locals := 23 } : Room) (va_Pc [.ref h0] (prW D (tyX cI cJ cZ cR) [(h0, .inr (6, [.null, .int 0, .null, .null, .null, .null, .null, .null, .null, .int 0, .int 0, .null, .null, .null]))] sz)) (va_Qv (fun (_ : Nat → Nat) => True) (fun q => poW D (tyX cI cJ cZ cR) (wC6 cI cJ cZ h0 q) (va_A [(h0, .inr (6, [.null, .int 0, .null, .null, .null, .null, .null, .null, .null, .int 0, .int 0, .null, .null, .null]))] sz)) (va_A [(h0, .inr (6, [.null, .int 0, .null, .null, .null, .null, .null, .null, .null, .int 0, .int 0, .null, .null, .null]))] sz)) 11 2920 (va_A [(h0, .inr (6, [.null, .int 0, .null, .null, .null, .null, .null, .null, .null, .int 0, .int 0, .null, .null, .null]))] sz) := by
  refine Met.ofW (cc := cX6_init) (maxL := 1) (ret := none) (by decide) rfl ?_
  intro p e s m args below meth c s₁ B hml hv
  obtain ⟨rfl, hsz, hP, hK, hD0⟩ := hv
  have hx := B.exec
  have hb := B.bytes
  have hts := atoms_spec (ws := (.code yX6_init cX6_init 1 none :: wsAll)) B.pre
  have hta := fun w h => hts w (List.mem_cons_of_mem _ h)
  have hown : s.vm.findClass RX6 = some m.cls := findClass_of_methodNamed B.named
  have hlocks := B.notSynchronized
  have hin : meth.name = "<init>" := (name_of_methodNamed B.named B.method).1
  subst hsz
  have hD := hD0.self (sz := s.heap.size)
  generalize hAe : va_A [(h0, .inr (6, [.null, .int 0, .null, .null, .null, .null, .null, .null, .null, .int 0, .int 0, .null, .null, .null]))] s.heap.size = A at hD ⊢
  have hA : ∀ q : Nat, s.heap.size ≤ q → A q := fun q h => by rw [← hAe]; exact Or.inr h
  have C0 : cx p s m ([.ref h0].toArray) meth c cX6_init RX6 1 none D (tyX cI cJ cZ cR) A := ⟨hx, hb, B.returns, hml, hown, hta, hlocks, hK, hA⟩
  have hW : wl D A s [(h0, .inr (6, [.null, .int 0, .null, .null, .null, .null, .null, .null, .null, .int 0, .int 0, .null, .null, .null]))] s.heap [] := ⟨hP, hD, va_S.rf⟩
  have hl := lv_entry [.ref h0] (n := 1) (Nat.le_of_ble_eq_true rfl)
  rw [lg_entry_eq]
  generalize (lg_sl [.ref h0] ++ List.replicate (1 - (lg_sl [.ref h0]).length) Slot.unset).toArray = ls at hl ⊢
  have hl : lv_has ls 1 [(0, .ref h0)] := hl
  refine lv_aload_n hx hb dX6_init_0 rfl (lv_at hl 0 rfl) ?_
  refine W.objInit hx hb hown (hta _ kw_174) (hta _ kw_146) (hta _ kw_147) rfl (by rw [hml]; exact hl.1) rfl dX6_init_1 (Nat.le_of_ble_eq_true rfl) (Nat.le_of_ble_eq_true rfl) ?_
  refine W.eq (g2 := F0 m 4 ls []) rfl ?_
  refine lv_aload_n hx hb dX6_init_4 rfl (lv_at hl 0 rfl) ?_
  refine lv_bipush (v := (80 : Int32)) hx hb dX6_init_5 (by decide) ?_
  refine nwcI (N := 80) C0 hW rfl (by decide) (by decide) (Nat.le_of_ble_eq_true rfl) (Nat.le_of_ble_eq_true rfl) dX6_init_7 (fun q600 H hW => ?_)
  refine W.widen (k := 1) (n := 80) (Nat.le_of_ble_eq_true rfl) (Nat.le_of_ble_eq_true rfl) ?_
  have hW : wl D A s [(h0, .inr (6, [.null, .int 0, .null, .null, .null, .null, .null, .null, .null, .int 0, .int 0, .null, .null, .null])), (q600, .inl (cI, 80, .inl (fun _ => 0)))] H _ := hW
  refine va_putF (D := D) (ci := 6) (v := .ref q600) (ty := .array .int) (C := RX6) (T := TX6) (N := 14) hx hb hta inA6 tyX6 tyX6_ok nmX6 hown hK hW.1 hW.2.1 hW.2.2 0 rfl rfl 0 (by decide) (hta _ kw_178) (fun _ h9 => h9) rfl hin rfl (by decide +kernel) rfl rfl (Nat.le_of_ble_eq_true rfl) dX6_init_9 (fun H locs hP hD hS => ?_)
  have hW : wl D A s [(h0, .inr (6, [.ref q600, .int 0, .null, .null, .null, .null, .null, .null, .null, .int 0, .int 0, .null, .null, .null])), (q600, .inl (cI, 80, .inl (fun _ => 0)))] H locs := ⟨hP, hD, hS⟩
  refine lv_aload_n hx hb dX6_init_12 rfl (lv_at hl 0 rfl) ?_
  refine lv_iconst (v := (0 : Int32)) hx hb dX6_init_13 (by decide) ?_
  refine va_put (D := D) (ci := 6) (v := .int 0) (ty := .int) (C := RX6) (T := TX6) (N := 14) hx hb hta inA6 tyX6 tyX6_ok nmX6 hown hK hW.1 hW.2.1 hW.2.2 0 rfl rfl 1 (by decide) (hta _ kw_180) (fun _ h9 => h9) rfl (by decide +kernel) rfl rfl (Nat.le_of_ble_eq_true rfl) dX6_init_14 (fun H locs hP hD hS => ?_)
  have hW : wl D A s [(h0, .inr (6, [.ref q600, .int 0, .null, .null, .null, .null, .null, .null, .null, .int 0, .int 0, .null, .null, .null])), (q600, .inl (cI, 80, .inl (fun _ => 0)))] H locs := ⟨hP, hD, hS⟩
  refine lv_aload_n hx hb dX6_init_17 rfl (lv_at hl 0 rfl) ?_
  refine lv_bipush (v := (10 : Int32)) hx hb dX6_init_18 (by decide) ?_
  refine nwcI (N := 10) C0 hW rfl (by decide) (by decide) (Nat.le_of_ble_eq_true rfl) (Nat.le_of_ble_eq_true rfl) dX6_init_20 (fun q602 H hW => ?_)
  refine W.widen (k := 2) (n := 90) (Nat.le_of_ble_eq_true rfl) (Nat.le_of_ble_eq_true rfl) ?_
  have hW : wl D A s [(h0, .inr (6, [.ref q600, .int 0, .null, .null, .null, .null, .null, .null, .null, .int 0, .int 0, .null, .null, .null])), (q600, .inl (cI, 80, .inl (fun _ => 0))), (q602, .inl (cI, 10, .inl (fun _ => 0)))] H _ := hW
  refine va_putF (D := D) (ci := 6) (v := .ref q602) (ty := .array .int) (C := RX6) (T := TX6) (N := 14) hx hb hta inA6 tyX6 tyX6_ok nmX6 hown hK hW.1 hW.2.1 hW.2.2 0 rfl rfl 2 (by decide) (hta _ kw_183) (fun _ h9 => h9) rfl hin rfl (by decide +kernel) rfl rfl (Nat.le_of_ble_eq_true rfl) dX6_init_22 (fun H locs hP hD hS => ?_)
  have hW : wl D A s [(h0, .inr (6, [.ref q600, .int 0, .ref q602, .null, .null, .null, .null, .null, .null, .int 0, .int 0, .null, .null, .null])), (q600, .inl (cI, 80, .inl (fun _ => 0))), (q602, .inl (cI, 10, .inl (fun _ => 0)))] H locs := ⟨hP, hD, hS⟩
  refine lv_aload_n hx hb dX6_init_25 rfl (lv_at hl 0 rfl) ?_
  refine lv_sipush (v := (330 : Int32)) hx hb dX6_init_26 (by decide) ?_
  refine nwcI (N := 330) C0 hW rfl (by decide) (by decide) (Nat.le_of_ble_eq_true rfl) (Nat.le_of_ble_eq_true rfl) dX6_init_29 (fun q603 H hW => ?_)
  refine W.widen (k := 3) (n := 420) (Nat.le_of_ble_eq_true rfl) (Nat.le_of_ble_eq_true rfl) ?_
  have hW : wl D A s [(h0, .inr (6, [.ref q600, .int 0, .ref q602, .null, .null, .null, .null, .null, .null, .int 0, .int 0, .null, .null, .null])), (q600, .inl (cI, 80, .inl (fun _ => 0))), (q602, .inl (cI, 10, .inl (fun _ => 0))), (q603, .inl (cI, 330, .inl (fun _ => 0)))] H _ := hW
  refine va_putF (D := D) (ci := 6) (v := .ref q603) (ty := .array .int) (C := RX6) (T := TX6) (N := 14) hx hb hta inA6 tyX6 tyX6_ok nmX6 hown hK hW.1 hW.2.1 hW.2.2 0 rfl rfl 3 (by decide) (hta _ kw_186) (fun _ h9 => h9) rfl hin rfl (by decide +kernel) rfl rfl (Nat.le_of_ble_eq_true rfl) dX6_init_31 (fun H locs hP hD hS => ?_)
  have hW : wl D A s [(h0, .inr (6, [.ref q600, .int 0, .ref q602, .ref q603, .null, .null, .null, .null, .null, .int 0, .int 0, .null, .null, .null])), (q600, .inl (cI, 80, .inl (fun _ => 0))), (q602, .inl (cI, 10, .inl (fun _ => 0))), (q603, .inl (cI, 330, .inl (fun _ => 0)))] H locs := ⟨hP, hD, hS⟩
  refine lv_aload_n hx hb dX6_init_34 rfl (lv_at hl 0 rfl) ?_
  refine lv_sipush (v := (330 : Int32)) hx hb dX6_init_35 (by decide) ?_
  refine nwcI (N := 330) C0 hW rfl (by decide) (by decide) (Nat.le_of_ble_eq_true rfl) (Nat.le_of_ble_eq_true rfl) dX6_init_38 (fun q604 H hW => ?_)
  refine W.widen (k := 4) (n := 750) (Nat.le_of_ble_eq_true rfl) (Nat.le_of_ble_eq_true rfl) ?_
  have hW : wl D A s [(h0, .inr (6, [.ref q600, .int 0, .ref q602, .ref q603, .null, .null, .null, .null, .null, .int 0, .int 0, .null, .null, .null])), (q600, .inl (cI, 80, .inl (fun _ => 0))), (q602, .inl (cI, 10, .inl (fun _ => 0))), (q603, .inl (cI, 330, .inl (fun _ => 0))), (q604, .inl (cI, 330, .inl (fun _ => 0)))] H _ := hW
  refine va_putF (D := D) (ci := 6) (v := .ref q604) (ty := .array .int) (C := RX6) (T := TX6) (N := 14) hx hb hta inA6 tyX6 tyX6_ok nmX6 hown hK hW.1 hW.2.1 hW.2.2 0 rfl rfl 4 (by decide) (hta _ kw_190) (fun _ h9 => h9) rfl hin rfl (by decide +kernel) rfl rfl (Nat.le_of_ble_eq_true rfl) dX6_init_40 (fun H locs hP hD hS => ?_)
  have hW : wl D A s [(h0, .inr (6, [.ref q600, .int 0, .ref q602, .ref q603, .ref q604, .null, .null, .null, .null, .int 0, .int 0, .null, .null, .null])), (q600, .inl (cI, 80, .inl (fun _ => 0))), (q602, .inl (cI, 10, .inl (fun _ => 0))), (q603, .inl (cI, 330, .inl (fun _ => 0))), (q604, .inl (cI, 330, .inl (fun _ => 0)))] H locs := ⟨hP, hD, hS⟩
  refine lv_aload_n hx hb dX6_init_43 rfl (lv_at hl 0 rfl) ?_
  refine lv_sipush (v := (330 : Int32)) hx hb dX6_init_44 (by decide) ?_
  refine nwcI (N := 330) C0 hW rfl (by decide) (by decide) (Nat.le_of_ble_eq_true rfl) (Nat.le_of_ble_eq_true rfl) dX6_init_47 (fun q605 H hW => ?_)
  refine W.widen (k := 5) (n := 1080) (Nat.le_of_ble_eq_true rfl) (Nat.le_of_ble_eq_true rfl) ?_
  have hW : wl D A s [(h0, .inr (6, [.ref q600, .int 0, .ref q602, .ref q603, .ref q604, .null, .null, .null, .null, .int 0, .int 0, .null, .null, .null])), (q600, .inl (cI, 80, .inl (fun _ => 0))), (q602, .inl (cI, 10, .inl (fun _ => 0))), (q603, .inl (cI, 330, .inl (fun _ => 0))), (q604, .inl (cI, 330, .inl (fun _ => 0))), (q605, .inl (cI, 330, .inl (fun _ => 0)))] H _ := hW
  refine va_putF (D := D) (ci := 6) (v := .ref q605) (ty := .array .int) (C := RX6) (T := TX6) (N := 14) hx hb hta inA6 tyX6 tyX6_ok nmX6 hown hK hW.1 hW.2.1 hW.2.2 0 rfl rfl 5 (by decide) (hta _ kw_194) (fun _ h9 => h9) rfl hin rfl (by decide +kernel) rfl rfl (Nat.le_of_ble_eq_true rfl) dX6_init_49 (fun H locs hP hD hS => ?_)
  have hW : wl D A s [(h0, .inr (6, [.ref q600, .int 0, .ref q602, .ref q603, .ref q604, .ref q605, .null, .null, .null, .int 0, .int 0, .null, .null, .null])), (q600, .inl (cI, 80, .inl (fun _ => 0))), (q602, .inl (cI, 10, .inl (fun _ => 0))), (q603, .inl (cI, 330, .inl (fun _ => 0))), (q604, .inl (cI, 330, .inl (fun _ => 0))), (q605, .inl (cI, 330, .inl (fun _ => 0)))] H locs := ⟨hP, hD, hS⟩
  refine lv_aload_n hx hb dX6_init_52 rfl (lv_at hl 0 rfl) ?_
  refine lv_sipush (v := (330 : Int32)) hx hb dX6_init_53 (by decide) ?_
  refine nwcI (N := 330) C0 hW rfl (by decide) (by decide) (Nat.le_of_ble_eq_true rfl) (Nat.le_of_ble_eq_true rfl) dX6_init_56 (fun q606 H hW => ?_)
  refine W.widen (k := 6) (n := 1410) (Nat.le_of_ble_eq_true rfl) (Nat.le_of_ble_eq_true rfl) ?_
  have hW : wl D A s [(h0, .inr (6, [.ref q600, .int 0, .ref q602, .ref q603, .ref q604, .ref q605, .null, .null, .null, .int 0, .int 0, .null, .null, .null])), (q600, .inl (cI, 80, .inl (fun _ => 0))), (q602, .inl (cI, 10, .inl (fun _ => 0))), (q603, .inl (cI, 330, .inl (fun _ => 0))), (q604, .inl (cI, 330, .inl (fun _ => 0))), (q605, .inl (cI, 330, .inl (fun _ => 0))), (q606, .inl (cI, 330, .inl (fun _ => 0)))] H _ := hW
  refine va_putF (D := D) (ci := 6) (v := .ref q606) (ty := .array .int) (C := RX6) (T := TX6) (N := 14) hx hb hta inA6 tyX6 tyX6_ok nmX6 hown hK hW.1 hW.2.1 hW.2.2 0 rfl rfl 6 (by decide) (hta _ kw_198) (fun _ h9 => h9) rfl hin rfl (by decide +kernel) rfl rfl (Nat.le_of_ble_eq_true rfl) dX6_init_58 (fun H locs hP hD hS => ?_)
  have hW : wl D A s [(h0, .inr (6, [.ref q600, .int 0, .ref q602, .ref q603, .ref q604, .ref q605, .ref q606, .null, .null, .int 0, .int 0, .null, .null, .null])), (q600, .inl (cI, 80, .inl (fun _ => 0))), (q602, .inl (cI, 10, .inl (fun _ => 0))), (q603, .inl (cI, 330, .inl (fun _ => 0))), (q604, .inl (cI, 330, .inl (fun _ => 0))), (q605, .inl (cI, 330, .inl (fun _ => 0))), (q606, .inl (cI, 330, .inl (fun _ => 0)))] H locs := ⟨hP, hD, hS⟩
  refine lv_aload_n hx hb dX6_init_61 rfl (lv_at hl 0 rfl) ?_
  refine lv_sipush (v := (330 : Int32)) hx hb dX6_init_62 (by decide) ?_
  refine nwcI (N := 330) C0 hW rfl (by decide) (by decide) (Nat.le_of_ble_eq_true rfl) (Nat.le_of_ble_eq_true rfl) dX6_init_65 (fun q607 H hW => ?_)
  refine W.widen (k := 7) (n := 1740) (Nat.le_of_ble_eq_true rfl) (Nat.le_of_ble_eq_true rfl) ?_
  have hW : wl D A s [(h0, .inr (6, [.ref q600, .int 0, .ref q602, .ref q603, .ref q604, .ref q605, .ref q606, .null, .null, .int 0, .int 0, .null, .null, .null])), (q600, .inl (cI, 80, .inl (fun _ => 0))), (q602, .inl (cI, 10, .inl (fun _ => 0))), (q603, .inl (cI, 330, .inl (fun _ => 0))), (q604, .inl (cI, 330, .inl (fun _ => 0))), (q605, .inl (cI, 330, .inl (fun _ => 0))), (q606, .inl (cI, 330, .inl (fun _ => 0))), (q607, .inl (cI, 330, .inl (fun _ => 0)))] H _ := hW
  refine va_putF (D := D) (ci := 6) (v := .ref q607) (ty := .array .int) (C := RX6) (T := TX6) (N := 14) hx hb hta inA6 tyX6 tyX6_ok nmX6 hown hK hW.1 hW.2.1 hW.2.2 0 rfl rfl 7 (by decide) (hta _ kw_199) (fun _ h9 => h9) rfl hin rfl (by decide +kernel) rfl rfl (Nat.le_of_ble_eq_true rfl) dX6_init_67 (fun H locs hP hD hS => ?_)
  have hW : wl D A s [(h0, .inr (6, [.ref q600, .int 0, .ref q602, .ref q603, .ref q604, .ref q605, .ref q606, .ref q607, .null, .int 0, .int 0, .null, .null, .null])), (q600, .inl (cI, 80, .inl (fun _ => 0))), (q602, .inl (cI, 10, .inl (fun _ => 0))), (q603, .inl (cI, 330, .inl (fun _ => 0))), (q604, .inl (cI, 330, .inl (fun _ => 0))), (q605, .inl (cI, 330, .inl (fun _ => 0))), (q606, .inl (cI, 330, .inl (fun _ => 0))), (q607, .inl (cI, 330, .inl (fun _ => 0)))] H locs := ⟨hP, hD, hS⟩
  refine lv_aload_n hx hb dX6_init_70 rfl (lv_at hl 0 rfl) ?_
  refine lv_sipush (v := (512 : Int32)) hx hb dX6_init_71 (by decide) ?_
  refine nwcI (N := 512) C0 hW rfl (by decide) (by decide) (Nat.le_of_ble_eq_true rfl) (Nat.le_of_ble_eq_true rfl) dX6_init_74 (fun q608 H hW => ?_)
  refine W.widen (k := 8) (n := 2252) (Nat.le_of_ble_eq_true rfl) (Nat.le_of_ble_eq_true rfl) ?_
  have hW : wl D A s [(h0, .inr (6, [.ref q600, .int 0, .ref q602, .ref q603, .ref q604, .ref q605, .ref q606, .ref q607, .null, .int 0, .int 0, .null, .null, .null])), (q600, .inl (cI, 80, .inl (fun _ => 0))), (q602, .inl (cI, 10, .inl (fun _ => 0))), (q603, .inl (cI, 330, .inl (fun _ => 0))), (q604, .inl (cI, 330, .inl (fun _ => 0))), (q605, .inl (cI, 330, .inl (fun _ => 0))), (q606, .inl (cI, 330, .inl (fun _ => 0))), (q607, .inl (cI, 330, .inl (fun _ => 0))), (q608, .inl (cI, 512, .inl (fun _ => 0)))] H _ := hW
  refine va_put (D := D) (ci := 6) (v := .ref q608) (ty := .array .int) (C := RX6) (T := TX6) (N := 14) hx hb hta inA6 tyX6 tyX6_ok nmX6 hown hK hW.1 hW.2.1 hW.2.2 0 rfl rfl 8 (by decide) (hta _ kw_202) (fun _ h9 => h9) rfl (by decide +kernel) rfl rfl (Nat.le_of_ble_eq_true rfl) dX6_init_76 (fun H locs hP hD hS => ?_)
  have hW : wl D A s [(h0, .inr (6, [.ref q600, .int 0, .ref q602, .ref q603, .ref q604, .ref q605, .ref q606, .ref q607, .ref q608, .int 0, .int 0, .null, .null, .null])), (q600, .inl (cI, 80, .inl (fun _ => 0))), (q602, .inl (cI, 10, .inl (fun _ => 0))), (q603, .inl (cI, 330, .inl (fun _ => 0))), (q604, .inl (cI, 330, .inl (fun _ => 0))), (q605, .inl (cI, 330, .inl (fun _ => 0))), (q606, .inl (cI, 330, .inl (fun _ => 0))), (q607, .inl (cI, 330, .inl (fun _ => 0))), (q608, .inl (cI, 512, .inl (fun _ => 0)))] H locs := ⟨hP, hD, hS⟩
  refine lv_aload_n hx hb dX6_init_79 rfl (lv_at hl 0 rfl) ?_
  refine lv_iconst (v := (0 : Int32)) hx hb dX6_init_80 (by decide) ?_
  refine va_put (D := D) (ci := 6) (v := .int 0) (ty := .int) (C := RX6) (T := TX6) (N := 14) hx hb hta inA6 tyX6 tyX6_ok nmX6 hown hK hW.1 hW.2.1 hW.2.2 0 rfl rfl 9 (by decide) (hta _ kw_203) (fun _ h9 => h9) rfl (by decide +kernel) rfl rfl (Nat.le_of_ble_eq_true rfl) dX6_init_81 (fun H locs hP hD hS => ?_)
  have hW : wl D A s [(h0, .inr (6, [.ref q600, .int 0, .ref q602, .ref q603, .ref q604, .ref q605, .ref q606, .ref q607, .ref q608, .int 0, .int 0, .null, .null, .null])), (q600, .inl (cI, 80, .inl (fun _ => 0))), (q602, .inl (cI, 10, .inl (fun _ => 0))), (q603, .inl (cI, 330, .inl (fun _ => 0))), (q604, .inl (cI, 330, .inl (fun _ => 0))), (q605, .inl (cI, 330, .inl (fun _ => 0))), (q606, .inl (cI, 330, .inl (fun _ => 0))), (q607, .inl (cI, 330, .inl (fun _ => 0))), (q608, .inl (cI, 512, .inl (fun _ => 0)))] H locs := ⟨hP, hD, hS⟩
  refine lv_aload_n hx hb dX6_init_84 rfl (lv_at hl 0 rfl) ?_
  refine lv_iconst (v := (0 : Int32)) hx hb dX6_init_85 (by decide) ?_
  refine va_put (D := D) (ci := 6) (v := .int 0) (ty := .int) (C := RX6) (T := TX6) (N := 14) hx hb hta inA6 tyX6 tyX6_ok nmX6 hown hK hW.1 hW.2.1 hW.2.2 0 rfl rfl 10 (by decide) (hta _ kw_206) (fun _ h9 => h9) rfl (by decide +kernel) rfl rfl (Nat.le_of_ble_eq_true rfl) dX6_init_86 (fun H locs hP hD hS => ?_)
  have hW : wl D A s [(h0, .inr (6, [.ref q600, .int 0, .ref q602, .ref q603, .ref q604, .ref q605, .ref q606, .ref q607, .ref q608, .int 0, .int 0, .null, .null, .null])), (q600, .inl (cI, 80, .inl (fun _ => 0))), (q602, .inl (cI, 10, .inl (fun _ => 0))), (q603, .inl (cI, 330, .inl (fun _ => 0))), (q604, .inl (cI, 330, .inl (fun _ => 0))), (q605, .inl (cI, 330, .inl (fun _ => 0))), (q606, .inl (cI, 330, .inl (fun _ => 0))), (q607, .inl (cI, 330, .inl (fun _ => 0))), (q608, .inl (cI, 512, .inl (fun _ => 0)))] H locs := ⟨hP, hD, hS⟩
  refine lv_aload_n hx hb dX6_init_89 rfl (lv_at hl 0 rfl) ?_
  refine lv_sipush (v := (330 : Int32)) hx hb dX6_init_90 (by decide) ?_
  refine nwcZ (N := 330) C0 hW rfl (by decide) (by decide) (Nat.le_of_ble_eq_true rfl) (Nat.le_of_ble_eq_true rfl) dX6_init_93 (fun q611 H hW => ?_)
  refine W.widen (k := 9) (n := 2582) (Nat.le_of_ble_eq_true rfl) (Nat.le_of_ble_eq_true rfl) ?_
  have hW : wl D A s [(h0, .inr (6, [.ref q600, .int 0, .ref q602, .ref q603, .ref q604, .ref q605, .ref q606, .ref q607, .ref q608, .int 0, .int 0, .null, .null, .null])), (q600, .inl (cI, 80, .inl (fun _ => 0))), (q602, .inl (cI, 10, .inl (fun _ => 0))), (q603, .inl (cI, 330, .inl (fun _ => 0))), (q604, .inl (cI, 330, .inl (fun _ => 0))), (q605, .inl (cI, 330, .inl (fun _ => 0))), (q606, .inl (cI, 330, .inl (fun _ => 0))), (q607, .inl (cI, 330, .inl (fun _ => 0))), (q608, .inl (cI, 512, .inl (fun _ => 0))), (q611, .inl (cZ, 330, .inl (fun _ => 0)))] H _ := hW
  refine va_putF (D := D) (ci := 6) (v := .ref q611) (ty := .array .boolean) (C := RX6) (T := TX6) (N := 14) hx hb hta inA6 tyX6 tyX6_ok nmX6 hown hK hW.1 hW.2.1 hW.2.2 0 rfl rfl 11 (by decide) (hta _ kw_208) (fun _ h9 => h9) rfl hin rfl (by decide +kernel) rfl rfl (Nat.le_of_ble_eq_true rfl) dX6_init_95 (fun H locs hP hD hS => ?_)
  have hW : wl D A s [(h0, .inr (6, [.ref q600, .int 0, .ref q602, .ref q603, .ref q604, .ref q605, .ref q606, .ref q607, .ref q608, .int 0, .int 0, .ref q611, .null, .null])), (q600, .inl (cI, 80, .inl (fun _ => 0))), (q602, .inl (cI, 10, .inl (fun _ => 0))), (q603, .inl (cI, 330, .inl (fun _ => 0))), (q604, .inl (cI, 330, .inl (fun _ => 0))), (q605, .inl (cI, 330, .inl (fun _ => 0))), (q606, .inl (cI, 330, .inl (fun _ => 0))), (q607, .inl (cI, 330, .inl (fun _ => 0))), (q608, .inl (cI, 512, .inl (fun _ => 0))), (q611, .inl (cZ, 330, .inl (fun _ => 0)))] H locs := ⟨hP, hD, hS⟩
  refine lv_aload_n hx hb dX6_init_98 rfl (lv_at hl 0 rfl) ?_
  refine lv_sipush (v := (330 : Int32)) hx hb dX6_init_99 (by decide) ?_
  refine nwcI (N := 330) C0 hW rfl (by decide) (by decide) (Nat.le_of_ble_eq_true rfl) (Nat.le_of_ble_eq_true rfl) dX6_init_102 (fun q612 H hW => ?_)
  refine W.widen (k := 10) (n := 2912) (Nat.le_of_ble_eq_true rfl) (Nat.le_of_ble_eq_true rfl) ?_
  have hW : wl D A s [(h0, .inr (6, [.ref q600, .int 0, .ref q602, .ref q603, .ref q604, .ref q605, .ref q606, .ref q607, .ref q608, .int 0, .int 0, .ref q611, .null, .null])), (q600, .inl (cI, 80, .inl (fun _ => 0))), (q602, .inl (cI, 10, .inl (fun _ => 0))), (q603, .inl (cI, 330, .inl (fun _ => 0))), (q604, .inl (cI, 330, .inl (fun _ => 0))), (q605, .inl (cI, 330, .inl (fun _ => 0))), (q606, .inl (cI, 330, .inl (fun _ => 0))), (q607, .inl (cI, 330, .inl (fun _ => 0))), (q608, .inl (cI, 512, .inl (fun _ => 0))), (q611, .inl (cZ, 330, .inl (fun _ => 0))), (q612, .inl (cI, 330, .inl (fun _ => 0)))] H _ := hW
  refine va_putF (D := D) (ci := 6) (v := .ref q612) (ty := .array .int) (C := RX6) (T := TX6) (N := 14) hx hb hta inA6 tyX6 tyX6_ok nmX6 hown hK hW.1 hW.2.1 hW.2.2 0 rfl rfl 12 (by decide) (hta _ kw_209) (fun _ h9 => h9) rfl hin rfl (by decide +kernel) rfl rfl (Nat.le_of_ble_eq_true rfl) dX6_init_104 (fun H locs hP hD hS => ?_)
  have hW : wl D A s [(h0, .inr (6, [.ref q600, .int 0, .ref q602, .ref q603, .ref q604, .ref q605, .ref q606, .ref q607, .ref q608, .int 0, .int 0, .ref q611, .ref q612, .null])), (q600, .inl (cI, 80, .inl (fun _ => 0))), (q602, .inl (cI, 10, .inl (fun _ => 0))), (q603, .inl (cI, 330, .inl (fun _ => 0))), (q604, .inl (cI, 330, .inl (fun _ => 0))), (q605, .inl (cI, 330, .inl (fun _ => 0))), (q606, .inl (cI, 330, .inl (fun _ => 0))), (q607, .inl (cI, 330, .inl (fun _ => 0))), (q608, .inl (cI, 512, .inl (fun _ => 0))), (q611, .inl (cZ, 330, .inl (fun _ => 0))), (q612, .inl (cI, 330, .inl (fun _ => 0)))] H locs := ⟨hP, hD, hS⟩
  refine lv_aload_n hx hb dX6_init_107 rfl (lv_at hl 0 rfl) ?_
  refine lv_bipush (v := (8 : Int32)) hx hb dX6_init_108 (by decide) ?_
  refine nwcI (N := 8) C0 hW rfl (by decide) (by decide) (Nat.le_of_ble_eq_true rfl) (Nat.le_of_ble_eq_true rfl) dX6_init_110 (fun q613 H hW => ?_)
  refine W.widen (k := 11) (n := 2920) (Nat.le_of_ble_eq_true rfl) (Nat.le_of_ble_eq_true rfl) ?_
  have hW : wl D A s [(h0, .inr (6, [.ref q600, .int 0, .ref q602, .ref q603, .ref q604, .ref q605, .ref q606, .ref q607, .ref q608, .int 0, .int 0, .ref q611, .ref q612, .null])), (q600, .inl (cI, 80, .inl (fun _ => 0))), (q602, .inl (cI, 10, .inl (fun _ => 0))), (q603, .inl (cI, 330, .inl (fun _ => 0))), (q604, .inl (cI, 330, .inl (fun _ => 0))), (q605, .inl (cI, 330, .inl (fun _ => 0))), (q606, .inl (cI, 330, .inl (fun _ => 0))), (q607, .inl (cI, 330, .inl (fun _ => 0))), (q608, .inl (cI, 512, .inl (fun _ => 0))), (q611, .inl (cZ, 330, .inl (fun _ => 0))), (q612, .inl (cI, 330, .inl (fun _ => 0))), (q613, .inl (cI, 8, .inl (fun _ => 0)))] H _ := hW
  refine va_putF (D := D) (ci := 6) (v := .ref q613) (ty := .array .int) (C := RX6) (T := TX6) (N := 14) hx hb hta inA6 tyX6 tyX6_ok nmX6 hown hK hW.1 hW.2.1 hW.2.2 0 rfl rfl 13 (by decide) (hta _ kw_210) (fun _ h9 => h9) rfl hin rfl (by decide +kernel) rfl rfl (Nat.le_of_ble_eq_true rfl) dX6_init_112 (fun H locs hP hD hS => ?_)
  have hW : wl D A s [(h0, .inr (6, [.ref q600, .int 0, .ref q602, .ref q603, .ref q604, .ref q605, .ref q606, .ref q607, .ref q608, .int 0, .int 0, .ref q611, .ref q612, .ref q613])), (q600, .inl (cI, 80, .inl (fun _ => 0))), (q602, .inl (cI, 10, .inl (fun _ => 0))), (q603, .inl (cI, 330, .inl (fun _ => 0))), (q604, .inl (cI, 330, .inl (fun _ => 0))), (q605, .inl (cI, 330, .inl (fun _ => 0))), (q606, .inl (cI, 330, .inl (fun _ => 0))), (q607, .inl (cI, 330, .inl (fun _ => 0))), (q608, .inl (cI, 512, .inl (fun _ => 0))), (q611, .inl (cZ, 330, .inl (fun _ => 0))), (q612, .inl (cI, 330, .inl (fun _ => 0))), (q613, .inl (cI, 8, .inl (fun _ => 0)))] H locs := ⟨hP, hD, hS⟩
  refine lv_aload_n hx hb dX6_init_115 rfl (lv_at hl 0 rfl) ?_
  refine va_get (D := D) (ci := 6) (v := .ref q602) (C := RX6) (T := TX6) (N := 14) hx hb hta inA6 hown hK hW.1 0 rfl rfl 2 (by decide) (hta _ kw_183) (fun _ h9 => h9) rfl dX6_init_116 ?_
  refine lv_iconst (v := (-1 : Int32)) hx hb dX6_init_119 (by decide) ?_
  have hWc : wl D A s [(q602, .inl (cI, 10, .inl (fun _ => 0)))] H locs := ⟨hW.1.sub [2] rfl, hW.2.1.sub [2] (by decide) rfl, hW.2.2⟩
  refine bkVj (wr := [(h0, .inr (6, [.ref q600, .int 0, .ref q602, .ref q603, .ref q604, .ref q605, .ref q606, .ref q607, .ref q608, .int 0, .int 0, .ref q611, .ref q612, .ref q613])), (q600, .inl (cI, 80, .inl (fun _ => 0))), (q603, .inl (cI, 330, .inl (fun _ => 0))), (q604, .inl (cI, 330, .inl (fun _ => 0))), (q605, .inl (cI, 330, .inl (fun _ => 0))), (q606, .inl (cI, 330, .inl (fun _ => 0))), (q607, .inl (cI, 330, .inl (fun _ => 0))), (q608, .inl (cI, 512, .inl (fun _ => 0))), (q611, .inl (cZ, 330, .inl (fun _ => 0))), (q612, .inl (cI, 330, .inl (fun _ => 0))), (q613, .inl (cI, 8, .inl (fun _ => 0)))]) C0 hW [2] [0, 1, 3, 4, 5, 6, 7, 8, 9, 10, 11] rfl rfl (by decide) (by decide) (runS (As := [.ref q602, .int (-1)]) (rest := []) C0 hWc (c_fill10 l (cJ := cJ) (cZ := cZ) (cR := cR) q602 _ (fun _ => 0) (-1)) cb_X6_J7_fill_53178_58 rfl rfl ⟨rfl, rfl⟩ ⟨Nat.le_of_ble_eq_true rfl, Nat.le_of_ble_eq_true rfl⟩ (Nat.le_of_ble_eq_true rfl) hl.1 dX6_init_120 ⟨Nat.le_of_ble_eq_true rfl, Nat.le_of_ble_eq_true rfl⟩) (fun u H locs _ hW => ?_)
  have hW : wl D A s [(h0, .inr (6, [.ref q600, .int 0, .ref q602, .ref q603, .ref q604, .ref q605, .ref q606, .ref q607, .ref q608, .int 0, .int 0, .ref q611, .ref q612, .ref q613])), (q600, .inl (cI, 80, .inl (fun _ => 0))), (q603, .inl (cI, 330, .inl (fun _ => 0))), (q604, .inl (cI, 330, .inl (fun _ => 0))), (q605, .inl (cI, 330, .inl (fun _ => 0))), (q606, .inl (cI, 330, .inl (fun _ => 0))), (q607, .inl (cI, 330, .inl (fun _ => 0))), (q608, .inl (cI, 512, .inl (fun _ => 0))), (q611, .inl (cZ, 330, .inl (fun _ => 0))), (q612, .inl (cI, 330, .inl (fun _ => 0))), (q613, .inl (cI, 8, .inl (fun _ => 0))), (q602, .inl (cI, 10, .inl (upd (upd (upd (upd (upd (upd (upd (upd (upd (upd (fun _ => 0) 0 (-1)) 1 (-1)) 2 (-1)) 3 (-1)) 4 (-1)) 5 (-1)) 6 (-1)) 7 (-1)) 8 (-1)) 9 (-1))))] H locs := hW
  have hW : wl D A s (wC6 cI cJ cZ h0 (fun k => amOf [q600, 0, q602, q603, q604, q605, q606, q607, q608, 0, 0, q611, q612, q613] (k - 600))) H locs := hW
  exact W.vret hx hb B.returns (fun t ht hV => ⟨⟨(fun k => amOf [q600, 0, q602, q603, q604, q605, q606, q607, q608, 0, 0, q611, q612, q613] (k - 600)), rfl, trivial, by rw [ht]; exact hW.1, va_K.moved hV.alike hK, hW.2.1⟩, hW.2.2.F ht⟩) hW.2.2.2.2 dX6_init_123
def wC7 (cI cJ cZ : ClassId) (h0 o1 : Nat) (q : Nat → Nat) : va_W := [(h0, .inr (7, [.ref o1, .ref (q 701), .int 0, .int 0, .int 0])), (q 701, .inl (cI, 330, .inl (fun _ => 0)))]
set_option maxHeartbeats 4000000 in
set_option maxRecDepth 100000 in
theorem c_ctor7 (l : Launch) {D : va_G} {cI cJ cZ cR : ClassId} (h0 o1 sz : Nat) : Met l yX7_init (.code yX7_init cX7_init 2 none :: wsAll) ({ frames := 1, cells := 1, slots := 330, locals := 20 } : Room) (va_Pc [.ref h0, .ref o1] (prW D (tyX cI cJ cZ cR) [(h0, .inr (7, [.null, .null, .int 0, .int 0, .int 0]))] sz)) (va_Qv (fun (_ : Nat → Nat) => True) (fun q => poW D (tyX cI cJ cZ cR) (wC7 cI cJ cZ h0 o1 q) (va_A [(h0, .inr (7, [.null, .null, .int 0, .int 0, .int 0]))] sz)) (va_A [(h0, .inr (7, [.null, .null, .int 0, .int 0, .int 0]))] sz)) 1 330 (va_A [(h0, .inr (7, [.null, .null, .int 0, .int 0, .int 0]))] sz) := by
  refine Met.ofW (cc := cX7_init) (maxL := 2) (ret := none) (by decide) rfl ?_
  intro p e s m args below meth c s₁ B hml hv
  obtain ⟨rfl, hsz, hP, hK, hD0⟩ := hv
  have hx := B.exec
  have hb := B.bytes
  have hts := atoms_spec (ws := (.code yX7_init cX7_init 2 none :: wsAll)) B.pre
  have hta := fun w h => hts w (List.mem_cons_of_mem _ h)
  have hown : s.vm.findClass RX7 = some m.cls := findClass_of_methodNamed B.named
  have hlocks := B.notSynchronized
  have hin : meth.name = "<init>" := (name_of_methodNamed B.named B.method).1
  subst hsz
  have hD := hD0.self (sz := s.heap.size)
  generalize hAe : va_A [(h0, .inr (7, [.null, .null, .int 0, .int 0, .int 0]))] s.heap.size = A at hD ⊢
  have hA : ∀ q : Nat, s.heap.size ≤ q → A q := fun q h => by rw [← hAe]; exact Or.inr h
  have C0 : cx p s m ([.ref h0, .ref o1].toArray) meth c cX7_init RX7 2 none D (tyX cI cJ cZ cR) A := ⟨hx, hb, B.returns, hml, hown, hta, hlocks, hK, hA⟩
  have hW : wl D A s [(h0, .inr (7, [.null, .null, .int 0, .int 0, .int 0]))] s.heap [] := ⟨hP, hD, va_S.rf⟩
  have hl := lv_entry [.ref h0, .ref o1] (n := 2) (Nat.le_of_ble_eq_true rfl)
  rw [lg_entry_eq]
  generalize (lg_sl [.ref h0, .ref o1] ++ List.replicate (2 - (lg_sl [.ref h0, .ref o1]).length) Slot.unset).toArray = ls at hl ⊢
  have hl : lv_has ls 2 [(0, .ref h0), (1, .ref o1)] := hl
  refine lv_aload_n hx hb dX7_init_0 rfl (lv_at hl 0 rfl) ?_
  refine W.objInit hx hb hown (hta _ kw_245) (hta _ kw_146) (hta _ kw_147) rfl (by rw [hml]; exact hl.1) rfl dX7_init_1 (Nat.le_of_ble_eq_true rfl) (Nat.le_of_ble_eq_true rfl) ?_
  refine W.eq (g2 := F0 m 4 ls []) rfl ?_
  refine lv_aload_n hx hb dX7_init_4 rfl (lv_at hl 0 rfl) ?_
  refine lv_sipush (v := (330 : Int32)) hx hb dX7_init_5 (by decide) ?_
  refine nwcI (N := 330) C0 hW rfl (by decide) (by decide) (Nat.le_of_ble_eq_true rfl) (Nat.le_of_ble_eq_true rfl) dX7_init_8 (fun q701 H hW => ?_)
  refine W.widen (k := 1) (n := 330) (Nat.le_of_ble_eq_true rfl) (Nat.le_of_ble_eq_true rfl) ?_
  have hW : wl D A s [(h0, .inr (7, [.null, .null, .int 0, .int 0, .int 0])), (q701, .inl (cI, 330, .inl (fun _ => 0)))] H _ := hW
  refine va_putF (D := D) (ci := 7) (v := .ref q701) (ty := .array .int) (C := RX7) (T := TX7) (N := 5) hx hb hta inA7 tyX7 tyX7_ok nmX7 hown hK hW.1 hW.2.1 hW.2.2 0 rfl rfl 1 (by decide) (hta _ kw_247) (fun _ h9 => h9) rfl hin rfl (by decide +kernel) rfl rfl (Nat.le_of_ble_eq_true rfl) dX7_init_10 (fun H locs hP hD hS => ?_)
  have hW : wl D A s [(h0, .inr (7, [.null, .ref q701, .int 0, .int 0, .int 0])), (q701, .inl (cI, 330, .inl (fun _ => 0)))] H locs := ⟨hP, hD, hS⟩
  refine lv_aload_n hx hb dX7_init_13 rfl (lv_at hl 0 rfl) ?_
  refine lv_iconst (v := (0 : Int32)) hx hb dX7_init_14 (by decide) ?_
  refine va_put (D := D) (ci := 7) (v := .int 0) (ty := .int) (C := RX7) (T := TX7) (N := 5) hx hb hta inA7 tyX7 tyX7_ok nmX7 hown hK hW.1 hW.2.1 hW.2.2 0 rfl rfl 2 (by decide) (hta _ kw_248) (fun _ h9 => h9) rfl (by decide +kernel) rfl rfl (Nat.le_of_ble_eq_true rfl) dX7_init_15 (fun H locs hP hD hS => ?_)
  have hW : wl D A s [(h0, .inr (7, [.null, .ref q701, .int 0, .int 0, .int 0])), (q701, .inl (cI, 330, .inl (fun _ => 0)))] H locs := ⟨hP, hD, hS⟩
  refine lv_aload_n hx hb dX7_init_18 rfl (lv_at hl 0 rfl) ?_
  refine lv_iconst (v := (0 : Int32)) hx hb dX7_init_19 (by decide) ?_
  refine va_put (D := D) (ci := 7) (v := .int 0) (ty := .int) (C := RX7) (T := TX7) (N := 5) hx hb hta inA7 tyX7 tyX7_ok nmX7 hown hK hW.1 hW.2.1 hW.2.2 0 rfl rfl 3 (by decide) (hta _ kw_249) (fun _ h9 => h9) rfl (by decide +kernel) rfl rfl (Nat.le_of_ble_eq_true rfl) dX7_init_20 (fun H locs hP hD hS => ?_)
  have hW : wl D A s [(h0, .inr (7, [.null, .ref q701, .int 0, .int 0, .int 0])), (q701, .inl (cI, 330, .inl (fun _ => 0)))] H locs := ⟨hP, hD, hS⟩
  refine lv_aload_n hx hb dX7_init_23 rfl (lv_at hl 0 rfl) ?_
  refine lv_iconst (v := (0 : Int32)) hx hb dX7_init_24 (by decide) ?_
  refine va_put (D := D) (ci := 7) (v := .int 0) (ty := .int) (C := RX7) (T := TX7) (N := 5) hx hb hta inA7 tyX7 tyX7_ok nmX7 hown hK hW.1 hW.2.1 hW.2.2 0 rfl rfl 4 (by decide) (hta _ kw_250) (fun _ h9 => h9) rfl (by decide +kernel) rfl rfl (Nat.le_of_ble_eq_true rfl) dX7_init_25 (fun H locs hP hD hS => ?_)
  have hW : wl D A s [(h0, .inr (7, [.null, .ref q701, .int 0, .int 0, .int 0])), (q701, .inl (cI, 330, .inl (fun _ => 0)))] H locs := ⟨hP, hD, hS⟩
  refine lv_aload_n hx hb dX7_init_28 rfl (lv_at hl 0 rfl) ?_
  refine lv_aload_n hx hb dX7_init_29 rfl (lv_at hl 1 rfl) ?_
  refine va_putF (D := D) (ci := 7) (v := .ref o1) (ty := .object "GuardNets$Nets") (C := RX7) (T := TX7) (N := 5) hx hb hta inA7 tyX7 tyX7_ok nmX7 hown hK hW.1 hW.2.1 hW.2.2 0 rfl rfl 0 (by decide) (hta _ kw_246) (fun _ h9 => h9) rfl hin rfl (by decide +kernel) rfl rfl (Nat.le_of_ble_eq_true rfl) dX7_init_30 (fun H locs hP hD hS => ?_)
  have hW : wl D A s [(h0, .inr (7, [.ref o1, .ref q701, .int 0, .int 0, .int 0])), (q701, .inl (cI, 330, .inl (fun _ => 0)))] H locs := ⟨hP, hD, hS⟩
  have hW : wl D A s (wC7 cI cJ cZ h0 o1 (fun k => amOf [0, q701, 0, 0, 0] (k - 700))) H locs := hW
  exact W.vret hx hb B.returns (fun t ht hV => ⟨⟨(fun k => amOf [0, q701, 0, 0, 0] (k - 700)), rfl, trivial, by rw [ht]; exact hW.1, va_K.moved hV.alike hK, hW.2.1⟩, hW.2.2.F ht⟩) hW.2.2.2.2 dX7_init_33
def wC8 (cI cJ cZ : ClassId) (h0 o1 : Nat) (q : Nat → Nat) : va_W := [(h0, .inr (8, [.ref o1, .ref (q 801), .ref (q 802), .int 0, .int 1, .int (-1), .int 0, .int 0, .ref (q 808), .ref (q 809), .ref (q 810), .ref (q 811), .ref (q 812), .ref (q 813), .ref (q 814)])), (q 801, .inl (cI, 16, .inl (fun _ => 0))), (q 802, .inl (cI, 16, .inl (fun _ => 0))), (q 808, .inl (cJ, 56, .inr (.inl (fun _ => 0)))), (q 809, .inl (cZ, 56, .inl (fun _ => 0))), (q 810, .inl (cZ, 330, .inl (fun _ => 0))), (q 811, .inl (cI, 330, .inl (fun _ => 0))), (q 812, .inl (cI, 330, .inl (fun _ => 0))), (q 813, .inl (cI, 330, .inl (fun _ => 0))), (q 814, .inl (cJ, 9, .inr (.inl (fun _ => 0))))]
set_option maxHeartbeats 4000000 in
set_option maxRecDepth 100000 in
theorem c_ctor8 (l : Launch) {D : va_G} {cI cJ cZ cR : ClassId} (h0 o1 sz : Nat) : Met l yX8_init (.code yX8_init cX8_init 2 none :: wsAll) ({ frames := 1, cells := 9, slots := 1473, locals := 20 } : Room) (va_Pc [.ref h0, .ref o1] (prW D (tyX cI cJ cZ cR) [(h0, .inr (8, [.null, .null, .null, .int 0, .int 0, .int 0, .int 0, .int 0, .null, .null, .null, .null, .null, .null, .null]))] sz)) (va_Qv (fun (_ : Nat → Nat) => True) (fun q => poW D (tyX cI cJ cZ cR) (wC8 cI cJ cZ h0 o1 q) (va_A [(h0, .inr (8, [.null, .null, .null, .int 0, .int 0, .int 0, .int 0, .int 0, .null, .null, .null, .null, .null, .null, .null]))] sz)) (va_A [(h0, .inr (8, [.null, .null, .null, .int 0, .int 0, .int 0, .int 0, .int 0, .null, .null, .null, .null, .null, .null, .null]))] sz)) 9 1473 (va_A [(h0, .inr (8, [.null, .null, .null, .int 0, .int 0, .int 0, .int 0, .int 0, .null, .null, .null, .null, .null, .null, .null]))] sz) := by
  refine Met.ofW (cc := cX8_init) (maxL := 2) (ret := none) (by decide) rfl ?_
  intro p e s m args below meth c s₁ B hml hv
  obtain ⟨rfl, hsz, hP, hK, hD0⟩ := hv
  have hx := B.exec
  have hb := B.bytes
  have hts := atoms_spec (ws := (.code yX8_init cX8_init 2 none :: wsAll)) B.pre
  have hta := fun w h => hts w (List.mem_cons_of_mem _ h)
  have hown : s.vm.findClass RX8 = some m.cls := findClass_of_methodNamed B.named
  have hlocks := B.notSynchronized
  have hin : meth.name = "<init>" := (name_of_methodNamed B.named B.method).1
  subst hsz
  have hD := hD0.self (sz := s.heap.size)
  generalize hAe : va_A [(h0, .inr (8, [.null, .null, .null, .int 0, .int 0, .int 0, .int 0, .int 0, .null, .null, .null, .null, .null, .null, .null]))] s.heap.size = A at hD ⊢
  have hA : ∀ q : Nat, s.heap.size ≤ q → A q := fun q h => by rw [← hAe]; exact Or.inr h
  have C0 : cx p s m ([.ref h0, .ref o1].toArray) meth c cX8_init RX8 2 none D (tyX cI cJ cZ cR) A := ⟨hx, hb, B.returns, hml, hown, hta, hlocks, hK, hA⟩
  have hW : wl D A s [(h0, .inr (8, [.null, .null, .null, .int 0, .int 0, .int 0, .int 0, .int 0, .null, .null, .null, .null, .null, .null, .null]))] s.heap [] := ⟨hP, hD, va_S.rf⟩
  have hl := lv_entry [.ref h0, .ref o1] (n := 2) (Nat.le_of_ble_eq_true rfl)
  rw [lg_entry_eq]
  generalize (lg_sl [.ref h0, .ref o1] ++ List.replicate (2 - (lg_sl [.ref h0, .ref o1]).length) Slot.unset).toArray = ls at hl ⊢
  have hl : lv_has ls 2 [(0, .ref h0), (1, .ref o1)] := hl
  refine lv_aload_n hx hb dX8_init_0 rfl (lv_at hl 0 rfl) ?_
  refine W.objInit hx hb hown (hta _ kw_268) (hta _ kw_146) (hta _ kw_147) rfl (by rw [hml]; exact hl.1) rfl dX8_init_1 (Nat.le_of_ble_eq_true rfl) (Nat.le_of_ble_eq_true rfl) ?_
  refine W.eq (g2 := F0 m 4 ls []) rfl ?_
  refine lv_aload_n hx hb dX8_init_4 rfl (lv_at hl 0 rfl) ?_
  refine lv_bipush (v := (16 : Int32)) hx hb dX8_init_5 (by decide) ?_
  refine nwcI (N := 16) C0 hW rfl (by decide) (by decide) (Nat.le_of_ble_eq_true rfl) (Nat.le_of_ble_eq_true rfl) dX8_init_7 (fun q801 H hW => ?_)
  refine W.widen (k := 1) (n := 16) (Nat.le_of_ble_eq_true rfl) (Nat.le_of_ble_eq_true rfl) ?_
  have hW : wl D A s [(h0, .inr (8, [.null, .null, .null, .int 0, .int 0, .int 0, .int 0, .int 0, .null, .null, .null, .null, .null, .null, .null])), (q801, .inl (cI, 16, .inl (fun _ => 0)))] H _ := hW
  refine va_putF (D := D) (ci := 8) (v := .ref q801) (ty := .array .int) (C := RX8) (T := TX8) (N := 15) hx hb hta inA8 tyX8 tyX8_ok nmX8 hown hK hW.1 hW.2.1 hW.2.2 0 rfl rfl 1 (by decide) (hta _ kw_270) (fun _ h9 => h9) rfl hin rfl (by decide +kernel) rfl rfl (Nat.le_of_ble_eq_true rfl) dX8_init_9 (fun H locs hP hD hS => ?_)
  have hW : wl D A s [(h0, .inr (8, [.null, .ref q801, .null, .int 0, .int 0, .int 0, .int 0, .int 0, .null, .null, .null, .null, .null, .null, .null])), (q801, .inl (cI, 16, .inl (fun _ => 0)))] H locs := ⟨hP, hD, hS⟩
  refine lv_aload_n hx hb dX8_init_12 rfl (lv_at hl 0 rfl) ?_
  refine lv_bipush (v := (16 : Int32)) hx hb dX8_init_13 (by decide) ?_
  refine nwcI (N := 16) C0 hW rfl (by decide) (by decide) (Nat.le_of_ble_eq_true rfl) (Nat.le_of_ble_eq_true rfl) dX8_init_15 (fun q802 H hW => ?_)
  refine W.widen (k := 2) (n := 32) (Nat.le_of_ble_eq_true rfl) (Nat.le_of_ble_eq_true rfl) ?_
  have hW : wl D A s [(h0, .inr (8, [.null, .ref q801, .null, .int 0, .int 0, .int 0, .int 0, .int 0, .null, .null, .null, .null, .null, .null, .null])), (q801, .inl (cI, 16, .inl (fun _ => 0))), (q802, .inl (cI, 16, .inl (fun _ => 0)))] H _ := hW
  refine va_putF (D := D) (ci := 8) (v := .ref q802) (ty := .array .int) (C := RX8) (T := TX8) (N := 15) hx hb hta inA8 tyX8 tyX8_ok nmX8 hown hK hW.1 hW.2.1 hW.2.2 0 rfl rfl 2 (by decide) (hta _ kw_272) (fun _ h9 => h9) rfl hin rfl (by decide +kernel) rfl rfl (Nat.le_of_ble_eq_true rfl) dX8_init_17 (fun H locs hP hD hS => ?_)
  have hW : wl D A s [(h0, .inr (8, [.null, .ref q801, .ref q802, .int 0, .int 0, .int 0, .int 0, .int 0, .null, .null, .null, .null, .null, .null, .null])), (q801, .inl (cI, 16, .inl (fun _ => 0))), (q802, .inl (cI, 16, .inl (fun _ => 0)))] H locs := ⟨hP, hD, hS⟩
  refine lv_aload_n hx hb dX8_init_20 rfl (lv_at hl 0 rfl) ?_
  refine lv_iconst (v := (0 : Int32)) hx hb dX8_init_21 (by decide) ?_
  refine va_put (D := D) (ci := 8) (v := .int 0) (ty := .int) (C := RX8) (T := TX8) (N := 15) hx hb hta inA8 tyX8 tyX8_ok nmX8 hown hK hW.1 hW.2.1 hW.2.2 0 rfl rfl 3 (by decide) (hta _ kw_274) (fun _ h9 => h9) rfl (by decide +kernel) rfl rfl (Nat.le_of_ble_eq_true rfl) dX8_init_22 (fun H locs hP hD hS => ?_)
  have hW : wl D A s [(h0, .inr (8, [.null, .ref q801, .ref q802, .int 0, .int 0, .int 0, .int 0, .int 0, .null, .null, .null, .null, .null, .null, .null])), (q801, .inl (cI, 16, .inl (fun _ => 0))), (q802, .inl (cI, 16, .inl (fun _ => 0)))] H locs := ⟨hP, hD, hS⟩
  refine lv_aload_n hx hb dX8_init_25 rfl (lv_at hl 0 rfl) ?_
  refine lv_iconst (v := (1 : Int32)) hx hb dX8_init_26 (by decide) ?_
  refine va_put (D := D) (ci := 8) (v := .int 1) (ty := .int) (C := RX8) (T := TX8) (N := 15) hx hb hta inA8 tyX8 tyX8_ok nmX8 hown hK hW.1 hW.2.1 hW.2.2 0 rfl rfl 4 (by decide) (hta _ kw_278) (fun _ h9 => h9) rfl (by decide +kernel) rfl rfl (Nat.le_of_ble_eq_true rfl) dX8_init_27 (fun H locs hP hD hS => ?_)
  have hW : wl D A s [(h0, .inr (8, [.null, .ref q801, .ref q802, .int 0, .int 1, .int 0, .int 0, .int 0, .null, .null, .null, .null, .null, .null, .null])), (q801, .inl (cI, 16, .inl (fun _ => 0))), (q802, .inl (cI, 16, .inl (fun _ => 0)))] H locs := ⟨hP, hD, hS⟩
  refine lv_aload_n hx hb dX8_init_30 rfl (lv_at hl 0 rfl) ?_
  refine lv_iconst (v := (-1 : Int32)) hx hb dX8_init_31 (by decide) ?_
  refine va_put (D := D) (ci := 8) (v := .int (-1)) (ty := .int) (C := RX8) (T := TX8) (N := 15) hx hb hta inA8 tyX8 tyX8_ok nmX8 hown hK hW.1 hW.2.1 hW.2.2 0 rfl rfl 5 (by decide) (hta _ kw_280) (fun _ h9 => h9) rfl (by decide +kernel) rfl rfl (Nat.le_of_ble_eq_true rfl) dX8_init_32 (fun H locs hP hD hS => ?_)
  have hW : wl D A s [(h0, .inr (8, [.null, .ref q801, .ref q802, .int 0, .int 1, .int (-1), .int 0, .int 0, .null, .null, .null, .null, .null, .null, .null])), (q801, .inl (cI, 16, .inl (fun _ => 0))), (q802, .inl (cI, 16, .inl (fun _ => 0)))] H locs := ⟨hP, hD, hS⟩
  refine lv_aload_n hx hb dX8_init_35 rfl (lv_at hl 0 rfl) ?_
  refine lv_iconst (v := (0 : Int32)) hx hb dX8_init_36 (by decide) ?_
  refine va_put (D := D) (ci := 8) (v := .int 0) (ty := .int) (C := RX8) (T := TX8) (N := 15) hx hb hta inA8 tyX8 tyX8_ok nmX8 hown hK hW.1 hW.2.1 hW.2.2 0 rfl rfl 6 (by decide) (hta _ kw_281) (fun _ h9 => h9) rfl (by decide +kernel) rfl rfl (Nat.le_of_ble_eq_true rfl) dX8_init_37 (fun H locs hP hD hS => ?_)
  have hW : wl D A s [(h0, .inr (8, [.null, .ref q801, .ref q802, .int 0, .int 1, .int (-1), .int 0, .int 0, .null, .null, .null, .null, .null, .null, .null])), (q801, .inl (cI, 16, .inl (fun _ => 0))), (q802, .inl (cI, 16, .inl (fun _ => 0)))] H locs := ⟨hP, hD, hS⟩
  refine lv_aload_n hx hb dX8_init_40 rfl (lv_at hl 0 rfl) ?_
  refine lv_iconst (v := (0 : Int32)) hx hb dX8_init_41 (by decide) ?_
  refine va_put (D := D) (ci := 8) (v := .int 0) (ty := .boolean) (C := RX8) (T := TX8) (N := 15) hx hb hta inA8 tyX8 tyX8_ok nmX8 hown hK hW.1 hW.2.1 hW.2.2 0 rfl rfl 7 (by decide) (hta _ kw_283) (fun _ h9 => h9) rfl (by decide +kernel) rfl rfl (Nat.le_of_ble_eq_true rfl) dX8_init_42 (fun H locs hP hD hS => ?_)
  have hW : wl D A s [(h0, .inr (8, [.null, .ref q801, .ref q802, .int 0, .int 1, .int (-1), .int 0, .int 0, .null, .null, .null, .null, .null, .null, .null])), (q801, .inl (cI, 16, .inl (fun _ => 0))), (q802, .inl (cI, 16, .inl (fun _ => 0)))] H locs := ⟨hP, hD, hS⟩
  refine lv_aload_n hx hb dX8_init_45 rfl (lv_at hl 0 rfl) ?_
  refine lv_bipush (v := (56 : Int32)) hx hb dX8_init_46 (by decide) ?_
  refine nwcJ (N := 56) C0 hW rfl (by decide) (by decide) (Nat.le_of_ble_eq_true rfl) (Nat.le_of_ble_eq_true rfl) dX8_init_48 (fun q808 H hW => ?_)
  refine W.widen (k := 3) (n := 88) (Nat.le_of_ble_eq_true rfl) (Nat.le_of_ble_eq_true rfl) ?_
  have hW : wl D A s [(h0, .inr (8, [.null, .ref q801, .ref q802, .int 0, .int 1, .int (-1), .int 0, .int 0, .null, .null, .null, .null, .null, .null, .null])), (q801, .inl (cI, 16, .inl (fun _ => 0))), (q802, .inl (cI, 16, .inl (fun _ => 0))), (q808, .inl (cJ, 56, .inr (.inl (fun _ => 0))))] H _ := hW
  refine va_put (D := D) (ci := 8) (v := .ref q808) (ty := .array .long) (C := RX8) (T := TX8) (N := 15) hx hb hta inA8 tyX8 tyX8_ok nmX8 hown hK hW.1 hW.2.1 hW.2.2 0 rfl rfl 8 (by decide) (hta _ kw_285) (fun _ h9 => h9) rfl (by decide +kernel) rfl rfl (Nat.le_of_ble_eq_true rfl) dX8_init_50 (fun H locs hP hD hS => ?_)
  have hW : wl D A s [(h0, .inr (8, [.null, .ref q801, .ref q802, .int 0, .int 1, .int (-1), .int 0, .int 0, .ref q808, .null, .null, .null, .null, .null, .null])), (q801, .inl (cI, 16, .inl (fun _ => 0))), (q802, .inl (cI, 16, .inl (fun _ => 0))), (q808, .inl (cJ, 56, .inr (.inl (fun _ => 0))))] H locs := ⟨hP, hD, hS⟩
  refine lv_aload_n hx hb dX8_init_53 rfl (lv_at hl 0 rfl) ?_
  refine lv_bipush (v := (56 : Int32)) hx hb dX8_init_54 (by decide) ?_
  refine nwcZ (N := 56) C0 hW rfl (by decide) (by decide) (Nat.le_of_ble_eq_true rfl) (Nat.le_of_ble_eq_true rfl) dX8_init_56 (fun q809 H hW => ?_)
  refine W.widen (k := 4) (n := 144) (Nat.le_of_ble_eq_true rfl) (Nat.le_of_ble_eq_true rfl) ?_
  have hW : wl D A s [(h0, .inr (8, [.null, .ref q801, .ref q802, .int 0, .int 1, .int (-1), .int 0, .int 0, .ref q808, .null, .null, .null, .null, .null, .null])), (q801, .inl (cI, 16, .inl (fun _ => 0))), (q802, .inl (cI, 16, .inl (fun _ => 0))), (q808, .inl (cJ, 56, .inr (.inl (fun _ => 0)))), (q809, .inl (cZ, 56, .inl (fun _ => 0)))] H _ := hW
  refine va_putF (D := D) (ci := 8) (v := .ref q809) (ty := .array .boolean) (C := RX8) (T := TX8) (N := 15) hx hb hta inA8 tyX8 tyX8_ok nmX8 hown hK hW.1 hW.2.1 hW.2.2 0 rfl rfl 9 (by decide) (hta _ kw_286) (fun _ h9 => h9) rfl hin rfl (by decide +kernel) rfl rfl (Nat.le_of_ble_eq_true rfl) dX8_init_58 (fun H locs hP hD hS => ?_)
  have hW : wl D A s [(h0, .inr (8, [.null, .ref q801, .ref q802, .int 0, .int 1, .int (-1), .int 0, .int 0, .ref q808, .ref q809, .null, .null, .null, .null, .null])), (q801, .inl (cI, 16, .inl (fun _ => 0))), (q802, .inl (cI, 16, .inl (fun _ => 0))), (q808, .inl (cJ, 56, .inr (.inl (fun _ => 0)))), (q809, .inl (cZ, 56, .inl (fun _ => 0)))] H locs := ⟨hP, hD, hS⟩
  refine lv_aload_n hx hb dX8_init_61 rfl (lv_at hl 0 rfl) ?_
  refine lv_sipush (v := (330 : Int32)) hx hb dX8_init_62 (by decide) ?_
  refine nwcZ (N := 330) C0 hW rfl (by decide) (by decide) (Nat.le_of_ble_eq_true rfl) (Nat.le_of_ble_eq_true rfl) dX8_init_65 (fun q810 H hW => ?_)
  refine W.widen (k := 5) (n := 474) (Nat.le_of_ble_eq_true rfl) (Nat.le_of_ble_eq_true rfl) ?_
  have hW : wl D A s [(h0, .inr (8, [.null, .ref q801, .ref q802, .int 0, .int 1, .int (-1), .int 0, .int 0, .ref q808, .ref q809, .null, .null, .null, .null, .null])), (q801, .inl (cI, 16, .inl (fun _ => 0))), (q802, .inl (cI, 16, .inl (fun _ => 0))), (q808, .inl (cJ, 56, .inr (.inl (fun _ => 0)))), (q809, .inl (cZ, 56, .inl (fun _ => 0))), (q810, .inl (cZ, 330, .inl (fun _ => 0)))] H _ := hW
  refine va_putF (D := D) (ci := 8) (v := .ref q810) (ty := .array .boolean) (C := RX8) (T := TX8) (N := 15) hx hb hta inA8 tyX8 tyX8_ok nmX8 hown hK hW.1 hW.2.1 hW.2.2 0 rfl rfl 10 (by decide) (hta _ kw_287) (fun _ h9 => h9) rfl hin rfl (by decide +kernel) rfl rfl (Nat.le_of_ble_eq_true rfl) dX8_init_67 (fun H locs hP hD hS => ?_)
  have hW : wl D A s [(h0, .inr (8, [.null, .ref q801, .ref q802, .int 0, .int 1, .int (-1), .int 0, .int 0, .ref q808, .ref q809, .ref q810, .null, .null, .null, .null])), (q801, .inl (cI, 16, .inl (fun _ => 0))), (q802, .inl (cI, 16, .inl (fun _ => 0))), (q808, .inl (cJ, 56, .inr (.inl (fun _ => 0)))), (q809, .inl (cZ, 56, .inl (fun _ => 0))), (q810, .inl (cZ, 330, .inl (fun _ => 0)))] H locs := ⟨hP, hD, hS⟩
  refine lv_aload_n hx hb dX8_init_70 rfl (lv_at hl 0 rfl) ?_
  refine lv_sipush (v := (330 : Int32)) hx hb dX8_init_71 (by decide) ?_
  refine nwcI (N := 330) C0 hW rfl (by decide) (by decide) (Nat.le_of_ble_eq_true rfl) (Nat.le_of_ble_eq_true rfl) dX8_init_74 (fun q811 H hW => ?_)
  refine W.widen (k := 6) (n := 804) (Nat.le_of_ble_eq_true rfl) (Nat.le_of_ble_eq_true rfl) ?_
  have hW : wl D A s [(h0, .inr (8, [.null, .ref q801, .ref q802, .int 0, .int 1, .int (-1), .int 0, .int 0, .ref q808, .ref q809, .ref q810, .null, .null, .null, .null])), (q801, .inl (cI, 16, .inl (fun _ => 0))), (q802, .inl (cI, 16, .inl (fun _ => 0))), (q808, .inl (cJ, 56, .inr (.inl (fun _ => 0)))), (q809, .inl (cZ, 56, .inl (fun _ => 0))), (q810, .inl (cZ, 330, .inl (fun _ => 0))), (q811, .inl (cI, 330, .inl (fun _ => 0)))] H _ := hW
  refine va_putF (D := D) (ci := 8) (v := .ref q811) (ty := .array .int) (C := RX8) (T := TX8) (N := 15) hx hb hta inA8 tyX8 tyX8_ok nmX8 hown hK hW.1 hW.2.1 hW.2.2 0 rfl rfl 11 (by decide) (hta _ kw_288) (fun _ h9 => h9) rfl hin rfl (by decide +kernel) rfl rfl (Nat.le_of_ble_eq_true rfl) dX8_init_76 (fun H locs hP hD hS => ?_)
  have hW : wl D A s [(h0, .inr (8, [.null, .ref q801, .ref q802, .int 0, .int 1, .int (-1), .int 0, .int 0, .ref q808, .ref q809, .ref q810, .ref q811, .null, .null, .null])), (q801, .inl (cI, 16, .inl (fun _ => 0))), (q802, .inl (cI, 16, .inl (fun _ => 0))), (q808, .inl (cJ, 56, .inr (.inl (fun _ => 0)))), (q809, .inl (cZ, 56, .inl (fun _ => 0))), (q810, .inl (cZ, 330, .inl (fun _ => 0))), (q811, .inl (cI, 330, .inl (fun _ => 0)))] H locs := ⟨hP, hD, hS⟩
  refine lv_aload_n hx hb dX8_init_79 rfl (lv_at hl 0 rfl) ?_
  refine lv_sipush (v := (330 : Int32)) hx hb dX8_init_80 (by decide) ?_
  refine nwcI (N := 330) C0 hW rfl (by decide) (by decide) (Nat.le_of_ble_eq_true rfl) (Nat.le_of_ble_eq_true rfl) dX8_init_83 (fun q812 H hW => ?_)
  refine W.widen (k := 7) (n := 1134) (Nat.le_of_ble_eq_true rfl) (Nat.le_of_ble_eq_true rfl) ?_
  have hW : wl D A s [(h0, .inr (8, [.null, .ref q801, .ref q802, .int 0, .int 1, .int (-1), .int 0, .int 0, .ref q808, .ref q809, .ref q810, .ref q811, .null, .null, .null])), (q801, .inl (cI, 16, .inl (fun _ => 0))), (q802, .inl (cI, 16, .inl (fun _ => 0))), (q808, .inl (cJ, 56, .inr (.inl (fun _ => 0)))), (q809, .inl (cZ, 56, .inl (fun _ => 0))), (q810, .inl (cZ, 330, .inl (fun _ => 0))), (q811, .inl (cI, 330, .inl (fun _ => 0))), (q812, .inl (cI, 330, .inl (fun _ => 0)))] H _ := hW
  refine va_putF (D := D) (ci := 8) (v := .ref q812) (ty := .array .int) (C := RX8) (T := TX8) (N := 15) hx hb hta inA8 tyX8 tyX8_ok nmX8 hown hK hW.1 hW.2.1 hW.2.2 0 rfl rfl 12 (by decide) (hta _ kw_289) (fun _ h9 => h9) rfl hin rfl (by decide +kernel) rfl rfl (Nat.le_of_ble_eq_true rfl) dX8_init_85 (fun H locs hP hD hS => ?_)
  have hW : wl D A s [(h0, .inr (8, [.null, .ref q801, .ref q802, .int 0, .int 1, .int (-1), .int 0, .int 0, .ref q808, .ref q809, .ref q810, .ref q811, .ref q812, .null, .null])), (q801, .inl (cI, 16, .inl (fun _ => 0))), (q802, .inl (cI, 16, .inl (fun _ => 0))), (q808, .inl (cJ, 56, .inr (.inl (fun _ => 0)))), (q809, .inl (cZ, 56, .inl (fun _ => 0))), (q810, .inl (cZ, 330, .inl (fun _ => 0))), (q811, .inl (cI, 330, .inl (fun _ => 0))), (q812, .inl (cI, 330, .inl (fun _ => 0)))] H locs := ⟨hP, hD, hS⟩
  refine lv_aload_n hx hb dX8_init_88 rfl (lv_at hl 0 rfl) ?_
  refine lv_sipush (v := (330 : Int32)) hx hb dX8_init_89 (by decide) ?_
  refine nwcI (N := 330) C0 hW rfl (by decide) (by decide) (Nat.le_of_ble_eq_true rfl) (Nat.le_of_ble_eq_true rfl) dX8_init_92 (fun q813 H hW => ?_)
  refine W.widen (k := 8) (n := 1464) (Nat.le_of_ble_eq_true rfl) (Nat.le_of_ble_eq_true rfl) ?_
  have hW : wl D A s [(h0, .inr (8, [.null, .ref q801, .ref q802, .int 0, .int 1, .int (-1), .int 0, .int 0, .ref q808, .ref q809, .ref q810, .ref q811, .ref q812, .null, .null])), (q801, .inl (cI, 16, .inl (fun _ => 0))), (q802, .inl (cI, 16, .inl (fun _ => 0))), (q808, .inl (cJ, 56, .inr (.inl (fun _ => 0)))), (q809, .inl (cZ, 56, .inl (fun _ => 0))), (q810, .inl (cZ, 330, .inl (fun _ => 0))), (q811, .inl (cI, 330, .inl (fun _ => 0))), (q812, .inl (cI, 330, .inl (fun _ => 0))), (q813, .inl (cI, 330, .inl (fun _ => 0)))] H _ := hW
  refine va_putF (D := D) (ci := 8) (v := .ref q813) (ty := .array .int) (C := RX8) (T := TX8) (N := 15) hx hb hta inA8 tyX8 tyX8_ok nmX8 hown hK hW.1 hW.2.1 hW.2.2 0 rfl rfl 13 (by decide) (hta _ kw_290) (fun _ h9 => h9) rfl hin rfl (by decide +kernel) rfl rfl (Nat.le_of_ble_eq_true rfl) dX8_init_94 (fun H locs hP hD hS => ?_)
  have hW : wl D A s [(h0, .inr (8, [.null, .ref q801, .ref q802, .int 0, .int 1, .int (-1), .int 0, .int 0, .ref q808, .ref q809, .ref q810, .ref q811, .ref q812, .ref q813, .null])), (q801, .inl (cI, 16, .inl (fun _ => 0))), (q802, .inl (cI, 16, .inl (fun _ => 0))), (q808, .inl (cJ, 56, .inr (.inl (fun _ => 0)))), (q809, .inl (cZ, 56, .inl (fun _ => 0))), (q810, .inl (cZ, 330, .inl (fun _ => 0))), (q811, .inl (cI, 330, .inl (fun _ => 0))), (q812, .inl (cI, 330, .inl (fun _ => 0))), (q813, .inl (cI, 330, .inl (fun _ => 0)))] H locs := ⟨hP, hD, hS⟩
  refine lv_aload_n hx hb dX8_init_97 rfl (lv_at hl 0 rfl) ?_
  refine lv_bipush (v := (9 : Int32)) hx hb dX8_init_98 (by decide) ?_
  refine nwcJ (N := 9) C0 hW rfl (by decide) (by decide) (Nat.le_of_ble_eq_true rfl) (Nat.le_of_ble_eq_true rfl) dX8_init_100 (fun q814 H hW => ?_)
  refine W.widen (k := 9) (n := 1473) (Nat.le_of_ble_eq_true rfl) (Nat.le_of_ble_eq_true rfl) ?_
  have hW : wl D A s [(h0, .inr (8, [.null, .ref q801, .ref q802, .int 0, .int 1, .int (-1), .int 0, .int 0, .ref q808, .ref q809, .ref q810, .ref q811, .ref q812, .ref q813, .null])), (q801, .inl (cI, 16, .inl (fun _ => 0))), (q802, .inl (cI, 16, .inl (fun _ => 0))), (q808, .inl (cJ, 56, .inr (.inl (fun _ => 0)))), (q809, .inl (cZ, 56, .inl (fun _ => 0))), (q810, .inl (cZ, 330, .inl (fun _ => 0))), (q811, .inl (cI, 330, .inl (fun _ => 0))), (q812, .inl (cI, 330, .inl (fun _ => 0))), (q813, .inl (cI, 330, .inl (fun _ => 0))), (q814, .inl (cJ, 9, .inr (.inl (fun _ => 0))))] H _ := hW
  refine va_putF (D := D) (ci := 8) (v := .ref q814) (ty := .array .long) (C := RX8) (T := TX8) (N := 15) hx hb hta inA8 tyX8 tyX8_ok nmX8 hown hK hW.1 hW.2.1 hW.2.2 0 rfl rfl 14 (by decide) (hta _ kw_291) (fun _ h9 => h9) rfl hin rfl (by decide +kernel) rfl rfl (Nat.le_of_ble_eq_true rfl) dX8_init_102 (fun H locs hP hD hS => ?_)
  have hW : wl D A s [(h0, .inr (8, [.null, .ref q801, .ref q802, .int 0, .int 1, .int (-1), .int 0, .int 0, .ref q808, .ref q809, .ref q810, .ref q811, .ref q812, .ref q813, .ref q814])), (q801, .inl (cI, 16, .inl (fun _ => 0))), (q802, .inl (cI, 16, .inl (fun _ => 0))), (q808, .inl (cJ, 56, .inr (.inl (fun _ => 0)))), (q809, .inl (cZ, 56, .inl (fun _ => 0))), (q810, .inl (cZ, 330, .inl (fun _ => 0))), (q811, .inl (cI, 330, .inl (fun _ => 0))), (q812, .inl (cI, 330, .inl (fun _ => 0))), (q813, .inl (cI, 330, .inl (fun _ => 0))), (q814, .inl (cJ, 9, .inr (.inl (fun _ => 0))))] H locs := ⟨hP, hD, hS⟩
  refine lv_aload_n hx hb dX8_init_105 rfl (lv_at hl 0 rfl) ?_
  refine lv_aload_n hx hb dX8_init_106 rfl (lv_at hl 1 rfl) ?_
  refine va_putF (D := D) (ci := 8) (v := .ref o1) (ty := .object "GuardNets$Nets") (C := RX8) (T := TX8) (N := 15) hx hb hta inA8 tyX8 tyX8_ok nmX8 hown hK hW.1 hW.2.1 hW.2.2 0 rfl rfl 0 (by decide) (hta _ kw_269) (fun _ h9 => h9) rfl hin rfl (by decide +kernel) rfl rfl (Nat.le_of_ble_eq_true rfl) dX8_init_107 (fun H locs hP hD hS => ?_)
  have hW : wl D A s [(h0, .inr (8, [.ref o1, .ref q801, .ref q802, .int 0, .int 1, .int (-1), .int 0, .int 0, .ref q808, .ref q809, .ref q810, .ref q811, .ref q812, .ref q813, .ref q814])), (q801, .inl (cI, 16, .inl (fun _ => 0))), (q802, .inl (cI, 16, .inl (fun _ => 0))), (q808, .inl (cJ, 56, .inr (.inl (fun _ => 0)))), (q809, .inl (cZ, 56, .inl (fun _ => 0))), (q810, .inl (cZ, 330, .inl (fun _ => 0))), (q811, .inl (cI, 330, .inl (fun _ => 0))), (q812, .inl (cI, 330, .inl (fun _ => 0))), (q813, .inl (cI, 330, .inl (fun _ => 0))), (q814, .inl (cJ, 9, .inr (.inl (fun _ => 0))))] H locs := ⟨hP, hD, hS⟩
  have hW : wl D A s (wC8 cI cJ cZ h0 o1 (fun k => amOf [0, q801, q802, 0, 0, 0, 0, 0, q808, q809, q810, q811, q812, q813, q814] (k - 800))) H locs := hW
  exact W.vret hx hb B.returns (fun t ht hV => ⟨⟨(fun k => amOf [0, q801, q802, 0, 0, 0, 0, 0, q808, q809, q810, q811, q812, q813, q814] (k - 800)), rfl, trivial, by rw [ht]; exact hW.1, va_K.moved hV.alike hK, hW.2.1⟩, hW.2.2.F ht⟩) hW.2.2.2.2 dX8_init_110
def wC9 (cI cJ cZ : ClassId) (h0 o1 : Nat) (q : Nat → Nat) : va_W := [(h0, .inr (9, [.ref o1, .ref (q 901), .ref (q 902), .ref (q 903), .ref (q 904), .int 0, .ref (q 906), .ref (q 907)])), (q 901, .inl (cI, 48, .inl (fun _ => 0))), (q 902, .inl (cI, 4, .inl (fun _ => 0))), (q 903, .inl (cI, 600, .inl (fun _ => 0))), (q 904, .inl (cI, 7, .inl (fun _ => 0))), (q 906, .inl (cI, 601, .inl (fun _ => 0))), (q 907, .inl (cI, 128, .inl (fun _ => 0)))]
set_option maxHeartbeats 4000000 in
set_option maxRecDepth 100000 in
theorem c_ctor9 (l : Launch) {D : va_G} {cI cJ cZ cR : ClassId} (h0 o1 sz : Nat) : Met l yX9_init (.code yX9_init cX9_init 2 none :: wsAll) ({ frames := 1, cells := 6, slots := 1388, locals := 20 } : Room) (va_Pc [.ref h0, .ref o1] (prW D (tyX cI cJ cZ cR) [(h0, .inr (9, [.null, .null, .null, .null, .null, .int 0, .null, .null]))] sz)) (va_Qv (fun (_ : Nat → Nat) => True) (fun q => poW D (tyX cI cJ cZ cR) (wC9 cI cJ cZ h0 o1 q) (va_A [(h0, .inr (9, [.null, .null, .null, .null, .null, .int 0, .null, .null]))] sz)) (va_A [(h0, .inr (9, [.null, .null, .null, .null, .null, .int 0, .null, .null]))] sz)) 6 1388 (va_A [(h0, .inr (9, [.null, .null, .null, .null, .null, .int 0, .null, .null]))] sz) := by
  refine Met.ofW (cc := cX9_init) (maxL := 2) (ret := none) (by decide) rfl ?_
  intro p e s m args below meth c s₁ B hml hv
  obtain ⟨rfl, hsz, hP, hK, hD0⟩ := hv
  have hx := B.exec
  have hb := B.bytes
  have hts := atoms_spec (ws := (.code yX9_init cX9_init 2 none :: wsAll)) B.pre
  have hta := fun w h => hts w (List.mem_cons_of_mem _ h)
  have hown : s.vm.findClass RX9 = some m.cls := findClass_of_methodNamed B.named
  have hlocks := B.notSynchronized
  have hin : meth.name = "<init>" := (name_of_methodNamed B.named B.method).1
  subst hsz
  have hD := hD0.self (sz := s.heap.size)
  generalize hAe : va_A [(h0, .inr (9, [.null, .null, .null, .null, .null, .int 0, .null, .null]))] s.heap.size = A at hD ⊢
  have hA : ∀ q : Nat, s.heap.size ≤ q → A q := fun q h => by rw [← hAe]; exact Or.inr h
  have C0 : cx p s m ([.ref h0, .ref o1].toArray) meth c cX9_init RX9 2 none D (tyX cI cJ cZ cR) A := ⟨hx, hb, B.returns, hml, hown, hta, hlocks, hK, hA⟩
  have hW : wl D A s [(h0, .inr (9, [.null, .null, .null, .null, .null, .int 0, .null, .null]))] s.heap [] := ⟨hP, hD, va_S.rf⟩
  have hl := lv_entry [.ref h0, .ref o1] (n := 2) (Nat.le_of_ble_eq_true rfl)
  rw [lg_entry_eq]
  generalize (lg_sl [.ref h0, .ref o1] ++ List.replicate (2 - (lg_sl [.ref h0, .ref o1]).length) Slot.unset).toArray = ls at hl ⊢
  have hl : lv_has ls 2 [(0, .ref h0), (1, .ref o1)] := hl
  refine lv_aload_n hx hb dX9_init_0 rfl (lv_at hl 0 rfl) ?_
  refine W.objInit hx hb hown (hta _ kw_564) (hta _ kw_146) (hta _ kw_147) rfl (by rw [hml]; exact hl.1) rfl dX9_init_1 (Nat.le_of_ble_eq_true rfl) (Nat.le_of_ble_eq_true rfl) ?_
  refine W.eq (g2 := F0 m 4 ls []) rfl ?_
  refine lv_aload_n hx hb dX9_init_4 rfl (lv_at hl 0 rfl) ?_
  refine lv_bipush (v := (48 : Int32)) hx hb dX9_init_5 (by decide) ?_
  refine nwcI (N := 48) C0 hW rfl (by decide) (by decide) (Nat.le_of_ble_eq_true rfl) (Nat.le_of_ble_eq_true rfl) dX9_init_7 (fun q901 H hW => ?_)
  refine W.widen (k := 1) (n := 48) (Nat.le_of_ble_eq_true rfl) (Nat.le_of_ble_eq_true rfl) ?_
  have hW : wl D A s [(h0, .inr (9, [.null, .null, .null, .null, .null, .int 0, .null, .null])), (q901, .inl (cI, 48, .inl (fun _ => 0)))] H _ := hW
  refine va_putF (D := D) (ci := 9) (v := .ref q901) (ty := .array .int) (C := RX9) (T := TX9) (N := 8) hx hb hta inA9 tyX9 tyX9_ok nmX9 hown hK hW.1 hW.2.1 hW.2.2 0 rfl rfl 1 (by decide) (hta _ kw_566) (fun _ h9 => h9) rfl hin rfl (by decide +kernel) rfl rfl (Nat.le_of_ble_eq_true rfl) dX9_init_9 (fun H locs hP hD hS => ?_)
  have hW : wl D A s [(h0, .inr (9, [.null, .ref q901, .null, .null, .null, .int 0, .null, .null])), (q901, .inl (cI, 48, .inl (fun _ => 0)))] H locs := ⟨hP, hD, hS⟩
  refine lv_aload_n hx hb dX9_init_12 rfl (lv_at hl 0 rfl) ?_
  refine lv_iconst (v := (4 : Int32)) hx hb dX9_init_13 (by decide) ?_
  refine nwcI (N := 4) C0 hW rfl (by decide) (by decide) (Nat.le_of_ble_eq_true rfl) (Nat.le_of_ble_eq_true rfl) dX9_init_14 (fun q902 H hW => ?_)
  refine W.widen (k := 2) (n := 52) (Nat.le_of_ble_eq_true rfl) (Nat.le_of_ble_eq_true rfl) ?_
  have hW : wl D A s [(h0, .inr (9, [.null, .ref q901, .null, .null, .null, .int 0, .null, .null])), (q901, .inl (cI, 48, .inl (fun _ => 0))), (q902, .inl (cI, 4, .inl (fun _ => 0)))] H _ := hW
  refine va_putF (D := D) (ci := 9) (v := .ref q902) (ty := .array .int) (C := RX9) (T := TX9) (N := 8) hx hb hta inA9 tyX9 tyX9_ok nmX9 hown hK hW.1 hW.2.1 hW.2.2 0 rfl rfl 2 (by decide) (hta _ kw_567) (fun _ h9 => h9) rfl hin rfl (by decide +kernel) rfl rfl (Nat.le_of_ble_eq_true rfl) dX9_init_16 (fun H locs hP hD hS => ?_)
  have hW : wl D A s [(h0, .inr (9, [.null, .ref q901, .ref q902, .null, .null, .int 0, .null, .null])), (q901, .inl (cI, 48, .inl (fun _ => 0))), (q902, .inl (cI, 4, .inl (fun _ => 0)))] H locs := ⟨hP, hD, hS⟩
  refine lv_aload_n hx hb dX9_init_19 rfl (lv_at hl 0 rfl) ?_
  refine lv_sipush (v := (600 : Int32)) hx hb dX9_init_20 (by decide) ?_
  refine nwcI (N := 600) C0 hW rfl (by decide) (by decide) (Nat.le_of_ble_eq_true rfl) (Nat.le_of_ble_eq_true rfl) dX9_init_23 (fun q903 H hW => ?_)
  refine W.widen (k := 3) (n := 652) (Nat.le_of_ble_eq_true rfl) (Nat.le_of_ble_eq_true rfl) ?_
  have hW : wl D A s [(h0, .inr (9, [.null, .ref q901, .ref q902, .null, .null, .int 0, .null, .null])), (q901, .inl (cI, 48, .inl (fun _ => 0))), (q902, .inl (cI, 4, .inl (fun _ => 0))), (q903, .inl (cI, 600, .inl (fun _ => 0)))] H _ := hW
  refine va_putF (D := D) (ci := 9) (v := .ref q903) (ty := .array .int) (C := RX9) (T := TX9) (N := 8) hx hb hta inA9 tyX9 tyX9_ok nmX9 hown hK hW.1 hW.2.1 hW.2.2 0 rfl rfl 3 (by decide) (hta _ kw_569) (fun _ h9 => h9) rfl hin rfl (by decide +kernel) rfl rfl (Nat.le_of_ble_eq_true rfl) dX9_init_25 (fun H locs hP hD hS => ?_)
  have hW : wl D A s [(h0, .inr (9, [.null, .ref q901, .ref q902, .ref q903, .null, .int 0, .null, .null])), (q901, .inl (cI, 48, .inl (fun _ => 0))), (q902, .inl (cI, 4, .inl (fun _ => 0))), (q903, .inl (cI, 600, .inl (fun _ => 0)))] H locs := ⟨hP, hD, hS⟩
  refine lv_aload_n hx hb dX9_init_28 rfl (lv_at hl 0 rfl) ?_
  refine lv_bipush (v := (7 : Int32)) hx hb dX9_init_29 (by decide) ?_
  refine nwcI (N := 7) C0 hW rfl (by decide) (by decide) (Nat.le_of_ble_eq_true rfl) (Nat.le_of_ble_eq_true rfl) dX9_init_31 (fun q904 H hW => ?_)
  refine W.widen (k := 4) (n := 659) (Nat.le_of_ble_eq_true rfl) (Nat.le_of_ble_eq_true rfl) ?_
  have hW : wl D A s [(h0, .inr (9, [.null, .ref q901, .ref q902, .ref q903, .null, .int 0, .null, .null])), (q901, .inl (cI, 48, .inl (fun _ => 0))), (q902, .inl (cI, 4, .inl (fun _ => 0))), (q903, .inl (cI, 600, .inl (fun _ => 0))), (q904, .inl (cI, 7, .inl (fun _ => 0)))] H _ := hW
  refine va_putF (D := D) (ci := 9) (v := .ref q904) (ty := .array .int) (C := RX9) (T := TX9) (N := 8) hx hb hta inA9 tyX9 tyX9_ok nmX9 hown hK hW.1 hW.2.1 hW.2.2 0 rfl rfl 4 (by decide) (hta _ kw_570) (fun _ h9 => h9) rfl hin rfl (by decide +kernel) rfl rfl (Nat.le_of_ble_eq_true rfl) dX9_init_33 (fun H locs hP hD hS => ?_)
  have hW : wl D A s [(h0, .inr (9, [.null, .ref q901, .ref q902, .ref q903, .ref q904, .int 0, .null, .null])), (q901, .inl (cI, 48, .inl (fun _ => 0))), (q902, .inl (cI, 4, .inl (fun _ => 0))), (q903, .inl (cI, 600, .inl (fun _ => 0))), (q904, .inl (cI, 7, .inl (fun _ => 0)))] H locs := ⟨hP, hD, hS⟩
  refine lv_aload_n hx hb dX9_init_36 rfl (lv_at hl 0 rfl) ?_
  refine lv_iconst (v := (0 : Int32)) hx hb dX9_init_37 (by decide) ?_
  refine va_put (D := D) (ci := 9) (v := .int 0) (ty := .int) (C := RX9) (T := TX9) (N := 8) hx hb hta inA9 tyX9 tyX9_ok nmX9 hown hK hW.1 hW.2.1 hW.2.2 0 rfl rfl 5 (by decide) (hta _ kw_571) (fun _ h9 => h9) rfl (by decide +kernel) rfl rfl (Nat.le_of_ble_eq_true rfl) dX9_init_38 (fun H locs hP hD hS => ?_)
  have hW : wl D A s [(h0, .inr (9, [.null, .ref q901, .ref q902, .ref q903, .ref q904, .int 0, .null, .null])), (q901, .inl (cI, 48, .inl (fun _ => 0))), (q902, .inl (cI, 4, .inl (fun _ => 0))), (q903, .inl (cI, 600, .inl (fun _ => 0))), (q904, .inl (cI, 7, .inl (fun _ => 0)))] H locs := ⟨hP, hD, hS⟩
  refine lv_aload_n hx hb dX9_init_41 rfl (lv_at hl 0 rfl) ?_
  refine lv_sipush (v := (601 : Int32)) hx hb dX9_init_42 (by decide) ?_
  refine nwcI (N := 601) C0 hW rfl (by decide) (by decide) (Nat.le_of_ble_eq_true rfl) (Nat.le_of_ble_eq_true rfl) dX9_init_45 (fun q906 H hW => ?_)
  refine W.widen (k := 5) (n := 1260) (Nat.le_of_ble_eq_true rfl) (Nat.le_of_ble_eq_true rfl) ?_
  have hW : wl D A s [(h0, .inr (9, [.null, .ref q901, .ref q902, .ref q903, .ref q904, .int 0, .null, .null])), (q901, .inl (cI, 48, .inl (fun _ => 0))), (q902, .inl (cI, 4, .inl (fun _ => 0))), (q903, .inl (cI, 600, .inl (fun _ => 0))), (q904, .inl (cI, 7, .inl (fun _ => 0))), (q906, .inl (cI, 601, .inl (fun _ => 0)))] H _ := hW
  refine va_put (D := D) (ci := 9) (v := .ref q906) (ty := .array .int) (C := RX9) (T := TX9) (N := 8) hx hb hta inA9 tyX9 tyX9_ok nmX9 hown hK hW.1 hW.2.1 hW.2.2 0 rfl rfl 6 (by decide) (hta _ kw_572) (fun _ h9 => h9) rfl (by decide +kernel) rfl rfl (Nat.le_of_ble_eq_true rfl) dX9_init_47 (fun H locs hP hD hS => ?_)
  have hW : wl D A s [(h0, .inr (9, [.null, .ref q901, .ref q902, .ref q903, .ref q904, .int 0, .ref q906, .null])), (q901, .inl (cI, 48, .inl (fun _ => 0))), (q902, .inl (cI, 4, .inl (fun _ => 0))), (q903, .inl (cI, 600, .inl (fun _ => 0))), (q904, .inl (cI, 7, .inl (fun _ => 0))), (q906, .inl (cI, 601, .inl (fun _ => 0)))] H locs := ⟨hP, hD, hS⟩
  refine lv_aload_n hx hb dX9_init_50 rfl (lv_at hl 0 rfl) ?_
  refine lv_sipush (v := (128 : Int32)) hx hb dX9_init_51 (by decide) ?_
  refine nwcI (N := 128) C0 hW rfl (by decide) (by decide) (Nat.le_of_ble_eq_true rfl) (Nat.le_of_ble_eq_true rfl) dX9_init_54 (fun q907 H hW => ?_)
  refine W.widen (k := 6) (n := 1388) (Nat.le_of_ble_eq_true rfl) (Nat.le_of_ble_eq_true rfl) ?_
  have hW : wl D A s [(h0, .inr (9, [.null, .ref q901, .ref q902, .ref q903, .ref q904, .int 0, .ref q906, .null])), (q901, .inl (cI, 48, .inl (fun _ => 0))), (q902, .inl (cI, 4, .inl (fun _ => 0))), (q903, .inl (cI, 600, .inl (fun _ => 0))), (q904, .inl (cI, 7, .inl (fun _ => 0))), (q906, .inl (cI, 601, .inl (fun _ => 0))), (q907, .inl (cI, 128, .inl (fun _ => 0)))] H _ := hW
  refine va_putF (D := D) (ci := 9) (v := .ref q907) (ty := .array .int) (C := RX9) (T := TX9) (N := 8) hx hb hta inA9 tyX9 tyX9_ok nmX9 hown hK hW.1 hW.2.1 hW.2.2 0 rfl rfl 7 (by decide) (hta _ kw_573) (fun _ h9 => h9) rfl hin rfl (by decide +kernel) rfl rfl (Nat.le_of_ble_eq_true rfl) dX9_init_56 (fun H locs hP hD hS => ?_)
  have hW : wl D A s [(h0, .inr (9, [.null, .ref q901, .ref q902, .ref q903, .ref q904, .int 0, .ref q906, .ref q907])), (q901, .inl (cI, 48, .inl (fun _ => 0))), (q902, .inl (cI, 4, .inl (fun _ => 0))), (q903, .inl (cI, 600, .inl (fun _ => 0))), (q904, .inl (cI, 7, .inl (fun _ => 0))), (q906, .inl (cI, 601, .inl (fun _ => 0))), (q907, .inl (cI, 128, .inl (fun _ => 0)))] H locs := ⟨hP, hD, hS⟩
  refine lv_aload_n hx hb dX9_init_59 rfl (lv_at hl 0 rfl) ?_
  refine lv_aload_n hx hb dX9_init_60 rfl (lv_at hl 1 rfl) ?_
  refine va_putF (D := D) (ci := 9) (v := .ref o1) (ty := .object "GuardNets$House") (C := RX9) (T := TX9) (N := 8) hx hb hta inA9 tyX9 tyX9_ok nmX9 hown hK hW.1 hW.2.1 hW.2.2 0 rfl rfl 0 (by decide) (hta _ kw_565) (fun _ h9 => h9) rfl hin rfl (by decide +kernel) rfl rfl (Nat.le_of_ble_eq_true rfl) dX9_init_61 (fun H locs hP hD hS => ?_)
  have hW : wl D A s [(h0, .inr (9, [.ref o1, .ref q901, .ref q902, .ref q903, .ref q904, .int 0, .ref q906, .ref q907])), (q901, .inl (cI, 48, .inl (fun _ => 0))), (q902, .inl (cI, 4, .inl (fun _ => 0))), (q903, .inl (cI, 600, .inl (fun _ => 0))), (q904, .inl (cI, 7, .inl (fun _ => 0))), (q906, .inl (cI, 601, .inl (fun _ => 0))), (q907, .inl (cI, 128, .inl (fun _ => 0)))] H locs := ⟨hP, hD, hS⟩
  have hW : wl D A s (wC9 cI cJ cZ h0 o1 (fun k => amOf [0, q901, q902, q903, q904, 0, q906, q907] (k - 900))) H locs := hW
  exact W.vret hx hb B.returns (fun t ht hV => ⟨⟨(fun k => amOf [0, q901, q902, q903, q904, 0, q906, q907] (k - 900)), rfl, trivial, by rw [ht]; exact hW.1, va_K.moved hV.alike hK, hW.2.1⟩, hW.2.2.F ht⟩) hW.2.2.2.2 dX9_init_64
def wC10 (cI cJ cZ : ClassId) (h0 o1 o2 : Nat) (q : Nat → Nat) : va_W := [(h0, .inr (10, [.ref o1, .ref o2, .ref (q 1002), .ref (q 1003), .int 0, .int (-1), .ref (q 1006), .int 0, .ref (q 1008)])), (q 1002, .inl (cI, 200, .inl (fun _ => 0))), (q 1003, .inl (cI, 200, .inl (fun _ => 0))), (q 1006, .inl (cI, 6, .inl (fun _ => 0))), (q 1008, .inl (cI, 200, .inl (fun _ => 0)))]
set_option maxHeartbeats 4000000 in
set_option maxRecDepth 100000 in
theorem c_ctor10 (l : Launch) {D : va_G} {cI cJ cZ cR : ClassId} (h0 o1 o2 sz : Nat) : Met l yX10_init (.code yX10_init cX10_init 3 none :: wsAll) ({ frames := 1, cells := 4, slots := 606, locals := 20 } : Room) (va_Pc [.ref h0, .ref o1, .ref o2] (prW D (tyX cI cJ cZ cR) [(h0, .inr (10, [.null, .null, .null, .null, .int 0, .int 0, .null, .int 0, .null]))] sz)) (va_Qv (fun (_ : Nat → Nat) => True) (fun q => poW D (tyX cI cJ cZ cR) (wC10 cI cJ cZ h0 o1 o2 q) (va_A [(h0, .inr (10, [.null, .null, .null, .null, .int 0, .int 0, .null, .int 0, .null]))] sz)) (va_A [(h0, .inr (10, [.null, .null, .null, .null, .int 0, .int 0, .null, .int 0, .null]))] sz)) 4 606 (va_A [(h0, .inr (10, [.null, .null, .null, .null, .int 0, .int 0, .null, .int 0, .null]))] sz) := by
  refine Met.ofW (cc := cX10_init) (maxL := 3) (ret := none) (by decide) rfl ?_
  intro p e s m args below meth c s₁ B hml hv
  obtain ⟨rfl, hsz, hP, hK, hD0⟩ := hv
  have hx := B.exec
  have hb := B.bytes
  have hts := atoms_spec (ws := (.code yX10_init cX10_init 3 none :: wsAll)) B.pre
  have hta := fun w h => hts w (List.mem_cons_of_mem _ h)
  have hown : s.vm.findClass RX10 = some m.cls := findClass_of_methodNamed B.named
  have hlocks := B.notSynchronized
  have hin : meth.name = "<init>" := (name_of_methodNamed B.named B.method).1
  subst hsz
  have hD := hD0.self (sz := s.heap.size)
  generalize hAe : va_A [(h0, .inr (10, [.null, .null, .null, .null, .int 0, .int 0, .null, .int 0, .null]))] s.heap.size = A at hD ⊢
  have hA : ∀ q : Nat, s.heap.size ≤ q → A q := fun q h => by rw [← hAe]; exact Or.inr h
  have C0 : cx p s m ([.ref h0, .ref o1, .ref o2].toArray) meth c cX10_init RX10 3 none D (tyX cI cJ cZ cR) A := ⟨hx, hb, B.returns, hml, hown, hta, hlocks, hK, hA⟩
  have hW : wl D A s [(h0, .inr (10, [.null, .null, .null, .null, .int 0, .int 0, .null, .int 0, .null]))] s.heap [] := ⟨hP, hD, va_S.rf⟩
  have hl := lv_entry [.ref h0, .ref o1, .ref o2] (n := 3) (Nat.le_of_ble_eq_true rfl)
  rw [lg_entry_eq]
  generalize (lg_sl [.ref h0, .ref o1, .ref o2] ++ List.replicate (3 - (lg_sl [.ref h0, .ref o1, .ref o2]).length) Slot.unset).toArray = ls at hl ⊢
  have hl : lv_has ls 3 [(0, .ref h0), (1, .ref o1), (2, .ref o2)] := hl
  refine lv_aload_n hx hb dX10_init_0 rfl (lv_at hl 0 rfl) ?_
  refine W.objInit hx hb hown (hta _ kw_329) (hta _ kw_146) (hta _ kw_147) rfl (by rw [hml]; exact hl.1) rfl dX10_init_1 (Nat.le_of_ble_eq_true rfl) (Nat.le_of_ble_eq_true rfl) ?_
  refine W.eq (g2 := F0 m 4 ls []) rfl ?_
  refine lv_aload_n hx hb dX10_init_4 rfl (lv_at hl 0 rfl) ?_
  refine lv_sipush (v := (200 : Int32)) hx hb dX10_init_5 (by decide) ?_
  refine nwcI (N := 200) C0 hW rfl (by decide) (by decide) (Nat.le_of_ble_eq_true rfl) (Nat.le_of_ble_eq_true rfl) dX10_init_8 (fun q1002 H hW => ?_)
  refine W.widen (k := 1) (n := 200) (Nat.le_of_ble_eq_true rfl) (Nat.le_of_ble_eq_true rfl) ?_
  have hW : wl D A s [(h0, .inr (10, [.null, .null, .null, .null, .int 0, .int 0, .null, .int 0, .null])), (q1002, .inl (cI, 200, .inl (fun _ => 0)))] H _ := hW
  refine va_putF (D := D) (ci := 10) (v := .ref q1002) (ty := .array .int) (C := RX10) (T := TX10) (N := 9) hx hb hta inA10 tyX10 tyX10_ok nmX10 hown hK hW.1 hW.2.1 hW.2.2 0 rfl rfl 2 (by decide) (hta _ kw_332) (fun _ h9 => h9) rfl hin rfl (by decide +kernel) rfl rfl (Nat.le_of_ble_eq_true rfl) dX10_init_10 (fun H locs hP hD hS => ?_)
  have hW : wl D A s [(h0, .inr (10, [.null, .null, .ref q1002, .null, .int 0, .int 0, .null, .int 0, .null])), (q1002, .inl (cI, 200, .inl (fun _ => 0)))] H locs := ⟨hP, hD, hS⟩
  refine lv_aload_n hx hb dX10_init_13 rfl (lv_at hl 0 rfl) ?_
  refine lv_sipush (v := (200 : Int32)) hx hb dX10_init_14 (by decide) ?_
  refine nwcI (N := 200) C0 hW rfl (by decide) (by decide) (Nat.le_of_ble_eq_true rfl) (Nat.le_of_ble_eq_true rfl) dX10_init_17 (fun q1003 H hW => ?_)
  refine W.widen (k := 2) (n := 400) (Nat.le_of_ble_eq_true rfl) (Nat.le_of_ble_eq_true rfl) ?_
  have hW : wl D A s [(h0, .inr (10, [.null, .null, .ref q1002, .null, .int 0, .int 0, .null, .int 0, .null])), (q1002, .inl (cI, 200, .inl (fun _ => 0))), (q1003, .inl (cI, 200, .inl (fun _ => 0)))] H _ := hW
  refine va_putF (D := D) (ci := 10) (v := .ref q1003) (ty := .array .int) (C := RX10) (T := TX10) (N := 9) hx hb hta inA10 tyX10 tyX10_ok nmX10 hown hK hW.1 hW.2.1 hW.2.2 0 rfl rfl 3 (by decide) (hta _ kw_335) (fun _ h9 => h9) rfl hin rfl (by decide +kernel) rfl rfl (Nat.le_of_ble_eq_true rfl) dX10_init_19 (fun H locs hP hD hS => ?_)
  have hW : wl D A s [(h0, .inr (10, [.null, .null, .ref q1002, .ref q1003, .int 0, .int 0, .null, .int 0, .null])), (q1002, .inl (cI, 200, .inl (fun _ => 0))), (q1003, .inl (cI, 200, .inl (fun _ => 0)))] H locs := ⟨hP, hD, hS⟩
  refine lv_aload_n hx hb dX10_init_22 rfl (lv_at hl 0 rfl) ?_
  refine lv_iconst (v := (0 : Int32)) hx hb dX10_init_23 (by decide) ?_
  refine va_put (D := D) (ci := 10) (v := .int 0) (ty := .int) (C := RX10) (T := TX10) (N := 9) hx hb hta inA10 tyX10 tyX10_ok nmX10 hown hK hW.1 hW.2.1 hW.2.2 0 rfl rfl 4 (by decide) (hta _ kw_336) (fun _ h9 => h9) rfl (by decide +kernel) rfl rfl (Nat.le_of_ble_eq_true rfl) dX10_init_24 (fun H locs hP hD hS => ?_)
  have hW : wl D A s [(h0, .inr (10, [.null, .null, .ref q1002, .ref q1003, .int 0, .int 0, .null, .int 0, .null])), (q1002, .inl (cI, 200, .inl (fun _ => 0))), (q1003, .inl (cI, 200, .inl (fun _ => 0)))] H locs := ⟨hP, hD, hS⟩
  refine lv_aload_n hx hb dX10_init_27 rfl (lv_at hl 0 rfl) ?_
  refine lv_iconst (v := (-1 : Int32)) hx hb dX10_init_28 (by decide) ?_
  refine va_put (D := D) (ci := 10) (v := .int (-1)) (ty := .int) (C := RX10) (T := TX10) (N := 9) hx hb hta inA10 tyX10 tyX10_ok nmX10 hown hK hW.1 hW.2.1 hW.2.2 0 rfl rfl 5 (by decide) (hta _ kw_339) (fun _ h9 => h9) rfl (by decide +kernel) rfl rfl (Nat.le_of_ble_eq_true rfl) dX10_init_29 (fun H locs hP hD hS => ?_)
  have hW : wl D A s [(h0, .inr (10, [.null, .null, .ref q1002, .ref q1003, .int 0, .int (-1), .null, .int 0, .null])), (q1002, .inl (cI, 200, .inl (fun _ => 0))), (q1003, .inl (cI, 200, .inl (fun _ => 0)))] H locs := ⟨hP, hD, hS⟩
  refine lv_aload_n hx hb dX10_init_32 rfl (lv_at hl 0 rfl) ?_
  refine lv_bipush (v := (6 : Int32)) hx hb dX10_init_33 (by decide) ?_
  refine nwcI (N := 6) C0 hW rfl (by decide) (by decide) (Nat.le_of_ble_eq_true rfl) (Nat.le_of_ble_eq_true rfl) dX10_init_35 (fun q1006 H hW => ?_)
  refine W.widen (k := 3) (n := 406) (Nat.le_of_ble_eq_true rfl) (Nat.le_of_ble_eq_true rfl) ?_
  have hW : wl D A s [(h0, .inr (10, [.null, .null, .ref q1002, .ref q1003, .int 0, .int (-1), .null, .int 0, .null])), (q1002, .inl (cI, 200, .inl (fun _ => 0))), (q1003, .inl (cI, 200, .inl (fun _ => 0))), (q1006, .inl (cI, 6, .inl (fun _ => 0)))] H _ := hW
  refine va_putF (D := D) (ci := 10) (v := .ref q1006) (ty := .array .int) (C := RX10) (T := TX10) (N := 9) hx hb hta inA10 tyX10 tyX10_ok nmX10 hown hK hW.1 hW.2.1 hW.2.2 0 rfl rfl 6 (by decide) (hta _ kw_340) (fun _ h9 => h9) rfl hin rfl (by decide +kernel) rfl rfl (Nat.le_of_ble_eq_true rfl) dX10_init_37 (fun H locs hP hD hS => ?_)
  have hW : wl D A s [(h0, .inr (10, [.null, .null, .ref q1002, .ref q1003, .int 0, .int (-1), .ref q1006, .int 0, .null])), (q1002, .inl (cI, 200, .inl (fun _ => 0))), (q1003, .inl (cI, 200, .inl (fun _ => 0))), (q1006, .inl (cI, 6, .inl (fun _ => 0)))] H locs := ⟨hP, hD, hS⟩
  refine lv_aload_n hx hb dX10_init_40 rfl (lv_at hl 0 rfl) ?_
  refine lv_iconst (v := (0 : Int32)) hx hb dX10_init_41 (by decide) ?_
  refine va_put (D := D) (ci := 10) (v := .int 0) (ty := .int) (C := RX10) (T := TX10) (N := 9) hx hb hta inA10 tyX10 tyX10_ok nmX10 hown hK hW.1 hW.2.1 hW.2.2 0 rfl rfl 7 (by decide) (hta _ kw_341) (fun _ h9 => h9) rfl (by decide +kernel) rfl rfl (Nat.le_of_ble_eq_true rfl) dX10_init_42 (fun H locs hP hD hS => ?_)
  have hW : wl D A s [(h0, .inr (10, [.null, .null, .ref q1002, .ref q1003, .int 0, .int (-1), .ref q1006, .int 0, .null])), (q1002, .inl (cI, 200, .inl (fun _ => 0))), (q1003, .inl (cI, 200, .inl (fun _ => 0))), (q1006, .inl (cI, 6, .inl (fun _ => 0)))] H locs := ⟨hP, hD, hS⟩
  refine lv_aload_n hx hb dX10_init_45 rfl (lv_at hl 0 rfl) ?_
  refine lv_sipush (v := (200 : Int32)) hx hb dX10_init_46 (by decide) ?_
  refine nwcI (N := 200) C0 hW rfl (by decide) (by decide) (Nat.le_of_ble_eq_true rfl) (Nat.le_of_ble_eq_true rfl) dX10_init_49 (fun q1008 H hW => ?_)
  refine W.widen (k := 4) (n := 606) (Nat.le_of_ble_eq_true rfl) (Nat.le_of_ble_eq_true rfl) ?_
  have hW : wl D A s [(h0, .inr (10, [.null, .null, .ref q1002, .ref q1003, .int 0, .int (-1), .ref q1006, .int 0, .null])), (q1002, .inl (cI, 200, .inl (fun _ => 0))), (q1003, .inl (cI, 200, .inl (fun _ => 0))), (q1006, .inl (cI, 6, .inl (fun _ => 0))), (q1008, .inl (cI, 200, .inl (fun _ => 0)))] H _ := hW
  refine va_putF (D := D) (ci := 10) (v := .ref q1008) (ty := .array .int) (C := RX10) (T := TX10) (N := 9) hx hb hta inA10 tyX10 tyX10_ok nmX10 hown hK hW.1 hW.2.1 hW.2.2 0 rfl rfl 8 (by decide) (hta _ kw_343) (fun _ h9 => h9) rfl hin rfl (by decide +kernel) rfl rfl (Nat.le_of_ble_eq_true rfl) dX10_init_51 (fun H locs hP hD hS => ?_)
  have hW : wl D A s [(h0, .inr (10, [.null, .null, .ref q1002, .ref q1003, .int 0, .int (-1), .ref q1006, .int 0, .ref q1008])), (q1002, .inl (cI, 200, .inl (fun _ => 0))), (q1003, .inl (cI, 200, .inl (fun _ => 0))), (q1006, .inl (cI, 6, .inl (fun _ => 0))), (q1008, .inl (cI, 200, .inl (fun _ => 0)))] H locs := ⟨hP, hD, hS⟩
  refine lv_aload_n hx hb dX10_init_54 rfl (lv_at hl 0 rfl) ?_
  refine lv_aload_n hx hb dX10_init_55 rfl (lv_at hl 1 rfl) ?_
  refine va_putF (D := D) (ci := 10) (v := .ref o1) (ty := .object "GuardNets$House") (C := RX10) (T := TX10) (N := 9) hx hb hta inA10 tyX10 tyX10_ok nmX10 hown hK hW.1 hW.2.1 hW.2.2 0 rfl rfl 0 (by decide) (hta _ kw_330) (fun _ h9 => h9) rfl hin rfl (by decide +kernel) rfl rfl (Nat.le_of_ble_eq_true rfl) dX10_init_56 (fun H locs hP hD hS => ?_)
  have hW : wl D A s [(h0, .inr (10, [.ref o1, .null, .ref q1002, .ref q1003, .int 0, .int (-1), .ref q1006, .int 0, .ref q1008])), (q1002, .inl (cI, 200, .inl (fun _ => 0))), (q1003, .inl (cI, 200, .inl (fun _ => 0))), (q1006, .inl (cI, 6, .inl (fun _ => 0))), (q1008, .inl (cI, 200, .inl (fun _ => 0)))] H locs := ⟨hP, hD, hS⟩
  refine lv_aload_n hx hb dX10_init_59 rfl (lv_at hl 0 rfl) ?_
  refine lv_aload_n hx hb dX10_init_60 rfl (lv_at hl 2 rfl) ?_
  refine va_putF (D := D) (ci := 10) (v := .ref o2) (ty := .object "GuardNets$Tables") (C := RX10) (T := TX10) (N := 9) hx hb hta inA10 tyX10 tyX10_ok nmX10 hown hK hW.1 hW.2.1 hW.2.2 0 rfl rfl 1 (by decide) (hta _ kw_331) (fun _ h9 => h9) rfl hin rfl (by decide +kernel) rfl rfl (Nat.le_of_ble_eq_true rfl) dX10_init_61 (fun H locs hP hD hS => ?_)
  have hW : wl D A s [(h0, .inr (10, [.ref o1, .ref o2, .ref q1002, .ref q1003, .int 0, .int (-1), .ref q1006, .int 0, .ref q1008])), (q1002, .inl (cI, 200, .inl (fun _ => 0))), (q1003, .inl (cI, 200, .inl (fun _ => 0))), (q1006, .inl (cI, 6, .inl (fun _ => 0))), (q1008, .inl (cI, 200, .inl (fun _ => 0)))] H locs := ⟨hP, hD, hS⟩
  have hW : wl D A s (wC10 cI cJ cZ h0 o1 o2 (fun k => amOf [0, 0, q1002, q1003, 0, 0, q1006, 0, q1008] (k - 1000))) H locs := hW
  exact W.vret hx hb B.returns (fun t ht hV => ⟨⟨(fun k => amOf [0, 0, q1002, q1003, 0, 0, q1006, 0, q1008] (k - 1000)), rfl, trivial, by rw [ht]; exact hW.1, va_K.moved hV.alike hK, hW.2.1⟩, hW.2.2.F ht⟩) hW.2.2.2.2 dX10_init_64
