/-! The class's world: what stands outside of it (the static row STRIPES), calls within it. -/
def stL (j : Nat) : Int64 := if j = 0 then -6148914691236517206 else if j = 1 then -3689348814741910324 else if j = 2 then -1085102592571150096 else if j = 3 then -71777214294589696 else if j = 4 then -281470681808896 else -4294967296
def stV (j : Nat) : Value := .long (stL j)
def sx (st : Nat) (A : Nat → Prop) (U : State) (H : Heap) : Prop := va_Z "GuardNets$Tables" "STRIPES" "[J" (.ref st) A U H ∧ va_T .long st 6 stV A U H
def cxX (p : Program) (s : State) (m : MethodId) (args : Array Value) (meth : Method) (c : Code) (cc : ByteArray) (own : String) (nL : Nat) (ret : Option FieldType) (D : va_G) (tys : List (ClassId × FieldType)) (st : Nat) (A : Nat → Prop) : Prop := cx p s m args meth c cc own nL ret D tys A ∧ sx st A s s.heap
def prX (D : va_G) (tys : List (ClassId × FieldType)) (w : va_W) (sz st : Nat) : State → Prop := fun U => prW D tys w sz U ∧ sx st (va_A w sz) U U.heap
section RTX
variable {p : Program} {l : Launch} {e : Env} {R : Room} {s : State} {m : MethodId} {args : Array Value} {below : List Frame} {meth : Method} {c : Code} {H : Heap} {locs : List Loc} {Q : State → Prop} {pc : Nat} {ls : Array Slot} {cc : ByteArray} {own : String} {nL : Nat} {D : va_G} {tys : List (ClassId × FieldType)} {A : Nat → Prop} {w : va_W} {cells slots st : Nat}
variable {y : MethodName} {b : ByteArray} {ml n ix : Nat} {rm : Room} {ret ret' : Option FieldType} {w' : va_W} {As rest st0 : List Value} {a mc ms : Nat}
theorem prX_blind {av : List Value} {sz : Nat} : FrameBlind (va_Pc av (prX D tys w sz st)) := fun a U g mk q => by
  obtain ⟨q0, ⟨q1, qP, qK, qD⟩, qZ, qT⟩ := q
  exact ⟨q0, ⟨q1, qP, va_K.moved (u := U) (U := U.calling g mk a) (Vm.Alike.refl U.vm) qK, qD⟩, va_Z.moved (u := U) (U := U.calling g mk a) (Vm.Alike.refl U.vm) qZ, va_T.moved (u := U) (U := U.calling g mk a) (Vm.Alike.refl U.vm) qT⟩
theorem sx_at (C0 : cxX p s m args meth c cc own nL ret' D tys st A) (hW : wl D A s w H locs) {U : State} (hU : U.heap = H) (hV : s.WarmedH U.vm) : sx st (va_A w H.size) U U.heap := by
  have hn := wl_A C0.1 hW
  refine ⟨?_, ?_⟩
  · exact va_Z.moved hV.alike (va_Z.narrow (by rw [hU]; exact va_Z.kept C0.2.1 (fun a h1 h2 => hW.2.2.2.1 a h1 h2)) hn)
  · exact va_T.moved hV.alike (va_T.narrow (by rw [hU]; exact va_T.kept C0.2.2 (fun a h1 h2 => hW.2.2.2.1 a h1 h2)) hn)
theorem runVX {Qc : Array Value → State → Outcome → State → Prop} (C0 : cxX p s m args meth c cc own nL ret' D tys st A) (hW : wl D A s w H locs) (hM : Met l y (.code y b ml ret :: wsAll) rm (va_Pc (.ref a :: As) (prX D tys w H.size st)) Qc mc ms (va_A w H.size)) (hc : calV own ix y b ml ret n) (q0 ci : Nat) {fs : List Value} {q : vw_C} (hq : w[q0]? = some (a, .inr (ci, fs))) (hcl : vwCl[ci]? = some q) (hcn : q.1 = y.cls) (hn : As.length = n) (hst : st0 = As.reverse ++ .ref a :: rest) (hrm : rm.cells = mc ∧ rm.slots = ms) (hR : rm.frames + 1 ≤ R.frames ∧ 8 + (ml + 11) + rm.locals ≤ R.locals) (hrest : (rest.map fun v => v.category).sum ≤ 8) (hls : ls.size = nL) (hdg : decode cc pc = .ok (.invokevirtual ix, 3)) (hf : cells + mc ≤ R.cells ∧ slots + ms ≤ R.slots) :
    va_Run p l e R s m args below meth c H locs cells slots mc ms (F0 m pc ls st0) rest (Qc (Value.ref a :: As).toArray) (va_A w H.size) := by
  have hsx := fun (U : State) (hU : U.heap = H) (hV : s.WarmedH U.vm) => sx_at C0 hW hU hV
  obtain ⟨⟨hx, hb, hret, hml, hown, hta, hlk, hK, hA⟩, -⟩ := C0
  have hg := hc.good
  refine va_runV (Ts := wsAll) ⟨hx, hb, hml, hown, hta⟩ hM (cwV n hta hg rfl hrm.1 hrm.2 ⟨rfl, hc.2.1, hc.2.2.1, hc.2.2.2⟩ hR) ⟨prX_blind, ?_, fun U hU hW' => ⟨rfl, ⟨by rw [hU], by rw [hU]; exact hW.1, va_K.moved hW'.alike hK, hW.2.1.weaken (fun _ _ _ _ => trivial)⟩, hsx U hU hW'⟩⟩ rfl hn hls hst (lv_room hrest) hdg hf
  rw [← hcn]
  exact va_recv hK hW.1 hcl hq
theorem runSX {Qc : Array Value → State → Outcome → State → Prop} (C0 : cxX p s m args meth c cc own nL ret' D tys st A) (hW : wl D A s w H locs) (hM : Met l y (.code y b ml ret :: wsAll) rm (va_Pc As (prX D tys w H.size st)) Qc mc ms (va_A w H.size)) (hc : calS own ix y b ml ret n) (hn : As.length = n) (hst : st0 = As.reverse ++ rest) (hrm : rm.cells = mc ∧ rm.slots = ms) (hR : rm.frames + 1 ≤ R.frames ∧ 8 + (ml + 11) + rm.locals ≤ R.locals) (hrest : (rest.map fun v => v.category).sum ≤ 8) (hls : ls.size = nL) (hdg : decode cc pc = .ok (.invokestatic ix, 3)) (hf : cells + mc ≤ R.cells ∧ slots + ms ≤ R.slots) :
    va_Run p l e R s m args below meth c H locs cells slots mc ms (F0 m pc ls st0) rest (Qc As.toArray) (va_A w H.size) := by
  have hsx := fun (U : State) (hU : U.heap = H) (hV : s.WarmedH U.vm) => sx_at C0 hW hU hV
  obtain ⟨⟨hx, hb, hret, hml, hown, hta, hlk, hK, hA⟩, -⟩ := C0
  have hg := hc.good
  exact va_runS (Ts := wsAll) ⟨hx, hb, hml, hown, hta⟩ hM (va_cwS n hta hg rfl hrm.1 hrm.2 ⟨hc.2.1, hc.2.2.1, hc.2.2.2⟩ hR) ⟨prX_blind, fun U hU hW' => ⟨rfl, ⟨by rw [hU], by rw [hU]; exact hW.1, va_K.moved hW'.alike hK, hW.2.1.weaken (fun _ _ _ _ => trivial)⟩, hsx U hU hW'⟩⟩ rfl hn hls hst (lv_room hrest) hdg hf
theorem xSTR (C0 : cxX p s m args meth c cc own nL ret D tys st A) (hk : Cond.fieldLink own ix "GuardNets$Tables" "STRIPES" "[J" ∈ wsAll) (hW : wl D A s w H locs) (hdg : decode cc pc = .ok (.getstatic ix, 3)) (kk : W p l e R s m args below meth c H locs cells slots Q (F0 m (pc + 3) ls (.ref st :: rest))) : W p l e R s m args below meth c H locs cells slots Q (F0 m pc ls rest) :=
  va_gets C0.1.1 C0.1.2.1 C0.2.1 hW.2.2 C0.1.2.2.2.2.1 (C0.1.2.2.2.2.2.1 _ hk) (fun _ h9 => h9) hdg kk
theorem xSTRld (C0 : cxX p s m args meth c cc own nL ret D tys st A) (hW : wl D A s w H locs) {i : Int32} (hin : vp_in i 6) (hdg : decode cc pc = .ok (.laload, 1)) (kk : W p l e R s m args below meth c H locs cells slots Q (F0 m (pc + 1) ls (.long (stL i.toNatClampNeg) :: rest))) : W p l e R s m args below meth c H locs cells slots Q (F0 m pc ls (.int i :: .ref st :: rest)) :=
  va_tl C0.1.1 C0.1.2.1 C0.2.2 hW.2.2 hin rfl hdg kk
theorem xSTRlen (C0 : cxX p s m args meth c cc own nL ret D tys st A) (hW : wl D A s w H locs) (hdg : decode cc pc = .ok (.arraylength, 1)) (kk : W p l e R s m args below meth c H locs cells slots Q (F0 m (pc + 1) ls (.int 6 :: rest))) : W p l e R s m args below meth c H locs cells slots Q (F0 m pc ls (.ref st :: rest)) :=
  va_tlen C0.1.1 C0.1.2.1 C0.2.2 hW.2.2 rfl hdg kk
end RTX
/-- a copy between rows may be done -/
def cpk {α : Type} (sp dp n : Int32) (n0 n1 : Nat) (x : Option α) : Option α := if sp < 0 ∨ dp < 0 ∨ n < 0 ∨ n0 < sp.toNatClampNeg + n.toNatClampNeg ∨ n1 < dp.toNatClampNeg + n.toNatClampNeg then none else x
theorem cpk_some {α : Type} {sp dp n : Int32} {n0 n1 : Nat} {x : Option α} {y : α} (h : cpk sp dp n n0 n1 x = some y) : (¬ sp < 0 ∧ ¬ dp < 0 ∧ ¬ n < 0 ∧ sp.toNatClampNeg + n.toNatClampNeg ≤ n0 ∧ dp.toNatClampNeg + n.toNatClampNeg ≤ n1) ∧ x = some y := by
  unfold cpk at h
  split at h
  · cases h
  · next g =>
    simp only [not_or, Nat.not_lt] at g
    exact ⟨⟨g.1, g.2.1, g.2.2.1, g.2.2.2.1, g.2.2.2.2⟩, h⟩
/-- an answer that must be 0 or 1 -/
def bz {α : Type} (v : Int32) (x : Option α) : Option α := if v = 0 ∨ v = 1 then x else none
theorem bz_some {α : Type} {v : Int32} {x : Option α} {y : α} (h : bz v x = some y) : (v = 0 ∨ v = 1) ∧ x = some y := by
  unfold bz at h
  split at h
  · next g => exact ⟨g, h⟩
  · cases h
theorem fit_bool {v : Int32} (h : v = 0 ∨ v = 1) : fits .boolean (.int v) = true := by
  rcases h with rfl | rfl <;> rfl
