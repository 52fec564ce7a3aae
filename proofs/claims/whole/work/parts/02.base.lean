/-! Base: words that are good, pure states, loops, named steps. -/
def wsAll : List Cond := lw_tbl.filter goodWord
theorem wA_mem (n : Nat) {w : Cond} (h : lw_tbl[n]? = some w) (hg : goodWord w = true) : w ∈ wsAll := List.mem_filter.mpr ⟨List.mem_of_getElem? h, hg⟩
theorem wA_in {w : Cond} (h : w ∈ tables_1) (hg : goodWord w = true) : w ∈ wsAll := List.mem_filter.mpr ⟨List.mem_append_right _ h, hg⟩
theorem wT_1 (k : Nat) {w : Cond} (h : tables_1_1[k]? = some w) (hg : goodWord w = true) : w ∈ wsAll := wA_in (List.mem_append_left _ (List.mem_of_getElem? h)) hg
theorem wT_2 (k : Nat) {w : Cond} (h : tables_1_2[k]? = some w) (hg : goodWord w = true) : w ∈ wsAll := wA_in (List.mem_append_right _ (List.mem_append_left _ (List.mem_of_getElem? h))) hg
theorem wT_3 (k : Nat) {w : Cond} (h : tables_1_3[k]? = some w) (hg : goodWord w = true) : w ∈ wsAll := wA_in (List.mem_append_right _ (List.mem_append_right _ (List.mem_append_left _ (List.mem_of_getElem? h)))) hg
theorem wT_4 (k : Nat) {w : Cond} (h : tables_1_4[k]? = some w) (hg : goodWord w = true) : w ∈ wsAll := wA_in (List.mem_append_right _ (List.mem_append_right _ (List.mem_append_right _ (List.mem_append_left _ (List.mem_of_getElem? h))))) hg
theorem wT_5 (k : Nat) {w : Cond} (h : tables_1_5[k]? = some w) (hg : goodWord w = true) : w ∈ wsAll := wA_in (List.mem_append_right _ (List.mem_append_right _ (List.mem_append_right _ (List.mem_append_right _ (List.mem_append_left _ (List.mem_of_getElem? h)))))) hg
theorem wT_6 (k : Nat) {w : Cond} (h : tables_1_6[k]? = some w) (hg : goodWord w = true) : w ∈ wsAll := wA_in (List.mem_append_right _ (List.mem_append_right _ (List.mem_append_right _ (List.mem_append_right _ (List.mem_append_right _ (List.mem_append_left _ (List.mem_of_getElem? h))))))) hg
theorem wT_7 (k : Nat) {w : Cond} (h : tables_1_7[k]? = some w) (hg : goodWord w = true) : w ∈ wsAll := wA_in (List.mem_append_right _ (List.mem_append_right _ (List.mem_append_right _ (List.mem_append_right _ (List.mem_append_right _ (List.mem_append_right _ (List.mem_append_left _ (List.mem_of_getElem? h)))))))) hg
theorem wT_8 (k : Nat) {w : Cond} (h : tables_1_8[k]? = some w) (hg : goodWord w = true) : w ∈ wsAll := wA_in (List.mem_append_right _ (List.mem_append_right _ (List.mem_append_right _ (List.mem_append_right _ (List.mem_append_right _ (List.mem_append_right _ (List.mem_append_right _ (List.mem_append_left _ (List.mem_of_getElem? h))))))))) hg
theorem wT_9 (k : Nat) {w : Cond} (h : tables_1_9[k]? = some w) (hg : goodWord w = true) : w ∈ wsAll := wA_in (List.mem_append_right _ (List.mem_append_right _ (List.mem_append_right _ (List.mem_append_right _ (List.mem_append_right _ (List.mem_append_right _ (List.mem_append_right _ (List.mem_append_right _ (List.mem_of_getElem? h))))))))) hg
theorem wA_goodw {w : Cond} (h : w ∈ wsAll) : (w.onTables && w.keeps) = true ∨ ∃ ty, w = .arrayClass ty := good_of_word (List.mem_filter.mp h).2
/-- what a call of an instance method by invokevirtual needs of the tables -/
def calV (own : String) (ix : Nat) (y : MethodName) (b : ByteArray) (ml : Nat) (ret : Option FieldType) (n : Nat) : Prop :=
  (Cond.methodLink own ix y ∈ wsAll ∧ Cond.instanceMethod y ∈ wsAll ∧ Cond.selects y.cls y y ∈ wsAll ∧ Cond.initialized y.cls ∈ wsAll ∧ Cond.code y b ml ret ∈ wsAll) ∧ (y.cls ≠ "java/lang/invoke/MethodHandle" ∧ y.cls ≠ "java/lang/invoke/VarHandle" ∧ (parseMethodDescriptor y.desc).map (fun d => d.parameters.length) = some n)
def calS (own : String) (ix : Nat) (y : MethodName) (b : ByteArray) (ml : Nat) (ret : Option FieldType) (n : Nat) : Prop :=
  (Cond.methodLink own ix y ∈ wsAll ∧ Cond.static y ∈ wsAll ∧ Cond.initialized y.cls ∈ wsAll ∧ Cond.code y b ml ret ∈ wsAll) ∧ (y.cls ≠ "java/lang/invoke/MethodHandle" ∧ y.cls ≠ "java/lang/invoke/VarHandle" ∧ (parseMethodDescriptor y.desc).map (fun d => d.parameters.length) = some n)
theorem calV.good {own : String} {ix : Nat} {y : MethodName} {b : ByteArray} {ml : Nat} {ret : Option FieldType} {n : Nat} (h : calV own ix y b ml ret n) : GoodIn wsAll (wsV own ix y.cls y (.code y b ml ret :: wsAll)) := by
  obtain ⟨⟨h1, h2, h3, h4, h5⟩, -⟩ := h
  intro w hw
  have hm : w ∈ wsAll := by
    unfold wsV at hw
    rcases List.mem_append.mp hw with hw | hw
    · simp only [List.mem_cons, List.not_mem_nil, or_false] at hw
      rcases hw with rfl | rfl | rfl | rfl <;> assumption
    · rcases List.mem_cons.mp hw with rfl | hw
      · exact h5
      · exact hw
  exact ⟨hm, wA_goodw hm⟩
theorem calS.good {own : String} {ix : Nat} {y : MethodName} {b : ByteArray} {ml : Nat} {ret : Option FieldType} {n : Nat} (h : calS own ix y b ml ret n) : GoodIn wsAll (va_wsS own ix y (.code y b ml ret :: wsAll)) := by
  obtain ⟨⟨h1, h2, h4, h5⟩, -⟩ := h
  intro w hw
  have hm : w ∈ wsAll := by
    unfold va_wsS at hw
    rcases List.mem_append.mp hw with hw | hw
    · simp only [List.mem_cons, List.not_mem_nil, or_false] at hw
      rcases hw with rfl | rfl | rfl <;> assumption
    · rcases List.mem_cons.mp hw with rfl | hw
      · exact h5
      · exact hw
  exact ⟨hm, wA_goodw hm⟩
/-- a pure state: int fields, long fields, int rows, long rows, lengths; by number -/
abbrev St : Type := (Nat → Int32) × (Nat → Int64) × (Nat → Nat → Int32) × (Nat → Nat → Int64) × (Nat → Nat)
abbrev gI (t : St) (k : Nat) : Int32 := t.1 k
abbrev gJ (t : St) (k : Nat) : Int64 := t.2.1 k
abbrev gA (t : St) (k : Nat) : Nat → Int32 := t.2.2.1 k
abbrev gB (t : St) (k : Nat) : Nat → Int64 := t.2.2.2.1 k
abbrev gN (t : St) (k : Nat) : Nat := t.2.2.2.2 k
def sI (t : St) (k : Nat) (v : Int32) : St := (va_up t.1 k v, t.2)
def sJ (t : St) (k : Nat) (v : Int64) : St := (t.1, va_up t.2.1 k v, t.2.2)
def sAr (t : St) (k : Nat) (f : Nat → Int32) : St := (t.1, t.2.1, va_up t.2.2.1 k f, t.2.2.2)
def sBr (t : St) (k : Nat) (f : Nat → Int64) : St := (t.1, t.2.1, t.2.2.1, va_up t.2.2.2.1 k f, t.2.2.2.2)
abbrev sA (t : St) (k : Nat) (i : Int32) (v : Int32) : St := sAr t k (upd (gA t k) i.toNatClampNeg v)
abbrev sB (t : St) (k : Nat) (i : Int32) (v : Int64) : St := sBr t k (vp_updL (gB t k) i.toNatClampNeg v)
/-- a value with a name -/
def nm {α β : Type} (x : α) (f : α → β) : β := f x
/-- an index is looked at -/
def gd {α : Type} (i : Int32) (n : Nat) (x : Option α) : Option α := if i < 0 ∨ n ≤ i.toNatClampNeg then none else x
theorem gd_some {α : Type} {i : Int32} {n : Nat} {x : Option α} {y : α} (h : gd i n x = some y) : vp_in i n ∧ x = some y := by
  unfold gd at h
  split at h
  · cases h
  · next g => exact ⟨g, h⟩
def dv {α : Type} (i : Int32) (x : Option α) : Option α := if i = 0 then none else x
theorem dv_some {α : Type} {i : Int32} {x : Option α} {y : α} (h : dv i x = some y) : ¬ i = 0 ∧ x = some y := by
  unfold dv at h
  split at h
  · cases h
  · next g => exact ⟨g, h⟩
def dvl {α : Type} (i : Int64) (x : Option α) : Option α := if i = 0 then none else x
theorem dvl_some {α : Type} {i : Int64} {x : Option α} {y : α} (h : dvl i x = some y) : ¬ i = 0 ∧ x = some y := by
  unfold dvl at h
  split at h
  · cases h
  · next g => exact ⟨g, h⟩
theorem bd_some {α β : Type} {x : Option α} {f : α → Option β} {y : β} (h : x.bind f = some y) : ∃ a, x = some a ∧ f a = some y := Option.bind_eq_some_iff.mp h
theorem ite_t {α : Type} {c : Prop} [Decidable c] {a b x : α} (h : c) (e : (if c then a else b) = x) : a = x := by rw [if_pos h] at e; exact e
theorem ite_f {α : Type} {c : Prop} [Decidable c] {a b x : α} (h : ¬ c) (e : (if c then a else b) = x) : b = x := by rw [if_neg h] at e; exact e
/-- a loop: the body goes on (inl) or ends it (inr) -/
def lpn {X Y : Type} (b : X → Option (X ⊕ Y)) : Nat → X → Option Y
  | 0, _ => none
  | n + 1, x => (b x).bind (fun o => Sum.elim (fun x' => lpn b n x') (fun y => some y) o)
noncomputable def lp {X Y : Type} (b : X → Option (X ⊕ Y)) (x : X) : Option Y := @dite (Option Y) (∃ y n, lpn b n x = some y) (Classical.propDecidable _) (fun h => some (Classical.choose h)) (fun _ => none)
theorem lpn_S {X Y : Type} {b : X → Option (X ⊕ Y)} {n : Nat} {x : X} {y : Y} (h : lpn b n x = some y) : lpn b (n + 1) x = some y := by
  induction n generalizing x with
  | zero => cases h
  | succ n ih =>
    obtain ⟨o, h1, h2⟩ := bd_some h
    show (b x).bind _ = some y
    rw [h1]
    cases o with
    | inl x' => exact ih h2
    | inr z => exact h2
theorem lpn_le {X Y : Type} {b : X → Option (X ⊕ Y)} {n k : Nat} {x : X} {y : Y} (h : lpn b n x = some y) (hk : n ≤ k) : lpn b k x = some y := by
  induction hk with
  | refl => exact h
  | step _ ih => exact lpn_S ih
theorem lp_of {X Y : Type} {b : X → Option (X ⊕ Y)} {n : Nat} {x : X} {y : Y} (h : lpn b n x = some y) : lp b x = some y := by
  have hh : ∃ y n, lpn b n x = some y := ⟨y, n, h⟩
  unfold lp
  rw [dif_pos hh]
  obtain ⟨k, hk⟩ := Classical.choose_spec hh
  have h1 := lpn_le h (Nat.le_max_left n k)
  have h2 := lpn_le hk (Nat.le_max_right n k)
  rw [h1] at h2
  exact h2.symm
theorem lp_to {X Y : Type} {b : X → Option (X ⊕ Y)} {x : X} {y : Y} (h : lp b x = some y) : ∃ n, lpn b n x = some y := by
  unfold lp at h
  split at h
  · next hh =>
    obtain ⟨k, hk⟩ := Classical.choose_spec hh
    cases h
    exact ⟨k, hk⟩
  · cases h
theorem lp_l {X Y : Type} {b : X → Option (X ⊕ Y)} {x x' : X} (h : b x = some (.inl x')) : lp b x = lp b x' := by
  cases e : lp b x' with
  | some y =>
    obtain ⟨n, hn⟩ := lp_to e
    exact lp_of (n := n + 1) (by show (b x).bind _ = _; rw [h]; exact hn)
  | none =>
    cases e2 : lp b x with
    | none => rfl
    | some y =>
      obtain ⟨n, hn⟩ := lp_to e2
      cases n with
      | zero => cases hn
      | succ n =>
        have hn : (b x).bind _ = some y := hn
        rw [h] at hn
        rw [lp_of hn] at e
        cases e
theorem lp_r {X Y : Type} {b : X → Option (X ⊕ Y)} {x : X} {y : Y} (h : b x = some (.inr y)) : lp b x = some y := lp_of (n := 1) (by show (b x).bind _ = _; rw [h]; rfl)
section LVN
variable {p : Program} {l : Launch} {e : Env} {R : Room} {s : State} {m : MethodId} {args : Array Value} {below : List Frame} {meth : Method} {c : Code} {H : Heap} {locs : List Loc} {cells slots : Nat} {Q : State → Prop} {pc : Nat} {ls : Array Slot} {rest : List Value}
theorem lv_nmi {β : Type} {x : Int32} {f : Int32 → β} {res : β} (h : nm x f = res) (k : ∀ y : Int32, f y = res → W p l e R s m args below meth c H locs cells slots Q (F0 m pc ls (.int y :: rest))) : W p l e R s m args below meth c H locs cells slots Q (F0 m pc ls (.int x :: rest)) := k x h
theorem lv_nml {β : Type} {x : Int64} {f : Int64 → β} {res : β} (h : nm x f = res) (k : ∀ y : Int64, f y = res → W p l e R s m args below meth c H locs cells slots Q (F0 m pc ls (.long y :: rest))) : W p l e R s m args below meth c H locs cells slots Q (F0 m pc ls (.long x :: rest)) := k x h
end LVN
theorem sum_l {α β γ : Type} {f : α → γ} {g : β → γ} {u : α} {x : γ} (h : Sum.elim f g (.inl u) = x) : f u = x := h
theorem sum_r {α β γ : Type} {f : α → γ} {g : β → γ} {u : β} {x : γ} (h : Sum.elim f g (.inr u) = x) : g u = x := h
theorem nm_x {α β : Type} {x : α} {f : α → β} {res : β} (h : nm x f = res) : ∃ y, y = x ∧ f y = res := ⟨x, rfl, h⟩
theorem nm_w {β : Type} {P : St → Prop} {x : St} {f : St → β} {res : β} (h : nm x f = res) (hP : P x) : ∃ y, f y = res ∧ P y := ⟨x, h, hP⟩
theorem nar_bool {v : Int32} (h : v = 0 ∨ v = 1) : narrow .boolean (.int v) = .int v := by
  rcases h with rfl | rfl <;> rfl
/-- what stays the same through a method of a world -/
def cx (p : Program) (s : State) (m : MethodId) (args : Array Value) (meth : Method) (c : Code) (cc : ByteArray) (own : String) (nL : Nat) (ret : Option FieldType) (D : va_G) (tys : List (ClassId × FieldType)) (A : Nat → Prop) : Prop :=
  p.tables.exec = Jvm.exec ∧ c.code = cc ∧ meth.sig.returnType = ret ∧ c.maxLocals = nL ∧ s.vm.findClass own = some m.cls ∧ (∀ w ∈ wsAll, w.before args s = true) ∧ meth.locks = false ∧ va_K D vwCl tys s ∧ (∀ q, s.heap.size ≤ q → A q)
/-- the world w, as it stands in the heap H -/
def wl (D : va_G) (A : Nat → Prop) (s : State) (w : va_W) (H : Heap) (locs : List Loc) : Prop := va_P D vwCl w H ∧ va_D A w ∧ va_S A s.heap H locs
def prW (D : va_G) (tys : List (ClassId × FieldType)) (w : va_W) (sz : Nat) : State → Prop := fun U => U.heap.size = sz ∧ va_P D vwCl w U.heap ∧ va_K D vwCl tys U ∧ va_D (fun _ => True) w
def poW (D : va_G) (tys : List (ClassId × FieldType)) (w : va_W) (A : Nat → Prop) : State → Prop := fun T => va_P D vwCl w T.heap ∧ va_K D vwCl tys T ∧ va_D A w
/-- a room that makes nothing -/
abbrev rmN (F L : Nat) : Room := { frames := F, cells := 0, slots := 0, locals := L }
abbrev qI (r : Int32) (D : va_G) (tys : List (ClassId × FieldType)) (w : va_W) (A : Nat → Prop) : Array Value → State → Outcome → State → Prop := va_Qi (fun (rr : Int32) (_ : Unit) => rr = r) (fun _ => poW D tys w A) A
abbrev qZ (r : Int32) (D : va_G) (tys : List (ClassId × FieldType)) (w : va_W) (A : Nat → Prop) : Array Value → State → Outcome → State → Prop := va_Qi (fun (rr : Int32) (_ : Unit) => rr = r ∧ (r = 0 ∨ r = 1)) (fun _ => poW D tys w A) A
abbrev qJ (r : Int64) (D : va_G) (tys : List (ClassId × FieldType)) (w : va_W) (A : Nat → Prop) : Array Value → State → Outcome → State → Prop := va_Ql (fun (rr : Int64) (_ : Unit) => rr = r) (fun _ => poW D tys w A) A
abbrev qV (D : va_G) (tys : List (ClassId × FieldType)) (w : va_W) (A : Nat → Prop) : Array Value → State → Outcome → State → Prop := va_Qv (fun (_ : Unit) => True) (fun _ => poW D tys w A) A
section RT
variable {p : Program} {l : Launch} {e : Env} {R : Room} {s : State} {m : MethodId} {args : Array Value} {below : List Frame} {meth : Method} {c : Code} {H : Heap} {locs : List Loc} {Q : State → Prop} {pc : Nat} {ls : Array Slot} {cc : ByteArray} {own : String} {nL : Nat} {D : va_G} {tys : List (ClassId × FieldType)} {A : Nat → Prop} {w : va_W} {cells slots : Nat}
theorem rtI (C0 : cx p s m args meth c cc own nL (some .int) D tys A) (hW : wl D A s w H locs) {r : Int32} (hdg : decode cc pc = .ok (.ireturn, 1)) : W p l e R s m args below meth c H locs cells slots (MQ below (qI r D tys w A) args s cells slots A) (F0 m pc ls [.int r]) :=
  W.iret C0.1 C0.2.1 C0.2.2.1 (fun t ht hV => ⟨⟨r, (), rfl, rfl, by rw [ht]; exact hW.1, va_K.moved hV.alike C0.2.2.2.2.2.2.2.1, hW.2.1⟩, hW.2.2.F ht⟩) hW.2.2.2.2 hdg C0.2.2.2.2.2.2.1
theorem rtZ (C0 : cx p s m args meth c cc own nL (some .boolean) D tys A) (hW : wl D A s w H locs) {r : Int32} (hr : r = 0 ∨ r = 1) (hdg : decode cc pc = .ok (.ireturn, 1)) : W p l e R s m args below meth c H locs cells slots (MQ below (qZ r D tys w A) args s cells slots A) (F0 m pc ls [.int r]) :=
  W.zret C0.1 C0.2.1 C0.2.2.1 (nar_bool hr) (fun t ht hV => ⟨⟨r, (), rfl, ⟨rfl, hr⟩, by rw [ht]; exact hW.1, va_K.moved hV.alike C0.2.2.2.2.2.2.2.1, hW.2.1⟩, hW.2.2.F ht⟩) hW.2.2.2.2 hdg C0.2.2.2.2.2.2.1
theorem rtJ (C0 : cx p s m args meth c cc own nL (some .long) D tys A) (hW : wl D A s w H locs) {r : Int64} (hdg : decode cc pc = .ok (.lreturn, 1)) : W p l e R s m args below meth c H locs cells slots (MQ below (qJ r D tys w A) args s cells slots A) (F0 m pc ls [.long r]) :=
  W.lret C0.1 C0.2.1 C0.2.2.1 (fun t ht hV => ⟨⟨r, (), rfl, rfl, by rw [ht]; exact hW.1, va_K.moved hV.alike C0.2.2.2.2.2.2.2.1, hW.2.1⟩, hW.2.2.F ht⟩) hW.2.2.2.2 hdg C0.2.2.2.2.2.2.1
theorem rtV (C0 : cx p s m args meth c cc own nL none D tys A) (hW : wl D A s w H locs) (hdg : decode cc pc = .ok (.return_, 1)) : W p l e R s m args below meth c H locs cells slots (MQ below (qV D tys w A) args s cells slots A) (F0 m pc ls []) :=
  W.vret C0.1 C0.2.1 C0.2.2.1 (fun t ht hV => ⟨⟨(), rfl, trivial, by rw [ht]; exact hW.1, va_K.moved hV.alike C0.2.2.2.2.2.2.2.1, hW.2.1⟩, hW.2.2.F ht⟩) hW.2.2.2.2 hdg C0.2.2.2.2.2.2.1
theorem prW_blind {av : List Value} {sz : Nat} : FrameBlind (va_Pc av (prW D tys w sz)) := fun a U g mk q => by
  obtain ⟨q0, q1, qP, qK, qD⟩ := q
  exact ⟨q0, q1, qP, va_K.moved (u := U) (U := U.calling g mk a) (Vm.Alike.refl U.vm) qK, qD⟩
variable {y : MethodName} {b : ByteArray} {ml n ix : Nat} {rm : Room} {ret ret' : Option FieldType} {w' : va_W} {As rest st0 : List Value} {a mc ms : Nat}
theorem wl_A (C0 : cx p s m args meth c cc own nL ret' D tys A) (hW : wl D A s w H locs) : ∀ q, va_A w H.size q → A q := by
  intro q h
  rcases h with ⟨k, e, h⟩ | h
  · exact hW.2.1.2 k _ h
  · exact C0.2.2.2.2.2.2.2.2 q (Nat.le_trans hW.2.2.1 h)
theorem wl_back (C0 : cx p s m args meth c cc own nL ret' D tys A) (hW : wl D A s w H locs) {t : State} {H1 : Heap} {locs1 : List Loc} (ht : t.heap = H1) (hB : poW D tys w' (va_A w H.size) t) (hS : va_S A s.heap H1 locs1) : wl D A s w' H1 locs1 :=
  ⟨by rw [← ht]; exact hB.1, hB.2.2.weaken (fun _ _ _ h => wl_A C0 hW _ h), hS⟩
/-- the run of an instance method's call, full world -/
theorem runV {Qc : Array Value → State → Outcome → State → Prop} (C0 : cx p s m args meth c cc own nL ret' D tys A) (hW : wl D A s w H locs) (hM : Met l y (.code y b ml ret :: wsAll) rm (va_Pc (.ref a :: As) (prW D tys w H.size)) Qc mc ms (va_A w H.size)) (hc : calV own ix y b ml ret n) (q0 ci : Nat) {fs : List Value} {q : vw_C} (hq : w[q0]? = some (a, .inr (ci, fs))) (hcl : vwCl[ci]? = some q) (hcn : q.1 = y.cls) (hn : As.length = n) (hst : st0 = As.reverse ++ .ref a :: rest) (hrm : rm.cells = mc ∧ rm.slots = ms) (hR : rm.frames + 1 ≤ R.frames ∧ 8 + (ml + 11) + rm.locals ≤ R.locals) (hrest : (rest.map fun v => v.category).sum ≤ 8) (hls : ls.size = nL) (hdg : decode cc pc = .ok (.invokevirtual ix, 3)) (hf : cells + mc ≤ R.cells ∧ slots + ms ≤ R.slots) :
    va_Run p l e R s m args below meth c H locs cells slots mc ms (F0 m pc ls st0) rest (Qc (Value.ref a :: As).toArray) (va_A w H.size) := by
  obtain ⟨hx, hb, hret, hml, hown, hta, hlk, hK, hA⟩ := C0
  have hg := hc.good
  refine va_runV (Ts := wsAll) ⟨hx, hb, hml, hown, hta⟩ hM (cwV n hta hg rfl hrm.1 hrm.2 ⟨rfl, hc.2.1, hc.2.2.1, hc.2.2.2⟩ hR) ⟨prW_blind, ?_, fun U hU hW' => ⟨rfl, by rw [hU], by rw [hU]; exact hW.1, va_K.moved hW'.alike hK, hW.2.1.weaken (fun _ _ _ _ => trivial)⟩⟩ rfl hn hls hst (lv_room hrest) hdg hf
  rw [← hcn]
  exact va_recv hK hW.1 hcl hq
theorem runS {Qc : Array Value → State → Outcome → State → Prop} (C0 : cx p s m args meth c cc own nL ret' D tys A) (hW : wl D A s w H locs) (hM : Met l y (.code y b ml ret :: wsAll) rm (va_Pc As (prW D tys w H.size)) Qc mc ms (va_A w H.size)) (hc : calS own ix y b ml ret n) (hn : As.length = n) (hst : st0 = As.reverse ++ rest) (hrm : rm.cells = mc ∧ rm.slots = ms) (hR : rm.frames + 1 ≤ R.frames ∧ 8 + (ml + 11) + rm.locals ≤ R.locals) (hrest : (rest.map fun v => v.category).sum ≤ 8) (hls : ls.size = nL) (hdg : decode cc pc = .ok (.invokestatic ix, 3)) (hf : cells + mc ≤ R.cells ∧ slots + ms ≤ R.slots) :
    va_Run p l e R s m args below meth c H locs cells slots mc ms (F0 m pc ls st0) rest (Qc As.toArray) (va_A w H.size) := by
  obtain ⟨hx, hb, hret, hml, hown, hta, hlk, hK, hA⟩ := C0
  have hg := hc.good
  exact va_runS (Ts := wsAll) ⟨hx, hb, hml, hown, hta⟩ hM (va_cwS n hta hg rfl hrm.1 hrm.2 ⟨hc.2.1, hc.2.2.1, hc.2.2.2⟩ hR) ⟨prW_blind, fun U hU hW' => ⟨rfl, by rw [hU], by rw [hU]; exact hW.1, va_K.moved hW'.alike hK, hW.2.1.weaken (fun _ _ _ _ => trivial)⟩⟩ rfl hn hls hst (lv_room hrest) hdg hf
theorem bkI (C0 : cx p s m args meth c cc own nL ret' D tys A) (hW : wl D A s w H locs) {r : Int32} {av : Array Value} (hr : va_Run p l e R s m args below meth c H locs cells slots mc ms (F0 m pc ls st0) rest (qI r D tys w' (va_A w H.size) av) (va_A w H.size)) (k : ∀ (H1 : Heap) (locs1 : List Loc), wl D A s w' H1 locs1 → W p l e R s m args below meth c H1 locs1 (cells + mc) (slots + ms) Q (F0 m (pc + 3) ls (.int r :: rest))) : W p l e R s m args below meth c H locs cells slots Q (F0 m pc ls st0) :=
  va_calli hr hW.2.2 (fun q _ h => wl_A C0 hW q h) (wl_A C0 hW) (fun r' u t H1 locs1 ht _ hp hB _ _ hS => by
    have hp : r' = r := hp
    rw [hp]
    exact k H1 locs1 (wl_back C0 hW ht hB hS))
theorem bkZ (C0 : cx p s m args meth c cc own nL ret' D tys A) (hW : wl D A s w H locs) {r : Int32} {av : Array Value} (hr : va_Run p l e R s m args below meth c H locs cells slots mc ms (F0 m pc ls st0) rest (qZ r D tys w' (va_A w H.size) av) (va_A w H.size)) (k : (r = 0 ∨ r = 1) → ∀ (H1 : Heap) (locs1 : List Loc), wl D A s w' H1 locs1 → W p l e R s m args below meth c H1 locs1 (cells + mc) (slots + ms) Q (F0 m (pc + 3) ls (.int r :: rest))) : W p l e R s m args below meth c H locs cells slots Q (F0 m pc ls st0) :=
  va_calli hr hW.2.2 (fun q _ h => wl_A C0 hW q h) (wl_A C0 hW) (fun r' u t H1 locs1 ht _ hp hB _ _ hS => by
    have hp : r' = r ∧ (r = 0 ∨ r = 1) := hp
    rw [hp.1]
    exact k hp.2 H1 locs1 (wl_back C0 hW ht hB hS))
theorem bkJ (C0 : cx p s m args meth c cc own nL ret' D tys A) (hW : wl D A s w H locs) {r : Int64} {av : Array Value} (hr : va_Run p l e R s m args below meth c H locs cells slots mc ms (F0 m pc ls st0) rest (qJ r D tys w' (va_A w H.size) av) (va_A w H.size)) (k : ∀ (H1 : Heap) (locs1 : List Loc), wl D A s w' H1 locs1 → W p l e R s m args below meth c H1 locs1 (cells + mc) (slots + ms) Q (F0 m (pc + 3) ls (.long r :: rest))) : W p l e R s m args below meth c H locs cells slots Q (F0 m pc ls st0) :=
  va_calll hr hW.2.2 (fun q _ h => wl_A C0 hW q h) (wl_A C0 hW) (fun r' u t H1 locs1 ht _ hp hB _ _ hS => by
    have hp : r' = r := hp
    rw [hp]
    exact k H1 locs1 (wl_back C0 hW ht hB hS))
theorem bkV (C0 : cx p s m args meth c cc own nL ret' D tys A) (hW : wl D A s w H locs) {av : Array Value} (hr : va_Run p l e R s m args below meth c H locs cells slots mc ms (F0 m pc ls st0) rest (qV D tys w' (va_A w H.size) av) (va_A w H.size)) (k : ∀ (H1 : Heap) (locs1 : List Loc), wl D A s w' H1 locs1 → W p l e R s m args below meth c H1 locs1 (cells + mc) (slots + ms) Q (F0 m (pc + 3) ls rest)) : W p l e R s m args below meth c H locs cells slots Q (F0 m pc ls st0) :=
  va_callv hr hW.2.2 (fun q _ h => wl_A C0 hW q h) (wl_A C0 hW) (fun u t H1 locs1 ht _ _ hB _ _ hS => k H1 locs1 (wl_back C0 hW ht hB hS))
end RT
theorem tsw_4 {x : Int32} (h0 : ¬ x = 0) (h1 : ¬ x = 1) (h2 : ¬ x = 2) (h3 : ¬ x = 3) (h4 : ¬ x = 4 := by assumption) : x.toInt < 0 ∨ 4 < x.toInt := by
  have h0 : x.toInt ≠ 0 := fun h => h0 (Int32.toInt_inj.mp h)
  have h1 : x.toInt ≠ 1 := fun h => h1 (Int32.toInt_inj.mp h)
  have h2 : x.toInt ≠ 2 := fun h => h2 (Int32.toInt_inj.mp h)
  have h3 : x.toInt ≠ 3 := fun h => h3 (Int32.toInt_inj.mp h)
  have h4 : x.toInt ≠ 4 := fun h => h4 (Int32.toInt_inj.mp h)
  omega
theorem tsw_3 {x : Int32} (h0 : ¬ x = 0) (h1 : ¬ x = 1) (h2 : ¬ x = 2) (h3 : ¬ x = 3) : x.toInt < 0 ∨ 3 < x.toInt := by
  have h0 : x.toInt ≠ 0 := fun h => h0 (Int32.toInt_inj.mp h)
  have h1 : x.toInt ≠ 1 := fun h => h1 (Int32.toInt_inj.mp h)
  have h2 : x.toInt ≠ 2 := fun h => h2 (Int32.toInt_inj.mp h)
  have h3 : x.toInt ≠ 3 := fun h => h3 (Int32.toInt_inj.mp h)
  omega
theorem tsw_6 {x : Int32} (h0 : ¬ x = 0) (h1 : ¬ x = 1) (h2 : ¬ x = 2) (h3 : ¬ x = 3) (h4 : ¬ x = 4) (h5 : ¬ x = 5) (h6 : ¬ x = 6) : x.toInt < 0 ∨ 6 < x.toInt := by
  have h0 : x.toInt ≠ 0 := fun h => h0 (Int32.toInt_inj.mp h)
  have h1 : x.toInt ≠ 1 := fun h => h1 (Int32.toInt_inj.mp h)
  have h2 : x.toInt ≠ 2 := fun h => h2 (Int32.toInt_inj.mp h)
  have h3 : x.toInt ≠ 3 := fun h => h3 (Int32.toInt_inj.mp h)
  have h4 : x.toInt ≠ 4 := fun h => h4 (Int32.toInt_inj.mp h)
  have h5 : x.toInt ≠ 5 := fun h => h5 (Int32.toInt_inj.mp h)
  have h6 : x.toInt ≠ 6 := fun h => h6 (Int32.toInt_inj.mp h)
  omega
