/-! What was made so far: two meters in the lengths (9000 cells, 9001 slots); they never fall. -/
def mle (a b : St) : Prop := gN a 9000 ≤ gN b 9000 ∧ gN a 9001 ≤ gN b 9001
theorem mle.rfl {a : St} : mle a a := ⟨Nat.le_refl _, Nat.le_refl _⟩
theorem mle.trans {a b c : St} (h : mle a b) (g : mle b c) : mle a c := ⟨Nat.le_trans h.1 g.1, Nat.le_trans h.2 g.2⟩
theorem mle_sI {t : St} {k : Nat} {v : Int32} : mle t (sI t k v) := mle.rfl
theorem mle_sJ {t : St} {k : Nat} {v : Int64} : mle t (sJ t k v) := mle.rfl
theorem mle_sAr {t : St} {k : Nat} {f : Nat → Int32} : mle t (sAr t k f) := mle.rfl
theorem mle_sA {t : St} {k : Nat} {i v : Int32} : mle t (sA t k i v) := mle.rfl
theorem mle_sB {t : St} {k : Nat} {i : Int32} {v : Int64} : mle t (sB t k i v) := mle.rfl
theorem mle_imS {t : St} {j : Nat} {f : Nat → Int32} : mle t (imS t j f) := by
  unfold imS
  split <;> exact mle.rfl
def MR {α : Type} (x : Option α) (t : St) (σ : α → St) : Prop := ∀ a, x = some a → mle t (σ a)
section MRS
variable {α β X Y : Type} {x : Option α} {t t1 : St} {σ : α → St} {σb : β → St}
theorem MR_nm {y : β} {f : β → Option α} (h : ∀ z, z = y → MR (f z) t σ) : MR (nm y f) t σ := fun a e => h y rfl a e
theorem MR_nmS {y : St} {f : St → Option α} (hy : mle t1 y) (h : ∀ z, mle t1 z → MR (f z) t σ) : MR (nm y f) t σ := fun a e => h y hy a e
theorem MR_gd {i : Int32} {n : Nat} (h : MR x t σ) : MR (gd i n x) t σ := fun a e => h a (gd_some e).2
theorem MR_dv {i : Int32} (h : MR x t σ) : MR (dv i x) t σ := fun a e => h a (dv_some e).2
theorem MR_dvl {i : Int64} (h : MR x t σ) : MR (dvl i x) t σ := fun a e => h a (dvl_some e).2
theorem MR_bz {i : Int32} (h : MR x t σ) : MR (bz i x) t σ := fun a e => h a (bz_some e).2
theorem MR_cpk {a b c : Int32} {d e : Nat} (h : MR x t σ) : MR (cpk a b c d e x) t σ := fun a e => h a (cpk_some e).2
theorem MR_ite {c : Prop} [Decidable c] {y : Option α} (h : MR x t σ) (g : MR y t σ) : MR (if c then x else y) t σ := fun a e => by
  split at e
  · exact h a e
  · exact g a e
theorem MR_bind {y : Option β} {f : β → Option α} (h : MR y t1 σb) (g : ∀ b, mle t1 (σb b) → MR (f b) t σ) : MR (y.bind f) t σ := fun a e => by
  obtain ⟨b, h1, h2⟩ := bd_some e
  exact g b (h b h1) a h2
theorem MR_bindn {y : Option β} {f : β → Option α} (g : ∀ b, MR (f b) t σ) : MR (y.bind f) t σ := fun a e => by
  obtain ⟨b, h1, h2⟩ := bd_some e
  exact g b a h2
theorem MR_some {a : α} (h : mle t (σ a)) : MR (some a) t σ := fun b e => by cases e; exact h
theorem MR_wk (h : mle t t1) (g : MR x t1 σ) : MR x t σ := fun a e => h.trans (g a e)
theorem MR_sum {f : X → Option α} {g : Y → Option α} {p : X → St} {q : Y → St} (y : X ⊕ Y) (h : mle t1 (Sum.elim p q y)) (hf : ∀ u, mle t1 (p u) → MR (f u) t σ) (hg : ∀ u, mle t1 (q u) → MR (g u) t σ) : MR (Sum.elim f g y) t σ := by
  cases y with
  | inl u => exact hf u h
  | inr u => exact hg u h
theorem MR_sumn {f : X → Option α} {g : Y → Option α} (y : X ⊕ Y) (hf : ∀ u, MR (f u) t σ) (hg : ∀ u, MR (g u) t σ) : MR (Sum.elim f g y) t σ := by
  cases y with
  | inl u => exact hf u
  | inr u => exact hg u
theorem MR_lpn {b : X → Option (X ⊕ Y)} {p : X → St} {q : Y → St} (hb : ∀ x, MR (b x) (p x) (Sum.elim p q)) : ∀ (n : Nat) (x : X), MR (lpn b n x) (p x) q := by
  intro n
  induction n with
  | zero => intro x a e; cases e
  | succ n ih =>
    intro x a e
    obtain ⟨o, h1, h2⟩ := bd_some e
    have h := hb x o h1
    cases o with
    | inl x' => exact mle.trans h (ih x' a h2)
    | inr y => cases h2; exact h
theorem MR_lp {b : X → Option (X ⊕ Y)} {p : X → St} {q : Y → St} (hb : ∀ x, MR (b x) (p x) (Sum.elim p q)) (x : X) : MR (lp b x) (p x) q := fun a e => by
  obtain ⟨n, hn⟩ := lp_to e
  exact MR_lpn hb n x a hn
end MRS
abbrev mC (a b : St) : Nat := gN b 9000 - gN a 9000
abbrev mS (a b : St) : Nat := gN b 9001 - gN a 9001
/-- a room for what is made between two states -/
abbrev rmA (F L : Nat) (a b : St) : Room := { frames := F, cells := mC a b, slots := mS a b, locals := L }
theorem nm_wm {β : Type} {P : St → Prop} {t x : St} {f : St → β} {res : β} (hm : mle t x) (h : nm x f = res) (hP : P x) : ∃ y, mle t y ∧ f y = res ∧ P y := ⟨x, hm, h, hP⟩
section WUP
variable {p : Program} {l : Launch} {e : Env} {R : Room} {s : State} {m : MethodId} {args : Array Value} {below : List Frame} {meth : Method} {c : Code} {H : Heap} {locs : List Loc} {Q : State → Prop} {g : JFrame} {t0 t1 t2 : St}
theorem W_up (h : mle t0 t1) (h2 : mle t1 t2) (k : W p l e R s m args below meth c H locs (mC t0 t2) (mS t0 t2) Q g) : W p l e R s m args below meth c H locs (mC t0 t1) (mS t0 t1) Q g := W.widen (Nat.sub_le_sub_right h2.1 _) (Nat.sub_le_sub_right h2.2 _) k
theorem W_up2 (h : mle t0 t1) (h2 : mle t1 t2) (k : W p l e R s m args below meth c H locs (mC t0 t2) (mS t0 t2) Q g) : W p l e R s m args below meth c H locs (mC t0 t1 + mC t1 t2) (mS t0 t1 + mS t1 t2) Q g := by
  refine W.widen ?_ ?_ k
  · have := h.1; have := h2.1; show gN t1 9000 - gN t0 9000 + (gN t2 9000 - gN t1 9000) ≤ gN t2 9000 - gN t0 9000; omega
  · have := h.2; have := h2.2; show gN t1 9001 - gN t0 9001 + (gN t2 9001 - gN t1 9001) ≤ gN t2 9001 - gN t0 9001; omega
theorem W_0 (k : W p l e R s m args below meth c H locs (mC t0 t0) (mS t0 t0) Q g) : W p l e R s m args below meth c H locs 0 0 Q g := W.widen (Nat.zero_le _) (Nat.zero_le _) k
theorem hf_of {t3 : St} (h : mle t0 t1) (h2 : mle t1 t2) (h3 : mle t2 t3) : mC t0 t1 + mC t1 t2 ≤ mC t0 t3 ∧ mS t0 t1 + mS t1 t2 ≤ mS t0 t3 := by
  refine ⟨?_, ?_⟩
  · have := h.1; have := h2.1; have := h3.1; show gN t1 9000 - gN t0 9000 + (gN t2 9000 - gN t1 9000) ≤ gN t3 9000 - gN t0 9000; omega
  · have := h.2; have := h2.2; have := h3.2; show gN t1 9001 - gN t0 9001 + (gN t2 9001 - gN t1 9001) ≤ gN t3 9001 - gN t0 9001; omega
theorem hR_of {t3 : St} (h : mle t1 t3) : mC t0 t1 ≤ mC t0 t3 ∧ mS t0 t1 ≤ mS t0 t3 := ⟨Nat.sub_le_sub_right h.1 _, Nat.sub_le_sub_right h.2 _⟩
end WUP
def sN (t : St) (k n : Nat) : St := (t.1, t.2.1, t.2.2.1, t.2.2.2.1, va_up t.2.2.2.2 k n)
/-- a new row in the place of row k, told by the meters -/
def nwI (t : St) (k n : Nat) (f : Nat → Int32) : St := (t.1, t.2.1, va_up t.2.2.1 k f, t.2.2.2.1, va_up (va_up (va_up t.2.2.2.2 k n) 9000 (gN t 9000 + 1)) 9001 (gN t 9001 + n))
def nwJ (t : St) (k n : Nat) (f : Nat → Int64) : St := (t.1, t.2.1, t.2.2.1, va_up t.2.2.2.1 k f, va_up (va_up (va_up t.2.2.2.2 k n) 9000 (gN t 9000 + 1)) 9001 (gN t 9001 + n))
theorem mle_nwI {t : St} {k n : Nat} {f : Nat → Int32} : mle t (nwI t k n f) := ⟨by simp [nwI, va_up, gN], by simp [nwI, va_up, gN]⟩
theorem mle_nwJ {t : St} {k n : Nat} {f : Nat → Int64} : mle t (nwJ t k n f) := ⟨by simp [nwJ, va_up, gN], by simp [nwJ, va_up, gN]⟩
/-- how long a row of length N is made anew: twice as long at least -/
def gwn (N : Nat) (need : Int32) : Int32 := if need < (2 : Int32) * Int32.ofNat N then (2 : Int32) * Int32.ofNat N else need
/-- row k is long enough, or made anew, all 0 -/
def grw {α : Type} (t : St) (k : Nat) (need : Int32) (f : St → Option α) : Option α :=
  if Int32.ofNat (gN t k) < need then (if gwn (gN t k) need < 0 ∨ 134217728 < (gwn (gN t k) need).toNatClampNeg then none else f (nwI t k (gwn (gN t k) need).toNatClampNeg (fun _ => 0))) else f t
def grwR (t : St) (k : Nat) (need : Int32) (t1 : St) : Prop := (¬ Int32.ofNat (gN t k) < need ∧ t1 = t) ∨ (Int32.ofNat (gN t k) < need ∧ ¬ gwn (gN t k) need < 0 ∧ (gwn (gN t k) need).toNatClampNeg ≤ 134217728 ∧ t1 = nwI t k (gwn (gN t k) need).toNatClampNeg (fun _ => 0))
theorem grw_some {α : Type} {t : St} {k : Nat} {need : Int32} {f : St → Option α} {y : α} (h : grw t k need f = some y) : ∃ t1, grwR t k need t1 ∧ f t1 = some y := by
  unfold grw at h
  split at h
  · next g =>
    split at h
    · cases h
    · next g2 =>
      simp only [not_or, Nat.not_lt] at g2
      exact ⟨_, Or.inr ⟨g, g2.1, g2.2, rfl⟩, h⟩
  · next g => exact ⟨t, Or.inl ⟨g, rfl⟩, h⟩
theorem grwR.mle {t t1 : St} {k : Nat} {need : Int32} (h : grwR t k need t1) : mle t t1 := by
  rcases h with ⟨-, rfl⟩ | ⟨-, -, -, rfl⟩
  · exact mle.rfl
  · exact mle_nwI
theorem MR_grw {α : Type} {t t1 : St} {σ : α → St} {k : Nat} {need : Int32} {f : St → Option α} (h : ∀ z, mle t1 z → MR (f z) t σ) : MR (grw t1 k need f) t σ := fun a e => by
  obtain ⟨z, hz, e⟩ := grw_some e
  exact h z hz.mle a e
/-- a longer copy of row k in its place (never one of the same length) -/
def cpy {α : Type} (t : St) (k : Nat) (n : Int32) (f : St → Option α) : Option α :=
  if n = Int32.ofNat (gN t k) ∨ n < 0 ∨ 134217728 < n.toNatClampNeg ∨ 134217728 < gN t k then none else f (nwI t k n.toNatClampNeg (va_cpy (gA t k) (fun _ => 0) 0 0 (if n < Int32.ofNat (gN t k) then n else Int32.ofNat (gN t k)).toNatClampNeg))
def cpyR (t : St) (k : Nat) (n : Int32) (t1 : St) : Prop := ¬ n = Int32.ofNat (gN t k) ∧ ¬ n < 0 ∧ n.toNatClampNeg ≤ 134217728 ∧ gN t k ≤ 134217728 ∧ t1 = nwI t k n.toNatClampNeg (va_cpy (gA t k) (fun _ => 0) 0 0 (if n < Int32.ofNat (gN t k) then n else Int32.ofNat (gN t k)).toNatClampNeg)
theorem cpy_some {α : Type} {t : St} {k : Nat} {n : Int32} {f : St → Option α} {y : α} (h : cpy t k n f = some y) : ∃ t1, cpyR t k n t1 ∧ f t1 = some y := by
  unfold cpy at h
  split at h
  · cases h
  · next g =>
    simp only [not_or, Nat.not_lt] at g
    exact ⟨_, ⟨g.1, g.2.1, g.2.2.1, g.2.2.2, rfl⟩, h⟩
theorem cpyR.mle {t t1 : St} {k : Nat} {n : Int32} (h : cpyR t k n t1) : mle t t1 := by
  obtain ⟨-, -, -, -, rfl⟩ := h
  exact mle_nwI
theorem MR_cpy {α : Type} {t t1 : St} {σ : α → St} {k : Nat} {n : Int32} {f : St → Option α} (h : ∀ z, mle t1 z → MR (f z) t σ) : MR (cpy t1 k n f) t σ := fun a e => by
  obtain ⟨z, hz, e⟩ := cpy_some e
  exact h z hz.mle a e
/-- a new long row in the place of row k -/
def nwl {α : Type} (t : St) (k : Nat) (n : Int32) (f : St → Option α) : Option α :=
  if n < 0 ∨ 67108864 < n.toNatClampNeg then none else f (nwJ t k n.toNatClampNeg (fun _ => 0))
def nwlR (t : St) (k : Nat) (n : Int32) (t1 : St) : Prop := ¬ n < 0 ∧ n.toNatClampNeg ≤ 67108864 ∧ t1 = nwJ t k n.toNatClampNeg (fun _ => 0)
theorem nwl_some {α : Type} {t : St} {k : Nat} {n : Int32} {f : St → Option α} {y : α} (h : nwl t k n f = some y) : ∃ t1, nwlR t k n t1 ∧ f t1 = some y := by
  unfold nwl at h
  split at h
  · cases h
  · next g =>
    simp only [not_or, Nat.not_lt] at g
    exact ⟨_, ⟨g.1, g.2, rfl⟩, h⟩
theorem nwlR.mle {t t1 : St} {k : Nat} {n : Int32} (h : nwlR t k n t1) : mle t t1 := by
  obtain ⟨-, -, rfl⟩ := h
  exact mle_nwJ
theorem MR_nwl {α : Type} {t t1 : St} {σ : α → St} {k : Nat} {n : Int32} {f : St → Option α} (h : ∀ z, mle t1 z → MR (f z) t σ) : MR (nwl t1 k n f) t σ := fun a e => by
  obtain ⟨z, hz, e⟩ := nwl_some e
  exact h z hz.mle a e
/-- the two cells of one class of rows are of one class -/
theorem same_arr {D : va_G} {cl : List vw_C} {tys : List (ClassId × FieldType)} {s : State} {cI cA : ClassId} {k : Nat} {ty : FieldType} (hp : ∀ C, ty ≠ .object C) (hK0 : va_K D cl tys s) (h0 : tys[k]? = some (cI, ty)) (hK1 : va_K D cl (tys ++ [(cA, ty)]) s) : cA = cI := by
  have a := (hK0.2 k _ h0).2
  have b := (hK1.2 tys.length (cA, ty) (by simp)).2
  have a' : s.vm.findClass ("[" ++ ty.toString) = some cI := by
    cases ty with
    | object C => exact absurd rfl (hp C)
    | _ => exact a
  have b' : s.vm.findClass ("[" ++ ty.toString) = some cA := by
    cases ty with
    | object C => exact absurd rfl (hp C)
    | _ => exact b
  rw [a'] at b'
  exact (Option.some.inj b').symm
abbrev qIa (r : Int32) (D : va_G) (tys : List (ClassId × FieldType)) (wf : (Nat → Nat) → va_W) (A : Nat → Prop) : Array Value → State → Outcome → State → Prop := va_Qi (fun (rr : Int32) (_ : Nat → Nat) => rr = r) (fun g => poW D tys (wf g) A) A
abbrev qZa (r : Int32) (D : va_G) (tys : List (ClassId × FieldType)) (wf : (Nat → Nat) → va_W) (A : Nat → Prop) : Array Value → State → Outcome → State → Prop := va_Qi (fun (rr : Int32) (_ : Nat → Nat) => rr = r ∧ (r = 0 ∨ r = 1)) (fun g => poW D tys (wf g) A) A
abbrev qVa (D : va_G) (tys : List (ClassId × FieldType)) (wf : (Nat → Nat) → va_W) (A : Nat → Prop) : Array Value → State → Outcome → State → Prop := va_Qv (fun (_ : Nat → Nat) => True) (fun g => poW D tys (wf g) A) A
section RTA
variable {p : Program} {l : Launch} {e : Env} {R : Room} {s : State} {m : MethodId} {args : Array Value} {below : List Frame} {meth : Method} {c : Code} {H : Heap} {locs : List Loc} {Q : State → Prop} {pc : Nat} {ls : Array Slot} {cc : ByteArray} {own : String} {nL : Nat} {D : va_G} {tys : List (ClassId × FieldType)} {A : Nat → Prop} {w : va_W} {cells slots : Nat} {wf : (Nat → Nat) → va_W} {ret' : Option FieldType} {st0 rest : List Value} {t0 t1 t2 : St}
theorem rtIa (g : Nat → Nat) (C0 : cx p s m args meth c cc own nL (some .int) D tys A) (hW : wl D A s (wf g) H locs) {r : Int32} (hdg : decode cc pc = .ok (.ireturn, 1)) : W p l e R s m args below meth c H locs cells slots (MQ below (qIa r D tys wf A) args s cells slots A) (F0 m pc ls [.int r]) :=
  W.iret C0.1 C0.2.1 C0.2.2.1 (fun t ht hV => ⟨⟨r, g, rfl, rfl, by rw [ht]; exact hW.1, va_K.moved hV.alike C0.2.2.2.2.2.2.2.1, hW.2.1⟩, hW.2.2.F ht⟩) hW.2.2.2.2 hdg C0.2.2.2.2.2.2.1
theorem rtZa (g : Nat → Nat) (C0 : cx p s m args meth c cc own nL (some .boolean) D tys A) (hW : wl D A s (wf g) H locs) {r : Int32} (hr : r = 0 ∨ r = 1) (hdg : decode cc pc = .ok (.ireturn, 1)) : W p l e R s m args below meth c H locs cells slots (MQ below (qZa r D tys wf A) args s cells slots A) (F0 m pc ls [.int r]) :=
  W.zret C0.1 C0.2.1 C0.2.2.1 (nar_bool hr) (fun t ht hV => ⟨⟨r, g, rfl, ⟨rfl, hr⟩, by rw [ht]; exact hW.1, va_K.moved hV.alike C0.2.2.2.2.2.2.2.1, hW.2.1⟩, hW.2.2.F ht⟩) hW.2.2.2.2 hdg C0.2.2.2.2.2.2.1
theorem rtVa (g : Nat → Nat) (C0 : cx p s m args meth c cc own nL none D tys A) (hW : wl D A s (wf g) H locs) (hdg : decode cc pc = .ok (.return_, 1)) : W p l e R s m args below meth c H locs cells slots (MQ below (qVa D tys wf A) args s cells slots A) (F0 m pc ls []) :=
  W.vret C0.1 C0.2.1 C0.2.2.1 (fun t ht hV => ⟨⟨g, rfl, trivial, by rw [ht]; exact hW.1, va_K.moved hV.alike C0.2.2.2.2.2.2.2.1, hW.2.1⟩, hW.2.2.F ht⟩) hW.2.2.2.2 hdg C0.2.2.2.2.2.2.1
theorem bkIa (C0 : cx p s m args meth c cc own nL ret' D tys A) (hW : wl D A s w H locs) (h0 : mle t0 t1) (h1 : mle t1 t2) {r : Int32} {av : Array Value} (hr : va_Run p l e R s m args below meth c H locs (mC t0 t1) (mS t0 t1) (mC t1 t2) (mS t1 t2) (F0 m pc ls st0) rest (qIa r D tys wf (va_A w H.size) av) (va_A w H.size)) (k : ∀ (g : Nat → Nat) (H1 : Heap) (locs1 : List Loc), wl D A s (wf g) H1 locs1 → W p l e R s m args below meth c H1 locs1 (mC t0 t2) (mS t0 t2) Q (F0 m (pc + 3) ls (.int r :: rest))) : W p l e R s m args below meth c H locs (mC t0 t1) (mS t0 t1) Q (F0 m pc ls st0) :=
  va_calli hr hW.2.2 (fun q _ h => wl_A C0 hW q h) (wl_A C0 hW) (fun r' u t H1 locs1 ht _ hp hB _ _ hS => by
    have hp : r' = r := hp
    rw [hp]
    exact W_up2 h0 h1 (k u H1 locs1 (wl_back C0 hW ht hB hS)))
theorem bkZa (C0 : cx p s m args meth c cc own nL ret' D tys A) (hW : wl D A s w H locs) (h0 : mle t0 t1) (h1 : mle t1 t2) {r : Int32} {av : Array Value} (hr : va_Run p l e R s m args below meth c H locs (mC t0 t1) (mS t0 t1) (mC t1 t2) (mS t1 t2) (F0 m pc ls st0) rest (qZa r D tys wf (va_A w H.size) av) (va_A w H.size)) (k : (r = 0 ∨ r = 1) → ∀ (g : Nat → Nat) (H1 : Heap) (locs1 : List Loc), wl D A s (wf g) H1 locs1 → W p l e R s m args below meth c H1 locs1 (mC t0 t2) (mS t0 t2) Q (F0 m (pc + 3) ls (.int r :: rest))) : W p l e R s m args below meth c H locs (mC t0 t1) (mS t0 t1) Q (F0 m pc ls st0) :=
  va_calli hr hW.2.2 (fun q _ h => wl_A C0 hW q h) (wl_A C0 hW) (fun r' u t H1 locs1 ht _ hp hB _ _ hS => by
    have hp : r' = r ∧ (r = 0 ∨ r = 1) := hp
    rw [hp.1]
    exact W_up2 h0 h1 (k hp.2 u H1 locs1 (wl_back C0 hW ht hB hS)))
theorem bkVa (C0 : cx p s m args meth c cc own nL ret' D tys A) (hW : wl D A s w H locs) (h0 : mle t0 t1) (h1 : mle t1 t2) {av : Array Value} (hr : va_Run p l e R s m args below meth c H locs (mC t0 t1) (mS t0 t1) (mC t1 t2) (mS t1 t2) (F0 m pc ls st0) rest (qVa D tys wf (va_A w H.size) av) (va_A w H.size)) (k : ∀ (g : Nat → Nat) (H1 : Heap) (locs1 : List Loc), wl D A s (wf g) H1 locs1 → W p l e R s m args below meth c H1 locs1 (mC t0 t2) (mS t0 t2) Q (F0 m (pc + 3) ls rest)) : W p l e R s m args below meth c H locs (mC t0 t1) (mS t0 t1) Q (F0 m pc ls st0) :=
  va_callv hr hW.2.2 (fun q _ h => wl_A C0 hW q h) (wl_A C0 hW) (fun u t H1 locs1 ht _ _ hB _ _ hS => W_up2 h0 h1 (k u H1 locs1 (wl_back C0 hW ht hB hS)))
end RTA
