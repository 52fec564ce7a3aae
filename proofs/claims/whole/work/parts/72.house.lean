def va_AOA (ty : FieldType) (U : State) : Prop := (Cond.arrayOver (.array ty)).before #[] U = true
theorem va_AOA.of {ty : FieldType} {A : Array Value} {U : State} (h : (Cond.arrayOver (.array ty)).before A U = true) : va_AOA ty U := h
theorem va_AOA.use {ty : FieldType} {A : Array Value} {U : State} (h : va_AOA ty U) : (Cond.arrayOver (.array ty)).before A U = true := h
theorem va_AOA.moved {ty : FieldType} {u U : State} (hvm : u.vm.Alike U.vm) (h : va_AOA ty u) : va_AOA ty U := by
  unfold va_AOA Cond.before Cond.holds at h
  simp only [Cond.value, beq_iff_eq] at h
  cases hc : u.vm.findClass (FieldType.array ty).toString with
  | none => simp [hc] at h
  | some comp =>
    simp only [hc, Option.bind_some, Option.bind_eq_some_iff, Option.map_eq_some_iff] at h
    obtain ⟨c, hi, k, hk, hb⟩ := h
    obtain ⟨k', hk', he⟩ := hvm.2.2 _ _ hk
    have hi' : (U.vm.classes.findIdx? fun (x : Class) => match x.kind with | .array component _ => component == comp | _ => false) = some c := by
      have h1 := va_idx_bare U.vm comp
      have h2 := va_idx_bare u.vm comp
      first | rw [hvm.bare_eq] at h1 | rw [← hvm.bare_eq] at h1
      exact h1.symm.trans (h2.trans hi)
    have f1 : U.vm.findClass (FieldType.array ty).toString = some comp := by rw [hvm.findClass]; exact hc
    unfold va_AOA Cond.before Cond.holds
    simp only [Cond.value]
    rw [f1, Option.bind_some]
    refine (congrArg (fun o : Option Nat => (o.bind (fun c => (U.vm.classes[c]?).map fun (k : Class) => match k.kind with | .array _ t => decide (t = FieldType.array ty) && decide (U.vm.findClass ("[" ++ (FieldType.array ty).toString) = some c) | _ => false) == some true)) hi').trans ?_
    cases hkind : k.kind with
    | array component t =>
      rw [hkind] at hb
      simp at hb
      have h9 : k'.kind = .array component (.array ty) := by rw [he, hkind, hb.1]
      simp [hk', h9, hvm.findClass, hb.2]
    | _ => rw [hkind] at hb; simp at hb
/-! ===== BEGIN new T[n][m]: the outer array a place, the inner ones among the pooled ===== -/
/-- f, but v at every address of l -/
def vr_up {α : Type} (f : Nat → α) (l : List Nat) (v : α) : Nat → α := fun a => if a ∈ l then v else f a
theorem vr_up_in {α : Type} {f : Nat → α} {l : List Nat} {v : α} {a : Nat} (h : a ∈ l) : vr_up f l v a = v := if_pos h
theorem vr_up_ne {α : Type} {f : Nat → α} {l : List Nat} {v : α} {a : Nat} (h : a ∉ l) : vr_up f l v a = f a := if_neg h
theorem vr_rows {L l : List Nat} {f : Nat → va_E} {e : va_E} (h : ∀ a, a ∈ l → a ∉ L) : va_pl L f ++ l.map (fun a => (a, e)) = va_pl (L ++ l) (vr_up f l e) := by
  unfold va_pl
  rw [List.map_append]
  congr 1
  · apply List.map_congr_left
    intro a ha
    rw [vr_up_ne (fun q => h a q ha)]
  · apply List.map_congr_left
    intro a ha
    rw [vr_up_in ha]
theorem vr_lay {X rows : va_W} {x : Nat × va_E} {pl : va_W} {D : va_G} {cl : List vw_C} {H : Heap} (hP : va_P D cl (((X ++ pl) ++ [x]) ++ rows) H) : va_P D cl ((X ++ [x]) ++ (pl ++ rows)) H := by
  rw [List.append_assoc (X ++ pl)] at hP
  have h := va_P.swap hP
  rw [← List.append_assoc X] at h
  have h2 := va_P.swap h
  rw [List.append_assoc (X ++ [x])] at h2
  exact h2
theorem vr_layD {X rows : va_W} {x : Nat × va_E} {pl : va_W} {A : Nat → Prop} (hD : va_D A (((X ++ pl) ++ [x]) ++ rows)) : va_D A ((X ++ [x]) ++ (pl ++ rows)) := by
  rw [List.append_assoc (X ++ pl)] at hD
  have h := va_D.swap hD
  rw [← List.append_assoc X] at h
  have h2 := va_D.swap h
  rw [List.append_assoc (X ++ [x])] at h2
  exact h2
theorem vr_outer (c : ClassId) (N h0 : Nat) : ∀ i : Nat, Jvm.Free.Multi.outerC c N h0 i = arrV c N (fun j => va_rf (if j < i then some (h0 + 1 + j) else none))
  | 0 => by
    show ({ cls := c, slots := Array.replicate N .null, vm := .none } : Cell) = _
    rw [arrV_new]
    refine congrArg (arrV c N) (funext fun j => ?_)
    simp [va_rf]
  | i + 1 => by
    show (Jvm.Free.Multi.outerC c N h0 i).setSlot i (.ref (h0 + 1 + i)) = _
    rw [vr_outer c N h0 i, arrV_store]
    refine congrArg (arrV c N) (funext fun j => ?_)
    by_cases e : j = i
    · subst e
      simp [updV, va_rf]
    · by_cases h : j < i
      · simp [updV, e, h, Nat.lt_succ_of_lt h]
      · simp [updV, e, h, show ¬ j < i + 1 by omega]
section VGM
variable {p : Program} {l : Launch} {e : Env} {R : Room} {s : State} {m : MethodId} {args : Array Value} {below : List Frame} {meth : Method} {c : Code} {H : Heap} {locs : List Loc} {cells slots : Nat} {Q : State → Prop}
variable {cc : ByteArray} {pc : Nat} {ls : Array Slot} {rest : List Value} {D : va_G} {cl : List vw_C} {A : Nat → Prop} {a : Nat} {tys : List (ClassId × FieldType)} {ws : va_W} {H0 : Heap}
theorem va_mna {X : va_W} {L : List Nat} {f : Nat → va_E} {cc : ByteArray} (hexec : p.tables.exec = Jvm.exec) (hb : c.code = cc) {own : String} {index : Nat} {ty : FieldType} {cy : ClassId} (hown : s.vm.findClass own = some m.cls) (hclink : (Cond.classLink own index ("[" ++ (FieldType.array ty).toString)).before args s = true) (hover : va_AOA ty s) (harr : (Cond.arrayClass ty).before args s = true) (hcy : s.vm.findClass (FieldType.array ty).toString = some cy)
    (hK : va_K D cl tys s) (hP : va_P D cl (X ++ va_pl L f) H) (hD : va_D A (X ++ va_pl L f)) (hS : va_S A H0 H locs) (hA : ∀ q, H0.size ≤ q → A q) {n k : Int32} {N' K' : Nat} {z : vp_A} (hn : ¬ n < 0) (hk : ¬ k < 0) (hN : n.toNatClampNeg = N') (hM : k.toNatClampNeg = K')
    (hb1 : N' * 4 ≤ 536870912) (hb2 : K' * componentBytes ty ≤ 536870912) (hb3 : K' ≤ 536870912) (hdf : fits ty (defaultValue ty) = true) (hdd : (defaultValue ty).isDefault = true) (hcells : cells + (1 + N') ≤ R.cells) (hslots : slots + (N' + N' * K') ≤ R.slots) (hz : ∀ c : ClassId, Jvm.Free.Multi.innerC c K' (defaultValue ty) = vp_cell c z) (hdg : decode cc pc = .ok (.multianewarray index 2, 4))
    (kk : ∀ (q : Nat) (r : Nat → Nat) (cA : ClassId) (H1 : Heap), (∀ i j : Nat, i < N' → j < N' → r i = r j → i = j) → (∀ i : Nat, i < N' → r i ∉ L) → va_K D cl (tys ++ [(cA, .array ty)]) s →
      va_P D cl ((X ++ [(q, .inl (cA, N', .inr (.inr (.inr (.inr (fun i => if i < N' then some (r i) else none))))))]) ++ va_pl (L ++ (List.range N').map r) (vr_up f ((List.range N').map r) (.inl (cy, z)))) H1 → va_D A ((X ++ [(q, .inl (cA, N', .inr (.inr (.inr (.inr (fun i => if i < N' then some (r i) else none))))))]) ++ va_pl (L ++ (List.range N').map r) (vr_up f ((List.range N').map r) (.inl (cy, z)))) → va_S A H0 H1 locs →
      W p l e R s m args below meth c H1 locs (cells + 1 + N') (slots + N' + N' * K') Q (F0 m (pc + 4) ls (.ref q :: rest))) : W p l e R s m args below meth c H locs cells slots Q (F0 m pc ls (.int k :: .int n :: rest)) := by
  subst hN
  subst hM
  intro T hT Xs
  obtain ⟨vm₁, cA, comp, -, fA, fC, hO, -, X', step⟩ := Xs.multianewarray2F hexec hown hclink (va_AOA.use hover) harr (g := F0 m pc ls (.int k :: .int n :: rest)) rfl (by rw [hb]; exact hdg) rfl hn hk hb1 hb2 hb3 hdf hdd hcells hslots
  have ec : some cy = some comp := hcy.symm.trans fC
  cases ec
  generalize hF : Jvm.Free.Multi.fill (T.setVm vm₁) cA cy n.toNatClampNeg k.toNatClampNeg (defaultValue ty) n.toNatClampNeg = F at X' step
  have hTh : (T.setVm vm₁).heap = H := hT
  obtain ⟨f1, f2, -, -⟩ := Jvm.Free.Multi.fill_facts (T.setVm vm₁) cA cy n.toNatClampNeg k.toNatClampNeg (defaultValue ty) n.toNatClampNeg
  rw [hF, hTh] at f1 f2
  have hold : ∀ x : Nat, x < H.size → F.heap[x]? = H[x]? := fun x hx => by
    have := Jvm.Free.Multi.fill_old (T.setVm vm₁) cA cy n.toNatClampNeg k.toNatClampNeg (defaultValue ty) (a := x) (by rw [hTh]; exact hx) n.toNatClampNeg
    rw [hF, hTh] at this
    exact this
  have hrow : ∀ j : Nat, j < n.toNatClampNeg → F.heap[H.size + 1 + j]? = some (vp_cell cy z) := fun j hj => by
    have := Jvm.Free.Multi.fill_inner (T.setVm vm₁) cA cy n.toNatClampNeg k.toNatClampNeg (defaultValue ty) n.toNatClampNeg j hj
    rw [hF, hTh, hz] at this
    exact this
  have hout : Jvm.Free.Multi.outerC cA n.toNatClampNeg H.size n.toNatClampNeg = vp_cell cA (n.toNatClampNeg, .inr (.inr (.inr (.inr (fun i => if i < n.toNatClampNeg then some (H.size + 1 + i) else none))))) := by
    rw [vp_cell_q]
    exact vr_outer cA n.toNatClampNeg H.size n.toNatClampNeg
  rw [hout] at f2
  have hlt : ∀ a, a ∈ L → a < H.size := fun a ha => by
    obtain ⟨k9, hk9⟩ := va_pl_get (X := X) (f := f) ha
    exact (hP k9 _ hk9).lt
  have hnl : ∀ i : Nat, i < n.toNatClampNeg → H.size + 1 + i ∉ L := fun i _ h => by
    have := hlt _ h
    omega
  have hnm : ∀ a, a ∈ (List.range n.toNatClampNeg).map (fun i => H.size + 1 + i) → a ∉ L := fun a ha h => by
    obtain ⟨i, -, rfl⟩ := List.mem_map.mp ha
    have := hlt _ h
    omega
  have hP0 : va_P D cl (X ++ va_pl L f) F.heap := hP.kept (fun k9 x hx => hold x.1 ((hP k9 x hx).lt))
  have hP1 : va_P D cl ((X ++ va_pl L f) ++ [(H.size, .inl (cA, n.toNatClampNeg, .inr (.inr (.inr (.inr (fun i => if i < n.toNatClampNeg then some (H.size + 1 + i) else none))))))]) F.heap := hP0.app (fun k9 x hx => by
    have h0 : k9 < 1 := (List.getElem?_eq_some_iff.mp hx).1
    rw [show k9 = 0 by omega] at hx
    cases hx
    exact f2)
  have hP2 : va_P D cl (((X ++ va_pl L f) ++ [(H.size, .inl (cA, n.toNatClampNeg, .inr (.inr (.inr (.inr (fun i => if i < n.toNatClampNeg then some (H.size + 1 + i) else none))))))]) ++ ((List.range n.toNatClampNeg).map (fun i => H.size + 1 + i)).map (fun a => (a, .inl (cy, z)))) F.heap := hP1.app (fun k9 x hx => by
    obtain ⟨a, ha, rfl⟩ := List.mem_map.mp (List.mem_of_getElem? hx)
    obtain ⟨i, hi, rfl⟩ := List.mem_map.mp ha
    exact hrow i (List.mem_range.mp hi))
  have hD2 : va_D A (((X ++ va_pl L f) ++ [(H.size, .inl (cA, n.toNatClampNeg, .inr (.inr (.inr (.inr (fun i => if i < n.toNatClampNeg then some (H.size + 1 + i) else none))))))]) ++ ((List.range n.toNatClampNeg).map (fun i => H.size + 1 + i)).map (fun a => (a, .inl (cy, z)))) := by
    have hD1 := hD.push (e := .inl (cA, n.toNatClampNeg, .inr (.inr (.inr (.inr (fun i => if i < n.toNatClampNeg then some (H.size + 1 + i) else none)))))) hP rfl (hA _ hS.1)
    generalize hW1 : (X ++ va_pl L f) ++ [(H.size, .inl (cA, n.toNatClampNeg, .inr (.inr (.inr (.inr (fun i => if i < n.toNatClampNeg then some (H.size + 1 + i) else none))))))] = W1 at hD1 hP1 ⊢
    have hle : ∀ (k9 : Nat) (x : Nat × va_E), W1[k9]? = some x → x.1 ≤ H.size := fun k9 x hx => by
      rw [← hW1] at hx
      by_cases hl : k9 < (X ++ va_pl L f).length
      · rw [List.getElem?_append_left hl] at hx
        exact Nat.le_of_lt ((hP k9 x hx).lt)
      · rw [List.getElem?_append_right (by omega)] at hx
        have h0 : k9 - (X ++ va_pl L f).length < 1 := (List.getElem?_eq_some_iff.mp hx).1
        rw [show k9 - (X ++ va_pl L f).length = 0 by omega] at hx
        cases hx
        exact Nat.le_refl _
    have hr : ∀ (k9 : Nat) (x : Nat × va_E), (((List.range n.toNatClampNeg).map (fun i => H.size + 1 + i)).map (fun a => ((a, .inl (cy, z)) : Nat × va_E)))[k9]? = some x → x.1 = H.size + 1 + k9 := fun k9 x hx => by
      rw [List.getElem?_map, List.getElem?_map] at hx
      by_cases h9 : k9 < n.toNatClampNeg
      · rw [List.getElem?_range h9] at hx
        cases hx
        rfl
      · have hn0 : (List.range n.toNatClampNeg)[k9]? = none := List.getElem?_eq_none (by rw [List.length_range]; omega)
        rw [hn0] at hx
        cases hx
    refine ⟨fun i j x y hi hj hxy => ?_, fun k9 x hx => ?_⟩
    · by_cases h1 : i < W1.length <;> by_cases h2 : j < W1.length
      · rw [List.getElem?_append_left h1] at hi
        rw [List.getElem?_append_left h2] at hj
        exact hD1.1 i j x y hi hj hxy
      · rw [List.getElem?_append_left h1] at hi
        rw [List.getElem?_append_right (by omega)] at hj
        have := hle _ _ hi
        have := hr _ _ hj
        omega
      · rw [List.getElem?_append_right (by omega)] at hi
        rw [List.getElem?_append_left h2] at hj
        have := hle _ _ hj
        have := hr _ _ hi
        omega
      · rw [List.getElem?_append_right (by omega)] at hi hj
        have := hr _ _ hi
        have := hr _ _ hj
        omega
    · by_cases h1 : k9 < W1.length
      · rw [List.getElem?_append_left h1] at hx
        exact hD1.2 k9 x hx
      · rw [List.getElem?_append_right (by omega)] at hx
        have := hr _ _ hx
        exact hA _ (by have := hS.1; omega)
  have hAr : ArrOfT s cA (.array ty) := fun N9 z9 => by
    obtain ⟨-, k9, hk9, cm9, hkk9⟩ := (hO 0 0 0).1
    exact ⟨(fun q hq => by cases hq), k9, hk9, cm9, hkk9⟩
  have hK2 : va_K D cl (tys ++ [(cA, .array ty)]) s := ⟨hK.1, fun k9 x hx => by
    by_cases hl : k9 < tys.length
    · rw [List.getElem?_append_left hl] at hx
      exact hK.2 k9 x hx
    · rw [List.getElem?_append_right (by omega)] at hx
      have h0 : k9 - tys.length < 1 := (List.getElem?_eq_some_iff.mp hx).1
      rw [show k9 - tys.length = 0 by omega] at hx
      cases hx
      exact ⟨hAr, fA⟩⟩
  obtain ⟨t, a1, b1⟩ := kk H.size (fun i => H.size + 1 + i) cA F.heap (fun i j _ _ h => by have h9 : H.size + 1 + i = H.size + 1 + j := h; omega) hnl hK2 (by rw [← vr_rows hnm]; exact vr_lay hP2) (by rw [← vr_rows hnm]; exact vr_layD hD2) ⟨by rw [f1]; have := hS.1; omega, fun x h1 h2 => (hold x (Nat.lt_of_lt_of_le h1 hS.1)).trans (hS.2.1 x h1 h2), hS.2.2⟩ F rfl X'
  refine ⟨t, step t ?_, b1⟩
  have e : T.heap.size = H.size := by rw [hT]
  rw [e]
  exact a1
end VGM
/-! ===== END ===== -/

theorem vr_two {f : Nat → va_E} {r : Nat → Nat} {e : va_E} : va_pl ([] ++ (List.range 2).map r) (vr_up f ((List.range 2).map r) e) = [(r 0, e), (r 1, e)] := by
  show [(r 0, vr_up f [r 0, r 1] e (r 0)), (r 1, vr_up f [r 0, r 1] e (r 1))] = _
  rw [vr_up_in (by simp), vr_up_in (by simp)]
/-- the rows that House's loop leaves behind its first k turns -/
def hsF : Nat → Nat → Int32
  | 0 => fun _ => 0
  | k + 1 => upd (upd (upd (hsF k) (5 * k) 1) (5 * k + 1) 1) (5 * k + 2) 500
theorem img_at {D : va_G} {cl : List vw_C} {a cA : Nat} {r : Nat → Nat} {H : Heap} (h : va_at D cl (a, .inl (cA, 2, .inr (.inr (.inr (.inr (fun i => if i < 2 then some (r i) else none)))))) H) : va_at D cl (a, .inl (cA, 2, .inr (.inr (.inr (.inr (fun j => some (if j = 0 then r 0 else r 1))))))) H := by
  have e : vp_cell cA (2, .inr (.inr (.inr (.inr (fun i => if i < 2 then some (r i) else none))))) = vp_cell cA (2, .inr (.inr (.inr (.inr (fun j => some (if j = 0 then r 0 else r 1)))))) := by
    simp only [vp_cell, arrV]
    congr 2
    funext j
    have hj := j.2
    rcases (show j.val = 0 ∨ j.val = 1 by omega) with e | e <;> simp [e]
  show H[a]? = some _
  rw [← e]
  exact h
def wC5 (cI cZ cR : ClassId) (h0 : Nat) (q : Nat → Nat) : va_W := [(h0, .inr (5, [.ref (q 500), .ref (q 501), .ref (q 502)])), (q 500, .inl (cI, 80, .inl (hsF 16))), (q 501, .inl (cR, 2, .inr (.inr (.inr (.inr (fun j => some (if j = 0 then q 503 else q 504))))))), (q 503, .inl (cI, 80, .inl (fun _ => 0))), (q 504, .inl (cI, 80, .inl (fun _ => 0))), (q 502, .inl (cZ, 2, .inl (fun _ => 0)))]
set_option maxHeartbeats 8000000 in
set_option maxRecDepth 100000 in
theorem c_ctor5 (l : Launch) {D : va_G} {cI cJ cZ cR : ClassId} (h0 sz : Nat) : Met l yX5_init (.code yX5_init cX5_init 2 none :: wsAll) ({ frames := 1, cells := 5, slots := 244, locals := 20 } : Room) (va_Pc [.ref h0] (fun U => prW D (tyX cI cJ cZ cR) [(h0, .inr (5, [.null, .null, .null]))] sz U ∧ va_AOA .int U)) (va_Qv (fun (_ : Nat → Nat) => True) (fun q => poW D (tyX cI cJ cZ cR) (wC5 cI cZ cR h0 q) (va_A [(h0, .inr (5, [.null, .null, .null]))] sz)) (va_A [(h0, .inr (5, [.null, .null, .null]))] sz)) 5 244 (va_A [(h0, .inr (5, [.null, .null, .null]))] sz) := by
  refine Met.ofW (cc := cX5_init) (maxL := 2) (ret := none) (by decide) rfl ?_
  intro p e s m args below meth c s₁ B hml hv
  obtain ⟨rfl, ⟨hsz, hP, hK, hD0⟩, hao⟩ := hv
  have hx := B.exec
  have hb := B.bytes
  have hts := atoms_spec (ws := (.code yX5_init cX5_init 2 none :: wsAll)) B.pre
  have hta := fun w h => hts w (List.mem_cons_of_mem _ h)
  have hown : s.vm.findClass RX5 = some m.cls := findClass_of_methodNamed B.named
  have hlocks := B.notSynchronized
  have hin : meth.name = "<init>" := (name_of_methodNamed B.named B.method).1
  subst hsz
  have hD := hD0.self (sz := s.heap.size)
  generalize hAe : va_A [(h0, .inr (5, [.null, .null, .null]))] s.heap.size = A at hD ⊢
  have hA : ∀ q : Nat, s.heap.size ≤ q → A q := fun q h => by rw [← hAe]; exact Or.inr h
  have C0 : cx p s m ([.ref h0].toArray) meth c cX5_init RX5 2 none D (tyX cI cJ cZ cR) A := ⟨hx, hb, B.returns, hml, hown, hta, hlocks, hK, hA⟩
  have hW : wl D A s [(h0, .inr (5, [.null, .null, .null]))] s.heap [] := ⟨hP, hD, va_S.rf⟩
  have hl := lv_entry [.ref h0] (n := 2) (Nat.le_of_ble_eq_true rfl)
  rw [lg_entry_eq]
  generalize (lg_sl [.ref h0] ++ List.replicate (2 - (lg_sl [.ref h0]).length) Slot.unset).toArray = ls at hl ⊢
  have hl : lv_has ls 2 [(0, .ref h0)] := hl
  refine lv_aload_n hx hb dX5_init_0 rfl (lv_at hl 0 rfl) ?_
  refine W.objInit hx hb hown (hta _ kw_153) (hta _ kw_146) (hta _ kw_147) rfl (by rw [hml]; exact hl.1) rfl dX5_init_1 (Nat.le_of_ble_eq_true rfl) (Nat.le_of_ble_eq_true rfl) ?_
  refine W.eq (g2 := F0 m 4 ls []) rfl ?_
  refine lv_aload_n hx hb dX5_init_4 rfl (lv_at hl 0 rfl) ?_
  refine lv_bipush (v := (80 : Int32)) hx hb dX5_init_5 (by decide) ?_
  refine nwcI (N := 80) C0 hW rfl (by decide) (by decide) (Nat.le_of_ble_eq_true rfl) (Nat.le_of_ble_eq_true rfl) dX5_init_7 (fun q500 H hW => ?_)
  refine W.widen (k := 1) (n := 80) (Nat.le_of_ble_eq_true rfl) (Nat.le_of_ble_eq_true rfl) ?_
  have hW : wl D A s [(h0, .inr (5, [.null, .null, .null])), (q500, .inl (cI, 80, .inl (fun _ => 0)))] H _ := hW
  refine va_putF (D := D) (ci := 5) (v := .ref q500) (ty := .array .int) (C := RX5) (T := TX5) (N := 3) hx hb hta inA5 tyX5 tyX5_ok nmX5 hown hK hW.1 hW.2.1 hW.2.2 0 rfl rfl 0 (by decide) (hta _ kw_156) (fun _ h9 => h9) rfl hin rfl (by decide +kernel) rfl rfl (Nat.le_of_ble_eq_true rfl) dX5_init_9 (fun H locs hP hD hS => ?_)
  have hW : wl D A s [(h0, .inr (5, [.ref q500, .null, .null])), (q500, .inl (cI, 80, .inl (fun _ => 0)))] H locs := ⟨hP, hD, hS⟩
  refine lv_aload_n hx hb dX5_init_12 rfl (lv_at hl 0 rfl) ?_
  refine lv_iconst (v := (2 : Int32)) hx hb dX5_init_13 (by decide) ?_
  refine lv_bipush (v := (80 : Int32)) hx hb dX5_init_14 (by decide) ?_
  refine va_mna (X := [(h0, .inr (5, [.ref q500, .null, .null])), (q500, .inl (cI, 80, .inl (fun _ => 0)))]) (L := []) (f := fun _ => .inr (0, [])) (ty := .int) (cy := cI) (N' := 2) (K' := 80) (z := (80, .inl (fun _ => 0))) hx hb hown (hta _ kw_154) hao (hta _ kw_arrI0) (hK.2 0 _ rfl).2 hK (by rw [show va_pl [] (fun _ => (.inr (0, []) : va_E)) = [] from rfl, List.append_nil]; exact hW.1) (by rw [show va_pl [] (fun _ => (.inr (0, []) : va_E)) = [] from rfl, List.append_nil]; exact hW.2.1) hW.2.2 hA (by decide) (by decide) (by decide) (by decide) (by decide) (by decide) (by decide) rfl rfl (Nat.le_of_ble_eq_true rfl) (Nat.le_of_ble_eq_true rfl) (fun c => (arrV_new c 80 _)) dX5_init_16 (fun q501 r cA H hinj _ hK1 hP hD hS => ?_)
  obtain rfl : cA = cR := same_arr (k := 3) (fun C h => by cases h) hK rfl hK1
  rw [vr_two] at hP hD
  have hW : wl D A s [(h0, .inr (5, [.ref q500, .null, .null])), (q500, .inl (cI, 80, .inl (fun _ => 0))), (q501, .inl (cA, 2, .inr (.inr (.inr (.inr (fun i => if i < 2 then some (r i) else none)))))), (r 0, .inl (cI, 80, .inl (fun _ => 0))), (r 1, .inl (cI, 80, .inl (fun _ => 0)))] H _ := ⟨hP, hD, hS⟩
  have hW : wl D A s [(h0, .inr (5, [.ref q500, .null, .null])), (q500, .inl (cI, 80, .inl (fun _ => 0))), (q501, .inl (cA, 2, .inr (.inr (.inr (.inr (fun j => some (if j = 0 then r 0 else r 1))))))), (r 0, .inl (cI, 80, .inl (fun _ => 0))), (r 1, .inl (cI, 80, .inl (fun _ => 0)))] H _ := ⟨hW.1.set (p := 2) hW.2.1 rfl (img_at (hW.1 2 _ rfl)) (fun _ _ => rfl), hW.2.1.set (p := 2) rfl, hW.2.2⟩
  refine W.widen (k := 4) (n := 242) (Nat.le_of_ble_eq_true rfl) (Nat.le_of_ble_eq_true rfl) ?_
  refine va_putF (D := D) (ci := 5) (v := .ref q501) (ty := .array (.array .int)) (C := RX5) (T := TX5) (N := 3) hx hb hta inA5 tyX5 tyX5_ok nmX5 hown hK hW.1 hW.2.1 hW.2.2 0 rfl rfl 1 (by decide) (hta _ kw_157) (fun _ h9 => h9) rfl hin rfl (by decide +kernel) rfl rfl (Nat.le_of_ble_eq_true rfl) dX5_init_20 (fun H locs hP hD hS => ?_)
  have hW : wl D A s [(h0, .inr (5, [.ref q500, .ref q501, .null])), (q500, .inl (cI, 80, .inl (fun _ => 0))), (q501, .inl (cA, 2, .inr (.inr (.inr (.inr (fun j => some (if j = 0 then r 0 else r 1))))))), (r 0, .inl (cI, 80, .inl (fun _ => 0))), (r 1, .inl (cI, 80, .inl (fun _ => 0)))] H locs := ⟨hP, hD, hS⟩
  refine lv_aload_n hx hb dX5_init_23 rfl (lv_at hl 0 rfl) ?_
  refine lv_iconst (v := (2 : Int32)) hx hb dX5_init_24 (by decide) ?_
  refine nwcZ (N := 2) C0 hW rfl (by decide) (by decide) (Nat.le_of_ble_eq_true rfl) (Nat.le_of_ble_eq_true rfl) dX5_init_25 (fun q502 H hW => ?_)
  refine W.widen (k := 5) (n := 244) (Nat.le_of_ble_eq_true rfl) (Nat.le_of_ble_eq_true rfl) ?_
  have hW : wl D A s [(h0, .inr (5, [.ref q500, .ref q501, .null])), (q500, .inl (cI, 80, .inl (fun _ => 0))), (q501, .inl (cA, 2, .inr (.inr (.inr (.inr (fun j => some (if j = 0 then r 0 else r 1))))))), (r 0, .inl (cI, 80, .inl (fun _ => 0))), (r 1, .inl (cI, 80, .inl (fun _ => 0))), (q502, .inl (cZ, 2, .inl (fun _ => 0)))] H _ := hW
  refine va_putF (D := D) (ci := 5) (v := .ref q502) (ty := .array .boolean) (C := RX5) (T := TX5) (N := 3) hx hb hta inA5 tyX5 tyX5_ok nmX5 hown hK hW.1 hW.2.1 hW.2.2 0 rfl rfl 2 (by decide) (hta _ kw_158) (fun _ h9 => h9) rfl hin rfl (by decide +kernel) rfl rfl (Nat.le_of_ble_eq_true rfl) dX5_init_27 (fun H locs hP hD hS => ?_)
  have hW : wl D A s [(h0, .inr (5, [.ref q500, .ref q501, .ref q502])), (q500, .inl (cI, 80, .inl (fun _ => 0))), (q501, .inl (cA, 2, .inr (.inr (.inr (.inr (fun j => some (if j = 0 then r 0 else r 1))))))), (r 0, .inl (cI, 80, .inl (fun _ => 0))), (r 1, .inl (cI, 80, .inl (fun _ => 0))), (q502, .inl (cZ, 2, .inl (fun _ => 0)))] H locs := ⟨hP, hD, hS⟩
  refine lv_iconst (v := (0 : Int32)) hx hb dX5_init_30 (by decide) ?_
  refine lv_istore_n (lv' := [(1, .int (0 : Int32)), (0, .ref h0)]) hx hb dX5_init_31 rfl hl (by decide) rfl (fun ls hl => ?_)
  have hW : wl D A s [(h0, .inr (5, [.ref q500, .ref q501, .ref q502])), (q500, .inl (cI, 80, .inl (hsF 0))), (q501, .inl (cA, 2, .inr (.inr (.inr (.inr (fun j => some (if j = 0 then r 0 else r 1))))))), (r 0, .inl (cI, 80, .inl (fun _ => 0))), (r 1, .inl (cI, 80, .inl (fun _ => 0))), (q502, .inl (cZ, 2, .inl (fun _ => 0)))] H locs := hW
  refine lv_iload_n hx hb dX5_init_32 rfl (lv_at hl 0 rfl) ?_
  refine lv_bipush (v := (16 : Int32)) hx hb dX5_init_33 (by decide) ?_
  refine lv_icmp_ge (tgt := 79) hx hb dX5_init_35 (by decide) (fun cc => absurd cc (by decide)) (fun cc => ?_)
  refine lv_aload_n hx hb dX5_init_38 rfl (lv_at hl 1 rfl) ?_
  refine va_get (D := D) (ci := 5) (v := .ref q500) (C := RX5) (T := TX5) (N := 3) hx hb hta inA5 hown hK hW.1 0 rfl rfl 0 (by decide) (hta _ kw_156) (fun _ h9 => h9) rfl dX5_init_39 ?_
  refine lv_iload_n hx hb dX5_init_42 rfl (lv_at hl 0 rfl) ?_
  refine lv_iconst (v := (5 : Int32)) hx hb dX5_init_43 (by decide) ?_
  refine lv_imul hx hb dX5_init_44 ?_
  refine lv_iconst (v := (0 : Int32)) hx hb dX5_init_45 (by decide) ?_
  refine lv_iadd hx hb dX5_init_46 ?_
  refine lv_topi (fun y ey => ?_)
  obtain rfl : y = (0 : Int32) := by rw [ey]; decide
  refine lv_iconst (v := (1 : Int32)) hx hb dX5_init_47 (by decide) ?_
  refine va_iast hx hb hK hW.1 hW.2.1 hW.2.2 1 0 rfl rfl (by unfold vp_in; decide) dX5_init_48 (fun H locs hP hD hS => ?_)
  have hW : wl D A s [(h0, .inr (5, [.ref q500, .ref q501, .ref q502])), (q500, .inl (cI, 80, .inl (upd (hsF 0) 0 1))), (q501, .inl (cA, 2, .inr (.inr (.inr (.inr (fun j => some (if j = 0 then r 0 else r 1))))))), (r 0, .inl (cI, 80, .inl (fun _ => 0))), (r 1, .inl (cI, 80, .inl (fun _ => 0))), (q502, .inl (cZ, 2, .inl (fun _ => 0)))] H locs := ⟨hP, hD, hS⟩
  refine lv_aload_n hx hb dX5_init_49 rfl (lv_at hl 1 rfl) ?_
  refine va_get (D := D) (ci := 5) (v := .ref q500) (C := RX5) (T := TX5) (N := 3) hx hb hta inA5 hown hK hW.1 0 rfl rfl 0 (by decide) (hta _ kw_156) (fun _ h9 => h9) rfl dX5_init_50 ?_
  refine lv_iload_n hx hb dX5_init_53 rfl (lv_at hl 0 rfl) ?_
  refine lv_iconst (v := (5 : Int32)) hx hb dX5_init_54 (by decide) ?_
  refine lv_imul hx hb dX5_init_55 ?_
  refine lv_iconst (v := (1 : Int32)) hx hb dX5_init_56 (by decide) ?_
  refine lv_iadd hx hb dX5_init_57 ?_
  refine lv_topi (fun y ey => ?_)
  obtain rfl : y = (1 : Int32) := by rw [ey]; decide
  refine lv_iconst (v := (1 : Int32)) hx hb dX5_init_58 (by decide) ?_
  refine va_iast hx hb hK hW.1 hW.2.1 hW.2.2 1 0 rfl rfl (by unfold vp_in; decide) dX5_init_59 (fun H locs hP hD hS => ?_)
  have hW : wl D A s [(h0, .inr (5, [.ref q500, .ref q501, .ref q502])), (q500, .inl (cI, 80, .inl (upd (upd (hsF 0) 0 1) 1 1))), (q501, .inl (cA, 2, .inr (.inr (.inr (.inr (fun j => some (if j = 0 then r 0 else r 1))))))), (r 0, .inl (cI, 80, .inl (fun _ => 0))), (r 1, .inl (cI, 80, .inl (fun _ => 0))), (q502, .inl (cZ, 2, .inl (fun _ => 0)))] H locs := ⟨hP, hD, hS⟩
  refine lv_aload_n hx hb dX5_init_60 rfl (lv_at hl 1 rfl) ?_
  refine va_get (D := D) (ci := 5) (v := .ref q500) (C := RX5) (T := TX5) (N := 3) hx hb hta inA5 hown hK hW.1 0 rfl rfl 0 (by decide) (hta _ kw_156) (fun _ h9 => h9) rfl dX5_init_61 ?_
  refine lv_iload_n hx hb dX5_init_64 rfl (lv_at hl 0 rfl) ?_
  refine lv_iconst (v := (5 : Int32)) hx hb dX5_init_65 (by decide) ?_
  refine lv_imul hx hb dX5_init_66 ?_
  refine lv_iconst (v := (2 : Int32)) hx hb dX5_init_67 (by decide) ?_
  refine lv_iadd hx hb dX5_init_68 ?_
  refine lv_topi (fun y ey => ?_)
  obtain rfl : y = (2 : Int32) := by rw [ey]; decide
  refine lv_sipush (v := (500 : Int32)) hx hb dX5_init_69 (by decide) ?_
  refine va_iast hx hb hK hW.1 hW.2.1 hW.2.2 1 0 rfl rfl (by unfold vp_in; decide) dX5_init_72 (fun H locs hP hD hS => ?_)
  have hW : wl D A s [(h0, .inr (5, [.ref q500, .ref q501, .ref q502])), (q500, .inl (cI, 80, .inl (upd (upd (upd (hsF 0) 0 1) 1 1) 2 500))), (q501, .inl (cA, 2, .inr (.inr (.inr (.inr (fun j => some (if j = 0 then r 0 else r 1))))))), (r 0, .inl (cI, 80, .inl (fun _ => 0))), (r 1, .inl (cI, 80, .inl (fun _ => 0))), (q502, .inl (cZ, 2, .inl (fun _ => 0)))] H locs := ⟨hP, hD, hS⟩
  have hW : wl D A s [(h0, .inr (5, [.ref q500, .ref q501, .ref q502])), (q500, .inl (cI, 80, .inl (hsF 1))), (q501, .inl (cA, 2, .inr (.inr (.inr (.inr (fun j => some (if j = 0 then r 0 else r 1))))))), (r 0, .inl (cI, 80, .inl (fun _ => 0))), (r 1, .inl (cI, 80, .inl (fun _ => 0))), (q502, .inl (cZ, 2, .inl (fun _ => 0)))] H locs := hW
  refine lv_iinc (v := (1 : Int32)) (lv' := [(1, .int (1 : Int32)), (0, .ref h0)]) hx hb dX5_init_73 hl (k := 0) rfl (by decide) (by decide) rfl (fun ls hl => ?_)
  refine lv_goto (tgt := 32) hx hb dX5_init_76 (by decide) ?_
  refine lv_iload_n hx hb dX5_init_32 rfl (lv_at hl 0 rfl) ?_
  refine lv_bipush (v := (16 : Int32)) hx hb dX5_init_33 (by decide) ?_
  refine lv_icmp_ge (tgt := 79) hx hb dX5_init_35 (by decide) (fun cc => absurd cc (by decide)) (fun cc => ?_)
  refine lv_aload_n hx hb dX5_init_38 rfl (lv_at hl 1 rfl) ?_
  refine va_get (D := D) (ci := 5) (v := .ref q500) (C := RX5) (T := TX5) (N := 3) hx hb hta inA5 hown hK hW.1 0 rfl rfl 0 (by decide) (hta _ kw_156) (fun _ h9 => h9) rfl dX5_init_39 ?_
  refine lv_iload_n hx hb dX5_init_42 rfl (lv_at hl 0 rfl) ?_
  refine lv_iconst (v := (5 : Int32)) hx hb dX5_init_43 (by decide) ?_
  refine lv_imul hx hb dX5_init_44 ?_
  refine lv_iconst (v := (0 : Int32)) hx hb dX5_init_45 (by decide) ?_
  refine lv_iadd hx hb dX5_init_46 ?_
  refine lv_topi (fun y ey => ?_)
  obtain rfl : y = (5 : Int32) := by rw [ey]; decide
  refine lv_iconst (v := (1 : Int32)) hx hb dX5_init_47 (by decide) ?_
  refine va_iast hx hb hK hW.1 hW.2.1 hW.2.2 1 0 rfl rfl (by unfold vp_in; decide) dX5_init_48 (fun H locs hP hD hS => ?_)
  have hW : wl D A s [(h0, .inr (5, [.ref q500, .ref q501, .ref q502])), (q500, .inl (cI, 80, .inl (upd (hsF 1) 5 1))), (q501, .inl (cA, 2, .inr (.inr (.inr (.inr (fun j => some (if j = 0 then r 0 else r 1))))))), (r 0, .inl (cI, 80, .inl (fun _ => 0))), (r 1, .inl (cI, 80, .inl (fun _ => 0))), (q502, .inl (cZ, 2, .inl (fun _ => 0)))] H locs := ⟨hP, hD, hS⟩
  refine lv_aload_n hx hb dX5_init_49 rfl (lv_at hl 1 rfl) ?_
  refine va_get (D := D) (ci := 5) (v := .ref q500) (C := RX5) (T := TX5) (N := 3) hx hb hta inA5 hown hK hW.1 0 rfl rfl 0 (by decide) (hta _ kw_156) (fun _ h9 => h9) rfl dX5_init_50 ?_
  refine lv_iload_n hx hb dX5_init_53 rfl (lv_at hl 0 rfl) ?_
  refine lv_iconst (v := (5 : Int32)) hx hb dX5_init_54 (by decide) ?_
  refine lv_imul hx hb dX5_init_55 ?_
  refine lv_iconst (v := (1 : Int32)) hx hb dX5_init_56 (by decide) ?_
  refine lv_iadd hx hb dX5_init_57 ?_
  refine lv_topi (fun y ey => ?_)
  obtain rfl : y = (6 : Int32) := by rw [ey]; decide
  refine lv_iconst (v := (1 : Int32)) hx hb dX5_init_58 (by decide) ?_
  refine va_iast hx hb hK hW.1 hW.2.1 hW.2.2 1 0 rfl rfl (by unfold vp_in; decide) dX5_init_59 (fun H locs hP hD hS => ?_)
  have hW : wl D A s [(h0, .inr (5, [.ref q500, .ref q501, .ref q502])), (q500, .inl (cI, 80, .inl (upd (upd (hsF 1) 5 1) 6 1))), (q501, .inl (cA, 2, .inr (.inr (.inr (.inr (fun j => some (if j = 0 then r 0 else r 1))))))), (r 0, .inl (cI, 80, .inl (fun _ => 0))), (r 1, .inl (cI, 80, .inl (fun _ => 0))), (q502, .inl (cZ, 2, .inl (fun _ => 0)))] H locs := ⟨hP, hD, hS⟩
  refine lv_aload_n hx hb dX5_init_60 rfl (lv_at hl 1 rfl) ?_
  refine va_get (D := D) (ci := 5) (v := .ref q500) (C := RX5) (T := TX5) (N := 3) hx hb hta inA5 hown hK hW.1 0 rfl rfl 0 (by decide) (hta _ kw_156) (fun _ h9 => h9) rfl dX5_init_61 ?_
  refine lv_iload_n hx hb dX5_init_64 rfl (lv_at hl 0 rfl) ?_
  refine lv_iconst (v := (5 : Int32)) hx hb dX5_init_65 (by decide) ?_
  refine lv_imul hx hb dX5_init_66 ?_
  refine lv_iconst (v := (2 : Int32)) hx hb dX5_init_67 (by decide) ?_
  refine lv_iadd hx hb dX5_init_68 ?_
  refine lv_topi (fun y ey => ?_)
  obtain rfl : y = (7 : Int32) := by rw [ey]; decide
  refine lv_sipush (v := (500 : Int32)) hx hb dX5_init_69 (by decide) ?_
  refine va_iast hx hb hK hW.1 hW.2.1 hW.2.2 1 0 rfl rfl (by unfold vp_in; decide) dX5_init_72 (fun H locs hP hD hS => ?_)
  have hW : wl D A s [(h0, .inr (5, [.ref q500, .ref q501, .ref q502])), (q500, .inl (cI, 80, .inl (upd (upd (upd (hsF 1) 5 1) 6 1) 7 500))), (q501, .inl (cA, 2, .inr (.inr (.inr (.inr (fun j => some (if j = 0 then r 0 else r 1))))))), (r 0, .inl (cI, 80, .inl (fun _ => 0))), (r 1, .inl (cI, 80, .inl (fun _ => 0))), (q502, .inl (cZ, 2, .inl (fun _ => 0)))] H locs := ⟨hP, hD, hS⟩
  have hW : wl D A s [(h0, .inr (5, [.ref q500, .ref q501, .ref q502])), (q500, .inl (cI, 80, .inl (hsF 2))), (q501, .inl (cA, 2, .inr (.inr (.inr (.inr (fun j => some (if j = 0 then r 0 else r 1))))))), (r 0, .inl (cI, 80, .inl (fun _ => 0))), (r 1, .inl (cI, 80, .inl (fun _ => 0))), (q502, .inl (cZ, 2, .inl (fun _ => 0)))] H locs := hW
  refine lv_iinc (v := (2 : Int32)) (lv' := [(1, .int (2 : Int32)), (0, .ref h0)]) hx hb dX5_init_73 hl (k := 0) rfl (by decide) (by decide) rfl (fun ls hl => ?_)
  refine lv_goto (tgt := 32) hx hb dX5_init_76 (by decide) ?_
  refine lv_iload_n hx hb dX5_init_32 rfl (lv_at hl 0 rfl) ?_
  refine lv_bipush (v := (16 : Int32)) hx hb dX5_init_33 (by decide) ?_
  refine lv_icmp_ge (tgt := 79) hx hb dX5_init_35 (by decide) (fun cc => absurd cc (by decide)) (fun cc => ?_)
  refine lv_aload_n hx hb dX5_init_38 rfl (lv_at hl 1 rfl) ?_
  refine va_get (D := D) (ci := 5) (v := .ref q500) (C := RX5) (T := TX5) (N := 3) hx hb hta inA5 hown hK hW.1 0 rfl rfl 0 (by decide) (hta _ kw_156) (fun _ h9 => h9) rfl dX5_init_39 ?_
  refine lv_iload_n hx hb dX5_init_42 rfl (lv_at hl 0 rfl) ?_
  refine lv_iconst (v := (5 : Int32)) hx hb dX5_init_43 (by decide) ?_
  refine lv_imul hx hb dX5_init_44 ?_
  refine lv_iconst (v := (0 : Int32)) hx hb dX5_init_45 (by decide) ?_
  refine lv_iadd hx hb dX5_init_46 ?_
  refine lv_topi (fun y ey => ?_)
  obtain rfl : y = (10 : Int32) := by rw [ey]; decide
  refine lv_iconst (v := (1 : Int32)) hx hb dX5_init_47 (by decide) ?_
  refine va_iast hx hb hK hW.1 hW.2.1 hW.2.2 1 0 rfl rfl (by unfold vp_in; decide) dX5_init_48 (fun H locs hP hD hS => ?_)
  have hW : wl D A s [(h0, .inr (5, [.ref q500, .ref q501, .ref q502])), (q500, .inl (cI, 80, .inl (upd (hsF 2) 10 1))), (q501, .inl (cA, 2, .inr (.inr (.inr (.inr (fun j => some (if j = 0 then r 0 else r 1))))))), (r 0, .inl (cI, 80, .inl (fun _ => 0))), (r 1, .inl (cI, 80, .inl (fun _ => 0))), (q502, .inl (cZ, 2, .inl (fun _ => 0)))] H locs := ⟨hP, hD, hS⟩
  refine lv_aload_n hx hb dX5_init_49 rfl (lv_at hl 1 rfl) ?_
  refine va_get (D := D) (ci := 5) (v := .ref q500) (C := RX5) (T := TX5) (N := 3) hx hb hta inA5 hown hK hW.1 0 rfl rfl 0 (by decide) (hta _ kw_156) (fun _ h9 => h9) rfl dX5_init_50 ?_
  refine lv_iload_n hx hb dX5_init_53 rfl (lv_at hl 0 rfl) ?_
  refine lv_iconst (v := (5 : Int32)) hx hb dX5_init_54 (by decide) ?_
  refine lv_imul hx hb dX5_init_55 ?_
  refine lv_iconst (v := (1 : Int32)) hx hb dX5_init_56 (by decide) ?_
  refine lv_iadd hx hb dX5_init_57 ?_
  refine lv_topi (fun y ey => ?_)
  obtain rfl : y = (11 : Int32) := by rw [ey]; decide
  refine lv_iconst (v := (1 : Int32)) hx hb dX5_init_58 (by decide) ?_
  refine va_iast hx hb hK hW.1 hW.2.1 hW.2.2 1 0 rfl rfl (by unfold vp_in; decide) dX5_init_59 (fun H locs hP hD hS => ?_)
  have hW : wl D A s [(h0, .inr (5, [.ref q500, .ref q501, .ref q502])), (q500, .inl (cI, 80, .inl (upd (upd (hsF 2) 10 1) 11 1))), (q501, .inl (cA, 2, .inr (.inr (.inr (.inr (fun j => some (if j = 0 then r 0 else r 1))))))), (r 0, .inl (cI, 80, .inl (fun _ => 0))), (r 1, .inl (cI, 80, .inl (fun _ => 0))), (q502, .inl (cZ, 2, .inl (fun _ => 0)))] H locs := ⟨hP, hD, hS⟩
  refine lv_aload_n hx hb dX5_init_60 rfl (lv_at hl 1 rfl) ?_
  refine va_get (D := D) (ci := 5) (v := .ref q500) (C := RX5) (T := TX5) (N := 3) hx hb hta inA5 hown hK hW.1 0 rfl rfl 0 (by decide) (hta _ kw_156) (fun _ h9 => h9) rfl dX5_init_61 ?_
  refine lv_iload_n hx hb dX5_init_64 rfl (lv_at hl 0 rfl) ?_
  refine lv_iconst (v := (5 : Int32)) hx hb dX5_init_65 (by decide) ?_
  refine lv_imul hx hb dX5_init_66 ?_
  refine lv_iconst (v := (2 : Int32)) hx hb dX5_init_67 (by decide) ?_
  refine lv_iadd hx hb dX5_init_68 ?_
  refine lv_topi (fun y ey => ?_)
  obtain rfl : y = (12 : Int32) := by rw [ey]; decide
  refine lv_sipush (v := (500 : Int32)) hx hb dX5_init_69 (by decide) ?_
  refine va_iast hx hb hK hW.1 hW.2.1 hW.2.2 1 0 rfl rfl (by unfold vp_in; decide) dX5_init_72 (fun H locs hP hD hS => ?_)
  have hW : wl D A s [(h0, .inr (5, [.ref q500, .ref q501, .ref q502])), (q500, .inl (cI, 80, .inl (upd (upd (upd (hsF 2) 10 1) 11 1) 12 500))), (q501, .inl (cA, 2, .inr (.inr (.inr (.inr (fun j => some (if j = 0 then r 0 else r 1))))))), (r 0, .inl (cI, 80, .inl (fun _ => 0))), (r 1, .inl (cI, 80, .inl (fun _ => 0))), (q502, .inl (cZ, 2, .inl (fun _ => 0)))] H locs := ⟨hP, hD, hS⟩
  have hW : wl D A s [(h0, .inr (5, [.ref q500, .ref q501, .ref q502])), (q500, .inl (cI, 80, .inl (hsF 3))), (q501, .inl (cA, 2, .inr (.inr (.inr (.inr (fun j => some (if j = 0 then r 0 else r 1))))))), (r 0, .inl (cI, 80, .inl (fun _ => 0))), (r 1, .inl (cI, 80, .inl (fun _ => 0))), (q502, .inl (cZ, 2, .inl (fun _ => 0)))] H locs := hW
  refine lv_iinc (v := (3 : Int32)) (lv' := [(1, .int (3 : Int32)), (0, .ref h0)]) hx hb dX5_init_73 hl (k := 0) rfl (by decide) (by decide) rfl (fun ls hl => ?_)
  refine lv_goto (tgt := 32) hx hb dX5_init_76 (by decide) ?_
  refine lv_iload_n hx hb dX5_init_32 rfl (lv_at hl 0 rfl) ?_
  refine lv_bipush (v := (16 : Int32)) hx hb dX5_init_33 (by decide) ?_
  refine lv_icmp_ge (tgt := 79) hx hb dX5_init_35 (by decide) (fun cc => absurd cc (by decide)) (fun cc => ?_)
  refine lv_aload_n hx hb dX5_init_38 rfl (lv_at hl 1 rfl) ?_
  refine va_get (D := D) (ci := 5) (v := .ref q500) (C := RX5) (T := TX5) (N := 3) hx hb hta inA5 hown hK hW.1 0 rfl rfl 0 (by decide) (hta _ kw_156) (fun _ h9 => h9) rfl dX5_init_39 ?_
  refine lv_iload_n hx hb dX5_init_42 rfl (lv_at hl 0 rfl) ?_
  refine lv_iconst (v := (5 : Int32)) hx hb dX5_init_43 (by decide) ?_
  refine lv_imul hx hb dX5_init_44 ?_
  refine lv_iconst (v := (0 : Int32)) hx hb dX5_init_45 (by decide) ?_
  refine lv_iadd hx hb dX5_init_46 ?_
  refine lv_topi (fun y ey => ?_)
  obtain rfl : y = (15 : Int32) := by rw [ey]; decide
  refine lv_iconst (v := (1 : Int32)) hx hb dX5_init_47 (by decide) ?_
  refine va_iast hx hb hK hW.1 hW.2.1 hW.2.2 1 0 rfl rfl (by unfold vp_in; decide) dX5_init_48 (fun H locs hP hD hS => ?_)
  have hW : wl D A s [(h0, .inr (5, [.ref q500, .ref q501, .ref q502])), (q500, .inl (cI, 80, .inl (upd (hsF 3) 15 1))), (q501, .inl (cA, 2, .inr (.inr (.inr (.inr (fun j => some (if j = 0 then r 0 else r 1))))))), (r 0, .inl (cI, 80, .inl (fun _ => 0))), (r 1, .inl (cI, 80, .inl (fun _ => 0))), (q502, .inl (cZ, 2, .inl (fun _ => 0)))] H locs := ⟨hP, hD, hS⟩
  refine lv_aload_n hx hb dX5_init_49 rfl (lv_at hl 1 rfl) ?_
  refine va_get (D := D) (ci := 5) (v := .ref q500) (C := RX5) (T := TX5) (N := 3) hx hb hta inA5 hown hK hW.1 0 rfl rfl 0 (by decide) (hta _ kw_156) (fun _ h9 => h9) rfl dX5_init_50 ?_
  refine lv_iload_n hx hb dX5_init_53 rfl (lv_at hl 0 rfl) ?_
  refine lv_iconst (v := (5 : Int32)) hx hb dX5_init_54 (by decide) ?_
  refine lv_imul hx hb dX5_init_55 ?_
  refine lv_iconst (v := (1 : Int32)) hx hb dX5_init_56 (by decide) ?_
  refine lv_iadd hx hb dX5_init_57 ?_
  refine lv_topi (fun y ey => ?_)
  obtain rfl : y = (16 : Int32) := by rw [ey]; decide
  refine lv_iconst (v := (1 : Int32)) hx hb dX5_init_58 (by decide) ?_
  refine va_iast hx hb hK hW.1 hW.2.1 hW.2.2 1 0 rfl rfl (by unfold vp_in; decide) dX5_init_59 (fun H locs hP hD hS => ?_)
  have hW : wl D A s [(h0, .inr (5, [.ref q500, .ref q501, .ref q502])), (q500, .inl (cI, 80, .inl (upd (upd (hsF 3) 15 1) 16 1))), (q501, .inl (cA, 2, .inr (.inr (.inr (.inr (fun j => some (if j = 0 then r 0 else r 1))))))), (r 0, .inl (cI, 80, .inl (fun _ => 0))), (r 1, .inl (cI, 80, .inl (fun _ => 0))), (q502, .inl (cZ, 2, .inl (fun _ => 0)))] H locs := ⟨hP, hD, hS⟩
  refine lv_aload_n hx hb dX5_init_60 rfl (lv_at hl 1 rfl) ?_
  refine va_get (D := D) (ci := 5) (v := .ref q500) (C := RX5) (T := TX5) (N := 3) hx hb hta inA5 hown hK hW.1 0 rfl rfl 0 (by decide) (hta _ kw_156) (fun _ h9 => h9) rfl dX5_init_61 ?_
  refine lv_iload_n hx hb dX5_init_64 rfl (lv_at hl 0 rfl) ?_
  refine lv_iconst (v := (5 : Int32)) hx hb dX5_init_65 (by decide) ?_
  refine lv_imul hx hb dX5_init_66 ?_
  refine lv_iconst (v := (2 : Int32)) hx hb dX5_init_67 (by decide) ?_
  refine lv_iadd hx hb dX5_init_68 ?_
  refine lv_topi (fun y ey => ?_)
  obtain rfl : y = (17 : Int32) := by rw [ey]; decide
  refine lv_sipush (v := (500 : Int32)) hx hb dX5_init_69 (by decide) ?_
  refine va_iast hx hb hK hW.1 hW.2.1 hW.2.2 1 0 rfl rfl (by unfold vp_in; decide) dX5_init_72 (fun H locs hP hD hS => ?_)
  have hW : wl D A s [(h0, .inr (5, [.ref q500, .ref q501, .ref q502])), (q500, .inl (cI, 80, .inl (upd (upd (upd (hsF 3) 15 1) 16 1) 17 500))), (q501, .inl (cA, 2, .inr (.inr (.inr (.inr (fun j => some (if j = 0 then r 0 else r 1))))))), (r 0, .inl (cI, 80, .inl (fun _ => 0))), (r 1, .inl (cI, 80, .inl (fun _ => 0))), (q502, .inl (cZ, 2, .inl (fun _ => 0)))] H locs := ⟨hP, hD, hS⟩
  have hW : wl D A s [(h0, .inr (5, [.ref q500, .ref q501, .ref q502])), (q500, .inl (cI, 80, .inl (hsF 4))), (q501, .inl (cA, 2, .inr (.inr (.inr (.inr (fun j => some (if j = 0 then r 0 else r 1))))))), (r 0, .inl (cI, 80, .inl (fun _ => 0))), (r 1, .inl (cI, 80, .inl (fun _ => 0))), (q502, .inl (cZ, 2, .inl (fun _ => 0)))] H locs := hW
  refine lv_iinc (v := (4 : Int32)) (lv' := [(1, .int (4 : Int32)), (0, .ref h0)]) hx hb dX5_init_73 hl (k := 0) rfl (by decide) (by decide) rfl (fun ls hl => ?_)
  refine lv_goto (tgt := 32) hx hb dX5_init_76 (by decide) ?_
  refine lv_iload_n hx hb dX5_init_32 rfl (lv_at hl 0 rfl) ?_
  refine lv_bipush (v := (16 : Int32)) hx hb dX5_init_33 (by decide) ?_
  refine lv_icmp_ge (tgt := 79) hx hb dX5_init_35 (by decide) (fun cc => absurd cc (by decide)) (fun cc => ?_)
  refine lv_aload_n hx hb dX5_init_38 rfl (lv_at hl 1 rfl) ?_
  refine va_get (D := D) (ci := 5) (v := .ref q500) (C := RX5) (T := TX5) (N := 3) hx hb hta inA5 hown hK hW.1 0 rfl rfl 0 (by decide) (hta _ kw_156) (fun _ h9 => h9) rfl dX5_init_39 ?_
  refine lv_iload_n hx hb dX5_init_42 rfl (lv_at hl 0 rfl) ?_
  refine lv_iconst (v := (5 : Int32)) hx hb dX5_init_43 (by decide) ?_
  refine lv_imul hx hb dX5_init_44 ?_
  refine lv_iconst (v := (0 : Int32)) hx hb dX5_init_45 (by decide) ?_
  refine lv_iadd hx hb dX5_init_46 ?_
  refine lv_topi (fun y ey => ?_)
  obtain rfl : y = (20 : Int32) := by rw [ey]; decide
  refine lv_iconst (v := (1 : Int32)) hx hb dX5_init_47 (by decide) ?_
  refine va_iast hx hb hK hW.1 hW.2.1 hW.2.2 1 0 rfl rfl (by unfold vp_in; decide) dX5_init_48 (fun H locs hP hD hS => ?_)
  have hW : wl D A s [(h0, .inr (5, [.ref q500, .ref q501, .ref q502])), (q500, .inl (cI, 80, .inl (upd (hsF 4) 20 1))), (q501, .inl (cA, 2, .inr (.inr (.inr (.inr (fun j => some (if j = 0 then r 0 else r 1))))))), (r 0, .inl (cI, 80, .inl (fun _ => 0))), (r 1, .inl (cI, 80, .inl (fun _ => 0))), (q502, .inl (cZ, 2, .inl (fun _ => 0)))] H locs := ⟨hP, hD, hS⟩
  refine lv_aload_n hx hb dX5_init_49 rfl (lv_at hl 1 rfl) ?_
  refine va_get (D := D) (ci := 5) (v := .ref q500) (C := RX5) (T := TX5) (N := 3) hx hb hta inA5 hown hK hW.1 0 rfl rfl 0 (by decide) (hta _ kw_156) (fun _ h9 => h9) rfl dX5_init_50 ?_
  refine lv_iload_n hx hb dX5_init_53 rfl (lv_at hl 0 rfl) ?_
  refine lv_iconst (v := (5 : Int32)) hx hb dX5_init_54 (by decide) ?_
  refine lv_imul hx hb dX5_init_55 ?_
  refine lv_iconst (v := (1 : Int32)) hx hb dX5_init_56 (by decide) ?_
  refine lv_iadd hx hb dX5_init_57 ?_
  refine lv_topi (fun y ey => ?_)
  obtain rfl : y = (21 : Int32) := by rw [ey]; decide
  refine lv_iconst (v := (1 : Int32)) hx hb dX5_init_58 (by decide) ?_
  refine va_iast hx hb hK hW.1 hW.2.1 hW.2.2 1 0 rfl rfl (by unfold vp_in; decide) dX5_init_59 (fun H locs hP hD hS => ?_)
  have hW : wl D A s [(h0, .inr (5, [.ref q500, .ref q501, .ref q502])), (q500, .inl (cI, 80, .inl (upd (upd (hsF 4) 20 1) 21 1))), (q501, .inl (cA, 2, .inr (.inr (.inr (.inr (fun j => some (if j = 0 then r 0 else r 1))))))), (r 0, .inl (cI, 80, .inl (fun _ => 0))), (r 1, .inl (cI, 80, .inl (fun _ => 0))), (q502, .inl (cZ, 2, .inl (fun _ => 0)))] H locs := ⟨hP, hD, hS⟩
  refine lv_aload_n hx hb dX5_init_60 rfl (lv_at hl 1 rfl) ?_
  refine va_get (D := D) (ci := 5) (v := .ref q500) (C := RX5) (T := TX5) (N := 3) hx hb hta inA5 hown hK hW.1 0 rfl rfl 0 (by decide) (hta _ kw_156) (fun _ h9 => h9) rfl dX5_init_61 ?_
  refine lv_iload_n hx hb dX5_init_64 rfl (lv_at hl 0 rfl) ?_
  refine lv_iconst (v := (5 : Int32)) hx hb dX5_init_65 (by decide) ?_
  refine lv_imul hx hb dX5_init_66 ?_
  refine lv_iconst (v := (2 : Int32)) hx hb dX5_init_67 (by decide) ?_
  refine lv_iadd hx hb dX5_init_68 ?_
  refine lv_topi (fun y ey => ?_)
  obtain rfl : y = (22 : Int32) := by rw [ey]; decide
  refine lv_sipush (v := (500 : Int32)) hx hb dX5_init_69 (by decide) ?_
  refine va_iast hx hb hK hW.1 hW.2.1 hW.2.2 1 0 rfl rfl (by unfold vp_in; decide) dX5_init_72 (fun H locs hP hD hS => ?_)
  have hW : wl D A s [(h0, .inr (5, [.ref q500, .ref q501, .ref q502])), (q500, .inl (cI, 80, .inl (upd (upd (upd (hsF 4) 20 1) 21 1) 22 500))), (q501, .inl (cA, 2, .inr (.inr (.inr (.inr (fun j => some (if j = 0 then r 0 else r 1))))))), (r 0, .inl (cI, 80, .inl (fun _ => 0))), (r 1, .inl (cI, 80, .inl (fun _ => 0))), (q502, .inl (cZ, 2, .inl (fun _ => 0)))] H locs := ⟨hP, hD, hS⟩
  have hW : wl D A s [(h0, .inr (5, [.ref q500, .ref q501, .ref q502])), (q500, .inl (cI, 80, .inl (hsF 5))), (q501, .inl (cA, 2, .inr (.inr (.inr (.inr (fun j => some (if j = 0 then r 0 else r 1))))))), (r 0, .inl (cI, 80, .inl (fun _ => 0))), (r 1, .inl (cI, 80, .inl (fun _ => 0))), (q502, .inl (cZ, 2, .inl (fun _ => 0)))] H locs := hW
  refine lv_iinc (v := (5 : Int32)) (lv' := [(1, .int (5 : Int32)), (0, .ref h0)]) hx hb dX5_init_73 hl (k := 0) rfl (by decide) (by decide) rfl (fun ls hl => ?_)
  refine lv_goto (tgt := 32) hx hb dX5_init_76 (by decide) ?_
  refine lv_iload_n hx hb dX5_init_32 rfl (lv_at hl 0 rfl) ?_
  refine lv_bipush (v := (16 : Int32)) hx hb dX5_init_33 (by decide) ?_
  refine lv_icmp_ge (tgt := 79) hx hb dX5_init_35 (by decide) (fun cc => absurd cc (by decide)) (fun cc => ?_)
  refine lv_aload_n hx hb dX5_init_38 rfl (lv_at hl 1 rfl) ?_
  refine va_get (D := D) (ci := 5) (v := .ref q500) (C := RX5) (T := TX5) (N := 3) hx hb hta inA5 hown hK hW.1 0 rfl rfl 0 (by decide) (hta _ kw_156) (fun _ h9 => h9) rfl dX5_init_39 ?_
  refine lv_iload_n hx hb dX5_init_42 rfl (lv_at hl 0 rfl) ?_
  refine lv_iconst (v := (5 : Int32)) hx hb dX5_init_43 (by decide) ?_
  refine lv_imul hx hb dX5_init_44 ?_
  refine lv_iconst (v := (0 : Int32)) hx hb dX5_init_45 (by decide) ?_
  refine lv_iadd hx hb dX5_init_46 ?_
  refine lv_topi (fun y ey => ?_)
  obtain rfl : y = (25 : Int32) := by rw [ey]; decide
  refine lv_iconst (v := (1 : Int32)) hx hb dX5_init_47 (by decide) ?_
  refine va_iast hx hb hK hW.1 hW.2.1 hW.2.2 1 0 rfl rfl (by unfold vp_in; decide) dX5_init_48 (fun H locs hP hD hS => ?_)
  have hW : wl D A s [(h0, .inr (5, [.ref q500, .ref q501, .ref q502])), (q500, .inl (cI, 80, .inl (upd (hsF 5) 25 1))), (q501, .inl (cA, 2, .inr (.inr (.inr (.inr (fun j => some (if j = 0 then r 0 else r 1))))))), (r 0, .inl (cI, 80, .inl (fun _ => 0))), (r 1, .inl (cI, 80, .inl (fun _ => 0))), (q502, .inl (cZ, 2, .inl (fun _ => 0)))] H locs := ⟨hP, hD, hS⟩
  refine lv_aload_n hx hb dX5_init_49 rfl (lv_at hl 1 rfl) ?_
  refine va_get (D := D) (ci := 5) (v := .ref q500) (C := RX5) (T := TX5) (N := 3) hx hb hta inA5 hown hK hW.1 0 rfl rfl 0 (by decide) (hta _ kw_156) (fun _ h9 => h9) rfl dX5_init_50 ?_
  refine lv_iload_n hx hb dX5_init_53 rfl (lv_at hl 0 rfl) ?_
  refine lv_iconst (v := (5 : Int32)) hx hb dX5_init_54 (by decide) ?_
  refine lv_imul hx hb dX5_init_55 ?_
  refine lv_iconst (v := (1 : Int32)) hx hb dX5_init_56 (by decide) ?_
  refine lv_iadd hx hb dX5_init_57 ?_
  refine lv_topi (fun y ey => ?_)
  obtain rfl : y = (26 : Int32) := by rw [ey]; decide
  refine lv_iconst (v := (1 : Int32)) hx hb dX5_init_58 (by decide) ?_
  refine va_iast hx hb hK hW.1 hW.2.1 hW.2.2 1 0 rfl rfl (by unfold vp_in; decide) dX5_init_59 (fun H locs hP hD hS => ?_)
  have hW : wl D A s [(h0, .inr (5, [.ref q500, .ref q501, .ref q502])), (q500, .inl (cI, 80, .inl (upd (upd (hsF 5) 25 1) 26 1))), (q501, .inl (cA, 2, .inr (.inr (.inr (.inr (fun j => some (if j = 0 then r 0 else r 1))))))), (r 0, .inl (cI, 80, .inl (fun _ => 0))), (r 1, .inl (cI, 80, .inl (fun _ => 0))), (q502, .inl (cZ, 2, .inl (fun _ => 0)))] H locs := ⟨hP, hD, hS⟩
  refine lv_aload_n hx hb dX5_init_60 rfl (lv_at hl 1 rfl) ?_
  refine va_get (D := D) (ci := 5) (v := .ref q500) (C := RX5) (T := TX5) (N := 3) hx hb hta inA5 hown hK hW.1 0 rfl rfl 0 (by decide) (hta _ kw_156) (fun _ h9 => h9) rfl dX5_init_61 ?_
  refine lv_iload_n hx hb dX5_init_64 rfl (lv_at hl 0 rfl) ?_
  refine lv_iconst (v := (5 : Int32)) hx hb dX5_init_65 (by decide) ?_
  refine lv_imul hx hb dX5_init_66 ?_
  refine lv_iconst (v := (2 : Int32)) hx hb dX5_init_67 (by decide) ?_
  refine lv_iadd hx hb dX5_init_68 ?_
  refine lv_topi (fun y ey => ?_)
  obtain rfl : y = (27 : Int32) := by rw [ey]; decide
  refine lv_sipush (v := (500 : Int32)) hx hb dX5_init_69 (by decide) ?_
  refine va_iast hx hb hK hW.1 hW.2.1 hW.2.2 1 0 rfl rfl (by unfold vp_in; decide) dX5_init_72 (fun H locs hP hD hS => ?_)
  have hW : wl D A s [(h0, .inr (5, [.ref q500, .ref q501, .ref q502])), (q500, .inl (cI, 80, .inl (upd (upd (upd (hsF 5) 25 1) 26 1) 27 500))), (q501, .inl (cA, 2, .inr (.inr (.inr (.inr (fun j => some (if j = 0 then r 0 else r 1))))))), (r 0, .inl (cI, 80, .inl (fun _ => 0))), (r 1, .inl (cI, 80, .inl (fun _ => 0))), (q502, .inl (cZ, 2, .inl (fun _ => 0)))] H locs := ⟨hP, hD, hS⟩
  have hW : wl D A s [(h0, .inr (5, [.ref q500, .ref q501, .ref q502])), (q500, .inl (cI, 80, .inl (hsF 6))), (q501, .inl (cA, 2, .inr (.inr (.inr (.inr (fun j => some (if j = 0 then r 0 else r 1))))))), (r 0, .inl (cI, 80, .inl (fun _ => 0))), (r 1, .inl (cI, 80, .inl (fun _ => 0))), (q502, .inl (cZ, 2, .inl (fun _ => 0)))] H locs := hW
  refine lv_iinc (v := (6 : Int32)) (lv' := [(1, .int (6 : Int32)), (0, .ref h0)]) hx hb dX5_init_73 hl (k := 0) rfl (by decide) (by decide) rfl (fun ls hl => ?_)
  refine lv_goto (tgt := 32) hx hb dX5_init_76 (by decide) ?_
  refine lv_iload_n hx hb dX5_init_32 rfl (lv_at hl 0 rfl) ?_
  refine lv_bipush (v := (16 : Int32)) hx hb dX5_init_33 (by decide) ?_
  refine lv_icmp_ge (tgt := 79) hx hb dX5_init_35 (by decide) (fun cc => absurd cc (by decide)) (fun cc => ?_)
  refine lv_aload_n hx hb dX5_init_38 rfl (lv_at hl 1 rfl) ?_
  refine va_get (D := D) (ci := 5) (v := .ref q500) (C := RX5) (T := TX5) (N := 3) hx hb hta inA5 hown hK hW.1 0 rfl rfl 0 (by decide) (hta _ kw_156) (fun _ h9 => h9) rfl dX5_init_39 ?_
  refine lv_iload_n hx hb dX5_init_42 rfl (lv_at hl 0 rfl) ?_
  refine lv_iconst (v := (5 : Int32)) hx hb dX5_init_43 (by decide) ?_
  refine lv_imul hx hb dX5_init_44 ?_
  refine lv_iconst (v := (0 : Int32)) hx hb dX5_init_45 (by decide) ?_
  refine lv_iadd hx hb dX5_init_46 ?_
  refine lv_topi (fun y ey => ?_)
  obtain rfl : y = (30 : Int32) := by rw [ey]; decide
  refine lv_iconst (v := (1 : Int32)) hx hb dX5_init_47 (by decide) ?_
  refine va_iast hx hb hK hW.1 hW.2.1 hW.2.2 1 0 rfl rfl (by unfold vp_in; decide) dX5_init_48 (fun H locs hP hD hS => ?_)
  have hW : wl D A s [(h0, .inr (5, [.ref q500, .ref q501, .ref q502])), (q500, .inl (cI, 80, .inl (upd (hsF 6) 30 1))), (q501, .inl (cA, 2, .inr (.inr (.inr (.inr (fun j => some (if j = 0 then r 0 else r 1))))))), (r 0, .inl (cI, 80, .inl (fun _ => 0))), (r 1, .inl (cI, 80, .inl (fun _ => 0))), (q502, .inl (cZ, 2, .inl (fun _ => 0)))] H locs := ⟨hP, hD, hS⟩
  refine lv_aload_n hx hb dX5_init_49 rfl (lv_at hl 1 rfl) ?_
  refine va_get (D := D) (ci := 5) (v := .ref q500) (C := RX5) (T := TX5) (N := 3) hx hb hta inA5 hown hK hW.1 0 rfl rfl 0 (by decide) (hta _ kw_156) (fun _ h9 => h9) rfl dX5_init_50 ?_
  refine lv_iload_n hx hb dX5_init_53 rfl (lv_at hl 0 rfl) ?_
  refine lv_iconst (v := (5 : Int32)) hx hb dX5_init_54 (by decide) ?_
  refine lv_imul hx hb dX5_init_55 ?_
  refine lv_iconst (v := (1 : Int32)) hx hb dX5_init_56 (by decide) ?_
  refine lv_iadd hx hb dX5_init_57 ?_
  refine lv_topi (fun y ey => ?_)
  obtain rfl : y = (31 : Int32) := by rw [ey]; decide
  refine lv_iconst (v := (1 : Int32)) hx hb dX5_init_58 (by decide) ?_
  refine va_iast hx hb hK hW.1 hW.2.1 hW.2.2 1 0 rfl rfl (by unfold vp_in; decide) dX5_init_59 (fun H locs hP hD hS => ?_)
  have hW : wl D A s [(h0, .inr (5, [.ref q500, .ref q501, .ref q502])), (q500, .inl (cI, 80, .inl (upd (upd (hsF 6) 30 1) 31 1))), (q501, .inl (cA, 2, .inr (.inr (.inr (.inr (fun j => some (if j = 0 then r 0 else r 1))))))), (r 0, .inl (cI, 80, .inl (fun _ => 0))), (r 1, .inl (cI, 80, .inl (fun _ => 0))), (q502, .inl (cZ, 2, .inl (fun _ => 0)))] H locs := ⟨hP, hD, hS⟩
  refine lv_aload_n hx hb dX5_init_60 rfl (lv_at hl 1 rfl) ?_
  refine va_get (D := D) (ci := 5) (v := .ref q500) (C := RX5) (T := TX5) (N := 3) hx hb hta inA5 hown hK hW.1 0 rfl rfl 0 (by decide) (hta _ kw_156) (fun _ h9 => h9) rfl dX5_init_61 ?_
  refine lv_iload_n hx hb dX5_init_64 rfl (lv_at hl 0 rfl) ?_
  refine lv_iconst (v := (5 : Int32)) hx hb dX5_init_65 (by decide) ?_
  refine lv_imul hx hb dX5_init_66 ?_
  refine lv_iconst (v := (2 : Int32)) hx hb dX5_init_67 (by decide) ?_
  refine lv_iadd hx hb dX5_init_68 ?_
  refine lv_topi (fun y ey => ?_)
  obtain rfl : y = (32 : Int32) := by rw [ey]; decide
  refine lv_sipush (v := (500 : Int32)) hx hb dX5_init_69 (by decide) ?_
  refine va_iast hx hb hK hW.1 hW.2.1 hW.2.2 1 0 rfl rfl (by unfold vp_in; decide) dX5_init_72 (fun H locs hP hD hS => ?_)
  have hW : wl D A s [(h0, .inr (5, [.ref q500, .ref q501, .ref q502])), (q500, .inl (cI, 80, .inl (upd (upd (upd (hsF 6) 30 1) 31 1) 32 500))), (q501, .inl (cA, 2, .inr (.inr (.inr (.inr (fun j => some (if j = 0 then r 0 else r 1))))))), (r 0, .inl (cI, 80, .inl (fun _ => 0))), (r 1, .inl (cI, 80, .inl (fun _ => 0))), (q502, .inl (cZ, 2, .inl (fun _ => 0)))] H locs := ⟨hP, hD, hS⟩
  have hW : wl D A s [(h0, .inr (5, [.ref q500, .ref q501, .ref q502])), (q500, .inl (cI, 80, .inl (hsF 7))), (q501, .inl (cA, 2, .inr (.inr (.inr (.inr (fun j => some (if j = 0 then r 0 else r 1))))))), (r 0, .inl (cI, 80, .inl (fun _ => 0))), (r 1, .inl (cI, 80, .inl (fun _ => 0))), (q502, .inl (cZ, 2, .inl (fun _ => 0)))] H locs := hW
  refine lv_iinc (v := (7 : Int32)) (lv' := [(1, .int (7 : Int32)), (0, .ref h0)]) hx hb dX5_init_73 hl (k := 0) rfl (by decide) (by decide) rfl (fun ls hl => ?_)
  refine lv_goto (tgt := 32) hx hb dX5_init_76 (by decide) ?_
  refine lv_iload_n hx hb dX5_init_32 rfl (lv_at hl 0 rfl) ?_
  refine lv_bipush (v := (16 : Int32)) hx hb dX5_init_33 (by decide) ?_
  refine lv_icmp_ge (tgt := 79) hx hb dX5_init_35 (by decide) (fun cc => absurd cc (by decide)) (fun cc => ?_)
  refine lv_aload_n hx hb dX5_init_38 rfl (lv_at hl 1 rfl) ?_
  refine va_get (D := D) (ci := 5) (v := .ref q500) (C := RX5) (T := TX5) (N := 3) hx hb hta inA5 hown hK hW.1 0 rfl rfl 0 (by decide) (hta _ kw_156) (fun _ h9 => h9) rfl dX5_init_39 ?_
  refine lv_iload_n hx hb dX5_init_42 rfl (lv_at hl 0 rfl) ?_
  refine lv_iconst (v := (5 : Int32)) hx hb dX5_init_43 (by decide) ?_
  refine lv_imul hx hb dX5_init_44 ?_
  refine lv_iconst (v := (0 : Int32)) hx hb dX5_init_45 (by decide) ?_
  refine lv_iadd hx hb dX5_init_46 ?_
  refine lv_topi (fun y ey => ?_)
  obtain rfl : y = (35 : Int32) := by rw [ey]; decide
  refine lv_iconst (v := (1 : Int32)) hx hb dX5_init_47 (by decide) ?_
  refine va_iast hx hb hK hW.1 hW.2.1 hW.2.2 1 0 rfl rfl (by unfold vp_in; decide) dX5_init_48 (fun H locs hP hD hS => ?_)
  have hW : wl D A s [(h0, .inr (5, [.ref q500, .ref q501, .ref q502])), (q500, .inl (cI, 80, .inl (upd (hsF 7) 35 1))), (q501, .inl (cA, 2, .inr (.inr (.inr (.inr (fun j => some (if j = 0 then r 0 else r 1))))))), (r 0, .inl (cI, 80, .inl (fun _ => 0))), (r 1, .inl (cI, 80, .inl (fun _ => 0))), (q502, .inl (cZ, 2, .inl (fun _ => 0)))] H locs := ⟨hP, hD, hS⟩
  refine lv_aload_n hx hb dX5_init_49 rfl (lv_at hl 1 rfl) ?_
  refine va_get (D := D) (ci := 5) (v := .ref q500) (C := RX5) (T := TX5) (N := 3) hx hb hta inA5 hown hK hW.1 0 rfl rfl 0 (by decide) (hta _ kw_156) (fun _ h9 => h9) rfl dX5_init_50 ?_
  refine lv_iload_n hx hb dX5_init_53 rfl (lv_at hl 0 rfl) ?_
  refine lv_iconst (v := (5 : Int32)) hx hb dX5_init_54 (by decide) ?_
  refine lv_imul hx hb dX5_init_55 ?_
  refine lv_iconst (v := (1 : Int32)) hx hb dX5_init_56 (by decide) ?_
  refine lv_iadd hx hb dX5_init_57 ?_
  refine lv_topi (fun y ey => ?_)
  obtain rfl : y = (36 : Int32) := by rw [ey]; decide
  refine lv_iconst (v := (1 : Int32)) hx hb dX5_init_58 (by decide) ?_
  refine va_iast hx hb hK hW.1 hW.2.1 hW.2.2 1 0 rfl rfl (by unfold vp_in; decide) dX5_init_59 (fun H locs hP hD hS => ?_)
  have hW : wl D A s [(h0, .inr (5, [.ref q500, .ref q501, .ref q502])), (q500, .inl (cI, 80, .inl (upd (upd (hsF 7) 35 1) 36 1))), (q501, .inl (cA, 2, .inr (.inr (.inr (.inr (fun j => some (if j = 0 then r 0 else r 1))))))), (r 0, .inl (cI, 80, .inl (fun _ => 0))), (r 1, .inl (cI, 80, .inl (fun _ => 0))), (q502, .inl (cZ, 2, .inl (fun _ => 0)))] H locs := ⟨hP, hD, hS⟩
  refine lv_aload_n hx hb dX5_init_60 rfl (lv_at hl 1 rfl) ?_
  refine va_get (D := D) (ci := 5) (v := .ref q500) (C := RX5) (T := TX5) (N := 3) hx hb hta inA5 hown hK hW.1 0 rfl rfl 0 (by decide) (hta _ kw_156) (fun _ h9 => h9) rfl dX5_init_61 ?_
  refine lv_iload_n hx hb dX5_init_64 rfl (lv_at hl 0 rfl) ?_
  refine lv_iconst (v := (5 : Int32)) hx hb dX5_init_65 (by decide) ?_
  refine lv_imul hx hb dX5_init_66 ?_
  refine lv_iconst (v := (2 : Int32)) hx hb dX5_init_67 (by decide) ?_
  refine lv_iadd hx hb dX5_init_68 ?_
  refine lv_topi (fun y ey => ?_)
  obtain rfl : y = (37 : Int32) := by rw [ey]; decide
  refine lv_sipush (v := (500 : Int32)) hx hb dX5_init_69 (by decide) ?_
  refine va_iast hx hb hK hW.1 hW.2.1 hW.2.2 1 0 rfl rfl (by unfold vp_in; decide) dX5_init_72 (fun H locs hP hD hS => ?_)
  have hW : wl D A s [(h0, .inr (5, [.ref q500, .ref q501, .ref q502])), (q500, .inl (cI, 80, .inl (upd (upd (upd (hsF 7) 35 1) 36 1) 37 500))), (q501, .inl (cA, 2, .inr (.inr (.inr (.inr (fun j => some (if j = 0 then r 0 else r 1))))))), (r 0, .inl (cI, 80, .inl (fun _ => 0))), (r 1, .inl (cI, 80, .inl (fun _ => 0))), (q502, .inl (cZ, 2, .inl (fun _ => 0)))] H locs := ⟨hP, hD, hS⟩
  have hW : wl D A s [(h0, .inr (5, [.ref q500, .ref q501, .ref q502])), (q500, .inl (cI, 80, .inl (hsF 8))), (q501, .inl (cA, 2, .inr (.inr (.inr (.inr (fun j => some (if j = 0 then r 0 else r 1))))))), (r 0, .inl (cI, 80, .inl (fun _ => 0))), (r 1, .inl (cI, 80, .inl (fun _ => 0))), (q502, .inl (cZ, 2, .inl (fun _ => 0)))] H locs := hW
  refine lv_iinc (v := (8 : Int32)) (lv' := [(1, .int (8 : Int32)), (0, .ref h0)]) hx hb dX5_init_73 hl (k := 0) rfl (by decide) (by decide) rfl (fun ls hl => ?_)
  refine lv_goto (tgt := 32) hx hb dX5_init_76 (by decide) ?_
  refine lv_iload_n hx hb dX5_init_32 rfl (lv_at hl 0 rfl) ?_
  refine lv_bipush (v := (16 : Int32)) hx hb dX5_init_33 (by decide) ?_
  refine lv_icmp_ge (tgt := 79) hx hb dX5_init_35 (by decide) (fun cc => absurd cc (by decide)) (fun cc => ?_)
  refine lv_aload_n hx hb dX5_init_38 rfl (lv_at hl 1 rfl) ?_
  refine va_get (D := D) (ci := 5) (v := .ref q500) (C := RX5) (T := TX5) (N := 3) hx hb hta inA5 hown hK hW.1 0 rfl rfl 0 (by decide) (hta _ kw_156) (fun _ h9 => h9) rfl dX5_init_39 ?_
  refine lv_iload_n hx hb dX5_init_42 rfl (lv_at hl 0 rfl) ?_
  refine lv_iconst (v := (5 : Int32)) hx hb dX5_init_43 (by decide) ?_
  refine lv_imul hx hb dX5_init_44 ?_
  refine lv_iconst (v := (0 : Int32)) hx hb dX5_init_45 (by decide) ?_
  refine lv_iadd hx hb dX5_init_46 ?_
  refine lv_topi (fun y ey => ?_)
  obtain rfl : y = (40 : Int32) := by rw [ey]; decide
  refine lv_iconst (v := (1 : Int32)) hx hb dX5_init_47 (by decide) ?_
  refine va_iast hx hb hK hW.1 hW.2.1 hW.2.2 1 0 rfl rfl (by unfold vp_in; decide) dX5_init_48 (fun H locs hP hD hS => ?_)
  have hW : wl D A s [(h0, .inr (5, [.ref q500, .ref q501, .ref q502])), (q500, .inl (cI, 80, .inl (upd (hsF 8) 40 1))), (q501, .inl (cA, 2, .inr (.inr (.inr (.inr (fun j => some (if j = 0 then r 0 else r 1))))))), (r 0, .inl (cI, 80, .inl (fun _ => 0))), (r 1, .inl (cI, 80, .inl (fun _ => 0))), (q502, .inl (cZ, 2, .inl (fun _ => 0)))] H locs := ⟨hP, hD, hS⟩
  refine lv_aload_n hx hb dX5_init_49 rfl (lv_at hl 1 rfl) ?_
  refine va_get (D := D) (ci := 5) (v := .ref q500) (C := RX5) (T := TX5) (N := 3) hx hb hta inA5 hown hK hW.1 0 rfl rfl 0 (by decide) (hta _ kw_156) (fun _ h9 => h9) rfl dX5_init_50 ?_
  refine lv_iload_n hx hb dX5_init_53 rfl (lv_at hl 0 rfl) ?_
  refine lv_iconst (v := (5 : Int32)) hx hb dX5_init_54 (by decide) ?_
  refine lv_imul hx hb dX5_init_55 ?_
  refine lv_iconst (v := (1 : Int32)) hx hb dX5_init_56 (by decide) ?_
  refine lv_iadd hx hb dX5_init_57 ?_
  refine lv_topi (fun y ey => ?_)
  obtain rfl : y = (41 : Int32) := by rw [ey]; decide
  refine lv_iconst (v := (1 : Int32)) hx hb dX5_init_58 (by decide) ?_
  refine va_iast hx hb hK hW.1 hW.2.1 hW.2.2 1 0 rfl rfl (by unfold vp_in; decide) dX5_init_59 (fun H locs hP hD hS => ?_)
  have hW : wl D A s [(h0, .inr (5, [.ref q500, .ref q501, .ref q502])), (q500, .inl (cI, 80, .inl (upd (upd (hsF 8) 40 1) 41 1))), (q501, .inl (cA, 2, .inr (.inr (.inr (.inr (fun j => some (if j = 0 then r 0 else r 1))))))), (r 0, .inl (cI, 80, .inl (fun _ => 0))), (r 1, .inl (cI, 80, .inl (fun _ => 0))), (q502, .inl (cZ, 2, .inl (fun _ => 0)))] H locs := ⟨hP, hD, hS⟩
  refine lv_aload_n hx hb dX5_init_60 rfl (lv_at hl 1 rfl) ?_
  refine va_get (D := D) (ci := 5) (v := .ref q500) (C := RX5) (T := TX5) (N := 3) hx hb hta inA5 hown hK hW.1 0 rfl rfl 0 (by decide) (hta _ kw_156) (fun _ h9 => h9) rfl dX5_init_61 ?_
  refine lv_iload_n hx hb dX5_init_64 rfl (lv_at hl 0 rfl) ?_
  refine lv_iconst (v := (5 : Int32)) hx hb dX5_init_65 (by decide) ?_
  refine lv_imul hx hb dX5_init_66 ?_
  refine lv_iconst (v := (2 : Int32)) hx hb dX5_init_67 (by decide) ?_
  refine lv_iadd hx hb dX5_init_68 ?_
  refine lv_topi (fun y ey => ?_)
  obtain rfl : y = (42 : Int32) := by rw [ey]; decide
  refine lv_sipush (v := (500 : Int32)) hx hb dX5_init_69 (by decide) ?_
  refine va_iast hx hb hK hW.1 hW.2.1 hW.2.2 1 0 rfl rfl (by unfold vp_in; decide) dX5_init_72 (fun H locs hP hD hS => ?_)
  have hW : wl D A s [(h0, .inr (5, [.ref q500, .ref q501, .ref q502])), (q500, .inl (cI, 80, .inl (upd (upd (upd (hsF 8) 40 1) 41 1) 42 500))), (q501, .inl (cA, 2, .inr (.inr (.inr (.inr (fun j => some (if j = 0 then r 0 else r 1))))))), (r 0, .inl (cI, 80, .inl (fun _ => 0))), (r 1, .inl (cI, 80, .inl (fun _ => 0))), (q502, .inl (cZ, 2, .inl (fun _ => 0)))] H locs := ⟨hP, hD, hS⟩
  have hW : wl D A s [(h0, .inr (5, [.ref q500, .ref q501, .ref q502])), (q500, .inl (cI, 80, .inl (hsF 9))), (q501, .inl (cA, 2, .inr (.inr (.inr (.inr (fun j => some (if j = 0 then r 0 else r 1))))))), (r 0, .inl (cI, 80, .inl (fun _ => 0))), (r 1, .inl (cI, 80, .inl (fun _ => 0))), (q502, .inl (cZ, 2, .inl (fun _ => 0)))] H locs := hW
  refine lv_iinc (v := (9 : Int32)) (lv' := [(1, .int (9 : Int32)), (0, .ref h0)]) hx hb dX5_init_73 hl (k := 0) rfl (by decide) (by decide) rfl (fun ls hl => ?_)
  refine lv_goto (tgt := 32) hx hb dX5_init_76 (by decide) ?_
  refine lv_iload_n hx hb dX5_init_32 rfl (lv_at hl 0 rfl) ?_
  refine lv_bipush (v := (16 : Int32)) hx hb dX5_init_33 (by decide) ?_
  refine lv_icmp_ge (tgt := 79) hx hb dX5_init_35 (by decide) (fun cc => absurd cc (by decide)) (fun cc => ?_)
  refine lv_aload_n hx hb dX5_init_38 rfl (lv_at hl 1 rfl) ?_
  refine va_get (D := D) (ci := 5) (v := .ref q500) (C := RX5) (T := TX5) (N := 3) hx hb hta inA5 hown hK hW.1 0 rfl rfl 0 (by decide) (hta _ kw_156) (fun _ h9 => h9) rfl dX5_init_39 ?_
  refine lv_iload_n hx hb dX5_init_42 rfl (lv_at hl 0 rfl) ?_
  refine lv_iconst (v := (5 : Int32)) hx hb dX5_init_43 (by decide) ?_
  refine lv_imul hx hb dX5_init_44 ?_
  refine lv_iconst (v := (0 : Int32)) hx hb dX5_init_45 (by decide) ?_
  refine lv_iadd hx hb dX5_init_46 ?_
  refine lv_topi (fun y ey => ?_)
  obtain rfl : y = (45 : Int32) := by rw [ey]; decide
  refine lv_iconst (v := (1 : Int32)) hx hb dX5_init_47 (by decide) ?_
  refine va_iast hx hb hK hW.1 hW.2.1 hW.2.2 1 0 rfl rfl (by unfold vp_in; decide) dX5_init_48 (fun H locs hP hD hS => ?_)
  have hW : wl D A s [(h0, .inr (5, [.ref q500, .ref q501, .ref q502])), (q500, .inl (cI, 80, .inl (upd (hsF 9) 45 1))), (q501, .inl (cA, 2, .inr (.inr (.inr (.inr (fun j => some (if j = 0 then r 0 else r 1))))))), (r 0, .inl (cI, 80, .inl (fun _ => 0))), (r 1, .inl (cI, 80, .inl (fun _ => 0))), (q502, .inl (cZ, 2, .inl (fun _ => 0)))] H locs := ⟨hP, hD, hS⟩
  refine lv_aload_n hx hb dX5_init_49 rfl (lv_at hl 1 rfl) ?_
  refine va_get (D := D) (ci := 5) (v := .ref q500) (C := RX5) (T := TX5) (N := 3) hx hb hta inA5 hown hK hW.1 0 rfl rfl 0 (by decide) (hta _ kw_156) (fun _ h9 => h9) rfl dX5_init_50 ?_
  refine lv_iload_n hx hb dX5_init_53 rfl (lv_at hl 0 rfl) ?_
  refine lv_iconst (v := (5 : Int32)) hx hb dX5_init_54 (by decide) ?_
  refine lv_imul hx hb dX5_init_55 ?_
  refine lv_iconst (v := (1 : Int32)) hx hb dX5_init_56 (by decide) ?_
  refine lv_iadd hx hb dX5_init_57 ?_
  refine lv_topi (fun y ey => ?_)
  obtain rfl : y = (46 : Int32) := by rw [ey]; decide
  refine lv_iconst (v := (1 : Int32)) hx hb dX5_init_58 (by decide) ?_
  refine va_iast hx hb hK hW.1 hW.2.1 hW.2.2 1 0 rfl rfl (by unfold vp_in; decide) dX5_init_59 (fun H locs hP hD hS => ?_)
  have hW : wl D A s [(h0, .inr (5, [.ref q500, .ref q501, .ref q502])), (q500, .inl (cI, 80, .inl (upd (upd (hsF 9) 45 1) 46 1))), (q501, .inl (cA, 2, .inr (.inr (.inr (.inr (fun j => some (if j = 0 then r 0 else r 1))))))), (r 0, .inl (cI, 80, .inl (fun _ => 0))), (r 1, .inl (cI, 80, .inl (fun _ => 0))), (q502, .inl (cZ, 2, .inl (fun _ => 0)))] H locs := ⟨hP, hD, hS⟩
  refine lv_aload_n hx hb dX5_init_60 rfl (lv_at hl 1 rfl) ?_
  refine va_get (D := D) (ci := 5) (v := .ref q500) (C := RX5) (T := TX5) (N := 3) hx hb hta inA5 hown hK hW.1 0 rfl rfl 0 (by decide) (hta _ kw_156) (fun _ h9 => h9) rfl dX5_init_61 ?_
  refine lv_iload_n hx hb dX5_init_64 rfl (lv_at hl 0 rfl) ?_
  refine lv_iconst (v := (5 : Int32)) hx hb dX5_init_65 (by decide) ?_
  refine lv_imul hx hb dX5_init_66 ?_
  refine lv_iconst (v := (2 : Int32)) hx hb dX5_init_67 (by decide) ?_
  refine lv_iadd hx hb dX5_init_68 ?_
  refine lv_topi (fun y ey => ?_)
  obtain rfl : y = (47 : Int32) := by rw [ey]; decide
  refine lv_sipush (v := (500 : Int32)) hx hb dX5_init_69 (by decide) ?_
  refine va_iast hx hb hK hW.1 hW.2.1 hW.2.2 1 0 rfl rfl (by unfold vp_in; decide) dX5_init_72 (fun H locs hP hD hS => ?_)
  have hW : wl D A s [(h0, .inr (5, [.ref q500, .ref q501, .ref q502])), (q500, .inl (cI, 80, .inl (upd (upd (upd (hsF 9) 45 1) 46 1) 47 500))), (q501, .inl (cA, 2, .inr (.inr (.inr (.inr (fun j => some (if j = 0 then r 0 else r 1))))))), (r 0, .inl (cI, 80, .inl (fun _ => 0))), (r 1, .inl (cI, 80, .inl (fun _ => 0))), (q502, .inl (cZ, 2, .inl (fun _ => 0)))] H locs := ⟨hP, hD, hS⟩
  have hW : wl D A s [(h0, .inr (5, [.ref q500, .ref q501, .ref q502])), (q500, .inl (cI, 80, .inl (hsF 10))), (q501, .inl (cA, 2, .inr (.inr (.inr (.inr (fun j => some (if j = 0 then r 0 else r 1))))))), (r 0, .inl (cI, 80, .inl (fun _ => 0))), (r 1, .inl (cI, 80, .inl (fun _ => 0))), (q502, .inl (cZ, 2, .inl (fun _ => 0)))] H locs := hW
  refine lv_iinc (v := (10 : Int32)) (lv' := [(1, .int (10 : Int32)), (0, .ref h0)]) hx hb dX5_init_73 hl (k := 0) rfl (by decide) (by decide) rfl (fun ls hl => ?_)
  refine lv_goto (tgt := 32) hx hb dX5_init_76 (by decide) ?_
  refine lv_iload_n hx hb dX5_init_32 rfl (lv_at hl 0 rfl) ?_
  refine lv_bipush (v := (16 : Int32)) hx hb dX5_init_33 (by decide) ?_
  refine lv_icmp_ge (tgt := 79) hx hb dX5_init_35 (by decide) (fun cc => absurd cc (by decide)) (fun cc => ?_)
  refine lv_aload_n hx hb dX5_init_38 rfl (lv_at hl 1 rfl) ?_
  refine va_get (D := D) (ci := 5) (v := .ref q500) (C := RX5) (T := TX5) (N := 3) hx hb hta inA5 hown hK hW.1 0 rfl rfl 0 (by decide) (hta _ kw_156) (fun _ h9 => h9) rfl dX5_init_39 ?_
  refine lv_iload_n hx hb dX5_init_42 rfl (lv_at hl 0 rfl) ?_
  refine lv_iconst (v := (5 : Int32)) hx hb dX5_init_43 (by decide) ?_
  refine lv_imul hx hb dX5_init_44 ?_
  refine lv_iconst (v := (0 : Int32)) hx hb dX5_init_45 (by decide) ?_
  refine lv_iadd hx hb dX5_init_46 ?_
  refine lv_topi (fun y ey => ?_)
  obtain rfl : y = (50 : Int32) := by rw [ey]; decide
  refine lv_iconst (v := (1 : Int32)) hx hb dX5_init_47 (by decide) ?_
  refine va_iast hx hb hK hW.1 hW.2.1 hW.2.2 1 0 rfl rfl (by unfold vp_in; decide) dX5_init_48 (fun H locs hP hD hS => ?_)
  have hW : wl D A s [(h0, .inr (5, [.ref q500, .ref q501, .ref q502])), (q500, .inl (cI, 80, .inl (upd (hsF 10) 50 1))), (q501, .inl (cA, 2, .inr (.inr (.inr (.inr (fun j => some (if j = 0 then r 0 else r 1))))))), (r 0, .inl (cI, 80, .inl (fun _ => 0))), (r 1, .inl (cI, 80, .inl (fun _ => 0))), (q502, .inl (cZ, 2, .inl (fun _ => 0)))] H locs := ⟨hP, hD, hS⟩
  refine lv_aload_n hx hb dX5_init_49 rfl (lv_at hl 1 rfl) ?_
  refine va_get (D := D) (ci := 5) (v := .ref q500) (C := RX5) (T := TX5) (N := 3) hx hb hta inA5 hown hK hW.1 0 rfl rfl 0 (by decide) (hta _ kw_156) (fun _ h9 => h9) rfl dX5_init_50 ?_
  refine lv_iload_n hx hb dX5_init_53 rfl (lv_at hl 0 rfl) ?_
  refine lv_iconst (v := (5 : Int32)) hx hb dX5_init_54 (by decide) ?_
  refine lv_imul hx hb dX5_init_55 ?_
  refine lv_iconst (v := (1 : Int32)) hx hb dX5_init_56 (by decide) ?_
  refine lv_iadd hx hb dX5_init_57 ?_
  refine lv_topi (fun y ey => ?_)
  obtain rfl : y = (51 : Int32) := by rw [ey]; decide
  refine lv_iconst (v := (1 : Int32)) hx hb dX5_init_58 (by decide) ?_
  refine va_iast hx hb hK hW.1 hW.2.1 hW.2.2 1 0 rfl rfl (by unfold vp_in; decide) dX5_init_59 (fun H locs hP hD hS => ?_)
  have hW : wl D A s [(h0, .inr (5, [.ref q500, .ref q501, .ref q502])), (q500, .inl (cI, 80, .inl (upd (upd (hsF 10) 50 1) 51 1))), (q501, .inl (cA, 2, .inr (.inr (.inr (.inr (fun j => some (if j = 0 then r 0 else r 1))))))), (r 0, .inl (cI, 80, .inl (fun _ => 0))), (r 1, .inl (cI, 80, .inl (fun _ => 0))), (q502, .inl (cZ, 2, .inl (fun _ => 0)))] H locs := ⟨hP, hD, hS⟩
  refine lv_aload_n hx hb dX5_init_60 rfl (lv_at hl 1 rfl) ?_
  refine va_get (D := D) (ci := 5) (v := .ref q500) (C := RX5) (T := TX5) (N := 3) hx hb hta inA5 hown hK hW.1 0 rfl rfl 0 (by decide) (hta _ kw_156) (fun _ h9 => h9) rfl dX5_init_61 ?_
  refine lv_iload_n hx hb dX5_init_64 rfl (lv_at hl 0 rfl) ?_
  refine lv_iconst (v := (5 : Int32)) hx hb dX5_init_65 (by decide) ?_
  refine lv_imul hx hb dX5_init_66 ?_
  refine lv_iconst (v := (2 : Int32)) hx hb dX5_init_67 (by decide) ?_
  refine lv_iadd hx hb dX5_init_68 ?_
  refine lv_topi (fun y ey => ?_)
  obtain rfl : y = (52 : Int32) := by rw [ey]; decide
  refine lv_sipush (v := (500 : Int32)) hx hb dX5_init_69 (by decide) ?_
  refine va_iast hx hb hK hW.1 hW.2.1 hW.2.2 1 0 rfl rfl (by unfold vp_in; decide) dX5_init_72 (fun H locs hP hD hS => ?_)
  have hW : wl D A s [(h0, .inr (5, [.ref q500, .ref q501, .ref q502])), (q500, .inl (cI, 80, .inl (upd (upd (upd (hsF 10) 50 1) 51 1) 52 500))), (q501, .inl (cA, 2, .inr (.inr (.inr (.inr (fun j => some (if j = 0 then r 0 else r 1))))))), (r 0, .inl (cI, 80, .inl (fun _ => 0))), (r 1, .inl (cI, 80, .inl (fun _ => 0))), (q502, .inl (cZ, 2, .inl (fun _ => 0)))] H locs := ⟨hP, hD, hS⟩
  have hW : wl D A s [(h0, .inr (5, [.ref q500, .ref q501, .ref q502])), (q500, .inl (cI, 80, .inl (hsF 11))), (q501, .inl (cA, 2, .inr (.inr (.inr (.inr (fun j => some (if j = 0 then r 0 else r 1))))))), (r 0, .inl (cI, 80, .inl (fun _ => 0))), (r 1, .inl (cI, 80, .inl (fun _ => 0))), (q502, .inl (cZ, 2, .inl (fun _ => 0)))] H locs := hW
  refine lv_iinc (v := (11 : Int32)) (lv' := [(1, .int (11 : Int32)), (0, .ref h0)]) hx hb dX5_init_73 hl (k := 0) rfl (by decide) (by decide) rfl (fun ls hl => ?_)
  refine lv_goto (tgt := 32) hx hb dX5_init_76 (by decide) ?_
  refine lv_iload_n hx hb dX5_init_32 rfl (lv_at hl 0 rfl) ?_
  refine lv_bipush (v := (16 : Int32)) hx hb dX5_init_33 (by decide) ?_
  refine lv_icmp_ge (tgt := 79) hx hb dX5_init_35 (by decide) (fun cc => absurd cc (by decide)) (fun cc => ?_)
  refine lv_aload_n hx hb dX5_init_38 rfl (lv_at hl 1 rfl) ?_
  refine va_get (D := D) (ci := 5) (v := .ref q500) (C := RX5) (T := TX5) (N := 3) hx hb hta inA5 hown hK hW.1 0 rfl rfl 0 (by decide) (hta _ kw_156) (fun _ h9 => h9) rfl dX5_init_39 ?_
  refine lv_iload_n hx hb dX5_init_42 rfl (lv_at hl 0 rfl) ?_
  refine lv_iconst (v := (5 : Int32)) hx hb dX5_init_43 (by decide) ?_
  refine lv_imul hx hb dX5_init_44 ?_
  refine lv_iconst (v := (0 : Int32)) hx hb dX5_init_45 (by decide) ?_
  refine lv_iadd hx hb dX5_init_46 ?_
  refine lv_topi (fun y ey => ?_)
  obtain rfl : y = (55 : Int32) := by rw [ey]; decide
  refine lv_iconst (v := (1 : Int32)) hx hb dX5_init_47 (by decide) ?_
  refine va_iast hx hb hK hW.1 hW.2.1 hW.2.2 1 0 rfl rfl (by unfold vp_in; decide) dX5_init_48 (fun H locs hP hD hS => ?_)
  have hW : wl D A s [(h0, .inr (5, [.ref q500, .ref q501, .ref q502])), (q500, .inl (cI, 80, .inl (upd (hsF 11) 55 1))), (q501, .inl (cA, 2, .inr (.inr (.inr (.inr (fun j => some (if j = 0 then r 0 else r 1))))))), (r 0, .inl (cI, 80, .inl (fun _ => 0))), (r 1, .inl (cI, 80, .inl (fun _ => 0))), (q502, .inl (cZ, 2, .inl (fun _ => 0)))] H locs := ⟨hP, hD, hS⟩
  refine lv_aload_n hx hb dX5_init_49 rfl (lv_at hl 1 rfl) ?_
  refine va_get (D := D) (ci := 5) (v := .ref q500) (C := RX5) (T := TX5) (N := 3) hx hb hta inA5 hown hK hW.1 0 rfl rfl 0 (by decide) (hta _ kw_156) (fun _ h9 => h9) rfl dX5_init_50 ?_
  refine lv_iload_n hx hb dX5_init_53 rfl (lv_at hl 0 rfl) ?_
  refine lv_iconst (v := (5 : Int32)) hx hb dX5_init_54 (by decide) ?_
  refine lv_imul hx hb dX5_init_55 ?_
  refine lv_iconst (v := (1 : Int32)) hx hb dX5_init_56 (by decide) ?_
  refine lv_iadd hx hb dX5_init_57 ?_
  refine lv_topi (fun y ey => ?_)
  obtain rfl : y = (56 : Int32) := by rw [ey]; decide
  refine lv_iconst (v := (1 : Int32)) hx hb dX5_init_58 (by decide) ?_
  refine va_iast hx hb hK hW.1 hW.2.1 hW.2.2 1 0 rfl rfl (by unfold vp_in; decide) dX5_init_59 (fun H locs hP hD hS => ?_)
  have hW : wl D A s [(h0, .inr (5, [.ref q500, .ref q501, .ref q502])), (q500, .inl (cI, 80, .inl (upd (upd (hsF 11) 55 1) 56 1))), (q501, .inl (cA, 2, .inr (.inr (.inr (.inr (fun j => some (if j = 0 then r 0 else r 1))))))), (r 0, .inl (cI, 80, .inl (fun _ => 0))), (r 1, .inl (cI, 80, .inl (fun _ => 0))), (q502, .inl (cZ, 2, .inl (fun _ => 0)))] H locs := ⟨hP, hD, hS⟩
  refine lv_aload_n hx hb dX5_init_60 rfl (lv_at hl 1 rfl) ?_
  refine va_get (D := D) (ci := 5) (v := .ref q500) (C := RX5) (T := TX5) (N := 3) hx hb hta inA5 hown hK hW.1 0 rfl rfl 0 (by decide) (hta _ kw_156) (fun _ h9 => h9) rfl dX5_init_61 ?_
  refine lv_iload_n hx hb dX5_init_64 rfl (lv_at hl 0 rfl) ?_
  refine lv_iconst (v := (5 : Int32)) hx hb dX5_init_65 (by decide) ?_
  refine lv_imul hx hb dX5_init_66 ?_
  refine lv_iconst (v := (2 : Int32)) hx hb dX5_init_67 (by decide) ?_
  refine lv_iadd hx hb dX5_init_68 ?_
  refine lv_topi (fun y ey => ?_)
  obtain rfl : y = (57 : Int32) := by rw [ey]; decide
  refine lv_sipush (v := (500 : Int32)) hx hb dX5_init_69 (by decide) ?_
  refine va_iast hx hb hK hW.1 hW.2.1 hW.2.2 1 0 rfl rfl (by unfold vp_in; decide) dX5_init_72 (fun H locs hP hD hS => ?_)
  have hW : wl D A s [(h0, .inr (5, [.ref q500, .ref q501, .ref q502])), (q500, .inl (cI, 80, .inl (upd (upd (upd (hsF 11) 55 1) 56 1) 57 500))), (q501, .inl (cA, 2, .inr (.inr (.inr (.inr (fun j => some (if j = 0 then r 0 else r 1))))))), (r 0, .inl (cI, 80, .inl (fun _ => 0))), (r 1, .inl (cI, 80, .inl (fun _ => 0))), (q502, .inl (cZ, 2, .inl (fun _ => 0)))] H locs := ⟨hP, hD, hS⟩
  have hW : wl D A s [(h0, .inr (5, [.ref q500, .ref q501, .ref q502])), (q500, .inl (cI, 80, .inl (hsF 12))), (q501, .inl (cA, 2, .inr (.inr (.inr (.inr (fun j => some (if j = 0 then r 0 else r 1))))))), (r 0, .inl (cI, 80, .inl (fun _ => 0))), (r 1, .inl (cI, 80, .inl (fun _ => 0))), (q502, .inl (cZ, 2, .inl (fun _ => 0)))] H locs := hW
  refine lv_iinc (v := (12 : Int32)) (lv' := [(1, .int (12 : Int32)), (0, .ref h0)]) hx hb dX5_init_73 hl (k := 0) rfl (by decide) (by decide) rfl (fun ls hl => ?_)
  refine lv_goto (tgt := 32) hx hb dX5_init_76 (by decide) ?_
  refine lv_iload_n hx hb dX5_init_32 rfl (lv_at hl 0 rfl) ?_
  refine lv_bipush (v := (16 : Int32)) hx hb dX5_init_33 (by decide) ?_
  refine lv_icmp_ge (tgt := 79) hx hb dX5_init_35 (by decide) (fun cc => absurd cc (by decide)) (fun cc => ?_)
  refine lv_aload_n hx hb dX5_init_38 rfl (lv_at hl 1 rfl) ?_
  refine va_get (D := D) (ci := 5) (v := .ref q500) (C := RX5) (T := TX5) (N := 3) hx hb hta inA5 hown hK hW.1 0 rfl rfl 0 (by decide) (hta _ kw_156) (fun _ h9 => h9) rfl dX5_init_39 ?_
  refine lv_iload_n hx hb dX5_init_42 rfl (lv_at hl 0 rfl) ?_
  refine lv_iconst (v := (5 : Int32)) hx hb dX5_init_43 (by decide) ?_
  refine lv_imul hx hb dX5_init_44 ?_
  refine lv_iconst (v := (0 : Int32)) hx hb dX5_init_45 (by decide) ?_
  refine lv_iadd hx hb dX5_init_46 ?_
  refine lv_topi (fun y ey => ?_)
  obtain rfl : y = (60 : Int32) := by rw [ey]; decide
  refine lv_iconst (v := (1 : Int32)) hx hb dX5_init_47 (by decide) ?_
  refine va_iast hx hb hK hW.1 hW.2.1 hW.2.2 1 0 rfl rfl (by unfold vp_in; decide) dX5_init_48 (fun H locs hP hD hS => ?_)
  have hW : wl D A s [(h0, .inr (5, [.ref q500, .ref q501, .ref q502])), (q500, .inl (cI, 80, .inl (upd (hsF 12) 60 1))), (q501, .inl (cA, 2, .inr (.inr (.inr (.inr (fun j => some (if j = 0 then r 0 else r 1))))))), (r 0, .inl (cI, 80, .inl (fun _ => 0))), (r 1, .inl (cI, 80, .inl (fun _ => 0))), (q502, .inl (cZ, 2, .inl (fun _ => 0)))] H locs := ⟨hP, hD, hS⟩
  refine lv_aload_n hx hb dX5_init_49 rfl (lv_at hl 1 rfl) ?_
  refine va_get (D := D) (ci := 5) (v := .ref q500) (C := RX5) (T := TX5) (N := 3) hx hb hta inA5 hown hK hW.1 0 rfl rfl 0 (by decide) (hta _ kw_156) (fun _ h9 => h9) rfl dX5_init_50 ?_
  refine lv_iload_n hx hb dX5_init_53 rfl (lv_at hl 0 rfl) ?_
  refine lv_iconst (v := (5 : Int32)) hx hb dX5_init_54 (by decide) ?_
  refine lv_imul hx hb dX5_init_55 ?_
  refine lv_iconst (v := (1 : Int32)) hx hb dX5_init_56 (by decide) ?_
  refine lv_iadd hx hb dX5_init_57 ?_
  refine lv_topi (fun y ey => ?_)
  obtain rfl : y = (61 : Int32) := by rw [ey]; decide
  refine lv_iconst (v := (1 : Int32)) hx hb dX5_init_58 (by decide) ?_
  refine va_iast hx hb hK hW.1 hW.2.1 hW.2.2 1 0 rfl rfl (by unfold vp_in; decide) dX5_init_59 (fun H locs hP hD hS => ?_)
  have hW : wl D A s [(h0, .inr (5, [.ref q500, .ref q501, .ref q502])), (q500, .inl (cI, 80, .inl (upd (upd (hsF 12) 60 1) 61 1))), (q501, .inl (cA, 2, .inr (.inr (.inr (.inr (fun j => some (if j = 0 then r 0 else r 1))))))), (r 0, .inl (cI, 80, .inl (fun _ => 0))), (r 1, .inl (cI, 80, .inl (fun _ => 0))), (q502, .inl (cZ, 2, .inl (fun _ => 0)))] H locs := ⟨hP, hD, hS⟩
  refine lv_aload_n hx hb dX5_init_60 rfl (lv_at hl 1 rfl) ?_
  refine va_get (D := D) (ci := 5) (v := .ref q500) (C := RX5) (T := TX5) (N := 3) hx hb hta inA5 hown hK hW.1 0 rfl rfl 0 (by decide) (hta _ kw_156) (fun _ h9 => h9) rfl dX5_init_61 ?_
  refine lv_iload_n hx hb dX5_init_64 rfl (lv_at hl 0 rfl) ?_
  refine lv_iconst (v := (5 : Int32)) hx hb dX5_init_65 (by decide) ?_
  refine lv_imul hx hb dX5_init_66 ?_
  refine lv_iconst (v := (2 : Int32)) hx hb dX5_init_67 (by decide) ?_
  refine lv_iadd hx hb dX5_init_68 ?_
  refine lv_topi (fun y ey => ?_)
  obtain rfl : y = (62 : Int32) := by rw [ey]; decide
  refine lv_sipush (v := (500 : Int32)) hx hb dX5_init_69 (by decide) ?_
  refine va_iast hx hb hK hW.1 hW.2.1 hW.2.2 1 0 rfl rfl (by unfold vp_in; decide) dX5_init_72 (fun H locs hP hD hS => ?_)
  have hW : wl D A s [(h0, .inr (5, [.ref q500, .ref q501, .ref q502])), (q500, .inl (cI, 80, .inl (upd (upd (upd (hsF 12) 60 1) 61 1) 62 500))), (q501, .inl (cA, 2, .inr (.inr (.inr (.inr (fun j => some (if j = 0 then r 0 else r 1))))))), (r 0, .inl (cI, 80, .inl (fun _ => 0))), (r 1, .inl (cI, 80, .inl (fun _ => 0))), (q502, .inl (cZ, 2, .inl (fun _ => 0)))] H locs := ⟨hP, hD, hS⟩
  have hW : wl D A s [(h0, .inr (5, [.ref q500, .ref q501, .ref q502])), (q500, .inl (cI, 80, .inl (hsF 13))), (q501, .inl (cA, 2, .inr (.inr (.inr (.inr (fun j => some (if j = 0 then r 0 else r 1))))))), (r 0, .inl (cI, 80, .inl (fun _ => 0))), (r 1, .inl (cI, 80, .inl (fun _ => 0))), (q502, .inl (cZ, 2, .inl (fun _ => 0)))] H locs := hW
  refine lv_iinc (v := (13 : Int32)) (lv' := [(1, .int (13 : Int32)), (0, .ref h0)]) hx hb dX5_init_73 hl (k := 0) rfl (by decide) (by decide) rfl (fun ls hl => ?_)
  refine lv_goto (tgt := 32) hx hb dX5_init_76 (by decide) ?_
  refine lv_iload_n hx hb dX5_init_32 rfl (lv_at hl 0 rfl) ?_
  refine lv_bipush (v := (16 : Int32)) hx hb dX5_init_33 (by decide) ?_
  refine lv_icmp_ge (tgt := 79) hx hb dX5_init_35 (by decide) (fun cc => absurd cc (by decide)) (fun cc => ?_)
  refine lv_aload_n hx hb dX5_init_38 rfl (lv_at hl 1 rfl) ?_
  refine va_get (D := D) (ci := 5) (v := .ref q500) (C := RX5) (T := TX5) (N := 3) hx hb hta inA5 hown hK hW.1 0 rfl rfl 0 (by decide) (hta _ kw_156) (fun _ h9 => h9) rfl dX5_init_39 ?_
  refine lv_iload_n hx hb dX5_init_42 rfl (lv_at hl 0 rfl) ?_
  refine lv_iconst (v := (5 : Int32)) hx hb dX5_init_43 (by decide) ?_
  refine lv_imul hx hb dX5_init_44 ?_
  refine lv_iconst (v := (0 : Int32)) hx hb dX5_init_45 (by decide) ?_
  refine lv_iadd hx hb dX5_init_46 ?_
  refine lv_topi (fun y ey => ?_)
  obtain rfl : y = (65 : Int32) := by rw [ey]; decide
  refine lv_iconst (v := (1 : Int32)) hx hb dX5_init_47 (by decide) ?_
  refine va_iast hx hb hK hW.1 hW.2.1 hW.2.2 1 0 rfl rfl (by unfold vp_in; decide) dX5_init_48 (fun H locs hP hD hS => ?_)
  have hW : wl D A s [(h0, .inr (5, [.ref q500, .ref q501, .ref q502])), (q500, .inl (cI, 80, .inl (upd (hsF 13) 65 1))), (q501, .inl (cA, 2, .inr (.inr (.inr (.inr (fun j => some (if j = 0 then r 0 else r 1))))))), (r 0, .inl (cI, 80, .inl (fun _ => 0))), (r 1, .inl (cI, 80, .inl (fun _ => 0))), (q502, .inl (cZ, 2, .inl (fun _ => 0)))] H locs := ⟨hP, hD, hS⟩
  refine lv_aload_n hx hb dX5_init_49 rfl (lv_at hl 1 rfl) ?_
  refine va_get (D := D) (ci := 5) (v := .ref q500) (C := RX5) (T := TX5) (N := 3) hx hb hta inA5 hown hK hW.1 0 rfl rfl 0 (by decide) (hta _ kw_156) (fun _ h9 => h9) rfl dX5_init_50 ?_
  refine lv_iload_n hx hb dX5_init_53 rfl (lv_at hl 0 rfl) ?_
  refine lv_iconst (v := (5 : Int32)) hx hb dX5_init_54 (by decide) ?_
  refine lv_imul hx hb dX5_init_55 ?_
  refine lv_iconst (v := (1 : Int32)) hx hb dX5_init_56 (by decide) ?_
  refine lv_iadd hx hb dX5_init_57 ?_
  refine lv_topi (fun y ey => ?_)
  obtain rfl : y = (66 : Int32) := by rw [ey]; decide
  refine lv_iconst (v := (1 : Int32)) hx hb dX5_init_58 (by decide) ?_
  refine va_iast hx hb hK hW.1 hW.2.1 hW.2.2 1 0 rfl rfl (by unfold vp_in; decide) dX5_init_59 (fun H locs hP hD hS => ?_)
  have hW : wl D A s [(h0, .inr (5, [.ref q500, .ref q501, .ref q502])), (q500, .inl (cI, 80, .inl (upd (upd (hsF 13) 65 1) 66 1))), (q501, .inl (cA, 2, .inr (.inr (.inr (.inr (fun j => some (if j = 0 then r 0 else r 1))))))), (r 0, .inl (cI, 80, .inl (fun _ => 0))), (r 1, .inl (cI, 80, .inl (fun _ => 0))), (q502, .inl (cZ, 2, .inl (fun _ => 0)))] H locs := ⟨hP, hD, hS⟩
  refine lv_aload_n hx hb dX5_init_60 rfl (lv_at hl 1 rfl) ?_
  refine va_get (D := D) (ci := 5) (v := .ref q500) (C := RX5) (T := TX5) (N := 3) hx hb hta inA5 hown hK hW.1 0 rfl rfl 0 (by decide) (hta _ kw_156) (fun _ h9 => h9) rfl dX5_init_61 ?_
  refine lv_iload_n hx hb dX5_init_64 rfl (lv_at hl 0 rfl) ?_
  refine lv_iconst (v := (5 : Int32)) hx hb dX5_init_65 (by decide) ?_
  refine lv_imul hx hb dX5_init_66 ?_
  refine lv_iconst (v := (2 : Int32)) hx hb dX5_init_67 (by decide) ?_
  refine lv_iadd hx hb dX5_init_68 ?_
  refine lv_topi (fun y ey => ?_)
  obtain rfl : y = (67 : Int32) := by rw [ey]; decide
  refine lv_sipush (v := (500 : Int32)) hx hb dX5_init_69 (by decide) ?_
  refine va_iast hx hb hK hW.1 hW.2.1 hW.2.2 1 0 rfl rfl (by unfold vp_in; decide) dX5_init_72 (fun H locs hP hD hS => ?_)
  have hW : wl D A s [(h0, .inr (5, [.ref q500, .ref q501, .ref q502])), (q500, .inl (cI, 80, .inl (upd (upd (upd (hsF 13) 65 1) 66 1) 67 500))), (q501, .inl (cA, 2, .inr (.inr (.inr (.inr (fun j => some (if j = 0 then r 0 else r 1))))))), (r 0, .inl (cI, 80, .inl (fun _ => 0))), (r 1, .inl (cI, 80, .inl (fun _ => 0))), (q502, .inl (cZ, 2, .inl (fun _ => 0)))] H locs := ⟨hP, hD, hS⟩
  have hW : wl D A s [(h0, .inr (5, [.ref q500, .ref q501, .ref q502])), (q500, .inl (cI, 80, .inl (hsF 14))), (q501, .inl (cA, 2, .inr (.inr (.inr (.inr (fun j => some (if j = 0 then r 0 else r 1))))))), (r 0, .inl (cI, 80, .inl (fun _ => 0))), (r 1, .inl (cI, 80, .inl (fun _ => 0))), (q502, .inl (cZ, 2, .inl (fun _ => 0)))] H locs := hW
  refine lv_iinc (v := (14 : Int32)) (lv' := [(1, .int (14 : Int32)), (0, .ref h0)]) hx hb dX5_init_73 hl (k := 0) rfl (by decide) (by decide) rfl (fun ls hl => ?_)
  refine lv_goto (tgt := 32) hx hb dX5_init_76 (by decide) ?_
  refine lv_iload_n hx hb dX5_init_32 rfl (lv_at hl 0 rfl) ?_
  refine lv_bipush (v := (16 : Int32)) hx hb dX5_init_33 (by decide) ?_
  refine lv_icmp_ge (tgt := 79) hx hb dX5_init_35 (by decide) (fun cc => absurd cc (by decide)) (fun cc => ?_)
  refine lv_aload_n hx hb dX5_init_38 rfl (lv_at hl 1 rfl) ?_
  refine va_get (D := D) (ci := 5) (v := .ref q500) (C := RX5) (T := TX5) (N := 3) hx hb hta inA5 hown hK hW.1 0 rfl rfl 0 (by decide) (hta _ kw_156) (fun _ h9 => h9) rfl dX5_init_39 ?_
  refine lv_iload_n hx hb dX5_init_42 rfl (lv_at hl 0 rfl) ?_
  refine lv_iconst (v := (5 : Int32)) hx hb dX5_init_43 (by decide) ?_
  refine lv_imul hx hb dX5_init_44 ?_
  refine lv_iconst (v := (0 : Int32)) hx hb dX5_init_45 (by decide) ?_
  refine lv_iadd hx hb dX5_init_46 ?_
  refine lv_topi (fun y ey => ?_)
  obtain rfl : y = (70 : Int32) := by rw [ey]; decide
  refine lv_iconst (v := (1 : Int32)) hx hb dX5_init_47 (by decide) ?_
  refine va_iast hx hb hK hW.1 hW.2.1 hW.2.2 1 0 rfl rfl (by unfold vp_in; decide) dX5_init_48 (fun H locs hP hD hS => ?_)
  have hW : wl D A s [(h0, .inr (5, [.ref q500, .ref q501, .ref q502])), (q500, .inl (cI, 80, .inl (upd (hsF 14) 70 1))), (q501, .inl (cA, 2, .inr (.inr (.inr (.inr (fun j => some (if j = 0 then r 0 else r 1))))))), (r 0, .inl (cI, 80, .inl (fun _ => 0))), (r 1, .inl (cI, 80, .inl (fun _ => 0))), (q502, .inl (cZ, 2, .inl (fun _ => 0)))] H locs := ⟨hP, hD, hS⟩
  refine lv_aload_n hx hb dX5_init_49 rfl (lv_at hl 1 rfl) ?_
  refine va_get (D := D) (ci := 5) (v := .ref q500) (C := RX5) (T := TX5) (N := 3) hx hb hta inA5 hown hK hW.1 0 rfl rfl 0 (by decide) (hta _ kw_156) (fun _ h9 => h9) rfl dX5_init_50 ?_
  refine lv_iload_n hx hb dX5_init_53 rfl (lv_at hl 0 rfl) ?_
  refine lv_iconst (v := (5 : Int32)) hx hb dX5_init_54 (by decide) ?_
  refine lv_imul hx hb dX5_init_55 ?_
  refine lv_iconst (v := (1 : Int32)) hx hb dX5_init_56 (by decide) ?_
  refine lv_iadd hx hb dX5_init_57 ?_
  refine lv_topi (fun y ey => ?_)
  obtain rfl : y = (71 : Int32) := by rw [ey]; decide
  refine lv_iconst (v := (1 : Int32)) hx hb dX5_init_58 (by decide) ?_
  refine va_iast hx hb hK hW.1 hW.2.1 hW.2.2 1 0 rfl rfl (by unfold vp_in; decide) dX5_init_59 (fun H locs hP hD hS => ?_)
  have hW : wl D A s [(h0, .inr (5, [.ref q500, .ref q501, .ref q502])), (q500, .inl (cI, 80, .inl (upd (upd (hsF 14) 70 1) 71 1))), (q501, .inl (cA, 2, .inr (.inr (.inr (.inr (fun j => some (if j = 0 then r 0 else r 1))))))), (r 0, .inl (cI, 80, .inl (fun _ => 0))), (r 1, .inl (cI, 80, .inl (fun _ => 0))), (q502, .inl (cZ, 2, .inl (fun _ => 0)))] H locs := ⟨hP, hD, hS⟩
  refine lv_aload_n hx hb dX5_init_60 rfl (lv_at hl 1 rfl) ?_
  refine va_get (D := D) (ci := 5) (v := .ref q500) (C := RX5) (T := TX5) (N := 3) hx hb hta inA5 hown hK hW.1 0 rfl rfl 0 (by decide) (hta _ kw_156) (fun _ h9 => h9) rfl dX5_init_61 ?_
  refine lv_iload_n hx hb dX5_init_64 rfl (lv_at hl 0 rfl) ?_
  refine lv_iconst (v := (5 : Int32)) hx hb dX5_init_65 (by decide) ?_
  refine lv_imul hx hb dX5_init_66 ?_
  refine lv_iconst (v := (2 : Int32)) hx hb dX5_init_67 (by decide) ?_
  refine lv_iadd hx hb dX5_init_68 ?_
  refine lv_topi (fun y ey => ?_)
  obtain rfl : y = (72 : Int32) := by rw [ey]; decide
  refine lv_sipush (v := (500 : Int32)) hx hb dX5_init_69 (by decide) ?_
  refine va_iast hx hb hK hW.1 hW.2.1 hW.2.2 1 0 rfl rfl (by unfold vp_in; decide) dX5_init_72 (fun H locs hP hD hS => ?_)
  have hW : wl D A s [(h0, .inr (5, [.ref q500, .ref q501, .ref q502])), (q500, .inl (cI, 80, .inl (upd (upd (upd (hsF 14) 70 1) 71 1) 72 500))), (q501, .inl (cA, 2, .inr (.inr (.inr (.inr (fun j => some (if j = 0 then r 0 else r 1))))))), (r 0, .inl (cI, 80, .inl (fun _ => 0))), (r 1, .inl (cI, 80, .inl (fun _ => 0))), (q502, .inl (cZ, 2, .inl (fun _ => 0)))] H locs := ⟨hP, hD, hS⟩
  have hW : wl D A s [(h0, .inr (5, [.ref q500, .ref q501, .ref q502])), (q500, .inl (cI, 80, .inl (hsF 15))), (q501, .inl (cA, 2, .inr (.inr (.inr (.inr (fun j => some (if j = 0 then r 0 else r 1))))))), (r 0, .inl (cI, 80, .inl (fun _ => 0))), (r 1, .inl (cI, 80, .inl (fun _ => 0))), (q502, .inl (cZ, 2, .inl (fun _ => 0)))] H locs := hW
  refine lv_iinc (v := (15 : Int32)) (lv' := [(1, .int (15 : Int32)), (0, .ref h0)]) hx hb dX5_init_73 hl (k := 0) rfl (by decide) (by decide) rfl (fun ls hl => ?_)
  refine lv_goto (tgt := 32) hx hb dX5_init_76 (by decide) ?_
  refine lv_iload_n hx hb dX5_init_32 rfl (lv_at hl 0 rfl) ?_
  refine lv_bipush (v := (16 : Int32)) hx hb dX5_init_33 (by decide) ?_
  refine lv_icmp_ge (tgt := 79) hx hb dX5_init_35 (by decide) (fun cc => absurd cc (by decide)) (fun cc => ?_)
  refine lv_aload_n hx hb dX5_init_38 rfl (lv_at hl 1 rfl) ?_
  refine va_get (D := D) (ci := 5) (v := .ref q500) (C := RX5) (T := TX5) (N := 3) hx hb hta inA5 hown hK hW.1 0 rfl rfl 0 (by decide) (hta _ kw_156) (fun _ h9 => h9) rfl dX5_init_39 ?_
  refine lv_iload_n hx hb dX5_init_42 rfl (lv_at hl 0 rfl) ?_
  refine lv_iconst (v := (5 : Int32)) hx hb dX5_init_43 (by decide) ?_
  refine lv_imul hx hb dX5_init_44 ?_
  refine lv_iconst (v := (0 : Int32)) hx hb dX5_init_45 (by decide) ?_
  refine lv_iadd hx hb dX5_init_46 ?_
  refine lv_topi (fun y ey => ?_)
  obtain rfl : y = (75 : Int32) := by rw [ey]; decide
  refine lv_iconst (v := (1 : Int32)) hx hb dX5_init_47 (by decide) ?_
  refine va_iast hx hb hK hW.1 hW.2.1 hW.2.2 1 0 rfl rfl (by unfold vp_in; decide) dX5_init_48 (fun H locs hP hD hS => ?_)
  have hW : wl D A s [(h0, .inr (5, [.ref q500, .ref q501, .ref q502])), (q500, .inl (cI, 80, .inl (upd (hsF 15) 75 1))), (q501, .inl (cA, 2, .inr (.inr (.inr (.inr (fun j => some (if j = 0 then r 0 else r 1))))))), (r 0, .inl (cI, 80, .inl (fun _ => 0))), (r 1, .inl (cI, 80, .inl (fun _ => 0))), (q502, .inl (cZ, 2, .inl (fun _ => 0)))] H locs := ⟨hP, hD, hS⟩
  refine lv_aload_n hx hb dX5_init_49 rfl (lv_at hl 1 rfl) ?_
  refine va_get (D := D) (ci := 5) (v := .ref q500) (C := RX5) (T := TX5) (N := 3) hx hb hta inA5 hown hK hW.1 0 rfl rfl 0 (by decide) (hta _ kw_156) (fun _ h9 => h9) rfl dX5_init_50 ?_
  refine lv_iload_n hx hb dX5_init_53 rfl (lv_at hl 0 rfl) ?_
  refine lv_iconst (v := (5 : Int32)) hx hb dX5_init_54 (by decide) ?_
  refine lv_imul hx hb dX5_init_55 ?_
  refine lv_iconst (v := (1 : Int32)) hx hb dX5_init_56 (by decide) ?_
  refine lv_iadd hx hb dX5_init_57 ?_
  refine lv_topi (fun y ey => ?_)
  obtain rfl : y = (76 : Int32) := by rw [ey]; decide
  refine lv_iconst (v := (1 : Int32)) hx hb dX5_init_58 (by decide) ?_
  refine va_iast hx hb hK hW.1 hW.2.1 hW.2.2 1 0 rfl rfl (by unfold vp_in; decide) dX5_init_59 (fun H locs hP hD hS => ?_)
  have hW : wl D A s [(h0, .inr (5, [.ref q500, .ref q501, .ref q502])), (q500, .inl (cI, 80, .inl (upd (upd (hsF 15) 75 1) 76 1))), (q501, .inl (cA, 2, .inr (.inr (.inr (.inr (fun j => some (if j = 0 then r 0 else r 1))))))), (r 0, .inl (cI, 80, .inl (fun _ => 0))), (r 1, .inl (cI, 80, .inl (fun _ => 0))), (q502, .inl (cZ, 2, .inl (fun _ => 0)))] H locs := ⟨hP, hD, hS⟩
  refine lv_aload_n hx hb dX5_init_60 rfl (lv_at hl 1 rfl) ?_
  refine va_get (D := D) (ci := 5) (v := .ref q500) (C := RX5) (T := TX5) (N := 3) hx hb hta inA5 hown hK hW.1 0 rfl rfl 0 (by decide) (hta _ kw_156) (fun _ h9 => h9) rfl dX5_init_61 ?_
  refine lv_iload_n hx hb dX5_init_64 rfl (lv_at hl 0 rfl) ?_
  refine lv_iconst (v := (5 : Int32)) hx hb dX5_init_65 (by decide) ?_
  refine lv_imul hx hb dX5_init_66 ?_
  refine lv_iconst (v := (2 : Int32)) hx hb dX5_init_67 (by decide) ?_
  refine lv_iadd hx hb dX5_init_68 ?_
  refine lv_topi (fun y ey => ?_)
  obtain rfl : y = (77 : Int32) := by rw [ey]; decide
  refine lv_sipush (v := (500 : Int32)) hx hb dX5_init_69 (by decide) ?_
  refine va_iast hx hb hK hW.1 hW.2.1 hW.2.2 1 0 rfl rfl (by unfold vp_in; decide) dX5_init_72 (fun H locs hP hD hS => ?_)
  have hW : wl D A s [(h0, .inr (5, [.ref q500, .ref q501, .ref q502])), (q500, .inl (cI, 80, .inl (upd (upd (upd (hsF 15) 75 1) 76 1) 77 500))), (q501, .inl (cA, 2, .inr (.inr (.inr (.inr (fun j => some (if j = 0 then r 0 else r 1))))))), (r 0, .inl (cI, 80, .inl (fun _ => 0))), (r 1, .inl (cI, 80, .inl (fun _ => 0))), (q502, .inl (cZ, 2, .inl (fun _ => 0)))] H locs := ⟨hP, hD, hS⟩
  have hW : wl D A s [(h0, .inr (5, [.ref q500, .ref q501, .ref q502])), (q500, .inl (cI, 80, .inl (hsF 16))), (q501, .inl (cA, 2, .inr (.inr (.inr (.inr (fun j => some (if j = 0 then r 0 else r 1))))))), (r 0, .inl (cI, 80, .inl (fun _ => 0))), (r 1, .inl (cI, 80, .inl (fun _ => 0))), (q502, .inl (cZ, 2, .inl (fun _ => 0)))] H locs := hW
  refine lv_iinc (v := (16 : Int32)) (lv' := [(1, .int (16 : Int32)), (0, .ref h0)]) hx hb dX5_init_73 hl (k := 0) rfl (by decide) (by decide) rfl (fun ls hl => ?_)
  refine lv_goto (tgt := 32) hx hb dX5_init_76 (by decide) ?_
  refine lv_iload_n hx hb dX5_init_32 rfl (lv_at hl 0 rfl) ?_
  refine lv_bipush (v := (16 : Int32)) hx hb dX5_init_33 (by decide) ?_
  refine lv_icmp_ge (tgt := 79) hx hb dX5_init_35 (by decide) (fun cc => ?_) (fun cc => absurd (by decide) cc)
  have hW : wl D A s (wC5 cI cZ cA h0 (fun k => amOf [q500, q501, q502, r 0, r 1] (k - 500))) H locs := hW
  exact W.vret hx hb B.returns (fun t ht hV => ⟨⟨(fun k => amOf [q500, q501, q502, r 0, r 1] (k - 500)), rfl, trivial, by rw [ht]; exact hW.1, va_K.moved hV.alike hK, hW.2.1⟩, hW.2.2.F ht⟩) hW.2.2.2.2 dX5_init_79
