theorem arrK {s : State} {args : Array Value} {ty : FieldType} (h : (Cond.arrayClass ty).before args s = true) : ∃ cA : ClassId, ArrOfT s cA ty ∧ s.vm.findClass ("[" ++ ty.toString) = some cA := by
  obtain ⟨cA, kA, comp, hf, hk, hkind⟩ := Cond.arrayClass_spec h
  exact ⟨cA, fun n z => ⟨fun k h => (by cases h), kA, hk, comp, hkind⟩, hf⟩
theorem arrR {s : State} (h : va_AOA .int s) : ∃ cA : ClassId, ArrOfT s cA (.array .int) ∧ s.vm.findClass ("[" ++ (FieldType.array .int).toString) = some cA := by
  unfold va_AOA Cond.before Cond.holds at h
  simp only [Cond.value, beq_iff_eq] at h
  cases hc : s.vm.findClass (FieldType.array .int).toString with
  | none => simp [hc] at h
  | some comp =>
    simp only [hc, Option.bind_some, Option.bind_eq_some_iff, Option.map_eq_some_iff] at h
    obtain ⟨c, hi, k, hk, hb⟩ := h
    cases hkind : k.kind with
    | array component t =>
      rw [hkind] at hb
      simp at hb
      exact ⟨c, fun n z => ⟨fun k h => (by cases h), k, hk, component, by rw [hkind, hb.1]⟩, hb.2⟩
    | _ => rw [hkind] at hb; simp at hb
set_option maxHeartbeats 40000000 in
set_option maxRecDepth 100000 in
/-- from the law's entry, out of an invariant of both sides -/
theorem law_all {p : Program} {e : Env} {s : State} {m : MethodId} {below : List Frame} {meth : Method} {c : Code} (l : Launch) {b L : Nat} {xs : Nat → Int32} (hL : L ≤ 2560) (C0 : lw_At p s m meth c b L xs)
    (Inv : Nat → St → St → Prop) (hstart : ∃ tm0, m_init tM0 = some tm0 ∧ Inv 0 tX0 tm0) (hstep : ∀ (n k : Nat) (tx tm : St) (a1 a2 a3 a4 : Int32), 5 * n + 5 ≤ L → Inv n tx tm → ∃ tx' tm', stepOK k tx tm a1 a2 a3 a4 tx' tm' ∧ Inv (n + 1) tx' tm') (hroom : ∀ n tx tm, Inv n tx tm → 124 + gN tx 9000 ≤ 600000 ∧ 473133 + gN tx 9001 ≤ 7302250) : W p l e room_1 s m #[Value.ref b] below meth c s.heap [] 0 0 (lw_Z below #[Value.ref b] s) (entryFrame m ([Value.ref b] : List Value).toArray 4) := by
  obtain ⟨hx, hb, hr, hml, hown, hts, hX, hbl, hlocks, hgv⟩ := id C0
  obtain ⟨tm0, hm0, hI0⟩ := hstart
  have hA : ∀ q : Nat, s.heap.size ≤ q → (fun q : Nat => s.heap.size ≤ q) q := fun _ h => h
  have hAn : ∀ q : Nat, q < s.heap.size → ¬ (fun q : Nat => s.heap.size ≤ q) q := fun _ h => Nat.not_le.mpr h
  have hbA : ¬ (fun q : Nat => s.heap.size ≤ q) b := Nat.not_le.mpr hbl
  have hta : ∀ w ∈ wsAll, w.before #[Value.ref b] s = true := fun w hw => hts w (List.mem_filter.mp hw).1
  have hao : va_AOA .int s := va_AOA.of (hts _ (List.mem_append_right _ (List.mem_append_left _ (List.mem_of_getElem? (i := 34) (rfl : _ = some (Cond.arrayOver (.array .int)))))))
  obtain ⟨c0, i0, hKn0⟩ := u_known (C := RX0) (T := TX0) (N := 15) (n := 15) hta inA0 (hta _ kw_377)
  obtain ⟨c1, i1, hKn1⟩ := u_known (C := RX1) (T := TX1) (N := 8) (n := 8) hta inA1 (hta _ kw_528)
  obtain ⟨c2, i2, hKn2⟩ := u_known (C := RX2) (T := TX2) (N := 2) (n := 2) hta inA2 (hta _ kw_364)
  obtain ⟨c3, i3, hKn3⟩ := u_known (C := RX3) (T := TX3) (N := 11) (n := 11) hta inA3 (hta _ kw_485)
  obtain ⟨c4, i4, hKn4⟩ := u_known (C := RX4) (T := TX4) (N := 12) (n := 12) hta inA4 (hta _ kw_434)
  obtain ⟨c5, i5, hKn5⟩ := u_known (C := RX5) (T := TX5) (N := 3) (n := 3) hta inA5 (hta _ kw_149)
  obtain ⟨c6, i6, hKn6⟩ := u_known (C := RX6) (T := TX6) (N := 14) (n := 14) hta inA6 (hta _ kw_170)
  obtain ⟨c7, i7, hKn7⟩ := u_known (C := RX7) (T := TX7) (N := 5) (n := 5) hta inA7 (hta _ kw_241)
  obtain ⟨c8, i8, hKn8⟩ := u_known (C := RX8) (T := TX8) (N := 15) (n := 15) hta inA8 (hta _ kw_264)
  obtain ⟨c9, i9, hKn9⟩ := u_known (C := RX9) (T := TX9) (N := 8) (n := 8) hta inA9 (hta _ kw_560)
  obtain ⟨c10, i10, hKn10⟩ := u_known (C := RX10) (T := TX10) (N := 9) (n := 9) hta inA10 (hta _ kw_325)
  obtain ⟨c11, i11, hKn11⟩ := u_known (C := RX11) (T := TX11) (N := 11) (n := 11) hta inA11 (hta _ kw_141)
  obtain ⟨c12, i12, hKn12⟩ := u_known (C := RX12) (T := TX12) (N := 68) (n := 68) hta inA12 (hta _ kw_1491)
  obtain ⟨cI, hI1, hI2⟩ := arrK (ty := .int) (hta _ kw_arrI0)
  obtain ⟨cJ, hJ1, hJ2⟩ := arrK (ty := .long) (hta _ kw_arrJ0)
  obtain ⟨cZ, hZ1, hZ2⟩ := arrK (ty := .boolean) (hta _ kw_arrZ0)
  obtain ⟨cR, hR1, hR2⟩ := arrR hao
  obtain ⟨dC, dI, hKc⟩ : ∃ (dC : Nat → ClassId) (dI : Nat → Nat → Nat), ∀ (k : Nat) (q : vw_C), vwCl[k]? = some q → u_Kn s q.1 q.2.1 q.2.2 (dC k) (dI k) := by
    refine ⟨fun k => [c0, c1, c2, c3, c4, c5, c6, c7, c8, c9, c10, c11, c12].getD k c0, fun k => [i0, i1, i2, i3, i4, i5, i6, i7, i8, i9, i10, i11, i12].getD k i0, ?_⟩
    intro k q hq
    match k, hq with
    | 0, hq => cases hq; exact hKn0
    | 1, hq => cases hq; exact hKn1
    | 2, hq => cases hq; exact hKn2
    | 3, hq => cases hq; exact hKn3
    | 4, hq => cases hq; exact hKn4
    | 5, hq => cases hq; exact hKn5
    | 6, hq => cases hq; exact hKn6
    | 7, hq => cases hq; exact hKn7
    | 8, hq => cases hq; exact hKn8
    | 9, hq => cases hq; exact hKn9
    | 10, hq => cases hq; exact hKn10
    | 11, hq => cases hq; exact hKn11
    | 12, hq => cases hq; exact hKn12
    | k + 13, hq => simp [vwCl] at hq
  have hK : va_K (dC, dI) vwCl (tyX cI cJ cZ cR) s := by
    refine ⟨hKc, ?_⟩
    intro k q hq
    match k, hq with
    | 0, hq => cases hq; exact ⟨hI1, hI2⟩
    | 1, hq => cases hq; exact ⟨hJ1, hJ2⟩
    | 2, hq => cases hq; exact ⟨hZ1, hZ2⟩
    | 3, hq => cases hq; exact ⟨hR1, hR2⟩
    | k + 4, hq => simp at hq
  have hf := flat_of_before _ hgv
  obtain ⟨st, hst, hT⟩ := va_Tof (args := #[Value.ref b]) (s := s) (tm := Term.static "GuardNets$Tables" "STRIPES" "[J") (ty := .long) (N := 6) (f := stV) (A := fun q : Nat => s.heap.size ≤ q) (by decide) (hf _ (by decide +kernel)) (by
      obtain ⟨y, hy, hz⟩ := Cond.eq_one (hf (Cond.eq (Term.length (Term.static "GuardNets$Tables" "STRIPES" "[J")) (Term.int 6)) (by decide +kernel))
      rw [hy, ← hz]; rfl) (by
      intro j hj
      match j, hj with
      | 0, _ =>
        obtain ⟨y, hy, hz⟩ := Cond.eq_one (hf (Cond.eq (Term.elem (Term.static "GuardNets$Tables" "STRIPES" "[J") (Term.int 0)) (Term.long (-6148914691236517206))) (by decide +kernel))
        rw [show (Int32.ofNat 0) = (0 : Int32) from rfl, hy, ← hz]; rfl
      | 1, _ =>
        obtain ⟨y, hy, hz⟩ := Cond.eq_one (hf (Cond.eq (Term.elem (Term.static "GuardNets$Tables" "STRIPES" "[J") (Term.int 1)) (Term.long (-3689348814741910324))) (by decide +kernel))
        rw [show (Int32.ofNat 1) = (1 : Int32) from rfl, hy, ← hz]; rfl
      | 2, _ =>
        obtain ⟨y, hy, hz⟩ := Cond.eq_one (hf (Cond.eq (Term.elem (Term.static "GuardNets$Tables" "STRIPES" "[J") (Term.int 2)) (Term.long (-1085102592571150096))) (by decide +kernel))
        rw [show (Int32.ofNat 2) = (2 : Int32) from rfl, hy, ← hz]; rfl
      | 3, _ =>
        obtain ⟨y, hy, hz⟩ := Cond.eq_one (hf (Cond.eq (Term.elem (Term.static "GuardNets$Tables" "STRIPES" "[J") (Term.int 3)) (Term.long (-71777214294589696))) (by decide +kernel))
        rw [show (Int32.ofNat 3) = (3 : Int32) from rfl, hy, ← hz]; rfl
      | 4, _ =>
        obtain ⟨y, hy, hz⟩ := Cond.eq_one (hf (Cond.eq (Term.elem (Term.static "GuardNets$Tables" "STRIPES" "[J") (Term.int 4)) (Term.long (-281470681808896))) (by decide +kernel))
        rw [show (Int32.ofNat 4) = (4 : Int32) from rfl, hy, ← hz]; rfl
      | 5, _ =>
        obtain ⟨y, hy, hz⟩ := Cond.eq_one (hf (Cond.eq (Term.elem (Term.static "GuardNets$Tables" "STRIPES" "[J") (Term.int 5)) (Term.long (-4294967296))) (by decide +kernel))
        rw [show (Int32.ofNat 5) = (5 : Int32) from rfl, hy, ← hz]; rfl
      | j + 6, h => exact absurd h (by omega)) hAn
  have hZ := va_Zref (A := fun q : Nat => s.heap.size ≤ q) (hts (Cond.laysStatic "GuardNets$Tables" "STRIPES" "[J") (List.mem_append_right _ (List.mem_append_right _ (List.mem_append_right _ (List.mem_append_left _ (List.mem_of_getElem? (i := 232) rfl)))))) (hta _ kw_127) hst hAn
  have CX : cxX p s m #[.ref b] meth c code R_law 4 ret (dC, dI) (tyX cI cJ cZ cR) st (fun q : Nat => s.heap.size ≤ q) := ⟨⟨hx, hb, hr, hml, hown, hta, hlocks, hK, hA⟩, hZ, hT⟩
  have CM : cx p s m #[.ref b] meth c code R_law 4 ret (dC, dI) (tyM cI cJ cZ) (fun q : Nat => s.heap.size ≤ q) := ⟨hx, hb, hr, hml, hown, hta, hlocks, hK.sub [0, 1, 2] rfl, hA⟩
  have hW : wl (dC, dI) (fun q : Nat => s.heap.size ≤ q) s [] s.heap [] := ⟨fun k q h => by simp at h, ⟨fun i j p q h => by simp at h, fun k q h => by simp at h⟩, va_S.rf⟩
  have hl := lv_entry ([.ref b]) (n := 4) (Nat.le_of_ble_eq_true rfl)
  rw [lg_entry_eq]
  generalize (lg_sl ([.ref b]) ++ List.replicate (4 - (lg_sl ([.ref b])).length) Slot.unset).toArray = ls at hl ⊢
  have hl : lv_has ls 4 [(0, .ref b)] := hl
  refine va_new (ci := 11) (fs := [.null, .null, .null, .null, .null, .null, .null, .null, .null, .null, .null]) (C := RX11) (T := TX11) (N := 11) hx hb hta inA11 tyX11 tyX11_ok hown (hta _ kw_140) (hta _ kw_141) (hta _ kw_122) hK hW.1 hW.2.1 hW.2.2 hA rfl (fun j hj => by match j, hj with | 0, _ => rfl | 1, _ => rfl | 2, _ => rfl | 3, _ => rfl | 4, _ => rfl | 5, _ => rfl | 6, _ => rfl | 7, _ => rfl | 8, _ => rfl | 9, _ => rfl | 10, _ => rfl | k + 11, h => exact absurd h (by omega)) (Nat.le_of_ble_eq_true rfl) (Nat.le_of_ble_eq_true rfl) dL_law_0 (fun q0 H hP hD hS => ?_)
  have hW : wl (dC, dI) (fun q : Nat => s.heap.size ≤ q) s [(q0, .inr (11, [.null, .null, .null, .null, .null, .null, .null, .null, .null, .null, .null]))] H _ := ⟨hP, hD, hS⟩
  refine W.widen (k := 1) (n := 11) (Nat.le_of_ble_eq_true rfl) (Nat.le_of_ble_eq_true rfl) ?_
  refine lv_dup hx hb dL_law_3 rfl ?_
  refine bkVj (wf := fun (u : (Nat → Nat) × (Nat → Nat)) => wX cI cJ cZ cR u.1 u.2 tX0) (wr := []) CX.1 hW [0] [] rfl rfl (by decide) (by decide) (runIH (n := 0) hao (As := []) (rest := [.ref q0]) CX.1 hW (c_ctor11 l q0 _) ⟨⟨kw_142, kw_143, kw_122, kw_144⟩, rfl, by decide +kernel⟩ rfl rfl ⟨rfl, rfl⟩ ⟨Nat.le_of_ble_eq_true rfl, Nat.le_of_ble_eq_true rfl⟩ (Nat.le_of_ble_eq_true rfl) hl.1 dL_law_4 ⟨Nat.le_of_ble_eq_true rfl, Nat.le_of_ble_eq_true rfl⟩) (fun u H locs hu hW => ?_)
  have hW : wl (dC, dI) (fun q : Nat => s.heap.size ≤ q) s (wX cI cJ cZ cR u.1 u.2 tX0) H locs := hW
  refine W.widen (k := 71) (n := 7950) (Nat.le_of_ble_eq_true rfl) (Nat.le_of_ble_eq_true rfl) ?_
  refine lv_astore_n (lv' := [(1, .ref q0), (0, .ref b)]) hx hb dL_law_7 rfl hl (by decide) rfl (fun ls hl => ?_)
  refine va_new (ci := 12) (fs := [.null, .null, .null, .null, .null, .int 0, .null, .int 0, .null, .null, .null, .null, .null, .int 0, .null, .null, .null, .null, .null, .int 0, .null, .null, .null, .null, .null, .int 0, .int 0, .null, .null, .null, .null, .int 0, .null, .null, .null, .int 0, .int 0, .int 0, .null, .null, .null, .null, .null, .null, .null, .int 0, .null, .null, .int 0, .null, .int 0, .null, .null, .null, .int 0, .null, .int 0, .null, .null, .null, .null, .null, .null, .null, .null, .int 0, .null, .null]) (C := RX12) (T := TX12) (N := 68) hx hb hta inA12 tyX12 tyX12_ok hown (hta _ kw_1490) (hta _ kw_1491) (hta _ kw_135) hK hW.1 hW.2.1 hW.2.2 hA rfl (fun j hj => by match j, hj with | 0, _ => rfl | 1, _ => rfl | 2, _ => rfl | 3, _ => rfl | 4, _ => rfl | 5, _ => rfl | 6, _ => rfl | 7, _ => rfl | 8, _ => rfl | 9, _ => rfl | 10, _ => rfl | 11, _ => rfl | 12, _ => rfl | 13, _ => rfl | 14, _ => rfl | 15, _ => rfl | 16, _ => rfl | 17, _ => rfl | 18, _ => rfl | 19, _ => rfl | 20, _ => rfl | 21, _ => rfl | 22, _ => rfl | 23, _ => rfl | 24, _ => rfl | 25, _ => rfl | 26, _ => rfl | 27, _ => rfl | 28, _ => rfl | 29, _ => rfl | 30, _ => rfl | 31, _ => rfl | 32, _ => rfl | 33, _ => rfl | 34, _ => rfl | 35, _ => rfl | 36, _ => rfl | 37, _ => rfl | 38, _ => rfl | 39, _ => rfl | 40, _ => rfl | 41, _ => rfl | 42, _ => rfl | 43, _ => rfl | 44, _ => rfl | 45, _ => rfl | 46, _ => rfl | 47, _ => rfl | 48, _ => rfl | 49, _ => rfl | 50, _ => rfl | 51, _ => rfl | 52, _ => rfl | 53, _ => rfl | 54, _ => rfl | 55, _ => rfl | 56, _ => rfl | 57, _ => rfl | 58, _ => rfl | 59, _ => rfl | 60, _ => rfl | 61, _ => rfl | 62, _ => rfl | 63, _ => rfl | 64, _ => rfl | 65, _ => rfl | 66, _ => rfl | 67, _ => rfl | k + 68, h => exact absurd h (by omega)) (Nat.le_of_ble_eq_true rfl) (Nat.le_of_ble_eq_true rfl) dL_law_8 (fun q1 H hP hD hS => ?_)
  have hW : wl (dC, dI) (fun q : Nat => s.heap.size ≤ q) s (wX cI cJ cZ cR u.1 u.2 tX0 ++ [(q1, .inr (12, [.null, .null, .null, .null, .null, .int 0, .null, .int 0, .null, .null, .null, .null, .null, .int 0, .null, .null, .null, .null, .null, .int 0, .null, .null, .null, .null, .null, .int 0, .int 0, .null, .null, .null, .null, .int 0, .null, .null, .null, .int 0, .int 0, .int 0, .null, .null, .null, .null, .null, .null, .null, .int 0, .null, .null, .int 0, .null, .int 0, .null, .null, .null, .int 0, .null, .int 0, .null, .null, .null, .null, .null, .null, .null, .null, .int 0, .null, .null]))]) H _ := ⟨hP, hD, hS⟩
  refine W.widen (k := 72) (n := 8018) (Nat.le_of_ble_eq_true rfl) (Nat.le_of_ble_eq_true rfl) ?_
  refine lv_dup hx hb dL_law_11 rfl ?_
  have hW1 : wl (dC, dI) (fun q : Nat => s.heap.size ≤ q) s [(q1, .inr (12, [.null, .null, .null, .null, .null, .int 0, .null, .int 0, .null, .null, .null, .null, .null, .int 0, .null, .null, .null, .null, .null, .int 0, .null, .null, .null, .null, .null, .int 0, .int 0, .null, .null, .null, .null, .int 0, .null, .null, .null, .int 0, .int 0, .int 0, .null, .null, .null, .null, .null, .null, .null, .int 0, .null, .null, .int 0, .null, .int 0, .null, .null, .null, .int 0, .null, .int 0, .null, .null, .null, .null, .null, .null, .null, .null, .int 0, .null, .null]))] H _ := ⟨hW.1.sub _ (sp_fm (sp_R _ _)), hW.2.1.sub _ (va_nd_of (nd_sh _ _)) (sp_R _ _), hW.2.2⟩
  refine bkVj (wf := fun (amm : Nat → Nat) => wM cI cJ cZ amm tm0) (wr := wX cI cJ cZ cR u.1 u.2 tX0) CM hW _ _ (sp_R _ _) (sp_C _ _) (va_nd_of List.nodup_range) (by
      intro i hi h
      obtain ⟨j, hj, rfl⟩ := List.mem_map.mp h
      have := List.mem_range.mp hi
      omega) (runI (n := 0) (As := []) (rest := [.ref q1]) CM hW1 (c_m_init l q1 _ hm0) ⟨⟨kw_1492, kw_1493, kw_135, kw_1494⟩, rfl, by decide +kernel⟩ rfl rfl ⟨rfl, rfl⟩ ⟨Nat.le_of_ble_eq_true rfl, Nat.le_of_ble_eq_true rfl⟩ (Nat.le_of_ble_eq_true rfl) hl.1 dL_law_12 ⟨Nat.le_of_ble_eq_true rfl, Nat.le_of_ble_eq_true rfl⟩) (fun amm H2 locs2 hu2 hWf => ?_)
  refine W.widen (k := 124 + gN tX0 9000) (n := 473133 + gN tX0 9001) (Nat.le_of_ble_eq_true rfl) (Nat.le_of_ble_eq_true rfl) ?_
  refine lv_astore_n (lv' := [(2, .ref q1), (1, .ref q0), (0, .ref b)]) hx hb dL_law_15 rfl hl (by decide) rfl (fun ls hl => ?_)
  refine lv_iconst (v := (0 : Int32)) hx hb dL_law_16 (by decide) ?_
  refine lv_istore_n (lv' := [(3, .int 0), (2, .ref q1), (1, .ref q0), (0, .ref b)]) hx hb dL_law_17 rfl hl (by decide) rfl (fun ls hl => ?_)
  obtain rfl : u.1 2011 = q0 := hu
  obtain rfl : amm 68 = q1 := hu2
  exact law_loop hL ⟨CX, CM, hX, hbl, hbA⟩ Inv hstep hroom (L + 6) 0 tX0 tm0 (by omega) (by omega) hI0 u.1 u.2 amm H2 locs2 ls hWf (lv_sub hl [3, 2, 1, 0] rfl)
