/-- call number k on both sides, with one answer -/
def stepOK (k : Nat) (tx tm : St) (a1 a2 a3 a4 : Int32) (tx' tm' : St) : Prop :=
  match k with
  | 0 => ∃ r : Int32, x11_step tx a1 a2 a3 a4 = some (r, tx') ∧ m_step tm a1 a2 a3 a4 = some (r, tm')
  | 1 => ∃ r : Int32, x11_trace tx a1 a2 a3 = some (r, tx') ∧ m_trace tm a1 a2 a3 = some (r, tm')
  | 2 => ∃ r : Int32, x11_about tx a1 a2 = some r ∧ m_about tm a1 a2 = some r ∧ tx' = tx ∧ tm' = tm
  | 3 => ∃ r : Int32, x11_write tx a1 = some (r, tx') ∧ m_write tm a1 = some (r, tm')
  | 4 => ∃ r : Int32, x11_erase tx = some (r, tx') ∧ m_erase tm = some (r, tm')
  | 5 => ∃ r : Int32, x11_make tx a1 = some (r, tx') ∧ m_make tm a1 = some (r, tm')
  | 6 => ∃ r : Int32, x11_clear tx = some (r, tx') ∧ m_clear tm = some (r, tm')
  | 7 => ∃ r : Int32, x11_knot tx a1 a2 = some r ∧ m_knot tm a1 a2 = some r ∧ tx' = tx ∧ tm' = tm
  | 8 => ∃ r : Int32, x11_part tx a1 a2 = some r ∧ m_part tm a1 a2 = some r ∧ tx' = tx ∧ tm' = tm
  | 9 => ∃ r : Int32, x11_reaches tx a1 a2 = some (r, tx') ∧ m_reaches tm a1 a2 = some r ∧ tm' = tm
  | 10 => ∃ r : Int32, x11_ways tx a1 = some (r, tx') ∧ m_ways tm a1 = some (r, tm')
  | 11 => ∃ r : Int32, x11_wayAt tx a1 a2 = some (r, tx') ∧ m_wayAt tm a1 a2 = some (r, tm')
  | 12 => ∃ r : Int32, x11_least tx a1 a2 = some (r, tx') ∧ m_least tm a1 a2 = some (r, tm')
  | 13 => ∃ r : Int32, x11_leastWay tx a1 a2 = some (r, tx') ∧ m_leastWay tm a1 a2 = some (r, tm')
  | 14 => ∃ r : Int32, x11_many tx a1 = some (r, tx') ∧ m_many tm a1 = some (r, tm')
  | 15 => ∃ r : Int32, x11_size tx a1 = some (r, tx') ∧ m_size tm a1 = some (r, tm')
  | 16 => ∃ r : Int32, x11_chance tx a1 = some (r, tx') ∧ m_chance tm a1 = some (r, tm')
  | 17 => ∃ r : Int32, x11_weight tx a1 a2 = some (r, tx') ∧ m_weight tm a1 a2 = some (r, tm')
  | 18 => ∃ r : Int32, x11_best tx a1 a2 = some (r, tx') ∧ m_best tm a1 a2 = some (r, tm')
  | 19 => ∃ r : Int32, x11_limbs tx a1 = some r ∧ m_limbs tm a1 = some r ∧ tx' = tx ∧ tm' = tm
  | 20 => ∃ r : Int32, x11_limb tx a1 a2 = some r ∧ m_limb tm a1 a2 = some r ∧ tx' = tx ∧ tm' = tm
  | 21 => ∃ r : Int32, x11_guard tx a1 a2 = some (r, tx') ∧ m_guard tm a1 a2 = some (r, tm')
  | 22 => ∃ r : Int32, x11_holds tx a1 a2 = some (r, tx') ∧ m_holds tm a1 a2 = some r ∧ tm' = tm
  | 23 => ∃ r : Int32, x11_leastGuards tx a1 = some (r, tx') ∧ m_leastGuards tm a1 = some r ∧ tm' = tm
  | 24 => ∃ r : Int32, x11_front tx a1 = some (r, tx') ∧ m_front tm a1 = some (r, tm')
  | 25 => ∃ r : Int32, x11_frontAt tx a1 a2 a3 = some (r, tx') ∧ m_frontAt tm a1 a2 a3 = some (r, tm')
  | 26 => ∃ r : Int32, x11_patrol tx = some (r, tx') ∧ m_patrol tm = some (r, tm')
  | 27 => ∃ r : Int32, x11_catches tx a1 a2 a3 = some (r, tx') ∧ m_catches tm a1 a2 a3 = some (r, tm')
  | 28 => ∃ r : Int32, x11_game tx a1 = some (r, tx') ∧ m_game tm a1 = some (r, tm')
  | 29 => ∃ r : Int32, x11_insider tx a1 = some (r, tx') ∧ m_insider tm a1 = some (r, tm')
  | 30 => ∃ r : Int32, x11_worst tx a1 a2 a3 = some (r, tx') ∧ m_worst tm a1 a2 a3 = some (r, tm')
  | 31 => ∃ r : Int32, x11_may tx a1 a2 a3 = some (r, tx') ∧ m_may tm a1 a2 a3 = some (r, tm')
  | 32 => ∃ r : Int32, x11_ask tx a1 a2 a3 = some (r, tx') ∧ m_ask tm a1 a2 a3 = some (r, tm')
  | 33 => ∃ r : Int32, x11_event tx a1 a2 = some (r, tx') ∧ m_event tm a1 a2 = some (r, tm')
  | 34 => ∃ r : Int32, x11_rest tx = some (r, tx') ∧ m_rest tm = some (r, tm')
  | 35 => ∃ r : Int32, x11_soon tx = some r ∧ m_soon tm = some r ∧ tx' = tx ∧ tm' = tm
  | 36 => ∃ r : Int32, x11_reached tx a1 a2 = some (r, tx') ∧ m_reached tm a1 a2 = some (r, tm')
  | 37 => ∃ r : Int32, x11_walk tx a1 a2 = some (r, tx') ∧ m_walk tm a1 a2 = some (r, tm')
  | 38 => ∃ r : Int32, x11_home tx a1 = some (r, tx') ∧ m_home tm a1 = some (r, tm')
  | 39 => ∃ r : Int32, x11_stands tx a1 a2 = some r ∧ m_stands tm a1 a2 = some r ∧ tx' = tx ∧ tm' = tm
  | 40 => ∃ r : Int32, x11_begins tx a1 a2 = some r ∧ m_begins tm a1 a2 = some r ∧ tx' = tx ∧ tm' = tm
  | 41 => ∃ r : Int32, x11_end tx a1 a2 = some (r, tx') ∧ m_end tm a1 a2 = some (r, tm')
  | 42 => ∃ r : Int32, x11_orderAt tx a1 a2 a3 = some (r, tx') ∧ m_orderAt tm a1 a2 a3 = some (r, tm')
  | 43 => ∃ r : Int32, x11_image tx a1 = some (r, tx') ∧ m_image tm a1 = some (r, tm')
  | 44 => ∃ r : Int32, x11_differ tx a1 = some r ∧ m_differ tm a1 = some r ∧ tx' = tx ∧ tm' = tm
  | 45 => ∃ r : Int32, x11_from tx a1 = some (r, tx') ∧ m_from tm a1 = some (r, tm')
  | 46 => ∃ r : Int32, x11_count tx a1 = some r ∧ m_count tm a1 = some r ∧ tx' = tx ∧ tm' = tm
  | 47 => ∃ r : Int64, x11_digest tx = some r ∧ m_digest tm = some r ∧ tx' = tx ∧ tm' = tm
  | _ => tx' = tx ∧ tm' = tm
theorem lw_small {n : Nat} (h : n ≤ 4000) : (Int32.ofNat n).toInt = n := by
  rw [Int32.toInt_ofNat_of_lt (by omega)]
theorem lw_le {n : Nat} {k : Int32} {v : Nat} (h : n ≤ 3000) (hk : k.toInt = v) (hv : v ≤ 100) : (Int32.ofNat n + k).toInt = n + v := by
  rw [Int32.toInt_add, lw_small (by omega), hk, Int.bmod_eq_of_le (by omega) (by omega)]
theorem lw_cnt {x : Int32} {n : Nat} (h : x.toInt = n) : x.toNatClampNeg = n := by
  show x.toInt.toNat = n
  rw [h]; rfl
theorem lw_in {x : Int32} {n L : Nat} (h : x.toInt = n) (hL : n < L) : vp_in x L := by
  unfold vp_in
  have h0 : ¬ x < 0 := by rw [Int32.lt_iff_toInt_lt, h]; simp
  have h1 := lw_cnt h
  rintro (q | q)
  · exact h0 q
  · omega
theorem lw_gt {n L : Nat} (hL : L ≤ 2560) (hn : n ≤ 2570) : (Int32.ofNat L - 5 < Int32.ofNat n) ↔ L < n + 5 := by
  rw [Int32.lt_iff_toInt_lt, Int32.toInt_sub, lw_small (by omega), lw_small (by omega)]
  have : (5 : Int32).toInt = 5 := by decide
  rw [this, Int.bmod_eq_of_le (by omega) (by omega)]
  omega
theorem lw_sw (y : Int32) : (∃ k : Nat, k < 48 ∧ y = Int32.ofNat k) ∨ (y.toInt < 0 ∨ 47 < y.toInt) := by
  by_cases h : y.toInt < 0 ∨ 47 < y.toInt
  · exact Or.inr h
  · refine Or.inl ⟨y.toInt.toNat, by omega, ?_⟩
    apply Int32.toInt_inj.mp
    rw [lw_small (by omega)]
    omega
theorem lw_add5 (n : Nat) : Int32.ofNat (5 * n) + 5 = Int32.ofNat (5 * (n + 1)) := by
  rw [show 5 * (n + 1) = 5 * n + 5 by omega, Int32.ofNat_add]
  rfl
set_option maxHeartbeats 40000000 in
set_option maxRecDepth 100000 in
theorem law_loop {p : Program} {l : Launch} {e : Env} {s : State} {m : MethodId} {below : List Frame} {meth : Method} {c : Code} {D : va_G} {cI cJ cZ cR : ClassId} {st b L : Nat} {xs : Nat → Int32} (hL : L ≤ 2560) (C : lwC p s m meth c D cI cJ cZ cR st (fun q : Nat => s.heap.size ≤ q) b L xs)
    (Inv : Nat → St → St → Prop) (hstep : ∀ (n k : Nat) (tx tm : St) (a1 a2 a3 a4 : Int32), 5 * n + 5 ≤ L → Inv n tx tm → ∃ tx' tm', stepOK k tx tm a1 a2 a3 a4 tx' tm' ∧ Inv (n + 1) tx' tm') (hroom : ∀ n tx tm, Inv n tx tm → 124 + gN tx 9000 ≤ 600000 ∧ 473133 + gN tx 9001 ≤ 7302250) :
    ∀ (f n : Nat) (tx tm : St), L + 6 ≤ 5 * n + f → 5 * n ≤ L + 5 → Inv n tx tm → ∀ (am gm amm : Nat → Nat) (H : Heap) (locs : List Loc) (ls : Array Slot), wl D (fun q : Nat => s.heap.size ≤ q) s (wX cI cJ cZ cR am gm tx ++ wM cI cJ cZ amm tm) H locs → lv_has ls 4 [(0, .ref b), (1, .ref (am 2011)), (2, .ref (amm 68)), (3, .int (Int32.ofNat (5 * n)))] → W p l e room_1 s m #[.ref b] below meth c H locs (124 + gN tx 9000) (473133 + gN tx 9001) (lw_Z below #[Value.ref b] s) (F0 m 18 ls []) := by
  have C' := C
  obtain ⟨C0, CM, hX, hbl, hbA⟩ := C
  have hx := C0.1.1
  have hb := C0.1.2.1
  intro f
  induction f with
  | zero =>
    intro n tx tm h1 h2 hI am gm amm H locs ls hW hl
    exact absurd h1 (by omega)
  | succ f ih =>
    intro n tx tm h1 h2 hI am gm amm H locs ls hW hl
    have hR := hroom n tx tm hI
    refine lv_iload_n hx hb dL_law_18 rfl (lv_at hl 3 rfl) ?_
    refine lv_aload_n hx hb dL_law_19 rfl (lv_at hl 0 rfl) ?_
    refine va_slen hx hb hX hbl hbA hW.2.2 dL_law_20 ?_
    refine lv_iconst (v := (5 : Int32)) hx hb dL_law_21 (by decide) ?_
    refine lv_isub hx hb dL_law_22 ?_
    refine lv_icmp_gt (tgt := 1641) hx hb dL_law_23 (by decide) (fun cc => ?_) (fun cc => ?_)
    · refine lv_iconst (v := (1 : Int32)) hx hb dL_law_1641 (by decide) ?_
      refine va_forget (fun q hq => hW.2.2.2.2 q hq) ?_
      refine W.widen (k := 600000) (n := 7302250) hR.1 hR.2 ?_
      exact lw_ret hx hb C0.1.2.2.1 C0.1.2.2.2.2.2.2.1 dL_law_1642
    · have hn : 5 * n + 5 ≤ L := by
        rw [lw_gt (by omega) (by omega)] at cc
        omega
      have hi0 : (Int32.ofNat (5 * n)).toInt = (5 * n : Nat) := lw_small (by omega)
      have q1 : (Int32.ofNat (5 * n) + 1).toInt = (5 * n + 1 : Nat) := lw_le (v := 1) (by omega) rfl (by omega)
      have q2 : (Int32.ofNat (5 * n) + 2).toInt = (5 * n + 2 : Nat) := lw_le (v := 2) (by omega) rfl (by omega)
      have q3 : (Int32.ofNat (5 * n) + 3).toInt = (5 * n + 3 : Nat) := lw_le (v := 3) (by omega) rfl (by omega)
      have q4 : (Int32.ofNat (5 * n) + 4).toInt = (5 * n + 4 : Nat) := lw_le (v := 4) (by omega) rfl (by omega)
      have h0 := lw_in hi0 (by omega : 5 * n < L)
      have h1' := lw_in q1 (by omega : 5 * n + 1 < L)
      have h2' := lw_in q2 (by omega : 5 * n + 2 < L)
      have h3' := lw_in q3 (by omega : 5 * n + 3 < L)
      have h4' := lw_in q4 (by omega : 5 * n + 4 < L)
      refine lv_aload_n hx hb dL_law_26 rfl (lv_at hl 0 rfl) ?_
      refine lv_iload_n hx hb dL_law_27 rfl (lv_at hl 3 rfl) ?_
      refine va_sld hx hb hX hbl hbA hW.2.2 h0 dL_law_28 ?_
      refine lv_bipush (v := (63 : Int32)) hx hb dL_law_29 (by decide) ?_
      refine lv_iand hx hb dL_law_31 ?_
      refine lv_topi (fun y ey => ?_)
      have next : ∀ (tx' tm' : St), Inv (n + 1) tx' tm' → ∀ (gm : Nat → Nat) (H : Heap) (locs : List Loc), wl D (fun q : Nat => s.heap.size ≤ q) s (wX cI cJ cZ cR am gm tx' ++ wM cI cJ cZ amm tm') H locs → W p l e room_1 s m #[.ref b] below meth c H locs (124 + gN tx' 9000) (473133 + gN tx' 9001) (lw_Z below #[Value.ref b] s) (F0 m 1635 ls []) := by
        intro tx' tm' hI' gm H locs hW
        refine lv_iinc (v := Int32.ofNat (5 * (n + 1))) (lv' := [(3, .int (Int32.ofNat (5 * (n + 1)))), (0, .ref b), (1, .ref (am 2011)), (2, .ref (amm 68))]) hx hb dL_law_1635 hl (k := 3) rfl (lw_add5 n) (by decide) rfl (fun ls hl => ?_)
        refine lv_goto (tgt := 18) hx hb dL_law_1638 (by decide) ?_
        exact ih (n + 1) tx' tm' (by omega) (by omega) hI' am gm amm H locs ls hW (lv_sub hl [1, 2, 3, 0] rfl)
      rcases lw_sw y with ⟨k, hk, e0⟩ | e0
      · obtain ⟨tx', tm', ho, hI'⟩ := hstep n k tx tm (xs (Int32.ofNat (5 * n) + (1 : Int32)).toNatClampNeg) (xs (Int32.ofNat (5 * n) + (2 : Int32)).toNatClampNeg) (xs (Int32.ofNat (5 * n) + (3 : Int32)).toNatClampNeg) (xs (Int32.ofNat (5 * n) + (4 : Int32)).toNatClampNeg) hn hI
        have hR' := hroom _ _ _ hI'
        match k, hk with
        | 0, _ =>
          refine lv_tableIn (tgt := 240) (off := 208) hx hb dL_law_32 (by rw [e0]; decide) (by rw [e0]; decide) (by rw [e0]; rfl) (by decide) ?_
          exact lw_op0 C' h1' h2' h3' h4' ho hR' hW hl (next tx' tm' hI')
        | 1, _ =>
          refine lv_tableIn (tgt := 293) (off := 261) hx hb dL_law_32 (by rw [e0]; decide) (by rw [e0]; decide) (by rw [e0]; rfl) (by decide) ?_
          exact lw_op1 C' h1' h2' h3' h4' ho hR' hW hl (next tx' tm' hI')
        | 2, _ =>
          refine lv_tableIn (tgt := 336) (off := 304) hx hb dL_law_32 (by rw [e0]; decide) (by rw [e0]; decide) (by rw [e0]; rfl) (by decide) ?_
          exact lw_op2 C' h1' h2' h3' h4' ho hR' hW hl (next tx' tm' hI')
        | 3, _ =>
          refine lv_tableIn (tgt := 369) (off := 337) hx hb dL_law_32 (by rw [e0]; decide) (by rw [e0]; decide) (by rw [e0]; rfl) (by decide) ?_
          exact lw_op3 C' h1' h2' h3' h4' ho hR' hW hl (next tx' tm' hI')
        | 4, _ =>
          refine lv_tableIn (tgt := 392) (off := 360) hx hb dL_law_32 (by rw [e0]; decide) (by rw [e0]; decide) (by rw [e0]; rfl) (by decide) ?_
          exact lw_op4 C' h1' h2' h3' h4' ho hR' hW hl (next tx' tm' hI')
        | 5, _ =>
          refine lv_tableIn (tgt := 405) (off := 373) hx hb dL_law_32 (by rw [e0]; decide) (by rw [e0]; decide) (by rw [e0]; rfl) (by decide) ?_
          exact lw_op5 C' h1' h2' h3' h4' ho hR' hW hl (next tx' tm' hI')
        | 6, _ =>
          refine lv_tableIn (tgt := 428) (off := 396) hx hb dL_law_32 (by rw [e0]; decide) (by rw [e0]; decide) (by rw [e0]; rfl) (by decide) ?_
          exact lw_op6 C' h1' h2' h3' h4' ho hR' hW hl (next tx' tm' hI')
        | 7, _ =>
          refine lv_tableIn (tgt := 441) (off := 409) hx hb dL_law_32 (by rw [e0]; decide) (by rw [e0]; decide) (by rw [e0]; rfl) (by decide) ?_
          exact lw_op7 C' h1' h2' h3' h4' ho hR' hW hl (next tx' tm' hI')
        | 8, _ =>
          refine lv_tableIn (tgt := 474) (off := 442) hx hb dL_law_32 (by rw [e0]; decide) (by rw [e0]; decide) (by rw [e0]; rfl) (by decide) ?_
          exact lw_op8 C' h1' h2' h3' h4' ho hR' hW hl (next tx' tm' hI')
        | 9, _ =>
          refine lv_tableIn (tgt := 507) (off := 475) hx hb dL_law_32 (by rw [e0]; decide) (by rw [e0]; decide) (by rw [e0]; rfl) (by decide) ?_
          exact lw_op9 C' h1' h2' h3' h4' ho hR' hW hl (next tx' tm' hI')
        | 10, _ =>
          refine lv_tableIn (tgt := 540) (off := 508) hx hb dL_law_32 (by rw [e0]; decide) (by rw [e0]; decide) (by rw [e0]; rfl) (by decide) ?_
          exact lw_op10 C' h1' h2' h3' h4' ho hR' hW hl (next tx' tm' hI')
        | 11, _ =>
          refine lv_tableIn (tgt := 563) (off := 531) hx hb dL_law_32 (by rw [e0]; decide) (by rw [e0]; decide) (by rw [e0]; rfl) (by decide) ?_
          exact lw_op11 C' h1' h2' h3' h4' ho hR' hW hl (next tx' tm' hI')
        | 12, _ =>
          refine lv_tableIn (tgt := 596) (off := 564) hx hb dL_law_32 (by rw [e0]; decide) (by rw [e0]; decide) (by rw [e0]; rfl) (by decide) ?_
          exact lw_op12 C' h1' h2' h3' h4' ho hR' hW hl (next tx' tm' hI')
        | 13, _ =>
          refine lv_tableIn (tgt := 629) (off := 597) hx hb dL_law_32 (by rw [e0]; decide) (by rw [e0]; decide) (by rw [e0]; rfl) (by decide) ?_
          exact lw_op13 C' h1' h2' h3' h4' ho hR' hW hl (next tx' tm' hI')
        | 14, _ =>
          refine lv_tableIn (tgt := 662) (off := 630) hx hb dL_law_32 (by rw [e0]; decide) (by rw [e0]; decide) (by rw [e0]; rfl) (by decide) ?_
          exact lw_op14 C' h1' h2' h3' h4' ho hR' hW hl (next tx' tm' hI')
        | 15, _ =>
          refine lv_tableIn (tgt := 685) (off := 653) hx hb dL_law_32 (by rw [e0]; decide) (by rw [e0]; decide) (by rw [e0]; rfl) (by decide) ?_
          exact lw_op15 C' h1' h2' h3' h4' ho hR' hW hl (next tx' tm' hI')
        | 16, _ =>
          refine lv_tableIn (tgt := 708) (off := 676) hx hb dL_law_32 (by rw [e0]; decide) (by rw [e0]; decide) (by rw [e0]; rfl) (by decide) ?_
          exact lw_op16 C' h1' h2' h3' h4' ho hR' hW hl (next tx' tm' hI')
        | 17, _ =>
          refine lv_tableIn (tgt := 731) (off := 699) hx hb dL_law_32 (by rw [e0]; decide) (by rw [e0]; decide) (by rw [e0]; rfl) (by decide) ?_
          exact lw_op17 C' h1' h2' h3' h4' ho hR' hW hl (next tx' tm' hI')
        | 18, _ =>
          refine lv_tableIn (tgt := 764) (off := 732) hx hb dL_law_32 (by rw [e0]; decide) (by rw [e0]; decide) (by rw [e0]; rfl) (by decide) ?_
          exact lw_op18 C' h1' h2' h3' h4' ho hR' hW hl (next tx' tm' hI')
        | 19, _ =>
          refine lv_tableIn (tgt := 797) (off := 765) hx hb dL_law_32 (by rw [e0]; decide) (by rw [e0]; decide) (by rw [e0]; rfl) (by decide) ?_
          exact lw_op19 C' h1' h2' h3' h4' ho hR' hW hl (next tx' tm' hI')
        | 20, _ =>
          refine lv_tableIn (tgt := 820) (off := 788) hx hb dL_law_32 (by rw [e0]; decide) (by rw [e0]; decide) (by rw [e0]; rfl) (by decide) ?_
          exact lw_op20 C' h1' h2' h3' h4' ho hR' hW hl (next tx' tm' hI')
        | 21, _ =>
          refine lv_tableIn (tgt := 853) (off := 821) hx hb dL_law_32 (by rw [e0]; decide) (by rw [e0]; decide) (by rw [e0]; rfl) (by decide) ?_
          exact lw_op21 C' h1' h2' h3' h4' ho hR' hW hl (next tx' tm' hI')
        | 22, _ =>
          refine lv_tableIn (tgt := 886) (off := 854) hx hb dL_law_32 (by rw [e0]; decide) (by rw [e0]; decide) (by rw [e0]; rfl) (by decide) ?_
          exact lw_op22 C' h1' h2' h3' h4' ho hR' hW hl (next tx' tm' hI')
        | 23, _ =>
          refine lv_tableIn (tgt := 919) (off := 887) hx hb dL_law_32 (by rw [e0]; decide) (by rw [e0]; decide) (by rw [e0]; rfl) (by decide) ?_
          exact lw_op23 C' h1' h2' h3' h4' ho hR' hW hl (next tx' tm' hI')
        | 24, _ =>
          refine lv_tableIn (tgt := 942) (off := 910) hx hb dL_law_32 (by rw [e0]; decide) (by rw [e0]; decide) (by rw [e0]; rfl) (by decide) ?_
          exact lw_op24 C' h1' h2' h3' h4' ho hR' hW hl (next tx' tm' hI')
        | 25, _ =>
          refine lv_tableIn (tgt := 965) (off := 933) hx hb dL_law_32 (by rw [e0]; decide) (by rw [e0]; decide) (by rw [e0]; rfl) (by decide) ?_
          exact lw_op25 C' h1' h2' h3' h4' ho hR' hW hl (next tx' tm' hI')
        | 26, _ =>
          refine lv_tableIn (tgt := 1008) (off := 976) hx hb dL_law_32 (by rw [e0]; decide) (by rw [e0]; decide) (by rw [e0]; rfl) (by decide) ?_
          exact lw_op26 C' h1' h2' h3' h4' ho hR' hW hl (next tx' tm' hI')
        | 27, _ =>
          refine lv_tableIn (tgt := 1021) (off := 989) hx hb dL_law_32 (by rw [e0]; decide) (by rw [e0]; decide) (by rw [e0]; rfl) (by decide) ?_
          exact lw_op27 C' h1' h2' h3' h4' ho hR' hW hl (next tx' tm' hI')
        | 28, _ =>
          refine lv_tableIn (tgt := 1064) (off := 1032) hx hb dL_law_32 (by rw [e0]; decide) (by rw [e0]; decide) (by rw [e0]; rfl) (by decide) ?_
          exact lw_op28 C' h1' h2' h3' h4' ho hR' hW hl (next tx' tm' hI')
        | 29, _ =>
          refine lv_tableIn (tgt := 1087) (off := 1055) hx hb dL_law_32 (by rw [e0]; decide) (by rw [e0]; decide) (by rw [e0]; rfl) (by decide) ?_
          exact lw_op29 C' h1' h2' h3' h4' ho hR' hW hl (next tx' tm' hI')
        | 30, _ =>
          refine lv_tableIn (tgt := 1110) (off := 1078) hx hb dL_law_32 (by rw [e0]; decide) (by rw [e0]; decide) (by rw [e0]; rfl) (by decide) ?_
          exact lw_op30 C' h1' h2' h3' h4' ho hR' hW hl (next tx' tm' hI')
        | 31, _ =>
          refine lv_tableIn (tgt := 1153) (off := 1121) hx hb dL_law_32 (by rw [e0]; decide) (by rw [e0]; decide) (by rw [e0]; rfl) (by decide) ?_
          exact lw_op31 C' h1' h2' h3' h4' ho hR' hW hl (next tx' tm' hI')
        | 32, _ =>
          refine lv_tableIn (tgt := 1196) (off := 1164) hx hb dL_law_32 (by rw [e0]; decide) (by rw [e0]; decide) (by rw [e0]; rfl) (by decide) ?_
          exact lw_op32 C' h1' h2' h3' h4' ho hR' hW hl (next tx' tm' hI')
        | 33, _ =>
          refine lv_tableIn (tgt := 1239) (off := 1207) hx hb dL_law_32 (by rw [e0]; decide) (by rw [e0]; decide) (by rw [e0]; rfl) (by decide) ?_
          exact lw_op33 C' h1' h2' h3' h4' ho hR' hW hl (next tx' tm' hI')
        | 34, _ =>
          refine lv_tableIn (tgt := 1272) (off := 1240) hx hb dL_law_32 (by rw [e0]; decide) (by rw [e0]; decide) (by rw [e0]; rfl) (by decide) ?_
          exact lw_op34 C' h1' h2' h3' h4' ho hR' hW hl (next tx' tm' hI')
        | 35, _ =>
          refine lv_tableIn (tgt := 1285) (off := 1253) hx hb dL_law_32 (by rw [e0]; decide) (by rw [e0]; decide) (by rw [e0]; rfl) (by decide) ?_
          exact lw_op35 C' h1' h2' h3' h4' ho hR' hW hl (next tx' tm' hI')
        | 36, _ =>
          refine lv_tableIn (tgt := 1298) (off := 1266) hx hb dL_law_32 (by rw [e0]; decide) (by rw [e0]; decide) (by rw [e0]; rfl) (by decide) ?_
          exact lw_op36 C' h1' h2' h3' h4' ho hR' hW hl (next tx' tm' hI')
        | 37, _ =>
          refine lv_tableIn (tgt := 1331) (off := 1299) hx hb dL_law_32 (by rw [e0]; decide) (by rw [e0]; decide) (by rw [e0]; rfl) (by decide) ?_
          exact lw_op37 C' h1' h2' h3' h4' ho hR' hW hl (next tx' tm' hI')
        | 38, _ =>
          refine lv_tableIn (tgt := 1364) (off := 1332) hx hb dL_law_32 (by rw [e0]; decide) (by rw [e0]; decide) (by rw [e0]; rfl) (by decide) ?_
          exact lw_op38 C' h1' h2' h3' h4' ho hR' hW hl (next tx' tm' hI')
        | 39, _ =>
          refine lv_tableIn (tgt := 1387) (off := 1355) hx hb dL_law_32 (by rw [e0]; decide) (by rw [e0]; decide) (by rw [e0]; rfl) (by decide) ?_
          exact lw_op39 C' h1' h2' h3' h4' ho hR' hW hl (next tx' tm' hI')
        | 40, _ =>
          refine lv_tableIn (tgt := 1420) (off := 1388) hx hb dL_law_32 (by rw [e0]; decide) (by rw [e0]; decide) (by rw [e0]; rfl) (by decide) ?_
          exact lw_op40 C' h1' h2' h3' h4' ho hR' hW hl (next tx' tm' hI')
        | 41, _ =>
          refine lv_tableIn (tgt := 1453) (off := 1421) hx hb dL_law_32 (by rw [e0]; decide) (by rw [e0]; decide) (by rw [e0]; rfl) (by decide) ?_
          exact lw_op41 C' h1' h2' h3' h4' ho hR' hW hl (next tx' tm' hI')
        | 42, _ =>
          refine lv_tableIn (tgt := 1486) (off := 1454) hx hb dL_law_32 (by rw [e0]; decide) (by rw [e0]; decide) (by rw [e0]; rfl) (by decide) ?_
          exact lw_op42 C' h1' h2' h3' h4' ho hR' hW hl (next tx' tm' hI')
        | 43, _ =>
          refine lv_tableIn (tgt := 1529) (off := 1497) hx hb dL_law_32 (by rw [e0]; decide) (by rw [e0]; decide) (by rw [e0]; rfl) (by decide) ?_
          exact lw_op43 C' h1' h2' h3' h4' ho hR' hW hl (next tx' tm' hI')
        | 44, _ =>
          refine lv_tableIn (tgt := 1552) (off := 1520) hx hb dL_law_32 (by rw [e0]; decide) (by rw [e0]; decide) (by rw [e0]; rfl) (by decide) ?_
          exact lw_op44 C' h1' h2' h3' h4' ho hR' hW hl (next tx' tm' hI')
        | 45, _ =>
          refine lv_tableIn (tgt := 1575) (off := 1543) hx hb dL_law_32 (by rw [e0]; decide) (by rw [e0]; decide) (by rw [e0]; rfl) (by decide) ?_
          exact lw_op45 C' h1' h2' h3' h4' ho hR' hW hl (next tx' tm' hI')
        | 46, _ =>
          refine lv_tableIn (tgt := 1598) (off := 1566) hx hb dL_law_32 (by rw [e0]; decide) (by rw [e0]; decide) (by rw [e0]; rfl) (by decide) ?_
          exact lw_op46 C' h1' h2' h3' h4' ho hR' hW hl (next tx' tm' hI')
        | 47, _ =>
          refine lv_tableIn (tgt := 1621) (off := 1589) hx hb dL_law_32 (by rw [e0]; decide) (by rw [e0]; decide) (by rw [e0]; rfl) (by decide) ?_
          exact lw_op47 C' h1' h2' h3' h4' ho hR' hW hl (next tx' tm' hI')
        | k + 48, h => exact absurd h (by omega)
      · refine lv_tableOut (tgt := 1635) hx hb dL_law_32 e0 (by decide) ?_
        obtain ⟨tx', tm', ho, hI'⟩ := hstep n 48 tx tm 0 0 0 0 hn hI
        obtain ⟨rfl, rfl⟩ := (show tx' = tx ∧ tm' = tm from ho)
        exact next _ _ hI' gm H locs hW
