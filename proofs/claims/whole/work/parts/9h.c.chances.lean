/-! The front on the class's side: chances of the sets that can stand in it. -/
def fpr (tm : St) (set : Nat) : Nat := wagesOf tm set (nG tm)
/-- the chance where a set of guards stands, in parts of 1000 to the power of how many steps -/
def fvl (tm : St) (K set : Nat) : Nat := vev (rwF tm (kH tm K) K) (fun r => usU tm (stopsOf tm set (nG tm)) (odr (kH tm K) r)) (mN (kH tm K)) (mN (kH tm K)) 0
/-- one of the set could go, and as much would be stopped -/
def idl (tm : St) (H set : Nat) : Prop := ∃ g, g < nG tm ∧ set.testBit g = true ∧ nw H (stopsOf tm (set ^^^ 2 ^ g) (nG tm)) = nw H (stopsOf tm set (nG tm))
theorem mN_lt (H : Nat) : 2 ^ mN H ≤ 65536 := Nat.le_trans (Nat.pow_le_pow_right (by omega) (mN_le H)) (by decide)
theorem idler_eq {t tm : St} {H set : Nat} (hT : TbR t H) (hG : RG t tm) (hs : set < 2 ^ nG tm) : ∃ q, x4_hasIdler t (jn set) = some q ∧ ((q = 1 ∧ idl tm H set) ∨ (q = 0 ∧ ¬ idl tm H set)) := by
  have h16 := mN_lt H
  obtain ⟨⟨e1, e2, e3⟩, -, n3, -, hst⟩ := id hG
  have hp := pow_le10 e2
  have L : ∀ k i, i + k = nG tm → (∀ g, g < i → ¬ (set.testBit g = true ∧ nw H (stopsOf tm (set ^^^ 2 ^ g) (nG tm)) = nw H (stopsOf tm set (nG tm)))) → ∃ y : Unit ⊕ Unit, lp (fun x => x4_hasIdler_B16 t (jn set) (jn (nw H (stopsOf tm set (nG tm)))) x) (jn i) = some y ∧ ((y = .inl () ∧ idl tm H set) ∨ (y = .inr () ∧ ¬ idl tm H set)) := by
    intro k
    induction k with
    | zero =>
      intro i hi hn
      refine ⟨.inr (), lp_r ?_, Or.inr ⟨rfl, fun ⟨g, g1, g2⟩ => hn g (by omega) g2⟩⟩
      unfold x4_hasIdler_B16
      rw [e3, e1, if_pos ((jn_le (by omega) (by omega)).mpr (by omega))]
    | succ k ih =>
      intro i hi hn
      have nf : ¬ gI t 402 ≤ jn i := by
        rw [e3, e1]; exact nle (by omega) (by omega)
      by_cases b : set.testBit i = true
      · have xl : set ^^^ 2 ^ i < 2 ^ nG tm := Nat.xor_lt_two_pow hs (Nat.pow_lt_pow_right (by omega) (by omega))
        have nl := nw_lt H (stopsOf tm (set ^^^ 2 ^ i) (nG tm))
        have nl2 := nw_lt H (stopsOf tm set (nG tm))
        have st : ∀ r, (if jn (nw H (stopsOf tm (set ^^^ 2 ^ i) (nG tm))) = jn (nw H (stopsOf tm set (nG tm))) then (some (.inr (.inl ())) : Option (Int32 ⊕ (Unit ⊕ Unit))) else some (.inl (jn (i + 1)))) = r → x4_hasIdler_B16 t (jn set) (jn (nw H (stopsOf tm set (nG tm)))) (jn i) = r := fun r hr => by
          rw [← hr]
          unfold x4_hasIdler_B16
          rw [if_neg nf, jn_bit (by omega) (by omega), if_pos b, if_pos (show jn 1 = 1 from rfl), jn_shl1 i (by omega), jn_xor, n3, gd_jn xl (by omega), jn_cl (by omega), (hst _ xl).1, narrowed_eq hT (stops_lt hG _), bs]
          simp only [nm, jn_s]
        by_cases c : nw H (stopsOf tm (set ^^^ 2 ^ i) (nG tm)) = nw H (stopsOf tm set (nG tm))
        · refine ⟨.inl (), lp_r (st _ ?_), Or.inl ⟨rfl, i, by omega, b, c⟩⟩
          rw [if_pos (by rw [c])]
        · obtain ⟨y, k1, k2⟩ := ih (i + 1) (by omega) (fun g hg => by
            by_cases d : g = i
            · subst d; exact fun z => c z.2
            · exact hn g (by omega))
          refine ⟨y, ?_, k2⟩
          rw [lp_l (st _ (by rw [if_neg (fun z => c ((jn_inj (by omega) (by omega)).mp z))]))]
          exact k1
      · obtain ⟨y, k1, k2⟩ := ih (i + 1) (by omega) (fun g hg => by
          by_cases d : g = i
          · subst d; exact fun z => b z.1
          · exact hn g (by omega))
        refine ⟨y, ?_, k2⟩
        rw [lp_l (show x4_hasIdler_B16 t (jn set) (jn (nw H (stopsOf tm set (nG tm)))) (jn i) = some (.inl (jn (i + 1))) from by
          unfold x4_hasIdler_B16
          rw [if_neg nf, jn_bit (by omega) (by omega), if_neg b, if_neg (show ¬ jn 0 = 1 by decide)]
          simp only [nm, jn_s])]
        exact k1
  obtain ⟨y, k1, k2⟩ := L (nG tm) 0 (by omega) (fun g hg => absurd hg (Nat.not_lt_zero g))
  have e : ∀ r, Sum.elim (fun _ => (some (1 : Int32))) (fun _ => some (0 : Int32)) y = r → x4_hasIdler t (jn set) = r := fun r hr => by
    unfold x4_hasIdler
    rw [n3, gd_jn hs (by omega), jn_cl (by omega), (hst _ hs).1, narrowed_eq hT (stops_lt hG _), bs, show (0 : Int32) = jn 0 from rfl, k1, bs]
    exact hr
  rcases k2 with ⟨rfl, k3⟩ | ⟨rfl, k3⟩
  · exact ⟨1, e _ rfl, Or.inl ⟨rfl, k3⟩⟩
  · exact ⟨0, e _ rfl, Or.inr ⟨rfl, k3⟩⟩
theorem va_in {f g : Nat → Int32} {s d n j : Nat} (h : j < n) : va_cpy f g s d n (d + j) = f (s + j) := by
  unfold va_cpy
  rw [if_pos ⟨by omega, by omega⟩, Nat.add_sub_cancel_left]
theorem va_out {f g : Nat → Int32} {s d n j : Nat} (h : j < d ∨ d + n ≤ j) : va_cpy f g s d n j = g j := by
  unfold va_cpy
  rw [if_neg (by omega)]
theorem jn_shl10 (w : Nat) : jn w <<< ((10 : Int32) &&& 31) = jn (1024 * w) := by
  apply Int32.toBitVec.inj
  rw [show ((10 : Int32) &&& 31) = 10 from by decide, Int32.toBitVec_shiftLeft, show (Int32.toBitVec 10).smod 32 = 10#32 from by decide]
  show BitVec.ofNat 32 w <<< 10#32 = BitVec.ofNat 32 (1024 * w)
  apply BitVec.eq_of_toNat_eq
  rw [BitVec.shiftLeft_eq', BitVec.toNat_shiftLeft, BitVec.toNat_ofNat, BitVec.toNat_ofNat, BitVec.toNat_ofNat, show 10 % 2 ^ 32 = 10 from by decide, Nat.shiftLeft_eq]
  omega
theorem key_eq {w s : Nat} (hs : s < 1024) : (jn w <<< ((10 : Int32) &&& 31)) ||| jn s = jn (1024 * w + s) := by
  rw [jn_shl10, jn_or]
  congr 1
  exact (Nat.two_pow_add_eq_or_of_lt (i := 10) hs w).symm
theorem Gw.after0 {k W : Nat} {t u v : St} (h : Gw k 0 t u) (g : Gw k W u v) : Gw k W t v := by
  obtain ⟨-, ⟨-, h3⟩, h4, h5⟩ := h
  have e := h3 (Nat.not_lt_zero _)
  rw [if_neg (Nat.not_lt_zero _)] at h4 h5
  unfold Gw at *
  rw [e, h4, h5, Nat.add_zero, Nat.add_zero] at g
  exact g
/-- what the loop keeps -/
def WcI (tm t : St) (K n W : Nat) (i : Nat) (c : Nat) (s : St) : Prop := fx [12, 14, 405, 407] [12, 9000, 9001] t s ∧ (Gw 12 0 t s ∨ Gw 12 W t s) ∧ R12 s ∧ ∃ ks : Nat → Nat, c ≤ i ∧ (∀ j, j < c → gA s 407 j = jn (1024 * fpr tm (ks j) + ks j) ∧ ks j < i ∧ ¬ idl tm (kH tm K) (ks j)) ∧ (∀ x, x < i → ¬ idl tm (kH tm K) x → ∃ j, j < c ∧ ks j = x) ∧ (∀ j l, j < l → l < c → ks j < ks l) ∧ ∀ x, x < i → ¬ idl tm (kH tm K) x → Bg (gA s 405) (x * n) n (fvl tm K x)
theorem chances_loop {t tm tm0 : St} {K n : Nat} (hG : RG t tm) (hH : RH t tm) (hB : DgB t tm0 (kH tm K) (dgN (rwF tm (kH tm K) K) (mN (kH tm K))) (dgTop (rwF tm (kH tm K) K) (mN (kH tm K)))) (hl : (dgN (rwF tm (kH tm K) K) (mN (kH tm K))).length ≤ 400) (hn : n = (mN (kH tm K) + 2) / 3) (h12 : R12 t) (h9 : gN t 9 ≤ 1000000) (h410 : gI t 410 = jn n) (h5 : 2 ^ nG tm * n ≤ gN t 405) (h5b : gN t 405 ≤ 1000000) (h7 : 2 ^ nG tm ≤ gN t 407) : ∃ y : Int32 × St, lp (fun x : Int32 × Int32 × St => x4_workChances_B40 (jn (2 ^ nG tm)) x.1 x.2.1 x.2.2) ((0 : Int32), (0 : Int32), t) = some y ∧ ∃ c, y.1 = jn c ∧ WcI tm t K n (((dgN (rwF tm (kH tm K) K) (mN (kH tm K))).length + 2) * n) (2 ^ nG tm) c y.2 := by
  have hm := mN_le (kH tm K)
  have hm1 := hB.2.2.2.2.2.2.2.2
  have hT := hB.2.2.2.2.2.2.2.1
  have n1 : 1 ≤ n := by omega
  have n6 : n ≤ 6 := by omega
  obtain ⟨⟨e1, e2, e3⟩, -, l3, l4, hst⟩ := id hG
  have hp := pow_le10 e2
  have val : ∀ u : Nat → Nat, (∀ r, r < mN (kH tm K) → u (odr (kH tm K) r) ≤ 1000) → nv (dgN (rwF tm (kH tm K) K) (mN (kH tm K))) (fun r => u (odr (kH tm K) r)) (mN (kH tm K)) (dgN (rwF tm (kH tm K) K) (mN (kH tm K))).length (dgTop (rwF tm (kH tm K) K) (mN (kH tm K))) = vev (rwF tm (kH tm K) K) (fun r => u (odr (kH tm K) r)) (mN (kH tm K)) (mN (kH tm K)) 0 := fun u hu => nv_ev hu (mN (kH tm K)) (Nat.le_refl _) 0 (Nat.two_pow_pos _)
  generalize hW : ((dgN (rwF tm (kH tm K) K) (mN (kH tm K))).length + 2) * n = W
  have L := lp_cnt (b := fun x : Int32 × Int32 × St => x4_workChances_B40 (jn (2 ^ nG tm)) x.1 x.2.1 x.2.2) (S := Nat × St) (fun i z => (jn z.1, jn i, z.2)) (2 ^ nG tm)
    (fun i z => WcI tm t K n W i z.1 z.2) (fun y => ∃ c, y.1 = jn c ∧ WcI tm t K n W (2 ^ nG tm) c y.2) (by
      rintro i ⟨c, s⟩ hi ⟨hf, hg, hr, ks, c1, c2, c3, c4, c5⟩
      (try dsimp only at hf hg hr c1 c2 c3 c4 c5 ⊢)
      have Ts := hT.fr hf
      have Gs : RG s tm := hG.fr hf fxn
      obtain ⟨q, q1, q2⟩ := idler_eq Ts Gs hi
      have nf : ¬ jn (2 ^ nG tm) ≤ jn i := nle hi (by omega)
      rcases q2 with ⟨rfl, q3⟩ | ⟨rfl, q3⟩
      · refine ⟨(c, s), ?_, hf, hg, hr, ks, by omega, fun j hj => ?_, fun x hx nx => ?_, c4, fun x hx nx => ?_⟩
        · unfold x4_workChances_B40
          rw [if_neg nf, q1, bs, if_neg (by decide)]
          simp only [nm, jn_s]
        · obtain ⟨a, b, d⟩ := c2 j hj
          exact ⟨a, by omega, d⟩
        · by_cases z : x = i
          · subst z; exact absurd q3 nx
          · exact c3 x (by omega) nx
        · by_cases z : x = i
          · subst z; exact absurd q3 nx
          · exact c5 x (by omega) nx
      · have sl := stops_lt hG i
        have Hs : RH s tm := hH.fr hf fxn
        obtain ⟨s1, o1, o2, o3⟩ := takeOdds_eq (never := stopsOf tm i (nG tm)) Ts hr.2.2 Hs (by omega)
        have B1 := (hB.frx hf).frx o2
        have uok := usU_ok Hs (stopsOf tm i (nG tm))
        have f9 : gN s1 9 ≤ 1000000 := by rw [o2.2 9 rfl, hf.2 9 rfl]; exact h9
        obtain ⟨s2, a, w1, w2, w3, w4, w5, w6⟩ := work_of (u := usU tm (stopsOf tm i (nG tm))) B1 hl (hr.fr o2) f9 (fun r hr => (uok _ (odr_ok hr).1).1) o3
        rw [val _ (fun r hr => (uok _ (odr_ok hr).1).1), ← hn] at w6
        rw [← hn, hW] at w3
        rw [← hn] at w5
        have F2 : fx [12, 14, 405, 407] [12, 9000, 9001] t s2 := hf.trans ((o2.wk rfl rfl : fx [12, 14, 405, 407] [12, 9000, 9001] s s1).trans (w2.wk rfl rfl))
        have F2s : fx [12, 14] [12, 9000, 9001] s s2 := (o2.wk rfl rfl : fx [12, 14] [12, 9000, 9001] s s1).trans (w2.wk rfl rfl)
        have n405 : gN s2 405 = gN t 405 := F2.2 405 rfl
        have n407 : gN s2 407 = gN t 407 := F2.2 407 rfl
        have g12 := w4.1.le
        have ri := rowin hi h5
        generalize hs3 : sAr s2 405 (va_cpy (gA s2 12) (gA s2 405) a (i * n) n) = s3
        have f3 : fx [405] [] s2 s3 := by rw [← hs3]; exact fx_sAr rfl
        have a3 : gA s3 405 = va_cpy (gA s2 12) (gA s2 405) a (i * n) n := by rw [← hs3]; exact gA_sAr
        have F3 : fx [12, 14, 405, 407] [12, 9000, 9001] t s3 := F2.trans (f3.wk rfl rfl)
        have G3 : RG s3 tm := hG.fr F3 fxn
        have gg : Gw 12 W t s2 := by
          have z : Gw 12 W s s2 := gw_fx0 o2 w3
          rcases hg with hg | hg
          · exact hg.after0 z
          · exact hg.trans z
        have cl : c < gN s3 407 := by rw [f3.2 407 rfl, n407]; omega
        have wl := wages_le hG i
        refine ⟨(c + 1, sA s3 407 (jn c) (jn (1024 * fpr tm i + i))), ?_, F3.trans (fx_sA rfl), Or.inr ((gg.fx f3).fx (fx_sA (S := [407]) rfl)), (w4.fr f3).fr (fx_sA (S := [407]) (T := []) rfl), fun j => if j = c then i else ks j, by omega, fun j hj => ?_, fun x hx nx => ?_, fun j l hj hl => ?_, fun x hx nx => ?_⟩
        · unfold x4_workChances_B40
          rw [if_neg nf, q1, bs, if_pos rfl, Gs.2.2.1, gd_jn hi (by omega), jn_cl (by omega), (Gs.2.2.2.2 i hi).1, o1, bs, w1, bs]
          (try dsimp only)
          unfold x4_workChances_J76
          rw [(F2.1 410 rfl).1, h410, jn_mul]
          unfold cpk
          rw [if_neg (by
            rw [jn_cl (by omega), jn_cl (by omega), jn_cl (by omega)]
            rintro (e | e | e | e | e)
            · exact jn_neg (by omega) e
            · exact jn_neg (by omega) e
            · exact jn_neg (by omega) e
            · omega
            · omega), jn_cl (by omega), jn_cl (by omega), jn_cl (by omega), hs3]
          simp only [nm]
          rw [G3.2.2.2.1, gd_jn hi (by omega), gd_jn cl (by omega), jn_cl (by omega), (G3.2.2.2.2 i hi).2, key_eq (by omega), jn_s, jn_s]
          rfl
        · (try dsimp only at hj ⊢)
          rw [gA_sA, jn_cl (by omega)]
          by_cases z : j = c
          · rw [if_pos z, z, upd_at]
            exact ⟨rfl, by omega, q3⟩
          · obtain ⟨a1, b1, d1⟩ := c2 j (by omega)
            rw [upd_ne z, if_neg z, (f3.1 407 rfl).2.2.1, (F2s.1 407 rfl).2.2.1]
            exact ⟨a1, by omega, d1⟩
        · by_cases z : x = i
          · exact ⟨c, Nat.lt_succ_self c, by (try dsimp only); rw [if_pos rfl, z]⟩
          · obtain ⟨j, j1, j2⟩ := c3 x (by omega) nx
            exact ⟨j, Nat.lt_succ_of_lt j1, by (try dsimp only); rw [if_neg (by omega)]; exact j2⟩
        · (try dsimp only at hl ⊢)
          by_cases z : l = c
          · rw [if_neg (by omega), if_pos z]
            exact (c2 j (by omega)).2.1
          · rw [if_neg (by omega), if_neg z]
            exact c4 j l hj (by omega)
        · have e4 : gA (sA s3 407 (jn c) (jn (1024 * fpr tm i + i))) 405 = gA s3 405 := gA_sA_ne (by decide)
          rw [e4, a3]
          by_cases z : x = i
          · subst z
            refine ⟨w6.1, fun j hj => ?_⟩
            rw [va_in hj]
            exact w6.2 j hj
          · have k := c5 x (by omega) nx
            refine ⟨k.1, fun j hj => ?_⟩
            have ap := row_apart (n := n) z
            rw [va_out (by omega), (F2s.1 405 rfl).2.2.1]
            exact k.2 j hj) (by
      rintro ⟨c, s⟩ hs
      exact ⟨(jn c, s), by (try dsimp only); unfold x4_workChances_B40; rw [if_pos (lee (by omega))], c, rfl, hs⟩) 0 (0, t) (Nat.zero_le _) ⟨fx.rfl, Or.inl (gw_nil (S := []) fx.rfl), h12, fun _ => 0, Nat.le_refl _, fun j hj => absurd hj (Nat.not_lt_zero j), fun x hx => absurd hx (Nat.not_lt_zero x), fun j l _ hl => absurd hl (Nat.not_lt_zero l), fun x hx => absurd hx (Nat.not_lt_zero x)⟩
  exact L
