/-! The front on the class's side: picked and drawn. -/
theorem smm_mono {f g : Nat → Nat} {n : Nat} (h : ∀ i, i < n → f i ≤ g i) : smm f n ≤ smm g n := by
  induction n with
  | zero => exact Nat.le_refl _
  | succ n ih =>
    show smm f n + f n ≤ smm g n + g n
    have := ih fun i hi => h i (by omega)
    have := h n (by omega)
    omega
theorem vev_cong {f : Nat → Bool} {p q : Nat → Nat} {m : Nat} (h : ∀ r, r < m → p r = q r) : ∀ d, d ≤ m → ∀ s, vev f p m d s = vev f q m d s := by
  intro d
  induction d with
  | zero => intro _ s; rfl
  | succ d ih =>
    intro hd s
    rw [vev_s, vev_s, ih (by omega), ih (by omega), h (m - 1 - d) (by omega)]
theorem and_1023 (b : Nat) : jn b &&& (1023 : Int32) = jn (b % 1024) := by
  rw [show (1023 : Int32) = jn 1023 from rfl, jn_and]
  congr 1
  exact Nat.and_two_pow_sub_one_eq_mod b 10
theorem fpr_le {tx tm : St} (h : RG tx tm) (set : Nat) : fpr tm set ≤ 10000 := wages_le h set
theorem fpr_at {tx tm : St} (h : RG tx tm) {set : Nat} (hs : set < 2 ^ nG tm) : gA tx 404 set = jn (fpr tm set) := (h.2.2.2.2 set hs).2
theorem pick_put {s : St} {c m i x : Nat} (h8 : gI s 408 = jn m) (hm : m < gN s 406) (hb : m < 100000) : x4_pickFront_J115 s (jn c) (jn i) (jn x) = some (.inl (jn (i + 1), sI (sA s 406 (jn m) (jn x)) 408 (jn (m + 1)))) := by
  unfold x4_pickFront_J115
  rw [h8, gd_jn hm (by omega)]
  simp only [nm]
  rw [show gI (sA s 406 (jn m) (jn x)) 408 = gI s 408 from rfl, h8, jn_s, jn_s]
theorem pick_loop {t tm : St} {K n c : Nat} {ss : Nat → Nat} (hG : RG t tm) (h410 : gI t 410 = jn n) (h5 : 2 ^ nG tm * n ≤ gN t 405) (h5b : gN t 405 ≤ 1000000) (h6 : c ≤ gN t 406) (hc : c ≤ 1024) (h7 : c ≤ gN t 407) (hk : ∀ j, j < c → gA t 407 j = jn (1024 * fpr tm (ss j) + ss j)) (hs : ∀ j, j < c → ss j < 2 ^ nG tm) (hV : ∀ j, j < c → Bg (gA t 405) (ss j * n) n (fvl tm K (ss j))) (hb : ∀ j l, j < l → l < c → Bfr (fpr tm) (ss j) (ss l)) : ∃ t' m g, lp (fun x : Int32 × St => x4_pickFront_B19 (jn c) x.1 x.2) ((0 : Int32), sI t 408 0) = some t' ∧ fx [406, 408] [] t t' ∧ gI t' 408 = jn m ∧ m ≤ c ∧ (∀ j, j < m → gA t' 406 j = jn (g j)) ∧ Fr (fpr tm) (fvl tm K) (fun x => ∃ j, j < c ∧ ss j = x) m g := by
  have hp := pow_le10 hG.1.2.1
  have L := lp_cnt (b := fun x : Int32 × St => x4_pickFront_B19 (jn c) x.1 x.2) (fun i s => (jn i, s)) c
    (fun i s => fx [406, 408] [] t s ∧ ∃ m g, gI s 408 = jn m ∧ m ≤ i ∧ (∀ j, j < m → gA s 406 j = jn (g j)) ∧ Fr (fpr tm) (fvl tm K) (fun x => ∃ j, j < i ∧ ss j = x) m g)
    (fun s => fx [406, 408] [] t s ∧ ∃ m g, gI s 408 = jn m ∧ m ≤ c ∧ (∀ j, j < m → gA s 406 j = jn (g j)) ∧ Fr (fpr tm) (fvl tm K) (fun x => ∃ j, j < c ∧ ss j = x) m g) (by
      rintro i s hi ⟨hf, m, g, h8, hmi, hg, hF⟩
      have Gs : RG s tm := hG.fr hf fxn
      have n6 : gN s 406 = gN t 406 := hf.2 406 rfl
      have n7 : gN s 407 = gN t 407 := hf.2 407 rfl
      have si := hs i hi
      have pi := fpr_le hG (ss i)
      have bef : ∀ x, (∃ j, j < i ∧ ss j = x) → Bfr (fpr tm) x (ss i) := by
        rintro x ⟨j, j1, rfl⟩
        exact hb j i j1 hi
      have grow : ∀ {m' g'}, Fr (fpr tm) (fvl tm K) (fun x => (∃ j, j < i ∧ ss j = x) ∨ x = ss i) m' g' → Fr (fpr tm) (fvl tm K) (fun x => ∃ j, j < i + 1 ∧ ss j = x) m' g' := fun {m' g'} h => h.up (by
        rintro x (⟨j, j1, j2⟩ | rfl)
        · exact ⟨j, by omega, j2⟩
        · exact ⟨i, by omega, rfl⟩) (by
        rintro x ⟨j, j1, rfl⟩
        refine ⟨ss j, ?_, cov.self⟩
        by_cases z : j = i
        · exact Or.inr (by rw [z])
        · exact Or.inl ⟨j, by omega, rfl⟩)
      have key : (gA s 407 (jn i).toNatClampNeg) &&& (1023 : Int32) = jn (ss i) := by
        rw [jn_cl (by omega), (hf.1 407 rfl).2.2.1, hk i hi, and_1023, Nat.mul_add_mod, Nat.mod_eq_of_lt (by omega)]
      -- one more at the end
      have put : ∀ (s1 : St) (m1 : Nat) (g1 : Nat → Nat), fx [406, 408] [] t s1 → gI s1 408 = jn m1 → m1 ≤ i → (∀ j, j < m1 → gA s1 406 j = jn (g1 j)) → ∃ s' : St, x4_pickFront_J115 s1 (jn c) (jn i) (jn (ss i)) = some (.inl (jn (i + 1), s')) ∧ fx [406, 408] [] t s' ∧ gI s' 408 = jn (m1 + 1) ∧ m1 + 1 ≤ i + 1 ∧ ∀ j, j < m1 + 1 → gA s' 406 j = jn ((fun j => if j = m1 then ss i else g1 j) j) := fun s1 m1 g1 a1 a2 a3 a4 => by
        refine ⟨_, pick_put a2 (by rw [a1.2 406 rfl]; omega) (by omega), (a1.trans (fx_sA rfl)).trans (fx_sI rfl), rfl, by omega, fun j hj => ?_⟩
        show gA (sA s1 406 (jn m1) (jn (ss i))) 406 j = _
        rw [gA_sA, jn_cl (by omega)]
        (try dsimp only)
        by_cases z : j = m1
        · rw [z, upd_at, if_pos rfl]
        · rw [upd_ne z, if_neg z]; exact a4 j (by omega)
      have start : ∀ r, (if jn m ≤ 0 then (x4_pickFront_J115 s (jn c) (jn i) (jn (ss i))) else (gd (jn m - (1 : Int32)) (gN s 406) (nm (gA s 406 ((jn m - (1 : Int32))).toNatClampNeg) (fun x10 : Int32 => nm (jn (ss i) * (gI s 410)) (fun x11 : Int32 => (x2_compareRows_405 s x11 (x10 * (gI s 410)) (gI s 410)).bind (fun q12 => if q12 < 0 then (gd x10 (gN s 404) (gd (jn (ss i)) (gN s 404) (if (gA s 404 (x10).toNatClampNeg) = (gA s 404 (jn (ss i)).toNatClampNeg) then (nm (sI s 408 (jn m - (1 : Int32))) (fun t18 : St => x4_pickFront_J115 t18 (jn c) (jn i) (jn (ss i)))) else (x4_pickFront_J115 s (jn c) (jn i) (jn (ss i)))))) else (nm (jn i + (1 : Int32)) (fun x19 : Int32 => some (.inl (x19, s)))))))))) = r → x4_pickFront_B19 (jn c) (jn i) s = r := fun r hr => by
        rw [← hr]
        unfold x4_pickFront_B19
        rw [if_neg (nle hi (by omega)), n7, gd_jn (by omega) (by omega), key, h8]
        rfl
      by_cases m0 : m = 0
      · subst m0
        obtain ⟨s', k1, k2, k3, k4, k5⟩ := put s 0 g hf h8 (by omega) hg
        refine ⟨s', start _ ?_, k2, 0 + 1, _, k3, k4, k5, grow (hF.push (fun z => absurd z (Nat.lt_irrefl 0)) (fun j hj => absurd hj (Nat.not_lt_zero j)) (if_pos rfl))⟩
        rw [if_pos (show jn 0 ≤ 0 by decide)]
        exact k1
      · have gl := hF.1 (m - 1) (by omega)
        obtain ⟨l, l1, l2⟩ := gl
        have gs : g (m - 1) < 2 ^ nG tm := by rw [← l2]; exact hs l (by omega)
        have e406 := hg (m - 1) (by omega)
        have bf := bef _ ⟨l, l1, l2⟩
        have vl : Bg (gA s 405) (g (m - 1) * n) n (fvl tm K (g (m - 1))) := by
          rw [← l2, (hf.1 405 rfl).2.2.1]; exact hV l (by omega)
        have vi : Bg (gA s 405) (ss i * n) n (fvl tm K (ss i)) := by
          rw [(hf.1 405 rfl).2.2.1]; exact hV i hi
        have n5 : gN s 405 = gN t 405 := hf.2 405 rfl
        have cx := compare405_eq (t := s) (rowin si (by rw [n5]; exact h5)) (rowin gs (by rw [n5]; exact h5)) (by rw [n5]; exact h5b) vi vl
        have z0 : ¬ jn m ≤ 0 := fun e => by have := (jn_le (b := 0) (by omega) (by omega)).mp e; omega
        have pm := fpr_le hG (g (m - 1))
        have start2 : ∀ r, (if cmpV (fvl tm K (ss i)) (fvl tm K (g (m - 1))) < 0 then (if jn (fpr tm (g (m - 1))) = jn (fpr tm (ss i)) then x4_pickFront_J115 (sI s 408 (jn (m - 1))) (jn c) (jn i) (jn (ss i)) else x4_pickFront_J115 s (jn c) (jn i) (jn (ss i))) else (some (.inl (jn (i + 1), s)))) = r → x4_pickFront_B19 (jn c) (jn i) s = r := fun r hr => start r (by
          rw [← hr, if_neg z0, show (1 : Int32) = jn 1 from rfl, jn_sub (by omega), n6, gd_jn (by omega) (by omega), jn_cl (by omega), e406]
          simp only [nm]
          rw [(hf.1 410 rfl).1, h410, jn_mul, jn_mul, cx, bs, Gs.2.2.2.1, gd_jn gs (by omega), gd_jn si (by omega), jn_cl (by omega), jn_cl (by omega), fpr_at Gs gs, fpr_at Gs si, show jn i + jn 1 = jn (i + 1) from jn_add i 1])
        by_cases lt : fvl tm K (ss i) < fvl tm K (g (m - 1))
        · by_cases pe : fpr tm (g (m - 1)) = fpr tm (ss i)
          · obtain ⟨s', k1, k2, k3, k4, k5⟩ := put (sI s 408 (jn (m - 1))) (m - 1) g (hf.trans (fx_sI rfl)) rfl (by omega) (fun j hj => hg j (by omega))
            refine ⟨s', start2 _ ?_, k2, m, fun j => if j = m - 1 then ss i else g j, by rw [k3, show m - 1 + 1 = m by omega], by omega, fun j hj => k5 j (by omega), grow (hF.put (by omega) lt pe (fun j hj => if_neg (by omega)) (if_pos rfl))⟩
            rw [cmp_lt lt, if_pos (show (-1 : Int32) < 0 by decide), if_pos (by rw [pe])]
            exact k1
          · obtain ⟨s', k1, k2, k3, k4, k5⟩ := put s m g hf h8 hmi hg
            refine ⟨s', start2 _ ?_, k2, m + 1, _, k3, k4, k5, grow (hF.push (fun _ => ⟨lt, by rcases bf with q | q <;> omega⟩) (fun j hj => if_neg (by omega)) (if_pos rfl))⟩
            rw [cmp_lt lt, if_pos (show (-1 : Int32) < 0 by decide), if_neg (fun z => pe ((jn_inj (by omega) (by omega)).mp z))]
            exact k1
        · refine ⟨s, start2 _ ?_, hf, m, g, h8, by omega, hg, grow (hF.skip (by omega) bef (by omega))⟩
          by_cases eq : fvl tm K (ss i) = fvl tm K (g (m - 1))
          · rw [eq, cmp_eq, if_neg (by decide)]
          · rw [cmp_gt (by omega), if_neg (by decide)]) (by
      rintro s hs
      exact ⟨s, by (try dsimp only); unfold x4_pickFront_B19; rw [if_pos (lee (by omega))], hs⟩) 0 (sI t 408 0) (Nat.zero_le _) ⟨fx_sI rfl, 0, fun _ => 0, rfl, Nat.le_refl _, fun j hj => absurd hj (Nat.not_lt_zero j), fun j hj => absurd hj (Nat.not_lt_zero j), fun x ⟨j, hj, _⟩ => absurd hj (Nat.not_lt_zero j), fun i j _ hj => absurd hj (Nat.not_lt_zero j)⟩
  obtain ⟨s, k, k1, m, g, k2, k3, k4, k5⟩ := L
  exact ⟨s, m, g, k, k1, k2, k3, k4, k5⟩
/-- some set without an idler does as well -/
theorem idl_cov {tx tm : St} (hG : RG tx tm) (K : Nat) : ∀ t, t < 2 ^ nG tm → ∃ t', (t' < 2 ^ nG tm ∧ ¬ idl tm (kH tm K) t') ∧ cov (fpr tm) (fvl tm K) t' t := by
  intro t
  induction t using Nat.strongRecOn with
  | _ t ih =>
    intro ht
    by_cases c : idl tm (kH tm K) t
    · obtain ⟨g, g1, g2, g3⟩ := c
      have x1 : t ^^^ 2 ^ g < t := clr_lt g2
      obtain ⟨t', k1, k2⟩ := ih _ x1 (by omega)
      refine ⟨t', k1, k2.trans ⟨?_, ?_, fun _ _ => by omega⟩⟩
      · unfold fpr wagesOf
        refine smm_mono fun i hi => ?_
        rw [Nat.testBit_xor, Nat.testBit_two_pow]
        by_cases e : g = i
        · subst e
          rw [g2]
          simp
        · rw [show decide (g = i) = false from decide_eq_false e, Bool.xor_false]
          exact Nat.le_refl _
      · refine Nat.le_of_eq ?_
        unfold fvl
        refine vev_cong (fun r hr => ?_) _ (Nat.le_refl _) _
        have b := congrArg (fun x => x.testBit r) g3
        (try dsimp only at b)
        rw [nw_bit, nw_bit, decide_eq_true hr, Bool.true_and, Bool.true_and] at b
        unfold usU
        rw [b]
    · exact ⟨t, ⟨ht, c⟩, cov.self⟩
