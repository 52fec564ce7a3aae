/-! The game on the class's side: laid out and played. -/
def gmN (f : Nat → Nat) (set : Nat) : Nat → Nat
  | 0 => 0
  | n + 1 => if gmN f set n < (if set.testBit n then f n else 0) then f n else gmN f set n
theorem gmN_s (f : Nat → Nat) (set n : Nat) : gmN f set (n + 1) = if gmN f set n < (if set.testBit n then f n else 0) then f n else gmN f set n := rfl
theorem gmN_le {f : Nat → Nat} {set c : Nat} (h : ∀ s, s < 16 → f s ≤ c) : ∀ n, n ≤ 16 → gmN f set n ≤ c := by
  intro n
  induction n with
  | zero => intro _; exact Nat.zero_le _
  | succ n ih =>
    intro hn
    rw [gmN_s]
    by_cases q : gmN f set n < (if set.testBit n then f n else 0)
    · rw [if_pos q]; exact h n (by omega)
    · rw [if_neg q]; exact ih (by omega)
def ctF (tm : St) (i s : Nat) : Nat := (gA tm 51 (16 * i + s)).toNatClampNeg
/-- a way's worth against a patrol: one more than it catches -/
def gmA (tm : St) (l : List Nat) (c i : Nat) : Int := 1 + (gmN (ctF tm i) (l.getD c 0) 16 : Int)
theorem ctF_ok {tx tm : St} (hP : RP tx tm) {p i s : Nat} (e : gI tm 50 = jn p) (hp : p ≤ 6) (hi : i < p) (hs : s < 16) : ctF tm i s ≤ 1000 ∧ gA tm 51 (16 * i + s) = jn (ctF tm i s) ∧ gA tx 301 (16 * i + s) = jn (ctF tm i s) := by
  obtain ⟨-, n, hn, -, n2, h⟩ := hP
  have : n = p := (jn_inj (by omega) (by omega)).mp (n2.symm.trans e)
  subst this
  obtain ⟨h1, v, hv, h2⟩ := h (16 * i + s) (by omega)
  unfold ctF
  rw [h2, jn_cl (by omega)]
  exact ⟨hv, rfl, h1.trans h2⟩
theorem gmA_ok {tx tm : St} (hP : RP tx tm) {p : Nat} (e : gI tm 50 = jn p) (hp : p ≤ 6) (l : List Nat) (w : Nat) : ∀ c i, c < w → i < p → 0 < gmA tm l c i ∧ gmA tm l c i ≤ 1001 := by
  intro c i _ hi
  have := gmN_le (f := ctF tm i) (set := l.getD c 0) (c := 1000) (fun s hs => (ctF_ok hP e hp hi hs).1) 16 (Nat.le_refl _)
  unfold gmA
  omega
theorem greatX_eq {t tx tm : St} (hP : RP tx tm) {p : Nat} (e : gI tm 50 = jn p) (hp : p ≤ 6) (n1 : gN t 301 = 96) (a1 : gA t 301 = gA tx 301) {i set : Nat} (hi : i < p) (hs : set < 65536) : x3_greatestCatch t (jn i) (jn set) = some (jn (gmN (ctF tm i) set 16)) := by
  have ok := fun s hs => ctF_ok hP e hp hi (s := s) hs
  have L := lp_cnt (b := fun x : Int32 × Int32 => x3_greatestCatch_B5 t (jn i) (jn set) x.1 x.2) (S := Unit) (fun k _ => (jn (gmN (ctF tm i) set k), jn k)) 16
    (fun _ _ => True) (fun y => y = jn (gmN (ctF tm i) set 16)) (by
      rintro k ⟨⟩ hk -
      refine ⟨(), ?_, trivial⟩
      obtain ⟨o1, -, o3⟩ := ok k hk
      have gl := gmN_le (f := ctF tm i) (set := set) (c := 1000) (fun s hs => (ok s hs).1) k (by omega)
      (try dsimp only)
      unfold x3_greatestCatch_B5 x3_catchOf
      rw [if_neg (show ¬ (16 : Int32) ≤ jn k from nle (b := 16) hk (by omega)), jn_bit (by omega) (by omega), gmN_s]
      by_cases b : set.testBit k = true
      · rw [if_pos b, if_pos (show jn 1 = 1 from rfl), if_pos b, show jn i * 16 + jn k = jn (16 * i + k) from by rw [show (16 : Int32) = jn 16 from rfl, jn_mul, jn_add, Nat.mul_comm], n1, gd_jn (by omega) (by omega), jn_cl (by omega), a1, o3, bs]
        by_cases c : gmN (ctF tm i) set k < ctF tm i k
        · rw [if_pos ((jn_lt (by omega) (by omega)).mpr c), if_pos c, nm_eq, nm_eq, jn_s]
        · rw [if_neg (fun z => c ((jn_lt (by omega) (by omega)).mp z)), if_neg c, nm_eq, nm_eq, jn_s]
      · rw [if_neg b, if_neg (show ¬ jn 0 = 1 by decide), if_neg b, if_neg (Nat.not_lt_zero _), nm_eq, jn_s]) (by
      rintro ⟨⟩ -
      exact ⟨_, by (try dsimp only); unfold x3_greatestCatch_B5; rw [if_pos (show (16 : Int32) ≤ jn 16 by decide)], rfl⟩) 0 () (Nat.zero_le _) trivial
  obtain ⟨y, k, rfl⟩ := L
  unfold x3_greatestCatch
  rw [show lp (fun x : Int32 × Int32 => x3_greatestCatch_B5 t (jn i) (jn set) x.1 x.2) ((0 : Int32), (0 : Int32)) = some (jn (gmN (ctF tm i) set 16)) from k, bs]
theorem layRow_eq {t tx tm : St} (hP : RP tx tm) {p w : Nat} {l : List Nat} (e : gI tm 50 = jn p) (hp : p ≤ 6) (hw : w ≤ 24) (n1 : gN t 301 = 96) (a1 : gA t 301 = gA tx 301) (n2 : gN t 1002 = 200) (hl : ∀ j, j < w → gA t 1002 j = jn (l.getD j 0) ∧ l.getD j 0 < 65536) (e6 : gI t 306 = jn w) (e7 : gI t 307 = jn (w + 1)) (n3 : gN t 303 = 175) {i : Nat} (hi : i < p) : ∃ t', lp (fun x : Int32 × St => x3_layOut_B55 (jn i) x.1 x.2) ((0 : Int32), t) = some t' ∧ fx [303] [] t t' ∧ (∀ x, x < w → gB t' 303 (i * (w + 1) + x) = zl (gmA tm l x i)) ∧ ∀ r x, r ≠ i → x < w + 1 → gB t' 303 (r * (w + 1) + x) = gB t 303 (r * (w + 1) + x) := by
  have L := lp_cnt (b := fun x : Int32 × St => x3_layOut_B55 (jn i) x.1 x.2) (fun k s => (jn k, s)) w
    (fun k s => fx [303] [] t s ∧ (∀ x, x < k → gB s 303 (i * (w + 1) + x) = zl (gmA tm l x i)) ∧ ∀ r x, r ≠ i → x < w + 1 → gB s 303 (r * (w + 1) + x) = gB t 303 (r * (w + 1) + x))
    (fun s => fx [303] [] t s ∧ (∀ x, x < w → gB s 303 (i * (w + 1) + x) = zl (gmA tm l x i)) ∧ ∀ r x, r ≠ i → x < w + 1 → gB s 303 (r * (w + 1) + x) = gB t 303 (r * (w + 1) + x)) (by
      rintro k s hk ⟨hf, h1, h2⟩
      have ci := cell_in hp hw (show i < p + 1 by omega) (show k < w + 1 by omega)
      have s3 : gN s 303 = 175 := (hf.2 303 rfl).trans n3
      have g := greatX_eq (t := s) hP e hp ((hf.2 301 rfl).trans n1) ((hf.1 301 rfl).2.2.1.trans a1) hi (hl k hk).2
      have gl := gmN_le (f := ctF tm i) (set := l.getD k 0) (c := 1000) (fun s hs => (ctF_ok hP e hp hi hs).1) 16 (Nat.le_refl _)
      refine ⟨sB s 303 (jn (i * (w + 1) + k)) (zl (gmA tm l k i)), ?_, hf.trans (fx_sB rfl), fun x hx => ?_, fun r x hr hx => ?_⟩
      · (try dsimp only)
        unfold x3_layOut_B55
        rw [(hf.1 306 rfl).1, e6, if_neg (nle hk (by omega)), hf.2 1002 rfl, n2, gd_jn (by omega) (by omega), jn_cl (by omega), (hf.1 1002 rfl).2.2.1, (hl k hk).1, g, bs, (hf.1 307 rfl).1, e7, jn_mul, jn_add, s3, gd_jn ci (by omega), nm_eq, nm_eq, jn_s, show (1 : Int32) = jn 1 from rfl, jn_add, jl_i (by omega)]
        unfold gmA
        rw [← zl_jl, Int.natCast_add]
        rfl
      · rw [gB_put (by omega)]
        by_cases q : x = k
        · rw [q, if_pos rfl]
        · rw [if_neg (by omega)]; exact h1 x (by omega)
      · rw [gB_put (by omega), if_neg (fun z => hr (idx_inj hx (by omega) z).1)]
        exact h2 r x hr hx) (by
      rintro s hs
      exact ⟨s, by (try dsimp only); unfold x3_layOut_B55; rw [(hs.1.1 306 rfl).1, e6, if_pos (lee (by omega))], hs⟩) 0 t (Nat.zero_le _) ⟨fx.rfl, fun x hx => absurd hx (Nat.not_lt_zero x), fun _ _ _ _ => rfl⟩
  exact L
theorem layOut_eq {t tm : St} (hP : RP t tm) {p w : Nat} {l : List Nat} (e : gI tm 50 = jn p) (e2 : gI t 302 = jn p) (hp : p ≤ 6) (hw : w ≤ 24) (hL : LxIs t l) (hlw : l.length = w) (hlt : ∀ j, j < w → l.getD j 0 < 65536) (n2 : gN t 1002 = 200) (n3 : gN t 303 = 175) (n4 : gN t 304 = 6) (n5 : gN t 305 = 24) : ∃ t', x3_layOut t = some t' ∧ fx [303, 304, 305, 306, 307, 308] [] t t' ∧ GX t' (gmA tm l) p w (gB0 p w) (fun j => j) := by
  have n1 := hP.1
  generalize ht1 : sJ (sI (sI t 306 (jn w)) 307 (jn (w + 1))) 308 (1 : Int64) = t1
  have f1 : fx [306, 307, 308] [] t t1 := by
    rw [← ht1]
    exact ((fx_sI rfl).trans (fx_sI rfl)).trans (fx_sJ rfl)
  have s1 : gI t1 306 = jn w ∧ gI t1 307 = jn (w + 1) := by subst ht1; exact ⟨rfl, rfl⟩
  have s18 : gJ t1 308 = 1 := by
    rw [← ht1]
    show va_up (sI (sI t 306 (jn w)) 307 (jn (w + 1))).2.1 308 (1 : Int64) 308 = _
    exact up_at
  have l1 : ∀ j, j < w → gA t 1002 j = jn (l.getD j 0) ∧ l.getD j 0 < 65536 := fun j hj => ⟨hL.2.2 j (by omega), hlt j hj⟩
  have L := lp_cnt (b := fun x : Int32 × St => x3_layOut_B33 x.1 x.2) (fun k s => (jn k, s)) p
    (fun k s => fx [303, 304] [] t1 s ∧ (∀ r, r < k → gA s 304 r = jn (w + r)) ∧ ∀ r x, r < k → x < w + 1 → gB s 303 (r * (w + 1) + x) = zl (if x < w then gmA tm l x r else 1))
    (fun s => fx [303, 304] [] t1 s ∧ (∀ r, r < p → gA s 304 r = jn (w + r)) ∧ ∀ r x, r < p → x < w + 1 → gB s 303 (r * (w + 1) + x) = zl (if x < w then gmA tm l x r else 1)) (by
      rintro i s hi ⟨hf, h1, h2⟩
      have F : fx [303, 304, 306, 307, 308] [] t s := (f1.wk rfl rfl : fx [303, 304, 306, 307, 308] [] t t1).trans (hf.wk rfl rfl)
      have s4 : gN s 304 = 6 := (F.2 304 rfl).trans n4
      generalize ht2 : sA s 304 (jn i) (jn (w + i)) = t2
      have f2 : fx [304] [] s t2 := by rw [← ht2]; exact fx_sA rfl
      have F2 : fx [303, 304, 306, 307, 308] [] t t2 := F.trans (f2.wk rfl rfl)
      have g6 : gI t2 306 = jn w := ((f2.1 306 rfl).1.trans (hf.1 306 rfl).1).trans s1.1
      have g7 : gI t2 307 = jn (w + 1) := ((f2.1 307 rfl).1.trans (hf.1 307 rfl).1).trans s1.2
      obtain ⟨t3, k1, k2, k3, k4⟩ := layRow_eq (t := t2) (tx := t) (l := l) hP e hp hw ((F2.2 301 rfl).trans n1) (F2.1 301 rfl).2.2.1 ((F2.2 1002 rfl).trans n2) (fun j hj => by rw [(F2.1 1002 rfl).2.2.1]; exact l1 j hj) g6 g7 ((F2.2 303 rfl).trans n3) hi
      have ci := cell_in hp hw (show i < p + 1 by omega) (show w < w + 1 by omega)
      have u3 : gN t3 303 = 175 := (k2.2 303 rfl).trans ((F2.2 303 rfl).trans n3)
      refine ⟨sB t3 303 (jn (i * (w + 1) + w)) (1 : Int64), ?_, (hf.trans (f2.wk rfl rfl)).trans ((k2.wk rfl rfl : fx [303, 304] [] t2 t3).trans (fx_sB rfl)), fun r hr => ?_, fun r x hr hx => ?_⟩
      · (try dsimp only)
        unfold x3_layOut_B33
        rw [(F.1 302 rfl).1, e2, if_neg (nle hi (by omega)), s4, gd_jn (by omega) (by omega), (hf.1 306 rfl).1, s1.1, jn_add, ht2, nm_eq, show lp (fun x : Int32 × St => x3_layOut_B55 (jn i) x.1 x.2) ((0 : Int32), t2) = some t3 from k1, bs, (k2.1 307 rfl).1, (k2.1 306 rfl).1, g6, g7, jn_mul, jn_add, u3, gd_jn ci (by omega), nm_eq, nm_eq, jn_s]
      · show gA t3 304 r = _
        rw [(k2.1 304 rfl).2.2.1, ← ht2, gA_sA, jn_cl (by omega)]
        by_cases q : r = i
        · rw [q, upd_at]
        · rw [upd_ne q]; exact h1 r (by omega)
      · rw [gB_put (by omega)]
        by_cases q : r = i
        · rw [q]
          by_cases y : x = w
          · rw [y, if_pos rfl, if_neg (Nat.lt_irrefl w)]
            rfl
          · rw [if_neg (by omega), if_pos (show x < w by omega)]
            exact k3 x (by omega)
        · rw [if_neg (fun z => q (idx_inj hx (by omega) z).1), k4 r x q hx, (f2.1 303 rfl).2.2.2]
          exact h2 r x (by omega) hx) (by
      rintro s hs
      have F : fx [303, 304, 306, 307, 308] [] t s := (f1.wk rfl rfl : fx [303, 304, 306, 307, 308] [] t t1).trans (hs.1.wk rfl rfl)
      exact ⟨s, by (try dsimp only); unfold x3_layOut_B33; rw [(F.1 302 rfl).1, e2, if_pos (lee (by omega))], hs⟩) 0 t1 (Nat.zero_le _) ⟨fx.rfl, fun r hr => absurd hr (Nat.not_lt_zero r), fun r x hr => absurd hr (Nat.not_lt_zero r)⟩
  obtain ⟨t4, a0, a1, a2, a3⟩ := L
  have F4 : fx [303, 304, 306, 307, 308] [] t t4 := (f1.wk rfl rfl : fx [303, 304, 306, 307, 308] [] t t1).trans (a1.wk rfl rfl)
  have g6 : gI t4 306 = jn w := (a1.1 306 rfl).1.trans s1.1
  have g7 : gI t4 307 = jn (w + 1) := (a1.1 307 rfl).1.trans s1.2
  have L2 := lp_cnt (b := fun x : Int32 × St => x3_layOut_B124 x.1 x.2) (fun k s => (jn k, s)) w
    (fun k s => fx [303, 305] [] t4 s ∧ (∀ j, j < k → gA s 305 j = jn j) ∧ ∀ r x, r < p + 1 → x < w + 1 → gB s 303 (r * (w + 1) + x) = if r = p ∧ x < k then zl (-1) else gB t4 303 (r * (w + 1) + x))
    (fun s => fx [303, 305] [] t4 s ∧ (∀ j, j < w → gA s 305 j = jn j) ∧ ∀ r x, r < p + 1 → x < w + 1 → gB s 303 (r * (w + 1) + x) = if r = p ∧ x < w then zl (-1) else gB t4 303 (r * (w + 1) + x)) (by
      rintro j s hj ⟨hf, h1, h2⟩
      have s5 : gN s 305 = 24 := (hf.2 305 rfl).trans ((F4.2 305 rfl).trans n5)
      have s3 : gN s 303 = 175 := (hf.2 303 rfl).trans ((F4.2 303 rfl).trans n3)
      have s2 : gI s 302 = jn p := (hf.1 302 rfl).1.trans ((F4.1 302 rfl).1.trans e2)
      have s7 : gI s 307 = jn (w + 1) := (hf.1 307 rfl).1.trans g7
      have ci := cell_in hp hw (show p < p + 1 by omega) (show j < w + 1 by omega)
      refine ⟨sB (sA s 305 (jn j) (jn j)) 303 (jn (p * (w + 1) + j)) (-1 : Int64), ?_, (hf.trans (fx_sA rfl)).trans (fx_sB rfl), fun x hx => ?_, fun r x hr hx => ?_⟩
      · (try dsimp only)
        unfold x3_layOut_B124
        rw [(hf.1 306 rfl).1, g6, if_neg (nle hj (by omega)), s5, gd_jn (by omega) (by omega), nm_eq, show gI (sA s 305 (jn j) (jn j)) 302 = gI s 302 from rfl, show gI (sA s 305 (jn j) (jn j)) 307 = gI s 307 from rfl, show gN (sA s 305 (jn j) (jn j)) 303 = gN s 303 from rfl, s2, s7, jn_mul, jn_add, s3, gd_jn ci (by omega), nm_eq, nm_eq, jn_s]
      · show gA (sA s 305 (jn j) (jn j)) 305 x = _
        rw [gA_sA, jn_cl (by omega)]
        by_cases q : x = j
        · rw [q, upd_at]
        · rw [upd_ne q]; exact h1 x (by omega)
      · rw [gB_put (by omega), show gB (sA s 305 (jn j) (jn j)) 303 = gB s 303 from rfl]
        by_cases q : r * (w + 1) + x = p * (w + 1) + j
        · obtain ⟨q1, q2⟩ := idx_inj hx (by omega) q
          rw [if_pos q, if_pos ⟨q1, by omega⟩]
          rfl
        · rw [if_neg q, h2 r x hr hx]
          by_cases y : r = p ∧ x < j
          · rw [if_pos y, if_pos ⟨y.1, by omega⟩]
          · have : ¬ (r = p ∧ x < j + 1) := fun z => by
              by_cases v : x = j
              · exact q (by rw [z.1, v])
              · exact y ⟨z.1, by omega⟩
            rw [if_neg y, if_neg this]) (by
      rintro s hs
      exact ⟨s, by (try dsimp only); unfold x3_layOut_B124; rw [(hs.1.1 306 rfl).1, g6, if_pos (lee (by omega))], hs⟩) 0 t4 (Nat.zero_le _) ⟨fx.rfl, fun j hj => absurd hj (Nat.not_lt_zero j), fun r x _ _ => by rw [if_neg (fun z => absurd z.2 (Nat.not_lt_zero x))]⟩
  obtain ⟨t5, b0, b1, b2, b3⟩ := L2
  have F5 : fx [303, 304, 305, 306, 307, 308] [] t t5 := (F4.wk rfl rfl : fx [303, 304, 305, 306, 307, 308] [] t t4).trans (b1.wk rfl rfl)
  have v2 : gI t5 302 = jn p := (F5.1 302 rfl).1.trans e2
  have v6 : gI t5 306 = jn w := (b1.1 306 rfl).1.trans g6
  have v7 : gI t5 307 = jn (w + 1) := (b1.1 307 rfl).1.trans g7
  have v3 : gN t5 303 = 175 := (F5.2 303 rfl).trans n3
  have ci := cell_in hp hw (show p < p + 1 by omega) (show w < w + 1 by omega)
  refine ⟨sB t5 303 (jn (p * (w + 1) + w)) (0 : Int64), ?_, F5.trans (fx_sB rfl), ⟨v2, v6, v7, ?_⟩, ⟨v3, (F5.2 304 rfl).trans n4, (F5.2 305 rfl).trans n5⟩, fun i x hi hx => ?_, fun j hj => b2 j hj, fun i hi => ?_, ?_⟩
  · have wl : (if (24 : Int32) < gI t 1004 then (24 : Int32) else gI t 1004) = jn w := by
      rw [hL.1, hlw, if_neg (fun z => by have := (jn_lt (a := 24) (by omega) (by omega)).mp z; omega)]
    unfold x3_layOut
    rw [wl, nm_eq, nm_eq, nm_eq, show gI (sI t 306 (jn w)) 306 + (1 : Int32) = jn (w + 1) from jn_s w, ht1, show lp (fun x : Int32 × St => x3_layOut_B33 x.1 x.2) ((0 : Int32), t1) = some t4 from a0, bs, show lp (fun x : Int32 × St => x3_layOut_B124 x.1 x.2) ((0 : Int32), t4) = some t5 from b0, bs, v2, v6, v7, jn_mul, jn_add, v3, gd_jn ci (by omega), nm_eq]
  · show gJ t5 308 = _
    rw [(b1.1 308 rfl).2.1, (a1.1 308 rfl).2.1, s18, gD0]
    rfl
  · rw [gB_put (by omega), gT0 hi]
    by_cases q : i * (w + 1) + x = p * (w + 1) + w
    · obtain ⟨q1, q2⟩ := idx_inj hx (by omega) q
      rw [if_pos q, q1, q2]
      unfold cxN gC
      rw [if_neg (Nat.lt_irrefl w), if_neg (by omega), if_neg (by omega), if_pos rfl, if_neg (Nat.lt_irrefl p)]
      rfl
    · rw [if_neg q, b3 i x hi hx]
      by_cases y : i = p
      · have xw : x < w := by
          by_cases v : x = w
          · exact absurd (by rw [y, v]) q
          · omega
        rw [if_pos ⟨y, xw⟩, y]
        unfold cxN gC
        rw [if_pos xw, if_pos xw, if_neg (Nat.lt_irrefl p)]
      · rw [if_neg (fun z => y z.1), a3 i x (by omega) hx]
        unfold cxN gC
        by_cases v : x < w
        · rw [if_pos v, if_pos v, if_pos v, if_pos (show i < p by omega)]
        · rw [if_neg v, if_neg v, if_neg (by omega), if_neg (by omega), if_pos rfl, if_pos (show i < p by omega)]
  · show gA t5 304 i = _
    rw [(b1.1 304 rfl).2.2.1, a2 i hi]
    unfold gB0
    rw [if_pos hi]
  · have b0' : ∀ r, r < p → gB0 p w r = w + r := fun r hr => if_pos hr
    refine ⟨fun j hj => ⟨by (try dsimp only); omega, ?_⟩, fun _ _ _ _ z => z, fun c hc => ?_⟩
    · rintro ⟨r, r1, r2⟩
      rw [b0' r r1] at r2
      (try dsimp only at r2)
      omega
    · by_cases v : c < w
      · exact Or.inr ⟨c, v, rfl⟩
      · exact Or.inl ⟨c - w, by omega, by rw [b0' _ (by omega)]; omega⟩
