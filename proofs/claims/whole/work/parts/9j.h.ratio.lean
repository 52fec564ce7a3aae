/-! The game's value on the class's side, as a fraction. -/
theorem playX_eq {t tm : St} (hP : RP t tm) {p w : Nat} {l : List Nat} (e : gI tm 50 = jn p) (e2 : gI t 302 = jn p) (hp0 : 0 < p) (hp : p ≤ 6) (hw0 : 0 < w) (hw : w ≤ 24) (hL : LxIs t l) (hlw : l.length = w) (hlt : ∀ j, j < w → l.getD j 0 < 65536) (n2 : gN t 1002 = 200) (n3 : gN t 303 = 175) (n4 : gN t 304 = 6) (n5 : gN t 305 = 24) {S : Nat → Nat → Nat} {cl rr : Nat → Nat} {K : Nat} (hK : K < 593776) (h : Run (gmA tm l) p w S cl rr K) (fin : ∀ c, c < w + p → 0 ≤ gT (gmA tm l) p w (S K) p c) : ∃ t', x3_play t = some t' ∧ fx [303, 304, 305, 306, 307, 308, 309, 310] [] t t' ∧ gJ t' 309 = zl (gD (gmA tm l) p w (S K) - gT (gmA tm l) p w (S K) p (w + p)) ∧ gJ t' 310 = zl (gT (gmA tm l) p w (S K) p (w + p)) := by
  have hA := gmA_ok hP e hp l w
  obtain ⟨t1, a1, a2, a3⟩ := layOut_eq hP e e2 hp hw hL hlw hlt n2 n3 n4 n5
  rw [← h.1] at a3
  obtain ⟨t2, cn, b1, b2, b3⟩ := runX_eq hp0 hp hw hA hK h fin K 0 t1 _ (by omega) a3
  have ok := h.ok K (Nat.le_refl _)
  obtain ⟨⟨c2, c6, c7, c8⟩, ⟨m3, -, -⟩, hc, -, -, -⟩ := b3
  have ci := cell_in hp hw (show p < p + 1 by omega) (show w < w + 1 by omega)
  have v := hc p w (by omega) (by omega)
  rw [show cxN cn p w w = w + p from if_neg (Nat.lt_irrefl w)] at v
  have rg := gT_range hp hA ok p (Nat.le_refl (w + p))
  have pos := sum_pos hw0 hA ok fin
  have nle0 : ¬ lg_cmp (zl (gT (gmA tm l) p w (S K) p (w + p))) (0 : Int64) ≤ 0 := fun z => by
    have := lg_swap.mp z
    rw [zl_int rg.1 rg.2, show (0 : Int64).toInt = 0 from rfl] at this
    omega
  generalize hx : gT (gmA tm l) p w (S K) p (w + p) = x at *
  refine ⟨sJ (sJ t2 309 (zl (gD (gmA tm l) p w (S K) - x))) 310 (zl x), ?_, ((a2.wk rfl rfl : fx [303, 304, 305, 306, 307, 308, 309, 310] [] t t1).trans (b2.wk rfl rfl)).trans ((fx_sJ rfl).trans (fx_sJ rfl)), ?_, ?_⟩
  · unfold x3_play
    rw [a1, bs, show lp (fun x : Int32 × St => x3_play_B6 x.1 x.2) ((0 : Int32), t1) = some (.inl t2) from b1, bs]
    show x3_play_J49 t2 = _
    unfold x3_play_J49 x3_play_J86 x3_play_J101
    rw [c2, c7, c6, jn_mul, jn_add, m3, gd_jn ci (by omega), nm_eq, jn_cl (by omega), v, if_neg nle0, nm_eq, if_neg nle0, nm_eq, c8, zl_sub]
  · show va_up (sJ t2 309 (zl (gD (gmA tm l) p w (S K) - x))).2.1 310 (zl x) 309 = _
    rw [up_ne (by decide)]
    show va_up t2.2.1 309 _ 309 = _
    exact up_at
  · show va_up (sJ t2 309 (zl (gD (gmA tm l) p w (S K) - x))).2.1 310 (zl x) 310 = _
    exact up_at
/-- how long Euclid goes on -/
def fib : Nat → Nat
  | 0 => 0
  | 1 => 1
  | n + 2 => fib (n + 1) + fib n
theorem fib_s (n : Nat) : fib (n + 2) = fib (n + 1) + fib n := rfl
theorem fib_93 : 9223372036854775808 ≤ fib 93 := by decide +kernel
def euc : Nat → Nat × Nat → Nat × Nat
  | 0, x => x
  | n + 1, x => euc n (x.2, x.1 % x.2)
/-- n turns, all with a rest -/
def eucOn : Nat → Nat → Nat → Prop
  | 0, _, _ => True
  | n + 1, a, b => 0 < b ∧ eucOn n b (a % b)
theorem euc_fib : ∀ n a b, b ≤ a → eucOn (n + 1) a b → fib (n + 2) ≤ a ∧ fib (n + 1) ≤ b := by
  intro n
  induction n with
  | zero =>
    intro a b hab h
    have := h.1
    exact ⟨by show 1 ≤ a; omega, by show 1 ≤ b; omega⟩
  | succ n ih =>
    intro a b hab h
    obtain ⟨h1, h2⟩ := h
    have lt := Nat.mod_lt a h1
    obtain ⟨k1, k2⟩ := ih b (a % b) (Nat.le_of_lt lt) h2
    refine ⟨?_, k1⟩
    have k1' : fib (n + 1 + 1) ≤ b := k1
    rw [fib_s]
    have : b + a % b ≤ a := by
      have e := Nat.div_add_mod a b
      have q : 1 ≤ a / b := Nat.div_pos hab h1
      have : b * 1 ≤ b * (a / b) := Nat.mul_le_mul_left _ q
      omega
    omega
theorem cdiv_eq (t : St) {a b : Nat} (ha : a < 9223372036854775808) (hb : b < 9223372036854775808) : x2_commonDivisor t (jl a) (jl b) = some (jl (Nat.gcd a b)) := by
  -- the loop from turn k on, where n more turns are made
  have zj : ∀ n : Nat, n < 9223372036854775808 → (lg_cmp (jl n) (0 : Int64) = 0 ↔ n = 0) := fun n hn => by
    rw [lcmp_iff]
    constructor
    · intro z
      have := congrArg Int64.toInt z
      rw [Int64.toInt_ofNat_of_lt (by omega), show (0 : Int64).toInt = 0 from rfl] at this
      omega
    · intro z; rw [z]; rfl
  have run : ∀ n k a b, k + n ≤ 99 → a < 9223372036854775808 → b < 9223372036854775808 → ¬ eucOn (n + 1) a b → lp (fun x : Int64 × Int64 × Int32 => x2_commonDivisor_B3 t x.1 x.2.1 x.2.2) (jl a, jl b, jn k) = some (jl (Nat.gcd a b)) := by
    intro n
    induction n with
    | zero =>
      intro k a b hk ha hb h
      have b0 : b = 0 := by
        by_cases z : b = 0
        · exact z
        · exact absurd ⟨by omega, trivial⟩ h
      subst b0
      refine lp_r ?_
      (try dsimp only)
      unfold x2_commonDivisor_B3
      rw [if_neg (show ¬ (100 : Int32) ≤ jn k from nle (b := 100) (by omega) (by omega)), if_pos ((zj 0 (by omega)).mpr rfl), Nat.gcd_zero_right]
    | succ n ih =>
      intro k a b hk ha hb h
      by_cases z : b = 0
      · subst z
        refine lp_r ?_
        (try dsimp only)
        unfold x2_commonDivisor_B3
        rw [if_neg (show ¬ (100 : Int32) ≤ jn k from nle (b := 100) (by omega) (by omega)), if_pos ((zj 0 (by omega)).mpr rfl), Nat.gcd_zero_right]
      · have lt := Nat.mod_lt a (show 0 < b by omega)
        have dv : ∀ {α : Type} (x : Option α), dvl (jl b) x = x := fun x => by
          unfold dvl
          rw [if_neg]
          intro e
          exact z ((zj b hb).mp (by rw [e]; exact lcmp_iff.mpr rfl))
        rw [lp_l (show (fun x : Int64 × Int64 × Int32 => x2_commonDivisor_B3 t x.1 x.2.1 x.2.2) (jl a, jl b, jn k) = some (.inl (jl b, jl (a % b), jn (k + 1))) from by
          (try dsimp only)
          unfold x2_commonDivisor_B3
          rw [if_neg (show ¬ (100 : Int32) ≤ jn k from nle (b := 100) (by omega) (by omega)), if_neg (fun y => z ((zj b hb).mp y)), dv, nm_eq, nm_eq, jl_rem ha hb, jn_s]), ih (k + 1) b (a % b) (by omega) hb (by omega) (fun y => h ⟨by omega, y⟩), Nat.gcd_comm b, ← Nat.gcd_rec, Nat.gcd_comm]
  have short : ¬ eucOn (93 + 1) a b := fun h => by
    have f := fib_93
    obtain ⟨h1, h2⟩ := h
    have lt := Nat.mod_lt a h1
    have := euc_fib 92 b (a % b) (Nat.le_of_lt lt) h2
    have e : fib (92 + 2) = fib 93 + fib 92 := rfl
    omega
  unfold x2_commonDivisor
  rw [show lp (fun x : Int64 × Int64 × Int32 => x2_commonDivisor_B3 t x.1 x.2.1 x.2.2) (jl a, jl b, (0 : Int32)) = some (jl (Nat.gcd a b)) from run 93 0 a b (by omega) ha hb short, bs]
