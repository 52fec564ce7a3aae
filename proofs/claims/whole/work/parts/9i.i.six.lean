/-! Six by six noughts and ones: nine is the most. -/
def uu (tc : Nat) (y : Nat → Int) (j i : Nat) : Int := if i < 3 then Tc tc j i else y (3 * j + (i - 3))
def cly (y : Nat → Int) : Nat → Int := fun k => if y k = 1 then 1 else 0
theorem cly_of {y x : Nat → Int} {k l : Nat} (h : y k = x l) : cly y k = cly x l := by
  unfold cly
  rw [h]
theorem cly_at {y : Nat → Int} {k : Nat} {v : Int} (e : y k = v) (h : v = 0 ∨ v = 1) : cly y k = v := by
  unfold cly
  rw [e]
  rcases h with z | z
  · rw [z]; rfl
  · rw [z]; rfl
theorem PK_cl (F : (Nat → Int) → Int) : ∀ n x, PK n (fun y => F (cly y)) x = PK n F (cly x) := by
  intro n
  induction n with
  | zero => intro x; rfl
  | succ n ih =>
    intro x
    rw [PK_s, PK_s, ih, ih]
    have e : ∀ v : Int, v = 0 ∨ v = 1 → cly (fun k => if k = n then v else x k) = fun k => if k = n then v else cly x k := fun v hv => by
      funext k
      by_cases c : k = n
      · rw [cly_at (v := v) (if_pos c) hv, if_pos c]
      · rw [if_neg c]
        exact cly_of (if_neg c)
    rw [e 0 (Or.inl rfl), e 1 (Or.inr rfl)]
theorem PK_f (tc : Nat) (x : Nat → Int) : PK 18 (fun y => dt 6 (uu tc y)) x = (dQ etab 3 true 6 (fun m => m) 0 tc : Int) - (dQ etab 3 false 6 (fun m => m) 0 tc : Int) := by
  have e : (fun y => dt 6 (uu tc y)) = fun y => dl 3 (fun σ => (fun σ (y : Nat → Int) => dt 3 (fun k i => y (3 * σ k + i))) σ y) 6 (fun m => m) 0 (Tc tc) := by
    funext y
    rw [dt_dl, dl_T (T := uu tc y) (T' := Tc tc) fun c m _ hm => if_pos (by omega)]
    congr 1
  rw [e, ← dl_PK 18 x (fun σ y => dt 3 (fun k i => y (3 * σ k + i)))]
  rw [dl_leaf (k := 3) (n := 6) (l' := fun τ => (Ep (τ 0) (τ 1) (τ 2) : Int) - (En (τ 0) (τ 1) (τ 2) : Int)) rfl (fun m m' h _ => h) (fun m h => h) fun τ h1 h2 h3 => PK_leaf (by omega) (by omega) h3 x]
  have q := dQ_dl etab_ok (tc := tc) (k := 3) (n := 6) true (σ := fun m => m) (i := 0) rfl (fun m m' h _ => h) (fun m h => h)
  rw [show sgB true = 1 from rfl, Int.one_mul] at q
  exact q.symm
theorem uu_abs (tc : Nat) (y : Nat → Int) : (dt 6 (uu tc (cly y))).natAbs ≤ 720 := by
  have k := dt_abs (n := 6) (V := uu tc (cly y)) (w := fun _ _ => 1) (fun j i _ _ => by
    unfold uu Tc cly
    split
    · split <;> decide
    · split <;> decide)
  have e : pmN 6 (fun _ _ => 1) = 720 := by decide +kernel
  omega
theorem six_of {tc : Nat} (hc : chk tc = true) {u : Nat → Nat → Int} (hb : Bits 6 u) (ht : ∀ j i, j < 6 → i < 3 → u j i = Tc tc j i) : dt 6 u ≤ 9 := by
  have bd := uu_abs tc
  have hf : ∀ y : Nat → Int, 0 ≤ 1014 + dt 6 (uu tc (cly y)) ∧ 1014 + dt 6 (uu tc (cly y)) < 4096 := fun y => by
    have := bd y
    omega
  have val : PK 18 (fun y => 1014 + dt 6 (uu tc (cly y))) (fun _ => 0) = (BI : Int) + ((dQ etab 3 true 6 (fun m => m) 0 tc : Int) - (dQ etab 3 false 6 (fun m => m) 0 tc : Int)) := by
    rw [PK_add (fun _ => 1014) (fun y => dt 6 (uu tc (cly y))), PK_const, PK_cl (fun y => dt 6 (uu tc y)), PK_f]
    rw [show BI = 1014 * ones 18 from by unfold BI; exact Eq.refl _, Int.natCast_mul]
    rfl
  have pos := (PK_in hf 18 (fun _ => 0)).1
  unfold chk at hc
  have hm := Nat.eq_of_beq_eq_true hc
  generalize dQ etab 3 true 6 (fun m => m) 0 tc = A at *
  generalize dQ etab 3 false 6 (fun m => m) 0 tc = B at *
  have le : B ≤ BI + A := by
    rw [val] at pos
    omega
  have hZ : ((BI + A - B : Nat) : Int) = PK 18 (fun y => 1014 + dt 6 (uu tc (cly y))) (fun _ => 0) := by
    rw [val, Int.natCast_sub le, Int.natCast_add]
    omega
  have k := chk_all hf 18 (fun _ => 0) (fun k => if k < 18 then u (k / 3) (k % 3 + 3) else 0) (BI + A - B) hZ hm (fun k hk => if_neg (by omega)) (fun k hk => by
    (try dsimp only)
    rw [if_pos hk]
    exact hb _ _ (by omega) (by omega))
  (try dsimp only at k)
  have e : dt 6 (uu tc (cly fun k => if k < 18 then u (k / 3) (k % 3 + 3) else 0)) = dt 6 u := dt_ext fun j i hj hi => by
    unfold uu
    by_cases c : i < 3
    · rw [if_pos c]; exact (ht j i hj c).symm
    · rw [if_neg c]
      refine cly_at ?_ (hb j i hj hi)
      (try dsimp only)
      rw [if_pos (show 3 * j + (i - 3) < 18 by omega), show (3 * j + (i - 3)) / 3 = j by omega, show (3 * j + (i - 3)) % 3 + 3 = i by omega]
  rw [e] at k
  omega
def bN (z : Int) : Nat := if z = 1 then 1 else 0
theorem bN_le (z : Int) : bN z ≤ 1 := by
  unfold bN
  split <;> omega
def tN (u : Nat → Nat → Int) (j : Nat) : Nat := bN (u j 0) + 2 * bN (u j 1) + 4 * bN (u j 2)
def tcd (u : Nat → Nat → Int) : Nat := tN u 0 + 8 * tN u 1 + 64 * tN u 2 + 512 * tN u 3 + 4096 * tN u 4 + 32768 * tN u 5
theorem tcd_bit (u : Nat → Nat → Int) {c i : Nat} (hc : c < 6) (hi : i < 3) : tcd u / 2 ^ (3 * c + i) % 2 = bN (u c i) := by
  unfold tcd tN
  have b := fun c i => bN_le (u c i)
  have b00 := b 0 0
  have b01 := b 0 1
  have b02 := b 0 2
  have b10 := b 1 0
  have b11 := b 1 1
  have b12 := b 1 2
  have b20 := b 2 0
  have b21 := b 2 1
  have b22 := b 2 2
  have b30 := b 3 0
  have b31 := b 3 1
  have b32 := b 3 2
  have b40 := b 4 0
  have b41 := b 4 1
  have b42 := b 4 2
  have b50 := b 5 0
  have b51 := b 5 1
  have b52 := b 5 2
  rcases (show i = 0 ∨ i = 1 ∨ i = 2 by omega) with rfl | rfl | rfl <;> rcases (show c = 0 ∨ c = 1 ∨ c = 2 ∨ c = 3 ∨ c = 4 ∨ c = 5 by omega) with rfl | rfl | rfl | rfl | rfl | rfl <;> simp only [Nat.reduceMul, Nat.reduceAdd, Nat.reducePow] <;> omega
theorem tcd_Tc {u : Nat → Nat → Int} (hb : Bits 6 u) {c i : Nat} (hc : c < 6) (hi : i < 3) : u c i = Tc (tcd u) c i := by
  have k := tcd_bit u hc hi
  have e : Nat.land (Nat.shiftRight (tcd u) (3 * c + i)) 1 = bN (u c i) := by
    show (tcd u >>> (3 * c + i)) &&& 1 = _
    rw [Nat.and_one_is_mod, Nat.shiftRight_eq_div_pow]
    exact k
  unfold Tc tbt
  rw [e]
  rcases hb c i hc (by omega) with z | z
  · rw [z]; rfl
  · rw [z]; rfl
/-- two rows change places -/
def rw2 (V : Nat → Nat → Int) (x y : Nat → Int) : Nat → Nat → Int := fun j i => if i = 3 then x j else if i = 4 then y j else V j i
theorem rw2_swap (V : Nat → Nat → Int) (x y : Nat → Int) : dt 6 (rw2 V x y) = - dt 6 (rw2 V y x) := by
  have z : ∀ x : Nat → Int, dt 6 (rw2 V x x) = 0 := fun x => dt_req (n := 6) (a := 3) (b := 4) (by omega) (by omega) (by omega) 6 0 (rw2 V x x) rfl (fun j _ => rfl) (fun j hj => absurd hj (Nat.not_lt_zero j))
  have l3 : ∀ x x' y : Nat → Int, dt 6 (rw2 V (fun j => x j + x' j) y) = 1 * dt 6 (rw2 V x y) + 1 * dt 6 (rw2 V x' y) := fun x x' y => dt_rlin (c := 3) (by omega) (fun j _ => by
    show x j + x' j = 1 * x j + 1 * x' j
    omega) (fun j i _ _ hi => by
    unfold rw2
    rw [if_neg hi, if_neg hi, if_neg hi]
    exact ⟨rfl, rfl⟩)
  have l4 : ∀ x y y' : Nat → Int, dt 6 (rw2 V x (fun j => y j + y' j)) = 1 * dt 6 (rw2 V x y) + 1 * dt 6 (rw2 V x y') := fun x y y' => dt_rlin (c := 4) (by omega) (fun j _ => by
    show y j + y' j = 1 * y j + 1 * y' j
    omega) (fun j i _ _ hi => by
    unfold rw2
    rw [if_neg hi, if_neg hi, if_neg hi]
    exact ⟨rfl, rfl⟩)
  have k := z (fun j => x j + y j)
  rw [l3, l4, l4, z x, z y] at k
  omega
theorem aup_all : ∀ {k lo : Nat} {f : Nat → Bool}, aup k lo f = true → ∀ t, lo ≤ t → t < lo + k → f t = true := by
  intro k
  induction k with
  | zero => intro lo f _ t h1 h2; omega
  | succ k ih =>
    intro lo f h t h1 h2
    have h' : (bif f lo then aup k (lo + 1) f else false) = true := h
    cases e : f lo with
    | false => rw [e, cond_false] at h'; exact absurd h' (by decide)
    | true =>
      rw [e, cond_true] at h'
      by_cases c : t = lo
      · rw [c]; exact e
      · exact ih h' t (by omega) (by omega)
theorem tN_lt (u : Nat → Nat → Int) (j : Nat) : tN u j < 8 := by
  unfold tN
  have := bN_le (u j 0)
  have := bN_le (u j 1)
  have := bN_le (u j 2)
  omega
theorem six_sorted (hck : ∀ a b c, a ≤ b → b ≤ c → c < 8 → ck3 a b c = true) {u : Nat → Nat → Int} (hb : Bits 6 u) (h0 : tN u 0 ≤ tN u 1) (h1 : tN u 1 ≤ tN u 2) (h2 : tN u 2 ≤ tN u 3) (h3 : tN u 3 ≤ tN u 4) (h4 : tN u 4 ≤ tN u 5) : (dt 6 u).natAbs ≤ 9 := by
  have l := tN_lt u
  have l5 := l 5
  have l3 := l 3
  have l4 := l 4
  have hc : chk (tcd u) = true := by
    have a := hck _ _ _ h0 h1 (l 2)
    unfold ck3 at a
    have b := aup_all a (tN u 3) h2 (by omega)
    have c := aup_all b (tN u 4) h3 (by omega)
    exact aup_all c (tN u 5) h4 (by omega)
  have up := six_of hc hb fun j i hj hi => tcd_Tc hb hj hi
  have lo := six_of hc (u := rw2 u (fun j => u j 4) (fun j => u j 3)) (fun j i hj hi => by
    unfold rw2
    split
    · exact hb j 4 hj (by omega)
    · split
      · exact hb j 3 hj (by omega)
      · exact hb j i hj hi) (fun j i hj hi => by
    unfold rw2
    rw [if_neg (by omega), if_neg (by omega)]
    exact tcd_Tc hb hj hi)
  have sw := rw2_swap u (fun j => u j 4) (fun j => u j 3)
  have e : dt 6 (rw2 u (fun j => u j 3) (fun j => u j 4)) = dt 6 u := dt_ext fun j i _ _ => by
    unfold rw2
    by_cases c : i = 3
    · rw [if_pos c, c]
    · rw [if_neg c]
      by_cases d : i = 4
      · rw [if_pos d, d]
      · rw [if_neg d]
  rw [e] at sw
  omega
/-- a measure that falls where two neighbours change places -/
def muS (u : Nat → Nat → Int) : Nat := 6 * tN u 0 + 5 * tN u 1 + 4 * tN u 2 + 3 * tN u 3 + 2 * tN u 4 + tN u 5
theorem six_step {u : Nat → Nat → Int} (hb : Bits 6 u) {p : Nat} (hp : p < 5) (h : tN u (p + 1) < tN u p) : ∃ v, Bits 6 v ∧ (dt 6 v).natAbs = (dt 6 u).natAbs ∧ muS v < muS u := by
  have hs := st_swap_adj (n := 6) (V := u) (p := p) (by omega) (u p) (u (p + 1))
  have e : dt 6 (st (st u p (u p)) (p + 1) (u (p + 1))) = dt 6 u := by rw [st_self, st_self]
  rw [e] at hs
  have vt : ∀ j, st (st u p (u (p + 1))) (p + 1) (u p) j = if j = p then u (p + 1) else if j = p + 1 then u p else u j := fun j => by
    unfold st
    by_cases a : j = p
    · rw [if_neg (by omega), if_pos a, if_pos a]
    · by_cases b : j = p + 1
      · rw [if_pos b, if_neg a, if_pos b]
      · rw [if_neg b, if_neg a, if_neg a, if_neg b]
  refine ⟨st (st u p (u (p + 1))) (p + 1) (u p), fun j i hj hi => ?_, by rw [hs, Int.natAbs_neg], ?_⟩
  · rw [vt]
    split
    · exact hb _ _ (by omega) hi
    · split
      · exact hb _ _ (by omega) hi
      · exact hb _ _ hj hi
  · have tv : ∀ j, tN (st (st u p (u (p + 1))) (p + 1) (u p)) j = if j = p then tN u (p + 1) else if j = p + 1 then tN u p else tN u j := fun j => by
      unfold tN
      rw [vt]
      split
      · rfl
      · split
        · rfl
        · rfl
    unfold muS
    rw [tv 0, tv 1, tv 2, tv 3, tv 4, tv 5]
    rcases (show p = 0 ∨ p = 1 ∨ p = 2 ∨ p = 3 ∨ p = 4 by omega) with rfl | rfl | rfl | rfl | rfl <;> simp at h ⊢ <;> omega
theorem six_all (hck : ∀ a b c, a ≤ b → b ≤ c → c < 8 → ck3 a b c = true) : ∀ n (u : Nat → Nat → Int), muS u = n → Bits 6 u → (dt 6 u).natAbs ≤ 9 := by
  intro n
  induction n using Nat.strongRecOn with
  | _ n ih =>
    intro u hm hb
    have go : ∀ p, p < 5 → tN u (p + 1) < tN u p → (dt 6 u).natAbs ≤ 9 := fun p hp h => by
      obtain ⟨v, v1, v2, v3⟩ := six_step hb hp h
      rw [← v2]
      exact ih _ (by omega) v rfl v1
    by_cases c0 : tN u 0 ≤ tN u 1
    · by_cases c1 : tN u 1 ≤ tN u 2
      · by_cases c2 : tN u 2 ≤ tN u 3
        · by_cases c3 : tN u 3 ≤ tN u 4
          · by_cases c4 : tN u 4 ≤ tN u 5
            · exact six_sorted hck hb c0 c1 c2 c3 c4
            · exact go 4 (by omega) (Nat.lt_of_not_le c4)
          · exact go 3 (by omega) (Nat.lt_of_not_le c3)
        · exact go 2 (by omega) (Nat.lt_of_not_le c2)
      · exact go 1 (by omega) (Nat.lt_of_not_le c1)
    · exact go 0 (by omega) (Nat.lt_of_not_le c0)
