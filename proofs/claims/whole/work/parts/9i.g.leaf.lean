/-! Six by six noughts and ones: three rows told, three packed. -/
def dl : Nat → ((Nat → Nat) → Int) → Nat → (Nat → Nat) → Nat → (Nat → Nat → Int) → Int
  | 0, l, _, σ, _, _ => l σ
  | k + 1, l, n, σ, i, T => zS (fun j => sg j * (T (σ j) i * dl k l (n - 1) (fun m => σ (sk j m)) (i + 1) T)) n
theorem dl_s (k : Nat) (l : (Nat → Nat) → Int) (n : Nat) (σ : Nat → Nat) (i : Nat) (T : Nat → Nat → Int) : dl (k + 1) l n σ i T = zS (fun j => sg j * (T (σ j) i * dl k l (n - 1) (fun m => σ (sk j m)) (i + 1) T)) n := rfl
theorem dt_dl (V : Nat → Nat → Int) : dt 6 V = dl 3 (fun σ => dt 3 (fun k i => V (σ k) (i + 3))) 6 (fun m => m) 0 V := rfl
theorem dl_T : ∀ {k : Nat} {l : (Nat → Nat) → Int} {n : Nat} {σ : Nat → Nat} {i : Nat} {T T' : Nat → Nat → Int}, (∀ c m, i ≤ m → m < i + k → T c m = T' c m) → dl k l n σ i T = dl k l n σ i T' := by
  intro k
  induction k with
  | zero => intro _ _ _ _ _ _ _; rfl
  | succ k ih =>
    intro l n σ i T T' h
    rw [dl_s, dl_s]
    refine zS_cong fun j _ => ?_
    rw [h _ i (Nat.le_refl _) (by omega), ih fun c m h1 h2 => h c m (by omega) (by omega)]
theorem dl_PK (N : Nat) (x : Nat → Int) (F : (Nat → Nat) → (Nat → Int) → Int) : ∀ k n σ i T, dl k (fun σ => PK N (F σ) x) n σ i T = PK N (fun y => dl k (fun σ => F σ y) n σ i T) x := by
  intro k
  induction k with
  | zero => intro n σ i T; rfl
  | succ k ih =>
    intro n σ i T
    have e : (fun y => dl (k + 1) (fun σ => F σ y) n σ i T) = fun y => zS (fun j => (sg j * T (σ j) i) * dl k (fun σ => F σ y) (n - 1) (fun m => σ (sk j m)) (i + 1) T) n := by
      funext y
      rw [dl_s]
      exact zS_cong fun j _ => (Int.mul_assoc _ _ _).symm
    rw [e, PK_zS (fun j => sg j * T (σ j) i) (fun j y => dl k (fun σ => F σ y) (n - 1) (fun m => σ (sk j m)) (i + 1) T), dl_s]
    refine zS_cong fun j _ => ?_
    rw [ih, Int.mul_assoc]
/-- only rows in order are met -/
theorem dl_leaf : ∀ {k n : Nat} {l l' : (Nat → Nat) → Int} {σ : Nat → Nat} {i : Nat} {T : Nat → Nat → Int}, n = 3 + k → (∀ m m', m < m' → m' < n → σ m < σ m') → (∀ m, m < n → σ m < 6) → (∀ τ : Nat → Nat, τ 0 < τ 1 → τ 1 < τ 2 → τ 2 < 6 → l τ = l' τ) → dl k l n σ i T = dl k l' n σ i T := by
  intro k
  induction k with
  | zero =>
    intro n l l' σ i T hn h1 h2 h
    exact h σ (h1 0 1 (by omega) (by omega)) (h1 1 2 (by omega) (by omega)) (h2 2 (by omega))
  | succ k ih =>
    intro n l l' σ i T hn h1 h2 h
    rw [dl_s, dl_s]
    refine zS_cong fun j hj => ?_
    rw [ih (l := l) (l' := l') (n := n - 1) (by omega) (fun m m' hm hm' => h1 _ _ (by unfold sk; split <;> split <;> omega) (by unfold sk; split <;> omega)) (fun m hm => h2 _ (by unfold sk; split <;> omega)) h]
def tri (p q r : Nat) : Nat := mon (3 * p) (3 * q + 1) (3 * r + 2) 18
def Ep (a b c : Nat) : Nat := tri a b c + tri b c a + tri c a b
def En (a b c : Nat) : Nat := tri a c b + tri b a c + tri c b a
theorem dt3 (V : Nat → Nat → Int) : dt 3 V = (V 0 0 * (V 1 1 * V 2 2) + V 1 0 * (V 2 1 * V 0 2) + V 2 0 * (V 0 1 * V 1 2)) - (V 0 0 * (V 2 1 * V 1 2) + V 1 0 * (V 0 1 * V 2 2) + V 2 0 * (V 1 1 * V 0 2)) := by
  have e : dt 3 V = 0 + 1 * (V 0 0 * (0 + 1 * (V 1 1 * (0 + 1 * (V 2 2 * 1))) + -1 * (V 2 1 * (0 + 1 * (V 1 2 * 1))))) + -1 * (V 1 0 * (0 + 1 * (V 0 1 * (0 + 1 * (V 2 2 * 1))) + -1 * (V 2 1 * (0 + 1 * (V 0 2 * 1))))) + 1 * (V 2 0 * (0 + 1 * (V 0 1 * (0 + 1 * (V 1 2 * 1))) + -1 * (V 1 1 * (0 + 1 * (V 0 2 * 1))))) := rfl
  rw [e]
  simp only [Int.zero_add, Int.one_mul, Int.mul_one, Int.neg_mul, Int.mul_add, Int.mul_neg, Int.neg_add, Int.neg_neg]
  omega
theorem PK_sub (f g : (Nat → Int) → Int) (n : Nat) (x : Nat → Int) : PK n (fun y => f y - g y) x = PK n f x - PK n g x := by
  have a := PK_add f (fun y => -1 * g y) n x
  rw [PK_mul] at a
  have e : (fun y => f y - g y) = fun y => f y + -1 * g y := funext fun y => by omega
  rw [e, a]
  omega
theorem PK_tri {p q r : Nat} (hp : p < 6) (hq : q < 6) (hr : r < 6) (x : Nat → Int) : PK 18 (fun y => y (3 * p) * (y (3 * q + 1) * y (3 * r + 2))) x = (tri p q r : Int) := by
  rw [PK_mon (by omega) (by omega) (by omega)]
  unfold vlu tri
  rw [if_pos (by omega), if_pos (by omega), if_pos (by omega), Int.one_mul, Int.one_mul, Int.mul_one]
theorem PK_leaf {σ : Nat → Nat} (h0 : σ 0 < 6) (h1 : σ 1 < 6) (h2 : σ 2 < 6) (x : Nat → Int) : PK 18 (fun y => dt 3 (fun k i => y (3 * σ k + i))) x = (Ep (σ 0) (σ 1) (σ 2) : Int) - (En (σ 0) (σ 1) (σ 2) : Int) := by
  have e : (fun y : Nat → Int => dt 3 (fun k i => y (3 * σ k + i))) = fun y => (y (3 * σ 0) * (y (3 * σ 1 + 1) * y (3 * σ 2 + 2)) + y (3 * σ 1) * (y (3 * σ 2 + 1) * y (3 * σ 0 + 2)) + y (3 * σ 2) * (y (3 * σ 0 + 1) * y (3 * σ 1 + 2))) - (y (3 * σ 0) * (y (3 * σ 2 + 1) * y (3 * σ 1 + 2)) + y (3 * σ 1) * (y (3 * σ 0 + 1) * y (3 * σ 2 + 2)) + y (3 * σ 2) * (y (3 * σ 1 + 1) * y (3 * σ 0 + 2))) := funext fun y => dt3 _
  rw [e, PK_sub, PK_add (fun y => y (3 * σ 0) * (y (3 * σ 1 + 1) * y (3 * σ 2 + 2)) + y (3 * σ 1) * (y (3 * σ 2 + 1) * y (3 * σ 0 + 2))), PK_add (fun y => y (3 * σ 0) * (y (3 * σ 1 + 1) * y (3 * σ 2 + 2))), PK_add (fun y => y (3 * σ 0) * (y (3 * σ 2 + 1) * y (3 * σ 1 + 2)) + y (3 * σ 1) * (y (3 * σ 0 + 1) * y (3 * σ 2 + 2))), PK_add (fun y => y (3 * σ 0) * (y (3 * σ 2 + 1) * y (3 * σ 1 + 2))), PK_tri h0 h1 h2, PK_tri h1 h2 h0, PK_tri h2 h0 h1, PK_tri h0 h2 h1, PK_tri h1 h0 h2, PK_tri h2 h1 h0]
  unfold Ep En
  rw [Int.natCast_add, Int.natCast_add, Int.natCast_add, Int.natCast_add]
/-- the rows told, as bits -/
def tbt (tc c i : Nat) : Bool := Nat.beq (Nat.land (Nat.shiftRight tc (3 * c + i)) 1) 1
def Tc (tc c i : Nat) : Int := if tbt tc c i = true then 1 else 0
def skb (j k : Nat) : Nat := bif Nat.blt k j then k else k + 1
theorem skb_eq (j k : Nat) : skb j k = sk j k := by
  unfold skb sk
  by_cases c : k < j
  · rw [if_pos c, show Nat.blt k j = true from Nat.ble_eq_true_of_le c]
    rfl
  · rw [if_neg c]
    cases e : Nat.blt k j with
    | false => rfl
    | true => exact absurd (Nat.le_of_ble_eq_true e) c
def smb (b : Nat → Bool) (f : Nat → Nat) : Nat → Nat
  | 0 => 0
  | n + 1 => bif b n then smb b f n + f n else smb b f n
theorem smb_sub (b : Nat → Bool) (f g : Nat → Nat) : ∀ n, (smb b f n : Int) - (smb b g n : Int) = zS (fun j => (if b j = true then 1 else 0) * ((f j : Int) - (g j : Int))) n := by
  intro n
  induction n with
  | zero => rfl
  | succ n ih =>
    rw [zS_s, ← ih]
    show ((bif b n then smb b f n + f n else smb b f n : Nat) : Int) - ((bif b n then smb b g n + g n else smb b g n : Nat) : Int) = _
    cases b n with
    | true =>
      rw [cond_true, cond_true, if_pos rfl, Int.one_mul]
      omega
    | false =>
      rw [cond_false, cond_false, if_neg (by decide), Int.zero_mul, Int.add_zero]
def sgB (s : Bool) : Int := bif s then 1 else -1
/-- with a table of the packed leaves -/
def dQ (et : Bool → Nat → Nat) : Nat → Bool → Nat → (Nat → Nat) → Nat → Nat → Nat
  | 0, s, _, σ, _, _ => et s (36 * σ 0 + (6 * σ 1 + σ 2))
  | k + 1, s, n, σ, i, tc => smb (fun j => tbt tc (σ j) i) (fun j => dQ et k (bif Nat.beq (j % 2) 0 then s else !s) (n - 1) (fun m => σ (skb j m)) (i + 1) tc) n
def EtOk (et : Bool → Nat → Nat) : Prop := ∀ a b c, a < b → b < c → c < 6 → et true (36 * a + (6 * b + c)) = Ep a b c ∧ et false (36 * a + (6 * b + c)) = En a b c
theorem dQ_dl {et : Bool → Nat → Nat} (he : EtOk et) {tc : Nat} : ∀ {k n : Nat} (s : Bool) {σ : Nat → Nat} {i : Nat}, n = 3 + k → (∀ m m', m < m' → m' < n → σ m < σ m') → (∀ m, m < n → σ m < 6) → (dQ et k s n σ i tc : Int) - (dQ et k (!s) n σ i tc : Int) = sgB s * dl k (fun τ => (Ep (τ 0) (τ 1) (τ 2) : Int) - (En (τ 0) (τ 1) (τ 2) : Int)) n σ i (Tc tc) := by
  intro k
  induction k with
  | zero =>
    intro n s σ i hn h1 h2
    obtain ⟨e1, e2⟩ := he (σ 0) (σ 1) (σ 2) (h1 0 1 (by omega) (by omega)) (h1 1 2 (by omega) (by omega)) (h2 2 (by omega))
    show (et s (36 * σ 0 + (6 * σ 1 + σ 2)) : Int) - (et (!s) (36 * σ 0 + (6 * σ 1 + σ 2)) : Int) = sgB s * ((Ep (σ 0) (σ 1) (σ 2) : Int) - (En (σ 0) (σ 1) (σ 2) : Int))
    cases s with
    | true =>
      rw [Bool.not_true, e1, e2, show sgB true = 1 from rfl, Int.one_mul]
    | false =>
      rw [Bool.not_false, e1, e2, show sgB false = -1 from rfl]
      omega
  | succ k ih =>
    intro n s σ i hn h1 h2
    show (smb (fun j => tbt tc (σ j) i) (fun j => dQ et k (bif Nat.beq (j % 2) 0 then s else !s) (n - 1) (fun m => σ (skb j m)) (i + 1) tc) n : Int) - (smb (fun j => tbt tc (σ j) i) (fun j => dQ et k (bif Nat.beq (j % 2) 0 then !s else !!s) (n - 1) (fun m => σ (skb j m)) (i + 1) tc) n : Int) = _
    rw [smb_sub, dl_s, ← zS_mul]
    refine zS_cong fun j hj => ?_
    have e : (fun m => σ (skb j m)) = fun m => σ (sk j m) := funext fun m => by rw [skb_eq]
    have q := ih (n := n - 1) (bif Nat.beq (j % 2) 0 then s else !s) (σ := fun m => σ (sk j m)) (i := i + 1) (by omega) (fun m m' hm hm' => h1 _ _ (by unfold sk; split <;> split <;> omega) (by unfold sk; split <;> omega)) (fun m hm => h2 _ (by unfold sk; split <;> omega))
    (try dsimp only)
    rw [e, show (bif Nat.beq (j % 2) 0 then !s else !!s) = !(bif Nat.beq (j % 2) 0 then s else !s) from by cases Nat.beq (j % 2) 0 <;> rfl, q]
    have g : sgB (bif Nat.beq (j % 2) 0 then s else !s) = sgB s * sg j := by
      unfold sg
      by_cases c : j % 2 = 0
      · rw [if_pos c, c, show Nat.beq 0 0 = true from rfl, cond_true, Int.mul_one]
      · rw [if_neg c, beq_no c, cond_false]
        cases s <;> rfl
    rw [g]
    show (if tbt tc (σ j) i = true then (1 : Int) else 0) * _ = sgB s * (sg j * ((if tbt tc (σ j) i = true then (1 : Int) else 0) * _))
    ac_rfl
