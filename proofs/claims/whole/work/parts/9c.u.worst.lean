/-! Insiders: the call worst. -/
def gvN (tm : St) (set c : Nat) : Nat := orr (fun i => if set.testBit i then (gA tm 55 i).toNatClampNeg else 0) c
def chN (tm : St) (l : List Nat) (free : Nat) : Nat := gsN tm l 0 free (amin (gsN tm l 0 free) (l.length - 1))
theorem RI.v {tx tm : St} (h : RI tx tm) {c : Nat} (hc : gI tm 54 = jn c) (h6 : c ≤ 6) {i : Nat} (hi : i < c) : gA tm 55 i = jn (gA tm 55 i).toNatClampNeg ∧ (gA tm 55 i).toNatClampNeg < 65536 ∧ gA tx 1006 i = jn (gA tm 55 i).toNatClampNeg := by
  obtain ⟨-, n, hn, e1, e2, hv⟩ := h
  have : n = c := (jn_inj (by omega) (by omega)).mp (e2.symm.trans hc)
  subst this
  obtain ⟨a, k, b1, b2⟩ := hv i hi
  rw [a, b2, jn_cl (by omega)]
  exact ⟨rfl, by omega, rfl⟩
theorem gvN_lt {tx tm : St} (h : RI tx tm) {c : Nat} (hc : gI tm 54 = jn c) (h6 : c ≤ 6) (set : Nat) : gvN tm set c < 65536 := orr_lt (w := 16) fun i hi => by
  have := (h.v hc h6 hi).2.1
  split
  · exact this
  · exact Nat.two_pow_pos 16
theorem m_given_eq {tx tm t : St} (h : RI tx tm) {c : Nat} (hc : gI tm 54 = jn c) (h6 : c ≤ 6) (e54 : gI t 54 = gI tm 54) (e55 : gA t 55 = gA tm 55) {set : Nat} (hs : set < 65536) : m_given t (jn set) = some (jn (gvN tm set c)) := by
  have l := lp_cnt (b := fun y : Int32 × Int32 => m_given_B4 t (jn set) y.1 y.2) (fun i z => (z, jn i)) c
    (fun i z => z = jn (gvN tm set i))
    (fun z => z = jn (gvN tm set c)) (by
      rintro i z hi rfl
      have v := (h.v hc h6 hi).1
      have st : gvN tm set (i + 1) = gvN tm set i ||| (if set.testBit i then (gA tm 55 i).toNatClampNeg else 0) := rfl
      refine ⟨_, ?_, rfl⟩
      dsimp only
      unfold m_given_B4
      rw [e54, hc, if_neg (nle hi (by omega)), st]
      cases hb : set.testBit i with
      | true =>
        rw [if_pos ((bit_iff (by omega) (by omega)).mpr hb), if_pos rfl, gd_jn (by omega) (by omega), jn_cl (by omega), e55, v]
        simp only [nm, jn_s]
        rw [jn_cl (by have := (h.v hc h6 hi).2.1; omega), jn_or]
      | false =>
        rw [if_neg (fun e => by rw [(bit_iff (by omega) (by omega)).mp e] at hb; cases hb)]
        simp only [nm, jn_s]
        rw [show (0 : Int32) = jn 0 from rfl, jn_or]
        rfl) (by
      rintro z rfl
      exact ⟨_, by dsimp only; unfold m_given_B4; rw [e54, hc, if_pos (lee (by omega))], rfl⟩) 0 (jn 0) (by omega) rfl
  obtain ⟨z, k1, rfl⟩ := l
  unfold m_given
  rw [show ((0 : Int32), (0 : Int32)) = (jn 0, jn 0) from rfl, k1, bs]
theorem x_given_eq {tx tm t : St} (h : RI tx tm) {c : Nat} (hc : gI tm 54 = jn c) (h6 : c ≤ 6) (e7 : gI t 1007 = jn c) (e6 : gA t 1006 = gA tx 1006) (hN : gN t 1006 = 6) {set : Nat} (hs : set < 65536) : x10_givenBy t (jn set) = some (jn (gvN tm set c)) := by
  have l := lp_cnt (b := fun y : Int32 × Int32 => x10_givenBy_B4 t (jn set) y.1 y.2) (fun i z => (z, jn i)) c
    (fun i z => z = jn (gvN tm set i))
    (fun z => z = jn (gvN tm set c)) (by
      rintro i z hi rfl
      have v := (h.v hc h6 hi).2.2
      have st : gvN tm set (i + 1) = gvN tm set i ||| (if set.testBit i then (gA tm 55 i).toNatClampNeg else 0) := rfl
      refine ⟨_, ?_, rfl⟩
      dsimp only
      unfold x10_givenBy_B4
      rw [e7, if_neg (nle hi (by omega)), st]
      cases hb : set.testBit i with
      | true =>
        rw [if_pos ((bit_iff (by omega) (by omega)).mpr hb), if_pos rfl, hN, gd_jn (by omega) (by omega), jn_cl (by omega), e6, v]
        simp only [nm, jn_s]
        rw [jn_or]
      | false =>
        rw [if_neg (fun e => by rw [(bit_iff (by omega) (by omega)).mp e] at hb; cases hb)]
        simp only [nm, jn_s]
        rw [if_neg (by decide), Nat.or_zero]) (by
      rintro z rfl
      exact ⟨_, by dsimp only; unfold x10_givenBy_B4; rw [e7, if_pos (lee (by omega))], rfl⟩) 0 (jn 0) (by omega) rfl
  obtain ⟨z, k1, rfl⟩ := l
  unfold x10_givenBy
  rw [show ((0 : Int32), (0 : Int32)) = (jn 0, jn 0) from rfl, k1, bs]
theorem chN_le {tx tm : St} (h : RH tx tm) (l : List Nat) (free : Nat) : chN tm l free ≤ 16000 := smN_16 h 0 free _
theorem m_cheapest_eq {tx tm t : St} (h : RH tx tm) (h0 : gA t 0 = gA tm 0) (h1 : gA t 1 = gA tm 1) {l : List Nat} (hl : LsIs t l) (hlt : ∀ i, i < l.length → l.getD i 0 < 65536) (hpos : 1 ≤ l.length) {free : Nat} (hf : free < 65536) : m_cheapest t (jn free) = some (jn (chN tm l free)) := by
  have len := hl.2.1
  have al := amin_le (gsN tm l 0 free) (l.length - 1)
  unfold m_cheapest
  rw [show (0 : Int32) = jn 0 from rfl, leastAt_eq h h0 h1 hl hlt hpos (by omega) hf, bs, gd_jn (by omega) (by omega), jn_cl (by omega), hl.2.2 _ (by omega), m_sumOf_eq h h0 h1 (hlt _ (by omega)) (by omega) hf, bs]
  rfl
theorem smN_free (tm : St) (free set : Nat) : smN tm 0 0 (set ^^^ (set &&& free)) = smN tm 0 free set := by
  unfold smN
  refine smm_cong fun s _ => ?_
  rw [Nat.testBit_xor, Nat.testBit_and]
  unfold vlN
  rw [if_neg (show ¬ (0 : Nat) = 1 by omega), Nat.zero_testBit, if_neg (show ¬ (0 : Nat) = 1 by omega)]
  cases set.testBit s <;> cases free.testBit s <;> rfl
theorem x_cheapest_eq {tx tm t : St} (h : RH tx tm) (hN : gN t 500 = 80) (h5 : gA t 500 = gA tx 500) {l : List Nat} (hl : LxIs t l) (h2 : gN t 1002 = 200) (hlt : ∀ i, i < l.length → l.getD i 0 < 65536) (hpos : 1 ≤ l.length) {free : Nat} (hf : free < 65536) : x10_leastPriceWith t (jn free) = some (jn (chN tm l free)) := by
  have len := hl.2.1
  have lo := lp_cnt (b := fun y : Int32 × Int32 => x10_leastPriceWith_B6 t (jn free) y.1 y.2) (fun i z => (z, jn i)) l.length
    (fun i z => z = if i = 0 then 16001 else jn (gsN tm l 0 free (amin (gsN tm l 0 free) (i - 1))))
    (fun z => z = jn (chN tm l free)) (by
      rintro i z hi rfl
      have gd_ : ∀ x, smN tm 0 free (l.getD x 0) = gsN tm l 0 free x := fun _ => rfl
      have b1 : gsN tm l 0 free i ≤ 16000 := smN_16 h 0 free (l.getD i 0)
      have a0 : l.getD i 0 ^^^ (l.getD i 0 &&& free) < 65536 := Nat.xor_lt_two_pow (n := 16) (hlt i hi) (Nat.lt_of_le_of_lt Nat.and_le_left (hlt i hi))
      refine ⟨_, ?_, rfl⟩
      rw [if_neg (show ¬ i + 1 = 0 by omega)]
      dsimp only
      unfold x10_leastPriceWith_B6
      rw [hl.1, if_neg (nle hi (by omega)), h2, gd_jn (by omega) (by omega), jn_cl (by omega), hl.2.2 i hi, not_and, show x5_sumOf t (jn (l.getD i 0 ^^^ (l.getD i 0 &&& free))) 0 = _ from x_sumOf_eq h hN h5 a0 (what := 0) (by omega), bs, smN_free, gd_]
      simp only [nm, jn_s]
      by_cases e : i = 0
      · subst e
        rw [if_pos rfl, if_pos (show jn (gsN tm l 0 free 0) < 16001 from jlt (x := 16001) 16001 rfl (by omega) (by omega))]
        rfl
      · obtain ⟨j, rfl⟩ : ∃ j, i = j + 1 := ⟨i - 1, by omega⟩
        have b2 : gsN tm l 0 free (amin (gsN tm l 0 free) j) ≤ 16000 := smN_16 h 0 free (l.getD (amin (gsN tm l 0 free) j) 0)
        rw [if_neg e, show j + 1 - 1 = j from rfl, show j + 1 + 1 - 1 = j + 1 from rfl, amin_s]
        by_cases c : gsN tm l 0 free (j + 1) < gsN tm l 0 free (amin (gsN tm l 0 free) j)
        · rw [if_pos ((jn_lt (by omega) (by omega)).mpr c), if_pos c]
        · rw [if_neg (fun e => c ((jn_lt (by omega) (by omega)).mp e)), if_neg c]) (by
      rintro z rfl
      rw [if_neg (by omega)]
      exact ⟨_, by dsimp only; unfold x10_leastPriceWith_B6; rw [hl.1, if_pos (lee (by omega))]; rfl, rfl⟩) 0 16001 (by omega) rfl
  obtain ⟨z, k1, rfl⟩ := lo
  unfold x10_leastPriceWith
  rw [show ((16001 : Int32), (0 : Int32)) = (16001, jn 0) from rfl, k1, bs]
def wsF (tm : St) (l : List Nat) (k c : Nat) : Nat → Option Nat
  | 0 => none
  | n + 1 => if popc 16 n = k then (match wsF tm l k c n with
    | none => some n
    | some b => if chN tm l (gvN tm n c) < chN tm l (gvN tm b c) then some n else some b) else wsF tm l k c n
theorem wsF_s (tm : St) (l : List Nat) (k c n : Nat) : wsF tm l k c (n + 1) = if popc 16 n = k then (match wsF tm l k c n with
    | none => some n
    | some b => if chN tm l (gvN tm n c) < chN tm l (gvN tm b c) then some n else some b) else wsF tm l k c n := rfl
theorem wsF_lt {tm : St} {l : List Nat} {k c : Nat} : ∀ n b, wsF tm l k c n = some b → b < n := by
  intro n
  induction n with
  | zero => intro b h; cases h
  | succ n ih =>
    intro b h
    rw [wsF_s] at h
    split at h
    · cases ho : wsF tm l k c n with
      | none =>
        rw [ho] at h
        cases h
        omega
      | some b0 =>
        have := ih b0 ho
        rw [ho] at h
        dsimp only at h
        split at h
        · cases h; omega
        · cases h; omega
    · have := ih b h
      omega
theorem wsF_some {tm : St} {l : List Nat} {k c x : Nat} (hx : popc 16 x = k) : ∀ n, x < n → ∃ b, wsF tm l k c n = some b := by
  intro n
  induction n with
  | zero => intro h; omega
  | succ n ih =>
    intro h
    rw [wsF_s]
    by_cases e : popc 16 n = k
    · rw [if_pos e]
      cases wsF tm l k c n with
      | none => exact ⟨n, rfl⟩
      | some b0 =>
        dsimp only
        split
        · exact ⟨n, rfl⟩
        · exact ⟨b0, rfl⟩
    · rw [if_neg e]
      refine ih ?_
      by_cases y : x = n
      · subst y; exact absurd hx e
      · omega
theorem ones_pc : ∀ k : Nat, k ≤ 6 → popc 16 (2 ^ k - 1) = k := by decide
def enO (o : Option Nat) : Int32 := match o with
  | none => -1
  | some b => jn b
theorem m_worst_lp {tx tm t : St} (h : RH tx tm) (h0 : gA t 0 = gA tm 0) (h1 : gA t 1 = gA tm 1) (hI : RI tx tm) {c : Nat} (hc : gI tm 54 = jn c) (h6 : c ≤ 6) (e54 : gI t 54 = gI tm 54) (e55 : gA t 55 = gA tm 55) {l : List Nat} (hl : LsIs t l) (hlt : ∀ i, i < l.length → l.getD i 0 < 65536) (hpos : 1 ≤ l.length) {k : Nat} (hk : k ≤ 6) (v3 : Int32) : lp (fun x : Int32 × Int32 => m_worst_B48 t (jn k) v3 x.1 x.2) ((-1 : Int32), (0 : Int32)) = some (enO (wsF tm l k c (2 ^ c))) := by
  have p6 : 2 ^ c ≤ 2 ^ 6 := Nat.pow_le_pow_right (by omega) h6
  have e6 : (2 : Nat) ^ 6 = 64 := rfl
  have lo := lp_cnt (b := fun x : Int32 × Int32 => m_worst_B48 t (jn k) v3 x.1 x.2) (fun i z => (z, jn i)) (2 ^ c)
    (fun i z => z = enO (wsF tm l k c i))
    (fun z => z = enO (wsF tm l k c (2 ^ c))) (by
      rintro i z hi rfl
      have pl := popc_le 16 i
      refine ⟨_, ?_, rfl⟩
      dsimp only
      unfold m_worst_B48
      rw [e54, hc, jn_shl1 c (by omega), if_neg (nle hi (by omega)), m_sizeOf_pc t (show i < 65536 by omega), bs, wsF_s]
      by_cases e : popc 16 i = k
      · rw [e, if_pos rfl, if_pos rfl]
        cases ho : wsF tm l k c i with
        | none =>
          rw [if_pos (show enO none = -1 from rfl)]
          simp only [nm, jn_s]
          rfl
        | some b =>
          have bl := wsF_lt i b ho
          have g1 := gvN_lt hI hc h6 i
          have g2 := gvN_lt hI hc h6 b
          have c1 := chN_le h l (gvN tm i c)
          have c2 := chN_le h l (gvN tm b c)
          rw [if_neg (show ¬ enO (some b) = -1 from jn_ne1 (by omega)), m_given_eq hI hc h6 e54 e55 (by omega), bs, m_cheapest_eq h h0 h1 hl hlt hpos g1, bs, show enO (some b) = jn b from rfl, m_given_eq hI hc h6 e54 e55 (show b < 65536 by omega), bs, m_cheapest_eq h h0 h1 hl hlt hpos g2, bs]
          dsimp only
          by_cases z : chN tm l (gvN tm i c) < chN tm l (gvN tm b c)
          · rw [if_neg (nle z (by omega)), if_pos z]
            simp only [nm, jn_s]
            rfl
          · rw [if_pos ((jn_le (by omega) (by omega)).mpr (by omega)), if_neg z]
            simp only [nm, jn_s]
            rfl
      · rw [if_neg (fun y => e ((jn_inj (by omega) (by omega)).mp y)), if_neg e]
        simp only [nm, jn_s]) (by
      rintro z rfl
      exact ⟨_, by dsimp only; unfold m_worst_B48; rw [e54, hc, jn_shl1 c (by omega), if_pos (lee (by omega))], rfl⟩) 0 (-1) (Nat.zero_le _) rfl
  obtain ⟨z, k1, rfl⟩ := lo
  exact k1
theorem x_worst_lp {tx tm t : St} (h : RH tx tm) (hN : gN t 500 = 80) (h5 : gA t 500 = gA tx 500) (hI : RI tx tm) {c : Nat} (hc : gI tm 54 = jn c) (h6 : c ≤ 6) (e7 : gI t 1007 = jn c) (e6 : gA t 1006 = gA tx 1006) (hN6 : gN t 1006 = 6) {l : List Nat} (hl : LxIs t l) (h2 : gN t 1002 = 200) (hlt : ∀ i, i < l.length → l.getD i 0 < 65536) (hpos : 1 ≤ l.length) {k : Nat} (hk : k ≤ 6) {b : Nat} (hb : wsF tm l k c (2 ^ c) = some b) : x10_worstSet t (jn k) = some (jn b) := by
  have p6 : 2 ^ c ≤ 2 ^ 6 := Nat.pow_le_pow_right (by omega) h6
  have e64 : (2 : Nat) ^ 6 = 64 := rfl
  have lo := lp_cnt (b := fun x : Int32 × Int32 × Int32 => x10_worstSet_B9 t (jn k) x.1 x.2.1 x.2.2) (fun i z => (z.1, z.2, jn i)) (2 ^ c)
    (fun i z => z = match wsF tm l k c i with
      | none => (0, 16001)
      | some b => (jn b, jn (chN tm l (gvN tm b c))))
    (fun z => z = jn b) (by
      rintro i z hi rfl
      have pl := popc_le 16 i
      refine ⟨_, ?_, rfl⟩
      dsimp only
      unfold x10_worstSet_B9
      rw [e7, jn_shl1 c (by omega), if_neg (nle hi (by omega)), bitCount_eq t (show i < 65536 by omega), bs, wsF_s]
      by_cases e : popc 16 i = k
      · have g1 := gvN_lt hI hc h6 i
        have c1 := chN_le h l (gvN tm i c)
        rw [e, if_pos rfl, if_pos rfl, x_given_eq hI hc h6 e7 e6 hN6 (by omega), bs, x_cheapest_eq h hN h5 hl h2 hlt hpos g1, bs]
        cases ho : wsF tm l k c i with
        | none =>
          dsimp only
          rw [if_neg (show ¬ (16001 : Int32) ≤ jn (chN tm l (gvN tm i c)) from jnge (x := 16001) 16001 rfl (by omega) (by omega) (by omega))]
          simp only [nm, jn_s]
        | some b =>
          have g2 := gvN_lt hI hc h6 b
          have c2 := chN_le h l (gvN tm b c)
          dsimp only
          by_cases z : chN tm l (gvN tm i c) < chN tm l (gvN tm b c)
          · rw [if_neg (nle z (by omega)), if_pos z]
            simp only [nm, jn_s]
          · rw [if_pos ((jn_le (by omega) (by omega)).mpr (by omega)), if_neg z]
            simp only [nm, jn_s]
      · rw [if_neg (fun y => e ((jn_inj (by omega) (by omega)).mp y)), if_neg e]
        simp only [nm, jn_s]) (by
      rintro z rfl
      rw [hb]
      exact ⟨_, by dsimp only; unfold x10_worstSet_B9; rw [e7, jn_shl1 c (by omega), if_pos (lee (by omega))], rfl⟩) 0 (0, 16001) (Nat.zero_le _) rfl
  obtain ⟨z, k1, rfl⟩ := lo
  unfold x10_worstSet
  rw [show ((0 : Int32), (16001 : Int32), (0 : Int32)) = ((0, 16001, jn 0) : Int32 × Int32 × Int32) from rfl, k1, bs]
theorem op_worst {tx tm : St} (hH : RH tx tm) (hI : RI tx tm) (hK : RK tx tm) (hN : RN tx tm) (hR : RR tx tm) (hC : RC tm) (hQ : RQ tm) (hT : RTb tx tm) (hW : RWy tx tm) (a1 a2 a3 : Int32) : ∃ r tx' tm', x11_worst tx a1 a2 a3 = some (r, tx') ∧ m_worst tm a1 a2 a3 = some (r, tm') ∧ KpW tx tm tx' tm' := by
  have h250 := nK_lt hK
  rcases pre_worst hK hN hI a1 a2 a3 with ⟨r, k1, k2⟩ | ⟨n, K, hn, hk, e16, e602, rfl, ⟨k, c, hkc, h6, c54, c1007, rfl⟩, w, -, hw, rfl⟩
  · exact ⟨r, tx, tm, k1, k2, KpW.self hT hW hC⟩
  have xs : ∀ b t, x10_listAll tx (jn K) = some (b, t) → x11_worst tx (jn n) (jn k) (jn w) = x11_worst_J62 t (jn k) (jn w) b := by
    intro b t h
    unfold x11_worst
    rw [noNet_T hn, bs, if_pos rfl, c1007, show x11_outside tx (jn k) 0 (jn c) = some 0 from oT (Nat.zero_le k) hkc (by omega) tx, bs, if_pos rfl, show x11_outside tx (jn w) 0 1 = some 0 from oT (Nat.zero_le w) hw (by decide) tx, bs, if_pos rfl, hN.1, gd_jn (by omega) (by omega), jn_cl (by omega), e602]
    simp only [nm]
    rw [if_pos (jn_nn (by omega)), h, bs]
  have ms : m_worst tm (jn n) (jn k) (jn w) = m_worst_J28 tm (jn k) (jn w) (jn n) 1 := by
    unfold m_worst
    rw [c54, show m_in tm (jn k) 0 (jn c) = some 1 from iT (Nat.zero_le k) hkc (by omega) tm, bs, if_neg (by decide), show m_in tm (jn w) 0 1 = some 1 from iT (Nat.zero_le w) hw (by decide) tm, bs, if_neg (by decide)]
  rcases list_both hK hR hC hQ hT hW hk with ⟨tx', tm', j1, j2, j3⟩ | ⟨tx', tm', j1, j2, j3, j4, -, j5⟩
  · refine ⟨-5, tx', tm', ?_, ?_, j3⟩
    · rw [xs _ _ j1]
      unfold x11_worst_J62
      rw [if_pos rfl]
    · rw [ms]
      unfold m_worst_J28
      rw [whyWays_0 hn e16 (by omega) j2, bs]
      dsimp only
      rw [if_neg (by decide)]
  · have pos := wyl_pos hK hk
    have p6 : 2 ^ c ≤ 2 ^ 6 := Nat.pow_le_pow_right (by omega) h6
    have e64 : (2 : Nat) ^ 6 = 64 := rfl
    have kp : 2 ^ k ≤ 2 ^ c := Nat.pow_le_pow_right (by omega) hkc
    have k0 := Nat.two_pow_pos k
    obtain ⟨b, hb⟩ := wsF_some (tm := tm) (l := wyl tm K) (c := c) (ones_pc k (by omega)) (2 ^ c) (by omega)
    have bl := wsF_lt _ b hb
    have fx := j5.1
    have fm := j5.2.1
    have gl := gvN_lt hI c54 h6 b
    have hN5 := (fx.2 500 rfl).trans hH.1
    have h5 : gA tx' 500 = gA tx 500 := (fx.1 500 rfl).2.2.1
    have m0 : gA tm' 0 = gA tm 0 := (fm.1 0 rfl).2.2.1
    have m1 : gA tm' 1 = gA tm 1 := (fm.1 1 rfl).2.2.1
    have X := x_worst_lp hH hN5 h5 hI c54 h6 ((fx.1 1007 rfl).1.trans c1007) (fx.1 1006 rfl).2.2.1 ((fx.2 1006 rfl).trans hI.1) j3 ((fx.2 1002 rfl).trans hW.1.1) (fun i hi => wyl_lt hi) pos (k := k) (by omega) hb
    have M := m_worst_lp hH m0 m1 hI c54 h6 (fm.1 54 rfl).1 (fm.1 55 rfl).2.2.1 j4 (fun i hi => wyl_lt hi) pos (k := k) (by omega) (jn w)
    rw [hb, show enO (some b) = jn b from rfl] at M
    refine ⟨if w = 0 then jn (chN tm (wyl tm K) (gvN tm b c)) else jn b, tx', tm', ?_, ?_, j5⟩
    · rw [xs _ _ j1]
      unfold x11_worst_J62
      rw [if_neg (by decide), X, bs]
      by_cases z : w = 0
      · rw [z, if_pos (show jn 0 = 0 from rfl), if_pos rfl, x_given_eq hI c54 h6 ((fx.1 1007 rfl).1.trans c1007) (fx.1 1006 rfl).2.2.1 ((fx.2 1006 rfl).trans hI.1) (by omega), bs, x_cheapest_eq hH hN5 h5 j3 ((fx.2 1002 rfl).trans hW.1.1) (fun i hi => wyl_lt hi) pos gl, bs]
      · rw [if_neg (jn_nz z (by omega)), if_neg z]
    · rw [ms]
      unfold m_worst_J28
      rw [whyWays_1 hn e16 (by omega) j2, bs]
      dsimp only
      rw [if_pos rfl, M, bs]
      by_cases z : w = 0
      · rw [z, if_pos (show jn 0 = 0 from rfl), if_pos rfl, m_given_eq hI c54 h6 (fm.1 54 rfl).1 (fm.1 55 rfl).2.2.1 (by omega), bs, m_cheapest_eq hH m0 m1 j4 (fun i hi => wyl_lt hi) pos gl, bs]
      · rw [if_neg (jn_nz z (by omega)), if_neg z]
