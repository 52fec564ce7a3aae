/-! Images. -/
def RJ (tx tm : St) : Prop := (gN tx 502 = 2 ∧ gN tx 503 = 80 ∧ gN tx 504 = 80) ∧ ∀ i, i < 2 → gA tx 502 i = gA tm 66 i ∧ (gA tm 66 i = 0 ∨ gA tm 66 i = 1) ∧ (gA tm 66 i = 1 → ∀ s w, s < 16 → w < 5 → imG tx i (5 * s + w) = gA tm 67 (80 * i + 5 * s + w) ∧ ∃ k, hlo w ≤ k ∧ k ≤ hhi w ∧ gA tm 67 (80 * i + 5 * s + w) = jn k)
theorem RJ.fr {S T S' T' : List Nat} {tx tm tx' tm' : St} (h : RJ tx tm) (hx : fx S T tx tx') (hm : fx S' T' tm tm') (h1 : (S.elem 502 || S.elem 503 || S.elem 504) = false := by rfl) (h2 : (T.elem 502 || T.elem 503 || T.elem 504) = false := by rfl) (h3 : (S'.elem 66 || S'.elem 67) = false := by rfl) : RJ tx' tm' := by
  simp only [Bool.or_eq_false_iff] at h1 h2 h3
  unfold RJ imG at *
  rw [hx.2 502 h2.1.1, hx.2 503 h2.1.2, hx.2 504 h2.2, (hx.1 502 h1.1.1).2.2.1, (hx.1 503 h1.1.2).2.2.1, (hx.1 504 h1.2).2.2.1, (hm.1 66 h3.1).2.2.1, (hm.1 67 h3.2).2.2.1]
  exact h
theorem imN_80 {tx tm : St} (h : RJ tx tm) (i : Nat) : imN tx i = 80 := by
  unfold imN
  split
  · exact h.1.2.1
  · exact h.1.2.2
theorem cpk_ok {α : Type} {N n0 n1 : Nat} {x : Option α} (h0 : N ≤ n0) (h1 : N ≤ n1) (h2 : N < 2147483648) : cpk 0 0 (jn N) n0 n1 x = x := by
  unfold cpk
  rw [if_neg]
  rintro (e | e | e | e | e)
  · exact absurd e (by decide)
  · exact absurd e (by decide)
  · exact jn_neg h2 e
  · rw [jn_cl h2, show (0 : Int32).toNatClampNeg = 0 from rfl] at e; omega
  · rw [jn_cl h2, show (0 : Int32).toNatClampNeg = 0 from rfl] at e; omega
theorem m_image_row {t : St} {i s : Nat} (hi : i < 2) (hs : s < 16) : ∃ t', lp (fun x : Int32 × St => m_image_B29 (jn i) (jn s) x.1 x.2) (jn 0, t) = some t' ∧ fx [67] [] t t' ∧ (∀ w, w < 5 → gA t' 67 (80 * i + 5 * s + w) = gA t w s) ∧ ∀ j, ¬ (80 * i + 5 * s ≤ j ∧ j < 80 * i + 5 * s + 5) → gA t' 67 j = gA t 67 j := by
  have h := lp_cnt (b := fun x : Int32 × St => m_image_B29 (jn i) (jn s) x.1 x.2) (fun w u => (jn w, u)) 5
    (fun n u => fx [67] [] t u ∧ (∀ w, w < n → gA u 67 (80 * i + 5 * s + w) = gA t w s) ∧ ∀ j, ¬ (80 * i + 5 * s ≤ j ∧ j < 80 * i + 5 * s + 5) → gA u 67 j = gA t 67 j)
    (fun u => fx [67] [] t u ∧ (∀ w, w < 5 → gA u 67 (80 * i + 5 * s + w) = gA t w s) ∧ ∀ j, ¬ (80 * i + 5 * s ≤ j ∧ j < 80 * i + 5 * s + 5) → gA u 67 j = gA t 67 j) (by
      rintro w u hw ⟨hf, h1, h2⟩
      dsimp only
      unfold m_image_B29
      have q : ¬ (5 : Int32) ≤ jn w := fun e => by have := (jn_le (a := 5) (by omega) (by omega)).mp e; omega
      have e : gA u w s = gA t w s := by
        rcases (show w = 0 ∨ w = 1 ∨ w = 2 ∨ w = 3 ∨ w = 4 by omega) with rfl | rfl | rfl | rfl | rfl
        · rw [(hf.1 0 rfl).2.2.1]
        · rw [(hf.1 1 rfl).2.2.1]
        · rw [(hf.1 2 rfl).2.2.1]
        · rw [(hf.1 3 rfl).2.2.1]
        · rw [(hf.1 4 rfl).2.2.1]
      rw [if_neg q, m_stepOf_eq hs hw, bs, show (80 : Int32) = jn 80 from rfl, show (5 : Int32) = jn 5 from rfl, jn_mul, jn_mul, jn_add, jn_add, gd_jn (by omega) (by omega)]
      simp only [nm]
      rw [show jn w + 1 = jn (w + 1) from jn_add w 1]
      refine ⟨_, rfl, hf.trans (fx_sA rfl), ?_, ?_⟩
      · intro w1 hw1
        rw [gA_sA, jn_cl (by omega)]
        by_cases e2 : w1 = w
        · subst e2
          rw [upd_at, e]
        · rw [upd_ne (by omega)]
          exact h1 w1 (by omega)
      · intro j hj
        rw [gA_sA, jn_cl (by omega), upd_ne (by omega)]
        exact h2 j hj) (by
      rintro u hu
      exact ⟨u, by dsimp only; unfold m_image_B29; rw [if_pos (by decide)], hu⟩) 0 t (by omega) ⟨fx.rfl, fun w hw => absurd hw (by omega), fun j _ => rfl⟩
  exact h
theorem m_image_all {t : St} {i : Nat} (hi : i < 2) : ∃ t', lp (fun x : Int32 × St => m_image_B21 (jn i) x.1 x.2) (jn 0, t) = some t' ∧ fx [67] [] t t' ∧ (∀ s w, s < 16 → w < 5 → gA t' 67 (80 * i + 5 * s + w) = gA t w s) ∧ ∀ j, ¬ (80 * i ≤ j ∧ j < 80 * i + 80) → gA t' 67 j = gA t 67 j := by
  have h := lp_cnt (b := fun x : Int32 × St => m_image_B21 (jn i) x.1 x.2) (fun w u => (jn w, u)) 16
    (fun n u => fx [67] [] t u ∧ (∀ s w, s < n → w < 5 → gA u 67 (80 * i + 5 * s + w) = gA t w s) ∧ ∀ j, ¬ (80 * i ≤ j ∧ j < 80 * i + 80) → gA u 67 j = gA t 67 j)
    (fun u => fx [67] [] t u ∧ (∀ s w, s < 16 → w < 5 → gA u 67 (80 * i + 5 * s + w) = gA t w s) ∧ ∀ j, ¬ (80 * i ≤ j ∧ j < 80 * i + 80) → gA u 67 j = gA t 67 j) (by
      rintro s u hs ⟨hf, h1, h2⟩
      dsimp only
      unfold m_image_B21
      have q : ¬ (16 : Int32) ≤ jn s := fun e => by have := (jn_le (a := 16) (by omega) (by omega)).mp e; omega
      obtain ⟨t', k, k1, k2, k3⟩ := m_image_row (t := u) hi hs
      rw [if_neg q, show ((0 : Int32), u) = (jn 0, u) from rfl, k, bs]
      simp only [nm]
      rw [show jn s + 1 = jn (s + 1) from jn_add s 1]
      refine ⟨_, rfl, hf.trans k1, ?_, ?_⟩
      · intro s1 w1 hs1 hw1
        by_cases e2 : s1 = s
        · subst e2
          rw [k2 w1 hw1]
          rcases (show w1 = 0 ∨ w1 = 1 ∨ w1 = 2 ∨ w1 = 3 ∨ w1 = 4 by omega) with rfl | rfl | rfl | rfl | rfl
          · rw [(hf.1 0 rfl).2.2.1]
          · rw [(hf.1 1 rfl).2.2.1]
          · rw [(hf.1 2 rfl).2.2.1]
          · rw [(hf.1 3 rfl).2.2.1]
          · rw [(hf.1 4 rfl).2.2.1]
        · rw [k3 _ (by omega)]
          exact h1 s1 w1 (by omega) hw1
      · intro j hj
        rw [k3 j (by omega)]
        exact h2 j hj) (by
      rintro u hu
      exact ⟨u, by dsimp only; unfold m_image_B21; rw [if_pos (by decide)], hu⟩) 0 t (by omega) ⟨fx.rfl, fun s w hw => absurd hw (by omega), fun j _ => rfl⟩
  exact h
theorem imG_imS {t : St} {i j : Nat} (hi : i < 2) (hj : j < 2) {f : Nat → Int32} : imG (imS t i f) j = if j = i then f else imG t j := by
  rcases (show i = 0 ∨ i = 1 by omega) with rfl | rfl <;> rcases (show j = 0 ∨ j = 1 by omega) with rfl | rfl <;> rfl
theorem imS_fx {t : St} {i : Nat} {f : Nat → Int32} : fx [503, 504] [] t (imS t i f) := fx_imS rfl rfl

theorem op_image {tx tm : St} (hH : RH tx tm) (h : RJ tx tm) (a1 : Int32) : ∃ r tx' tm', x11_image tx a1 = some (r, tx') ∧ m_image tm a1 = some (r, tm') ∧ RJ tx' tm' := by
  unfold x11_image m_image
  rcases io a1 0 1 with ⟨i, l1, u1, rfl⟩ | n1
  · have e1 : ∀ t, x11_outside t (jn i) 0 1 = some 0 := oT l1 u1 (by decide)
    have f1 : ∀ t, m_in t (jn i) 0 1 = some 1 := iT l1 u1 (by decide)
    simp only [e1, f1, bs, z0, o0, if_true]
    have h0 := h
    obtain ⟨⟨z2, z3, z4⟩, hi⟩ := h
    unfold x5_keep
    have g2 : ∀ {α : Type} (x : Option α), gd (jn i) 2 x = x := fun x => gd_jn (by omega) (by omega)
    have c1 : (jn i).toNatClampNeg = i := jn_cl (by omega)
    rw [hH.1, c1, imN_80 h0, g2, cpk_ok (by omega) (by omega) (by omega), show (Int32.ofNat 80).toNatClampNeg = 80 from rfl, show (0 : Int32).toNatClampNeg = 0 from rfl]
    simp only [nm]
    have n2 : gN (imS tx i (va_cpy (gA tx 500) (imG tx i) 0 0 80)) 502 = 2 := (imS_fx.2 502 rfl).trans z2
    rw [n2, g2, bs, g2]
    obtain ⟨t1, k, kf, k1, k2⟩ := m_image_all (t := sA tm 66 (jn i) (vp_nar .boolean 1)) (i := i) (by omega)
    rw [show ((0 : Int32), sA tm 66 (jn i) (vp_nar .boolean 1)) = (jn 0, sA tm 66 (jn i) (vp_nar .boolean 1)) from rfl, k, bs]
    refine ⟨1, _, t1, rfl, rfl, ?_⟩
    have b66 : gA t1 66 = upd (gA tm 66) i 1 := by
      rw [(kf.1 66 rfl).2.2.1]
      show upd (gA tm 66) (jn i).toNatClampNeg (vp_nar .boolean 1) = _
      rw [c1]
      rfl
    generalize hs1 : imS tx i (va_cpy (gA tx 500) (imG tx i) 0 0 80) = s1 at n2
    have b502 : gA s1 502 = gA tx 502 := by subst hs1; exact (imS_fx.1 502 rfl).2.2.1
    refine ⟨⟨?_, ?_, ?_⟩, ?_⟩
    · exact n2
    · show gN s1 503 = 80
      subst hs1
      exact (imS_fx.2 503 rfl).trans z3
    · show gN s1 504 = 80
      subst hs1
      exact (imS_fx.2 504 rfl).trans z4
    intro j hj
    obtain ⟨j1, j2, j3⟩ := hi j hj
    have im : imG (sA s1 502 (jn i) (vp_nar .boolean 1)) j = imG s1 j := by
      unfold imG
      split <;> rfl
    rw [im, ← hs1, imG_imS (by omega) hj, gA_sA, c1, hs1, b502, b66]
    by_cases e : j = i
    · subst e
      rw [upd_at, upd_at, if_pos rfl]
      refine ⟨rfl, Or.inr rfl, fun _ s w hs hw => ?_⟩
      rw [k1 s w hs hw]
      have e2 : gA (sA tm 66 (jn j) (vp_nar .boolean 1)) w s = gA tm w s := by
        rw [gA_sA_ne (by omega)]
      rw [e2]
      obtain ⟨w1, w2⟩ := hH.2 s w hs hw
      refine ⟨?_, w2⟩
      unfold va_cpy
      rw [if_pos (by omega), show 0 + (5 * s + w - 0) = 5 * s + w by omega]
      exact w1
    · rw [upd_ne e, upd_ne e, if_neg e]
      refine ⟨j1, j2, fun e1 s w hs hw => ?_⟩
      rw [k2 _ (by omega)]
      show imG tx j (5 * s + w) = gA tm 67 (80 * j + 5 * s + w) ∧ _
      exact j3 e1 s w hs hw
  · have e1 : ∀ t, x11_outside t a1 0 1 = some 1 := oF n1
    have f1 : ∀ t, m_in t a1 0 1 = some 0 := iF n1
    exact ⟨-2, tx, tm, by simp only [e1, bs, o0, if_true], by simp only [f1, bs, z0, if_true], h⟩

theorem x5_changed_step {tx tm : St} (hH : RH tx tm) (h : RJ tx tm) {i : Nat} (hi : i < 2) (h1 : gA tm 66 i = 1) {s w : Nat} (hs : s < 16) (hw : w < 5) (c : Int32) : x5_changed_B4 tx (jn i) c (jn (5 * s + w)) = some (.inl (if gA tm 67 (80 * i + 5 * s + w) = gA tm w s then c else c ||| jn (2 ^ s), jn (5 * s + (w + 1)))) := by
  unfold x5_changed_B4
  have c1 : (jn i).toNatClampNeg = i := jn_cl (by omega)
  have q : ¬ jn 80 ≤ jn (5 * s + w) := fun e => by have := (jn_le (by omega) (by omega)).mp e; omega
  rw [hH.1, show Int32.ofNat 80 = jn 80 from rfl, if_neg q, gd_jn (by omega) (by omega), gd_jn hi (by omega), c1, imN_80 h, gd_jn (by omega) (by omega), jn_cl (by omega), (hH.2 s w hs hw).1, ((h.2 i hi).2.2 h1 s w hs hw).1]
  simp only [nm]
  rw [show jn (5 * s + w) + 1 = jn (5 * s + (w + 1)) from jn_add (5 * s + w) 1]
  by_cases e : gA tm 67 (80 * i + 5 * s + w) = gA tm w s
  · rw [if_pos e, if_pos e.symm]
  · rw [if_neg e, if_neg (fun e2 => e e2.symm), show (5 : Int32) = jn 5 from rfl, jn_div (by omega) (by omega), show (5 * s + w) / 5 = s by omega, jn_shl1 s (by omega)]
theorem m_differ_step {tm : St} {i : Nat} (hi : i < 2) {s w : Nat} (hs : s < 16) (hw : w < 5) (c : Int32) : m_differ_B37 tm (jn i) (jn s) c (jn w) = some (.inl (if gA tm 67 (80 * i + 5 * s + w) = gA tm w s then c else c ||| jn (2 ^ s), jn (w + 1))) := by
  unfold m_differ_B37
  have q : ¬ (5 : Int32) ≤ jn w := fun e => by have := (jn_le (a := 5) (by omega) (by omega)).mp e; omega
  rw [if_neg q, show (80 : Int32) = jn 80 from rfl, show (5 : Int32) = jn 5 from rfl, jn_mul, jn_mul, jn_add, jn_add, gd_jn (by omega) (by omega), m_stepOf_eq hs hw, bs, jn_cl (by omega)]
  simp only [nm]
  rw [show jn w + 1 = jn (w + 1) from jn_add w 1]
  by_cases e : gA tm 67 (80 * i + 5 * s + w) = gA tm w s
  · rw [if_pos e, if_pos e, Int32.or_zero]
  · rw [if_neg e, if_neg e, jn_shl1 s (by omega)]
theorem differ_row {tx tm : St} (hH : RH tx tm) (h : RJ tx tm) {i : Nat} (hi : i < 2) (h1 : gA tm 66 i = 1) {s : Nat} (hs : s < 16) (c : Int32) : ∃ c', lp (fun x : Int32 × Int32 => x5_changed_B4 tx (jn i) x.1 x.2) (c, jn (5 * s)) = lp (fun x : Int32 × Int32 => x5_changed_B4 tx (jn i) x.1 x.2) (c', jn (5 * (s + 1))) ∧ lp (fun x : Int32 × Int32 => m_differ_B37 tm (jn i) (jn s) x.1 x.2) (c, 0) = some c' := by
  refine ⟨(fun (f : Nat → Int32 → Int32) => f 4 (f 3 (f 2 (f 1 (f 0 c))))) (fun w c => if gA tm 67 (80 * i + 5 * s + w) = gA tm w s then c else c ||| jn (2 ^ s)), ?_, ?_⟩
  rotate_left
  · rw [show (0 : Int32) = jn 0 from rfl, lp_l (b := fun x : Int32 × Int32 => m_differ_B37 tm (jn i) (jn s) x.1 x.2) (m_differ_step hi hs (w := 0) (by omega) c), lp_l (b := fun x : Int32 × Int32 => m_differ_B37 tm (jn i) (jn s) x.1 x.2) (m_differ_step hi hs (w := 1) (by omega) _), lp_l (b := fun x : Int32 × Int32 => m_differ_B37 tm (jn i) (jn s) x.1 x.2) (m_differ_step hi hs (w := 2) (by omega) _), lp_l (b := fun x : Int32 × Int32 => m_differ_B37 tm (jn i) (jn s) x.1 x.2) (m_differ_step hi hs (w := 3) (by omega) _), lp_l (b := fun x : Int32 × Int32 => m_differ_B37 tm (jn i) (jn s) x.1 x.2) (m_differ_step hi hs (w := 4) (by omega) _)]
    exact lp_r (by dsimp only; unfold m_differ_B37; rw [if_pos (by decide)])
  · have e : ∀ (w : Nat) (_ : w < 5) (c : Int32), lp (fun x : Int32 × Int32 => x5_changed_B4 tx (jn i) x.1 x.2) (c, jn (5 * s + w)) = lp (fun x : Int32 × Int32 => x5_changed_B4 tx (jn i) x.1 x.2) (if gA tm 67 (80 * i + 5 * s + w) = gA tm w s then c else c ||| jn (2 ^ s), jn (5 * s + (w + 1))) := fun w hw c => lp_l (b := fun x : Int32 × Int32 => x5_changed_B4 tx (jn i) x.1 x.2) (x5_changed_step hH h hi h1 hs hw c)
    refine (e 0 (by omega) c).trans ((e 1 (by omega) _).trans ((e 2 (by omega) _).trans ((e 3 (by omega) _).trans ((e 4 (by omega) _).trans ?_))))
    rw [show 5 * s + (4 + 1) = 5 * (s + 1) by omega]
theorem differ_all {tx tm : St} (hH : RH tx tm) (h : RJ tx tm) {i : Nat} (hi : i < 2) (h1 : gA tm 66 i = 1) : ∀ n s c, n + s = 16 → ∃ r, lp (fun x : Int32 × Int32 => x5_changed_B4 tx (jn i) x.1 x.2) (c, jn (5 * s)) = some r ∧ lp (fun x : Int32 × Int32 => m_differ_B28 tm (jn i) x.1 x.2) (c, jn s) = some r := by
  intro n
  induction n with
  | zero =>
    intro s c e
    have : s = 16 := by omega
    subst this
    refine ⟨c, lp_r ?_, lp_r ?_⟩
    · dsimp only
      unfold x5_changed_B4
      rw [hH.1, if_pos (by decide)]
    · dsimp only
      unfold m_differ_B28
      rw [if_pos (by decide)]
  | succ n ih =>
    intro s c e
    obtain ⟨c', k1, k2⟩ := differ_row hH h hi h1 (s := s) (by omega) c
    obtain ⟨r, j1, j2⟩ := ih (s + 1) c' (by omega)
    refine ⟨r, by rw [k1]; exact j1, ?_⟩
    have b : (fun x : Int32 × Int32 => m_differ_B28 tm (jn i) x.1 x.2) (c, jn s) = some (.inl (c', jn (s + 1))) := by
      dsimp only
      unfold m_differ_B28
      have q : ¬ (16 : Int32) ≤ jn s := fun e => by have := (jn_le (a := 16) (by omega) (by omega)).mp e; omega
      rw [if_neg q, k2, bs]
      simp only [nm]
      rw [show jn s + 1 = jn (s + 1) from jn_add s 1]
    rw [lp_l b]
    exact j2

theorem op_differ {tx tm : St} (hH : RH tx tm) (h : RJ tx tm) (a1 : Int32) : ∃ r, x11_differ tx a1 = some r ∧ m_differ tm a1 = some r := by
  unfold x11_differ m_differ
  rcases io a1 0 1 with ⟨i, l1, u1, rfl⟩ | n1
  · have e1 : ∀ t, x11_outside t (jn i) 0 1 = some 0 := oT l1 u1 (by decide)
    have f1 : ∀ t, m_in t (jn i) 0 1 = some 1 := iT l1 u1 (by decide)
    simp only [e1, f1, bs, z0, o0, if_true]
    have h0 := h
    obtain ⟨⟨z2, z3, z4⟩, hi⟩ := h
    have g2 : ∀ {α : Type} (x : Option α), gd (jn i) 2 x = x := fun x => gd_jn (by omega) (by omega)
    have c1 : (jn i).toNatClampNeg = i := jn_cl (by omega)
    obtain ⟨j1, j2, j3⟩ := hi i (by omega)
    rw [z2, g2, g2, c1, j1]
    rcases j2 with j2 | j2
    · rw [if_pos j2, if_pos j2]
      exact ⟨_, rfl, rfl⟩
    · have q : ¬ gA tm 66 i = 0 := by rw [j2]; decide
      rw [if_neg q, if_neg q]
      unfold x5_changed
      obtain ⟨r, k1, k2⟩ := differ_all hH h0 (i := i) (by omega) j2 16 0 0 (by omega)
      rw [show ((0 : Int32), (0 : Int32)) = (0, jn (5 * 0)) from rfl, k1, show ((0 : Int32), jn (5 * 0)) = (0, jn 0) from rfl, k2]
      exact ⟨r, rfl, rfl⟩
  · have e1 : ∀ t, x11_outside t a1 0 1 = some 1 := oF n1
    have f1 : ∀ t, m_in t a1 0 1 = some 0 := iF n1
    exact ⟨-2, by simp only [e1, bs, o0, if_true], by simp only [f1, bs, z0, if_true]⟩

theorem m_from_all {t : St} {i : Nat} (hi : i < 2) : ∃ t', lp (fun x : Int32 × St => m_from_B26 (jn i) x.1 x.2) (jn 0, t) = some t' ∧ fx [0, 1, 2, 3, 4] [] t t' ∧ ∀ s w, s < 16 → w < 5 → gA t' w s = gA t 67 (80 * i + 5 * s + w) := by
  have h := lp_cnt (b := fun x : Int32 × St => m_from_B26 (jn i) x.1 x.2) (fun w u => (jn w, u)) 16
    (fun n u => fx [0, 1, 2, 3, 4] [] t u ∧ ∀ s w, s < n → w < 5 → gA u w s = gA t 67 (80 * i + 5 * s + w))
    (fun u => fx [0, 1, 2, 3, 4] [] t u ∧ ∀ s w, s < 16 → w < 5 → gA u w s = gA t 67 (80 * i + 5 * s + w)) (by
      rintro s u hs ⟨hf, h1⟩
      dsimp only
      unfold m_from_B26
      have q : ¬ (16 : Int32) ≤ jn s := fun e => by have := (jn_le (a := 16) (by omega) (by omega)).mp e; omega
      have e67 : gA u 67 = gA t 67 := (hf.1 67 rfl).2.2.1
      have c1 : (jn s).toNatClampNeg = s := jn_cl (by omega)
      have g16 : ∀ {α : Type} (x : Option α), gd (jn s) 16 x = x := fun x => gd_jn (by omega) (by omega)
      rw [if_neg q, show (80 : Int32) = jn 80 from rfl, show (5 : Int32) = jn 5 from rfl, jn_mul, jn_mul, jn_add]
      simp only [nm]
      have e1 : jn (80 * i + 5 * s) + 1 = jn (80 * i + 5 * s + 1) := jn_add _ 1
      have e2 : jn (80 * i + 5 * s) + 2 = jn (80 * i + 5 * s + 2) := jn_add _ 2
      have e3 : jn (80 * i + 5 * s) + 3 = jn (80 * i + 5 * s + 3) := jn_add _ 3
      have e4 : jn (80 * i + 5 * s) + 4 = jn (80 * i + 5 * s + 4) := jn_add _ 4
      rw [e1, e2, e3, e4, gd_jn (show 80 * i + 5 * s < 160 by omega) (by omega), gd_jn (show 80 * i + 5 * s + 1 < 160 by omega) (by omega), gd_jn (show 80 * i + 5 * s + 2 < 160 by omega) (by omega), gd_jn (show 80 * i + 5 * s + 3 < 160 by omega) (by omega), gd_jn (show 80 * i + 5 * s + 4 < 160 by omega) (by omega)]
      simp only [g16]
      rw [show jn s + 1 = jn (s + 1) from jn_add s 1]
      refine ⟨_, rfl, ?_, ?_⟩
      · exact ((((hf.trans (fx_sA rfl)).trans (fx_sA rfl)).trans (fx_sA rfl)).trans (fx_sA rfl)).trans (fx_sA rfl)
      · intro s1 w1 hs1 hw1
        have v : ∀ (x : Nat), (jn (80 * i + 5 * s + x)).toNatClampNeg = (80 * i + 5 * s + x) % 4294967296 ∨ True := fun _ => Or.inr trivial
        rcases (show w1 = 0 ∨ w1 = 1 ∨ w1 = 2 ∨ w1 = 3 ∨ w1 = 4 by omega) with rfl | rfl | rfl | rfl | rfl
        · show upd (gA u 0) (jn s).toNatClampNeg (gA u 67 (jn (80 * i + 5 * s)).toNatClampNeg) s1 = _
          rw [c1, e67, jn_cl (by omega)]
          by_cases e : s1 = s
          · subst e; rw [upd_at]; rfl
          · rw [upd_ne e]; exact h1 s1 0 (by omega) (by omega)
        · show upd (gA u 1) (jn s).toNatClampNeg (gA u 67 (jn (80 * i + 5 * s + 1)).toNatClampNeg) s1 = _
          rw [c1, e67, jn_cl (by omega)]
          by_cases e : s1 = s
          · subst e; rw [upd_at]
          · rw [upd_ne e]; exact h1 s1 1 (by omega) (by omega)
        · show upd (gA u 2) (jn s).toNatClampNeg (gA u 67 (jn (80 * i + 5 * s + 2)).toNatClampNeg) s1 = _
          rw [c1, e67, jn_cl (by omega)]
          by_cases e : s1 = s
          · subst e; rw [upd_at]
          · rw [upd_ne e]; exact h1 s1 2 (by omega) (by omega)
        · show upd (gA u 3) (jn s).toNatClampNeg (gA u 67 (jn (80 * i + 5 * s + 3)).toNatClampNeg) s1 = _
          rw [c1, e67, jn_cl (by omega)]
          by_cases e : s1 = s
          · subst e; rw [upd_at]
          · rw [upd_ne e]; exact h1 s1 3 (by omega) (by omega)
        · show upd (gA u 4) (jn s).toNatClampNeg (gA u 67 (jn (80 * i + 5 * s + 4)).toNatClampNeg) s1 = _
          rw [c1, e67, jn_cl (by omega)]
          by_cases e : s1 = s
          · subst e; rw [upd_at]
          · rw [upd_ne e]; exact h1 s1 4 (by omega) (by omega)) (by
      rintro u hu
      exact ⟨u, by dsimp only; unfold m_from_B26; rw [if_pos (by decide)], hu⟩) 0 t (by omega) ⟨fx.rfl, fun s w hw => absurd hw (by omega)⟩
  exact h

theorem op_from {tx tm : St} (hJ : RJ tx tm) (h : RH tx tm) (a1 : Int32) : ∃ r tx' tm', x11_from tx a1 = some (r, tx') ∧ m_from tm a1 = some (r, tm') ∧ RH tx' tm' := by
  unfold x11_from m_from
  rcases io a1 0 1 with ⟨i, l1, u1, rfl⟩ | n1
  · have e1 : ∀ t, x11_outside t (jn i) 0 1 = some 0 := oT l1 u1 (by decide)
    have f1 : ∀ t, m_in t (jn i) 0 1 = some 1 := iT l1 u1 (by decide)
    simp only [e1, f1, bs, z0, o0, if_true]
    obtain ⟨⟨z2, z3, z4⟩, hi⟩ := id hJ
    have g2 : ∀ {α : Type} (x : Option α), gd (jn i) 2 x = x := fun x => gd_jn (by omega) (by omega)
    have c1 : (jn i).toNatClampNeg = i := jn_cl (by omega)
    obtain ⟨j1, j2, j3⟩ := hi i (by omega)
    rw [z2, g2, g2, c1, j1]
    rcases j2 with j2 | j2
    · rw [if_pos j2, if_pos j2]
      exact ⟨_, tx, tm, rfl, rfl, h⟩
    · have q : ¬ gA tm 66 i = 0 := by rw [j2]; decide
      rw [if_neg q, if_neg q]
      unfold x5_restore
      rw [h.1, c1, imN_80 hJ, g2, cpk_ok (by omega) (by omega) (by omega), show (Int32.ofNat 80).toNatClampNeg = 80 from rfl, show (0 : Int32).toNatClampNeg = 0 from rfl]
      simp only [nm]
      rw [bs]
      unfold x4_forgetFront
      simp only [nm]
      obtain ⟨t1, k, kf, k1⟩ := m_from_all (t := tm) (i := i) (by omega)
      rw [bs, show ((0 : Int32), tm) = (jn 0, tm) from rfl, k, bs]
      refine ⟨1, _, t1, rfl, rfl, h.1, ?_⟩
      intro s w hs hw
      show va_cpy (imG tx i) (gA tx 500) 0 0 80 (5 * s + w) = gA t1 w s ∧ ∃ k, hlo w ≤ k ∧ k ≤ hhi w ∧ gA t1 w s = jn k
      rw [k1 s w hs hw]
      obtain ⟨w1, w2⟩ := j3 j2 s w hs hw
      refine ⟨?_, w2⟩
      unfold va_cpy
      rw [if_pos (by omega), show 0 + (5 * s + w - 0) = 5 * s + w by omega]
      exact w1
  · have e1 : ∀ t, x11_outside t a1 0 1 = some 1 := oF n1
    have f1 : ∀ t, m_in t a1 0 1 = some 0 := iF n1
    exact ⟨-2, tx, tm, by simp only [e1, bs, o0, if_true], by simp only [f1, bs, z0, if_true], h⟩
