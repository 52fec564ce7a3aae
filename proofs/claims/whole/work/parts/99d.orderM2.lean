/-! The reference finds the first best order. -/
theorem csL_pre (set : Nat) {s u : Nat} (h : s ≤ u) : ∃ r, csL set u = csL set s ++ r := by
  induction h with
  | refl => exact ⟨[], (List.append_nil _).symm⟩
  | step _ ih =>
    obtain ⟨r, hr⟩ := ih
    rw [csL_s]
    split
    · exact ⟨r ++ [_], by rw [hr, List.append_assoc]⟩
    · exact ⟨r, hr⟩
theorem csL_get (set : Nat) {s c : Nat} (h : s ≤ 16) (hc : c < (csL set s).length) : (csL set 16).getD c 0 = (csL set s).getD c 0 := by
  obtain ⟨r, hr⟩ := csL_pre set h
  rw [hr, List.getD_eq_getElem?_getD, List.getD_eq_getElem?_getD, List.getElem?_append_left hc]
theorem csL_new (set : Nat) {s : Nat} (h : s < 16) (hb : set.testBit s = true) : (csL set 16).getD (csL set s).length 0 = s ∧ (csL set s).length < (csL set 16).length := by
  have e := csL_s set s
  rw [if_pos hb] at e
  have hl : (csL set (s + 1)).length = (csL set s).length + 1 := by rw [e, List.length_append]; rfl
  refine ⟨?_, ?_⟩
  · rw [csL_get set (s := s + 1) (by omega) (by omega), e, List.getD_eq_getElem?_getD, List.getElem?_append_right (Nat.le_refl _), Nat.sub_self]
    rfl
  · have := csL_mono set (s := s + 1) (u := 16) (by omega)
    omega
theorem csL_getlt (set c : Nat) : (csL set 16).getD c 0 < 16 := by
  rw [List.getD_eq_getElem?_getD]
  cases e : (csL set 16)[c]? with
  | none => exact (by decide : 0 < 16)
  | some x => exact csL_lt (List.mem_of_getElem? e)
theorem m_row_ends {tx t : St} (hH : RH tx t) (hB : RB tx t) {minute c s : Nat} (v1 : Int32) (hm : minute ≤ 600) (hc : c < 7) (hs : s < 16) : ∃ t', lp (fun x : Int32 × St => m_findOrder_B33 v1 (jn minute) (jn c) (jn s) x.1 x.2) (jn minute, t) = some t' ∧ fx [62] [] t t' ∧ (∀ a, minute ≤ a → a ≤ 600 → gA t' 62 (601 * c + a) = enc (Eb t s a)) ∧ ∀ j, ¬ (601 * c ≤ j ∧ j < 601 * c + 601) → gA t' 62 j = gA t 62 j := by
  have h := lp_cnt (b := fun x : Int32 × St => m_findOrder_B33 v1 (jn minute) (jn c) (jn s) x.1 x.2) (fun i u => (jn i, u)) 601
    (fun n u => minute ≤ n ∧ fx [62] [] t u ∧ (∀ a, minute ≤ a → a < n → gA u 62 (601 * c + a) = enc (Eb t s a)) ∧ ∀ j, ¬ (601 * c ≤ j ∧ j < 601 * c + 601) → gA u 62 j = gA t 62 j)
    (fun u => fx [62] [] t u ∧ (∀ a, minute ≤ a → a < 601 → gA u 62 (601 * c + a) = enc (Eb t s a)) ∧ ∀ j, ¬ (601 * c ≤ j ∧ j < 601 * c + 601) → gA u 62 j = gA t 62 j) (by
      rintro a u ha ⟨hma, hf, h1, h2⟩
      dsimp only
      unfold m_findOrder_B33
      have q : ¬ (600 : Int32) < jn a := fun e => by have := (jn_lt (a := 600) (by omega) (by omega)).mp e; omega
      obtain ⟨v, e1, e2⟩ := Eb_enc hH hB hs (show a ≤ 600 by omega)
      rw [if_neg q, begins_cong (t := t) (hf.1 60 rfl).2.2.1 (hf.1 61 rfl).2.2.1 (hf.1 1 rfl).2.2.1 (hf.1 4 rfl).2.2.1, e1, bs, show (601 : Int32) = jn 601 from rfl, jn_mul, jn_add]
      have hj : ∀ w, w = enc (Eb t s a) → ∃ s', m_findOrder_J83 u v1 (jn minute) (jn c) (jn s) (jn a) (jn (601 * c + a)) w = some (.inl (jn (a + 1), s')) ∧ minute ≤ a + 1 ∧ fx [62] [] t s' ∧ (∀ a1, minute ≤ a1 → a1 < a + 1 → gA s' 62 (601 * c + a1) = enc (Eb t s a1)) ∧ ∀ j, ¬ (601 * c ≤ j ∧ j < 601 * c + 601) → gA s' 62 j = gA t 62 j := by
        rintro w rfl
        unfold m_findOrder_J83
        rw [gd_jn (by omega) (by omega)]
        simp only [nm, jn_s]
        refine ⟨_, rfl, by omega, hf.trans (fx_sA rfl), ?_, ?_⟩
        · intro a1 h3 h4
          rw [gA_sA, jn_cl (by omega)]
          by_cases e : a1 = a
          · subst e; rw [upd_at]
          · rw [upd_ne (by omega)]; exact h1 a1 h3 (by omega)
        · intro j hj
          rw [gA_sA, jn_cl (by omega), upd_ne (by omega)]
          exact h2 j hj
      rcases e2 with ⟨e2, e3⟩ | ⟨e2, e3⟩
      · rw [if_pos e2]
        exact hj _ e3.symm
      · rw [if_neg e2, gd_jn hs (by omega), jn_cl (by omega), (hf.1 1 rfl).2.2.1]
        exact hj _ e3) (by
      rintro u ⟨-, hu⟩
      exact ⟨u, by dsimp only; unfold m_findOrder_B33; rw [if_pos (by decide)], hu⟩) minute t (by omega) ⟨Nat.le_refl _, fx.rfl, fun a h1 h2 => absurd h2 (by omega), fun j _ => rfl⟩
  obtain ⟨y, k, k1, k2, k3⟩ := h
  exact ⟨y, k, k1, fun a h1 h2 => k2 a h1 (by omega), k3⟩
/-- the reference's tables for a set of steps -/
def otab (t u : St) (set minute : Nat) (m : Nat) : Prop := ∀ c, c < m → gA u 44 c = jn ((csL set 16).getD c 0) ∧ gA u 63 c = jn c ∧ ∀ a, minute ≤ a → a ≤ 600 → gA u 62 (601 * c + a) = enc (Eb t ((csL set 16).getD c 0) a)
theorem m_tables {tx t : St} (hH : RH tx t) (hB : RB tx t) {minute set : Nat} (hm : minute ≤ 600) (hset : set < 65536) (h7 : (csL set 16).length ≤ 7) : ∃ t', lp (fun x : Int32 × Int32 × St => m_findOrder_B5 (jn set) (jn minute) x.1 x.2.1 x.2.2) (0, 0, t) = some (jn (csL set 16).length, t') ∧ fx [44, 62, 63] [] t t' ∧ otab t t' set minute (csL set 16).length := by
  have h := lp_cnt (b := fun x : Int32 × Int32 × St => m_findOrder_B5 (jn set) (jn minute) x.1 x.2.1 x.2.2) (fun s u => (jn (csL set s).length, jn s, u)) 16
    (fun s u => fx [44, 62, 63] [] t u ∧ otab t u set minute (csL set s).length)
    (fun y => y.1 = jn (csL set 16).length ∧ fx [44, 62, 63] [] t y.2 ∧ otab t y.2 set minute (csL set 16).length) (by
      rintro s u hs ⟨hf, h1⟩
      dsimp only
      unfold m_findOrder_B5
      have q : ¬ (16 : Int32) ≤ jn s := fun e => by have := (jn_le (a := 16) (by omega) (by omega)).mp e; omega
      rw [if_neg q]
      by_cases hb : set.testBit s = true
      · obtain ⟨g1, g2⟩ := csL_new set hs hb
        have hl : (csL set (s + 1)).length = (csL set s).length + 1 := by rw [csL_s, if_pos hb, List.length_append]; rfl
        rw [if_pos ((bit_iff (by omega) (by omega)).mpr hb), gd_jn (by omega) (by omega)]
        simp only [nm]
        generalize hu1 : sA u 44 (jn (csL set s).length) (jn s) = u1
        have f1 : fx [44, 62, 63] [] t u1 := by subst hu1; exact hf.trans (fx_sA rfl)
        have b44 : gA u1 44 = upd (gA u 44) (csL set s).length (jn s) := by subst hu1; rw [gA_sA, jn_cl (by omega)]
        have b63 : gA u1 63 = gA u 63 := by subst hu1; rfl
        have b62 : gA u1 62 = gA u 62 := by subst hu1; rfl
        obtain ⟨u2, k, k1, k2, k3⟩ := m_row_ends (tx := tx) (t := u1) (hH.fr (S := []) (T := []) fx.rfl f1) (hB.fr (S := []) (T := []) fx.rfl f1) (jn set) hm (show (csL set s).length < 7 by omega) hs
        rw [k, bs, gd_jn (by omega) (by omega), jn_s, jn_s]
        refine ⟨_, by rw [hl], (f1.trans (k1.wk rfl rfl)).trans (fx_sA rfl), ?_⟩
        have eE : ∀ a, Eb u1 s a = Eb t s a := fun a => by
          unfold Eb
          rw [begins_cong (t := t) (f1.1 60 rfl).2.2.1 (f1.1 61 rfl).2.2.1 (f1.1 1 rfl).2.2.1 (f1.1 4 rfl).2.2.1, (f1.1 1 rfl).2.2.1]
        rw [hl]
        intro c hc
        have c44 : gA (sA u2 63 (jn (csL set s).length) (jn (csL set s).length)) 44 = gA u1 44 := (k1.1 44 rfl).2.2.1
        have c62 : gA (sA u2 63 (jn (csL set s).length) (jn (csL set s).length)) 62 = gA u2 62 := rfl
        rw [c44, c62, gA_sA, jn_cl (by omega), b44, (k1.1 63 rfl).2.2.1, b63]
        by_cases e : c = (csL set s).length
        · subst e
          rw [upd_at, upd_at, g1]
          exact ⟨rfl, rfl, fun a ha1 ha2 => by rw [k2 a ha1 ha2, eE]⟩
        · obtain ⟨j1, j2, j3⟩ := h1 c (by omega)
          rw [upd_ne e, upd_ne e]
          exact ⟨j1, j2, fun a ha1 ha2 => by rw [k3 _ (by omega), b62]; exact j3 a ha1 ha2⟩
      · have hl : csL set (s + 1) = csL set s := by rw [csL_s, if_neg hb]
        rw [if_neg (fun e => hb ((bit_iff (by omega) (by omega)).mp e))]
        simp only [nm, jn_s]
        exact ⟨u, by rw [hl], hf, by rw [hl]; exact h1⟩) (by
      rintro u ⟨hf, h1⟩
      exact ⟨(jn (csL set 16).length, u), by dsimp only; unfold m_findOrder_B5; rw [if_pos (by decide)], rfl, hf, h1⟩) 0 t (by omega) ⟨fx.rfl, fun c hc => absurd hc (by show ¬ c < 0; omega)⟩
  obtain ⟨⟨y1, y2⟩, k, k1, k2, k3⟩ := h
  dsimp only at k1 k2 k3
  subst k1
  exact ⟨y2, k, k2, k3⟩
theorem endL_601 {E : Nat → Nat → Nat} (h : EM E) : ∀ l, endL E l 601 = 601
  | [] => rfl
  | c :: l => by
    show endL E l (E c 601) = 601
    rw [h.2.2.1]
    exact endL_601 h l
theorem endL_le {E : Nat → Nat → Nat} (h : EM E) : ∀ l t, t ≤ 601 → endL E l t ≤ 601
  | [], _, ht => ht
  | c :: l, t, _ => endL_le h l (E c t) (h.2.1 c t)
theorem endL_drop {E : Nat → Nat → Nat} {l : List Nat} {i : Nat} (hi : i < l.length) (t : Nat) : endL E (l.drop i) t = endL E (l.drop (i + 1)) (E (l.getD i 0) t) := by
  rw [List.drop_eq_getElem_cons hi, List.getD_eq_getElem?_getD, List.getElem?_eq_getElem hi]
  rfl
theorem m_endOf_eq {E : Nat → Nat → Nat} (hE : EM E) {u : St} {l : List Nat} {n minute : Nat} (h : rowIs u l n) (ho : okL l n) (h7 : n ≤ 7) (ht : ∀ c, c < n → ∀ a, minute ≤ a → a ≤ 600 → gA u 62 (601 * c + a) = enc (E c a)) : ∀ k i v, i + k = n → minute ≤ v → v ≤ 601 → lp (fun x : Int32 × Int32 => m_endOf_B5 u (jn n) x.1 x.2) (enc v, jn i) = some (enc (endL E (l.drop i) v)) := by
  intro k
  induction k with
  | zero =>
    intro i v hi hv1 hv2
    have : i = n := by omega
    subst this
    rw [List.drop_eq_nil_of_le (by rw [ho.1]; exact Nat.le_refl _)]
    exact lp_r (by dsimp only; unfold m_endOf_B5; rw [if_pos (lee (by omega))]; rfl)
  | succ k ih =>
    intro i v hi hv1 hv2
    have q : ¬ jn n ≤ jn i := nle (by omega) (by omega)
    by_cases e : v = 601
    · subst e
      rw [endL_601 hE, enc_no (Nat.le_refl _)]
      exact lp_r (by dsimp only; unfold m_endOf_B5; rw [if_neg q, if_pos rfl])
    · have a1 := ho.get (j := i) (by omega)
      have b : (fun x : Int32 × Int32 => m_endOf_B5 u (jn n) x.1 x.2) (enc v, jn i) = some (.inl (enc (E (l.getD i 0) v), jn (i + 1))) := by
        dsimp only
        unfold m_endOf_B5
        rw [enc_ne (by omega), if_neg q, if_neg (jn_ne1 (by omega)), gd_jn (by omega) (by omega), jn_cl (by omega), h i (by omega), show (601 : Int32) = jn 601 from rfl, jn_mul, jn_add, gd_jn (by omega) (by omega), jn_cl (by omega), ht _ a1 v hv1 (by omega)]
        simp only [nm, jn_s]
      rw [lp_l b, endL_drop (by rw [ho.1]; omega)]
      exact ih (i + 1) _ (by omega) (Nat.le_trans hv1 (hE.2.2.2 _ v hv2)) (hE.2.1 _ _)
