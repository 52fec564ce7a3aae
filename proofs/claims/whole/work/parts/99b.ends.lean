/-! When each step ends, as a function; the reference's tables. -/
theorem standB_cong {t t' : St} (h0 : gA t' 60 = gA t 60) (h1 : gA t' 61 = gA t 61) : m_standing_B5 t' = m_standing_B5 t := by
  funext a b c d
  unfold m_standing_B5 m_standing_J50
  rw [h0, h1]
theorem stand_cong {t t' : St} (h0 : gA t' 60 = gA t 60) (h1 : gA t' 61 = gA t 61) : m_standing t' = m_standing t := by
  funext a b
  unfold m_standing
  rw [standB_cong h0 h1]
theorem begins_cong {t t' : St} (h0 : gA t' 60 = gA t 60) (h1 : gA t' 61 = gA t 61) (h2 : gA t' 1 = gA t 1) (h3 : gA t' 4 = gA t 4) : m_beginsAt t' = m_beginsAt t := by
  have e : m_beginsAt_B5 t' = m_beginsAt_B5 t := by
    funext a b c
    unfold m_beginsAt_B5
    rw [stand_cong h0 h1, h2, h3]
  funext a b
  unfold m_beginsAt
  rw [e]
noncomputable def Eb (tm : St) (s t : Nat) : Nat := if 600 < t then 601 else match m_beginsAt tm (jn s) (jn t) with
  | some v => if v = -1 then 601 else v.toNatClampNeg + (gA tm 1 s).toNatClampNeg
  | none => 601
theorem Eb_spec {tx tm : St} (hH : RH tx tm) (hB : RB tx tm) {s t : Nat} (hs : s < 16) (ht : t ≤ 600) : ∃ r p time, gA tm 4 s = jn p ∧ gA tm 1 s = jn time ∧ 1 ≤ time ∧ time ≤ 50 ∧ p ≤ 7 ∧ bgQ tm p time t r ∧ m_beginsAt tm (jn s) (jn t) = some (match r with | none => -1 | some f => jn f) ∧ Eb tm s t = (match r with | none => 601 | some f => f + time) := by
  obtain ⟨r, p, time, e1, e2, e3, e4, e5, e6, -, e8⟩ := bg_both hH hB hs ht
  refine ⟨r, p, time, e1, e2, e3, e4, e5, e6, e8, ?_⟩
  unfold Eb
  rw [if_neg (by omega), e8, e2, jn_cl (by omega)]
  cases r with
  | none => rfl
  | some f =>
    have := e6.2.1
    dsimp only
    rw [if_neg (jn_ne1 (by omega)), jn_cl (by omega)]
theorem Eb_EM {tx tm : St} (hH : RH tx tm) (hB : RB tx tm) (stp : Nat → Nat) (hs : ∀ c, stp c < 16) : EM (fun c t => Eb tm (stp c) t) := by
  have cap : ∀ c t, Eb tm (stp c) t ≤ 601 := by
    intro c t
    by_cases q : t ≤ 600
    · obtain ⟨r, p, time, -, -, -, -, -, e6, -, e8⟩ := Eb_spec hH hB (hs c) q
      rw [e8]
      cases r with
      | none => exact Nat.le_refl _
      | some f => have := e6.2.1; dsimp only; omega
    · unfold Eb
      rw [if_pos (by omega)]
      exact Nat.le_refl _
  have big : ∀ c t, 600 < t → Eb tm (stp c) t = 601 := fun c t q => by unfold Eb; rw [if_pos q]
  refine ⟨?_, cap, fun c => big c 601 (by omega), ?_⟩
  · intro c t t' h
    by_cases q' : t' ≤ 600
    · obtain ⟨r, p, time, p1, t1, j3, j4, j5, e6, -, e8⟩ := Eb_spec hH hB (hs c) (show t ≤ 600 by omega)
      obtain ⟨r', p', time', p2, t2, k3, k4, k5, k6, -, k8⟩ := Eb_spec hH hB (hs c) q'
      have ep : p = p' := by
        rw [p1] at p2
        exact (jn_inj (by omega) (by omega)).mp p2
      have et : time = time' := by
        rw [t1] at t2
        exact (jn_inj (by omega) (by omega)).mp t2
      subst ep et
      show Eb tm (stp c) t ≤ Eb tm (stp c) t'
      rw [e8, k8]
      cases r' with
      | none =>
        cases r with
        | none => exact Nat.le_refl _
        | some f => have := e6.2.1; dsimp only; omega
      | some f' =>
        obtain ⟨k61, k62, k63, k64⟩ := k6
        cases r with
        | none => exact absurd k63 (e6 f' (by omega) k62)
        | some f =>
          obtain ⟨e61, e62, e63, e64⟩ := e6
          dsimp only
          by_cases q : f ≤ f'
          · omega
          · exact absurd k63 (e64 f' (by omega) (by omega))
    · show Eb tm (stp c) t ≤ Eb tm (stp c) t'
      rw [big c t' (by omega)]
      exact cap c t
  · intro c t ht
    by_cases q : t ≤ 600
    · obtain ⟨r, p, time, -, -, -, -, -, e6, -, e8⟩ := Eb_spec hH hB (hs c) q
      show t ≤ Eb tm (stp c) t
      rw [e8]
      cases r with
      | none => dsimp only; omega
      | some f => have := e6.1; dsimp only; omega
    · show t ≤ Eb tm (stp c) t
      rw [big c t (by omega)]
      exact ht
def enc (v : Nat) : Int32 := if 601 ≤ v then -1 else jn v
theorem enc_ne {v : Nat} (h : v < 601) : enc v = jn v := if_neg (by omega)
theorem enc_no {v : Nat} (h : 601 ≤ v) : enc v = -1 := if_pos h
theorem Eb_enc {tx tm : St} (hH : RH tx tm) (hB : RB tx tm) {s t : Nat} (hs : s < 16) (ht : t ≤ 600) : ∃ q, m_beginsAt tm (jn s) (jn t) = some q ∧ ((q = -1 ∧ enc (Eb tm s t) = -1) ∨ (¬ q = -1 ∧ q + gA tm 1 s = enc (Eb tm s t))) := by
  obtain ⟨r, p, time, -, e2, -, -, -, e6, e7, e8⟩ := Eb_spec hH hB hs ht
  refine ⟨_, e7, ?_⟩
  cases r with
  | none =>
    left
    rw [e8]
    exact ⟨rfl, enc_no (by dsimp only; omega)⟩
  | some f =>
    right
    have := e6.2.1
    rw [e8, e2]
    dsimp only
    refine ⟨jn_ne1 (by omega), ?_⟩
    rw [enc_ne (by omega), jn_add]
/-! The steps of a set, in order. -/
def csL (set s : Nat) : List Nat := (List.range s).filter (fun i => set.testBit i)
theorem csL_s (set s : Nat) : csL set (s + 1) = if set.testBit s then csL set s ++ [s] else csL set s := by
  unfold csL
  rw [List.range_succ, List.filter_append]
  by_cases q : set.testBit s
  · rw [if_pos q, List.filter_cons_of_pos q]
    rfl
  · rw [if_neg q, List.filter_cons_of_neg q]
    exact List.append_nil _
theorem csL_lt {set s x : Nat} (h : x ∈ csL set s) : x < s := List.mem_range.mp (List.mem_filter.mp h).1
theorem csL_len (set : Nat) : ∀ s, (csL set s).length = smm (fun i => if set.testBit i then 1 else 0) s
  | 0 => rfl
  | s + 1 => by
    rw [csL_s]
    unfold smm
    rw [← csL_len set s]
    by_cases q : set.testBit s
    · rw [if_pos q, if_pos q, List.length_append]
      rfl
    · rw [if_neg q, if_neg q]
      rfl
theorem csL_mono (set : Nat) {s u : Nat} (h : s ≤ u) : (csL set s).length ≤ (csL set u).length := by
  induction h with
  | refl => exact Nat.le_refl _
  | step _ ih =>
    refine Nat.le_trans ih ?_
    rw [csL_s]
    split
    · rw [List.length_append]; omega
    · exact Nat.le_refl _
def popc : Nat → Nat → Nat
  | 0, _ => 0
  | f + 1, v => v % 2 + popc f (v / 2)
theorem smm_front (f : Nat → Nat) : ∀ n, smm f (n + 1) = f 0 + smm (fun i => f (i + 1)) n
  | 0 => by show 0 + f 0 = f 0 + 0; omega
  | n + 1 => by
    show smm f (n + 1) + f (n + 1) = f 0 + (smm (fun i => f (i + 1)) n + f (n + 1))
    rw [smm_front f n]
    omega
theorem popc_smm : ∀ (f v : Nat), popc f v = smm (fun i => if v.testBit i then 1 else 0) f
  | 0, _ => rfl
  | f + 1, v => by
    rw [smm_front]
    unfold popc
    rw [popc_smm f (v / 2)]
    congr 1
    · rw [Nat.testBit_zero]
      rcases Nat.mod_two_eq_zero_or_one v with h | h
      · rw [h]; rfl
      · rw [h]; rfl
    · exact smm_cong fun i _ => by rw [Nat.testBit_succ]
theorem pc_len (set : Nat) : (csL set 16).length = popc 16 set := by rw [csL_len, popc_smm]
theorem m_sizeOf_eq (t : St) : ∀ (f v c : Nat), v < 2 ^ f → f ≤ 16 → c + f ≤ 100 → lp (fun x : Int32 × Int32 => m_sizeOf_B4 t x.1 x.2) (jn c, jn v) = some (jn (c + popc f v))
  | 0, v, c, h, _, _ => by
    have : v = 0 := by omega
    subst this
    exact lp_r (by dsimp only; unfold m_sizeOf_B4; rw [if_pos (by decide)]; rfl)
  | f + 1, v, c, h, hf, hc => by
    by_cases q : v = 0
    · subst q
      have z : ∀ g, popc g 0 = 0 := by
        intro g
        induction g with
        | zero => rfl
        | succ g ih => unfold popc; rw [Nat.zero_div, ih]
      rw [z]
      exact lp_r (by dsimp only; unfold m_sizeOf_B4; rw [if_pos (by decide)]; rfl)
    · have h16 : v < 65536 := Nat.lt_of_lt_of_le h (Nat.pow_le_pow_right (n := 2) (by omega) hf)
      have b : (fun x : Int32 × Int32 => m_sizeOf_B4 t x.1 x.2) (jn c, jn v) = some (.inl (jn (c + v % 2), jn (v / 2))) := by
        dsimp only
        unfold m_sizeOf_B4
        have q1 : ¬ jn v ≤ 0 := fun e => by have := (jn_le (b := 0) (by omega) (by omega)).mp e; omega
        rw [if_neg q1]
        simp only [nm]
        have s1 : jn v >>> ((1 : Int32) &&& 31) = jn (v >>> 1) := jn_shr (a := v) (k := 1) (by omega) (by omega)
        rw [s1, show (1 : Int32) = jn 1 from rfl, jn_and, jn_add, Nat.and_one_is_mod, Nat.shiftRight_eq_div_pow]
      rw [lp_l b, m_sizeOf_eq t f (v / 2) (c + v % 2) (by rw [Nat.pow_succ] at h; omega) (by omega) (by omega)]
      rw [Nat.add_assoc]
      rfl
theorem m_sizeOf_pc (t : St) {v : Nat} (h : v < 65536) : m_sizeOf t (jn v) = some (jn (popc 16 v)) := by
  unfold m_sizeOf
  rw [show ((0 : Int32), jn v) = (jn 0, jn v) from rfl, m_sizeOf_eq t 16 v 0 h (by omega) (by omega), bs, Nat.zero_add]

