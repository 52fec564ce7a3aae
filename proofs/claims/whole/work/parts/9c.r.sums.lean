/-! Sums over a set's steps; the least way. -/
def vN (tm : St) (w s : Nat) : Nat := (gA tm w s).toNatClampNeg
theorem vN_ok {tx tm : St} (h : RH tx tm) {w s : Nat} (hs : s < 16) (hw : w < 5) : gA tm w s = jn (vN tm w s) ∧ vN tm w s ≤ hhi w ∧ gA tx 500 (5 * s + w) = jn (vN tm w s) := by
  obtain ⟨e, k, -, h2, h3⟩ := h.2 s w hs hw
  have hb : hhi w ≤ 1000 := by unfold hhi; split; omega; split; omega; split; omega; split <;> omega
  have : vN tm w s = k := by unfold vN; rw [h3, jn_cl (by omega)]
  rw [e, this]
  exact ⟨h3, h2, h3⟩
def vlN (tm : St) (what free s : Nat) : Nat := if what = 1 then vN tm 1 s else if free.testBit s then 0 else vN tm 0 s
def smN (tm : St) (what free set : Nat) : Nat := smm (fun s => if set.testBit s then vlN tm what free s else 0) 16
theorem vlN_le {tx tm : St} (h : RH tx tm) {s : Nat} (hs : s < 16) (what free : Nat) : vlN tm what free s ≤ 1000 := by
  unfold vlN
  have h0 := (vN_ok h hs (show 0 < 5 by omega)).2.1
  have h1 := (vN_ok h hs (show 1 < 5 by omega)).2.1
  have e0 : hhi 0 = 1000 := rfl
  have e1 : hhi 1 = 50 := rfl
  split
  · omega
  · split <;> omega
theorem smN_le {tx tm : St} (h : RH tx tm) (what free set : Nat) : ∀ n, n ≤ 16 → smm (fun s => if set.testBit s then vlN tm what free s else 0) n ≤ 1000 * n := by
  intro n
  induction n with
  | zero => intro _; exact Nat.le_refl _
  | succ n ih =>
    intro hn
    have h1 := ih (by omega)
    have h2 := vlN_le h (show n < 16 by omega) what free
    show smm _ n + (if set.testBit n then vlN tm what free n else 0) ≤ _
    split <;> omega
theorem smN_16 {tx tm : St} (h : RH tx tm) (what free set : Nat) : smN tm what free set ≤ 16000 := smN_le h what free set 16 (Nat.le_refl _)
theorem m_sumOf_eq {tx tm t : St} (h : RH tx tm) (h0 : gA t 0 = gA tm 0) (h1 : gA t 1 = gA tm 1) {set what free : Nat} (hs : set < 65536) (hw : what ≤ 1) (hf : free < 65536) : m_sumOf t (jn set) (jn what) (jn free) = some (jn (smN tm what free set)) := by
  have l := lp_cnt (b := fun y : Int32 × Int32 => m_sumOf_B6 t (jn set) (jn what) (jn free) y.1 y.2) (fun i z => (z, jn i)) 16
    (fun i z => z = jn (smm (fun s => if set.testBit s then vlN tm what free s else 0) i))
    (fun z => z = jn (smN tm what free set)) (by
      rintro i z hi rfl
      have v0 := (vN_ok h hi (show 0 < 5 by omega)).1
      have v1 := (vN_ok h hi (show 1 < 5 by omega)).1
      have st : smm (fun s => if set.testBit s then vlN tm what free s else 0) (i + 1) = smm (fun s => if set.testBit s then vlN tm what free s else 0) i + (if set.testBit i then vlN tm what free i else 0) := rfl
      refine ⟨_, ?_, rfl⟩
      dsimp only
      unfold m_sumOf_B6
      rw [if_neg (jnge (x := 16) 16 rfl (by omega) (by omega) (by omega)), st]
      cases hb : set.testBit i with
      | true =>
        rw [if_pos ((bit_iff (by omega) (by omega)).mpr hb), if_pos rfl]
        unfold vlN
        by_cases c : what = 1
        · subst c
          rw [if_pos (show jn 1 = 1 from rfl), if_pos rfl, gd_jn (by omega) (by omega), jn_cl (by omega), h1, v1]
          simp only [nm, jn_s, jn_add]
        · rw [if_neg (jnl (x := 1) 1 rfl c (by omega) (by omega)), if_neg c]
          cases hb2 : free.testBit i with
          | true =>
            rw [if_pos ((bit_iff (by omega) (by omega)).mpr hb2), if_pos rfl]
            simp only [nm, jn_s]
            rw [show (0 : Int32) = jn 0 from rfl, jn_add]
          | false =>
            rw [if_neg (fun e => by rw [(bit_iff (by omega) (by omega)).mp e] at hb2; cases hb2), gd_jn (by omega) (by omega), jn_cl (by omega), h0, v0]
            simp only [nm, jn_s, jn_add]
            rfl
      | false =>
        rw [if_neg (fun e => by rw [(bit_iff (by omega) (by omega)).mp e] at hb; cases hb)]
        simp only [nm, jn_s]
        rfl) (by
      rintro z rfl
      exact ⟨_, by dsimp only; unfold m_sumOf_B6; rw [if_pos (by decide)]; rfl, rfl⟩) 0 (jn 0) (by omega) rfl
  obtain ⟨z, k1, rfl⟩ := l
  unfold m_sumOf
  rw [show ((0 : Int32), (0 : Int32)) = (jn 0, jn 0) from rfl, k1, bs]
theorem x_sumOf_eq {tx tm t : St} (h : RH tx tm) (hN : gN t 500 = 80) (h5 : gA t 500 = gA tx 500) {set what : Nat} (hs : set < 65536) (hw : what ≤ 1) : x5_sumOf t (jn set) (jn what) = some (jn (smN tm what 0 set)) := by
  have l := lp_cnt (b := fun y : Int32 × Int32 => x5_sumOf_B5 t (jn set) (jn what) y.1 y.2) (fun i z => (z, jn i)) 16
    (fun i z => z = jn (smm (fun s => if set.testBit s then vlN tm what 0 s else 0) i))
    (fun z => z = jn (smN tm what 0 set)) (by
      rintro i z hi rfl
      have v := (vN_ok h hi (show what < 5 by omega)).2.2
      have st : smm (fun s => if set.testBit s then vlN tm what 0 s else 0) (i + 1) = smm (fun s => if set.testBit s then vlN tm what 0 s else 0) i + (if set.testBit i then vlN tm what 0 i else 0) := rfl
      refine ⟨_, ?_, rfl⟩
      dsimp only
      unfold x5_sumOf_B5
      rw [if_neg (jnge (x := 16) 16 rfl (by omega) (by omega) (by omega)), st]
      cases hb : set.testBit i with
      | true =>
        rw [if_pos ((bit_iff (by omega) (by omega)).mpr hb), if_pos rfl, x5_at hN hi (by omega), h5, v, bs]
        simp only [nm, jn_s, jn_add]
        have : vlN tm what 0 i = vN tm what i := by
          unfold vlN
          by_cases c : what = 1
          · rw [if_pos c, c]
          · rw [if_neg c, Nat.zero_testBit, show what = 0 by omega]
            rfl
        rw [this]
      | false =>
        rw [if_neg (fun e => by rw [(bit_iff (by omega) (by omega)).mp e] at hb; cases hb)]
        simp only [nm, jn_s]
        rfl) (by
      rintro z rfl
      exact ⟨_, by dsimp only; unfold x5_sumOf_B5; rw [if_pos (by decide)]; rfl, rfl⟩) 0 (jn 0) (by omega) rfl
  obtain ⟨z, k1, rfl⟩ := l
  unfold x5_sumOf
  rw [show ((0 : Int32), (0 : Int32)) = (jn 0, jn 0) from rfl, k1, bs]
/-- the first place of the least -/
def amin (g : Nat → Nat) : Nat → Nat
  | 0 => 0
  | i + 1 => if g (i + 1) < g (amin g i) then i + 1 else amin g i
theorem amin_le (g : Nat → Nat) : ∀ n, amin g n ≤ n := by
  intro n
  induction n with
  | zero => exact Nat.le_refl _
  | succ n ih =>
    show (if g (n + 1) < g (amin g n) then n + 1 else amin g n) ≤ n + 1
    split <;> omega
theorem amin_s (g : Nat → Nat) (n : Nat) : amin g (n + 1) = if g (n + 1) < g (amin g n) then n + 1 else amin g n := rfl
def gsN (tm : St) (l : List Nat) (what free i : Nat) : Nat := smN tm what free (l.getD i 0)
theorem leastAt_eq {tx tm t : St} (h : RH tx tm) (h0 : gA t 0 = gA tm 0) (h1 : gA t 1 = gA tm 1) {l : List Nat} (hl : LsIs t l) (hlt : ∀ i, i < l.length → l.getD i 0 < 65536) (hpos : 1 ≤ l.length) {what free : Nat} (hw : what ≤ 1) (hf : free < 65536) : m_leastAt t (jn what) (jn free) = some (jn (amin (gsN tm l what free) (l.length - 1))) := by
  have len := hl.2.1
  have lo := lp_cnt (b := fun y : Int32 × Int32 => m_leastAt_B5 t (jn what) (jn free) y.1 y.2) (fun i z => (z, jn i)) l.length
    (fun i z => 1 ≤ i ∧ z = jn (amin (gsN tm l what free) (i - 1)))
    (fun z => z = jn (amin (gsN tm l what free) (l.length - 1))) (by
      rintro i z hi ⟨hi1, rfl⟩
      have al := amin_le (gsN tm l what free) (i - 1)
      have gd_ : ∀ x, smN tm what free (l.getD x 0) = gsN tm l what free x := fun _ => rfl
      have b1 : gsN tm l what free i ≤ 16000 := smN_16 h what free (l.getD i 0)
      have b2 : gsN tm l what free (amin (gsN tm l what free) (i - 1)) ≤ 16000 := smN_16 h what free (l.getD (amin (gsN tm l what free) (i - 1)) 0)
      have st : amin (gsN tm l what free) (i + 1 - 1) = if gsN tm l what free i < gsN tm l what free (amin (gsN tm l what free) (i - 1)) then i else amin (gsN tm l what free) (i - 1) := by
        obtain ⟨j, rfl⟩ : ∃ j, i = j + 1 := ⟨i - 1, by omega⟩
        exact amin_s _ _
      refine ⟨_, ?_, by omega, rfl⟩
      dsimp only
      unfold m_leastAt_B5
      rw [hl.1, if_neg (nle hi (by omega)), gd_jn (by omega) (by omega), jn_cl (by omega), hl.2.2 i hi, m_sumOf_eq h h0 h1 (hlt i hi) hw hf, bs, gd_jn (by omega) (by omega), jn_cl (by omega), hl.2.2 _ (by omega), m_sumOf_eq h h0 h1 (hlt _ (by omega)) hw hf, bs, st, gd_, gd_]
      by_cases c : gsN tm l what free i < gsN tm l what free (amin (gsN tm l what free) (i - 1))
      · rw [if_neg (nle c (by omega)), if_pos c]
        simp only [nm, jn_s]
      · rw [if_pos ((jn_le (by omega) (by omega)).mpr (by omega)), if_neg c]
        simp only [nm, jn_s]) (by
      rintro z ⟨-, rfl⟩
      exact ⟨_, by dsimp only; unfold m_leastAt_B5; rw [hl.1, if_pos (lee (by omega))], rfl⟩) 1 (jn 0) hpos ⟨Nat.le_refl _, rfl⟩
  obtain ⟨z, k1, rfl⟩ := lo
  unfold m_leastAt
  rw [show ((0 : Int32), (1 : Int32)) = (jn 0, jn 1) from rfl, k1, bs]
theorem firstLeast_eq {tx tm t : St} (h : RH tx tm) (hN : gN t 500 = 80) (h5 : gA t 500 = gA tx 500) {l : List Nat} (hl : LxIs t l) (h2 : gN t 1002 = 200) (hlt : ∀ i, i < l.length → l.getD i 0 < 65536) (hpos : 1 ≤ l.length) {what : Nat} (hw : what ≤ 1) : x10_firstLeast t (jn what) = some (jn (l.getD (amin (gsN tm l what 0) (l.length - 1)) 0)) := by
  have len := hl.2.1
  have lo := lp_cnt (b := fun y : Int32 × Int32 × Int32 => x10_firstLeast_B9 t (jn what) y.1 y.2.1 y.2.2) (fun i z => (z.1, z.2, jn i)) l.length
    (fun i z => z = if i = 0 then (0, 16001) else (jn (l.getD (amin (gsN tm l what 0) (i - 1)) 0), jn (gsN tm l what 0 (amin (gsN tm l what 0) (i - 1)))))
    (fun z => z = jn (l.getD (amin (gsN tm l what 0) (l.length - 1)) 0)) (by
      rintro i z hi rfl
      have b1 := smN_16 h what 0 (l.getD i 0)
      refine ⟨_, ?_, rfl⟩
      rw [if_neg (show ¬ i + 1 = 0 by omega)]
      dsimp only
      unfold x10_firstLeast_B9
      rw [hl.1, if_neg (nle hi (by omega)), h2, gd_jn (by omega) (by omega), jn_cl (by omega), hl.2.2 i hi, x_sumOf_eq h hN h5 (hlt i hi) hw, bs, gd_jn (by omega) (by omega)]
      by_cases e : i = 0
      · subst e
        rw [if_pos rfl, if_neg (show ¬ (16001 : Int32) ≤ jn (smN tm what 0 (l.getD 0 0)) from jnge (x := 16001) 16001 rfl (by omega) (by omega) (by omega))]
        simp only [nm, jn_s]
        rfl
      · obtain ⟨j, rfl⟩ : ∃ j, i = j + 1 := ⟨i - 1, by omega⟩
        have gd_ : ∀ x, smN tm what 0 (l.getD x 0) = gsN tm l what 0 x := fun _ => rfl
        have b2 : gsN tm l what 0 (amin (gsN tm l what 0) j) ≤ 16000 := smN_16 h what 0 (l.getD (amin (gsN tm l what 0) j) 0)
        rw [gd_] at b1
        rw [if_neg e, show j + 1 - 1 = j from rfl, show j + 1 + 1 - 1 = j + 1 from rfl, amin_s, gd_]
        dsimp only
        by_cases c : gsN tm l what 0 (j + 1) < gsN tm l what 0 (amin (gsN tm l what 0) j)
        · rw [if_neg (nle c (by omega)), if_pos c]
          simp only [nm, jn_s]
        · rw [if_pos ((jn_le (by omega) (by omega)).mpr (by omega)), if_neg c]
          simp only [nm, jn_s]) (by
      rintro z rfl
      rw [if_neg (by omega)]
      exact ⟨_, by dsimp only; unfold x10_firstLeast_B9; rw [hl.1, if_pos (lee (by omega))], rfl⟩) 0 (0, 16001) (by omega) rfl
  obtain ⟨z, k1, rfl⟩ := lo
  unfold x10_firstLeast
  rw [show ((0 : Int32), (16001 : Int32), (0 : Int32)) = ((0, 16001, jn 0) : Int32 × Int32 × Int32) from rfl, k1, bs]
theorem wyl_lt {tm : St} {K i : Nat} (h : i < (wyl tm K).length) : (wyl tm K).getD i 0 < 65536 := ((wlA_mem _).mp (getD_mem h)).1
theorem wyl_pos {tx tm : St} (hK : RK tx tm) {K : Nat} (hk : K < nK tm) : 1 ≤ (wyl tm K).length := by rw [wyl_len]; exact cnw_pos hK hk
theorem op_leastWay {tx tm : St} (hH : RH tx tm) (hK : RK tx tm) (hN : RN tx tm) (hR : RR tx tm) (hC : RC tm) (hQ : RQ tm) (hT : RTb tx tm) (hW : RWy tx tm) (a1 a2 : Int32) : ∃ r tx' tm', x11_leastWay tx a1 a2 = some (r, tx') ∧ m_leastWay tm a1 a2 = some (r, tm') ∧ KpW tx tm tx' tm' := by
  have h250 := nK_lt hK
  rcases pre_leastWay hK hN a1 a2 with ⟨r, k1, k2⟩ | ⟨n, K, hn, hk, e16, e602, rfl, w, -, hw, rfl⟩
  · exact ⟨r, tx, tm, k1, k2, KpW.self hT hW hC⟩
  have xs : ∀ b t, x10_listAll tx (jn K) = some (b, t) → x11_leastWay tx (jn n) (jn w) = x11_leastWay_J44 t (jn w) b := by
    intro b t h
    unfold x11_leastWay
    rw [noNet_T hn, bs, if_pos rfl, show x11_outside tx (jn w) 0 1 = some 0 from oT (Nat.zero_le w) hw (by decide) tx, bs, if_pos rfl, hN.1, gd_jn (by omega) (by omega), jn_cl (by omega), e602]
    simp only [nm]
    rw [if_pos (jn_nn (by omega)), h, bs]
  have f1 : m_in tm (jn w) 0 1 = some 1 := iT (Nat.zero_le w) hw (by decide) tm
  rcases list_both hK hR hC hQ hT hW hk with ⟨tx', tm', j1, j2, j3⟩ | ⟨tx', tm', j1, j2, j3, j4, -, j5⟩
  · refine ⟨-5, tx', tm', ?_, ?_, j3⟩
    · rw [xs _ _ j1]
      unfold x11_leastWay_J44
      rw [if_pos rfl]
    · unfold m_leastWay
      rw [f1, bs, whyWays_0 hn e16 (by omega) j2, bs]
      dsimp only
      rw [if_neg (by decide)]
  · have len := j4.2.1
    have pos := wyl_pos hK hk
    have al := amin_le (gsN tm (wyl tm K) w 0) ((wyl tm K).length - 1)
    refine ⟨jn ((wyl tm K).getD (amin (gsN tm (wyl tm K) w 0) ((wyl tm K).length - 1)) 0), tx', tm', ?_, ?_, j5⟩
    · rw [xs _ _ j1]
      unfold x11_leastWay_J44
      rw [if_neg (by decide), firstLeast_eq hH ((j5.1.2 500 rfl).trans hH.1) (j5.1.1 500 rfl).2.2.1 j3 ((j5.1.2 1002 rfl).trans hW.1.1) (fun i hi => wyl_lt hi) pos hw, bs]
    · unfold m_leastWay
      rw [f1, bs, whyWays_1 hn e16 (by omega) j2, bs]
      dsimp only
      rw [if_pos rfl, show (0 : Int32) = jn 0 from rfl, leastAt_eq hH (j5.2.1.1 0 rfl).2.2.1 (j5.2.1.1 1 rfl).2.2.1 j4 (fun i hi => wyl_lt hi) pos hw (by omega), bs, gd_jn (by omega) (by omega), jn_cl (by omega), j4.2.2 _ (by omega)]
theorem op_least {tx tm : St} (hH : RH tx tm) (hK : RK tx tm) (hN : RN tx tm) (hR : RR tx tm) (hC : RC tm) (hQ : RQ tm) (hT : RTb tx tm) (hW : RWy tx tm) (a1 a2 : Int32) : ∃ r tx' tm', x11_least tx a1 a2 = some (r, tx') ∧ m_least tm a1 a2 = some (r, tm') ∧ KpW tx tm tx' tm' := by
  have h250 := nK_lt hK
  rcases pre_least hK hN a1 a2 with ⟨r, k1, k2⟩ | ⟨n, K, hn, hk, e16, e602, rfl, w, -, hw, rfl⟩
  · exact ⟨r, tx, tm, k1, k2, KpW.self hT hW hC⟩
  have xs : ∀ b t, x10_listAll tx (jn K) = some (b, t) → x11_leastWay tx (jn n) (jn w) = x11_leastWay_J44 t (jn w) b := by
    intro b t h
    unfold x11_leastWay
    rw [noNet_T hn, bs, if_pos rfl, show x11_outside tx (jn w) 0 1 = some 0 from oT (Nat.zero_le w) hw (by decide) tx, bs, if_pos rfl, hN.1, gd_jn (by omega) (by omega), jn_cl (by omega), e602]
    simp only [nm]
    rw [if_pos (jn_nn (by omega)), h, bs]
  have f1 : m_in tm (jn w) 0 1 = some 1 := iT (Nat.zero_le w) hw (by decide) tm
  rcases list_both hK hR hC hQ hT hW hk with ⟨tx', tm', j1, j2, j3⟩ | ⟨tx', tm', j1, j2, j3, j4, -, j5⟩
  · refine ⟨-5, tx', tm', ?_, ?_, j3⟩
    · unfold x11_least
      rw [xs _ _ j1]
      unfold x11_leastWay_J44
      rw [if_pos rfl, bs]
      unfold x11_least_J6
      dsimp only
      rw [if_neg (by decide)]
    · unfold m_least
      rw [f1, bs, whyWays_0 hn e16 (by omega) j2, bs]
      dsimp only
      rw [if_neg (by decide)]
  · have len := j4.2.1
    have pos := wyl_pos hK hk
    have al := amin_le (gsN tm (wyl tm K) w 0) ((wyl tm K).length - 1)
    have lt := wyl_lt (tm := tm) (K := K) (i := amin (gsN tm (wyl tm K) w 0) ((wyl tm K).length - 1)) (by omega)
    refine ⟨jn (smN tm w 0 ((wyl tm K).getD (amin (gsN tm (wyl tm K) w 0) ((wyl tm K).length - 1)) 0)), tx', tm', ?_, ?_, j5⟩
    · unfold x11_least
      rw [xs _ _ j1]
      unfold x11_leastWay_J44
      rw [if_neg (by decide), firstLeast_eq hH ((j5.1.2 500 rfl).trans hH.1) (j5.1.1 500 rfl).2.2.1 j3 ((j5.1.2 1002 rfl).trans hW.1.1) (fun i hi => wyl_lt hi) pos hw, bs, bs]
      unfold x11_least_J6
      rw [if_pos (jn_nn (by omega)), x_sumOf_eq hH ((j5.1.2 500 rfl).trans hH.1) (j5.1.1 500 rfl).2.2.1 lt hw, bs]
    · unfold m_least
      rw [f1, bs, whyWays_1 hn e16 (by omega) j2, bs]
      dsimp only
      rw [if_pos rfl, show (0 : Int32) = jn 0 from rfl, leastAt_eq hH (j5.2.1.1 0 rfl).2.2.1 (j5.2.1.1 1 rfl).2.2.1 j4 (fun i hi => wyl_lt hi) pos hw (by omega), bs, gd_jn (by omega) (by omega), jn_cl (by omega), j4.2.2 _ (by omega), m_sumOf_eq hH (j5.2.1.1 0 rfl).2.2.1 (j5.2.1.1 1 rfl).2.2.1 lt hw (by omega), bs]
