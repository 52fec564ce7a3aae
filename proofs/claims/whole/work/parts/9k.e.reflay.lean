/-! The game's table on the reference's side: laid out. -/
theorem greatM_eq {t tx tm : St} (hP : RP tx tm) {p : Nat} (e : gI tm 50 = jn p) (hp : p ≤ 6) (a1 : gA t 51 = gA tm 51) {i set : Nat} (hi : i < p) (hs : set < 65536) : m_greatest t (jn i) (jn set) = some (jn (gmN (ctF tm i) set 16)) := by
  have ok := fun s hs => ctF_ok hP e hp hi (s := s) hs
  have L := lp_cnt (b := fun x : Int32 × Int32 => m_greatest_B5 t (jn i) (jn set) x.1 x.2) (S := Unit) (fun k _ => (jn (gmN (ctF tm i) set k), jn k)) 16
    (fun _ _ => True) (fun y => y = jn (gmN (ctF tm i) set 16)) (by
      rintro k ⟨⟩ hk -
      refine ⟨(), ?_, trivial⟩
      obtain ⟨o1, o2, -⟩ := ok k hk
      have gl := gmN_le (f := ctF tm i) (set := set) (c := 1000) (fun s hs => (ok s hs).1) k (by omega)
      (try dsimp only)
      unfold m_greatest_B5
      rw [if_neg (show ¬ (16 : Int32) ≤ jn k from nle (b := 16) hk (by omega)), show (16 : Int32) * jn i + jn k = jn (16 * i + k) from by rw [show (16 : Int32) = jn 16 from rfl, jn_mul, jn_add], gd_jn (by omega) (by omega), jn_cl (by omega), nm_eq, a1, o2, jn_bit (by omega) (by omega), gmN_s]
      by_cases b : set.testBit k = true
      · rw [if_pos b, if_pos (show jn 1 = 1 from rfl), if_pos b]
        by_cases c : gmN (ctF tm i) set k < ctF tm i k
        · rw [if_neg (nle c (by omega)), if_pos c, nm_eq, jn_s]
        · rw [if_pos ((jn_le (by omega) (by omega)).mpr (by omega)), if_neg c, nm_eq, jn_s]
      · rw [if_neg b, if_neg (show ¬ jn 0 = 1 by decide), if_neg b, if_neg (Nat.not_lt_zero _), nm_eq, jn_s]) (by
      rintro ⟨⟩ -
      exact ⟨_, by (try dsimp only); unfold m_greatest_B5; rw [if_pos (show (16 : Int32) ≤ jn 16 by decide)], rfl⟩) 0 () (Nat.zero_le _) trivial
  obtain ⟨y, k, rfl⟩ := L
  unfold m_greatest
  rw [show lp (fun x : Int32 × Int32 => m_greatest_B5 t (jn i) (jn set) x.1 x.2) ((0 : Int32), (0 : Int32)) = some (jn (gmN (ctF tm i) set 16)) from k, bs]
theorem setsCell_eq {t : St} {r c : Nat} (hc : 31 * r + c < 298) {v : Int32} {z : Int} (hv : (v = jn z.toNat ∧ 0 ≤ z ∧ z < 2000) ∨ (v = -1 ∧ z = -1)) : ∃ t', m_setsCell t (jn r) (jn c) v = some t' ∧ Cf (31 * r + c) t t' ∧ SG t' (31 * r + c) z := by
  obtain ⟨t1, a1, a2, a3⟩ := puts_eq (t := t) (x := 402 + (31 * r + c)) (v := z.natAbs) (by omega) (by omega)
  have c1 : Cf (31 * r + c) t t1 := Cf.self.sl a2 (by simp)
  have put : ∀ w : Int32, w = 0 ∨ w = 1 → w = flI z → ∃ t', m_setsCell_J43 t1 (jn (31 * r + c)) w = some t' ∧ Cf (31 * r + c) t t' ∧ SG t' (31 * r + c) z := fun w hw hq => by
    have nar : vp_nar .boolean w = w := by rcases hw with z | z <;> rw [z] <;> rfl
    refine ⟨sA t1 52 (jn (31 * r + c)) w, ?_, ⟨c1.1.trans (fx_sA (Eq.refl _)), fun z hz i hi => ?_, fun c hc => ?_⟩, Bg.cong a3 fun i hi => ?_, ?_⟩
    · unfold m_setsCell_J43
      rw [gd_jn (by omega) (by omega), nar, nm_eq]
    · rw [gA_sA_ne (by decide)]; exact c1.2.1 z hz i hi
    · rw [gA_sA, jn_cl (by omega), upd_ne hc]; exact c1.2.2 c hc
    · rw [gA_sA_ne (by decide)]
    · rw [gA_sA, jn_cl (by omega), upd_at, hq]
  rcases hv with ⟨v1, v2, v3⟩ | ⟨v1, v2⟩
  · obtain ⟨t', k1, k2⟩ := put 0 (Or.inl (Eq.refl _)) (by
      unfold flI
      rw [if_neg (by omega)])
    refine ⟨t', ?_, k2⟩
    have nn : (0 : Int32) ≤ v := by
      rw [v1]
      exact (jn_le (a := 0) (by omega) (by omega)).mpr (Nat.zero_le _)
    have e : z.toNat = z.natAbs := by omega
    unfold m_setsCell
    rw [m_cell_eq, bs, if_pos nn]
    unfold m_setsCell_J21
    rw [j402, v1, e, a1, bs, m_cell_eq, bs, ← e, ← v1, if_pos nn]
    exact k1
  · obtain ⟨t', k1, k2⟩ := put 1 (Or.inr (Eq.refl _)) (by
      unfold flI
      rw [if_pos (by omega)])
    refine ⟨t', ?_, k2⟩
    have nn : ¬ (0 : Int32) ≤ -1 := by decide
    have e : z.natAbs = 1 := by omega
    rw [e] at a1
    unfold m_setsCell
    rw [m_cell_eq, bs, v1, if_neg nn, show -(-1 : Int32) = jn 1 from by decide]
    unfold m_setsCell_J21
    rw [j402, a1, bs, m_cell_eq, bs, if_neg nn]
    exact k1
/-- what laying out asks of the state -/
def LyM (t tm : St) (p w : Nat) (l : List Nat) : Prop := gI t 50 = jn p ∧ gI t 31 = jn w ∧ (∀ j, j < w → gA t 30 j = jn (l.getD j 0)) ∧ gA t 51 = gA tm 51
theorem LyM.fx {S T : List Nat} {t u tm : St} {p w : Nat} {l : List Nat} (h : LyM t tm p w l) (hx : fx S T t u) (h1 : (S.elem 50 || S.elem 31 || S.elem 30 || S.elem 51) = false := by rfl) : LyM u tm p w l := by
  simp only [Bool.or_eq_false_iff] at h1
  obtain ⟨⟨⟨h1, h2⟩, h3⟩, h4⟩ := h1
  obtain ⟨a, b, c, d⟩ := h
  exact ⟨(hx.1 50 h1).1.trans a, (hx.1 31 h2).1.trans b, fun j hj => by rw [(hx.1 30 h3).2.2.1]; exact c j hj, (hx.1 51 h4).2.2.1.trans d⟩
theorem layM_cell {t tx tm : St} (hP : RP tx tm) {p w : Nat} {l : List Nat} (e : gI tm 50 = jn p) (hp : p ≤ 6) (hw : w ≤ 24) (hlt : ∀ j, j < w → l.getD j 0 < 65536) (h : LyM t tm p w l) {r k : Nat} (hr : r < p + 1) (hk : k < w + p + 1) : ∃ t', m_plays_B29 (jn (w + p + 1)) (jn (w + p)) (jn r) (jn k) t = some (.inl (jn (k + 1), t')) ∧ Cf (31 * r + k) t t' ∧ SG t' (31 * r + k) (gC (gmA tm l) p w k r) := by
  obtain ⟨e50, e31, h30, h51⟩ := h
  have cell : ∀ (v : Int32) (z : Int), ((v = jn z.toNat ∧ 0 ≤ z ∧ z < 2000) ∨ (v = -1 ∧ z = -1)) → gC (gmA tm l) p w k r = z → ∃ t', m_plays_J124 t (jn (w + p + 1)) (jn (w + p)) (jn r) (jn k) (jn r) (jn k) v = some (.inl (jn (k + 1), t')) ∧ Cf (31 * r + k) t t' ∧ SG t' (31 * r + k) (gC (gmA tm l) p w k r) := fun v z hv hz => by
    obtain ⟨t', k1, k2, k3⟩ := setsCell_eq (t := t) (r := r) (c := k) (by omega) hv
    refine ⟨t', ?_, k2, by rw [hz]; exact k3⟩
    unfold m_plays_J124
    rw [k1, bs, nm_eq, jn_s]
  unfold m_plays_B29
  rw [e50, if_neg (nle hk (by omega))]
  by_cases q : r = p
  · rw [if_pos (by rw [q])]
    unfold m_plays_J48
    rw [if_neg (by decide), e31]
    by_cases y : w ≤ k
    · rw [if_pos ((jn_le (by omega) (by omega)).mpr y)]
      refine cell 0 0 (Or.inl ⟨rfl, by decide, by decide⟩) ?_
      unfold gC
      rw [if_neg (by omega)]
      by_cases a : k < w + p
      · rw [if_pos a, if_neg (by omega)]
      · rw [if_neg a, if_pos (by omega), if_neg (by omega)]
    · rw [if_neg (nle (by omega) (by omega))]
      refine cell (-1) (-1) (Or.inr ⟨rfl, rfl⟩) ?_
      unfold gC
      rw [if_pos (by omega), if_neg (by omega)]
  · rw [if_neg (fun z => q ((jn_inj (by omega) (by omega)).mp z))]
    unfold m_plays_J48 m_plays_J119
    rw [if_pos rfl, e31]
    by_cases y : w ≤ k
    · rw [if_pos ((jn_le (by omega) (by omega)).mpr y), jn_add]
      by_cases a : k = w + p
      · rw [if_pos (by rw [a])]
        refine cell 1 1 (Or.inl ⟨rfl, by decide, by decide⟩) ?_
        unfold gC
        rw [if_neg (by omega), if_neg (by omega), if_pos a, if_pos (by omega)]
      · rw [if_neg (fun z => a ((jn_inj (by omega) (by omega)).mp z))]
        by_cases b : k = w + r
        · rw [if_pos (by rw [b])]
          refine cell 1 1 (Or.inl ⟨rfl, by decide, by decide⟩) ?_
          unfold gC
          rw [if_neg (by omega), if_pos (by omega), if_pos (by omega)]
        · rw [if_neg (fun z => b ((jn_inj (by omega) (by omega)).mp z))]
          refine cell 0 0 (Or.inl ⟨rfl, by decide, by decide⟩) ?_
          unfold gC
          rw [if_neg (by omega), if_pos (by omega), if_neg (by omega)]
    · have gl := gmA_ok hP e hp l w k r (by omega) (by omega)
      rw [if_neg (nle (by omega) (by omega)), gd_jn (by omega) (by omega), jn_cl (by omega), h30 k (by omega), greatM_eq hP e hp h51 (by omega) (hlt k (by omega)), bs, jn_s]
      refine cell _ (gmA tm l k r) (Or.inl ⟨?_, by omega, by omega⟩) ?_
      · unfold gmA
        congr 1
        omega
      · unfold gC
        rw [if_pos (by omega), if_pos (by omega)]
theorem layM_row {t tx tm : St} (hP : RP tx tm) {p w : Nat} {l : List Nat} (e : gI tm 50 = jn p) (hp : p ≤ 6) (hw : w ≤ 24) (hlt : ∀ j, j < w → l.getD j 0 < 65536) (h : LyM t tm p w l) {r : Nat} (hr : r < p + 1) (hg : ∀ i c, i < r → c < w + p + 1 → SG t (31 * i + c) (gC (gmA tm l) p w c i)) : ∃ t', lp (fun x : Int32 × St => m_plays_B29 (jn (w + p + 1)) (jn (w + p)) (jn r) x.1 x.2) ((0 : Int32), t) = some t' ∧ fx [34, 52] [] t t' ∧ ∀ i c, i < r + 1 → c < w + p + 1 → SG t' (31 * i + c) (gC (gmA tm l) p w c i) := by
  have L := lp_cnt (b := fun x : Int32 × St => m_plays_B29 (jn (w + p + 1)) (jn (w + p)) (jn r) x.1 x.2) (fun k s => (jn k, s)) (w + p + 1)
    (fun k s => fx [34, 52] [] t s ∧ ∀ i c, (i < r ∨ (i = r ∧ c < k)) → c < w + p + 1 → SG s (31 * i + c) (gC (gmA tm l) p w c i))
    (fun s => fx [34, 52] [] t s ∧ ∀ i c, i < r + 1 → c < w + p + 1 → SG s (31 * i + c) (gC (gmA tm l) p w c i)) (by
      rintro k s hk ⟨hf, h1⟩
      obtain ⟨s', k1, k2, k3⟩ := layM_cell hP e hp hw hlt (h.fx hf) hr hk
      refine ⟨s', k1, hf.trans k2.1, fun i c hi hc => ?_⟩
      by_cases q : i = r ∧ c = k
      · rw [q.1, q.2]; exact k3
      · exact (h1 i c (by omega) hc).cf k2 (by omega) (by omega)) (by
      rintro s ⟨hf, h1⟩
      exact ⟨s, by (try dsimp only); unfold m_plays_B29; rw [if_pos (lee (by omega))], hf, fun i c hi hc => h1 i c (by omega) hc⟩) 0 t (Nat.zero_le _) ⟨fx.rfl, fun i c hi hc => hg i c (by omega) hc⟩
  exact L
theorem layM_eq {t tx tm : St} (hP : RP tx tm) {p w : Nat} {l : List Nat} (e : gI tm 50 = jn p) (hp : p ≤ 6) (hw : w ≤ 24) (hlt : ∀ j, j < w → l.getD j 0 < 65536) (h : LyM t tm p w l) : ∃ t', lp (fun x : Int32 × St => m_plays_B18 (jn (w + p + 1)) (jn (w + p)) x.1 x.2) ((0 : Int32), t) = some t' ∧ fx [34, 52, 53] [] t t' ∧ GV t' p w (gT (gmA tm l) p w (gB0 p w)) ∧ ∀ r, r < p → gA t' 53 r = jn (w + r) := by
  have L := lp_cnt (b := fun x : Int32 × St => m_plays_B18 (jn (w + p + 1)) (jn (w + p)) x.1 x.2) (fun k s => (jn k, s)) (p + 1)
    (fun k s => fx [34, 52, 53] [] t s ∧ (∀ i c, i < k → c < w + p + 1 → SG s (31 * i + c) (gC (gmA tm l) p w c i)) ∧ ∀ i, i < k → i < p → gA s 53 i = jn (w + i))
    (fun s => fx [34, 52, 53] [] t s ∧ (∀ i c, i < p + 1 → c < w + p + 1 → SG s (31 * i + c) (gC (gmA tm l) p w c i)) ∧ ∀ i, i < p → gA s 53 i = jn (w + i)) (by
      rintro k s hk ⟨hf, h1, h2⟩
      have hl := h.fx hf
      obtain ⟨s', k1, k2, k3⟩ := layM_row hP e hp hw hlt hl hk h1
      have hl' := hl.fx k2
      have start : ∀ y, (if jn p ≤ jn k then some (.inl (jn (k + 1), s')) else some (.inl (jn (k + 1), sA s' 53 (jn k) (jn (w + k))))) = some y → m_plays_B18 (jn (w + p + 1)) (jn (w + p)) (jn k) s = some y := fun y hy => by
        rw [← hy]
        unfold m_plays_B18
        rw [hl.1, if_neg (fun z => by have := (jn_lt (by omega) (by omega)).mp z; omega), show lp (fun x : Int32 × St => m_plays_B29 (jn (w + p + 1)) (jn (w + p)) (jn k) x.1 x.2) ((0 : Int32), s) = some s' from k1, bs, hl'.1, hl'.2.1, jn_add]
        by_cases q : p ≤ k
        · rw [if_pos ((jn_le (by omega) (by omega)).mpr q), if_pos ((jn_le (by omega) (by omega)).mpr q), nm_eq, jn_s]
        · rw [if_neg (nle (by omega) (by omega)), if_neg (nle (by omega) (by omega)), gd_jn (by omega) (by omega), nm_eq, nm_eq, jn_s]
      by_cases q : p ≤ k
      · refine ⟨s', start _ (if_pos ((jn_le (by omega) (by omega)).mpr q)), hf.trans (k2.wk rfl rfl), k3, fun i hi hp' => ?_⟩
        rw [(k2.1 53 rfl).2.2.1]
        exact h2 i (by omega) hp'
      · refine ⟨sA s' 53 (jn k) (jn (w + k)), start _ (if_neg (nle (by omega) (by omega))), (hf.trans (k2.wk rfl rfl)).trans (fx_sA rfl), fun i c hi hc => ?_, fun i hi hp' => ?_⟩
        · obtain ⟨a, b⟩ := k3 i c hi hc
          exact ⟨Bg.cong a fun j hj => by rw [gA_sA_ne (by decide)], by rw [gA_sA_ne (by decide)]; exact b⟩
        · rw [gA_sA, jn_cl (by omega)]
          by_cases y : i = k
          · rw [y, upd_at]
          · rw [upd_ne y, (k2.1 53 rfl).2.2.1]
            exact h2 i (by omega) hp') (by
      rintro s ⟨hf, h1, h2⟩
      exact ⟨s, by (try dsimp only); unfold m_plays_B18; rw [(h.fx hf).1, if_pos ((jn_lt (by omega) (by omega)).mpr (Nat.lt_succ_self p))], hf, h1, fun i hi => h2 i (by omega) hi⟩) 0 t (Nat.zero_le _) ⟨fx.rfl, fun i c hi => absurd hi (Nat.not_lt_zero i), fun i hi => absurd hi (Nat.not_lt_zero i)⟩
  obtain ⟨t', k1, k2, k3, k4⟩ := L
  exact ⟨t', k1, k2, fun r c hr hc => by rw [gT0 hr]; exact k3 r c hr hc, k4⟩
