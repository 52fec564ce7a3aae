/-! The game's table on the reference's side: turns. -/
def GV (t : St) (p w : Nat) (v : Nat → Nat → Int) : Prop := ∀ r c, r < p + 1 → c < w + p + 1 → SG t (31 * r + c) (v r c)
theorem GV.put {t u : St} {p w i k : Nat} {v : Nat → Nat → Int} {q : Int} (hp : p ≤ 6) (hw : w ≤ 24) (h : GV t p w v) (g : Cf (31 * i + k) t u) (hi : i < p + 1) (hk : k < w + p + 1) (hq : SG u (31 * i + k) q) : GV u p w (fun r c => if r = i ∧ c = k then q else v r c) := fun r c hr hc => by
  (try dsimp only)
  by_cases e : r = i ∧ c = k
  · rw [if_pos e, e.1, e.2]; exact hq
  · rw [if_neg e]
    exact (h r c hr hc).cf g (by omega) (by omega)
theorem GV.cong {t : St} {p w : Nat} {v u : Nat → Nat → Int} (h : GV t p w v) (e : ∀ r c, r < p + 1 → c < w + p + 1 → u r c = v r c) : GV t p w u := fun r c hr hc => by
  rw [e r c hr hc]; exact h r c hr hc
theorem GV.fr {S T : List Nat} {t u : St} {p w : Nat} {v : Nat → Nat → Int} (h : GV t p w v) (hx : fx S T t u) (h1 : (S.elem 34 || S.elem 52) = false := by rfl) : GV u p w v := fun r c hr hc => by
  simp only [Bool.or_eq_false_iff] at h1
  obtain ⟨a, b⟩ := h r c hr hc
  exact ⟨Bg.cong a fun i _ => by rw [(hx.1 34 h1.1).2.2.1], by rw [(hx.1 52 h1.2).2.2.1]; exact b⟩
theorem m_cell_eq (t : St) (r c : Nat) : m_cell t (jn r) (jn c) = some (jn (31 * r + c)) := by
  unfold m_cell
  rw [show (31 : Int32) = jn 31 from rfl, jn_mul, jn_add]
theorem turnM_row {t : St} {p w row col i D : Nat} {v q : Nat → Nat → Int} (hp : p ≤ 6) (hw : w ≤ 24) (hrow : row < p + 1) (hcol : col < w + p + 1) (hi : i < p + 1) (hir : i ≠ row) (hv : GV t p w v) (hD : BM t 700 D) (h1 : 1 ≤ D) (h2 : D ≤ 9223372036854775808) (bd : ∀ r c, r < p + 1 → c < w + p + 1 → (v r c).natAbs ≤ 9223372036854775808) (e : ∀ c, c < w + p + 1 → c ≠ col → v i c * v row col - v i col * v row c = (D : Int) * q i c) : ∃ t', lp (fun x : Int32 × St => m_turns_B38 (jn row) (jn col) (jn (w + p + 1)) (jn (31 * row + col)) (jn i) (jn (31 * i + col)) x.1 x.2) ((0 : Int32), t) = some t' ∧ fx [34, 52] [] t t' ∧ BM t' 700 D ∧ GV t' p w (fun r c => if r = i ∧ c ≠ col then q i c else v r c) := by
  have L := lp_cnt (b := fun x : Int32 × St => m_turns_B38 (jn row) (jn col) (jn (w + p + 1)) (jn (31 * row + col)) (jn i) (jn (31 * i + col)) x.1 x.2) (fun k s => (jn k, s)) (w + p + 1)
    (fun k s => fx [34, 52] [] t s ∧ BM s 700 D ∧ GV s p w (fun r c => if r = i ∧ c ≠ col ∧ c < k then q i c else v r c))
    (fun s => fx [34, 52] [] t s ∧ BM s 700 D ∧ GV s p w (fun r c => if r = i ∧ c ≠ col ∧ c < w + p + 1 then q i c else v r c)) (by
      rintro k s hk ⟨hf, hd, hg⟩
      by_cases c : k = col
      · refine ⟨s, ?_, hf, hd, hg.cong fun r x _ _ => ?_⟩
        · (try dsimp only)
          unfold m_turns_B38
          rw [if_neg (nle hk (by omega)), c, if_pos rfl, nm_eq, jn_s]
        · (try dsimp only)
          by_cases y : r = i ∧ x ≠ col ∧ x < k
          · rw [if_pos y, if_pos ⟨y.1, y.2.1, by omega⟩]
          · rw [if_neg y, if_neg (fun z => y ⟨z.1, z.2.1, by omega⟩)]
      · have nk : ¬ jn k = jn col := fun z => c ((jn_inj (by omega) (by omega)).mp z)
        have sa := hg i k hi hk
        have sb := hg row col hrow hcol
        have sc := hg i col hi hcol
        have sd := hg row k hrow hk
        (try dsimp only at sa sb sc sd)
        rw [if_neg (fun z => absurd z.2.2 (Nat.lt_irrefl k))] at sa
        rw [if_neg (fun z => hir z.1.symm)] at sb
        rw [if_neg (fun z => z.2.1 rfl)] at sc
        rw [if_neg (fun z => hir z.1.symm)] at sd
        obtain ⟨s', k1, k2, k3⟩ := cell_turn (t := s) (to := 31 * i + k) (a := 31 * i + k) (b := 31 * row + col) (c := 31 * i + col) (d := 31 * row + k) (by omega) (by omega) (by omega) (by omega) (by omega) sa sb sc sd hd h1 h2 (bd _ _ hi hk) (bd _ _ hrow hcol) (bd _ _ hi hcol) (bd _ _ hrow hk) (e k hk c)
        refine ⟨s', ?_, hf.trans k2.1, bm_cf hd k2 (by
          simp only [List.mem_cons, List.not_mem_nil, or_false]
          omega), (hg.put hp hw k2 hi hk k3).cong fun r x _ _ => ?_⟩
        · (try dsimp only)
          unfold m_turns_B38
          rw [if_neg (nle hk (by omega)), if_neg nk, m_cell_eq, bs, bs, m_cell_eq, bs, k1, bs, nm_eq, jn_s]
        · (try dsimp only)
          by_cases y : r = i ∧ x = k
          · rw [if_pos y, if_pos ⟨y.1, by rw [y.2]; exact c, by omega⟩, y.2]
          · rw [if_neg y]
            by_cases y2 : r = i ∧ x ≠ col ∧ x < k
            · rw [if_pos y2, if_pos ⟨y2.1, y2.2.1, by omega⟩]
            · rw [if_neg y2, if_neg (fun z => y2 ⟨z.1, z.2.1, by
                by_cases y3 : x = k
                · exact absurd ⟨z.1, y3⟩ y
                · omega⟩)]) (by
      rintro s hs
      exact ⟨s, by (try dsimp only); unfold m_turns_B38; rw [if_pos (lee (by omega))], hs⟩) 0 t (Nat.zero_le _) ⟨fx.rfl, hD, hv.cong fun r x _ _ => if_neg (fun z => absurd z.2.2 (Nat.not_lt_zero x))⟩
  obtain ⟨s, k, k1, k2, k3⟩ := L
  refine ⟨s, k, k1, k2, k3.cong fun r x _ hx => ?_⟩
  (try dsimp only)
  by_cases y : r = i ∧ x ≠ col
  · rw [if_pos y, if_pos ⟨y.1, y.2, hx⟩]
  · rw [if_neg y, if_neg (fun z => y ⟨z.1, z.2.1⟩)]
def GM (t : St) (A : Nat → Nat → Int) (p w : Nat) (B : Nat → Nat) : Prop := gI t 50 = jn p ∧ GV t p w (gT A p w B) ∧ BM t 700 (gD A p w B).natAbs ∧ ∀ r, r < p → gA t 53 r = jn (B r)
theorem turnM_eq {t : St} {A : Nat → Nat → Int} {p w : Nat} (hp : p ≤ 6) (hw : w ≤ 24) (hA : ∀ c i, c < w → i < p → 0 < A c i ∧ A c i ≤ 1001) {B : Nat → Nat} (ok : OkB A p w B) (h : GM t A p w B) {col row : Nat} (he : Ent A p w B col) (hl : Lev A p w B col row) : ∃ t', m_turns t (jn row) (jn col) (jn (w + p + 1)) = some t' ∧ fx [34, 52, 53] [] t t' ∧ GM t' A p w (pv B row col) := by
  obtain ⟨e50, hv, hD, h53⟩ := h
  have hrow := hl.1
  have hcol := he.1
  have ok' := ok.pv he hl
  have e6 : (1001 : Nat) ^ 6 = 1006015020015006001 := by decide
  have bd : ∀ r c, r < p + 1 → c < w + p + 1 → (gT A p w B r c).natAbs ≤ 9223372036854775808 := fun r c _ hc => by
    have := gT_bd hp hA ok r (show c ≤ w + p by omega)
    rw [e6] at this
    omega
  have dd := gD_bd hp hA ok
  rw [e6] at dd
  have d0 := ok.1
  have L := lp_cnt (b := fun x : Int32 × St => m_turns_B11 (jn row) (jn col) (jn (w + p + 1)) (jn (31 * row + col)) x.1 x.2) (fun k s => (jn k, s)) (p + 1)
    (fun k s => fx [34, 52] [] t s ∧ BM s 700 (gD A p w B).natAbs ∧ GV s p w (fun r c => if r < k ∧ r ≠ row ∧ c ≠ col then gT A p w (pv B row col) r c else gT A p w B r c))
    (fun s => fx [34, 52] [] t s ∧ BM s 700 (gD A p w B).natAbs ∧ GV s p w (fun r c => if r < p + 1 ∧ r ≠ row ∧ c ≠ col then gT A p w (pv B row col) r c else gT A p w B r c)) (by
      rintro i s hi ⟨hf, hd, hg⟩
      have s50 : gI s 50 = jn p := (hf.1 50 rfl).1.trans e50
      have nf : ¬ gI s 50 < jn i := fun z => by
        rw [s50] at z
        have := (jn_lt (by omega) (by omega)).mp z
        omega
      by_cases c : i = row
      · refine ⟨s, ?_, hf, hd, hg.cong fun r x _ _ => ?_⟩
        · (try dsimp only)
          unfold m_turns_B11
          rw [if_neg nf, c, if_pos rfl, nm_eq, jn_s]
        · (try dsimp only)
          by_cases y : r < i ∧ r ≠ row ∧ x ≠ col
          · rw [if_pos y, if_pos ⟨by omega, y.2⟩]
          · rw [if_neg y, if_neg (fun z => y ⟨by omega, z.2⟩)]
      · have nr : ¬ jn i = jn row := fun z => c ((jn_inj (by omega) (by omega)).mp z)
        have vi : ∀ x, (fun r c => if r < i ∧ r ≠ row ∧ c ≠ col then gT A p w (pv B row col) r c else gT A p w B r c) i x = gT A p w B i x := fun x => if_neg (fun z => absurd z.1 (Nat.lt_irrefl i))
        have vr : ∀ x, (fun r c => if r < i ∧ r ≠ row ∧ c ≠ col then gT A p w (pv B row col) r c else gT A p w B r c) row x = gT A p w B row x := fun x => if_neg (fun z => z.2.1 rfl)
        have bd' : ∀ r x, r < p + 1 → x < w + p + 1 → ((fun r c => if r < i ∧ r ≠ row ∧ c ≠ col then gT A p w (pv B row col) r c else gT A p w B r c) r x).natAbs ≤ 9223372036854775808 := fun r x hr hx => by
          (try dsimp only)
          split
          · have := gT_bd hp hA ok' r (show x ≤ w + p by omega)
            rw [e6] at this
            omega
          · exact bd r x hr hx
        obtain ⟨s', k1, k2, k3, k4⟩ := turnM_row (t := s) (q := fun r x => gT A p w (pv B row col) r x) hp hw (show row < p + 1 by omega) (show col < w + p + 1 by omega) hi c hg hd (by omega) (by omega) bd' (fun x hx hne => by
          have k : gD A p w B * gT A p w (pv B row col) i x = gT A p w B row col * gT A p w B i x - gT A p w B i col * gT A p w B row x := piv ok.2.1 col x (show row < p + 1 by omega) hi c
          rw [if_neg (show ¬ (i < i ∧ i ≠ row ∧ x ≠ col) from fun z => absurd z.1 (Nat.lt_irrefl i)), if_neg (show ¬ (row < i ∧ row ≠ row ∧ col ≠ col) from fun z => z.2.1 rfl), if_neg (show ¬ (i < i ∧ i ≠ row ∧ col ≠ col) from fun z => absurd z.1 (Nat.lt_irrefl i)), if_neg (show ¬ (row < i ∧ row ≠ row ∧ x ≠ col) from fun z => z.2.1 rfl), show (((gD A p w B).natAbs : Nat) : Int) = gD A p w B from Int.natAbs_of_nonneg (Int.le_of_lt d0), Int.mul_comm (gT A p w B i x)]
          exact k.symm)
        refine ⟨s', ?_, hf.trans k2, k3, k4.cong fun r x _ _ => ?_⟩
        · (try dsimp only)
          unfold m_turns_B11
          rw [if_neg nf, if_neg nr, m_cell_eq, bs, show lp (fun x : Int32 × St => m_turns_B38 (jn row) (jn col) (jn (w + p + 1)) (jn (31 * row + col)) (jn i) (jn (31 * i + col)) x.1 x.2) ((0 : Int32), s) = some s' from k1, bs, nm_eq, jn_s]
        · (try dsimp only)
          by_cases y : r = i ∧ x ≠ col
          · rw [if_pos y, if_pos ⟨by omega, by omega, y.2⟩, y.1]
          · rw [if_neg y]
            by_cases y2 : r < i ∧ r ≠ row ∧ x ≠ col
            · rw [if_pos y2, if_pos ⟨by omega, y2.2⟩]
            · rw [if_neg y2, if_neg (fun z => y2 ⟨by
                by_cases y3 : r = i
                · exact absurd ⟨y3, z.2.2⟩ y
                · omega, z.2⟩)]) (by
      rintro s hs
      have s50 : gI s 50 = jn p := (hs.1.1 50 rfl).1.trans e50
      exact ⟨s, by (try dsimp only); unfold m_turns_B11; rw [s50, if_pos ((jn_lt (by omega) (by omega)).mpr (by omega))], hs⟩) 0 t (Nat.zero_le _) ⟨fx.rfl, hD, hv.cong fun r x _ _ => if_neg (fun z => absurd z.1 (Nat.not_lt_zero r))⟩
  obtain ⟨t1, a0, a1, a2, a3⟩ := L
  have zero : ∀ r, r < p + 1 → r ≠ row → gT A p w (pv B row col) r col = 0 := fun r hr hne => by
    have := gT_b0 (A := A) (p := p) (w := w) (B := pv B row col) (r := r) (s := row) hr (by omega) (fun z => hne z.symm)
    rw [pv_at] at this
    exact this
  have L2 := lp_cnt (b := fun x : Int32 × St => m_turns_B96 (jn row) (jn col) (jn (31 * row + col)) x.1 x.2) (fun k s => (jn k, s)) (p + 1)
    (fun k s => fx [34, 52] [] t1 s ∧ GV s p w (fun r c => if r ≠ row ∧ (c ≠ col ∨ r < k) then gT A p w (pv B row col) r c else gT A p w B r c))
    (fun s => fx [34, 52] [] t1 s ∧ GV s p w (fun r c => if r ≠ row ∧ (c ≠ col ∨ r < p + 1) then gT A p w (pv B row col) r c else gT A p w B r c)) (by
      rintro i s hi ⟨hf, hg⟩
      have s50 : gI s 50 = jn p := (hf.1 50 rfl).1.trans ((a1.1 50 rfl).1.trans e50)
      have nf : ¬ gI s 50 < jn i := fun z => by
        rw [s50] at z
        have := (jn_lt (by omega) (by omega)).mp z
        omega
      by_cases c : i = row
      · refine ⟨s, ?_, hf, hg.cong fun r x _ _ => ?_⟩
        · (try dsimp only)
          unfold m_turns_B96
          rw [if_neg nf, c, if_pos rfl, nm_eq, jn_s]
        · (try dsimp only)
          by_cases y : r ≠ row ∧ (x ≠ col ∨ r < i)
          · rw [if_pos y, if_pos ⟨y.1, by omega⟩]
          · rw [if_neg y, if_neg (fun z => y ⟨z.1, by omega⟩)]
      · have nr : ¬ jn i = jn row := fun z => c ((jn_inj (by omega) (by omega)).mp z)
        obtain ⟨s1, b1, b2, b3⟩ := puts_eq (t := s) (x := 402 + (31 * i + col)) (v := 0) (by omega) (by omega)
        have cf : Cf (31 * i + col) s (sA s1 52 (jn (31 * i + col)) (vp_nar .boolean 0)) := by
          have c0 : Cf (31 * i + col) s s1 := Cf.self.sl b2 (by simp)
          refine ⟨c0.1.trans (fx_sA rfl), fun z hz j hj => ?_, fun x hx => ?_⟩
          · rw [gA_sA_ne (by decide)]; exact c0.2.1 z hz j hj
          · rw [gA_sA, jn_cl (by omega), upd_ne hx]; exact c0.2.2 x hx
        have sg : SG (sA s1 52 (jn (31 * i + col)) (vp_nar .boolean 0)) (31 * i + col) 0 := by
          refine ⟨Bg.cong b3 fun j _ => by rw [gA_sA_ne (by decide)], ?_⟩
          rw [gA_sA, jn_cl (by omega), upd_at]
          rfl
        refine ⟨_, ?_, hf.trans cf.1, (hg.put hp hw cf hi (show col < w + p + 1 by omega) sg).cong fun r x hr _ => ?_⟩
        · (try dsimp only)
          unfold m_turns_B96
          rw [if_neg nf, if_neg nr, m_cell_eq, bs, j402, show (0 : Int32) = jn 0 from rfl, b1, bs, m_cell_eq, bs, gd_jn (by omega) (by omega), nm_eq, nm_eq, jn_s]
        · (try dsimp only)
          by_cases y : r = i ∧ x = col
          · rw [if_pos y, if_pos ⟨by omega, by omega⟩, y.2]
            exact zero r hr (by omega)
          · rw [if_neg y]
            by_cases y2 : r ≠ row ∧ (x ≠ col ∨ r < i)
            · rw [if_pos y2, if_pos ⟨y2.1, by omega⟩]
            · rw [if_neg y2, if_neg (fun z => y2 ⟨z.1, by omega⟩)]) (by
      rintro s hs
      have s50 : gI s 50 = jn p := (hs.1.1 50 rfl).1.trans ((a1.1 50 rfl).1.trans e50)
      exact ⟨s, by (try dsimp only); unfold m_turns_B96; rw [s50, if_pos ((jn_lt (by omega) (by omega)).mpr (by omega))], hs⟩) 0 t1 (Nat.zero_le _) ⟨fx.rfl, a3.cong fun r x hr _ => by
        (try dsimp only)
        by_cases y : r ≠ row ∧ x ≠ col
        · rw [if_pos ⟨y.1, Or.inl y.2⟩, if_pos ⟨hr, y⟩]
        · rw [if_neg (fun z => y ⟨z.1, by omega⟩), if_neg (fun z => y z.2)]⟩
  obtain ⟨t2, c0, c1, c2⟩ := L2
  have g2 : GV t2 p w (gT A p w (pv B row col)) := c2.cong fun r x hr _ => by
    (try dsimp only)
    by_cases y : r = row
    · rw [if_neg (fun z => z.1 y), y]
      exact Tb_row
    · rw [if_pos ⟨y, Or.inr hr⟩]
  have sp := g2 row col (by omega) (by omega)
  have dv : gT A p w (pv B row col) row col = gD A p w (pv B row col) := by
    have e1 : gT A p w (pv B row col) row col = gT A p w B row col := Tb_row
    have e2 : gD A p w (pv B row col) = gT A p w B row col := dB_pv
    rw [e1, e2]
  rw [dv] at sp
  obtain ⟨t3, d1, d2, d3⟩ := takes_eq (t := t2) (x := 700) (y := 402 + (31 * row + col)) (by omega) (by omega) (by omega) sp.1
  have F3 : fx [34, 52] [] t t3 := a1.trans (c1.trans (d2.1.wk rfl rfl))
  have g3 : GV t3 p w (gT A p w (pv B row col)) := fun r x hr hx => by
    obtain ⟨y1, y2⟩ := g2 r x hr hx
    exact ⟨y1.sl1 d2 (by omega), by rw [(d2.1.1 52 rfl).2.2.1]; exact y2⟩
  refine ⟨sA t3 53 (jn row) (jn col), ?_, (F3.wk rfl rfl : fx [34, 52, 53] [] t t3).trans (fx_sA rfl), (F3.1 50 rfl).1.trans e50, g3.fr (fx_sA (S := [53]) (T := []) rfl), Bg.cong d3 fun j _ => by rw [gA_sA_ne (by decide)], fun r hr => ?_⟩
  · unfold m_turns
    rw [m_cell_eq, bs, show lp (fun x : Int32 × St => m_turns_B11 (jn row) (jn col) (jn (w + p + 1)) (jn (31 * row + col)) x.1 x.2) ((0 : Int32), t) = some t1 from a0, bs, show lp (fun x : Int32 × St => m_turns_B96 (jn row) (jn col) (jn (31 * row + col)) x.1 x.2) ((0 : Int32), t1) = some t2 from c0, bs, j402, show (700 : Int32) = jn 700 from rfl, d1, bs, gd_jn (by omega) (by omega), nm_eq]
  · rw [gA_sA, jn_cl (by omega)]
    by_cases y : r = row
    · rw [y, upd_at, pv_at]
    · rw [upd_ne y, pv_ne y, (F3.1 53 rfl).2.2.1]
      exact h53 r hr
