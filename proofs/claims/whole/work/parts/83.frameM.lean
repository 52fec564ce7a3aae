/-! What a pure function leaves as it was. -/
def fx (S T : List Nat) (t u : St) : Prop := (∀ k, S.elem k = false → gI u k = gI t k ∧ gJ u k = gJ t k ∧ gA u k = gA t k ∧ gB u k = gB t k) ∧ ∀ k, T.elem k = false → gN u k = gN t k
theorem fx.rfl {S T : List Nat} {t : St} : fx S T t t := ⟨fun _ _ => ⟨Eq.refl _, Eq.refl _, Eq.refl _, Eq.refl _⟩, fun _ _ => Eq.refl _⟩
theorem fx.trans {S T : List Nat} {a b c : St} (h : fx S T a b) (g : fx S T b c) : fx S T a c :=
  ⟨fun k hk => ⟨(g.1 k hk).1.trans (h.1 k hk).1, (g.1 k hk).2.1.trans (h.1 k hk).2.1, (g.1 k hk).2.2.1.trans (h.1 k hk).2.2.1, (g.1 k hk).2.2.2.trans (h.1 k hk).2.2.2⟩, fun k hk => (g.2 k hk).trans (h.2 k hk)⟩
theorem fx_no {S S' : List Nat} (h : S'.all (fun k => S.elem k) = true) {k : Nat} (hk : S.elem k = false) : S'.elem k = false := by
  cases e : S'.elem k with
  | false => exact Eq.refl _
  | true =>
    have h1 := List.all_eq_true.mp h k (List.elem_iff.mp e)
    rw [hk] at h1
    cases h1
theorem fx.wk {S T S' T' : List Nat} {t u : St} (h : fx S' T' t u) (hs : S'.all (fun k => S.elem k) = true) (ht : T'.all (fun k => T.elem k) = true) : fx S T t u :=
  ⟨fun k hk => h.1 k (fx_no hs hk), fun k hk => h.2 k (fx_no ht hk)⟩
theorem va_up_no {α : Type} {S : List Nat} {k : Nat} (h : S.elem k = true) {f : Nat → α} {v : α} {j : Nat} (hj : S.elem j = false) : va_up f k v j = f j := by
  unfold va_up
  rw [if_neg]
  intro e
  subst e
  rw [h] at hj
  cases hj
theorem fx_sI {S T : List Nat} {t : St} {k : Nat} {v : Int32} (h : S.elem k = true) : fx S T t (sI t k v) := ⟨fun j hj => ⟨va_up_no h hj, Eq.refl _, Eq.refl _, Eq.refl _⟩, fun _ _ => Eq.refl _⟩
theorem fx_sJ {S T : List Nat} {t : St} {k : Nat} {v : Int64} (h : S.elem k = true) : fx S T t (sJ t k v) := ⟨fun j hj => ⟨Eq.refl _, va_up_no h hj, Eq.refl _, Eq.refl _⟩, fun _ _ => Eq.refl _⟩
theorem fx_sAr {S T : List Nat} {t : St} {k : Nat} {f : Nat → Int32} (h : S.elem k = true) : fx S T t (sAr t k f) := ⟨fun j hj => ⟨Eq.refl _, Eq.refl _, va_up_no h hj, Eq.refl _⟩, fun _ _ => Eq.refl _⟩
theorem fx_sBr {S T : List Nat} {t : St} {k : Nat} {f : Nat → Int64} (h : S.elem k = true) : fx S T t (sBr t k f) := ⟨fun j hj => ⟨Eq.refl _, Eq.refl _, Eq.refl _, va_up_no h hj⟩, fun _ _ => Eq.refl _⟩
theorem fx_sA {S T : List Nat} {t : St} {k : Nat} {i v : Int32} (h : S.elem k = true) : fx S T t (sA t k i v) := fx_sAr h
theorem fx_sB {S T : List Nat} {t : St} {k : Nat} {i : Int32} {v : Int64} (h : S.elem k = true) : fx S T t (sB t k i v) := fx_sBr h
theorem fx_imS {S T : List Nat} {t : St} {j : Nat} {f : Nat → Int32} (h : S.elem 503 = true) (g : S.elem 504 = true) : fx S T t (imS t j f) := by
  unfold imS
  split
  · exact fx_sAr h
  · exact fx_sAr g
def FR {α : Type} (S T : List Nat) (x : Option α) (t : St) (σ : α → St) : Prop := ∀ a, x = some a → fx S T t (σ a)
section FRS
variable {α β X Y : Type} {S T S' T' : List Nat} {x : Option α} {t t1 : St} {σ : α → St} {σb : β → St}
theorem FR_nm {y : β} {f : β → Option α} (h : ∀ z, z = y → FR S T (f z) t σ) : FR S T (nm y f) t σ := fun a e => h y rfl a e
theorem FR_nmS {y : St} {f : St → Option α} (hy : fx S T t1 y) (h : ∀ z, fx S T t1 z → FR S T (f z) t σ) : FR S T (nm y f) t σ := fun a e => h y hy a e
theorem FR_gd {i : Int32} {n : Nat} (h : FR S T x t σ) : FR S T (gd i n x) t σ := fun a e => h a (gd_some e).2
theorem FR_dv {i : Int32} (h : FR S T x t σ) : FR S T (dv i x) t σ := fun a e => h a (dv_some e).2
theorem FR_dvl {i : Int64} (h : FR S T x t σ) : FR S T (dvl i x) t σ := fun a e => h a (dvl_some e).2
theorem FR_bz {i : Int32} (h : FR S T x t σ) : FR S T (bz i x) t σ := fun a e => h a (bz_some e).2
theorem FR_cpk {a b c : Int32} {d e : Nat} (h : FR S T x t σ) : FR S T (cpk a b c d e x) t σ := fun a e => h a (cpk_some e).2
theorem FR_any : FR S T (none : Option α) t σ := fun a e => by cases e
theorem FR_ite {c : Prop} [Decidable c] {y : Option α} (h : FR S T x t σ) (g : FR S T y t σ) : FR S T (if c then x else y) t σ := fun a e => by
  split at e
  · exact h a e
  · exact g a e
theorem FR_bind {y : Option β} {f : β → Option α} (h : FR S' T' y t1 σb) (g : ∀ b, fx S T t1 (σb b) → FR S T (f b) t σ) (hs : S'.all (fun k => S.elem k) = true := by rfl) (ht : T'.all (fun k => T.elem k) = true := by rfl) : FR S T (y.bind f) t σ := fun a e => by
  obtain ⟨b, h1, h2⟩ := bd_some e
  exact g b ((h b h1).wk hs ht) a h2
theorem FR_bindn {y : Option β} {f : β → Option α} (g : ∀ b, FR S T (f b) t σ) : FR S T (y.bind f) t σ := fun a e => by
  obtain ⟨b, h1, h2⟩ := bd_some e
  exact g b a h2
theorem FR_some {a : α} (h : fx S T t (σ a)) : FR S T (some a) t σ := fun b e => by cases e; exact h
theorem FR_wk (h : fx S T t t1) (g : FR S' T' x t1 σ) (hs : S'.all (fun k => S.elem k) = true := by rfl) (ht : T'.all (fun k => T.elem k) = true := by rfl) : FR S T x t σ := fun a e => h.trans ((g a e).wk hs ht)
theorem FR_sum {f : X → Option α} {g : Y → Option α} {p : X → St} {q : Y → St} (y : X ⊕ Y) (h : fx S T t1 (Sum.elim p q y)) (hf : ∀ u, fx S T t1 (p u) → FR S T (f u) t σ) (hg : ∀ u, fx S T t1 (q u) → FR S T (g u) t σ) : FR S T (Sum.elim f g y) t σ := by
  cases y with
  | inl u => exact hf u h
  | inr u => exact hg u h
theorem FR_sumn {f : X → Option α} {g : Y → Option α} (y : X ⊕ Y) (hf : ∀ u, FR S T (f u) t σ) (hg : ∀ u, FR S T (g u) t σ) : FR S T (Sum.elim f g y) t σ := by
  cases y with
  | inl u => exact hf u
  | inr u => exact hg u
theorem FR_lpn {b : X → Option (X ⊕ Y)} {p : X → St} {q : Y → St} (hb : ∀ x, FR S T (b x) (p x) (Sum.elim p q)) : ∀ (n : Nat) (x : X), FR S T (lpn b n x) (p x) q := by
  intro n
  induction n with
  | zero => intro x a e; cases e
  | succ n ih =>
    intro x a e
    obtain ⟨o, h1, h2⟩ := bd_some e
    have h := hb x o h1
    cases o with
    | inl x' => exact fx.trans h (ih x' a h2)
    | inr y => cases h2; exact h
theorem FR_lp {b : X → Option (X ⊕ Y)} {p : X → St} {q : Y → St} (hb : ∀ x, FR S T (b x) (p x) (Sum.elim p q)) (x : X) : FR S T (lp b x) (p x) q := fun a e => by
  obtain ⟨n, hn⟩ := lp_to e
  exact FR_lpn hb n x a hn
end FRS

theorem fr_m_puts_J27 (t : St) (v1 : Int32) (v2 : Int32) (v3 : Int32) (w1 : Int32) (w2 : Int32) : FR [34] [] (m_puts_J27 t v1 v2 v3 w1 w2) t (Sum.elim (fun (x : Int32 × St) => x.2) (fun (y : St) => y)) := by
  unfold m_puts_J27
  exact FR_gd (FR_nmS (fx_sA rfl) (fun t2 ht2 => FR_nm (fun x3 _ => FR_some ht2)))
theorem fr_m_puts_B2 (v1 : Int32) (v2 : Int32) (v3 : Int32) (t : St) : FR [34] [] (m_puts_B2 v1 v2 v3 t) t (Sum.elim (fun (x : Int32 × St) => x.2) (fun (y : St) => y)) := by
  unfold m_puts_B2
  exact FR_ite (FR_some fx.rfl) (FR_ite (FR_wk fx.rfl (fr_m_puts_J27 t v1 v2 v3 (((7 : Int32) * v1) + v3) v2)) (FR_wk fx.rfl (fr_m_puts_J27 t v1 v2 v3 (((7 : Int32) * v1) + v3) (0 : Int32))))
theorem fr_m_puts_L2 (v1 : Int32) (v2 : Int32) (v3 : Int32) (t : St) : FR [34] [] (lp (fun x => m_puts_B2 v1 v2 x.1 x.2) (v3, t)) t (fun (y : St) => y) := FR_lp (p := (fun (x : Int32 × St) => x.2)) (q := (fun (y : St) => y)) (fun x => fr_m_puts_B2 v1 v2 x.1 x.2) (v3, t)
theorem fr_m_puts (t : St) (a1 : Int32) (a2 : Int32) : FR [34] [] (m_puts t a1 a2) t (fun (a : St) => a) := by
  unfold m_puts
  exact FR_bind (fr_m_puts_L2 a1 a2 (0 : Int32) t) (fun y6 hm7 => FR_some hm7)
theorem fr_m_step (t : St) (a1 : Int32) (a2 : Int32) (a3 : Int32) (a4 : Int32) : FR [0, 1, 2] [] (m_step t a1 a2 a3 a4) t (fun (a : Int32 × St) => a.2) := by
  unfold m_step
  exact FR_bindn (fun q1 => FR_ite (FR_some fx.rfl) (FR_bindn (fun q5 => FR_ite (FR_some fx.rfl) (FR_bindn (fun q9 => FR_ite (FR_some fx.rfl) (FR_bindn (fun q13 => FR_ite (FR_some fx.rfl) (FR_gd (FR_nmS (fx_sA rfl) (fun t18 ht18 => FR_gd (FR_nmS (fx_sA rfl) (fun t20 ht20 => FR_gd (FR_nmS (fx_sA rfl) (fun t22 ht22 => FR_some (fx.trans (fx.trans ht18 ht20) ht22)))))))))))))))
theorem fr_m_trace (t : St) (a1 : Int32) (a2 : Int32) (a3 : Int32) : FR [3, 4] [] (m_trace t a1 a2 a3) t (fun (a : Int32 × St) => a.2) := by
  unfold m_trace
  exact FR_bindn (fun q1 => FR_ite (FR_some fx.rfl) (FR_bindn (fun q5 => FR_ite (FR_some fx.rfl) (FR_bindn (fun q9 => FR_ite (FR_some fx.rfl) (FR_gd (FR_nmS (fx_sA rfl) (fun t14 ht14 => FR_gd (FR_nmS (fx_sA rfl) (fun t16 ht16 => FR_some (fx.trans ht14 ht16)))))))))))
theorem fr_m_write (t : St) (a1 : Int32) : FR [5, 6] [] (m_write t a1) t (fun (a : Int32 × St) => a.2) := by
  unfold m_write
  exact FR_bindn (fun q1 => FR_ite (FR_some fx.rfl) (FR_ite (FR_some fx.rfl) (FR_gd (FR_nmS (fx_sA rfl) (fun t7 ht7 => FR_nmS (fx_sI rfl) (fun t8 ht8 => FR_some (fx.trans ht7 ht8)))))))
theorem fr_m_erase (t : St) : FR [5] [] (m_erase t) t (fun (a : Int32 × St) => a.2) := by
  unfold m_erase
  exact FR_nm (fun x1 _ => FR_nmS (fx_sI rfl) (fun t2 ht2 => FR_some ht2))
theorem fr_m_newKnot (t : St) (a1 : Int32) : FR [7, 8, 9, 10, 11, 12, 15] [] (m_newKnot t a1) t (fun (a : Int32 × St) => a.2) := by
  unfold m_newKnot
  exact FR_nm (fun x1 _ => FR_gd (FR_nmS (fx_sA rfl) (fun t3 ht3 => FR_gd (FR_nmS (fx_sA rfl) (fun t5 ht5 => FR_gd (FR_nmS (fx_sA rfl) (fun t7 ht7 => FR_gd (FR_nmS (fx_sA rfl) (fun t9 ht9 => FR_gd (FR_nmS (fx_sA rfl) (fun t11 ht11 => FR_gd (FR_nmS (fx_sA rfl) (fun t13 ht13 => FR_nmS (fx_sI rfl) (fun t14 ht14 => FR_some (fx.trans (fx.trans (fx.trans (fx.trans (fx.trans (fx.trans ht3 ht5) ht7) ht9) ht11) ht13) ht14)))))))))))))))
theorem fr_m_comes (t : St) (a1 : Int32) (a2 : Int32) : FR [12, 13, 14, 15] [] (m_comes t a1 a2) t (fun (a : St) => a) := by
  unfold m_comes
  exact FR_gd (FR_nmS (fx_sA rfl) (fun t2 ht2 => FR_nmS (fx_sI rfl) (fun t3 ht3 => FR_gd (FR_gd (FR_nmS (fx_sA rfl) (fun t6 ht6 => FR_gd (FR_gd (FR_gd (FR_nmS (fx_sA rfl) (fun t10 ht10 => FR_some (fx.trans (fx.trans (fx.trans ht2 ht3) ht6) ht10)))))))))))
theorem fr_m_opens_B22 (v2 : Int32) (t : St) : FR [19, 20, 24] [] (m_opens_B22 v2 t) t (Sum.elim (fun (x : Int32 × St) => x.2) (fun (y : St) => y)) := by
  unfold m_opens_B22
  exact FR_ite (FR_some fx.rfl) (FR_gd (FR_nmS (fx_sA rfl) (fun t3 ht3 => FR_nm (fun x4 _ => FR_some ht3))))
theorem fr_m_opens_L22 (v2 : Int32) (t : St) : FR [19, 20, 24] [] (lp (fun x => m_opens_B22 x.1 x.2) (v2, t)) t (fun (y : St) => y) := FR_lp (p := (fun (x : Int32 × St) => x.2)) (q := (fun (y : St) => y)) (fun x => fr_m_opens_B22 x.1 x.2) (v2, t)
theorem fr_m_opens (t : St) (a1 : Int32) : FR [19, 20, 24] [] (m_opens t a1) t (fun (a : St) => a) := by
  unfold m_opens
  exact FR_nmS (fx_sI rfl) (fun t5 ht5 => FR_gd (FR_nmS (fx_sA rfl) (fun t7 ht7 => FR_bind (fr_m_opens_L22 (0 : Int32) t7) (fun y8 hm9 => FR_some (fx.trans (fx.trans ht5 ht7) hm9)))))
theorem fr_m_toRow (t : St) (a1 : Int32) (a2 : Int32) : FR [20, 21] [] (m_toRow t a1 a2) t (fun (a : St) => a) := by
  unfold m_toRow
  exact FR_nm (fun x1 _ => FR_gd (FR_gd (FR_nmS (fx_sA rfl) (fun t4 ht4 => FR_gd (FR_gd (FR_nmS (fx_sA rfl) (fun t7 ht7 => FR_some (fx.trans ht4 ht7))))))))
theorem fr_m_ends_B40 (v3 : Int32) (v4 : Int32) (v5 : Int32) (t : St) : FR [7, 8, 9, 10, 11, 12, 13, 14, 15, 20] [] (m_ends_B40 v3 v4 v5 t) t (Sum.elim (fun (x : Int32 × St) => x.2) (fun (y : St) => y)) := by
  unfold m_ends_B40
  exact FR_gd (FR_ite (FR_some fx.rfl) (FR_gd (FR_bind (fr_m_comes t v4 (gA t 21 ((((50 : Int32) * v3) + v5)).toNatClampNeg)) (fun q4 hq4 => FR_nm (fun x6 _ => FR_some hq4)))))
theorem fr_m_ends_L40 (v3 : Int32) (v4 : Int32) (v5 : Int32) (t : St) : FR [7, 8, 9, 10, 11, 12, 13, 14, 15, 20] [] (lp (fun x => m_ends_B40 v3 v4 x.1 x.2) (v5, t)) t (fun (y : St) => y) := FR_lp (p := (fun (x : Int32 × St) => x.2)) (q := (fun (y : St) => y)) (fun x => fr_m_ends_B40 v3 v4 x.1 x.2) (v5, t)
theorem fr_m_ends_J75 (t : St) (v3 : Int32) (v4 : Int32) : FR [7, 8, 9, 10, 11, 12, 13, 14, 15, 20] [] (m_ends_J75 t v3 v4) t (fun (a : Int32 × St) => a.2) := by
  unfold m_ends_J75
  exact FR_gd (FR_nmS (fx_sA rfl) (fun t8 ht8 => FR_some ht8))
theorem fr_m_ends (t : St) (a1 : Int32) (a2 : Int32) : FR [7, 8, 9, 10, 11, 12, 13, 14, 15, 20] [] (m_ends t a1 a2) t (fun (a : Int32 × St) => a.2) := by
  unfold m_ends
  exact FR_nm (fun x9 _ => FR_gd (FR_nm (fun x11 _ => FR_gd (FR_ite (FR_wk fx.rfl (fr_m_ends_J75 t x9 x11)) (FR_bind (fr_m_newKnot t a2) (fun q14 hq14 => FR_bind (fr_m_ends_L40 x9 q14.1 (0 : Int32) q14.2) (fun y16 hm17 => FR_wk (fx.trans hq14 hm17) (fr_m_ends_J75 y16 x9 q14.1))))))))
theorem fr_m_endsBoth (t : St) : FR [7, 8, 9, 10, 11, 12, 13, 14, 15, 20, 21] [] (m_endsBoth t) t (fun (a : St) => a) := by
  unfold m_endsBoth
  exact FR_bind (fr_m_ends t (0 : Int32) (3 : Int32)) (fun q1 hq1 => FR_bind (fr_m_toRow q1.2 (1 : Int32) q1.1) (fun q3 hq3 => FR_some (fx.trans hq1 hq3)))
theorem fr_m_endsChain (t : St) : FR [7, 8, 9, 10, 11, 12, 13, 14, 15, 20, 21] [] (m_endsChain t) t (fun (a : St) => a) := by
  unfold m_endsChain
  exact FR_bind (fr_m_endsBoth t) (fun q1 hq1 => FR_bind (fr_m_ends q1 (1 : Int32) (2 : Int32)) (fun q3 hq3 => FR_bind (fr_m_toRow q3.2 (2 : Int32) q3.1) (fun q5 hq5 => FR_some (fx.trans (fx.trans hq1 hq3) hq5))))
theorem fr_m_endsNet (t : St) : FR [7, 8, 9, 10, 11, 12, 13, 14, 15, 20, 21] [] (m_endsNet t) t (fun (a : Int32 × St) => a.2) := by
  unfold m_endsNet
  exact FR_bind (fr_m_endsChain t) (fun q1 hq1 => FR_bind (fr_m_ends q1 (2 : Int32) (1 : Int32)) (fun q3 hq3 => FR_some (fx.trans hq1 hq3)))
theorem fr_m_opensPart_J126 (t : St) (v2 : Int32) (w1 : Int32) : FR [7, 8, 9, 10, 11, 12, 15, 19, 20, 21, 22, 24] [] (m_opensPart_J126 t v2 w1) t (fun (a : Int32 × St) => a.2) := by
  unfold m_opensPart_J126
  exact FR_bind (fr_m_opens t w1) (fun q1 hq1 => FR_gd (FR_nmS (fx_sA rfl) (fun t4 ht4 => FR_some (fx.trans hq1 ht4))))
theorem fr_m_opensPart_J103 (t : St) (v1 : Int32) (v2 : Int32) : FR [7, 8, 9, 10, 11, 12, 15, 19, 20, 21, 22, 24] [] (m_opensPart_J103 t v1 v2) t (fun (a : Int32 × St) => a.2) := by
  unfold m_opensPart_J103
  exact FR_ite (FR_some fx.rfl) (FR_ite (FR_wk fx.rfl (fr_m_opensPart_J126 t v2 (1 : Int32))) (FR_wk fx.rfl (fr_m_opensPart_J126 t v2 (0 : Int32))))
theorem fr_m_opensPart (t : St) (a1 : Int32) (a2 : Int32) : FR [7, 8, 9, 10, 11, 12, 15, 19, 20, 21, 22, 24] [] (m_opensPart t a1 a2) t (fun (a : Int32 × St) => a.2) := by
  unfold m_opensPart
  exact FR_bindn (fun q7 => FR_ite (FR_bindn (fun q11 => FR_ite (FR_ite (FR_wk fx.rfl (fr_m_opensPart_J103 t a1 a2)) (FR_ite (FR_wk fx.rfl (fr_m_opensPart_J103 t a1 a2)) (FR_some fx.rfl))) (FR_gd (FR_ite (FR_some fx.rfl) (FR_gd (FR_bind (fr_m_toRow t (0 : Int32) (gA t 16 ((a1 - (48 : Int32))).toNatClampNeg)) (fun q20 hq20 => FR_some hq20))))))) (FR_bind (fr_m_newKnot t (0 : Int32)) (fun q22 hq22 => FR_gd (FR_nmS (fx_sA rfl) (fun t25 ht25 => FR_gd (FR_nmS (fx_sA rfl) (fun t27 ht27 => FR_bind (fr_m_toRow t27 (0 : Int32) q22.1) (fun q28 hq28 => FR_some (fx.trans (fx.trans (fx.trans hq22 ht25) ht27) hq28)))))))))
theorem fr_m_closes (t : St) (a1 : Int32) : FR [19, 20, 21] [] (m_closes t a1) t (fun (a : St) => a) := by
  unfold m_closes
  exact FR_nmS (fx_sI rfl) (fun t1 ht1 => FR_bind (fr_m_toRow t1 (0 : Int32) a1) (fun q2 hq2 => FR_some (fx.trans ht1 hq2)))
theorem fr_m_squares_B72 (v1 : Int32) (v3 : Int32) (v4 : Int32) (t : St) : FR [7, 8, 9, 10, 11, 12, 13, 14, 15, 19, 20, 21, 25] [] (m_squares_B72 v1 v3 v4 t) t (Sum.elim (fun (x : Int32 × St) => x.2) (fun (y : St) => y)) := by
  unfold m_squares_B72
  exact FR_gd (FR_ite (FR_some fx.rfl) (FR_gd (FR_bind (fr_m_comes t v3 (gA t 21 ((((50 : Int32) * v1) + v4)).toNatClampNeg)) (fun q4 hq4 => FR_nm (fun x6 _ => FR_some hq4)))))
theorem fr_m_squares_L72 (v1 : Int32) (v3 : Int32) (v4 : Int32) (t : St) : FR [7, 8, 9, 10, 11, 12, 13, 14, 15, 19, 20, 21, 25] [] (lp (fun x => m_squares_B72 v1 v3 x.1 x.2) (v4, t)) t (fun (y : St) => y) := FR_lp (p := (fun (x : Int32 × St) => x.2)) (q := (fun (y : St) => y)) (fun x => fr_m_squares_B72 v1 v3 x.1 x.2) (v4, t)
theorem fr_m_squares_J41 (t : St) : FR [7, 8, 9, 10, 11, 12, 13, 14, 15, 19, 20, 21, 25] [] (m_squares_J41 t) t (fun (a : Int32 × St) => a.2) := by
  unfold m_squares_J41
  exact FR_gd (FR_nmS (fx_sI rfl) (fun t8 ht8 => FR_some ht8))
theorem fr_m_squares (t : St) : FR [7, 8, 9, 10, 11, 12, 13, 14, 15, 19, 20, 21, 25] [] (m_squares t) t (fun (a : Int32 × St) => a.2) := by
  unfold m_squares
  exact FR_nm (fun x9 _ => FR_gd (FR_gd (FR_nm (fun x12 _ => FR_ite (FR_wk fx.rfl (fr_m_squares_J41 t)) (FR_gd (FR_ite (FR_bind (fr_m_newKnot t (4 : Int32)) (fun q16 hq16 => FR_gd (FR_nmS (fx_sA rfl) (fun t19 ht19 => FR_bind (fr_m_squares_L72 x9 q16.1 (0 : Int32) t19) (fun y20 hm21 => FR_bind (fr_m_closes y20 q16.1) (fun q23 hq23 => FR_some (fx.trans (fx.trans (fx.trans hq16 ht19) hm21) hq23))))))) (FR_wk fx.rfl (fr_m_squares_J41 t))))))))
theorem fr_m_goesOn_J84 (t : St) (v1 : Int32) : FR [7, 8, 9, 10, 11, 12, 13, 14, 15, 19, 20, 21, 25] [] (m_goesOn_J84 t v1) t (fun (a : Int32 × St) => a.2) := by
  unfold m_goesOn_J84
  exact FR_ite (FR_some fx.rfl) (FR_gd (FR_ite (FR_some fx.rfl) (FR_bind (fr_m_endsNet t) (fun q4 hq4 => FR_bind (fr_m_toRow q4.2 (3 : Int32) q4.1) (fun q6 hq6 => FR_ite (FR_gd (FR_ite (FR_some (fx.trans hq4 hq6)) (FR_some (fx.trans hq4 hq6)))) (FR_bind (fr_m_squares q6) (fun q9 hq9 => FR_some (fx.trans (fx.trans hq4 hq6) hq9))))))))
theorem fr_m_goesOn_J72 (t : St) (v1 : Int32) : FR [7, 8, 9, 10, 11, 12, 13, 14, 15, 19, 20, 21, 25] [] (m_goesOn_J72 t v1) t (fun (a : Int32 × St) => a.2) := by
  unfold m_goesOn_J72
  exact FR_ite (FR_wk fx.rfl (fr_m_goesOn_J84 t v1)) (FR_ite (FR_wk fx.rfl (fr_m_goesOn_J84 t v1)) (FR_some fx.rfl))
theorem fr_m_goesOn (t : St) (a1 : Int32) (a2 : Int32) : FR [7, 8, 9, 10, 11, 12, 13, 14, 15, 19, 20, 21, 25] [] (m_goesOn t a1 a2) t (fun (a : Int32 × St) => a.2) := by
  unfold m_goesOn
  exact FR_nmS (fx_sI rfl) (fun t15 ht15 => FR_ite (FR_some ht15) (FR_ite (FR_bind (fr_m_endsBoth t15) (fun q29 hq29 => FR_some (fx.trans ht15 hq29))) (FR_ite (FR_bind (fr_m_endsChain t15) (fun q27 hq27 => FR_some (fx.trans ht15 hq27))) (FR_ite (FR_ite (FR_wk ht15 (fr_m_goesOn_J72 t15 a1)) (FR_gd (FR_ite (FR_bind (fr_m_endsNet t15) (fun q23 hq23 => FR_bind (fr_m_closes q23.2 q23.1) (fun q25 hq25 => FR_some (fx.trans (fx.trans ht15 hq23) hq25)))) (FR_wk ht15 (fr_m_goesOn_J72 t15 a1))))) (FR_wk ht15 (fr_m_goesOn_J72 t15 a1))))))
theorem fr_m_reads_J144 (t : St) (v1 : Int32) (v2 : Int32) (v4 : Int32) : FR [7, 8, 9, 10, 11, 12, 13, 14, 15, 19, 20, 21, 22, 23, 24, 25, 26] [] (m_reads_J144 t v1 v2 v4) t (Sum.elim (fun (x : Int32 × Int32 × St) => x.2.2) (Sum.elim (fun (y : Int32 × St) => y.2) (fun (y : Int32 × St) => y.2))) := by
  unfold m_reads_J144
  exact FR_ite (FR_nm (fun x2 _ => FR_some fx.rfl)) (FR_some fx.rfl)
theorem fr_m_reads_J143 (t : St) (v2 : Int32) (v4 : Int32) (w0 : Int32) : FR [7, 8, 9, 10, 11, 12, 13, 14, 15, 19, 20, 21, 22, 23, 24, 25, 26] [] (m_reads_J143 t v2 v4 w0) t (Sum.elim (fun (x : Int32 × Int32 × St) => x.2.2) (Sum.elim (fun (y : Int32 × St) => y.2) (fun (y : Int32 × St) => y.2))) := by
  unfold m_reads_J143
  exact FR_wk fx.rfl (fr_m_reads_J144 t w0 v2 v4)
theorem fr_m_reads_J138 (t : St) (v2 : Int32) (v4 : Int32) : FR [7, 8, 9, 10, 11, 12, 13, 14, 15, 19, 20, 21, 22, 23, 24, 25, 26] [] (m_reads_J138 t v2 v4) t (Sum.elim (fun (x : Int32 × Int32 × St) => x.2.2) (Sum.elim (fun (y : Int32 × St) => y.2) (fun (y : Int32 × St) => y.2))) := by
  unfold m_reads_J138
  exact FR_wk fx.rfl (fr_m_reads_J143 t v2 v4 (1 : Int32))
theorem fr_m_reads_J114 (t : St) (v2 : Int32) (v4 : Int32) (w0 : Int32) : FR [7, 8, 9, 10, 11, 12, 13, 14, 15, 19, 20, 21, 22, 23, 24, 25, 26] [] (m_reads_J114 t v2 v4 w0) t (Sum.elim (fun (x : Int32 × Int32 × St) => x.2.2) (Sum.elim (fun (y : Int32 × St) => y.2) (fun (y : Int32 × St) => y.2))) := by
  unfold m_reads_J114
  exact FR_wk fx.rfl (fr_m_reads_J144 t w0 v2 v4)
theorem fr_m_reads_J64 (t : St) (v2 : Int32) (w0 : Int32) : FR [7, 8, 9, 10, 11, 12, 13, 14, 15, 19, 20, 21, 22, 23, 24, 25, 26] [] (m_reads_J64 t v2 w0) t (Sum.elim (fun (x : Int32 × Int32 × St) => x.2.2) (Sum.elim (fun (y : Int32 × St) => y.2) (fun (y : Int32 × St) => y.2))) := by
  unfold m_reads_J64
  exact FR_gd (FR_nmS (fx_sA rfl) (fun t4 ht4 => FR_wk ht4 (fr_m_reads_J144 t4 (0 : Int32) v2 w0)))
theorem fr_m_reads_B14 (v1 : Int32) (v2 : Int32) (t : St) : FR [7, 8, 9, 10, 11, 12, 13, 14, 15, 19, 20, 21, 22, 23, 24, 25, 26] [] (m_reads_B14 v1 v2 t) t (Sum.elim (fun (x : Int32 × Int32 × St) => x.2.2) (Sum.elim (fun (y : Int32 × St) => y.2) (fun (y : Int32 × St) => y.2))) := by
  unfold m_reads_B14
  exact FR_ite (FR_some fx.rfl) (FR_gd (FR_nm (fun x7 _ => FR_ite (FR_nm (fun x9 _ => FR_some fx.rfl)) (FR_nmS (fx_sI rfl) (fun t10 ht10 => FR_ite (FR_bindn (fun q21 => FR_ite (FR_wk ht10 (fr_m_reads_J64 t10 v2 (1 : Int32))) (FR_wk ht10 (fr_m_reads_J64 t10 v2 (0 : Int32))))) (FR_ite (FR_bind (fr_m_opensPart t10 x7 v2) (fun q17 hq17 => FR_ite (FR_wk (fx.trans ht10 hq17) (fr_m_reads_J114 q17.2 v2 q17.1 (2 : Int32))) (FR_ite (FR_wk (fx.trans ht10 hq17) (fr_m_reads_J114 q17.2 v2 q17.1 (0 : Int32))) (FR_wk (fx.trans ht10 hq17) (fr_m_reads_J114 q17.2 v2 q17.1 (1 : Int32)))))) (FR_bind (fr_m_goesOn t10 x7 v2) (fun q13 hq13 => FR_ite (FR_wk (fx.trans ht10 hq13) (fr_m_reads_J138 q13.2 v2 q13.1)) (FR_ite (FR_wk (fx.trans ht10 hq13) (fr_m_reads_J138 q13.2 v2 q13.1)) (FR_wk (fx.trans ht10 hq13) (fr_m_reads_J143 q13.2 v2 q13.1 (0 : Int32))))))))))))
theorem fr_m_reads_L14 (v1 : Int32) (v2 : Int32) (t : St) : FR [7, 8, 9, 10, 11, 12, 13, 14, 15, 19, 20, 21, 22, 23, 24, 25, 26] [] (lp (fun x => m_reads_B14 x.1 x.2.1 x.2.2) (v1, v2, t)) t (Sum.elim (fun (y : Int32 × St) => y.2) (fun (y : Int32 × St) => y.2)) := FR_lp (p := (fun (x : Int32 × Int32 × St) => x.2.2)) (q := (Sum.elim (fun (y : Int32 × St) => y.2) (fun (y : Int32 × St) => y.2))) (fun x => fr_m_reads_B14 x.1 x.2.1 x.2.2) (v1, v2, t)
theorem fr_m_reads (t : St) : FR [7, 8, 9, 10, 11, 12, 13, 14, 15, 19, 20, 21, 22, 23, 24, 25, 26] [] (m_reads t) t (fun (a : Int32 × St) => a.2) := by
  unfold m_reads
  exact FR_nmS (fx_sI rfl) (fun t25 ht25 => FR_bind (fr_m_opens t25 (0 : Int32)) (fun q26 hq26 => FR_bind (fr_m_reads_L14 (0 : Int32) (0 : Int32) q26) (fun y28 hm29 => (FR_sum y28 hm29 (fun u31 hm29 => FR_some (fx.trans (fx.trans ht25 hq26) hm29)) (fun u31 hm29 => FR_nmS (fx_sI rfl) (fun t32 ht32 => FR_ite (FR_ite (FR_bind (fr_m_endsNet t32) (fun q35 hq35 => FR_nmS (fx_sI rfl) (fun t37 ht37 => FR_ite (FR_some (fx.trans (fx.trans (fx.trans (fx.trans (fx.trans ht25 hq26) hm29) ht32) hq35) ht37)) (FR_some (fx.trans (fx.trans (fx.trans (fx.trans (fx.trans ht25 hq26) hm29) ht32) hq35) ht37))))) (FR_some (fx.trans (fx.trans (fx.trans ht25 hq26) hm29) ht32))) (FR_some (fx.trans (fx.trans (fx.trans ht25 hq26) hm29) ht32))))))))
theorem fr_m_wordOf_J55 (t : St) (v1 : Int32) (v2 : Int32) (v3 : Int32) (v4 : Int32) (v5 : Int32) (w1 : Int32) (w2 : Int64) : FR [27] [] (m_wordOf_J55 t v1 v2 v3 v4 v5 w1 w2) t (Sum.elim (fun (x : Int32 × St) => x.2) (fun (y : St) => y)) := by
  unfold m_wordOf_J55
  exact FR_gd (FR_nmS (fx_sB rfl) (fun t2 ht2 => FR_nm (fun x3 _ => FR_some ht2)))
theorem fr_m_wordOf_B30 (v1 : Int32) (v2 : Int32) (v3 : Int32) (v4 : Int32) (v5 : Int32) (t : St) : FR [27] [] (m_wordOf_B30 v1 v2 v3 v4 v5 t) t (Sum.elim (fun (x : Int32 × St) => x.2) (fun (y : St) => y)) := by
  unfold m_wordOf_B30
  exact FR_ite (FR_some fx.rfl) (FR_ite (FR_wk fx.rfl (fr_m_wordOf_J55 t v1 v2 v3 v4 v5 v5 (-1 : Int64))) (FR_wk fx.rfl (fr_m_wordOf_J55 t v1 v2 v3 v4 v5 v5 (0 : Int64))))
theorem fr_m_wordOf_L30 (v1 : Int32) (v2 : Int32) (v3 : Int32) (v4 : Int32) (v5 : Int32) (t : St) : FR [27] [] (lp (fun x => m_wordOf_B30 v1 v2 v3 v4 x.1 x.2) (v5, t)) t (fun (y : St) => y) := FR_lp (p := (fun (x : Int32 × St) => x.2)) (q := (fun (y : St) => y)) (fun x => fr_m_wordOf_B30 v1 v2 v3 v4 x.1 x.2) (v5, t)
theorem fr_m_wordOf_B96 (v1 : Int32) (v2 : Int32) (v4 : Int32) (v5 : Int32) (v6 : Int64) (v8 : Int32) (t : St) : FR [27] [] (m_wordOf_B96 v1 v2 v4 v5 v6 v8 t) t (Sum.elim (fun (x : Int32 × St) => x.2) (fun (y : St) => y)) := by
  unfold m_wordOf_B96
  exact FR_ite (FR_some fx.rfl) (FR_gd (FR_gd (FR_gd (FR_nmS (fx_sB rfl) (fun t10 ht10 => FR_nm (fun x11 _ => FR_some ht10))))))
theorem fr_m_wordOf_L96 (v1 : Int32) (v2 : Int32) (v4 : Int32) (v5 : Int32) (v6 : Int64) (v8 : Int32) (t : St) : FR [27] [] (lp (fun x => m_wordOf_B96 v1 v2 v4 v5 v6 x.1 x.2) (v8, t)) t (fun (y : St) => y) := FR_lp (p := (fun (x : Int32 × St) => x.2)) (q := (fun (y : St) => y)) (fun x => fr_m_wordOf_B96 v1 v2 v4 v5 v6 x.1 x.2) (v8, t)
theorem fr_m_wordOf_B65 (v1 : Int32) (v2 : Int32) (v4 : Int32) (v5 : Int32) (t : St) : FR [27] [] (m_wordOf_B65 v1 v2 v4 v5 t) t (Sum.elim (fun (x : Int32 × St) => x.2) (fun (y : St) => y)) := by
  unfold m_wordOf_B65
  exact FR_ite (FR_some fx.rfl) (FR_gd (FR_gd (FR_nm (fun x25 _ => FR_bind (fr_m_wordOf_L96 v1 v2 v4 v5 x25 (8 : Int32) t) (fun y26 hm27 => FR_nm (fun x29 _ => FR_some hm27))))))
theorem fr_m_wordOf_L65 (v1 : Int32) (v2 : Int32) (v4 : Int32) (v5 : Int32) (t : St) : FR [27] [] (lp (fun x => m_wordOf_B65 v1 v2 v4 x.1 x.2) (v5, t)) t (fun (y : St) => y) := FR_lp (p := (fun (x : Int32 × St) => x.2)) (q := (fun (y : St) => y)) (fun x => fr_m_wordOf_B65 v1 v2 v4 x.1 x.2) (v5, t)
theorem fr_m_wordOf_J164 (t : St) (v1 : Int32) (v2 : Int32) (v3 : Int32) (v4 : Int32) (w0 : Int64) : FR [27] [] (m_wordOf_J164 t v1 v2 v3 v4 w0) t (fun (a : Int64 × St) => a.2) := by
  unfold m_wordOf_J164
  exact FR_bindn (fun y30 => FR_some fx.rfl)
theorem fr_m_wordOf (t : St) (a1 : Int32) (a2 : Int32) : FR [27] [] (m_wordOf t a1 a2) t (fun (a : Int64 × St) => a.2) := by
  unfold m_wordOf
  exact FR_gd (FR_nm (fun x34 _ => FR_gd (FR_nm (fun x36 _ => FR_gd (FR_ite (FR_bind (fr_m_wordOf_L30 a1 a2 x34 x36 (0 : Int32) t) (fun y41 hm42 => FR_bind (fr_m_wordOf_L65 a1 a2 x36 x34 y41) (fun y44 hm45 => FR_gd (FR_gd (FR_some (fx.trans hm42 hm45)))))) (FR_gd (FR_ite (FR_wk fx.rfl (fr_m_wordOf_J164 t a1 a2 x34 x36 (0 : Int64))) (FR_wk fx.rfl (fr_m_wordOf_J164 t a1 a2 x34 x36 (-1 : Int64))))))))))
theorem fr_m_lays_J120 (t : St) (v1 : Int32) (v2 : Int64) (v4 : Int32) (w1 : Int32) (w2 : Int64) : FR [17, 18, 27] [] (m_lays_J120 t v1 v2 v4 w1 w2) t (Sum.elim (fun (x : Int32 × St) => x.2) (fun (y : St) => y)) := by
  unfold m_lays_J120
  exact FR_gd (FR_nmS (fx_sB rfl) (fun t2 ht2 => FR_nm (fun x3 _ => FR_some ht2)))
theorem fr_m_lays_B44 (v1 : Int32) (v2 : Int64) (v4 : Int32) (t : St) : FR [17, 18, 27] [] (m_lays_B44 v1 v2 v4 t) t (Sum.elim (fun (x : Int32 × St) => x.2) (fun (y : St) => y)) := by
  unfold m_lays_B44
  exact FR_ite (FR_some fx.rfl) (FR_gd (FR_ite (FR_gd (FR_ite (FR_gd (FR_bindn (fun q12 => FR_ite (FR_wk fx.rfl (fr_m_lays_J120 t v1 v2 v4 (((1024 : Int32) * v1) + v4) (0 : Int64))) (FR_wk fx.rfl (fr_m_lays_J120 t v1 v2 v4 (((1024 : Int32) * v1) + v4) (-1 : Int64)))))) (FR_wk fx.rfl (fr_m_lays_J120 t v1 v2 v4 (((1024 : Int32) * v1) + v4) v2)))) (FR_bind (fr_m_wordOf t v1 v4) (fun q7 hq7 => FR_wk hq7 (fr_m_lays_J120 q7.2 v1 v2 v4 (((1024 : Int32) * v1) + v4) q7.1)))))
theorem fr_m_lays_L44 (v1 : Int32) (v2 : Int64) (v4 : Int32) (t : St) : FR [17, 18, 27] [] (lp (fun x => m_lays_B44 v1 v2 x.1 x.2) (v4, t)) t (fun (y : St) => y) := FR_lp (p := (fun (x : Int32 × St) => x.2)) (q := (fun (y : St) => y)) (fun x => fr_m_lays_B44 v1 v2 x.1 x.2) (v4, t)
theorem fr_m_lays_J40 (t : St) (v1 : Int32) (w0 : Int64) : FR [17, 18, 27] [] (m_lays_J40 t v1 w0) t (fun (a : St) => a) := by
  unfold m_lays_J40
  exact FR_bind (fr_m_lays_L44 v1 w0 (0 : Int32) t) (fun y16 hm17 => FR_some hm17)
theorem fr_m_lays_J39 (t : St) (v1 : Int32) : FR [17, 18, 27] [] (m_lays_J39 t v1) t (fun (a : St) => a) := by
  unfold m_lays_J39
  exact FR_wk fx.rfl (fr_m_lays_J40 t v1 (0 : Int64))
theorem fr_m_lays (t : St) (a1 : Int32) : FR [17, 18, 27] [] (m_lays t a1) t (fun (a : St) => a) := by
  unfold m_lays
  exact FR_gd (FR_nmS (fx_sA rfl) (fun t20 ht20 => FR_gd (FR_ite (FR_gd (FR_ite (FR_wk ht20 (fr_m_lays_J39 t20 a1)) (FR_gd (FR_bindn (fun q26 => FR_wk ht20 (fr_m_lays_J40 t20 a1 q26)))))) (FR_wk ht20 (fr_m_lays_J39 t20 a1)))))
theorem fr_m_make_B55 (v1 : Int32) (v5 : Int32) (t : St) : FR [7, 8, 9, 10, 11, 12, 13, 14, 15, 16, 17, 18, 19, 20, 21, 22, 23, 24, 25, 26, 27] [] (m_make_B55 v1 v5 t) t (Sum.elim (fun (x : Int32 × St) => x.2) (fun (y : St) => y)) := by
  unfold m_make_B55
  exact FR_ite (FR_some fx.rfl) (FR_bind (fr_m_lays t v5) (fun q2 hq2 => FR_nm (fun x4 _ => FR_some hq2)))
theorem fr_m_make_L55 (v1 : Int32) (v5 : Int32) (t : St) : FR [7, 8, 9, 10, 11, 12, 13, 14, 15, 16, 17, 18, 19, 20, 21, 22, 23, 24, 25, 26, 27] [] (lp (fun x => m_make_B55 v1 x.1 x.2) (v5, t)) t (fun (y : St) => y) := FR_lp (p := (fun (x : Int32 × St) => x.2)) (q := (fun (y : St) => y)) (fun x => fr_m_make_B55 v1 x.1 x.2) (v5, t)
theorem fr_m_make (t : St) (a1 : Int32) : FR [7, 8, 9, 10, 11, 12, 13, 14, 15, 16, 17, 18, 19, 20, 21, 22, 23, 24, 25, 26, 27] [] (m_make t a1) t (fun (a : Int32 × St) => a.2) := by
  unfold m_make
  exact FR_bindn (fun q5 => FR_ite (FR_some fx.rfl) (FR_nm (fun x9 _ => FR_nm (fun x10 _ => FR_bind (fr_m_reads t) (fun q11 hq11 => FR_ite (FR_bind (fr_m_make_L55 a1 x9 q11.2) (fun y14 hm15 => FR_gd (FR_nmS (fx_sA rfl) (fun t18 ht18 => FR_some (fx.trans (fx.trans hq11 hm15) ht18))))) (FR_nmS (fx_sI rfl) (fun t19 ht19 => FR_nmS (fx_sI rfl) (fun t20 ht20 => FR_some (fx.trans (fx.trans hq11 ht19) ht20)))))))))
theorem fr_m_clear_B17 (v1 : Int32) (v2 : Int32) (t : St) : FR [7, 13, 16, 35] [] (m_clear_B17 v1 v2 t) t (Sum.elim (fun (x : Int32 × St) => x.2) (fun (y : St) => y)) := by
  unfold m_clear_B17
  exact FR_ite (FR_some fx.rfl) (FR_gd (FR_nmS (fx_sA rfl) (fun t3 ht3 => FR_nm (fun x4 _ => FR_some ht3))))
theorem fr_m_clear_L17 (v1 : Int32) (v2 : Int32) (t : St) : FR [7, 13, 16, 35] [] (lp (fun x => m_clear_B17 v1 x.1 x.2) (v2, t)) t (fun (y : St) => y) := FR_lp (p := (fun (x : Int32 × St) => x.2)) (q := (fun (y : St) => y)) (fun x => fr_m_clear_B17 v1 x.1 x.2) (v2, t)
theorem fr_m_clear (t : St) : FR [7, 13, 16, 35] [] (m_clear t) t (fun (a : Int32 × St) => a.2) := by
  unfold m_clear
  exact FR_nm (fun x5 _ => FR_nmS (fx_sI rfl) (fun t6 ht6 => FR_nmS (fx_sI rfl) (fun t7 ht7 => FR_bind (fr_m_clear_L17 x5 (0 : Int32) t7) (fun y8 hm9 => FR_nmS (fx_sI rfl) (fun t11 ht11 => FR_some (fx.trans (fx.trans (fx.trans ht6 ht7) hm9) ht11))))))
theorem fr_m_findLesser_B2 (v1 : Int32) (v2 : Int32) (t : St) : FR [28] [] (m_findLesser_B2 v1 v2 t) t (Sum.elim (fun (x : Int32 × St) => x.2) (fun (y : St) => y)) := by
  unfold m_findLesser_B2
  exact FR_ite (FR_some fx.rfl) (FR_gd (FR_nmS (fx_sB rfl) (fun t3 ht3 => FR_nm (fun x4 _ => FR_some ht3))))
theorem fr_m_findLesser_L2 (v1 : Int32) (v2 : Int32) (t : St) : FR [28] [] (lp (fun x => m_findLesser_B2 v1 x.1 x.2) (v2, t)) t (fun (y : St) => y) := FR_lp (p := (fun (x : Int32 × St) => x.2)) (q := (fun (y : St) => y)) (fun x => fr_m_findLesser_B2 v1 x.1 x.2) (v2, t)
theorem fr_m_findLesser_B52 (v1 : Int32) (v2 : Int32) (v3 : Int64) (v5 : Int32) (t : St) : FR [28] [] (m_findLesser_B52 v1 v2 v3 v5 t) t (Sum.elim (fun (x : Int32 × St) => x.2) (fun (y : St) => y)) := by
  unfold m_findLesser_B52
  exact FR_ite (FR_some fx.rfl) (FR_ite (FR_bindn (fun q7 => FR_ite (FR_nm (fun x11 _ => FR_some fx.rfl)) (FR_gd (FR_gd (FR_gd (FR_nmS (fx_sB rfl) (fun t15 ht15 => FR_nm (fun x16 _ => FR_some ht15)))))))) (FR_gd (FR_gd (FR_gd (FR_nmS (fx_sB rfl) (fun t20 ht20 => FR_nm (fun x21 _ => FR_some ht20)))))))
theorem fr_m_findLesser_L52 (v1 : Int32) (v2 : Int32) (v3 : Int64) (v5 : Int32) (t : St) : FR [28] [] (lp (fun x => m_findLesser_B52 v1 v2 v3 x.1 x.2) (v5, t)) t (fun (y : St) => y) := FR_lp (p := (fun (x : Int32 × St) => x.2)) (q := (fun (y : St) => y)) (fun x => fr_m_findLesser_B52 v1 v2 v3 x.1 x.2) (v5, t)
theorem fr_m_findLesser_J48 (t : St) (v1 : Int32) (v2 : Int32) (w0 : Int64) : FR [28] [] (m_findLesser_J48 t v1 v2 w0) t (Sum.elim (fun (x : Int32 × St) => x.2) (fun (y : St) => y)) := by
  unfold m_findLesser_J48
  exact FR_bind (fr_m_findLesser_L52 v1 v2 w0 (0 : Int32) t) (fun y22 hm23 => FR_nm (fun x25 _ => FR_some hm23))
theorem fr_m_findLesser_B24 (v1 : Int32) (v2 : Int32) (t : St) : FR [28] [] (m_findLesser_B24 v1 v2 t) t (Sum.elim (fun (x : Int32 × St) => x.2) (fun (y : St) => y)) := by
  unfold m_findLesser_B24
  exact FR_ite (FR_some fx.rfl) (FR_ite (FR_wk fx.rfl (fr_m_findLesser_J48 t v1 v2 (0 : Int64))) (FR_bindn (fun q28 => FR_wk fx.rfl (fr_m_findLesser_J48 t v1 v2 (q28 ^^^ (-1 : Int64))))))
theorem fr_m_findLesser_L24 (v1 : Int32) (v2 : Int32) (t : St) : FR [28] [] (lp (fun x => m_findLesser_B24 v1 x.1 x.2) (v2, t)) t (fun (y : St) => y) := FR_lp (p := (fun (x : Int32 × St) => x.2)) (q := (fun (y : St) => y)) (fun x => fr_m_findLesser_B24 v1 x.1 x.2) (v2, t)
theorem fr_m_findLesser (t : St) (a1 : Int32) : FR [28] [] (m_findLesser t a1) t (fun (a : St) => a) := by
  unfold m_findLesser
  exact FR_bind (fr_m_findLesser_L2 a1 (0 : Int32) t) (fun y30 hm31 => FR_bind (fr_m_findLesser_L24 a1 (0 : Int32) y30) (fun y33 hm34 => FR_some (fx.trans hm31 hm34)))
theorem fr_m_countWays (t : St) (a1 : Int32) : FR [18, 28] [] (m_countWays t a1) t (fun (a : Int32 × St) => a.2) := by
  unfold m_countWays
  exact FR_gd (FR_ite (FR_bind (fr_m_findLesser t a1) (fun q15 hq15 => FR_bindn (fun y17 => FR_gd (FR_nmS (fx_sA rfl) (fun t21 ht21 => FR_gd (FR_some (fx.trans hq15 ht21))))))) (FR_gd (FR_some fx.rfl)))
theorem fr_m_findWays_J22 (t : St) (v1 : Int32) (v2 : Int32) (w1 : Int32) (w2 : Int32) : FR [18, 28, 29, 30, 31] [] (m_findWays_J22 t v1 v2 w1 w2) t (Sum.elim (fun (x : Int32 × St) => x.2) (fun (y : St) => y)) := by
  unfold m_findWays_J22
  exact FR_gd (FR_nmS (fx_sA rfl) (fun t4 ht4 => FR_nm (fun x5 _ => FR_some ht4)))
theorem fr_m_findWays_B2 (v1 : Int32) (v2 : Int32) (t : St) : FR [18, 28, 29, 30, 31] [] (m_findWays_B2 v1 v2 t) t (Sum.elim (fun (x : Int32 × St) => x.2) (fun (y : St) => y)) := by
  unfold m_findWays_B2
  exact FR_ite (FR_some fx.rfl) (FR_ite (FR_wk fx.rfl (fr_m_findWays_J22 t v1 v2 v2 (1 : Int32))) (FR_wk fx.rfl (fr_m_findWays_J22 t v1 v2 v2 (0 : Int32))))
theorem fr_m_findWays_L2 (v1 : Int32) (v2 : Int32) (t : St) : FR [18, 28, 29, 30, 31] [] (lp (fun x => m_findWays_B2 v1 x.1 x.2) (v2, t)) t (fun (y : St) => y) := FR_lp (p := (fun (x : Int32 × St) => x.2)) (q := (fun (y : St) => y)) (fun x => fr_m_findWays_B2 v1 x.1 x.2) (v2, t)
theorem fr_m_findWays_B59 (v1 : Int32) (v2 : Int32) (v3 : Int32) (t : St) : FR [18, 28, 29, 30, 31] [] (m_findWays_B59 v1 v2 v3 t) t (Sum.elim (fun (x : Int32 × St) => x.2) (fun (y : St) => y)) := by
  unfold m_findWays_B59
  exact FR_gd (FR_ite (FR_some fx.rfl) (FR_gd (FR_gd (FR_gd (FR_nmS (fx_sA rfl) (fun t13 ht13 => FR_nm (fun x14 _ => FR_some ht13)))))))
theorem fr_m_findWays_L59 (v1 : Int32) (v2 : Int32) (v3 : Int32) (t : St) : FR [18, 28, 29, 30, 31] [] (lp (fun x => m_findWays_B59 v1 v2 x.1 x.2) (v3, t)) t (fun (y : St) => y) := FR_lp (p := (fun (x : Int32 × St) => x.2)) (q := (fun (y : St) => y)) (fun x => fr_m_findWays_B59 v1 v2 x.1 x.2) (v3, t)
theorem fr_m_findWays_B31 (v1 : Int32) (v2 : Int32) (t : St) : FR [18, 28, 29, 30, 31] [] (m_findWays_B31 v1 v2 t) t (Sum.elim (fun (x : Int32 × St) => x.2) (Sum.elim (fun (y : St) => y) (fun (y : St) => y))) := by
  unfold m_findWays_B31
  exact FR_ite (FR_some fx.rfl) (FR_gd (FR_ite (FR_nm (fun x18 _ => FR_some fx.rfl)) (FR_bind (fr_m_countWays t v2) (fun q19 hq19 => FR_ite (FR_bind (fr_m_findWays_L59 v1 v2 (0 : Int32) q19.2) (fun y22 hm23 => FR_nm (fun x25 _ => FR_some (fx.trans hq19 hm23)))) (FR_some hq19)))))
theorem fr_m_findWays_L31 (v1 : Int32) (v2 : Int32) (t : St) : FR [18, 28, 29, 30, 31] [] (lp (fun x => m_findWays_B31 v1 x.1 x.2) (v2, t)) t (Sum.elim (fun (y : St) => y) (fun (y : St) => y)) := FR_lp (p := (fun (x : Int32 × St) => x.2)) (q := (Sum.elim (fun (y : St) => y) (fun (y : St) => y))) (fun x => fr_m_findWays_B31 v1 x.1 x.2) (v2, t)
theorem fr_m_findWays_J233 (t : St) (v1 : Int32) (v2 : Int32) (v3 : Int32) (v4 : Int64) : FR [18, 28, 29, 30, 31] [] (m_findWays_J233 t v1 v2 v3 v4) t (Sum.elim (fun (x : Int64 × St) => x.2) (fun (y : St) => y)) := by
  unfold m_findWays_J233
  exact FR_nm (fun x26 _ => FR_some fx.rfl)
theorem fr_m_findWays_B165 (v1 : Int32) (v2 : Int32) (v3 : Int32) (v4 : Int64) (t : St) : FR [18, 28, 29, 30, 31] [] (m_findWays_B165 v1 v2 v3 v4 t) t (Sum.elim (fun (x : Int64 × St) => x.2) (fun (y : St) => y)) := by
  unfold m_findWays_B165
  exact FR_ite (FR_some fx.rfl) (FR_bindn (fun y28 => FR_bindn (fun q31 => FR_ite (FR_gd (FR_nmS (fx_sA rfl) (fun t35 ht35 => FR_nmS (fx_sI rfl) (fun t36 ht36 => FR_wk (fx.trans ht35 ht36) (fr_m_findWays_J233 t36 v1 v2 v3 v4))))) (FR_wk fx.rfl (fr_m_findWays_J233 t v1 v2 v3 v4)))))
theorem fr_m_findWays_L165 (v1 : Int32) (v2 : Int32) (v3 : Int32) (v4 : Int64) (t : St) : FR [18, 28, 29, 30, 31] [] (lp (fun x => m_findWays_B165 v1 v2 v3 x.1 x.2) (v4, t)) t (fun (y : St) => y) := FR_lp (p := (fun (x : Int64 × St) => x.2)) (q := (fun (y : St) => y)) (fun x => fr_m_findWays_B165 v1 v2 v3 x.1 x.2) (v4, t)
theorem fr_m_findWays_B120 (v1 : Int32) (v2 : Int32) (v3 : Int32) (t : St) : FR [18, 28, 29, 30, 31] [] (m_findWays_B120 v1 v2 v3 t) t (Sum.elim (fun (x : Int32 × St) => x.2) (fun (y : St) => y)) := by
  unfold m_findWays_B120
  exact FR_ite (FR_some fx.rfl) (FR_gd (FR_ite (FR_some fx.rfl) (FR_gd (FR_gd (FR_nm (fun x42 _ => FR_bind (fr_m_findWays_L165 v1 v2 v3 x42 t) (fun y43 hm44 => FR_nm (fun x46 _ => FR_some hm44))))))))
theorem fr_m_findWays_L120 (v1 : Int32) (v2 : Int32) (v3 : Int32) (t : St) : FR [18, 28, 29, 30, 31] [] (lp (fun x => m_findWays_B120 v1 v2 x.1 x.2) (v3, t)) t (fun (y : St) => y) := FR_lp (p := (fun (x : Int32 × St) => x.2)) (q := (fun (y : St) => y)) (fun x => fr_m_findWays_B120 v1 v2 x.1 x.2) (v3, t)
theorem fr_m_findWays_B112 (v1 : Int32) (v2 : Int32) (t : St) : FR [18, 28, 29, 30, 31] [] (m_findWays_B112 v1 v2 t) t (Sum.elim (fun (x : Int32 × St) => x.2) (fun (y : St) => y)) := by
  unfold m_findWays_B112
  exact FR_ite (FR_some fx.rfl) (FR_bind (fr_m_findWays_L120 v1 v2 (0 : Int32) t) (fun y48 hm49 => FR_nm (fun x51 _ => FR_some hm49)))
theorem fr_m_findWays_L112 (v1 : Int32) (v2 : Int32) (t : St) : FR [18, 28, 29, 30, 31] [] (lp (fun x => m_findWays_B112 v1 x.1 x.2) (v2, t)) t (fun (y : St) => y) := FR_lp (p := (fun (x : Int32 × St) => x.2)) (q := (fun (y : St) => y)) (fun x => fr_m_findWays_B112 v1 x.1 x.2) (v2, t)
theorem fr_m_findWays (t : St) (a1 : Int32) : FR [18, 28, 29, 30, 31] [] (m_findWays t a1) t (fun (a : Int32 × St) => a.2) := by
  unfold m_findWays
  exact FR_bind (fr_m_findWays_L2 a1 (0 : Int32) t) (fun y52 hm53 => FR_bind (fr_m_findWays_L31 a1 a1 y52) (fun y55 hm56 => (FR_sum y55 hm56 (fun u58 hm56 => FR_some (fx.trans hm53 hm56)) (fun u58 hm56 => FR_bind (fr_m_findLesser u58 a1) (fun q59 hq59 => FR_nmS (fx_sI rfl) (fun t61 ht61 => FR_bind (fr_m_findWays_L112 a1 (0 : Int32) t61) (fun y62 hm63 => FR_some (fx.trans (fx.trans (fx.trans (fx.trans hm53 hm56) hq59) ht61) hm63))))))))
theorem fr_m_whyWays (t : St) (a1 : Int32) (a2 : Int32) : FR [18, 28, 29, 30, 31] [] (m_whyWays t a1 a2) t (fun (a : Int32 × St) => a.2) := by
  unfold m_whyWays
  exact FR_bindn (fun q1 => FR_ite (FR_gd (FR_bind (fr_m_findWays t (gA t 16 (a1).toNatClampNeg)) (fun q5 hq5 => FR_ite (FR_some hq5) (FR_some hq5)))) (FR_some fx.rfl))
theorem fr_m_ways (t : St) (a1 : Int32) : FR [18, 28, 29, 30, 31] [] (m_ways t a1) t (fun (a : Int32 × St) => a.2) := by
  unfold m_ways
  exact FR_bind (fr_m_whyWays t a1 (1 : Int32)) (fun q1 hq1 => FR_ite (FR_some hq1) (FR_some hq1))
theorem fr_m_wayAt_J11 (t : St) (v2 : Int32) (w1 : Int32) (w2 : Int32) : FR [18, 28, 29, 30, 31] [] (m_wayAt_J11 t v2 w1 w2) t (fun (a : Int32 × St) => a.2) := by
  unfold m_wayAt_J11
  exact FR_bind (fr_m_whyWays t w1 w2) (fun q1 hq1 => FR_ite (FR_ite (FR_some hq1) (FR_gd (FR_some hq1))) (FR_some hq1))
theorem fr_m_wayAt (t : St) (a1 : Int32) (a2 : Int32) : FR [18, 28, 29, 30, 31] [] (m_wayAt t a1 a2) t (fun (a : Int32 × St) => a.2) := by
  unfold m_wayAt
  exact FR_ite (FR_wk fx.rfl (fr_m_wayAt_J11 t a2 a1 (0 : Int32))) (FR_wk fx.rfl (fr_m_wayAt_J11 t a2 a1 (1 : Int32)))
theorem fr_m_least (t : St) (a1 : Int32) (a2 : Int32) : FR [18, 28, 29, 30, 31] [] (m_least t a1 a2) t (fun (a : Int32 × St) => a.2) := by
  unfold m_least
  exact FR_bindn (fun q1 => FR_bind (fr_m_whyWays t a1 q1) (fun q4 hq4 => FR_ite (FR_bindn (fun q7 => FR_gd (FR_bindn (fun q10 => FR_some hq4)))) (FR_some hq4)))
theorem fr_m_leastWay (t : St) (a1 : Int32) (a2 : Int32) : FR [18, 28, 29, 30, 31] [] (m_leastWay t a1 a2) t (fun (a : Int32 × St) => a.2) := by
  unfold m_leastWay
  exact FR_bindn (fun q1 => FR_bind (fr_m_whyWays t a1 q1) (fun q4 hq4 => FR_ite (FR_bindn (fun q7 => FR_gd (FR_some hq4))) (FR_some hq4)))
theorem fr_m_sorted_B18 (v1 : Int32) (v2 : Int32) (v3 : Int32) (v4 : Int32) (v5 : Int32) (t : St) : FR [33] [] (m_sorted_B18 v1 v2 v3 v4 v5 t) t (Sum.elim (fun (x : Int32 × St) => x.2) (fun (y : Int32 × St) => y.2)) := by
  unfold m_sorted_B18
  exact FR_ite (FR_some fx.rfl) (FR_gd (FR_ite (FR_some fx.rfl) (FR_gd (FR_gd (FR_nmS (fx_sA rfl) (fun t6 ht6 => FR_nm (fun x7 _ => FR_some ht6)))))))
theorem fr_m_sorted_L18 (v1 : Int32) (v2 : Int32) (v3 : Int32) (v4 : Int32) (v5 : Int32) (t : St) : FR [33] [] (lp (fun x => m_sorted_B18 v1 v2 v3 v4 x.1 x.2) (v5, t)) t (fun (y : Int32 × St) => y.2) := FR_lp (p := (fun (x : Int32 × St) => x.2)) (q := (fun (y : Int32 × St) => y.2)) (fun x => fr_m_sorted_B18 v1 v2 v3 v4 x.1 x.2) (v5, t)
theorem fr_m_sorted_B2 (v1 : Int32) (v2 : Int32) (v3 : Int32) (t : St) : FR [33] [] (m_sorted_B2 v1 v2 v3 t) t (Sum.elim (fun (x : Int32 × St) => x.2) (fun (y : St) => y)) := by
  unfold m_sorted_B2
  exact FR_ite (FR_some fx.rfl) (FR_gd (FR_nm (fun x10 _ => FR_bind (fr_m_sorted_L18 v1 v2 v3 x10 v3 t) (fun y11 hm12 => FR_gd (FR_nmS (fx_sA rfl) (fun t15 ht15 => FR_nm (fun x16 _ => FR_some (fx.trans hm12 ht15))))))))
theorem fr_m_sorted_L2 (v1 : Int32) (v2 : Int32) (v3 : Int32) (t : St) : FR [33] [] (lp (fun x => m_sorted_B2 v1 v2 x.1 x.2) (v3, t)) t (fun (y : St) => y) := FR_lp (p := (fun (x : Int32 × St) => x.2)) (q := (fun (y : St) => y)) (fun x => fr_m_sorted_B2 v1 v2 x.1 x.2) (v3, t)
theorem fr_m_sorted (t : St) (a1 : Int32) (a2 : Int32) : FR [33] [] (m_sorted t a1 a2) t (fun (a : Int32 × St) => a.2) := by
  unfold m_sorted
  exact FR_bind (fr_m_sorted_L2 a1 a2 (1 : Int32) t) (fun y17 hm18 => FR_gd (FR_some hm18))
theorem fr_m_many_B55 (v1 : Int32) (v3 : Int32) (v4 : Int32) (v5 : Int32) (t : St) : FR [32, 33] [] (m_many_B55 v1 v3 v4 v5 t) t (Sum.elim (fun (x : Int32 × Int32 × St) => x.2.2) (fun (y : Int32 × St) => y.2)) := by
  unfold m_many_B55
  exact FR_gd (FR_ite (FR_some fx.rfl) (FR_gd (FR_gd (FR_gd (FR_nm (fun x6 _ => FR_gd (FR_nmS (fx_sA rfl) (fun t8 ht8 => FR_gd (FR_ite (FR_nm (fun x21 _ => FR_nm (fun x22 _ => FR_some ht8))) (FR_ite (FR_nm (fun x20 _ => FR_some ht8)) (FR_gd (FR_ite (FR_ite (FR_nm (fun x18 _ => FR_some ht8)) (FR_nm (fun x19 _ => FR_some ht8))) (FR_ite (FR_nm (fun x15 _ => FR_some ht8)) (FR_nm (fun x16 _ => FR_some ht8)))))))))))))))
theorem fr_m_many_L55 (v1 : Int32) (v3 : Int32) (v4 : Int32) (v5 : Int32) (t : St) : FR [32, 33] [] (lp (fun x => m_many_B55 v1 v3 x.1 x.2.1 x.2.2) (v4, v5, t)) t (fun (y : Int32 × St) => y.2) := FR_lp (p := (fun (x : Int32 × Int32 × St) => x.2.2)) (q := (fun (y : Int32 × St) => y.2)) (fun x => fr_m_many_B55 v1 v3 x.1 x.2.1 x.2.2) (v4, v5, t)
theorem fr_m_many_J211 (t : St) (v1 : Int32) (v3 : Int32) (w1 : Int32) (w2 : Int32) : FR [32, 33] [] (m_many_J211 t v1 v3 w1 w2) t (Sum.elim (fun (x : Int32 × St) => x.2) (fun (y : St) => y)) := by
  unfold m_many_J211
  exact FR_gd (FR_nmS (fx_sA rfl) (fun t24 ht24 => FR_nm (fun x25 _ => FR_some ht24)))
theorem fr_m_many_J50 (t : St) (v1 : Int32) (v3 : Int32) (w0 : Int32) : FR [32, 33] [] (m_many_J50 t v1 v3 w0) t (Sum.elim (fun (x : Int32 × St) => x.2) (fun (y : St) => y)) := by
  unfold m_many_J50
  exact FR_bind (fr_m_many_L55 v1 v3 w0 (0 : Int32) t) (fun y26 hm27 => FR_gd (FR_ite (FR_gd (FR_gd (FR_bind (fr_m_sorted y26.2 (gA y26.2 12 (v3).toNatClampNeg) ((gA y26.2 9 (v3).toNatClampNeg) - (1 : Int32))) (fun q33 hq33 => FR_wk (fx.trans hm27 hq33) (fr_m_many_J211 q33.2 v1 v3 v3 q33.1))))) (FR_wk hm27 (fr_m_many_J211 y26.2 v1 v3 v3 y26.1))))
theorem fr_m_many_B16 (v1 : Int32) (v3 : Int32) (t : St) : FR [32, 33] [] (m_many_B16 v1 v3 t) t (Sum.elim (fun (x : Int32 × St) => x.2) (fun (y : St) => y)) := by
  unfold m_many_B16
  exact FR_gd (FR_ite (FR_some fx.rfl) (FR_gd (FR_ite (FR_gd (FR_gd (FR_wk fx.rfl (fr_m_many_J50 t v1 v3 (gA t 1 ((gA t 10 (v3).toNatClampNeg)).toNatClampNeg))))) (FR_wk fx.rfl (fr_m_many_J50 t v1 v3 (0 : Int32))))))
theorem fr_m_many_L16 (v1 : Int32) (v3 : Int32) (t : St) : FR [32, 33] [] (lp (fun x => m_many_B16 v1 x.1 x.2) (v3, t)) t (fun (y : St) => y) := FR_lp (p := (fun (x : Int32 × St) => x.2)) (q := (fun (y : St) => y)) (fun x => fr_m_many_B16 v1 x.1 x.2) (v3, t)
theorem fr_m_many (t : St) (a1 : Int32) : FR [32, 33] [] (m_many t a1) t (fun (a : Int32 × St) => a.2) := by
  unfold m_many
  exact FR_bindn (fun q41 => FR_ite (FR_bind (fr_m_many_L16 a1 (0 : Int32) t) (fun y44 hm45 => FR_gd (FR_gd (FR_some hm45)))) (FR_some fx.rfl))
theorem fr_m_takes_B2 (v1 : Int32) (v2 : Int32) (v3 : Int32) (t : St) : FR [34] [] (m_takes_B2 v1 v2 v3 t) t (Sum.elim (fun (x : Int32 × St) => x.2) (fun (y : St) => y)) := by
  unfold m_takes_B2
  exact FR_ite (FR_some fx.rfl) (FR_gd (FR_gd (FR_nmS (fx_sA rfl) (fun t4 ht4 => FR_nm (fun x5 _ => FR_some ht4)))))
theorem fr_m_takes_L2 (v1 : Int32) (v2 : Int32) (v3 : Int32) (t : St) : FR [34] [] (lp (fun x => m_takes_B2 v1 v2 x.1 x.2) (v3, t)) t (fun (y : St) => y) := FR_lp (p := (fun (x : Int32 × St) => x.2)) (q := (fun (y : St) => y)) (fun x => fr_m_takes_B2 v1 v2 x.1 x.2) (v3, t)
theorem fr_m_takes (t : St) (a1 : Int32) (a2 : Int32) : FR [34] [] (m_takes t a1 a2) t (fun (a : St) => a) := by
  unfold m_takes
  exact FR_bind (fr_m_takes_L2 a1 a2 (0 : Int32) t) (fun y6 hm7 => FR_some hm7)
theorem fr_m_adds_B5 (v1 : Int32) (v2 : Int32) (v3 : Int32) (v4 : Int32) (t : St) : FR [34] [] (m_adds_B5 v1 v2 v3 v4 t) t (Sum.elim (fun (x : Int32 × Int32 × St) => x.2.2) (fun (y : St) => y)) := by
  unfold m_adds_B5
  exact FR_ite (FR_some fx.rfl) (FR_gd (FR_gd (FR_nm (fun x4 _ => FR_gd (FR_nmS (fx_sA rfl) (fun t6 ht6 => FR_nm (fun x7 _ => FR_nm (fun x8 _ => FR_some ht6))))))))
theorem fr_m_adds_L5 (v1 : Int32) (v2 : Int32) (v3 : Int32) (v4 : Int32) (t : St) : FR [34] [] (lp (fun x => m_adds_B5 v1 v2 x.1 x.2.1 x.2.2) (v3, v4, t)) t (fun (y : St) => y) := FR_lp (p := (fun (x : Int32 × Int32 × St) => x.2.2)) (q := (fun (y : St) => y)) (fun x => fr_m_adds_B5 v1 v2 x.1 x.2.1 x.2.2) (v3, v4, t)
theorem fr_m_adds (t : St) (a1 : Int32) (a2 : Int32) : FR [34] [] (m_adds t a1 a2) t (fun (a : St) => a) := by
  unfold m_adds
  exact FR_bind (fr_m_adds_L5 a1 a2 (0 : Int32) (0 : Int32) t) (fun y9 hm10 => FR_some hm10)
theorem fr_m_lessens_J79 (t : St) (v1 : Int32) (v2 : Int32) (v3 : Int32) (v4 : Int32) (w1 : Int32) (w2 : Int32) : FR [34] [] (m_lessens_J79 t v1 v2 v3 v4 w1 w2) t (Sum.elim (fun (x : Int32 × Int32 × St) => x.2.2) (fun (y : St) => y)) := by
  unfold m_lessens_J79
  exact FR_gd (FR_nmS (fx_sA rfl) (fun t2 ht2 => FR_nm (fun x3 _ => FR_some ht2)))
theorem fr_m_lessens_J51 (t : St) (v1 : Int32) (v2 : Int32) (v4 : Int32) (v5 : Int32) (w0 : Int32) : FR [34] [] (m_lessens_J51 t v1 v2 v4 v5 w0) t (Sum.elim (fun (x : Int32 × Int32 × St) => x.2.2) (fun (y : St) => y)) := by
  unfold m_lessens_J51
  exact FR_ite (FR_wk fx.rfl (fr_m_lessens_J79 t v1 v2 w0 v4 (((7 : Int32) * v1) + v4) v5)) (FR_wk fx.rfl (fr_m_lessens_J79 t v1 v2 w0 v4 (((7 : Int32) * v1) + v4) (v5 + (1073741824 : Int32))))
theorem fr_m_lessens_B5 (v1 : Int32) (v2 : Int32) (v3 : Int32) (v4 : Int32) (t : St) : FR [34] [] (m_lessens_B5 v1 v2 v3 v4 t) t (Sum.elim (fun (x : Int32 × Int32 × St) => x.2.2) (fun (y : St) => y)) := by
  unfold m_lessens_B5
  exact FR_ite (FR_some fx.rfl) (FR_gd (FR_gd (FR_nm (fun x8 _ => FR_ite (FR_wk fx.rfl (fr_m_lessens_J51 t v1 v2 v4 x8 (0 : Int32))) (FR_wk fx.rfl (fr_m_lessens_J51 t v1 v2 v4 x8 (1 : Int32)))))))
theorem fr_m_lessens_L5 (v1 : Int32) (v2 : Int32) (v3 : Int32) (v4 : Int32) (t : St) : FR [34] [] (lp (fun x => m_lessens_B5 v1 v2 x.1 x.2.1 x.2.2) (v3, v4, t)) t (fun (y : St) => y) := FR_lp (p := (fun (x : Int32 × Int32 × St) => x.2.2)) (q := (fun (y : St) => y)) (fun x => fr_m_lessens_B5 v1 v2 x.1 x.2.1 x.2.2) (v3, v4, t)
theorem fr_m_lessens (t : St) (a1 : Int32) (a2 : Int32) : FR [34] [] (m_lessens t a1 a2) t (fun (a : St) => a) := by
  unfold m_lessens
  exact FR_bind (fr_m_lessens_L5 a1 a2 (0 : Int32) (0 : Int32) t) (fun y10 hm11 => FR_some hm11)
theorem fr_m_times_B5 (v1 : Int32) (v2 : Int32) (v3 : Int64) (v5 : Int32) (t : St) : FR [34] [] (m_times_B5 v1 v2 v3 v5 t) t (Sum.elim (fun (x : Int64 × Int32 × St) => x.2.2) (fun (y : St) => y)) := by
  unfold m_times_B5
  exact FR_ite (FR_some fx.rfl) (FR_gd (FR_nm (fun x3 _ => FR_gd (FR_nmS (fx_sA rfl) (fun t5 ht5 => FR_nm (fun x6 _ => FR_nm (fun x7 _ => FR_some ht5)))))))
theorem fr_m_times_L5 (v1 : Int32) (v2 : Int32) (v3 : Int64) (v5 : Int32) (t : St) : FR [34] [] (lp (fun x => m_times_B5 v1 v2 x.1 x.2.1 x.2.2) (v3, v5, t)) t (fun (y : St) => y) := FR_lp (p := (fun (x : Int64 × Int32 × St) => x.2.2)) (q := (fun (y : St) => y)) (fun x => fr_m_times_B5 v1 v2 x.1 x.2.1 x.2.2) (v3, v5, t)
theorem fr_m_times (t : St) (a1 : Int32) (a2 : Int32) : FR [34] [] (m_times t a1 a2) t (fun (a : St) => a) := by
  unfold m_times
  exact FR_bind (fr_m_times_L5 a1 a2 (0 : Int64) (0 : Int32) t) (fun y8 hm9 => FR_some hm9)
theorem fr_m_multiplies_B22 (v1 : Int32) (v2 : Int32) (v3 : Int32) (v4 : Int32) (v5 : Int64) (v7 : Int32) (t : St) : FR [34] [] (m_multiplies_B22 v1 v2 v3 v4 v5 v7 t) t (Sum.elim (fun (x : Int64 × Int32 × St) => x.2.2) (fun (y : St) => y)) := by
  unfold m_multiplies_B22
  exact FR_ite (FR_some fx.rfl) (FR_gd (FR_gd (FR_gd (FR_nm (fun x5 _ => FR_gd (FR_nmS (fx_sA rfl) (fun t7 ht7 => FR_nm (fun x8 _ => FR_nm (fun x9 _ => FR_some ht7)))))))))
theorem fr_m_multiplies_L22 (v1 : Int32) (v2 : Int32) (v3 : Int32) (v4 : Int32) (v5 : Int64) (v7 : Int32) (t : St) : FR [34] [] (lp (fun x => m_multiplies_B22 v1 v2 v3 v4 x.1 x.2.1 x.2.2) (v5, v7, t)) t (fun (y : St) => y) := FR_lp (p := (fun (x : Int64 × Int32 × St) => x.2.2)) (q := (fun (y : St) => y)) (fun x => fr_m_multiplies_B22 v1 v2 v3 v4 x.1 x.2.1 x.2.2) (v5, v7, t)
theorem fr_m_multiplies_B9 (v1 : Int32) (v2 : Int32) (v3 : Int32) (v4 : Int32) (t : St) : FR [34] [] (m_multiplies_B9 v1 v2 v3 v4 t) t (Sum.elim (fun (x : Int32 × St) => x.2) (fun (y : St) => y)) := by
  unfold m_multiplies_B9
  exact FR_ite (FR_some fx.rfl) (FR_bind (fr_m_multiplies_L22 v1 v2 v3 v4 (0 : Int64) (0 : Int32) t) (fun y11 hm12 => FR_nm (fun x14 _ => FR_some hm12)))
theorem fr_m_multiplies_L9 (v1 : Int32) (v2 : Int32) (v3 : Int32) (v4 : Int32) (t : St) : FR [34] [] (lp (fun x => m_multiplies_B9 v1 v2 v3 x.1 x.2) (v4, t)) t (fun (y : St) => y) := FR_lp (p := (fun (x : Int32 × St) => x.2)) (q := (fun (y : St) => y)) (fun x => fr_m_multiplies_B9 v1 v2 v3 x.1 x.2) (v4, t)
theorem fr_m_multiplies (t : St) (a1 : Int32) (a2 : Int32) (a3 : Int32) : FR [34] [] (m_multiplies t a1 a2 a3) t (fun (a : St) => a) := by
  unfold m_multiplies
  exact FR_bind (fr_m_puts t a1 (0 : Int32)) (fun q15 hq15 => FR_bind (fr_m_multiplies_L9 a1 a2 a3 (0 : Int32) q15) (fun y17 hm18 => FR_some (fx.trans hq15 hm18)))
theorem fr_m_halves_J48 (t : St) (v1 : Int32) (v3 : Int32) (v4 : Int32) (w1 : Int32) (w2 : Int32) (w3 : Int32) : FR [34] [] (m_halves_J48 t v1 v3 v4 w1 w2 w3) t (Sum.elim (fun (x : Int32 × Int32 × St) => x.2.2) (fun (y : St) => y)) := by
  unfold m_halves_J48
  exact FR_gd (FR_nmS (fx_sA rfl) (fun t2 ht2 => FR_nm (fun x3 _ => FR_nm (fun x4 _ => FR_some ht2))))
theorem fr_m_halves_B5 (v1 : Int32) (v2 : Int32) (v3 : Int32) (t : St) : FR [34] [] (m_halves_B5 v1 v2 v3 t) t (Sum.elim (fun (x : Int32 × Int32 × St) => x.2.2) (fun (y : St) => y)) := by
  unfold m_halves_B5
  exact FR_ite (FR_some fx.rfl) (FR_gd (FR_nm (fun x7 _ => FR_ite (FR_wk fx.rfl (fr_m_halves_J48 t v1 v3 x7 (((7 : Int32) * v1) + v3) (x7 >>> ((1 : Int32) &&& 31)) (536870912 : Int32))) (FR_wk fx.rfl (fr_m_halves_J48 t v1 v3 x7 (((7 : Int32) * v1) + v3) (x7 >>> ((1 : Int32) &&& 31)) (0 : Int32))))))
theorem fr_m_halves_L5 (v1 : Int32) (v2 : Int32) (v3 : Int32) (t : St) : FR [34] [] (lp (fun x => m_halves_B5 v1 x.1 x.2.1 x.2.2) (v2, v3, t)) t (fun (y : St) => y) := FR_lp (p := (fun (x : Int32 × Int32 × St) => x.2.2)) (q := (fun (y : St) => y)) (fun x => fr_m_halves_B5 v1 x.1 x.2.1 x.2.2) (v2, v3, t)
theorem fr_m_halves (t : St) (a1 : Int32) : FR [34] [] (m_halves t a1) t (fun (a : St) => a) := by
  unfold m_halves
  exact FR_bind (fr_m_halves_L5 a1 (0 : Int32) (6 : Int32) t) (fun y9 hm10 => FR_some hm10)
theorem fr_m_divisor_B42 (v1 : Int32) (v2 : Int32) (v3 : Int32) (t : St) : FR [34] [] (m_divisor_B42 v1 v2 v3 t) t (Sum.elim (fun (x : St) => x) (fun (y : St) => y)) := by
  unfold m_divisor_B42
  exact FR_bindn (fun q1 => FR_ite (FR_some fx.rfl) (FR_bind (fr_m_halves t v1) (fun q5 hq5 => FR_some hq5)))
theorem fr_m_divisor_L42 (v1 : Int32) (v2 : Int32) (v3 : Int32) (t : St) : FR [34] [] (lp (fun x => m_divisor_B42 v1 v2 v3 x) t) t (fun (y : St) => y) := FR_lp (p := (fun (x : St) => x)) (q := (fun (y : St) => y)) (fun x => fr_m_divisor_B42 v1 v2 v3 x) t
theorem fr_m_divisor_B58 (v1 : Int32) (v2 : Int32) (v3 : Int32) (t : St) : FR [34] [] (m_divisor_B58 v1 v2 v3 t) t (Sum.elim (fun (x : St) => x) (fun (y : St) => y)) := by
  unfold m_divisor_B58
  exact FR_bindn (fun q7 => FR_ite (FR_some fx.rfl) (FR_bind (fr_m_halves t v2) (fun q11 hq11 => FR_some hq11)))
theorem fr_m_divisor_L58 (v1 : Int32) (v2 : Int32) (v3 : Int32) (t : St) : FR [34] [] (lp (fun x => m_divisor_B58 v1 v2 v3 x) t) t (fun (y : St) => y) := FR_lp (p := (fun (x : St) => x)) (q := (fun (y : St) => y)) (fun x => fr_m_divisor_B58 v1 v2 v3 x) t
theorem fr_m_divisor_B126 (v1 : Int32) (v3 : Int32) (v4 : Int32) (t : St) : FR [34] [] (m_divisor_B126 v1 v3 v4 t) t (Sum.elim (fun (x : Int32 × St) => x.2) (fun (y : St) => y)) := by
  unfold m_divisor_B126
  exact FR_ite (FR_some fx.rfl) (FR_bind (fr_m_times t v1 (2 : Int32)) (fun q14 hq14 => FR_nm (fun x16 _ => FR_some hq14)))
theorem fr_m_divisor_L126 (v1 : Int32) (v3 : Int32) (v4 : Int32) (t : St) : FR [34] [] (lp (fun x => m_divisor_B126 v1 v3 x.1 x.2) (v4, t)) t (fun (y : St) => y) := FR_lp (p := (fun (x : Int32 × St) => x.2)) (q := (fun (y : St) => y)) (fun x => fr_m_divisor_B126 v1 v3 x.1 x.2) (v4, t)
theorem fr_m_divisor_B2 (v1 : Int32) (v2 : Int32) (v3 : Int32) (t : St) : FR [34] [] (m_divisor_B2 v1 v2 v3 t) t (Sum.elim (fun (x : Int32 × St) => x.2) (fun (y : Int32 × St) => y.2)) := by
  unfold m_divisor_B2
  exact FR_bindn (fun q17 => FR_ite (FR_some fx.rfl) (FR_bindn (fun q21 => FR_ite (FR_some fx.rfl) (FR_bind (fr_m_halves t v1) (fun q25 hq25 => FR_bind (fr_m_halves q25 v2) (fun q27 hq27 => FR_nm (fun x29 _ => FR_some (fx.trans hq25 hq27))))))))
theorem fr_m_divisor_L2 (v1 : Int32) (v2 : Int32) (v3 : Int32) (t : St) : FR [34] [] (lp (fun x => m_divisor_B2 v1 v2 x.1 x.2) (v3, t)) t (fun (y : Int32 × St) => y.2) := FR_lp (p := (fun (x : Int32 × St) => x.2)) (q := (fun (y : Int32 × St) => y.2)) (fun x => fr_m_divisor_B2 v1 v2 x.1 x.2) (v3, t)
theorem fr_m_divisor_B34 (v1 : Int32) (v2 : Int32) (v3 : Int32) (t : St) : FR [34] [] (m_divisor_B34 v1 v2 v3 t) t (Sum.elim (fun (x : St) => x) (fun (y : St) => y)) := by
  unfold m_divisor_B34
  exact FR_bindn (fun q30 => FR_ite (FR_bind (fr_m_divisor_L42 v1 v2 v3 t) (fun y34 hm35 => FR_bind (fr_m_divisor_L58 v1 v2 v3 y34) (fun y37 hm38 => FR_bindn (fun q40 => FR_ite (FR_bind (fr_m_lessens y37 v2 v1) (fun q43 hq43 => FR_some (fx.trans (fx.trans hm35 hm38) hq43))) (FR_bind (fr_m_lessens y37 v1 v2) (fun q45 hq45 => FR_bind (fr_m_takes q45 (4506 : Int32) v1) (fun q47 hq47 => FR_bind (fr_m_takes q47 v1 v2) (fun q49 hq49 => FR_bind (fr_m_takes q49 v2 (4506 : Int32)) (fun q51 hq51 => FR_some (fx.trans (fx.trans (fx.trans (fx.trans (fx.trans hm35 hm38) hq45) hq47) hq49) hq51)))))))))) (FR_some fx.rfl))
theorem fr_m_divisor_L34 (v1 : Int32) (v2 : Int32) (v3 : Int32) (t : St) : FR [34] [] (lp (fun x => m_divisor_B34 v1 v2 v3 x) t) t (fun (y : St) => y) := FR_lp (p := (fun (x : St) => x)) (q := (fun (y : St) => y)) (fun x => fr_m_divisor_B34 v1 v2 v3 x) t
theorem fr_m_divisor (t : St) (a1 : Int32) (a2 : Int32) : FR [34] [] (m_divisor t a1 a2) t (fun (a : St) => a) := by
  unfold m_divisor
  exact FR_bind (fr_m_divisor_L2 a1 a2 (0 : Int32) t) (fun y53 hm54 => FR_bind (fr_m_divisor_L34 a1 a2 y53.1 y53.2) (fun y56 hm57 => FR_bind (fr_m_divisor_L126 a1 y53.1 (0 : Int32) y56) (fun y59 hm60 => FR_some (fx.trans (fx.trans hm54 hm57) hm60))))
theorem fr_m_divides_J56 (t : St) (v1 : Int32) (v2 : Int32) (v3 : Int32) (v4 : Int32) (w1 : Int32) (w2 : Int32) (w3 : Int32) : FR [34] [] (m_divides_J56 t v1 v2 v3 v4 w1 w2 w3) t (Sum.elim (fun (x : Int32 × St) => x.2) (fun (y : St) => y)) := by
  unfold m_divides_J56
  exact FR_gd (FR_nmS (fx_sA rfl) (fun t2 ht2 => FR_bindn (fun q3 => FR_ite (FR_nm (fun x6 _ => FR_some ht2)) (FR_bind (fr_m_lessens t2 (4506 : Int32) v2) (fun q7 hq7 => FR_gd (FR_gd (FR_nmS (fx_sA rfl) (fun t11 ht11 => FR_nm (fun x12 _ => FR_some (fx.trans (fx.trans ht2 hq7) ht11))))))))))
theorem fr_m_divides_B19 (v1 : Int32) (v2 : Int32) (v3 : Int32) (v4 : Int32) (t : St) : FR [34] [] (m_divides_B19 v1 v2 v3 v4 t) t (Sum.elim (fun (x : Int32 × St) => x.2) (fun (y : St) => y)) := by
  unfold m_divides_B19
  exact FR_ite (FR_some fx.rfl) (FR_bind (fr_m_times t (4506 : Int32) (2 : Int32)) (fun q14 hq14 => FR_gd (FR_bindn (fun q17 => FR_ite (FR_wk hq14 (fr_m_divides_J56 q14 v1 v2 v3 v4 (31542 : Int32) (gA q14 34 ((31542 : Int32)).toNatClampNeg) (0 : Int32))) (FR_wk hq14 (fr_m_divides_J56 q14 v1 v2 v3 v4 (31542 : Int32) (gA q14 34 ((31542 : Int32)).toNatClampNeg) (1 : Int32)))))))
theorem fr_m_divides_L19 (v1 : Int32) (v2 : Int32) (v3 : Int32) (v4 : Int32) (t : St) : FR [34] [] (lp (fun x => m_divides_B19 v1 v2 v3 x.1 x.2) (v4, t)) t (fun (y : St) => y) := FR_lp (p := (fun (x : Int32 × St) => x.2)) (q := (fun (y : St) => y)) (fun x => fr_m_divides_B19 v1 v2 v3 x.1 x.2) (v4, t)
theorem fr_m_divides (t : St) (a1 : Int32) (a2 : Int32) (a3 : Int32) : FR [34] [] (m_divides t a1 a2 a3) t (fun (a : St) => a) := by
  unfold m_divides
  exact FR_bind (fr_m_puts t a3 (0 : Int32)) (fun q21 hq21 => FR_bind (fr_m_puts q21 (4506 : Int32) (0 : Int32)) (fun q23 hq23 => FR_bind (fr_m_divides_L19 a1 a2 a3 (209 : Int32) q23) (fun y25 hm26 => FR_some (fx.trans (fx.trans hq21 hq23) hm26))))
theorem fr_m_tells (t : St) (a1 : Int32) (a2 : Int32) : FR [34] [] (m_tells t a1 a2) t (fun (a : St) => a) := by
  unfold m_tells
  exact FR_bindn (fun q1 => FR_ite (FR_bind (fr_m_takes t (4502 : Int32) a1) (fun q5 hq5 => FR_bind (fr_m_takes q5 (4503 : Int32) a2) (fun q7 hq7 => FR_bind (fr_m_divisor q7 (4502 : Int32) (4503 : Int32)) (fun q9 hq9 => FR_bind (fr_m_divides q9 a1 (4502 : Int32) (4504 : Int32)) (fun q11 hq11 => FR_bind (fr_m_divides q11 a2 (4502 : Int32) (4503 : Int32)) (fun q13 hq13 => FR_bind (fr_m_takes q13 (4500 : Int32) (4504 : Int32)) (fun q15 hq15 => FR_bind (fr_m_takes q15 (4501 : Int32) (4503 : Int32)) (fun q17 hq17 => FR_some (fx.trans (fx.trans (fx.trans (fx.trans (fx.trans (fx.trans hq5 hq7) hq9) hq11) hq13) hq15) hq17))))))))) (FR_bind (fr_m_puts t (4500 : Int32) (0 : Int32)) (fun q19 hq19 => FR_bind (fr_m_puts q19 (4501 : Int32) (1 : Int32)) (fun q21 hq21 => FR_some (fx.trans hq19 hq21)))))
theorem fr_m_nodeOf (t : St) (a1 : Int32) (a2 : Int32) (a3 : Int32) : FR [36, 39, 40, 41, 42] [] (m_nodeOf t a1 a2 a3) t (fun (a : Int32 × St) => a.2) := by
  unfold m_nodeOf
  exact FR_ite (FR_some fx.rfl) (FR_nm (fun x11 _ => FR_bindn (fun y12 => (FR_sumn y12 (fun u15 => FR_some fx.rfl) (fun u15 => FR_gd (FR_nmS (fx_sA rfl) (fun t17 ht17 => FR_gd (FR_nmS (fx_sA rfl) (fun t19 ht19 => FR_gd (FR_nmS (fx_sA rfl) (fun t21 ht21 => FR_gd (FR_nmS (fx_sA rfl) (fun t23 ht23 => FR_nmS (fx_sI rfl) (fun t24 ht24 => FR_some (fx.trans (fx.trans (fx.trans (fx.trans ht17 ht19) ht21) ht23) ht24)))))))))))))))
theorem fr_m_diagrams_B78 (v2 : Int32) (v3 : Int32) (t : St) : FR [35, 36, 37, 38, 39, 40, 41, 42] [] (m_diagrams_B78 v2 v3 t) t (Sum.elim (fun (x : Int32 × St) => x.2) (fun (y : St) => y)) := by
  unfold m_diagrams_B78
  exact FR_ite (FR_some fx.rfl) (FR_gd (FR_nmS (fx_sA rfl) (fun t3 ht3 => FR_nm (fun x4 _ => FR_some ht3))))
theorem fr_m_diagrams_L78 (v2 : Int32) (v3 : Int32) (t : St) : FR [35, 36, 37, 38, 39, 40, 41, 42] [] (lp (fun x => m_diagrams_B78 v2 x.1 x.2) (v3, t)) t (fun (y : St) => y) := FR_lp (p := (fun (x : Int32 × St) => x.2)) (q := (fun (y : St) => y)) (fun x => fr_m_diagrams_B78 v2 x.1 x.2) (v3, t)
theorem fr_m_diagrams_J62 (t : St) (v1 : Int32) (v2 : Int32) (w1 : Int32) (w2 : Int32) : FR [35, 36, 37, 38, 39, 40, 41, 42] [] (m_diagrams_J62 t v1 v2 w1 w2) t (Sum.elim (fun (x : Int32 × St) => x.2) (fun (y : St) => y)) := by
  unfold m_diagrams_J62
  exact FR_gd (FR_nmS (fx_sA rfl) (fun t6 ht6 => FR_nm (fun x7 _ => FR_some ht6)))
theorem fr_m_diagrams_B37 (v1 : Int32) (v2 : Int32) (t : St) : FR [35, 36, 37, 38, 39, 40, 41, 42] [] (m_diagrams_B37 v1 v2 t) t (Sum.elim (fun (x : Int32 × St) => x.2) (fun (y : St) => y)) := by
  unfold m_diagrams_B37
  exact FR_ite (FR_some fx.rfl) (FR_bindn (fun q9 => FR_ite (FR_wk fx.rfl (fr_m_diagrams_J62 t v1 v2 v2 (0 : Int32))) (FR_wk fx.rfl (fr_m_diagrams_J62 t v1 v2 v2 (1 : Int32)))))
theorem fr_m_diagrams_L37 (v1 : Int32) (v2 : Int32) (t : St) : FR [35, 36, 37, 38, 39, 40, 41, 42] [] (lp (fun x => m_diagrams_B37 v1 x.1 x.2) (v2, t)) t (fun (y : St) => y) := FR_lp (p := (fun (x : Int32 × St) => x.2)) (q := (fun (y : St) => y)) (fun x => fr_m_diagrams_B37 v1 x.1 x.2) (v2, t)
theorem fr_m_diagrams_B99 (v2 : Int32) (v3 : Int32) (t : St) : FR [35, 36, 37, 38, 39, 40, 41, 42] [] (m_diagrams_B99 v2 v3 t) t (Sum.elim (fun (x : Int32 × St) => x.2) (fun (y : St) => y)) := by
  unfold m_diagrams_B99
  exact FR_ite (FR_some fx.rfl) (FR_gd (FR_gd (FR_bind (fr_m_nodeOf t v2 (gA t 38 (v3).toNatClampNeg) (gA t 38 ((v3 + ((1 : Int32) <<< (v2 &&& 31)))).toNatClampNeg)) (fun q16 hq16 => FR_gd (FR_nmS (fx_sA rfl) (fun t19 ht19 => FR_nm (fun x20 _ => FR_some (fx.trans hq16 ht19))))))))
theorem fr_m_diagrams_L99 (v2 : Int32) (v3 : Int32) (t : St) : FR [35, 36, 37, 38, 39, 40, 41, 42] [] (lp (fun x => m_diagrams_B99 v2 x.1 x.2) (v3, t)) t (fun (y : St) => y) := FR_lp (p := (fun (x : Int32 × St) => x.2)) (q := (fun (y : St) => y)) (fun x => fr_m_diagrams_B99 v2 x.1 x.2) (v3, t)
theorem fr_m_diagrams_B72 (v2 : Int32) (t : St) : FR [35, 36, 37, 38, 39, 40, 41, 42] [] (m_diagrams_B72 v2 t) t (Sum.elim (fun (x : Int32 × St) => x.2) (fun (y : St) => y)) := by
  unfold m_diagrams_B72
  exact FR_ite (FR_some fx.rfl) (FR_bind (fr_m_diagrams_L78 v2 (0 : Int32) t) (fun y22 hm23 => FR_bind (fr_m_diagrams_L99 v2 (0 : Int32) y22) (fun y25 hm26 => FR_nm (fun x28 _ => FR_some (fx.trans hm23 hm26)))))
theorem fr_m_diagrams_L72 (v2 : Int32) (t : St) : FR [35, 36, 37, 38, 39, 40, 41, 42] [] (lp (fun x => m_diagrams_B72 x.1 x.2) (v2, t)) t (fun (y : St) => y) := FR_lp (p := (fun (x : Int32 × St) => x.2)) (q := (fun (y : St) => y)) (fun x => fr_m_diagrams_B72 x.1 x.2) (v2, t)
theorem fr_m_diagrams (t : St) (a1 : Int32) : FR [35, 36, 37, 38, 39, 40, 41, 42] [] (m_diagrams t a1) t (fun (a : St) => a) := by
  unfold m_diagrams
  exact FR_ite (FR_some fx.rfl) (FR_nmS (fx_sI rfl) (fun t30 ht30 => FR_nmS (fx_sI rfl) (fun t31 ht31 => FR_gd (FR_nmS (fx_sA rfl) (fun t33 ht33 => FR_gd (FR_nmS (fx_sA rfl) (fun t35 ht35 => FR_bind (fr_m_diagrams_L37 a1 (0 : Int32) t35) (fun y36 hm37 => FR_bind (fr_m_diagrams_L72 (15 : Int32) y36) (fun y39 hm40 => FR_gd (FR_nmS (fx_sI rfl) (fun t43 ht43 => FR_some (fx.trans (fx.trans (fx.trans (fx.trans (fx.trans (fx.trans ht30 ht31) ht33) ht35) hm37) hm40) ht43))))))))))))
theorem fr_m_size (t : St) (a1 : Int32) : FR [35, 36, 37, 38, 39, 40, 41, 42] [] (m_size t a1) t (fun (a : Int32 × St) => a.2) := by
  unfold m_size
  exact FR_bindn (fun q1 => FR_ite (FR_gd (FR_bind (fr_m_diagrams t (gA t 16 (a1).toNatClampNeg)) (fun q5 hq5 => FR_some hq5))) (FR_some fx.rfl))
theorem fr_m_uses_J32 (t : St) (v1 : Int32) (v2 : Int32) (w1 : Int32) (w2 : Int32) : FR [43] [] (m_uses_J32 t v1 v2 w1 w2) t (Sum.elim (fun (x : Int32 × St) => x.2) (fun (y : St) => y)) := by
  unfold m_uses_J32
  exact FR_gd (FR_nmS (fx_sA rfl) (fun t2 ht2 => FR_nm (fun x3 _ => FR_some ht2)))
theorem fr_m_uses_B2 (v1 : Int32) (v2 : Int32) (t : St) : FR [43] [] (m_uses_B2 v1 v2 t) t (Sum.elim (fun (x : Int32 × St) => x.2) (fun (y : St) => y)) := by
  unfold m_uses_B2
  exact FR_ite (FR_some fx.rfl) (FR_ite (FR_wk fx.rfl (fr_m_uses_J32 t v1 v2 v2 (0 : Int32))) (FR_gd (FR_wk fx.rfl (fr_m_uses_J32 t v1 v2 v2 (gA t 2 (v2).toNatClampNeg)))))
theorem fr_m_uses_L2 (v1 : Int32) (v2 : Int32) (t : St) : FR [43] [] (lp (fun x => m_uses_B2 v1 x.1 x.2) (v2, t)) t (fun (y : St) => y) := FR_lp (p := (fun (x : Int32 × St) => x.2)) (q := (fun (y : St) => y)) (fun x => fr_m_uses_B2 v1 x.1 x.2) (v2, t)
theorem fr_m_uses (t : St) (a1 : Int32) : FR [43] [] (m_uses t a1) t (fun (a : St) => a) := by
  unfold m_uses
  exact FR_bind (fr_m_uses_L2 a1 (0 : Int32) t) (fun y7 hm8 => FR_some hm8)
theorem fr_m_brings_B9 (v1 : Int32) (v2 : Int32) (v4 : Int32) (t : St) : FR [34] [] (m_brings_B9 v1 v2 v4 t) t (Sum.elim (fun (x : Int32 × St) => x.2) (fun (y : St) => y)) := by
  unfold m_brings_B9
  exact FR_gd (FR_ite (FR_some fx.rfl) (FR_bind (fr_m_times t v1 (1000 : Int32)) (fun q3 hq3 => FR_nm (fun x5 _ => FR_some hq3))))
theorem fr_m_brings_L9 (v1 : Int32) (v2 : Int32) (v4 : Int32) (t : St) : FR [34] [] (lp (fun x => m_brings_B9 v1 v2 x.1 x.2) (v4, t)) t (fun (y : St) => y) := FR_lp (p := (fun (x : Int32 × St) => x.2)) (q := (fun (y : St) => y)) (fun x => fr_m_brings_B9 v1 v2 x.1 x.2) (v4, t)
theorem fr_m_brings (t : St) (a1 : Int32) (a2 : Int32) (a3 : Int32) : FR [34] [] (m_brings t a1 a2 a3) t (fun (a : St) => a) := by
  unfold m_brings
  exact FR_bind (fr_m_takes t a1 a2) (fun q6 hq6 => FR_bind (fr_m_brings_L9 a1 a2 a3 q6) (fun y8 hm9 => FR_some (fx.trans hq6 hm9)))
theorem fr_m_chances_B14 (v1 : Int32) (v2 : Int32) (t : St) : FR [34] [] (m_chances_B14 v1 v2 t) t (Sum.elim (fun (x : Int32 × St) => x.2) (fun (y : St) => y)) := by
  unfold m_chances_B14
  exact FR_ite (FR_some fx.rfl) (FR_gd (FR_nm (fun x3 _ => FR_gd (FR_bind (fr_m_brings t v2 (gA t 40 (v2).toNatClampNeg) (x3 + (1 : Int32))) (fun q5 hq5 => FR_gd (FR_bind (fr_m_times q5 v2 ((1000 : Int32) - (gA q5 43 (x3).toNatClampNeg))) (fun q8 hq8 => FR_gd (FR_bind (fr_m_brings q8 (4502 : Int32) (gA q8 41 (v2).toNatClampNeg) (x3 + (1 : Int32))) (fun q11 hq11 => FR_gd (FR_bind (fr_m_times q11 (4502 : Int32) (gA q11 43 (x3).toNatClampNeg)) (fun q14 hq14 => FR_bind (fr_m_adds q14 v2 (4502 : Int32)) (fun q16 hq16 => FR_nm (fun x18 _ => FR_some (fx.trans (fx.trans (fx.trans (fx.trans hq5 hq8) hq11) hq14) hq16))))))))))))))
theorem fr_m_chances_L14 (v1 : Int32) (v2 : Int32) (t : St) : FR [34] [] (lp (fun x => m_chances_B14 v1 x.1 x.2) (v2, t)) t (fun (y : St) => y) := FR_lp (p := (fun (x : Int32 × St) => x.2)) (q := (fun (y : St) => y)) (fun x => fr_m_chances_B14 v1 x.1 x.2) (v2, t)
theorem fr_m_chances (t : St) (a1 : Int32) : FR [34] [] (m_chances t a1) t (fun (a : St) => a) := by
  unfold m_chances
  exact FR_bind (fr_m_puts t (0 : Int32) (0 : Int32)) (fun q19 hq19 => FR_bind (fr_m_puts q19 (1 : Int32) (1 : Int32)) (fun q21 hq21 => FR_bind (fr_m_chances_L14 a1 (2 : Int32) q21) (fun y23 hm24 => FR_bind (fr_m_brings y23 a1 (gI y23 37) (0 : Int32)) (fun q26 hq26 => FR_some (fx.trans (fx.trans (fx.trans hq19 hq21) hm24) hq26)))))
theorem fr_m_wholes_B8 (v1 : Int32) (v2 : Int32) (v3 : Int32) (t : St) : FR [34] [] (m_wholes_B8 v1 v2 v3 t) t (Sum.elim (fun (x : Int32 × St) => x.2) (fun (y : St) => y)) := by
  unfold m_wholes_B8
  exact FR_ite (FR_some fx.rfl) (FR_bind (fr_m_times t v1 (1000 : Int32)) (fun q2 hq2 => FR_nm (fun x4 _ => FR_some hq2)))
theorem fr_m_wholes_L8 (v1 : Int32) (v2 : Int32) (v3 : Int32) (t : St) : FR [34] [] (lp (fun x => m_wholes_B8 v1 v2 x.1 x.2) (v3, t)) t (fun (y : St) => y) := FR_lp (p := (fun (x : Int32 × St) => x.2)) (q := (fun (y : St) => y)) (fun x => fr_m_wholes_B8 v1 v2 x.1 x.2) (v3, t)
theorem fr_m_wholes (t : St) (a1 : Int32) (a2 : Int32) : FR [34] [] (m_wholes t a1 a2) t (fun (a : St) => a) := by
  unfold m_wholes
  exact FR_bind (fr_m_puts t a1 (1 : Int32)) (fun q5 hq5 => FR_bind (fr_m_wholes_L8 a1 a2 (0 : Int32) q5) (fun y7 hm8 => FR_some (fx.trans hq5 hm8)))
theorem fr_m_whyChance (t : St) (a1 : Int32) (a2 : Int32) : FR [35, 36, 37, 38, 39, 40, 41, 42] [] (m_whyChance t a1 a2) t (fun (a : Int32 × St) => a.2) := by
  unfold m_whyChance
  exact FR_bindn (fun q1 => FR_ite (FR_gd (FR_bind (fr_m_diagrams t (gA t 16 (a1).toNatClampNeg)) (fun q5 hq5 => FR_ite (FR_some hq5) (FR_some hq5)))) (FR_some fx.rfl))
theorem fr_m_chance (t : St) (a1 : Int32) : FR [34, 35, 36, 37, 38, 39, 40, 41, 42, 43] [] (m_chance t a1) t (fun (a : Int32 × St) => a.2) := by
  unfold m_chance
  exact FR_bind (fr_m_whyChance t a1 (1 : Int32)) (fun q1 hq1 => FR_ite (FR_bind (fr_m_uses q1.2 (0 : Int32)) (fun q4 hq4 => FR_bind (fr_m_chances q4 (4507 : Int32)) (fun q6 hq6 => FR_bind (fr_m_wholes q6 (4505 : Int32) (16 : Int32)) (fun q8 hq8 => FR_bind (fr_m_tells q8 (4507 : Int32) (4505 : Int32)) (fun q10 hq10 => FR_some (fx.trans (fx.trans (fx.trans (fx.trans hq1 hq4) hq6) hq8) hq10)))))) (FR_some hq1))
theorem fr_m_weight (t : St) (a1 : Int32) (a2 : Int32) : FR [34, 35, 36, 37, 38, 39, 40, 41, 42, 43] [] (m_weight t a1 a2) t (fun (a : Int32 × St) => a.2) := by
  unfold m_weight
  exact FR_bindn (fun q1 => FR_bind (fr_m_whyChance t a1 q1) (fun q4 hq4 => FR_ite (FR_bind (fr_m_uses q4.2 (0 : Int32)) (fun q7 hq7 => FR_gd (FR_nmS (fx_sA rfl) (fun t10 ht10 => FR_bind (fr_m_chances t10 (402 : Int32)) (fun q11 hq11 => FR_gd (FR_nmS (fx_sA rfl) (fun t14 ht14 => FR_bind (fr_m_chances t14 (4507 : Int32)) (fun q15 hq15 => FR_bind (fr_m_lessens q15 (4507 : Int32) (402 : Int32)) (fun q17 hq17 => FR_bind (fr_m_wholes q17 (4505 : Int32) (16 : Int32)) (fun q19 hq19 => FR_bind (fr_m_tells q19 (4507 : Int32) (4505 : Int32)) (fun q21 hq21 => FR_bindn (fun q23 => FR_ite (FR_some (fx.trans (fx.trans (fx.trans (fx.trans (fx.trans (fx.trans (fx.trans (fx.trans hq4 hq7) ht10) hq11) ht14) hq15) hq17) hq19) hq21)) (FR_some (fx.trans (fx.trans (fx.trans (fx.trans (fx.trans (fx.trans (fx.trans (fx.trans hq4 hq7) ht10) hq11) ht14) hq15) hq17) hq19) hq21)))))))))))))) (FR_some hq4)))
theorem fr_m_best_B294 (v2 : Int32) (v5 : Int32) (v6 : Int32) (v7 : Int32) (v9 : Int32) (t : St) : FR [34, 35, 36, 37, 38, 39, 40, 41, 42, 44] [] (m_best_B294 v2 v5 v6 v7 v9 t) t (Sum.elim (fun (x : Int32 × St) => x.2) (fun (y : St) => y)) := by
  unfold m_best_B294
  exact FR_ite (FR_some fx.rfl) (FR_ite (FR_bind (fr_m_times t ((402 : Int32) + v9) (1000 : Int32)) (fun q4 hq4 => FR_nm (fun x6 _ => FR_some hq4))) (FR_nm (fun x3 _ => FR_some fx.rfl)))
theorem fr_m_best_L294 (v2 : Int32) (v5 : Int32) (v6 : Int32) (v7 : Int32) (v9 : Int32) (t : St) : FR [34, 35, 36, 37, 38, 39, 40, 41, 42, 44] [] (lp (fun x => m_best_B294 v2 v5 v6 v7 x.1 x.2) (v9, t)) t (fun (y : St) => y) := FR_lp (p := (fun (x : Int32 × St) => x.2)) (q := (fun (y : St) => y)) (fun x => fr_m_best_B294 v2 v5 v6 v7 x.1 x.2) (v9, t)
theorem fr_m_best_B78 (v1 : Int32) (v2 : Int32) (v5 : Int32) (v6 : Int32) (t : St) : FR [34, 35, 36, 37, 38, 39, 40, 41, 42, 44] [] (m_best_B78 v1 v2 v5 v6 t) t (Sum.elim (fun (x : Int32 × Int32 × St) => x.2.2) (fun (y : Int32 × St) => y.2)) := by
  unfold m_best_B78
  exact FR_ite (FR_some fx.rfl) (FR_gd (FR_gd (FR_ite (FR_gd (FR_nmS (fx_sA rfl) (fun t13 ht13 => FR_nm (fun x14 _ => FR_nm (fun x15 _ => FR_some ht13))))) (FR_nm (fun x11 _ => FR_some fx.rfl)))))
theorem fr_m_best_L78 (v1 : Int32) (v2 : Int32) (v5 : Int32) (v6 : Int32) (t : St) : FR [34, 35, 36, 37, 38, 39, 40, 41, 42, 44] [] (lp (fun x => m_best_B78 v1 v2 x.1 x.2.1 x.2.2) (v5, v6, t)) t (fun (y : Int32 × St) => y.2) := FR_lp (p := (fun (x : Int32 × Int32 × St) => x.2.2)) (q := (fun (y : Int32 × St) => y.2)) (fun x => fr_m_best_B78 v1 v2 x.1 x.2.1 x.2.2) (v5, v6, t)
theorem fr_m_best_J172 (t : St) (v1 : Int32) (v2 : Int32) (v5 : Int32) (v6 : Int32) (v7 : Int32) (w1 : Int32) (w2 : Int32) : FR [34, 35, 36, 37, 38, 39, 40, 41, 42, 44] [] (m_best_J172 t v1 v2 v5 v6 v7 w1 w2) t (Sum.elim (fun (x : Int32 × St) => x.2) (fun (y : St) => y)) := by
  unfold m_best_J172
  exact FR_bind (fr_m_puts t w1 w2) (fun q16 hq16 => FR_nm (fun x18 _ => FR_some hq16))
theorem fr_m_best_B132 (v1 : Int32) (v2 : Int32) (v5 : Int32) (v6 : Int32) (v7 : Int32) (t : St) : FR [34, 35, 36, 37, 38, 39, 40, 41, 42, 44] [] (m_best_B132 v1 v2 v5 v6 v7 t) t (Sum.elim (fun (x : Int32 × St) => x.2) (fun (y : St) => y)) := by
  unfold m_best_B132
  exact FR_ite (FR_some fx.rfl) (FR_gd (FR_bindn (fun q21 => FR_bindn (fun q23 => FR_ite (FR_wk fx.rfl (fr_m_best_J172 t v1 v2 v5 v6 v7 ((402 : Int32) + v7) (0 : Int32))) (FR_wk fx.rfl (fr_m_best_J172 t v1 v2 v5 v6 v7 ((402 : Int32) + v7) (1 : Int32)))))))
theorem fr_m_best_L132 (v1 : Int32) (v2 : Int32) (v5 : Int32) (v6 : Int32) (v7 : Int32) (t : St) : FR [34, 35, 36, 37, 38, 39, 40, 41, 42, 44] [] (lp (fun x => m_best_B132 v1 v2 v5 v6 x.1 x.2) (v7, t)) t (fun (y : St) => y) := FR_lp (p := (fun (x : Int32 × St) => x.2)) (q := (fun (y : St) => y)) (fun x => fr_m_best_B132 v1 v2 v5 v6 x.1 x.2) (v7, t)
theorem fr_m_best_B211 (v2 : Int32) (v5 : Int32) (v6 : Int32) (v7 : Int32) (v8 : Int32) (v9 : Int32) (t : St) : FR [34, 35, 36, 37, 38, 39, 40, 41, 42, 44] [] (m_best_B211 v2 v5 v6 v7 v8 v9 t) t (Sum.elim (fun (x : Int32 × St) => x.2) (fun (y : St) => y)) := by
  unfold m_best_B211
  exact FR_ite (FR_some fx.rfl) (FR_ite (FR_bind (fr_m_takes t (4502 : Int32) ((402 : Int32) + (v9 &&& (((1 : Int32) <<< (v7 &&& 31)) ^^^ (-1 : Int32))))) (fun q30 hq30 => FR_bind (fr_m_times q30 (4502 : Int32) ((1000 : Int32) - v8)) (fun q32 hq32 => FR_bind (fr_m_times q32 ((402 : Int32) + v9) v8) (fun q34 hq34 => FR_bind (fr_m_adds q34 ((402 : Int32) + v9) (4502 : Int32)) (fun q36 hq36 => FR_nm (fun x38 _ => FR_some (fx.trans (fx.trans (fx.trans hq30 hq32) hq34) hq36))))))) (FR_nm (fun x29 _ => FR_some fx.rfl)))
theorem fr_m_best_L211 (v2 : Int32) (v5 : Int32) (v6 : Int32) (v7 : Int32) (v8 : Int32) (v9 : Int32) (t : St) : FR [34, 35, 36, 37, 38, 39, 40, 41, 42, 44] [] (lp (fun x => m_best_B211 v2 v5 v6 v7 v8 x.1 x.2) (v9, t)) t (fun (y : St) => y) := FR_lp (p := (fun (x : Int32 × St) => x.2)) (q := (fun (y : St) => y)) (fun x => fr_m_best_B211 v2 v5 v6 v7 v8 x.1 x.2) (v9, t)
theorem fr_m_best_B184 (v2 : Int32) (v5 : Int32) (v6 : Int32) (v7 : Int32) (t : St) : FR [34, 35, 36, 37, 38, 39, 40, 41, 42, 44] [] (m_best_B184 v2 v5 v6 v7 t) t (Sum.elim (fun (x : Int32 × St) => x.2) (fun (y : St) => y)) := by
  unfold m_best_B184
  exact FR_ite (FR_some fx.rfl) (FR_gd (FR_gd (FR_nm (fun x62 _ => FR_nm (fun x63 _ => FR_bind (fr_m_best_L211 v2 v5 v6 v7 x62 x63 t) (fun y64 hm65 => FR_bind (fr_m_best_L294 v2 v5 v6 v7 (0 : Int32) y64) (fun y67 hm68 => FR_nm (fun x70 _ => FR_some (fx.trans hm65 hm68)))))))))
theorem fr_m_best_L184 (v2 : Int32) (v5 : Int32) (v6 : Int32) (v7 : Int32) (t : St) : FR [34, 35, 36, 37, 38, 39, 40, 41, 42, 44] [] (lp (fun x => m_best_B184 v2 v5 v6 x.1 x.2) (v7, t)) t (fun (y : St) => y) := FR_lp (p := (fun (x : Int32 × St) => x.2)) (q := (fun (y : St) => y)) (fun x => fr_m_best_B184 v2 v5 v6 x.1 x.2) (v7, t)
theorem fr_m_best (t : St) (a1 : Int32) (a2 : Int32) : FR [34, 35, 36, 37, 38, 39, 40, 41, 42, 44] [] (m_best t a1 a2) t (fun (a : Int32 × St) => a.2) := by
  unfold m_best
  exact FR_bindn (fun q71 => FR_bindn (fun q74 => FR_ite (FR_gd (FR_gd (FR_bindn (fun q79 => FR_ite (FR_gd (FR_bind (fr_m_diagrams t (gA t 16 (a1).toNatClampNeg)) (fun q83 hq83 => FR_ite (FR_bind (fr_m_best_L78 a1 a2 (0 : Int32) (0 : Int32) q83) (fun y86 hm87 => FR_nm (fun x89 _ => FR_bind (fr_m_best_L132 a1 a2 y86.1 x89 (0 : Int32) y86.2) (fun y90 hm91 => FR_bind (fr_m_best_L184 a2 y86.1 x89 (0 : Int32) y90) (fun y93 hm94 => FR_bindn (fun y96 => FR_bind (fr_m_wholes y93 (4505 : Int32) y86.1) (fun q99 hq99 => FR_bind (fr_m_takes q99 (4507 : Int32) ((402 : Int32) + y96)) (fun q101 hq101 => FR_bind (fr_m_tells q101 (4507 : Int32) (4505 : Int32)) (fun q103 hq103 => FR_bindn (fun q105 => FR_some (fx.trans (fx.trans (fx.trans (fx.trans (fx.trans (fx.trans hq83 hm87) hm91) hm94) hq99) hq101) hq103))))))))))) (FR_some hq83)))) (FR_some fx.rfl))))) (FR_some fx.rfl)))
theorem fr_m_guard (t : St) (a1 : Int32) (a2 : Int32) : FR [45, 46, 47] [] (m_guard t a1 a2) t (fun (a : Int32 × St) => a.2) := by
  unfold m_guard
  exact FR_bindn (fun q1 => FR_ite (FR_some fx.rfl) (FR_bindn (fun q5 => FR_ite (FR_some fx.rfl) (FR_ite (FR_some fx.rfl) (FR_gd (FR_nmS (fx_sA rfl) (fun t11 ht11 => FR_gd (FR_nmS (fx_sA rfl) (fun t13 ht13 => FR_nmS (fx_sI rfl) (fun t14 ht14 => FR_some (fx.trans (fx.trans ht11 ht13) ht14)))))))))))
theorem fr_m_findFront_B9 (v1 : Int32) (v2 : Int32) (t : St) : FR [34, 43, 48, 49] [] (m_findFront_B9 v1 v2 t) t (Sum.elim (fun (x : Int32 × St) => x.2) (fun (y : St) => y)) := by
  unfold m_findFront_B9
  exact FR_ite (FR_some fx.rfl) (FR_bindn (fun q2 => FR_bind (fr_m_uses t q2) (fun q4 hq4 => FR_bind (fr_m_chances q4 ((402 : Int32) + v2)) (fun q6 hq6 => FR_nm (fun x8 _ => FR_some (fx.trans hq4 hq6))))))
theorem fr_m_findFront_L9 (v1 : Int32) (v2 : Int32) (t : St) : FR [34, 43, 48, 49] [] (lp (fun x => m_findFront_B9 v1 x.1 x.2) (v2, t)) t (fun (y : St) => y) := FR_lp (p := (fun (x : Int32 × St) => x.2)) (q := (fun (y : St) => y)) (fun x => fr_m_findFront_B9 v1 x.1 x.2) (v2, t)
theorem fr_m_findFront_J166 (t : St) (v1 : Int32) (v2 : Int32) (v4 : Int32) (w0 : Int32) : FR [34, 43, 48, 49] [] (m_findFront_J166 t v1 v2 v4 w0) t (Sum.elim (fun (x : Int32 × Int32 × St) => x.2.2) (fun (y : St) => y)) := by
  unfold m_findFront_J166
  exact FR_ite (FR_some fx.rfl) (FR_gd (FR_nmS (fx_sA rfl) (fun t30 ht30 => FR_nmS (fx_sI rfl) (fun t31 ht31 => FR_some (fx.trans ht30 ht31)))))
theorem fr_m_findFront_B47 (v1 : Int32) (v2 : Int32) (v3 : Int32) (t : St) : FR [34, 43, 48, 49] [] (m_findFront_B47 v1 v2 v3 t) t (Sum.elim (fun (x : Int32 × Int32 × St) => x.2.2) (fun (y : St) => y)) := by
  unfold m_findFront_B47
  exact FR_ite (FR_some fx.rfl) (FR_bindn (fun y33 => FR_ite (FR_wk fx.rfl (fr_m_findFront_J166 t v1 v2 y33 (0 : Int32))) (FR_wk fx.rfl (fr_m_findFront_J166 t v1 v2 y33 (1 : Int32)))))
theorem fr_m_findFront_L47 (v1 : Int32) (v2 : Int32) (v3 : Int32) (t : St) : FR [34, 43, 48, 49] [] (lp (fun x => m_findFront_B47 v1 x.1 x.2.1 x.2.2) (v2, v3, t)) t (fun (y : St) => y) := FR_lp (p := (fun (x : Int32 × Int32 × St) => x.2.2)) (q := (fun (y : St) => y)) (fun x => fr_m_findFront_B47 v1 x.1 x.2.1 x.2.2) (v2, v3, t)
theorem fr_m_findFront (t : St) : FR [34, 43, 48, 49] [] (m_findFront t) t (fun (a : St) => a) := by
  unfold m_findFront
  exact FR_nm (fun x37 _ => FR_bind (fr_m_findFront_L9 x37 (0 : Int32) t) (fun y38 hm39 => FR_nmS (fx_sI rfl) (fun t41 ht41 => FR_bind (fr_m_findFront_L47 x37 (-1 : Int32) (1 : Int32) t41) (fun y42 hm43 => FR_some (fx.trans (fx.trans hm39 ht41) hm43)))))
theorem fr_m_front (t : St) (a1 : Int32) : FR [34, 35, 36, 37, 38, 39, 40, 41, 42, 43, 48, 49] [] (m_front t a1) t (fun (a : Int32 × St) => a.2) := by
  unfold m_front
  exact FR_bind (fr_m_whyChance t a1 (1 : Int32)) (fun q1 hq1 => FR_ite (FR_bind (fr_m_findFront q1.2) (fun q4 hq4 => FR_some (fx.trans hq1 hq4))) (FR_some hq1))
theorem fr_m_frontAt_J20 (t : St) (v2 : Int32) (v3 : Int32) (w1 : Int32) (w2 : Int32) : FR [34, 35, 36, 37, 38, 39, 40, 41, 42, 43, 48, 49] [] (m_frontAt_J20 t v2 v3 w1 w2) t (fun (a : Int32 × St) => a.2) := by
  unfold m_frontAt_J20
  exact FR_bind (fr_m_whyChance t w1 w2) (fun q1 hq1 => FR_ite (FR_bind (fr_m_findFront q1.2) (fun q4 hq4 => FR_ite (FR_bind (fr_m_wholes q4 (4505 : Int32) (16 : Int32)) (fun q7 hq7 => FR_gd (FR_bind (fr_m_takes q7 (4507 : Int32) ((402 : Int32) + (gA q7 49 (v2).toNatClampNeg))) (fun q10 hq10 => FR_bind (fr_m_tells q10 (4507 : Int32) (4505 : Int32)) (fun q12 hq12 => FR_ite (FR_gd (FR_some (fx.trans (fx.trans (fx.trans (fx.trans hq1 hq4) hq7) hq10) hq12))) (FR_gd (FR_bindn (fun q16 => FR_some (fx.trans (fx.trans (fx.trans (fx.trans hq1 hq4) hq7) hq10) hq12))))))))) (FR_some (fx.trans hq1 hq4)))) (FR_some hq1))
theorem fr_m_frontAt_J19 (t : St) (v2 : Int32) (v3 : Int32) (w1 : Int32) : FR [34, 35, 36, 37, 38, 39, 40, 41, 42, 43, 48, 49] [] (m_frontAt_J19 t v2 v3 w1) t (fun (a : Int32 × St) => a.2) := by
  unfold m_frontAt_J19
  exact FR_wk fx.rfl (fr_m_frontAt_J20 t v2 v3 w1 (0 : Int32))
theorem fr_m_frontAt (t : St) (a1 : Int32) (a2 : Int32) (a3 : Int32) : FR [34, 35, 36, 37, 38, 39, 40, 41, 42, 43, 48, 49] [] (m_frontAt t a1 a2 a3) t (fun (a : Int32 × St) => a.2) := by
  unfold m_frontAt
  exact FR_ite (FR_wk fx.rfl (fr_m_frontAt_J19 t a2 a3 a1)) (FR_bindn (fun q20 => FR_ite (FR_wk fx.rfl (fr_m_frontAt_J19 t a2 a3 a1)) (FR_wk fx.rfl (fr_m_frontAt_J20 t a2 a3 a1 (1 : Int32)))))
theorem fr_m_patrol_B14 (v1 : Int32) (t : St) : FR [50, 51] [] (m_patrol_B14 v1 t) t (Sum.elim (fun (x : Int32 × St) => x.2) (fun (y : St) => y)) := by
  unfold m_patrol_B14
  exact FR_ite (FR_some fx.rfl) (FR_gd (FR_nmS (fx_sA rfl) (fun t3 ht3 => FR_nm (fun x4 _ => FR_some ht3))))
theorem fr_m_patrol_L14 (v1 : Int32) (t : St) : FR [50, 51] [] (lp (fun x => m_patrol_B14 x.1 x.2) (v1, t)) t (fun (y : St) => y) := FR_lp (p := (fun (x : Int32 × St) => x.2)) (q := (fun (y : St) => y)) (fun x => fr_m_patrol_B14 x.1 x.2) (v1, t)
theorem fr_m_patrol (t : St) : FR [50, 51] [] (m_patrol t) t (fun (a : Int32 × St) => a.2) := by
  unfold m_patrol
  exact FR_ite (FR_some fx.rfl) (FR_bind (fr_m_patrol_L14 (0 : Int32) t) (fun y6 hm7 => FR_nmS (fx_sI rfl) (fun t9 ht9 => FR_some (fx.trans hm7 ht9))))
theorem fr_m_catches (t : St) (a1 : Int32) (a2 : Int32) (a3 : Int32) : FR [51] [] (m_catches t a1 a2 a3) t (fun (a : Int32 × St) => a.2) := by
  unfold m_catches
  exact FR_bindn (fun q1 => FR_ite (FR_some fx.rfl) (FR_bindn (fun q5 => FR_ite (FR_some fx.rfl) (FR_bindn (fun q9 => FR_ite (FR_some fx.rfl) (FR_gd (FR_nm (fun x14 _ => FR_gd (FR_nmS (fx_sA rfl) (fun t16 ht16 => FR_some ht16))))))))))
theorem fr_m_setsCell_J43 (t : St) (w1 : Int32) (w2 : Int32) : FR [34, 52] [] (m_setsCell_J43 t w1 w2) t (fun (a : St) => a) := by
  unfold m_setsCell_J43
  exact FR_gd (FR_nmS (fx_sA rfl) (fun t2 ht2 => FR_some ht2))
theorem fr_m_setsCell_J21 (t : St) (v1 : Int32) (v2 : Int32) (v3 : Int32) (w1 : Int32) (w2 : Int32) : FR [34, 52] [] (m_setsCell_J21 t v1 v2 v3 w1 w2) t (fun (a : St) => a) := by
  unfold m_setsCell_J21
  exact FR_bind (fr_m_puts t w1 w2) (fun q3 hq3 => FR_bindn (fun q5 => FR_ite (FR_wk hq3 (fr_m_setsCell_J43 q3 q5 (0 : Int32))) (FR_wk hq3 (fr_m_setsCell_J43 q3 q5 (1 : Int32)))))
theorem fr_m_setsCell (t : St) (a1 : Int32) (a2 : Int32) (a3 : Int32) : FR [34, 52] [] (m_setsCell t a1 a2 a3) t (fun (a : St) => a) := by
  unfold m_setsCell
  exact FR_bindn (fun q8 => FR_ite (FR_wk fx.rfl (fr_m_setsCell_J21 t a1 a2 a3 ((402 : Int32) + q8) a3)) (FR_wk fx.rfl (fr_m_setsCell_J21 t a1 a2 a3 ((402 : Int32) + q8) (-a3))))
theorem fr_m_turnsCell_J206 (t : St) (w1 : Int32) (w2 : Int32) : FR [34, 52] [] (m_turnsCell_J206 t w1 w2) t (fun (a : St) => a) := by
  unfold m_turnsCell_J206
  exact FR_gd (FR_nmS (fx_sA rfl) (fun t2 ht2 => FR_some ht2))
theorem fr_m_turnsCell_J205 (t : St) (w1 : Int32) : FR [34, 52] [] (m_turnsCell_J205 t w1) t (fun (a : St) => a) := by
  unfold m_turnsCell_J205
  exact FR_wk fx.rfl (fr_m_turnsCell_J206 t w1 (0 : Int32))
theorem fr_m_turnsCell_J156 (t : St) (v1 : Int32) (v8 : Int32) : FR [34, 52] [] (m_turnsCell_J156 t v1 v8) t (fun (a : St) => a) := by
  unfold m_turnsCell_J156
  exact FR_bind (fr_m_divides t (701 : Int32) (700 : Int32) (703 : Int32)) (fun q3 hq3 => FR_bind (fr_m_takes q3 ((402 : Int32) + v1) (703 : Int32)) (fun q5 hq5 => FR_ite (FR_wk (fx.trans hq3 hq5) (fr_m_turnsCell_J205 q5 v1)) (FR_bindn (fun q8 => FR_ite (FR_wk (fx.trans hq3 hq5) (fr_m_turnsCell_J206 q5 v1 (1 : Int32))) (FR_wk (fx.trans hq3 hq5) (fr_m_turnsCell_J205 q5 v1))))))
theorem fr_m_turnsCell_J80 (t : St) (v1 : Int32) (v6 : Int32) (w0 : Int32) : FR [34, 52] [] (m_turnsCell_J80 t v1 v6 w0) t (fun (a : St) => a) := by
  unfold m_turnsCell_J80
  exact FR_ite (FR_bind (fr_m_adds t (701 : Int32) (702 : Int32)) (fun q22 hq22 => FR_wk hq22 (fr_m_turnsCell_J156 q22 v1 v6))) (FR_bindn (fun q13 => FR_ite (FR_bind (fr_m_lessens t (702 : Int32) (701 : Int32)) (fun q16 hq16 => FR_bind (fr_m_takes q16 (701 : Int32) (702 : Int32)) (fun q18 hq18 => FR_wk (fx.trans hq16 hq18) (fr_m_turnsCell_J156 q18 v1 w0)))) (FR_bind (fr_m_lessens t (701 : Int32) (702 : Int32)) (fun q20 hq20 => FR_wk hq20 (fr_m_turnsCell_J156 q20 v1 v6)))))
theorem fr_m_turnsCell_J56 (t : St) (v1 : Int32) (v4 : Int32) (v5 : Int32) (w0 : Int32) : FR [34, 52] [] (m_turnsCell_J56 t v1 v4 v5 w0) t (fun (a : St) => a) := by
  unfold m_turnsCell_J56
  exact FR_gd (FR_gd (FR_ite (FR_wk fx.rfl (fr_m_turnsCell_J80 t v1 w0 (1 : Int32))) (FR_wk fx.rfl (fr_m_turnsCell_J80 t v1 w0 (0 : Int32)))))
theorem fr_m_turnsCell (t : St) (a1 : Int32) (a2 : Int32) (a3 : Int32) (a4 : Int32) (a5 : Int32) : FR [34, 52] [] (m_turnsCell t a1 a2 a3 a4 a5) t (fun (a : St) => a) := by
  unfold m_turnsCell
  exact FR_bind (fr_m_multiplies t (701 : Int32) ((402 : Int32) + a2) ((402 : Int32) + a3)) (fun q27 hq27 => FR_bind (fr_m_multiplies q27 (702 : Int32) ((402 : Int32) + a4) ((402 : Int32) + a5)) (fun q29 hq29 => FR_gd (FR_gd (FR_ite (FR_wk (fx.trans hq27 hq29) (fr_m_turnsCell_J56 q29 a1 a4 a5 (0 : Int32))) (FR_wk (fx.trans hq27 hq29) (fr_m_turnsCell_J56 q29 a1 a4 a5 (1 : Int32)))))))
theorem fr_m_turns_B38 (v1 : Int32) (v2 : Int32) (v3 : Int32) (v4 : Int32) (v5 : Int32) (v6 : Int32) (v7 : Int32) (t : St) : FR [34, 52, 53] [] (m_turns_B38 v1 v2 v3 v4 v5 v6 v7 t) t (Sum.elim (fun (x : Int32 × St) => x.2) (fun (y : St) => y)) := by
  unfold m_turns_B38
  exact FR_ite (FR_some fx.rfl) (FR_ite (FR_nm (fun x3 _ => FR_some fx.rfl)) (FR_bindn (fun q4 => FR_bindn (fun q6 => FR_bindn (fun q8 => FR_bind (fr_m_turnsCell t q4 q6 v4 v6 q8) (fun q10 hq10 => FR_nm (fun x12 _ => FR_some hq10)))))))
theorem fr_m_turns_L38 (v1 : Int32) (v2 : Int32) (v3 : Int32) (v4 : Int32) (v5 : Int32) (v6 : Int32) (v7 : Int32) (t : St) : FR [34, 52, 53] [] (lp (fun x => m_turns_B38 v1 v2 v3 v4 v5 v6 x.1 x.2) (v7, t)) t (fun (y : St) => y) := FR_lp (p := (fun (x : Int32 × St) => x.2)) (q := (fun (y : St) => y)) (fun x => fr_m_turns_B38 v1 v2 v3 v4 v5 v6 x.1 x.2) (v7, t)
theorem fr_m_turns_B96 (v1 : Int32) (v2 : Int32) (v4 : Int32) (v5 : Int32) (t : St) : FR [34, 52, 53] [] (m_turns_B96 v1 v2 v4 v5 t) t (Sum.elim (fun (x : Int32 × St) => x.2) (fun (y : St) => y)) := by
  unfold m_turns_B96
  exact FR_ite (FR_some fx.rfl) (FR_ite (FR_nm (fun x15 _ => FR_some fx.rfl)) (FR_bindn (fun q16 => FR_bind (fr_m_puts t ((402 : Int32) + q16) (0 : Int32)) (fun q18 hq18 => FR_bindn (fun q20 => FR_gd (FR_nmS (fx_sA rfl) (fun t23 ht23 => FR_nm (fun x24 _ => FR_some (fx.trans hq18 ht23)))))))))
theorem fr_m_turns_L96 (v1 : Int32) (v2 : Int32) (v4 : Int32) (v5 : Int32) (t : St) : FR [34, 52, 53] [] (lp (fun x => m_turns_B96 v1 v2 v4 x.1 x.2) (v5, t)) t (fun (y : St) => y) := FR_lp (p := (fun (x : Int32 × St) => x.2)) (q := (fun (y : St) => y)) (fun x => fr_m_turns_B96 v1 v2 v4 x.1 x.2) (v5, t)
theorem fr_m_turns_B11 (v1 : Int32) (v2 : Int32) (v3 : Int32) (v4 : Int32) (v5 : Int32) (t : St) : FR [34, 52, 53] [] (m_turns_B11 v1 v2 v3 v4 v5 t) t (Sum.elim (fun (x : Int32 × St) => x.2) (fun (y : St) => y)) := by
  unfold m_turns_B11
  exact FR_ite (FR_some fx.rfl) (FR_ite (FR_nm (fun x27 _ => FR_some fx.rfl)) (FR_bindn (fun q28 => FR_bind (fr_m_turns_L38 v1 v2 v3 v4 v5 q28 (0 : Int32) t) (fun y30 hm31 => FR_nm (fun x33 _ => FR_some hm31)))))
theorem fr_m_turns_L11 (v1 : Int32) (v2 : Int32) (v3 : Int32) (v4 : Int32) (v5 : Int32) (t : St) : FR [34, 52, 53] [] (lp (fun x => m_turns_B11 v1 v2 v3 v4 x.1 x.2) (v5, t)) t (fun (y : St) => y) := FR_lp (p := (fun (x : Int32 × St) => x.2)) (q := (fun (y : St) => y)) (fun x => fr_m_turns_B11 v1 v2 v3 v4 x.1 x.2) (v5, t)
theorem fr_m_turns (t : St) (a1 : Int32) (a2 : Int32) (a3 : Int32) : FR [34, 52, 53] [] (m_turns t a1 a2 a3) t (fun (a : St) => a) := by
  unfold m_turns
  exact FR_bindn (fun q34 => FR_bind (fr_m_turns_L11 a1 a2 a3 q34 (0 : Int32) t) (fun y36 hm37 => FR_bind (fr_m_turns_L96 a1 a2 q34 (0 : Int32) y36) (fun y39 hm40 => FR_bind (fr_m_takes y39 (700 : Int32) ((402 : Int32) + q34)) (fun q42 hq42 => FR_gd (FR_nmS (fx_sA rfl) (fun t45 ht45 => FR_some (fx.trans (fx.trans (fx.trans hm37 hm40) hq42) ht45)))))))
theorem fr_m_rowOf_J143 (t : St) (v1 : Int32) (v2 : Int32) (v4 : Int32) : FR [34] [] (m_rowOf_J143 t v1 v2 v4) t (Sum.elim (fun (x : Int32 × Int32 × St) => x.2.2) (fun (y : Int32 × St) => y.2)) := by
  unfold m_rowOf_J143
  exact FR_nm (fun x1 _ => FR_some fx.rfl)
theorem fr_m_rowOf_J117 (t : St) (v1 : Int32) (v2 : Int32) (v3 : Int32) (v4 : Int32) (v6 : Int32) : FR [34] [] (m_rowOf_J117 t v1 v2 v3 v4 v6) t (Sum.elim (fun (x : Int32 × Int32 × St) => x.2.2) (fun (y : Int32 × St) => y.2)) := by
  unfold m_rowOf_J117
  exact FR_ite (FR_wk fx.rfl (fr_m_rowOf_J143 t v1 v2 v4)) (FR_ite (FR_gd (FR_gd (FR_ite (FR_nm (fun x8 _ => FR_some fx.rfl)) (FR_wk fx.rfl (fr_m_rowOf_J143 t v1 v2 v4))))) (FR_nm (fun x4 _ => FR_some fx.rfl)))
theorem fr_m_rowOf_B5 (v1 : Int32) (v2 : Int32) (v3 : Int32) (v4 : Int32) (t : St) : FR [34] [] (m_rowOf_B5 v1 v2 v3 v4 t) t (Sum.elim (fun (x : Int32 × Int32 × St) => x.2.2) (fun (y : Int32 × St) => y.2)) := by
  unfold m_rowOf_B5
  exact FR_ite (FR_some fx.rfl) (FR_bindn (fun q10 => FR_gd (FR_ite (FR_bindn (fun q15 => FR_ite (FR_ite (FR_wk fx.rfl (fr_m_rowOf_J117 t v1 v2 v3 v4 (-1 : Int32))) (FR_bindn (fun q21 => FR_bindn (fun q23 => FR_bind (fr_m_multiplies t (701 : Int32) ((402 : Int32) + q21) ((402 : Int32) + q23)) (fun q25 hq25 => FR_bindn (fun q27 => FR_bind (fr_m_multiplies q25 (702 : Int32) ((402 : Int32) + q27) ((402 : Int32) + q10)) (fun q29 hq29 => FR_bindn (fun q31 => FR_wk (fx.trans hq25 hq29) (fr_m_rowOf_J117 q29 v1 v2 v3 v4 q31))))))))) (FR_nm (fun x19 _ => FR_some fx.rfl)))) (FR_nm (fun x14 _ => FR_some fx.rfl)))))
theorem fr_m_rowOf_L5 (v1 : Int32) (v2 : Int32) (v3 : Int32) (v4 : Int32) (t : St) : FR [34] [] (lp (fun x => m_rowOf_B5 v1 v2 x.1 x.2.1 x.2.2) (v3, v4, t)) t (fun (y : Int32 × St) => y.2) := FR_lp (p := (fun (x : Int32 × Int32 × St) => x.2.2)) (q := (fun (y : Int32 × St) => y.2)) (fun x => fr_m_rowOf_B5 v1 v2 x.1 x.2.1 x.2.2) (v3, v4, t)
theorem fr_m_rowOf (t : St) (a1 : Int32) (a2 : Int32) : FR [34] [] (m_rowOf t a1 a2) t (fun (a : Int32 × St) => a.2) := by
  unfold m_rowOf
  exact FR_bind (fr_m_rowOf_L5 a1 a2 (-1 : Int32) (0 : Int32) t) (fun y33 hm34 => FR_some hm34)
theorem fr_m_plays_J217 (t : St) (v1 : Int32) (v2 : Int32) (v4 : Int32) (w0 : Int32) : FR [34, 52, 53] [] (m_plays_J217 t v1 v2 v4 w0) t (Sum.elim (fun (x : Int32 × St) => x.2) (fun (y : St) => y)) := by
  unfold m_plays_J217
  exact FR_ite (FR_some fx.rfl) (FR_bind (fr_m_rowOf t v4 v2) (fun q8 hq8 => FR_bind (fr_m_turns q8.2 q8.1 v4 v1) (fun q10 hq10 => FR_some (fx.trans hq8 hq10))))
theorem fr_m_plays_B169 (v1 : Int32) (v2 : Int32) (v3 : Int32) (t : St) : FR [34, 52, 53] [] (m_plays_B169 v1 v2 v3 t) t (Sum.elim (fun (x : Int32 × St) => x.2) (fun (y : St) => y)) := by
  unfold m_plays_B169
  exact FR_ite (FR_some fx.rfl) (FR_bindn (fun y13 => FR_ite (FR_wk fx.rfl (fr_m_plays_J217 t v1 v2 y13 (0 : Int32))) (FR_wk fx.rfl (fr_m_plays_J217 t v1 v2 y13 (1 : Int32)))))
theorem fr_m_plays_L169 (v1 : Int32) (v2 : Int32) (v3 : Int32) (t : St) : FR [34, 52, 53] [] (lp (fun x => m_plays_B169 v1 v2 x.1 x.2) (v3, t)) t (fun (y : St) => y) := FR_lp (p := (fun (x : Int32 × St) => x.2)) (q := (fun (y : St) => y)) (fun x => fr_m_plays_B169 v1 v2 x.1 x.2) (v3, t)
theorem fr_m_plays_J124 (t : St) (v1 : Int32) (v2 : Int32) (v3 : Int32) (v4 : Int32) (w1 : Int32) (w2 : Int32) (w3 : Int32) : FR [34, 52, 53] [] (m_plays_J124 t v1 v2 v3 v4 w1 w2 w3) t (Sum.elim (fun (x : Int32 × St) => x.2) (fun (y : St) => y)) := by
  unfold m_plays_J124
  exact FR_bind (fr_m_setsCell t w1 w2 w3) (fun q17 hq17 => FR_nm (fun x19 _ => FR_some hq17))
theorem fr_m_plays_J119 (t : St) (v1 : Int32) (v2 : Int32) (v3 : Int32) (v4 : Int32) (w1 : Int32) (w2 : Int32) : FR [34, 52, 53] [] (m_plays_J119 t v1 v2 v3 v4 w1 w2) t (Sum.elim (fun (x : Int32 × St) => x.2) (fun (y : St) => y)) := by
  unfold m_plays_J119
  exact FR_wk fx.rfl (fr_m_plays_J124 t v1 v2 v3 v4 w1 w2 (1 : Int32))
theorem fr_m_plays_J48 (t : St) (v1 : Int32) (v2 : Int32) (v3 : Int32) (v4 : Int32) (w0 : Int32) : FR [34, 52, 53] [] (m_plays_J48 t v1 v2 v3 v4 w0) t (Sum.elim (fun (x : Int32 × St) => x.2) (fun (y : St) => y)) := by
  unfold m_plays_J48
  exact FR_ite (FR_ite (FR_ite (FR_wk fx.rfl (fr_m_plays_J119 t v1 v2 v3 v4 v3 v4)) (FR_ite (FR_wk fx.rfl (fr_m_plays_J119 t v1 v2 v3 v4 v3 v4)) (FR_wk fx.rfl (fr_m_plays_J124 t v1 v2 v3 v4 v3 v4 (0 : Int32))))) (FR_gd (FR_bindn (fun q25 => FR_wk fx.rfl (fr_m_plays_J124 t v1 v2 v3 v4 v3 v4 (q25 + (1 : Int32))))))) (FR_ite (FR_wk fx.rfl (fr_m_plays_J124 t v1 v2 v3 v4 v3 v4 (0 : Int32))) (FR_wk fx.rfl (fr_m_plays_J124 t v1 v2 v3 v4 v3 v4 (-1 : Int32))))
theorem fr_m_plays_B29 (v1 : Int32) (v2 : Int32) (v3 : Int32) (v4 : Int32) (t : St) : FR [34, 52, 53] [] (m_plays_B29 v1 v2 v3 v4 t) t (Sum.elim (fun (x : Int32 × St) => x.2) (fun (y : St) => y)) := by
  unfold m_plays_B29
  exact FR_ite (FR_some fx.rfl) (FR_ite (FR_wk fx.rfl (fr_m_plays_J48 t v1 v2 v3 v4 (1 : Int32))) (FR_wk fx.rfl (fr_m_plays_J48 t v1 v2 v3 v4 (0 : Int32))))
theorem fr_m_plays_L29 (v1 : Int32) (v2 : Int32) (v3 : Int32) (v4 : Int32) (t : St) : FR [34, 52, 53] [] (lp (fun x => m_plays_B29 v1 v2 v3 x.1 x.2) (v4, t)) t (fun (y : St) => y) := FR_lp (p := (fun (x : Int32 × St) => x.2)) (q := (fun (y : St) => y)) (fun x => fr_m_plays_B29 v1 v2 v3 x.1 x.2) (v4, t)
theorem fr_m_plays_B18 (v1 : Int32) (v2 : Int32) (v3 : Int32) (t : St) : FR [34, 52, 53] [] (m_plays_B18 v1 v2 v3 t) t (Sum.elim (fun (x : Int32 × St) => x.2) (fun (y : St) => y)) := by
  unfold m_plays_B18
  exact FR_ite (FR_some fx.rfl) (FR_bind (fr_m_plays_L29 v1 v2 v3 (0 : Int32) t) (fun y31 hm32 => FR_ite (FR_nm (fun x35 _ => FR_some hm32)) (FR_gd (FR_nmS (fx_sA rfl) (fun t37 ht37 => FR_nm (fun x38 _ => FR_some (fx.trans hm32 ht37)))))))
theorem fr_m_plays_L18 (v1 : Int32) (v2 : Int32) (v3 : Int32) (t : St) : FR [34, 52, 53] [] (lp (fun x => m_plays_B18 v1 v2 x.1 x.2) (v3, t)) t (fun (y : St) => y) := FR_lp (p := (fun (x : Int32 × St) => x.2)) (q := (fun (y : St) => y)) (fun x => fr_m_plays_B18 v1 v2 x.1 x.2) (v3, t)
theorem fr_m_plays (t : St) : FR [34, 52, 53] [] (m_plays t) t (fun (a : St) => a) := by
  unfold m_plays
  exact FR_nm (fun x39 _ => FR_nm (fun x40 _ => FR_bind (fr_m_plays_L18 x39 x40 (0 : Int32) t) (fun y41 hm42 => FR_bind (fr_m_puts y41 (700 : Int32) (1 : Int32)) (fun q44 hq44 => FR_bind (fr_m_plays_L169 x39 x40 (1 : Int32) q44) (fun y46 hm47 => FR_bind (fr_m_takes y46 (4507 : Int32) (700 : Int32)) (fun q49 hq49 => FR_bindn (fun q51 => FR_bind (fr_m_lessens q49 (4507 : Int32) ((402 : Int32) + q51)) (fun q53 hq53 => FR_bindn (fun q55 => FR_bind (fr_m_takes q53 (4505 : Int32) ((402 : Int32) + q55)) (fun q57 hq57 => FR_bind (fr_m_tells q57 (4507 : Int32) (4505 : Int32)) (fun q59 hq59 => FR_some (fx.trans (fx.trans (fx.trans (fx.trans (fx.trans (fx.trans hm42 hq44) hm47) hq49) hq53) hq57) hq59))))))))))))
theorem fr_m_game (t : St) (a1 : Int32) : FR [18, 28, 29, 30, 31, 34, 52, 53] [] (m_game t a1) t (fun (a : Int32 × St) => a.2) := by
  unfold m_game
  exact FR_bindn (fun q1 => FR_ite (FR_ite (FR_some fx.rfl) (FR_gd (FR_bind (fr_m_findWays t (gA t 16 (a1).toNatClampNeg)) (fun q6 hq6 => FR_ite (FR_some hq6) (FR_ite (FR_bind (fr_m_plays q6.2) (fun q11 hq11 => FR_some (fx.trans hq6 hq11))) (FR_some hq6)))))) (FR_some fx.rfl))
theorem fr_m_insider (t : St) (a1 : Int32) : FR [54, 55] [] (m_insider t a1) t (fun (a : Int32 × St) => a.2) := by
  unfold m_insider
  exact FR_bindn (fun q1 => FR_ite (FR_some fx.rfl) (FR_ite (FR_some fx.rfl) (FR_gd (FR_nmS (fx_sA rfl) (fun t7 ht7 => FR_nmS (fx_sI rfl) (fun t8 ht8 => FR_some (fx.trans ht7 ht8)))))))
theorem fr_m_worst_J28 (t : St) (v2 : Int32) (v3 : Int32) (w1 : Int32) (w2 : Int32) : FR [18, 28, 29, 30, 31] [] (m_worst_J28 t v2 v3 w1 w2) t (fun (a : Int32 × St) => a.2) := by
  unfold m_worst_J28
  exact FR_bind (fr_m_whyWays t w1 w2) (fun q19 hq19 => FR_ite (FR_bindn (fun y22 => FR_ite (FR_bindn (fun q26 => FR_bindn (fun q28 => FR_some hq19))) (FR_some hq19))) (FR_some hq19))
theorem fr_m_worst_J27 (t : St) (v2 : Int32) (v3 : Int32) (w1 : Int32) : FR [18, 28, 29, 30, 31] [] (m_worst_J27 t v2 v3 w1) t (fun (a : Int32 × St) => a.2) := by
  unfold m_worst_J27
  exact FR_wk fx.rfl (fr_m_worst_J28 t v2 v3 w1 (0 : Int32))
theorem fr_m_worst (t : St) (a1 : Int32) (a2 : Int32) (a3 : Int32) : FR [18, 28, 29, 30, 31] [] (m_worst t a1 a2 a3) t (fun (a : Int32 × St) => a.2) := by
  unfold m_worst
  exact FR_bindn (fun q30 => FR_ite (FR_wk fx.rfl (fr_m_worst_J27 t a2 a3 a1)) (FR_bindn (fun q34 => FR_ite (FR_wk fx.rfl (fr_m_worst_J27 t a2 a3 a1)) (FR_wk fx.rfl (fr_m_worst_J28 t a2 a3 a1 (1 : Int32))))))
theorem fr_m_may (t : St) (a1 : Int32) (a2 : Int32) (a3 : Int32) : FR [18, 28, 29, 30, 31] [] (m_may t a1 a2 a3) t (fun (a : Int32 × St) => a.2) := by
  unfold m_may
  exact FR_bindn (fun q1 => FR_bind (fr_m_whyWays t a1 q1) (fun q4 hq4 => FR_ite (FR_bindn (fun q7 => FR_some hq4)) (FR_some hq4)))
theorem fr_m_ask (t : St) (a1 : Int32) (a2 : Int32) (a3 : Int32) : FR [18, 28, 29, 30, 31] [] (m_ask t a1 a2 a3) t (fun (a : Int32 × St) => a.2) := by
  unfold m_ask
  exact FR_bindn (fun q11 => FR_bind (fr_m_whyWays t a1 q11) (fun q14 hq14 => FR_ite (FR_bindn (fun q17 => FR_bindn (fun y19 => FR_ite (FR_some hq14) (FR_some hq14)))) (FR_some hq14)))
theorem fr_m_event_J30 (t : St) (v1 : Int32) (v2 : Int32) (w0 : Int32) (w1 : Int32) : FR [56, 57, 58] [] (m_event_J30 t v1 v2 w0 w1) t (fun (a : Int32 × St) => a.2) := by
  unfold m_event_J30
  exact FR_bindn (fun q1 => FR_ite (FR_some fx.rfl) (FR_ite (FR_some fx.rfl) (FR_gd (FR_nmS (fx_sA rfl) (fun t7 ht7 => FR_gd (FR_nmS (fx_sA rfl) (fun t9 ht9 => FR_nmS (fx_sI rfl) (fun t10 ht10 => FR_some (fx.trans (fx.trans ht7 ht9) ht10)))))))))
theorem fr_m_event (t : St) (a1 : Int32) (a2 : Int32) : FR [56, 57, 58] [] (m_event t a1 a2) t (fun (a : Int32 × St) => a.2) := by
  unfold m_event
  exact FR_bindn (fun q11 => FR_ite (FR_some fx.rfl) (FR_ite (FR_wk fx.rfl (fr_m_event_J30 t a1 a2 a2 (0 : Int32))) (FR_gd (FR_wk fx.rfl (fr_m_event_J30 t a1 a2 a2 (gA t 58 (((gI t 56) - (1 : Int32))).toNatClampNeg))))))
theorem fr_m_rest (t : St) : FR [56] [] (m_rest t) t (fun (a : Int32 × St) => a.2) := by
  unfold m_rest
  exact FR_nm (fun x1 _ => FR_nmS (fx_sI rfl) (fun t2 ht2 => FR_some ht2))
theorem fr_m_reachedOf_J183 (t : St) (v1 : Int32) (v2 : Int32) (v5 : Int32) (v6 : Int32) (w0 : Int32) : FR [33] [] (m_reachedOf_J183 t v1 v2 v5 v6 w0) t (Sum.elim (fun (x : Int32 × Int32 × Int32 × St) => x.2.2.2) (fun (y : Int32 × St) => y.2)) := by
  unfold m_reachedOf_J183
  exact FR_gd (FR_ite (FR_nm (fun x9 _ => FR_nm (fun x10 _ => FR_some fx.rfl))) (FR_nm (fun x8 _ => FR_some fx.rfl)))
theorem fr_m_reachedOf_J116 (t : St) (v1 : Int32) (v2 : Int32) (v4 : Int32) (v5 : Int32) (w0 : Int32) : FR [33] [] (m_reachedOf_J116 t v1 v2 v4 v5 w0) t (Sum.elim (fun (x : Int32 × Int32 × Int32 × St) => x.2.2.2) (fun (y : Int32 × St) => y.2)) := by
  unfold m_reachedOf_J116
  exact FR_gd (FR_nmS (fx_sA rfl) (fun t12 ht12 => FR_gd (FR_ite (FR_ite (FR_wk ht12 (fr_m_reachedOf_J183 t12 v1 v2 v5 w0 v4)) (FR_wk ht12 (fr_m_reachedOf_J183 t12 v1 v2 v5 w0 w0))) (FR_gd (FR_ite (FR_ite (FR_wk ht12 (fr_m_reachedOf_J183 t12 v1 v2 v5 w0 v4)) (FR_wk ht12 (fr_m_reachedOf_J183 t12 v1 v2 v5 w0 w0))) (FR_wk ht12 (fr_m_reachedOf_J183 t12 v1 v2 v5 w0 w0)))))))
theorem fr_m_reachedOf_B68 (v1 : Int32) (v2 : Int32) (v3 : Int32) (v4 : Int32) (v5 : Int32) (t : St) : FR [33] [] (m_reachedOf_B68 v1 v2 v3 v4 v5 t) t (Sum.elim (fun (x : Int32 × Int32 × Int32 × St) => x.2.2.2) (fun (y : Int32 × St) => y.2)) := by
  unfold m_reachedOf_B68
  exact FR_gd (FR_ite (FR_some fx.rfl) (FR_ite (FR_gd (FR_gd (FR_gd (FR_wk fx.rfl (fr_m_reachedOf_J116 t v1 v2 v4 v5 (gA t 59 ((((42 : Int32) * (gA t 14 (((gA t 11 (v1).toNatClampNeg) + v5)).toNatClampNeg)) + v3)).toNatClampNeg)))))) (FR_wk fx.rfl (fr_m_reachedOf_J116 t v1 v2 v4 v5 (99 : Int32)))))
theorem fr_m_reachedOf_L68 (v1 : Int32) (v2 : Int32) (v3 : Int32) (v4 : Int32) (v5 : Int32) (t : St) : FR [33] [] (lp (fun x => m_reachedOf_B68 v1 v2 x.1 x.2.1 x.2.2.1 x.2.2.2) (v3, v4, v5, t)) t (fun (y : Int32 × St) => y.2) := FR_lp (p := (fun (x : Int32 × Int32 × Int32 × St) => x.2.2.2)) (q := (fun (y : Int32 × St) => y.2)) (fun x => fr_m_reachedOf_B68 v1 v2 x.1 x.2.1 x.2.2.1 x.2.2.2) (v3, v4, v5, t)
theorem fr_m_reachedOf_J63 (t : St) (v1 : Int32) (v2 : Int32) (v3 : Int32) (w0 : Int32) : FR [33] [] (m_reachedOf_J63 t v1 v2 v3 w0) t (fun (a : Int32 × St) => a.2) := by
  unfold m_reachedOf_J63
  exact FR_bind (fr_m_reachedOf_L68 v1 v2 v3 w0 (0 : Int32) t) (fun y25 hm26 => FR_gd (FR_ite (FR_gd (FR_gd (FR_bind (fr_m_sorted y25.2 (gA y25.2 12 (v1).toNatClampNeg) ((gA y25.2 9 (v1).toNatClampNeg) - (1 : Int32))) (fun q32 hq32 => FR_some (fx.trans hm26 hq32))))) (FR_some hm26)))
theorem fr_m_reachedOf (t : St) (a1 : Int32) (a2 : Int32) : FR [33] [] (m_reachedOf t a1 a2) t (fun (a : Int32 × St) => a.2) := by
  unfold m_reachedOf
  exact FR_gd (FR_ite (FR_bindn (fun y38 => (FR_sumn y38 (fun u41 => FR_some fx.rfl) (fun u41 => FR_some fx.rfl)))) (FR_gd (FR_ite (FR_wk fx.rfl (fr_m_reachedOf_J63 t a1 a2 a2 (99 : Int32))) (FR_wk fx.rfl (fr_m_reachedOf_J63 t a1 a2 a2 (0 : Int32))))))
theorem fr_m_reached_B39 (v1 : Int32) (v2 : Int32) (v4 : Int32) (v5 : Int32) (t : St) : FR [33, 59] [] (m_reached_B39 v1 v2 v4 v5 t) t (Sum.elim (fun (x : Int32 × St) => x.2) (fun (y : St) => y)) := by
  unfold m_reached_B39
  exact FR_ite (FR_some fx.rfl) (FR_bind (fr_m_reachedOf t v4 v5) (fun q2 hq2 => FR_gd (FR_nmS (fx_sA rfl) (fun t5 ht5 => FR_nm (fun x6 _ => FR_some (fx.trans hq2 ht5))))))
theorem fr_m_reached_L39 (v1 : Int32) (v2 : Int32) (v4 : Int32) (v5 : Int32) (t : St) : FR [33, 59] [] (lp (fun x => m_reached_B39 v1 v2 v4 x.1 x.2) (v5, t)) t (fun (y : St) => y) := FR_lp (p := (fun (x : Int32 × St) => x.2)) (q := (fun (y : St) => y)) (fun x => fr_m_reached_B39 v1 v2 v4 x.1 x.2) (v5, t)
theorem fr_m_reached_B25 (v1 : Int32) (v2 : Int32) (v4 : Int32) (t : St) : FR [33, 59] [] (m_reached_B25 v1 v2 v4 t) t (Sum.elim (fun (x : Int32 × St) => x.2) (fun (y : St) => y)) := by
  unfold m_reached_B25
  exact FR_gd (FR_ite (FR_some fx.rfl) (FR_bind (fr_m_reached_L39 v1 v2 v4 (0 : Int32) t) (fun y9 hm10 => FR_nm (fun x12 _ => FR_some hm10))))
theorem fr_m_reached_L25 (v1 : Int32) (v2 : Int32) (v4 : Int32) (t : St) : FR [33, 59] [] (lp (fun x => m_reached_B25 v1 v2 x.1 x.2) (v4, t)) t (fun (y : St) => y) := FR_lp (p := (fun (x : Int32 × St) => x.2)) (q := (fun (y : St) => y)) (fun x => fr_m_reached_B25 v1 v2 x.1 x.2) (v4, t)
theorem fr_m_reached (t : St) (a1 : Int32) (a2 : Int32) : FR [33, 59] [] (m_reached t a1 a2) t (fun (a : Int32 × St) => a.2) := by
  unfold m_reached
  exact FR_bindn (fun q13 => FR_bindn (fun q16 => FR_ite (FR_bind (fr_m_reached_L25 a1 a2 (0 : Int32) t) (fun y19 hm20 => FR_gd (FR_gd (FR_nm (fun x24 _ => FR_ite (FR_some hm20) (FR_some hm20)))))) (FR_some fx.rfl)))
theorem fr_m_walk (t : St) (a1 : Int32) (a2 : Int32) : FR [60, 61] [] (m_walk t a1 a2) t (fun (a : Int32 × St) => a.2) := by
  unfold m_walk
  exact FR_bindn (fun q1 => FR_ite (FR_some fx.rfl) (FR_bindn (fun q5 => FR_ite (FR_some fx.rfl) (FR_gd (FR_ite (FR_some fx.rfl) (FR_gd (FR_gd (FR_nmS (fx_sA rfl) (fun t13 ht13 => FR_gd (FR_gd (FR_nmS (fx_sA rfl) (fun t16 ht16 => FR_gd (FR_some (fx.trans ht13 ht16))))))))))))))
theorem fr_m_home (t : St) (a1 : Int32) : FR [60] [] (m_home t a1) t (fun (a : Int32 × St) => a.2) := by
  unfold m_home
  exact FR_bindn (fun q1 => FR_ite (FR_some fx.rfl) (FR_gd (FR_nm (fun x6 _ => FR_gd (FR_nmS (fx_sA rfl) (fun t8 ht8 => FR_some ht8))))))
theorem fr_m_next_B100 (v5 : Int32) (v6 : Int32) (t : St) : FR [63] [] (m_next_B100 v5 v6 t) t (Sum.elim (fun (x : Int32 × Int32 × St) => x.2.2) (fun (y : St) => y)) := by
  unfold m_next_B100
  exact FR_ite (FR_some fx.rfl) (FR_gd (FR_nm (fun x12 _ => FR_gd (FR_gd (FR_nmS (fx_sA rfl) (fun t15 ht15 => FR_gd (FR_nmS (fx_sA rfl) (fun t17 ht17 => FR_nm (fun x18 _ => FR_nm (fun x19 _ => FR_some (fx.trans ht15 ht17)))))))))))
theorem fr_m_next_L100 (v5 : Int32) (v6 : Int32) (t : St) : FR [63] [] (lp (fun x => m_next_B100 x.1 x.2.1 x.2.2) (v5, v6, t)) t (fun (y : St) => y) := FR_lp (p := (fun (x : Int32 × Int32 × St) => x.2.2)) (q := (fun (y : St) => y)) (fun x => fr_m_next_B100 x.1 x.2.1 x.2.2) (v5, v6, t)
theorem fr_m_next (t : St) (a1 : Int32) : FR [63] [] (m_next t a1) t (fun (a : Int32 × St) => a.2) := by
  unfold m_next
  exact FR_nm (fun x20 _ => FR_bindn (fun y21 => FR_ite (FR_nm (fun x25 _ => FR_bindn (fun y26 => FR_gd (FR_nm (fun x30 _ => FR_gd (FR_gd (FR_nmS (fx_sA rfl) (fun t33 ht33 => FR_gd (FR_nmS (fx_sA rfl) (fun t35 ht35 => FR_nm (fun x36 _ => FR_nm (fun x37 _ => FR_bind (fr_m_next_L100 x36 x37 t35) (fun y38 hm39 => FR_some (fx.trans (fx.trans ht33 ht35) hm39)))))))))))))) (FR_some fx.rfl)))
theorem fr_m_findOrder_B159 (v2 : Int32) (v3 : Int32) (v6 : Int32) (t : St) : FR [44, 62, 63, 64, 65] [] (m_findOrder_B159 v2 v3 v6 t) t (Sum.elim (fun (x : Int32 × St) => x.2) (fun (y : St) => y)) := by
  unfold m_findOrder_B159
  exact FR_ite (FR_some fx.rfl) (FR_gd (FR_gd (FR_gd (FR_nmS (fx_sA rfl) (fun t5 ht5 => FR_nm (fun x6 _ => FR_some ht5))))))
theorem fr_m_findOrder_L159 (v2 : Int32) (v3 : Int32) (v6 : Int32) (t : St) : FR [44, 62, 63, 64, 65] [] (lp (fun x => m_findOrder_B159 v2 v3 x.1 x.2) (v6, t)) t (fun (y : St) => y) := FR_lp (p := (fun (x : Int32 × St) => x.2)) (q := (fun (y : St) => y)) (fun x => fr_m_findOrder_B159 v2 v3 x.1 x.2) (v6, t)
theorem fr_m_findOrder_J83 (t : St) (v1 : Int32) (v2 : Int32) (v3 : Int32) (v4 : Int32) (v5 : Int32) (w1 : Int32) (w2 : Int32) : FR [44, 62, 63, 64, 65] [] (m_findOrder_J83 t v1 v2 v3 v4 v5 w1 w2) t (Sum.elim (fun (x : Int32 × St) => x.2) (fun (y : St) => y)) := by
  unfold m_findOrder_J83
  exact FR_gd (FR_nmS (fx_sA rfl) (fun t8 ht8 => FR_nm (fun x9 _ => FR_some ht8)))
theorem fr_m_findOrder_B33 (v1 : Int32) (v2 : Int32) (v3 : Int32) (v4 : Int32) (v5 : Int32) (t : St) : FR [44, 62, 63, 64, 65] [] (m_findOrder_B33 v1 v2 v3 v4 v5 t) t (Sum.elim (fun (x : Int32 × St) => x.2) (fun (y : St) => y)) := by
  unfold m_findOrder_B33
  exact FR_ite (FR_some fx.rfl) (FR_bindn (fun q11 => FR_ite (FR_wk fx.rfl (fr_m_findOrder_J83 t v1 v2 v3 v4 v5 (((601 : Int32) * v3) + v5) (-1 : Int32))) (FR_gd (FR_wk fx.rfl (fr_m_findOrder_J83 t v1 v2 v3 v4 v5 (((601 : Int32) * v3) + v5) (q11 + (gA t 1 (v4).toNatClampNeg)))))))
theorem fr_m_findOrder_L33 (v1 : Int32) (v2 : Int32) (v3 : Int32) (v4 : Int32) (v5 : Int32) (t : St) : FR [44, 62, 63, 64, 65] [] (lp (fun x => m_findOrder_B33 v1 v2 v3 v4 x.1 x.2) (v5, t)) t (fun (y : St) => y) := FR_lp (p := (fun (x : Int32 × St) => x.2)) (q := (fun (y : St) => y)) (fun x => fr_m_findOrder_B33 v1 v2 v3 v4 x.1 x.2) (v5, t)
theorem fr_m_findOrder_J190 (t : St) (v2 : Int32) (v3 : Int32) : FR [44, 62, 63, 64, 65] [] (m_findOrder_J190 t v2 v3) t (Sum.elim (fun (x : Int32 × St) => x.2) (fun (y : St) => y)) := by
  unfold m_findOrder_J190
  exact FR_bind (fr_m_next t v3) (fun q15 hq15 => FR_some hq15)
theorem fr_m_findOrder_J150 (t : St) (v2 : Int32) (v3 : Int32) (v5 : Int32) : FR [44, 62, 63, 64, 65] [] (m_findOrder_J150 t v2 v3 v5) t (Sum.elim (fun (x : Int32 × St) => x.2) (fun (y : St) => y)) := by
  unfold m_findOrder_J150
  exact FR_nmS (fx_sI rfl) (fun t18 ht18 => FR_bind (fr_m_findOrder_L159 v2 v3 (0 : Int32) t18) (fun y19 hm20 => FR_wk (fx.trans ht18 hm20) (fr_m_findOrder_J190 y19 v2 v3)))
theorem fr_m_findOrder_B114 (v2 : Int32) (v3 : Int32) (v4 : Int32) (t : St) : FR [44, 62, 63, 64, 65] [] (m_findOrder_B114 v2 v3 v4 t) t (Sum.elim (fun (x : Int32 × St) => x.2) (fun (y : St) => y)) := by
  unfold m_findOrder_B114
  exact FR_ite (FR_some fx.rfl) (FR_bindn (fun q23 => FR_ite (FR_wk fx.rfl (fr_m_findOrder_J190 t v2 v3)) (FR_ite (FR_wk fx.rfl (fr_m_findOrder_J150 t v2 v3 q23)) (FR_ite (FR_wk fx.rfl (fr_m_findOrder_J190 t v2 v3)) (FR_wk fx.rfl (fr_m_findOrder_J150 t v2 v3 q23))))))
theorem fr_m_findOrder_L114 (v2 : Int32) (v3 : Int32) (v4 : Int32) (t : St) : FR [44, 62, 63, 64, 65] [] (lp (fun x => m_findOrder_B114 v2 v3 x.1 x.2) (v4, t)) t (fun (y : St) => y) := FR_lp (p := (fun (x : Int32 × St) => x.2)) (q := (fun (y : St) => y)) (fun x => fr_m_findOrder_B114 v2 v3 x.1 x.2) (v4, t)
theorem fr_m_findOrder_B5 (v1 : Int32) (v2 : Int32) (v3 : Int32) (v4 : Int32) (t : St) : FR [44, 62, 63, 64, 65] [] (m_findOrder_B5 v1 v2 v3 v4 t) t (Sum.elim (fun (x : Int32 × Int32 × St) => x.2.2) (fun (y : Int32 × St) => y.2)) := by
  unfold m_findOrder_B5
  exact FR_ite (FR_some fx.rfl) (FR_ite (FR_gd (FR_nmS (fx_sA rfl) (fun t32 ht32 => FR_bind (fr_m_findOrder_L33 v1 v2 v3 v4 v2 t32) (fun y33 hm34 => FR_gd (FR_nmS (fx_sA rfl) (fun t37 ht37 => FR_nm (fun x38 _ => FR_nm (fun x39 _ => FR_some (fx.trans (fx.trans ht32 hm34) ht37))))))))) (FR_nm (fun x30 _ => FR_some fx.rfl)))
theorem fr_m_findOrder_L5 (v1 : Int32) (v2 : Int32) (v3 : Int32) (v4 : Int32) (t : St) : FR [44, 62, 63, 64, 65] [] (lp (fun x => m_findOrder_B5 v1 v2 x.1 x.2.1 x.2.2) (v3, v4, t)) t (fun (y : Int32 × St) => y.2) := FR_lp (p := (fun (x : Int32 × Int32 × St) => x.2.2)) (q := (fun (y : Int32 × St) => y.2)) (fun x => fr_m_findOrder_B5 v1 v2 x.1 x.2.1 x.2.2) (v3, v4, t)
theorem fr_m_findOrder (t : St) (a1 : Int32) (a2 : Int32) : FR [44, 62, 63, 64, 65] [] (m_findOrder t a1 a2) t (fun (a : St) => a) := by
  unfold m_findOrder
  exact FR_bind (fr_m_findOrder_L5 a1 a2 (0 : Int32) (0 : Int32) t) (fun y40 hm41 => FR_nmS (fx_sI rfl) (fun t43 ht43 => FR_bind (fr_m_findOrder_L114 a2 y40.1 (1 : Int32) t43) (fun y44 hm45 => FR_some (fx.trans (fx.trans hm41 ht43) hm45))))
theorem fr_m_end (t : St) (a1 : Int32) (a2 : Int32) : FR [44, 62, 63, 64, 65] [] (m_end t a1 a2) t (fun (a : Int32 × St) => a.2) := by
  unfold m_end
  exact FR_bindn (fun q1 => FR_ite (FR_bind (fr_m_findOrder t a1 a2) (fun q4 hq4 => FR_some hq4)) (FR_some fx.rfl))
theorem fr_m_orderAt_J11 (t : St) (v1 : Int32) (v2 : Int32) (v3 : Int32) (w0 : Int32) (w1 : Int32) (w2 : Int32) : FR [44, 62, 63, 64, 65] [] (m_orderAt_J11 t v1 v2 v3 w0 w1 w2) t (fun (a : Int32 × St) => a.2) := by
  unfold m_orderAt_J11
  exact FR_bindn (fun q1 => FR_ite (FR_bind (fr_m_findOrder t v1 v2) (fun q4 hq4 => FR_ite (FR_some hq4) (FR_bindn (fun q7 => FR_ite (FR_some hq4) (FR_gd (FR_some hq4)))))) (FR_some fx.rfl))
theorem fr_m_orderAt (t : St) (a1 : Int32) (a2 : Int32) (a3 : Int32) : FR [44, 62, 63, 64, 65] [] (m_orderAt t a1 a2 a3) t (fun (a : Int32 × St) => a.2) := by
  unfold m_orderAt
  exact FR_ite (FR_wk fx.rfl (fr_m_orderAt_J11 t a1 a2 a3 a1 a2 (0 : Int32))) (FR_wk fx.rfl (fr_m_orderAt_J11 t a1 a2 a3 a1 a2 (1 : Int32)))
theorem fr_m_image_B29 (v1 : Int32) (v2 : Int32) (v3 : Int32) (t : St) : FR [66, 67] [] (m_image_B29 v1 v2 v3 t) t (Sum.elim (fun (x : Int32 × St) => x.2) (fun (y : St) => y)) := by
  unfold m_image_B29
  exact FR_ite (FR_some fx.rfl) (FR_bindn (fun q2 => FR_gd (FR_nmS (fx_sA rfl) (fun t5 ht5 => FR_nm (fun x6 _ => FR_some ht5)))))
theorem fr_m_image_L29 (v1 : Int32) (v2 : Int32) (v3 : Int32) (t : St) : FR [66, 67] [] (lp (fun x => m_image_B29 v1 v2 x.1 x.2) (v3, t)) t (fun (y : St) => y) := FR_lp (p := (fun (x : Int32 × St) => x.2)) (q := (fun (y : St) => y)) (fun x => fr_m_image_B29 v1 v2 x.1 x.2) (v3, t)
theorem fr_m_image_B21 (v1 : Int32) (v2 : Int32) (t : St) : FR [66, 67] [] (m_image_B21 v1 v2 t) t (Sum.elim (fun (x : Int32 × St) => x.2) (fun (y : St) => y)) := by
  unfold m_image_B21
  exact FR_ite (FR_some fx.rfl) (FR_bind (fr_m_image_L29 v1 v2 (0 : Int32) t) (fun y8 hm9 => FR_nm (fun x11 _ => FR_some hm9)))
theorem fr_m_image_L21 (v1 : Int32) (v2 : Int32) (t : St) : FR [66, 67] [] (lp (fun x => m_image_B21 v1 x.1 x.2) (v2, t)) t (fun (y : St) => y) := FR_lp (p := (fun (x : Int32 × St) => x.2)) (q := (fun (y : St) => y)) (fun x => fr_m_image_B21 v1 x.1 x.2) (v2, t)
theorem fr_m_image (t : St) (a1 : Int32) : FR [66, 67] [] (m_image t a1) t (fun (a : Int32 × St) => a.2) := by
  unfold m_image
  exact FR_bindn (fun q12 => FR_ite (FR_some fx.rfl) (FR_gd (FR_nmS (fx_sA rfl) (fun t17 ht17 => FR_bind (fr_m_image_L21 a1 (0 : Int32) t17) (fun y18 hm19 => FR_some (fx.trans ht17 hm19))))))
theorem fr_m_from_B26 (v1 : Int32) (v2 : Int32) (t : St) : FR [0, 1, 2, 3, 4] [] (m_from_B26 v1 v2 t) t (Sum.elim (fun (x : Int32 × St) => x.2) (fun (y : St) => y)) := by
  unfold m_from_B26
  exact FR_ite (FR_some fx.rfl) (FR_nm (fun x2 _ => FR_gd (FR_gd (FR_nmS (fx_sA rfl) (fun t5 ht5 => FR_gd (FR_gd (FR_nmS (fx_sA rfl) (fun t8 ht8 => FR_gd (FR_gd (FR_nmS (fx_sA rfl) (fun t11 ht11 => FR_gd (FR_gd (FR_nmS (fx_sA rfl) (fun t14 ht14 => FR_gd (FR_gd (FR_nmS (fx_sA rfl) (fun t17 ht17 => FR_nm (fun x18 _ => FR_some (fx.trans (fx.trans (fx.trans (fx.trans ht5 ht8) ht11) ht14) ht17)))))))))))))))))))
theorem fr_m_from_L26 (v1 : Int32) (v2 : Int32) (t : St) : FR [0, 1, 2, 3, 4] [] (lp (fun x => m_from_B26 v1 x.1 x.2) (v2, t)) t (fun (y : St) => y) := FR_lp (p := (fun (x : Int32 × St) => x.2)) (q := (fun (y : St) => y)) (fun x => fr_m_from_B26 v1 x.1 x.2) (v2, t)
theorem fr_m_from (t : St) (a1 : Int32) : FR [0, 1, 2, 3, 4] [] (m_from t a1) t (fun (a : Int32 × St) => a.2) := by
  unfold m_from
  exact FR_bindn (fun q19 => FR_ite (FR_some fx.rfl) (FR_gd (FR_ite (FR_some fx.rfl) (FR_bind (fr_m_from_L26 a1 (0 : Int32) t) (fun y25 hm26 => FR_some hm26)))))
