theorem sp_fm {α : Type} {is : List Nat} {g : Nat → Option α} {w : List α} (h : is.map g = w.map some) : is.filterMap g = w := by
  have e : is.filterMap g = (is.map g).filterMap id := by rw [List.filterMap_map]; rfl
  rw [e, h, List.filterMap_map]
  exact List.filterMap_some
/-! The law: a call of the class and a call of the reference on worlds side by side. -/
theorem va_nd_of : ∀ {l : List Nat}, l.Nodup → va_nd l = true
  | [], _ => rfl
  | a :: l, h => by
    have h := List.nodup_cons.mp h
    simp only [va_nd, Bool.and_eq_true, decide_eq_true_eq]
    exact ⟨h.1, va_nd_of h.2⟩
theorem sp_C {α : Type} (wc wr : List α) : (List.range wc.length).map (fun i => (wc ++ wr)[i]?) = wc.map some := by
  apply List.ext_getElem?
  intro n
  by_cases h : n < wc.length
  · simp [h, List.getElem?_append_left h]
  · simp [h]
theorem nd_sh (k n : Nat) : ((List.range n).map (fun i => k + i)).Nodup := List.Pairwise.map _ (fun a b h e => h (Nat.add_left_cancel e)) List.nodup_range
theorem sp_R {α : Type} (wc wr : List α) : ((List.range wr.length).map (fun i => wc.length + i)).map (fun i => (wc ++ wr)[i]?) = wr.map some := by
  apply List.ext_getElem?
  intro n
  by_cases h : n < wr.length
  · simp [h]
  · simp [h]
section LWB
variable {p : Program} {l : Launch} {e : Env} {R : Room} {s : State} {m : MethodId} {args : Array Value} {below : List Frame} {meth : Method} {c : Code} {H : Heap} {locs : List Loc} {Q : State → Prop} {pc : Nat} {ls : Array Slot} {cc : ByteArray} {own : String} {nL : Nat} {D : va_G} {tys : List (ClassId × FieldType)} {A : Nat → Prop} {w : va_W} {cells slots : Nat} {ret' : Option FieldType} {rest st0 : List Value} {mc ms : Nat}
theorem bkIs {S : Type} {wc wr : va_W} {wf : S → va_W} {r : Int32} {av : Array Value} (C0 : cx p s m args meth c cc own nL ret' D tys A) (hW : wl D A s (wc ++ wr) H locs) (hr : wl D A s wc H locs → va_Run p l e R s m args below meth c H locs cells slots mc ms (F0 m pc ls st0) rest (va_Qi (fun (rr : Int32) (_ : S) => rr = r) (fun u => poW D tys (wf u) (va_A wc H.size)) (va_A wc H.size) av) (va_A wc H.size)) (k : ∀ (u : S) (H1 : Heap) (locs1 : List Loc), wl D A s (wr ++ wf u) H1 locs1 → W p l e R s m args below meth c H1 locs1 (cells + mc) (slots + ms) Q (F0 m (pc + 3) ls (.int r :: rest))) : W p l e R s m args below meth c H locs cells slots Q (F0 m pc ls st0) := by
  have hC := sp_C wc wr
  have hR := sp_R wc wr
  have hWc : wl D A s wc H locs := ⟨hW.1.sub _ (sp_fm hC), hW.2.1.sub _ (va_nd_of List.nodup_range) hC, hW.2.2⟩
  have hF := va_free hW.2.1 hW.2.2 C0.2.2.2.2.2.2.2.2 _ hC
  exact va_calli (hr hWc) hW.2.2 (fun q _ h => hF q h) hF (fun r' u t H1 locs1 ht _ hp hB _ hk hS => by
    have hp : r' = r := hp
    rw [hp]
    have h := va_join hW.1 hW.2.1 _ _ hC hR (va_nd_of (nd_sh _ _)) (by
      intro i hi
      obtain ⟨j, hj, rfl⟩ := List.mem_map.mp hi
      intro h
      have := List.mem_range.mp h
      omega) hk hF (by rw [← ht]; exact hB.1) hB.2.2
    exact k u H1 locs1 ⟨h.1, h.2, hS⟩)
theorem bkJs {S : Type} {wc wr : va_W} {wf : S → va_W} {r : Int64} {av : Array Value} (C0 : cx p s m args meth c cc own nL ret' D tys A) (hW : wl D A s (wc ++ wr) H locs) (hr : wl D A s wc H locs → va_Run p l e R s m args below meth c H locs cells slots mc ms (F0 m pc ls st0) rest (va_Ql (fun (rr : Int64) (_ : S) => rr = r) (fun u => poW D tys (wf u) (va_A wc H.size)) (va_A wc H.size) av) (va_A wc H.size)) (k : ∀ (u : S) (H1 : Heap) (locs1 : List Loc), wl D A s (wr ++ wf u) H1 locs1 → W p l e R s m args below meth c H1 locs1 (cells + mc) (slots + ms) Q (F0 m (pc + 3) ls (.long r :: rest))) : W p l e R s m args below meth c H locs cells slots Q (F0 m pc ls st0) := by
  have hC := sp_C wc wr
  have hR := sp_R wc wr
  have hWc : wl D A s wc H locs := ⟨hW.1.sub _ (sp_fm hC), hW.2.1.sub _ (va_nd_of List.nodup_range) hC, hW.2.2⟩
  have hF := va_free hW.2.1 hW.2.2 C0.2.2.2.2.2.2.2.2 _ hC
  exact va_calll (hr hWc) hW.2.2 (fun q _ h => hF q h) hF (fun r' u t H1 locs1 ht _ hp hB _ hk hS => by
    have hp : r' = r := hp
    rw [hp]
    have h := va_join hW.1 hW.2.1 _ _ hC hR (va_nd_of (nd_sh _ _)) (by
      intro i hi
      obtain ⟨j, hj, rfl⟩ := List.mem_map.mp hi
      intro h
      have := List.mem_range.mp h
      omega) hk hF (by rw [← ht]; exact hB.1) hB.2.2
    exact k u H1 locs1 ⟨h.1, h.2, hS⟩)
end LWB
theorem lcmp_self (r : Int64) : lg_cmp r r = 0 := by
  unfold lg_cmp
  simp
def lwC (p : Program) (s : State) (m : MethodId) (meth : Method) (c : Code) (D : va_G) (cI cJ cZ cR : ClassId) (st : Nat) (A : Nat → Prop) (b L : Nat) (xs : Nat → Int32) : Prop :=
  cxX p s m #[.ref b] meth c code R_law 4 ret D (tyX cI cJ cZ cR) st A ∧ cx p s m #[.ref b] meth c code R_law 4 ret D (tyM cI cJ cZ) A ∧ va_X b L xs s s.heap ∧ b < s.heap.size ∧ ¬ A b
theorem ca_LX_step : calV R_law 13 yX11_step cX11_step 5 (some .int) 4 := ⟨⟨kw_625, kw_626, kw_627, kw_122, kw_628⟩, by decide +kernel, by decide +kernel, by decide +kernel⟩
theorem ca_LM_step : calV R_law 17 yX12_step cX12_step 5 (some .int) 4 := ⟨⟨kw_1708, kw_1709, kw_1710, kw_135, kw_1711⟩, by decide +kernel, by decide +kernel, by decide +kernel⟩
theorem ca_LX_trace : calV R_law 18 yX11_trace cX11_trace 4 (some .int) 3 := ⟨⟨kw_643, kw_644, kw_645, kw_122, kw_646⟩, by decide +kernel, by decide +kernel, by decide +kernel⟩
theorem ca_LM_trace : calV R_law 22 yX12_trace cX12_trace 4 (some .int) 3 := ⟨⟨kw_1718, kw_1719, kw_1720, kw_135, kw_1721⟩, by decide +kernel, by decide +kernel, by decide +kernel⟩
theorem ca_LX_about : calV R_law 23 yX11_about cX11_about 3 (some .int) 2 := ⟨⟨kw_647, kw_648, kw_649, kw_122, kw_650⟩, by decide +kernel, by decide +kernel, by decide +kernel⟩
theorem ca_LM_about : calV R_law 27 yX12_about cX12_about 3 (some .int) 2 := ⟨⟨kw_1722, kw_1723, kw_1724, kw_135, kw_1725⟩, by decide +kernel, by decide +kernel, by decide +kernel⟩
theorem ca_LX_write : calV R_law 28 yX11_write cX11_write 2 (some .int) 1 := ⟨⟨kw_655, kw_656, kw_657, kw_122, kw_658⟩, by decide +kernel, by decide +kernel, by decide +kernel⟩
theorem ca_LM_write : calV R_law 32 yX12_write cX12_write 2 (some .int) 1 := ⟨⟨kw_1730, kw_1731, kw_1732, kw_135, kw_1733⟩, by decide +kernel, by decide +kernel, by decide +kernel⟩
theorem ca_LX_erase : calV R_law 33 yX11_erase cX11_erase 2 (some .int) 0 := ⟨⟨kw_663, kw_664, kw_665, kw_122, kw_666⟩, by decide +kernel, by decide +kernel, by decide +kernel⟩
theorem ca_LM_erase : calV R_law 37 yX12_erase cX12_erase 2 (some .int) 0 := ⟨⟨kw_1734, kw_1735, kw_1736, kw_135, kw_1737⟩, by decide +kernel, by decide +kernel, by decide +kernel⟩
theorem ca_LX_make : calV R_law 38 yX11_make cX11_make 3 (some .int) 1 := ⟨⟨kw_667, kw_668, kw_669, kw_122, kw_670⟩, by decide +kernel, by decide +kernel, by decide +kernel⟩
theorem ca_LM_make : calV R_law 41 yX12_make cX12_make 6 (some .int) 1 := ⟨⟨kw_1738, kw_1739, kw_1740, kw_135, kw_1741⟩, by decide +kernel, by decide +kernel, by decide +kernel⟩
theorem ca_LX_clear : calV R_law 42 yX11_clear cX11_clear 2 (some .int) 0 := ⟨⟨kw_760, kw_761, kw_762, kw_122, kw_763⟩, by decide +kernel, by decide +kernel, by decide +kernel⟩
theorem ca_LM_clear : calV R_law 45 yX12_clear cX12_clear 3 (some .int) 0 := ⟨⟨kw_1812, kw_1813, kw_1814, kw_135, kw_1815⟩, by decide +kernel, by decide +kernel, by decide +kernel⟩
theorem ca_LX_knot : calV R_law 46 yX11_knot cX11_knot 4 (some .int) 2 := ⟨⟨kw_782, kw_783, kw_784, kw_122, kw_785⟩, by decide +kernel, by decide +kernel, by decide +kernel⟩
theorem ca_LM_knot : calV R_law 49 yX12_knot cX12_knot 4 (some .int) 2 := ⟨⟨kw_1816, kw_1817, kw_1818, kw_135, kw_1819⟩, by decide +kernel, by decide +kernel, by decide +kernel⟩
theorem ca_LX_part : calV R_law 50 yX11_part cX11_part 3 (some .int) 2 := ⟨⟨kw_786, kw_787, kw_788, kw_122, kw_789⟩, by decide +kernel, by decide +kernel, by decide +kernel⟩
theorem ca_LM_part : calV R_law 53 yX12_part cX12_part 3 (some .int) 2 := ⟨⟨kw_1828, kw_1829, kw_1830, kw_135, kw_1831⟩, by decide +kernel, by decide +kernel, by decide +kernel⟩
theorem ca_LX_reaches : calV R_law 54 yX11_reaches cX11_reaches 4 (some .int) 2 := ⟨⟨kw_794, kw_795, kw_796, kw_122, kw_797⟩, by decide +kernel, by decide +kernel, by decide +kernel⟩
theorem ca_LM_reaches : calV R_law 57 yX12_reaches cX12_reaches 4 (some .int) 2 := ⟨⟨kw_1832, kw_1833, kw_1834, kw_135, kw_1835⟩, by decide +kernel, by decide +kernel, by decide +kernel⟩
theorem ca_LX_ways : calV R_law 58 yX11_ways cX11_ways 3 (some .int) 1 := ⟨⟨kw_812, kw_813, kw_814, kw_122, kw_815⟩, by decide +kernel, by decide +kernel, by decide +kernel⟩
theorem ca_LM_ways : calV R_law 61 yX12_ways cX12_ways 3 (some .int) 1 := ⟨⟨kw_1844, kw_1845, kw_1846, kw_135, kw_1847⟩, by decide +kernel, by decide +kernel, by decide +kernel⟩
theorem ca_LX_wayAt : calV R_law 62 yX11_wayAt cX11_wayAt 4 (some .int) 2 := ⟨⟨kw_892, kw_893, kw_894, kw_122, kw_895⟩, by decide +kernel, by decide +kernel, by decide +kernel⟩
theorem ca_LM_wayAt : calV R_law 65 yX12_wayAt cX12_wayAt 4 (some .int) 2 := ⟨⟨kw_1867, kw_1868, kw_1869, kw_135, kw_1870⟩, by decide +kernel, by decide +kernel, by decide +kernel⟩
theorem ca_LX_least : calV R_law 66 yX11_least cX11_least 4 (some .int) 2 := ⟨⟨kw_896, kw_897, kw_898, kw_122, kw_899⟩, by decide +kernel, by decide +kernel, by decide +kernel⟩
theorem ca_LM_least : calV R_law 69 yX12_least cX12_least 4 (some .int) 2 := ⟨⟨kw_1871, kw_1872, kw_1873, kw_135, kw_1874⟩, by decide +kernel, by decide +kernel, by decide +kernel⟩
theorem ca_LX_leastWay : calV R_law 70 yX11_leastWay cX11_leastWay 4 (some .int) 2 := ⟨⟨kw_914, kw_901, kw_902, kw_122, kw_903⟩, by decide +kernel, by decide +kernel, by decide +kernel⟩
theorem ca_LM_leastWay : calV R_law 73 yX12_leastWay cX12_leastWay 4 (some .int) 2 := ⟨⟨kw_1883, kw_1884, kw_1885, kw_135, kw_1886⟩, by decide +kernel, by decide +kernel, by decide +kernel⟩
theorem ca_LX_many : calV R_law 74 yX11_many cX11_many 3 (some .int) 1 := ⟨⟨kw_915, kw_916, kw_917, kw_122, kw_918⟩, by decide +kernel, by decide +kernel, by decide +kernel⟩
theorem ca_LM_many : calV R_law 77 yX12_many cX12_many 7 (some .int) 1 := ⟨⟨kw_1887, kw_1888, kw_1889, kw_135, kw_1890⟩, by decide +kernel, by decide +kernel, by decide +kernel⟩
theorem ca_LX_size : calV R_law 78 yX11_size cX11_size 3 (some .int) 1 := ⟨⟨kw_936, kw_937, kw_938, kw_122, kw_939⟩, by decide +kernel, by decide +kernel, by decide +kernel⟩
theorem ca_LM_size : calV R_law 81 yX12_size cX12_size 3 (some .int) 1 := ⟨⟨kw_1907, kw_1908, kw_1909, kw_135, kw_1910⟩, by decide +kernel, by decide +kernel, by decide +kernel⟩
theorem ca_LX_chance : calV R_law 82 yX11_chance cX11_chance 4 (some .int) 1 := ⟨⟨kw_970, kw_971, kw_972, kw_122, kw_973⟩, by decide +kernel, by decide +kernel, by decide +kernel⟩
theorem ca_LM_chance : calV R_law 85 yX12_chance cX12_chance 3 (some .int) 1 := ⟨⟨kw_1921, kw_1922, kw_1923, kw_135, kw_1924⟩, by decide +kernel, by decide +kernel, by decide +kernel⟩
theorem ca_LX_weight : calV R_law 86 yX11_weight cX11_weight 4 (some .int) 2 := ⟨⟨kw_1021, kw_1022, kw_1023, kw_122, kw_1024⟩, by decide +kernel, by decide +kernel, by decide +kernel⟩
theorem ca_LM_weight : calV R_law 89 yX12_weight cX12_weight 4 (some .int) 2 := ⟨⟨kw_1996, kw_1997, kw_1998, kw_135, kw_1999⟩, by decide +kernel, by decide +kernel, by decide +kernel⟩
theorem ca_LX_best : calV R_law 90 yX11_best cX11_best 5 (some .int) 2 := ⟨⟨kw_1041, kw_1042, kw_1043, kw_122, kw_1044⟩, by decide +kernel, by decide +kernel, by decide +kernel⟩
theorem ca_LM_best : calV R_law 93 yX12_best cX12_best 13 (some .int) 2 := ⟨⟨kw_2000, kw_2001, kw_2002, kw_135, kw_2003⟩, by decide +kernel, by decide +kernel, by decide +kernel⟩
theorem ca_LX_limbs : calV R_law 94 yX11_limbs cX11_limbs 2 (some .int) 1 := ⟨⟨kw_1060, kw_1061, kw_1062, kw_122, kw_1063⟩, by decide +kernel, by decide +kernel, by decide +kernel⟩
theorem ca_LM_limbs : calV R_law 97 yX12_limbs cX12_limbs 2 (some .int) 1 := ⟨⟨kw_1895, kw_1896, kw_1897, kw_135, kw_1898⟩, by decide +kernel, by decide +kernel, by decide +kernel⟩
theorem ca_LX_limb : calV R_law 98 yX11_limb cX11_limb 3 (some .int) 2 := ⟨⟨kw_1068, kw_1069, kw_1070, kw_122, kw_1071⟩, by decide +kernel, by decide +kernel, by decide +kernel⟩
theorem ca_LM_limb : calV R_law 101 yX12_limb cX12_limb 3 (some .int) 2 := ⟨⟨kw_1903, kw_1904, kw_1905, kw_135, kw_1906⟩, by decide +kernel, by decide +kernel, by decide +kernel⟩
theorem ca_LX_guard : calV R_law 102 yX11_guard cX11_guard 3 (some .int) 2 := ⟨⟨kw_1076, kw_1077, kw_1078, kw_122, kw_1079⟩, by decide +kernel, by decide +kernel, by decide +kernel⟩
theorem ca_LM_guard : calV R_law 105 yX12_guard cX12_guard 3 (some .int) 2 := ⟨⟨kw_2008, kw_2009, kw_2010, kw_135, kw_2011⟩, by decide +kernel, by decide +kernel, by decide +kernel⟩
theorem ca_LX_holds : calV R_law 106 yX11_holds cX11_holds 4 (some .int) 2 := ⟨⟨kw_1086, kw_1087, kw_1088, kw_122, kw_1089⟩, by decide +kernel, by decide +kernel, by decide +kernel⟩
theorem ca_LM_holds : calV R_law 109 yX12_holds cX12_holds 4 (some .int) 2 := ⟨⟨kw_2012, kw_2013, kw_2014, kw_135, kw_2015⟩, by decide +kernel, by decide +kernel, by decide +kernel⟩
theorem ca_LX_leastGuards : calV R_law 110 yX11_leastGuards cX11_leastGuards 3 (some .int) 1 := ⟨⟨kw_1090, kw_1091, kw_1092, kw_122, kw_1093⟩, by decide +kernel, by decide +kernel, by decide +kernel⟩
theorem ca_LM_leastGuards : calV R_law 113 yX12_leastGuards cX12_leastGuards 5 (some .int) 1 := ⟨⟨kw_2024, kw_2025, kw_2026, kw_135, kw_2027⟩, by decide +kernel, by decide +kernel, by decide +kernel⟩
theorem ca_LX_front : calV R_law 114 yX11_front cX11_front 3 (some .int) 1 := ⟨⟨kw_1107, kw_1108, kw_1109, kw_122, kw_1110⟩, by decide +kernel, by decide +kernel, by decide +kernel⟩
theorem ca_LM_front : calV R_law 117 yX12_front cX12_front 3 (some .int) 1 := ⟨⟨kw_2032, kw_2033, kw_2034, kw_135, kw_2035⟩, by decide +kernel, by decide +kernel, by decide +kernel⟩
theorem ca_LX_frontAt : calV R_law 118 yX11_frontAt cX11_frontAt 7 (some .int) 3 := ⟨⟨kw_1138, kw_1139, kw_1140, kw_122, kw_1141⟩, by decide +kernel, by decide +kernel, by decide +kernel⟩
theorem ca_LM_frontAt : calV R_law 121 yX12_frontAt cX12_frontAt 5 (some .int) 3 := ⟨⟨kw_2040, kw_2041, kw_2042, kw_135, kw_2043⟩, by decide +kernel, by decide +kernel, by decide +kernel⟩
theorem ca_LX_patrol : calV R_law 122 yX11_patrol cX11_patrol 1 (some .int) 0 := ⟨⟨kw_1142, kw_1143, kw_1144, kw_122, kw_1145⟩, by decide +kernel, by decide +kernel, by decide +kernel⟩
theorem ca_LM_patrol : calV R_law 125 yX12_patrol cX12_patrol 2 (some .int) 0 := ⟨⟨kw_2044, kw_2045, kw_2046, kw_135, kw_2047⟩, by decide +kernel, by decide +kernel, by decide +kernel⟩
theorem ca_LX_catches : calV R_law 126 yX11_catches cX11_catches 5 (some .int) 3 := ⟨⟨kw_1151, kw_1152, kw_1153, kw_122, kw_1154⟩, by decide +kernel, by decide +kernel, by decide +kernel⟩
theorem ca_LM_catches : calV R_law 129 yX12_catches cX12_catches 5 (some .int) 3 := ⟨⟨kw_2048, kw_2049, kw_2050, kw_135, kw_2051⟩, by decide +kernel, by decide +kernel, by decide +kernel⟩
theorem ca_LX_game : calV R_law 130 yX11_game cX11_game 3 (some .int) 1 := ⟨⟨kw_1163, kw_1164, kw_1165, kw_122, kw_1166⟩, by decide +kernel, by decide +kernel, by decide +kernel⟩
theorem ca_LM_game : calV R_law 133 yX12_game cX12_game 3 (some .int) 1 := ⟨⟨kw_2052, kw_2053, kw_2054, kw_135, kw_2055⟩, by decide +kernel, by decide +kernel, by decide +kernel⟩
theorem ca_LX_insider : calV R_law 134 yX11_insider cX11_insider 2 (some .int) 1 := ⟨⟨kw_1226, kw_1227, kw_1228, kw_122, kw_1229⟩, by decide +kernel, by decide +kernel, by decide +kernel⟩
theorem ca_LM_insider : calV R_law 137 yX12_insider cX12_insider 2 (some .int) 1 := ⟨⟨kw_2088, kw_2089, kw_2090, kw_135, kw_2091⟩, by decide +kernel, by decide +kernel, by decide +kernel⟩
theorem ca_LX_worst : calV R_law 138 yX11_worst cX11_worst 6 (some .int) 3 := ⟨⟨kw_1234, kw_1235, kw_1236, kw_122, kw_1237⟩, by decide +kernel, by decide +kernel, by decide +kernel⟩
theorem ca_LM_worst : calV R_law 141 yX12_worst cX12_worst 7 (some .int) 3 := ⟨⟨kw_2092, kw_2093, kw_2094, kw_135, kw_2095⟩, by decide +kernel, by decide +kernel, by decide +kernel⟩
theorem ca_LX_may : calV R_law 142 yX11_may cX11_may 5 (some .int) 3 := ⟨⟨kw_1253, kw_1254, kw_1255, kw_122, kw_1256⟩, by decide +kernel, by decide +kernel, by decide +kernel⟩
theorem ca_LM_may : calV R_law 145 yX12_may cX12_may 5 (some .int) 3 := ⟨⟨kw_2104, kw_2105, kw_2106, kw_135, kw_2107⟩, by decide +kernel, by decide +kernel, by decide +kernel⟩
theorem ca_LX_ask : calV R_law 146 yX11_ask cX11_ask 5 (some .int) 3 := ⟨⟨kw_1268, kw_1269, kw_1270, kw_122, kw_1271⟩, by decide +kernel, by decide +kernel, by decide +kernel⟩
theorem ca_LM_ask : calV R_law 149 yX12_ask cX12_ask 11 (some .int) 3 := ⟨⟨kw_2119, kw_2120, kw_2121, kw_135, kw_2122⟩, by decide +kernel, by decide +kernel, by decide +kernel⟩
theorem ca_LX_event : calV R_law 150 yX11_event cX11_event 3 (some .int) 2 := ⟨⟨kw_1278, kw_1279, kw_1280, kw_122, kw_1281⟩, by decide +kernel, by decide +kernel, by decide +kernel⟩
theorem ca_LM_event : calV R_law 153 yX12_event cX12_event 3 (some .int) 2 := ⟨⟨kw_2123, kw_2124, kw_2125, kw_135, kw_2126⟩, by decide +kernel, by decide +kernel, by decide +kernel⟩
theorem ca_LX_rest : calV R_law 154 yX11_rest cX11_rest 2 (some .int) 0 := ⟨⟨kw_1290, kw_1291, kw_1292, kw_122, kw_1293⟩, by decide +kernel, by decide +kernel, by decide +kernel⟩
theorem ca_LM_rest : calV R_law 157 yX12_rest cX12_rest 2 (some .int) 0 := ⟨⟨kw_2127, kw_2128, kw_2129, kw_135, kw_2130⟩, by decide +kernel, by decide +kernel, by decide +kernel⟩
theorem ca_LX_soon : calV R_law 158 yX11_soon cX11_soon 1 (some .int) 0 := ⟨⟨kw_1294, kw_1295, kw_1296, kw_122, kw_1297⟩, by decide +kernel, by decide +kernel, by decide +kernel⟩
theorem ca_LM_soon : calV R_law 161 yX12_soon cX12_soon 2 (some .int) 0 := ⟨⟨kw_2131, kw_2132, kw_2133, kw_135, kw_2134⟩, by decide +kernel, by decide +kernel, by decide +kernel⟩
theorem ca_LX_reached : calV R_law 162 yX11_reached cX11_reached 4 (some .int) 2 := ⟨⟨kw_1303, kw_1304, kw_1305, kw_122, kw_1306⟩, by decide +kernel, by decide +kernel, by decide +kernel⟩
theorem ca_LM_reached : calV R_law 165 yX12_reached cX12_reached 6 (some .int) 2 := ⟨⟨kw_2135, kw_2136, kw_2137, kw_135, kw_2138⟩, by decide +kernel, by decide +kernel, by decide +kernel⟩
theorem ca_LX_walk : calV R_law 166 yX11_walk cX11_walk 3 (some .int) 2 := ⟨⟨kw_1343, kw_1344, kw_1345, kw_122, kw_1346⟩, by decide +kernel, by decide +kernel, by decide +kernel⟩
theorem ca_LM_walk : calV R_law 169 yX12_walk cX12_walk 3 (some .int) 2 := ⟨⟨kw_2143, kw_2144, kw_2145, kw_135, kw_2146⟩, by decide +kernel, by decide +kernel, by decide +kernel⟩
theorem ca_LX_home : calV R_law 170 yX11_home cX11_home 3 (some .int) 1 := ⟨⟨kw_1351, kw_1352, kw_1353, kw_122, kw_1354⟩, by decide +kernel, by decide +kernel, by decide +kernel⟩
theorem ca_LM_home : calV R_law 173 yX12_home cX12_home 3 (some .int) 1 := ⟨⟨kw_2147, kw_2148, kw_2149, kw_135, kw_2150⟩, by decide +kernel, by decide +kernel, by decide +kernel⟩
theorem ca_LX_stands : calV R_law 174 yX11_stands cX11_stands 3 (some .int) 2 := ⟨⟨kw_1355, kw_1356, kw_1357, kw_122, kw_1358⟩, by decide +kernel, by decide +kernel, by decide +kernel⟩
theorem ca_LM_stands : calV R_law 177 yX12_stands cX12_stands 3 (some .int) 2 := ⟨⟨kw_2151, kw_2152, kw_2153, kw_135, kw_2154⟩, by decide +kernel, by decide +kernel, by decide +kernel⟩
theorem ca_LX_begins : calV R_law 178 yX11_begins cX11_begins 3 (some .int) 2 := ⟨⟨kw_1367, kw_1368, kw_1369, kw_122, kw_1370⟩, by decide +kernel, by decide +kernel, by decide +kernel⟩
theorem ca_LM_begins : calV R_law 181 yX12_begins cX12_begins 3 (some .int) 2 := ⟨⟨kw_2159, kw_2160, kw_2161, kw_135, kw_2162⟩, by decide +kernel, by decide +kernel, by decide +kernel⟩
theorem ca_LX_end : calV R_law 182 yX11_end cX11_end 3 (some .int) 2 := ⟨⟨kw_1377, kw_1378, kw_1379, kw_122, kw_1380⟩, by decide +kernel, by decide +kernel, by decide +kernel⟩
theorem ca_LM_end : calV R_law 185 yX12_end cX12_end 4 (some .int) 2 := ⟨⟨kw_2167, kw_2168, kw_2169, kw_135, kw_2170⟩, by decide +kernel, by decide +kernel, by decide +kernel⟩
theorem ca_LX_orderAt : calV R_law 186 yX11_orderAt cX11_orderAt 4 (some .int) 3 := ⟨⟨kw_1403, kw_1404, kw_1405, kw_122, kw_1406⟩, by decide +kernel, by decide +kernel, by decide +kernel⟩
theorem ca_LM_orderAt : calV R_law 189 yX12_orderAt cX12_orderAt 5 (some .int) 3 := ⟨⟨kw_2186, kw_2187, kw_2188, kw_135, kw_2189⟩, by decide +kernel, by decide +kernel, by decide +kernel⟩
theorem ca_LX_image : calV R_law 190 yX11_image cX11_image 2 (some .int) 1 := ⟨⟨kw_1415, kw_1416, kw_1417, kw_122, kw_1418⟩, by decide +kernel, by decide +kernel, by decide +kernel⟩
theorem ca_LM_image : calV R_law 193 yX12_image cX12_image 4 (some .int) 1 := ⟨⟨kw_2190, kw_2191, kw_2192, kw_135, kw_2193⟩, by decide +kernel, by decide +kernel, by decide +kernel⟩
theorem ca_LX_differ : calV R_law 194 yX11_differ cX11_differ 2 (some .int) 1 := ⟨⟨kw_1424, kw_1425, kw_1426, kw_122, kw_1427⟩, by decide +kernel, by decide +kernel, by decide +kernel⟩
theorem ca_LM_differ : calV R_law 197 yX12_differ cX12_differ 5 (some .int) 1 := ⟨⟨kw_2194, kw_2195, kw_2196, kw_135, kw_2197⟩, by decide +kernel, by decide +kernel, by decide +kernel⟩
theorem ca_LX_from : calV R_law 198 yX11_from cX11_from 2 (some .int) 1 := ⟨⟨kw_1432, kw_1433, kw_1434, kw_122, kw_1435⟩, by decide +kernel, by decide +kernel, by decide +kernel⟩
theorem ca_LM_from : calV R_law 201 yX12_from cX12_from 4 (some .int) 1 := ⟨⟨kw_2198, kw_2199, kw_2200, kw_135, kw_2201⟩, by decide +kernel, by decide +kernel, by decide +kernel⟩
theorem ca_LX_count : calV R_law 202 yX11_count cX11_count 2 (some .int) 1 := ⟨⟨kw_1440, kw_1441, kw_1442, kw_122, kw_1443⟩, by decide +kernel, by decide +kernel, by decide +kernel⟩
theorem ca_LM_count : calV R_law 205 yX12_count cX12_count 4 (some .int) 1 := ⟨⟨kw_2202, kw_2203, kw_2204, kw_135, kw_2205⟩, by decide +kernel, by decide +kernel, by decide +kernel⟩
theorem ca_LX_digest : calV R_law 206 yX11_digest cX11_digest 4 (some .long) 0 := ⟨⟨kw_1448, kw_1449, kw_1450, kw_122, kw_1451⟩, by decide +kernel, by decide +kernel, by decide +kernel⟩
theorem ca_LM_digest : calV R_law 210 yX12_digest cX12_digest 5 (some .long) 0 := ⟨⟨kw_2206, kw_2207, kw_2208, kw_135, kw_2209⟩, by decide +kernel, by decide +kernel, by decide +kernel⟩
section LWO
variable {p : Program} {l : Launch} {e : Env} {s : State} {m : MethodId} {below : List Frame} {meth : Method} {c : Code} {H : Heap} {locs : List Loc} {Q : State → Prop} {ls : Array Slot} {D : va_G} {A : Nat → Prop} {cI cJ cZ cR : ClassId} {st b L : Nat} {xs : Nat → Int32}
set_option maxHeartbeats 4000000 in
set_option maxRecDepth 100000 in
theorem lw_op0 (C : lwC p s m meth c D cI cJ cZ cR st A b L xs) {am gm amm : Nat → Nat} {tx tm tx' tm' : St} {i : Int32} (h1 : vp_in (i + (1 : Int32)) L) (h2 : vp_in (i + (2 : Int32)) L) (h3 : vp_in (i + (3 : Int32)) L) (h4 : vp_in (i + (4 : Int32)) L) (ho : ∃ r : Int32, x11_step tx (xs (i + (1 : Int32)).toNatClampNeg) (xs (i + (2 : Int32)).toNatClampNeg) (xs (i + (3 : Int32)).toNatClampNeg) (xs (i + (4 : Int32)).toNatClampNeg) = some (r, tx') ∧ m_step tm (xs (i + (1 : Int32)).toNatClampNeg) (xs (i + (2 : Int32)).toNatClampNeg) (xs (i + (3 : Int32)).toNatClampNeg) (xs (i + (4 : Int32)).toNatClampNeg) = some (r, tm')) (hR : 124 + gN tx' 9000 ≤ 600000 ∧ 473133 + gN tx' 9001 ≤ 7302250) (hW : wl D A s (wX cI cJ cZ cR am gm tx ++ wM cI cJ cZ amm tm) H locs) (hl : lv_has ls 4 [(0, .ref b), (1, .ref (am 2011)), (2, .ref (amm 68)), (3, .int i)]) (K : ∀ (gm : Nat → Nat) (H : Heap) (locs : List Loc), wl D A s (wX cI cJ cZ cR am gm tx' ++ wM cI cJ cZ amm tm') H locs → W p l e room_1 s m #[.ref b] below meth c H locs (124 + gN tx' 9000) (473133 + gN tx' 9001) Q (F0 m 1635 ls [])) : W p l e room_1 s m #[.ref b] below meth c H locs (124 + gN tx 9000) (473133 + gN tx 9001) Q (F0 m 240 ls []) := by
  obtain ⟨r, hr1, hr2⟩ := ho
  obtain ⟨C0, CM, hX, hbl, hbA⟩ := C
  have hx := C0.1.1
  have hb := C0.1.2.1
  have hm : mle tx tx' := mm_x11_step _ _ _ _ _ _ hr1
  refine lv_aload_n hx hb dL_law_240 rfl (lv_at hl 1 rfl) ?_
  refine lv_aload_n hx hb dL_law_241 rfl (lv_at hl 0 rfl) ?_
  refine lv_iload_n hx hb dL_law_242 rfl (lv_at hl 3 rfl) ?_
  refine lv_iconst (v := (1 : Int32)) hx hb dL_law_243 (by decide) ?_
  refine lv_iadd hx hb dL_law_244 ?_
  refine va_sld hx hb hX hbl hbA hW.2.2 h1 dL_law_245 ?_
  refine lv_aload_n hx hb dL_law_246 rfl (lv_at hl 0 rfl) ?_
  refine lv_iload_n hx hb dL_law_247 rfl (lv_at hl 3 rfl) ?_
  refine lv_iconst (v := (2 : Int32)) hx hb dL_law_248 (by decide) ?_
  refine lv_iadd hx hb dL_law_249 ?_
  refine va_sld hx hb hX hbl hbA hW.2.2 h2 dL_law_250 ?_
  refine lv_aload_n hx hb dL_law_251 rfl (lv_at hl 0 rfl) ?_
  refine lv_iload_n hx hb dL_law_252 rfl (lv_at hl 3 rfl) ?_
  refine lv_iconst (v := (3 : Int32)) hx hb dL_law_253 (by decide) ?_
  refine lv_iadd hx hb dL_law_254 ?_
  refine va_sld hx hb hX hbl hbA hW.2.2 h3 dL_law_255 ?_
  refine lv_aload_n hx hb dL_law_256 rfl (lv_at hl 0 rfl) ?_
  refine lv_iload_n hx hb dL_law_257 rfl (lv_at hl 3 rfl) ?_
  refine lv_iconst (v := (4 : Int32)) hx hb dL_law_258 (by decide) ?_
  refine lv_iadd hx hb dL_law_259 ?_
  refine va_sld hx hb hX hbl hbA hW.2.2 h4 dL_law_260 ?_
  refine bkIs (wf := fun (_ : Unit) => wX cI cJ cZ cR am gm tx') C0.1 hW (fun hWc => runVX (As := [.int (xs (i + (1 : Int32)).toNatClampNeg), .int (xs (i + (2 : Int32)).toNatClampNeg), .int (xs (i + (3 : Int32)).toNatClampNeg), .int (xs (i + (4 : Int32)).toNatClampNeg)]) (rest := []) C0 hWc (c_x11_step l _ tx (xs (i + (1 : Int32)).toNatClampNeg) (xs (i + (2 : Int32)).toNatClampNeg) (xs (i + (3 : Int32)).toNatClampNeg) (xs (i + (4 : Int32)).toNatClampNeg) hr1) ca_LX_step 11 11 rfl rfl rfl rfl rfl ⟨rfl, rfl⟩ ⟨Nat.le_of_ble_eq_true rfl, Nat.le_of_ble_eq_true rfl⟩ (Nat.le_of_ble_eq_true rfl) hl.1 dL_law_261 ⟨by have := hm.1; have := hR.1; show _ ≤ 600000; omega, by have := hm.2; have := hR.2; show _ ≤ 7302250; omega⟩) (fun g1 H locs hW => ?_)
  refine W.widen (k := 124 + gN tx' 9000) (n := 473133 + gN tx' 9001) (by have := hm.1; omega) (by have := hm.2; omega) ?_
  refine lv_aload_n hx hb dL_law_264 rfl (lv_at hl 2 rfl) ?_
  refine lv_aload_n hx hb dL_law_265 rfl (lv_at hl 0 rfl) ?_
  refine lv_iload_n hx hb dL_law_266 rfl (lv_at hl 3 rfl) ?_
  refine lv_iconst (v := (1 : Int32)) hx hb dL_law_267 (by decide) ?_
  refine lv_iadd hx hb dL_law_268 ?_
  refine va_sld hx hb hX hbl hbA hW.2.2 h1 dL_law_269 ?_
  refine lv_aload_n hx hb dL_law_270 rfl (lv_at hl 0 rfl) ?_
  refine lv_iload_n hx hb dL_law_271 rfl (lv_at hl 3 rfl) ?_
  refine lv_iconst (v := (2 : Int32)) hx hb dL_law_272 (by decide) ?_
  refine lv_iadd hx hb dL_law_273 ?_
  refine va_sld hx hb hX hbl hbA hW.2.2 h2 dL_law_274 ?_
  refine lv_aload_n hx hb dL_law_275 rfl (lv_at hl 0 rfl) ?_
  refine lv_iload_n hx hb dL_law_276 rfl (lv_at hl 3 rfl) ?_
  refine lv_iconst (v := (3 : Int32)) hx hb dL_law_277 (by decide) ?_
  refine lv_iadd hx hb dL_law_278 ?_
  refine va_sld hx hb hX hbl hbA hW.2.2 h3 dL_law_279 ?_
  refine lv_aload_n hx hb dL_law_280 rfl (lv_at hl 0 rfl) ?_
  refine lv_iload_n hx hb dL_law_281 rfl (lv_at hl 3 rfl) ?_
  refine lv_iconst (v := (4 : Int32)) hx hb dL_law_282 (by decide) ?_
  refine lv_iadd hx hb dL_law_283 ?_
  refine va_sld hx hb hX hbl hbA hW.2.2 h4 dL_law_284 ?_
  refine bkIs (wf := fun (_ : Unit) => wM cI cJ cZ amm tm') CM hW (fun hWc => runV (As := [.int (xs (i + (1 : Int32)).toNatClampNeg), .int (xs (i + (2 : Int32)).toNatClampNeg), .int (xs (i + (3 : Int32)).toNatClampNeg), .int (xs (i + (4 : Int32)).toNatClampNeg)]) (rest := [.int r]) CM hWc (c_m_step l _ tm (xs (i + (1 : Int32)).toNatClampNeg) (xs (i + (2 : Int32)).toNatClampNeg) (xs (i + (3 : Int32)).toNatClampNeg) (xs (i + (4 : Int32)).toNatClampNeg) hr2) ca_LM_step 0 12 rfl rfl rfl rfl rfl ⟨rfl, rfl⟩ ⟨Nat.le_of_ble_eq_true rfl, Nat.le_of_ble_eq_true rfl⟩ (Nat.le_of_ble_eq_true rfl) hl.1 dL_law_285 ⟨by have := hR.1; show _ ≤ 600000; omega, by have := hR.2; show _ ≤ 7302250; omega⟩) (fun _ H locs hW => ?_)
  exact lv_icmp_eq (tgt := 1635) hx hb dL_law_288 (by decide) (fun _ => K gm H locs hW) (fun hne => absurd rfl hne)
set_option maxHeartbeats 4000000 in
set_option maxRecDepth 100000 in
theorem lw_op1 (C : lwC p s m meth c D cI cJ cZ cR st A b L xs) {am gm amm : Nat → Nat} {tx tm tx' tm' : St} {i : Int32} (h1 : vp_in (i + (1 : Int32)) L) (h2 : vp_in (i + (2 : Int32)) L) (h3 : vp_in (i + (3 : Int32)) L) (h4 : vp_in (i + (4 : Int32)) L) (ho : ∃ r : Int32, x11_trace tx (xs (i + (1 : Int32)).toNatClampNeg) (xs (i + (2 : Int32)).toNatClampNeg) (xs (i + (3 : Int32)).toNatClampNeg) = some (r, tx') ∧ m_trace tm (xs (i + (1 : Int32)).toNatClampNeg) (xs (i + (2 : Int32)).toNatClampNeg) (xs (i + (3 : Int32)).toNatClampNeg) = some (r, tm')) (hR : 124 + gN tx' 9000 ≤ 600000 ∧ 473133 + gN tx' 9001 ≤ 7302250) (hW : wl D A s (wX cI cJ cZ cR am gm tx ++ wM cI cJ cZ amm tm) H locs) (hl : lv_has ls 4 [(0, .ref b), (1, .ref (am 2011)), (2, .ref (amm 68)), (3, .int i)]) (K : ∀ (gm : Nat → Nat) (H : Heap) (locs : List Loc), wl D A s (wX cI cJ cZ cR am gm tx' ++ wM cI cJ cZ amm tm') H locs → W p l e room_1 s m #[.ref b] below meth c H locs (124 + gN tx' 9000) (473133 + gN tx' 9001) Q (F0 m 1635 ls [])) : W p l e room_1 s m #[.ref b] below meth c H locs (124 + gN tx 9000) (473133 + gN tx 9001) Q (F0 m 293 ls []) := by
  obtain ⟨r, hr1, hr2⟩ := ho
  obtain ⟨C0, CM, hX, hbl, hbA⟩ := C
  have hx := C0.1.1
  have hb := C0.1.2.1
  have hm : mle tx tx' := mm_x11_trace _ _ _ _ _ hr1
  refine lv_aload_n hx hb dL_law_293 rfl (lv_at hl 1 rfl) ?_
  refine lv_aload_n hx hb dL_law_294 rfl (lv_at hl 0 rfl) ?_
  refine lv_iload_n hx hb dL_law_295 rfl (lv_at hl 3 rfl) ?_
  refine lv_iconst (v := (1 : Int32)) hx hb dL_law_296 (by decide) ?_
  refine lv_iadd hx hb dL_law_297 ?_
  refine va_sld hx hb hX hbl hbA hW.2.2 h1 dL_law_298 ?_
  refine lv_aload_n hx hb dL_law_299 rfl (lv_at hl 0 rfl) ?_
  refine lv_iload_n hx hb dL_law_300 rfl (lv_at hl 3 rfl) ?_
  refine lv_iconst (v := (2 : Int32)) hx hb dL_law_301 (by decide) ?_
  refine lv_iadd hx hb dL_law_302 ?_
  refine va_sld hx hb hX hbl hbA hW.2.2 h2 dL_law_303 ?_
  refine lv_aload_n hx hb dL_law_304 rfl (lv_at hl 0 rfl) ?_
  refine lv_iload_n hx hb dL_law_305 rfl (lv_at hl 3 rfl) ?_
  refine lv_iconst (v := (3 : Int32)) hx hb dL_law_306 (by decide) ?_
  refine lv_iadd hx hb dL_law_307 ?_
  refine va_sld hx hb hX hbl hbA hW.2.2 h3 dL_law_308 ?_
  refine bkIs (wf := fun (_ : Unit) => wX cI cJ cZ cR am gm tx') C0.1 hW (fun hWc => runVX (As := [.int (xs (i + (1 : Int32)).toNatClampNeg), .int (xs (i + (2 : Int32)).toNatClampNeg), .int (xs (i + (3 : Int32)).toNatClampNeg)]) (rest := []) C0 hWc (c_x11_trace l _ tx (xs (i + (1 : Int32)).toNatClampNeg) (xs (i + (2 : Int32)).toNatClampNeg) (xs (i + (3 : Int32)).toNatClampNeg) hr1) ca_LX_trace 11 11 rfl rfl rfl rfl rfl ⟨rfl, rfl⟩ ⟨Nat.le_of_ble_eq_true rfl, Nat.le_of_ble_eq_true rfl⟩ (Nat.le_of_ble_eq_true rfl) hl.1 dL_law_309 ⟨by have := hm.1; have := hR.1; show _ ≤ 600000; omega, by have := hm.2; have := hR.2; show _ ≤ 7302250; omega⟩) (fun g1 H locs hW => ?_)
  refine W.widen (k := 124 + gN tx' 9000) (n := 473133 + gN tx' 9001) (by have := hm.1; omega) (by have := hm.2; omega) ?_
  refine lv_aload_n hx hb dL_law_312 rfl (lv_at hl 2 rfl) ?_
  refine lv_aload_n hx hb dL_law_313 rfl (lv_at hl 0 rfl) ?_
  refine lv_iload_n hx hb dL_law_314 rfl (lv_at hl 3 rfl) ?_
  refine lv_iconst (v := (1 : Int32)) hx hb dL_law_315 (by decide) ?_
  refine lv_iadd hx hb dL_law_316 ?_
  refine va_sld hx hb hX hbl hbA hW.2.2 h1 dL_law_317 ?_
  refine lv_aload_n hx hb dL_law_318 rfl (lv_at hl 0 rfl) ?_
  refine lv_iload_n hx hb dL_law_319 rfl (lv_at hl 3 rfl) ?_
  refine lv_iconst (v := (2 : Int32)) hx hb dL_law_320 (by decide) ?_
  refine lv_iadd hx hb dL_law_321 ?_
  refine va_sld hx hb hX hbl hbA hW.2.2 h2 dL_law_322 ?_
  refine lv_aload_n hx hb dL_law_323 rfl (lv_at hl 0 rfl) ?_
  refine lv_iload_n hx hb dL_law_324 rfl (lv_at hl 3 rfl) ?_
  refine lv_iconst (v := (3 : Int32)) hx hb dL_law_325 (by decide) ?_
  refine lv_iadd hx hb dL_law_326 ?_
  refine va_sld hx hb hX hbl hbA hW.2.2 h3 dL_law_327 ?_
  refine bkIs (wf := fun (_ : Unit) => wM cI cJ cZ amm tm') CM hW (fun hWc => runV (As := [.int (xs (i + (1 : Int32)).toNatClampNeg), .int (xs (i + (2 : Int32)).toNatClampNeg), .int (xs (i + (3 : Int32)).toNatClampNeg)]) (rest := [.int r]) CM hWc (c_m_trace l _ tm (xs (i + (1 : Int32)).toNatClampNeg) (xs (i + (2 : Int32)).toNatClampNeg) (xs (i + (3 : Int32)).toNatClampNeg) hr2) ca_LM_trace 0 12 rfl rfl rfl rfl rfl ⟨rfl, rfl⟩ ⟨Nat.le_of_ble_eq_true rfl, Nat.le_of_ble_eq_true rfl⟩ (Nat.le_of_ble_eq_true rfl) hl.1 dL_law_328 ⟨by have := hR.1; show _ ≤ 600000; omega, by have := hR.2; show _ ≤ 7302250; omega⟩) (fun _ H locs hW => ?_)
  exact lv_icmp_eq (tgt := 1635) hx hb dL_law_331 (by decide) (fun _ => K gm H locs hW) (fun hne => absurd rfl hne)
set_option maxHeartbeats 4000000 in
set_option maxRecDepth 100000 in
theorem lw_op2 (C : lwC p s m meth c D cI cJ cZ cR st A b L xs) {am gm amm : Nat → Nat} {tx tm tx' tm' : St} {i : Int32} (h1 : vp_in (i + (1 : Int32)) L) (h2 : vp_in (i + (2 : Int32)) L) (h3 : vp_in (i + (3 : Int32)) L) (h4 : vp_in (i + (4 : Int32)) L) (ho : ∃ r : Int32, x11_about tx (xs (i + (1 : Int32)).toNatClampNeg) (xs (i + (2 : Int32)).toNatClampNeg) = some r ∧ m_about tm (xs (i + (1 : Int32)).toNatClampNeg) (xs (i + (2 : Int32)).toNatClampNeg) = some r ∧ tx' = tx ∧ tm' = tm) (hR : 124 + gN tx' 9000 ≤ 600000 ∧ 473133 + gN tx' 9001 ≤ 7302250) (hW : wl D A s (wX cI cJ cZ cR am gm tx ++ wM cI cJ cZ amm tm) H locs) (hl : lv_has ls 4 [(0, .ref b), (1, .ref (am 2011)), (2, .ref (amm 68)), (3, .int i)]) (K : ∀ (gm : Nat → Nat) (H : Heap) (locs : List Loc), wl D A s (wX cI cJ cZ cR am gm tx' ++ wM cI cJ cZ amm tm') H locs → W p l e room_1 s m #[.ref b] below meth c H locs (124 + gN tx' 9000) (473133 + gN tx' 9001) Q (F0 m 1635 ls [])) : W p l e room_1 s m #[.ref b] below meth c H locs (124 + gN tx 9000) (473133 + gN tx 9001) Q (F0 m 336 ls []) := by
  obtain ⟨r, hr1, hr2, rfl, rfl⟩ := ho
  obtain ⟨C0, CM, hX, hbl, hbA⟩ := C
  have hx := C0.1.1
  have hb := C0.1.2.1
  have hm : mle tx' tx' := mle.rfl
  refine lv_aload_n hx hb dL_law_336 rfl (lv_at hl 1 rfl) ?_
  refine lv_aload_n hx hb dL_law_337 rfl (lv_at hl 0 rfl) ?_
  refine lv_iload_n hx hb dL_law_338 rfl (lv_at hl 3 rfl) ?_
  refine lv_iconst (v := (1 : Int32)) hx hb dL_law_339 (by decide) ?_
  refine lv_iadd hx hb dL_law_340 ?_
  refine va_sld hx hb hX hbl hbA hW.2.2 h1 dL_law_341 ?_
  refine lv_aload_n hx hb dL_law_342 rfl (lv_at hl 0 rfl) ?_
  refine lv_iload_n hx hb dL_law_343 rfl (lv_at hl 3 rfl) ?_
  refine lv_iconst (v := (2 : Int32)) hx hb dL_law_344 (by decide) ?_
  refine lv_iadd hx hb dL_law_345 ?_
  refine va_sld hx hb hX hbl hbA hW.2.2 h2 dL_law_346 ?_
  refine bkIs (wf := fun (_ : Unit) => wX cI cJ cZ cR am gm tx') C0.1 hW (fun hWc => runVX (As := [.int (xs (i + (1 : Int32)).toNatClampNeg), .int (xs (i + (2 : Int32)).toNatClampNeg)]) (rest := []) C0 hWc (c_x11_about l _ tx' (xs (i + (1 : Int32)).toNatClampNeg) (xs (i + (2 : Int32)).toNatClampNeg) hr1) ca_LX_about 11 11 rfl rfl rfl rfl rfl ⟨rfl, rfl⟩ ⟨Nat.le_of_ble_eq_true rfl, Nat.le_of_ble_eq_true rfl⟩ (Nat.le_of_ble_eq_true rfl) hl.1 dL_law_347 ⟨by have := hm.1; have := hR.1; show _ ≤ 600000; omega, by have := hm.2; have := hR.2; show _ ≤ 7302250; omega⟩) (fun g1 H locs hW => ?_)
  refine W.widen (k := 124 + gN tx' 9000) (n := 473133 + gN tx' 9001) (by have := hm.1; omega) (by have := hm.2; omega) ?_
  refine lv_aload_n hx hb dL_law_350 rfl (lv_at hl 2 rfl) ?_
  refine lv_aload_n hx hb dL_law_351 rfl (lv_at hl 0 rfl) ?_
  refine lv_iload_n hx hb dL_law_352 rfl (lv_at hl 3 rfl) ?_
  refine lv_iconst (v := (1 : Int32)) hx hb dL_law_353 (by decide) ?_
  refine lv_iadd hx hb dL_law_354 ?_
  refine va_sld hx hb hX hbl hbA hW.2.2 h1 dL_law_355 ?_
  refine lv_aload_n hx hb dL_law_356 rfl (lv_at hl 0 rfl) ?_
  refine lv_iload_n hx hb dL_law_357 rfl (lv_at hl 3 rfl) ?_
  refine lv_iconst (v := (2 : Int32)) hx hb dL_law_358 (by decide) ?_
  refine lv_iadd hx hb dL_law_359 ?_
  refine va_sld hx hb hX hbl hbA hW.2.2 h2 dL_law_360 ?_
  refine bkIs (wf := fun (_ : Unit) => wM cI cJ cZ amm tm') CM hW (fun hWc => runV (As := [.int (xs (i + (1 : Int32)).toNatClampNeg), .int (xs (i + (2 : Int32)).toNatClampNeg)]) (rest := [.int r]) CM hWc (c_m_about l _ tm' (xs (i + (1 : Int32)).toNatClampNeg) (xs (i + (2 : Int32)).toNatClampNeg) hr2) ca_LM_about 0 12 rfl rfl rfl rfl rfl ⟨rfl, rfl⟩ ⟨Nat.le_of_ble_eq_true rfl, Nat.le_of_ble_eq_true rfl⟩ (Nat.le_of_ble_eq_true rfl) hl.1 dL_law_361 ⟨by have := hR.1; show _ ≤ 600000; omega, by have := hR.2; show _ ≤ 7302250; omega⟩) (fun _ H locs hW => ?_)
  exact lv_icmp_eq (tgt := 1635) hx hb dL_law_364 (by decide) (fun _ => K gm H locs hW) (fun hne => absurd rfl hne)
set_option maxHeartbeats 4000000 in
set_option maxRecDepth 100000 in
theorem lw_op3 (C : lwC p s m meth c D cI cJ cZ cR st A b L xs) {am gm amm : Nat → Nat} {tx tm tx' tm' : St} {i : Int32} (h1 : vp_in (i + (1 : Int32)) L) (h2 : vp_in (i + (2 : Int32)) L) (h3 : vp_in (i + (3 : Int32)) L) (h4 : vp_in (i + (4 : Int32)) L) (ho : ∃ r : Int32, x11_write tx (xs (i + (1 : Int32)).toNatClampNeg) = some (r, tx') ∧ m_write tm (xs (i + (1 : Int32)).toNatClampNeg) = some (r, tm')) (hR : 124 + gN tx' 9000 ≤ 600000 ∧ 473133 + gN tx' 9001 ≤ 7302250) (hW : wl D A s (wX cI cJ cZ cR am gm tx ++ wM cI cJ cZ amm tm) H locs) (hl : lv_has ls 4 [(0, .ref b), (1, .ref (am 2011)), (2, .ref (amm 68)), (3, .int i)]) (K : ∀ (gm : Nat → Nat) (H : Heap) (locs : List Loc), wl D A s (wX cI cJ cZ cR am gm tx' ++ wM cI cJ cZ amm tm') H locs → W p l e room_1 s m #[.ref b] below meth c H locs (124 + gN tx' 9000) (473133 + gN tx' 9001) Q (F0 m 1635 ls [])) : W p l e room_1 s m #[.ref b] below meth c H locs (124 + gN tx 9000) (473133 + gN tx 9001) Q (F0 m 369 ls []) := by
  obtain ⟨r, hr1, hr2⟩ := ho
  obtain ⟨C0, CM, hX, hbl, hbA⟩ := C
  have hx := C0.1.1
  have hb := C0.1.2.1
  have hm : mle tx tx' := mm_x11_write _ _ _ hr1
  refine lv_aload_n hx hb dL_law_369 rfl (lv_at hl 1 rfl) ?_
  refine lv_aload_n hx hb dL_law_370 rfl (lv_at hl 0 rfl) ?_
  refine lv_iload_n hx hb dL_law_371 rfl (lv_at hl 3 rfl) ?_
  refine lv_iconst (v := (1 : Int32)) hx hb dL_law_372 (by decide) ?_
  refine lv_iadd hx hb dL_law_373 ?_
  refine va_sld hx hb hX hbl hbA hW.2.2 h1 dL_law_374 ?_
  refine bkIs (wf := fun (_ : Unit) => wX cI cJ cZ cR am gm tx') C0.1 hW (fun hWc => runVX (As := [.int (xs (i + (1 : Int32)).toNatClampNeg)]) (rest := []) C0 hWc (c_x11_write l _ tx (xs (i + (1 : Int32)).toNatClampNeg) hr1) ca_LX_write 11 11 rfl rfl rfl rfl rfl ⟨rfl, rfl⟩ ⟨Nat.le_of_ble_eq_true rfl, Nat.le_of_ble_eq_true rfl⟩ (Nat.le_of_ble_eq_true rfl) hl.1 dL_law_375 ⟨by have := hm.1; have := hR.1; show _ ≤ 600000; omega, by have := hm.2; have := hR.2; show _ ≤ 7302250; omega⟩) (fun g1 H locs hW => ?_)
  refine W.widen (k := 124 + gN tx' 9000) (n := 473133 + gN tx' 9001) (by have := hm.1; omega) (by have := hm.2; omega) ?_
  refine lv_aload_n hx hb dL_law_378 rfl (lv_at hl 2 rfl) ?_
  refine lv_aload_n hx hb dL_law_379 rfl (lv_at hl 0 rfl) ?_
  refine lv_iload_n hx hb dL_law_380 rfl (lv_at hl 3 rfl) ?_
  refine lv_iconst (v := (1 : Int32)) hx hb dL_law_381 (by decide) ?_
  refine lv_iadd hx hb dL_law_382 ?_
  refine va_sld hx hb hX hbl hbA hW.2.2 h1 dL_law_383 ?_
  refine bkIs (wf := fun (_ : Unit) => wM cI cJ cZ amm tm') CM hW (fun hWc => runV (As := [.int (xs (i + (1 : Int32)).toNatClampNeg)]) (rest := [.int r]) CM hWc (c_m_write l _ tm (xs (i + (1 : Int32)).toNatClampNeg) hr2) ca_LM_write 0 12 rfl rfl rfl rfl rfl ⟨rfl, rfl⟩ ⟨Nat.le_of_ble_eq_true rfl, Nat.le_of_ble_eq_true rfl⟩ (Nat.le_of_ble_eq_true rfl) hl.1 dL_law_384 ⟨by have := hR.1; show _ ≤ 600000; omega, by have := hR.2; show _ ≤ 7302250; omega⟩) (fun _ H locs hW => ?_)
  exact lv_icmp_eq (tgt := 1635) hx hb dL_law_387 (by decide) (fun _ => K gm H locs hW) (fun hne => absurd rfl hne)
set_option maxHeartbeats 4000000 in
set_option maxRecDepth 100000 in
theorem lw_op4 (C : lwC p s m meth c D cI cJ cZ cR st A b L xs) {am gm amm : Nat → Nat} {tx tm tx' tm' : St} {i : Int32} (h1 : vp_in (i + (1 : Int32)) L) (h2 : vp_in (i + (2 : Int32)) L) (h3 : vp_in (i + (3 : Int32)) L) (h4 : vp_in (i + (4 : Int32)) L) (ho : ∃ r : Int32, x11_erase tx = some (r, tx') ∧ m_erase tm = some (r, tm')) (hR : 124 + gN tx' 9000 ≤ 600000 ∧ 473133 + gN tx' 9001 ≤ 7302250) (hW : wl D A s (wX cI cJ cZ cR am gm tx ++ wM cI cJ cZ amm tm) H locs) (hl : lv_has ls 4 [(0, .ref b), (1, .ref (am 2011)), (2, .ref (amm 68)), (3, .int i)]) (K : ∀ (gm : Nat → Nat) (H : Heap) (locs : List Loc), wl D A s (wX cI cJ cZ cR am gm tx' ++ wM cI cJ cZ amm tm') H locs → W p l e room_1 s m #[.ref b] below meth c H locs (124 + gN tx' 9000) (473133 + gN tx' 9001) Q (F0 m 1635 ls [])) : W p l e room_1 s m #[.ref b] below meth c H locs (124 + gN tx 9000) (473133 + gN tx 9001) Q (F0 m 392 ls []) := by
  obtain ⟨r, hr1, hr2⟩ := ho
  obtain ⟨C0, CM, hX, hbl, hbA⟩ := C
  have hx := C0.1.1
  have hb := C0.1.2.1
  have hm : mle tx tx' := mm_x11_erase _  _ hr1
  refine lv_aload_n hx hb dL_law_392 rfl (lv_at hl 1 rfl) ?_
  refine bkIs (wf := fun (_ : Unit) => wX cI cJ cZ cR am gm tx') C0.1 hW (fun hWc => runVX (As := []) (rest := []) C0 hWc (c_x11_erase l _ tx  hr1) ca_LX_erase 11 11 rfl rfl rfl rfl rfl ⟨rfl, rfl⟩ ⟨Nat.le_of_ble_eq_true rfl, Nat.le_of_ble_eq_true rfl⟩ (Nat.le_of_ble_eq_true rfl) hl.1 dL_law_393 ⟨by have := hm.1; have := hR.1; show _ ≤ 600000; omega, by have := hm.2; have := hR.2; show _ ≤ 7302250; omega⟩) (fun g1 H locs hW => ?_)
  refine W.widen (k := 124 + gN tx' 9000) (n := 473133 + gN tx' 9001) (by have := hm.1; omega) (by have := hm.2; omega) ?_
  refine lv_aload_n hx hb dL_law_396 rfl (lv_at hl 2 rfl) ?_
  refine bkIs (wf := fun (_ : Unit) => wM cI cJ cZ amm tm') CM hW (fun hWc => runV (As := []) (rest := [.int r]) CM hWc (c_m_erase l _ tm  hr2) ca_LM_erase 0 12 rfl rfl rfl rfl rfl ⟨rfl, rfl⟩ ⟨Nat.le_of_ble_eq_true rfl, Nat.le_of_ble_eq_true rfl⟩ (Nat.le_of_ble_eq_true rfl) hl.1 dL_law_397 ⟨by have := hR.1; show _ ≤ 600000; omega, by have := hR.2; show _ ≤ 7302250; omega⟩) (fun _ H locs hW => ?_)
  exact lv_icmp_eq (tgt := 1635) hx hb dL_law_400 (by decide) (fun _ => K gm H locs hW) (fun hne => absurd rfl hne)
set_option maxHeartbeats 4000000 in
set_option maxRecDepth 100000 in
theorem lw_op5 (C : lwC p s m meth c D cI cJ cZ cR st A b L xs) {am gm amm : Nat → Nat} {tx tm tx' tm' : St} {i : Int32} (h1 : vp_in (i + (1 : Int32)) L) (h2 : vp_in (i + (2 : Int32)) L) (h3 : vp_in (i + (3 : Int32)) L) (h4 : vp_in (i + (4 : Int32)) L) (ho : ∃ r : Int32, x11_make tx (xs (i + (1 : Int32)).toNatClampNeg) = some (r, tx') ∧ m_make tm (xs (i + (1 : Int32)).toNatClampNeg) = some (r, tm')) (hR : 124 + gN tx' 9000 ≤ 600000 ∧ 473133 + gN tx' 9001 ≤ 7302250) (hW : wl D A s (wX cI cJ cZ cR am gm tx ++ wM cI cJ cZ amm tm) H locs) (hl : lv_has ls 4 [(0, .ref b), (1, .ref (am 2011)), (2, .ref (amm 68)), (3, .int i)]) (K : ∀ (gm : Nat → Nat) (H : Heap) (locs : List Loc), wl D A s (wX cI cJ cZ cR am gm tx' ++ wM cI cJ cZ amm tm') H locs → W p l e room_1 s m #[.ref b] below meth c H locs (124 + gN tx' 9000) (473133 + gN tx' 9001) Q (F0 m 1635 ls [])) : W p l e room_1 s m #[.ref b] below meth c H locs (124 + gN tx 9000) (473133 + gN tx 9001) Q (F0 m 405 ls []) := by
  obtain ⟨r, hr1, hr2⟩ := ho
  obtain ⟨C0, CM, hX, hbl, hbA⟩ := C
  have hx := C0.1.1
  have hb := C0.1.2.1
  have hm : mle tx tx' := mm_x11_make _ _ _ hr1
  refine lv_aload_n hx hb dL_law_405 rfl (lv_at hl 1 rfl) ?_
  refine lv_aload_n hx hb dL_law_406 rfl (lv_at hl 0 rfl) ?_
  refine lv_iload_n hx hb dL_law_407 rfl (lv_at hl 3 rfl) ?_
  refine lv_iconst (v := (1 : Int32)) hx hb dL_law_408 (by decide) ?_
  refine lv_iadd hx hb dL_law_409 ?_
  refine va_sld hx hb hX hbl hbA hW.2.2 h1 dL_law_410 ?_
  refine bkIs (wf := fun gm => wX cI cJ cZ cR am gm tx') C0.1 hW (fun hWc => runVX (As := [.int (xs (i + (1 : Int32)).toNatClampNeg)]) (rest := []) C0 hWc (c_x11_make l _ tx (xs (i + (1 : Int32)).toNatClampNeg) hr1) ca_LX_make 11 11 rfl rfl rfl rfl rfl ⟨rfl, rfl⟩ ⟨Nat.le_of_ble_eq_true rfl, Nat.le_of_ble_eq_true rfl⟩ (Nat.le_of_ble_eq_true rfl) hl.1 dL_law_411 ⟨by have := hm.1; have := hR.1; show _ ≤ 600000; unfold mC; omega, by have := hm.2; have := hR.2; show _ ≤ 7302250; unfold mS; omega⟩) (fun g1 H locs hW => ?_)
  refine W.widen (k := 124 + gN tx' 9000) (n := 473133 + gN tx' 9001) (by have := hm.1; unfold mC; omega) (by have := hm.2; unfold mS; omega) ?_
  refine lv_aload_n hx hb dL_law_414 rfl (lv_at hl 2 rfl) ?_
  refine lv_aload_n hx hb dL_law_415 rfl (lv_at hl 0 rfl) ?_
  refine lv_iload_n hx hb dL_law_416 rfl (lv_at hl 3 rfl) ?_
  refine lv_iconst (v := (1 : Int32)) hx hb dL_law_417 (by decide) ?_
  refine lv_iadd hx hb dL_law_418 ?_
  refine va_sld hx hb hX hbl hbA hW.2.2 h1 dL_law_419 ?_
  refine bkIs (wf := fun (_ : Unit) => wM cI cJ cZ amm tm') CM hW (fun hWc => runV (As := [.int (xs (i + (1 : Int32)).toNatClampNeg)]) (rest := [.int r]) CM hWc (c_m_make l _ tm (xs (i + (1 : Int32)).toNatClampNeg) hr2) ca_LM_make 0 12 rfl rfl rfl rfl rfl ⟨rfl, rfl⟩ ⟨Nat.le_of_ble_eq_true rfl, Nat.le_of_ble_eq_true rfl⟩ (Nat.le_of_ble_eq_true rfl) hl.1 dL_law_420 ⟨by have := hR.1; show _ ≤ 600000; omega, by have := hR.2; show _ ≤ 7302250; omega⟩) (fun _ H locs hW => ?_)
  exact lv_icmp_eq (tgt := 1635) hx hb dL_law_423 (by decide) (fun _ => K g1 H locs hW) (fun hne => absurd rfl hne)
set_option maxHeartbeats 4000000 in
set_option maxRecDepth 100000 in
theorem lw_op6 (C : lwC p s m meth c D cI cJ cZ cR st A b L xs) {am gm amm : Nat → Nat} {tx tm tx' tm' : St} {i : Int32} (h1 : vp_in (i + (1 : Int32)) L) (h2 : vp_in (i + (2 : Int32)) L) (h3 : vp_in (i + (3 : Int32)) L) (h4 : vp_in (i + (4 : Int32)) L) (ho : ∃ r : Int32, x11_clear tx = some (r, tx') ∧ m_clear tm = some (r, tm')) (hR : 124 + gN tx' 9000 ≤ 600000 ∧ 473133 + gN tx' 9001 ≤ 7302250) (hW : wl D A s (wX cI cJ cZ cR am gm tx ++ wM cI cJ cZ amm tm) H locs) (hl : lv_has ls 4 [(0, .ref b), (1, .ref (am 2011)), (2, .ref (amm 68)), (3, .int i)]) (K : ∀ (gm : Nat → Nat) (H : Heap) (locs : List Loc), wl D A s (wX cI cJ cZ cR am gm tx' ++ wM cI cJ cZ amm tm') H locs → W p l e room_1 s m #[.ref b] below meth c H locs (124 + gN tx' 9000) (473133 + gN tx' 9001) Q (F0 m 1635 ls [])) : W p l e room_1 s m #[.ref b] below meth c H locs (124 + gN tx 9000) (473133 + gN tx 9001) Q (F0 m 428 ls []) := by
  obtain ⟨r, hr1, hr2⟩ := ho
  obtain ⟨C0, CM, hX, hbl, hbA⟩ := C
  have hx := C0.1.1
  have hb := C0.1.2.1
  have hm : mle tx tx' := mm_x11_clear _  _ hr1
  refine lv_aload_n hx hb dL_law_428 rfl (lv_at hl 1 rfl) ?_
  refine bkIs (wf := fun (_ : Unit) => wX cI cJ cZ cR am gm tx') C0.1 hW (fun hWc => runVX (As := []) (rest := []) C0 hWc (c_x11_clear l _ tx  hr1) ca_LX_clear 11 11 rfl rfl rfl rfl rfl ⟨rfl, rfl⟩ ⟨Nat.le_of_ble_eq_true rfl, Nat.le_of_ble_eq_true rfl⟩ (Nat.le_of_ble_eq_true rfl) hl.1 dL_law_429 ⟨by have := hm.1; have := hR.1; show _ ≤ 600000; omega, by have := hm.2; have := hR.2; show _ ≤ 7302250; omega⟩) (fun g1 H locs hW => ?_)
  refine W.widen (k := 124 + gN tx' 9000) (n := 473133 + gN tx' 9001) (by have := hm.1; omega) (by have := hm.2; omega) ?_
  refine lv_aload_n hx hb dL_law_432 rfl (lv_at hl 2 rfl) ?_
  refine bkIs (wf := fun (_ : Unit) => wM cI cJ cZ amm tm') CM hW (fun hWc => runV (As := []) (rest := [.int r]) CM hWc (c_m_clear l _ tm  hr2) ca_LM_clear 0 12 rfl rfl rfl rfl rfl ⟨rfl, rfl⟩ ⟨Nat.le_of_ble_eq_true rfl, Nat.le_of_ble_eq_true rfl⟩ (Nat.le_of_ble_eq_true rfl) hl.1 dL_law_433 ⟨by have := hR.1; show _ ≤ 600000; omega, by have := hR.2; show _ ≤ 7302250; omega⟩) (fun _ H locs hW => ?_)
  exact lv_icmp_eq (tgt := 1635) hx hb dL_law_436 (by decide) (fun _ => K gm H locs hW) (fun hne => absurd rfl hne)
set_option maxHeartbeats 4000000 in
set_option maxRecDepth 100000 in
theorem lw_op7 (C : lwC p s m meth c D cI cJ cZ cR st A b L xs) {am gm amm : Nat → Nat} {tx tm tx' tm' : St} {i : Int32} (h1 : vp_in (i + (1 : Int32)) L) (h2 : vp_in (i + (2 : Int32)) L) (h3 : vp_in (i + (3 : Int32)) L) (h4 : vp_in (i + (4 : Int32)) L) (ho : ∃ r : Int32, x11_knot tx (xs (i + (1 : Int32)).toNatClampNeg) (xs (i + (2 : Int32)).toNatClampNeg) = some r ∧ m_knot tm (xs (i + (1 : Int32)).toNatClampNeg) (xs (i + (2 : Int32)).toNatClampNeg) = some r ∧ tx' = tx ∧ tm' = tm) (hR : 124 + gN tx' 9000 ≤ 600000 ∧ 473133 + gN tx' 9001 ≤ 7302250) (hW : wl D A s (wX cI cJ cZ cR am gm tx ++ wM cI cJ cZ amm tm) H locs) (hl : lv_has ls 4 [(0, .ref b), (1, .ref (am 2011)), (2, .ref (amm 68)), (3, .int i)]) (K : ∀ (gm : Nat → Nat) (H : Heap) (locs : List Loc), wl D A s (wX cI cJ cZ cR am gm tx' ++ wM cI cJ cZ amm tm') H locs → W p l e room_1 s m #[.ref b] below meth c H locs (124 + gN tx' 9000) (473133 + gN tx' 9001) Q (F0 m 1635 ls [])) : W p l e room_1 s m #[.ref b] below meth c H locs (124 + gN tx 9000) (473133 + gN tx 9001) Q (F0 m 441 ls []) := by
  obtain ⟨r, hr1, hr2, rfl, rfl⟩ := ho
  obtain ⟨C0, CM, hX, hbl, hbA⟩ := C
  have hx := C0.1.1
  have hb := C0.1.2.1
  have hm : mle tx' tx' := mle.rfl
  refine lv_aload_n hx hb dL_law_441 rfl (lv_at hl 1 rfl) ?_
  refine lv_aload_n hx hb dL_law_442 rfl (lv_at hl 0 rfl) ?_
  refine lv_iload_n hx hb dL_law_443 rfl (lv_at hl 3 rfl) ?_
  refine lv_iconst (v := (1 : Int32)) hx hb dL_law_444 (by decide) ?_
  refine lv_iadd hx hb dL_law_445 ?_
  refine va_sld hx hb hX hbl hbA hW.2.2 h1 dL_law_446 ?_
  refine lv_aload_n hx hb dL_law_447 rfl (lv_at hl 0 rfl) ?_
  refine lv_iload_n hx hb dL_law_448 rfl (lv_at hl 3 rfl) ?_
  refine lv_iconst (v := (2 : Int32)) hx hb dL_law_449 (by decide) ?_
  refine lv_iadd hx hb dL_law_450 ?_
  refine va_sld hx hb hX hbl hbA hW.2.2 h2 dL_law_451 ?_
  refine bkIs (wf := fun (_ : Unit) => wX cI cJ cZ cR am gm tx') C0.1 hW (fun hWc => runVX (As := [.int (xs (i + (1 : Int32)).toNatClampNeg), .int (xs (i + (2 : Int32)).toNatClampNeg)]) (rest := []) C0 hWc (c_x11_knot l _ tx' (xs (i + (1 : Int32)).toNatClampNeg) (xs (i + (2 : Int32)).toNatClampNeg) hr1) ca_LX_knot 11 11 rfl rfl rfl rfl rfl ⟨rfl, rfl⟩ ⟨Nat.le_of_ble_eq_true rfl, Nat.le_of_ble_eq_true rfl⟩ (Nat.le_of_ble_eq_true rfl) hl.1 dL_law_452 ⟨by have := hm.1; have := hR.1; show _ ≤ 600000; omega, by have := hm.2; have := hR.2; show _ ≤ 7302250; omega⟩) (fun g1 H locs hW => ?_)
  refine W.widen (k := 124 + gN tx' 9000) (n := 473133 + gN tx' 9001) (by have := hm.1; omega) (by have := hm.2; omega) ?_
  refine lv_aload_n hx hb dL_law_455 rfl (lv_at hl 2 rfl) ?_
  refine lv_aload_n hx hb dL_law_456 rfl (lv_at hl 0 rfl) ?_
  refine lv_iload_n hx hb dL_law_457 rfl (lv_at hl 3 rfl) ?_
  refine lv_iconst (v := (1 : Int32)) hx hb dL_law_458 (by decide) ?_
  refine lv_iadd hx hb dL_law_459 ?_
  refine va_sld hx hb hX hbl hbA hW.2.2 h1 dL_law_460 ?_
  refine lv_aload_n hx hb dL_law_461 rfl (lv_at hl 0 rfl) ?_
  refine lv_iload_n hx hb dL_law_462 rfl (lv_at hl 3 rfl) ?_
  refine lv_iconst (v := (2 : Int32)) hx hb dL_law_463 (by decide) ?_
  refine lv_iadd hx hb dL_law_464 ?_
  refine va_sld hx hb hX hbl hbA hW.2.2 h2 dL_law_465 ?_
  refine bkIs (wf := fun (_ : Unit) => wM cI cJ cZ amm tm') CM hW (fun hWc => runV (As := [.int (xs (i + (1 : Int32)).toNatClampNeg), .int (xs (i + (2 : Int32)).toNatClampNeg)]) (rest := [.int r]) CM hWc (c_m_knot l _ tm' (xs (i + (1 : Int32)).toNatClampNeg) (xs (i + (2 : Int32)).toNatClampNeg) hr2) ca_LM_knot 0 12 rfl rfl rfl rfl rfl ⟨rfl, rfl⟩ ⟨Nat.le_of_ble_eq_true rfl, Nat.le_of_ble_eq_true rfl⟩ (Nat.le_of_ble_eq_true rfl) hl.1 dL_law_466 ⟨by have := hR.1; show _ ≤ 600000; omega, by have := hR.2; show _ ≤ 7302250; omega⟩) (fun _ H locs hW => ?_)
  exact lv_icmp_eq (tgt := 1635) hx hb dL_law_469 (by decide) (fun _ => K gm H locs hW) (fun hne => absurd rfl hne)
set_option maxHeartbeats 4000000 in
set_option maxRecDepth 100000 in
theorem lw_op8 (C : lwC p s m meth c D cI cJ cZ cR st A b L xs) {am gm amm : Nat → Nat} {tx tm tx' tm' : St} {i : Int32} (h1 : vp_in (i + (1 : Int32)) L) (h2 : vp_in (i + (2 : Int32)) L) (h3 : vp_in (i + (3 : Int32)) L) (h4 : vp_in (i + (4 : Int32)) L) (ho : ∃ r : Int32, x11_part tx (xs (i + (1 : Int32)).toNatClampNeg) (xs (i + (2 : Int32)).toNatClampNeg) = some r ∧ m_part tm (xs (i + (1 : Int32)).toNatClampNeg) (xs (i + (2 : Int32)).toNatClampNeg) = some r ∧ tx' = tx ∧ tm' = tm) (hR : 124 + gN tx' 9000 ≤ 600000 ∧ 473133 + gN tx' 9001 ≤ 7302250) (hW : wl D A s (wX cI cJ cZ cR am gm tx ++ wM cI cJ cZ amm tm) H locs) (hl : lv_has ls 4 [(0, .ref b), (1, .ref (am 2011)), (2, .ref (amm 68)), (3, .int i)]) (K : ∀ (gm : Nat → Nat) (H : Heap) (locs : List Loc), wl D A s (wX cI cJ cZ cR am gm tx' ++ wM cI cJ cZ amm tm') H locs → W p l e room_1 s m #[.ref b] below meth c H locs (124 + gN tx' 9000) (473133 + gN tx' 9001) Q (F0 m 1635 ls [])) : W p l e room_1 s m #[.ref b] below meth c H locs (124 + gN tx 9000) (473133 + gN tx 9001) Q (F0 m 474 ls []) := by
  obtain ⟨r, hr1, hr2, rfl, rfl⟩ := ho
  obtain ⟨C0, CM, hX, hbl, hbA⟩ := C
  have hx := C0.1.1
  have hb := C0.1.2.1
  have hm : mle tx' tx' := mle.rfl
  refine lv_aload_n hx hb dL_law_474 rfl (lv_at hl 1 rfl) ?_
  refine lv_aload_n hx hb dL_law_475 rfl (lv_at hl 0 rfl) ?_
  refine lv_iload_n hx hb dL_law_476 rfl (lv_at hl 3 rfl) ?_
  refine lv_iconst (v := (1 : Int32)) hx hb dL_law_477 (by decide) ?_
  refine lv_iadd hx hb dL_law_478 ?_
  refine va_sld hx hb hX hbl hbA hW.2.2 h1 dL_law_479 ?_
  refine lv_aload_n hx hb dL_law_480 rfl (lv_at hl 0 rfl) ?_
  refine lv_iload_n hx hb dL_law_481 rfl (lv_at hl 3 rfl) ?_
  refine lv_iconst (v := (2 : Int32)) hx hb dL_law_482 (by decide) ?_
  refine lv_iadd hx hb dL_law_483 ?_
  refine va_sld hx hb hX hbl hbA hW.2.2 h2 dL_law_484 ?_
  refine bkIs (wf := fun (_ : Unit) => wX cI cJ cZ cR am gm tx') C0.1 hW (fun hWc => runVX (As := [.int (xs (i + (1 : Int32)).toNatClampNeg), .int (xs (i + (2 : Int32)).toNatClampNeg)]) (rest := []) C0 hWc (c_x11_part l _ tx' (xs (i + (1 : Int32)).toNatClampNeg) (xs (i + (2 : Int32)).toNatClampNeg) hr1) ca_LX_part 11 11 rfl rfl rfl rfl rfl ⟨rfl, rfl⟩ ⟨Nat.le_of_ble_eq_true rfl, Nat.le_of_ble_eq_true rfl⟩ (Nat.le_of_ble_eq_true rfl) hl.1 dL_law_485 ⟨by have := hm.1; have := hR.1; show _ ≤ 600000; omega, by have := hm.2; have := hR.2; show _ ≤ 7302250; omega⟩) (fun g1 H locs hW => ?_)
  refine W.widen (k := 124 + gN tx' 9000) (n := 473133 + gN tx' 9001) (by have := hm.1; omega) (by have := hm.2; omega) ?_
  refine lv_aload_n hx hb dL_law_488 rfl (lv_at hl 2 rfl) ?_
  refine lv_aload_n hx hb dL_law_489 rfl (lv_at hl 0 rfl) ?_
  refine lv_iload_n hx hb dL_law_490 rfl (lv_at hl 3 rfl) ?_
  refine lv_iconst (v := (1 : Int32)) hx hb dL_law_491 (by decide) ?_
  refine lv_iadd hx hb dL_law_492 ?_
  refine va_sld hx hb hX hbl hbA hW.2.2 h1 dL_law_493 ?_
  refine lv_aload_n hx hb dL_law_494 rfl (lv_at hl 0 rfl) ?_
  refine lv_iload_n hx hb dL_law_495 rfl (lv_at hl 3 rfl) ?_
  refine lv_iconst (v := (2 : Int32)) hx hb dL_law_496 (by decide) ?_
  refine lv_iadd hx hb dL_law_497 ?_
  refine va_sld hx hb hX hbl hbA hW.2.2 h2 dL_law_498 ?_
  refine bkIs (wf := fun (_ : Unit) => wM cI cJ cZ amm tm') CM hW (fun hWc => runV (As := [.int (xs (i + (1 : Int32)).toNatClampNeg), .int (xs (i + (2 : Int32)).toNatClampNeg)]) (rest := [.int r]) CM hWc (c_m_part l _ tm' (xs (i + (1 : Int32)).toNatClampNeg) (xs (i + (2 : Int32)).toNatClampNeg) hr2) ca_LM_part 0 12 rfl rfl rfl rfl rfl ⟨rfl, rfl⟩ ⟨Nat.le_of_ble_eq_true rfl, Nat.le_of_ble_eq_true rfl⟩ (Nat.le_of_ble_eq_true rfl) hl.1 dL_law_499 ⟨by have := hR.1; show _ ≤ 600000; omega, by have := hR.2; show _ ≤ 7302250; omega⟩) (fun _ H locs hW => ?_)
  exact lv_icmp_eq (tgt := 1635) hx hb dL_law_502 (by decide) (fun _ => K gm H locs hW) (fun hne => absurd rfl hne)
set_option maxHeartbeats 4000000 in
set_option maxRecDepth 100000 in
theorem lw_op9 (C : lwC p s m meth c D cI cJ cZ cR st A b L xs) {am gm amm : Nat → Nat} {tx tm tx' tm' : St} {i : Int32} (h1 : vp_in (i + (1 : Int32)) L) (h2 : vp_in (i + (2 : Int32)) L) (h3 : vp_in (i + (3 : Int32)) L) (h4 : vp_in (i + (4 : Int32)) L) (ho : ∃ r : Int32, x11_reaches tx (xs (i + (1 : Int32)).toNatClampNeg) (xs (i + (2 : Int32)).toNatClampNeg) = some (r, tx') ∧ m_reaches tm (xs (i + (1 : Int32)).toNatClampNeg) (xs (i + (2 : Int32)).toNatClampNeg) = some r ∧ tm' = tm) (hR : 124 + gN tx' 9000 ≤ 600000 ∧ 473133 + gN tx' 9001 ≤ 7302250) (hW : wl D A s (wX cI cJ cZ cR am gm tx ++ wM cI cJ cZ amm tm) H locs) (hl : lv_has ls 4 [(0, .ref b), (1, .ref (am 2011)), (2, .ref (amm 68)), (3, .int i)]) (K : ∀ (gm : Nat → Nat) (H : Heap) (locs : List Loc), wl D A s (wX cI cJ cZ cR am gm tx' ++ wM cI cJ cZ amm tm') H locs → W p l e room_1 s m #[.ref b] below meth c H locs (124 + gN tx' 9000) (473133 + gN tx' 9001) Q (F0 m 1635 ls [])) : W p l e room_1 s m #[.ref b] below meth c H locs (124 + gN tx 9000) (473133 + gN tx 9001) Q (F0 m 507 ls []) := by
  obtain ⟨r, hr1, hr2, rfl⟩ := ho
  obtain ⟨C0, CM, hX, hbl, hbA⟩ := C
  have hx := C0.1.1
  have hb := C0.1.2.1
  have hm : mle tx tx' := mm_x11_reaches _ _ _ _ hr1
  refine lv_aload_n hx hb dL_law_507 rfl (lv_at hl 1 rfl) ?_
  refine lv_aload_n hx hb dL_law_508 rfl (lv_at hl 0 rfl) ?_
  refine lv_iload_n hx hb dL_law_509 rfl (lv_at hl 3 rfl) ?_
  refine lv_iconst (v := (1 : Int32)) hx hb dL_law_510 (by decide) ?_
  refine lv_iadd hx hb dL_law_511 ?_
  refine va_sld hx hb hX hbl hbA hW.2.2 h1 dL_law_512 ?_
  refine lv_aload_n hx hb dL_law_513 rfl (lv_at hl 0 rfl) ?_
  refine lv_iload_n hx hb dL_law_514 rfl (lv_at hl 3 rfl) ?_
  refine lv_iconst (v := (2 : Int32)) hx hb dL_law_515 (by decide) ?_
  refine lv_iadd hx hb dL_law_516 ?_
  refine va_sld hx hb hX hbl hbA hW.2.2 h2 dL_law_517 ?_
  refine bkIs (wf := fun (_ : Unit) => wX cI cJ cZ cR am gm tx') C0.1 hW (fun hWc => runVX (As := [.int (xs (i + (1 : Int32)).toNatClampNeg), .int (xs (i + (2 : Int32)).toNatClampNeg)]) (rest := []) C0 hWc (c_x11_reaches l _ tx (xs (i + (1 : Int32)).toNatClampNeg) (xs (i + (2 : Int32)).toNatClampNeg) hr1) ca_LX_reaches 11 11 rfl rfl rfl rfl rfl ⟨rfl, rfl⟩ ⟨Nat.le_of_ble_eq_true rfl, Nat.le_of_ble_eq_true rfl⟩ (Nat.le_of_ble_eq_true rfl) hl.1 dL_law_518 ⟨by have := hm.1; have := hR.1; show _ ≤ 600000; omega, by have := hm.2; have := hR.2; show _ ≤ 7302250; omega⟩) (fun g1 H locs hW => ?_)
  refine W.widen (k := 124 + gN tx' 9000) (n := 473133 + gN tx' 9001) (by have := hm.1; omega) (by have := hm.2; omega) ?_
  refine lv_aload_n hx hb dL_law_521 rfl (lv_at hl 2 rfl) ?_
  refine lv_aload_n hx hb dL_law_522 rfl (lv_at hl 0 rfl) ?_
  refine lv_iload_n hx hb dL_law_523 rfl (lv_at hl 3 rfl) ?_
  refine lv_iconst (v := (1 : Int32)) hx hb dL_law_524 (by decide) ?_
  refine lv_iadd hx hb dL_law_525 ?_
  refine va_sld hx hb hX hbl hbA hW.2.2 h1 dL_law_526 ?_
  refine lv_aload_n hx hb dL_law_527 rfl (lv_at hl 0 rfl) ?_
  refine lv_iload_n hx hb dL_law_528 rfl (lv_at hl 3 rfl) ?_
  refine lv_iconst (v := (2 : Int32)) hx hb dL_law_529 (by decide) ?_
  refine lv_iadd hx hb dL_law_530 ?_
  refine va_sld hx hb hX hbl hbA hW.2.2 h2 dL_law_531 ?_
  refine bkIs (wf := fun (_ : Unit) => wM cI cJ cZ amm tm') CM hW (fun hWc => runV (As := [.int (xs (i + (1 : Int32)).toNatClampNeg), .int (xs (i + (2 : Int32)).toNatClampNeg)]) (rest := [.int r]) CM hWc (c_m_reaches l _ tm' (xs (i + (1 : Int32)).toNatClampNeg) (xs (i + (2 : Int32)).toNatClampNeg) hr2) ca_LM_reaches 0 12 rfl rfl rfl rfl rfl ⟨rfl, rfl⟩ ⟨Nat.le_of_ble_eq_true rfl, Nat.le_of_ble_eq_true rfl⟩ (Nat.le_of_ble_eq_true rfl) hl.1 dL_law_532 ⟨by have := hR.1; show _ ≤ 600000; omega, by have := hR.2; show _ ≤ 7302250; omega⟩) (fun _ H locs hW => ?_)
  exact lv_icmp_eq (tgt := 1635) hx hb dL_law_535 (by decide) (fun _ => K gm H locs hW) (fun hne => absurd rfl hne)
set_option maxHeartbeats 4000000 in
set_option maxRecDepth 100000 in
theorem lw_op10 (C : lwC p s m meth c D cI cJ cZ cR st A b L xs) {am gm amm : Nat → Nat} {tx tm tx' tm' : St} {i : Int32} (h1 : vp_in (i + (1 : Int32)) L) (h2 : vp_in (i + (2 : Int32)) L) (h3 : vp_in (i + (3 : Int32)) L) (h4 : vp_in (i + (4 : Int32)) L) (ho : ∃ r : Int32, x11_ways tx (xs (i + (1 : Int32)).toNatClampNeg) = some (r, tx') ∧ m_ways tm (xs (i + (1 : Int32)).toNatClampNeg) = some (r, tm')) (hR : 124 + gN tx' 9000 ≤ 600000 ∧ 473133 + gN tx' 9001 ≤ 7302250) (hW : wl D A s (wX cI cJ cZ cR am gm tx ++ wM cI cJ cZ amm tm) H locs) (hl : lv_has ls 4 [(0, .ref b), (1, .ref (am 2011)), (2, .ref (amm 68)), (3, .int i)]) (K : ∀ (gm : Nat → Nat) (H : Heap) (locs : List Loc), wl D A s (wX cI cJ cZ cR am gm tx' ++ wM cI cJ cZ amm tm') H locs → W p l e room_1 s m #[.ref b] below meth c H locs (124 + gN tx' 9000) (473133 + gN tx' 9001) Q (F0 m 1635 ls [])) : W p l e room_1 s m #[.ref b] below meth c H locs (124 + gN tx 9000) (473133 + gN tx 9001) Q (F0 m 540 ls []) := by
  obtain ⟨r, hr1, hr2⟩ := ho
  obtain ⟨C0, CM, hX, hbl, hbA⟩ := C
  have hx := C0.1.1
  have hb := C0.1.2.1
  have hm : mle tx tx' := mm_x11_ways _ _ _ hr1
  refine lv_aload_n hx hb dL_law_540 rfl (lv_at hl 1 rfl) ?_
  refine lv_aload_n hx hb dL_law_541 rfl (lv_at hl 0 rfl) ?_
  refine lv_iload_n hx hb dL_law_542 rfl (lv_at hl 3 rfl) ?_
  refine lv_iconst (v := (1 : Int32)) hx hb dL_law_543 (by decide) ?_
  refine lv_iadd hx hb dL_law_544 ?_
  refine va_sld hx hb hX hbl hbA hW.2.2 h1 dL_law_545 ?_
  refine bkIs (wf := fun gm => wX cI cJ cZ cR am gm tx') C0.1 hW (fun hWc => runVX (As := [.int (xs (i + (1 : Int32)).toNatClampNeg)]) (rest := []) C0 hWc (c_x11_ways l _ tx (xs (i + (1 : Int32)).toNatClampNeg) hr1) ca_LX_ways 11 11 rfl rfl rfl rfl rfl ⟨rfl, rfl⟩ ⟨Nat.le_of_ble_eq_true rfl, Nat.le_of_ble_eq_true rfl⟩ (Nat.le_of_ble_eq_true rfl) hl.1 dL_law_546 ⟨by have := hm.1; have := hR.1; show _ ≤ 600000; unfold mC; omega, by have := hm.2; have := hR.2; show _ ≤ 7302250; unfold mS; omega⟩) (fun g1 H locs hW => ?_)
  refine W.widen (k := 124 + gN tx' 9000) (n := 473133 + gN tx' 9001) (by have := hm.1; unfold mC; omega) (by have := hm.2; unfold mS; omega) ?_
  refine lv_aload_n hx hb dL_law_549 rfl (lv_at hl 2 rfl) ?_
  refine lv_aload_n hx hb dL_law_550 rfl (lv_at hl 0 rfl) ?_
  refine lv_iload_n hx hb dL_law_551 rfl (lv_at hl 3 rfl) ?_
  refine lv_iconst (v := (1 : Int32)) hx hb dL_law_552 (by decide) ?_
  refine lv_iadd hx hb dL_law_553 ?_
  refine va_sld hx hb hX hbl hbA hW.2.2 h1 dL_law_554 ?_
  refine bkIs (wf := fun (_ : Unit) => wM cI cJ cZ amm tm') CM hW (fun hWc => runV (As := [.int (xs (i + (1 : Int32)).toNatClampNeg)]) (rest := [.int r]) CM hWc (c_m_ways l _ tm (xs (i + (1 : Int32)).toNatClampNeg) hr2) ca_LM_ways 0 12 rfl rfl rfl rfl rfl ⟨rfl, rfl⟩ ⟨Nat.le_of_ble_eq_true rfl, Nat.le_of_ble_eq_true rfl⟩ (Nat.le_of_ble_eq_true rfl) hl.1 dL_law_555 ⟨by have := hR.1; show _ ≤ 600000; omega, by have := hR.2; show _ ≤ 7302250; omega⟩) (fun _ H locs hW => ?_)
  exact lv_icmp_eq (tgt := 1635) hx hb dL_law_558 (by decide) (fun _ => K g1 H locs hW) (fun hne => absurd rfl hne)
set_option maxHeartbeats 4000000 in
set_option maxRecDepth 100000 in
theorem lw_op11 (C : lwC p s m meth c D cI cJ cZ cR st A b L xs) {am gm amm : Nat → Nat} {tx tm tx' tm' : St} {i : Int32} (h1 : vp_in (i + (1 : Int32)) L) (h2 : vp_in (i + (2 : Int32)) L) (h3 : vp_in (i + (3 : Int32)) L) (h4 : vp_in (i + (4 : Int32)) L) (ho : ∃ r : Int32, x11_wayAt tx (xs (i + (1 : Int32)).toNatClampNeg) (xs (i + (2 : Int32)).toNatClampNeg) = some (r, tx') ∧ m_wayAt tm (xs (i + (1 : Int32)).toNatClampNeg) (xs (i + (2 : Int32)).toNatClampNeg) = some (r, tm')) (hR : 124 + gN tx' 9000 ≤ 600000 ∧ 473133 + gN tx' 9001 ≤ 7302250) (hW : wl D A s (wX cI cJ cZ cR am gm tx ++ wM cI cJ cZ amm tm) H locs) (hl : lv_has ls 4 [(0, .ref b), (1, .ref (am 2011)), (2, .ref (amm 68)), (3, .int i)]) (K : ∀ (gm : Nat → Nat) (H : Heap) (locs : List Loc), wl D A s (wX cI cJ cZ cR am gm tx' ++ wM cI cJ cZ amm tm') H locs → W p l e room_1 s m #[.ref b] below meth c H locs (124 + gN tx' 9000) (473133 + gN tx' 9001) Q (F0 m 1635 ls [])) : W p l e room_1 s m #[.ref b] below meth c H locs (124 + gN tx 9000) (473133 + gN tx 9001) Q (F0 m 563 ls []) := by
  obtain ⟨r, hr1, hr2⟩ := ho
  obtain ⟨C0, CM, hX, hbl, hbA⟩ := C
  have hx := C0.1.1
  have hb := C0.1.2.1
  have hm : mle tx tx' := mm_x11_wayAt _ _ _ _ hr1
  refine lv_aload_n hx hb dL_law_563 rfl (lv_at hl 1 rfl) ?_
  refine lv_aload_n hx hb dL_law_564 rfl (lv_at hl 0 rfl) ?_
  refine lv_iload_n hx hb dL_law_565 rfl (lv_at hl 3 rfl) ?_
  refine lv_iconst (v := (1 : Int32)) hx hb dL_law_566 (by decide) ?_
  refine lv_iadd hx hb dL_law_567 ?_
  refine va_sld hx hb hX hbl hbA hW.2.2 h1 dL_law_568 ?_
  refine lv_aload_n hx hb dL_law_569 rfl (lv_at hl 0 rfl) ?_
  refine lv_iload_n hx hb dL_law_570 rfl (lv_at hl 3 rfl) ?_
  refine lv_iconst (v := (2 : Int32)) hx hb dL_law_571 (by decide) ?_
  refine lv_iadd hx hb dL_law_572 ?_
  refine va_sld hx hb hX hbl hbA hW.2.2 h2 dL_law_573 ?_
  refine bkIs (wf := fun gm => wX cI cJ cZ cR am gm tx') C0.1 hW (fun hWc => runVX (As := [.int (xs (i + (1 : Int32)).toNatClampNeg), .int (xs (i + (2 : Int32)).toNatClampNeg)]) (rest := []) C0 hWc (c_x11_wayAt l _ tx (xs (i + (1 : Int32)).toNatClampNeg) (xs (i + (2 : Int32)).toNatClampNeg) hr1) ca_LX_wayAt 11 11 rfl rfl rfl rfl rfl ⟨rfl, rfl⟩ ⟨Nat.le_of_ble_eq_true rfl, Nat.le_of_ble_eq_true rfl⟩ (Nat.le_of_ble_eq_true rfl) hl.1 dL_law_574 ⟨by have := hm.1; have := hR.1; show _ ≤ 600000; unfold mC; omega, by have := hm.2; have := hR.2; show _ ≤ 7302250; unfold mS; omega⟩) (fun g1 H locs hW => ?_)
  refine W.widen (k := 124 + gN tx' 9000) (n := 473133 + gN tx' 9001) (by have := hm.1; unfold mC; omega) (by have := hm.2; unfold mS; omega) ?_
  refine lv_aload_n hx hb dL_law_577 rfl (lv_at hl 2 rfl) ?_
  refine lv_aload_n hx hb dL_law_578 rfl (lv_at hl 0 rfl) ?_
  refine lv_iload_n hx hb dL_law_579 rfl (lv_at hl 3 rfl) ?_
  refine lv_iconst (v := (1 : Int32)) hx hb dL_law_580 (by decide) ?_
  refine lv_iadd hx hb dL_law_581 ?_
  refine va_sld hx hb hX hbl hbA hW.2.2 h1 dL_law_582 ?_
  refine lv_aload_n hx hb dL_law_583 rfl (lv_at hl 0 rfl) ?_
  refine lv_iload_n hx hb dL_law_584 rfl (lv_at hl 3 rfl) ?_
  refine lv_iconst (v := (2 : Int32)) hx hb dL_law_585 (by decide) ?_
  refine lv_iadd hx hb dL_law_586 ?_
  refine va_sld hx hb hX hbl hbA hW.2.2 h2 dL_law_587 ?_
  refine bkIs (wf := fun (_ : Unit) => wM cI cJ cZ amm tm') CM hW (fun hWc => runV (As := [.int (xs (i + (1 : Int32)).toNatClampNeg), .int (xs (i + (2 : Int32)).toNatClampNeg)]) (rest := [.int r]) CM hWc (c_m_wayAt l _ tm (xs (i + (1 : Int32)).toNatClampNeg) (xs (i + (2 : Int32)).toNatClampNeg) hr2) ca_LM_wayAt 0 12 rfl rfl rfl rfl rfl ⟨rfl, rfl⟩ ⟨Nat.le_of_ble_eq_true rfl, Nat.le_of_ble_eq_true rfl⟩ (Nat.le_of_ble_eq_true rfl) hl.1 dL_law_588 ⟨by have := hR.1; show _ ≤ 600000; omega, by have := hR.2; show _ ≤ 7302250; omega⟩) (fun _ H locs hW => ?_)
  exact lv_icmp_eq (tgt := 1635) hx hb dL_law_591 (by decide) (fun _ => K g1 H locs hW) (fun hne => absurd rfl hne)
set_option maxHeartbeats 4000000 in
set_option maxRecDepth 100000 in
theorem lw_op12 (C : lwC p s m meth c D cI cJ cZ cR st A b L xs) {am gm amm : Nat → Nat} {tx tm tx' tm' : St} {i : Int32} (h1 : vp_in (i + (1 : Int32)) L) (h2 : vp_in (i + (2 : Int32)) L) (h3 : vp_in (i + (3 : Int32)) L) (h4 : vp_in (i + (4 : Int32)) L) (ho : ∃ r : Int32, x11_least tx (xs (i + (1 : Int32)).toNatClampNeg) (xs (i + (2 : Int32)).toNatClampNeg) = some (r, tx') ∧ m_least tm (xs (i + (1 : Int32)).toNatClampNeg) (xs (i + (2 : Int32)).toNatClampNeg) = some (r, tm')) (hR : 124 + gN tx' 9000 ≤ 600000 ∧ 473133 + gN tx' 9001 ≤ 7302250) (hW : wl D A s (wX cI cJ cZ cR am gm tx ++ wM cI cJ cZ amm tm) H locs) (hl : lv_has ls 4 [(0, .ref b), (1, .ref (am 2011)), (2, .ref (amm 68)), (3, .int i)]) (K : ∀ (gm : Nat → Nat) (H : Heap) (locs : List Loc), wl D A s (wX cI cJ cZ cR am gm tx' ++ wM cI cJ cZ amm tm') H locs → W p l e room_1 s m #[.ref b] below meth c H locs (124 + gN tx' 9000) (473133 + gN tx' 9001) Q (F0 m 1635 ls [])) : W p l e room_1 s m #[.ref b] below meth c H locs (124 + gN tx 9000) (473133 + gN tx 9001) Q (F0 m 596 ls []) := by
  obtain ⟨r, hr1, hr2⟩ := ho
  obtain ⟨C0, CM, hX, hbl, hbA⟩ := C
  have hx := C0.1.1
  have hb := C0.1.2.1
  have hm : mle tx tx' := mm_x11_least _ _ _ _ hr1
  refine lv_aload_n hx hb dL_law_596 rfl (lv_at hl 1 rfl) ?_
  refine lv_aload_n hx hb dL_law_597 rfl (lv_at hl 0 rfl) ?_
  refine lv_iload_n hx hb dL_law_598 rfl (lv_at hl 3 rfl) ?_
  refine lv_iconst (v := (1 : Int32)) hx hb dL_law_599 (by decide) ?_
  refine lv_iadd hx hb dL_law_600 ?_
  refine va_sld hx hb hX hbl hbA hW.2.2 h1 dL_law_601 ?_
  refine lv_aload_n hx hb dL_law_602 rfl (lv_at hl 0 rfl) ?_
  refine lv_iload_n hx hb dL_law_603 rfl (lv_at hl 3 rfl) ?_
  refine lv_iconst (v := (2 : Int32)) hx hb dL_law_604 (by decide) ?_
  refine lv_iadd hx hb dL_law_605 ?_
  refine va_sld hx hb hX hbl hbA hW.2.2 h2 dL_law_606 ?_
  refine bkIs (wf := fun gm => wX cI cJ cZ cR am gm tx') C0.1 hW (fun hWc => runVX (As := [.int (xs (i + (1 : Int32)).toNatClampNeg), .int (xs (i + (2 : Int32)).toNatClampNeg)]) (rest := []) C0 hWc (c_x11_least l _ tx (xs (i + (1 : Int32)).toNatClampNeg) (xs (i + (2 : Int32)).toNatClampNeg) hr1) ca_LX_least 11 11 rfl rfl rfl rfl rfl ⟨rfl, rfl⟩ ⟨Nat.le_of_ble_eq_true rfl, Nat.le_of_ble_eq_true rfl⟩ (Nat.le_of_ble_eq_true rfl) hl.1 dL_law_607 ⟨by have := hm.1; have := hR.1; show _ ≤ 600000; unfold mC; omega, by have := hm.2; have := hR.2; show _ ≤ 7302250; unfold mS; omega⟩) (fun g1 H locs hW => ?_)
  refine W.widen (k := 124 + gN tx' 9000) (n := 473133 + gN tx' 9001) (by have := hm.1; unfold mC; omega) (by have := hm.2; unfold mS; omega) ?_
  refine lv_aload_n hx hb dL_law_610 rfl (lv_at hl 2 rfl) ?_
  refine lv_aload_n hx hb dL_law_611 rfl (lv_at hl 0 rfl) ?_
  refine lv_iload_n hx hb dL_law_612 rfl (lv_at hl 3 rfl) ?_
  refine lv_iconst (v := (1 : Int32)) hx hb dL_law_613 (by decide) ?_
  refine lv_iadd hx hb dL_law_614 ?_
  refine va_sld hx hb hX hbl hbA hW.2.2 h1 dL_law_615 ?_
  refine lv_aload_n hx hb dL_law_616 rfl (lv_at hl 0 rfl) ?_
  refine lv_iload_n hx hb dL_law_617 rfl (lv_at hl 3 rfl) ?_
  refine lv_iconst (v := (2 : Int32)) hx hb dL_law_618 (by decide) ?_
  refine lv_iadd hx hb dL_law_619 ?_
  refine va_sld hx hb hX hbl hbA hW.2.2 h2 dL_law_620 ?_
  refine bkIs (wf := fun (_ : Unit) => wM cI cJ cZ amm tm') CM hW (fun hWc => runV (As := [.int (xs (i + (1 : Int32)).toNatClampNeg), .int (xs (i + (2 : Int32)).toNatClampNeg)]) (rest := [.int r]) CM hWc (c_m_least l _ tm (xs (i + (1 : Int32)).toNatClampNeg) (xs (i + (2 : Int32)).toNatClampNeg) hr2) ca_LM_least 0 12 rfl rfl rfl rfl rfl ⟨rfl, rfl⟩ ⟨Nat.le_of_ble_eq_true rfl, Nat.le_of_ble_eq_true rfl⟩ (Nat.le_of_ble_eq_true rfl) hl.1 dL_law_621 ⟨by have := hR.1; show _ ≤ 600000; omega, by have := hR.2; show _ ≤ 7302250; omega⟩) (fun _ H locs hW => ?_)
  exact lv_icmp_eq (tgt := 1635) hx hb dL_law_624 (by decide) (fun _ => K g1 H locs hW) (fun hne => absurd rfl hne)
set_option maxHeartbeats 4000000 in
set_option maxRecDepth 100000 in
theorem lw_op13 (C : lwC p s m meth c D cI cJ cZ cR st A b L xs) {am gm amm : Nat → Nat} {tx tm tx' tm' : St} {i : Int32} (h1 : vp_in (i + (1 : Int32)) L) (h2 : vp_in (i + (2 : Int32)) L) (h3 : vp_in (i + (3 : Int32)) L) (h4 : vp_in (i + (4 : Int32)) L) (ho : ∃ r : Int32, x11_leastWay tx (xs (i + (1 : Int32)).toNatClampNeg) (xs (i + (2 : Int32)).toNatClampNeg) = some (r, tx') ∧ m_leastWay tm (xs (i + (1 : Int32)).toNatClampNeg) (xs (i + (2 : Int32)).toNatClampNeg) = some (r, tm')) (hR : 124 + gN tx' 9000 ≤ 600000 ∧ 473133 + gN tx' 9001 ≤ 7302250) (hW : wl D A s (wX cI cJ cZ cR am gm tx ++ wM cI cJ cZ amm tm) H locs) (hl : lv_has ls 4 [(0, .ref b), (1, .ref (am 2011)), (2, .ref (amm 68)), (3, .int i)]) (K : ∀ (gm : Nat → Nat) (H : Heap) (locs : List Loc), wl D A s (wX cI cJ cZ cR am gm tx' ++ wM cI cJ cZ amm tm') H locs → W p l e room_1 s m #[.ref b] below meth c H locs (124 + gN tx' 9000) (473133 + gN tx' 9001) Q (F0 m 1635 ls [])) : W p l e room_1 s m #[.ref b] below meth c H locs (124 + gN tx 9000) (473133 + gN tx 9001) Q (F0 m 629 ls []) := by
  obtain ⟨r, hr1, hr2⟩ := ho
  obtain ⟨C0, CM, hX, hbl, hbA⟩ := C
  have hx := C0.1.1
  have hb := C0.1.2.1
  have hm : mle tx tx' := mm_x11_leastWay _ _ _ _ hr1
  refine lv_aload_n hx hb dL_law_629 rfl (lv_at hl 1 rfl) ?_
  refine lv_aload_n hx hb dL_law_630 rfl (lv_at hl 0 rfl) ?_
  refine lv_iload_n hx hb dL_law_631 rfl (lv_at hl 3 rfl) ?_
  refine lv_iconst (v := (1 : Int32)) hx hb dL_law_632 (by decide) ?_
  refine lv_iadd hx hb dL_law_633 ?_
  refine va_sld hx hb hX hbl hbA hW.2.2 h1 dL_law_634 ?_
  refine lv_aload_n hx hb dL_law_635 rfl (lv_at hl 0 rfl) ?_
  refine lv_iload_n hx hb dL_law_636 rfl (lv_at hl 3 rfl) ?_
  refine lv_iconst (v := (2 : Int32)) hx hb dL_law_637 (by decide) ?_
  refine lv_iadd hx hb dL_law_638 ?_
  refine va_sld hx hb hX hbl hbA hW.2.2 h2 dL_law_639 ?_
  refine bkIs (wf := fun gm => wX cI cJ cZ cR am gm tx') C0.1 hW (fun hWc => runVX (As := [.int (xs (i + (1 : Int32)).toNatClampNeg), .int (xs (i + (2 : Int32)).toNatClampNeg)]) (rest := []) C0 hWc (c_x11_leastWay l _ tx (xs (i + (1 : Int32)).toNatClampNeg) (xs (i + (2 : Int32)).toNatClampNeg) hr1) ca_LX_leastWay 11 11 rfl rfl rfl rfl rfl ⟨rfl, rfl⟩ ⟨Nat.le_of_ble_eq_true rfl, Nat.le_of_ble_eq_true rfl⟩ (Nat.le_of_ble_eq_true rfl) hl.1 dL_law_640 ⟨by have := hm.1; have := hR.1; show _ ≤ 600000; unfold mC; omega, by have := hm.2; have := hR.2; show _ ≤ 7302250; unfold mS; omega⟩) (fun g1 H locs hW => ?_)
  refine W.widen (k := 124 + gN tx' 9000) (n := 473133 + gN tx' 9001) (by have := hm.1; unfold mC; omega) (by have := hm.2; unfold mS; omega) ?_
  refine lv_aload_n hx hb dL_law_643 rfl (lv_at hl 2 rfl) ?_
  refine lv_aload_n hx hb dL_law_644 rfl (lv_at hl 0 rfl) ?_
  refine lv_iload_n hx hb dL_law_645 rfl (lv_at hl 3 rfl) ?_
  refine lv_iconst (v := (1 : Int32)) hx hb dL_law_646 (by decide) ?_
  refine lv_iadd hx hb dL_law_647 ?_
  refine va_sld hx hb hX hbl hbA hW.2.2 h1 dL_law_648 ?_
  refine lv_aload_n hx hb dL_law_649 rfl (lv_at hl 0 rfl) ?_
  refine lv_iload_n hx hb dL_law_650 rfl (lv_at hl 3 rfl) ?_
  refine lv_iconst (v := (2 : Int32)) hx hb dL_law_651 (by decide) ?_
  refine lv_iadd hx hb dL_law_652 ?_
  refine va_sld hx hb hX hbl hbA hW.2.2 h2 dL_law_653 ?_
  refine bkIs (wf := fun (_ : Unit) => wM cI cJ cZ amm tm') CM hW (fun hWc => runV (As := [.int (xs (i + (1 : Int32)).toNatClampNeg), .int (xs (i + (2 : Int32)).toNatClampNeg)]) (rest := [.int r]) CM hWc (c_m_leastWay l _ tm (xs (i + (1 : Int32)).toNatClampNeg) (xs (i + (2 : Int32)).toNatClampNeg) hr2) ca_LM_leastWay 0 12 rfl rfl rfl rfl rfl ⟨rfl, rfl⟩ ⟨Nat.le_of_ble_eq_true rfl, Nat.le_of_ble_eq_true rfl⟩ (Nat.le_of_ble_eq_true rfl) hl.1 dL_law_654 ⟨by have := hR.1; show _ ≤ 600000; omega, by have := hR.2; show _ ≤ 7302250; omega⟩) (fun _ H locs hW => ?_)
  exact lv_icmp_eq (tgt := 1635) hx hb dL_law_657 (by decide) (fun _ => K g1 H locs hW) (fun hne => absurd rfl hne)
set_option maxHeartbeats 4000000 in
set_option maxRecDepth 100000 in
theorem lw_op14 (C : lwC p s m meth c D cI cJ cZ cR st A b L xs) {am gm amm : Nat → Nat} {tx tm tx' tm' : St} {i : Int32} (h1 : vp_in (i + (1 : Int32)) L) (h2 : vp_in (i + (2 : Int32)) L) (h3 : vp_in (i + (3 : Int32)) L) (h4 : vp_in (i + (4 : Int32)) L) (ho : ∃ r : Int32, x11_many tx (xs (i + (1 : Int32)).toNatClampNeg) = some (r, tx') ∧ m_many tm (xs (i + (1 : Int32)).toNatClampNeg) = some (r, tm')) (hR : 124 + gN tx' 9000 ≤ 600000 ∧ 473133 + gN tx' 9001 ≤ 7302250) (hW : wl D A s (wX cI cJ cZ cR am gm tx ++ wM cI cJ cZ amm tm) H locs) (hl : lv_has ls 4 [(0, .ref b), (1, .ref (am 2011)), (2, .ref (amm 68)), (3, .int i)]) (K : ∀ (gm : Nat → Nat) (H : Heap) (locs : List Loc), wl D A s (wX cI cJ cZ cR am gm tx' ++ wM cI cJ cZ amm tm') H locs → W p l e room_1 s m #[.ref b] below meth c H locs (124 + gN tx' 9000) (473133 + gN tx' 9001) Q (F0 m 1635 ls [])) : W p l e room_1 s m #[.ref b] below meth c H locs (124 + gN tx 9000) (473133 + gN tx 9001) Q (F0 m 662 ls []) := by
  obtain ⟨r, hr1, hr2⟩ := ho
  obtain ⟨C0, CM, hX, hbl, hbA⟩ := C
  have hx := C0.1.1
  have hb := C0.1.2.1
  have hm : mle tx tx' := mm_x11_many _ _ _ hr1
  refine lv_aload_n hx hb dL_law_662 rfl (lv_at hl 1 rfl) ?_
  refine lv_aload_n hx hb dL_law_663 rfl (lv_at hl 0 rfl) ?_
  refine lv_iload_n hx hb dL_law_664 rfl (lv_at hl 3 rfl) ?_
  refine lv_iconst (v := (1 : Int32)) hx hb dL_law_665 (by decide) ?_
  refine lv_iadd hx hb dL_law_666 ?_
  refine va_sld hx hb hX hbl hbA hW.2.2 h1 dL_law_667 ?_
  refine bkIs (wf := fun (_ : Unit) => wX cI cJ cZ cR am gm tx') C0.1 hW (fun hWc => runVX (As := [.int (xs (i + (1 : Int32)).toNatClampNeg)]) (rest := []) C0 hWc (c_x11_many l _ tx (xs (i + (1 : Int32)).toNatClampNeg) hr1) ca_LX_many 11 11 rfl rfl rfl rfl rfl ⟨rfl, rfl⟩ ⟨Nat.le_of_ble_eq_true rfl, Nat.le_of_ble_eq_true rfl⟩ (Nat.le_of_ble_eq_true rfl) hl.1 dL_law_668 ⟨by have := hm.1; have := hR.1; show _ ≤ 600000; omega, by have := hm.2; have := hR.2; show _ ≤ 7302250; omega⟩) (fun g1 H locs hW => ?_)
  refine W.widen (k := 124 + gN tx' 9000) (n := 473133 + gN tx' 9001) (by have := hm.1; omega) (by have := hm.2; omega) ?_
  refine lv_aload_n hx hb dL_law_671 rfl (lv_at hl 2 rfl) ?_
  refine lv_aload_n hx hb dL_law_672 rfl (lv_at hl 0 rfl) ?_
  refine lv_iload_n hx hb dL_law_673 rfl (lv_at hl 3 rfl) ?_
  refine lv_iconst (v := (1 : Int32)) hx hb dL_law_674 (by decide) ?_
  refine lv_iadd hx hb dL_law_675 ?_
  refine va_sld hx hb hX hbl hbA hW.2.2 h1 dL_law_676 ?_
  refine bkIs (wf := fun (_ : Unit) => wM cI cJ cZ amm tm') CM hW (fun hWc => runV (As := [.int (xs (i + (1 : Int32)).toNatClampNeg)]) (rest := [.int r]) CM hWc (c_m_many l _ tm (xs (i + (1 : Int32)).toNatClampNeg) hr2) ca_LM_many 0 12 rfl rfl rfl rfl rfl ⟨rfl, rfl⟩ ⟨Nat.le_of_ble_eq_true rfl, Nat.le_of_ble_eq_true rfl⟩ (Nat.le_of_ble_eq_true rfl) hl.1 dL_law_677 ⟨by have := hR.1; show _ ≤ 600000; omega, by have := hR.2; show _ ≤ 7302250; omega⟩) (fun _ H locs hW => ?_)
  exact lv_icmp_eq (tgt := 1635) hx hb dL_law_680 (by decide) (fun _ => K gm H locs hW) (fun hne => absurd rfl hne)
set_option maxHeartbeats 4000000 in
set_option maxRecDepth 100000 in
theorem lw_op15 (C : lwC p s m meth c D cI cJ cZ cR st A b L xs) {am gm amm : Nat → Nat} {tx tm tx' tm' : St} {i : Int32} (h1 : vp_in (i + (1 : Int32)) L) (h2 : vp_in (i + (2 : Int32)) L) (h3 : vp_in (i + (3 : Int32)) L) (h4 : vp_in (i + (4 : Int32)) L) (ho : ∃ r : Int32, x11_size tx (xs (i + (1 : Int32)).toNatClampNeg) = some (r, tx') ∧ m_size tm (xs (i + (1 : Int32)).toNatClampNeg) = some (r, tm')) (hR : 124 + gN tx' 9000 ≤ 600000 ∧ 473133 + gN tx' 9001 ≤ 7302250) (hW : wl D A s (wX cI cJ cZ cR am gm tx ++ wM cI cJ cZ amm tm) H locs) (hl : lv_has ls 4 [(0, .ref b), (1, .ref (am 2011)), (2, .ref (amm 68)), (3, .int i)]) (K : ∀ (gm : Nat → Nat) (H : Heap) (locs : List Loc), wl D A s (wX cI cJ cZ cR am gm tx' ++ wM cI cJ cZ amm tm') H locs → W p l e room_1 s m #[.ref b] below meth c H locs (124 + gN tx' 9000) (473133 + gN tx' 9001) Q (F0 m 1635 ls [])) : W p l e room_1 s m #[.ref b] below meth c H locs (124 + gN tx 9000) (473133 + gN tx 9001) Q (F0 m 685 ls []) := by
  obtain ⟨r, hr1, hr2⟩ := ho
  obtain ⟨C0, CM, hX, hbl, hbA⟩ := C
  have hx := C0.1.1
  have hb := C0.1.2.1
  have hm : mle tx tx' := mm_x11_size _ _ _ hr1
  refine lv_aload_n hx hb dL_law_685 rfl (lv_at hl 1 rfl) ?_
  refine lv_aload_n hx hb dL_law_686 rfl (lv_at hl 0 rfl) ?_
  refine lv_iload_n hx hb dL_law_687 rfl (lv_at hl 3 rfl) ?_
  refine lv_iconst (v := (1 : Int32)) hx hb dL_law_688 (by decide) ?_
  refine lv_iadd hx hb dL_law_689 ?_
  refine va_sld hx hb hX hbl hbA hW.2.2 h1 dL_law_690 ?_
  refine bkIs (wf := fun gm => wX cI cJ cZ cR am gm tx') C0.1 hW (fun hWc => runVX (As := [.int (xs (i + (1 : Int32)).toNatClampNeg)]) (rest := []) C0 hWc (c_x11_size l _ tx (xs (i + (1 : Int32)).toNatClampNeg) hr1) ca_LX_size 11 11 rfl rfl rfl rfl rfl ⟨rfl, rfl⟩ ⟨Nat.le_of_ble_eq_true rfl, Nat.le_of_ble_eq_true rfl⟩ (Nat.le_of_ble_eq_true rfl) hl.1 dL_law_691 ⟨by have := hm.1; have := hR.1; show _ ≤ 600000; unfold mC; omega, by have := hm.2; have := hR.2; show _ ≤ 7302250; unfold mS; omega⟩) (fun g1 H locs hW => ?_)
  refine W.widen (k := 124 + gN tx' 9000) (n := 473133 + gN tx' 9001) (by have := hm.1; unfold mC; omega) (by have := hm.2; unfold mS; omega) ?_
  refine lv_aload_n hx hb dL_law_694 rfl (lv_at hl 2 rfl) ?_
  refine lv_aload_n hx hb dL_law_695 rfl (lv_at hl 0 rfl) ?_
  refine lv_iload_n hx hb dL_law_696 rfl (lv_at hl 3 rfl) ?_
  refine lv_iconst (v := (1 : Int32)) hx hb dL_law_697 (by decide) ?_
  refine lv_iadd hx hb dL_law_698 ?_
  refine va_sld hx hb hX hbl hbA hW.2.2 h1 dL_law_699 ?_
  refine bkIs (wf := fun (_ : Unit) => wM cI cJ cZ amm tm') CM hW (fun hWc => runV (As := [.int (xs (i + (1 : Int32)).toNatClampNeg)]) (rest := [.int r]) CM hWc (c_m_size l _ tm (xs (i + (1 : Int32)).toNatClampNeg) hr2) ca_LM_size 0 12 rfl rfl rfl rfl rfl ⟨rfl, rfl⟩ ⟨Nat.le_of_ble_eq_true rfl, Nat.le_of_ble_eq_true rfl⟩ (Nat.le_of_ble_eq_true rfl) hl.1 dL_law_700 ⟨by have := hR.1; show _ ≤ 600000; omega, by have := hR.2; show _ ≤ 7302250; omega⟩) (fun _ H locs hW => ?_)
  exact lv_icmp_eq (tgt := 1635) hx hb dL_law_703 (by decide) (fun _ => K g1 H locs hW) (fun hne => absurd rfl hne)
set_option maxHeartbeats 4000000 in
set_option maxRecDepth 100000 in
theorem lw_op16 (C : lwC p s m meth c D cI cJ cZ cR st A b L xs) {am gm amm : Nat → Nat} {tx tm tx' tm' : St} {i : Int32} (h1 : vp_in (i + (1 : Int32)) L) (h2 : vp_in (i + (2 : Int32)) L) (h3 : vp_in (i + (3 : Int32)) L) (h4 : vp_in (i + (4 : Int32)) L) (ho : ∃ r : Int32, x11_chance tx (xs (i + (1 : Int32)).toNatClampNeg) = some (r, tx') ∧ m_chance tm (xs (i + (1 : Int32)).toNatClampNeg) = some (r, tm')) (hR : 124 + gN tx' 9000 ≤ 600000 ∧ 473133 + gN tx' 9001 ≤ 7302250) (hW : wl D A s (wX cI cJ cZ cR am gm tx ++ wM cI cJ cZ amm tm) H locs) (hl : lv_has ls 4 [(0, .ref b), (1, .ref (am 2011)), (2, .ref (amm 68)), (3, .int i)]) (K : ∀ (gm : Nat → Nat) (H : Heap) (locs : List Loc), wl D A s (wX cI cJ cZ cR am gm tx' ++ wM cI cJ cZ amm tm') H locs → W p l e room_1 s m #[.ref b] below meth c H locs (124 + gN tx' 9000) (473133 + gN tx' 9001) Q (F0 m 1635 ls [])) : W p l e room_1 s m #[.ref b] below meth c H locs (124 + gN tx 9000) (473133 + gN tx 9001) Q (F0 m 708 ls []) := by
  obtain ⟨r, hr1, hr2⟩ := ho
  obtain ⟨C0, CM, hX, hbl, hbA⟩ := C
  have hx := C0.1.1
  have hb := C0.1.2.1
  have hm : mle tx tx' := mm_x11_chance _ _ _ hr1
  refine lv_aload_n hx hb dL_law_708 rfl (lv_at hl 1 rfl) ?_
  refine lv_aload_n hx hb dL_law_709 rfl (lv_at hl 0 rfl) ?_
  refine lv_iload_n hx hb dL_law_710 rfl (lv_at hl 3 rfl) ?_
  refine lv_iconst (v := (1 : Int32)) hx hb dL_law_711 (by decide) ?_
  refine lv_iadd hx hb dL_law_712 ?_
  refine va_sld hx hb hX hbl hbA hW.2.2 h1 dL_law_713 ?_
  refine bkIs (wf := fun gm => wX cI cJ cZ cR am gm tx') C0.1 hW (fun hWc => runVX (As := [.int (xs (i + (1 : Int32)).toNatClampNeg)]) (rest := []) C0 hWc (c_x11_chance l _ tx (xs (i + (1 : Int32)).toNatClampNeg) hr1) ca_LX_chance 11 11 rfl rfl rfl rfl rfl ⟨rfl, rfl⟩ ⟨Nat.le_of_ble_eq_true rfl, Nat.le_of_ble_eq_true rfl⟩ (Nat.le_of_ble_eq_true rfl) hl.1 dL_law_714 ⟨by have := hm.1; have := hR.1; show _ ≤ 600000; unfold mC; omega, by have := hm.2; have := hR.2; show _ ≤ 7302250; unfold mS; omega⟩) (fun g1 H locs hW => ?_)
  refine W.widen (k := 124 + gN tx' 9000) (n := 473133 + gN tx' 9001) (by have := hm.1; unfold mC; omega) (by have := hm.2; unfold mS; omega) ?_
  refine lv_aload_n hx hb dL_law_717 rfl (lv_at hl 2 rfl) ?_
  refine lv_aload_n hx hb dL_law_718 rfl (lv_at hl 0 rfl) ?_
  refine lv_iload_n hx hb dL_law_719 rfl (lv_at hl 3 rfl) ?_
  refine lv_iconst (v := (1 : Int32)) hx hb dL_law_720 (by decide) ?_
  refine lv_iadd hx hb dL_law_721 ?_
  refine va_sld hx hb hX hbl hbA hW.2.2 h1 dL_law_722 ?_
  refine bkIs (wf := fun (_ : Unit) => wM cI cJ cZ amm tm') CM hW (fun hWc => runV (As := [.int (xs (i + (1 : Int32)).toNatClampNeg)]) (rest := [.int r]) CM hWc (c_m_chance l _ tm (xs (i + (1 : Int32)).toNatClampNeg) hr2) ca_LM_chance 0 12 rfl rfl rfl rfl rfl ⟨rfl, rfl⟩ ⟨Nat.le_of_ble_eq_true rfl, Nat.le_of_ble_eq_true rfl⟩ (Nat.le_of_ble_eq_true rfl) hl.1 dL_law_723 ⟨by have := hR.1; show _ ≤ 600000; omega, by have := hR.2; show _ ≤ 7302250; omega⟩) (fun _ H locs hW => ?_)
  exact lv_icmp_eq (tgt := 1635) hx hb dL_law_726 (by decide) (fun _ => K g1 H locs hW) (fun hne => absurd rfl hne)
set_option maxHeartbeats 4000000 in
set_option maxRecDepth 100000 in
theorem lw_op17 (C : lwC p s m meth c D cI cJ cZ cR st A b L xs) {am gm amm : Nat → Nat} {tx tm tx' tm' : St} {i : Int32} (h1 : vp_in (i + (1 : Int32)) L) (h2 : vp_in (i + (2 : Int32)) L) (h3 : vp_in (i + (3 : Int32)) L) (h4 : vp_in (i + (4 : Int32)) L) (ho : ∃ r : Int32, x11_weight tx (xs (i + (1 : Int32)).toNatClampNeg) (xs (i + (2 : Int32)).toNatClampNeg) = some (r, tx') ∧ m_weight tm (xs (i + (1 : Int32)).toNatClampNeg) (xs (i + (2 : Int32)).toNatClampNeg) = some (r, tm')) (hR : 124 + gN tx' 9000 ≤ 600000 ∧ 473133 + gN tx' 9001 ≤ 7302250) (hW : wl D A s (wX cI cJ cZ cR am gm tx ++ wM cI cJ cZ amm tm) H locs) (hl : lv_has ls 4 [(0, .ref b), (1, .ref (am 2011)), (2, .ref (amm 68)), (3, .int i)]) (K : ∀ (gm : Nat → Nat) (H : Heap) (locs : List Loc), wl D A s (wX cI cJ cZ cR am gm tx' ++ wM cI cJ cZ amm tm') H locs → W p l e room_1 s m #[.ref b] below meth c H locs (124 + gN tx' 9000) (473133 + gN tx' 9001) Q (F0 m 1635 ls [])) : W p l e room_1 s m #[.ref b] below meth c H locs (124 + gN tx 9000) (473133 + gN tx 9001) Q (F0 m 731 ls []) := by
  obtain ⟨r, hr1, hr2⟩ := ho
  obtain ⟨C0, CM, hX, hbl, hbA⟩ := C
  have hx := C0.1.1
  have hb := C0.1.2.1
  have hm : mle tx tx' := mm_x11_weight _ _ _ _ hr1
  refine lv_aload_n hx hb dL_law_731 rfl (lv_at hl 1 rfl) ?_
  refine lv_aload_n hx hb dL_law_732 rfl (lv_at hl 0 rfl) ?_
  refine lv_iload_n hx hb dL_law_733 rfl (lv_at hl 3 rfl) ?_
  refine lv_iconst (v := (1 : Int32)) hx hb dL_law_734 (by decide) ?_
  refine lv_iadd hx hb dL_law_735 ?_
  refine va_sld hx hb hX hbl hbA hW.2.2 h1 dL_law_736 ?_
  refine lv_aload_n hx hb dL_law_737 rfl (lv_at hl 0 rfl) ?_
  refine lv_iload_n hx hb dL_law_738 rfl (lv_at hl 3 rfl) ?_
  refine lv_iconst (v := (2 : Int32)) hx hb dL_law_739 (by decide) ?_
  refine lv_iadd hx hb dL_law_740 ?_
  refine va_sld hx hb hX hbl hbA hW.2.2 h2 dL_law_741 ?_
  refine bkIs (wf := fun gm => wX cI cJ cZ cR am gm tx') C0.1 hW (fun hWc => runVX (As := [.int (xs (i + (1 : Int32)).toNatClampNeg), .int (xs (i + (2 : Int32)).toNatClampNeg)]) (rest := []) C0 hWc (c_x11_weight l _ tx (xs (i + (1 : Int32)).toNatClampNeg) (xs (i + (2 : Int32)).toNatClampNeg) hr1) ca_LX_weight 11 11 rfl rfl rfl rfl rfl ⟨rfl, rfl⟩ ⟨Nat.le_of_ble_eq_true rfl, Nat.le_of_ble_eq_true rfl⟩ (Nat.le_of_ble_eq_true rfl) hl.1 dL_law_742 ⟨by have := hm.1; have := hR.1; show _ ≤ 600000; unfold mC; omega, by have := hm.2; have := hR.2; show _ ≤ 7302250; unfold mS; omega⟩) (fun g1 H locs hW => ?_)
  refine W.widen (k := 124 + gN tx' 9000) (n := 473133 + gN tx' 9001) (by have := hm.1; unfold mC; omega) (by have := hm.2; unfold mS; omega) ?_
  refine lv_aload_n hx hb dL_law_745 rfl (lv_at hl 2 rfl) ?_
  refine lv_aload_n hx hb dL_law_746 rfl (lv_at hl 0 rfl) ?_
  refine lv_iload_n hx hb dL_law_747 rfl (lv_at hl 3 rfl) ?_
  refine lv_iconst (v := (1 : Int32)) hx hb dL_law_748 (by decide) ?_
  refine lv_iadd hx hb dL_law_749 ?_
  refine va_sld hx hb hX hbl hbA hW.2.2 h1 dL_law_750 ?_
  refine lv_aload_n hx hb dL_law_751 rfl (lv_at hl 0 rfl) ?_
  refine lv_iload_n hx hb dL_law_752 rfl (lv_at hl 3 rfl) ?_
  refine lv_iconst (v := (2 : Int32)) hx hb dL_law_753 (by decide) ?_
  refine lv_iadd hx hb dL_law_754 ?_
  refine va_sld hx hb hX hbl hbA hW.2.2 h2 dL_law_755 ?_
  refine bkIs (wf := fun (_ : Unit) => wM cI cJ cZ amm tm') CM hW (fun hWc => runV (As := [.int (xs (i + (1 : Int32)).toNatClampNeg), .int (xs (i + (2 : Int32)).toNatClampNeg)]) (rest := [.int r]) CM hWc (c_m_weight l _ tm (xs (i + (1 : Int32)).toNatClampNeg) (xs (i + (2 : Int32)).toNatClampNeg) hr2) ca_LM_weight 0 12 rfl rfl rfl rfl rfl ⟨rfl, rfl⟩ ⟨Nat.le_of_ble_eq_true rfl, Nat.le_of_ble_eq_true rfl⟩ (Nat.le_of_ble_eq_true rfl) hl.1 dL_law_756 ⟨by have := hR.1; show _ ≤ 600000; omega, by have := hR.2; show _ ≤ 7302250; omega⟩) (fun _ H locs hW => ?_)
  exact lv_icmp_eq (tgt := 1635) hx hb dL_law_759 (by decide) (fun _ => K g1 H locs hW) (fun hne => absurd rfl hne)
set_option maxHeartbeats 4000000 in
set_option maxRecDepth 100000 in
theorem lw_op18 (C : lwC p s m meth c D cI cJ cZ cR st A b L xs) {am gm amm : Nat → Nat} {tx tm tx' tm' : St} {i : Int32} (h1 : vp_in (i + (1 : Int32)) L) (h2 : vp_in (i + (2 : Int32)) L) (h3 : vp_in (i + (3 : Int32)) L) (h4 : vp_in (i + (4 : Int32)) L) (ho : ∃ r : Int32, x11_best tx (xs (i + (1 : Int32)).toNatClampNeg) (xs (i + (2 : Int32)).toNatClampNeg) = some (r, tx') ∧ m_best tm (xs (i + (1 : Int32)).toNatClampNeg) (xs (i + (2 : Int32)).toNatClampNeg) = some (r, tm')) (hR : 124 + gN tx' 9000 ≤ 600000 ∧ 473133 + gN tx' 9001 ≤ 7302250) (hW : wl D A s (wX cI cJ cZ cR am gm tx ++ wM cI cJ cZ amm tm) H locs) (hl : lv_has ls 4 [(0, .ref b), (1, .ref (am 2011)), (2, .ref (amm 68)), (3, .int i)]) (K : ∀ (gm : Nat → Nat) (H : Heap) (locs : List Loc), wl D A s (wX cI cJ cZ cR am gm tx' ++ wM cI cJ cZ amm tm') H locs → W p l e room_1 s m #[.ref b] below meth c H locs (124 + gN tx' 9000) (473133 + gN tx' 9001) Q (F0 m 1635 ls [])) : W p l e room_1 s m #[.ref b] below meth c H locs (124 + gN tx 9000) (473133 + gN tx 9001) Q (F0 m 764 ls []) := by
  obtain ⟨r, hr1, hr2⟩ := ho
  obtain ⟨C0, CM, hX, hbl, hbA⟩ := C
  have hx := C0.1.1
  have hb := C0.1.2.1
  have hm : mle tx tx' := mm_x11_best _ _ _ _ hr1
  refine lv_aload_n hx hb dL_law_764 rfl (lv_at hl 1 rfl) ?_
  refine lv_aload_n hx hb dL_law_765 rfl (lv_at hl 0 rfl) ?_
  refine lv_iload_n hx hb dL_law_766 rfl (lv_at hl 3 rfl) ?_
  refine lv_iconst (v := (1 : Int32)) hx hb dL_law_767 (by decide) ?_
  refine lv_iadd hx hb dL_law_768 ?_
  refine va_sld hx hb hX hbl hbA hW.2.2 h1 dL_law_769 ?_
  refine lv_aload_n hx hb dL_law_770 rfl (lv_at hl 0 rfl) ?_
  refine lv_iload_n hx hb dL_law_771 rfl (lv_at hl 3 rfl) ?_
  refine lv_iconst (v := (2 : Int32)) hx hb dL_law_772 (by decide) ?_
  refine lv_iadd hx hb dL_law_773 ?_
  refine va_sld hx hb hX hbl hbA hW.2.2 h2 dL_law_774 ?_
  refine bkIs (wf := fun gm => wX cI cJ cZ cR am gm tx') C0.1 hW (fun hWc => runVX (As := [.int (xs (i + (1 : Int32)).toNatClampNeg), .int (xs (i + (2 : Int32)).toNatClampNeg)]) (rest := []) C0 hWc (c_x11_best l _ tx (xs (i + (1 : Int32)).toNatClampNeg) (xs (i + (2 : Int32)).toNatClampNeg) hr1) ca_LX_best 11 11 rfl rfl rfl rfl rfl ⟨rfl, rfl⟩ ⟨Nat.le_of_ble_eq_true rfl, Nat.le_of_ble_eq_true rfl⟩ (Nat.le_of_ble_eq_true rfl) hl.1 dL_law_775 ⟨by have := hm.1; have := hR.1; show _ ≤ 600000; unfold mC; omega, by have := hm.2; have := hR.2; show _ ≤ 7302250; unfold mS; omega⟩) (fun g1 H locs hW => ?_)
  refine W.widen (k := 124 + gN tx' 9000) (n := 473133 + gN tx' 9001) (by have := hm.1; unfold mC; omega) (by have := hm.2; unfold mS; omega) ?_
  refine lv_aload_n hx hb dL_law_778 rfl (lv_at hl 2 rfl) ?_
  refine lv_aload_n hx hb dL_law_779 rfl (lv_at hl 0 rfl) ?_
  refine lv_iload_n hx hb dL_law_780 rfl (lv_at hl 3 rfl) ?_
  refine lv_iconst (v := (1 : Int32)) hx hb dL_law_781 (by decide) ?_
  refine lv_iadd hx hb dL_law_782 ?_
  refine va_sld hx hb hX hbl hbA hW.2.2 h1 dL_law_783 ?_
  refine lv_aload_n hx hb dL_law_784 rfl (lv_at hl 0 rfl) ?_
  refine lv_iload_n hx hb dL_law_785 rfl (lv_at hl 3 rfl) ?_
  refine lv_iconst (v := (2 : Int32)) hx hb dL_law_786 (by decide) ?_
  refine lv_iadd hx hb dL_law_787 ?_
  refine va_sld hx hb hX hbl hbA hW.2.2 h2 dL_law_788 ?_
  refine bkIs (wf := fun (_ : Unit) => wM cI cJ cZ amm tm') CM hW (fun hWc => runV (As := [.int (xs (i + (1 : Int32)).toNatClampNeg), .int (xs (i + (2 : Int32)).toNatClampNeg)]) (rest := [.int r]) CM hWc (c_m_best l _ tm (xs (i + (1 : Int32)).toNatClampNeg) (xs (i + (2 : Int32)).toNatClampNeg) hr2) ca_LM_best 0 12 rfl rfl rfl rfl rfl ⟨rfl, rfl⟩ ⟨Nat.le_of_ble_eq_true rfl, Nat.le_of_ble_eq_true rfl⟩ (Nat.le_of_ble_eq_true rfl) hl.1 dL_law_789 ⟨by have := hR.1; show _ ≤ 600000; omega, by have := hR.2; show _ ≤ 7302250; omega⟩) (fun _ H locs hW => ?_)
  exact lv_icmp_eq (tgt := 1635) hx hb dL_law_792 (by decide) (fun _ => K g1 H locs hW) (fun hne => absurd rfl hne)
set_option maxHeartbeats 4000000 in
set_option maxRecDepth 100000 in
theorem lw_op19 (C : lwC p s m meth c D cI cJ cZ cR st A b L xs) {am gm amm : Nat → Nat} {tx tm tx' tm' : St} {i : Int32} (h1 : vp_in (i + (1 : Int32)) L) (h2 : vp_in (i + (2 : Int32)) L) (h3 : vp_in (i + (3 : Int32)) L) (h4 : vp_in (i + (4 : Int32)) L) (ho : ∃ r : Int32, x11_limbs tx (xs (i + (1 : Int32)).toNatClampNeg) = some r ∧ m_limbs tm (xs (i + (1 : Int32)).toNatClampNeg) = some r ∧ tx' = tx ∧ tm' = tm) (hR : 124 + gN tx' 9000 ≤ 600000 ∧ 473133 + gN tx' 9001 ≤ 7302250) (hW : wl D A s (wX cI cJ cZ cR am gm tx ++ wM cI cJ cZ amm tm) H locs) (hl : lv_has ls 4 [(0, .ref b), (1, .ref (am 2011)), (2, .ref (amm 68)), (3, .int i)]) (K : ∀ (gm : Nat → Nat) (H : Heap) (locs : List Loc), wl D A s (wX cI cJ cZ cR am gm tx' ++ wM cI cJ cZ amm tm') H locs → W p l e room_1 s m #[.ref b] below meth c H locs (124 + gN tx' 9000) (473133 + gN tx' 9001) Q (F0 m 1635 ls [])) : W p l e room_1 s m #[.ref b] below meth c H locs (124 + gN tx 9000) (473133 + gN tx 9001) Q (F0 m 797 ls []) := by
  obtain ⟨r, hr1, hr2, rfl, rfl⟩ := ho
  obtain ⟨C0, CM, hX, hbl, hbA⟩ := C
  have hx := C0.1.1
  have hb := C0.1.2.1
  have hm : mle tx' tx' := mle.rfl
  refine lv_aload_n hx hb dL_law_797 rfl (lv_at hl 1 rfl) ?_
  refine lv_aload_n hx hb dL_law_798 rfl (lv_at hl 0 rfl) ?_
  refine lv_iload_n hx hb dL_law_799 rfl (lv_at hl 3 rfl) ?_
  refine lv_iconst (v := (1 : Int32)) hx hb dL_law_800 (by decide) ?_
  refine lv_iadd hx hb dL_law_801 ?_
  refine va_sld hx hb hX hbl hbA hW.2.2 h1 dL_law_802 ?_
  refine bkIs (wf := fun (_ : Unit) => wX cI cJ cZ cR am gm tx') C0.1 hW (fun hWc => runVX (As := [.int (xs (i + (1 : Int32)).toNatClampNeg)]) (rest := []) C0 hWc (c_x11_limbs l _ tx' (xs (i + (1 : Int32)).toNatClampNeg) hr1) ca_LX_limbs 11 11 rfl rfl rfl rfl rfl ⟨rfl, rfl⟩ ⟨Nat.le_of_ble_eq_true rfl, Nat.le_of_ble_eq_true rfl⟩ (Nat.le_of_ble_eq_true rfl) hl.1 dL_law_803 ⟨by have := hm.1; have := hR.1; show _ ≤ 600000; omega, by have := hm.2; have := hR.2; show _ ≤ 7302250; omega⟩) (fun g1 H locs hW => ?_)
  refine W.widen (k := 124 + gN tx' 9000) (n := 473133 + gN tx' 9001) (by have := hm.1; omega) (by have := hm.2; omega) ?_
  refine lv_aload_n hx hb dL_law_806 rfl (lv_at hl 2 rfl) ?_
  refine lv_aload_n hx hb dL_law_807 rfl (lv_at hl 0 rfl) ?_
  refine lv_iload_n hx hb dL_law_808 rfl (lv_at hl 3 rfl) ?_
  refine lv_iconst (v := (1 : Int32)) hx hb dL_law_809 (by decide) ?_
  refine lv_iadd hx hb dL_law_810 ?_
  refine va_sld hx hb hX hbl hbA hW.2.2 h1 dL_law_811 ?_
  refine bkIs (wf := fun (_ : Unit) => wM cI cJ cZ amm tm') CM hW (fun hWc => runV (As := [.int (xs (i + (1 : Int32)).toNatClampNeg)]) (rest := [.int r]) CM hWc (c_m_limbs l _ tm' (xs (i + (1 : Int32)).toNatClampNeg) hr2) ca_LM_limbs 0 12 rfl rfl rfl rfl rfl ⟨rfl, rfl⟩ ⟨Nat.le_of_ble_eq_true rfl, Nat.le_of_ble_eq_true rfl⟩ (Nat.le_of_ble_eq_true rfl) hl.1 dL_law_812 ⟨by have := hR.1; show _ ≤ 600000; omega, by have := hR.2; show _ ≤ 7302250; omega⟩) (fun _ H locs hW => ?_)
  exact lv_icmp_eq (tgt := 1635) hx hb dL_law_815 (by decide) (fun _ => K gm H locs hW) (fun hne => absurd rfl hne)
set_option maxHeartbeats 4000000 in
set_option maxRecDepth 100000 in
theorem lw_op20 (C : lwC p s m meth c D cI cJ cZ cR st A b L xs) {am gm amm : Nat → Nat} {tx tm tx' tm' : St} {i : Int32} (h1 : vp_in (i + (1 : Int32)) L) (h2 : vp_in (i + (2 : Int32)) L) (h3 : vp_in (i + (3 : Int32)) L) (h4 : vp_in (i + (4 : Int32)) L) (ho : ∃ r : Int32, x11_limb tx (xs (i + (1 : Int32)).toNatClampNeg) (xs (i + (2 : Int32)).toNatClampNeg) = some r ∧ m_limb tm (xs (i + (1 : Int32)).toNatClampNeg) (xs (i + (2 : Int32)).toNatClampNeg) = some r ∧ tx' = tx ∧ tm' = tm) (hR : 124 + gN tx' 9000 ≤ 600000 ∧ 473133 + gN tx' 9001 ≤ 7302250) (hW : wl D A s (wX cI cJ cZ cR am gm tx ++ wM cI cJ cZ amm tm) H locs) (hl : lv_has ls 4 [(0, .ref b), (1, .ref (am 2011)), (2, .ref (amm 68)), (3, .int i)]) (K : ∀ (gm : Nat → Nat) (H : Heap) (locs : List Loc), wl D A s (wX cI cJ cZ cR am gm tx' ++ wM cI cJ cZ amm tm') H locs → W p l e room_1 s m #[.ref b] below meth c H locs (124 + gN tx' 9000) (473133 + gN tx' 9001) Q (F0 m 1635 ls [])) : W p l e room_1 s m #[.ref b] below meth c H locs (124 + gN tx 9000) (473133 + gN tx 9001) Q (F0 m 820 ls []) := by
  obtain ⟨r, hr1, hr2, rfl, rfl⟩ := ho
  obtain ⟨C0, CM, hX, hbl, hbA⟩ := C
  have hx := C0.1.1
  have hb := C0.1.2.1
  have hm : mle tx' tx' := mle.rfl
  refine lv_aload_n hx hb dL_law_820 rfl (lv_at hl 1 rfl) ?_
  refine lv_aload_n hx hb dL_law_821 rfl (lv_at hl 0 rfl) ?_
  refine lv_iload_n hx hb dL_law_822 rfl (lv_at hl 3 rfl) ?_
  refine lv_iconst (v := (1 : Int32)) hx hb dL_law_823 (by decide) ?_
  refine lv_iadd hx hb dL_law_824 ?_
  refine va_sld hx hb hX hbl hbA hW.2.2 h1 dL_law_825 ?_
  refine lv_aload_n hx hb dL_law_826 rfl (lv_at hl 0 rfl) ?_
  refine lv_iload_n hx hb dL_law_827 rfl (lv_at hl 3 rfl) ?_
  refine lv_iconst (v := (2 : Int32)) hx hb dL_law_828 (by decide) ?_
  refine lv_iadd hx hb dL_law_829 ?_
  refine va_sld hx hb hX hbl hbA hW.2.2 h2 dL_law_830 ?_
  refine bkIs (wf := fun (_ : Unit) => wX cI cJ cZ cR am gm tx') C0.1 hW (fun hWc => runVX (As := [.int (xs (i + (1 : Int32)).toNatClampNeg), .int (xs (i + (2 : Int32)).toNatClampNeg)]) (rest := []) C0 hWc (c_x11_limb l _ tx' (xs (i + (1 : Int32)).toNatClampNeg) (xs (i + (2 : Int32)).toNatClampNeg) hr1) ca_LX_limb 11 11 rfl rfl rfl rfl rfl ⟨rfl, rfl⟩ ⟨Nat.le_of_ble_eq_true rfl, Nat.le_of_ble_eq_true rfl⟩ (Nat.le_of_ble_eq_true rfl) hl.1 dL_law_831 ⟨by have := hm.1; have := hR.1; show _ ≤ 600000; omega, by have := hm.2; have := hR.2; show _ ≤ 7302250; omega⟩) (fun g1 H locs hW => ?_)
  refine W.widen (k := 124 + gN tx' 9000) (n := 473133 + gN tx' 9001) (by have := hm.1; omega) (by have := hm.2; omega) ?_
  refine lv_aload_n hx hb dL_law_834 rfl (lv_at hl 2 rfl) ?_
  refine lv_aload_n hx hb dL_law_835 rfl (lv_at hl 0 rfl) ?_
  refine lv_iload_n hx hb dL_law_836 rfl (lv_at hl 3 rfl) ?_
  refine lv_iconst (v := (1 : Int32)) hx hb dL_law_837 (by decide) ?_
  refine lv_iadd hx hb dL_law_838 ?_
  refine va_sld hx hb hX hbl hbA hW.2.2 h1 dL_law_839 ?_
  refine lv_aload_n hx hb dL_law_840 rfl (lv_at hl 0 rfl) ?_
  refine lv_iload_n hx hb dL_law_841 rfl (lv_at hl 3 rfl) ?_
  refine lv_iconst (v := (2 : Int32)) hx hb dL_law_842 (by decide) ?_
  refine lv_iadd hx hb dL_law_843 ?_
  refine va_sld hx hb hX hbl hbA hW.2.2 h2 dL_law_844 ?_
  refine bkIs (wf := fun (_ : Unit) => wM cI cJ cZ amm tm') CM hW (fun hWc => runV (As := [.int (xs (i + (1 : Int32)).toNatClampNeg), .int (xs (i + (2 : Int32)).toNatClampNeg)]) (rest := [.int r]) CM hWc (c_m_limb l _ tm' (xs (i + (1 : Int32)).toNatClampNeg) (xs (i + (2 : Int32)).toNatClampNeg) hr2) ca_LM_limb 0 12 rfl rfl rfl rfl rfl ⟨rfl, rfl⟩ ⟨Nat.le_of_ble_eq_true rfl, Nat.le_of_ble_eq_true rfl⟩ (Nat.le_of_ble_eq_true rfl) hl.1 dL_law_845 ⟨by have := hR.1; show _ ≤ 600000; omega, by have := hR.2; show _ ≤ 7302250; omega⟩) (fun _ H locs hW => ?_)
  exact lv_icmp_eq (tgt := 1635) hx hb dL_law_848 (by decide) (fun _ => K gm H locs hW) (fun hne => absurd rfl hne)
set_option maxHeartbeats 4000000 in
set_option maxRecDepth 100000 in
theorem lw_op21 (C : lwC p s m meth c D cI cJ cZ cR st A b L xs) {am gm amm : Nat → Nat} {tx tm tx' tm' : St} {i : Int32} (h1 : vp_in (i + (1 : Int32)) L) (h2 : vp_in (i + (2 : Int32)) L) (h3 : vp_in (i + (3 : Int32)) L) (h4 : vp_in (i + (4 : Int32)) L) (ho : ∃ r : Int32, x11_guard tx (xs (i + (1 : Int32)).toNatClampNeg) (xs (i + (2 : Int32)).toNatClampNeg) = some (r, tx') ∧ m_guard tm (xs (i + (1 : Int32)).toNatClampNeg) (xs (i + (2 : Int32)).toNatClampNeg) = some (r, tm')) (hR : 124 + gN tx' 9000 ≤ 600000 ∧ 473133 + gN tx' 9001 ≤ 7302250) (hW : wl D A s (wX cI cJ cZ cR am gm tx ++ wM cI cJ cZ amm tm) H locs) (hl : lv_has ls 4 [(0, .ref b), (1, .ref (am 2011)), (2, .ref (amm 68)), (3, .int i)]) (K : ∀ (gm : Nat → Nat) (H : Heap) (locs : List Loc), wl D A s (wX cI cJ cZ cR am gm tx' ++ wM cI cJ cZ amm tm') H locs → W p l e room_1 s m #[.ref b] below meth c H locs (124 + gN tx' 9000) (473133 + gN tx' 9001) Q (F0 m 1635 ls [])) : W p l e room_1 s m #[.ref b] below meth c H locs (124 + gN tx 9000) (473133 + gN tx 9001) Q (F0 m 853 ls []) := by
  obtain ⟨r, hr1, hr2⟩ := ho
  obtain ⟨C0, CM, hX, hbl, hbA⟩ := C
  have hx := C0.1.1
  have hb := C0.1.2.1
  have hm : mle tx tx' := mm_x11_guard _ _ _ _ hr1
  refine lv_aload_n hx hb dL_law_853 rfl (lv_at hl 1 rfl) ?_
  refine lv_aload_n hx hb dL_law_854 rfl (lv_at hl 0 rfl) ?_
  refine lv_iload_n hx hb dL_law_855 rfl (lv_at hl 3 rfl) ?_
  refine lv_iconst (v := (1 : Int32)) hx hb dL_law_856 (by decide) ?_
  refine lv_iadd hx hb dL_law_857 ?_
  refine va_sld hx hb hX hbl hbA hW.2.2 h1 dL_law_858 ?_
  refine lv_aload_n hx hb dL_law_859 rfl (lv_at hl 0 rfl) ?_
  refine lv_iload_n hx hb dL_law_860 rfl (lv_at hl 3 rfl) ?_
  refine lv_iconst (v := (2 : Int32)) hx hb dL_law_861 (by decide) ?_
  refine lv_iadd hx hb dL_law_862 ?_
  refine va_sld hx hb hX hbl hbA hW.2.2 h2 dL_law_863 ?_
  refine bkIs (wf := fun gm => wX cI cJ cZ cR am gm tx') C0.1 hW (fun hWc => runVX (As := [.int (xs (i + (1 : Int32)).toNatClampNeg), .int (xs (i + (2 : Int32)).toNatClampNeg)]) (rest := []) C0 hWc (c_x11_guard l _ tx (xs (i + (1 : Int32)).toNatClampNeg) (xs (i + (2 : Int32)).toNatClampNeg) hr1) ca_LX_guard 11 11 rfl rfl rfl rfl rfl ⟨rfl, rfl⟩ ⟨Nat.le_of_ble_eq_true rfl, Nat.le_of_ble_eq_true rfl⟩ (Nat.le_of_ble_eq_true rfl) hl.1 dL_law_864 ⟨by have := hm.1; have := hR.1; show _ ≤ 600000; unfold mC; omega, by have := hm.2; have := hR.2; show _ ≤ 7302250; unfold mS; omega⟩) (fun g1 H locs hW => ?_)
  refine W.widen (k := 124 + gN tx' 9000) (n := 473133 + gN tx' 9001) (by have := hm.1; unfold mC; omega) (by have := hm.2; unfold mS; omega) ?_
  refine lv_aload_n hx hb dL_law_867 rfl (lv_at hl 2 rfl) ?_
  refine lv_aload_n hx hb dL_law_868 rfl (lv_at hl 0 rfl) ?_
  refine lv_iload_n hx hb dL_law_869 rfl (lv_at hl 3 rfl) ?_
  refine lv_iconst (v := (1 : Int32)) hx hb dL_law_870 (by decide) ?_
  refine lv_iadd hx hb dL_law_871 ?_
  refine va_sld hx hb hX hbl hbA hW.2.2 h1 dL_law_872 ?_
  refine lv_aload_n hx hb dL_law_873 rfl (lv_at hl 0 rfl) ?_
  refine lv_iload_n hx hb dL_law_874 rfl (lv_at hl 3 rfl) ?_
  refine lv_iconst (v := (2 : Int32)) hx hb dL_law_875 (by decide) ?_
  refine lv_iadd hx hb dL_law_876 ?_
  refine va_sld hx hb hX hbl hbA hW.2.2 h2 dL_law_877 ?_
  refine bkIs (wf := fun (_ : Unit) => wM cI cJ cZ amm tm') CM hW (fun hWc => runV (As := [.int (xs (i + (1 : Int32)).toNatClampNeg), .int (xs (i + (2 : Int32)).toNatClampNeg)]) (rest := [.int r]) CM hWc (c_m_guard l _ tm (xs (i + (1 : Int32)).toNatClampNeg) (xs (i + (2 : Int32)).toNatClampNeg) hr2) ca_LM_guard 0 12 rfl rfl rfl rfl rfl ⟨rfl, rfl⟩ ⟨Nat.le_of_ble_eq_true rfl, Nat.le_of_ble_eq_true rfl⟩ (Nat.le_of_ble_eq_true rfl) hl.1 dL_law_878 ⟨by have := hR.1; show _ ≤ 600000; omega, by have := hR.2; show _ ≤ 7302250; omega⟩) (fun _ H locs hW => ?_)
  exact lv_icmp_eq (tgt := 1635) hx hb dL_law_881 (by decide) (fun _ => K g1 H locs hW) (fun hne => absurd rfl hne)
set_option maxHeartbeats 4000000 in
set_option maxRecDepth 100000 in
theorem lw_op22 (C : lwC p s m meth c D cI cJ cZ cR st A b L xs) {am gm amm : Nat → Nat} {tx tm tx' tm' : St} {i : Int32} (h1 : vp_in (i + (1 : Int32)) L) (h2 : vp_in (i + (2 : Int32)) L) (h3 : vp_in (i + (3 : Int32)) L) (h4 : vp_in (i + (4 : Int32)) L) (ho : ∃ r : Int32, x11_holds tx (xs (i + (1 : Int32)).toNatClampNeg) (xs (i + (2 : Int32)).toNatClampNeg) = some (r, tx') ∧ m_holds tm (xs (i + (1 : Int32)).toNatClampNeg) (xs (i + (2 : Int32)).toNatClampNeg) = some r ∧ tm' = tm) (hR : 124 + gN tx' 9000 ≤ 600000 ∧ 473133 + gN tx' 9001 ≤ 7302250) (hW : wl D A s (wX cI cJ cZ cR am gm tx ++ wM cI cJ cZ amm tm) H locs) (hl : lv_has ls 4 [(0, .ref b), (1, .ref (am 2011)), (2, .ref (amm 68)), (3, .int i)]) (K : ∀ (gm : Nat → Nat) (H : Heap) (locs : List Loc), wl D A s (wX cI cJ cZ cR am gm tx' ++ wM cI cJ cZ amm tm') H locs → W p l e room_1 s m #[.ref b] below meth c H locs (124 + gN tx' 9000) (473133 + gN tx' 9001) Q (F0 m 1635 ls [])) : W p l e room_1 s m #[.ref b] below meth c H locs (124 + gN tx 9000) (473133 + gN tx 9001) Q (F0 m 886 ls []) := by
  obtain ⟨r, hr1, hr2, rfl⟩ := ho
  obtain ⟨C0, CM, hX, hbl, hbA⟩ := C
  have hx := C0.1.1
  have hb := C0.1.2.1
  have hm : mle tx tx' := mm_x11_holds _ _ _ _ hr1
  refine lv_aload_n hx hb dL_law_886 rfl (lv_at hl 1 rfl) ?_
  refine lv_aload_n hx hb dL_law_887 rfl (lv_at hl 0 rfl) ?_
  refine lv_iload_n hx hb dL_law_888 rfl (lv_at hl 3 rfl) ?_
  refine lv_iconst (v := (1 : Int32)) hx hb dL_law_889 (by decide) ?_
  refine lv_iadd hx hb dL_law_890 ?_
  refine va_sld hx hb hX hbl hbA hW.2.2 h1 dL_law_891 ?_
  refine lv_aload_n hx hb dL_law_892 rfl (lv_at hl 0 rfl) ?_
  refine lv_iload_n hx hb dL_law_893 rfl (lv_at hl 3 rfl) ?_
  refine lv_iconst (v := (2 : Int32)) hx hb dL_law_894 (by decide) ?_
  refine lv_iadd hx hb dL_law_895 ?_
  refine va_sld hx hb hX hbl hbA hW.2.2 h2 dL_law_896 ?_
  refine bkIs (wf := fun (_ : Unit) => wX cI cJ cZ cR am gm tx') C0.1 hW (fun hWc => runVX (As := [.int (xs (i + (1 : Int32)).toNatClampNeg), .int (xs (i + (2 : Int32)).toNatClampNeg)]) (rest := []) C0 hWc (c_x11_holds l _ tx (xs (i + (1 : Int32)).toNatClampNeg) (xs (i + (2 : Int32)).toNatClampNeg) hr1) ca_LX_holds 11 11 rfl rfl rfl rfl rfl ⟨rfl, rfl⟩ ⟨Nat.le_of_ble_eq_true rfl, Nat.le_of_ble_eq_true rfl⟩ (Nat.le_of_ble_eq_true rfl) hl.1 dL_law_897 ⟨by have := hm.1; have := hR.1; show _ ≤ 600000; omega, by have := hm.2; have := hR.2; show _ ≤ 7302250; omega⟩) (fun g1 H locs hW => ?_)
  refine W.widen (k := 124 + gN tx' 9000) (n := 473133 + gN tx' 9001) (by have := hm.1; omega) (by have := hm.2; omega) ?_
  refine lv_aload_n hx hb dL_law_900 rfl (lv_at hl 2 rfl) ?_
  refine lv_aload_n hx hb dL_law_901 rfl (lv_at hl 0 rfl) ?_
  refine lv_iload_n hx hb dL_law_902 rfl (lv_at hl 3 rfl) ?_
  refine lv_iconst (v := (1 : Int32)) hx hb dL_law_903 (by decide) ?_
  refine lv_iadd hx hb dL_law_904 ?_
  refine va_sld hx hb hX hbl hbA hW.2.2 h1 dL_law_905 ?_
  refine lv_aload_n hx hb dL_law_906 rfl (lv_at hl 0 rfl) ?_
  refine lv_iload_n hx hb dL_law_907 rfl (lv_at hl 3 rfl) ?_
  refine lv_iconst (v := (2 : Int32)) hx hb dL_law_908 (by decide) ?_
  refine lv_iadd hx hb dL_law_909 ?_
  refine va_sld hx hb hX hbl hbA hW.2.2 h2 dL_law_910 ?_
  refine bkIs (wf := fun (_ : Unit) => wM cI cJ cZ amm tm') CM hW (fun hWc => runV (As := [.int (xs (i + (1 : Int32)).toNatClampNeg), .int (xs (i + (2 : Int32)).toNatClampNeg)]) (rest := [.int r]) CM hWc (c_m_holds l _ tm' (xs (i + (1 : Int32)).toNatClampNeg) (xs (i + (2 : Int32)).toNatClampNeg) hr2) ca_LM_holds 0 12 rfl rfl rfl rfl rfl ⟨rfl, rfl⟩ ⟨Nat.le_of_ble_eq_true rfl, Nat.le_of_ble_eq_true rfl⟩ (Nat.le_of_ble_eq_true rfl) hl.1 dL_law_911 ⟨by have := hR.1; show _ ≤ 600000; omega, by have := hR.2; show _ ≤ 7302250; omega⟩) (fun _ H locs hW => ?_)
  exact lv_icmp_eq (tgt := 1635) hx hb dL_law_914 (by decide) (fun _ => K gm H locs hW) (fun hne => absurd rfl hne)
set_option maxHeartbeats 4000000 in
set_option maxRecDepth 100000 in
theorem lw_op23 (C : lwC p s m meth c D cI cJ cZ cR st A b L xs) {am gm amm : Nat → Nat} {tx tm tx' tm' : St} {i : Int32} (h1 : vp_in (i + (1 : Int32)) L) (h2 : vp_in (i + (2 : Int32)) L) (h3 : vp_in (i + (3 : Int32)) L) (h4 : vp_in (i + (4 : Int32)) L) (ho : ∃ r : Int32, x11_leastGuards tx (xs (i + (1 : Int32)).toNatClampNeg) = some (r, tx') ∧ m_leastGuards tm (xs (i + (1 : Int32)).toNatClampNeg) = some r ∧ tm' = tm) (hR : 124 + gN tx' 9000 ≤ 600000 ∧ 473133 + gN tx' 9001 ≤ 7302250) (hW : wl D A s (wX cI cJ cZ cR am gm tx ++ wM cI cJ cZ amm tm) H locs) (hl : lv_has ls 4 [(0, .ref b), (1, .ref (am 2011)), (2, .ref (amm 68)), (3, .int i)]) (K : ∀ (gm : Nat → Nat) (H : Heap) (locs : List Loc), wl D A s (wX cI cJ cZ cR am gm tx' ++ wM cI cJ cZ amm tm') H locs → W p l e room_1 s m #[.ref b] below meth c H locs (124 + gN tx' 9000) (473133 + gN tx' 9001) Q (F0 m 1635 ls [])) : W p l e room_1 s m #[.ref b] below meth c H locs (124 + gN tx 9000) (473133 + gN tx 9001) Q (F0 m 919 ls []) := by
  obtain ⟨r, hr1, hr2, rfl⟩ := ho
  obtain ⟨C0, CM, hX, hbl, hbA⟩ := C
  have hx := C0.1.1
  have hb := C0.1.2.1
  have hm : mle tx tx' := mm_x11_leastGuards _ _ _ hr1
  refine lv_aload_n hx hb dL_law_919 rfl (lv_at hl 1 rfl) ?_
  refine lv_aload_n hx hb dL_law_920 rfl (lv_at hl 0 rfl) ?_
  refine lv_iload_n hx hb dL_law_921 rfl (lv_at hl 3 rfl) ?_
  refine lv_iconst (v := (1 : Int32)) hx hb dL_law_922 (by decide) ?_
  refine lv_iadd hx hb dL_law_923 ?_
  refine va_sld hx hb hX hbl hbA hW.2.2 h1 dL_law_924 ?_
  refine bkIs (wf := fun gm => wX cI cJ cZ cR am gm tx') C0.1 hW (fun hWc => runVX (As := [.int (xs (i + (1 : Int32)).toNatClampNeg)]) (rest := []) C0 hWc (c_x11_leastGuards l _ tx (xs (i + (1 : Int32)).toNatClampNeg) hr1) ca_LX_leastGuards 11 11 rfl rfl rfl rfl rfl ⟨rfl, rfl⟩ ⟨Nat.le_of_ble_eq_true rfl, Nat.le_of_ble_eq_true rfl⟩ (Nat.le_of_ble_eq_true rfl) hl.1 dL_law_925 ⟨by have := hm.1; have := hR.1; show _ ≤ 600000; unfold mC; omega, by have := hm.2; have := hR.2; show _ ≤ 7302250; unfold mS; omega⟩) (fun g1 H locs hW => ?_)
  refine W.widen (k := 124 + gN tx' 9000) (n := 473133 + gN tx' 9001) (by have := hm.1; unfold mC; omega) (by have := hm.2; unfold mS; omega) ?_
  refine lv_aload_n hx hb dL_law_928 rfl (lv_at hl 2 rfl) ?_
  refine lv_aload_n hx hb dL_law_929 rfl (lv_at hl 0 rfl) ?_
  refine lv_iload_n hx hb dL_law_930 rfl (lv_at hl 3 rfl) ?_
  refine lv_iconst (v := (1 : Int32)) hx hb dL_law_931 (by decide) ?_
  refine lv_iadd hx hb dL_law_932 ?_
  refine va_sld hx hb hX hbl hbA hW.2.2 h1 dL_law_933 ?_
  refine bkIs (wf := fun (_ : Unit) => wM cI cJ cZ amm tm') CM hW (fun hWc => runV (As := [.int (xs (i + (1 : Int32)).toNatClampNeg)]) (rest := [.int r]) CM hWc (c_m_leastGuards l _ tm' (xs (i + (1 : Int32)).toNatClampNeg) hr2) ca_LM_leastGuards 0 12 rfl rfl rfl rfl rfl ⟨rfl, rfl⟩ ⟨Nat.le_of_ble_eq_true rfl, Nat.le_of_ble_eq_true rfl⟩ (Nat.le_of_ble_eq_true rfl) hl.1 dL_law_934 ⟨by have := hR.1; show _ ≤ 600000; omega, by have := hR.2; show _ ≤ 7302250; omega⟩) (fun _ H locs hW => ?_)
  exact lv_icmp_eq (tgt := 1635) hx hb dL_law_937 (by decide) (fun _ => K g1 H locs hW) (fun hne => absurd rfl hne)
set_option maxHeartbeats 4000000 in
set_option maxRecDepth 100000 in
theorem lw_op24 (C : lwC p s m meth c D cI cJ cZ cR st A b L xs) {am gm amm : Nat → Nat} {tx tm tx' tm' : St} {i : Int32} (h1 : vp_in (i + (1 : Int32)) L) (h2 : vp_in (i + (2 : Int32)) L) (h3 : vp_in (i + (3 : Int32)) L) (h4 : vp_in (i + (4 : Int32)) L) (ho : ∃ r : Int32, x11_front tx (xs (i + (1 : Int32)).toNatClampNeg) = some (r, tx') ∧ m_front tm (xs (i + (1 : Int32)).toNatClampNeg) = some (r, tm')) (hR : 124 + gN tx' 9000 ≤ 600000 ∧ 473133 + gN tx' 9001 ≤ 7302250) (hW : wl D A s (wX cI cJ cZ cR am gm tx ++ wM cI cJ cZ amm tm) H locs) (hl : lv_has ls 4 [(0, .ref b), (1, .ref (am 2011)), (2, .ref (amm 68)), (3, .int i)]) (K : ∀ (gm : Nat → Nat) (H : Heap) (locs : List Loc), wl D A s (wX cI cJ cZ cR am gm tx' ++ wM cI cJ cZ amm tm') H locs → W p l e room_1 s m #[.ref b] below meth c H locs (124 + gN tx' 9000) (473133 + gN tx' 9001) Q (F0 m 1635 ls [])) : W p l e room_1 s m #[.ref b] below meth c H locs (124 + gN tx 9000) (473133 + gN tx 9001) Q (F0 m 942 ls []) := by
  obtain ⟨r, hr1, hr2⟩ := ho
  obtain ⟨C0, CM, hX, hbl, hbA⟩ := C
  have hx := C0.1.1
  have hb := C0.1.2.1
  have hm : mle tx tx' := mm_x11_front _ _ _ hr1
  refine lv_aload_n hx hb dL_law_942 rfl (lv_at hl 1 rfl) ?_
  refine lv_aload_n hx hb dL_law_943 rfl (lv_at hl 0 rfl) ?_
  refine lv_iload_n hx hb dL_law_944 rfl (lv_at hl 3 rfl) ?_
  refine lv_iconst (v := (1 : Int32)) hx hb dL_law_945 (by decide) ?_
  refine lv_iadd hx hb dL_law_946 ?_
  refine va_sld hx hb hX hbl hbA hW.2.2 h1 dL_law_947 ?_
  refine bkIs (wf := fun gm => wX cI cJ cZ cR am gm tx') C0.1 hW (fun hWc => runVX (As := [.int (xs (i + (1 : Int32)).toNatClampNeg)]) (rest := []) C0 hWc (c_x11_front l _ tx (xs (i + (1 : Int32)).toNatClampNeg) hr1) ca_LX_front 11 11 rfl rfl rfl rfl rfl ⟨rfl, rfl⟩ ⟨Nat.le_of_ble_eq_true rfl, Nat.le_of_ble_eq_true rfl⟩ (Nat.le_of_ble_eq_true rfl) hl.1 dL_law_948 ⟨by have := hm.1; have := hR.1; show _ ≤ 600000; unfold mC; omega, by have := hm.2; have := hR.2; show _ ≤ 7302250; unfold mS; omega⟩) (fun g1 H locs hW => ?_)
  refine W.widen (k := 124 + gN tx' 9000) (n := 473133 + gN tx' 9001) (by have := hm.1; unfold mC; omega) (by have := hm.2; unfold mS; omega) ?_
  refine lv_aload_n hx hb dL_law_951 rfl (lv_at hl 2 rfl) ?_
  refine lv_aload_n hx hb dL_law_952 rfl (lv_at hl 0 rfl) ?_
  refine lv_iload_n hx hb dL_law_953 rfl (lv_at hl 3 rfl) ?_
  refine lv_iconst (v := (1 : Int32)) hx hb dL_law_954 (by decide) ?_
  refine lv_iadd hx hb dL_law_955 ?_
  refine va_sld hx hb hX hbl hbA hW.2.2 h1 dL_law_956 ?_
  refine bkIs (wf := fun (_ : Unit) => wM cI cJ cZ amm tm') CM hW (fun hWc => runV (As := [.int (xs (i + (1 : Int32)).toNatClampNeg)]) (rest := [.int r]) CM hWc (c_m_front l _ tm (xs (i + (1 : Int32)).toNatClampNeg) hr2) ca_LM_front 0 12 rfl rfl rfl rfl rfl ⟨rfl, rfl⟩ ⟨Nat.le_of_ble_eq_true rfl, Nat.le_of_ble_eq_true rfl⟩ (Nat.le_of_ble_eq_true rfl) hl.1 dL_law_957 ⟨by have := hR.1; show _ ≤ 600000; omega, by have := hR.2; show _ ≤ 7302250; omega⟩) (fun _ H locs hW => ?_)
  exact lv_icmp_eq (tgt := 1635) hx hb dL_law_960 (by decide) (fun _ => K g1 H locs hW) (fun hne => absurd rfl hne)
set_option maxHeartbeats 4000000 in
set_option maxRecDepth 100000 in
theorem lw_op25 (C : lwC p s m meth c D cI cJ cZ cR st A b L xs) {am gm amm : Nat → Nat} {tx tm tx' tm' : St} {i : Int32} (h1 : vp_in (i + (1 : Int32)) L) (h2 : vp_in (i + (2 : Int32)) L) (h3 : vp_in (i + (3 : Int32)) L) (h4 : vp_in (i + (4 : Int32)) L) (ho : ∃ r : Int32, x11_frontAt tx (xs (i + (1 : Int32)).toNatClampNeg) (xs (i + (2 : Int32)).toNatClampNeg) (xs (i + (3 : Int32)).toNatClampNeg) = some (r, tx') ∧ m_frontAt tm (xs (i + (1 : Int32)).toNatClampNeg) (xs (i + (2 : Int32)).toNatClampNeg) (xs (i + (3 : Int32)).toNatClampNeg) = some (r, tm')) (hR : 124 + gN tx' 9000 ≤ 600000 ∧ 473133 + gN tx' 9001 ≤ 7302250) (hW : wl D A s (wX cI cJ cZ cR am gm tx ++ wM cI cJ cZ amm tm) H locs) (hl : lv_has ls 4 [(0, .ref b), (1, .ref (am 2011)), (2, .ref (amm 68)), (3, .int i)]) (K : ∀ (gm : Nat → Nat) (H : Heap) (locs : List Loc), wl D A s (wX cI cJ cZ cR am gm tx' ++ wM cI cJ cZ amm tm') H locs → W p l e room_1 s m #[.ref b] below meth c H locs (124 + gN tx' 9000) (473133 + gN tx' 9001) Q (F0 m 1635 ls [])) : W p l e room_1 s m #[.ref b] below meth c H locs (124 + gN tx 9000) (473133 + gN tx 9001) Q (F0 m 965 ls []) := by
  obtain ⟨r, hr1, hr2⟩ := ho
  obtain ⟨C0, CM, hX, hbl, hbA⟩ := C
  have hx := C0.1.1
  have hb := C0.1.2.1
  have hm : mle tx tx' := mm_x11_frontAt _ _ _ _ _ hr1
  refine lv_aload_n hx hb dL_law_965 rfl (lv_at hl 1 rfl) ?_
  refine lv_aload_n hx hb dL_law_966 rfl (lv_at hl 0 rfl) ?_
  refine lv_iload_n hx hb dL_law_967 rfl (lv_at hl 3 rfl) ?_
  refine lv_iconst (v := (1 : Int32)) hx hb dL_law_968 (by decide) ?_
  refine lv_iadd hx hb dL_law_969 ?_
  refine va_sld hx hb hX hbl hbA hW.2.2 h1 dL_law_970 ?_
  refine lv_aload_n hx hb dL_law_971 rfl (lv_at hl 0 rfl) ?_
  refine lv_iload_n hx hb dL_law_972 rfl (lv_at hl 3 rfl) ?_
  refine lv_iconst (v := (2 : Int32)) hx hb dL_law_973 (by decide) ?_
  refine lv_iadd hx hb dL_law_974 ?_
  refine va_sld hx hb hX hbl hbA hW.2.2 h2 dL_law_975 ?_
  refine lv_aload_n hx hb dL_law_976 rfl (lv_at hl 0 rfl) ?_
  refine lv_iload_n hx hb dL_law_977 rfl (lv_at hl 3 rfl) ?_
  refine lv_iconst (v := (3 : Int32)) hx hb dL_law_978 (by decide) ?_
  refine lv_iadd hx hb dL_law_979 ?_
  refine va_sld hx hb hX hbl hbA hW.2.2 h3 dL_law_980 ?_
  refine bkIs (wf := fun gm => wX cI cJ cZ cR am gm tx') C0.1 hW (fun hWc => runVX (As := [.int (xs (i + (1 : Int32)).toNatClampNeg), .int (xs (i + (2 : Int32)).toNatClampNeg), .int (xs (i + (3 : Int32)).toNatClampNeg)]) (rest := []) C0 hWc (c_x11_frontAt l _ tx (xs (i + (1 : Int32)).toNatClampNeg) (xs (i + (2 : Int32)).toNatClampNeg) (xs (i + (3 : Int32)).toNatClampNeg) hr1) ca_LX_frontAt 11 11 rfl rfl rfl rfl rfl ⟨rfl, rfl⟩ ⟨Nat.le_of_ble_eq_true rfl, Nat.le_of_ble_eq_true rfl⟩ (Nat.le_of_ble_eq_true rfl) hl.1 dL_law_981 ⟨by have := hm.1; have := hR.1; show _ ≤ 600000; unfold mC; omega, by have := hm.2; have := hR.2; show _ ≤ 7302250; unfold mS; omega⟩) (fun g1 H locs hW => ?_)
  refine W.widen (k := 124 + gN tx' 9000) (n := 473133 + gN tx' 9001) (by have := hm.1; unfold mC; omega) (by have := hm.2; unfold mS; omega) ?_
  refine lv_aload_n hx hb dL_law_984 rfl (lv_at hl 2 rfl) ?_
  refine lv_aload_n hx hb dL_law_985 rfl (lv_at hl 0 rfl) ?_
  refine lv_iload_n hx hb dL_law_986 rfl (lv_at hl 3 rfl) ?_
  refine lv_iconst (v := (1 : Int32)) hx hb dL_law_987 (by decide) ?_
  refine lv_iadd hx hb dL_law_988 ?_
  refine va_sld hx hb hX hbl hbA hW.2.2 h1 dL_law_989 ?_
  refine lv_aload_n hx hb dL_law_990 rfl (lv_at hl 0 rfl) ?_
  refine lv_iload_n hx hb dL_law_991 rfl (lv_at hl 3 rfl) ?_
  refine lv_iconst (v := (2 : Int32)) hx hb dL_law_992 (by decide) ?_
  refine lv_iadd hx hb dL_law_993 ?_
  refine va_sld hx hb hX hbl hbA hW.2.2 h2 dL_law_994 ?_
  refine lv_aload_n hx hb dL_law_995 rfl (lv_at hl 0 rfl) ?_
  refine lv_iload_n hx hb dL_law_996 rfl (lv_at hl 3 rfl) ?_
  refine lv_iconst (v := (3 : Int32)) hx hb dL_law_997 (by decide) ?_
  refine lv_iadd hx hb dL_law_998 ?_
  refine va_sld hx hb hX hbl hbA hW.2.2 h3 dL_law_999 ?_
  refine bkIs (wf := fun (_ : Unit) => wM cI cJ cZ amm tm') CM hW (fun hWc => runV (As := [.int (xs (i + (1 : Int32)).toNatClampNeg), .int (xs (i + (2 : Int32)).toNatClampNeg), .int (xs (i + (3 : Int32)).toNatClampNeg)]) (rest := [.int r]) CM hWc (c_m_frontAt l _ tm (xs (i + (1 : Int32)).toNatClampNeg) (xs (i + (2 : Int32)).toNatClampNeg) (xs (i + (3 : Int32)).toNatClampNeg) hr2) ca_LM_frontAt 0 12 rfl rfl rfl rfl rfl ⟨rfl, rfl⟩ ⟨Nat.le_of_ble_eq_true rfl, Nat.le_of_ble_eq_true rfl⟩ (Nat.le_of_ble_eq_true rfl) hl.1 dL_law_1000 ⟨by have := hR.1; show _ ≤ 600000; omega, by have := hR.2; show _ ≤ 7302250; omega⟩) (fun _ H locs hW => ?_)
  exact lv_icmp_eq (tgt := 1635) hx hb dL_law_1003 (by decide) (fun _ => K g1 H locs hW) (fun hne => absurd rfl hne)
set_option maxHeartbeats 4000000 in
set_option maxRecDepth 100000 in
theorem lw_op26 (C : lwC p s m meth c D cI cJ cZ cR st A b L xs) {am gm amm : Nat → Nat} {tx tm tx' tm' : St} {i : Int32} (h1 : vp_in (i + (1 : Int32)) L) (h2 : vp_in (i + (2 : Int32)) L) (h3 : vp_in (i + (3 : Int32)) L) (h4 : vp_in (i + (4 : Int32)) L) (ho : ∃ r : Int32, x11_patrol tx = some (r, tx') ∧ m_patrol tm = some (r, tm')) (hR : 124 + gN tx' 9000 ≤ 600000 ∧ 473133 + gN tx' 9001 ≤ 7302250) (hW : wl D A s (wX cI cJ cZ cR am gm tx ++ wM cI cJ cZ amm tm) H locs) (hl : lv_has ls 4 [(0, .ref b), (1, .ref (am 2011)), (2, .ref (amm 68)), (3, .int i)]) (K : ∀ (gm : Nat → Nat) (H : Heap) (locs : List Loc), wl D A s (wX cI cJ cZ cR am gm tx' ++ wM cI cJ cZ amm tm') H locs → W p l e room_1 s m #[.ref b] below meth c H locs (124 + gN tx' 9000) (473133 + gN tx' 9001) Q (F0 m 1635 ls [])) : W p l e room_1 s m #[.ref b] below meth c H locs (124 + gN tx 9000) (473133 + gN tx 9001) Q (F0 m 1008 ls []) := by
  obtain ⟨r, hr1, hr2⟩ := ho
  obtain ⟨C0, CM, hX, hbl, hbA⟩ := C
  have hx := C0.1.1
  have hb := C0.1.2.1
  have hm : mle tx tx' := mm_x11_patrol _  _ hr1
  refine lv_aload_n hx hb dL_law_1008 rfl (lv_at hl 1 rfl) ?_
  refine bkIs (wf := fun (_ : Unit) => wX cI cJ cZ cR am gm tx') C0.1 hW (fun hWc => runVX (As := []) (rest := []) C0 hWc (c_x11_patrol l _ tx  hr1) ca_LX_patrol 11 11 rfl rfl rfl rfl rfl ⟨rfl, rfl⟩ ⟨Nat.le_of_ble_eq_true rfl, Nat.le_of_ble_eq_true rfl⟩ (Nat.le_of_ble_eq_true rfl) hl.1 dL_law_1009 ⟨by have := hm.1; have := hR.1; show _ ≤ 600000; omega, by have := hm.2; have := hR.2; show _ ≤ 7302250; omega⟩) (fun g1 H locs hW => ?_)
  refine W.widen (k := 124 + gN tx' 9000) (n := 473133 + gN tx' 9001) (by have := hm.1; omega) (by have := hm.2; omega) ?_
  refine lv_aload_n hx hb dL_law_1012 rfl (lv_at hl 2 rfl) ?_
  refine bkIs (wf := fun (_ : Unit) => wM cI cJ cZ amm tm') CM hW (fun hWc => runV (As := []) (rest := [.int r]) CM hWc (c_m_patrol l _ tm  hr2) ca_LM_patrol 0 12 rfl rfl rfl rfl rfl ⟨rfl, rfl⟩ ⟨Nat.le_of_ble_eq_true rfl, Nat.le_of_ble_eq_true rfl⟩ (Nat.le_of_ble_eq_true rfl) hl.1 dL_law_1013 ⟨by have := hR.1; show _ ≤ 600000; omega, by have := hR.2; show _ ≤ 7302250; omega⟩) (fun _ H locs hW => ?_)
  exact lv_icmp_eq (tgt := 1635) hx hb dL_law_1016 (by decide) (fun _ => K gm H locs hW) (fun hne => absurd rfl hne)
set_option maxHeartbeats 4000000 in
set_option maxRecDepth 100000 in
theorem lw_op27 (C : lwC p s m meth c D cI cJ cZ cR st A b L xs) {am gm amm : Nat → Nat} {tx tm tx' tm' : St} {i : Int32} (h1 : vp_in (i + (1 : Int32)) L) (h2 : vp_in (i + (2 : Int32)) L) (h3 : vp_in (i + (3 : Int32)) L) (h4 : vp_in (i + (4 : Int32)) L) (ho : ∃ r : Int32, x11_catches tx (xs (i + (1 : Int32)).toNatClampNeg) (xs (i + (2 : Int32)).toNatClampNeg) (xs (i + (3 : Int32)).toNatClampNeg) = some (r, tx') ∧ m_catches tm (xs (i + (1 : Int32)).toNatClampNeg) (xs (i + (2 : Int32)).toNatClampNeg) (xs (i + (3 : Int32)).toNatClampNeg) = some (r, tm')) (hR : 124 + gN tx' 9000 ≤ 600000 ∧ 473133 + gN tx' 9001 ≤ 7302250) (hW : wl D A s (wX cI cJ cZ cR am gm tx ++ wM cI cJ cZ amm tm) H locs) (hl : lv_has ls 4 [(0, .ref b), (1, .ref (am 2011)), (2, .ref (amm 68)), (3, .int i)]) (K : ∀ (gm : Nat → Nat) (H : Heap) (locs : List Loc), wl D A s (wX cI cJ cZ cR am gm tx' ++ wM cI cJ cZ amm tm') H locs → W p l e room_1 s m #[.ref b] below meth c H locs (124 + gN tx' 9000) (473133 + gN tx' 9001) Q (F0 m 1635 ls [])) : W p l e room_1 s m #[.ref b] below meth c H locs (124 + gN tx 9000) (473133 + gN tx 9001) Q (F0 m 1021 ls []) := by
  obtain ⟨r, hr1, hr2⟩ := ho
  obtain ⟨C0, CM, hX, hbl, hbA⟩ := C
  have hx := C0.1.1
  have hb := C0.1.2.1
  have hm : mle tx tx' := mm_x11_catches _ _ _ _ _ hr1
  refine lv_aload_n hx hb dL_law_1021 rfl (lv_at hl 1 rfl) ?_
  refine lv_aload_n hx hb dL_law_1022 rfl (lv_at hl 0 rfl) ?_
  refine lv_iload_n hx hb dL_law_1023 rfl (lv_at hl 3 rfl) ?_
  refine lv_iconst (v := (1 : Int32)) hx hb dL_law_1024 (by decide) ?_
  refine lv_iadd hx hb dL_law_1025 ?_
  refine va_sld hx hb hX hbl hbA hW.2.2 h1 dL_law_1026 ?_
  refine lv_aload_n hx hb dL_law_1027 rfl (lv_at hl 0 rfl) ?_
  refine lv_iload_n hx hb dL_law_1028 rfl (lv_at hl 3 rfl) ?_
  refine lv_iconst (v := (2 : Int32)) hx hb dL_law_1029 (by decide) ?_
  refine lv_iadd hx hb dL_law_1030 ?_
  refine va_sld hx hb hX hbl hbA hW.2.2 h2 dL_law_1031 ?_
  refine lv_aload_n hx hb dL_law_1032 rfl (lv_at hl 0 rfl) ?_
  refine lv_iload_n hx hb dL_law_1033 rfl (lv_at hl 3 rfl) ?_
  refine lv_iconst (v := (3 : Int32)) hx hb dL_law_1034 (by decide) ?_
  refine lv_iadd hx hb dL_law_1035 ?_
  refine va_sld hx hb hX hbl hbA hW.2.2 h3 dL_law_1036 ?_
  refine bkIs (wf := fun (_ : Unit) => wX cI cJ cZ cR am gm tx') C0.1 hW (fun hWc => runVX (As := [.int (xs (i + (1 : Int32)).toNatClampNeg), .int (xs (i + (2 : Int32)).toNatClampNeg), .int (xs (i + (3 : Int32)).toNatClampNeg)]) (rest := []) C0 hWc (c_x11_catches l _ tx (xs (i + (1 : Int32)).toNatClampNeg) (xs (i + (2 : Int32)).toNatClampNeg) (xs (i + (3 : Int32)).toNatClampNeg) hr1) ca_LX_catches 11 11 rfl rfl rfl rfl rfl ⟨rfl, rfl⟩ ⟨Nat.le_of_ble_eq_true rfl, Nat.le_of_ble_eq_true rfl⟩ (Nat.le_of_ble_eq_true rfl) hl.1 dL_law_1037 ⟨by have := hm.1; have := hR.1; show _ ≤ 600000; omega, by have := hm.2; have := hR.2; show _ ≤ 7302250; omega⟩) (fun g1 H locs hW => ?_)
  refine W.widen (k := 124 + gN tx' 9000) (n := 473133 + gN tx' 9001) (by have := hm.1; omega) (by have := hm.2; omega) ?_
  refine lv_aload_n hx hb dL_law_1040 rfl (lv_at hl 2 rfl) ?_
  refine lv_aload_n hx hb dL_law_1041 rfl (lv_at hl 0 rfl) ?_
  refine lv_iload_n hx hb dL_law_1042 rfl (lv_at hl 3 rfl) ?_
  refine lv_iconst (v := (1 : Int32)) hx hb dL_law_1043 (by decide) ?_
  refine lv_iadd hx hb dL_law_1044 ?_
  refine va_sld hx hb hX hbl hbA hW.2.2 h1 dL_law_1045 ?_
  refine lv_aload_n hx hb dL_law_1046 rfl (lv_at hl 0 rfl) ?_
  refine lv_iload_n hx hb dL_law_1047 rfl (lv_at hl 3 rfl) ?_
  refine lv_iconst (v := (2 : Int32)) hx hb dL_law_1048 (by decide) ?_
  refine lv_iadd hx hb dL_law_1049 ?_
  refine va_sld hx hb hX hbl hbA hW.2.2 h2 dL_law_1050 ?_
  refine lv_aload_n hx hb dL_law_1051 rfl (lv_at hl 0 rfl) ?_
  refine lv_iload_n hx hb dL_law_1052 rfl (lv_at hl 3 rfl) ?_
  refine lv_iconst (v := (3 : Int32)) hx hb dL_law_1053 (by decide) ?_
  refine lv_iadd hx hb dL_law_1054 ?_
  refine va_sld hx hb hX hbl hbA hW.2.2 h3 dL_law_1055 ?_
  refine bkIs (wf := fun (_ : Unit) => wM cI cJ cZ amm tm') CM hW (fun hWc => runV (As := [.int (xs (i + (1 : Int32)).toNatClampNeg), .int (xs (i + (2 : Int32)).toNatClampNeg), .int (xs (i + (3 : Int32)).toNatClampNeg)]) (rest := [.int r]) CM hWc (c_m_catches l _ tm (xs (i + (1 : Int32)).toNatClampNeg) (xs (i + (2 : Int32)).toNatClampNeg) (xs (i + (3 : Int32)).toNatClampNeg) hr2) ca_LM_catches 0 12 rfl rfl rfl rfl rfl ⟨rfl, rfl⟩ ⟨Nat.le_of_ble_eq_true rfl, Nat.le_of_ble_eq_true rfl⟩ (Nat.le_of_ble_eq_true rfl) hl.1 dL_law_1056 ⟨by have := hR.1; show _ ≤ 600000; omega, by have := hR.2; show _ ≤ 7302250; omega⟩) (fun _ H locs hW => ?_)
  exact lv_icmp_eq (tgt := 1635) hx hb dL_law_1059 (by decide) (fun _ => K gm H locs hW) (fun hne => absurd rfl hne)
set_option maxHeartbeats 4000000 in
set_option maxRecDepth 100000 in
theorem lw_op28 (C : lwC p s m meth c D cI cJ cZ cR st A b L xs) {am gm amm : Nat → Nat} {tx tm tx' tm' : St} {i : Int32} (h1 : vp_in (i + (1 : Int32)) L) (h2 : vp_in (i + (2 : Int32)) L) (h3 : vp_in (i + (3 : Int32)) L) (h4 : vp_in (i + (4 : Int32)) L) (ho : ∃ r : Int32, x11_game tx (xs (i + (1 : Int32)).toNatClampNeg) = some (r, tx') ∧ m_game tm (xs (i + (1 : Int32)).toNatClampNeg) = some (r, tm')) (hR : 124 + gN tx' 9000 ≤ 600000 ∧ 473133 + gN tx' 9001 ≤ 7302250) (hW : wl D A s (wX cI cJ cZ cR am gm tx ++ wM cI cJ cZ amm tm) H locs) (hl : lv_has ls 4 [(0, .ref b), (1, .ref (am 2011)), (2, .ref (amm 68)), (3, .int i)]) (K : ∀ (gm : Nat → Nat) (H : Heap) (locs : List Loc), wl D A s (wX cI cJ cZ cR am gm tx' ++ wM cI cJ cZ amm tm') H locs → W p l e room_1 s m #[.ref b] below meth c H locs (124 + gN tx' 9000) (473133 + gN tx' 9001) Q (F0 m 1635 ls [])) : W p l e room_1 s m #[.ref b] below meth c H locs (124 + gN tx 9000) (473133 + gN tx 9001) Q (F0 m 1064 ls []) := by
  obtain ⟨r, hr1, hr2⟩ := ho
  obtain ⟨C0, CM, hX, hbl, hbA⟩ := C
  have hx := C0.1.1
  have hb := C0.1.2.1
  have hm : mle tx tx' := mm_x11_game _ _ _ hr1
  refine lv_aload_n hx hb dL_law_1064 rfl (lv_at hl 1 rfl) ?_
  refine lv_aload_n hx hb dL_law_1065 rfl (lv_at hl 0 rfl) ?_
  refine lv_iload_n hx hb dL_law_1066 rfl (lv_at hl 3 rfl) ?_
  refine lv_iconst (v := (1 : Int32)) hx hb dL_law_1067 (by decide) ?_
  refine lv_iadd hx hb dL_law_1068 ?_
  refine va_sld hx hb hX hbl hbA hW.2.2 h1 dL_law_1069 ?_
  refine bkIs (wf := fun gm => wX cI cJ cZ cR am gm tx') C0.1 hW (fun hWc => runVX (As := [.int (xs (i + (1 : Int32)).toNatClampNeg)]) (rest := []) C0 hWc (c_x11_game l _ tx (xs (i + (1 : Int32)).toNatClampNeg) hr1) ca_LX_game 11 11 rfl rfl rfl rfl rfl ⟨rfl, rfl⟩ ⟨Nat.le_of_ble_eq_true rfl, Nat.le_of_ble_eq_true rfl⟩ (Nat.le_of_ble_eq_true rfl) hl.1 dL_law_1070 ⟨by have := hm.1; have := hR.1; show _ ≤ 600000; unfold mC; omega, by have := hm.2; have := hR.2; show _ ≤ 7302250; unfold mS; omega⟩) (fun g1 H locs hW => ?_)
  refine W.widen (k := 124 + gN tx' 9000) (n := 473133 + gN tx' 9001) (by have := hm.1; unfold mC; omega) (by have := hm.2; unfold mS; omega) ?_
  refine lv_aload_n hx hb dL_law_1073 rfl (lv_at hl 2 rfl) ?_
  refine lv_aload_n hx hb dL_law_1074 rfl (lv_at hl 0 rfl) ?_
  refine lv_iload_n hx hb dL_law_1075 rfl (lv_at hl 3 rfl) ?_
  refine lv_iconst (v := (1 : Int32)) hx hb dL_law_1076 (by decide) ?_
  refine lv_iadd hx hb dL_law_1077 ?_
  refine va_sld hx hb hX hbl hbA hW.2.2 h1 dL_law_1078 ?_
  refine bkIs (wf := fun (_ : Unit) => wM cI cJ cZ amm tm') CM hW (fun hWc => runV (As := [.int (xs (i + (1 : Int32)).toNatClampNeg)]) (rest := [.int r]) CM hWc (c_m_game l _ tm (xs (i + (1 : Int32)).toNatClampNeg) hr2) ca_LM_game 0 12 rfl rfl rfl rfl rfl ⟨rfl, rfl⟩ ⟨Nat.le_of_ble_eq_true rfl, Nat.le_of_ble_eq_true rfl⟩ (Nat.le_of_ble_eq_true rfl) hl.1 dL_law_1079 ⟨by have := hR.1; show _ ≤ 600000; omega, by have := hR.2; show _ ≤ 7302250; omega⟩) (fun _ H locs hW => ?_)
  exact lv_icmp_eq (tgt := 1635) hx hb dL_law_1082 (by decide) (fun _ => K g1 H locs hW) (fun hne => absurd rfl hne)
set_option maxHeartbeats 4000000 in
set_option maxRecDepth 100000 in
theorem lw_op29 (C : lwC p s m meth c D cI cJ cZ cR st A b L xs) {am gm amm : Nat → Nat} {tx tm tx' tm' : St} {i : Int32} (h1 : vp_in (i + (1 : Int32)) L) (h2 : vp_in (i + (2 : Int32)) L) (h3 : vp_in (i + (3 : Int32)) L) (h4 : vp_in (i + (4 : Int32)) L) (ho : ∃ r : Int32, x11_insider tx (xs (i + (1 : Int32)).toNatClampNeg) = some (r, tx') ∧ m_insider tm (xs (i + (1 : Int32)).toNatClampNeg) = some (r, tm')) (hR : 124 + gN tx' 9000 ≤ 600000 ∧ 473133 + gN tx' 9001 ≤ 7302250) (hW : wl D A s (wX cI cJ cZ cR am gm tx ++ wM cI cJ cZ amm tm) H locs) (hl : lv_has ls 4 [(0, .ref b), (1, .ref (am 2011)), (2, .ref (amm 68)), (3, .int i)]) (K : ∀ (gm : Nat → Nat) (H : Heap) (locs : List Loc), wl D A s (wX cI cJ cZ cR am gm tx' ++ wM cI cJ cZ amm tm') H locs → W p l e room_1 s m #[.ref b] below meth c H locs (124 + gN tx' 9000) (473133 + gN tx' 9001) Q (F0 m 1635 ls [])) : W p l e room_1 s m #[.ref b] below meth c H locs (124 + gN tx 9000) (473133 + gN tx 9001) Q (F0 m 1087 ls []) := by
  obtain ⟨r, hr1, hr2⟩ := ho
  obtain ⟨C0, CM, hX, hbl, hbA⟩ := C
  have hx := C0.1.1
  have hb := C0.1.2.1
  have hm : mle tx tx' := mm_x11_insider _ _ _ hr1
  refine lv_aload_n hx hb dL_law_1087 rfl (lv_at hl 1 rfl) ?_
  refine lv_aload_n hx hb dL_law_1088 rfl (lv_at hl 0 rfl) ?_
  refine lv_iload_n hx hb dL_law_1089 rfl (lv_at hl 3 rfl) ?_
  refine lv_iconst (v := (1 : Int32)) hx hb dL_law_1090 (by decide) ?_
  refine lv_iadd hx hb dL_law_1091 ?_
  refine va_sld hx hb hX hbl hbA hW.2.2 h1 dL_law_1092 ?_
  refine bkIs (wf := fun (_ : Unit) => wX cI cJ cZ cR am gm tx') C0.1 hW (fun hWc => runVX (As := [.int (xs (i + (1 : Int32)).toNatClampNeg)]) (rest := []) C0 hWc (c_x11_insider l _ tx (xs (i + (1 : Int32)).toNatClampNeg) hr1) ca_LX_insider 11 11 rfl rfl rfl rfl rfl ⟨rfl, rfl⟩ ⟨Nat.le_of_ble_eq_true rfl, Nat.le_of_ble_eq_true rfl⟩ (Nat.le_of_ble_eq_true rfl) hl.1 dL_law_1093 ⟨by have := hm.1; have := hR.1; show _ ≤ 600000; omega, by have := hm.2; have := hR.2; show _ ≤ 7302250; omega⟩) (fun g1 H locs hW => ?_)
  refine W.widen (k := 124 + gN tx' 9000) (n := 473133 + gN tx' 9001) (by have := hm.1; omega) (by have := hm.2; omega) ?_
  refine lv_aload_n hx hb dL_law_1096 rfl (lv_at hl 2 rfl) ?_
  refine lv_aload_n hx hb dL_law_1097 rfl (lv_at hl 0 rfl) ?_
  refine lv_iload_n hx hb dL_law_1098 rfl (lv_at hl 3 rfl) ?_
  refine lv_iconst (v := (1 : Int32)) hx hb dL_law_1099 (by decide) ?_
  refine lv_iadd hx hb dL_law_1100 ?_
  refine va_sld hx hb hX hbl hbA hW.2.2 h1 dL_law_1101 ?_
  refine bkIs (wf := fun (_ : Unit) => wM cI cJ cZ amm tm') CM hW (fun hWc => runV (As := [.int (xs (i + (1 : Int32)).toNatClampNeg)]) (rest := [.int r]) CM hWc (c_m_insider l _ tm (xs (i + (1 : Int32)).toNatClampNeg) hr2) ca_LM_insider 0 12 rfl rfl rfl rfl rfl ⟨rfl, rfl⟩ ⟨Nat.le_of_ble_eq_true rfl, Nat.le_of_ble_eq_true rfl⟩ (Nat.le_of_ble_eq_true rfl) hl.1 dL_law_1102 ⟨by have := hR.1; show _ ≤ 600000; omega, by have := hR.2; show _ ≤ 7302250; omega⟩) (fun _ H locs hW => ?_)
  exact lv_icmp_eq (tgt := 1635) hx hb dL_law_1105 (by decide) (fun _ => K gm H locs hW) (fun hne => absurd rfl hne)
set_option maxHeartbeats 4000000 in
set_option maxRecDepth 100000 in
theorem lw_op30 (C : lwC p s m meth c D cI cJ cZ cR st A b L xs) {am gm amm : Nat → Nat} {tx tm tx' tm' : St} {i : Int32} (h1 : vp_in (i + (1 : Int32)) L) (h2 : vp_in (i + (2 : Int32)) L) (h3 : vp_in (i + (3 : Int32)) L) (h4 : vp_in (i + (4 : Int32)) L) (ho : ∃ r : Int32, x11_worst tx (xs (i + (1 : Int32)).toNatClampNeg) (xs (i + (2 : Int32)).toNatClampNeg) (xs (i + (3 : Int32)).toNatClampNeg) = some (r, tx') ∧ m_worst tm (xs (i + (1 : Int32)).toNatClampNeg) (xs (i + (2 : Int32)).toNatClampNeg) (xs (i + (3 : Int32)).toNatClampNeg) = some (r, tm')) (hR : 124 + gN tx' 9000 ≤ 600000 ∧ 473133 + gN tx' 9001 ≤ 7302250) (hW : wl D A s (wX cI cJ cZ cR am gm tx ++ wM cI cJ cZ amm tm) H locs) (hl : lv_has ls 4 [(0, .ref b), (1, .ref (am 2011)), (2, .ref (amm 68)), (3, .int i)]) (K : ∀ (gm : Nat → Nat) (H : Heap) (locs : List Loc), wl D A s (wX cI cJ cZ cR am gm tx' ++ wM cI cJ cZ amm tm') H locs → W p l e room_1 s m #[.ref b] below meth c H locs (124 + gN tx' 9000) (473133 + gN tx' 9001) Q (F0 m 1635 ls [])) : W p l e room_1 s m #[.ref b] below meth c H locs (124 + gN tx 9000) (473133 + gN tx 9001) Q (F0 m 1110 ls []) := by
  obtain ⟨r, hr1, hr2⟩ := ho
  obtain ⟨C0, CM, hX, hbl, hbA⟩ := C
  have hx := C0.1.1
  have hb := C0.1.2.1
  have hm : mle tx tx' := mm_x11_worst _ _ _ _ _ hr1
  refine lv_aload_n hx hb dL_law_1110 rfl (lv_at hl 1 rfl) ?_
  refine lv_aload_n hx hb dL_law_1111 rfl (lv_at hl 0 rfl) ?_
  refine lv_iload_n hx hb dL_law_1112 rfl (lv_at hl 3 rfl) ?_
  refine lv_iconst (v := (1 : Int32)) hx hb dL_law_1113 (by decide) ?_
  refine lv_iadd hx hb dL_law_1114 ?_
  refine va_sld hx hb hX hbl hbA hW.2.2 h1 dL_law_1115 ?_
  refine lv_aload_n hx hb dL_law_1116 rfl (lv_at hl 0 rfl) ?_
  refine lv_iload_n hx hb dL_law_1117 rfl (lv_at hl 3 rfl) ?_
  refine lv_iconst (v := (2 : Int32)) hx hb dL_law_1118 (by decide) ?_
  refine lv_iadd hx hb dL_law_1119 ?_
  refine va_sld hx hb hX hbl hbA hW.2.2 h2 dL_law_1120 ?_
  refine lv_aload_n hx hb dL_law_1121 rfl (lv_at hl 0 rfl) ?_
  refine lv_iload_n hx hb dL_law_1122 rfl (lv_at hl 3 rfl) ?_
  refine lv_iconst (v := (3 : Int32)) hx hb dL_law_1123 (by decide) ?_
  refine lv_iadd hx hb dL_law_1124 ?_
  refine va_sld hx hb hX hbl hbA hW.2.2 h3 dL_law_1125 ?_
  refine bkIs (wf := fun gm => wX cI cJ cZ cR am gm tx') C0.1 hW (fun hWc => runVX (As := [.int (xs (i + (1 : Int32)).toNatClampNeg), .int (xs (i + (2 : Int32)).toNatClampNeg), .int (xs (i + (3 : Int32)).toNatClampNeg)]) (rest := []) C0 hWc (c_x11_worst l _ tx (xs (i + (1 : Int32)).toNatClampNeg) (xs (i + (2 : Int32)).toNatClampNeg) (xs (i + (3 : Int32)).toNatClampNeg) hr1) ca_LX_worst 11 11 rfl rfl rfl rfl rfl ⟨rfl, rfl⟩ ⟨Nat.le_of_ble_eq_true rfl, Nat.le_of_ble_eq_true rfl⟩ (Nat.le_of_ble_eq_true rfl) hl.1 dL_law_1126 ⟨by have := hm.1; have := hR.1; show _ ≤ 600000; unfold mC; omega, by have := hm.2; have := hR.2; show _ ≤ 7302250; unfold mS; omega⟩) (fun g1 H locs hW => ?_)
  refine W.widen (k := 124 + gN tx' 9000) (n := 473133 + gN tx' 9001) (by have := hm.1; unfold mC; omega) (by have := hm.2; unfold mS; omega) ?_
  refine lv_aload_n hx hb dL_law_1129 rfl (lv_at hl 2 rfl) ?_
  refine lv_aload_n hx hb dL_law_1130 rfl (lv_at hl 0 rfl) ?_
  refine lv_iload_n hx hb dL_law_1131 rfl (lv_at hl 3 rfl) ?_
  refine lv_iconst (v := (1 : Int32)) hx hb dL_law_1132 (by decide) ?_
  refine lv_iadd hx hb dL_law_1133 ?_
  refine va_sld hx hb hX hbl hbA hW.2.2 h1 dL_law_1134 ?_
  refine lv_aload_n hx hb dL_law_1135 rfl (lv_at hl 0 rfl) ?_
  refine lv_iload_n hx hb dL_law_1136 rfl (lv_at hl 3 rfl) ?_
  refine lv_iconst (v := (2 : Int32)) hx hb dL_law_1137 (by decide) ?_
  refine lv_iadd hx hb dL_law_1138 ?_
  refine va_sld hx hb hX hbl hbA hW.2.2 h2 dL_law_1139 ?_
  refine lv_aload_n hx hb dL_law_1140 rfl (lv_at hl 0 rfl) ?_
  refine lv_iload_n hx hb dL_law_1141 rfl (lv_at hl 3 rfl) ?_
  refine lv_iconst (v := (3 : Int32)) hx hb dL_law_1142 (by decide) ?_
  refine lv_iadd hx hb dL_law_1143 ?_
  refine va_sld hx hb hX hbl hbA hW.2.2 h3 dL_law_1144 ?_
  refine bkIs (wf := fun (_ : Unit) => wM cI cJ cZ amm tm') CM hW (fun hWc => runV (As := [.int (xs (i + (1 : Int32)).toNatClampNeg), .int (xs (i + (2 : Int32)).toNatClampNeg), .int (xs (i + (3 : Int32)).toNatClampNeg)]) (rest := [.int r]) CM hWc (c_m_worst l _ tm (xs (i + (1 : Int32)).toNatClampNeg) (xs (i + (2 : Int32)).toNatClampNeg) (xs (i + (3 : Int32)).toNatClampNeg) hr2) ca_LM_worst 0 12 rfl rfl rfl rfl rfl ⟨rfl, rfl⟩ ⟨Nat.le_of_ble_eq_true rfl, Nat.le_of_ble_eq_true rfl⟩ (Nat.le_of_ble_eq_true rfl) hl.1 dL_law_1145 ⟨by have := hR.1; show _ ≤ 600000; omega, by have := hR.2; show _ ≤ 7302250; omega⟩) (fun _ H locs hW => ?_)
  exact lv_icmp_eq (tgt := 1635) hx hb dL_law_1148 (by decide) (fun _ => K g1 H locs hW) (fun hne => absurd rfl hne)
set_option maxHeartbeats 4000000 in
set_option maxRecDepth 100000 in
theorem lw_op31 (C : lwC p s m meth c D cI cJ cZ cR st A b L xs) {am gm amm : Nat → Nat} {tx tm tx' tm' : St} {i : Int32} (h1 : vp_in (i + (1 : Int32)) L) (h2 : vp_in (i + (2 : Int32)) L) (h3 : vp_in (i + (3 : Int32)) L) (h4 : vp_in (i + (4 : Int32)) L) (ho : ∃ r : Int32, x11_may tx (xs (i + (1 : Int32)).toNatClampNeg) (xs (i + (2 : Int32)).toNatClampNeg) (xs (i + (3 : Int32)).toNatClampNeg) = some (r, tx') ∧ m_may tm (xs (i + (1 : Int32)).toNatClampNeg) (xs (i + (2 : Int32)).toNatClampNeg) (xs (i + (3 : Int32)).toNatClampNeg) = some (r, tm')) (hR : 124 + gN tx' 9000 ≤ 600000 ∧ 473133 + gN tx' 9001 ≤ 7302250) (hW : wl D A s (wX cI cJ cZ cR am gm tx ++ wM cI cJ cZ amm tm) H locs) (hl : lv_has ls 4 [(0, .ref b), (1, .ref (am 2011)), (2, .ref (amm 68)), (3, .int i)]) (K : ∀ (gm : Nat → Nat) (H : Heap) (locs : List Loc), wl D A s (wX cI cJ cZ cR am gm tx' ++ wM cI cJ cZ amm tm') H locs → W p l e room_1 s m #[.ref b] below meth c H locs (124 + gN tx' 9000) (473133 + gN tx' 9001) Q (F0 m 1635 ls [])) : W p l e room_1 s m #[.ref b] below meth c H locs (124 + gN tx 9000) (473133 + gN tx 9001) Q (F0 m 1153 ls []) := by
  obtain ⟨r, hr1, hr2⟩ := ho
  obtain ⟨C0, CM, hX, hbl, hbA⟩ := C
  have hx := C0.1.1
  have hb := C0.1.2.1
  have hm : mle tx tx' := mm_x11_may _ _ _ _ _ hr1
  refine lv_aload_n hx hb dL_law_1153 rfl (lv_at hl 1 rfl) ?_
  refine lv_aload_n hx hb dL_law_1154 rfl (lv_at hl 0 rfl) ?_
  refine lv_iload_n hx hb dL_law_1155 rfl (lv_at hl 3 rfl) ?_
  refine lv_iconst (v := (1 : Int32)) hx hb dL_law_1156 (by decide) ?_
  refine lv_iadd hx hb dL_law_1157 ?_
  refine va_sld hx hb hX hbl hbA hW.2.2 h1 dL_law_1158 ?_
  refine lv_aload_n hx hb dL_law_1159 rfl (lv_at hl 0 rfl) ?_
  refine lv_iload_n hx hb dL_law_1160 rfl (lv_at hl 3 rfl) ?_
  refine lv_iconst (v := (2 : Int32)) hx hb dL_law_1161 (by decide) ?_
  refine lv_iadd hx hb dL_law_1162 ?_
  refine va_sld hx hb hX hbl hbA hW.2.2 h2 dL_law_1163 ?_
  refine lv_aload_n hx hb dL_law_1164 rfl (lv_at hl 0 rfl) ?_
  refine lv_iload_n hx hb dL_law_1165 rfl (lv_at hl 3 rfl) ?_
  refine lv_iconst (v := (3 : Int32)) hx hb dL_law_1166 (by decide) ?_
  refine lv_iadd hx hb dL_law_1167 ?_
  refine va_sld hx hb hX hbl hbA hW.2.2 h3 dL_law_1168 ?_
  refine bkIs (wf := fun gm => wX cI cJ cZ cR am gm tx') C0.1 hW (fun hWc => runVX (As := [.int (xs (i + (1 : Int32)).toNatClampNeg), .int (xs (i + (2 : Int32)).toNatClampNeg), .int (xs (i + (3 : Int32)).toNatClampNeg)]) (rest := []) C0 hWc (c_x11_may l _ tx (xs (i + (1 : Int32)).toNatClampNeg) (xs (i + (2 : Int32)).toNatClampNeg) (xs (i + (3 : Int32)).toNatClampNeg) hr1) ca_LX_may 11 11 rfl rfl rfl rfl rfl ⟨rfl, rfl⟩ ⟨Nat.le_of_ble_eq_true rfl, Nat.le_of_ble_eq_true rfl⟩ (Nat.le_of_ble_eq_true rfl) hl.1 dL_law_1169 ⟨by have := hm.1; have := hR.1; show _ ≤ 600000; unfold mC; omega, by have := hm.2; have := hR.2; show _ ≤ 7302250; unfold mS; omega⟩) (fun g1 H locs hW => ?_)
  refine W.widen (k := 124 + gN tx' 9000) (n := 473133 + gN tx' 9001) (by have := hm.1; unfold mC; omega) (by have := hm.2; unfold mS; omega) ?_
  refine lv_aload_n hx hb dL_law_1172 rfl (lv_at hl 2 rfl) ?_
  refine lv_aload_n hx hb dL_law_1173 rfl (lv_at hl 0 rfl) ?_
  refine lv_iload_n hx hb dL_law_1174 rfl (lv_at hl 3 rfl) ?_
  refine lv_iconst (v := (1 : Int32)) hx hb dL_law_1175 (by decide) ?_
  refine lv_iadd hx hb dL_law_1176 ?_
  refine va_sld hx hb hX hbl hbA hW.2.2 h1 dL_law_1177 ?_
  refine lv_aload_n hx hb dL_law_1178 rfl (lv_at hl 0 rfl) ?_
  refine lv_iload_n hx hb dL_law_1179 rfl (lv_at hl 3 rfl) ?_
  refine lv_iconst (v := (2 : Int32)) hx hb dL_law_1180 (by decide) ?_
  refine lv_iadd hx hb dL_law_1181 ?_
  refine va_sld hx hb hX hbl hbA hW.2.2 h2 dL_law_1182 ?_
  refine lv_aload_n hx hb dL_law_1183 rfl (lv_at hl 0 rfl) ?_
  refine lv_iload_n hx hb dL_law_1184 rfl (lv_at hl 3 rfl) ?_
  refine lv_iconst (v := (3 : Int32)) hx hb dL_law_1185 (by decide) ?_
  refine lv_iadd hx hb dL_law_1186 ?_
  refine va_sld hx hb hX hbl hbA hW.2.2 h3 dL_law_1187 ?_
  refine bkIs (wf := fun (_ : Unit) => wM cI cJ cZ amm tm') CM hW (fun hWc => runV (As := [.int (xs (i + (1 : Int32)).toNatClampNeg), .int (xs (i + (2 : Int32)).toNatClampNeg), .int (xs (i + (3 : Int32)).toNatClampNeg)]) (rest := [.int r]) CM hWc (c_m_may l _ tm (xs (i + (1 : Int32)).toNatClampNeg) (xs (i + (2 : Int32)).toNatClampNeg) (xs (i + (3 : Int32)).toNatClampNeg) hr2) ca_LM_may 0 12 rfl rfl rfl rfl rfl ⟨rfl, rfl⟩ ⟨Nat.le_of_ble_eq_true rfl, Nat.le_of_ble_eq_true rfl⟩ (Nat.le_of_ble_eq_true rfl) hl.1 dL_law_1188 ⟨by have := hR.1; show _ ≤ 600000; omega, by have := hR.2; show _ ≤ 7302250; omega⟩) (fun _ H locs hW => ?_)
  exact lv_icmp_eq (tgt := 1635) hx hb dL_law_1191 (by decide) (fun _ => K g1 H locs hW) (fun hne => absurd rfl hne)
set_option maxHeartbeats 4000000 in
set_option maxRecDepth 100000 in
theorem lw_op32 (C : lwC p s m meth c D cI cJ cZ cR st A b L xs) {am gm amm : Nat → Nat} {tx tm tx' tm' : St} {i : Int32} (h1 : vp_in (i + (1 : Int32)) L) (h2 : vp_in (i + (2 : Int32)) L) (h3 : vp_in (i + (3 : Int32)) L) (h4 : vp_in (i + (4 : Int32)) L) (ho : ∃ r : Int32, x11_ask tx (xs (i + (1 : Int32)).toNatClampNeg) (xs (i + (2 : Int32)).toNatClampNeg) (xs (i + (3 : Int32)).toNatClampNeg) = some (r, tx') ∧ m_ask tm (xs (i + (1 : Int32)).toNatClampNeg) (xs (i + (2 : Int32)).toNatClampNeg) (xs (i + (3 : Int32)).toNatClampNeg) = some (r, tm')) (hR : 124 + gN tx' 9000 ≤ 600000 ∧ 473133 + gN tx' 9001 ≤ 7302250) (hW : wl D A s (wX cI cJ cZ cR am gm tx ++ wM cI cJ cZ amm tm) H locs) (hl : lv_has ls 4 [(0, .ref b), (1, .ref (am 2011)), (2, .ref (amm 68)), (3, .int i)]) (K : ∀ (gm : Nat → Nat) (H : Heap) (locs : List Loc), wl D A s (wX cI cJ cZ cR am gm tx' ++ wM cI cJ cZ amm tm') H locs → W p l e room_1 s m #[.ref b] below meth c H locs (124 + gN tx' 9000) (473133 + gN tx' 9001) Q (F0 m 1635 ls [])) : W p l e room_1 s m #[.ref b] below meth c H locs (124 + gN tx 9000) (473133 + gN tx 9001) Q (F0 m 1196 ls []) := by
  obtain ⟨r, hr1, hr2⟩ := ho
  obtain ⟨C0, CM, hX, hbl, hbA⟩ := C
  have hx := C0.1.1
  have hb := C0.1.2.1
  have hm : mle tx tx' := mm_x11_ask _ _ _ _ _ hr1
  refine lv_aload_n hx hb dL_law_1196 rfl (lv_at hl 1 rfl) ?_
  refine lv_aload_n hx hb dL_law_1197 rfl (lv_at hl 0 rfl) ?_
  refine lv_iload_n hx hb dL_law_1198 rfl (lv_at hl 3 rfl) ?_
  refine lv_iconst (v := (1 : Int32)) hx hb dL_law_1199 (by decide) ?_
  refine lv_iadd hx hb dL_law_1200 ?_
  refine va_sld hx hb hX hbl hbA hW.2.2 h1 dL_law_1201 ?_
  refine lv_aload_n hx hb dL_law_1202 rfl (lv_at hl 0 rfl) ?_
  refine lv_iload_n hx hb dL_law_1203 rfl (lv_at hl 3 rfl) ?_
  refine lv_iconst (v := (2 : Int32)) hx hb dL_law_1204 (by decide) ?_
  refine lv_iadd hx hb dL_law_1205 ?_
  refine va_sld hx hb hX hbl hbA hW.2.2 h2 dL_law_1206 ?_
  refine lv_aload_n hx hb dL_law_1207 rfl (lv_at hl 0 rfl) ?_
  refine lv_iload_n hx hb dL_law_1208 rfl (lv_at hl 3 rfl) ?_
  refine lv_iconst (v := (3 : Int32)) hx hb dL_law_1209 (by decide) ?_
  refine lv_iadd hx hb dL_law_1210 ?_
  refine va_sld hx hb hX hbl hbA hW.2.2 h3 dL_law_1211 ?_
  refine bkIs (wf := fun gm => wX cI cJ cZ cR am gm tx') C0.1 hW (fun hWc => runVX (As := [.int (xs (i + (1 : Int32)).toNatClampNeg), .int (xs (i + (2 : Int32)).toNatClampNeg), .int (xs (i + (3 : Int32)).toNatClampNeg)]) (rest := []) C0 hWc (c_x11_ask l _ tx (xs (i + (1 : Int32)).toNatClampNeg) (xs (i + (2 : Int32)).toNatClampNeg) (xs (i + (3 : Int32)).toNatClampNeg) hr1) ca_LX_ask 11 11 rfl rfl rfl rfl rfl ⟨rfl, rfl⟩ ⟨Nat.le_of_ble_eq_true rfl, Nat.le_of_ble_eq_true rfl⟩ (Nat.le_of_ble_eq_true rfl) hl.1 dL_law_1212 ⟨by have := hm.1; have := hR.1; show _ ≤ 600000; unfold mC; omega, by have := hm.2; have := hR.2; show _ ≤ 7302250; unfold mS; omega⟩) (fun g1 H locs hW => ?_)
  refine W.widen (k := 124 + gN tx' 9000) (n := 473133 + gN tx' 9001) (by have := hm.1; unfold mC; omega) (by have := hm.2; unfold mS; omega) ?_
  refine lv_aload_n hx hb dL_law_1215 rfl (lv_at hl 2 rfl) ?_
  refine lv_aload_n hx hb dL_law_1216 rfl (lv_at hl 0 rfl) ?_
  refine lv_iload_n hx hb dL_law_1217 rfl (lv_at hl 3 rfl) ?_
  refine lv_iconst (v := (1 : Int32)) hx hb dL_law_1218 (by decide) ?_
  refine lv_iadd hx hb dL_law_1219 ?_
  refine va_sld hx hb hX hbl hbA hW.2.2 h1 dL_law_1220 ?_
  refine lv_aload_n hx hb dL_law_1221 rfl (lv_at hl 0 rfl) ?_
  refine lv_iload_n hx hb dL_law_1222 rfl (lv_at hl 3 rfl) ?_
  refine lv_iconst (v := (2 : Int32)) hx hb dL_law_1223 (by decide) ?_
  refine lv_iadd hx hb dL_law_1224 ?_
  refine va_sld hx hb hX hbl hbA hW.2.2 h2 dL_law_1225 ?_
  refine lv_aload_n hx hb dL_law_1226 rfl (lv_at hl 0 rfl) ?_
  refine lv_iload_n hx hb dL_law_1227 rfl (lv_at hl 3 rfl) ?_
  refine lv_iconst (v := (3 : Int32)) hx hb dL_law_1228 (by decide) ?_
  refine lv_iadd hx hb dL_law_1229 ?_
  refine va_sld hx hb hX hbl hbA hW.2.2 h3 dL_law_1230 ?_
  refine bkIs (wf := fun (_ : Unit) => wM cI cJ cZ amm tm') CM hW (fun hWc => runV (As := [.int (xs (i + (1 : Int32)).toNatClampNeg), .int (xs (i + (2 : Int32)).toNatClampNeg), .int (xs (i + (3 : Int32)).toNatClampNeg)]) (rest := [.int r]) CM hWc (c_m_ask l _ tm (xs (i + (1 : Int32)).toNatClampNeg) (xs (i + (2 : Int32)).toNatClampNeg) (xs (i + (3 : Int32)).toNatClampNeg) hr2) ca_LM_ask 0 12 rfl rfl rfl rfl rfl ⟨rfl, rfl⟩ ⟨Nat.le_of_ble_eq_true rfl, Nat.le_of_ble_eq_true rfl⟩ (Nat.le_of_ble_eq_true rfl) hl.1 dL_law_1231 ⟨by have := hR.1; show _ ≤ 600000; omega, by have := hR.2; show _ ≤ 7302250; omega⟩) (fun _ H locs hW => ?_)
  exact lv_icmp_eq (tgt := 1635) hx hb dL_law_1234 (by decide) (fun _ => K g1 H locs hW) (fun hne => absurd rfl hne)
set_option maxHeartbeats 4000000 in
set_option maxRecDepth 100000 in
theorem lw_op33 (C : lwC p s m meth c D cI cJ cZ cR st A b L xs) {am gm amm : Nat → Nat} {tx tm tx' tm' : St} {i : Int32} (h1 : vp_in (i + (1 : Int32)) L) (h2 : vp_in (i + (2 : Int32)) L) (h3 : vp_in (i + (3 : Int32)) L) (h4 : vp_in (i + (4 : Int32)) L) (ho : ∃ r : Int32, x11_event tx (xs (i + (1 : Int32)).toNatClampNeg) (xs (i + (2 : Int32)).toNatClampNeg) = some (r, tx') ∧ m_event tm (xs (i + (1 : Int32)).toNatClampNeg) (xs (i + (2 : Int32)).toNatClampNeg) = some (r, tm')) (hR : 124 + gN tx' 9000 ≤ 600000 ∧ 473133 + gN tx' 9001 ≤ 7302250) (hW : wl D A s (wX cI cJ cZ cR am gm tx ++ wM cI cJ cZ amm tm) H locs) (hl : lv_has ls 4 [(0, .ref b), (1, .ref (am 2011)), (2, .ref (amm 68)), (3, .int i)]) (K : ∀ (gm : Nat → Nat) (H : Heap) (locs : List Loc), wl D A s (wX cI cJ cZ cR am gm tx' ++ wM cI cJ cZ amm tm') H locs → W p l e room_1 s m #[.ref b] below meth c H locs (124 + gN tx' 9000) (473133 + gN tx' 9001) Q (F0 m 1635 ls [])) : W p l e room_1 s m #[.ref b] below meth c H locs (124 + gN tx 9000) (473133 + gN tx 9001) Q (F0 m 1239 ls []) := by
  obtain ⟨r, hr1, hr2⟩ := ho
  obtain ⟨C0, CM, hX, hbl, hbA⟩ := C
  have hx := C0.1.1
  have hb := C0.1.2.1
  have hm : mle tx tx' := mm_x11_event _ _ _ _ hr1
  refine lv_aload_n hx hb dL_law_1239 rfl (lv_at hl 1 rfl) ?_
  refine lv_aload_n hx hb dL_law_1240 rfl (lv_at hl 0 rfl) ?_
  refine lv_iload_n hx hb dL_law_1241 rfl (lv_at hl 3 rfl) ?_
  refine lv_iconst (v := (1 : Int32)) hx hb dL_law_1242 (by decide) ?_
  refine lv_iadd hx hb dL_law_1243 ?_
  refine va_sld hx hb hX hbl hbA hW.2.2 h1 dL_law_1244 ?_
  refine lv_aload_n hx hb dL_law_1245 rfl (lv_at hl 0 rfl) ?_
  refine lv_iload_n hx hb dL_law_1246 rfl (lv_at hl 3 rfl) ?_
  refine lv_iconst (v := (2 : Int32)) hx hb dL_law_1247 (by decide) ?_
  refine lv_iadd hx hb dL_law_1248 ?_
  refine va_sld hx hb hX hbl hbA hW.2.2 h2 dL_law_1249 ?_
  refine bkIs (wf := fun (_ : Unit) => wX cI cJ cZ cR am gm tx') C0.1 hW (fun hWc => runVX (As := [.int (xs (i + (1 : Int32)).toNatClampNeg), .int (xs (i + (2 : Int32)).toNatClampNeg)]) (rest := []) C0 hWc (c_x11_event l _ tx (xs (i + (1 : Int32)).toNatClampNeg) (xs (i + (2 : Int32)).toNatClampNeg) hr1) ca_LX_event 11 11 rfl rfl rfl rfl rfl ⟨rfl, rfl⟩ ⟨Nat.le_of_ble_eq_true rfl, Nat.le_of_ble_eq_true rfl⟩ (Nat.le_of_ble_eq_true rfl) hl.1 dL_law_1250 ⟨by have := hm.1; have := hR.1; show _ ≤ 600000; omega, by have := hm.2; have := hR.2; show _ ≤ 7302250; omega⟩) (fun g1 H locs hW => ?_)
  refine W.widen (k := 124 + gN tx' 9000) (n := 473133 + gN tx' 9001) (by have := hm.1; omega) (by have := hm.2; omega) ?_
  refine lv_aload_n hx hb dL_law_1253 rfl (lv_at hl 2 rfl) ?_
  refine lv_aload_n hx hb dL_law_1254 rfl (lv_at hl 0 rfl) ?_
  refine lv_iload_n hx hb dL_law_1255 rfl (lv_at hl 3 rfl) ?_
  refine lv_iconst (v := (1 : Int32)) hx hb dL_law_1256 (by decide) ?_
  refine lv_iadd hx hb dL_law_1257 ?_
  refine va_sld hx hb hX hbl hbA hW.2.2 h1 dL_law_1258 ?_
  refine lv_aload_n hx hb dL_law_1259 rfl (lv_at hl 0 rfl) ?_
  refine lv_iload_n hx hb dL_law_1260 rfl (lv_at hl 3 rfl) ?_
  refine lv_iconst (v := (2 : Int32)) hx hb dL_law_1261 (by decide) ?_
  refine lv_iadd hx hb dL_law_1262 ?_
  refine va_sld hx hb hX hbl hbA hW.2.2 h2 dL_law_1263 ?_
  refine bkIs (wf := fun (_ : Unit) => wM cI cJ cZ amm tm') CM hW (fun hWc => runV (As := [.int (xs (i + (1 : Int32)).toNatClampNeg), .int (xs (i + (2 : Int32)).toNatClampNeg)]) (rest := [.int r]) CM hWc (c_m_event l _ tm (xs (i + (1 : Int32)).toNatClampNeg) (xs (i + (2 : Int32)).toNatClampNeg) hr2) ca_LM_event 0 12 rfl rfl rfl rfl rfl ⟨rfl, rfl⟩ ⟨Nat.le_of_ble_eq_true rfl, Nat.le_of_ble_eq_true rfl⟩ (Nat.le_of_ble_eq_true rfl) hl.1 dL_law_1264 ⟨by have := hR.1; show _ ≤ 600000; omega, by have := hR.2; show _ ≤ 7302250; omega⟩) (fun _ H locs hW => ?_)
  exact lv_icmp_eq (tgt := 1635) hx hb dL_law_1267 (by decide) (fun _ => K gm H locs hW) (fun hne => absurd rfl hne)
set_option maxHeartbeats 4000000 in
set_option maxRecDepth 100000 in
theorem lw_op34 (C : lwC p s m meth c D cI cJ cZ cR st A b L xs) {am gm amm : Nat → Nat} {tx tm tx' tm' : St} {i : Int32} (h1 : vp_in (i + (1 : Int32)) L) (h2 : vp_in (i + (2 : Int32)) L) (h3 : vp_in (i + (3 : Int32)) L) (h4 : vp_in (i + (4 : Int32)) L) (ho : ∃ r : Int32, x11_rest tx = some (r, tx') ∧ m_rest tm = some (r, tm')) (hR : 124 + gN tx' 9000 ≤ 600000 ∧ 473133 + gN tx' 9001 ≤ 7302250) (hW : wl D A s (wX cI cJ cZ cR am gm tx ++ wM cI cJ cZ amm tm) H locs) (hl : lv_has ls 4 [(0, .ref b), (1, .ref (am 2011)), (2, .ref (amm 68)), (3, .int i)]) (K : ∀ (gm : Nat → Nat) (H : Heap) (locs : List Loc), wl D A s (wX cI cJ cZ cR am gm tx' ++ wM cI cJ cZ amm tm') H locs → W p l e room_1 s m #[.ref b] below meth c H locs (124 + gN tx' 9000) (473133 + gN tx' 9001) Q (F0 m 1635 ls [])) : W p l e room_1 s m #[.ref b] below meth c H locs (124 + gN tx 9000) (473133 + gN tx 9001) Q (F0 m 1272 ls []) := by
  obtain ⟨r, hr1, hr2⟩ := ho
  obtain ⟨C0, CM, hX, hbl, hbA⟩ := C
  have hx := C0.1.1
  have hb := C0.1.2.1
  have hm : mle tx tx' := mm_x11_rest _  _ hr1
  refine lv_aload_n hx hb dL_law_1272 rfl (lv_at hl 1 rfl) ?_
  refine bkIs (wf := fun (_ : Unit) => wX cI cJ cZ cR am gm tx') C0.1 hW (fun hWc => runVX (As := []) (rest := []) C0 hWc (c_x11_rest l _ tx  hr1) ca_LX_rest 11 11 rfl rfl rfl rfl rfl ⟨rfl, rfl⟩ ⟨Nat.le_of_ble_eq_true rfl, Nat.le_of_ble_eq_true rfl⟩ (Nat.le_of_ble_eq_true rfl) hl.1 dL_law_1273 ⟨by have := hm.1; have := hR.1; show _ ≤ 600000; omega, by have := hm.2; have := hR.2; show _ ≤ 7302250; omega⟩) (fun g1 H locs hW => ?_)
  refine W.widen (k := 124 + gN tx' 9000) (n := 473133 + gN tx' 9001) (by have := hm.1; omega) (by have := hm.2; omega) ?_
  refine lv_aload_n hx hb dL_law_1276 rfl (lv_at hl 2 rfl) ?_
  refine bkIs (wf := fun (_ : Unit) => wM cI cJ cZ amm tm') CM hW (fun hWc => runV (As := []) (rest := [.int r]) CM hWc (c_m_rest l _ tm  hr2) ca_LM_rest 0 12 rfl rfl rfl rfl rfl ⟨rfl, rfl⟩ ⟨Nat.le_of_ble_eq_true rfl, Nat.le_of_ble_eq_true rfl⟩ (Nat.le_of_ble_eq_true rfl) hl.1 dL_law_1277 ⟨by have := hR.1; show _ ≤ 600000; omega, by have := hR.2; show _ ≤ 7302250; omega⟩) (fun _ H locs hW => ?_)
  exact lv_icmp_eq (tgt := 1635) hx hb dL_law_1280 (by decide) (fun _ => K gm H locs hW) (fun hne => absurd rfl hne)
set_option maxHeartbeats 4000000 in
set_option maxRecDepth 100000 in
theorem lw_op35 (C : lwC p s m meth c D cI cJ cZ cR st A b L xs) {am gm amm : Nat → Nat} {tx tm tx' tm' : St} {i : Int32} (h1 : vp_in (i + (1 : Int32)) L) (h2 : vp_in (i + (2 : Int32)) L) (h3 : vp_in (i + (3 : Int32)) L) (h4 : vp_in (i + (4 : Int32)) L) (ho : ∃ r : Int32, x11_soon tx = some r ∧ m_soon tm = some r ∧ tx' = tx ∧ tm' = tm) (hR : 124 + gN tx' 9000 ≤ 600000 ∧ 473133 + gN tx' 9001 ≤ 7302250) (hW : wl D A s (wX cI cJ cZ cR am gm tx ++ wM cI cJ cZ amm tm) H locs) (hl : lv_has ls 4 [(0, .ref b), (1, .ref (am 2011)), (2, .ref (amm 68)), (3, .int i)]) (K : ∀ (gm : Nat → Nat) (H : Heap) (locs : List Loc), wl D A s (wX cI cJ cZ cR am gm tx' ++ wM cI cJ cZ amm tm') H locs → W p l e room_1 s m #[.ref b] below meth c H locs (124 + gN tx' 9000) (473133 + gN tx' 9001) Q (F0 m 1635 ls [])) : W p l e room_1 s m #[.ref b] below meth c H locs (124 + gN tx 9000) (473133 + gN tx 9001) Q (F0 m 1285 ls []) := by
  obtain ⟨r, hr1, hr2, rfl, rfl⟩ := ho
  obtain ⟨C0, CM, hX, hbl, hbA⟩ := C
  have hx := C0.1.1
  have hb := C0.1.2.1
  have hm : mle tx' tx' := mle.rfl
  refine lv_aload_n hx hb dL_law_1285 rfl (lv_at hl 1 rfl) ?_
  refine bkIs (wf := fun (_ : Unit) => wX cI cJ cZ cR am gm tx') C0.1 hW (fun hWc => runVX (As := []) (rest := []) C0 hWc (c_x11_soon l _ tx'  hr1) ca_LX_soon 11 11 rfl rfl rfl rfl rfl ⟨rfl, rfl⟩ ⟨Nat.le_of_ble_eq_true rfl, Nat.le_of_ble_eq_true rfl⟩ (Nat.le_of_ble_eq_true rfl) hl.1 dL_law_1286 ⟨by have := hm.1; have := hR.1; show _ ≤ 600000; omega, by have := hm.2; have := hR.2; show _ ≤ 7302250; omega⟩) (fun g1 H locs hW => ?_)
  refine W.widen (k := 124 + gN tx' 9000) (n := 473133 + gN tx' 9001) (by have := hm.1; omega) (by have := hm.2; omega) ?_
  refine lv_aload_n hx hb dL_law_1289 rfl (lv_at hl 2 rfl) ?_
  refine bkIs (wf := fun (_ : Unit) => wM cI cJ cZ amm tm') CM hW (fun hWc => runV (As := []) (rest := [.int r]) CM hWc (c_m_soon l _ tm'  hr2) ca_LM_soon 0 12 rfl rfl rfl rfl rfl ⟨rfl, rfl⟩ ⟨Nat.le_of_ble_eq_true rfl, Nat.le_of_ble_eq_true rfl⟩ (Nat.le_of_ble_eq_true rfl) hl.1 dL_law_1290 ⟨by have := hR.1; show _ ≤ 600000; omega, by have := hR.2; show _ ≤ 7302250; omega⟩) (fun _ H locs hW => ?_)
  exact lv_icmp_eq (tgt := 1635) hx hb dL_law_1293 (by decide) (fun _ => K gm H locs hW) (fun hne => absurd rfl hne)
set_option maxHeartbeats 4000000 in
set_option maxRecDepth 100000 in
theorem lw_op36 (C : lwC p s m meth c D cI cJ cZ cR st A b L xs) {am gm amm : Nat → Nat} {tx tm tx' tm' : St} {i : Int32} (h1 : vp_in (i + (1 : Int32)) L) (h2 : vp_in (i + (2 : Int32)) L) (h3 : vp_in (i + (3 : Int32)) L) (h4 : vp_in (i + (4 : Int32)) L) (ho : ∃ r : Int32, x11_reached tx (xs (i + (1 : Int32)).toNatClampNeg) (xs (i + (2 : Int32)).toNatClampNeg) = some (r, tx') ∧ m_reached tm (xs (i + (1 : Int32)).toNatClampNeg) (xs (i + (2 : Int32)).toNatClampNeg) = some (r, tm')) (hR : 124 + gN tx' 9000 ≤ 600000 ∧ 473133 + gN tx' 9001 ≤ 7302250) (hW : wl D A s (wX cI cJ cZ cR am gm tx ++ wM cI cJ cZ amm tm) H locs) (hl : lv_has ls 4 [(0, .ref b), (1, .ref (am 2011)), (2, .ref (amm 68)), (3, .int i)]) (K : ∀ (gm : Nat → Nat) (H : Heap) (locs : List Loc), wl D A s (wX cI cJ cZ cR am gm tx' ++ wM cI cJ cZ amm tm') H locs → W p l e room_1 s m #[.ref b] below meth c H locs (124 + gN tx' 9000) (473133 + gN tx' 9001) Q (F0 m 1635 ls [])) : W p l e room_1 s m #[.ref b] below meth c H locs (124 + gN tx 9000) (473133 + gN tx 9001) Q (F0 m 1298 ls []) := by
  obtain ⟨r, hr1, hr2⟩ := ho
  obtain ⟨C0, CM, hX, hbl, hbA⟩ := C
  have hx := C0.1.1
  have hb := C0.1.2.1
  have hm : mle tx tx' := mm_x11_reached _ _ _ _ hr1
  refine lv_aload_n hx hb dL_law_1298 rfl (lv_at hl 1 rfl) ?_
  refine lv_aload_n hx hb dL_law_1299 rfl (lv_at hl 0 rfl) ?_
  refine lv_iload_n hx hb dL_law_1300 rfl (lv_at hl 3 rfl) ?_
  refine lv_iconst (v := (1 : Int32)) hx hb dL_law_1301 (by decide) ?_
  refine lv_iadd hx hb dL_law_1302 ?_
  refine va_sld hx hb hX hbl hbA hW.2.2 h1 dL_law_1303 ?_
  refine lv_aload_n hx hb dL_law_1304 rfl (lv_at hl 0 rfl) ?_
  refine lv_iload_n hx hb dL_law_1305 rfl (lv_at hl 3 rfl) ?_
  refine lv_iconst (v := (2 : Int32)) hx hb dL_law_1306 (by decide) ?_
  refine lv_iadd hx hb dL_law_1307 ?_
  refine va_sld hx hb hX hbl hbA hW.2.2 h2 dL_law_1308 ?_
  refine bkIs (wf := fun gm => wX cI cJ cZ cR am gm tx') C0.1 hW (fun hWc => runVX (As := [.int (xs (i + (1 : Int32)).toNatClampNeg), .int (xs (i + (2 : Int32)).toNatClampNeg)]) (rest := []) C0 hWc (c_x11_reached l _ tx (xs (i + (1 : Int32)).toNatClampNeg) (xs (i + (2 : Int32)).toNatClampNeg) hr1) ca_LX_reached 11 11 rfl rfl rfl rfl rfl ⟨rfl, rfl⟩ ⟨Nat.le_of_ble_eq_true rfl, Nat.le_of_ble_eq_true rfl⟩ (Nat.le_of_ble_eq_true rfl) hl.1 dL_law_1309 ⟨by have := hm.1; have := hR.1; show _ ≤ 600000; unfold mC; omega, by have := hm.2; have := hR.2; show _ ≤ 7302250; unfold mS; omega⟩) (fun g1 H locs hW => ?_)
  refine W.widen (k := 124 + gN tx' 9000) (n := 473133 + gN tx' 9001) (by have := hm.1; unfold mC; omega) (by have := hm.2; unfold mS; omega) ?_
  refine lv_aload_n hx hb dL_law_1312 rfl (lv_at hl 2 rfl) ?_
  refine lv_aload_n hx hb dL_law_1313 rfl (lv_at hl 0 rfl) ?_
  refine lv_iload_n hx hb dL_law_1314 rfl (lv_at hl 3 rfl) ?_
  refine lv_iconst (v := (1 : Int32)) hx hb dL_law_1315 (by decide) ?_
  refine lv_iadd hx hb dL_law_1316 ?_
  refine va_sld hx hb hX hbl hbA hW.2.2 h1 dL_law_1317 ?_
  refine lv_aload_n hx hb dL_law_1318 rfl (lv_at hl 0 rfl) ?_
  refine lv_iload_n hx hb dL_law_1319 rfl (lv_at hl 3 rfl) ?_
  refine lv_iconst (v := (2 : Int32)) hx hb dL_law_1320 (by decide) ?_
  refine lv_iadd hx hb dL_law_1321 ?_
  refine va_sld hx hb hX hbl hbA hW.2.2 h2 dL_law_1322 ?_
  refine bkIs (wf := fun (_ : Unit) => wM cI cJ cZ amm tm') CM hW (fun hWc => runV (As := [.int (xs (i + (1 : Int32)).toNatClampNeg), .int (xs (i + (2 : Int32)).toNatClampNeg)]) (rest := [.int r]) CM hWc (c_m_reached l _ tm (xs (i + (1 : Int32)).toNatClampNeg) (xs (i + (2 : Int32)).toNatClampNeg) hr2) ca_LM_reached 0 12 rfl rfl rfl rfl rfl ⟨rfl, rfl⟩ ⟨Nat.le_of_ble_eq_true rfl, Nat.le_of_ble_eq_true rfl⟩ (Nat.le_of_ble_eq_true rfl) hl.1 dL_law_1323 ⟨by have := hR.1; show _ ≤ 600000; omega, by have := hR.2; show _ ≤ 7302250; omega⟩) (fun _ H locs hW => ?_)
  exact lv_icmp_eq (tgt := 1635) hx hb dL_law_1326 (by decide) (fun _ => K g1 H locs hW) (fun hne => absurd rfl hne)
set_option maxHeartbeats 4000000 in
set_option maxRecDepth 100000 in
theorem lw_op37 (C : lwC p s m meth c D cI cJ cZ cR st A b L xs) {am gm amm : Nat → Nat} {tx tm tx' tm' : St} {i : Int32} (h1 : vp_in (i + (1 : Int32)) L) (h2 : vp_in (i + (2 : Int32)) L) (h3 : vp_in (i + (3 : Int32)) L) (h4 : vp_in (i + (4 : Int32)) L) (ho : ∃ r : Int32, x11_walk tx (xs (i + (1 : Int32)).toNatClampNeg) (xs (i + (2 : Int32)).toNatClampNeg) = some (r, tx') ∧ m_walk tm (xs (i + (1 : Int32)).toNatClampNeg) (xs (i + (2 : Int32)).toNatClampNeg) = some (r, tm')) (hR : 124 + gN tx' 9000 ≤ 600000 ∧ 473133 + gN tx' 9001 ≤ 7302250) (hW : wl D A s (wX cI cJ cZ cR am gm tx ++ wM cI cJ cZ amm tm) H locs) (hl : lv_has ls 4 [(0, .ref b), (1, .ref (am 2011)), (2, .ref (amm 68)), (3, .int i)]) (K : ∀ (gm : Nat → Nat) (H : Heap) (locs : List Loc), wl D A s (wX cI cJ cZ cR am gm tx' ++ wM cI cJ cZ amm tm') H locs → W p l e room_1 s m #[.ref b] below meth c H locs (124 + gN tx' 9000) (473133 + gN tx' 9001) Q (F0 m 1635 ls [])) : W p l e room_1 s m #[.ref b] below meth c H locs (124 + gN tx 9000) (473133 + gN tx 9001) Q (F0 m 1331 ls []) := by
  obtain ⟨r, hr1, hr2⟩ := ho
  obtain ⟨C0, CM, hX, hbl, hbA⟩ := C
  have hx := C0.1.1
  have hb := C0.1.2.1
  have hm : mle tx tx' := mm_x11_walk _ _ _ _ hr1
  refine lv_aload_n hx hb dL_law_1331 rfl (lv_at hl 1 rfl) ?_
  refine lv_aload_n hx hb dL_law_1332 rfl (lv_at hl 0 rfl) ?_
  refine lv_iload_n hx hb dL_law_1333 rfl (lv_at hl 3 rfl) ?_
  refine lv_iconst (v := (1 : Int32)) hx hb dL_law_1334 (by decide) ?_
  refine lv_iadd hx hb dL_law_1335 ?_
  refine va_sld hx hb hX hbl hbA hW.2.2 h1 dL_law_1336 ?_
  refine lv_aload_n hx hb dL_law_1337 rfl (lv_at hl 0 rfl) ?_
  refine lv_iload_n hx hb dL_law_1338 rfl (lv_at hl 3 rfl) ?_
  refine lv_iconst (v := (2 : Int32)) hx hb dL_law_1339 (by decide) ?_
  refine lv_iadd hx hb dL_law_1340 ?_
  refine va_sld hx hb hX hbl hbA hW.2.2 h2 dL_law_1341 ?_
  refine bkIs (wf := fun (_ : Unit) => wX cI cJ cZ cR am gm tx') C0.1 hW (fun hWc => runVX (As := [.int (xs (i + (1 : Int32)).toNatClampNeg), .int (xs (i + (2 : Int32)).toNatClampNeg)]) (rest := []) C0 hWc (c_x11_walk l _ tx (xs (i + (1 : Int32)).toNatClampNeg) (xs (i + (2 : Int32)).toNatClampNeg) hr1) ca_LX_walk 11 11 rfl rfl rfl rfl rfl ⟨rfl, rfl⟩ ⟨Nat.le_of_ble_eq_true rfl, Nat.le_of_ble_eq_true rfl⟩ (Nat.le_of_ble_eq_true rfl) hl.1 dL_law_1342 ⟨by have := hm.1; have := hR.1; show _ ≤ 600000; omega, by have := hm.2; have := hR.2; show _ ≤ 7302250; omega⟩) (fun g1 H locs hW => ?_)
  refine W.widen (k := 124 + gN tx' 9000) (n := 473133 + gN tx' 9001) (by have := hm.1; omega) (by have := hm.2; omega) ?_
  refine lv_aload_n hx hb dL_law_1345 rfl (lv_at hl 2 rfl) ?_
  refine lv_aload_n hx hb dL_law_1346 rfl (lv_at hl 0 rfl) ?_
  refine lv_iload_n hx hb dL_law_1347 rfl (lv_at hl 3 rfl) ?_
  refine lv_iconst (v := (1 : Int32)) hx hb dL_law_1348 (by decide) ?_
  refine lv_iadd hx hb dL_law_1349 ?_
  refine va_sld hx hb hX hbl hbA hW.2.2 h1 dL_law_1350 ?_
  refine lv_aload_n hx hb dL_law_1351 rfl (lv_at hl 0 rfl) ?_
  refine lv_iload_n hx hb dL_law_1352 rfl (lv_at hl 3 rfl) ?_
  refine lv_iconst (v := (2 : Int32)) hx hb dL_law_1353 (by decide) ?_
  refine lv_iadd hx hb dL_law_1354 ?_
  refine va_sld hx hb hX hbl hbA hW.2.2 h2 dL_law_1355 ?_
  refine bkIs (wf := fun (_ : Unit) => wM cI cJ cZ amm tm') CM hW (fun hWc => runV (As := [.int (xs (i + (1 : Int32)).toNatClampNeg), .int (xs (i + (2 : Int32)).toNatClampNeg)]) (rest := [.int r]) CM hWc (c_m_walk l _ tm (xs (i + (1 : Int32)).toNatClampNeg) (xs (i + (2 : Int32)).toNatClampNeg) hr2) ca_LM_walk 0 12 rfl rfl rfl rfl rfl ⟨rfl, rfl⟩ ⟨Nat.le_of_ble_eq_true rfl, Nat.le_of_ble_eq_true rfl⟩ (Nat.le_of_ble_eq_true rfl) hl.1 dL_law_1356 ⟨by have := hR.1; show _ ≤ 600000; omega, by have := hR.2; show _ ≤ 7302250; omega⟩) (fun _ H locs hW => ?_)
  exact lv_icmp_eq (tgt := 1635) hx hb dL_law_1359 (by decide) (fun _ => K gm H locs hW) (fun hne => absurd rfl hne)
set_option maxHeartbeats 4000000 in
set_option maxRecDepth 100000 in
theorem lw_op38 (C : lwC p s m meth c D cI cJ cZ cR st A b L xs) {am gm amm : Nat → Nat} {tx tm tx' tm' : St} {i : Int32} (h1 : vp_in (i + (1 : Int32)) L) (h2 : vp_in (i + (2 : Int32)) L) (h3 : vp_in (i + (3 : Int32)) L) (h4 : vp_in (i + (4 : Int32)) L) (ho : ∃ r : Int32, x11_home tx (xs (i + (1 : Int32)).toNatClampNeg) = some (r, tx') ∧ m_home tm (xs (i + (1 : Int32)).toNatClampNeg) = some (r, tm')) (hR : 124 + gN tx' 9000 ≤ 600000 ∧ 473133 + gN tx' 9001 ≤ 7302250) (hW : wl D A s (wX cI cJ cZ cR am gm tx ++ wM cI cJ cZ amm tm) H locs) (hl : lv_has ls 4 [(0, .ref b), (1, .ref (am 2011)), (2, .ref (amm 68)), (3, .int i)]) (K : ∀ (gm : Nat → Nat) (H : Heap) (locs : List Loc), wl D A s (wX cI cJ cZ cR am gm tx' ++ wM cI cJ cZ amm tm') H locs → W p l e room_1 s m #[.ref b] below meth c H locs (124 + gN tx' 9000) (473133 + gN tx' 9001) Q (F0 m 1635 ls [])) : W p l e room_1 s m #[.ref b] below meth c H locs (124 + gN tx 9000) (473133 + gN tx 9001) Q (F0 m 1364 ls []) := by
  obtain ⟨r, hr1, hr2⟩ := ho
  obtain ⟨C0, CM, hX, hbl, hbA⟩ := C
  have hx := C0.1.1
  have hb := C0.1.2.1
  have hm : mle tx tx' := mm_x11_home _ _ _ hr1
  refine lv_aload_n hx hb dL_law_1364 rfl (lv_at hl 1 rfl) ?_
  refine lv_aload_n hx hb dL_law_1365 rfl (lv_at hl 0 rfl) ?_
  refine lv_iload_n hx hb dL_law_1366 rfl (lv_at hl 3 rfl) ?_
  refine lv_iconst (v := (1 : Int32)) hx hb dL_law_1367 (by decide) ?_
  refine lv_iadd hx hb dL_law_1368 ?_
  refine va_sld hx hb hX hbl hbA hW.2.2 h1 dL_law_1369 ?_
  refine bkIs (wf := fun (_ : Unit) => wX cI cJ cZ cR am gm tx') C0.1 hW (fun hWc => runVX (As := [.int (xs (i + (1 : Int32)).toNatClampNeg)]) (rest := []) C0 hWc (c_x11_home l _ tx (xs (i + (1 : Int32)).toNatClampNeg) hr1) ca_LX_home 11 11 rfl rfl rfl rfl rfl ⟨rfl, rfl⟩ ⟨Nat.le_of_ble_eq_true rfl, Nat.le_of_ble_eq_true rfl⟩ (Nat.le_of_ble_eq_true rfl) hl.1 dL_law_1370 ⟨by have := hm.1; have := hR.1; show _ ≤ 600000; omega, by have := hm.2; have := hR.2; show _ ≤ 7302250; omega⟩) (fun g1 H locs hW => ?_)
  refine W.widen (k := 124 + gN tx' 9000) (n := 473133 + gN tx' 9001) (by have := hm.1; omega) (by have := hm.2; omega) ?_
  refine lv_aload_n hx hb dL_law_1373 rfl (lv_at hl 2 rfl) ?_
  refine lv_aload_n hx hb dL_law_1374 rfl (lv_at hl 0 rfl) ?_
  refine lv_iload_n hx hb dL_law_1375 rfl (lv_at hl 3 rfl) ?_
  refine lv_iconst (v := (1 : Int32)) hx hb dL_law_1376 (by decide) ?_
  refine lv_iadd hx hb dL_law_1377 ?_
  refine va_sld hx hb hX hbl hbA hW.2.2 h1 dL_law_1378 ?_
  refine bkIs (wf := fun (_ : Unit) => wM cI cJ cZ amm tm') CM hW (fun hWc => runV (As := [.int (xs (i + (1 : Int32)).toNatClampNeg)]) (rest := [.int r]) CM hWc (c_m_home l _ tm (xs (i + (1 : Int32)).toNatClampNeg) hr2) ca_LM_home 0 12 rfl rfl rfl rfl rfl ⟨rfl, rfl⟩ ⟨Nat.le_of_ble_eq_true rfl, Nat.le_of_ble_eq_true rfl⟩ (Nat.le_of_ble_eq_true rfl) hl.1 dL_law_1379 ⟨by have := hR.1; show _ ≤ 600000; omega, by have := hR.2; show _ ≤ 7302250; omega⟩) (fun _ H locs hW => ?_)
  exact lv_icmp_eq (tgt := 1635) hx hb dL_law_1382 (by decide) (fun _ => K gm H locs hW) (fun hne => absurd rfl hne)
set_option maxHeartbeats 4000000 in
set_option maxRecDepth 100000 in
theorem lw_op39 (C : lwC p s m meth c D cI cJ cZ cR st A b L xs) {am gm amm : Nat → Nat} {tx tm tx' tm' : St} {i : Int32} (h1 : vp_in (i + (1 : Int32)) L) (h2 : vp_in (i + (2 : Int32)) L) (h3 : vp_in (i + (3 : Int32)) L) (h4 : vp_in (i + (4 : Int32)) L) (ho : ∃ r : Int32, x11_stands tx (xs (i + (1 : Int32)).toNatClampNeg) (xs (i + (2 : Int32)).toNatClampNeg) = some r ∧ m_stands tm (xs (i + (1 : Int32)).toNatClampNeg) (xs (i + (2 : Int32)).toNatClampNeg) = some r ∧ tx' = tx ∧ tm' = tm) (hR : 124 + gN tx' 9000 ≤ 600000 ∧ 473133 + gN tx' 9001 ≤ 7302250) (hW : wl D A s (wX cI cJ cZ cR am gm tx ++ wM cI cJ cZ amm tm) H locs) (hl : lv_has ls 4 [(0, .ref b), (1, .ref (am 2011)), (2, .ref (amm 68)), (3, .int i)]) (K : ∀ (gm : Nat → Nat) (H : Heap) (locs : List Loc), wl D A s (wX cI cJ cZ cR am gm tx' ++ wM cI cJ cZ amm tm') H locs → W p l e room_1 s m #[.ref b] below meth c H locs (124 + gN tx' 9000) (473133 + gN tx' 9001) Q (F0 m 1635 ls [])) : W p l e room_1 s m #[.ref b] below meth c H locs (124 + gN tx 9000) (473133 + gN tx 9001) Q (F0 m 1387 ls []) := by
  obtain ⟨r, hr1, hr2, rfl, rfl⟩ := ho
  obtain ⟨C0, CM, hX, hbl, hbA⟩ := C
  have hx := C0.1.1
  have hb := C0.1.2.1
  have hm : mle tx' tx' := mle.rfl
  refine lv_aload_n hx hb dL_law_1387 rfl (lv_at hl 1 rfl) ?_
  refine lv_aload_n hx hb dL_law_1388 rfl (lv_at hl 0 rfl) ?_
  refine lv_iload_n hx hb dL_law_1389 rfl (lv_at hl 3 rfl) ?_
  refine lv_iconst (v := (1 : Int32)) hx hb dL_law_1390 (by decide) ?_
  refine lv_iadd hx hb dL_law_1391 ?_
  refine va_sld hx hb hX hbl hbA hW.2.2 h1 dL_law_1392 ?_
  refine lv_aload_n hx hb dL_law_1393 rfl (lv_at hl 0 rfl) ?_
  refine lv_iload_n hx hb dL_law_1394 rfl (lv_at hl 3 rfl) ?_
  refine lv_iconst (v := (2 : Int32)) hx hb dL_law_1395 (by decide) ?_
  refine lv_iadd hx hb dL_law_1396 ?_
  refine va_sld hx hb hX hbl hbA hW.2.2 h2 dL_law_1397 ?_
  refine bkIs (wf := fun (_ : Unit) => wX cI cJ cZ cR am gm tx') C0.1 hW (fun hWc => runVX (As := [.int (xs (i + (1 : Int32)).toNatClampNeg), .int (xs (i + (2 : Int32)).toNatClampNeg)]) (rest := []) C0 hWc (c_x11_stands l _ tx' (xs (i + (1 : Int32)).toNatClampNeg) (xs (i + (2 : Int32)).toNatClampNeg) hr1) ca_LX_stands 11 11 rfl rfl rfl rfl rfl ⟨rfl, rfl⟩ ⟨Nat.le_of_ble_eq_true rfl, Nat.le_of_ble_eq_true rfl⟩ (Nat.le_of_ble_eq_true rfl) hl.1 dL_law_1398 ⟨by have := hm.1; have := hR.1; show _ ≤ 600000; omega, by have := hm.2; have := hR.2; show _ ≤ 7302250; omega⟩) (fun g1 H locs hW => ?_)
  refine W.widen (k := 124 + gN tx' 9000) (n := 473133 + gN tx' 9001) (by have := hm.1; omega) (by have := hm.2; omega) ?_
  refine lv_aload_n hx hb dL_law_1401 rfl (lv_at hl 2 rfl) ?_
  refine lv_aload_n hx hb dL_law_1402 rfl (lv_at hl 0 rfl) ?_
  refine lv_iload_n hx hb dL_law_1403 rfl (lv_at hl 3 rfl) ?_
  refine lv_iconst (v := (1 : Int32)) hx hb dL_law_1404 (by decide) ?_
  refine lv_iadd hx hb dL_law_1405 ?_
  refine va_sld hx hb hX hbl hbA hW.2.2 h1 dL_law_1406 ?_
  refine lv_aload_n hx hb dL_law_1407 rfl (lv_at hl 0 rfl) ?_
  refine lv_iload_n hx hb dL_law_1408 rfl (lv_at hl 3 rfl) ?_
  refine lv_iconst (v := (2 : Int32)) hx hb dL_law_1409 (by decide) ?_
  refine lv_iadd hx hb dL_law_1410 ?_
  refine va_sld hx hb hX hbl hbA hW.2.2 h2 dL_law_1411 ?_
  refine bkIs (wf := fun (_ : Unit) => wM cI cJ cZ amm tm') CM hW (fun hWc => runV (As := [.int (xs (i + (1 : Int32)).toNatClampNeg), .int (xs (i + (2 : Int32)).toNatClampNeg)]) (rest := [.int r]) CM hWc (c_m_stands l _ tm' (xs (i + (1 : Int32)).toNatClampNeg) (xs (i + (2 : Int32)).toNatClampNeg) hr2) ca_LM_stands 0 12 rfl rfl rfl rfl rfl ⟨rfl, rfl⟩ ⟨Nat.le_of_ble_eq_true rfl, Nat.le_of_ble_eq_true rfl⟩ (Nat.le_of_ble_eq_true rfl) hl.1 dL_law_1412 ⟨by have := hR.1; show _ ≤ 600000; omega, by have := hR.2; show _ ≤ 7302250; omega⟩) (fun _ H locs hW => ?_)
  exact lv_icmp_eq (tgt := 1635) hx hb dL_law_1415 (by decide) (fun _ => K gm H locs hW) (fun hne => absurd rfl hne)
set_option maxHeartbeats 4000000 in
set_option maxRecDepth 100000 in
theorem lw_op40 (C : lwC p s m meth c D cI cJ cZ cR st A b L xs) {am gm amm : Nat → Nat} {tx tm tx' tm' : St} {i : Int32} (h1 : vp_in (i + (1 : Int32)) L) (h2 : vp_in (i + (2 : Int32)) L) (h3 : vp_in (i + (3 : Int32)) L) (h4 : vp_in (i + (4 : Int32)) L) (ho : ∃ r : Int32, x11_begins tx (xs (i + (1 : Int32)).toNatClampNeg) (xs (i + (2 : Int32)).toNatClampNeg) = some r ∧ m_begins tm (xs (i + (1 : Int32)).toNatClampNeg) (xs (i + (2 : Int32)).toNatClampNeg) = some r ∧ tx' = tx ∧ tm' = tm) (hR : 124 + gN tx' 9000 ≤ 600000 ∧ 473133 + gN tx' 9001 ≤ 7302250) (hW : wl D A s (wX cI cJ cZ cR am gm tx ++ wM cI cJ cZ amm tm) H locs) (hl : lv_has ls 4 [(0, .ref b), (1, .ref (am 2011)), (2, .ref (amm 68)), (3, .int i)]) (K : ∀ (gm : Nat → Nat) (H : Heap) (locs : List Loc), wl D A s (wX cI cJ cZ cR am gm tx' ++ wM cI cJ cZ amm tm') H locs → W p l e room_1 s m #[.ref b] below meth c H locs (124 + gN tx' 9000) (473133 + gN tx' 9001) Q (F0 m 1635 ls [])) : W p l e room_1 s m #[.ref b] below meth c H locs (124 + gN tx 9000) (473133 + gN tx 9001) Q (F0 m 1420 ls []) := by
  obtain ⟨r, hr1, hr2, rfl, rfl⟩ := ho
  obtain ⟨C0, CM, hX, hbl, hbA⟩ := C
  have hx := C0.1.1
  have hb := C0.1.2.1
  have hm : mle tx' tx' := mle.rfl
  refine lv_aload_n hx hb dL_law_1420 rfl (lv_at hl 1 rfl) ?_
  refine lv_aload_n hx hb dL_law_1421 rfl (lv_at hl 0 rfl) ?_
  refine lv_iload_n hx hb dL_law_1422 rfl (lv_at hl 3 rfl) ?_
  refine lv_iconst (v := (1 : Int32)) hx hb dL_law_1423 (by decide) ?_
  refine lv_iadd hx hb dL_law_1424 ?_
  refine va_sld hx hb hX hbl hbA hW.2.2 h1 dL_law_1425 ?_
  refine lv_aload_n hx hb dL_law_1426 rfl (lv_at hl 0 rfl) ?_
  refine lv_iload_n hx hb dL_law_1427 rfl (lv_at hl 3 rfl) ?_
  refine lv_iconst (v := (2 : Int32)) hx hb dL_law_1428 (by decide) ?_
  refine lv_iadd hx hb dL_law_1429 ?_
  refine va_sld hx hb hX hbl hbA hW.2.2 h2 dL_law_1430 ?_
  refine bkIs (wf := fun (_ : Unit) => wX cI cJ cZ cR am gm tx') C0.1 hW (fun hWc => runVX (As := [.int (xs (i + (1 : Int32)).toNatClampNeg), .int (xs (i + (2 : Int32)).toNatClampNeg)]) (rest := []) C0 hWc (c_x11_begins l _ tx' (xs (i + (1 : Int32)).toNatClampNeg) (xs (i + (2 : Int32)).toNatClampNeg) hr1) ca_LX_begins 11 11 rfl rfl rfl rfl rfl ⟨rfl, rfl⟩ ⟨Nat.le_of_ble_eq_true rfl, Nat.le_of_ble_eq_true rfl⟩ (Nat.le_of_ble_eq_true rfl) hl.1 dL_law_1431 ⟨by have := hm.1; have := hR.1; show _ ≤ 600000; omega, by have := hm.2; have := hR.2; show _ ≤ 7302250; omega⟩) (fun g1 H locs hW => ?_)
  refine W.widen (k := 124 + gN tx' 9000) (n := 473133 + gN tx' 9001) (by have := hm.1; omega) (by have := hm.2; omega) ?_
  refine lv_aload_n hx hb dL_law_1434 rfl (lv_at hl 2 rfl) ?_
  refine lv_aload_n hx hb dL_law_1435 rfl (lv_at hl 0 rfl) ?_
  refine lv_iload_n hx hb dL_law_1436 rfl (lv_at hl 3 rfl) ?_
  refine lv_iconst (v := (1 : Int32)) hx hb dL_law_1437 (by decide) ?_
  refine lv_iadd hx hb dL_law_1438 ?_
  refine va_sld hx hb hX hbl hbA hW.2.2 h1 dL_law_1439 ?_
  refine lv_aload_n hx hb dL_law_1440 rfl (lv_at hl 0 rfl) ?_
  refine lv_iload_n hx hb dL_law_1441 rfl (lv_at hl 3 rfl) ?_
  refine lv_iconst (v := (2 : Int32)) hx hb dL_law_1442 (by decide) ?_
  refine lv_iadd hx hb dL_law_1443 ?_
  refine va_sld hx hb hX hbl hbA hW.2.2 h2 dL_law_1444 ?_
  refine bkIs (wf := fun (_ : Unit) => wM cI cJ cZ amm tm') CM hW (fun hWc => runV (As := [.int (xs (i + (1 : Int32)).toNatClampNeg), .int (xs (i + (2 : Int32)).toNatClampNeg)]) (rest := [.int r]) CM hWc (c_m_begins l _ tm' (xs (i + (1 : Int32)).toNatClampNeg) (xs (i + (2 : Int32)).toNatClampNeg) hr2) ca_LM_begins 0 12 rfl rfl rfl rfl rfl ⟨rfl, rfl⟩ ⟨Nat.le_of_ble_eq_true rfl, Nat.le_of_ble_eq_true rfl⟩ (Nat.le_of_ble_eq_true rfl) hl.1 dL_law_1445 ⟨by have := hR.1; show _ ≤ 600000; omega, by have := hR.2; show _ ≤ 7302250; omega⟩) (fun _ H locs hW => ?_)
  exact lv_icmp_eq (tgt := 1635) hx hb dL_law_1448 (by decide) (fun _ => K gm H locs hW) (fun hne => absurd rfl hne)
set_option maxHeartbeats 4000000 in
set_option maxRecDepth 100000 in
theorem lw_op41 (C : lwC p s m meth c D cI cJ cZ cR st A b L xs) {am gm amm : Nat → Nat} {tx tm tx' tm' : St} {i : Int32} (h1 : vp_in (i + (1 : Int32)) L) (h2 : vp_in (i + (2 : Int32)) L) (h3 : vp_in (i + (3 : Int32)) L) (h4 : vp_in (i + (4 : Int32)) L) (ho : ∃ r : Int32, x11_end tx (xs (i + (1 : Int32)).toNatClampNeg) (xs (i + (2 : Int32)).toNatClampNeg) = some (r, tx') ∧ m_end tm (xs (i + (1 : Int32)).toNatClampNeg) (xs (i + (2 : Int32)).toNatClampNeg) = some (r, tm')) (hR : 124 + gN tx' 9000 ≤ 600000 ∧ 473133 + gN tx' 9001 ≤ 7302250) (hW : wl D A s (wX cI cJ cZ cR am gm tx ++ wM cI cJ cZ amm tm) H locs) (hl : lv_has ls 4 [(0, .ref b), (1, .ref (am 2011)), (2, .ref (amm 68)), (3, .int i)]) (K : ∀ (gm : Nat → Nat) (H : Heap) (locs : List Loc), wl D A s (wX cI cJ cZ cR am gm tx' ++ wM cI cJ cZ amm tm') H locs → W p l e room_1 s m #[.ref b] below meth c H locs (124 + gN tx' 9000) (473133 + gN tx' 9001) Q (F0 m 1635 ls [])) : W p l e room_1 s m #[.ref b] below meth c H locs (124 + gN tx 9000) (473133 + gN tx 9001) Q (F0 m 1453 ls []) := by
  obtain ⟨r, hr1, hr2⟩ := ho
  obtain ⟨C0, CM, hX, hbl, hbA⟩ := C
  have hx := C0.1.1
  have hb := C0.1.2.1
  have hm : mle tx tx' := mm_x11_end _ _ _ _ hr1
  refine lv_aload_n hx hb dL_law_1453 rfl (lv_at hl 1 rfl) ?_
  refine lv_aload_n hx hb dL_law_1454 rfl (lv_at hl 0 rfl) ?_
  refine lv_iload_n hx hb dL_law_1455 rfl (lv_at hl 3 rfl) ?_
  refine lv_iconst (v := (1 : Int32)) hx hb dL_law_1456 (by decide) ?_
  refine lv_iadd hx hb dL_law_1457 ?_
  refine va_sld hx hb hX hbl hbA hW.2.2 h1 dL_law_1458 ?_
  refine lv_aload_n hx hb dL_law_1459 rfl (lv_at hl 0 rfl) ?_
  refine lv_iload_n hx hb dL_law_1460 rfl (lv_at hl 3 rfl) ?_
  refine lv_iconst (v := (2 : Int32)) hx hb dL_law_1461 (by decide) ?_
  refine lv_iadd hx hb dL_law_1462 ?_
  refine va_sld hx hb hX hbl hbA hW.2.2 h2 dL_law_1463 ?_
  refine bkIs (wf := fun gm => wX cI cJ cZ cR am gm tx') C0.1 hW (fun hWc => runVX (As := [.int (xs (i + (1 : Int32)).toNatClampNeg), .int (xs (i + (2 : Int32)).toNatClampNeg)]) (rest := []) C0 hWc (c_x11_end l _ tx (xs (i + (1 : Int32)).toNatClampNeg) (xs (i + (2 : Int32)).toNatClampNeg) hr1) ca_LX_end 11 11 rfl rfl rfl rfl rfl ⟨rfl, rfl⟩ ⟨Nat.le_of_ble_eq_true rfl, Nat.le_of_ble_eq_true rfl⟩ (Nat.le_of_ble_eq_true rfl) hl.1 dL_law_1464 ⟨by have := hm.1; have := hR.1; show _ ≤ 600000; unfold mC; omega, by have := hm.2; have := hR.2; show _ ≤ 7302250; unfold mS; omega⟩) (fun g1 H locs hW => ?_)
  refine W.widen (k := 124 + gN tx' 9000) (n := 473133 + gN tx' 9001) (by have := hm.1; unfold mC; omega) (by have := hm.2; unfold mS; omega) ?_
  refine lv_aload_n hx hb dL_law_1467 rfl (lv_at hl 2 rfl) ?_
  refine lv_aload_n hx hb dL_law_1468 rfl (lv_at hl 0 rfl) ?_
  refine lv_iload_n hx hb dL_law_1469 rfl (lv_at hl 3 rfl) ?_
  refine lv_iconst (v := (1 : Int32)) hx hb dL_law_1470 (by decide) ?_
  refine lv_iadd hx hb dL_law_1471 ?_
  refine va_sld hx hb hX hbl hbA hW.2.2 h1 dL_law_1472 ?_
  refine lv_aload_n hx hb dL_law_1473 rfl (lv_at hl 0 rfl) ?_
  refine lv_iload_n hx hb dL_law_1474 rfl (lv_at hl 3 rfl) ?_
  refine lv_iconst (v := (2 : Int32)) hx hb dL_law_1475 (by decide) ?_
  refine lv_iadd hx hb dL_law_1476 ?_
  refine va_sld hx hb hX hbl hbA hW.2.2 h2 dL_law_1477 ?_
  refine bkIs (wf := fun (_ : Unit) => wM cI cJ cZ amm tm') CM hW (fun hWc => runV (As := [.int (xs (i + (1 : Int32)).toNatClampNeg), .int (xs (i + (2 : Int32)).toNatClampNeg)]) (rest := [.int r]) CM hWc (c_m_end l _ tm (xs (i + (1 : Int32)).toNatClampNeg) (xs (i + (2 : Int32)).toNatClampNeg) hr2) ca_LM_end 0 12 rfl rfl rfl rfl rfl ⟨rfl, rfl⟩ ⟨Nat.le_of_ble_eq_true rfl, Nat.le_of_ble_eq_true rfl⟩ (Nat.le_of_ble_eq_true rfl) hl.1 dL_law_1478 ⟨by have := hR.1; show _ ≤ 600000; omega, by have := hR.2; show _ ≤ 7302250; omega⟩) (fun _ H locs hW => ?_)
  exact lv_icmp_eq (tgt := 1635) hx hb dL_law_1481 (by decide) (fun _ => K g1 H locs hW) (fun hne => absurd rfl hne)
set_option maxHeartbeats 4000000 in
set_option maxRecDepth 100000 in
theorem lw_op42 (C : lwC p s m meth c D cI cJ cZ cR st A b L xs) {am gm amm : Nat → Nat} {tx tm tx' tm' : St} {i : Int32} (h1 : vp_in (i + (1 : Int32)) L) (h2 : vp_in (i + (2 : Int32)) L) (h3 : vp_in (i + (3 : Int32)) L) (h4 : vp_in (i + (4 : Int32)) L) (ho : ∃ r : Int32, x11_orderAt tx (xs (i + (1 : Int32)).toNatClampNeg) (xs (i + (2 : Int32)).toNatClampNeg) (xs (i + (3 : Int32)).toNatClampNeg) = some (r, tx') ∧ m_orderAt tm (xs (i + (1 : Int32)).toNatClampNeg) (xs (i + (2 : Int32)).toNatClampNeg) (xs (i + (3 : Int32)).toNatClampNeg) = some (r, tm')) (hR : 124 + gN tx' 9000 ≤ 600000 ∧ 473133 + gN tx' 9001 ≤ 7302250) (hW : wl D A s (wX cI cJ cZ cR am gm tx ++ wM cI cJ cZ amm tm) H locs) (hl : lv_has ls 4 [(0, .ref b), (1, .ref (am 2011)), (2, .ref (amm 68)), (3, .int i)]) (K : ∀ (gm : Nat → Nat) (H : Heap) (locs : List Loc), wl D A s (wX cI cJ cZ cR am gm tx' ++ wM cI cJ cZ amm tm') H locs → W p l e room_1 s m #[.ref b] below meth c H locs (124 + gN tx' 9000) (473133 + gN tx' 9001) Q (F0 m 1635 ls [])) : W p l e room_1 s m #[.ref b] below meth c H locs (124 + gN tx 9000) (473133 + gN tx 9001) Q (F0 m 1486 ls []) := by
  obtain ⟨r, hr1, hr2⟩ := ho
  obtain ⟨C0, CM, hX, hbl, hbA⟩ := C
  have hx := C0.1.1
  have hb := C0.1.2.1
  have hm : mle tx tx' := mm_x11_orderAt _ _ _ _ _ hr1
  refine lv_aload_n hx hb dL_law_1486 rfl (lv_at hl 1 rfl) ?_
  refine lv_aload_n hx hb dL_law_1487 rfl (lv_at hl 0 rfl) ?_
  refine lv_iload_n hx hb dL_law_1488 rfl (lv_at hl 3 rfl) ?_
  refine lv_iconst (v := (1 : Int32)) hx hb dL_law_1489 (by decide) ?_
  refine lv_iadd hx hb dL_law_1490 ?_
  refine va_sld hx hb hX hbl hbA hW.2.2 h1 dL_law_1491 ?_
  refine lv_aload_n hx hb dL_law_1492 rfl (lv_at hl 0 rfl) ?_
  refine lv_iload_n hx hb dL_law_1493 rfl (lv_at hl 3 rfl) ?_
  refine lv_iconst (v := (2 : Int32)) hx hb dL_law_1494 (by decide) ?_
  refine lv_iadd hx hb dL_law_1495 ?_
  refine va_sld hx hb hX hbl hbA hW.2.2 h2 dL_law_1496 ?_
  refine lv_aload_n hx hb dL_law_1497 rfl (lv_at hl 0 rfl) ?_
  refine lv_iload_n hx hb dL_law_1498 rfl (lv_at hl 3 rfl) ?_
  refine lv_iconst (v := (3 : Int32)) hx hb dL_law_1499 (by decide) ?_
  refine lv_iadd hx hb dL_law_1500 ?_
  refine va_sld hx hb hX hbl hbA hW.2.2 h3 dL_law_1501 ?_
  refine bkIs (wf := fun gm => wX cI cJ cZ cR am gm tx') C0.1 hW (fun hWc => runVX (As := [.int (xs (i + (1 : Int32)).toNatClampNeg), .int (xs (i + (2 : Int32)).toNatClampNeg), .int (xs (i + (3 : Int32)).toNatClampNeg)]) (rest := []) C0 hWc (c_x11_orderAt l _ tx (xs (i + (1 : Int32)).toNatClampNeg) (xs (i + (2 : Int32)).toNatClampNeg) (xs (i + (3 : Int32)).toNatClampNeg) hr1) ca_LX_orderAt 11 11 rfl rfl rfl rfl rfl ⟨rfl, rfl⟩ ⟨Nat.le_of_ble_eq_true rfl, Nat.le_of_ble_eq_true rfl⟩ (Nat.le_of_ble_eq_true rfl) hl.1 dL_law_1502 ⟨by have := hm.1; have := hR.1; show _ ≤ 600000; unfold mC; omega, by have := hm.2; have := hR.2; show _ ≤ 7302250; unfold mS; omega⟩) (fun g1 H locs hW => ?_)
  refine W.widen (k := 124 + gN tx' 9000) (n := 473133 + gN tx' 9001) (by have := hm.1; unfold mC; omega) (by have := hm.2; unfold mS; omega) ?_
  refine lv_aload_n hx hb dL_law_1505 rfl (lv_at hl 2 rfl) ?_
  refine lv_aload_n hx hb dL_law_1506 rfl (lv_at hl 0 rfl) ?_
  refine lv_iload_n hx hb dL_law_1507 rfl (lv_at hl 3 rfl) ?_
  refine lv_iconst (v := (1 : Int32)) hx hb dL_law_1508 (by decide) ?_
  refine lv_iadd hx hb dL_law_1509 ?_
  refine va_sld hx hb hX hbl hbA hW.2.2 h1 dL_law_1510 ?_
  refine lv_aload_n hx hb dL_law_1511 rfl (lv_at hl 0 rfl) ?_
  refine lv_iload_n hx hb dL_law_1512 rfl (lv_at hl 3 rfl) ?_
  refine lv_iconst (v := (2 : Int32)) hx hb dL_law_1513 (by decide) ?_
  refine lv_iadd hx hb dL_law_1514 ?_
  refine va_sld hx hb hX hbl hbA hW.2.2 h2 dL_law_1515 ?_
  refine lv_aload_n hx hb dL_law_1516 rfl (lv_at hl 0 rfl) ?_
  refine lv_iload_n hx hb dL_law_1517 rfl (lv_at hl 3 rfl) ?_
  refine lv_iconst (v := (3 : Int32)) hx hb dL_law_1518 (by decide) ?_
  refine lv_iadd hx hb dL_law_1519 ?_
  refine va_sld hx hb hX hbl hbA hW.2.2 h3 dL_law_1520 ?_
  refine bkIs (wf := fun (_ : Unit) => wM cI cJ cZ amm tm') CM hW (fun hWc => runV (As := [.int (xs (i + (1 : Int32)).toNatClampNeg), .int (xs (i + (2 : Int32)).toNatClampNeg), .int (xs (i + (3 : Int32)).toNatClampNeg)]) (rest := [.int r]) CM hWc (c_m_orderAt l _ tm (xs (i + (1 : Int32)).toNatClampNeg) (xs (i + (2 : Int32)).toNatClampNeg) (xs (i + (3 : Int32)).toNatClampNeg) hr2) ca_LM_orderAt 0 12 rfl rfl rfl rfl rfl ⟨rfl, rfl⟩ ⟨Nat.le_of_ble_eq_true rfl, Nat.le_of_ble_eq_true rfl⟩ (Nat.le_of_ble_eq_true rfl) hl.1 dL_law_1521 ⟨by have := hR.1; show _ ≤ 600000; omega, by have := hR.2; show _ ≤ 7302250; omega⟩) (fun _ H locs hW => ?_)
  exact lv_icmp_eq (tgt := 1635) hx hb dL_law_1524 (by decide) (fun _ => K g1 H locs hW) (fun hne => absurd rfl hne)
set_option maxHeartbeats 4000000 in
set_option maxRecDepth 100000 in
theorem lw_op43 (C : lwC p s m meth c D cI cJ cZ cR st A b L xs) {am gm amm : Nat → Nat} {tx tm tx' tm' : St} {i : Int32} (h1 : vp_in (i + (1 : Int32)) L) (h2 : vp_in (i + (2 : Int32)) L) (h3 : vp_in (i + (3 : Int32)) L) (h4 : vp_in (i + (4 : Int32)) L) (ho : ∃ r : Int32, x11_image tx (xs (i + (1 : Int32)).toNatClampNeg) = some (r, tx') ∧ m_image tm (xs (i + (1 : Int32)).toNatClampNeg) = some (r, tm')) (hR : 124 + gN tx' 9000 ≤ 600000 ∧ 473133 + gN tx' 9001 ≤ 7302250) (hW : wl D A s (wX cI cJ cZ cR am gm tx ++ wM cI cJ cZ amm tm) H locs) (hl : lv_has ls 4 [(0, .ref b), (1, .ref (am 2011)), (2, .ref (amm 68)), (3, .int i)]) (K : ∀ (gm : Nat → Nat) (H : Heap) (locs : List Loc), wl D A s (wX cI cJ cZ cR am gm tx' ++ wM cI cJ cZ amm tm') H locs → W p l e room_1 s m #[.ref b] below meth c H locs (124 + gN tx' 9000) (473133 + gN tx' 9001) Q (F0 m 1635 ls [])) : W p l e room_1 s m #[.ref b] below meth c H locs (124 + gN tx 9000) (473133 + gN tx 9001) Q (F0 m 1529 ls []) := by
  obtain ⟨r, hr1, hr2⟩ := ho
  obtain ⟨C0, CM, hX, hbl, hbA⟩ := C
  have hx := C0.1.1
  have hb := C0.1.2.1
  have hm : mle tx tx' := mm_x11_image _ _ _ hr1
  refine lv_aload_n hx hb dL_law_1529 rfl (lv_at hl 1 rfl) ?_
  refine lv_aload_n hx hb dL_law_1530 rfl (lv_at hl 0 rfl) ?_
  refine lv_iload_n hx hb dL_law_1531 rfl (lv_at hl 3 rfl) ?_
  refine lv_iconst (v := (1 : Int32)) hx hb dL_law_1532 (by decide) ?_
  refine lv_iadd hx hb dL_law_1533 ?_
  refine va_sld hx hb hX hbl hbA hW.2.2 h1 dL_law_1534 ?_
  refine bkIs (wf := fun (_ : Unit) => wX cI cJ cZ cR am gm tx') C0.1 hW (fun hWc => runVX (As := [.int (xs (i + (1 : Int32)).toNatClampNeg)]) (rest := []) C0 hWc (c_x11_image l _ tx (xs (i + (1 : Int32)).toNatClampNeg) hr1) ca_LX_image 11 11 rfl rfl rfl rfl rfl ⟨rfl, rfl⟩ ⟨Nat.le_of_ble_eq_true rfl, Nat.le_of_ble_eq_true rfl⟩ (Nat.le_of_ble_eq_true rfl) hl.1 dL_law_1535 ⟨by have := hm.1; have := hR.1; show _ ≤ 600000; omega, by have := hm.2; have := hR.2; show _ ≤ 7302250; omega⟩) (fun g1 H locs hW => ?_)
  refine W.widen (k := 124 + gN tx' 9000) (n := 473133 + gN tx' 9001) (by have := hm.1; omega) (by have := hm.2; omega) ?_
  refine lv_aload_n hx hb dL_law_1538 rfl (lv_at hl 2 rfl) ?_
  refine lv_aload_n hx hb dL_law_1539 rfl (lv_at hl 0 rfl) ?_
  refine lv_iload_n hx hb dL_law_1540 rfl (lv_at hl 3 rfl) ?_
  refine lv_iconst (v := (1 : Int32)) hx hb dL_law_1541 (by decide) ?_
  refine lv_iadd hx hb dL_law_1542 ?_
  refine va_sld hx hb hX hbl hbA hW.2.2 h1 dL_law_1543 ?_
  refine bkIs (wf := fun (_ : Unit) => wM cI cJ cZ amm tm') CM hW (fun hWc => runV (As := [.int (xs (i + (1 : Int32)).toNatClampNeg)]) (rest := [.int r]) CM hWc (c_m_image l _ tm (xs (i + (1 : Int32)).toNatClampNeg) hr2) ca_LM_image 0 12 rfl rfl rfl rfl rfl ⟨rfl, rfl⟩ ⟨Nat.le_of_ble_eq_true rfl, Nat.le_of_ble_eq_true rfl⟩ (Nat.le_of_ble_eq_true rfl) hl.1 dL_law_1544 ⟨by have := hR.1; show _ ≤ 600000; omega, by have := hR.2; show _ ≤ 7302250; omega⟩) (fun _ H locs hW => ?_)
  exact lv_icmp_eq (tgt := 1635) hx hb dL_law_1547 (by decide) (fun _ => K gm H locs hW) (fun hne => absurd rfl hne)
set_option maxHeartbeats 4000000 in
set_option maxRecDepth 100000 in
theorem lw_op44 (C : lwC p s m meth c D cI cJ cZ cR st A b L xs) {am gm amm : Nat → Nat} {tx tm tx' tm' : St} {i : Int32} (h1 : vp_in (i + (1 : Int32)) L) (h2 : vp_in (i + (2 : Int32)) L) (h3 : vp_in (i + (3 : Int32)) L) (h4 : vp_in (i + (4 : Int32)) L) (ho : ∃ r : Int32, x11_differ tx (xs (i + (1 : Int32)).toNatClampNeg) = some r ∧ m_differ tm (xs (i + (1 : Int32)).toNatClampNeg) = some r ∧ tx' = tx ∧ tm' = tm) (hR : 124 + gN tx' 9000 ≤ 600000 ∧ 473133 + gN tx' 9001 ≤ 7302250) (hW : wl D A s (wX cI cJ cZ cR am gm tx ++ wM cI cJ cZ amm tm) H locs) (hl : lv_has ls 4 [(0, .ref b), (1, .ref (am 2011)), (2, .ref (amm 68)), (3, .int i)]) (K : ∀ (gm : Nat → Nat) (H : Heap) (locs : List Loc), wl D A s (wX cI cJ cZ cR am gm tx' ++ wM cI cJ cZ amm tm') H locs → W p l e room_1 s m #[.ref b] below meth c H locs (124 + gN tx' 9000) (473133 + gN tx' 9001) Q (F0 m 1635 ls [])) : W p l e room_1 s m #[.ref b] below meth c H locs (124 + gN tx 9000) (473133 + gN tx 9001) Q (F0 m 1552 ls []) := by
  obtain ⟨r, hr1, hr2, rfl, rfl⟩ := ho
  obtain ⟨C0, CM, hX, hbl, hbA⟩ := C
  have hx := C0.1.1
  have hb := C0.1.2.1
  have hm : mle tx' tx' := mle.rfl
  refine lv_aload_n hx hb dL_law_1552 rfl (lv_at hl 1 rfl) ?_
  refine lv_aload_n hx hb dL_law_1553 rfl (lv_at hl 0 rfl) ?_
  refine lv_iload_n hx hb dL_law_1554 rfl (lv_at hl 3 rfl) ?_
  refine lv_iconst (v := (1 : Int32)) hx hb dL_law_1555 (by decide) ?_
  refine lv_iadd hx hb dL_law_1556 ?_
  refine va_sld hx hb hX hbl hbA hW.2.2 h1 dL_law_1557 ?_
  refine bkIs (wf := fun (_ : Unit) => wX cI cJ cZ cR am gm tx') C0.1 hW (fun hWc => runVX (As := [.int (xs (i + (1 : Int32)).toNatClampNeg)]) (rest := []) C0 hWc (c_x11_differ l _ tx' (xs (i + (1 : Int32)).toNatClampNeg) hr1) ca_LX_differ 11 11 rfl rfl rfl rfl rfl ⟨rfl, rfl⟩ ⟨Nat.le_of_ble_eq_true rfl, Nat.le_of_ble_eq_true rfl⟩ (Nat.le_of_ble_eq_true rfl) hl.1 dL_law_1558 ⟨by have := hm.1; have := hR.1; show _ ≤ 600000; omega, by have := hm.2; have := hR.2; show _ ≤ 7302250; omega⟩) (fun g1 H locs hW => ?_)
  refine W.widen (k := 124 + gN tx' 9000) (n := 473133 + gN tx' 9001) (by have := hm.1; omega) (by have := hm.2; omega) ?_
  refine lv_aload_n hx hb dL_law_1561 rfl (lv_at hl 2 rfl) ?_
  refine lv_aload_n hx hb dL_law_1562 rfl (lv_at hl 0 rfl) ?_
  refine lv_iload_n hx hb dL_law_1563 rfl (lv_at hl 3 rfl) ?_
  refine lv_iconst (v := (1 : Int32)) hx hb dL_law_1564 (by decide) ?_
  refine lv_iadd hx hb dL_law_1565 ?_
  refine va_sld hx hb hX hbl hbA hW.2.2 h1 dL_law_1566 ?_
  refine bkIs (wf := fun (_ : Unit) => wM cI cJ cZ amm tm') CM hW (fun hWc => runV (As := [.int (xs (i + (1 : Int32)).toNatClampNeg)]) (rest := [.int r]) CM hWc (c_m_differ l _ tm' (xs (i + (1 : Int32)).toNatClampNeg) hr2) ca_LM_differ 0 12 rfl rfl rfl rfl rfl ⟨rfl, rfl⟩ ⟨Nat.le_of_ble_eq_true rfl, Nat.le_of_ble_eq_true rfl⟩ (Nat.le_of_ble_eq_true rfl) hl.1 dL_law_1567 ⟨by have := hR.1; show _ ≤ 600000; omega, by have := hR.2; show _ ≤ 7302250; omega⟩) (fun _ H locs hW => ?_)
  exact lv_icmp_eq (tgt := 1635) hx hb dL_law_1570 (by decide) (fun _ => K gm H locs hW) (fun hne => absurd rfl hne)
set_option maxHeartbeats 4000000 in
set_option maxRecDepth 100000 in
theorem lw_op45 (C : lwC p s m meth c D cI cJ cZ cR st A b L xs) {am gm amm : Nat → Nat} {tx tm tx' tm' : St} {i : Int32} (h1 : vp_in (i + (1 : Int32)) L) (h2 : vp_in (i + (2 : Int32)) L) (h3 : vp_in (i + (3 : Int32)) L) (h4 : vp_in (i + (4 : Int32)) L) (ho : ∃ r : Int32, x11_from tx (xs (i + (1 : Int32)).toNatClampNeg) = some (r, tx') ∧ m_from tm (xs (i + (1 : Int32)).toNatClampNeg) = some (r, tm')) (hR : 124 + gN tx' 9000 ≤ 600000 ∧ 473133 + gN tx' 9001 ≤ 7302250) (hW : wl D A s (wX cI cJ cZ cR am gm tx ++ wM cI cJ cZ amm tm) H locs) (hl : lv_has ls 4 [(0, .ref b), (1, .ref (am 2011)), (2, .ref (amm 68)), (3, .int i)]) (K : ∀ (gm : Nat → Nat) (H : Heap) (locs : List Loc), wl D A s (wX cI cJ cZ cR am gm tx' ++ wM cI cJ cZ amm tm') H locs → W p l e room_1 s m #[.ref b] below meth c H locs (124 + gN tx' 9000) (473133 + gN tx' 9001) Q (F0 m 1635 ls [])) : W p l e room_1 s m #[.ref b] below meth c H locs (124 + gN tx 9000) (473133 + gN tx 9001) Q (F0 m 1575 ls []) := by
  obtain ⟨r, hr1, hr2⟩ := ho
  obtain ⟨C0, CM, hX, hbl, hbA⟩ := C
  have hx := C0.1.1
  have hb := C0.1.2.1
  have hm : mle tx tx' := mm_x11_from _ _ _ hr1
  refine lv_aload_n hx hb dL_law_1575 rfl (lv_at hl 1 rfl) ?_
  refine lv_aload_n hx hb dL_law_1576 rfl (lv_at hl 0 rfl) ?_
  refine lv_iload_n hx hb dL_law_1577 rfl (lv_at hl 3 rfl) ?_
  refine lv_iconst (v := (1 : Int32)) hx hb dL_law_1578 (by decide) ?_
  refine lv_iadd hx hb dL_law_1579 ?_
  refine va_sld hx hb hX hbl hbA hW.2.2 h1 dL_law_1580 ?_
  refine bkIs (wf := fun (_ : Unit) => wX cI cJ cZ cR am gm tx') C0.1 hW (fun hWc => runVX (As := [.int (xs (i + (1 : Int32)).toNatClampNeg)]) (rest := []) C0 hWc (c_x11_from l _ tx (xs (i + (1 : Int32)).toNatClampNeg) hr1) ca_LX_from 11 11 rfl rfl rfl rfl rfl ⟨rfl, rfl⟩ ⟨Nat.le_of_ble_eq_true rfl, Nat.le_of_ble_eq_true rfl⟩ (Nat.le_of_ble_eq_true rfl) hl.1 dL_law_1581 ⟨by have := hm.1; have := hR.1; show _ ≤ 600000; omega, by have := hm.2; have := hR.2; show _ ≤ 7302250; omega⟩) (fun g1 H locs hW => ?_)
  refine W.widen (k := 124 + gN tx' 9000) (n := 473133 + gN tx' 9001) (by have := hm.1; omega) (by have := hm.2; omega) ?_
  refine lv_aload_n hx hb dL_law_1584 rfl (lv_at hl 2 rfl) ?_
  refine lv_aload_n hx hb dL_law_1585 rfl (lv_at hl 0 rfl) ?_
  refine lv_iload_n hx hb dL_law_1586 rfl (lv_at hl 3 rfl) ?_
  refine lv_iconst (v := (1 : Int32)) hx hb dL_law_1587 (by decide) ?_
  refine lv_iadd hx hb dL_law_1588 ?_
  refine va_sld hx hb hX hbl hbA hW.2.2 h1 dL_law_1589 ?_
  refine bkIs (wf := fun (_ : Unit) => wM cI cJ cZ amm tm') CM hW (fun hWc => runV (As := [.int (xs (i + (1 : Int32)).toNatClampNeg)]) (rest := [.int r]) CM hWc (c_m_from l _ tm (xs (i + (1 : Int32)).toNatClampNeg) hr2) ca_LM_from 0 12 rfl rfl rfl rfl rfl ⟨rfl, rfl⟩ ⟨Nat.le_of_ble_eq_true rfl, Nat.le_of_ble_eq_true rfl⟩ (Nat.le_of_ble_eq_true rfl) hl.1 dL_law_1590 ⟨by have := hR.1; show _ ≤ 600000; omega, by have := hR.2; show _ ≤ 7302250; omega⟩) (fun _ H locs hW => ?_)
  exact lv_icmp_eq (tgt := 1635) hx hb dL_law_1593 (by decide) (fun _ => K gm H locs hW) (fun hne => absurd rfl hne)
set_option maxHeartbeats 4000000 in
set_option maxRecDepth 100000 in
theorem lw_op46 (C : lwC p s m meth c D cI cJ cZ cR st A b L xs) {am gm amm : Nat → Nat} {tx tm tx' tm' : St} {i : Int32} (h1 : vp_in (i + (1 : Int32)) L) (h2 : vp_in (i + (2 : Int32)) L) (h3 : vp_in (i + (3 : Int32)) L) (h4 : vp_in (i + (4 : Int32)) L) (ho : ∃ r : Int32, x11_count tx (xs (i + (1 : Int32)).toNatClampNeg) = some r ∧ m_count tm (xs (i + (1 : Int32)).toNatClampNeg) = some r ∧ tx' = tx ∧ tm' = tm) (hR : 124 + gN tx' 9000 ≤ 600000 ∧ 473133 + gN tx' 9001 ≤ 7302250) (hW : wl D A s (wX cI cJ cZ cR am gm tx ++ wM cI cJ cZ amm tm) H locs) (hl : lv_has ls 4 [(0, .ref b), (1, .ref (am 2011)), (2, .ref (amm 68)), (3, .int i)]) (K : ∀ (gm : Nat → Nat) (H : Heap) (locs : List Loc), wl D A s (wX cI cJ cZ cR am gm tx' ++ wM cI cJ cZ amm tm') H locs → W p l e room_1 s m #[.ref b] below meth c H locs (124 + gN tx' 9000) (473133 + gN tx' 9001) Q (F0 m 1635 ls [])) : W p l e room_1 s m #[.ref b] below meth c H locs (124 + gN tx 9000) (473133 + gN tx 9001) Q (F0 m 1598 ls []) := by
  obtain ⟨r, hr1, hr2, rfl, rfl⟩ := ho
  obtain ⟨C0, CM, hX, hbl, hbA⟩ := C
  have hx := C0.1.1
  have hb := C0.1.2.1
  have hm : mle tx' tx' := mle.rfl
  refine lv_aload_n hx hb dL_law_1598 rfl (lv_at hl 1 rfl) ?_
  refine lv_aload_n hx hb dL_law_1599 rfl (lv_at hl 0 rfl) ?_
  refine lv_iload_n hx hb dL_law_1600 rfl (lv_at hl 3 rfl) ?_
  refine lv_iconst (v := (1 : Int32)) hx hb dL_law_1601 (by decide) ?_
  refine lv_iadd hx hb dL_law_1602 ?_
  refine va_sld hx hb hX hbl hbA hW.2.2 h1 dL_law_1603 ?_
  refine bkIs (wf := fun (_ : Unit) => wX cI cJ cZ cR am gm tx') C0.1 hW (fun hWc => runVX (As := [.int (xs (i + (1 : Int32)).toNatClampNeg)]) (rest := []) C0 hWc (c_x11_count l _ tx' (xs (i + (1 : Int32)).toNatClampNeg) hr1) ca_LX_count 11 11 rfl rfl rfl rfl rfl ⟨rfl, rfl⟩ ⟨Nat.le_of_ble_eq_true rfl, Nat.le_of_ble_eq_true rfl⟩ (Nat.le_of_ble_eq_true rfl) hl.1 dL_law_1604 ⟨by have := hm.1; have := hR.1; show _ ≤ 600000; omega, by have := hm.2; have := hR.2; show _ ≤ 7302250; omega⟩) (fun g1 H locs hW => ?_)
  refine W.widen (k := 124 + gN tx' 9000) (n := 473133 + gN tx' 9001) (by have := hm.1; omega) (by have := hm.2; omega) ?_
  refine lv_aload_n hx hb dL_law_1607 rfl (lv_at hl 2 rfl) ?_
  refine lv_aload_n hx hb dL_law_1608 rfl (lv_at hl 0 rfl) ?_
  refine lv_iload_n hx hb dL_law_1609 rfl (lv_at hl 3 rfl) ?_
  refine lv_iconst (v := (1 : Int32)) hx hb dL_law_1610 (by decide) ?_
  refine lv_iadd hx hb dL_law_1611 ?_
  refine va_sld hx hb hX hbl hbA hW.2.2 h1 dL_law_1612 ?_
  refine bkIs (wf := fun (_ : Unit) => wM cI cJ cZ amm tm') CM hW (fun hWc => runV (As := [.int (xs (i + (1 : Int32)).toNatClampNeg)]) (rest := [.int r]) CM hWc (c_m_count l _ tm' (xs (i + (1 : Int32)).toNatClampNeg) hr2) ca_LM_count 0 12 rfl rfl rfl rfl rfl ⟨rfl, rfl⟩ ⟨Nat.le_of_ble_eq_true rfl, Nat.le_of_ble_eq_true rfl⟩ (Nat.le_of_ble_eq_true rfl) hl.1 dL_law_1613 ⟨by have := hR.1; show _ ≤ 600000; omega, by have := hR.2; show _ ≤ 7302250; omega⟩) (fun _ H locs hW => ?_)
  exact lv_icmp_eq (tgt := 1635) hx hb dL_law_1616 (by decide) (fun _ => K gm H locs hW) (fun hne => absurd rfl hne)
set_option maxHeartbeats 4000000 in
set_option maxRecDepth 100000 in
theorem lw_op47 (C : lwC p s m meth c D cI cJ cZ cR st A b L xs) {am gm amm : Nat → Nat} {tx tm tx' tm' : St} {i : Int32} (h1 : vp_in (i + (1 : Int32)) L) (h2 : vp_in (i + (2 : Int32)) L) (h3 : vp_in (i + (3 : Int32)) L) (h4 : vp_in (i + (4 : Int32)) L) (ho : ∃ r : Int64, x11_digest tx = some r ∧ m_digest tm = some r ∧ tx' = tx ∧ tm' = tm) (hR : 124 + gN tx' 9000 ≤ 600000 ∧ 473133 + gN tx' 9001 ≤ 7302250) (hW : wl D A s (wX cI cJ cZ cR am gm tx ++ wM cI cJ cZ amm tm) H locs) (hl : lv_has ls 4 [(0, .ref b), (1, .ref (am 2011)), (2, .ref (amm 68)), (3, .int i)]) (K : ∀ (gm : Nat → Nat) (H : Heap) (locs : List Loc), wl D A s (wX cI cJ cZ cR am gm tx' ++ wM cI cJ cZ amm tm') H locs → W p l e room_1 s m #[.ref b] below meth c H locs (124 + gN tx' 9000) (473133 + gN tx' 9001) Q (F0 m 1635 ls [])) : W p l e room_1 s m #[.ref b] below meth c H locs (124 + gN tx 9000) (473133 + gN tx 9001) Q (F0 m 1621 ls []) := by
  obtain ⟨r, hr1, hr2, rfl, rfl⟩ := ho
  obtain ⟨C0, CM, hX, hbl, hbA⟩ := C
  have hx := C0.1.1
  have hb := C0.1.2.1
  have hm : mle tx' tx' := mle.rfl
  refine lv_aload_n hx hb dL_law_1621 rfl (lv_at hl 1 rfl) ?_
  refine bkJs (wf := fun (_ : Unit) => wX cI cJ cZ cR am gm tx') C0.1 hW (fun hWc => runVX (As := []) (rest := []) C0 hWc (c_x11_digest l _ tx'  hr1) ca_LX_digest 11 11 rfl rfl rfl rfl rfl ⟨rfl, rfl⟩ ⟨Nat.le_of_ble_eq_true rfl, Nat.le_of_ble_eq_true rfl⟩ (Nat.le_of_ble_eq_true rfl) hl.1 dL_law_1622 ⟨by have := hm.1; have := hR.1; show _ ≤ 600000; omega, by have := hm.2; have := hR.2; show _ ≤ 7302250; omega⟩) (fun g1 H locs hW => ?_)
  refine W.widen (k := 124 + gN tx' 9000) (n := 473133 + gN tx' 9001) (by have := hm.1; omega) (by have := hm.2; omega) ?_
  refine lv_aload_n hx hb dL_law_1625 rfl (lv_at hl 2 rfl) ?_
  refine bkJs (wf := fun (_ : Unit) => wM cI cJ cZ amm tm') CM hW (fun hWc => runV (As := []) (rest := [.long r]) CM hWc (c_m_digest l _ tm'  hr2) ca_LM_digest 0 12 rfl rfl rfl rfl rfl ⟨rfl, rfl⟩ ⟨Nat.le_of_ble_eq_true rfl, Nat.le_of_ble_eq_true rfl⟩ (Nat.le_of_ble_eq_true rfl) hl.1 dL_law_1626 ⟨by have := hR.1; show _ ≤ 600000; omega, by have := hR.2; show _ ≤ 7302250; omega⟩) (fun _ H locs hW => ?_)
  refine W.lcmp hx hb dL_law_1629 ?_
  exact lv_if_eq (tgt := 1635) hx hb dL_law_1630 (by decide) (fun _ => K gm H locs hW) (fun hne => absurd (lcmp_self r) hne)
end LWO
