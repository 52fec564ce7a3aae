/-! Six by six noughts and ones: the table, and what is checked. -/
def EP012 : Nat := Ep 0 1 2
def EN012 : Nat := En 0 1 2
def EP013 : Nat := Ep 0 1 3
def EN013 : Nat := En 0 1 3
def EP014 : Nat := Ep 0 1 4
def EN014 : Nat := En 0 1 4
def EP015 : Nat := Ep 0 1 5
def EN015 : Nat := En 0 1 5
def EP023 : Nat := Ep 0 2 3
def EN023 : Nat := En 0 2 3
def EP024 : Nat := Ep 0 2 4
def EN024 : Nat := En 0 2 4
def EP025 : Nat := Ep 0 2 5
def EN025 : Nat := En 0 2 5
def EP034 : Nat := Ep 0 3 4
def EN034 : Nat := En 0 3 4
def EP035 : Nat := Ep 0 3 5
def EN035 : Nat := En 0 3 5
def EP045 : Nat := Ep 0 4 5
def EN045 : Nat := En 0 4 5
def EP123 : Nat := Ep 1 2 3
def EN123 : Nat := En 1 2 3
def EP124 : Nat := Ep 1 2 4
def EN124 : Nat := En 1 2 4
def EP125 : Nat := Ep 1 2 5
def EN125 : Nat := En 1 2 5
def EP134 : Nat := Ep 1 3 4
def EN134 : Nat := En 1 3 4
def EP135 : Nat := Ep 1 3 5
def EN135 : Nat := En 1 3 5
def EP145 : Nat := Ep 1 4 5
def EN145 : Nat := En 1 4 5
def EP234 : Nat := Ep 2 3 4
def EN234 : Nat := En 2 3 4
def EP235 : Nat := Ep 2 3 5
def EN235 : Nat := En 2 3 5
def EP245 : Nat := Ep 2 4 5
def EN245 : Nat := En 2 4 5
def EP345 : Nat := Ep 3 4 5
def EN345 : Nat := En 3 4 5
theorem EP012_e : EP012 = Ep 0 1 2 := by unfold EP012; exact Eq.refl _
theorem EN012_e : EN012 = En 0 1 2 := by unfold EN012; exact Eq.refl _
theorem EP013_e : EP013 = Ep 0 1 3 := by unfold EP013; exact Eq.refl _
theorem EN013_e : EN013 = En 0 1 3 := by unfold EN013; exact Eq.refl _
theorem EP014_e : EP014 = Ep 0 1 4 := by unfold EP014; exact Eq.refl _
theorem EN014_e : EN014 = En 0 1 4 := by unfold EN014; exact Eq.refl _
theorem EP015_e : EP015 = Ep 0 1 5 := by unfold EP015; exact Eq.refl _
theorem EN015_e : EN015 = En 0 1 5 := by unfold EN015; exact Eq.refl _
theorem EP023_e : EP023 = Ep 0 2 3 := by unfold EP023; exact Eq.refl _
theorem EN023_e : EN023 = En 0 2 3 := by unfold EN023; exact Eq.refl _
theorem EP024_e : EP024 = Ep 0 2 4 := by unfold EP024; exact Eq.refl _
theorem EN024_e : EN024 = En 0 2 4 := by unfold EN024; exact Eq.refl _
theorem EP025_e : EP025 = Ep 0 2 5 := by unfold EP025; exact Eq.refl _
theorem EN025_e : EN025 = En 0 2 5 := by unfold EN025; exact Eq.refl _
theorem EP034_e : EP034 = Ep 0 3 4 := by unfold EP034; exact Eq.refl _
theorem EN034_e : EN034 = En 0 3 4 := by unfold EN034; exact Eq.refl _
theorem EP035_e : EP035 = Ep 0 3 5 := by unfold EP035; exact Eq.refl _
theorem EN035_e : EN035 = En 0 3 5 := by unfold EN035; exact Eq.refl _
theorem EP045_e : EP045 = Ep 0 4 5 := by unfold EP045; exact Eq.refl _
theorem EN045_e : EN045 = En 0 4 5 := by unfold EN045; exact Eq.refl _
theorem EP123_e : EP123 = Ep 1 2 3 := by unfold EP123; exact Eq.refl _
theorem EN123_e : EN123 = En 1 2 3 := by unfold EN123; exact Eq.refl _
theorem EP124_e : EP124 = Ep 1 2 4 := by unfold EP124; exact Eq.refl _
theorem EN124_e : EN124 = En 1 2 4 := by unfold EN124; exact Eq.refl _
theorem EP125_e : EP125 = Ep 1 2 5 := by unfold EP125; exact Eq.refl _
theorem EN125_e : EN125 = En 1 2 5 := by unfold EN125; exact Eq.refl _
theorem EP134_e : EP134 = Ep 1 3 4 := by unfold EP134; exact Eq.refl _
theorem EN134_e : EN134 = En 1 3 4 := by unfold EN134; exact Eq.refl _
theorem EP135_e : EP135 = Ep 1 3 5 := by unfold EP135; exact Eq.refl _
theorem EN135_e : EN135 = En 1 3 5 := by unfold EN135; exact Eq.refl _
theorem EP145_e : EP145 = Ep 1 4 5 := by unfold EP145; exact Eq.refl _
theorem EN145_e : EN145 = En 1 4 5 := by unfold EN145; exact Eq.refl _
theorem EP234_e : EP234 = Ep 2 3 4 := by unfold EP234; exact Eq.refl _
theorem EN234_e : EN234 = En 2 3 4 := by unfold EN234; exact Eq.refl _
theorem EP235_e : EP235 = Ep 2 3 5 := by unfold EP235; exact Eq.refl _
theorem EN235_e : EN235 = En 2 3 5 := by unfold EN235; exact Eq.refl _
theorem EP245_e : EP245 = Ep 2 4 5 := by unfold EP245; exact Eq.refl _
theorem EN245_e : EN245 = En 2 4 5 := by unfold EN245; exact Eq.refl _
theorem EP345_e : EP345 = Ep 3 4 5 := by unfold EP345; exact Eq.refl _
theorem EN345_e : EN345 = En 3 4 5 := by unfold EN345; exact Eq.refl _
def etab (s : Bool) (code : Nat) : Nat := bif Nat.beq code 8 then (bif s then EP012 else EN012) else bif Nat.beq code 9 then (bif s then EP013 else EN013) else bif Nat.beq code 10 then (bif s then EP014 else EN014) else bif Nat.beq code 11 then (bif s then EP015 else EN015) else bif Nat.beq code 15 then (bif s then EP023 else EN023) else bif Nat.beq code 16 then (bif s then EP024 else EN024) else bif Nat.beq code 17 then (bif s then EP025 else EN025) else bif Nat.beq code 22 then (bif s then EP034 else EN034) else bif Nat.beq code 23 then (bif s then EP035 else EN035) else bif Nat.beq code 29 then (bif s then EP045 else EN045) else bif Nat.beq code 51 then (bif s then EP123 else EN123) else bif Nat.beq code 52 then (bif s then EP124 else EN124) else bif Nat.beq code 53 then (bif s then EP125 else EN125) else bif Nat.beq code 58 then (bif s then EP134 else EN134) else bif Nat.beq code 59 then (bif s then EP135 else EN135) else bif Nat.beq code 65 then (bif s then EP145 else EN145) else bif Nat.beq code 94 then (bif s then EP234 else EN234) else bif Nat.beq code 95 then (bif s then EP235 else EN235) else bif Nat.beq code 101 then (bif s then EP245 else EN245) else bif Nat.beq code 137 then (bif s then EP345 else EN345) else 0
theorem et_hit {c x y : Nat} : (bif Nat.beq c c then x else y) = x := by
  rw [Nat.beq_refl, cond_true]
theorem et_miss {c d x y : Nat} (h : c ≠ d) : (bif Nat.beq c d then x else y) = y := by
  rw [beq_no h, cond_false]
theorem et_true_0 : etab true 8 = EP012 := by
  unfold etab
  rw [et_hit, cond_true]
theorem et_false_0 : etab false 8 = EN012 := by
  unfold etab
  rw [et_hit, cond_false]
theorem et_true_1 : etab true 9 = EP013 := by
  unfold etab
  rw [et_miss (show 9 ≠ 8 by decide), et_hit, cond_true]
theorem et_false_1 : etab false 9 = EN013 := by
  unfold etab
  rw [et_miss (show 9 ≠ 8 by decide), et_hit, cond_false]
theorem et_true_2 : etab true 10 = EP014 := by
  unfold etab
  rw [et_miss (show 10 ≠ 8 by decide), et_miss (show 10 ≠ 9 by decide), et_hit, cond_true]
theorem et_false_2 : etab false 10 = EN014 := by
  unfold etab
  rw [et_miss (show 10 ≠ 8 by decide), et_miss (show 10 ≠ 9 by decide), et_hit, cond_false]
theorem et_true_3 : etab true 11 = EP015 := by
  unfold etab
  rw [et_miss (show 11 ≠ 8 by decide), et_miss (show 11 ≠ 9 by decide), et_miss (show 11 ≠ 10 by decide), et_hit, cond_true]
theorem et_false_3 : etab false 11 = EN015 := by
  unfold etab
  rw [et_miss (show 11 ≠ 8 by decide), et_miss (show 11 ≠ 9 by decide), et_miss (show 11 ≠ 10 by decide), et_hit, cond_false]
theorem et_true_4 : etab true 15 = EP023 := by
  unfold etab
  rw [et_miss (show 15 ≠ 8 by decide), et_miss (show 15 ≠ 9 by decide), et_miss (show 15 ≠ 10 by decide), et_miss (show 15 ≠ 11 by decide), et_hit, cond_true]
theorem et_false_4 : etab false 15 = EN023 := by
  unfold etab
  rw [et_miss (show 15 ≠ 8 by decide), et_miss (show 15 ≠ 9 by decide), et_miss (show 15 ≠ 10 by decide), et_miss (show 15 ≠ 11 by decide), et_hit, cond_false]
theorem et_true_5 : etab true 16 = EP024 := by
  unfold etab
  rw [et_miss (show 16 ≠ 8 by decide), et_miss (show 16 ≠ 9 by decide), et_miss (show 16 ≠ 10 by decide), et_miss (show 16 ≠ 11 by decide), et_miss (show 16 ≠ 15 by decide), et_hit, cond_true]
theorem et_false_5 : etab false 16 = EN024 := by
  unfold etab
  rw [et_miss (show 16 ≠ 8 by decide), et_miss (show 16 ≠ 9 by decide), et_miss (show 16 ≠ 10 by decide), et_miss (show 16 ≠ 11 by decide), et_miss (show 16 ≠ 15 by decide), et_hit, cond_false]
theorem et_true_6 : etab true 17 = EP025 := by
  unfold etab
  rw [et_miss (show 17 ≠ 8 by decide), et_miss (show 17 ≠ 9 by decide), et_miss (show 17 ≠ 10 by decide), et_miss (show 17 ≠ 11 by decide), et_miss (show 17 ≠ 15 by decide), et_miss (show 17 ≠ 16 by decide), et_hit, cond_true]
theorem et_false_6 : etab false 17 = EN025 := by
  unfold etab
  rw [et_miss (show 17 ≠ 8 by decide), et_miss (show 17 ≠ 9 by decide), et_miss (show 17 ≠ 10 by decide), et_miss (show 17 ≠ 11 by decide), et_miss (show 17 ≠ 15 by decide), et_miss (show 17 ≠ 16 by decide), et_hit, cond_false]
theorem et_true_7 : etab true 22 = EP034 := by
  unfold etab
  rw [et_miss (show 22 ≠ 8 by decide), et_miss (show 22 ≠ 9 by decide), et_miss (show 22 ≠ 10 by decide), et_miss (show 22 ≠ 11 by decide), et_miss (show 22 ≠ 15 by decide), et_miss (show 22 ≠ 16 by decide), et_miss (show 22 ≠ 17 by decide), et_hit, cond_true]
theorem et_false_7 : etab false 22 = EN034 := by
  unfold etab
  rw [et_miss (show 22 ≠ 8 by decide), et_miss (show 22 ≠ 9 by decide), et_miss (show 22 ≠ 10 by decide), et_miss (show 22 ≠ 11 by decide), et_miss (show 22 ≠ 15 by decide), et_miss (show 22 ≠ 16 by decide), et_miss (show 22 ≠ 17 by decide), et_hit, cond_false]
theorem et_true_8 : etab true 23 = EP035 := by
  unfold etab
  rw [et_miss (show 23 ≠ 8 by decide), et_miss (show 23 ≠ 9 by decide), et_miss (show 23 ≠ 10 by decide), et_miss (show 23 ≠ 11 by decide), et_miss (show 23 ≠ 15 by decide), et_miss (show 23 ≠ 16 by decide), et_miss (show 23 ≠ 17 by decide), et_miss (show 23 ≠ 22 by decide), et_hit, cond_true]
theorem et_false_8 : etab false 23 = EN035 := by
  unfold etab
  rw [et_miss (show 23 ≠ 8 by decide), et_miss (show 23 ≠ 9 by decide), et_miss (show 23 ≠ 10 by decide), et_miss (show 23 ≠ 11 by decide), et_miss (show 23 ≠ 15 by decide), et_miss (show 23 ≠ 16 by decide), et_miss (show 23 ≠ 17 by decide), et_miss (show 23 ≠ 22 by decide), et_hit, cond_false]
theorem et_true_9 : etab true 29 = EP045 := by
  unfold etab
  rw [et_miss (show 29 ≠ 8 by decide), et_miss (show 29 ≠ 9 by decide), et_miss (show 29 ≠ 10 by decide), et_miss (show 29 ≠ 11 by decide), et_miss (show 29 ≠ 15 by decide), et_miss (show 29 ≠ 16 by decide), et_miss (show 29 ≠ 17 by decide), et_miss (show 29 ≠ 22 by decide), et_miss (show 29 ≠ 23 by decide), et_hit, cond_true]
theorem et_false_9 : etab false 29 = EN045 := by
  unfold etab
  rw [et_miss (show 29 ≠ 8 by decide), et_miss (show 29 ≠ 9 by decide), et_miss (show 29 ≠ 10 by decide), et_miss (show 29 ≠ 11 by decide), et_miss (show 29 ≠ 15 by decide), et_miss (show 29 ≠ 16 by decide), et_miss (show 29 ≠ 17 by decide), et_miss (show 29 ≠ 22 by decide), et_miss (show 29 ≠ 23 by decide), et_hit, cond_false]
theorem et_true_10 : etab true 51 = EP123 := by
  unfold etab
  rw [et_miss (show 51 ≠ 8 by decide), et_miss (show 51 ≠ 9 by decide), et_miss (show 51 ≠ 10 by decide), et_miss (show 51 ≠ 11 by decide), et_miss (show 51 ≠ 15 by decide), et_miss (show 51 ≠ 16 by decide), et_miss (show 51 ≠ 17 by decide), et_miss (show 51 ≠ 22 by decide), et_miss (show 51 ≠ 23 by decide), et_miss (show 51 ≠ 29 by decide), et_hit, cond_true]
theorem et_false_10 : etab false 51 = EN123 := by
  unfold etab
  rw [et_miss (show 51 ≠ 8 by decide), et_miss (show 51 ≠ 9 by decide), et_miss (show 51 ≠ 10 by decide), et_miss (show 51 ≠ 11 by decide), et_miss (show 51 ≠ 15 by decide), et_miss (show 51 ≠ 16 by decide), et_miss (show 51 ≠ 17 by decide), et_miss (show 51 ≠ 22 by decide), et_miss (show 51 ≠ 23 by decide), et_miss (show 51 ≠ 29 by decide), et_hit, cond_false]
theorem et_true_11 : etab true 52 = EP124 := by
  unfold etab
  rw [et_miss (show 52 ≠ 8 by decide), et_miss (show 52 ≠ 9 by decide), et_miss (show 52 ≠ 10 by decide), et_miss (show 52 ≠ 11 by decide), et_miss (show 52 ≠ 15 by decide), et_miss (show 52 ≠ 16 by decide), et_miss (show 52 ≠ 17 by decide), et_miss (show 52 ≠ 22 by decide), et_miss (show 52 ≠ 23 by decide), et_miss (show 52 ≠ 29 by decide), et_miss (show 52 ≠ 51 by decide), et_hit, cond_true]
theorem et_false_11 : etab false 52 = EN124 := by
  unfold etab
  rw [et_miss (show 52 ≠ 8 by decide), et_miss (show 52 ≠ 9 by decide), et_miss (show 52 ≠ 10 by decide), et_miss (show 52 ≠ 11 by decide), et_miss (show 52 ≠ 15 by decide), et_miss (show 52 ≠ 16 by decide), et_miss (show 52 ≠ 17 by decide), et_miss (show 52 ≠ 22 by decide), et_miss (show 52 ≠ 23 by decide), et_miss (show 52 ≠ 29 by decide), et_miss (show 52 ≠ 51 by decide), et_hit, cond_false]
theorem et_true_12 : etab true 53 = EP125 := by
  unfold etab
  rw [et_miss (show 53 ≠ 8 by decide), et_miss (show 53 ≠ 9 by decide), et_miss (show 53 ≠ 10 by decide), et_miss (show 53 ≠ 11 by decide), et_miss (show 53 ≠ 15 by decide), et_miss (show 53 ≠ 16 by decide), et_miss (show 53 ≠ 17 by decide), et_miss (show 53 ≠ 22 by decide), et_miss (show 53 ≠ 23 by decide), et_miss (show 53 ≠ 29 by decide), et_miss (show 53 ≠ 51 by decide), et_miss (show 53 ≠ 52 by decide), et_hit, cond_true]
theorem et_false_12 : etab false 53 = EN125 := by
  unfold etab
  rw [et_miss (show 53 ≠ 8 by decide), et_miss (show 53 ≠ 9 by decide), et_miss (show 53 ≠ 10 by decide), et_miss (show 53 ≠ 11 by decide), et_miss (show 53 ≠ 15 by decide), et_miss (show 53 ≠ 16 by decide), et_miss (show 53 ≠ 17 by decide), et_miss (show 53 ≠ 22 by decide), et_miss (show 53 ≠ 23 by decide), et_miss (show 53 ≠ 29 by decide), et_miss (show 53 ≠ 51 by decide), et_miss (show 53 ≠ 52 by decide), et_hit, cond_false]
theorem et_true_13 : etab true 58 = EP134 := by
  unfold etab
  rw [et_miss (show 58 ≠ 8 by decide), et_miss (show 58 ≠ 9 by decide), et_miss (show 58 ≠ 10 by decide), et_miss (show 58 ≠ 11 by decide), et_miss (show 58 ≠ 15 by decide), et_miss (show 58 ≠ 16 by decide), et_miss (show 58 ≠ 17 by decide), et_miss (show 58 ≠ 22 by decide), et_miss (show 58 ≠ 23 by decide), et_miss (show 58 ≠ 29 by decide), et_miss (show 58 ≠ 51 by decide), et_miss (show 58 ≠ 52 by decide), et_miss (show 58 ≠ 53 by decide), et_hit, cond_true]
theorem et_false_13 : etab false 58 = EN134 := by
  unfold etab
  rw [et_miss (show 58 ≠ 8 by decide), et_miss (show 58 ≠ 9 by decide), et_miss (show 58 ≠ 10 by decide), et_miss (show 58 ≠ 11 by decide), et_miss (show 58 ≠ 15 by decide), et_miss (show 58 ≠ 16 by decide), et_miss (show 58 ≠ 17 by decide), et_miss (show 58 ≠ 22 by decide), et_miss (show 58 ≠ 23 by decide), et_miss (show 58 ≠ 29 by decide), et_miss (show 58 ≠ 51 by decide), et_miss (show 58 ≠ 52 by decide), et_miss (show 58 ≠ 53 by decide), et_hit, cond_false]
theorem et_true_14 : etab true 59 = EP135 := by
  unfold etab
  rw [et_miss (show 59 ≠ 8 by decide), et_miss (show 59 ≠ 9 by decide), et_miss (show 59 ≠ 10 by decide), et_miss (show 59 ≠ 11 by decide), et_miss (show 59 ≠ 15 by decide), et_miss (show 59 ≠ 16 by decide), et_miss (show 59 ≠ 17 by decide), et_miss (show 59 ≠ 22 by decide), et_miss (show 59 ≠ 23 by decide), et_miss (show 59 ≠ 29 by decide), et_miss (show 59 ≠ 51 by decide), et_miss (show 59 ≠ 52 by decide), et_miss (show 59 ≠ 53 by decide), et_miss (show 59 ≠ 58 by decide), et_hit, cond_true]
theorem et_false_14 : etab false 59 = EN135 := by
  unfold etab
  rw [et_miss (show 59 ≠ 8 by decide), et_miss (show 59 ≠ 9 by decide), et_miss (show 59 ≠ 10 by decide), et_miss (show 59 ≠ 11 by decide), et_miss (show 59 ≠ 15 by decide), et_miss (show 59 ≠ 16 by decide), et_miss (show 59 ≠ 17 by decide), et_miss (show 59 ≠ 22 by decide), et_miss (show 59 ≠ 23 by decide), et_miss (show 59 ≠ 29 by decide), et_miss (show 59 ≠ 51 by decide), et_miss (show 59 ≠ 52 by decide), et_miss (show 59 ≠ 53 by decide), et_miss (show 59 ≠ 58 by decide), et_hit, cond_false]
theorem et_true_15 : etab true 65 = EP145 := by
  unfold etab
  rw [et_miss (show 65 ≠ 8 by decide), et_miss (show 65 ≠ 9 by decide), et_miss (show 65 ≠ 10 by decide), et_miss (show 65 ≠ 11 by decide), et_miss (show 65 ≠ 15 by decide), et_miss (show 65 ≠ 16 by decide), et_miss (show 65 ≠ 17 by decide), et_miss (show 65 ≠ 22 by decide), et_miss (show 65 ≠ 23 by decide), et_miss (show 65 ≠ 29 by decide), et_miss (show 65 ≠ 51 by decide), et_miss (show 65 ≠ 52 by decide), et_miss (show 65 ≠ 53 by decide), et_miss (show 65 ≠ 58 by decide), et_miss (show 65 ≠ 59 by decide), et_hit, cond_true]
theorem et_false_15 : etab false 65 = EN145 := by
  unfold etab
  rw [et_miss (show 65 ≠ 8 by decide), et_miss (show 65 ≠ 9 by decide), et_miss (show 65 ≠ 10 by decide), et_miss (show 65 ≠ 11 by decide), et_miss (show 65 ≠ 15 by decide), et_miss (show 65 ≠ 16 by decide), et_miss (show 65 ≠ 17 by decide), et_miss (show 65 ≠ 22 by decide), et_miss (show 65 ≠ 23 by decide), et_miss (show 65 ≠ 29 by decide), et_miss (show 65 ≠ 51 by decide), et_miss (show 65 ≠ 52 by decide), et_miss (show 65 ≠ 53 by decide), et_miss (show 65 ≠ 58 by decide), et_miss (show 65 ≠ 59 by decide), et_hit, cond_false]
theorem et_true_16 : etab true 94 = EP234 := by
  unfold etab
  rw [et_miss (show 94 ≠ 8 by decide), et_miss (show 94 ≠ 9 by decide), et_miss (show 94 ≠ 10 by decide), et_miss (show 94 ≠ 11 by decide), et_miss (show 94 ≠ 15 by decide), et_miss (show 94 ≠ 16 by decide), et_miss (show 94 ≠ 17 by decide), et_miss (show 94 ≠ 22 by decide), et_miss (show 94 ≠ 23 by decide), et_miss (show 94 ≠ 29 by decide), et_miss (show 94 ≠ 51 by decide), et_miss (show 94 ≠ 52 by decide), et_miss (show 94 ≠ 53 by decide), et_miss (show 94 ≠ 58 by decide), et_miss (show 94 ≠ 59 by decide), et_miss (show 94 ≠ 65 by decide), et_hit, cond_true]
theorem et_false_16 : etab false 94 = EN234 := by
  unfold etab
  rw [et_miss (show 94 ≠ 8 by decide), et_miss (show 94 ≠ 9 by decide), et_miss (show 94 ≠ 10 by decide), et_miss (show 94 ≠ 11 by decide), et_miss (show 94 ≠ 15 by decide), et_miss (show 94 ≠ 16 by decide), et_miss (show 94 ≠ 17 by decide), et_miss (show 94 ≠ 22 by decide), et_miss (show 94 ≠ 23 by decide), et_miss (show 94 ≠ 29 by decide), et_miss (show 94 ≠ 51 by decide), et_miss (show 94 ≠ 52 by decide), et_miss (show 94 ≠ 53 by decide), et_miss (show 94 ≠ 58 by decide), et_miss (show 94 ≠ 59 by decide), et_miss (show 94 ≠ 65 by decide), et_hit, cond_false]
theorem et_true_17 : etab true 95 = EP235 := by
  unfold etab
  rw [et_miss (show 95 ≠ 8 by decide), et_miss (show 95 ≠ 9 by decide), et_miss (show 95 ≠ 10 by decide), et_miss (show 95 ≠ 11 by decide), et_miss (show 95 ≠ 15 by decide), et_miss (show 95 ≠ 16 by decide), et_miss (show 95 ≠ 17 by decide), et_miss (show 95 ≠ 22 by decide), et_miss (show 95 ≠ 23 by decide), et_miss (show 95 ≠ 29 by decide), et_miss (show 95 ≠ 51 by decide), et_miss (show 95 ≠ 52 by decide), et_miss (show 95 ≠ 53 by decide), et_miss (show 95 ≠ 58 by decide), et_miss (show 95 ≠ 59 by decide), et_miss (show 95 ≠ 65 by decide), et_miss (show 95 ≠ 94 by decide), et_hit, cond_true]
theorem et_false_17 : etab false 95 = EN235 := by
  unfold etab
  rw [et_miss (show 95 ≠ 8 by decide), et_miss (show 95 ≠ 9 by decide), et_miss (show 95 ≠ 10 by decide), et_miss (show 95 ≠ 11 by decide), et_miss (show 95 ≠ 15 by decide), et_miss (show 95 ≠ 16 by decide), et_miss (show 95 ≠ 17 by decide), et_miss (show 95 ≠ 22 by decide), et_miss (show 95 ≠ 23 by decide), et_miss (show 95 ≠ 29 by decide), et_miss (show 95 ≠ 51 by decide), et_miss (show 95 ≠ 52 by decide), et_miss (show 95 ≠ 53 by decide), et_miss (show 95 ≠ 58 by decide), et_miss (show 95 ≠ 59 by decide), et_miss (show 95 ≠ 65 by decide), et_miss (show 95 ≠ 94 by decide), et_hit, cond_false]
theorem et_true_18 : etab true 101 = EP245 := by
  unfold etab
  rw [et_miss (show 101 ≠ 8 by decide), et_miss (show 101 ≠ 9 by decide), et_miss (show 101 ≠ 10 by decide), et_miss (show 101 ≠ 11 by decide), et_miss (show 101 ≠ 15 by decide), et_miss (show 101 ≠ 16 by decide), et_miss (show 101 ≠ 17 by decide), et_miss (show 101 ≠ 22 by decide), et_miss (show 101 ≠ 23 by decide), et_miss (show 101 ≠ 29 by decide), et_miss (show 101 ≠ 51 by decide), et_miss (show 101 ≠ 52 by decide), et_miss (show 101 ≠ 53 by decide), et_miss (show 101 ≠ 58 by decide), et_miss (show 101 ≠ 59 by decide), et_miss (show 101 ≠ 65 by decide), et_miss (show 101 ≠ 94 by decide), et_miss (show 101 ≠ 95 by decide), et_hit, cond_true]
theorem et_false_18 : etab false 101 = EN245 := by
  unfold etab
  rw [et_miss (show 101 ≠ 8 by decide), et_miss (show 101 ≠ 9 by decide), et_miss (show 101 ≠ 10 by decide), et_miss (show 101 ≠ 11 by decide), et_miss (show 101 ≠ 15 by decide), et_miss (show 101 ≠ 16 by decide), et_miss (show 101 ≠ 17 by decide), et_miss (show 101 ≠ 22 by decide), et_miss (show 101 ≠ 23 by decide), et_miss (show 101 ≠ 29 by decide), et_miss (show 101 ≠ 51 by decide), et_miss (show 101 ≠ 52 by decide), et_miss (show 101 ≠ 53 by decide), et_miss (show 101 ≠ 58 by decide), et_miss (show 101 ≠ 59 by decide), et_miss (show 101 ≠ 65 by decide), et_miss (show 101 ≠ 94 by decide), et_miss (show 101 ≠ 95 by decide), et_hit, cond_false]
theorem et_true_19 : etab true 137 = EP345 := by
  unfold etab
  rw [et_miss (show 137 ≠ 8 by decide), et_miss (show 137 ≠ 9 by decide), et_miss (show 137 ≠ 10 by decide), et_miss (show 137 ≠ 11 by decide), et_miss (show 137 ≠ 15 by decide), et_miss (show 137 ≠ 16 by decide), et_miss (show 137 ≠ 17 by decide), et_miss (show 137 ≠ 22 by decide), et_miss (show 137 ≠ 23 by decide), et_miss (show 137 ≠ 29 by decide), et_miss (show 137 ≠ 51 by decide), et_miss (show 137 ≠ 52 by decide), et_miss (show 137 ≠ 53 by decide), et_miss (show 137 ≠ 58 by decide), et_miss (show 137 ≠ 59 by decide), et_miss (show 137 ≠ 65 by decide), et_miss (show 137 ≠ 94 by decide), et_miss (show 137 ≠ 95 by decide), et_miss (show 137 ≠ 101 by decide), et_hit, cond_true]
theorem et_false_19 : etab false 137 = EN345 := by
  unfold etab
  rw [et_miss (show 137 ≠ 8 by decide), et_miss (show 137 ≠ 9 by decide), et_miss (show 137 ≠ 10 by decide), et_miss (show 137 ≠ 11 by decide), et_miss (show 137 ≠ 15 by decide), et_miss (show 137 ≠ 16 by decide), et_miss (show 137 ≠ 17 by decide), et_miss (show 137 ≠ 22 by decide), et_miss (show 137 ≠ 23 by decide), et_miss (show 137 ≠ 29 by decide), et_miss (show 137 ≠ 51 by decide), et_miss (show 137 ≠ 52 by decide), et_miss (show 137 ≠ 53 by decide), et_miss (show 137 ≠ 58 by decide), et_miss (show 137 ≠ 59 by decide), et_miss (show 137 ≠ 65 by decide), et_miss (show 137 ≠ 94 by decide), et_miss (show 137 ≠ 95 by decide), et_miss (show 137 ≠ 101 by decide), et_hit, cond_false]
theorem etab_ok : EtOk etab := by
  intro a b c hab hbc hc
  rcases (show a = 0 ∨ a = 1 ∨ a = 2 ∨ a = 3 by omega) with rfl | rfl | rfl | rfl
  · rcases (show b = 1 ∨ b = 2 ∨ b = 3 ∨ b = 4 by omega) with rfl | rfl | rfl | rfl
    · rcases (show c = 2 ∨ c = 3 ∨ c = 4 ∨ c = 5 by omega) with rfl | rfl | rfl | rfl
      · exact ⟨et_true_0.trans EP012_e, et_false_0.trans EN012_e⟩
      · exact ⟨et_true_1.trans EP013_e, et_false_1.trans EN013_e⟩
      · exact ⟨et_true_2.trans EP014_e, et_false_2.trans EN014_e⟩
      · exact ⟨et_true_3.trans EP015_e, et_false_3.trans EN015_e⟩
    · rcases (show c = 3 ∨ c = 4 ∨ c = 5 by omega) with rfl | rfl | rfl
      · exact ⟨et_true_4.trans EP023_e, et_false_4.trans EN023_e⟩
      · exact ⟨et_true_5.trans EP024_e, et_false_5.trans EN024_e⟩
      · exact ⟨et_true_6.trans EP025_e, et_false_6.trans EN025_e⟩
    · rcases (show c = 4 ∨ c = 5 by omega) with rfl | rfl
      · exact ⟨et_true_7.trans EP034_e, et_false_7.trans EN034_e⟩
      · exact ⟨et_true_8.trans EP035_e, et_false_8.trans EN035_e⟩
    · obtain rfl : c = 5 := by omega
      exact ⟨et_true_9.trans EP045_e, et_false_9.trans EN045_e⟩
  · rcases (show b = 2 ∨ b = 3 ∨ b = 4 by omega) with rfl | rfl | rfl
    · rcases (show c = 3 ∨ c = 4 ∨ c = 5 by omega) with rfl | rfl | rfl
      · exact ⟨et_true_10.trans EP123_e, et_false_10.trans EN123_e⟩
      · exact ⟨et_true_11.trans EP124_e, et_false_11.trans EN124_e⟩
      · exact ⟨et_true_12.trans EP125_e, et_false_12.trans EN125_e⟩
    · rcases (show c = 4 ∨ c = 5 by omega) with rfl | rfl
      · exact ⟨et_true_13.trans EP134_e, et_false_13.trans EN134_e⟩
      · exact ⟨et_true_14.trans EP135_e, et_false_14.trans EN135_e⟩
    · obtain rfl : c = 5 := by omega
      exact ⟨et_true_15.trans EP145_e, et_false_15.trans EN145_e⟩
  · rcases (show b = 3 ∨ b = 4 by omega) with rfl | rfl
    · rcases (show c = 4 ∨ c = 5 by omega) with rfl | rfl
      · exact ⟨et_true_16.trans EP234_e, et_false_16.trans EN234_e⟩
      · exact ⟨et_true_17.trans EP235_e, et_false_17.trans EN235_e⟩
    · obtain rfl : c = 5 := by omega
      exact ⟨et_true_18.trans EP245_e, et_false_18.trans EN245_e⟩
  · obtain rfl : b = 4 := by omega
    obtain rfl : c = 5 := by omega
    exact ⟨et_true_19.trans EP345_e, et_false_19.trans EN345_e⟩
def BI : Nat := 1014 * ones 18
def MA : Nat := MK 18
def chk (tc : Nat) : Bool := Nat.beq (Nat.land (Nat.sub (Nat.add BI (dQ etab 3 true 6 (fun m => m) 0 tc)) (dQ etab 3 false 6 (fun m => m) 0 tc)) MA) 0
def aup : Nat → Nat → (Nat → Bool) → Bool
  | 0, _, _ => true
  | k + 1, lo, f => bif f lo then aup k (lo + 1) f else false
def ck3 (t0 t1 t2 : Nat) : Bool := aup (8 - t2) t2 (fun t3 => aup (8 - t3) t3 (fun t4 => aup (8 - t4) t4 (fun t5 => chk (t0 + 8 * t1 + 64 * t2 + 512 * t3 + 4096 * t4 + 32768 * t5))))
