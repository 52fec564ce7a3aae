/-! Six by six noughts and ones: nine. -/
theorem ck_all (a b c : Nat) (h1 : a ≤ b) (h2 : b ≤ c) (h3 : c < 8) : ck3 a b c = true := by
  rcases (show c = 0 ∨ c = 1 ∨ c = 2 ∨ c = 3 ∨ c = 4 ∨ c = 5 ∨ c = 6 ∨ c = 7 by omega) with rfl | rfl | rfl | rfl | rfl | rfl | rfl | rfl
  · obtain rfl : b = 0 := by omega
    obtain rfl : a = 0 := by omega
    exact ck_0_0_0
  · rcases (show b = 0 ∨ b = 1 by omega) with rfl | rfl
    · obtain rfl : a = 0 := by omega
      exact ck_0_0_1
    · rcases (show a = 0 ∨ a = 1 by omega) with rfl | rfl
      · exact ck_0_1_1
      · exact ck_1_1_1
  · rcases (show b = 0 ∨ b = 1 ∨ b = 2 by omega) with rfl | rfl | rfl
    · obtain rfl : a = 0 := by omega
      exact ck_0_0_2
    · rcases (show a = 0 ∨ a = 1 by omega) with rfl | rfl
      · exact ck_0_1_2
      · exact ck_1_1_2
    · rcases (show a = 0 ∨ a = 1 ∨ a = 2 by omega) with rfl | rfl | rfl
      · exact ck_0_2_2
      · exact ck_1_2_2
      · exact ck_2_2_2
  · rcases (show b = 0 ∨ b = 1 ∨ b = 2 ∨ b = 3 by omega) with rfl | rfl | rfl | rfl
    · obtain rfl : a = 0 := by omega
      exact ck_0_0_3
    · rcases (show a = 0 ∨ a = 1 by omega) with rfl | rfl
      · exact ck_0_1_3
      · exact ck_1_1_3
    · rcases (show a = 0 ∨ a = 1 ∨ a = 2 by omega) with rfl | rfl | rfl
      · exact ck_0_2_3
      · exact ck_1_2_3
      · exact ck_2_2_3
    · rcases (show a = 0 ∨ a = 1 ∨ a = 2 ∨ a = 3 by omega) with rfl | rfl | rfl | rfl
      · exact ck_0_3_3
      · exact ck_1_3_3
      · exact ck_2_3_3
      · exact ck_3_3_3
  · rcases (show b = 0 ∨ b = 1 ∨ b = 2 ∨ b = 3 ∨ b = 4 by omega) with rfl | rfl | rfl | rfl | rfl
    · obtain rfl : a = 0 := by omega
      exact ck_0_0_4
    · rcases (show a = 0 ∨ a = 1 by omega) with rfl | rfl
      · exact ck_0_1_4
      · exact ck_1_1_4
    · rcases (show a = 0 ∨ a = 1 ∨ a = 2 by omega) with rfl | rfl | rfl
      · exact ck_0_2_4
      · exact ck_1_2_4
      · exact ck_2_2_4
    · rcases (show a = 0 ∨ a = 1 ∨ a = 2 ∨ a = 3 by omega) with rfl | rfl | rfl | rfl
      · exact ck_0_3_4
      · exact ck_1_3_4
      · exact ck_2_3_4
      · exact ck_3_3_4
    · rcases (show a = 0 ∨ a = 1 ∨ a = 2 ∨ a = 3 ∨ a = 4 by omega) with rfl | rfl | rfl | rfl | rfl
      · exact ck_0_4_4
      · exact ck_1_4_4
      · exact ck_2_4_4
      · exact ck_3_4_4
      · exact ck_4_4_4
  · rcases (show b = 0 ∨ b = 1 ∨ b = 2 ∨ b = 3 ∨ b = 4 ∨ b = 5 by omega) with rfl | rfl | rfl | rfl | rfl | rfl
    · obtain rfl : a = 0 := by omega
      exact ck_0_0_5
    · rcases (show a = 0 ∨ a = 1 by omega) with rfl | rfl
      · exact ck_0_1_5
      · exact ck_1_1_5
    · rcases (show a = 0 ∨ a = 1 ∨ a = 2 by omega) with rfl | rfl | rfl
      · exact ck_0_2_5
      · exact ck_1_2_5
      · exact ck_2_2_5
    · rcases (show a = 0 ∨ a = 1 ∨ a = 2 ∨ a = 3 by omega) with rfl | rfl | rfl | rfl
      · exact ck_0_3_5
      · exact ck_1_3_5
      · exact ck_2_3_5
      · exact ck_3_3_5
    · rcases (show a = 0 ∨ a = 1 ∨ a = 2 ∨ a = 3 ∨ a = 4 by omega) with rfl | rfl | rfl | rfl | rfl
      · exact ck_0_4_5
      · exact ck_1_4_5
      · exact ck_2_4_5
      · exact ck_3_4_5
      · exact ck_4_4_5
    · rcases (show a = 0 ∨ a = 1 ∨ a = 2 ∨ a = 3 ∨ a = 4 ∨ a = 5 by omega) with rfl | rfl | rfl | rfl | rfl | rfl
      · exact ck_0_5_5
      · exact ck_1_5_5
      · exact ck_2_5_5
      · exact ck_3_5_5
      · exact ck_4_5_5
      · exact ck_5_5_5
  · rcases (show b = 0 ∨ b = 1 ∨ b = 2 ∨ b = 3 ∨ b = 4 ∨ b = 5 ∨ b = 6 by omega) with rfl | rfl | rfl | rfl | rfl | rfl | rfl
    · obtain rfl : a = 0 := by omega
      exact ck_0_0_6
    · rcases (show a = 0 ∨ a = 1 by omega) with rfl | rfl
      · exact ck_0_1_6
      · exact ck_1_1_6
    · rcases (show a = 0 ∨ a = 1 ∨ a = 2 by omega) with rfl | rfl | rfl
      · exact ck_0_2_6
      · exact ck_1_2_6
      · exact ck_2_2_6
    · rcases (show a = 0 ∨ a = 1 ∨ a = 2 ∨ a = 3 by omega) with rfl | rfl | rfl | rfl
      · exact ck_0_3_6
      · exact ck_1_3_6
      · exact ck_2_3_6
      · exact ck_3_3_6
    · rcases (show a = 0 ∨ a = 1 ∨ a = 2 ∨ a = 3 ∨ a = 4 by omega) with rfl | rfl | rfl | rfl | rfl
      · exact ck_0_4_6
      · exact ck_1_4_6
      · exact ck_2_4_6
      · exact ck_3_4_6
      · exact ck_4_4_6
    · rcases (show a = 0 ∨ a = 1 ∨ a = 2 ∨ a = 3 ∨ a = 4 ∨ a = 5 by omega) with rfl | rfl | rfl | rfl | rfl | rfl
      · exact ck_0_5_6
      · exact ck_1_5_6
      · exact ck_2_5_6
      · exact ck_3_5_6
      · exact ck_4_5_6
      · exact ck_5_5_6
    · rcases (show a = 0 ∨ a = 1 ∨ a = 2 ∨ a = 3 ∨ a = 4 ∨ a = 5 ∨ a = 6 by omega) with rfl | rfl | rfl | rfl | rfl | rfl | rfl
      · exact ck_0_6_6
      · exact ck_1_6_6
      · exact ck_2_6_6
      · exact ck_3_6_6
      · exact ck_4_6_6
      · exact ck_5_6_6
      · exact ck_6_6_6
  · rcases (show b = 0 ∨ b = 1 ∨ b = 2 ∨ b = 3 ∨ b = 4 ∨ b = 5 ∨ b = 6 ∨ b = 7 by omega) with rfl | rfl | rfl | rfl | rfl | rfl | rfl | rfl
    · obtain rfl : a = 0 := by omega
      exact ck_0_0_7
    · rcases (show a = 0 ∨ a = 1 by omega) with rfl | rfl
      · exact ck_0_1_7
      · exact ck_1_1_7
    · rcases (show a = 0 ∨ a = 1 ∨ a = 2 by omega) with rfl | rfl | rfl
      · exact ck_0_2_7
      · exact ck_1_2_7
      · exact ck_2_2_7
    · rcases (show a = 0 ∨ a = 1 ∨ a = 2 ∨ a = 3 by omega) with rfl | rfl | rfl | rfl
      · exact ck_0_3_7
      · exact ck_1_3_7
      · exact ck_2_3_7
      · exact ck_3_3_7
    · rcases (show a = 0 ∨ a = 1 ∨ a = 2 ∨ a = 3 ∨ a = 4 by omega) with rfl | rfl | rfl | rfl | rfl
      · exact ck_0_4_7
      · exact ck_1_4_7
      · exact ck_2_4_7
      · exact ck_3_4_7
      · exact ck_4_4_7
    · rcases (show a = 0 ∨ a = 1 ∨ a = 2 ∨ a = 3 ∨ a = 4 ∨ a = 5 by omega) with rfl | rfl | rfl | rfl | rfl | rfl
      · exact ck_0_5_7
      · exact ck_1_5_7
      · exact ck_2_5_7
      · exact ck_3_5_7
      · exact ck_4_5_7
      · exact ck_5_5_7
    · rcases (show a = 0 ∨ a = 1 ∨ a = 2 ∨ a = 3 ∨ a = 4 ∨ a = 5 ∨ a = 6 by omega) with rfl | rfl | rfl | rfl | rfl | rfl | rfl
      · exact ck_0_6_7
      · exact ck_1_6_7
      · exact ck_2_6_7
      · exact ck_3_6_7
      · exact ck_4_6_7
      · exact ck_5_6_7
      · exact ck_6_6_7
    · rcases (show a = 0 ∨ a = 1 ∨ a = 2 ∨ a = 3 ∨ a = 4 ∨ a = 5 ∨ a = 6 ∨ a = 7 by omega) with rfl | rfl | rfl | rfl | rfl | rfl | rfl | rfl
      · exact ck_0_7_7
      · exact ck_1_7_7
      · exact ck_2_7_7
      · exact ck_3_7_7
      · exact ck_4_7_7
      · exact ck_5_7_7
      · exact ck_6_7_7
      · exact ck_7_7_7
theorem six_nine (u : Nat → Nat → Int) (h : Bits 6 u) : (dt 6 u).natAbs ≤ 9 := six_all ck_all _ u rfl h
