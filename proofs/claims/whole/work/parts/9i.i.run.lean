/-! Six by six noughts and ones: the runs. -/
theorem ck_5_6_6 : ck3 5 6 6 = true := by decide +kernel
