theorem genlen_0 : (lexP 0 (List.range 0)).length < 2 := by decide +kernel
theorem genlen_1 : (lexP 1 (List.range 1)).length < 2 := by decide +kernel
theorem genlen_2 : (lexP 2 (List.range 2)).length < 3 := by decide +kernel
theorem genlen_3 : (lexP 3 (List.range 3)).length < 7 := by decide +kernel
theorem genlen_4 : (lexP 4 (List.range 4)).length < 25 := by decide +kernel
theorem genlen_5 : (lexP 5 (List.range 5)).length < 121 := by decide +kernel
theorem genlen_6 : (lexP 6 (List.range 6)).length < 721 := by decide +kernel
theorem genlen_7 : (lexP 7 (List.range 7)).length < 5041 := by decide +kernel
