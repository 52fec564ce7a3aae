/-! All orders come, one behind the other. -/
set_option maxRecDepth 100000 in
set_option maxHeartbeats 4000000 in
theorem gen_0 : genL 0 2 (List.range 0) = lexP 0 (List.range 0) := by decide +kernel
set_option maxRecDepth 100000 in
set_option maxHeartbeats 4000000 in
theorem gen_1 : genL 1 2 (List.range 1) = lexP 1 (List.range 1) := by decide +kernel
set_option maxRecDepth 100000 in
set_option maxHeartbeats 4000000 in
theorem gen_2 : genL 2 3 (List.range 2) = lexP 2 (List.range 2) := by decide +kernel
set_option maxRecDepth 100000 in
set_option maxHeartbeats 4000000 in
theorem gen_3 : genL 3 7 (List.range 3) = lexP 3 (List.range 3) := by decide +kernel
set_option maxRecDepth 100000 in
set_option maxHeartbeats 4000000 in
theorem gen_4 : genL 4 25 (List.range 4) = lexP 4 (List.range 4) := by decide +kernel
set_option maxRecDepth 100000 in
set_option maxHeartbeats 4000000 in
theorem gen_5 : genL 5 121 (List.range 5) = lexP 5 (List.range 5) := by decide +kernel
set_option maxRecDepth 100000 in
set_option maxHeartbeats 4000000 in
theorem gen_6 : genL 6 721 (List.range 6) = lexP 6 (List.range 6) := by decide +kernel
set_option maxRecDepth 100000 in
set_option maxHeartbeats 4000000 in
theorem gen_7 : genL 7 5041 (List.range 7) = lexP 7 (List.range 7) := by decide +kernel
