def fsX0 (am gm : Nat → Nat) (t : St) : List Value := [.ref (am 2005), .ref (am 2008), .int (gI t 2), .int (gI t 3), .int (gI t 4), .int (gI t 5), .int (gI t 6), .ref (gm 7), .ref (gm 8), .ref (gm 9), .ref (gm 10), .ref (gm 11), .ref (gm 12), .ref (am 13), .ref (am 14)]
def fsX1 (am gm : Nat → Nat) (t : St) : List Value := [.ref (am 2005), .ref (am 2006), .ref (am 102), .ref (am 103), .int (gI t 104), .ref (gm 105), .int (gI t 106), .ref (am 107)]
def fsX2 (am gm : Nat → Nat) (t : St) : List Value := [.ref (am 200), .ref (am 201)]
def fsX3 (am gm : Nat → Nat) (t : St) : List Value := [.ref (am 2010), .ref (am 301), .int (gI t 302), .ref (am 303), .ref (am 304), .ref (am 305), .int (gI t 306), .int (gI t 307), .long (gJ t 308), .long (gJ t 309), .long (gJ t 310)]
def fsX4 (am gm : Nat → Nat) (t : St) : List Value := [.ref (am 2008), .ref (am 2000), .int (gI t 402), .ref (gm 403), .ref (gm 404), .ref (gm 405), .ref (gm 406), .ref (gm 407), .int (gI t 408), .int (gI t 409), .int (gI t 410), .int (gI t 411)]
def fsX5 (am gm : Nat → Nat) (t : St) : List Value := [.ref (am 500), .ref (am 501), .ref (am 502)]
def fsX6 (am gm : Nat → Nat) (t : St) : List Value := [.ref (am 600), .int (gI t 601), .ref (am 602), .ref (am 603), .ref (am 604), .ref (am 605), .ref (am 606), .ref (am 607), .ref (gm 608), .int (gI t 609), .int (gI t 610), .ref (am 611), .ref (am 612), .ref (am 613)]
def fsX7 (am gm : Nat → Nat) (t : St) : List Value := [.ref (am 2006), .ref (am 701), .int (gI t 702), .int (gI t 703), .int (gI t 704)]
def fsX8 (am gm : Nat → Nat) (t : St) : List Value := [.ref (am 2006), .ref (am 801), .ref (am 802), .int (gI t 803), .int (gI t 804), .int (gI t 805), .int (gI t 806), .int (gI t 807), .ref (gm 808), .ref (am 809), .ref (am 810), .ref (am 811), .ref (am 812), .ref (am 813), .ref (am 814)]
def fsX9 (am gm : Nat → Nat) (t : St) : List Value := [.ref (am 2005), .ref (am 901), .ref (am 902), .ref (am 903), .ref (am 904), .int (gI t 905), .ref (gm 906), .ref (am 907)]
def fsX10 (am gm : Nat → Nat) (t : St) : List Value := [.ref (am 2005), .ref (am 2008), .ref (am 1002), .ref (am 1003), .int (gI t 1004), .int (gI t 1005), .ref (am 1006), .int (gI t 1007), .ref (am 1008)]
def fsX11 (am gm : Nat → Nat) (t : St) : List Value := [.ref (am 2005), .ref (am 2006), .ref (am 2007), .ref (am 2008), .ref (am 2010), .ref (am 2002), .ref (am 2000), .ref (am 2004), .ref (am 2003), .ref (am 2001), .ref (am 2009)]
/-- one of the two kept rows -/
def imA (am : Nat → Nat) (j : Nat) : Nat := if j = 0 then am 503 else am 504
def imN (t : St) (j : Nat) : Nat := if j = 0 then gN t 503 else gN t 504
def imG (t : St) (j : Nat) : Nat → Int32 := if j = 0 then gA t 503 else gA t 504
def imS (t : St) (j : Nat) (f : Nat → Int32) : St := if j = 0 then sAr t 503 f else sAr t 504 f
/-- the cells of a GuardNets: its objects, then all rows -/
def wX (cI cJ cZ cR : ClassId) (am gm : Nat → Nat) (t : St) : va_W := [(am 2000, .inr (0, fsX0 am gm t)), (am 2001, .inr (1, fsX1 am gm t)), (am 2002, .inr (2, fsX2 am gm t)), (am 2003, .inr (3, fsX3 am gm t)), (am 2004, .inr (4, fsX4 am gm t)), (am 2005, .inr (5, fsX5 am gm t)), (am 2006, .inr (6, fsX6 am gm t)), (am 2007, .inr (7, fsX7 am gm t)), (am 2008, .inr (8, fsX8 am gm t)), (am 2009, .inr (9, fsX9 am gm t)), (am 2010, .inr (10, fsX10 am gm t)), (am 2011, .inr (11, fsX11 am gm t)), (gm 7, .inl (cI, gN t 7, .inl (gA t 7))), (gm 8, .inl (cI, gN t 8, .inl (gA t 8))), (gm 9, .inl (cI, gN t 9, .inl (gA t 9))), (gm 10, .inl (cI, gN t 10, .inl (gA t 10))), (gm 11, .inl (cI, gN t 11, .inl (gA t 11))), (gm 12, .inl (cI, gN t 12, .inl (gA t 12))), (am 13, .inl (cI, gN t 13, .inl (gA t 13))), (am 14, .inl (cI, gN t 14, .inl (gA t 14))), (am 102, .inl (cI, gN t 102, .inl (gA t 102))), (am 103, .inl (cI, gN t 103, .inl (gA t 103))), (gm 105, .inl (cI, gN t 105, .inl (gA t 105))), (am 107, .inl (cI, gN t 107, .inl (gA t 107))), (am 200, .inl (cI, gN t 200, .inl (gA t 200))), (am 201, .inl (cI, gN t 201, .inl (gA t 201))), (am 301, .inl (cI, gN t 301, .inl (gA t 301))), (am 303, .inl (cJ, gN t 303, .inr (.inl (gB t 303)))), (am 304, .inl (cI, gN t 304, .inl (gA t 304))), (am 305, .inl (cI, gN t 305, .inl (gA t 305))), (gm 403, .inl (cI, gN t 403, .inl (gA t 403))), (gm 404, .inl (cI, gN t 404, .inl (gA t 404))), (gm 405, .inl (cI, gN t 405, .inl (gA t 405))), (gm 406, .inl (cI, gN t 406, .inl (gA t 406))), (gm 407, .inl (cI, gN t 407, .inl (gA t 407))), (am 500, .inl (cI, gN t 500, .inl (gA t 500))), (am 502, .inl (cZ, gN t 502, .inl (gA t 502))), (am 600, .inl (cI, gN t 600, .inl (gA t 600))), (am 602, .inl (cI, gN t 602, .inl (gA t 602))), (am 603, .inl (cI, gN t 603, .inl (gA t 603))), (am 604, .inl (cI, gN t 604, .inl (gA t 604))), (am 605, .inl (cI, gN t 605, .inl (gA t 605))), (am 606, .inl (cI, gN t 606, .inl (gA t 606))), (am 607, .inl (cI, gN t 607, .inl (gA t 607))), (gm 608, .inl (cI, gN t 608, .inl (gA t 608))), (am 611, .inl (cZ, gN t 611, .inl (gA t 611))), (am 612, .inl (cI, gN t 612, .inl (gA t 612))), (am 613, .inl (cI, gN t 613, .inl (gA t 613))), (am 701, .inl (cI, gN t 701, .inl (gA t 701))), (am 801, .inl (cI, gN t 801, .inl (gA t 801))), (am 802, .inl (cI, gN t 802, .inl (gA t 802))), (gm 808, .inl (cJ, gN t 808, .inr (.inl (gB t 808)))), (am 809, .inl (cZ, gN t 809, .inl (gA t 809))), (am 810, .inl (cZ, gN t 810, .inl (gA t 810))), (am 811, .inl (cI, gN t 811, .inl (gA t 811))), (am 812, .inl (cI, gN t 812, .inl (gA t 812))), (am 813, .inl (cI, gN t 813, .inl (gA t 813))), (am 814, .inl (cJ, gN t 814, .inr (.inl (gB t 814)))), (am 901, .inl (cI, gN t 901, .inl (gA t 901))), (am 902, .inl (cI, gN t 902, .inl (gA t 902))), (am 903, .inl (cI, gN t 903, .inl (gA t 903))), (am 904, .inl (cI, gN t 904, .inl (gA t 904))), (gm 906, .inl (cI, gN t 906, .inl (gA t 906))), (am 907, .inl (cI, gN t 907, .inl (gA t 907))), (am 1002, .inl (cI, gN t 1002, .inl (gA t 1002))), (am 1003, .inl (cI, gN t 1003, .inl (gA t 1003))), (am 1006, .inl (cI, gN t 1006, .inl (gA t 1006))), (am 1008, .inl (cI, gN t 1008, .inl (gA t 1008))), (am 503, .inl (cI, gN t 503, .inl (gA t 503))), (am 504, .inl (cI, gN t 504, .inl (gA t 504))), (am 501, .inl (cR, 2, .inr (.inr (.inr (.inr (fun j => some (imA am j)))))))]
abbrev tyX (cI cJ cZ cR : ClassId) : List (ClassId × FieldType) := [(cI, .int), (cJ, .long), (cZ, .boolean), (cR, .array .int)]
theorem inA0 : ∀ w ∈ u_ws RX0 TX0 15, w ∈ wsAll := by
  intro w hw
  obtain ⟨k, hk, rfl⟩ := List.mem_map.mp hw
  have hk := List.mem_range.mp hk
  match k, hk with
  | 0, _ => exact kw_402
  | 1, _ => exact kw_404
  | 2, _ => exact kw_406
  | 3, _ => exact kw_408
  | 4, _ => exact kw_410
  | 5, _ => exact kw_412
  | 6, _ => exact kw_414
  | 7, _ => exact kw_416
  | 8, _ => exact kw_418
  | 9, _ => exact kw_420
  | 10, _ => exact kw_422
  | 11, _ => exact kw_424
  | 12, _ => exact kw_426
  | 13, _ => exact kw_428
  | 14, _ => exact kw_430
  | k + 15, h => exact absurd h (by omega)
theorem inA1 : ∀ w ∈ u_ws RX1 TX1 8, w ∈ wsAll := by
  intro w hw
  obtain ⟨k, hk, rfl⟩ := List.mem_map.mp hw
  have hk := List.mem_range.mp hk
  match k, hk with
  | 0, _ => exact kw_542
  | 1, _ => exact kw_544
  | 2, _ => exact kw_546
  | 3, _ => exact kw_548
  | 4, _ => exact kw_550
  | 5, _ => exact kw_552
  | 6, _ => exact kw_554
  | 7, _ => exact kw_556
  | k + 8, h => exact absurd h (by omega)
theorem inA2 : ∀ w ∈ u_ws RX2 TX2 2, w ∈ wsAll := by
  intro w hw
  obtain ⟨k, hk, rfl⟩ := List.mem_map.mp hw
  have hk := List.mem_range.mp hk
  match k, hk with
  | 0, _ => exact kw_371
  | 1, _ => exact kw_373
  | k + 2, h => exact absurd h (by omega)
theorem inA3 : ∀ w ∈ u_ws RX3 TX3 11, w ∈ wsAll := by
  intro w hw
  obtain ⟨k, hk, rfl⟩ := List.mem_map.mp hw
  have hk := List.mem_range.mp hk
  match k, hk with
  | 0, _ => exact kw_504
  | 1, _ => exact kw_506
  | 2, _ => exact kw_508
  | 3, _ => exact kw_510
  | 4, _ => exact kw_512
  | 5, _ => exact kw_514
  | 6, _ => exact kw_516
  | 7, _ => exact kw_518
  | 8, _ => exact kw_520
  | 9, _ => exact kw_522
  | 10, _ => exact kw_524
  | k + 11, h => exact absurd h (by omega)
theorem inA4 : ∀ w ∈ u_ws RX4 TX4 12, w ∈ wsAll := by
  intro w hw
  obtain ⟨k, hk, rfl⟩ := List.mem_map.mp hw
  have hk := List.mem_range.mp hk
  match k, hk with
  | 0, _ => exact kw_459
  | 1, _ => exact kw_461
  | 2, _ => exact kw_463
  | 3, _ => exact kw_465
  | 4, _ => exact kw_467
  | 5, _ => exact kw_469
  | 6, _ => exact kw_471
  | 7, _ => exact kw_473
  | 8, _ => exact kw_475
  | 9, _ => exact kw_477
  | 10, _ => exact kw_479
  | 11, _ => exact kw_481
  | k + 12, h => exact absurd h (by omega)
theorem inA5 : ∀ w ∈ u_ws RX5 TX5 3, w ∈ wsAll := by
  intro w hw
  obtain ⟨k, hk, rfl⟩ := List.mem_map.mp hw
  have hk := List.mem_range.mp hk
  match k, hk with
  | 0, _ => exact kw_160
  | 1, _ => exact kw_162
  | 2, _ => exact kw_164
  | k + 3, h => exact absurd h (by omega)
theorem inA6 : ∀ w ∈ u_ws RX6 TX6 14, w ∈ wsAll := by
  intro w hw
  obtain ⟨k, hk, rfl⟩ := List.mem_map.mp hw
  have hk := List.mem_range.mp hk
  match k, hk with
  | 0, _ => exact kw_211
  | 1, _ => exact kw_213
  | 2, _ => exact kw_215
  | 3, _ => exact kw_217
  | 4, _ => exact kw_219
  | 5, _ => exact kw_221
  | 6, _ => exact kw_223
  | 7, _ => exact kw_225
  | 8, _ => exact kw_227
  | 9, _ => exact kw_229
  | 10, _ => exact kw_231
  | 11, _ => exact kw_233
  | 12, _ => exact kw_235
  | 13, _ => exact kw_237
  | k + 14, h => exact absurd h (by omega)
theorem inA7 : ∀ w ∈ u_ws RX7 TX7 5, w ∈ wsAll := by
  intro w hw
  obtain ⟨k, hk, rfl⟩ := List.mem_map.mp hw
  have hk := List.mem_range.mp hk
  match k, hk with
  | 0, _ => exact kw_252
  | 1, _ => exact kw_254
  | 2, _ => exact kw_256
  | 3, _ => exact kw_258
  | 4, _ => exact kw_260
  | k + 5, h => exact absurd h (by omega)
theorem inA8 : ∀ w ∈ u_ws RX8 TX8 15, w ∈ wsAll := by
  intro w hw
  obtain ⟨k, hk, rfl⟩ := List.mem_map.mp hw
  have hk := List.mem_range.mp hk
  match k, hk with
  | 0, _ => exact kw_292
  | 1, _ => exact kw_294
  | 2, _ => exact kw_296
  | 3, _ => exact kw_298
  | 4, _ => exact kw_300
  | 5, _ => exact kw_302
  | 6, _ => exact kw_304
  | 7, _ => exact kw_306
  | 8, _ => exact kw_308
  | 9, _ => exact kw_310
  | 10, _ => exact kw_312
  | 11, _ => exact kw_314
  | 12, _ => exact kw_316
  | 13, _ => exact kw_318
  | 14, _ => exact kw_320
  | k + 15, h => exact absurd h (by omega)
theorem inA9 : ∀ w ∈ u_ws RX9 TX9 8, w ∈ wsAll := by
  intro w hw
  obtain ⟨k, hk, rfl⟩ := List.mem_map.mp hw
  have hk := List.mem_range.mp hk
  match k, hk with
  | 0, _ => exact kw_574
  | 1, _ => exact kw_576
  | 2, _ => exact kw_578
  | 3, _ => exact kw_580
  | 4, _ => exact kw_582
  | 5, _ => exact kw_584
  | 6, _ => exact kw_586
  | 7, _ => exact kw_588
  | k + 8, h => exact absurd h (by omega)
theorem inA10 : ∀ w ∈ u_ws RX10 TX10 9, w ∈ wsAll := by
  intro w hw
  obtain ⟨k, hk, rfl⟩ := List.mem_map.mp hw
  have hk := List.mem_range.mp hk
  match k, hk with
  | 0, _ => exact kw_344
  | 1, _ => exact kw_346
  | 2, _ => exact kw_348
  | 3, _ => exact kw_350
  | 4, _ => exact kw_352
  | 5, _ => exact kw_354
  | 6, _ => exact kw_356
  | 7, _ => exact kw_358
  | 8, _ => exact kw_360
  | k + 9, h => exact absurd h (by omega)
theorem inA11 : ∀ w ∈ u_ws RX11 TX11 11, w ∈ wsAll := by
  intro w hw
  obtain ⟨k, hk, rfl⟩ := List.mem_map.mp hw
  have hk := List.mem_range.mp hk
  match k, hk with
  | 0, _ => exact kw_602
  | 1, _ => exact kw_604
  | 2, _ => exact kw_606
  | 3, _ => exact kw_608
  | 4, _ => exact kw_610
  | 5, _ => exact kw_612
  | 6, _ => exact kw_614
  | 7, _ => exact kw_616
  | 8, _ => exact kw_618
  | 9, _ => exact kw_620
  | 10, _ => exact kw_622
  | k + 11, h => exact absurd h (by omega)
