theorem kw_0 : (Jvm.Cond.selects "GuardNets$Reader" ({ cls := "GuardNets$Reader", name := "readRow", desc := "(II)I" } : Jvm.MethodName) ({ cls := "GuardNets$Reader", name := "readRow", desc := "(II)I" } : Jvm.MethodName)) ∈ wsAll := wA_mem 0 (by decide +kernel) rfl
theorem kw_1 : (Jvm.Cond.selects "GuardNets$Reader" ({ cls := "GuardNets$Reader", name := "readInRow", desc := "(II)I" } : Jvm.MethodName) ({ cls := "GuardNets$Reader", name := "readInRow", desc := "(II)I" } : Jvm.MethodName)) ∈ wsAll := wA_mem 1 (by decide +kernel) rfl
theorem kw_2 : (Jvm.Cond.selects "GuardNets$Reader" ({ cls := "GuardNets$Reader", name := "readPart", desc := "(I)I" } : Jvm.MethodName) ({ cls := "GuardNets$Reader", name := "readPart", desc := "(I)I" } : Jvm.MethodName)) ∈ wsAll := wA_mem 2 (by decide +kernel) rfl
theorem kw_3 : (Jvm.Cond.selects "GuardNets$Reader" ({ cls := "GuardNets$Reader", name := "next", desc := "()I" } : Jvm.MethodName) ({ cls := "GuardNets$Reader", name := "next", desc := "()I" } : Jvm.MethodName)) ∈ wsAll := wA_mem 3 (by decide +kernel) rfl
theorem kw_4 : (Jvm.Cond.selects "GuardNets$Nets" ({ cls := "GuardNets$Nets", name := "addKnot", desc := "(IIII)I" } : Jvm.MethodName) ({ cls := "GuardNets$Nets", name := "addKnot", desc := "(IIII)I" } : Jvm.MethodName)) ∈ wsAll := wA_mem 4 (by decide +kernel) rfl
theorem kw_5 : (Jvm.Cond.selects "GuardNets$Reader" ({ cls := "GuardNets$Reader", name := "readDigit", desc := "(I)I" } : Jvm.MethodName) ({ cls := "GuardNets$Reader", name := "readDigit", desc := "(I)I" } : Jvm.MethodName)) ∈ wsAll := wA_mem 5 (by decide +kernel) rfl
theorem kw_6 : (Jvm.Cond.selects "GuardNets$Reader" ({ cls := "GuardNets$Reader", name := "refuse", desc := "(II)I" } : Jvm.MethodName) ({ cls := "GuardNets$Reader", name := "refuse", desc := "(II)I" } : Jvm.MethodName)) ∈ wsAll := wA_mem 6 (by decide +kernel) rfl
theorem kw_7 : (Jvm.Cond.selects "GuardNets$Reader" ({ cls := "GuardNets$Reader", name := "refuseHere", desc := "()I" } : Jvm.MethodName) ({ cls := "GuardNets$Reader", name := "refuseHere", desc := "()I" } : Jvm.MethodName)) ∈ wsAll := wA_mem 7 (by decide +kernel) rfl
theorem kw_8 : (Jvm.Cond.selects "GuardNets$Reader" ({ cls := "GuardNets$Reader", name := "readInside", desc := "(I)I" } : Jvm.MethodName) ({ cls := "GuardNets$Reader", name := "readInside", desc := "(I)I" } : Jvm.MethodName)) ∈ wsAll := wA_mem 8 (by decide +kernel) rfl
theorem kw_9 : (Jvm.Cond.selects "GuardNets$Reader" ({ cls := "GuardNets$Reader", name := "closes", desc := "(I)Z" } : Jvm.MethodName) ({ cls := "GuardNets$Reader", name := "closes", desc := "(I)Z" } : Jvm.MethodName)) ∈ wsAll := wA_mem 9 (by decide +kernel) rfl
theorem kw_10 : (Jvm.Cond.selects "GuardNets$Reader" ({ cls := "GuardNets$Reader", name := "readSome", desc := "(I)I" } : Jvm.MethodName) ({ cls := "GuardNets$Reader", name := "readSome", desc := "(I)I" } : Jvm.MethodName)) ∈ wsAll := wA_mem 10 (by decide +kernel) rfl
theorem kw_11 : (Jvm.Cond.selects "GuardNets$Reader" ({ cls := "GuardNets$Reader", name := "hold", desc := "(I)V" } : Jvm.MethodName) ({ cls := "GuardNets$Reader", name := "hold", desc := "(I)V" } : Jvm.MethodName)) ∈ wsAll := wA_mem 11 (by decide +kernel) rfl
theorem kw_12 : (Jvm.Cond.selects "GuardNets$Nets" ({ cls := "GuardNets$Nets", name := "knotIsOn", desc := "(II)Z" } : Jvm.MethodName) ({ cls := "GuardNets$Nets", name := "knotIsOn", desc := "(II)Z" } : Jvm.MethodName)) ∈ wsAll := wA_mem 12 (by decide +kernel) rfl
theorem kw_13 : (Jvm.Cond.selects "GuardNets$Tables" ({ cls := "GuardNets$Tables", name := "rankSteps", desc := "(I)V" } : Jvm.MethodName) ({ cls := "GuardNets$Tables", name := "rankSteps", desc := "(I)V" } : Jvm.MethodName)) ∈ wsAll := wA_mem 13 (by decide +kernel) rfl
theorem kw_14 : (Jvm.Cond.selects "GuardNets$Tables" ({ cls := "GuardNets$Tables", name := "fillStep", desc := "(I)V" } : Jvm.MethodName) ({ cls := "GuardNets$Tables", name := "fillStep", desc := "(I)V" } : Jvm.MethodName)) ∈ wsAll := wA_mem 14 (by decide +kernel) rfl
theorem kw_15 : (Jvm.Cond.selects "GuardNets$Tables" ({ cls := "GuardNets$Tables", name := "markNeeded", desc := "()V" } : Jvm.MethodName) ({ cls := "GuardNets$Tables", name := "markNeeded", desc := "()V" } : Jvm.MethodName)) ∈ wsAll := wA_mem 15 (by decide +kernel) rfl
theorem kw_16 : (Jvm.Cond.selects "GuardNets$Tables" ({ cls := "GuardNets$Tables", name := "fillKnot", desc := "(I)V" } : Jvm.MethodName) ({ cls := "GuardNets$Tables", name := "fillKnot", desc := "(I)V" } : Jvm.MethodName)) ∈ wsAll := wA_mem 16 (by decide +kernel) rfl
theorem kw_17 : (Jvm.Cond.selects "GuardNets$Tables" ({ cls := "GuardNets$Tables", name := "fillSome", desc := "(I)V" } : Jvm.MethodName) ({ cls := "GuardNets$Tables", name := "fillSome", desc := "(I)V" } : Jvm.MethodName)) ∈ wsAll := wA_mem 17 (by decide +kernel) rfl
theorem kw_18 : (Jvm.Cond.selects "GuardNets$Tables" ({ cls := "GuardNets$Tables", name := "fillRow", desc := "(I)V" } : Jvm.MethodName) ({ cls := "GuardNets$Tables", name := "fillRow", desc := "(I)V" } : Jvm.MethodName)) ∈ wsAll := wA_mem 18 (by decide +kernel) rfl
theorem kw_19 : (Jvm.Cond.selects "GuardNets$Tables" ({ cls := "GuardNets$Tables", name := "countLeast", desc := "(I)I" } : Jvm.MethodName) ({ cls := "GuardNets$Tables", name := "countLeast", desc := "(I)I" } : Jvm.MethodName)) ∈ wsAll := wA_mem 19 (by decide +kernel) rfl
theorem kw_20 : (Jvm.Cond.selects "GuardNets$Ways" ({ cls := "GuardNets$Ways", name := "findAll", desc := "()I" } : Jvm.MethodName) ({ cls := "GuardNets$Ways", name := "findAll", desc := "()I" } : Jvm.MethodName)) ∈ wsAll := wA_mem 20 (by decide +kernel) rfl
theorem kw_21 : (Jvm.Cond.selects "GuardNets$Ways" ({ cls := "GuardNets$Ways", name := "sortBySize", desc := "(I)V" } : Jvm.MethodName) ({ cls := "GuardNets$Ways", name := "sortBySize", desc := "(I)V" } : Jvm.MethodName)) ∈ wsAll := wA_mem 21 (by decide +kernel) rfl
theorem kw_22 : (Jvm.Cond.selects "GuardNets$Nets" ({ cls := "GuardNets$Nets", name := "rowTime", desc := "(I)I" } : Jvm.MethodName) ({ cls := "GuardNets$Nets", name := "rowTime", desc := "(I)I" } : Jvm.MethodName)) ∈ wsAll := wA_mem 22 (by decide +kernel) rfl
theorem kw_23 : (Jvm.Cond.selects "GuardNets$Nets" ({ cls := "GuardNets$Nets", name := "someTime", desc := "(I)I" } : Jvm.MethodName) ({ cls := "GuardNets$Nets", name := "someTime", desc := "(I)I" } : Jvm.MethodName)) ∈ wsAll := wA_mem 23 (by decide +kernel) rfl
theorem kw_24 : (Jvm.Cond.selects "GuardNets$Diagram" ({ cls := "GuardNets$Diagram", name := "makeRoom", desc := "(I)V" } : Jvm.MethodName) ({ cls := "GuardNets$Diagram", name := "makeRoom", desc := "(I)V" } : Jvm.MethodName)) ∈ wsAll := wA_mem 24 (by decide +kernel) rfl
theorem kw_25 : (Jvm.Cond.selects "GuardNets$Diagram" ({ cls := "GuardNets$Diagram", name := "nodeFor", desc := "(III)I" } : Jvm.MethodName) ({ cls := "GuardNets$Diagram", name := "nodeFor", desc := "(III)I" } : Jvm.MethodName)) ∈ wsAll := wA_mem 25 (by decide +kernel) rfl
theorem kw_26 : (Jvm.Cond.selects "GuardNets$Diagram" ({ cls := "GuardNets$Diagram", name := "workSets", desc := "()V" } : Jvm.MethodName) ({ cls := "GuardNets$Diagram", name := "workSets", desc := "()V" } : Jvm.MethodName)) ∈ wsAll := wA_mem 26 (by decide +kernel) rfl
theorem kw_27 : (Jvm.Cond.selects "GuardNets$Guards" ({ cls := "GuardNets$Guards", name := "isCheaper", desc := "(II)Z" } : Jvm.MethodName) ({ cls := "GuardNets$Guards", name := "isCheaper", desc := "(II)Z" } : Jvm.MethodName)) ∈ wsAll := wA_mem 27 (by decide +kernel) rfl
theorem kw_28 : (Jvm.Cond.selects "GuardNets$Guards" ({ cls := "GuardNets$Guards", name := "workChances", desc := "()I" } : Jvm.MethodName) ({ cls := "GuardNets$Guards", name := "workChances", desc := "()I" } : Jvm.MethodName)) ∈ wsAll := wA_mem 28 (by decide +kernel) rfl
theorem kw_29 : (Jvm.Cond.selects "GuardNets$Guards" ({ cls := "GuardNets$Guards", name := "hasIdler", desc := "(I)Z" } : Jvm.MethodName) ({ cls := "GuardNets$Guards", name := "hasIdler", desc := "(I)Z" } : Jvm.MethodName)) ∈ wsAll := wA_mem 29 (by decide +kernel) rfl
theorem kw_30 : (Jvm.Cond.selects "GuardNets$Guards" ({ cls := "GuardNets$Guards", name := "sort", desc := "(I)V" } : Jvm.MethodName) ({ cls := "GuardNets$Guards", name := "sort", desc := "(I)V" } : Jvm.MethodName)) ∈ wsAll := wA_mem 30 (by decide +kernel) rfl
theorem kw_31 : (Jvm.Cond.selects "GuardNets$Guards" ({ cls := "GuardNets$Guards", name := "pickFront", desc := "(I)V" } : Jvm.MethodName) ({ cls := "GuardNets$Guards", name := "pickFront", desc := "(I)V" } : Jvm.MethodName)) ∈ wsAll := wA_mem 31 (by decide +kernel) rfl
theorem kw_32 : (Jvm.Cond.selects "GuardNets$Game" ({ cls := "GuardNets$Game", name := "layOut", desc := "()V" } : Jvm.MethodName) ({ cls := "GuardNets$Game", name := "layOut", desc := "()V" } : Jvm.MethodName)) ∈ wsAll := wA_mem 32 (by decide +kernel) rfl
theorem kw_33 : (Jvm.Cond.selects "GuardNets$Game" ({ cls := "GuardNets$Game", name := "greatestCatch", desc := "(II)I" } : Jvm.MethodName) ({ cls := "GuardNets$Game", name := "greatestCatch", desc := "(II)I" } : Jvm.MethodName)) ∈ wsAll := wA_mem 33 (by decide +kernel) rfl
theorem kw_34 : (Jvm.Cond.selects "GuardNets$Game" ({ cls := "GuardNets$Game", name := "enteringColumn", desc := "()I" } : Jvm.MethodName) ({ cls := "GuardNets$Game", name := "enteringColumn", desc := "()I" } : Jvm.MethodName)) ∈ wsAll := wA_mem 34 (by decide +kernel) rfl
theorem kw_35 : (Jvm.Cond.selects "GuardNets$Game" ({ cls := "GuardNets$Game", name := "leavingRow", desc := "(I)I" } : Jvm.MethodName) ({ cls := "GuardNets$Game", name := "leavingRow", desc := "(I)I" } : Jvm.MethodName)) ∈ wsAll := wA_mem 35 (by decide +kernel) rfl
theorem kw_36 : (Jvm.Cond.selects "GuardNets$Game" ({ cls := "GuardNets$Game", name := "isTighter", desc := "(III)Z" } : Jvm.MethodName) ({ cls := "GuardNets$Game", name := "isTighter", desc := "(III)Z" } : Jvm.MethodName)) ∈ wsAll := wA_mem 36 (by decide +kernel) rfl
theorem kw_37 : (Jvm.Cond.selects "GuardNets$Game" ({ cls := "GuardNets$Game", name := "turn", desc := "(II)V" } : Jvm.MethodName) ({ cls := "GuardNets$Game", name := "turn", desc := "(II)V" } : Jvm.MethodName)) ∈ wsAll := wA_mem 37 (by decide +kernel) rfl
theorem kw_38 : (Jvm.Cond.selects "GuardNets$Drill" ({ cls := "GuardNets$Drill", name := "knotEvent", desc := "(II)I" } : Jvm.MethodName) ({ cls := "GuardNets$Drill", name := "knotEvent", desc := "(II)I" } : Jvm.MethodName)) ∈ wsAll := wA_mem 38 (by decide +kernel) rfl
theorem kw_39 : (Jvm.Cond.selects "GuardNets$Drill" ({ cls := "GuardNets$Drill", name := "letterEvent", desc := "(II)I" } : Jvm.MethodName) ({ cls := "GuardNets$Drill", name := "letterEvent", desc := "(II)I" } : Jvm.MethodName)) ∈ wsAll := wA_mem 39 (by decide +kernel) rfl
theorem kw_40 : (Jvm.Cond.selects "GuardNets$Drill" ({ cls := "GuardNets$Drill", name := "firstEvent", desc := "(II)I" } : Jvm.MethodName) ({ cls := "GuardNets$Drill", name := "firstEvent", desc := "(II)I" } : Jvm.MethodName)) ∈ wsAll := wA_mem 40 (by decide +kernel) rfl
theorem kw_41 : (Jvm.Cond.selects "GuardNets$Drill" ({ cls := "GuardNets$Drill", name := "partEvent", desc := "(III)I" } : Jvm.MethodName) ({ cls := "GuardNets$Drill", name := "partEvent", desc := "(III)I" } : Jvm.MethodName)) ∈ wsAll := wA_mem 41 (by decide +kernel) rfl
theorem kw_42 : (Jvm.Cond.selects "GuardNets$Drill" ({ cls := "GuardNets$Drill", name := "chainEvent", desc := "(II)I" } : Jvm.MethodName) ({ cls := "GuardNets$Drill", name := "chainEvent", desc := "(II)I" } : Jvm.MethodName)) ∈ wsAll := wA_mem 42 (by decide +kernel) rfl
theorem kw_43 : (Jvm.Cond.selects "GuardNets$Drill" ({ cls := "GuardNets$Drill", name := "lastEvent", desc := "(II)I" } : Jvm.MethodName) ({ cls := "GuardNets$Drill", name := "lastEvent", desc := "(II)I" } : Jvm.MethodName)) ∈ wsAll := wA_mem 43 (by decide +kernel) rfl
theorem kw_44 : (Jvm.Cond.selects "GuardNets$Drill" ({ cls := "GuardNets$Drill", name := "someEvent", desc := "(II)I" } : Jvm.MethodName) ({ cls := "GuardNets$Drill", name := "someEvent", desc := "(II)I" } : Jvm.MethodName)) ∈ wsAll := wA_mem 44 (by decide +kernel) rfl
theorem kw_45 : (Jvm.Cond.selects "GuardNets$Watch" ({ cls := "GuardNets$Watch", name := "placeOf", desc := "(II)I" } : Jvm.MethodName) ({ cls := "GuardNets$Watch", name := "placeOf", desc := "(II)I" } : Jvm.MethodName)) ∈ wsAll := wA_mem 45 (by decide +kernel) rfl
theorem kw_46 : (Jvm.Cond.selects "GuardNets$Watch" ({ cls := "GuardNets$Watch", name := "prepare", desc := "(II)V" } : Jvm.MethodName) ({ cls := "GuardNets$Watch", name := "prepare", desc := "(II)V" } : Jvm.MethodName)) ∈ wsAll := wA_mem 46 (by decide +kernel) rfl
theorem kw_47 : (Jvm.Cond.selects "GuardNets$Watch" ({ cls := "GuardNets$Watch", name := "lookRound", desc := "(I)V" } : Jvm.MethodName) ({ cls := "GuardNets$Watch", name := "lookRound", desc := "(I)V" } : Jvm.MethodName)) ∈ wsAll := wA_mem 47 (by decide +kernel) rfl
theorem kw_48 : (Jvm.Cond.selects "GuardNets$Watch" ({ cls := "GuardNets$Watch", name := "findEnds", desc := "(II)V" } : Jvm.MethodName) ({ cls := "GuardNets$Watch", name := "findEnds", desc := "(II)V" } : Jvm.MethodName)) ∈ wsAll := wA_mem 48 (by decide +kernel) rfl
theorem kw_49 : (Jvm.Cond.selects "GuardNets$Watch" ({ cls := "GuardNets$Watch", name := "soonestEnd", desc := "(II)I" } : Jvm.MethodName) ({ cls := "GuardNets$Watch", name := "soonestEnd", desc := "(II)I" } : Jvm.MethodName)) ∈ wsAll := wA_mem 49 (by decide +kernel) rfl
theorem kw_50 : (Jvm.Cond.selects "GuardNets$Watch" ({ cls := "GuardNets$Watch", name := "firstToGo", desc := "(III)I" } : Jvm.MethodName) ({ cls := "GuardNets$Watch", name := "firstToGo", desc := "(III)I" } : Jvm.MethodName)) ∈ wsAll := wA_mem 50 (by decide +kernel) rfl
set_option maxRecDepth 100000 in
theorem kw_122 : (Jvm.Cond.initialized "GuardNets") ∈ wsAll := wT_1 1 rfl rfl
set_option maxRecDepth 100000 in
theorem kw_123 : (Jvm.Cond.initialized "GuardNets$House") ∈ wsAll := wT_1 2 rfl rfl
set_option maxRecDepth 100000 in
theorem kw_124 : (Jvm.Cond.initialized "GuardNets$Nets") ∈ wsAll := wT_1 3 rfl rfl
set_option maxRecDepth 100000 in
theorem kw_125 : (Jvm.Cond.initialized "java/util/Arrays") ∈ wsAll := wT_1 4 rfl rfl
set_option maxRecDepth 100000 in
theorem kw_126 : (Jvm.Cond.initialized "GuardNets$Reader") ∈ wsAll := wT_1 5 rfl rfl
set_option maxRecDepth 100000 in
theorem kw_127 : (Jvm.Cond.initialized "GuardNets$Tables") ∈ wsAll := wT_1 6 rfl rfl
set_option maxRecDepth 100000 in
theorem kw_128 : (Jvm.Cond.initialized "GuardNets$Ways") ∈ wsAll := wT_1 7 rfl rfl
set_option maxRecDepth 100000 in
theorem kw_129 : (Jvm.Cond.initialized "GuardNets$Fraction") ∈ wsAll := wT_1 8 rfl rfl
set_option maxRecDepth 100000 in
theorem kw_130 : (Jvm.Cond.initialized "GuardNets$Diagram") ∈ wsAll := wT_1 9 rfl rfl
set_option maxRecDepth 100000 in
theorem kw_131 : (Jvm.Cond.initialized "GuardNets$Guards") ∈ wsAll := wT_1 10 rfl rfl
set_option maxRecDepth 100000 in
theorem kw_132 : (Jvm.Cond.initialized "GuardNets$Game") ∈ wsAll := wT_1 11 rfl rfl
set_option maxRecDepth 100000 in
theorem kw_133 : (Jvm.Cond.initialized "GuardNets$Drill") ∈ wsAll := wT_1 12 rfl rfl
set_option maxRecDepth 100000 in
theorem kw_134 : (Jvm.Cond.initialized "GuardNets$Watch") ∈ wsAll := wT_1 13 rfl rfl
set_option maxRecDepth 100000 in
theorem kw_136 : (Jvm.Cond.initialized "java/lang/Math") ∈ wsAll := wT_1 15 rfl rfl
set_option maxRecDepth 100000 in
theorem kw_137 : (Jvm.Cond.initialized "java/lang/System") ∈ wsAll := wT_1 16 rfl rfl
set_option maxRecDepth 100000 in
theorem kw_138 : (Jvm.Cond.initialized "java/lang/Long") ∈ wsAll := wT_1 17 rfl rfl
set_option maxRecDepth 100000 in
theorem kw_139 : (Jvm.Cond.initialized "java/lang/Integer") ∈ wsAll := wT_1 18 rfl rfl
set_option maxRecDepth 100000 in
theorem kw_140 : (Jvm.Cond.classLink "GuardNetsLaw" (7 : Nat) "GuardNets") ∈ wsAll := wT_1 19 rfl rfl
set_option maxRecDepth 100000 in
theorem kw_141 : (Jvm.Cond.instantiable "GuardNets" (11 : Nat)) ∈ wsAll := wT_1 20 rfl rfl
set_option maxRecDepth 100000 in
theorem kw_142 : (Jvm.Cond.methodLink "GuardNetsLaw" (9 : Nat) ({ cls := "GuardNets", name := "<init>", desc := "()V" } : Jvm.MethodName)) ∈ wsAll := wT_1 21 rfl rfl
set_option maxRecDepth 100000 in
theorem kw_143 : (Jvm.Cond.instanceMethod ({ cls := "GuardNets", name := "<init>", desc := "()V" } : Jvm.MethodName)) ∈ wsAll := wT_1 22 rfl rfl
set_option maxRecDepth 100000 in
theorem kw_144 : (Jvm.Cond.code ({ cls := "GuardNets", name := "<init>", desc := "()V" } : Jvm.MethodName) prog_1_method_1_code (1 : Nat) (Option.none : Option Jvm.ClassFile.FieldType)) ∈ wsAll := wT_1 23 rfl rfl
set_option maxRecDepth 100000 in
theorem kw_145 : (Jvm.Cond.methodLink "GuardNets" (1 : Nat) ({ cls := "java/lang/Object", name := "<init>", desc := "()V" } : Jvm.MethodName)) ∈ wsAll := wT_1 24 rfl rfl
set_option maxRecDepth 100000 in
theorem kw_146 : (Jvm.Cond.instanceMethod ({ cls := "java/lang/Object", name := "<init>", desc := "()V" } : Jvm.MethodName)) ∈ wsAll := wT_1 25 rfl rfl
set_option maxRecDepth 100000 in
theorem kw_147 : (Jvm.Cond.code ({ cls := "java/lang/Object", name := "<init>", desc := "()V" } : Jvm.MethodName) object_method_1_code (1 : Nat) (Option.none : Option Jvm.ClassFile.FieldType)) ∈ wsAll := wT_1 26 rfl rfl
set_option maxRecDepth 100000 in
theorem kw_148 : (Jvm.Cond.classLink "GuardNets" (7 : Nat) "GuardNets$House") ∈ wsAll := wT_1 27 rfl rfl
set_option maxRecDepth 100000 in
theorem kw_149 : (Jvm.Cond.instantiable "GuardNets$House" (3 : Nat)) ∈ wsAll := wT_1 28 rfl rfl
set_option maxRecDepth 100000 in
theorem kw_150 : (Jvm.Cond.methodLink "GuardNets" (9 : Nat) ({ cls := "GuardNets$House", name := "<init>", desc := "()V" } : Jvm.MethodName)) ∈ wsAll := wT_1 29 rfl rfl
set_option maxRecDepth 100000 in
theorem kw_151 : (Jvm.Cond.instanceMethod ({ cls := "GuardNets$House", name := "<init>", desc := "()V" } : Jvm.MethodName)) ∈ wsAll := wT_1 30 rfl rfl
set_option maxRecDepth 100000 in
theorem kw_152 : (Jvm.Cond.code ({ cls := "GuardNets$House", name := "<init>", desc := "()V" } : Jvm.MethodName) prog_7_method_1_code (2 : Nat) (Option.none : Option Jvm.ClassFile.FieldType)) ∈ wsAll := wT_1 31 rfl rfl
set_option maxRecDepth 100000 in
theorem kw_153 : (Jvm.Cond.methodLink "GuardNets$House" (3 : Nat) ({ cls := "java/lang/Object", name := "<init>", desc := "()V" } : Jvm.MethodName)) ∈ wsAll := wT_1 32 rfl rfl
set_option maxRecDepth 100000 in
theorem kw_154 : (Jvm.Cond.classLink "GuardNets$House" (15 : Nat) "[[I") ∈ wsAll := wT_1 33 rfl rfl
set_option maxRecDepth 100000 in
theorem kw_156 : (Jvm.Cond.fieldLink "GuardNets$House" (11 : Nat) "GuardNets$House" "now" "[I") ∈ wsAll := wT_1 35 rfl rfl
set_option maxRecDepth 100000 in
theorem kw_157 : (Jvm.Cond.fieldLink "GuardNets$House" (17 : Nat) "GuardNets$House" "images" "[[I") ∈ wsAll := wT_1 36 rfl rfl
set_option maxRecDepth 100000 in
theorem kw_158 : (Jvm.Cond.fieldLink "GuardNets$House" (20 : Nat) "GuardNets$House" "kept" "[Z") ∈ wsAll := wT_1 37 rfl rfl
set_option maxRecDepth 100000 in
theorem kw_159 : (Jvm.Cond.fieldLink "GuardNets" (358 : Nat) "GuardNets$House" "kept" "[Z") ∈ wsAll := wT_1 38 rfl rfl
set_option maxRecDepth 100000 in
theorem kw_160 : (Jvm.Cond.laysFinal "GuardNets$House" "GuardNets$House" "now" "[I") ∈ wsAll := wT_1 39 rfl rfl
set_option maxRecDepth 100000 in
theorem kw_162 : (Jvm.Cond.laysFinal "GuardNets$House" "GuardNets$House" "images" "[[I") ∈ wsAll := wT_1 41 rfl rfl
set_option maxRecDepth 100000 in
theorem kw_164 : (Jvm.Cond.laysFinal "GuardNets$House" "GuardNets$House" "kept" "[Z") ∈ wsAll := wT_1 43 rfl rfl
set_option maxRecDepth 100000 in
theorem kw_169 : (Jvm.Cond.classLink "GuardNets" (16 : Nat) "GuardNets$Nets") ∈ wsAll := wT_1 48 rfl rfl
set_option maxRecDepth 100000 in
theorem kw_170 : (Jvm.Cond.instantiable "GuardNets$Nets" (14 : Nat)) ∈ wsAll := wT_1 49 rfl rfl
set_option maxRecDepth 100000 in
theorem kw_171 : (Jvm.Cond.methodLink "GuardNets" (18 : Nat) ({ cls := "GuardNets$Nets", name := "<init>", desc := "()V" } : Jvm.MethodName)) ∈ wsAll := wT_1 50 rfl rfl
set_option maxRecDepth 100000 in
theorem kw_172 : (Jvm.Cond.instanceMethod ({ cls := "GuardNets$Nets", name := "<init>", desc := "()V" } : Jvm.MethodName)) ∈ wsAll := wT_1 51 rfl rfl
set_option maxRecDepth 100000 in
theorem kw_173 : (Jvm.Cond.code ({ cls := "GuardNets$Nets", name := "<init>", desc := "()V" } : Jvm.MethodName) prog_8_method_1_code (1 : Nat) (Option.none : Option Jvm.ClassFile.FieldType)) ∈ wsAll := wT_1 52 rfl rfl
set_option maxRecDepth 100000 in
theorem kw_174 : (Jvm.Cond.methodLink "GuardNets$Nets" (5 : Nat) ({ cls := "java/lang/Object", name := "<init>", desc := "()V" } : Jvm.MethodName)) ∈ wsAll := wT_1 53 rfl rfl
set_option maxRecDepth 100000 in
theorem kw_175 : (Jvm.Cond.methodLink "GuardNets$Nets" (58 : Nat) ({ cls := "java/util/Arrays", name := "fill", desc := "([II)V" } : Jvm.MethodName)) ∈ wsAll := wT_1 54 rfl rfl
set_option maxRecDepth 100000 in
theorem kw_176 : (Jvm.Cond.static ({ cls := "java/util/Arrays", name := "fill", desc := "([II)V" } : Jvm.MethodName)) ∈ wsAll := wT_1 55 rfl rfl
set_option maxRecDepth 100000 in
theorem kw_177 : (Jvm.Cond.code ({ cls := "java/util/Arrays", name := "fill", desc := "([II)V" } : Jvm.MethodName) prog_20_method_103_code (4 : Nat) (Option.none : Option Jvm.ClassFile.FieldType)) ∈ wsAll := wT_1 56 rfl rfl
set_option maxRecDepth 100000 in
theorem kw_178 : (Jvm.Cond.fieldLink "GuardNets$Nets" (11 : Nat) "GuardNets$Nets" "text" "[I") ∈ wsAll := wT_1 57 rfl rfl
set_option maxRecDepth 100000 in
theorem kw_179 : (Jvm.Cond.fieldLink "GuardNets$Reader" (53 : Nat) "GuardNets$Nets" "text" "[I") ∈ wsAll := wT_1 58 rfl rfl
set_option maxRecDepth 100000 in
theorem kw_180 : (Jvm.Cond.fieldLink "GuardNets$Nets" (15 : Nat) "GuardNets$Nets" "length" "I") ∈ wsAll := wT_1 59 rfl rfl
set_option maxRecDepth 100000 in
theorem kw_181 : (Jvm.Cond.fieldLink "GuardNets$Reader" (46 : Nat) "GuardNets$Nets" "length" "I") ∈ wsAll := wT_1 60 rfl rfl
set_option maxRecDepth 100000 in
theorem kw_182 : (Jvm.Cond.fieldLink "GuardNets" (120 : Nat) "GuardNets$Nets" "length" "I") ∈ wsAll := wT_1 61 rfl rfl
set_option maxRecDepth 100000 in
theorem kw_183 : (Jvm.Cond.fieldLink "GuardNets$Nets" (19 : Nat) "GuardNets$Nets" "roots" "[I") ∈ wsAll := wT_1 62 rfl rfl
set_option maxRecDepth 100000 in
theorem kw_184 : (Jvm.Cond.fieldLink "GuardNets" (134 : Nat) "GuardNets$Nets" "roots" "[I") ∈ wsAll := wT_1 63 rfl rfl
set_option maxRecDepth 100000 in
theorem kw_185 : (Jvm.Cond.fieldLink "GuardNets$Reader" (89 : Nat) "GuardNets$Nets" "roots" "[I") ∈ wsAll := wT_1 64 rfl rfl
set_option maxRecDepth 100000 in
theorem kw_186 : (Jvm.Cond.fieldLink "GuardNets$Nets" (22 : Nat) "GuardNets$Nets" "sorts" "[I") ∈ wsAll := wT_1 65 rfl rfl
set_option maxRecDepth 100000 in
theorem kw_187 : (Jvm.Cond.fieldLink "GuardNets$Tables" (85 : Nat) "GuardNets$Nets" "sorts" "[I") ∈ wsAll := wT_1 66 rfl rfl
set_option maxRecDepth 100000 in
theorem kw_188 : (Jvm.Cond.fieldLink "GuardNets$Drill" (56 : Nat) "GuardNets$Nets" "sorts" "[I") ∈ wsAll := wT_1 67 rfl rfl
set_option maxRecDepth 100000 in
theorem kw_189 : (Jvm.Cond.fieldLink "GuardNets" (147 : Nat) "GuardNets$Nets" "sorts" "[I") ∈ wsAll := wT_1 68 rfl rfl
set_option maxRecDepth 100000 in
theorem kw_190 : (Jvm.Cond.fieldLink "GuardNets$Nets" (25 : Nat) "GuardNets$Nets" "sizes" "[I") ∈ wsAll := wT_1 69 rfl rfl
set_option maxRecDepth 100000 in
theorem kw_191 : (Jvm.Cond.fieldLink "GuardNets$Tables" (88 : Nat) "GuardNets$Nets" "sizes" "[I") ∈ wsAll := wT_1 70 rfl rfl
set_option maxRecDepth 100000 in
theorem kw_192 : (Jvm.Cond.fieldLink "GuardNets$Drill" (61 : Nat) "GuardNets$Nets" "sizes" "[I") ∈ wsAll := wT_1 71 rfl rfl
set_option maxRecDepth 100000 in
theorem kw_193 : (Jvm.Cond.fieldLink "GuardNets" (150 : Nat) "GuardNets$Nets" "sizes" "[I") ∈ wsAll := wT_1 72 rfl rfl
set_option maxRecDepth 100000 in
theorem kw_194 : (Jvm.Cond.fieldLink "GuardNets$Nets" (28 : Nat) "GuardNets$Nets" "needs" "[I") ∈ wsAll := wT_1 73 rfl rfl
set_option maxRecDepth 100000 in
theorem kw_195 : (Jvm.Cond.fieldLink "GuardNets" (153 : Nat) "GuardNets$Nets" "needs" "[I") ∈ wsAll := wT_1 74 rfl rfl
set_option maxRecDepth 100000 in
theorem kw_196 : (Jvm.Cond.fieldLink "GuardNets$Tables" (117 : Nat) "GuardNets$Nets" "needs" "[I") ∈ wsAll := wT_1 75 rfl rfl
set_option maxRecDepth 100000 in
theorem kw_197 : (Jvm.Cond.fieldLink "GuardNets$Drill" (91 : Nat) "GuardNets$Nets" "needs" "[I") ∈ wsAll := wT_1 76 rfl rfl
set_option maxRecDepth 100000 in
theorem kw_198 : (Jvm.Cond.fieldLink "GuardNets$Nets" (31 : Nat) "GuardNets$Nets" "firsts" "[I") ∈ wsAll := wT_1 77 rfl rfl
set_option maxRecDepth 100000 in
theorem kw_199 : (Jvm.Cond.fieldLink "GuardNets$Nets" (34 : Nat) "GuardNets$Nets" "letters" "[I") ∈ wsAll := wT_1 78 rfl rfl
set_option maxRecDepth 100000 in
theorem kw_200 : (Jvm.Cond.fieldLink "GuardNets$Tables" (72 : Nat) "GuardNets$Nets" "letters" "[I") ∈ wsAll := wT_1 79 rfl rfl
set_option maxRecDepth 100000 in
theorem kw_201 : (Jvm.Cond.fieldLink "GuardNets" (156 : Nat) "GuardNets$Nets" "letters" "[I") ∈ wsAll := wT_1 80 rfl rfl
set_option maxRecDepth 100000 in
theorem kw_202 : (Jvm.Cond.fieldLink "GuardNets$Nets" (37 : Nat) "GuardNets$Nets" "parts" "[I") ∈ wsAll := wT_1 81 rfl rfl
set_option maxRecDepth 100000 in
theorem kw_203 : (Jvm.Cond.fieldLink "GuardNets$Nets" (40 : Nat) "GuardNets$Nets" "knots" "I") ∈ wsAll := wT_1 82 rfl rfl
set_option maxRecDepth 100000 in
theorem kw_204 : (Jvm.Cond.fieldLink "GuardNets$Reader" (29 : Nat) "GuardNets$Nets" "knots" "I") ∈ wsAll := wT_1 83 rfl rfl
set_option maxRecDepth 100000 in
theorem kw_205 : (Jvm.Cond.fieldLink "GuardNets" (138 : Nat) "GuardNets$Nets" "knots" "I") ∈ wsAll := wT_1 84 rfl rfl
set_option maxRecDepth 100000 in
theorem kw_206 : (Jvm.Cond.fieldLink "GuardNets$Nets" (43 : Nat) "GuardNets$Nets" "partsUsed" "I") ∈ wsAll := wT_1 85 rfl rfl
set_option maxRecDepth 100000 in
theorem kw_207 : (Jvm.Cond.fieldLink "GuardNets$Reader" (32 : Nat) "GuardNets$Nets" "partsUsed" "I") ∈ wsAll := wT_1 86 rfl rfl
set_option maxRecDepth 100000 in
theorem kw_208 : (Jvm.Cond.fieldLink "GuardNets$Nets" (46 : Nat) "GuardNets$Nets" "on" "[Z") ∈ wsAll := wT_1 87 rfl rfl
set_option maxRecDepth 100000 in
theorem kw_209 : (Jvm.Cond.fieldLink "GuardNets$Nets" (50 : Nat) "GuardNets$Nets" "times" "[I") ∈ wsAll := wT_1 88 rfl rfl
set_option maxRecDepth 100000 in
theorem kw_210 : (Jvm.Cond.fieldLink "GuardNets$Nets" (55 : Nat) "GuardNets$Nets" "few" "[I") ∈ wsAll := wT_1 89 rfl rfl
set_option maxRecDepth 100000 in
theorem kw_211 : (Jvm.Cond.laysFinal "GuardNets$Nets" "GuardNets$Nets" "text" "[I") ∈ wsAll := wT_1 90 rfl rfl
set_option maxRecDepth 100000 in
theorem kw_213 : (Jvm.Cond.lays "GuardNets$Nets" "GuardNets$Nets" "length" "I") ∈ wsAll := wT_1 92 rfl rfl
set_option maxRecDepth 100000 in
theorem kw_215 : (Jvm.Cond.laysFinal "GuardNets$Nets" "GuardNets$Nets" "roots" "[I") ∈ wsAll := wT_1 94 rfl rfl
set_option maxRecDepth 100000 in
theorem kw_217 : (Jvm.Cond.laysFinal "GuardNets$Nets" "GuardNets$Nets" "sorts" "[I") ∈ wsAll := wT_1 96 rfl rfl
set_option maxRecDepth 100000 in
theorem kw_219 : (Jvm.Cond.laysFinal "GuardNets$Nets" "GuardNets$Nets" "sizes" "[I") ∈ wsAll := wT_1 98 rfl rfl
set_option maxRecDepth 100000 in
theorem kw_221 : (Jvm.Cond.laysFinal "GuardNets$Nets" "GuardNets$Nets" "needs" "[I") ∈ wsAll := wT_1 100 rfl rfl
set_option maxRecDepth 100000 in
theorem kw_223 : (Jvm.Cond.laysFinal "GuardNets$Nets" "GuardNets$Nets" "firsts" "[I") ∈ wsAll := wT_1 102 rfl rfl
set_option maxRecDepth 100000 in
theorem kw_225 : (Jvm.Cond.laysFinal "GuardNets$Nets" "GuardNets$Nets" "letters" "[I") ∈ wsAll := wT_1 104 rfl rfl
set_option maxRecDepth 100000 in
theorem kw_227 : (Jvm.Cond.lays "GuardNets$Nets" "GuardNets$Nets" "parts" "[I") ∈ wsAll := wT_1 106 rfl rfl
set_option maxRecDepth 100000 in
theorem kw_229 : (Jvm.Cond.lays "GuardNets$Nets" "GuardNets$Nets" "knots" "I") ∈ wsAll := wT_1 108 rfl rfl
set_option maxRecDepth 100000 in
theorem kw_231 : (Jvm.Cond.lays "GuardNets$Nets" "GuardNets$Nets" "partsUsed" "I") ∈ wsAll := wT_1 110 rfl rfl
set_option maxRecDepth 100000 in
theorem kw_233 : (Jvm.Cond.laysFinal "GuardNets$Nets" "GuardNets$Nets" "on" "[Z") ∈ wsAll := wT_1 112 rfl rfl
set_option maxRecDepth 100000 in
theorem kw_235 : (Jvm.Cond.laysFinal "GuardNets$Nets" "GuardNets$Nets" "times" "[I") ∈ wsAll := wT_1 114 rfl rfl
set_option maxRecDepth 100000 in
theorem kw_237 : (Jvm.Cond.laysFinal "GuardNets$Nets" "GuardNets$Nets" "few" "[I") ∈ wsAll := wT_1 116 rfl rfl
set_option maxRecDepth 100000 in
theorem kw_240 : (Jvm.Cond.classLink "GuardNets" (23 : Nat) "GuardNets$Reader") ∈ wsAll := wT_1 119 rfl rfl
set_option maxRecDepth 100000 in
theorem kw_241 : (Jvm.Cond.instantiable "GuardNets$Reader" (5 : Nat)) ∈ wsAll := wT_1 120 rfl rfl
set_option maxRecDepth 100000 in
theorem kw_242 : (Jvm.Cond.methodLink "GuardNets" (25 : Nat) ({ cls := "GuardNets$Reader", name := "<init>", desc := "(LGuardNets$Nets;)V" } : Jvm.MethodName)) ∈ wsAll := wT_1 121 rfl rfl
set_option maxRecDepth 100000 in
theorem kw_243 : (Jvm.Cond.instanceMethod ({ cls := "GuardNets$Reader", name := "<init>", desc := "(LGuardNets$Nets;)V" } : Jvm.MethodName)) ∈ wsAll := wT_1 122 rfl rfl
set_option maxRecDepth 100000 in
theorem kw_244 : (Jvm.Cond.code ({ cls := "GuardNets$Reader", name := "<init>", desc := "(LGuardNets$Nets;)V" } : Jvm.MethodName) prog_9_method_1_code (2 : Nat) (Option.none : Option Jvm.ClassFile.FieldType)) ∈ wsAll := wT_1 123 rfl rfl
set_option maxRecDepth 100000 in
theorem kw_245 : (Jvm.Cond.methodLink "GuardNets$Reader" (1 : Nat) ({ cls := "java/lang/Object", name := "<init>", desc := "()V" } : Jvm.MethodName)) ∈ wsAll := wT_1 124 rfl rfl
set_option maxRecDepth 100000 in
theorem kw_246 : (Jvm.Cond.fieldLink "GuardNets$Reader" (25 : Nat) "GuardNets$Reader" "nets" "LGuardNets$Nets;") ∈ wsAll := wT_1 125 rfl rfl
set_option maxRecDepth 100000 in
theorem kw_247 : (Jvm.Cond.fieldLink "GuardNets$Reader" (9 : Nat) "GuardNets$Reader" "waiting" "[I") ∈ wsAll := wT_1 126 rfl rfl
set_option maxRecDepth 100000 in
theorem kw_248 : (Jvm.Cond.fieldLink "GuardNets$Reader" (15 : Nat) "GuardNets$Reader" "top" "I") ∈ wsAll := wT_1 127 rfl rfl
set_option maxRecDepth 100000 in
theorem kw_249 : (Jvm.Cond.fieldLink "GuardNets$Reader" (19 : Nat) "GuardNets$Reader" "place" "I") ∈ wsAll := wT_1 128 rfl rfl
set_option maxRecDepth 100000 in
theorem kw_250 : (Jvm.Cond.fieldLink "GuardNets$Reader" (22 : Nat) "GuardNets$Reader" "fault" "I") ∈ wsAll := wT_1 129 rfl rfl
set_option maxRecDepth 100000 in
theorem kw_251 : (Jvm.Cond.fieldLink "GuardNets" (131 : Nat) "GuardNets$Reader" "fault" "I") ∈ wsAll := wT_1 130 rfl rfl
set_option maxRecDepth 100000 in
theorem kw_252 : (Jvm.Cond.laysFinal "GuardNets$Reader" "GuardNets$Reader" "nets" "LGuardNets$Nets;") ∈ wsAll := wT_1 131 rfl rfl
set_option maxRecDepth 100000 in
theorem kw_254 : (Jvm.Cond.laysFinal "GuardNets$Reader" "GuardNets$Reader" "waiting" "[I") ∈ wsAll := wT_1 133 rfl rfl
set_option maxRecDepth 100000 in
theorem kw_256 : (Jvm.Cond.lays "GuardNets$Reader" "GuardNets$Reader" "top" "I") ∈ wsAll := wT_1 135 rfl rfl
set_option maxRecDepth 100000 in
theorem kw_258 : (Jvm.Cond.lays "GuardNets$Reader" "GuardNets$Reader" "place" "I") ∈ wsAll := wT_1 137 rfl rfl
set_option maxRecDepth 100000 in
theorem kw_260 : (Jvm.Cond.lays "GuardNets$Reader" "GuardNets$Reader" "fault" "I") ∈ wsAll := wT_1 139 rfl rfl
set_option maxRecDepth 100000 in
theorem kw_263 : (Jvm.Cond.classLink "GuardNets" (32 : Nat) "GuardNets$Tables") ∈ wsAll := wT_1 142 rfl rfl
set_option maxRecDepth 100000 in
theorem kw_264 : (Jvm.Cond.instantiable "GuardNets$Tables" (15 : Nat)) ∈ wsAll := wT_1 143 rfl rfl
set_option maxRecDepth 100000 in
theorem kw_265 : (Jvm.Cond.methodLink "GuardNets" (34 : Nat) ({ cls := "GuardNets$Tables", name := "<init>", desc := "(LGuardNets$Nets;)V" } : Jvm.MethodName)) ∈ wsAll := wT_1 144 rfl rfl
set_option maxRecDepth 100000 in
theorem kw_266 : (Jvm.Cond.instanceMethod ({ cls := "GuardNets$Tables", name := "<init>", desc := "(LGuardNets$Nets;)V" } : Jvm.MethodName)) ∈ wsAll := wT_1 145 rfl rfl
set_option maxRecDepth 100000 in
theorem kw_267 : (Jvm.Cond.code ({ cls := "GuardNets$Tables", name := "<init>", desc := "(LGuardNets$Nets;)V" } : Jvm.MethodName) prog_10_method_1_code (2 : Nat) (Option.none : Option Jvm.ClassFile.FieldType)) ∈ wsAll := wT_1 146 rfl rfl
set_option maxRecDepth 100000 in
theorem kw_268 : (Jvm.Cond.methodLink "GuardNets$Tables" (3 : Nat) ({ cls := "java/lang/Object", name := "<init>", desc := "()V" } : Jvm.MethodName)) ∈ wsAll := wT_1 147 rfl rfl
set_option maxRecDepth 100000 in
theorem kw_269 : (Jvm.Cond.fieldLink "GuardNets$Tables" (62 : Nat) "GuardNets$Tables" "nets" "LGuardNets$Nets;") ∈ wsAll := wT_1 148 rfl rfl
set_option maxRecDepth 100000 in
theorem kw_270 : (Jvm.Cond.fieldLink "GuardNets$Tables" (9 : Nat) "GuardNets$Tables" "order" "[I") ∈ wsAll := wT_1 149 rfl rfl
set_option maxRecDepth 100000 in
theorem kw_271 : (Jvm.Cond.fieldLink "GuardNets$Diagram" (104 : Nat) "GuardNets$Tables" "order" "[I") ∈ wsAll := wT_1 150 rfl rfl
set_option maxRecDepth 100000 in
theorem kw_272 : (Jvm.Cond.fieldLink "GuardNets$Tables" (15 : Nat) "GuardNets$Tables" "rank" "[I") ∈ wsAll := wT_1 151 rfl rfl
set_option maxRecDepth 100000 in
theorem kw_273 : (Jvm.Cond.fieldLink "GuardNets$Diagram" (132 : Nat) "GuardNets$Tables" "rank" "[I") ∈ wsAll := wT_1 152 rfl rfl
set_option maxRecDepth 100000 in
theorem kw_274 : (Jvm.Cond.fieldLink "GuardNets$Tables" (18 : Nat) "GuardNets$Tables" "steps" "I") ∈ wsAll := wT_1 153 rfl rfl
set_option maxRecDepth 100000 in
theorem kw_275 : (Jvm.Cond.fieldLink "GuardNets$Diagram" (68 : Nat) "GuardNets$Tables" "steps" "I") ∈ wsAll := wT_1 154 rfl rfl
set_option maxRecDepth 100000 in
theorem kw_276 : (Jvm.Cond.fieldLink "GuardNets$Guards" (95 : Nat) "GuardNets$Tables" "steps" "I") ∈ wsAll := wT_1 155 rfl rfl
set_option maxRecDepth 100000 in
theorem kw_277 : (Jvm.Cond.fieldLink "GuardNets" (212 : Nat) "GuardNets$Tables" "steps" "I") ∈ wsAll := wT_1 156 rfl rfl
set_option maxRecDepth 100000 in
theorem kw_278 : (Jvm.Cond.fieldLink "GuardNets$Tables" (22 : Nat) "GuardNets$Tables" "words" "I") ∈ wsAll := wT_1 157 rfl rfl
set_option maxRecDepth 100000 in
theorem kw_279 : (Jvm.Cond.fieldLink "GuardNets$Ways" (59 : Nat) "GuardNets$Tables" "words" "I") ∈ wsAll := wT_1 158 rfl rfl
set_option maxRecDepth 100000 in
theorem kw_280 : (Jvm.Cond.fieldLink "GuardNets$Tables" (25 : Nat) "GuardNets$Tables" "root" "I") ∈ wsAll := wT_1 159 rfl rfl
set_option maxRecDepth 100000 in
theorem kw_281 : (Jvm.Cond.fieldLink "GuardNets$Tables" (28 : Nat) "GuardNets$Tables" "base" "I") ∈ wsAll := wT_1 160 rfl rfl
set_option maxRecDepth 100000 in
theorem kw_282 : (Jvm.Cond.fieldLink "GuardNets$Ways" (62 : Nat) "GuardNets$Tables" "base" "I") ∈ wsAll := wT_1 161 rfl rfl
set_option maxRecDepth 100000 in
theorem kw_283 : (Jvm.Cond.fieldLink "GuardNets$Tables" (31 : Nat) "GuardNets$Tables" "over" "Z") ∈ wsAll := wT_1 162 rfl rfl
set_option maxRecDepth 100000 in
theorem kw_284 : (Jvm.Cond.fieldLink "GuardNets$Ways" (48 : Nat) "GuardNets$Tables" "over" "Z") ∈ wsAll := wT_1 163 rfl rfl
set_option maxRecDepth 100000 in
theorem kw_285 : (Jvm.Cond.fieldLink "GuardNets$Tables" (35 : Nat) "GuardNets$Tables" "pool" "[J") ∈ wsAll := wT_1 164 rfl rfl
set_option maxRecDepth 100000 in
theorem kw_286 : (Jvm.Cond.fieldLink "GuardNets$Tables" (39 : Nat) "GuardNets$Tables" "busy" "[Z") ∈ wsAll := wT_1 165 rfl rfl
set_option maxRecDepth 100000 in
theorem kw_287 : (Jvm.Cond.fieldLink "GuardNets$Tables" (45 : Nat) "GuardNets$Tables" "needed" "[Z") ∈ wsAll := wT_1 166 rfl rfl
set_option maxRecDepth 100000 in
theorem kw_288 : (Jvm.Cond.fieldLink "GuardNets$Tables" (48 : Nat) "GuardNets$Tables" "lastUse" "[I") ∈ wsAll := wT_1 167 rfl rfl
set_option maxRecDepth 100000 in
theorem kw_289 : (Jvm.Cond.fieldLink "GuardNets$Tables" (51 : Nat) "GuardNets$Tables" "row" "[I") ∈ wsAll := wT_1 168 rfl rfl
set_option maxRecDepth 100000 in
theorem kw_290 : (Jvm.Cond.fieldLink "GuardNets$Tables" (54 : Nat) "GuardNets$Tables" "leasts" "[I") ∈ wsAll := wT_1 169 rfl rfl
set_option maxRecDepth 100000 in
theorem kw_291 : (Jvm.Cond.fieldLink "GuardNets$Tables" (59 : Nat) "GuardNets$Tables" "tally" "[J") ∈ wsAll := wT_1 170 rfl rfl
set_option maxRecDepth 100000 in
theorem kw_292 : (Jvm.Cond.laysFinal "GuardNets$Tables" "GuardNets$Tables" "nets" "LGuardNets$Nets;") ∈ wsAll := wT_1 171 rfl rfl
set_option maxRecDepth 100000 in
theorem kw_294 : (Jvm.Cond.laysFinal "GuardNets$Tables" "GuardNets$Tables" "order" "[I") ∈ wsAll := wT_1 173 rfl rfl
set_option maxRecDepth 100000 in
theorem kw_296 : (Jvm.Cond.laysFinal "GuardNets$Tables" "GuardNets$Tables" "rank" "[I") ∈ wsAll := wT_1 175 rfl rfl
set_option maxRecDepth 100000 in
theorem kw_298 : (Jvm.Cond.lays "GuardNets$Tables" "GuardNets$Tables" "steps" "I") ∈ wsAll := wT_1 177 rfl rfl
set_option maxRecDepth 100000 in
theorem kw_300 : (Jvm.Cond.lays "GuardNets$Tables" "GuardNets$Tables" "words" "I") ∈ wsAll := wT_1 179 rfl rfl
set_option maxRecDepth 100000 in
theorem kw_302 : (Jvm.Cond.lays "GuardNets$Tables" "GuardNets$Tables" "root" "I") ∈ wsAll := wT_1 181 rfl rfl
set_option maxRecDepth 100000 in
theorem kw_304 : (Jvm.Cond.lays "GuardNets$Tables" "GuardNets$Tables" "base" "I") ∈ wsAll := wT_1 183 rfl rfl
set_option maxRecDepth 100000 in
theorem kw_306 : (Jvm.Cond.lays "GuardNets$Tables" "GuardNets$Tables" "over" "Z") ∈ wsAll := wT_1 185 rfl rfl
set_option maxRecDepth 100000 in
theorem kw_308 : (Jvm.Cond.lays "GuardNets$Tables" "GuardNets$Tables" "pool" "[J") ∈ wsAll := wT_1 187 rfl rfl
set_option maxRecDepth 100000 in
theorem kw_310 : (Jvm.Cond.laysFinal "GuardNets$Tables" "GuardNets$Tables" "busy" "[Z") ∈ wsAll := wT_1 189 rfl rfl
set_option maxRecDepth 100000 in
theorem kw_312 : (Jvm.Cond.laysFinal "GuardNets$Tables" "GuardNets$Tables" "needed" "[Z") ∈ wsAll := wT_1 191 rfl rfl
set_option maxRecDepth 100000 in
theorem kw_314 : (Jvm.Cond.laysFinal "GuardNets$Tables" "GuardNets$Tables" "lastUse" "[I") ∈ wsAll := wT_1 193 rfl rfl
set_option maxRecDepth 100000 in
theorem kw_316 : (Jvm.Cond.laysFinal "GuardNets$Tables" "GuardNets$Tables" "row" "[I") ∈ wsAll := wT_1 195 rfl rfl
set_option maxRecDepth 100000 in
theorem kw_318 : (Jvm.Cond.laysFinal "GuardNets$Tables" "GuardNets$Tables" "leasts" "[I") ∈ wsAll := wT_1 197 rfl rfl
set_option maxRecDepth 100000 in
theorem kw_320 : (Jvm.Cond.laysFinal "GuardNets$Tables" "GuardNets$Tables" "tally" "[J") ∈ wsAll := wT_1 199 rfl rfl
set_option maxRecDepth 100000 in
theorem kw_324 : (Jvm.Cond.classLink "GuardNets" (39 : Nat) "GuardNets$Ways") ∈ wsAll := wT_1 203 rfl rfl
set_option maxRecDepth 100000 in
theorem kw_325 : (Jvm.Cond.instantiable "GuardNets$Ways" (9 : Nat)) ∈ wsAll := wT_1 204 rfl rfl
set_option maxRecDepth 100000 in
theorem kw_326 : (Jvm.Cond.methodLink "GuardNets" (41 : Nat) ({ cls := "GuardNets$Ways", name := "<init>", desc := "(LGuardNets$House;LGuardNets$Tables;)V" } : Jvm.MethodName)) ∈ wsAll := wT_1 205 rfl rfl
set_option maxRecDepth 100000 in
theorem kw_327 : (Jvm.Cond.instanceMethod ({ cls := "GuardNets$Ways", name := "<init>", desc := "(LGuardNets$House;LGuardNets$Tables;)V" } : Jvm.MethodName)) ∈ wsAll := wT_1 206 rfl rfl
set_option maxRecDepth 100000 in
theorem kw_328 : (Jvm.Cond.code ({ cls := "GuardNets$Ways", name := "<init>", desc := "(LGuardNets$House;LGuardNets$Tables;)V" } : Jvm.MethodName) prog_12_method_1_code (3 : Nat) (Option.none : Option Jvm.ClassFile.FieldType)) ∈ wsAll := wT_1 207 rfl rfl
set_option maxRecDepth 100000 in
theorem kw_329 : (Jvm.Cond.methodLink "GuardNets$Ways" (3 : Nat) ({ cls := "java/lang/Object", name := "<init>", desc := "()V" } : Jvm.MethodName)) ∈ wsAll := wT_1 208 rfl rfl
set_option maxRecDepth 100000 in
theorem kw_330 : (Jvm.Cond.fieldLink "GuardNets$Ways" (36 : Nat) "GuardNets$Ways" "house" "LGuardNets$House;") ∈ wsAll := wT_1 209 rfl rfl
set_option maxRecDepth 100000 in
theorem kw_331 : (Jvm.Cond.fieldLink "GuardNets$Ways" (40 : Nat) "GuardNets$Ways" "tables" "LGuardNets$Tables;") ∈ wsAll := wT_1 210 rfl rfl
set_option maxRecDepth 100000 in
theorem kw_332 : (Jvm.Cond.fieldLink "GuardNets$Ways" (11 : Nat) "GuardNets$Ways" "list" "[I") ∈ wsAll := wT_1 211 rfl rfl
set_option maxRecDepth 100000 in
theorem kw_333 : (Jvm.Cond.fieldLink "GuardNets$Game" (80 : Nat) "GuardNets$Ways" "list" "[I") ∈ wsAll := wT_1 212 rfl rfl
set_option maxRecDepth 100000 in
theorem kw_334 : (Jvm.Cond.fieldLink "GuardNets" (173 : Nat) "GuardNets$Ways" "list" "[I") ∈ wsAll := wT_1 213 rfl rfl
set_option maxRecDepth 100000 in
theorem kw_335 : (Jvm.Cond.fieldLink "GuardNets$Ways" (17 : Nat) "GuardNets$Ways" "found" "[I") ∈ wsAll := wT_1 214 rfl rfl
set_option maxRecDepth 100000 in
theorem kw_336 : (Jvm.Cond.fieldLink "GuardNets$Ways" (20 : Nat) "GuardNets$Ways" "total" "I") ∈ wsAll := wT_1 215 rfl rfl
set_option maxRecDepth 100000 in
theorem kw_337 : (Jvm.Cond.fieldLink "GuardNets$Game" (71 : Nat) "GuardNets$Ways" "total" "I") ∈ wsAll := wT_1 216 rfl rfl
set_option maxRecDepth 100000 in
theorem kw_338 : (Jvm.Cond.fieldLink "GuardNets" (170 : Nat) "GuardNets$Ways" "total" "I") ∈ wsAll := wT_1 217 rfl rfl
set_option maxRecDepth 100000 in
theorem kw_339 : (Jvm.Cond.fieldLink "GuardNets$Ways" (24 : Nat) "GuardNets$Ways" "root" "I") ∈ wsAll := wT_1 218 rfl rfl
set_option maxRecDepth 100000 in
theorem kw_340 : (Jvm.Cond.fieldLink "GuardNets$Ways" (27 : Nat) "GuardNets$Ways" "given" "[I") ∈ wsAll := wT_1 219 rfl rfl
set_option maxRecDepth 100000 in
theorem kw_341 : (Jvm.Cond.fieldLink "GuardNets$Ways" (30 : Nat) "GuardNets$Ways" "insiders" "I") ∈ wsAll := wT_1 220 rfl rfl
set_option maxRecDepth 100000 in
theorem kw_342 : (Jvm.Cond.fieldLink "GuardNets" (303 : Nat) "GuardNets$Ways" "insiders" "I") ∈ wsAll := wT_1 221 rfl rfl
set_option maxRecDepth 100000 in
theorem kw_343 : (Jvm.Cond.fieldLink "GuardNets$Ways" (33 : Nat) "GuardNets$Ways" "left" "[I") ∈ wsAll := wT_1 222 rfl rfl
set_option maxRecDepth 100000 in
theorem kw_344 : (Jvm.Cond.laysFinal "GuardNets$Ways" "GuardNets$Ways" "house" "LGuardNets$House;") ∈ wsAll := wT_1 223 rfl rfl
set_option maxRecDepth 100000 in
theorem kw_346 : (Jvm.Cond.laysFinal "GuardNets$Ways" "GuardNets$Ways" "tables" "LGuardNets$Tables;") ∈ wsAll := wT_1 225 rfl rfl
set_option maxRecDepth 100000 in
theorem kw_348 : (Jvm.Cond.laysFinal "GuardNets$Ways" "GuardNets$Ways" "list" "[I") ∈ wsAll := wT_1 227 rfl rfl
set_option maxRecDepth 100000 in
theorem kw_350 : (Jvm.Cond.laysFinal "GuardNets$Ways" "GuardNets$Ways" "found" "[I") ∈ wsAll := wT_1 229 rfl rfl
set_option maxRecDepth 100000 in
theorem kw_352 : (Jvm.Cond.lays "GuardNets$Ways" "GuardNets$Ways" "total" "I") ∈ wsAll := wT_1 231 rfl rfl
set_option maxRecDepth 100000 in
theorem kw_354 : (Jvm.Cond.lays "GuardNets$Ways" "GuardNets$Ways" "root" "I") ∈ wsAll := wT_1 233 rfl rfl
set_option maxRecDepth 100000 in
theorem kw_356 : (Jvm.Cond.laysFinal "GuardNets$Ways" "GuardNets$Ways" "given" "[I") ∈ wsAll := wT_1 235 rfl rfl
set_option maxRecDepth 100000 in
theorem kw_358 : (Jvm.Cond.lays "GuardNets$Ways" "GuardNets$Ways" "insiders" "I") ∈ wsAll := wT_1 237 rfl rfl
set_option maxRecDepth 100000 in
theorem kw_360 : (Jvm.Cond.laysFinal "GuardNets$Ways" "GuardNets$Ways" "left" "[I") ∈ wsAll := wT_1 239 rfl rfl
set_option maxRecDepth 100000 in
theorem kw_363 : (Jvm.Cond.classLink "GuardNets" (48 : Nat) "GuardNets$Fraction") ∈ wsAll := wT_2 2 rfl rfl
set_option maxRecDepth 100000 in
theorem kw_364 : (Jvm.Cond.instantiable "GuardNets$Fraction" (2 : Nat)) ∈ wsAll := wT_2 3 rfl rfl
set_option maxRecDepth 100000 in
theorem kw_365 : (Jvm.Cond.methodLink "GuardNets" (50 : Nat) ({ cls := "GuardNets$Fraction", name := "<init>", desc := "()V" } : Jvm.MethodName)) ∈ wsAll := wT_2 4 rfl rfl
set_option maxRecDepth 100000 in
theorem kw_366 : (Jvm.Cond.instanceMethod ({ cls := "GuardNets$Fraction", name := "<init>", desc := "()V" } : Jvm.MethodName)) ∈ wsAll := wT_2 5 rfl rfl
set_option maxRecDepth 100000 in
theorem kw_367 : (Jvm.Cond.code ({ cls := "GuardNets$Fraction", name := "<init>", desc := "()V" } : Jvm.MethodName) prog_4_method_1_code (1 : Nat) (Option.none : Option Jvm.ClassFile.FieldType)) ∈ wsAll := wT_2 6 rfl rfl
set_option maxRecDepth 100000 in
theorem kw_368 : (Jvm.Cond.methodLink "GuardNets$Fraction" (5 : Nat) ({ cls := "java/lang/Object", name := "<init>", desc := "()V" } : Jvm.MethodName)) ∈ wsAll := wT_2 7 rfl rfl
set_option maxRecDepth 100000 in
theorem kw_369 : (Jvm.Cond.fieldLink "GuardNets$Fraction" (11 : Nat) "GuardNets$Fraction" "above" "[I") ∈ wsAll := wT_2 8 rfl rfl
set_option maxRecDepth 100000 in
theorem kw_370 : (Jvm.Cond.fieldLink "GuardNets$Fraction" (15 : Nat) "GuardNets$Fraction" "below" "[I") ∈ wsAll := wT_2 9 rfl rfl
set_option maxRecDepth 100000 in
theorem kw_371 : (Jvm.Cond.laysFinal "GuardNets$Fraction" "GuardNets$Fraction" "above" "[I") ∈ wsAll := wT_2 10 rfl rfl
set_option maxRecDepth 100000 in
theorem kw_373 : (Jvm.Cond.laysFinal "GuardNets$Fraction" "GuardNets$Fraction" "below" "[I") ∈ wsAll := wT_2 12 rfl rfl
set_option maxRecDepth 100000 in
theorem kw_376 : (Jvm.Cond.classLink "GuardNets" (55 : Nat) "GuardNets$Diagram") ∈ wsAll := wT_2 15 rfl rfl
set_option maxRecDepth 100000 in
theorem kw_377 : (Jvm.Cond.instantiable "GuardNets$Diagram" (15 : Nat)) ∈ wsAll := wT_2 16 rfl rfl
set_option maxRecDepth 100000 in
theorem kw_378 : (Jvm.Cond.methodLink "GuardNets" (57 : Nat) ({ cls := "GuardNets$Diagram", name := "<init>", desc := "(LGuardNets$House;LGuardNets$Tables;)V" } : Jvm.MethodName)) ∈ wsAll := wT_2 17 rfl rfl
set_option maxRecDepth 100000 in
theorem kw_379 : (Jvm.Cond.instanceMethod ({ cls := "GuardNets$Diagram", name := "<init>", desc := "(LGuardNets$House;LGuardNets$Tables;)V" } : Jvm.MethodName)) ∈ wsAll := wT_2 18 rfl rfl
set_option maxRecDepth 100000 in
theorem kw_380 : (Jvm.Cond.code ({ cls := "GuardNets$Diagram", name := "<init>", desc := "(LGuardNets$House;LGuardNets$Tables;)V" } : Jvm.MethodName) prog_2_method_1_code (3 : Nat) (Option.none : Option Jvm.ClassFile.FieldType)) ∈ wsAll := wT_2 19 rfl rfl
set_option maxRecDepth 100000 in
theorem kw_381 : (Jvm.Cond.methodLink "GuardNets$Diagram" (3 : Nat) ({ cls := "java/lang/Object", name := "<init>", desc := "()V" } : Jvm.MethodName)) ∈ wsAll := wT_2 20 rfl rfl
set_option maxRecDepth 100000 in
theorem kw_382 : (Jvm.Cond.fieldLink "GuardNets$Diagram" (54 : Nat) "GuardNets$Diagram" "house" "LGuardNets$House;") ∈ wsAll := wT_2 21 rfl rfl
set_option maxRecDepth 100000 in
theorem kw_383 : (Jvm.Cond.fieldLink "GuardNets$Diagram" (58 : Nat) "GuardNets$Diagram" "tables" "LGuardNets$Tables;") ∈ wsAll := wT_2 22 rfl rfl
set_option maxRecDepth 100000 in
theorem kw_384 : (Jvm.Cond.fieldLink "GuardNets$Diagram" (9 : Nat) "GuardNets$Diagram" "root" "I") ∈ wsAll := wT_2 23 rfl rfl
set_option maxRecDepth 100000 in
theorem kw_385 : (Jvm.Cond.fieldLink "GuardNets$Diagram" (15 : Nat) "GuardNets$Diagram" "nodes" "I") ∈ wsAll := wT_2 24 rfl rfl
set_option maxRecDepth 100000 in
theorem kw_386 : (Jvm.Cond.fieldLink "GuardNets$Diagram" (18 : Nat) "GuardNets$Diagram" "top" "I") ∈ wsAll := wT_2 25 rfl rfl
set_option maxRecDepth 100000 in
theorem kw_387 : (Jvm.Cond.fieldLink "GuardNets$Diagram" (21 : Nat) "GuardNets$Diagram" "mask" "I") ∈ wsAll := wT_2 26 rfl rfl
set_option maxRecDepth 100000 in
theorem kw_388 : (Jvm.Cond.fieldLink "GuardNets$Diagram" (24 : Nat) "GuardNets$Diagram" "limbs" "I") ∈ wsAll := wT_2 27 rfl rfl
set_option maxRecDepth 100000 in
theorem kw_389 : (Jvm.Cond.fieldLink "GuardNets$Guards" (92 : Nat) "GuardNets$Diagram" "limbs" "I") ∈ wsAll := wT_2 28 rfl rfl
set_option maxRecDepth 100000 in
theorem kw_390 : (Jvm.Cond.fieldLink "GuardNets" (209 : Nat) "GuardNets$Diagram" "limbs" "I") ∈ wsAll := wT_2 29 rfl rfl
set_option maxRecDepth 100000 in
theorem kw_391 : (Jvm.Cond.fieldLink "GuardNets$Diagram" (27 : Nat) "GuardNets$Diagram" "ids" "[I") ∈ wsAll := wT_2 30 rfl rfl
set_option maxRecDepth 100000 in
theorem kw_392 : (Jvm.Cond.fieldLink "GuardNets$Diagram" (31 : Nat) "GuardNets$Diagram" "hash" "[I") ∈ wsAll := wT_2 31 rfl rfl
set_option maxRecDepth 100000 in
theorem kw_393 : (Jvm.Cond.fieldLink "GuardNets$Diagram" (34 : Nat) "GuardNets$Diagram" "ranks" "[I") ∈ wsAll := wT_2 32 rfl rfl
set_option maxRecDepth 100000 in
theorem kw_394 : (Jvm.Cond.fieldLink "GuardNets$Diagram" (37 : Nat) "GuardNets$Diagram" "lows" "[I") ∈ wsAll := wT_2 33 rfl rfl
set_option maxRecDepth 100000 in
theorem kw_395 : (Jvm.Cond.fieldLink "GuardNets$Diagram" (40 : Nat) "GuardNets$Diagram" "highs" "[I") ∈ wsAll := wT_2 34 rfl rfl
set_option maxRecDepth 100000 in
theorem kw_396 : (Jvm.Cond.fieldLink "GuardNets$Diagram" (43 : Nat) "GuardNets$Diagram" "nums" "[I") ∈ wsAll := wT_2 35 rfl rfl
set_option maxRecDepth 100000 in
theorem kw_397 : (Jvm.Cond.fieldLink "GuardNets$Guards" (122 : Nat) "GuardNets$Diagram" "nums" "[I") ∈ wsAll := wT_2 36 rfl rfl
set_option maxRecDepth 100000 in
theorem kw_398 : (Jvm.Cond.fieldLink "GuardNets" (206 : Nat) "GuardNets$Diagram" "nums" "[I") ∈ wsAll := wT_2 37 rfl rfl
set_option maxRecDepth 100000 in
theorem kw_399 : (Jvm.Cond.fieldLink "GuardNets$Diagram" (48 : Nat) "GuardNets$Diagram" "spare" "[I") ∈ wsAll := wT_2 38 rfl rfl
set_option maxRecDepth 100000 in
theorem kw_400 : (Jvm.Cond.fieldLink "GuardNets" (222 : Nat) "GuardNets$Diagram" "spare" "[I") ∈ wsAll := wT_2 39 rfl rfl
set_option maxRecDepth 100000 in
theorem kw_401 : (Jvm.Cond.fieldLink "GuardNets$Diagram" (51 : Nat) "GuardNets$Diagram" "odds" "[I") ∈ wsAll := wT_2 40 rfl rfl
set_option maxRecDepth 100000 in
theorem kw_402 : (Jvm.Cond.laysFinal "GuardNets$Diagram" "GuardNets$Diagram" "house" "LGuardNets$House;") ∈ wsAll := wT_2 41 rfl rfl
set_option maxRecDepth 100000 in
theorem kw_404 : (Jvm.Cond.laysFinal "GuardNets$Diagram" "GuardNets$Diagram" "tables" "LGuardNets$Tables;") ∈ wsAll := wT_2 43 rfl rfl
set_option maxRecDepth 100000 in
theorem kw_406 : (Jvm.Cond.lays "GuardNets$Diagram" "GuardNets$Diagram" "root" "I") ∈ wsAll := wT_2 45 rfl rfl
set_option maxRecDepth 100000 in
theorem kw_408 : (Jvm.Cond.lays "GuardNets$Diagram" "GuardNets$Diagram" "nodes" "I") ∈ wsAll := wT_2 47 rfl rfl
set_option maxRecDepth 100000 in
theorem kw_410 : (Jvm.Cond.lays "GuardNets$Diagram" "GuardNets$Diagram" "top" "I") ∈ wsAll := wT_2 49 rfl rfl
set_option maxRecDepth 100000 in
theorem kw_412 : (Jvm.Cond.lays "GuardNets$Diagram" "GuardNets$Diagram" "mask" "I") ∈ wsAll := wT_2 51 rfl rfl
set_option maxRecDepth 100000 in
theorem kw_414 : (Jvm.Cond.lays "GuardNets$Diagram" "GuardNets$Diagram" "limbs" "I") ∈ wsAll := wT_2 53 rfl rfl
set_option maxRecDepth 100000 in
theorem kw_416 : (Jvm.Cond.lays "GuardNets$Diagram" "GuardNets$Diagram" "ids" "[I") ∈ wsAll := wT_2 55 rfl rfl
set_option maxRecDepth 100000 in
theorem kw_418 : (Jvm.Cond.lays "GuardNets$Diagram" "GuardNets$Diagram" "hash" "[I") ∈ wsAll := wT_2 57 rfl rfl
set_option maxRecDepth 100000 in
theorem kw_420 : (Jvm.Cond.lays "GuardNets$Diagram" "GuardNets$Diagram" "ranks" "[I") ∈ wsAll := wT_2 59 rfl rfl
set_option maxRecDepth 100000 in
theorem kw_422 : (Jvm.Cond.lays "GuardNets$Diagram" "GuardNets$Diagram" "lows" "[I") ∈ wsAll := wT_2 61 rfl rfl
set_option maxRecDepth 100000 in
theorem kw_424 : (Jvm.Cond.lays "GuardNets$Diagram" "GuardNets$Diagram" "highs" "[I") ∈ wsAll := wT_2 63 rfl rfl
set_option maxRecDepth 100000 in
theorem kw_426 : (Jvm.Cond.lays "GuardNets$Diagram" "GuardNets$Diagram" "nums" "[I") ∈ wsAll := wT_2 65 rfl rfl
set_option maxRecDepth 100000 in
theorem kw_428 : (Jvm.Cond.laysFinal "GuardNets$Diagram" "GuardNets$Diagram" "spare" "[I") ∈ wsAll := wT_2 67 rfl rfl
set_option maxRecDepth 100000 in
theorem kw_430 : (Jvm.Cond.laysFinal "GuardNets$Diagram" "GuardNets$Diagram" "odds" "[I") ∈ wsAll := wT_2 69 rfl rfl
set_option maxRecDepth 100000 in
theorem kw_433 : (Jvm.Cond.classLink "GuardNets" (62 : Nat) "GuardNets$Guards") ∈ wsAll := wT_2 72 rfl rfl
set_option maxRecDepth 100000 in
theorem kw_434 : (Jvm.Cond.instantiable "GuardNets$Guards" (12 : Nat)) ∈ wsAll := wT_2 73 rfl rfl
set_option maxRecDepth 100000 in
theorem kw_435 : (Jvm.Cond.methodLink "GuardNets" (64 : Nat) ({ cls := "GuardNets$Guards", name := "<init>", desc := "(LGuardNets$Tables;LGuardNets$Diagram;)V" } : Jvm.MethodName)) ∈ wsAll := wT_2 74 rfl rfl
set_option maxRecDepth 100000 in
theorem kw_436 : (Jvm.Cond.instanceMethod ({ cls := "GuardNets$Guards", name := "<init>", desc := "(LGuardNets$Tables;LGuardNets$Diagram;)V" } : Jvm.MethodName)) ∈ wsAll := wT_2 75 rfl rfl
set_option maxRecDepth 100000 in
theorem kw_437 : (Jvm.Cond.code ({ cls := "GuardNets$Guards", name := "<init>", desc := "(LGuardNets$Tables;LGuardNets$Diagram;)V" } : Jvm.MethodName) prog_6_method_1_code (3 : Nat) (Option.none : Option Jvm.ClassFile.FieldType)) ∈ wsAll := wT_2 76 rfl rfl
set_option maxRecDepth 100000 in
theorem kw_438 : (Jvm.Cond.methodLink "GuardNets$Guards" (3 : Nat) ({ cls := "java/lang/Object", name := "<init>", desc := "()V" } : Jvm.MethodName)) ∈ wsAll := wT_2 77 rfl rfl
set_option maxRecDepth 100000 in
theorem kw_439 : (Jvm.Cond.fieldLink "GuardNets$Guards" (43 : Nat) "GuardNets$Guards" "tables" "LGuardNets$Tables;") ∈ wsAll := wT_2 78 rfl rfl
set_option maxRecDepth 100000 in
theorem kw_440 : (Jvm.Cond.fieldLink "GuardNets$Guards" (47 : Nat) "GuardNets$Guards" "diagram" "LGuardNets$Diagram;") ∈ wsAll := wT_2 79 rfl rfl
set_option maxRecDepth 100000 in
theorem kw_441 : (Jvm.Cond.fieldLink "GuardNets$Guards" (9 : Nat) "GuardNets$Guards" "total" "I") ∈ wsAll := wT_2 80 rfl rfl
set_option maxRecDepth 100000 in
theorem kw_442 : (Jvm.Cond.fieldLink "GuardNets" (249 : Nat) "GuardNets$Guards" "total" "I") ∈ wsAll := wT_2 81 rfl rfl
set_option maxRecDepth 100000 in
theorem kw_443 : (Jvm.Cond.fieldLink "GuardNets$Guards" (15 : Nat) "GuardNets$Guards" "stops" "[I") ∈ wsAll := wT_2 82 rfl rfl
set_option maxRecDepth 100000 in
theorem kw_444 : (Jvm.Cond.fieldLink "GuardNets" (250 : Nat) "GuardNets$Guards" "stops" "[I") ∈ wsAll := wT_2 83 rfl rfl
set_option maxRecDepth 100000 in
theorem kw_445 : (Jvm.Cond.fieldLink "GuardNets$Guards" (19 : Nat) "GuardNets$Guards" "prices" "[I") ∈ wsAll := wT_2 84 rfl rfl
set_option maxRecDepth 100000 in
theorem kw_446 : (Jvm.Cond.fieldLink "GuardNets" (274 : Nat) "GuardNets$Guards" "prices" "[I") ∈ wsAll := wT_2 85 rfl rfl
set_option maxRecDepth 100000 in
theorem kw_447 : (Jvm.Cond.fieldLink "GuardNets$Guards" (22 : Nat) "GuardNets$Guards" "chances" "[I") ∈ wsAll := wT_2 86 rfl rfl
set_option maxRecDepth 100000 in
theorem kw_448 : (Jvm.Cond.fieldLink "GuardNets" (268 : Nat) "GuardNets$Guards" "chances" "[I") ∈ wsAll := wT_2 87 rfl rfl
set_option maxRecDepth 100000 in
theorem kw_449 : (Jvm.Cond.fieldLink "GuardNets$Guards" (25 : Nat) "GuardNets$Guards" "frontSets" "[I") ∈ wsAll := wT_2 88 rfl rfl
set_option maxRecDepth 100000 in
theorem kw_450 : (Jvm.Cond.fieldLink "GuardNets" (262 : Nat) "GuardNets$Guards" "frontSets" "[I") ∈ wsAll := wT_2 89 rfl rfl
set_option maxRecDepth 100000 in
theorem kw_451 : (Jvm.Cond.fieldLink "GuardNets$Guards" (28 : Nat) "GuardNets$Guards" "keys" "[I") ∈ wsAll := wT_2 90 rfl rfl
set_option maxRecDepth 100000 in
theorem kw_452 : (Jvm.Cond.fieldLink "GuardNets$Guards" (31 : Nat) "GuardNets$Guards" "fronts" "I") ∈ wsAll := wT_2 91 rfl rfl
set_option maxRecDepth 100000 in
theorem kw_453 : (Jvm.Cond.fieldLink "GuardNets" (259 : Nat) "GuardNets$Guards" "fronts" "I") ∈ wsAll := wT_2 92 rfl rfl
set_option maxRecDepth 100000 in
theorem kw_454 : (Jvm.Cond.fieldLink "GuardNets$Guards" (34 : Nat) "GuardNets$Guards" "frontRoot" "I") ∈ wsAll := wT_2 93 rfl rfl
set_option maxRecDepth 100000 in
theorem kw_455 : (Jvm.Cond.fieldLink "GuardNets$Guards" (37 : Nat) "GuardNets$Guards" "frontLimbs" "I") ∈ wsAll := wT_2 94 rfl rfl
set_option maxRecDepth 100000 in
theorem kw_456 : (Jvm.Cond.fieldLink "GuardNets" (265 : Nat) "GuardNets$Guards" "frontLimbs" "I") ∈ wsAll := wT_2 95 rfl rfl
set_option maxRecDepth 100000 in
theorem kw_457 : (Jvm.Cond.fieldLink "GuardNets$Guards" (40 : Nat) "GuardNets$Guards" "frontSteps" "I") ∈ wsAll := wT_2 96 rfl rfl
set_option maxRecDepth 100000 in
theorem kw_458 : (Jvm.Cond.fieldLink "GuardNets" (271 : Nat) "GuardNets$Guards" "frontSteps" "I") ∈ wsAll := wT_2 97 rfl rfl
set_option maxRecDepth 100000 in
theorem kw_459 : (Jvm.Cond.laysFinal "GuardNets$Guards" "GuardNets$Guards" "tables" "LGuardNets$Tables;") ∈ wsAll := wT_2 98 rfl rfl
set_option maxRecDepth 100000 in
theorem kw_461 : (Jvm.Cond.laysFinal "GuardNets$Guards" "GuardNets$Guards" "diagram" "LGuardNets$Diagram;") ∈ wsAll := wT_2 100 rfl rfl
set_option maxRecDepth 100000 in
theorem kw_463 : (Jvm.Cond.lays "GuardNets$Guards" "GuardNets$Guards" "total" "I") ∈ wsAll := wT_2 102 rfl rfl
set_option maxRecDepth 100000 in
theorem kw_465 : (Jvm.Cond.lays "GuardNets$Guards" "GuardNets$Guards" "stops" "[I") ∈ wsAll := wT_2 104 rfl rfl
set_option maxRecDepth 100000 in
theorem kw_467 : (Jvm.Cond.lays "GuardNets$Guards" "GuardNets$Guards" "prices" "[I") ∈ wsAll := wT_2 106 rfl rfl
set_option maxRecDepth 100000 in
theorem kw_469 : (Jvm.Cond.lays "GuardNets$Guards" "GuardNets$Guards" "chances" "[I") ∈ wsAll := wT_2 108 rfl rfl
set_option maxRecDepth 100000 in
theorem kw_471 : (Jvm.Cond.lays "GuardNets$Guards" "GuardNets$Guards" "frontSets" "[I") ∈ wsAll := wT_2 110 rfl rfl
set_option maxRecDepth 100000 in
theorem kw_473 : (Jvm.Cond.lays "GuardNets$Guards" "GuardNets$Guards" "keys" "[I") ∈ wsAll := wT_2 112 rfl rfl
set_option maxRecDepth 100000 in
theorem kw_475 : (Jvm.Cond.lays "GuardNets$Guards" "GuardNets$Guards" "fronts" "I") ∈ wsAll := wT_2 114 rfl rfl
set_option maxRecDepth 100000 in
theorem kw_477 : (Jvm.Cond.lays "GuardNets$Guards" "GuardNets$Guards" "frontRoot" "I") ∈ wsAll := wT_2 116 rfl rfl
set_option maxRecDepth 100000 in
theorem kw_479 : (Jvm.Cond.lays "GuardNets$Guards" "GuardNets$Guards" "frontLimbs" "I") ∈ wsAll := wT_2 118 rfl rfl
set_option maxRecDepth 100000 in
theorem kw_481 : (Jvm.Cond.lays "GuardNets$Guards" "GuardNets$Guards" "frontSteps" "I") ∈ wsAll := wT_2 120 rfl rfl
set_option maxRecDepth 100000 in
theorem kw_484 : (Jvm.Cond.classLink "GuardNets" (71 : Nat) "GuardNets$Game") ∈ wsAll := wT_2 123 rfl rfl
set_option maxRecDepth 100000 in
theorem kw_485 : (Jvm.Cond.instantiable "GuardNets$Game" (11 : Nat)) ∈ wsAll := wT_2 124 rfl rfl
set_option maxRecDepth 100000 in
theorem kw_486 : (Jvm.Cond.methodLink "GuardNets" (73 : Nat) ({ cls := "GuardNets$Game", name := "<init>", desc := "(LGuardNets$Ways;)V" } : Jvm.MethodName)) ∈ wsAll := wT_2 125 rfl rfl
set_option maxRecDepth 100000 in
theorem kw_487 : (Jvm.Cond.instanceMethod ({ cls := "GuardNets$Game", name := "<init>", desc := "(LGuardNets$Ways;)V" } : Jvm.MethodName)) ∈ wsAll := wT_2 126 rfl rfl
set_option maxRecDepth 100000 in
theorem kw_488 : (Jvm.Cond.code ({ cls := "GuardNets$Game", name := "<init>", desc := "(LGuardNets$Ways;)V" } : Jvm.MethodName) prog_5_method_1_code (2 : Nat) (Option.none : Option Jvm.ClassFile.FieldType)) ∈ wsAll := wT_2 127 rfl rfl
set_option maxRecDepth 100000 in
theorem kw_489 : (Jvm.Cond.methodLink "GuardNets$Game" (3 : Nat) ({ cls := "java/lang/Object", name := "<init>", desc := "()V" } : Jvm.MethodName)) ∈ wsAll := wT_2 128 rfl rfl
set_option maxRecDepth 100000 in
theorem kw_490 : (Jvm.Cond.fieldLink "GuardNets$Game" (45 : Nat) "GuardNets$Game" "ways" "LGuardNets$Ways;") ∈ wsAll := wT_2 129 rfl rfl
set_option maxRecDepth 100000 in
theorem kw_491 : (Jvm.Cond.fieldLink "GuardNets$Game" (11 : Nat) "GuardNets$Game" "catching" "[I") ∈ wsAll := wT_2 130 rfl rfl
set_option maxRecDepth 100000 in
theorem kw_492 : (Jvm.Cond.fieldLink "GuardNets$Game" (15 : Nat) "GuardNets$Game" "total" "I") ∈ wsAll := wT_2 131 rfl rfl
set_option maxRecDepth 100000 in
theorem kw_493 : (Jvm.Cond.fieldLink "GuardNets" (279 : Nat) "GuardNets$Game" "total" "I") ∈ wsAll := wT_2 132 rfl rfl
set_option maxRecDepth 100000 in
theorem kw_494 : (Jvm.Cond.fieldLink "GuardNets$Game" (19 : Nat) "GuardNets$Game" "cells" "[J") ∈ wsAll := wT_2 133 rfl rfl
set_option maxRecDepth 100000 in
theorem kw_495 : (Jvm.Cond.fieldLink "GuardNets$Game" (23 : Nat) "GuardNets$Game" "rowNames" "[I") ∈ wsAll := wT_2 134 rfl rfl
set_option maxRecDepth 100000 in
theorem kw_496 : (Jvm.Cond.fieldLink "GuardNets$Game" (26 : Nat) "GuardNets$Game" "columnNames" "[I") ∈ wsAll := wT_2 135 rfl rfl
set_option maxRecDepth 100000 in
theorem kw_497 : (Jvm.Cond.fieldLink "GuardNets$Game" (29 : Nat) "GuardNets$Game" "columns" "I") ∈ wsAll := wT_2 136 rfl rfl
set_option maxRecDepth 100000 in
theorem kw_498 : (Jvm.Cond.fieldLink "GuardNets$Game" (32 : Nat) "GuardNets$Game" "width" "I") ∈ wsAll := wT_2 137 rfl rfl
set_option maxRecDepth 100000 in
theorem kw_499 : (Jvm.Cond.fieldLink "GuardNets$Game" (35 : Nat) "GuardNets$Game" "divisor" "J") ∈ wsAll := wT_2 138 rfl rfl
set_option maxRecDepth 100000 in
theorem kw_500 : (Jvm.Cond.fieldLink "GuardNets$Game" (39 : Nat) "GuardNets$Game" "above" "J") ∈ wsAll := wT_2 139 rfl rfl
set_option maxRecDepth 100000 in
theorem kw_501 : (Jvm.Cond.fieldLink "GuardNets" (289 : Nat) "GuardNets$Game" "above" "J") ∈ wsAll := wT_2 140 rfl rfl
set_option maxRecDepth 100000 in
theorem kw_502 : (Jvm.Cond.fieldLink "GuardNets$Game" (42 : Nat) "GuardNets$Game" "below" "J") ∈ wsAll := wT_2 141 rfl rfl
set_option maxRecDepth 100000 in
theorem kw_503 : (Jvm.Cond.fieldLink "GuardNets" (293 : Nat) "GuardNets$Game" "below" "J") ∈ wsAll := wT_2 142 rfl rfl
set_option maxRecDepth 100000 in
theorem kw_504 : (Jvm.Cond.laysFinal "GuardNets$Game" "GuardNets$Game" "ways" "LGuardNets$Ways;") ∈ wsAll := wT_2 143 rfl rfl
set_option maxRecDepth 100000 in
theorem kw_506 : (Jvm.Cond.laysFinal "GuardNets$Game" "GuardNets$Game" "catching" "[I") ∈ wsAll := wT_2 145 rfl rfl
set_option maxRecDepth 100000 in
theorem kw_508 : (Jvm.Cond.lays "GuardNets$Game" "GuardNets$Game" "total" "I") ∈ wsAll := wT_2 147 rfl rfl
set_option maxRecDepth 100000 in
theorem kw_510 : (Jvm.Cond.laysFinal "GuardNets$Game" "GuardNets$Game" "cells" "[J") ∈ wsAll := wT_2 149 rfl rfl
set_option maxRecDepth 100000 in
theorem kw_512 : (Jvm.Cond.laysFinal "GuardNets$Game" "GuardNets$Game" "rowNames" "[I") ∈ wsAll := wT_2 151 rfl rfl
set_option maxRecDepth 100000 in
theorem kw_514 : (Jvm.Cond.laysFinal "GuardNets$Game" "GuardNets$Game" "columnNames" "[I") ∈ wsAll := wT_2 153 rfl rfl
set_option maxRecDepth 100000 in
theorem kw_516 : (Jvm.Cond.lays "GuardNets$Game" "GuardNets$Game" "columns" "I") ∈ wsAll := wT_2 155 rfl rfl
set_option maxRecDepth 100000 in
theorem kw_518 : (Jvm.Cond.lays "GuardNets$Game" "GuardNets$Game" "width" "I") ∈ wsAll := wT_2 157 rfl rfl
set_option maxRecDepth 100000 in
theorem kw_520 : (Jvm.Cond.lays "GuardNets$Game" "GuardNets$Game" "divisor" "J") ∈ wsAll := wT_2 159 rfl rfl
set_option maxRecDepth 100000 in
theorem kw_522 : (Jvm.Cond.lays "GuardNets$Game" "GuardNets$Game" "above" "J") ∈ wsAll := wT_2 161 rfl rfl
set_option maxRecDepth 100000 in
theorem kw_524 : (Jvm.Cond.lays "GuardNets$Game" "GuardNets$Game" "below" "J") ∈ wsAll := wT_2 163 rfl rfl
set_option maxRecDepth 100000 in
theorem kw_527 : (Jvm.Cond.classLink "GuardNets" (80 : Nat) "GuardNets$Drill") ∈ wsAll := wT_2 166 rfl rfl
set_option maxRecDepth 100000 in
theorem kw_528 : (Jvm.Cond.instantiable "GuardNets$Drill" (8 : Nat)) ∈ wsAll := wT_2 167 rfl rfl
set_option maxRecDepth 100000 in
theorem kw_529 : (Jvm.Cond.methodLink "GuardNets" (82 : Nat) ({ cls := "GuardNets$Drill", name := "<init>", desc := "(LGuardNets$House;LGuardNets$Nets;)V" } : Jvm.MethodName)) ∈ wsAll := wT_2 168 rfl rfl
set_option maxRecDepth 100000 in
theorem kw_530 : (Jvm.Cond.instanceMethod ({ cls := "GuardNets$Drill", name := "<init>", desc := "(LGuardNets$House;LGuardNets$Nets;)V" } : Jvm.MethodName)) ∈ wsAll := wT_2 169 rfl rfl
set_option maxRecDepth 100000 in
theorem kw_531 : (Jvm.Cond.code ({ cls := "GuardNets$Drill", name := "<init>", desc := "(LGuardNets$House;LGuardNets$Nets;)V" } : Jvm.MethodName) prog_3_method_1_code (3 : Nat) (Option.none : Option Jvm.ClassFile.FieldType)) ∈ wsAll := wT_2 170 rfl rfl
set_option maxRecDepth 100000 in
theorem kw_532 : (Jvm.Cond.methodLink "GuardNets$Drill" (3 : Nat) ({ cls := "java/lang/Object", name := "<init>", desc := "()V" } : Jvm.MethodName)) ∈ wsAll := wT_2 171 rfl rfl
set_option maxRecDepth 100000 in
theorem kw_533 : (Jvm.Cond.fieldLink "GuardNets$Drill" (33 : Nat) "GuardNets$Drill" "house" "LGuardNets$House;") ∈ wsAll := wT_2 172 rfl rfl
set_option maxRecDepth 100000 in
theorem kw_534 : (Jvm.Cond.fieldLink "GuardNets$Drill" (37 : Nat) "GuardNets$Drill" "nets" "LGuardNets$Nets;") ∈ wsAll := wT_2 173 rfl rfl
set_option maxRecDepth 100000 in
theorem kw_535 : (Jvm.Cond.fieldLink "GuardNets$Drill" (11 : Nat) "GuardNets$Drill" "steps" "[I") ∈ wsAll := wT_2 174 rfl rfl
set_option maxRecDepth 100000 in
theorem kw_536 : (Jvm.Cond.fieldLink "GuardNets$Drill" (15 : Nat) "GuardNets$Drill" "minutes" "[I") ∈ wsAll := wT_2 175 rfl rfl
set_option maxRecDepth 100000 in
theorem kw_537 : (Jvm.Cond.fieldLink "GuardNets$Drill" (18 : Nat) "GuardNets$Drill" "total" "I") ∈ wsAll := wT_2 176 rfl rfl
set_option maxRecDepth 100000 in
theorem kw_538 : (Jvm.Cond.fieldLink "GuardNets" (329 : Nat) "GuardNets$Drill" "total" "I") ∈ wsAll := wT_2 177 rfl rfl
set_option maxRecDepth 100000 in
theorem kw_539 : (Jvm.Cond.fieldLink "GuardNets$Drill" (22 : Nat) "GuardNets$Drill" "at" "[I") ∈ wsAll := wT_2 178 rfl rfl
set_option maxRecDepth 100000 in
theorem kw_540 : (Jvm.Cond.fieldLink "GuardNets$Drill" (25 : Nat) "GuardNets$Drill" "places" "I") ∈ wsAll := wT_2 179 rfl rfl
set_option maxRecDepth 100000 in
theorem kw_541 : (Jvm.Cond.fieldLink "GuardNets$Drill" (30 : Nat) "GuardNets$Drill" "few" "[I") ∈ wsAll := wT_2 180 rfl rfl
set_option maxRecDepth 100000 in
theorem kw_542 : (Jvm.Cond.laysFinal "GuardNets$Drill" "GuardNets$Drill" "house" "LGuardNets$House;") ∈ wsAll := wT_2 181 rfl rfl
set_option maxRecDepth 100000 in
theorem kw_544 : (Jvm.Cond.laysFinal "GuardNets$Drill" "GuardNets$Drill" "nets" "LGuardNets$Nets;") ∈ wsAll := wT_2 183 rfl rfl
set_option maxRecDepth 100000 in
theorem kw_546 : (Jvm.Cond.laysFinal "GuardNets$Drill" "GuardNets$Drill" "steps" "[I") ∈ wsAll := wT_2 185 rfl rfl
set_option maxRecDepth 100000 in
theorem kw_548 : (Jvm.Cond.laysFinal "GuardNets$Drill" "GuardNets$Drill" "minutes" "[I") ∈ wsAll := wT_2 187 rfl rfl
set_option maxRecDepth 100000 in
theorem kw_550 : (Jvm.Cond.lays "GuardNets$Drill" "GuardNets$Drill" "total" "I") ∈ wsAll := wT_2 189 rfl rfl
set_option maxRecDepth 100000 in
theorem kw_552 : (Jvm.Cond.lays "GuardNets$Drill" "GuardNets$Drill" "at" "[I") ∈ wsAll := wT_2 191 rfl rfl
set_option maxRecDepth 100000 in
theorem kw_554 : (Jvm.Cond.lays "GuardNets$Drill" "GuardNets$Drill" "places" "I") ∈ wsAll := wT_2 193 rfl rfl
set_option maxRecDepth 100000 in
theorem kw_556 : (Jvm.Cond.laysFinal "GuardNets$Drill" "GuardNets$Drill" "few" "[I") ∈ wsAll := wT_2 195 rfl rfl
set_option maxRecDepth 100000 in
theorem kw_559 : (Jvm.Cond.classLink "GuardNets" (89 : Nat) "GuardNets$Watch") ∈ wsAll := wT_2 198 rfl rfl
set_option maxRecDepth 100000 in
theorem kw_560 : (Jvm.Cond.instantiable "GuardNets$Watch" (8 : Nat)) ∈ wsAll := wT_2 199 rfl rfl
set_option maxRecDepth 100000 in
theorem kw_561 : (Jvm.Cond.methodLink "GuardNets" (91 : Nat) ({ cls := "GuardNets$Watch", name := "<init>", desc := "(LGuardNets$House;)V" } : Jvm.MethodName)) ∈ wsAll := wT_2 200 rfl rfl
set_option maxRecDepth 100000 in
theorem kw_562 : (Jvm.Cond.instanceMethod ({ cls := "GuardNets$Watch", name := "<init>", desc := "(LGuardNets$House;)V" } : Jvm.MethodName)) ∈ wsAll := wT_2 201 rfl rfl
set_option maxRecDepth 100000 in
theorem kw_563 : (Jvm.Cond.code ({ cls := "GuardNets$Watch", name := "<init>", desc := "(LGuardNets$House;)V" } : Jvm.MethodName) prog_11_method_1_code (2 : Nat) (Option.none : Option Jvm.ClassFile.FieldType)) ∈ wsAll := wT_2 202 rfl rfl
set_option maxRecDepth 100000 in
theorem kw_564 : (Jvm.Cond.methodLink "GuardNets$Watch" (3 : Nat) ({ cls := "java/lang/Object", name := "<init>", desc := "()V" } : Jvm.MethodName)) ∈ wsAll := wT_2 203 rfl rfl
set_option maxRecDepth 100000 in
theorem kw_565 : (Jvm.Cond.fieldLink "GuardNets$Watch" (34 : Nat) "GuardNets$Watch" "house" "LGuardNets$House;") ∈ wsAll := wT_2 204 rfl rfl
set_option maxRecDepth 100000 in
theorem kw_566 : (Jvm.Cond.fieldLink "GuardNets$Watch" (11 : Nat) "GuardNets$Watch" "rounds" "[I") ∈ wsAll := wT_2 205 rfl rfl
set_option maxRecDepth 100000 in
theorem kw_567 : (Jvm.Cond.fieldLink "GuardNets$Watch" (15 : Nat) "GuardNets$Watch" "lengths" "[I") ∈ wsAll := wT_2 206 rfl rfl
set_option maxRecDepth 100000 in
theorem kw_568 : (Jvm.Cond.fieldLink "GuardNets" (339 : Nat) "GuardNets$Watch" "lengths" "[I") ∈ wsAll := wT_2 207 rfl rfl
set_option maxRecDepth 100000 in
theorem kw_569 : (Jvm.Cond.fieldLink "GuardNets$Watch" (18 : Nat) "GuardNets$Watch" "watched" "[I") ∈ wsAll := wT_2 208 rfl rfl
set_option maxRecDepth 100000 in
theorem kw_570 : (Jvm.Cond.fieldLink "GuardNets$Watch" (21 : Nat) "GuardNets$Watch" "chosen" "[I") ∈ wsAll := wT_2 209 rfl rfl
set_option maxRecDepth 100000 in
theorem kw_571 : (Jvm.Cond.fieldLink "GuardNets$Watch" (24 : Nat) "GuardNets$Watch" "total" "I") ∈ wsAll := wT_2 210 rfl rfl
set_option maxRecDepth 100000 in
theorem kw_572 : (Jvm.Cond.fieldLink "GuardNets$Watch" (28 : Nat) "GuardNets$Watch" "ends" "[I") ∈ wsAll := wT_2 211 rfl rfl
set_option maxRecDepth 100000 in
theorem kw_573 : (Jvm.Cond.fieldLink "GuardNets$Watch" (31 : Nat) "GuardNets$Watch" "soonest" "[I") ∈ wsAll := wT_2 212 rfl rfl
set_option maxRecDepth 100000 in
theorem kw_574 : (Jvm.Cond.laysFinal "GuardNets$Watch" "GuardNets$Watch" "house" "LGuardNets$House;") ∈ wsAll := wT_2 213 rfl rfl
set_option maxRecDepth 100000 in
theorem kw_576 : (Jvm.Cond.laysFinal "GuardNets$Watch" "GuardNets$Watch" "rounds" "[I") ∈ wsAll := wT_2 215 rfl rfl
set_option maxRecDepth 100000 in
theorem kw_578 : (Jvm.Cond.laysFinal "GuardNets$Watch" "GuardNets$Watch" "lengths" "[I") ∈ wsAll := wT_2 217 rfl rfl
set_option maxRecDepth 100000 in
theorem kw_580 : (Jvm.Cond.laysFinal "GuardNets$Watch" "GuardNets$Watch" "watched" "[I") ∈ wsAll := wT_2 219 rfl rfl
set_option maxRecDepth 100000 in
theorem kw_582 : (Jvm.Cond.laysFinal "GuardNets$Watch" "GuardNets$Watch" "chosen" "[I") ∈ wsAll := wT_2 221 rfl rfl
set_option maxRecDepth 100000 in
theorem kw_584 : (Jvm.Cond.lays "GuardNets$Watch" "GuardNets$Watch" "total" "I") ∈ wsAll := wT_2 223 rfl rfl
set_option maxRecDepth 100000 in
theorem kw_586 : (Jvm.Cond.lays "GuardNets$Watch" "GuardNets$Watch" "ends" "[I") ∈ wsAll := wT_2 225 rfl rfl
set_option maxRecDepth 100000 in
theorem kw_588 : (Jvm.Cond.laysFinal "GuardNets$Watch" "GuardNets$Watch" "soonest" "[I") ∈ wsAll := wT_2 227 rfl rfl
set_option maxRecDepth 100000 in
theorem kw_591 : (Jvm.Cond.fieldLink "GuardNets" (10 : Nat) "GuardNets" "house" "LGuardNets$House;") ∈ wsAll := wT_2 230 rfl rfl
set_option maxRecDepth 100000 in
theorem kw_592 : (Jvm.Cond.fieldLink "GuardNets" (19 : Nat) "GuardNets" "nets" "LGuardNets$Nets;") ∈ wsAll := wT_2 231 rfl rfl
set_option maxRecDepth 100000 in
theorem kw_593 : (Jvm.Cond.fieldLink "GuardNets" (28 : Nat) "GuardNets" "reader" "LGuardNets$Reader;") ∈ wsAll := wT_2 232 rfl rfl
set_option maxRecDepth 100000 in
theorem kw_594 : (Jvm.Cond.fieldLink "GuardNets" (35 : Nat) "GuardNets" "tables" "LGuardNets$Tables;") ∈ wsAll := wT_2 233 rfl rfl
set_option maxRecDepth 100000 in
theorem kw_595 : (Jvm.Cond.fieldLink "GuardNets" (44 : Nat) "GuardNets" "wayList" "LGuardNets$Ways;") ∈ wsAll := wT_2 234 rfl rfl
set_option maxRecDepth 100000 in
theorem kw_596 : (Jvm.Cond.fieldLink "GuardNets" (51 : Nat) "GuardNets" "fraction" "LGuardNets$Fraction;") ∈ wsAll := wT_2 235 rfl rfl
set_option maxRecDepth 100000 in
theorem kw_597 : (Jvm.Cond.fieldLink "GuardNets" (58 : Nat) "GuardNets" "diagram" "LGuardNets$Diagram;") ∈ wsAll := wT_2 236 rfl rfl
set_option maxRecDepth 100000 in
theorem kw_598 : (Jvm.Cond.fieldLink "GuardNets" (67 : Nat) "GuardNets" "guards" "LGuardNets$Guards;") ∈ wsAll := wT_2 237 rfl rfl
set_option maxRecDepth 100000 in
theorem kw_599 : (Jvm.Cond.fieldLink "GuardNets" (76 : Nat) "GuardNets" "patrols" "LGuardNets$Game;") ∈ wsAll := wT_2 238 rfl rfl
set_option maxRecDepth 100000 in
theorem kw_600 : (Jvm.Cond.fieldLink "GuardNets" (85 : Nat) "GuardNets" "drill" "LGuardNets$Drill;") ∈ wsAll := wT_2 239 rfl rfl
set_option maxRecDepth 100000 in
theorem kw_601 : (Jvm.Cond.fieldLink "GuardNets" (94 : Nat) "GuardNets" "watch" "LGuardNets$Watch;") ∈ wsAll := wT_3 0 rfl rfl
set_option maxRecDepth 100000 in
theorem kw_602 : (Jvm.Cond.laysFinal "GuardNets" "GuardNets" "house" "LGuardNets$House;") ∈ wsAll := wT_3 1 rfl rfl
set_option maxRecDepth 100000 in
theorem kw_604 : (Jvm.Cond.laysFinal "GuardNets" "GuardNets" "nets" "LGuardNets$Nets;") ∈ wsAll := wT_3 3 rfl rfl
set_option maxRecDepth 100000 in
theorem kw_606 : (Jvm.Cond.laysFinal "GuardNets" "GuardNets" "reader" "LGuardNets$Reader;") ∈ wsAll := wT_3 5 rfl rfl
set_option maxRecDepth 100000 in
theorem kw_608 : (Jvm.Cond.laysFinal "GuardNets" "GuardNets" "tables" "LGuardNets$Tables;") ∈ wsAll := wT_3 7 rfl rfl
set_option maxRecDepth 100000 in
theorem kw_610 : (Jvm.Cond.laysFinal "GuardNets" "GuardNets" "wayList" "LGuardNets$Ways;") ∈ wsAll := wT_3 9 rfl rfl
set_option maxRecDepth 100000 in
theorem kw_612 : (Jvm.Cond.laysFinal "GuardNets" "GuardNets" "fraction" "LGuardNets$Fraction;") ∈ wsAll := wT_3 11 rfl rfl
set_option maxRecDepth 100000 in
theorem kw_614 : (Jvm.Cond.laysFinal "GuardNets" "GuardNets" "diagram" "LGuardNets$Diagram;") ∈ wsAll := wT_3 13 rfl rfl
set_option maxRecDepth 100000 in
theorem kw_616 : (Jvm.Cond.laysFinal "GuardNets" "GuardNets" "guards" "LGuardNets$Guards;") ∈ wsAll := wT_3 15 rfl rfl
set_option maxRecDepth 100000 in
theorem kw_618 : (Jvm.Cond.laysFinal "GuardNets" "GuardNets" "patrols" "LGuardNets$Game;") ∈ wsAll := wT_3 17 rfl rfl
set_option maxRecDepth 100000 in
theorem kw_620 : (Jvm.Cond.laysFinal "GuardNets" "GuardNets" "drill" "LGuardNets$Drill;") ∈ wsAll := wT_3 19 rfl rfl
set_option maxRecDepth 100000 in
theorem kw_622 : (Jvm.Cond.laysFinal "GuardNets" "GuardNets" "watch" "LGuardNets$Watch;") ∈ wsAll := wT_3 21 rfl rfl
set_option maxRecDepth 100000 in
theorem kw_625 : (Jvm.Cond.methodLink "GuardNetsLaw" (13 : Nat) ({ cls := "GuardNets", name := "step", desc := "(IIII)I" } : Jvm.MethodName)) ∈ wsAll := wT_3 24 rfl rfl
set_option maxRecDepth 100000 in
theorem kw_626 : (Jvm.Cond.instanceMethod ({ cls := "GuardNets", name := "step", desc := "(IIII)I" } : Jvm.MethodName)) ∈ wsAll := wT_3 25 rfl rfl
set_option maxRecDepth 100000 in
theorem kw_627 : (Jvm.Cond.selects "GuardNets" ({ cls := "GuardNets", name := "step", desc := "(IIII)I" } : Jvm.MethodName) ({ cls := "GuardNets", name := "step", desc := "(IIII)I" } : Jvm.MethodName)) ∈ wsAll := wT_3 26 rfl rfl
set_option maxRecDepth 100000 in
theorem kw_628 : (Jvm.Cond.code ({ cls := "GuardNets", name := "step", desc := "(IIII)I" } : Jvm.MethodName) prog_1_method_2_code (5 : Nat) (Option.some Jvm.ClassFile.FieldType.int)) ∈ wsAll := wT_3 27 rfl rfl
set_option maxRecDepth 100000 in
theorem kw_629 : (Jvm.Cond.methodLink "GuardNets" (98 : Nat) ({ cls := "GuardNets", name := "noStep", desc := "(I)Z" } : Jvm.MethodName)) ∈ wsAll := wT_3 28 rfl rfl
set_option maxRecDepth 100000 in
theorem kw_630 : (Jvm.Cond.static ({ cls := "GuardNets", name := "noStep", desc := "(I)Z" } : Jvm.MethodName)) ∈ wsAll := wT_3 29 rfl rfl
set_option maxRecDepth 100000 in
theorem kw_631 : (Jvm.Cond.code ({ cls := "GuardNets", name := "noStep", desc := "(I)Z" } : Jvm.MethodName) prog_1_method_51_code (1 : Nat) (Option.some Jvm.ClassFile.FieldType.boolean)) ∈ wsAll := wT_3 30 rfl rfl
set_option maxRecDepth 100000 in
theorem kw_632 : (Jvm.Cond.methodLink "GuardNets" (102 : Nat) ({ cls := "GuardNets", name := "outside", desc := "(III)Z" } : Jvm.MethodName)) ∈ wsAll := wT_3 31 rfl rfl
set_option maxRecDepth 100000 in
theorem kw_633 : (Jvm.Cond.static ({ cls := "GuardNets", name := "outside", desc := "(III)Z" } : Jvm.MethodName)) ∈ wsAll := wT_3 32 rfl rfl
set_option maxRecDepth 100000 in
theorem kw_634 : (Jvm.Cond.code ({ cls := "GuardNets", name := "outside", desc := "(III)Z" } : Jvm.MethodName) prog_1_method_50_code (3 : Nat) (Option.some Jvm.ClassFile.FieldType.boolean)) ∈ wsAll := wT_3 33 rfl rfl
set_option maxRecDepth 100000 in
theorem kw_635 : (Jvm.Cond.methodLink "GuardNets" (106 : Nat) ({ cls := "GuardNets$House", name := "put", desc := "(III)V" } : Jvm.MethodName)) ∈ wsAll := wT_3 34 rfl rfl
set_option maxRecDepth 100000 in
theorem kw_636 : (Jvm.Cond.instanceMethod ({ cls := "GuardNets$House", name := "put", desc := "(III)V" } : Jvm.MethodName)) ∈ wsAll := wT_3 35 rfl rfl
set_option maxRecDepth 100000 in
theorem kw_637 : (Jvm.Cond.selects "GuardNets$House" ({ cls := "GuardNets$House", name := "put", desc := "(III)V" } : Jvm.MethodName) ({ cls := "GuardNets$House", name := "put", desc := "(III)V" } : Jvm.MethodName)) ∈ wsAll := wT_3 36 rfl rfl
set_option maxRecDepth 100000 in
theorem kw_638 : (Jvm.Cond.code ({ cls := "GuardNets$House", name := "put", desc := "(III)V" } : Jvm.MethodName) prog_7_method_3_code (4 : Nat) (Option.none : Option Jvm.ClassFile.FieldType)) ∈ wsAll := wT_3 37 rfl rfl
set_option maxRecDepth 100000 in
theorem kw_639 : (Jvm.Cond.methodLink "GuardNets" (110 : Nat) ({ cls := "GuardNets$Guards", name := "forgetFront", desc := "()V" } : Jvm.MethodName)) ∈ wsAll := wT_3 38 rfl rfl
set_option maxRecDepth 100000 in
theorem kw_640 : (Jvm.Cond.instanceMethod ({ cls := "GuardNets$Guards", name := "forgetFront", desc := "()V" } : Jvm.MethodName)) ∈ wsAll := wT_3 39 rfl rfl
set_option maxRecDepth 100000 in
theorem kw_641 : (Jvm.Cond.selects "GuardNets$Guards" ({ cls := "GuardNets$Guards", name := "forgetFront", desc := "()V" } : Jvm.MethodName) ({ cls := "GuardNets$Guards", name := "forgetFront", desc := "()V" } : Jvm.MethodName)) ∈ wsAll := wT_3 40 rfl rfl
set_option maxRecDepth 100000 in
theorem kw_642 : (Jvm.Cond.code ({ cls := "GuardNets$Guards", name := "forgetFront", desc := "()V" } : Jvm.MethodName) prog_6_method_3_code (1 : Nat) (Option.none : Option Jvm.ClassFile.FieldType)) ∈ wsAll := wT_3 41 rfl rfl
set_option maxRecDepth 100000 in
theorem kw_643 : (Jvm.Cond.methodLink "GuardNetsLaw" (18 : Nat) ({ cls := "GuardNets", name := "trace", desc := "(III)I" } : Jvm.MethodName)) ∈ wsAll := wT_3 42 rfl rfl
set_option maxRecDepth 100000 in
theorem kw_644 : (Jvm.Cond.instanceMethod ({ cls := "GuardNets", name := "trace", desc := "(III)I" } : Jvm.MethodName)) ∈ wsAll := wT_3 43 rfl rfl
set_option maxRecDepth 100000 in
theorem kw_645 : (Jvm.Cond.selects "GuardNets" ({ cls := "GuardNets", name := "trace", desc := "(III)I" } : Jvm.MethodName) ({ cls := "GuardNets", name := "trace", desc := "(III)I" } : Jvm.MethodName)) ∈ wsAll := wT_3 44 rfl rfl
set_option maxRecDepth 100000 in
theorem kw_646 : (Jvm.Cond.code ({ cls := "GuardNets", name := "trace", desc := "(III)I" } : Jvm.MethodName) prog_1_method_3_code (4 : Nat) (Option.some Jvm.ClassFile.FieldType.int)) ∈ wsAll := wT_3 45 rfl rfl
set_option maxRecDepth 100000 in
theorem kw_647 : (Jvm.Cond.methodLink "GuardNetsLaw" (23 : Nat) ({ cls := "GuardNets", name := "about", desc := "(II)I" } : Jvm.MethodName)) ∈ wsAll := wT_3 46 rfl rfl
set_option maxRecDepth 100000 in
theorem kw_648 : (Jvm.Cond.instanceMethod ({ cls := "GuardNets", name := "about", desc := "(II)I" } : Jvm.MethodName)) ∈ wsAll := wT_3 47 rfl rfl
set_option maxRecDepth 100000 in
theorem kw_649 : (Jvm.Cond.selects "GuardNets" ({ cls := "GuardNets", name := "about", desc := "(II)I" } : Jvm.MethodName) ({ cls := "GuardNets", name := "about", desc := "(II)I" } : Jvm.MethodName)) ∈ wsAll := wT_3 48 rfl rfl
set_option maxRecDepth 100000 in
theorem kw_650 : (Jvm.Cond.code ({ cls := "GuardNets", name := "about", desc := "(II)I" } : Jvm.MethodName) prog_1_method_4_code (3 : Nat) (Option.some Jvm.ClassFile.FieldType.int)) ∈ wsAll := wT_3 49 rfl rfl
set_option maxRecDepth 100000 in
theorem kw_651 : (Jvm.Cond.methodLink "GuardNets" (113 : Nat) ({ cls := "GuardNets$House", name := "get", desc := "(II)I" } : Jvm.MethodName)) ∈ wsAll := wT_3 50 rfl rfl
set_option maxRecDepth 100000 in
theorem kw_652 : (Jvm.Cond.instanceMethod ({ cls := "GuardNets$House", name := "get", desc := "(II)I" } : Jvm.MethodName)) ∈ wsAll := wT_3 51 rfl rfl
set_option maxRecDepth 100000 in
theorem kw_653 : (Jvm.Cond.selects "GuardNets$House" ({ cls := "GuardNets$House", name := "get", desc := "(II)I" } : Jvm.MethodName) ({ cls := "GuardNets$House", name := "get", desc := "(II)I" } : Jvm.MethodName)) ∈ wsAll := wT_3 52 rfl rfl
set_option maxRecDepth 100000 in
theorem kw_654 : (Jvm.Cond.code ({ cls := "GuardNets$House", name := "get", desc := "(II)I" } : Jvm.MethodName) prog_7_method_2_code (3 : Nat) (Option.some Jvm.ClassFile.FieldType.int)) ∈ wsAll := wT_3 53 rfl rfl
set_option maxRecDepth 100000 in
theorem kw_655 : (Jvm.Cond.methodLink "GuardNetsLaw" (28 : Nat) ({ cls := "GuardNets", name := "write", desc := "(I)I" } : Jvm.MethodName)) ∈ wsAll := wT_3 54 rfl rfl
set_option maxRecDepth 100000 in
theorem kw_656 : (Jvm.Cond.instanceMethod ({ cls := "GuardNets", name := "write", desc := "(I)I" } : Jvm.MethodName)) ∈ wsAll := wT_3 55 rfl rfl
set_option maxRecDepth 100000 in
theorem kw_657 : (Jvm.Cond.selects "GuardNets" ({ cls := "GuardNets", name := "write", desc := "(I)I" } : Jvm.MethodName) ({ cls := "GuardNets", name := "write", desc := "(I)I" } : Jvm.MethodName)) ∈ wsAll := wT_3 56 rfl rfl
set_option maxRecDepth 100000 in
theorem kw_658 : (Jvm.Cond.code ({ cls := "GuardNets", name := "write", desc := "(I)I" } : Jvm.MethodName) prog_1_method_5_code (2 : Nat) (Option.some Jvm.ClassFile.FieldType.int)) ∈ wsAll := wT_3 57 rfl rfl
set_option maxRecDepth 100000 in
theorem kw_659 : (Jvm.Cond.methodLink "GuardNets" (117 : Nat) ({ cls := "GuardNets$Nets", name := "append", desc := "(I)Z" } : Jvm.MethodName)) ∈ wsAll := wT_3 58 rfl rfl
set_option maxRecDepth 100000 in
theorem kw_660 : (Jvm.Cond.instanceMethod ({ cls := "GuardNets$Nets", name := "append", desc := "(I)Z" } : Jvm.MethodName)) ∈ wsAll := wT_3 59 rfl rfl
set_option maxRecDepth 100000 in
theorem kw_661 : (Jvm.Cond.selects "GuardNets$Nets" ({ cls := "GuardNets$Nets", name := "append", desc := "(I)Z" } : Jvm.MethodName) ({ cls := "GuardNets$Nets", name := "append", desc := "(I)Z" } : Jvm.MethodName)) ∈ wsAll := wT_3 60 rfl rfl
set_option maxRecDepth 100000 in
theorem kw_662 : (Jvm.Cond.code ({ cls := "GuardNets$Nets", name := "append", desc := "(I)Z" } : Jvm.MethodName) prog_8_method_2_code (2 : Nat) (Option.some Jvm.ClassFile.FieldType.boolean)) ∈ wsAll := wT_3 61 rfl rfl
set_option maxRecDepth 100000 in
theorem kw_663 : (Jvm.Cond.methodLink "GuardNetsLaw" (33 : Nat) ({ cls := "GuardNets", name := "erase", desc := "()I" } : Jvm.MethodName)) ∈ wsAll := wT_3 62 rfl rfl
set_option maxRecDepth 100000 in
theorem kw_664 : (Jvm.Cond.instanceMethod ({ cls := "GuardNets", name := "erase", desc := "()I" } : Jvm.MethodName)) ∈ wsAll := wT_3 63 rfl rfl
set_option maxRecDepth 100000 in
theorem kw_665 : (Jvm.Cond.selects "GuardNets" ({ cls := "GuardNets", name := "erase", desc := "()I" } : Jvm.MethodName) ({ cls := "GuardNets", name := "erase", desc := "()I" } : Jvm.MethodName)) ∈ wsAll := wT_3 64 rfl rfl
set_option maxRecDepth 100000 in
theorem kw_666 : (Jvm.Cond.code ({ cls := "GuardNets", name := "erase", desc := "()I" } : Jvm.MethodName) prog_1_method_6_code (2 : Nat) (Option.some Jvm.ClassFile.FieldType.int)) ∈ wsAll := wT_3 65 rfl rfl
set_option maxRecDepth 100000 in
theorem kw_667 : (Jvm.Cond.methodLink "GuardNetsLaw" (38 : Nat) ({ cls := "GuardNets", name := "make", desc := "(I)I" } : Jvm.MethodName)) ∈ wsAll := wT_3 66 rfl rfl
set_option maxRecDepth 100000 in
theorem kw_668 : (Jvm.Cond.instanceMethod ({ cls := "GuardNets", name := "make", desc := "(I)I" } : Jvm.MethodName)) ∈ wsAll := wT_3 67 rfl rfl
set_option maxRecDepth 100000 in
theorem kw_669 : (Jvm.Cond.selects "GuardNets" ({ cls := "GuardNets", name := "make", desc := "(I)I" } : Jvm.MethodName) ({ cls := "GuardNets", name := "make", desc := "(I)I" } : Jvm.MethodName)) ∈ wsAll := wT_3 68 rfl rfl
set_option maxRecDepth 100000 in
theorem kw_670 : (Jvm.Cond.code ({ cls := "GuardNets", name := "make", desc := "(I)I" } : Jvm.MethodName) prog_1_method_7_code (3 : Nat) (Option.some Jvm.ClassFile.FieldType.int)) ∈ wsAll := wT_3 69 rfl rfl
set_option maxRecDepth 100000 in
theorem kw_671 : (Jvm.Cond.methodLink "GuardNets" (124 : Nat) ({ cls := "GuardNets", name := "noNet", desc := "(I)Z" } : Jvm.MethodName)) ∈ wsAll := wT_3 70 rfl rfl
set_option maxRecDepth 100000 in
theorem kw_672 : (Jvm.Cond.static ({ cls := "GuardNets", name := "noNet", desc := "(I)Z" } : Jvm.MethodName)) ∈ wsAll := wT_3 71 rfl rfl
set_option maxRecDepth 100000 in
theorem kw_673 : (Jvm.Cond.code ({ cls := "GuardNets", name := "noNet", desc := "(I)Z" } : Jvm.MethodName) prog_1_method_52_code (1 : Nat) (Option.some Jvm.ClassFile.FieldType.boolean)) ∈ wsAll := wT_3 72 rfl rfl
set_option maxRecDepth 100000 in
theorem kw_674 : (Jvm.Cond.methodLink "GuardNets" (127 : Nat) ({ cls := "GuardNets$Reader", name := "readText", desc := "()I" } : Jvm.MethodName)) ∈ wsAll := wT_3 73 rfl rfl
set_option maxRecDepth 100000 in
theorem kw_675 : (Jvm.Cond.instanceMethod ({ cls := "GuardNets$Reader", name := "readText", desc := "()I" } : Jvm.MethodName)) ∈ wsAll := wT_3 74 rfl rfl
set_option maxRecDepth 100000 in
theorem kw_676 : (Jvm.Cond.selects "GuardNets$Reader" ({ cls := "GuardNets$Reader", name := "readText", desc := "()I" } : Jvm.MethodName) ({ cls := "GuardNets$Reader", name := "readText", desc := "()I" } : Jvm.MethodName)) ∈ wsAll := wT_3 75 rfl rfl
set_option maxRecDepth 100000 in
theorem kw_677 : (Jvm.Cond.code ({ cls := "GuardNets$Reader", name := "readText", desc := "()I" } : Jvm.MethodName) prog_9_method_2_code (4 : Nat) (Option.some Jvm.ClassFile.FieldType.int)) ∈ wsAll := wT_3 76 rfl rfl
set_option maxRecDepth 100000 in
theorem kw_678 : (Jvm.Cond.methodLink "GuardNets$Reader" (35 : Nat) ({ cls := "GuardNets$Reader", name := "readRow", desc := "(II)I" } : Jvm.MethodName)) ∈ wsAll := wT_3 77 rfl rfl
set_option maxRecDepth 100000 in
theorem kw_680 : (Jvm.Cond.instanceMethod ({ cls := "GuardNets$Reader", name := "readRow", desc := "(II)I" } : Jvm.MethodName)) ∈ wsAll := wT_3 79 rfl rfl
set_option maxRecDepth 100000 in
theorem kw_681 : (Jvm.Cond.code ({ cls := "GuardNets$Reader", name := "readRow", desc := "(II)I" } : Jvm.MethodName) prog_9_method_8_code (5 : Nat) (Option.some Jvm.ClassFile.FieldType.int)) ∈ wsAll := wT_3 80 rfl rfl
set_option maxRecDepth 100000 in
theorem kw_682 : (Jvm.Cond.methodLink "GuardNets$Reader" (56 : Nat) ({ cls := "GuardNets$Reader", name := "readInRow", desc := "(II)I" } : Jvm.MethodName)) ∈ wsAll := wT_3 81 rfl rfl
set_option maxRecDepth 100000 in
theorem kw_684 : (Jvm.Cond.instanceMethod ({ cls := "GuardNets$Reader", name := "readInRow", desc := "(II)I" } : Jvm.MethodName)) ∈ wsAll := wT_3 83 rfl rfl
set_option maxRecDepth 100000 in
theorem kw_685 : (Jvm.Cond.code ({ cls := "GuardNets$Reader", name := "readInRow", desc := "(II)I" } : Jvm.MethodName) prog_9_method_9_code (3 : Nat) (Option.some Jvm.ClassFile.FieldType.int)) ∈ wsAll := wT_3 84 rfl rfl
set_option maxRecDepth 100000 in
theorem kw_686 : (Jvm.Cond.methodLink "GuardNets$Reader" (71 : Nat) ({ cls := "GuardNets$Reader", name := "readPart", desc := "(I)I" } : Jvm.MethodName)) ∈ wsAll := wT_3 85 rfl rfl
set_option maxRecDepth 100000 in
theorem kw_688 : (Jvm.Cond.instanceMethod ({ cls := "GuardNets$Reader", name := "readPart", desc := "(I)I" } : Jvm.MethodName)) ∈ wsAll := wT_3 87 rfl rfl
set_option maxRecDepth 100000 in
theorem kw_689 : (Jvm.Cond.code ({ cls := "GuardNets$Reader", name := "readPart", desc := "(I)I" } : Jvm.MethodName) prog_9_method_10_code (3 : Nat) (Option.some Jvm.ClassFile.FieldType.int)) ∈ wsAll := wT_3 88 rfl rfl
set_option maxRecDepth 100000 in
theorem kw_690 : (Jvm.Cond.methodLink "GuardNets$Reader" (39 : Nat) ({ cls := "GuardNets$Reader", name := "next", desc := "()I" } : Jvm.MethodName)) ∈ wsAll := wT_3 89 rfl rfl
set_option maxRecDepth 100000 in
theorem kw_692 : (Jvm.Cond.instanceMethod ({ cls := "GuardNets$Reader", name := "next", desc := "()I" } : Jvm.MethodName)) ∈ wsAll := wT_3 91 rfl rfl
set_option maxRecDepth 100000 in
theorem kw_693 : (Jvm.Cond.code ({ cls := "GuardNets$Reader", name := "next", desc := "()I" } : Jvm.MethodName) prog_9_method_3_code (1 : Nat) (Option.some Jvm.ClassFile.FieldType.int)) ∈ wsAll := wT_3 92 rfl rfl
set_option maxRecDepth 100000 in
theorem kw_694 : (Jvm.Cond.methodLink "GuardNets$Reader" (74 : Nat) ({ cls := "GuardNets$Nets", name := "addLetter", desc := "(I)I" } : Jvm.MethodName)) ∈ wsAll := wT_3 93 rfl rfl
set_option maxRecDepth 100000 in
theorem kw_695 : (Jvm.Cond.instanceMethod ({ cls := "GuardNets$Nets", name := "addLetter", desc := "(I)I" } : Jvm.MethodName)) ∈ wsAll := wT_3 94 rfl rfl
set_option maxRecDepth 100000 in
theorem kw_696 : (Jvm.Cond.selects "GuardNets$Nets" ({ cls := "GuardNets$Nets", name := "addLetter", desc := "(I)I" } : Jvm.MethodName) ({ cls := "GuardNets$Nets", name := "addLetter", desc := "(I)I" } : Jvm.MethodName)) ∈ wsAll := wT_3 95 rfl rfl
set_option maxRecDepth 100000 in
theorem kw_697 : (Jvm.Cond.code ({ cls := "GuardNets$Nets", name := "addLetter", desc := "(I)I" } : Jvm.MethodName) prog_8_method_7_code (2 : Nat) (Option.some Jvm.ClassFile.FieldType.int)) ∈ wsAll := wT_3 96 rfl rfl
set_option maxRecDepth 100000 in
theorem kw_698 : (Jvm.Cond.methodLink "GuardNets$Nets" (68 : Nat) ({ cls := "GuardNets$Nets", name := "addKnot", desc := "(IIII)I" } : Jvm.MethodName)) ∈ wsAll := wT_3 97 rfl rfl
set_option maxRecDepth 100000 in
theorem kw_700 : (Jvm.Cond.instanceMethod ({ cls := "GuardNets$Nets", name := "addKnot", desc := "(IIII)I" } : Jvm.MethodName)) ∈ wsAll := wT_3 99 rfl rfl
set_option maxRecDepth 100000 in
theorem kw_701 : (Jvm.Cond.code ({ cls := "GuardNets$Nets", name := "addKnot", desc := "(IIII)I" } : Jvm.MethodName) prog_8_method_9_code (5 : Nat) (Option.some Jvm.ClassFile.FieldType.int)) ∈ wsAll := wT_3 100 rfl rfl
set_option maxRecDepth 100000 in
theorem kw_702 : (Jvm.Cond.methodLink "GuardNets$Reader" (77 : Nat) ({ cls := "GuardNets$Reader", name := "readDigit", desc := "(I)I" } : Jvm.MethodName)) ∈ wsAll := wT_3 101 rfl rfl
set_option maxRecDepth 100000 in
theorem kw_704 : (Jvm.Cond.instanceMethod ({ cls := "GuardNets$Reader", name := "readDigit", desc := "(I)I" } : Jvm.MethodName)) ∈ wsAll := wT_3 103 rfl rfl
set_option maxRecDepth 100000 in
theorem kw_705 : (Jvm.Cond.code ({ cls := "GuardNets$Reader", name := "readDigit", desc := "(I)I" } : Jvm.MethodName) prog_9_method_11_code (2 : Nat) (Option.some Jvm.ClassFile.FieldType.int)) ∈ wsAll := wT_3 104 rfl rfl
set_option maxRecDepth 100000 in
theorem kw_706 : (Jvm.Cond.methodLink "GuardNets$Reader" (43 : Nat) ({ cls := "GuardNets$Reader", name := "refuse", desc := "(II)I" } : Jvm.MethodName)) ∈ wsAll := wT_3 105 rfl rfl
set_option maxRecDepth 100000 in
theorem kw_708 : (Jvm.Cond.instanceMethod ({ cls := "GuardNets$Reader", name := "refuse", desc := "(II)I" } : Jvm.MethodName)) ∈ wsAll := wT_3 107 rfl rfl
set_option maxRecDepth 100000 in
theorem kw_709 : (Jvm.Cond.code ({ cls := "GuardNets$Reader", name := "refuse", desc := "(II)I" } : Jvm.MethodName) prog_9_method_4_code (3 : Nat) (Option.some Jvm.ClassFile.FieldType.int)) ∈ wsAll := wT_3 108 rfl rfl
set_option maxRecDepth 100000 in
theorem kw_710 : (Jvm.Cond.methodLink "GuardNets$Reader" (80 : Nat) ({ cls := "GuardNets$Reader", name := "refuseHere", desc := "()I" } : Jvm.MethodName)) ∈ wsAll := wT_3 109 rfl rfl
set_option maxRecDepth 100000 in
theorem kw_712 : (Jvm.Cond.instanceMethod ({ cls := "GuardNets$Reader", name := "refuseHere", desc := "()I" } : Jvm.MethodName)) ∈ wsAll := wT_3 111 rfl rfl
set_option maxRecDepth 100000 in
theorem kw_713 : (Jvm.Cond.code ({ cls := "GuardNets$Reader", name := "refuseHere", desc := "()I" } : Jvm.MethodName) prog_9_method_5_code (1 : Nat) (Option.some Jvm.ClassFile.FieldType.int)) ∈ wsAll := wT_3 112 rfl rfl
set_option maxRecDepth 100000 in
theorem kw_714 : (Jvm.Cond.methodLink "GuardNets$Reader" (83 : Nat) ({ cls := "GuardNets$Reader", name := "readInside", desc := "(I)I" } : Jvm.MethodName)) ∈ wsAll := wT_3 113 rfl rfl
set_option maxRecDepth 100000 in
theorem kw_716 : (Jvm.Cond.instanceMethod ({ cls := "GuardNets$Reader", name := "readInside", desc := "(I)I" } : Jvm.MethodName)) ∈ wsAll := wT_3 115 rfl rfl
set_option maxRecDepth 100000 in
theorem kw_717 : (Jvm.Cond.code ({ cls := "GuardNets$Reader", name := "readInside", desc := "(I)I" } : Jvm.MethodName) prog_9_method_12_code (3 : Nat) (Option.some Jvm.ClassFile.FieldType.int)) ∈ wsAll := wT_3 116 rfl rfl
set_option maxRecDepth 100000 in
theorem kw_718 : (Jvm.Cond.methodLink "GuardNets$Reader" (92 : Nat) ({ cls := "GuardNets$Reader", name := "closes", desc := "(I)Z" } : Jvm.MethodName)) ∈ wsAll := wT_3 117 rfl rfl
set_option maxRecDepth 100000 in
theorem kw_720 : (Jvm.Cond.instanceMethod ({ cls := "GuardNets$Reader", name := "closes", desc := "(I)Z" } : Jvm.MethodName)) ∈ wsAll := wT_3 119 rfl rfl
set_option maxRecDepth 100000 in
theorem kw_721 : (Jvm.Cond.code ({ cls := "GuardNets$Reader", name := "closes", desc := "(I)Z" } : Jvm.MethodName) prog_9_method_13_code (2 : Nat) (Option.some Jvm.ClassFile.FieldType.boolean)) ∈ wsAll := wT_3 120 rfl rfl
set_option maxRecDepth 100000 in
theorem kw_722 : (Jvm.Cond.methodLink "GuardNets$Reader" (86 : Nat) ({ cls := "GuardNets$Reader", name := "readSome", desc := "(I)I" } : Jvm.MethodName)) ∈ wsAll := wT_3 121 rfl rfl
set_option maxRecDepth 100000 in
theorem kw_724 : (Jvm.Cond.instanceMethod ({ cls := "GuardNets$Reader", name := "readSome", desc := "(I)I" } : Jvm.MethodName)) ∈ wsAll := wT_3 123 rfl rfl
set_option maxRecDepth 100000 in
theorem kw_725 : (Jvm.Cond.code ({ cls := "GuardNets$Reader", name := "readSome", desc := "(I)I" } : Jvm.MethodName) prog_9_method_14_code (7 : Nat) (Option.some Jvm.ClassFile.FieldType.int)) ∈ wsAll := wT_3 124 rfl rfl
set_option maxRecDepth 100000 in
theorem kw_726 : (Jvm.Cond.methodLink "GuardNets$Reader" (59 : Nat) ({ cls := "GuardNets$Reader", name := "hold", desc := "(I)V" } : Jvm.MethodName)) ∈ wsAll := wT_3 125 rfl rfl
set_option maxRecDepth 100000 in
theorem kw_728 : (Jvm.Cond.instanceMethod ({ cls := "GuardNets$Reader", name := "hold", desc := "(I)V" } : Jvm.MethodName)) ∈ wsAll := wT_3 127 rfl rfl
set_option maxRecDepth 100000 in
theorem kw_729 : (Jvm.Cond.code ({ cls := "GuardNets$Reader", name := "hold", desc := "(I)V" } : Jvm.MethodName) prog_9_method_6_code (2 : Nat) (Option.none : Option Jvm.ClassFile.FieldType)) ∈ wsAll := wT_3 128 rfl rfl
set_option maxRecDepth 100000 in
theorem kw_730 : (Jvm.Cond.methodLink "GuardNets$Reader" (67 : Nat) ({ cls := "GuardNets$Nets", name := "addRow", desc := "(II[III)I" } : Jvm.MethodName)) ∈ wsAll := wT_3 129 rfl rfl
set_option maxRecDepth 100000 in
theorem kw_731 : (Jvm.Cond.instanceMethod ({ cls := "GuardNets$Nets", name := "addRow", desc := "(II[III)I" } : Jvm.MethodName)) ∈ wsAll := wT_3 130 rfl rfl
set_option maxRecDepth 100000 in
theorem kw_732 : (Jvm.Cond.selects "GuardNets$Nets" ({ cls := "GuardNets$Nets", name := "addRow", desc := "(II[III)I" } : Jvm.MethodName) ({ cls := "GuardNets$Nets", name := "addRow", desc := "(II[III)I" } : Jvm.MethodName)) ∈ wsAll := wT_3 131 rfl rfl
set_option maxRecDepth 100000 in
theorem kw_733 : (Jvm.Cond.code ({ cls := "GuardNets$Nets", name := "addRow", desc := "(II[III)I" } : Jvm.MethodName) prog_8_method_8_code (9 : Nat) (Option.some Jvm.ClassFile.FieldType.int)) ∈ wsAll := wT_3 132 rfl rfl
set_option maxRecDepth 100000 in
theorem kw_734 : (Jvm.Cond.methodLink "GuardNets$Nets" (72 : Nat) ({ cls := "java/lang/Math", name := "max", desc := "(II)I" } : Jvm.MethodName)) ∈ wsAll := wT_3 133 rfl rfl
set_option maxRecDepth 100000 in
theorem kw_735 : (Jvm.Cond.static ({ cls := "java/lang/Math", name := "max", desc := "(II)I" } : Jvm.MethodName)) ∈ wsAll := wT_3 134 rfl rfl
set_option maxRecDepth 100000 in
theorem kw_736 : (Jvm.Cond.code ({ cls := "java/lang/Math", name := "max", desc := "(II)I" } : Jvm.MethodName) prog_18_method_65_code (2 : Nat) (Option.some Jvm.ClassFile.FieldType.int)) ∈ wsAll := wT_3 135 rfl rfl
set_option maxRecDepth 100000 in
theorem kw_737 : (Jvm.Cond.methodLink "GuardNets$Nets" (78 : Nat) ({ cls := "java/util/Arrays", name := "copyOf", desc := "([II)[I" } : Jvm.MethodName)) ∈ wsAll := wT_3 136 rfl rfl
set_option maxRecDepth 100000 in
theorem kw_738 : (Jvm.Cond.static ({ cls := "java/util/Arrays", name := "copyOf", desc := "([II)[I" } : Jvm.MethodName)) ∈ wsAll := wT_3 137 rfl rfl
set_option maxRecDepth 100000 in
theorem kw_739 : (Jvm.Cond.code ({ cls := "java/util/Arrays", name := "copyOf", desc := "([II)[I" } : Jvm.MethodName) prog_20_method_123_code (3 : Nat) (Option.some (Jvm.ClassFile.FieldType.array Jvm.ClassFile.FieldType.int))) ∈ wsAll := wT_3 138 rfl rfl
set_option maxRecDepth 100000 in
theorem kw_747 : (Jvm.Cond.methodLink "java/util/Arrays" (304 : Nat) ({ cls := "java/lang/Math", name := "min", desc := "(II)I" } : Jvm.MethodName)) ∈ wsAll := wT_3 146 rfl rfl
set_option maxRecDepth 100000 in
theorem kw_748 : (Jvm.Cond.static ({ cls := "java/lang/Math", name := "min", desc := "(II)I" } : Jvm.MethodName)) ∈ wsAll := wT_3 147 rfl rfl
set_option maxRecDepth 100000 in
theorem kw_749 : (Jvm.Cond.code ({ cls := "java/lang/Math", name := "min", desc := "(II)I" } : Jvm.MethodName) prog_18_method_69_code (2 : Nat) (Option.some Jvm.ClassFile.FieldType.int)) ∈ wsAll := wT_3 148 rfl rfl
set_option maxRecDepth 100000 in
theorem kw_750 : (Jvm.Cond.methodLink "java/util/Arrays" (150 : Nat) ({ cls := "java/lang/System", name := "arraycopy", desc := "(Ljava/lang/Object;ILjava/lang/Object;II)V" } : Jvm.MethodName)) ∈ wsAll := wT_3 149 rfl rfl
set_option maxRecDepth 100000 in
theorem kw_751 : (Jvm.Cond.static ({ cls := "java/lang/System", name := "arraycopy", desc := "(Ljava/lang/Object;ILjava/lang/Object;II)V" } : Jvm.MethodName)) ∈ wsAll := wT_3 150 rfl rfl
set_option maxRecDepth 100000 in
theorem kw_752 : (Jvm.Cond.native ({ cls := "java/lang/System", name := "arraycopy", desc := "(Ljava/lang/Object;ILjava/lang/Object;II)V" } : Jvm.MethodName)) ∈ wsAll := wT_3 151 rfl rfl
set_option maxRecDepth 100000 in
theorem kw_753 : (Jvm.Cond.methodLink "GuardNets$Reader" (63 : Nat) ({ cls := "GuardNets$Reader", name := "separator", desc := "(I)I" } : Jvm.MethodName)) ∈ wsAll := wT_3 152 rfl rfl
set_option maxRecDepth 100000 in
theorem kw_754 : (Jvm.Cond.static ({ cls := "GuardNets$Reader", name := "separator", desc := "(I)I" } : Jvm.MethodName)) ∈ wsAll := wT_3 153 rfl rfl
set_option maxRecDepth 100000 in
theorem kw_755 : (Jvm.Cond.code ({ cls := "GuardNets$Reader", name := "separator", desc := "(I)I" } : Jvm.MethodName) prog_9_method_7_code (1 : Nat) (Option.some Jvm.ClassFile.FieldType.int)) ∈ wsAll := wT_3 154 rfl rfl
set_option maxRecDepth 100000 in
theorem kw_756 : (Jvm.Cond.methodLink "GuardNets$Reader" (49 : Nat) ({ cls := "GuardNets$Nets", name := "shrinkTo", desc := "(II)V" } : Jvm.MethodName)) ∈ wsAll := wT_3 155 rfl rfl
set_option maxRecDepth 100000 in
theorem kw_757 : (Jvm.Cond.instanceMethod ({ cls := "GuardNets$Nets", name := "shrinkTo", desc := "(II)V" } : Jvm.MethodName)) ∈ wsAll := wT_3 156 rfl rfl
set_option maxRecDepth 100000 in
theorem kw_758 : (Jvm.Cond.selects "GuardNets$Nets" ({ cls := "GuardNets$Nets", name := "shrinkTo", desc := "(II)V" } : Jvm.MethodName) ({ cls := "GuardNets$Nets", name := "shrinkTo", desc := "(II)V" } : Jvm.MethodName)) ∈ wsAll := wT_3 157 rfl rfl
set_option maxRecDepth 100000 in
theorem kw_759 : (Jvm.Cond.code ({ cls := "GuardNets$Nets", name := "shrinkTo", desc := "(II)V" } : Jvm.MethodName) prog_8_method_4_code (3 : Nat) (Option.none : Option Jvm.ClassFile.FieldType)) ∈ wsAll := wT_3 158 rfl rfl
set_option maxRecDepth 100000 in
theorem kw_760 : (Jvm.Cond.methodLink "GuardNetsLaw" (42 : Nat) ({ cls := "GuardNets", name := "clear", desc := "()I" } : Jvm.MethodName)) ∈ wsAll := wT_3 159 rfl rfl
set_option maxRecDepth 100000 in
theorem kw_761 : (Jvm.Cond.instanceMethod ({ cls := "GuardNets", name := "clear", desc := "()I" } : Jvm.MethodName)) ∈ wsAll := wT_3 160 rfl rfl
set_option maxRecDepth 100000 in
theorem kw_762 : (Jvm.Cond.selects "GuardNets" ({ cls := "GuardNets", name := "clear", desc := "()I" } : Jvm.MethodName) ({ cls := "GuardNets", name := "clear", desc := "()I" } : Jvm.MethodName)) ∈ wsAll := wT_3 161 rfl rfl
set_option maxRecDepth 100000 in
theorem kw_763 : (Jvm.Cond.code ({ cls := "GuardNets", name := "clear", desc := "()I" } : Jvm.MethodName) prog_1_method_8_code (2 : Nat) (Option.some Jvm.ClassFile.FieldType.int)) ∈ wsAll := wT_3 162 rfl rfl
set_option maxRecDepth 100000 in
theorem kw_764 : (Jvm.Cond.methodLink "GuardNets" (141 : Nat) ({ cls := "GuardNets$Nets", name := "forget", desc := "()V" } : Jvm.MethodName)) ∈ wsAll := wT_3 163 rfl rfl
set_option maxRecDepth 100000 in
theorem kw_765 : (Jvm.Cond.instanceMethod ({ cls := "GuardNets$Nets", name := "forget", desc := "()V" } : Jvm.MethodName)) ∈ wsAll := wT_3 164 rfl rfl
set_option maxRecDepth 100000 in
theorem kw_766 : (Jvm.Cond.selects "GuardNets$Nets" ({ cls := "GuardNets$Nets", name := "forget", desc := "()V" } : Jvm.MethodName) ({ cls := "GuardNets$Nets", name := "forget", desc := "()V" } : Jvm.MethodName)) ∈ wsAll := wT_3 165 rfl rfl
set_option maxRecDepth 100000 in
theorem kw_767 : (Jvm.Cond.code ({ cls := "GuardNets$Nets", name := "forget", desc := "()V" } : Jvm.MethodName) prog_8_method_3_code (1 : Nat) (Option.none : Option Jvm.ClassFile.FieldType)) ∈ wsAll := wT_3 166 rfl rfl
set_option maxRecDepth 100000 in
theorem kw_768 : (Jvm.Cond.methodLink "GuardNets$Nets" (64 : Nat) ({ cls := "GuardNets$Nets", name := "shrinkTo", desc := "(II)V" } : Jvm.MethodName)) ∈ wsAll := wT_3 167 rfl rfl
set_option maxRecDepth 100000 in
theorem kw_769 : (Jvm.Cond.methodLink "GuardNets" (144 : Nat) ({ cls := "GuardNets$Tables", name := "forget", desc := "()V" } : Jvm.MethodName)) ∈ wsAll := wT_3 168 rfl rfl
set_option maxRecDepth 100000 in
theorem kw_770 : (Jvm.Cond.instanceMethod ({ cls := "GuardNets$Tables", name := "forget", desc := "()V" } : Jvm.MethodName)) ∈ wsAll := wT_3 169 rfl rfl
set_option maxRecDepth 100000 in
theorem kw_771 : (Jvm.Cond.selects "GuardNets$Tables" ({ cls := "GuardNets$Tables", name := "forget", desc := "()V" } : Jvm.MethodName) ({ cls := "GuardNets$Tables", name := "forget", desc := "()V" } : Jvm.MethodName)) ∈ wsAll := wT_3 170 rfl rfl
set_option maxRecDepth 100000 in
theorem kw_772 : (Jvm.Cond.code ({ cls := "GuardNets$Tables", name := "forget", desc := "()V" } : Jvm.MethodName) prog_10_method_2_code (1 : Nat) (Option.none : Option Jvm.ClassFile.FieldType)) ∈ wsAll := wT_3 171 rfl rfl
set_option maxRecDepth 100000 in
theorem kw_773 : (Jvm.Cond.methodLink "GuardNets$Tables" (66 : Nat) ({ cls := "java/util/Arrays", name := "fill", desc := "([II)V" } : Jvm.MethodName)) ∈ wsAll := wT_3 172 rfl rfl
set_option maxRecDepth 100000 in
theorem kw_774 : (Jvm.Cond.methodLink "GuardNets" (145 : Nat) ({ cls := "GuardNets$Ways", name := "forget", desc := "()V" } : Jvm.MethodName)) ∈ wsAll := wT_3 173 rfl rfl
set_option maxRecDepth 100000 in
theorem kw_775 : (Jvm.Cond.instanceMethod ({ cls := "GuardNets$Ways", name := "forget", desc := "()V" } : Jvm.MethodName)) ∈ wsAll := wT_3 174 rfl rfl
set_option maxRecDepth 100000 in
theorem kw_776 : (Jvm.Cond.selects "GuardNets$Ways" ({ cls := "GuardNets$Ways", name := "forget", desc := "()V" } : Jvm.MethodName) ({ cls := "GuardNets$Ways", name := "forget", desc := "()V" } : Jvm.MethodName)) ∈ wsAll := wT_3 175 rfl rfl
set_option maxRecDepth 100000 in
theorem kw_777 : (Jvm.Cond.code ({ cls := "GuardNets$Ways", name := "forget", desc := "()V" } : Jvm.MethodName) prog_12_method_2_code (1 : Nat) (Option.none : Option Jvm.ClassFile.FieldType)) ∈ wsAll := wT_3 176 rfl rfl
set_option maxRecDepth 100000 in
theorem kw_778 : (Jvm.Cond.methodLink "GuardNets" (146 : Nat) ({ cls := "GuardNets$Diagram", name := "forget", desc := "()V" } : Jvm.MethodName)) ∈ wsAll := wT_3 177 rfl rfl
set_option maxRecDepth 100000 in
theorem kw_779 : (Jvm.Cond.instanceMethod ({ cls := "GuardNets$Diagram", name := "forget", desc := "()V" } : Jvm.MethodName)) ∈ wsAll := wT_3 178 rfl rfl
set_option maxRecDepth 100000 in
theorem kw_780 : (Jvm.Cond.selects "GuardNets$Diagram" ({ cls := "GuardNets$Diagram", name := "forget", desc := "()V" } : Jvm.MethodName) ({ cls := "GuardNets$Diagram", name := "forget", desc := "()V" } : Jvm.MethodName)) ∈ wsAll := wT_3 179 rfl rfl
set_option maxRecDepth 100000 in
theorem kw_781 : (Jvm.Cond.code ({ cls := "GuardNets$Diagram", name := "forget", desc := "()V" } : Jvm.MethodName) prog_2_method_2_code (1 : Nat) (Option.none : Option Jvm.ClassFile.FieldType)) ∈ wsAll := wT_3 180 rfl rfl
set_option maxRecDepth 100000 in
theorem kw_782 : (Jvm.Cond.methodLink "GuardNetsLaw" (46 : Nat) ({ cls := "GuardNets", name := "knot", desc := "(II)I" } : Jvm.MethodName)) ∈ wsAll := wT_3 181 rfl rfl
set_option maxRecDepth 100000 in
theorem kw_783 : (Jvm.Cond.instanceMethod ({ cls := "GuardNets", name := "knot", desc := "(II)I" } : Jvm.MethodName)) ∈ wsAll := wT_3 182 rfl rfl
set_option maxRecDepth 100000 in
theorem kw_784 : (Jvm.Cond.selects "GuardNets" ({ cls := "GuardNets", name := "knot", desc := "(II)I" } : Jvm.MethodName) ({ cls := "GuardNets", name := "knot", desc := "(II)I" } : Jvm.MethodName)) ∈ wsAll := wT_3 183 rfl rfl
set_option maxRecDepth 100000 in
theorem kw_785 : (Jvm.Cond.code ({ cls := "GuardNets", name := "knot", desc := "(II)I" } : Jvm.MethodName) prog_1_method_9_code (4 : Nat) (Option.some Jvm.ClassFile.FieldType.int)) ∈ wsAll := wT_3 184 rfl rfl
set_option maxRecDepth 100000 in
theorem kw_786 : (Jvm.Cond.methodLink "GuardNetsLaw" (50 : Nat) ({ cls := "GuardNets", name := "part", desc := "(II)I" } : Jvm.MethodName)) ∈ wsAll := wT_3 185 rfl rfl
set_option maxRecDepth 100000 in
theorem kw_787 : (Jvm.Cond.instanceMethod ({ cls := "GuardNets", name := "part", desc := "(II)I" } : Jvm.MethodName)) ∈ wsAll := wT_3 186 rfl rfl
set_option maxRecDepth 100000 in
theorem kw_788 : (Jvm.Cond.selects "GuardNets" ({ cls := "GuardNets", name := "part", desc := "(II)I" } : Jvm.MethodName) ({ cls := "GuardNets", name := "part", desc := "(II)I" } : Jvm.MethodName)) ∈ wsAll := wT_3 187 rfl rfl
set_option maxRecDepth 100000 in
theorem kw_789 : (Jvm.Cond.code ({ cls := "GuardNets", name := "part", desc := "(II)I" } : Jvm.MethodName) prog_1_method_10_code (3 : Nat) (Option.some Jvm.ClassFile.FieldType.int)) ∈ wsAll := wT_3 188 rfl rfl
set_option maxRecDepth 100000 in
theorem kw_790 : (Jvm.Cond.methodLink "GuardNets" (159 : Nat) ({ cls := "GuardNets$Nets", name := "partOf", desc := "(II)I" } : Jvm.MethodName)) ∈ wsAll := wT_3 189 rfl rfl
set_option maxRecDepth 100000 in
theorem kw_791 : (Jvm.Cond.instanceMethod ({ cls := "GuardNets$Nets", name := "partOf", desc := "(II)I" } : Jvm.MethodName)) ∈ wsAll := wT_3 190 rfl rfl
set_option maxRecDepth 100000 in
theorem kw_792 : (Jvm.Cond.selects "GuardNets$Nets" ({ cls := "GuardNets$Nets", name := "partOf", desc := "(II)I" } : Jvm.MethodName) ({ cls := "GuardNets$Nets", name := "partOf", desc := "(II)I" } : Jvm.MethodName)) ∈ wsAll := wT_3 191 rfl rfl
set_option maxRecDepth 100000 in
theorem kw_793 : (Jvm.Cond.code ({ cls := "GuardNets$Nets", name := "partOf", desc := "(II)I" } : Jvm.MethodName) prog_8_method_6_code (3 : Nat) (Option.some Jvm.ClassFile.FieldType.int)) ∈ wsAll := wT_3 192 rfl rfl
set_option maxRecDepth 100000 in
theorem kw_794 : (Jvm.Cond.methodLink "GuardNetsLaw" (54 : Nat) ({ cls := "GuardNets", name := "reaches", desc := "(II)I" } : Jvm.MethodName)) ∈ wsAll := wT_3 193 rfl rfl
set_option maxRecDepth 100000 in
theorem kw_795 : (Jvm.Cond.instanceMethod ({ cls := "GuardNets", name := "reaches", desc := "(II)I" } : Jvm.MethodName)) ∈ wsAll := wT_3 194 rfl rfl
set_option maxRecDepth 100000 in
theorem kw_796 : (Jvm.Cond.selects "GuardNets" ({ cls := "GuardNets", name := "reaches", desc := "(II)I" } : Jvm.MethodName) ({ cls := "GuardNets", name := "reaches", desc := "(II)I" } : Jvm.MethodName)) ∈ wsAll := wT_3 195 rfl rfl
set_option maxRecDepth 100000 in
theorem kw_797 : (Jvm.Cond.code ({ cls := "GuardNets", name := "reaches", desc := "(II)I" } : Jvm.MethodName) prog_1_method_11_code (4 : Nat) (Option.some Jvm.ClassFile.FieldType.int)) ∈ wsAll := wT_3 196 rfl rfl
set_option maxRecDepth 100000 in
theorem kw_798 : (Jvm.Cond.constant "GuardNets" (162 : Nat) (65535 : Int32)) ∈ wsAll := wT_3 197 rfl rfl
set_option maxRecDepth 100000 in
theorem kw_799 : (Jvm.Cond.methodLink "GuardNets" (163 : Nat) ({ cls := "GuardNets$Nets", name := "isReachedBy", desc := "(II)Z" } : Jvm.MethodName)) ∈ wsAll := wT_3 198 rfl rfl
set_option maxRecDepth 100000 in
theorem kw_800 : (Jvm.Cond.instanceMethod ({ cls := "GuardNets$Nets", name := "isReachedBy", desc := "(II)Z" } : Jvm.MethodName)) ∈ wsAll := wT_3 199 rfl rfl
set_option maxRecDepth 100000 in
theorem kw_801 : (Jvm.Cond.selects "GuardNets$Nets" ({ cls := "GuardNets$Nets", name := "isReachedBy", desc := "(II)Z" } : Jvm.MethodName) ({ cls := "GuardNets$Nets", name := "isReachedBy", desc := "(II)Z" } : Jvm.MethodName)) ∈ wsAll := wT_3 200 rfl rfl
set_option maxRecDepth 100000 in
theorem kw_802 : (Jvm.Cond.code ({ cls := "GuardNets$Nets", name := "isReachedBy", desc := "(II)Z" } : Jvm.MethodName) prog_8_method_11_code (4 : Nat) (Option.some Jvm.ClassFile.FieldType.boolean)) ∈ wsAll := wT_3 201 rfl rfl
set_option maxRecDepth 100000 in
theorem kw_803 : (Jvm.Cond.methodLink "GuardNets$Nets" (82 : Nat) ({ cls := "GuardNets$Nets", name := "knotIsOn", desc := "(II)Z" } : Jvm.MethodName)) ∈ wsAll := wT_3 202 rfl rfl
set_option maxRecDepth 100000 in
theorem kw_805 : (Jvm.Cond.instanceMethod ({ cls := "GuardNets$Nets", name := "knotIsOn", desc := "(II)Z" } : Jvm.MethodName)) ∈ wsAll := wT_3 204 rfl rfl
set_option maxRecDepth 100000 in
theorem kw_806 : (Jvm.Cond.code ({ cls := "GuardNets$Nets", name := "knotIsOn", desc := "(II)Z" } : Jvm.MethodName) prog_8_method_12_code (5 : Nat) (Option.some Jvm.ClassFile.FieldType.boolean)) ∈ wsAll := wT_3 205 rfl rfl
set_option maxRecDepth 100000 in
theorem kw_807 : (Jvm.Cond.methodLink "GuardNets$Nets" (86 : Nat) ({ cls := "GuardNets$Nets", name := "partOf", desc := "(II)I" } : Jvm.MethodName)) ∈ wsAll := wT_3 206 rfl rfl
set_option maxRecDepth 100000 in
theorem kw_808 : (Jvm.Cond.methodLink "GuardNets$Nets" (89 : Nat) ({ cls := "GuardNets$Nets", name := "enough", desc := "(I)I" } : Jvm.MethodName)) ∈ wsAll := wT_3 207 rfl rfl
set_option maxRecDepth 100000 in
theorem kw_809 : (Jvm.Cond.instanceMethod ({ cls := "GuardNets$Nets", name := "enough", desc := "(I)I" } : Jvm.MethodName)) ∈ wsAll := wT_3 208 rfl rfl
set_option maxRecDepth 100000 in
theorem kw_810 : (Jvm.Cond.selects "GuardNets$Nets" ({ cls := "GuardNets$Nets", name := "enough", desc := "(I)I" } : Jvm.MethodName) ({ cls := "GuardNets$Nets", name := "enough", desc := "(I)I" } : Jvm.MethodName)) ∈ wsAll := wT_3 209 rfl rfl
set_option maxRecDepth 100000 in
theorem kw_811 : (Jvm.Cond.code ({ cls := "GuardNets$Nets", name := "enough", desc := "(I)I" } : Jvm.MethodName) prog_8_method_10_code (2 : Nat) (Option.some Jvm.ClassFile.FieldType.int)) ∈ wsAll := wT_3 210 rfl rfl
set_option maxRecDepth 100000 in
theorem kw_812 : (Jvm.Cond.methodLink "GuardNetsLaw" (58 : Nat) ({ cls := "GuardNets", name := "ways", desc := "(I)I" } : Jvm.MethodName)) ∈ wsAll := wT_3 211 rfl rfl
set_option maxRecDepth 100000 in
theorem kw_813 : (Jvm.Cond.instanceMethod ({ cls := "GuardNets", name := "ways", desc := "(I)I" } : Jvm.MethodName)) ∈ wsAll := wT_3 212 rfl rfl
set_option maxRecDepth 100000 in
theorem kw_814 : (Jvm.Cond.selects "GuardNets" ({ cls := "GuardNets", name := "ways", desc := "(I)I" } : Jvm.MethodName) ({ cls := "GuardNets", name := "ways", desc := "(I)I" } : Jvm.MethodName)) ∈ wsAll := wT_3 213 rfl rfl
set_option maxRecDepth 100000 in
theorem kw_815 : (Jvm.Cond.code ({ cls := "GuardNets", name := "ways", desc := "(I)I" } : Jvm.MethodName) prog_1_method_12_code (3 : Nat) (Option.some Jvm.ClassFile.FieldType.int)) ∈ wsAll := wT_3 214 rfl rfl
set_option maxRecDepth 100000 in
theorem kw_816 : (Jvm.Cond.methodLink "GuardNets" (167 : Nat) ({ cls := "GuardNets$Ways", name := "listAll", desc := "(I)Z" } : Jvm.MethodName)) ∈ wsAll := wT_3 215 rfl rfl
set_option maxRecDepth 100000 in
theorem kw_817 : (Jvm.Cond.instanceMethod ({ cls := "GuardNets$Ways", name := "listAll", desc := "(I)Z" } : Jvm.MethodName)) ∈ wsAll := wT_3 216 rfl rfl
set_option maxRecDepth 100000 in
theorem kw_818 : (Jvm.Cond.selects "GuardNets$Ways" ({ cls := "GuardNets$Ways", name := "listAll", desc := "(I)Z" } : Jvm.MethodName) ({ cls := "GuardNets$Ways", name := "listAll", desc := "(I)Z" } : Jvm.MethodName)) ∈ wsAll := wT_3 217 rfl rfl
set_option maxRecDepth 100000 in
theorem kw_819 : (Jvm.Cond.code ({ cls := "GuardNets$Ways", name := "listAll", desc := "(I)Z" } : Jvm.MethodName) prog_12_method_3_code (2 : Nat) (Option.some Jvm.ClassFile.FieldType.boolean)) ∈ wsAll := wT_3 218 rfl rfl
set_option maxRecDepth 100000 in
theorem kw_820 : (Jvm.Cond.methodLink "GuardNets$Ways" (44 : Nat) ({ cls := "GuardNets$Tables", name := "fillFor", desc := "(I)V" } : Jvm.MethodName)) ∈ wsAll := wT_3 219 rfl rfl
set_option maxRecDepth 100000 in
theorem kw_821 : (Jvm.Cond.instanceMethod ({ cls := "GuardNets$Tables", name := "fillFor", desc := "(I)V" } : Jvm.MethodName)) ∈ wsAll := wT_3 220 rfl rfl
set_option maxRecDepth 100000 in
theorem kw_822 : (Jvm.Cond.selects "GuardNets$Tables" ({ cls := "GuardNets$Tables", name := "fillFor", desc := "(I)V" } : Jvm.MethodName) ({ cls := "GuardNets$Tables", name := "fillFor", desc := "(I)V" } : Jvm.MethodName)) ∈ wsAll := wT_3 221 rfl rfl
set_option maxRecDepth 100000 in
theorem kw_823 : (Jvm.Cond.code ({ cls := "GuardNets$Tables", name := "fillFor", desc := "(I)V" } : Jvm.MethodName) prog_10_method_3_code (3 : Nat) (Option.none : Option Jvm.ClassFile.FieldType)) ∈ wsAll := wT_3 222 rfl rfl
set_option maxRecDepth 100000 in
theorem kw_824 : (Jvm.Cond.methodLink "GuardNets$Tables" (75 : Nat) ({ cls := "GuardNets$Tables", name := "rankSteps", desc := "(I)V" } : Jvm.MethodName)) ∈ wsAll := wT_3 223 rfl rfl
set_option maxRecDepth 100000 in
theorem kw_826 : (Jvm.Cond.instanceMethod ({ cls := "GuardNets$Tables", name := "rankSteps", desc := "(I)V" } : Jvm.MethodName)) ∈ wsAll := wT_3 225 rfl rfl
set_option maxRecDepth 100000 in
theorem kw_827 : (Jvm.Cond.code ({ cls := "GuardNets$Tables", name := "rankSteps", desc := "(I)V" } : Jvm.MethodName) prog_10_method_4_code (3 : Nat) (Option.none : Option Jvm.ClassFile.FieldType)) ∈ wsAll := wT_3 226 rfl rfl
set_option maxRecDepth 100000 in
theorem kw_828 : (Jvm.Cond.methodLink "GuardNets$Tables" (79 : Nat) ({ cls := "GuardNets$Tables", name := "fillStep", desc := "(I)V" } : Jvm.MethodName)) ∈ wsAll := wT_3 227 rfl rfl
set_option maxRecDepth 100000 in
theorem kw_830 : (Jvm.Cond.instanceMethod ({ cls := "GuardNets$Tables", name := "fillStep", desc := "(I)V" } : Jvm.MethodName)) ∈ wsAll := wT_3 229 rfl rfl
set_option maxRecDepth 100000 in
theorem kw_831 : (Jvm.Cond.code ({ cls := "GuardNets$Tables", name := "fillStep", desc := "(I)V" } : Jvm.MethodName) prog_10_method_5_code (3 : Nat) (Option.none : Option Jvm.ClassFile.FieldType)) ∈ wsAll := wT_3 230 rfl rfl
set_option maxRecDepth 100000 in
theorem kw_832 : (Jvm.Cond.fieldLink "GuardNets$Tables" (98 : Nat) "GuardNets$Tables" "STRIPES" "[J") ∈ wsAll := wT_3 231 rfl rfl
set_option maxRecDepth 100000 in
theorem kw_834 : (Jvm.Cond.methodLink "GuardNets$Tables" (101 : Nat) ({ cls := "GuardNets$Tables", name := "hasRank", desc := "(II)Z" } : Jvm.MethodName)) ∈ wsAll := wT_3 233 rfl rfl
set_option maxRecDepth 100000 in
theorem kw_835 : (Jvm.Cond.static ({ cls := "GuardNets$Tables", name := "hasRank", desc := "(II)Z" } : Jvm.MethodName)) ∈ wsAll := wT_3 234 rfl rfl
set_option maxRecDepth 100000 in
theorem kw_836 : (Jvm.Cond.code ({ cls := "GuardNets$Tables", name := "hasRank", desc := "(II)Z" } : Jvm.MethodName) prog_10_method_6_code (2 : Nat) (Option.some Jvm.ClassFile.FieldType.boolean)) ∈ wsAll := wT_3 235 rfl rfl
set_option maxRecDepth 100000 in
theorem kw_837 : (Jvm.Cond.constantLong "GuardNets$Tables" (105 : Nat) (-1 : Int64)) ∈ wsAll := wT_3 236 rfl rfl
set_option maxRecDepth 100000 in
theorem kw_838 : (Jvm.Cond.methodLink "GuardNets$Tables" (82 : Nat) ({ cls := "GuardNets$Tables", name := "markNeeded", desc := "()V" } : Jvm.MethodName)) ∈ wsAll := wT_3 237 rfl rfl
set_option maxRecDepth 100000 in
theorem kw_840 : (Jvm.Cond.instanceMethod ({ cls := "GuardNets$Tables", name := "markNeeded", desc := "()V" } : Jvm.MethodName)) ∈ wsAll := wT_3 239 rfl rfl
set_option maxRecDepth 100000 in
theorem kw_841 : (Jvm.Cond.code ({ cls := "GuardNets$Tables", name := "markNeeded", desc := "()V" } : Jvm.MethodName) prog_10_method_7_code (5 : Nat) (Option.none : Option Jvm.ClassFile.FieldType)) ∈ wsAll := wT_4 0 rfl rfl
set_option maxRecDepth 100000 in
theorem kw_842 : (Jvm.Cond.methodLink "GuardNets$Tables" (107 : Nat) ({ cls := "GuardNets$Nets", name := "partOf", desc := "(II)I" } : Jvm.MethodName)) ∈ wsAll := wT_4 1 rfl rfl
set_option maxRecDepth 100000 in
theorem kw_843 : (Jvm.Cond.methodLink "GuardNets$Tables" (91 : Nat) ({ cls := "GuardNets$Tables", name := "fillKnot", desc := "(I)V" } : Jvm.MethodName)) ∈ wsAll := wT_4 2 rfl rfl
set_option maxRecDepth 100000 in
theorem kw_845 : (Jvm.Cond.instanceMethod ({ cls := "GuardNets$Tables", name := "fillKnot", desc := "(I)V" } : Jvm.MethodName)) ∈ wsAll := wT_4 4 rfl rfl
set_option maxRecDepth 100000 in
theorem kw_846 : (Jvm.Cond.code ({ cls := "GuardNets$Tables", name := "fillKnot", desc := "(I)V" } : Jvm.MethodName) prog_10_method_8_code (5 : Nat) (Option.none : Option Jvm.ClassFile.FieldType)) ∈ wsAll := wT_4 5 rfl rfl
set_option maxRecDepth 100000 in
theorem kw_847 : (Jvm.Cond.methodLink "GuardNets$Tables" (111 : Nat) ({ cls := "GuardNets$Tables", name := "fillSome", desc := "(I)V" } : Jvm.MethodName)) ∈ wsAll := wT_4 6 rfl rfl
set_option maxRecDepth 100000 in
theorem kw_849 : (Jvm.Cond.instanceMethod ({ cls := "GuardNets$Tables", name := "fillSome", desc := "(I)V" } : Jvm.MethodName)) ∈ wsAll := wT_4 8 rfl rfl
set_option maxRecDepth 100000 in
theorem kw_850 : (Jvm.Cond.code ({ cls := "GuardNets$Tables", name := "fillSome", desc := "(I)V" } : Jvm.MethodName) prog_10_method_10_code (8 : Nat) (Option.none : Option Jvm.ClassFile.FieldType)) ∈ wsAll := wT_4 9 rfl rfl
set_option maxRecDepth 100000 in
theorem kw_851 : (Jvm.Cond.methodLink "GuardNets$Tables" (120 : Nat) ({ cls := "java/lang/Math", name := "min", desc := "(II)I" } : Jvm.MethodName)) ∈ wsAll := wT_4 10 rfl rfl
set_option maxRecDepth 100000 in
theorem kw_852 : (Jvm.Cond.methodLink "GuardNets$Tables" (125 : Nat) ({ cls := "java/util/Arrays", name := "fill", desc := "([JJ)V" } : Jvm.MethodName)) ∈ wsAll := wT_4 11 rfl rfl
set_option maxRecDepth 100000 in
theorem kw_853 : (Jvm.Cond.static ({ cls := "java/util/Arrays", name := "fill", desc := "([JJ)V" } : Jvm.MethodName)) ∈ wsAll := wT_4 12 rfl rfl
set_option maxRecDepth 100000 in
theorem kw_854 : (Jvm.Cond.code ({ cls := "java/util/Arrays", name := "fill", desc := "([JJ)V" } : Jvm.MethodName) prog_20_method_101_code (5 : Nat) (Option.none : Option Jvm.ClassFile.FieldType)) ∈ wsAll := wT_4 13 rfl rfl
set_option maxRecDepth 100000 in
theorem kw_855 : (Jvm.Cond.methodLink "GuardNets$Tables" (114 : Nat) ({ cls := "GuardNets$Tables", name := "fillRow", desc := "(I)V" } : Jvm.MethodName)) ∈ wsAll := wT_4 14 rfl rfl
set_option maxRecDepth 100000 in
theorem kw_857 : (Jvm.Cond.instanceMethod ({ cls := "GuardNets$Tables", name := "fillRow", desc := "(I)V" } : Jvm.MethodName)) ∈ wsAll := wT_4 16 rfl rfl
set_option maxRecDepth 100000 in
theorem kw_858 : (Jvm.Cond.code ({ cls := "GuardNets$Tables", name := "fillRow", desc := "(I)V" } : Jvm.MethodName) prog_10_method_9_code (7 : Nat) (Option.none : Option Jvm.ClassFile.FieldType)) ∈ wsAll := wT_4 17 rfl rfl
set_option maxRecDepth 100000 in
theorem kw_859 : (Jvm.Cond.methodLink "GuardNets$Tables" (94 : Nat) ({ cls := "GuardNets$Tables", name := "countLeast", desc := "(I)I" } : Jvm.MethodName)) ∈ wsAll := wT_4 18 rfl rfl
set_option maxRecDepth 100000 in
theorem kw_861 : (Jvm.Cond.instanceMethod ({ cls := "GuardNets$Tables", name := "countLeast", desc := "(I)I" } : Jvm.MethodName)) ∈ wsAll := wT_4 20 rfl rfl
set_option maxRecDepth 100000 in
theorem kw_862 : (Jvm.Cond.code ({ cls := "GuardNets$Tables", name := "countLeast", desc := "(I)I" } : Jvm.MethodName) prog_10_method_11_code (4 : Nat) (Option.some Jvm.ClassFile.FieldType.int)) ∈ wsAll := wT_4 21 rfl rfl
set_option maxRecDepth 100000 in
theorem kw_863 : (Jvm.Cond.methodLink "GuardNets$Tables" (128 : Nat) ({ cls := "GuardNets$Tables", name := "leastWord", desc := "(II)J" } : Jvm.MethodName)) ∈ wsAll := wT_4 22 rfl rfl
set_option maxRecDepth 100000 in
theorem kw_864 : (Jvm.Cond.instanceMethod ({ cls := "GuardNets$Tables", name := "leastWord", desc := "(II)J" } : Jvm.MethodName)) ∈ wsAll := wT_4 23 rfl rfl
set_option maxRecDepth 100000 in
theorem kw_865 : (Jvm.Cond.selects "GuardNets$Tables" ({ cls := "GuardNets$Tables", name := "leastWord", desc := "(II)J" } : Jvm.MethodName) ({ cls := "GuardNets$Tables", name := "leastWord", desc := "(II)J" } : Jvm.MethodName)) ∈ wsAll := wT_4 24 rfl rfl
set_option maxRecDepth 100000 in
theorem kw_866 : (Jvm.Cond.code ({ cls := "GuardNets$Tables", name := "leastWord", desc := "(II)J" } : Jvm.MethodName) prog_10_method_12_code (9 : Nat) (Option.some Jvm.ClassFile.FieldType.long)) ∈ wsAll := wT_4 25 rfl rfl
set_option maxRecDepth 100000 in
theorem kw_867 : (Jvm.Cond.methodLink "GuardNets$Tables" (132 : Nat) ({ cls := "java/lang/Long", name := "bitCount", desc := "(J)I" } : Jvm.MethodName)) ∈ wsAll := wT_4 26 rfl rfl
set_option maxRecDepth 100000 in
theorem kw_868 : (Jvm.Cond.static ({ cls := "java/lang/Long", name := "bitCount", desc := "(J)I" } : Jvm.MethodName)) ∈ wsAll := wT_4 27 rfl rfl
set_option maxRecDepth 100000 in
theorem kw_869 : (Jvm.Cond.code ({ cls := "java/lang/Long", name := "bitCount", desc := "(J)I" } : Jvm.MethodName) prog_17_method_50_code (2 : Nat) (Option.some Jvm.ClassFile.FieldType.int)) ∈ wsAll := wT_4 28 rfl rfl
set_option maxRecDepth 100000 in
theorem kw_870 : (Jvm.Cond.constantLong "java/lang/Long" (314 : Nat) (6148914691236517205 : Int64)) ∈ wsAll := wT_4 29 rfl rfl
set_option maxRecDepth 100000 in
theorem kw_871 : (Jvm.Cond.constantLong "java/lang/Long" (316 : Nat) (3689348814741910323 : Int64)) ∈ wsAll := wT_4 30 rfl rfl
set_option maxRecDepth 100000 in
theorem kw_872 : (Jvm.Cond.constantLong "java/lang/Long" (318 : Nat) (1085102592571150095 : Int64)) ∈ wsAll := wT_4 31 rfl rfl
set_option maxRecDepth 100000 in
theorem kw_873 : (Jvm.Cond.methodLink "GuardNets$Ways" (52 : Nat) ({ cls := "GuardNets$Ways", name := "findAll", desc := "()I" } : Jvm.MethodName)) ∈ wsAll := wT_4 32 rfl rfl
set_option maxRecDepth 100000 in
theorem kw_875 : (Jvm.Cond.instanceMethod ({ cls := "GuardNets$Ways", name := "findAll", desc := "()I" } : Jvm.MethodName)) ∈ wsAll := wT_4 34 rfl rfl
set_option maxRecDepth 100000 in
theorem kw_876 : (Jvm.Cond.code ({ cls := "GuardNets$Ways", name := "findAll", desc := "()I" } : Jvm.MethodName) prog_12_method_4_code (6 : Nat) (Option.some Jvm.ClassFile.FieldType.int)) ∈ wsAll := wT_4 35 rfl rfl
set_option maxRecDepth 100000 in
theorem kw_877 : (Jvm.Cond.methodLink "GuardNets$Ways" (65 : Nat) ({ cls := "GuardNets$Tables", name := "leastWord", desc := "(II)J" } : Jvm.MethodName)) ∈ wsAll := wT_4 36 rfl rfl
set_option maxRecDepth 100000 in
theorem kw_878 : (Jvm.Cond.methodLink "GuardNets$Ways" (69 : Nat) ({ cls := "GuardNets$Tables", name := "widened", desc := "(I)I" } : Jvm.MethodName)) ∈ wsAll := wT_4 37 rfl rfl
set_option maxRecDepth 100000 in
theorem kw_879 : (Jvm.Cond.instanceMethod ({ cls := "GuardNets$Tables", name := "widened", desc := "(I)I" } : Jvm.MethodName)) ∈ wsAll := wT_4 38 rfl rfl
set_option maxRecDepth 100000 in
theorem kw_880 : (Jvm.Cond.selects "GuardNets$Tables" ({ cls := "GuardNets$Tables", name := "widened", desc := "(I)I" } : Jvm.MethodName) ({ cls := "GuardNets$Tables", name := "widened", desc := "(I)I" } : Jvm.MethodName)) ∈ wsAll := wT_4 39 rfl rfl
set_option maxRecDepth 100000 in
theorem kw_881 : (Jvm.Cond.code ({ cls := "GuardNets$Tables", name := "widened", desc := "(I)I" } : Jvm.MethodName) prog_10_method_15_code (4 : Nat) (Option.some Jvm.ClassFile.FieldType.int)) ∈ wsAll := wT_4 40 rfl rfl
set_option maxRecDepth 100000 in
theorem kw_882 : (Jvm.Cond.methodLink "GuardNets$Ways" (56 : Nat) ({ cls := "GuardNets$Ways", name := "sortBySize", desc := "(I)V" } : Jvm.MethodName)) ∈ wsAll := wT_4 41 rfl rfl
set_option maxRecDepth 100000 in
theorem kw_884 : (Jvm.Cond.instanceMethod ({ cls := "GuardNets$Ways", name := "sortBySize", desc := "(I)V" } : Jvm.MethodName)) ∈ wsAll := wT_4 43 rfl rfl
set_option maxRecDepth 100000 in
theorem kw_885 : (Jvm.Cond.code ({ cls := "GuardNets$Ways", name := "sortBySize", desc := "(I)V" } : Jvm.MethodName) prog_12_method_5_code (4 : Nat) (Option.none : Option Jvm.ClassFile.FieldType)) ∈ wsAll := wT_4 44 rfl rfl
set_option maxRecDepth 100000 in
theorem kw_886 : (Jvm.Cond.methodLink "GuardNets$Ways" (73 : Nat) ({ cls := "java/lang/Integer", name := "bitCount", desc := "(I)I" } : Jvm.MethodName)) ∈ wsAll := wT_4 45 rfl rfl
set_option maxRecDepth 100000 in
theorem kw_887 : (Jvm.Cond.static ({ cls := "java/lang/Integer", name := "bitCount", desc := "(I)I" } : Jvm.MethodName)) ∈ wsAll := wT_4 46 rfl rfl
set_option maxRecDepth 100000 in
theorem kw_888 : (Jvm.Cond.code ({ cls := "java/lang/Integer", name := "bitCount", desc := "(I)I" } : Jvm.MethodName) prog_16_method_49_code (1 : Nat) (Option.some Jvm.ClassFile.FieldType.int)) ∈ wsAll := wT_4 47 rfl rfl
set_option maxRecDepth 100000 in
theorem kw_889 : (Jvm.Cond.constant "java/lang/Integer" (265 : Nat) (1431655765 : Int32)) ∈ wsAll := wT_4 48 rfl rfl
set_option maxRecDepth 100000 in
theorem kw_890 : (Jvm.Cond.constant "java/lang/Integer" (266 : Nat) (858993459 : Int32)) ∈ wsAll := wT_4 49 rfl rfl
set_option maxRecDepth 100000 in
theorem kw_891 : (Jvm.Cond.constant "java/lang/Integer" (267 : Nat) (252645135 : Int32)) ∈ wsAll := wT_4 50 rfl rfl
set_option maxRecDepth 100000 in
theorem kw_892 : (Jvm.Cond.methodLink "GuardNetsLaw" (62 : Nat) ({ cls := "GuardNets", name := "wayAt", desc := "(II)I" } : Jvm.MethodName)) ∈ wsAll := wT_4 51 rfl rfl
set_option maxRecDepth 100000 in
theorem kw_893 : (Jvm.Cond.instanceMethod ({ cls := "GuardNets", name := "wayAt", desc := "(II)I" } : Jvm.MethodName)) ∈ wsAll := wT_4 52 rfl rfl
set_option maxRecDepth 100000 in
theorem kw_894 : (Jvm.Cond.selects "GuardNets" ({ cls := "GuardNets", name := "wayAt", desc := "(II)I" } : Jvm.MethodName) ({ cls := "GuardNets", name := "wayAt", desc := "(II)I" } : Jvm.MethodName)) ∈ wsAll := wT_4 53 rfl rfl
set_option maxRecDepth 100000 in
theorem kw_895 : (Jvm.Cond.code ({ cls := "GuardNets", name := "wayAt", desc := "(II)I" } : Jvm.MethodName) prog_1_method_13_code (4 : Nat) (Option.some Jvm.ClassFile.FieldType.int)) ∈ wsAll := wT_4 54 rfl rfl
set_option maxRecDepth 100000 in
theorem kw_896 : (Jvm.Cond.methodLink "GuardNetsLaw" (66 : Nat) ({ cls := "GuardNets", name := "least", desc := "(II)I" } : Jvm.MethodName)) ∈ wsAll := wT_4 55 rfl rfl
set_option maxRecDepth 100000 in
theorem kw_897 : (Jvm.Cond.instanceMethod ({ cls := "GuardNets", name := "least", desc := "(II)I" } : Jvm.MethodName)) ∈ wsAll := wT_4 56 rfl rfl
set_option maxRecDepth 100000 in
theorem kw_898 : (Jvm.Cond.selects "GuardNets" ({ cls := "GuardNets", name := "least", desc := "(II)I" } : Jvm.MethodName) ({ cls := "GuardNets", name := "least", desc := "(II)I" } : Jvm.MethodName)) ∈ wsAll := wT_4 57 rfl rfl
set_option maxRecDepth 100000 in
theorem kw_899 : (Jvm.Cond.code ({ cls := "GuardNets", name := "least", desc := "(II)I" } : Jvm.MethodName) prog_1_method_14_code (4 : Nat) (Option.some Jvm.ClassFile.FieldType.int)) ∈ wsAll := wT_4 58 rfl rfl
set_option maxRecDepth 100000 in
theorem kw_900 : (Jvm.Cond.methodLink "GuardNets" (176 : Nat) ({ cls := "GuardNets", name := "leastWay", desc := "(II)I" } : Jvm.MethodName)) ∈ wsAll := wT_4 59 rfl rfl
set_option maxRecDepth 100000 in
theorem kw_901 : (Jvm.Cond.instanceMethod ({ cls := "GuardNets", name := "leastWay", desc := "(II)I" } : Jvm.MethodName)) ∈ wsAll := wT_4 60 rfl rfl
set_option maxRecDepth 100000 in
theorem kw_902 : (Jvm.Cond.selects "GuardNets" ({ cls := "GuardNets", name := "leastWay", desc := "(II)I" } : Jvm.MethodName) ({ cls := "GuardNets", name := "leastWay", desc := "(II)I" } : Jvm.MethodName)) ∈ wsAll := wT_4 61 rfl rfl
set_option maxRecDepth 100000 in
theorem kw_903 : (Jvm.Cond.code ({ cls := "GuardNets", name := "leastWay", desc := "(II)I" } : Jvm.MethodName) prog_1_method_15_code (4 : Nat) (Option.some Jvm.ClassFile.FieldType.int)) ∈ wsAll := wT_4 62 rfl rfl
set_option maxRecDepth 100000 in
theorem kw_904 : (Jvm.Cond.methodLink "GuardNets" (182 : Nat) ({ cls := "GuardNets$Ways", name := "firstLeast", desc := "(I)I" } : Jvm.MethodName)) ∈ wsAll := wT_4 63 rfl rfl
set_option maxRecDepth 100000 in
theorem kw_905 : (Jvm.Cond.instanceMethod ({ cls := "GuardNets$Ways", name := "firstLeast", desc := "(I)I" } : Jvm.MethodName)) ∈ wsAll := wT_4 64 rfl rfl
set_option maxRecDepth 100000 in
theorem kw_906 : (Jvm.Cond.selects "GuardNets$Ways" ({ cls := "GuardNets$Ways", name := "firstLeast", desc := "(I)I" } : Jvm.MethodName) ({ cls := "GuardNets$Ways", name := "firstLeast", desc := "(I)I" } : Jvm.MethodName)) ∈ wsAll := wT_4 65 rfl rfl
set_option maxRecDepth 100000 in
theorem kw_907 : (Jvm.Cond.code ({ cls := "GuardNets$Ways", name := "firstLeast", desc := "(I)I" } : Jvm.MethodName) prog_12_method_6_code (6 : Nat) (Option.some Jvm.ClassFile.FieldType.int)) ∈ wsAll := wT_4 66 rfl rfl
set_option maxRecDepth 100000 in
theorem kw_908 : (Jvm.Cond.methodLink "GuardNets$Ways" (80 : Nat) ({ cls := "GuardNets$House", name := "sumOf", desc := "(II)I" } : Jvm.MethodName)) ∈ wsAll := wT_4 67 rfl rfl
set_option maxRecDepth 100000 in
theorem kw_909 : (Jvm.Cond.instanceMethod ({ cls := "GuardNets$House", name := "sumOf", desc := "(II)I" } : Jvm.MethodName)) ∈ wsAll := wT_4 68 rfl rfl
set_option maxRecDepth 100000 in
theorem kw_910 : (Jvm.Cond.selects "GuardNets$House" ({ cls := "GuardNets$House", name := "sumOf", desc := "(II)I" } : Jvm.MethodName) ({ cls := "GuardNets$House", name := "sumOf", desc := "(II)I" } : Jvm.MethodName)) ∈ wsAll := wT_4 69 rfl rfl
set_option maxRecDepth 100000 in
theorem kw_911 : (Jvm.Cond.code ({ cls := "GuardNets$House", name := "sumOf", desc := "(II)I" } : Jvm.MethodName) prog_7_method_4_code (5 : Nat) (Option.some Jvm.ClassFile.FieldType.int)) ∈ wsAll := wT_4 70 rfl rfl
set_option maxRecDepth 100000 in
theorem kw_912 : (Jvm.Cond.methodLink "GuardNets$House" (24 : Nat) ({ cls := "GuardNets$House", name := "get", desc := "(II)I" } : Jvm.MethodName)) ∈ wsAll := wT_4 71 rfl rfl
set_option maxRecDepth 100000 in
theorem kw_913 : (Jvm.Cond.methodLink "GuardNets" (179 : Nat) ({ cls := "GuardNets$House", name := "sumOf", desc := "(II)I" } : Jvm.MethodName)) ∈ wsAll := wT_4 72 rfl rfl
set_option maxRecDepth 100000 in
theorem kw_914 : (Jvm.Cond.methodLink "GuardNetsLaw" (70 : Nat) ({ cls := "GuardNets", name := "leastWay", desc := "(II)I" } : Jvm.MethodName)) ∈ wsAll := wT_4 73 rfl rfl
set_option maxRecDepth 100000 in
theorem kw_915 : (Jvm.Cond.methodLink "GuardNetsLaw" (74 : Nat) ({ cls := "GuardNets", name := "many", desc := "(I)I" } : Jvm.MethodName)) ∈ wsAll := wT_4 74 rfl rfl
set_option maxRecDepth 100000 in
theorem kw_916 : (Jvm.Cond.instanceMethod ({ cls := "GuardNets", name := "many", desc := "(I)I" } : Jvm.MethodName)) ∈ wsAll := wT_4 75 rfl rfl
set_option maxRecDepth 100000 in
theorem kw_917 : (Jvm.Cond.selects "GuardNets" ({ cls := "GuardNets", name := "many", desc := "(I)I" } : Jvm.MethodName) ({ cls := "GuardNets", name := "many", desc := "(I)I" } : Jvm.MethodName)) ∈ wsAll := wT_4 76 rfl rfl
set_option maxRecDepth 100000 in
theorem kw_918 : (Jvm.Cond.code ({ cls := "GuardNets", name := "many", desc := "(I)I" } : Jvm.MethodName) prog_1_method_16_code (3 : Nat) (Option.some Jvm.ClassFile.FieldType.int)) ∈ wsAll := wT_4 77 rfl rfl
set_option maxRecDepth 100000 in
theorem kw_919 : (Jvm.Cond.methodLink "GuardNets" (186 : Nat) ({ cls := "GuardNets$Nets", name := "timeByMany", desc := "(ILGuardNets$House;)I" } : Jvm.MethodName)) ∈ wsAll := wT_4 78 rfl rfl
set_option maxRecDepth 100000 in
theorem kw_920 : (Jvm.Cond.instanceMethod ({ cls := "GuardNets$Nets", name := "timeByMany", desc := "(ILGuardNets$House;)I" } : Jvm.MethodName)) ∈ wsAll := wT_4 79 rfl rfl
set_option maxRecDepth 100000 in
theorem kw_921 : (Jvm.Cond.selects "GuardNets$Nets" ({ cls := "GuardNets$Nets", name := "timeByMany", desc := "(ILGuardNets$House;)I" } : Jvm.MethodName) ({ cls := "GuardNets$Nets", name := "timeByMany", desc := "(ILGuardNets$House;)I" } : Jvm.MethodName)) ∈ wsAll := wT_4 80 rfl rfl
set_option maxRecDepth 100000 in
theorem kw_922 : (Jvm.Cond.code ({ cls := "GuardNets$Nets", name := "timeByMany", desc := "(ILGuardNets$House;)I" } : Jvm.MethodName) prog_8_method_13_code (4 : Nat) (Option.some Jvm.ClassFile.FieldType.int)) ∈ wsAll := wT_4 81 rfl rfl
set_option maxRecDepth 100000 in
theorem kw_923 : (Jvm.Cond.methodLink "GuardNets$Nets" (95 : Nat) ({ cls := "GuardNets$House", name := "get", desc := "(II)I" } : Jvm.MethodName)) ∈ wsAll := wT_4 82 rfl rfl
set_option maxRecDepth 100000 in
theorem kw_924 : (Jvm.Cond.methodLink "GuardNets$Nets" (98 : Nat) ({ cls := "GuardNets$Nets", name := "rowTime", desc := "(I)I" } : Jvm.MethodName)) ∈ wsAll := wT_4 83 rfl rfl
set_option maxRecDepth 100000 in
theorem kw_926 : (Jvm.Cond.instanceMethod ({ cls := "GuardNets$Nets", name := "rowTime", desc := "(I)I" } : Jvm.MethodName)) ∈ wsAll := wT_4 85 rfl rfl
set_option maxRecDepth 100000 in
theorem kw_927 : (Jvm.Cond.code ({ cls := "GuardNets$Nets", name := "rowTime", desc := "(I)I" } : Jvm.MethodName) prog_8_method_14_code (5 : Nat) (Option.some Jvm.ClassFile.FieldType.int)) ∈ wsAll := wT_4 86 rfl rfl
set_option maxRecDepth 100000 in
theorem kw_928 : (Jvm.Cond.methodLink "GuardNets$Nets" (101 : Nat) ({ cls := "GuardNets$Nets", name := "someTime", desc := "(I)I" } : Jvm.MethodName)) ∈ wsAll := wT_4 87 rfl rfl
set_option maxRecDepth 100000 in
theorem kw_930 : (Jvm.Cond.instanceMethod ({ cls := "GuardNets$Nets", name := "someTime", desc := "(I)I" } : Jvm.MethodName)) ∈ wsAll := wT_4 89 rfl rfl
set_option maxRecDepth 100000 in
theorem kw_931 : (Jvm.Cond.code ({ cls := "GuardNets$Nets", name := "someTime", desc := "(I)I" } : Jvm.MethodName) prog_8_method_15_code (4 : Nat) (Option.some Jvm.ClassFile.FieldType.int)) ∈ wsAll := wT_4 90 rfl rfl
set_option maxRecDepth 100000 in
theorem kw_932 : (Jvm.Cond.methodLink "GuardNets$Nets" (104 : Nat) ({ cls := "java/lang/Math", name := "min", desc := "(II)I" } : Jvm.MethodName)) ∈ wsAll := wT_4 91 rfl rfl
set_option maxRecDepth 100000 in
theorem kw_933 : (Jvm.Cond.methodLink "GuardNets$Nets" (107 : Nat) ({ cls := "GuardNets$Nets", name := "risingAt", desc := "([III)I" } : Jvm.MethodName)) ∈ wsAll := wT_4 92 rfl rfl
set_option maxRecDepth 100000 in
theorem kw_934 : (Jvm.Cond.static ({ cls := "GuardNets$Nets", name := "risingAt", desc := "([III)I" } : Jvm.MethodName)) ∈ wsAll := wT_4 93 rfl rfl
set_option maxRecDepth 100000 in
theorem kw_935 : (Jvm.Cond.code ({ cls := "GuardNets$Nets", name := "risingAt", desc := "([III)I" } : Jvm.MethodName) prog_8_method_16_code (6 : Nat) (Option.some Jvm.ClassFile.FieldType.int)) ∈ wsAll := wT_4 94 rfl rfl
set_option maxRecDepth 100000 in
theorem kw_936 : (Jvm.Cond.methodLink "GuardNetsLaw" (78 : Nat) ({ cls := "GuardNets", name := "size", desc := "(I)I" } : Jvm.MethodName)) ∈ wsAll := wT_4 95 rfl rfl
set_option maxRecDepth 100000 in
theorem kw_937 : (Jvm.Cond.instanceMethod ({ cls := "GuardNets", name := "size", desc := "(I)I" } : Jvm.MethodName)) ∈ wsAll := wT_4 96 rfl rfl
set_option maxRecDepth 100000 in
theorem kw_938 : (Jvm.Cond.selects "GuardNets" ({ cls := "GuardNets", name := "size", desc := "(I)I" } : Jvm.MethodName) ({ cls := "GuardNets", name := "size", desc := "(I)I" } : Jvm.MethodName)) ∈ wsAll := wT_4 97 rfl rfl
set_option maxRecDepth 100000 in
theorem kw_939 : (Jvm.Cond.code ({ cls := "GuardNets", name := "size", desc := "(I)I" } : Jvm.MethodName) prog_1_method_17_code (3 : Nat) (Option.some Jvm.ClassFile.FieldType.int)) ∈ wsAll := wT_4 98 rfl rfl
set_option maxRecDepth 100000 in
theorem kw_940 : (Jvm.Cond.methodLink "GuardNets" (190 : Nat) ({ cls := "GuardNets$Diagram", name := "draw", desc := "(I)V" } : Jvm.MethodName)) ∈ wsAll := wT_4 99 rfl rfl
set_option maxRecDepth 100000 in
theorem kw_941 : (Jvm.Cond.instanceMethod ({ cls := "GuardNets$Diagram", name := "draw", desc := "(I)V" } : Jvm.MethodName)) ∈ wsAll := wT_4 100 rfl rfl
set_option maxRecDepth 100000 in
theorem kw_942 : (Jvm.Cond.selects "GuardNets$Diagram" ({ cls := "GuardNets$Diagram", name := "draw", desc := "(I)V" } : Jvm.MethodName) ({ cls := "GuardNets$Diagram", name := "draw", desc := "(I)V" } : Jvm.MethodName)) ∈ wsAll := wT_4 101 rfl rfl
set_option maxRecDepth 100000 in
theorem kw_943 : (Jvm.Cond.code ({ cls := "GuardNets$Diagram", name := "draw", desc := "(I)V" } : Jvm.MethodName) prog_2_method_3_code (5 : Nat) (Option.none : Option Jvm.ClassFile.FieldType)) ∈ wsAll := wT_4 102 rfl rfl
set_option maxRecDepth 100000 in
theorem kw_944 : (Jvm.Cond.methodLink "GuardNets$Diagram" (62 : Nat) ({ cls := "GuardNets$Tables", name := "fillFor", desc := "(I)V" } : Jvm.MethodName)) ∈ wsAll := wT_4 103 rfl rfl
set_option maxRecDepth 100000 in
theorem kw_945 : (Jvm.Cond.methodLink "GuardNets$Diagram" (71 : Nat) ({ cls := "GuardNets$Diagram", name := "makeRoom", desc := "(I)V" } : Jvm.MethodName)) ∈ wsAll := wT_4 104 rfl rfl
set_option maxRecDepth 100000 in
theorem kw_947 : (Jvm.Cond.instanceMethod ({ cls := "GuardNets$Diagram", name := "makeRoom", desc := "(I)V" } : Jvm.MethodName)) ∈ wsAll := wT_4 106 rfl rfl
set_option maxRecDepth 100000 in
theorem kw_948 : (Jvm.Cond.code ({ cls := "GuardNets$Diagram", name := "makeRoom", desc := "(I)V" } : Jvm.MethodName) prog_2_method_4_code (4 : Nat) (Option.none : Option Jvm.ClassFile.FieldType)) ∈ wsAll := wT_4 107 rfl rfl
set_option maxRecDepth 100000 in
theorem kw_949 : (Jvm.Cond.methodLink "GuardNets$Diagram" (82 : Nat) ({ cls := "java/lang/Math", name := "min", desc := "(II)I" } : Jvm.MethodName)) ∈ wsAll := wT_4 108 rfl rfl
set_option maxRecDepth 100000 in
theorem kw_950 : (Jvm.Cond.methodLink "GuardNets$Diagram" (88 : Nat) ({ cls := "GuardNets$Fraction", name := "grown", desc := "([II)[I" } : Jvm.MethodName)) ∈ wsAll := wT_4 109 rfl rfl
set_option maxRecDepth 100000 in
theorem kw_951 : (Jvm.Cond.static ({ cls := "GuardNets$Fraction", name := "grown", desc := "([II)[I" } : Jvm.MethodName)) ∈ wsAll := wT_4 110 rfl rfl
set_option maxRecDepth 100000 in
theorem kw_952 : (Jvm.Cond.code ({ cls := "GuardNets$Fraction", name := "grown", desc := "([II)[I" } : Jvm.MethodName) prog_4_method_18_code (2 : Nat) (Option.some (Jvm.ClassFile.FieldType.array Jvm.ClassFile.FieldType.int))) ∈ wsAll := wT_4 111 rfl rfl
set_option maxRecDepth 100000 in
theorem kw_953 : (Jvm.Cond.methodLink "GuardNets$Fraction" (71 : Nat) ({ cls := "java/lang/Math", name := "max", desc := "(II)I" } : Jvm.MethodName)) ∈ wsAll := wT_4 112 rfl rfl
set_option maxRecDepth 100000 in
theorem kw_954 : (Jvm.Cond.methodLink "GuardNets$Diagram" (92 : Nat) ({ cls := "GuardNets$Fraction", name := "wipe", desc := "([III)V" } : Jvm.MethodName)) ∈ wsAll := wT_4 113 rfl rfl
set_option maxRecDepth 100000 in
theorem kw_955 : (Jvm.Cond.static ({ cls := "GuardNets$Fraction", name := "wipe", desc := "([III)V" } : Jvm.MethodName)) ∈ wsAll := wT_4 114 rfl rfl
set_option maxRecDepth 100000 in
theorem kw_956 : (Jvm.Cond.code ({ cls := "GuardNets$Fraction", name := "wipe", desc := "([III)V" } : Jvm.MethodName) prog_4_method_17_code (4 : Nat) (Option.none : Option Jvm.ClassFile.FieldType)) ∈ wsAll := wT_4 115 rfl rfl
set_option maxRecDepth 100000 in
theorem kw_957 : (Jvm.Cond.methodLink "GuardNets$Diagram" (74 : Nat) ({ cls := "GuardNets$Tables", name := "bit", desc := "(I)I" } : Jvm.MethodName)) ∈ wsAll := wT_4 116 rfl rfl
set_option maxRecDepth 100000 in
theorem kw_958 : (Jvm.Cond.instanceMethod ({ cls := "GuardNets$Tables", name := "bit", desc := "(I)I" } : Jvm.MethodName)) ∈ wsAll := wT_4 117 rfl rfl
set_option maxRecDepth 100000 in
theorem kw_959 : (Jvm.Cond.selects "GuardNets$Tables" ({ cls := "GuardNets$Tables", name := "bit", desc := "(I)I" } : Jvm.MethodName) ({ cls := "GuardNets$Tables", name := "bit", desc := "(I)I" } : Jvm.MethodName)) ∈ wsAll := wT_4 118 rfl rfl
set_option maxRecDepth 100000 in
theorem kw_960 : (Jvm.Cond.code ({ cls := "GuardNets$Tables", name := "bit", desc := "(I)I" } : Jvm.MethodName) prog_10_method_13_code (2 : Nat) (Option.some Jvm.ClassFile.FieldType.int)) ∈ wsAll := wT_4 119 rfl rfl
set_option maxRecDepth 100000 in
theorem kw_961 : (Jvm.Cond.methodLink "GuardNets$Diagram" (78 : Nat) ({ cls := "GuardNets$Diagram", name := "nodeFor", desc := "(III)I" } : Jvm.MethodName)) ∈ wsAll := wT_4 120 rfl rfl
set_option maxRecDepth 100000 in
theorem kw_963 : (Jvm.Cond.instanceMethod ({ cls := "GuardNets$Diagram", name := "nodeFor", desc := "(III)I" } : Jvm.MethodName)) ∈ wsAll := wT_4 122 rfl rfl
set_option maxRecDepth 100000 in
theorem kw_964 : (Jvm.Cond.code ({ cls := "GuardNets$Diagram", name := "nodeFor", desc := "(III)I" } : Jvm.MethodName) prog_2_method_5_code (7 : Nat) (Option.some Jvm.ClassFile.FieldType.int)) ∈ wsAll := wT_4 123 rfl rfl
set_option maxRecDepth 100000 in
theorem kw_965 : (Jvm.Cond.constant "GuardNets$Diagram" (96 : Nat) (40503 : Int32)) ∈ wsAll := wT_4 124 rfl rfl
set_option maxRecDepth 100000 in
theorem kw_966 : (Jvm.Cond.methodLink "GuardNets" (194 : Nat) ({ cls := "GuardNets$Diagram", name := "drawnSize", desc := "()I" } : Jvm.MethodName)) ∈ wsAll := wT_4 125 rfl rfl
set_option maxRecDepth 100000 in
theorem kw_967 : (Jvm.Cond.instanceMethod ({ cls := "GuardNets$Diagram", name := "drawnSize", desc := "()I" } : Jvm.MethodName)) ∈ wsAll := wT_4 126 rfl rfl
set_option maxRecDepth 100000 in
theorem kw_968 : (Jvm.Cond.selects "GuardNets$Diagram" ({ cls := "GuardNets$Diagram", name := "drawnSize", desc := "()I" } : Jvm.MethodName) ({ cls := "GuardNets$Diagram", name := "drawnSize", desc := "()I" } : Jvm.MethodName)) ∈ wsAll := wT_4 127 rfl rfl
set_option maxRecDepth 100000 in
theorem kw_969 : (Jvm.Cond.code ({ cls := "GuardNets$Diagram", name := "drawnSize", desc := "()I" } : Jvm.MethodName) prog_2_method_6_code (1 : Nat) (Option.some Jvm.ClassFile.FieldType.int)) ∈ wsAll := wT_4 128 rfl rfl
set_option maxRecDepth 100000 in
theorem kw_970 : (Jvm.Cond.methodLink "GuardNetsLaw" (82 : Nat) ({ cls := "GuardNets", name := "chance", desc := "(I)I" } : Jvm.MethodName)) ∈ wsAll := wT_4 129 rfl rfl
set_option maxRecDepth 100000 in
theorem kw_971 : (Jvm.Cond.instanceMethod ({ cls := "GuardNets", name := "chance", desc := "(I)I" } : Jvm.MethodName)) ∈ wsAll := wT_4 130 rfl rfl
set_option maxRecDepth 100000 in
theorem kw_972 : (Jvm.Cond.selects "GuardNets" ({ cls := "GuardNets", name := "chance", desc := "(I)I" } : Jvm.MethodName) ({ cls := "GuardNets", name := "chance", desc := "(I)I" } : Jvm.MethodName)) ∈ wsAll := wT_4 131 rfl rfl
set_option maxRecDepth 100000 in
theorem kw_973 : (Jvm.Cond.code ({ cls := "GuardNets", name := "chance", desc := "(I)I" } : Jvm.MethodName) prog_1_method_18_code (4 : Nat) (Option.some Jvm.ClassFile.FieldType.int)) ∈ wsAll := wT_4 132 rfl rfl
set_option maxRecDepth 100000 in
theorem kw_974 : (Jvm.Cond.methodLink "GuardNets" (197 : Nat) ({ cls := "GuardNets$Diagram", name := "mayWork", desc := "(I)Z" } : Jvm.MethodName)) ∈ wsAll := wT_4 133 rfl rfl
set_option maxRecDepth 100000 in
theorem kw_975 : (Jvm.Cond.instanceMethod ({ cls := "GuardNets$Diagram", name := "mayWork", desc := "(I)Z" } : Jvm.MethodName)) ∈ wsAll := wT_4 134 rfl rfl
set_option maxRecDepth 100000 in
theorem kw_976 : (Jvm.Cond.selects "GuardNets$Diagram" ({ cls := "GuardNets$Diagram", name := "mayWork", desc := "(I)Z" } : Jvm.MethodName) ({ cls := "GuardNets$Diagram", name := "mayWork", desc := "(I)Z" } : Jvm.MethodName)) ∈ wsAll := wT_4 135 rfl rfl
set_option maxRecDepth 100000 in
theorem kw_977 : (Jvm.Cond.code ({ cls := "GuardNets$Diagram", name := "mayWork", desc := "(I)Z" } : Jvm.MethodName) prog_2_method_7_code (2 : Nat) (Option.some Jvm.ClassFile.FieldType.boolean)) ∈ wsAll := wT_4 136 rfl rfl
set_option maxRecDepth 100000 in
theorem kw_978 : (Jvm.Cond.methodLink "GuardNets$Diagram" (97 : Nat) ({ cls := "GuardNets$Diagram", name := "draw", desc := "(I)V" } : Jvm.MethodName)) ∈ wsAll := wT_4 137 rfl rfl
set_option maxRecDepth 100000 in
theorem kw_979 : (Jvm.Cond.methodLink "GuardNets$Diagram" (100 : Nat) ({ cls := "GuardNets$Diagram", name := "drawnSize", desc := "()I" } : Jvm.MethodName)) ∈ wsAll := wT_4 138 rfl rfl
set_option maxRecDepth 100000 in
theorem kw_980 : (Jvm.Cond.methodLink "GuardNets" (200 : Nat) ({ cls := "GuardNets$Diagram", name := "takeOdds", desc := "(I)V" } : Jvm.MethodName)) ∈ wsAll := wT_4 139 rfl rfl
set_option maxRecDepth 100000 in
theorem kw_981 : (Jvm.Cond.instanceMethod ({ cls := "GuardNets$Diagram", name := "takeOdds", desc := "(I)V" } : Jvm.MethodName)) ∈ wsAll := wT_4 140 rfl rfl
set_option maxRecDepth 100000 in
theorem kw_982 : (Jvm.Cond.selects "GuardNets$Diagram" ({ cls := "GuardNets$Diagram", name := "takeOdds", desc := "(I)V" } : Jvm.MethodName) ({ cls := "GuardNets$Diagram", name := "takeOdds", desc := "(I)V" } : Jvm.MethodName)) ∈ wsAll := wT_4 141 rfl rfl
set_option maxRecDepth 100000 in
theorem kw_983 : (Jvm.Cond.code ({ cls := "GuardNets$Diagram", name := "takeOdds", desc := "(I)V" } : Jvm.MethodName) prog_2_method_8_code (4 : Nat) (Option.none : Option Jvm.ClassFile.FieldType)) ∈ wsAll := wT_4 142 rfl rfl
set_option maxRecDepth 100000 in
theorem kw_984 : (Jvm.Cond.methodLink "GuardNets$Diagram" (109 : Nat) ({ cls := "GuardNets$House", name := "get", desc := "(II)I" } : Jvm.MethodName)) ∈ wsAll := wT_4 143 rfl rfl
set_option maxRecDepth 100000 in
theorem kw_985 : (Jvm.Cond.methodLink "GuardNets" (203 : Nat) ({ cls := "GuardNets$Diagram", name := "work", desc := "()I" } : Jvm.MethodName)) ∈ wsAll := wT_4 144 rfl rfl
set_option maxRecDepth 100000 in
theorem kw_986 : (Jvm.Cond.instanceMethod ({ cls := "GuardNets$Diagram", name := "work", desc := "()I" } : Jvm.MethodName)) ∈ wsAll := wT_4 145 rfl rfl
set_option maxRecDepth 100000 in
theorem kw_987 : (Jvm.Cond.selects "GuardNets$Diagram" ({ cls := "GuardNets$Diagram", name := "work", desc := "()I" } : Jvm.MethodName) ({ cls := "GuardNets$Diagram", name := "work", desc := "()I" } : Jvm.MethodName)) ∈ wsAll := wT_4 146 rfl rfl
set_option maxRecDepth 100000 in
theorem kw_988 : (Jvm.Cond.code ({ cls := "GuardNets$Diagram", name := "work", desc := "()I" } : Jvm.MethodName) prog_2_method_9_code (2 : Nat) (Option.some Jvm.ClassFile.FieldType.int)) ∈ wsAll := wT_4 147 rfl rfl
set_option maxRecDepth 100000 in
theorem kw_989 : (Jvm.Cond.methodLink "GuardNets$Diagram" (112 : Nat) ({ cls := "GuardNets$Fraction", name := "putPower", desc := "([IIII)V" } : Jvm.MethodName)) ∈ wsAll := wT_4 148 rfl rfl
set_option maxRecDepth 100000 in
theorem kw_990 : (Jvm.Cond.static ({ cls := "GuardNets$Fraction", name := "putPower", desc := "([IIII)V" } : Jvm.MethodName)) ∈ wsAll := wT_4 149 rfl rfl
set_option maxRecDepth 100000 in
theorem kw_991 : (Jvm.Cond.code ({ cls := "GuardNets$Fraction", name := "putPower", desc := "([IIII)V" } : Jvm.MethodName) prog_4_method_13_code (5 : Nat) (Option.none : Option Jvm.ClassFile.FieldType)) ∈ wsAll := wT_4 150 rfl rfl
set_option maxRecDepth 100000 in
theorem kw_992 : (Jvm.Cond.methodLink "GuardNets$Fraction" (65 : Nat) ({ cls := "GuardNets$Fraction", name := "wipe", desc := "([III)V" } : Jvm.MethodName)) ∈ wsAll := wT_4 151 rfl rfl
set_option maxRecDepth 100000 in
theorem kw_993 : (Jvm.Cond.methodLink "GuardNets$Fraction" (51 : Nat) ({ cls := "GuardNets$Fraction", name := "multiply", desc := "([IIII)V" } : Jvm.MethodName)) ∈ wsAll := wT_4 152 rfl rfl
set_option maxRecDepth 100000 in
theorem kw_994 : (Jvm.Cond.static ({ cls := "GuardNets$Fraction", name := "multiply", desc := "([IIII)V" } : Jvm.MethodName)) ∈ wsAll := wT_4 153 rfl rfl
set_option maxRecDepth 100000 in
theorem kw_995 : (Jvm.Cond.code ({ cls := "GuardNets$Fraction", name := "multiply", desc := "([IIII)V" } : Jvm.MethodName) prog_4_method_12_code (7 : Nat) (Option.none : Option Jvm.ClassFile.FieldType)) ∈ wsAll := wT_4 154 rfl rfl
set_option maxRecDepth 100000 in
theorem kw_996 : (Jvm.Cond.constantLong "GuardNets$Fraction" (63 : Nat) (1073741823 : Int64)) ∈ wsAll := wT_4 155 rfl rfl
set_option maxRecDepth 100000 in
theorem kw_997 : (Jvm.Cond.methodLink "GuardNets$Diagram" (116 : Nat) ({ cls := "GuardNets$Fraction", name := "blend", desc := "([IIIIII)V" } : Jvm.MethodName)) ∈ wsAll := wT_4 156 rfl rfl
set_option maxRecDepth 100000 in
theorem kw_998 : (Jvm.Cond.static ({ cls := "GuardNets$Fraction", name := "blend", desc := "([IIIIII)V" } : Jvm.MethodName)) ∈ wsAll := wT_4 157 rfl rfl
set_option maxRecDepth 100000 in
theorem kw_999 : (Jvm.Cond.code ({ cls := "GuardNets$Fraction", name := "blend", desc := "([IIIIII)V" } : Jvm.MethodName) prog_4_method_14_code (9 : Nat) (Option.none : Option Jvm.ClassFile.FieldType)) ∈ wsAll := wT_4 158 rfl rfl
set_option maxRecDepth 100000 in
theorem kw_1000 : (Jvm.Cond.constantLong "GuardNets$Fraction" (69 : Nat) (1000 : Int64)) ∈ wsAll := wT_4 159 rfl rfl
set_option maxRecDepth 100000 in
theorem kw_1001 : (Jvm.Cond.methodLink "GuardNets" (215 : Nat) ({ cls := "GuardNets$Fraction", name := "putThousandths", desc := "([IIII)V" } : Jvm.MethodName)) ∈ wsAll := wT_4 160 rfl rfl
set_option maxRecDepth 100000 in
theorem kw_1002 : (Jvm.Cond.instanceMethod ({ cls := "GuardNets$Fraction", name := "putThousandths", desc := "([IIII)V" } : Jvm.MethodName)) ∈ wsAll := wT_4 161 rfl rfl
set_option maxRecDepth 100000 in
theorem kw_1003 : (Jvm.Cond.selects "GuardNets$Fraction" ({ cls := "GuardNets$Fraction", name := "putThousandths", desc := "([IIII)V" } : Jvm.MethodName) ({ cls := "GuardNets$Fraction", name := "putThousandths", desc := "([IIII)V" } : Jvm.MethodName)) ∈ wsAll := wT_4 162 rfl rfl
set_option maxRecDepth 100000 in
theorem kw_1004 : (Jvm.Cond.code ({ cls := "GuardNets$Fraction", name := "putThousandths", desc := "([IIII)V" } : Jvm.MethodName) prog_4_method_6_code (8 : Nat) (Option.none : Option Jvm.ClassFile.FieldType)) ∈ wsAll := wT_4 163 rfl rfl
set_option maxRecDepth 100000 in
theorem kw_1005 : (Jvm.Cond.methodLink "GuardNets$Fraction" (22 : Nat) ({ cls := "java/util/Arrays", name := "fill", desc := "([II)V" } : Jvm.MethodName)) ∈ wsAll := wT_4 164 rfl rfl
set_option maxRecDepth 100000 in
theorem kw_1006 : (Jvm.Cond.methodLink "GuardNets$Fraction" (28 : Nat) ({ cls := "java/lang/Math", name := "min", desc := "(II)I" } : Jvm.MethodName)) ∈ wsAll := wT_4 165 rfl rfl
set_option maxRecDepth 100000 in
theorem kw_1007 : (Jvm.Cond.methodLink "GuardNets$Fraction" (34 : Nat) ({ cls := "java/lang/System", name := "arraycopy", desc := "(Ljava/lang/Object;ILjava/lang/Object;II)V" } : Jvm.MethodName)) ∈ wsAll := wT_4 166 rfl rfl
set_option maxRecDepth 100000 in
theorem kw_1008 : (Jvm.Cond.methodLink "GuardNets$Fraction" (40 : Nat) ({ cls := "GuardNets$Fraction", name := "isZero", desc := "()Z" } : Jvm.MethodName)) ∈ wsAll := wT_4 167 rfl rfl
set_option maxRecDepth 100000 in
theorem kw_1009 : (Jvm.Cond.instanceMethod ({ cls := "GuardNets$Fraction", name := "isZero", desc := "()Z" } : Jvm.MethodName)) ∈ wsAll := wT_4 168 rfl rfl
set_option maxRecDepth 100000 in
theorem kw_1010 : (Jvm.Cond.selects "GuardNets$Fraction" ({ cls := "GuardNets$Fraction", name := "isZero", desc := "()Z" } : Jvm.MethodName) ({ cls := "GuardNets$Fraction", name := "isZero", desc := "()Z" } : Jvm.MethodName)) ∈ wsAll := wT_4 169 rfl rfl
set_option maxRecDepth 100000 in
theorem kw_1011 : (Jvm.Cond.code ({ cls := "GuardNets$Fraction", name := "isZero", desc := "()Z" } : Jvm.MethodName) prog_4_method_2_code (1 : Nat) (Option.some Jvm.ClassFile.FieldType.boolean)) ∈ wsAll := wT_4 170 rfl rfl
set_option maxRecDepth 100000 in
theorem kw_1012 : (Jvm.Cond.methodLink "GuardNets$Fraction" (18 : Nat) ({ cls := "GuardNets$Fraction", name := "isZeroRow", desc := "([I)Z" } : Jvm.MethodName)) ∈ wsAll := wT_4 171 rfl rfl
set_option maxRecDepth 100000 in
theorem kw_1013 : (Jvm.Cond.static ({ cls := "GuardNets$Fraction", name := "isZeroRow", desc := "([I)Z" } : Jvm.MethodName)) ∈ wsAll := wT_4 172 rfl rfl
set_option maxRecDepth 100000 in
theorem kw_1014 : (Jvm.Cond.code ({ cls := "GuardNets$Fraction", name := "isZeroRow", desc := "([I)Z" } : Jvm.MethodName) prog_4_method_3_code (2 : Nat) (Option.some Jvm.ClassFile.FieldType.boolean)) ∈ wsAll := wT_4 173 rfl rfl
set_option maxRecDepth 100000 in
theorem kw_1015 : (Jvm.Cond.methodLink "GuardNets$Fraction" (44 : Nat) ({ cls := "GuardNets$Fraction", name := "remainder", desc := "([II)I" } : Jvm.MethodName)) ∈ wsAll := wT_4 174 rfl rfl
set_option maxRecDepth 100000 in
theorem kw_1016 : (Jvm.Cond.static ({ cls := "GuardNets$Fraction", name := "remainder", desc := "([II)I" } : Jvm.MethodName)) ∈ wsAll := wT_4 175 rfl rfl
set_option maxRecDepth 100000 in
theorem kw_1017 : (Jvm.Cond.code ({ cls := "GuardNets$Fraction", name := "remainder", desc := "([II)I" } : Jvm.MethodName) prog_4_method_10_code (5 : Nat) (Option.some Jvm.ClassFile.FieldType.int)) ∈ wsAll := wT_4 176 rfl rfl
set_option maxRecDepth 100000 in
theorem kw_1018 : (Jvm.Cond.methodLink "GuardNets$Fraction" (48 : Nat) ({ cls := "GuardNets$Fraction", name := "divide", desc := "([II)V" } : Jvm.MethodName)) ∈ wsAll := wT_4 177 rfl rfl
set_option maxRecDepth 100000 in
theorem kw_1019 : (Jvm.Cond.static ({ cls := "GuardNets$Fraction", name := "divide", desc := "([II)V" } : Jvm.MethodName)) ∈ wsAll := wT_4 178 rfl rfl
set_option maxRecDepth 100000 in
theorem kw_1020 : (Jvm.Cond.code ({ cls := "GuardNets$Fraction", name := "divide", desc := "([II)V" } : Jvm.MethodName) prog_4_method_11_code (5 : Nat) (Option.none : Option Jvm.ClassFile.FieldType)) ∈ wsAll := wT_4 179 rfl rfl
set_option maxRecDepth 100000 in
theorem kw_1021 : (Jvm.Cond.methodLink "GuardNetsLaw" (86 : Nat) ({ cls := "GuardNets", name := "weight", desc := "(II)I" } : Jvm.MethodName)) ∈ wsAll := wT_4 180 rfl rfl
set_option maxRecDepth 100000 in
theorem kw_1022 : (Jvm.Cond.instanceMethod ({ cls := "GuardNets", name := "weight", desc := "(II)I" } : Jvm.MethodName)) ∈ wsAll := wT_4 181 rfl rfl
set_option maxRecDepth 100000 in
theorem kw_1023 : (Jvm.Cond.selects "GuardNets" ({ cls := "GuardNets", name := "weight", desc := "(II)I" } : Jvm.MethodName) ({ cls := "GuardNets", name := "weight", desc := "(II)I" } : Jvm.MethodName)) ∈ wsAll := wT_4 182 rfl rfl
set_option maxRecDepth 100000 in
theorem kw_1024 : (Jvm.Cond.code ({ cls := "GuardNets", name := "weight", desc := "(II)I" } : Jvm.MethodName) prog_1_method_19_code (4 : Nat) (Option.some Jvm.ClassFile.FieldType.int)) ∈ wsAll := wT_4 183 rfl rfl
set_option maxRecDepth 100000 in
theorem kw_1025 : (Jvm.Cond.methodLink "GuardNets" (219 : Nat) ({ cls := "GuardNets$Diagram", name := "workWeight", desc := "(I)V" } : Jvm.MethodName)) ∈ wsAll := wT_4 184 rfl rfl
set_option maxRecDepth 100000 in
theorem kw_1026 : (Jvm.Cond.instanceMethod ({ cls := "GuardNets$Diagram", name := "workWeight", desc := "(I)V" } : Jvm.MethodName)) ∈ wsAll := wT_4 185 rfl rfl
set_option maxRecDepth 100000 in
theorem kw_1027 : (Jvm.Cond.selects "GuardNets$Diagram" ({ cls := "GuardNets$Diagram", name := "workWeight", desc := "(I)V" } : Jvm.MethodName) ({ cls := "GuardNets$Diagram", name := "workWeight", desc := "(I)V" } : Jvm.MethodName)) ∈ wsAll := wT_4 186 rfl rfl
set_option maxRecDepth 100000 in
theorem kw_1028 : (Jvm.Cond.code ({ cls := "GuardNets$Diagram", name := "workWeight", desc := "(I)V" } : Jvm.MethodName) prog_2_method_10_code (4 : Nat) (Option.none : Option Jvm.ClassFile.FieldType)) ∈ wsAll := wT_4 187 rfl rfl
set_option maxRecDepth 100000 in
theorem kw_1029 : (Jvm.Cond.methodLink "GuardNets$Diagram" (120 : Nat) ({ cls := "java/util/Arrays", name := "fill", desc := "([II)V" } : Jvm.MethodName)) ∈ wsAll := wT_4 188 rfl rfl
set_option maxRecDepth 100000 in
theorem kw_1030 : (Jvm.Cond.methodLink "GuardNets$Diagram" (126 : Nat) ({ cls := "GuardNets$Tables", name := "narrowed", desc := "(I)I" } : Jvm.MethodName)) ∈ wsAll := wT_4 189 rfl rfl
set_option maxRecDepth 100000 in
theorem kw_1031 : (Jvm.Cond.instanceMethod ({ cls := "GuardNets$Tables", name := "narrowed", desc := "(I)I" } : Jvm.MethodName)) ∈ wsAll := wT_4 190 rfl rfl
set_option maxRecDepth 100000 in
theorem kw_1032 : (Jvm.Cond.selects "GuardNets$Tables" ({ cls := "GuardNets$Tables", name := "narrowed", desc := "(I)I" } : Jvm.MethodName) ({ cls := "GuardNets$Tables", name := "narrowed", desc := "(I)I" } : Jvm.MethodName)) ∈ wsAll := wT_4 191 rfl rfl
set_option maxRecDepth 100000 in
theorem kw_1033 : (Jvm.Cond.code ({ cls := "GuardNets$Tables", name := "narrowed", desc := "(I)I" } : Jvm.MethodName) prog_10_method_14_code (4 : Nat) (Option.some Jvm.ClassFile.FieldType.int)) ∈ wsAll := wT_4 192 rfl rfl
set_option maxRecDepth 100000 in
theorem kw_1034 : (Jvm.Cond.methodLink "GuardNets$Diagram" (129 : Nat) ({ cls := "GuardNets$Diagram", name := "takeOdds", desc := "(I)V" } : Jvm.MethodName)) ∈ wsAll := wT_4 193 rfl rfl
set_option maxRecDepth 100000 in
theorem kw_1035 : (Jvm.Cond.methodLink "GuardNets$Diagram" (135 : Nat) ({ cls := "GuardNets$Diagram", name := "work", desc := "()I" } : Jvm.MethodName)) ∈ wsAll := wT_4 194 rfl rfl
set_option maxRecDepth 100000 in
theorem kw_1036 : (Jvm.Cond.methodLink "GuardNets$Diagram" (138 : Nat) ({ cls := "java/lang/System", name := "arraycopy", desc := "(Ljava/lang/Object;ILjava/lang/Object;II)V" } : Jvm.MethodName)) ∈ wsAll := wT_4 195 rfl rfl
set_option maxRecDepth 100000 in
theorem kw_1037 : (Jvm.Cond.methodLink "GuardNets$Diagram" (144 : Nat) ({ cls := "GuardNets$Fraction", name := "subtract", desc := "([I[III)V" } : Jvm.MethodName)) ∈ wsAll := wT_4 196 rfl rfl
set_option maxRecDepth 100000 in
theorem kw_1038 : (Jvm.Cond.static ({ cls := "GuardNets$Fraction", name := "subtract", desc := "([I[III)V" } : Jvm.MethodName)) ∈ wsAll := wT_4 197 rfl rfl
set_option maxRecDepth 100000 in
theorem kw_1039 : (Jvm.Cond.code ({ cls := "GuardNets$Fraction", name := "subtract", desc := "([I[III)V" } : Jvm.MethodName) prog_4_method_16_code (7 : Nat) (Option.none : Option Jvm.ClassFile.FieldType)) ∈ wsAll := wT_4 198 rfl rfl
set_option maxRecDepth 100000 in
theorem kw_1040 : (Jvm.Cond.methodLink "GuardNets" (225 : Nat) ({ cls := "GuardNets$Fraction", name := "isZero", desc := "()Z" } : Jvm.MethodName)) ∈ wsAll := wT_4 199 rfl rfl
set_option maxRecDepth 100000 in
theorem kw_1041 : (Jvm.Cond.methodLink "GuardNetsLaw" (90 : Nat) ({ cls := "GuardNets", name := "best", desc := "(II)I" } : Jvm.MethodName)) ∈ wsAll := wT_4 200 rfl rfl
set_option maxRecDepth 100000 in
theorem kw_1042 : (Jvm.Cond.instanceMethod ({ cls := "GuardNets", name := "best", desc := "(II)I" } : Jvm.MethodName)) ∈ wsAll := wT_4 201 rfl rfl
set_option maxRecDepth 100000 in
theorem kw_1043 : (Jvm.Cond.selects "GuardNets" ({ cls := "GuardNets", name := "best", desc := "(II)I" } : Jvm.MethodName) ({ cls := "GuardNets", name := "best", desc := "(II)I" } : Jvm.MethodName)) ∈ wsAll := wT_4 202 rfl rfl
set_option maxRecDepth 100000 in
theorem kw_1044 : (Jvm.Cond.code ({ cls := "GuardNets", name := "best", desc := "(II)I" } : Jvm.MethodName) prog_1_method_20_code (5 : Nat) (Option.some Jvm.ClassFile.FieldType.int)) ∈ wsAll := wT_4 203 rfl rfl
set_option maxRecDepth 100000 in
theorem kw_1045 : (Jvm.Cond.methodLink "GuardNets" (229 : Nat) ({ cls := "java/lang/Integer", name := "bitCount", desc := "(I)I" } : Jvm.MethodName)) ∈ wsAll := wT_4 204 rfl rfl
set_option maxRecDepth 100000 in
theorem kw_1046 : (Jvm.Cond.methodLink "GuardNets" (234 : Nat) ({ cls := "GuardNets$Diagram", name := "bestSet", desc := "(I)I" } : Jvm.MethodName)) ∈ wsAll := wT_4 205 rfl rfl
set_option maxRecDepth 100000 in
theorem kw_1047 : (Jvm.Cond.instanceMethod ({ cls := "GuardNets$Diagram", name := "bestSet", desc := "(I)I" } : Jvm.MethodName)) ∈ wsAll := wT_4 206 rfl rfl
set_option maxRecDepth 100000 in
theorem kw_1048 : (Jvm.Cond.selects "GuardNets$Diagram" ({ cls := "GuardNets$Diagram", name := "bestSet", desc := "(I)I" } : Jvm.MethodName) ({ cls := "GuardNets$Diagram", name := "bestSet", desc := "(I)I" } : Jvm.MethodName)) ∈ wsAll := wT_4 207 rfl rfl
set_option maxRecDepth 100000 in
theorem kw_1049 : (Jvm.Cond.code ({ cls := "GuardNets$Diagram", name := "bestSet", desc := "(I)I" } : Jvm.MethodName) prog_2_method_11_code (7 : Nat) (Option.some Jvm.ClassFile.FieldType.int)) ∈ wsAll := wT_4 208 rfl rfl
set_option maxRecDepth 100000 in
theorem kw_1050 : (Jvm.Cond.methodLink "GuardNets$Diagram" (148 : Nat) ({ cls := "GuardNets$Diagram", name := "workSets", desc := "()V" } : Jvm.MethodName)) ∈ wsAll := wT_4 209 rfl rfl
set_option maxRecDepth 100000 in
theorem kw_1052 : (Jvm.Cond.instanceMethod ({ cls := "GuardNets$Diagram", name := "workSets", desc := "()V" } : Jvm.MethodName)) ∈ wsAll := wT_4 211 rfl rfl
set_option maxRecDepth 100000 in
theorem kw_1053 : (Jvm.Cond.code ({ cls := "GuardNets$Diagram", name := "workSets", desc := "()V" } : Jvm.MethodName) prog_2_method_12_code (5 : Nat) (Option.none : Option Jvm.ClassFile.FieldType)) ∈ wsAll := wT_4 212 rfl rfl
set_option maxRecDepth 100000 in
theorem kw_1054 : (Jvm.Cond.methodLink "GuardNets$Diagram" (151 : Nat) ({ cls := "GuardNets$Tables", name := "widened", desc := "(I)I" } : Jvm.MethodName)) ∈ wsAll := wT_4 213 rfl rfl
set_option maxRecDepth 100000 in
theorem kw_1055 : (Jvm.Cond.methodLink "GuardNets$Diagram" (154 : Nat) ({ cls := "GuardNets$House", name := "sumOf", desc := "(II)I" } : Jvm.MethodName)) ∈ wsAll := wT_4 214 rfl rfl
set_option maxRecDepth 100000 in
theorem kw_1056 : (Jvm.Cond.methodLink "GuardNets$Diagram" (157 : Nat) ({ cls := "GuardNets$Fraction", name := "compareRows", desc := "([IIII)I" } : Jvm.MethodName)) ∈ wsAll := wT_4 215 rfl rfl
set_option maxRecDepth 100000 in
theorem kw_1057 : (Jvm.Cond.static ({ cls := "GuardNets$Fraction", name := "compareRows", desc := "([IIII)I" } : Jvm.MethodName)) ∈ wsAll := wT_4 216 rfl rfl
set_option maxRecDepth 100000 in
theorem kw_1058 : (Jvm.Cond.code ({ cls := "GuardNets$Fraction", name := "compareRows", desc := "([IIII)I" } : Jvm.MethodName) prog_4_method_15_code (5 : Nat) (Option.some Jvm.ClassFile.FieldType.int)) ∈ wsAll := wT_4 217 rfl rfl
set_option maxRecDepth 100000 in
theorem kw_1059 : (Jvm.Cond.methodLink "GuardNets" (237 : Nat) ({ cls := "GuardNets$Tables", name := "widened", desc := "(I)I" } : Jvm.MethodName)) ∈ wsAll := wT_4 218 rfl rfl
set_option maxRecDepth 100000 in
theorem kw_1060 : (Jvm.Cond.methodLink "GuardNetsLaw" (94 : Nat) ({ cls := "GuardNets", name := "limbs", desc := "(I)I" } : Jvm.MethodName)) ∈ wsAll := wT_4 219 rfl rfl
set_option maxRecDepth 100000 in
theorem kw_1061 : (Jvm.Cond.instanceMethod ({ cls := "GuardNets", name := "limbs", desc := "(I)I" } : Jvm.MethodName)) ∈ wsAll := wT_4 220 rfl rfl
set_option maxRecDepth 100000 in
theorem kw_1062 : (Jvm.Cond.selects "GuardNets" ({ cls := "GuardNets", name := "limbs", desc := "(I)I" } : Jvm.MethodName) ({ cls := "GuardNets", name := "limbs", desc := "(I)I" } : Jvm.MethodName)) ∈ wsAll := wT_4 221 rfl rfl
set_option maxRecDepth 100000 in
theorem kw_1063 : (Jvm.Cond.code ({ cls := "GuardNets", name := "limbs", desc := "(I)I" } : Jvm.MethodName) prog_1_method_21_code (2 : Nat) (Option.some Jvm.ClassFile.FieldType.int)) ∈ wsAll := wT_4 222 rfl rfl
set_option maxRecDepth 100000 in
theorem kw_1064 : (Jvm.Cond.methodLink "GuardNets" (240 : Nat) ({ cls := "GuardNets$Fraction", name := "limbsOf", desc := "(I)I" } : Jvm.MethodName)) ∈ wsAll := wT_4 223 rfl rfl
set_option maxRecDepth 100000 in
theorem kw_1065 : (Jvm.Cond.instanceMethod ({ cls := "GuardNets$Fraction", name := "limbsOf", desc := "(I)I" } : Jvm.MethodName)) ∈ wsAll := wT_4 224 rfl rfl
set_option maxRecDepth 100000 in
theorem kw_1066 : (Jvm.Cond.selects "GuardNets$Fraction" ({ cls := "GuardNets$Fraction", name := "limbsOf", desc := "(I)I" } : Jvm.MethodName) ({ cls := "GuardNets$Fraction", name := "limbsOf", desc := "(I)I" } : Jvm.MethodName)) ∈ wsAll := wT_4 225 rfl rfl
set_option maxRecDepth 100000 in
theorem kw_1067 : (Jvm.Cond.code ({ cls := "GuardNets$Fraction", name := "limbsOf", desc := "(I)I" } : Jvm.MethodName) prog_4_method_4_code (4 : Nat) (Option.some Jvm.ClassFile.FieldType.int)) ∈ wsAll := wT_4 226 rfl rfl
set_option maxRecDepth 100000 in
theorem kw_1068 : (Jvm.Cond.methodLink "GuardNetsLaw" (98 : Nat) ({ cls := "GuardNets", name := "limb", desc := "(II)I" } : Jvm.MethodName)) ∈ wsAll := wT_4 227 rfl rfl
set_option maxRecDepth 100000 in
theorem kw_1069 : (Jvm.Cond.instanceMethod ({ cls := "GuardNets", name := "limb", desc := "(II)I" } : Jvm.MethodName)) ∈ wsAll := wT_4 228 rfl rfl
set_option maxRecDepth 100000 in
theorem kw_1070 : (Jvm.Cond.selects "GuardNets" ({ cls := "GuardNets", name := "limb", desc := "(II)I" } : Jvm.MethodName) ({ cls := "GuardNets", name := "limb", desc := "(II)I" } : Jvm.MethodName)) ∈ wsAll := wT_4 229 rfl rfl
set_option maxRecDepth 100000 in
theorem kw_1071 : (Jvm.Cond.code ({ cls := "GuardNets", name := "limb", desc := "(II)I" } : Jvm.MethodName) prog_1_method_22_code (3 : Nat) (Option.some Jvm.ClassFile.FieldType.int)) ∈ wsAll := wT_4 230 rfl rfl
set_option maxRecDepth 100000 in
theorem kw_1072 : (Jvm.Cond.methodLink "GuardNets" (243 : Nat) ({ cls := "GuardNets$Fraction", name := "limbOf", desc := "(II)I" } : Jvm.MethodName)) ∈ wsAll := wT_4 231 rfl rfl
set_option maxRecDepth 100000 in
theorem kw_1073 : (Jvm.Cond.instanceMethod ({ cls := "GuardNets$Fraction", name := "limbOf", desc := "(II)I" } : Jvm.MethodName)) ∈ wsAll := wT_4 232 rfl rfl
set_option maxRecDepth 100000 in
theorem kw_1074 : (Jvm.Cond.selects "GuardNets$Fraction" ({ cls := "GuardNets$Fraction", name := "limbOf", desc := "(II)I" } : Jvm.MethodName) ({ cls := "GuardNets$Fraction", name := "limbOf", desc := "(II)I" } : Jvm.MethodName)) ∈ wsAll := wT_4 233 rfl rfl
set_option maxRecDepth 100000 in
theorem kw_1075 : (Jvm.Cond.code ({ cls := "GuardNets$Fraction", name := "limbOf", desc := "(II)I" } : Jvm.MethodName) prog_4_method_5_code (3 : Nat) (Option.some Jvm.ClassFile.FieldType.int)) ∈ wsAll := wT_4 234 rfl rfl
set_option maxRecDepth 100000 in
theorem kw_1076 : (Jvm.Cond.methodLink "GuardNetsLaw" (102 : Nat) ({ cls := "GuardNets", name := "guard", desc := "(II)I" } : Jvm.MethodName)) ∈ wsAll := wT_4 235 rfl rfl
set_option maxRecDepth 100000 in
theorem kw_1077 : (Jvm.Cond.instanceMethod ({ cls := "GuardNets", name := "guard", desc := "(II)I" } : Jvm.MethodName)) ∈ wsAll := wT_4 236 rfl rfl
set_option maxRecDepth 100000 in
theorem kw_1078 : (Jvm.Cond.selects "GuardNets" ({ cls := "GuardNets", name := "guard", desc := "(II)I" } : Jvm.MethodName) ({ cls := "GuardNets", name := "guard", desc := "(II)I" } : Jvm.MethodName)) ∈ wsAll := wT_4 237 rfl rfl
set_option maxRecDepth 100000 in
theorem kw_1079 : (Jvm.Cond.code ({ cls := "GuardNets", name := "guard", desc := "(II)I" } : Jvm.MethodName) prog_1_method_23_code (3 : Nat) (Option.some Jvm.ClassFile.FieldType.int)) ∈ wsAll := wT_4 238 rfl rfl
set_option maxRecDepth 100000 in
theorem kw_1080 : (Jvm.Cond.methodLink "GuardNets" (246 : Nat) ({ cls := "GuardNets$Guards", name := "hire", desc := "(II)Z" } : Jvm.MethodName)) ∈ wsAll := wT_4 239 rfl rfl
set_option maxRecDepth 100000 in
theorem kw_1081 : (Jvm.Cond.instanceMethod ({ cls := "GuardNets$Guards", name := "hire", desc := "(II)Z" } : Jvm.MethodName)) ∈ wsAll := wT_5 0 rfl rfl
set_option maxRecDepth 100000 in
theorem kw_1082 : (Jvm.Cond.selects "GuardNets$Guards" ({ cls := "GuardNets$Guards", name := "hire", desc := "(II)Z" } : Jvm.MethodName) ({ cls := "GuardNets$Guards", name := "hire", desc := "(II)Z" } : Jvm.MethodName)) ∈ wsAll := wT_5 1 rfl rfl
set_option maxRecDepth 100000 in
theorem kw_1083 : (Jvm.Cond.code ({ cls := "GuardNets$Guards", name := "hire", desc := "(II)Z" } : Jvm.MethodName) prog_6_method_2_code (5 : Nat) (Option.some Jvm.ClassFile.FieldType.boolean)) ∈ wsAll := wT_5 2 rfl rfl
set_option maxRecDepth 100000 in
theorem kw_1084 : (Jvm.Cond.methodLink "GuardNets$Guards" (51 : Nat) ({ cls := "java/util/Arrays", name := "copyOf", desc := "([II)[I" } : Jvm.MethodName)) ∈ wsAll := wT_5 3 rfl rfl
set_option maxRecDepth 100000 in
theorem kw_1085 : (Jvm.Cond.methodLink "GuardNets$Guards" (57 : Nat) ({ cls := "GuardNets$Guards", name := "forgetFront", desc := "()V" } : Jvm.MethodName)) ∈ wsAll := wT_5 4 rfl rfl
set_option maxRecDepth 100000 in
theorem kw_1086 : (Jvm.Cond.methodLink "GuardNetsLaw" (106 : Nat) ({ cls := "GuardNets", name := "holds", desc := "(II)I" } : Jvm.MethodName)) ∈ wsAll := wT_5 5 rfl rfl
set_option maxRecDepth 100000 in
theorem kw_1087 : (Jvm.Cond.instanceMethod ({ cls := "GuardNets", name := "holds", desc := "(II)I" } : Jvm.MethodName)) ∈ wsAll := wT_5 6 rfl rfl
set_option maxRecDepth 100000 in
theorem kw_1088 : (Jvm.Cond.selects "GuardNets" ({ cls := "GuardNets", name := "holds", desc := "(II)I" } : Jvm.MethodName) ({ cls := "GuardNets", name := "holds", desc := "(II)I" } : Jvm.MethodName)) ∈ wsAll := wT_5 7 rfl rfl
set_option maxRecDepth 100000 in
theorem kw_1089 : (Jvm.Cond.code ({ cls := "GuardNets", name := "holds", desc := "(II)I" } : Jvm.MethodName) prog_1_method_24_code (4 : Nat) (Option.some Jvm.ClassFile.FieldType.int)) ∈ wsAll := wT_5 8 rfl rfl
set_option maxRecDepth 100000 in
theorem kw_1090 : (Jvm.Cond.methodLink "GuardNetsLaw" (110 : Nat) ({ cls := "GuardNets", name := "leastGuards", desc := "(I)I" } : Jvm.MethodName)) ∈ wsAll := wT_5 9 rfl rfl
set_option maxRecDepth 100000 in
theorem kw_1091 : (Jvm.Cond.instanceMethod ({ cls := "GuardNets", name := "leastGuards", desc := "(I)I" } : Jvm.MethodName)) ∈ wsAll := wT_5 10 rfl rfl
set_option maxRecDepth 100000 in
theorem kw_1092 : (Jvm.Cond.selects "GuardNets" ({ cls := "GuardNets", name := "leastGuards", desc := "(I)I" } : Jvm.MethodName) ({ cls := "GuardNets", name := "leastGuards", desc := "(I)I" } : Jvm.MethodName)) ∈ wsAll := wT_5 11 rfl rfl
set_option maxRecDepth 100000 in
theorem kw_1093 : (Jvm.Cond.code ({ cls := "GuardNets", name := "leastGuards", desc := "(I)I" } : Jvm.MethodName) prog_1_method_25_code (3 : Nat) (Option.some Jvm.ClassFile.FieldType.int)) ∈ wsAll := wT_5 12 rfl rfl
set_option maxRecDepth 100000 in
theorem kw_1094 : (Jvm.Cond.methodLink "GuardNets" (253 : Nat) ({ cls := "GuardNets$Guards", name := "leastHolding", desc := "(I)I" } : Jvm.MethodName)) ∈ wsAll := wT_5 13 rfl rfl
set_option maxRecDepth 100000 in
theorem kw_1095 : (Jvm.Cond.instanceMethod ({ cls := "GuardNets$Guards", name := "leastHolding", desc := "(I)I" } : Jvm.MethodName)) ∈ wsAll := wT_5 14 rfl rfl
set_option maxRecDepth 100000 in
theorem kw_1096 : (Jvm.Cond.selects "GuardNets$Guards" ({ cls := "GuardNets$Guards", name := "leastHolding", desc := "(I)I" } : Jvm.MethodName) ({ cls := "GuardNets$Guards", name := "leastHolding", desc := "(I)I" } : Jvm.MethodName)) ∈ wsAll := wT_5 15 rfl rfl
set_option maxRecDepth 100000 in
theorem kw_1097 : (Jvm.Cond.code ({ cls := "GuardNets$Guards", name := "leastHolding", desc := "(I)I" } : Jvm.MethodName) prog_6_method_4_code (4 : Nat) (Option.some Jvm.ClassFile.FieldType.int)) ∈ wsAll := wT_5 16 rfl rfl
set_option maxRecDepth 100000 in
theorem kw_1098 : (Jvm.Cond.methodLink "GuardNets$Guards" (60 : Nat) ({ cls := "GuardNets$Tables", name := "fillFor", desc := "(I)V" } : Jvm.MethodName)) ∈ wsAll := wT_5 17 rfl rfl
set_option maxRecDepth 100000 in
theorem kw_1099 : (Jvm.Cond.methodLink "GuardNets$Guards" (66 : Nat) ({ cls := "GuardNets$Guards", name := "isCheaper", desc := "(II)Z" } : Jvm.MethodName)) ∈ wsAll := wT_5 18 rfl rfl
set_option maxRecDepth 100000 in
theorem kw_1101 : (Jvm.Cond.instanceMethod ({ cls := "GuardNets$Guards", name := "isCheaper", desc := "(II)Z" } : Jvm.MethodName)) ∈ wsAll := wT_5 20 rfl rfl
set_option maxRecDepth 100000 in
theorem kw_1102 : (Jvm.Cond.code ({ cls := "GuardNets$Guards", name := "isCheaper", desc := "(II)Z" } : Jvm.MethodName) prog_6_method_5_code (3 : Nat) (Option.some Jvm.ClassFile.FieldType.boolean)) ∈ wsAll := wT_5 21 rfl rfl
set_option maxRecDepth 100000 in
theorem kw_1103 : (Jvm.Cond.methodLink "GuardNets$Guards" (78 : Nat) ({ cls := "java/lang/Integer", name := "bitCount", desc := "(I)I" } : Jvm.MethodName)) ∈ wsAll := wT_5 22 rfl rfl
set_option maxRecDepth 100000 in
theorem kw_1104 : (Jvm.Cond.constant "GuardNets$Guards" (70 : Nat) (65535 : Int32)) ∈ wsAll := wT_5 23 rfl rfl
set_option maxRecDepth 100000 in
theorem kw_1105 : (Jvm.Cond.methodLink "GuardNets$Guards" (71 : Nat) ({ cls := "GuardNets$Tables", name := "narrowed", desc := "(I)I" } : Jvm.MethodName)) ∈ wsAll := wT_5 24 rfl rfl
set_option maxRecDepth 100000 in
theorem kw_1106 : (Jvm.Cond.methodLink "GuardNets$Guards" (75 : Nat) ({ cls := "GuardNets$Tables", name := "bit", desc := "(I)I" } : Jvm.MethodName)) ∈ wsAll := wT_5 25 rfl rfl
set_option maxRecDepth 100000 in
theorem kw_1107 : (Jvm.Cond.methodLink "GuardNetsLaw" (114 : Nat) ({ cls := "GuardNets", name := "front", desc := "(I)I" } : Jvm.MethodName)) ∈ wsAll := wT_5 26 rfl rfl
set_option maxRecDepth 100000 in
theorem kw_1108 : (Jvm.Cond.instanceMethod ({ cls := "GuardNets", name := "front", desc := "(I)I" } : Jvm.MethodName)) ∈ wsAll := wT_5 27 rfl rfl
set_option maxRecDepth 100000 in
theorem kw_1109 : (Jvm.Cond.selects "GuardNets" ({ cls := "GuardNets", name := "front", desc := "(I)I" } : Jvm.MethodName) ({ cls := "GuardNets", name := "front", desc := "(I)I" } : Jvm.MethodName)) ∈ wsAll := wT_5 28 rfl rfl
set_option maxRecDepth 100000 in
theorem kw_1110 : (Jvm.Cond.code ({ cls := "GuardNets", name := "front", desc := "(I)I" } : Jvm.MethodName) prog_1_method_26_code (3 : Nat) (Option.some Jvm.ClassFile.FieldType.int)) ∈ wsAll := wT_5 29 rfl rfl
set_option maxRecDepth 100000 in
theorem kw_1111 : (Jvm.Cond.methodLink "GuardNets" (256 : Nat) ({ cls := "GuardNets$Guards", name := "drawFront", desc := "(I)Z" } : Jvm.MethodName)) ∈ wsAll := wT_5 30 rfl rfl
set_option maxRecDepth 100000 in
theorem kw_1112 : (Jvm.Cond.instanceMethod ({ cls := "GuardNets$Guards", name := "drawFront", desc := "(I)Z" } : Jvm.MethodName)) ∈ wsAll := wT_5 31 rfl rfl
set_option maxRecDepth 100000 in
theorem kw_1113 : (Jvm.Cond.selects "GuardNets$Guards" ({ cls := "GuardNets$Guards", name := "drawFront", desc := "(I)Z" } : Jvm.MethodName) ({ cls := "GuardNets$Guards", name := "drawFront", desc := "(I)Z" } : Jvm.MethodName)) ∈ wsAll := wT_5 32 rfl rfl
set_option maxRecDepth 100000 in
theorem kw_1114 : (Jvm.Cond.code ({ cls := "GuardNets$Guards", name := "drawFront", desc := "(I)Z" } : Jvm.MethodName) prog_6_method_6_code (3 : Nat) (Option.some Jvm.ClassFile.FieldType.boolean)) ∈ wsAll := wT_5 33 rfl rfl
set_option maxRecDepth 100000 in
theorem kw_1115 : (Jvm.Cond.methodLink "GuardNets$Guards" (83 : Nat) ({ cls := "GuardNets$Diagram", name := "draw", desc := "(I)V" } : Jvm.MethodName)) ∈ wsAll := wT_5 34 rfl rfl
set_option maxRecDepth 100000 in
theorem kw_1116 : (Jvm.Cond.methodLink "GuardNets$Guards" (88 : Nat) ({ cls := "GuardNets$Diagram", name := "drawnSize", desc := "()I" } : Jvm.MethodName)) ∈ wsAll := wT_5 35 rfl rfl
set_option maxRecDepth 100000 in
theorem kw_1117 : (Jvm.Cond.methodLink "GuardNets$Guards" (98 : Nat) ({ cls := "GuardNets$Guards", name := "workChances", desc := "()I" } : Jvm.MethodName)) ∈ wsAll := wT_5 36 rfl rfl
set_option maxRecDepth 100000 in
theorem kw_1119 : (Jvm.Cond.instanceMethod ({ cls := "GuardNets$Guards", name := "workChances", desc := "()I" } : Jvm.MethodName)) ∈ wsAll := wT_5 38 rfl rfl
set_option maxRecDepth 100000 in
theorem kw_1120 : (Jvm.Cond.code ({ cls := "GuardNets$Guards", name := "workChances", desc := "()I" } : Jvm.MethodName) prog_6_method_7_code (5 : Nat) (Option.some Jvm.ClassFile.FieldType.int)) ∈ wsAll := wT_5 39 rfl rfl
set_option maxRecDepth 100000 in
theorem kw_1121 : (Jvm.Cond.methodLink "GuardNets$Guards" (107 : Nat) ({ cls := "GuardNets$Fraction", name := "grown", desc := "([II)[I" } : Jvm.MethodName)) ∈ wsAll := wT_5 40 rfl rfl
set_option maxRecDepth 100000 in
theorem kw_1122 : (Jvm.Cond.methodLink "GuardNets$Guards" (112 : Nat) ({ cls := "GuardNets$Guards", name := "hasIdler", desc := "(I)Z" } : Jvm.MethodName)) ∈ wsAll := wT_5 41 rfl rfl
set_option maxRecDepth 100000 in
theorem kw_1124 : (Jvm.Cond.instanceMethod ({ cls := "GuardNets$Guards", name := "hasIdler", desc := "(I)Z" } : Jvm.MethodName)) ∈ wsAll := wT_5 43 rfl rfl
set_option maxRecDepth 100000 in
theorem kw_1125 : (Jvm.Cond.code ({ cls := "GuardNets$Guards", name := "hasIdler", desc := "(I)Z" } : Jvm.MethodName) prog_6_method_8_code (4 : Nat) (Option.some Jvm.ClassFile.FieldType.boolean)) ∈ wsAll := wT_5 44 rfl rfl
set_option maxRecDepth 100000 in
theorem kw_1126 : (Jvm.Cond.methodLink "GuardNets$Guards" (116 : Nat) ({ cls := "GuardNets$Diagram", name := "takeOdds", desc := "(I)V" } : Jvm.MethodName)) ∈ wsAll := wT_5 45 rfl rfl
set_option maxRecDepth 100000 in
theorem kw_1127 : (Jvm.Cond.methodLink "GuardNets$Guards" (119 : Nat) ({ cls := "GuardNets$Diagram", name := "work", desc := "()I" } : Jvm.MethodName)) ∈ wsAll := wT_5 46 rfl rfl
set_option maxRecDepth 100000 in
theorem kw_1128 : (Jvm.Cond.methodLink "GuardNets$Guards" (125 : Nat) ({ cls := "java/lang/System", name := "arraycopy", desc := "(Ljava/lang/Object;ILjava/lang/Object;II)V" } : Jvm.MethodName)) ∈ wsAll := wT_5 47 rfl rfl
set_option maxRecDepth 100000 in
theorem kw_1129 : (Jvm.Cond.methodLink "GuardNets$Guards" (101 : Nat) ({ cls := "GuardNets$Guards", name := "sort", desc := "(I)V" } : Jvm.MethodName)) ∈ wsAll := wT_5 48 rfl rfl
set_option maxRecDepth 100000 in
theorem kw_1131 : (Jvm.Cond.instanceMethod ({ cls := "GuardNets$Guards", name := "sort", desc := "(I)V" } : Jvm.MethodName)) ∈ wsAll := wT_5 50 rfl rfl
set_option maxRecDepth 100000 in
theorem kw_1132 : (Jvm.Cond.code ({ cls := "GuardNets$Guards", name := "sort", desc := "(I)V" } : Jvm.MethodName) prog_6_method_9_code (6 : Nat) (Option.none : Option Jvm.ClassFile.FieldType)) ∈ wsAll := wT_5 51 rfl rfl
set_option maxRecDepth 100000 in
theorem kw_1133 : (Jvm.Cond.methodLink "GuardNets$Guards" (104 : Nat) ({ cls := "GuardNets$Guards", name := "pickFront", desc := "(I)V" } : Jvm.MethodName)) ∈ wsAll := wT_5 52 rfl rfl
set_option maxRecDepth 100000 in
theorem kw_1135 : (Jvm.Cond.instanceMethod ({ cls := "GuardNets$Guards", name := "pickFront", desc := "(I)V" } : Jvm.MethodName)) ∈ wsAll := wT_5 54 rfl rfl
set_option maxRecDepth 100000 in
theorem kw_1136 : (Jvm.Cond.code ({ cls := "GuardNets$Guards", name := "pickFront", desc := "(I)V" } : Jvm.MethodName) prog_6_method_10_code (6 : Nat) (Option.none : Option Jvm.ClassFile.FieldType)) ∈ wsAll := wT_5 55 rfl rfl
set_option maxRecDepth 100000 in
theorem kw_1137 : (Jvm.Cond.methodLink "GuardNets$Guards" (131 : Nat) ({ cls := "GuardNets$Fraction", name := "compareRows", desc := "([IIII)I" } : Jvm.MethodName)) ∈ wsAll := wT_5 56 rfl rfl
set_option maxRecDepth 100000 in
theorem kw_1138 : (Jvm.Cond.methodLink "GuardNetsLaw" (118 : Nat) ({ cls := "GuardNets", name := "frontAt", desc := "(III)I" } : Jvm.MethodName)) ∈ wsAll := wT_5 57 rfl rfl
set_option maxRecDepth 100000 in
theorem kw_1139 : (Jvm.Cond.instanceMethod ({ cls := "GuardNets", name := "frontAt", desc := "(III)I" } : Jvm.MethodName)) ∈ wsAll := wT_5 58 rfl rfl
set_option maxRecDepth 100000 in
theorem kw_1140 : (Jvm.Cond.selects "GuardNets" ({ cls := "GuardNets", name := "frontAt", desc := "(III)I" } : Jvm.MethodName) ({ cls := "GuardNets", name := "frontAt", desc := "(III)I" } : Jvm.MethodName)) ∈ wsAll := wT_5 59 rfl rfl
set_option maxRecDepth 100000 in
theorem kw_1141 : (Jvm.Cond.code ({ cls := "GuardNets", name := "frontAt", desc := "(III)I" } : Jvm.MethodName) prog_1_method_27_code (7 : Nat) (Option.some Jvm.ClassFile.FieldType.int)) ∈ wsAll := wT_5 60 rfl rfl
set_option maxRecDepth 100000 in
theorem kw_1142 : (Jvm.Cond.methodLink "GuardNetsLaw" (122 : Nat) ({ cls := "GuardNets", name := "patrol", desc := "()I" } : Jvm.MethodName)) ∈ wsAll := wT_5 61 rfl rfl
set_option maxRecDepth 100000 in
theorem kw_1143 : (Jvm.Cond.instanceMethod ({ cls := "GuardNets", name := "patrol", desc := "()I" } : Jvm.MethodName)) ∈ wsAll := wT_5 62 rfl rfl
set_option maxRecDepth 100000 in
theorem kw_1144 : (Jvm.Cond.selects "GuardNets" ({ cls := "GuardNets", name := "patrol", desc := "()I" } : Jvm.MethodName) ({ cls := "GuardNets", name := "patrol", desc := "()I" } : Jvm.MethodName)) ∈ wsAll := wT_5 63 rfl rfl
set_option maxRecDepth 100000 in
theorem kw_1145 : (Jvm.Cond.code ({ cls := "GuardNets", name := "patrol", desc := "()I" } : Jvm.MethodName) prog_1_method_28_code (1 : Nat) (Option.some Jvm.ClassFile.FieldType.int)) ∈ wsAll := wT_5 64 rfl rfl
set_option maxRecDepth 100000 in
theorem kw_1146 : (Jvm.Cond.methodLink "GuardNets" (277 : Nat) ({ cls := "GuardNets$Game", name := "hire", desc := "()Z" } : Jvm.MethodName)) ∈ wsAll := wT_5 65 rfl rfl
set_option maxRecDepth 100000 in
theorem kw_1147 : (Jvm.Cond.instanceMethod ({ cls := "GuardNets$Game", name := "hire", desc := "()Z" } : Jvm.MethodName)) ∈ wsAll := wT_5 66 rfl rfl
set_option maxRecDepth 100000 in
theorem kw_1148 : (Jvm.Cond.selects "GuardNets$Game" ({ cls := "GuardNets$Game", name := "hire", desc := "()Z" } : Jvm.MethodName) ({ cls := "GuardNets$Game", name := "hire", desc := "()Z" } : Jvm.MethodName)) ∈ wsAll := wT_5 67 rfl rfl
set_option maxRecDepth 100000 in
theorem kw_1149 : (Jvm.Cond.code ({ cls := "GuardNets$Game", name := "hire", desc := "()Z" } : Jvm.MethodName) prog_5_method_2_code (1 : Nat) (Option.some Jvm.ClassFile.FieldType.boolean)) ∈ wsAll := wT_5 68 rfl rfl
set_option maxRecDepth 100000 in
theorem kw_1150 : (Jvm.Cond.methodLink "GuardNets$Game" (49 : Nat) ({ cls := "GuardNets$Fraction", name := "wipe", desc := "([III)V" } : Jvm.MethodName)) ∈ wsAll := wT_5 69 rfl rfl
set_option maxRecDepth 100000 in
theorem kw_1151 : (Jvm.Cond.methodLink "GuardNetsLaw" (126 : Nat) ({ cls := "GuardNets", name := "catches", desc := "(III)I" } : Jvm.MethodName)) ∈ wsAll := wT_5 70 rfl rfl
set_option maxRecDepth 100000 in
theorem kw_1152 : (Jvm.Cond.instanceMethod ({ cls := "GuardNets", name := "catches", desc := "(III)I" } : Jvm.MethodName)) ∈ wsAll := wT_5 71 rfl rfl
set_option maxRecDepth 100000 in
theorem kw_1153 : (Jvm.Cond.selects "GuardNets" ({ cls := "GuardNets", name := "catches", desc := "(III)I" } : Jvm.MethodName) ({ cls := "GuardNets", name := "catches", desc := "(III)I" } : Jvm.MethodName)) ∈ wsAll := wT_5 72 rfl rfl
set_option maxRecDepth 100000 in
theorem kw_1154 : (Jvm.Cond.code ({ cls := "GuardNets", name := "catches", desc := "(III)I" } : Jvm.MethodName) prog_1_method_29_code (5 : Nat) (Option.some Jvm.ClassFile.FieldType.int)) ∈ wsAll := wT_5 73 rfl rfl
set_option maxRecDepth 100000 in
theorem kw_1155 : (Jvm.Cond.methodLink "GuardNets" (280 : Nat) ({ cls := "GuardNets$Game", name := "catchOf", desc := "(II)I" } : Jvm.MethodName)) ∈ wsAll := wT_5 74 rfl rfl
set_option maxRecDepth 100000 in
theorem kw_1156 : (Jvm.Cond.instanceMethod ({ cls := "GuardNets$Game", name := "catchOf", desc := "(II)I" } : Jvm.MethodName)) ∈ wsAll := wT_5 75 rfl rfl
set_option maxRecDepth 100000 in
theorem kw_1157 : (Jvm.Cond.selects "GuardNets$Game" ({ cls := "GuardNets$Game", name := "catchOf", desc := "(II)I" } : Jvm.MethodName) ({ cls := "GuardNets$Game", name := "catchOf", desc := "(II)I" } : Jvm.MethodName)) ∈ wsAll := wT_5 76 rfl rfl
set_option maxRecDepth 100000 in
theorem kw_1158 : (Jvm.Cond.code ({ cls := "GuardNets$Game", name := "catchOf", desc := "(II)I" } : Jvm.MethodName) prog_5_method_3_code (3 : Nat) (Option.some Jvm.ClassFile.FieldType.int)) ∈ wsAll := wT_5 77 rfl rfl
set_option maxRecDepth 100000 in
theorem kw_1159 : (Jvm.Cond.methodLink "GuardNets" (283 : Nat) ({ cls := "GuardNets$Game", name := "putCatch", desc := "(III)V" } : Jvm.MethodName)) ∈ wsAll := wT_5 78 rfl rfl
set_option maxRecDepth 100000 in
theorem kw_1160 : (Jvm.Cond.instanceMethod ({ cls := "GuardNets$Game", name := "putCatch", desc := "(III)V" } : Jvm.MethodName)) ∈ wsAll := wT_5 79 rfl rfl
set_option maxRecDepth 100000 in
theorem kw_1161 : (Jvm.Cond.selects "GuardNets$Game" ({ cls := "GuardNets$Game", name := "putCatch", desc := "(III)V" } : Jvm.MethodName) ({ cls := "GuardNets$Game", name := "putCatch", desc := "(III)V" } : Jvm.MethodName)) ∈ wsAll := wT_5 80 rfl rfl
set_option maxRecDepth 100000 in
theorem kw_1162 : (Jvm.Cond.code ({ cls := "GuardNets$Game", name := "putCatch", desc := "(III)V" } : Jvm.MethodName) prog_5_method_4_code (4 : Nat) (Option.none : Option Jvm.ClassFile.FieldType)) ∈ wsAll := wT_5 81 rfl rfl
set_option maxRecDepth 100000 in
theorem kw_1163 : (Jvm.Cond.methodLink "GuardNetsLaw" (130 : Nat) ({ cls := "GuardNets", name := "game", desc := "(I)I" } : Jvm.MethodName)) ∈ wsAll := wT_5 82 rfl rfl
set_option maxRecDepth 100000 in
theorem kw_1164 : (Jvm.Cond.instanceMethod ({ cls := "GuardNets", name := "game", desc := "(I)I" } : Jvm.MethodName)) ∈ wsAll := wT_5 83 rfl rfl
set_option maxRecDepth 100000 in
theorem kw_1165 : (Jvm.Cond.selects "GuardNets" ({ cls := "GuardNets", name := "game", desc := "(I)I" } : Jvm.MethodName) ({ cls := "GuardNets", name := "game", desc := "(I)I" } : Jvm.MethodName)) ∈ wsAll := wT_5 84 rfl rfl
set_option maxRecDepth 100000 in
theorem kw_1166 : (Jvm.Cond.code ({ cls := "GuardNets", name := "game", desc := "(I)I" } : Jvm.MethodName) prog_1_method_30_code (3 : Nat) (Option.some Jvm.ClassFile.FieldType.int)) ∈ wsAll := wT_5 85 rfl rfl
set_option maxRecDepth 100000 in
theorem kw_1167 : (Jvm.Cond.methodLink "GuardNets" (286 : Nat) ({ cls := "GuardNets$Game", name := "play", desc := "()V" } : Jvm.MethodName)) ∈ wsAll := wT_5 86 rfl rfl
set_option maxRecDepth 100000 in
theorem kw_1168 : (Jvm.Cond.instanceMethod ({ cls := "GuardNets$Game", name := "play", desc := "()V" } : Jvm.MethodName)) ∈ wsAll := wT_5 87 rfl rfl
set_option maxRecDepth 100000 in
theorem kw_1169 : (Jvm.Cond.selects "GuardNets$Game" ({ cls := "GuardNets$Game", name := "play", desc := "()V" } : Jvm.MethodName) ({ cls := "GuardNets$Game", name := "play", desc := "()V" } : Jvm.MethodName)) ∈ wsAll := wT_5 88 rfl rfl
set_option maxRecDepth 100000 in
theorem kw_1170 : (Jvm.Cond.code ({ cls := "GuardNets$Game", name := "play", desc := "()V" } : Jvm.MethodName) prog_5_method_5_code (4 : Nat) (Option.none : Option Jvm.ClassFile.FieldType)) ∈ wsAll := wT_5 89 rfl rfl
set_option maxRecDepth 100000 in
theorem kw_1171 : (Jvm.Cond.methodLink "GuardNets$Game" (55 : Nat) ({ cls := "GuardNets$Game", name := "layOut", desc := "()V" } : Jvm.MethodName)) ∈ wsAll := wT_5 90 rfl rfl
set_option maxRecDepth 100000 in
theorem kw_1173 : (Jvm.Cond.instanceMethod ({ cls := "GuardNets$Game", name := "layOut", desc := "()V" } : Jvm.MethodName)) ∈ wsAll := wT_5 92 rfl rfl
set_option maxRecDepth 100000 in
theorem kw_1174 : (Jvm.Cond.code ({ cls := "GuardNets$Game", name := "layOut", desc := "()V" } : Jvm.MethodName) prog_5_method_6_code (3 : Nat) (Option.none : Option Jvm.ClassFile.FieldType)) ∈ wsAll := wT_5 93 rfl rfl
set_option maxRecDepth 100000 in
theorem kw_1175 : (Jvm.Cond.methodLink "GuardNets$Game" (74 : Nat) ({ cls := "java/lang/Math", name := "min", desc := "(II)I" } : Jvm.MethodName)) ∈ wsAll := wT_5 94 rfl rfl
set_option maxRecDepth 100000 in
theorem kw_1176 : (Jvm.Cond.methodLink "GuardNets$Game" (83 : Nat) ({ cls := "GuardNets$Game", name := "greatestCatch", desc := "(II)I" } : Jvm.MethodName)) ∈ wsAll := wT_5 95 rfl rfl
set_option maxRecDepth 100000 in
theorem kw_1178 : (Jvm.Cond.instanceMethod ({ cls := "GuardNets$Game", name := "greatestCatch", desc := "(II)I" } : Jvm.MethodName)) ∈ wsAll := wT_5 97 rfl rfl
set_option maxRecDepth 100000 in
theorem kw_1179 : (Jvm.Cond.code ({ cls := "GuardNets$Game", name := "greatestCatch", desc := "(II)I" } : Jvm.MethodName) prog_5_method_7_code (5 : Nat) (Option.some Jvm.ClassFile.FieldType.int)) ∈ wsAll := wT_5 98 rfl rfl
set_option maxRecDepth 100000 in
theorem kw_1180 : (Jvm.Cond.methodLink "GuardNets$Game" (88 : Nat) ({ cls := "GuardNets$Game", name := "catchOf", desc := "(II)I" } : Jvm.MethodName)) ∈ wsAll := wT_5 99 rfl rfl
set_option maxRecDepth 100000 in
theorem kw_1181 : (Jvm.Cond.methodLink "GuardNets$Game" (91 : Nat) ({ cls := "java/lang/Math", name := "max", desc := "(II)I" } : Jvm.MethodName)) ∈ wsAll := wT_5 100 rfl rfl
set_option maxRecDepth 100000 in
theorem kw_1182 : (Jvm.Cond.constantLong "GuardNets$Game" (86 : Nat) (-1 : Int64)) ∈ wsAll := wT_5 101 rfl rfl
set_option maxRecDepth 100000 in
theorem kw_1183 : (Jvm.Cond.constant "GuardNets$Game" (58 : Nat) (1000000 : Int32)) ∈ wsAll := wT_5 102 rfl rfl
set_option maxRecDepth 100000 in
theorem kw_1184 : (Jvm.Cond.methodLink "GuardNets$Game" (59 : Nat) ({ cls := "GuardNets$Game", name := "enteringColumn", desc := "()I" } : Jvm.MethodName)) ∈ wsAll := wT_5 103 rfl rfl
set_option maxRecDepth 100000 in
theorem kw_1186 : (Jvm.Cond.instanceMethod ({ cls := "GuardNets$Game", name := "enteringColumn", desc := "()I" } : Jvm.MethodName)) ∈ wsAll := wT_5 105 rfl rfl
set_option maxRecDepth 100000 in
theorem kw_1187 : (Jvm.Cond.code ({ cls := "GuardNets$Game", name := "enteringColumn", desc := "()I" } : Jvm.MethodName) prog_5_method_8_code (3 : Nat) (Option.some Jvm.ClassFile.FieldType.int)) ∈ wsAll := wT_5 106 rfl rfl
set_option maxRecDepth 100000 in
theorem kw_1188 : (Jvm.Cond.methodLink "GuardNets$Game" (63 : Nat) ({ cls := "GuardNets$Game", name := "leavingRow", desc := "(I)I" } : Jvm.MethodName)) ∈ wsAll := wT_5 107 rfl rfl
set_option maxRecDepth 100000 in
theorem kw_1190 : (Jvm.Cond.instanceMethod ({ cls := "GuardNets$Game", name := "leavingRow", desc := "(I)I" } : Jvm.MethodName)) ∈ wsAll := wT_5 109 rfl rfl
set_option maxRecDepth 100000 in
theorem kw_1191 : (Jvm.Cond.code ({ cls := "GuardNets$Game", name := "leavingRow", desc := "(I)I" } : Jvm.MethodName) prog_5_method_9_code (4 : Nat) (Option.some Jvm.ClassFile.FieldType.int)) ∈ wsAll := wT_5 110 rfl rfl
set_option maxRecDepth 100000 in
theorem kw_1192 : (Jvm.Cond.methodLink "GuardNets$Game" (94 : Nat) ({ cls := "GuardNets$Game", name := "isTighter", desc := "(III)Z" } : Jvm.MethodName)) ∈ wsAll := wT_5 111 rfl rfl
set_option maxRecDepth 100000 in
theorem kw_1194 : (Jvm.Cond.instanceMethod ({ cls := "GuardNets$Game", name := "isTighter", desc := "(III)Z" } : Jvm.MethodName)) ∈ wsAll := wT_5 113 rfl rfl
set_option maxRecDepth 100000 in
theorem kw_1195 : (Jvm.Cond.code ({ cls := "GuardNets$Game", name := "isTighter", desc := "(III)Z" } : Jvm.MethodName) prog_5_method_10_code (14 : Nat) (Option.some Jvm.ClassFile.FieldType.boolean)) ∈ wsAll := wT_5 114 rfl rfl
set_option maxRecDepth 100000 in
theorem kw_1196 : (Jvm.Cond.methodLink "GuardNets$Game" (98 : Nat) ({ cls := "GuardNets$Game", name := "highOfDifference", desc := "(JJJJ)J" } : Jvm.MethodName)) ∈ wsAll := wT_5 115 rfl rfl
set_option maxRecDepth 100000 in
theorem kw_1197 : (Jvm.Cond.static ({ cls := "GuardNets$Game", name := "highOfDifference", desc := "(JJJJ)J" } : Jvm.MethodName)) ∈ wsAll := wT_5 116 rfl rfl
set_option maxRecDepth 100000 in
theorem kw_1198 : (Jvm.Cond.code ({ cls := "GuardNets$Game", name := "highOfDifference", desc := "(JJJJ)J" } : Jvm.MethodName) prog_5_method_14_code (9 : Nat) (Option.some Jvm.ClassFile.FieldType.long)) ∈ wsAll := wT_5 117 rfl rfl
set_option maxRecDepth 100000 in
theorem kw_1199 : (Jvm.Cond.constantLong "GuardNets$Game" (118 : Nat) (-9223372036854775808 : Int64)) ∈ wsAll := wT_5 118 rfl rfl
set_option maxRecDepth 100000 in
theorem kw_1200 : (Jvm.Cond.methodLink "GuardNets$Game" (120 : Nat) ({ cls := "GuardNets$Game", name := "highOfProduct", desc := "(JJ)J" } : Jvm.MethodName)) ∈ wsAll := wT_5 119 rfl rfl
set_option maxRecDepth 100000 in
theorem kw_1201 : (Jvm.Cond.static ({ cls := "GuardNets$Game", name := "highOfProduct", desc := "(JJ)J" } : Jvm.MethodName)) ∈ wsAll := wT_5 120 rfl rfl
set_option maxRecDepth 100000 in
theorem kw_1202 : (Jvm.Cond.code ({ cls := "GuardNets$Game", name := "highOfProduct", desc := "(JJ)J" } : Jvm.MethodName) prog_5_method_15_code (12 : Nat) (Option.some Jvm.ClassFile.FieldType.long)) ∈ wsAll := wT_5 121 rfl rfl
set_option maxRecDepth 100000 in
theorem kw_1203 : (Jvm.Cond.constantLong "GuardNets$Game" (124 : Nat) (4294967295 : Int64)) ∈ wsAll := wT_5 122 rfl rfl
set_option maxRecDepth 100000 in
theorem kw_1204 : (Jvm.Cond.methodLink "GuardNets$Game" (67 : Nat) ({ cls := "GuardNets$Game", name := "turn", desc := "(II)V" } : Jvm.MethodName)) ∈ wsAll := wT_5 123 rfl rfl
set_option maxRecDepth 100000 in
theorem kw_1206 : (Jvm.Cond.instanceMethod ({ cls := "GuardNets$Game", name := "turn", desc := "(II)V" } : Jvm.MethodName)) ∈ wsAll := wT_5 125 rfl rfl
set_option maxRecDepth 100000 in
theorem kw_1207 : (Jvm.Cond.code ({ cls := "GuardNets$Game", name := "turn", desc := "(II)V" } : Jvm.MethodName) prog_5_method_11_code (18 : Nat) (Option.none : Option Jvm.ClassFile.FieldType)) ∈ wsAll := wT_5 126 rfl rfl
set_option maxRecDepth 100000 in
theorem kw_1208 : (Jvm.Cond.methodLink "GuardNets$Game" (102 : Nat) ({ cls := "java/lang/Long", name := "bitCount", desc := "(J)I" } : Jvm.MethodName)) ∈ wsAll := wT_5 127 rfl rfl
set_option maxRecDepth 100000 in
theorem kw_1209 : (Jvm.Cond.methodLink "GuardNets$Game" (108 : Nat) ({ cls := "GuardNets$Game", name := "inverseOf", desc := "(J)J" } : Jvm.MethodName)) ∈ wsAll := wT_5 128 rfl rfl
set_option maxRecDepth 100000 in
theorem kw_1210 : (Jvm.Cond.static ({ cls := "GuardNets$Game", name := "inverseOf", desc := "(J)J" } : Jvm.MethodName)) ∈ wsAll := wT_5 129 rfl rfl
set_option maxRecDepth 100000 in
theorem kw_1211 : (Jvm.Cond.code ({ cls := "GuardNets$Game", name := "inverseOf", desc := "(J)J" } : Jvm.MethodName) prog_5_method_12_code (5 : Nat) (Option.some Jvm.ClassFile.FieldType.long)) ∈ wsAll := wT_5 130 rfl rfl
set_option maxRecDepth 100000 in
theorem kw_1212 : (Jvm.Cond.constantLong "GuardNets$Game" (116 : Nat) (2 : Int64)) ∈ wsAll := wT_5 131 rfl rfl
set_option maxRecDepth 100000 in
theorem kw_1213 : (Jvm.Cond.methodLink "GuardNets$Game" (112 : Nat) ({ cls := "GuardNets$Game", name := "shifted", desc := "(JJI)J" } : Jvm.MethodName)) ∈ wsAll := wT_5 132 rfl rfl
set_option maxRecDepth 100000 in
theorem kw_1214 : (Jvm.Cond.static ({ cls := "GuardNets$Game", name := "shifted", desc := "(JJI)J" } : Jvm.MethodName)) ∈ wsAll := wT_5 133 rfl rfl
set_option maxRecDepth 100000 in
theorem kw_1215 : (Jvm.Cond.code ({ cls := "GuardNets$Game", name := "shifted", desc := "(JJI)J" } : Jvm.MethodName) prog_5_method_13_code (5 : Nat) (Option.some Jvm.ClassFile.FieldType.long)) ∈ wsAll := wT_5 134 rfl rfl
set_option maxRecDepth 100000 in
theorem kw_1216 : (Jvm.Cond.methodLink "GuardNets" (296 : Nat) ({ cls := "GuardNets$Fraction", name := "putRatio", desc := "(JJ)V" } : Jvm.MethodName)) ∈ wsAll := wT_5 135 rfl rfl
set_option maxRecDepth 100000 in
theorem kw_1217 : (Jvm.Cond.instanceMethod ({ cls := "GuardNets$Fraction", name := "putRatio", desc := "(JJ)V" } : Jvm.MethodName)) ∈ wsAll := wT_5 136 rfl rfl
set_option maxRecDepth 100000 in
theorem kw_1218 : (Jvm.Cond.selects "GuardNets$Fraction" ({ cls := "GuardNets$Fraction", name := "putRatio", desc := "(JJ)V" } : Jvm.MethodName) ({ cls := "GuardNets$Fraction", name := "putRatio", desc := "(JJ)V" } : Jvm.MethodName)) ∈ wsAll := wT_5 137 rfl rfl
set_option maxRecDepth 100000 in
theorem kw_1219 : (Jvm.Cond.code ({ cls := "GuardNets$Fraction", name := "putRatio", desc := "(JJ)V" } : Jvm.MethodName) prog_4_method_7_code (7 : Nat) (Option.none : Option Jvm.ClassFile.FieldType)) ∈ wsAll := wT_5 138 rfl rfl
set_option maxRecDepth 100000 in
theorem kw_1220 : (Jvm.Cond.methodLink "GuardNets$Fraction" (55 : Nat) ({ cls := "GuardNets$Fraction", name := "commonDivisor", desc := "(JJ)J" } : Jvm.MethodName)) ∈ wsAll := wT_5 139 rfl rfl
set_option maxRecDepth 100000 in
theorem kw_1221 : (Jvm.Cond.static ({ cls := "GuardNets$Fraction", name := "commonDivisor", desc := "(JJ)J" } : Jvm.MethodName)) ∈ wsAll := wT_5 140 rfl rfl
set_option maxRecDepth 100000 in
theorem kw_1222 : (Jvm.Cond.code ({ cls := "GuardNets$Fraction", name := "commonDivisor", desc := "(JJ)J" } : Jvm.MethodName) prog_4_method_8_code (7 : Nat) (Option.some Jvm.ClassFile.FieldType.long)) ∈ wsAll := wT_5 141 rfl rfl
set_option maxRecDepth 100000 in
theorem kw_1223 : (Jvm.Cond.methodLink "GuardNets$Fraction" (59 : Nat) ({ cls := "GuardNets$Fraction", name := "spread", desc := "(J[I)V" } : Jvm.MethodName)) ∈ wsAll := wT_5 142 rfl rfl
set_option maxRecDepth 100000 in
theorem kw_1224 : (Jvm.Cond.static ({ cls := "GuardNets$Fraction", name := "spread", desc := "(J[I)V" } : Jvm.MethodName)) ∈ wsAll := wT_5 143 rfl rfl
set_option maxRecDepth 100000 in
theorem kw_1225 : (Jvm.Cond.code ({ cls := "GuardNets$Fraction", name := "spread", desc := "(J[I)V" } : Jvm.MethodName) prog_4_method_9_code (4 : Nat) (Option.none : Option Jvm.ClassFile.FieldType)) ∈ wsAll := wT_5 144 rfl rfl
set_option maxRecDepth 100000 in
theorem kw_1226 : (Jvm.Cond.methodLink "GuardNetsLaw" (134 : Nat) ({ cls := "GuardNets", name := "insider", desc := "(I)I" } : Jvm.MethodName)) ∈ wsAll := wT_5 145 rfl rfl
set_option maxRecDepth 100000 in
theorem kw_1227 : (Jvm.Cond.instanceMethod ({ cls := "GuardNets", name := "insider", desc := "(I)I" } : Jvm.MethodName)) ∈ wsAll := wT_5 146 rfl rfl
set_option maxRecDepth 100000 in
theorem kw_1228 : (Jvm.Cond.selects "GuardNets" ({ cls := "GuardNets", name := "insider", desc := "(I)I" } : Jvm.MethodName) ({ cls := "GuardNets", name := "insider", desc := "(I)I" } : Jvm.MethodName)) ∈ wsAll := wT_5 147 rfl rfl
set_option maxRecDepth 100000 in
theorem kw_1229 : (Jvm.Cond.code ({ cls := "GuardNets", name := "insider", desc := "(I)I" } : Jvm.MethodName) prog_1_method_31_code (2 : Nat) (Option.some Jvm.ClassFile.FieldType.int)) ∈ wsAll := wT_5 148 rfl rfl
set_option maxRecDepth 100000 in
theorem kw_1230 : (Jvm.Cond.methodLink "GuardNets" (300 : Nat) ({ cls := "GuardNets$Ways", name := "bribe", desc := "(I)Z" } : Jvm.MethodName)) ∈ wsAll := wT_5 149 rfl rfl
set_option maxRecDepth 100000 in
theorem kw_1231 : (Jvm.Cond.instanceMethod ({ cls := "GuardNets$Ways", name := "bribe", desc := "(I)Z" } : Jvm.MethodName)) ∈ wsAll := wT_5 150 rfl rfl
set_option maxRecDepth 100000 in
theorem kw_1232 : (Jvm.Cond.selects "GuardNets$Ways" ({ cls := "GuardNets$Ways", name := "bribe", desc := "(I)Z" } : Jvm.MethodName) ({ cls := "GuardNets$Ways", name := "bribe", desc := "(I)Z" } : Jvm.MethodName)) ∈ wsAll := wT_5 151 rfl rfl
set_option maxRecDepth 100000 in
theorem kw_1233 : (Jvm.Cond.code ({ cls := "GuardNets$Ways", name := "bribe", desc := "(I)Z" } : Jvm.MethodName) prog_12_method_7_code (2 : Nat) (Option.some Jvm.ClassFile.FieldType.boolean)) ∈ wsAll := wT_5 152 rfl rfl
set_option maxRecDepth 100000 in
theorem kw_1234 : (Jvm.Cond.methodLink "GuardNetsLaw" (138 : Nat) ({ cls := "GuardNets", name := "worst", desc := "(III)I" } : Jvm.MethodName)) ∈ wsAll := wT_5 153 rfl rfl
set_option maxRecDepth 100000 in
theorem kw_1235 : (Jvm.Cond.instanceMethod ({ cls := "GuardNets", name := "worst", desc := "(III)I" } : Jvm.MethodName)) ∈ wsAll := wT_5 154 rfl rfl
set_option maxRecDepth 100000 in
theorem kw_1236 : (Jvm.Cond.selects "GuardNets" ({ cls := "GuardNets", name := "worst", desc := "(III)I" } : Jvm.MethodName) ({ cls := "GuardNets", name := "worst", desc := "(III)I" } : Jvm.MethodName)) ∈ wsAll := wT_5 155 rfl rfl
set_option maxRecDepth 100000 in
theorem kw_1237 : (Jvm.Cond.code ({ cls := "GuardNets", name := "worst", desc := "(III)I" } : Jvm.MethodName) prog_1_method_32_code (6 : Nat) (Option.some Jvm.ClassFile.FieldType.int)) ∈ wsAll := wT_5 156 rfl rfl
set_option maxRecDepth 100000 in
theorem kw_1238 : (Jvm.Cond.methodLink "GuardNets" (306 : Nat) ({ cls := "GuardNets$Ways", name := "worstSet", desc := "(I)I" } : Jvm.MethodName)) ∈ wsAll := wT_5 157 rfl rfl
set_option maxRecDepth 100000 in
theorem kw_1239 : (Jvm.Cond.instanceMethod ({ cls := "GuardNets$Ways", name := "worstSet", desc := "(I)I" } : Jvm.MethodName)) ∈ wsAll := wT_5 158 rfl rfl
set_option maxRecDepth 100000 in
theorem kw_1240 : (Jvm.Cond.selects "GuardNets$Ways" ({ cls := "GuardNets$Ways", name := "worstSet", desc := "(I)I" } : Jvm.MethodName) ({ cls := "GuardNets$Ways", name := "worstSet", desc := "(I)I" } : Jvm.MethodName)) ∈ wsAll := wT_5 159 rfl rfl
set_option maxRecDepth 100000 in
theorem kw_1241 : (Jvm.Cond.code ({ cls := "GuardNets$Ways", name := "worstSet", desc := "(I)I" } : Jvm.MethodName) prog_12_method_10_code (6 : Nat) (Option.some Jvm.ClassFile.FieldType.int)) ∈ wsAll := wT_5 160 rfl rfl
set_option maxRecDepth 100000 in
theorem kw_1242 : (Jvm.Cond.methodLink "GuardNets$Ways" (89 : Nat) ({ cls := "GuardNets$Ways", name := "givenBy", desc := "(I)I" } : Jvm.MethodName)) ∈ wsAll := wT_5 161 rfl rfl
set_option maxRecDepth 100000 in
theorem kw_1243 : (Jvm.Cond.instanceMethod ({ cls := "GuardNets$Ways", name := "givenBy", desc := "(I)I" } : Jvm.MethodName)) ∈ wsAll := wT_5 162 rfl rfl
set_option maxRecDepth 100000 in
theorem kw_1244 : (Jvm.Cond.selects "GuardNets$Ways" ({ cls := "GuardNets$Ways", name := "givenBy", desc := "(I)I" } : Jvm.MethodName) ({ cls := "GuardNets$Ways", name := "givenBy", desc := "(I)I" } : Jvm.MethodName)) ∈ wsAll := wT_5 163 rfl rfl
set_option maxRecDepth 100000 in
theorem kw_1245 : (Jvm.Cond.code ({ cls := "GuardNets$Ways", name := "givenBy", desc := "(I)I" } : Jvm.MethodName) prog_12_method_8_code (4 : Nat) (Option.some Jvm.ClassFile.FieldType.int)) ∈ wsAll := wT_5 164 rfl rfl
set_option maxRecDepth 100000 in
theorem kw_1246 : (Jvm.Cond.methodLink "GuardNets$Ways" (92 : Nat) ({ cls := "GuardNets$Ways", name := "leastPriceWith", desc := "(I)I" } : Jvm.MethodName)) ∈ wsAll := wT_5 165 rfl rfl
set_option maxRecDepth 100000 in
theorem kw_1247 : (Jvm.Cond.instanceMethod ({ cls := "GuardNets$Ways", name := "leastPriceWith", desc := "(I)I" } : Jvm.MethodName)) ∈ wsAll := wT_5 166 rfl rfl
set_option maxRecDepth 100000 in
theorem kw_1248 : (Jvm.Cond.selects "GuardNets$Ways" ({ cls := "GuardNets$Ways", name := "leastPriceWith", desc := "(I)I" } : Jvm.MethodName) ({ cls := "GuardNets$Ways", name := "leastPriceWith", desc := "(I)I" } : Jvm.MethodName)) ∈ wsAll := wT_5 167 rfl rfl
set_option maxRecDepth 100000 in
theorem kw_1249 : (Jvm.Cond.code ({ cls := "GuardNets$Ways", name := "leastPriceWith", desc := "(I)I" } : Jvm.MethodName) prog_12_method_9_code (4 : Nat) (Option.some Jvm.ClassFile.FieldType.int)) ∈ wsAll := wT_5 168 rfl rfl
set_option maxRecDepth 100000 in
theorem kw_1250 : (Jvm.Cond.methodLink "GuardNets$Ways" (84 : Nat) ({ cls := "java/lang/Math", name := "min", desc := "(II)I" } : Jvm.MethodName)) ∈ wsAll := wT_5 169 rfl rfl
set_option maxRecDepth 100000 in
theorem kw_1251 : (Jvm.Cond.methodLink "GuardNets" (309 : Nat) ({ cls := "GuardNets$Ways", name := "givenBy", desc := "(I)I" } : Jvm.MethodName)) ∈ wsAll := wT_5 170 rfl rfl
set_option maxRecDepth 100000 in
theorem kw_1252 : (Jvm.Cond.methodLink "GuardNets" (312 : Nat) ({ cls := "GuardNets$Ways", name := "leastPriceWith", desc := "(I)I" } : Jvm.MethodName)) ∈ wsAll := wT_5 171 rfl rfl
set_option maxRecDepth 100000 in
theorem kw_1253 : (Jvm.Cond.methodLink "GuardNetsLaw" (142 : Nat) ({ cls := "GuardNets", name := "may", desc := "(III)I" } : Jvm.MethodName)) ∈ wsAll := wT_5 172 rfl rfl
set_option maxRecDepth 100000 in
theorem kw_1254 : (Jvm.Cond.instanceMethod ({ cls := "GuardNets", name := "may", desc := "(III)I" } : Jvm.MethodName)) ∈ wsAll := wT_5 173 rfl rfl
set_option maxRecDepth 100000 in
theorem kw_1255 : (Jvm.Cond.selects "GuardNets" ({ cls := "GuardNets", name := "may", desc := "(III)I" } : Jvm.MethodName) ({ cls := "GuardNets", name := "may", desc := "(III)I" } : Jvm.MethodName)) ∈ wsAll := wT_5 174 rfl rfl
set_option maxRecDepth 100000 in
theorem kw_1256 : (Jvm.Cond.code ({ cls := "GuardNets", name := "may", desc := "(III)I" } : Jvm.MethodName) prog_1_method_33_code (5 : Nat) (Option.some Jvm.ClassFile.FieldType.int)) ∈ wsAll := wT_5 175 rfl rfl
set_option maxRecDepth 100000 in
theorem kw_1257 : (Jvm.Cond.methodLink "GuardNets" (315 : Nat) ({ cls := "GuardNets", name := "noMarks", desc := "(II)Z" } : Jvm.MethodName)) ∈ wsAll := wT_5 176 rfl rfl
set_option maxRecDepth 100000 in
theorem kw_1258 : (Jvm.Cond.static ({ cls := "GuardNets", name := "noMarks", desc := "(II)Z" } : Jvm.MethodName)) ∈ wsAll := wT_5 177 rfl rfl
set_option maxRecDepth 100000 in
theorem kw_1259 : (Jvm.Cond.code ({ cls := "GuardNets", name := "noMarks", desc := "(II)Z" } : Jvm.MethodName) prog_1_method_53_code (2 : Nat) (Option.some Jvm.ClassFile.FieldType.boolean)) ∈ wsAll := wT_5 178 rfl rfl
set_option maxRecDepth 100000 in
theorem kw_1260 : (Jvm.Cond.methodLink "GuardNets" (318 : Nat) ({ cls := "GuardNets$Ways", name := "sift", desc := "(II)I" } : Jvm.MethodName)) ∈ wsAll := wT_5 179 rfl rfl
set_option maxRecDepth 100000 in
theorem kw_1261 : (Jvm.Cond.instanceMethod ({ cls := "GuardNets$Ways", name := "sift", desc := "(II)I" } : Jvm.MethodName)) ∈ wsAll := wT_5 180 rfl rfl
set_option maxRecDepth 100000 in
theorem kw_1262 : (Jvm.Cond.selects "GuardNets$Ways" ({ cls := "GuardNets$Ways", name := "sift", desc := "(II)I" } : Jvm.MethodName) ({ cls := "GuardNets$Ways", name := "sift", desc := "(II)I" } : Jvm.MethodName)) ∈ wsAll := wT_5 181 rfl rfl
set_option maxRecDepth 100000 in
theorem kw_1263 : (Jvm.Cond.code ({ cls := "GuardNets$Ways", name := "sift", desc := "(II)I" } : Jvm.MethodName) prog_12_method_11_code (6 : Nat) (Option.some Jvm.ClassFile.FieldType.int)) ∈ wsAll := wT_5 182 rfl rfl
set_option maxRecDepth 100000 in
theorem kw_1264 : (Jvm.Cond.methodLink "GuardNets$Ways" (95 : Nat) ({ cls := "GuardNets$House", name := "marksOf", desc := "(I)I" } : Jvm.MethodName)) ∈ wsAll := wT_5 183 rfl rfl
set_option maxRecDepth 100000 in
theorem kw_1265 : (Jvm.Cond.instanceMethod ({ cls := "GuardNets$House", name := "marksOf", desc := "(I)I" } : Jvm.MethodName)) ∈ wsAll := wT_5 184 rfl rfl
set_option maxRecDepth 100000 in
theorem kw_1266 : (Jvm.Cond.selects "GuardNets$House" ({ cls := "GuardNets$House", name := "marksOf", desc := "(I)I" } : Jvm.MethodName) ({ cls := "GuardNets$House", name := "marksOf", desc := "(I)I" } : Jvm.MethodName)) ∈ wsAll := wT_5 185 rfl rfl
set_option maxRecDepth 100000 in
theorem kw_1267 : (Jvm.Cond.code ({ cls := "GuardNets$House", name := "marksOf", desc := "(I)I" } : Jvm.MethodName) prog_7_method_5_code (4 : Nat) (Option.some Jvm.ClassFile.FieldType.int)) ∈ wsAll := wT_5 186 rfl rfl
set_option maxRecDepth 100000 in
theorem kw_1268 : (Jvm.Cond.methodLink "GuardNetsLaw" (146 : Nat) ({ cls := "GuardNets", name := "ask", desc := "(III)I" } : Jvm.MethodName)) ∈ wsAll := wT_5 187 rfl rfl
set_option maxRecDepth 100000 in
theorem kw_1269 : (Jvm.Cond.instanceMethod ({ cls := "GuardNets", name := "ask", desc := "(III)I" } : Jvm.MethodName)) ∈ wsAll := wT_5 188 rfl rfl
set_option maxRecDepth 100000 in
theorem kw_1270 : (Jvm.Cond.selects "GuardNets" ({ cls := "GuardNets", name := "ask", desc := "(III)I" } : Jvm.MethodName) ({ cls := "GuardNets", name := "ask", desc := "(III)I" } : Jvm.MethodName)) ∈ wsAll := wT_5 189 rfl rfl
set_option maxRecDepth 100000 in
theorem kw_1271 : (Jvm.Cond.code ({ cls := "GuardNets", name := "ask", desc := "(III)I" } : Jvm.MethodName) prog_1_method_34_code (5 : Nat) (Option.some Jvm.ClassFile.FieldType.int)) ∈ wsAll := wT_5 190 rfl rfl
set_option maxRecDepth 100000 in
theorem kw_1272 : (Jvm.Cond.methodLink "GuardNets" (321 : Nat) ({ cls := "GuardNets$Ways", name := "markToAsk", desc := "(II)I" } : Jvm.MethodName)) ∈ wsAll := wT_5 191 rfl rfl
set_option maxRecDepth 100000 in
theorem kw_1273 : (Jvm.Cond.instanceMethod ({ cls := "GuardNets$Ways", name := "markToAsk", desc := "(II)I" } : Jvm.MethodName)) ∈ wsAll := wT_5 192 rfl rfl
set_option maxRecDepth 100000 in
theorem kw_1274 : (Jvm.Cond.selects "GuardNets$Ways" ({ cls := "GuardNets$Ways", name := "markToAsk", desc := "(II)I" } : Jvm.MethodName) ({ cls := "GuardNets$Ways", name := "markToAsk", desc := "(II)I" } : Jvm.MethodName)) ∈ wsAll := wT_5 193 rfl rfl
set_option maxRecDepth 100000 in
theorem kw_1275 : (Jvm.Cond.code ({ cls := "GuardNets$Ways", name := "markToAsk", desc := "(II)I" } : Jvm.MethodName) prog_12_method_12_code (9 : Nat) (Option.some Jvm.ClassFile.FieldType.int)) ∈ wsAll := wT_5 194 rfl rfl
set_option maxRecDepth 100000 in
theorem kw_1276 : (Jvm.Cond.methodLink "GuardNets$Ways" (98 : Nat) ({ cls := "GuardNets$Ways", name := "sift", desc := "(II)I" } : Jvm.MethodName)) ∈ wsAll := wT_5 195 rfl rfl
set_option maxRecDepth 100000 in
theorem kw_1277 : (Jvm.Cond.methodLink "GuardNets$Ways" (101 : Nat) ({ cls := "java/lang/Math", name := "max", desc := "(II)I" } : Jvm.MethodName)) ∈ wsAll := wT_5 196 rfl rfl
set_option maxRecDepth 100000 in
theorem kw_1278 : (Jvm.Cond.methodLink "GuardNetsLaw" (150 : Nat) ({ cls := "GuardNets", name := "event", desc := "(II)I" } : Jvm.MethodName)) ∈ wsAll := wT_5 197 rfl rfl
set_option maxRecDepth 100000 in
theorem kw_1279 : (Jvm.Cond.instanceMethod ({ cls := "GuardNets", name := "event", desc := "(II)I" } : Jvm.MethodName)) ∈ wsAll := wT_5 198 rfl rfl
set_option maxRecDepth 100000 in
theorem kw_1280 : (Jvm.Cond.selects "GuardNets" ({ cls := "GuardNets", name := "event", desc := "(II)I" } : Jvm.MethodName) ({ cls := "GuardNets", name := "event", desc := "(II)I" } : Jvm.MethodName)) ∈ wsAll := wT_5 199 rfl rfl
set_option maxRecDepth 100000 in
theorem kw_1281 : (Jvm.Cond.code ({ cls := "GuardNets", name := "event", desc := "(II)I" } : Jvm.MethodName) prog_1_method_35_code (3 : Nat) (Option.some Jvm.ClassFile.FieldType.int)) ∈ wsAll := wT_5 200 rfl rfl
set_option maxRecDepth 100000 in
theorem kw_1282 : (Jvm.Cond.methodLink "GuardNets" (324 : Nat) ({ cls := "GuardNets$Drill", name := "lastMinute", desc := "()I" } : Jvm.MethodName)) ∈ wsAll := wT_5 201 rfl rfl
set_option maxRecDepth 100000 in
theorem kw_1283 : (Jvm.Cond.instanceMethod ({ cls := "GuardNets$Drill", name := "lastMinute", desc := "()I" } : Jvm.MethodName)) ∈ wsAll := wT_5 202 rfl rfl
set_option maxRecDepth 100000 in
theorem kw_1284 : (Jvm.Cond.selects "GuardNets$Drill" ({ cls := "GuardNets$Drill", name := "lastMinute", desc := "()I" } : Jvm.MethodName) ({ cls := "GuardNets$Drill", name := "lastMinute", desc := "()I" } : Jvm.MethodName)) ∈ wsAll := wT_5 203 rfl rfl
set_option maxRecDepth 100000 in
theorem kw_1285 : (Jvm.Cond.code ({ cls := "GuardNets$Drill", name := "lastMinute", desc := "()I" } : Jvm.MethodName) prog_3_method_2_code (1 : Nat) (Option.some Jvm.ClassFile.FieldType.int)) ∈ wsAll := wT_5 204 rfl rfl
set_option maxRecDepth 100000 in
theorem kw_1286 : (Jvm.Cond.methodLink "GuardNets" (327 : Nat) ({ cls := "GuardNets$Drill", name := "append", desc := "(II)Z" } : Jvm.MethodName)) ∈ wsAll := wT_5 205 rfl rfl
set_option maxRecDepth 100000 in
theorem kw_1287 : (Jvm.Cond.instanceMethod ({ cls := "GuardNets$Drill", name := "append", desc := "(II)Z" } : Jvm.MethodName)) ∈ wsAll := wT_5 206 rfl rfl
set_option maxRecDepth 100000 in
theorem kw_1288 : (Jvm.Cond.selects "GuardNets$Drill" ({ cls := "GuardNets$Drill", name := "append", desc := "(II)Z" } : Jvm.MethodName) ({ cls := "GuardNets$Drill", name := "append", desc := "(II)Z" } : Jvm.MethodName)) ∈ wsAll := wT_5 207 rfl rfl
set_option maxRecDepth 100000 in
theorem kw_1289 : (Jvm.Cond.code ({ cls := "GuardNets$Drill", name := "append", desc := "(II)Z" } : Jvm.MethodName) prog_3_method_3_code (3 : Nat) (Option.some Jvm.ClassFile.FieldType.boolean)) ∈ wsAll := wT_5 208 rfl rfl
set_option maxRecDepth 100000 in
theorem kw_1290 : (Jvm.Cond.methodLink "GuardNetsLaw" (154 : Nat) ({ cls := "GuardNets", name := "rest", desc := "()I" } : Jvm.MethodName)) ∈ wsAll := wT_5 209 rfl rfl
set_option maxRecDepth 100000 in
theorem kw_1291 : (Jvm.Cond.instanceMethod ({ cls := "GuardNets", name := "rest", desc := "()I" } : Jvm.MethodName)) ∈ wsAll := wT_5 210 rfl rfl
set_option maxRecDepth 100000 in
theorem kw_1292 : (Jvm.Cond.selects "GuardNets" ({ cls := "GuardNets", name := "rest", desc := "()I" } : Jvm.MethodName) ({ cls := "GuardNets", name := "rest", desc := "()I" } : Jvm.MethodName)) ∈ wsAll := wT_5 211 rfl rfl
set_option maxRecDepth 100000 in
theorem kw_1293 : (Jvm.Cond.code ({ cls := "GuardNets", name := "rest", desc := "()I" } : Jvm.MethodName) prog_1_method_36_code (2 : Nat) (Option.some Jvm.ClassFile.FieldType.int)) ∈ wsAll := wT_5 212 rfl rfl
set_option maxRecDepth 100000 in
theorem kw_1294 : (Jvm.Cond.methodLink "GuardNetsLaw" (158 : Nat) ({ cls := "GuardNets", name := "soon", desc := "()I" } : Jvm.MethodName)) ∈ wsAll := wT_5 213 rfl rfl
set_option maxRecDepth 100000 in
theorem kw_1295 : (Jvm.Cond.instanceMethod ({ cls := "GuardNets", name := "soon", desc := "()I" } : Jvm.MethodName)) ∈ wsAll := wT_5 214 rfl rfl
set_option maxRecDepth 100000 in
theorem kw_1296 : (Jvm.Cond.selects "GuardNets" ({ cls := "GuardNets", name := "soon", desc := "()I" } : Jvm.MethodName) ({ cls := "GuardNets", name := "soon", desc := "()I" } : Jvm.MethodName)) ∈ wsAll := wT_5 215 rfl rfl
set_option maxRecDepth 100000 in
theorem kw_1297 : (Jvm.Cond.code ({ cls := "GuardNets", name := "soon", desc := "()I" } : Jvm.MethodName) prog_1_method_37_code (1 : Nat) (Option.some Jvm.ClassFile.FieldType.int)) ∈ wsAll := wT_5 216 rfl rfl
set_option maxRecDepth 100000 in
theorem kw_1298 : (Jvm.Cond.methodLink "GuardNets" (330 : Nat) ({ cls := "GuardNets$Drill", name := "firstTooSoon", desc := "()I" } : Jvm.MethodName)) ∈ wsAll := wT_5 217 rfl rfl
set_option maxRecDepth 100000 in
theorem kw_1299 : (Jvm.Cond.instanceMethod ({ cls := "GuardNets$Drill", name := "firstTooSoon", desc := "()I" } : Jvm.MethodName)) ∈ wsAll := wT_5 218 rfl rfl
set_option maxRecDepth 100000 in
theorem kw_1300 : (Jvm.Cond.selects "GuardNets$Drill" ({ cls := "GuardNets$Drill", name := "firstTooSoon", desc := "()I" } : Jvm.MethodName) ({ cls := "GuardNets$Drill", name := "firstTooSoon", desc := "()I" } : Jvm.MethodName)) ∈ wsAll := wT_5 219 rfl rfl
set_option maxRecDepth 100000 in
theorem kw_1301 : (Jvm.Cond.code ({ cls := "GuardNets$Drill", name := "firstTooSoon", desc := "()I" } : Jvm.MethodName) prog_3_method_4_code (3 : Nat) (Option.some Jvm.ClassFile.FieldType.int)) ∈ wsAll := wT_5 220 rfl rfl
set_option maxRecDepth 100000 in
theorem kw_1302 : (Jvm.Cond.methodLink "GuardNets$Drill" (43 : Nat) ({ cls := "GuardNets$House", name := "get", desc := "(II)I" } : Jvm.MethodName)) ∈ wsAll := wT_5 221 rfl rfl
set_option maxRecDepth 100000 in
theorem kw_1303 : (Jvm.Cond.methodLink "GuardNetsLaw" (162 : Nat) ({ cls := "GuardNets", name := "reached", desc := "(II)I" } : Jvm.MethodName)) ∈ wsAll := wT_5 222 rfl rfl
set_option maxRecDepth 100000 in
theorem kw_1304 : (Jvm.Cond.instanceMethod ({ cls := "GuardNets", name := "reached", desc := "(II)I" } : Jvm.MethodName)) ∈ wsAll := wT_5 223 rfl rfl
set_option maxRecDepth 100000 in
theorem kw_1305 : (Jvm.Cond.selects "GuardNets" ({ cls := "GuardNets", name := "reached", desc := "(II)I" } : Jvm.MethodName) ({ cls := "GuardNets", name := "reached", desc := "(II)I" } : Jvm.MethodName)) ∈ wsAll := wT_5 224 rfl rfl
set_option maxRecDepth 100000 in
theorem kw_1306 : (Jvm.Cond.code ({ cls := "GuardNets", name := "reached", desc := "(II)I" } : Jvm.MethodName) prog_1_method_38_code (4 : Nat) (Option.some Jvm.ClassFile.FieldType.int)) ∈ wsAll := wT_5 225 rfl rfl
set_option maxRecDepth 100000 in
theorem kw_1307 : (Jvm.Cond.methodLink "GuardNets" (333 : Nat) ({ cls := "GuardNets$Drill", name := "eventReaching", desc := "(II)I" } : Jvm.MethodName)) ∈ wsAll := wT_5 226 rfl rfl
set_option maxRecDepth 100000 in
theorem kw_1308 : (Jvm.Cond.instanceMethod ({ cls := "GuardNets$Drill", name := "eventReaching", desc := "(II)I" } : Jvm.MethodName)) ∈ wsAll := wT_5 227 rfl rfl
set_option maxRecDepth 100000 in
theorem kw_1309 : (Jvm.Cond.selects "GuardNets$Drill" ({ cls := "GuardNets$Drill", name := "eventReaching", desc := "(II)I" } : Jvm.MethodName) ({ cls := "GuardNets$Drill", name := "eventReaching", desc := "(II)I" } : Jvm.MethodName)) ∈ wsAll := wT_5 228 rfl rfl
set_option maxRecDepth 100000 in
theorem kw_1310 : (Jvm.Cond.code ({ cls := "GuardNets$Drill", name := "eventReaching", desc := "(II)I" } : Jvm.MethodName) prog_3_method_5_code (5 : Nat) (Option.some Jvm.ClassFile.FieldType.int)) ∈ wsAll := wT_5 229 rfl rfl
set_option maxRecDepth 100000 in
theorem kw_1311 : (Jvm.Cond.methodLink "GuardNets$Drill" (47 : Nat) ({ cls := "GuardNets$Fraction", name := "grown", desc := "([II)[I" } : Jvm.MethodName)) ∈ wsAll := wT_5 230 rfl rfl
set_option maxRecDepth 100000 in
theorem kw_1312 : (Jvm.Cond.methodLink "GuardNets$Drill" (53 : Nat) ({ cls := "GuardNets$Drill", name := "knotEvent", desc := "(II)I" } : Jvm.MethodName)) ∈ wsAll := wT_5 231 rfl rfl
set_option maxRecDepth 100000 in
theorem kw_1314 : (Jvm.Cond.instanceMethod ({ cls := "GuardNets$Drill", name := "knotEvent", desc := "(II)I" } : Jvm.MethodName)) ∈ wsAll := wT_5 233 rfl rfl
set_option maxRecDepth 100000 in
theorem kw_1315 : (Jvm.Cond.code ({ cls := "GuardNets$Drill", name := "knotEvent", desc := "(II)I" } : Jvm.MethodName) prog_3_method_6_code (3 : Nat) (Option.some Jvm.ClassFile.FieldType.int)) ∈ wsAll := wT_5 234 rfl rfl
set_option maxRecDepth 100000 in
theorem kw_1316 : (Jvm.Cond.methodLink "GuardNets$Drill" (64 : Nat) ({ cls := "GuardNets$Drill", name := "letterEvent", desc := "(II)I" } : Jvm.MethodName)) ∈ wsAll := wT_5 235 rfl rfl
set_option maxRecDepth 100000 in
theorem kw_1318 : (Jvm.Cond.instanceMethod ({ cls := "GuardNets$Drill", name := "letterEvent", desc := "(II)I" } : Jvm.MethodName)) ∈ wsAll := wT_5 237 rfl rfl
set_option maxRecDepth 100000 in
theorem kw_1319 : (Jvm.Cond.code ({ cls := "GuardNets$Drill", name := "letterEvent", desc := "(II)I" } : Jvm.MethodName) prog_3_method_7_code (4 : Nat) (Option.some Jvm.ClassFile.FieldType.int)) ∈ wsAll := wT_5 238 rfl rfl
set_option maxRecDepth 100000 in
theorem kw_1320 : (Jvm.Cond.methodLink "GuardNets$Drill" (67 : Nat) ({ cls := "GuardNets$Drill", name := "firstEvent", desc := "(II)I" } : Jvm.MethodName)) ∈ wsAll := wT_5 239 rfl rfl
set_option maxRecDepth 100000 in
theorem kw_1322 : (Jvm.Cond.instanceMethod ({ cls := "GuardNets$Drill", name := "firstEvent", desc := "(II)I" } : Jvm.MethodName)) ∈ wsAll := wT_6 1 rfl rfl
set_option maxRecDepth 100000 in
theorem kw_1323 : (Jvm.Cond.code ({ cls := "GuardNets$Drill", name := "firstEvent", desc := "(II)I" } : Jvm.MethodName) prog_3_method_9_code (6 : Nat) (Option.some Jvm.ClassFile.FieldType.int)) ∈ wsAll := wT_6 2 rfl rfl
set_option maxRecDepth 100000 in
theorem kw_1324 : (Jvm.Cond.methodLink "GuardNets$Drill" (82 : Nat) ({ cls := "GuardNets$Drill", name := "partEvent", desc := "(III)I" } : Jvm.MethodName)) ∈ wsAll := wT_6 3 rfl rfl
set_option maxRecDepth 100000 in
theorem kw_1326 : (Jvm.Cond.instanceMethod ({ cls := "GuardNets$Drill", name := "partEvent", desc := "(III)I" } : Jvm.MethodName)) ∈ wsAll := wT_6 5 rfl rfl
set_option maxRecDepth 100000 in
theorem kw_1327 : (Jvm.Cond.code ({ cls := "GuardNets$Drill", name := "partEvent", desc := "(III)I" } : Jvm.MethodName) prog_3_method_8_code (4 : Nat) (Option.some Jvm.ClassFile.FieldType.int)) ∈ wsAll := wT_6 6 rfl rfl
set_option maxRecDepth 100000 in
theorem kw_1328 : (Jvm.Cond.methodLink "GuardNets$Drill" (79 : Nat) ({ cls := "GuardNets$Nets", name := "partOf", desc := "(II)I" } : Jvm.MethodName)) ∈ wsAll := wT_6 7 rfl rfl
set_option maxRecDepth 100000 in
theorem kw_1329 : (Jvm.Cond.methodLink "GuardNets$Drill" (70 : Nat) ({ cls := "GuardNets$Drill", name := "chainEvent", desc := "(II)I" } : Jvm.MethodName)) ∈ wsAll := wT_6 8 rfl rfl
set_option maxRecDepth 100000 in
theorem kw_1331 : (Jvm.Cond.instanceMethod ({ cls := "GuardNets$Drill", name := "chainEvent", desc := "(II)I" } : Jvm.MethodName)) ∈ wsAll := wT_6 10 rfl rfl
set_option maxRecDepth 100000 in
theorem kw_1332 : (Jvm.Cond.code ({ cls := "GuardNets$Drill", name := "chainEvent", desc := "(II)I" } : Jvm.MethodName) prog_3_method_11_code (5 : Nat) (Option.some Jvm.ClassFile.FieldType.int)) ∈ wsAll := wT_6 11 rfl rfl
set_option maxRecDepth 100000 in
theorem kw_1333 : (Jvm.Cond.methodLink "GuardNets$Drill" (73 : Nat) ({ cls := "GuardNets$Drill", name := "lastEvent", desc := "(II)I" } : Jvm.MethodName)) ∈ wsAll := wT_6 12 rfl rfl
set_option maxRecDepth 100000 in
theorem kw_1335 : (Jvm.Cond.instanceMethod ({ cls := "GuardNets$Drill", name := "lastEvent", desc := "(II)I" } : Jvm.MethodName)) ∈ wsAll := wT_6 14 rfl rfl
set_option maxRecDepth 100000 in
theorem kw_1336 : (Jvm.Cond.code ({ cls := "GuardNets$Drill", name := "lastEvent", desc := "(II)I" } : Jvm.MethodName) prog_3_method_10_code (6 : Nat) (Option.some Jvm.ClassFile.FieldType.int)) ∈ wsAll := wT_6 15 rfl rfl
set_option maxRecDepth 100000 in
theorem kw_1337 : (Jvm.Cond.methodLink "GuardNets$Drill" (86 : Nat) ({ cls := "java/lang/Math", name := "max", desc := "(II)I" } : Jvm.MethodName)) ∈ wsAll := wT_6 16 rfl rfl
set_option maxRecDepth 100000 in
theorem kw_1338 : (Jvm.Cond.methodLink "GuardNets$Drill" (76 : Nat) ({ cls := "GuardNets$Drill", name := "someEvent", desc := "(II)I" } : Jvm.MethodName)) ∈ wsAll := wT_6 17 rfl rfl
set_option maxRecDepth 100000 in
theorem kw_1340 : (Jvm.Cond.instanceMethod ({ cls := "GuardNets$Drill", name := "someEvent", desc := "(II)I" } : Jvm.MethodName)) ∈ wsAll := wT_6 19 rfl rfl
set_option maxRecDepth 100000 in
theorem kw_1341 : (Jvm.Cond.code ({ cls := "GuardNets$Drill", name := "someEvent", desc := "(II)I" } : Jvm.MethodName) prog_3_method_12_code (6 : Nat) (Option.some Jvm.ClassFile.FieldType.int)) ∈ wsAll := wT_6 20 rfl rfl
set_option maxRecDepth 100000 in
theorem kw_1342 : (Jvm.Cond.methodLink "GuardNets$Drill" (94 : Nat) ({ cls := "GuardNets$Nets", name := "risingAt", desc := "([III)I" } : Jvm.MethodName)) ∈ wsAll := wT_6 21 rfl rfl
set_option maxRecDepth 100000 in
theorem kw_1343 : (Jvm.Cond.methodLink "GuardNetsLaw" (166 : Nat) ({ cls := "GuardNets", name := "walk", desc := "(II)I" } : Jvm.MethodName)) ∈ wsAll := wT_6 22 rfl rfl
set_option maxRecDepth 100000 in
theorem kw_1344 : (Jvm.Cond.instanceMethod ({ cls := "GuardNets", name := "walk", desc := "(II)I" } : Jvm.MethodName)) ∈ wsAll := wT_6 23 rfl rfl
set_option maxRecDepth 100000 in
theorem kw_1345 : (Jvm.Cond.selects "GuardNets" ({ cls := "GuardNets", name := "walk", desc := "(II)I" } : Jvm.MethodName) ({ cls := "GuardNets", name := "walk", desc := "(II)I" } : Jvm.MethodName)) ∈ wsAll := wT_6 24 rfl rfl
set_option maxRecDepth 100000 in
theorem kw_1346 : (Jvm.Cond.code ({ cls := "GuardNets", name := "walk", desc := "(II)I" } : Jvm.MethodName) prog_1_method_39_code (3 : Nat) (Option.some Jvm.ClassFile.FieldType.int)) ∈ wsAll := wT_6 25 rfl rfl
set_option maxRecDepth 100000 in
theorem kw_1347 : (Jvm.Cond.methodLink "GuardNets" (336 : Nat) ({ cls := "GuardNets$Watch", name := "addPlace", desc := "(II)Z" } : Jvm.MethodName)) ∈ wsAll := wT_6 26 rfl rfl
set_option maxRecDepth 100000 in
theorem kw_1348 : (Jvm.Cond.instanceMethod ({ cls := "GuardNets$Watch", name := "addPlace", desc := "(II)Z" } : Jvm.MethodName)) ∈ wsAll := wT_6 27 rfl rfl
set_option maxRecDepth 100000 in
theorem kw_1349 : (Jvm.Cond.selects "GuardNets$Watch" ({ cls := "GuardNets$Watch", name := "addPlace", desc := "(II)Z" } : Jvm.MethodName) ({ cls := "GuardNets$Watch", name := "addPlace", desc := "(II)Z" } : Jvm.MethodName)) ∈ wsAll := wT_6 28 rfl rfl
set_option maxRecDepth 100000 in
theorem kw_1350 : (Jvm.Cond.code ({ cls := "GuardNets$Watch", name := "addPlace", desc := "(II)Z" } : Jvm.MethodName) prog_11_method_2_code (3 : Nat) (Option.some Jvm.ClassFile.FieldType.boolean)) ∈ wsAll := wT_6 29 rfl rfl
set_option maxRecDepth 100000 in
theorem kw_1351 : (Jvm.Cond.methodLink "GuardNetsLaw" (170 : Nat) ({ cls := "GuardNets", name := "home", desc := "(I)I" } : Jvm.MethodName)) ∈ wsAll := wT_6 30 rfl rfl
set_option maxRecDepth 100000 in
theorem kw_1352 : (Jvm.Cond.instanceMethod ({ cls := "GuardNets", name := "home", desc := "(I)I" } : Jvm.MethodName)) ∈ wsAll := wT_6 31 rfl rfl
set_option maxRecDepth 100000 in
theorem kw_1353 : (Jvm.Cond.selects "GuardNets" ({ cls := "GuardNets", name := "home", desc := "(I)I" } : Jvm.MethodName) ({ cls := "GuardNets", name := "home", desc := "(I)I" } : Jvm.MethodName)) ∈ wsAll := wT_6 32 rfl rfl
set_option maxRecDepth 100000 in
theorem kw_1354 : (Jvm.Cond.code ({ cls := "GuardNets", name := "home", desc := "(I)I" } : Jvm.MethodName) prog_1_method_40_code (3 : Nat) (Option.some Jvm.ClassFile.FieldType.int)) ∈ wsAll := wT_6 33 rfl rfl
set_option maxRecDepth 100000 in
theorem kw_1355 : (Jvm.Cond.methodLink "GuardNetsLaw" (174 : Nat) ({ cls := "GuardNets", name := "stands", desc := "(II)I" } : Jvm.MethodName)) ∈ wsAll := wT_6 34 rfl rfl
set_option maxRecDepth 100000 in
theorem kw_1356 : (Jvm.Cond.instanceMethod ({ cls := "GuardNets", name := "stands", desc := "(II)I" } : Jvm.MethodName)) ∈ wsAll := wT_6 35 rfl rfl
set_option maxRecDepth 100000 in
theorem kw_1357 : (Jvm.Cond.selects "GuardNets" ({ cls := "GuardNets", name := "stands", desc := "(II)I" } : Jvm.MethodName) ({ cls := "GuardNets", name := "stands", desc := "(II)I" } : Jvm.MethodName)) ∈ wsAll := wT_6 36 rfl rfl
set_option maxRecDepth 100000 in
theorem kw_1358 : (Jvm.Cond.code ({ cls := "GuardNets", name := "stands", desc := "(II)I" } : Jvm.MethodName) prog_1_method_41_code (3 : Nat) (Option.some Jvm.ClassFile.FieldType.int)) ∈ wsAll := wT_6 37 rfl rfl
set_option maxRecDepth 100000 in
theorem kw_1359 : (Jvm.Cond.methodLink "GuardNets" (342 : Nat) ({ cls := "GuardNets$Watch", name := "menAt", desc := "(II)I" } : Jvm.MethodName)) ∈ wsAll := wT_6 38 rfl rfl
set_option maxRecDepth 100000 in
theorem kw_1360 : (Jvm.Cond.instanceMethod ({ cls := "GuardNets$Watch", name := "menAt", desc := "(II)I" } : Jvm.MethodName)) ∈ wsAll := wT_6 39 rfl rfl
set_option maxRecDepth 100000 in
theorem kw_1361 : (Jvm.Cond.selects "GuardNets$Watch" ({ cls := "GuardNets$Watch", name := "menAt", desc := "(II)I" } : Jvm.MethodName) ({ cls := "GuardNets$Watch", name := "menAt", desc := "(II)I" } : Jvm.MethodName)) ∈ wsAll := wT_6 40 rfl rfl
set_option maxRecDepth 100000 in
theorem kw_1362 : (Jvm.Cond.code ({ cls := "GuardNets$Watch", name := "menAt", desc := "(II)I" } : Jvm.MethodName) prog_11_method_3_code (5 : Nat) (Option.some Jvm.ClassFile.FieldType.int)) ∈ wsAll := wT_6 41 rfl rfl
set_option maxRecDepth 100000 in
theorem kw_1363 : (Jvm.Cond.methodLink "GuardNets$Watch" (38 : Nat) ({ cls := "GuardNets$Watch", name := "placeOf", desc := "(II)I" } : Jvm.MethodName)) ∈ wsAll := wT_6 42 rfl rfl
set_option maxRecDepth 100000 in
theorem kw_1365 : (Jvm.Cond.instanceMethod ({ cls := "GuardNets$Watch", name := "placeOf", desc := "(II)I" } : Jvm.MethodName)) ∈ wsAll := wT_6 44 rfl rfl
set_option maxRecDepth 100000 in
theorem kw_1366 : (Jvm.Cond.code ({ cls := "GuardNets$Watch", name := "placeOf", desc := "(II)I" } : Jvm.MethodName) prog_11_method_4_code (3 : Nat) (Option.some Jvm.ClassFile.FieldType.int)) ∈ wsAll := wT_6 45 rfl rfl
set_option maxRecDepth 100000 in
theorem kw_1367 : (Jvm.Cond.methodLink "GuardNetsLaw" (178 : Nat) ({ cls := "GuardNets", name := "begins", desc := "(II)I" } : Jvm.MethodName)) ∈ wsAll := wT_6 46 rfl rfl
set_option maxRecDepth 100000 in
theorem kw_1368 : (Jvm.Cond.instanceMethod ({ cls := "GuardNets", name := "begins", desc := "(II)I" } : Jvm.MethodName)) ∈ wsAll := wT_6 47 rfl rfl
set_option maxRecDepth 100000 in
theorem kw_1369 : (Jvm.Cond.selects "GuardNets" ({ cls := "GuardNets", name := "begins", desc := "(II)I" } : Jvm.MethodName) ({ cls := "GuardNets", name := "begins", desc := "(II)I" } : Jvm.MethodName)) ∈ wsAll := wT_6 48 rfl rfl
set_option maxRecDepth 100000 in
theorem kw_1370 : (Jvm.Cond.code ({ cls := "GuardNets", name := "begins", desc := "(II)I" } : Jvm.MethodName) prog_1_method_42_code (3 : Nat) (Option.some Jvm.ClassFile.FieldType.int)) ∈ wsAll := wT_6 49 rfl rfl
set_option maxRecDepth 100000 in
theorem kw_1371 : (Jvm.Cond.methodLink "GuardNets" (345 : Nat) ({ cls := "GuardNets$Watch", name := "firstBegin", desc := "(II)I" } : Jvm.MethodName)) ∈ wsAll := wT_6 50 rfl rfl
set_option maxRecDepth 100000 in
theorem kw_1372 : (Jvm.Cond.instanceMethod ({ cls := "GuardNets$Watch", name := "firstBegin", desc := "(II)I" } : Jvm.MethodName)) ∈ wsAll := wT_6 51 rfl rfl
set_option maxRecDepth 100000 in
theorem kw_1373 : (Jvm.Cond.selects "GuardNets$Watch" ({ cls := "GuardNets$Watch", name := "firstBegin", desc := "(II)I" } : Jvm.MethodName) ({ cls := "GuardNets$Watch", name := "firstBegin", desc := "(II)I" } : Jvm.MethodName)) ∈ wsAll := wT_6 52 rfl rfl
set_option maxRecDepth 100000 in
theorem kw_1374 : (Jvm.Cond.code ({ cls := "GuardNets$Watch", name := "firstBegin", desc := "(II)I" } : Jvm.MethodName) prog_11_method_5_code (7 : Nat) (Option.some Jvm.ClassFile.FieldType.int)) ∈ wsAll := wT_6 53 rfl rfl
set_option maxRecDepth 100000 in
theorem kw_1375 : (Jvm.Cond.methodLink "GuardNets$Watch" (44 : Nat) ({ cls := "GuardNets$House", name := "get", desc := "(II)I" } : Jvm.MethodName)) ∈ wsAll := wT_6 54 rfl rfl
set_option maxRecDepth 100000 in
theorem kw_1376 : (Jvm.Cond.methodLink "GuardNets$Watch" (47 : Nat) ({ cls := "GuardNets$Watch", name := "menAt", desc := "(II)I" } : Jvm.MethodName)) ∈ wsAll := wT_6 55 rfl rfl
set_option maxRecDepth 100000 in
theorem kw_1377 : (Jvm.Cond.methodLink "GuardNetsLaw" (182 : Nat) ({ cls := "GuardNets", name := "end", desc := "(II)I" } : Jvm.MethodName)) ∈ wsAll := wT_6 56 rfl rfl
set_option maxRecDepth 100000 in
theorem kw_1378 : (Jvm.Cond.instanceMethod ({ cls := "GuardNets", name := "end", desc := "(II)I" } : Jvm.MethodName)) ∈ wsAll := wT_6 57 rfl rfl
set_option maxRecDepth 100000 in
theorem kw_1379 : (Jvm.Cond.selects "GuardNets" ({ cls := "GuardNets", name := "end", desc := "(II)I" } : Jvm.MethodName) ({ cls := "GuardNets", name := "end", desc := "(II)I" } : Jvm.MethodName)) ∈ wsAll := wT_6 58 rfl rfl
set_option maxRecDepth 100000 in
theorem kw_1380 : (Jvm.Cond.code ({ cls := "GuardNets", name := "end", desc := "(II)I" } : Jvm.MethodName) prog_1_method_43_code (3 : Nat) (Option.some Jvm.ClassFile.FieldType.int)) ∈ wsAll := wT_6 59 rfl rfl
set_option maxRecDepth 100000 in
theorem kw_1381 : (Jvm.Cond.methodLink "GuardNets" (348 : Nat) ({ cls := "GuardNets$Watch", name := "bestEnd", desc := "(II)I" } : Jvm.MethodName)) ∈ wsAll := wT_6 60 rfl rfl
set_option maxRecDepth 100000 in
theorem kw_1382 : (Jvm.Cond.instanceMethod ({ cls := "GuardNets$Watch", name := "bestEnd", desc := "(II)I" } : Jvm.MethodName)) ∈ wsAll := wT_6 61 rfl rfl
set_option maxRecDepth 100000 in
theorem kw_1383 : (Jvm.Cond.selects "GuardNets$Watch" ({ cls := "GuardNets$Watch", name := "bestEnd", desc := "(II)I" } : Jvm.MethodName) ({ cls := "GuardNets$Watch", name := "bestEnd", desc := "(II)I" } : Jvm.MethodName)) ∈ wsAll := wT_6 62 rfl rfl
set_option maxRecDepth 100000 in
theorem kw_1384 : (Jvm.Cond.code ({ cls := "GuardNets$Watch", name := "bestEnd", desc := "(II)I" } : Jvm.MethodName) prog_11_method_6_code (4 : Nat) (Option.some Jvm.ClassFile.FieldType.int)) ∈ wsAll := wT_6 63 rfl rfl
set_option maxRecDepth 100000 in
theorem kw_1385 : (Jvm.Cond.methodLink "GuardNets$Watch" (50 : Nat) ({ cls := "GuardNets$Watch", name := "prepare", desc := "(II)V" } : Jvm.MethodName)) ∈ wsAll := wT_6 64 rfl rfl
set_option maxRecDepth 100000 in
theorem kw_1387 : (Jvm.Cond.instanceMethod ({ cls := "GuardNets$Watch", name := "prepare", desc := "(II)V" } : Jvm.MethodName)) ∈ wsAll := wT_6 66 rfl rfl
set_option maxRecDepth 100000 in
theorem kw_1388 : (Jvm.Cond.code ({ cls := "GuardNets$Watch", name := "prepare", desc := "(II)V" } : Jvm.MethodName) prog_11_method_10_code (4 : Nat) (Option.none : Option Jvm.ClassFile.FieldType)) ∈ wsAll := wT_6 67 rfl rfl
set_option maxRecDepth 100000 in
theorem kw_1389 : (Jvm.Cond.methodLink "GuardNets$Watch" (66 : Nat) ({ cls := "GuardNets$Fraction", name := "grown", desc := "([II)[I" } : Jvm.MethodName)) ∈ wsAll := wT_6 68 rfl rfl
set_option maxRecDepth 100000 in
theorem kw_1390 : (Jvm.Cond.methodLink "GuardNets$Watch" (72 : Nat) ({ cls := "GuardNets$Watch", name := "lookRound", desc := "(I)V" } : Jvm.MethodName)) ∈ wsAll := wT_6 69 rfl rfl
set_option maxRecDepth 100000 in
theorem kw_1392 : (Jvm.Cond.instanceMethod ({ cls := "GuardNets$Watch", name := "lookRound", desc := "(I)V" } : Jvm.MethodName)) ∈ wsAll := wT_6 71 rfl rfl
set_option maxRecDepth 100000 in
theorem kw_1393 : (Jvm.Cond.code ({ cls := "GuardNets$Watch", name := "lookRound", desc := "(I)V" } : Jvm.MethodName) prog_11_method_11_code (5 : Nat) (Option.none : Option Jvm.ClassFile.FieldType)) ∈ wsAll := wT_6 72 rfl rfl
set_option maxRecDepth 100000 in
theorem kw_1394 : (Jvm.Cond.methodLink "GuardNets$Watch" (76 : Nat) ({ cls := "GuardNets$Watch", name := "findEnds", desc := "(II)V" } : Jvm.MethodName)) ∈ wsAll := wT_6 73 rfl rfl
set_option maxRecDepth 100000 in
theorem kw_1396 : (Jvm.Cond.instanceMethod ({ cls := "GuardNets$Watch", name := "findEnds", desc := "(II)V" } : Jvm.MethodName)) ∈ wsAll := wT_6 75 rfl rfl
set_option maxRecDepth 100000 in
theorem kw_1397 : (Jvm.Cond.code ({ cls := "GuardNets$Watch", name := "findEnds", desc := "(II)V" } : Jvm.MethodName) prog_11_method_12_code (7 : Nat) (Option.none : Option Jvm.ClassFile.FieldType)) ∈ wsAll := wT_6 76 rfl rfl
set_option maxRecDepth 100000 in
theorem kw_1398 : (Jvm.Cond.methodLink "GuardNets$Watch" (54 : Nat) ({ cls := "GuardNets$Watch", name := "soonestEnd", desc := "(II)I" } : Jvm.MethodName)) ∈ wsAll := wT_6 77 rfl rfl
set_option maxRecDepth 100000 in
theorem kw_1400 : (Jvm.Cond.instanceMethod ({ cls := "GuardNets$Watch", name := "soonestEnd", desc := "(II)I" } : Jvm.MethodName)) ∈ wsAll := wT_6 79 rfl rfl
set_option maxRecDepth 100000 in
theorem kw_1401 : (Jvm.Cond.code ({ cls := "GuardNets$Watch", name := "soonestEnd", desc := "(II)I" } : Jvm.MethodName) prog_11_method_9_code (7 : Nat) (Option.some Jvm.ClassFile.FieldType.int)) ∈ wsAll := wT_6 80 rfl rfl
set_option maxRecDepth 100000 in
theorem kw_1402 : (Jvm.Cond.methodLink "GuardNets$Watch" (61 : Nat) ({ cls := "java/lang/Math", name := "min", desc := "(II)I" } : Jvm.MethodName)) ∈ wsAll := wT_6 81 rfl rfl
set_option maxRecDepth 100000 in
theorem kw_1403 : (Jvm.Cond.methodLink "GuardNetsLaw" (186 : Nat) ({ cls := "GuardNets", name := "orderAt", desc := "(III)I" } : Jvm.MethodName)) ∈ wsAll := wT_6 82 rfl rfl
set_option maxRecDepth 100000 in
theorem kw_1404 : (Jvm.Cond.instanceMethod ({ cls := "GuardNets", name := "orderAt", desc := "(III)I" } : Jvm.MethodName)) ∈ wsAll := wT_6 83 rfl rfl
set_option maxRecDepth 100000 in
theorem kw_1405 : (Jvm.Cond.selects "GuardNets" ({ cls := "GuardNets", name := "orderAt", desc := "(III)I" } : Jvm.MethodName) ({ cls := "GuardNets", name := "orderAt", desc := "(III)I" } : Jvm.MethodName)) ∈ wsAll := wT_6 84 rfl rfl
set_option maxRecDepth 100000 in
theorem kw_1406 : (Jvm.Cond.code ({ cls := "GuardNets", name := "orderAt", desc := "(III)I" } : Jvm.MethodName) prog_1_method_44_code (4 : Nat) (Option.some Jvm.ClassFile.FieldType.int)) ∈ wsAll := wT_6 85 rfl rfl
set_option maxRecDepth 100000 in
theorem kw_1407 : (Jvm.Cond.methodLink "GuardNets" (351 : Nat) ({ cls := "GuardNets$Watch", name := "stepInOrder", desc := "(III)I" } : Jvm.MethodName)) ∈ wsAll := wT_6 86 rfl rfl
set_option maxRecDepth 100000 in
theorem kw_1408 : (Jvm.Cond.instanceMethod ({ cls := "GuardNets$Watch", name := "stepInOrder", desc := "(III)I" } : Jvm.MethodName)) ∈ wsAll := wT_6 87 rfl rfl
set_option maxRecDepth 100000 in
theorem kw_1409 : (Jvm.Cond.selects "GuardNets$Watch" ({ cls := "GuardNets$Watch", name := "stepInOrder", desc := "(III)I" } : Jvm.MethodName) ({ cls := "GuardNets$Watch", name := "stepInOrder", desc := "(III)I" } : Jvm.MethodName)) ∈ wsAll := wT_6 88 rfl rfl
set_option maxRecDepth 100000 in
theorem kw_1410 : (Jvm.Cond.code ({ cls := "GuardNets$Watch", name := "stepInOrder", desc := "(III)I" } : Jvm.MethodName) prog_11_method_7_code (9 : Nat) (Option.some Jvm.ClassFile.FieldType.int)) ∈ wsAll := wT_6 89 rfl rfl
set_option maxRecDepth 100000 in
theorem kw_1411 : (Jvm.Cond.methodLink "GuardNets$Watch" (57 : Nat) ({ cls := "GuardNets$Watch", name := "firstToGo", desc := "(III)I" } : Jvm.MethodName)) ∈ wsAll := wT_6 90 rfl rfl
set_option maxRecDepth 100000 in
theorem kw_1413 : (Jvm.Cond.instanceMethod ({ cls := "GuardNets$Watch", name := "firstToGo", desc := "(III)I" } : Jvm.MethodName)) ∈ wsAll := wT_6 92 rfl rfl
set_option maxRecDepth 100000 in
theorem kw_1414 : (Jvm.Cond.code ({ cls := "GuardNets$Watch", name := "firstToGo", desc := "(III)I" } : Jvm.MethodName) prog_11_method_8_code (6 : Nat) (Option.some Jvm.ClassFile.FieldType.int)) ∈ wsAll := wT_6 93 rfl rfl
set_option maxRecDepth 100000 in
theorem kw_1415 : (Jvm.Cond.methodLink "GuardNetsLaw" (190 : Nat) ({ cls := "GuardNets", name := "image", desc := "(I)I" } : Jvm.MethodName)) ∈ wsAll := wT_6 94 rfl rfl
set_option maxRecDepth 100000 in
theorem kw_1416 : (Jvm.Cond.instanceMethod ({ cls := "GuardNets", name := "image", desc := "(I)I" } : Jvm.MethodName)) ∈ wsAll := wT_6 95 rfl rfl
set_option maxRecDepth 100000 in
theorem kw_1417 : (Jvm.Cond.selects "GuardNets" ({ cls := "GuardNets", name := "image", desc := "(I)I" } : Jvm.MethodName) ({ cls := "GuardNets", name := "image", desc := "(I)I" } : Jvm.MethodName)) ∈ wsAll := wT_6 96 rfl rfl
set_option maxRecDepth 100000 in
theorem kw_1418 : (Jvm.Cond.code ({ cls := "GuardNets", name := "image", desc := "(I)I" } : Jvm.MethodName) prog_1_method_45_code (2 : Nat) (Option.some Jvm.ClassFile.FieldType.int)) ∈ wsAll := wT_6 97 rfl rfl
set_option maxRecDepth 100000 in
theorem kw_1419 : (Jvm.Cond.methodLink "GuardNets" (355 : Nat) ({ cls := "GuardNets$House", name := "keep", desc := "(I)V" } : Jvm.MethodName)) ∈ wsAll := wT_6 98 rfl rfl
set_option maxRecDepth 100000 in
theorem kw_1420 : (Jvm.Cond.instanceMethod ({ cls := "GuardNets$House", name := "keep", desc := "(I)V" } : Jvm.MethodName)) ∈ wsAll := wT_6 99 rfl rfl
set_option maxRecDepth 100000 in
theorem kw_1421 : (Jvm.Cond.selects "GuardNets$House" ({ cls := "GuardNets$House", name := "keep", desc := "(I)V" } : Jvm.MethodName) ({ cls := "GuardNets$House", name := "keep", desc := "(I)V" } : Jvm.MethodName)) ∈ wsAll := wT_6 100 rfl rfl
set_option maxRecDepth 100000 in
theorem kw_1422 : (Jvm.Cond.code ({ cls := "GuardNets$House", name := "keep", desc := "(I)V" } : Jvm.MethodName) prog_7_method_6_code (2 : Nat) (Option.none : Option Jvm.ClassFile.FieldType)) ∈ wsAll := wT_6 101 rfl rfl
set_option maxRecDepth 100000 in
theorem kw_1423 : (Jvm.Cond.methodLink "GuardNets$House" (28 : Nat) ({ cls := "java/lang/System", name := "arraycopy", desc := "(Ljava/lang/Object;ILjava/lang/Object;II)V" } : Jvm.MethodName)) ∈ wsAll := wT_6 102 rfl rfl
set_option maxRecDepth 100000 in
theorem kw_1424 : (Jvm.Cond.methodLink "GuardNetsLaw" (194 : Nat) ({ cls := "GuardNets", name := "differ", desc := "(I)I" } : Jvm.MethodName)) ∈ wsAll := wT_6 103 rfl rfl
set_option maxRecDepth 100000 in
theorem kw_1425 : (Jvm.Cond.instanceMethod ({ cls := "GuardNets", name := "differ", desc := "(I)I" } : Jvm.MethodName)) ∈ wsAll := wT_6 104 rfl rfl
set_option maxRecDepth 100000 in
theorem kw_1426 : (Jvm.Cond.selects "GuardNets" ({ cls := "GuardNets", name := "differ", desc := "(I)I" } : Jvm.MethodName) ({ cls := "GuardNets", name := "differ", desc := "(I)I" } : Jvm.MethodName)) ∈ wsAll := wT_6 105 rfl rfl
set_option maxRecDepth 100000 in
theorem kw_1427 : (Jvm.Cond.code ({ cls := "GuardNets", name := "differ", desc := "(I)I" } : Jvm.MethodName) prog_1_method_46_code (2 : Nat) (Option.some Jvm.ClassFile.FieldType.int)) ∈ wsAll := wT_6 106 rfl rfl
set_option maxRecDepth 100000 in
theorem kw_1428 : (Jvm.Cond.methodLink "GuardNets" (362 : Nat) ({ cls := "GuardNets$House", name := "changed", desc := "(I)I" } : Jvm.MethodName)) ∈ wsAll := wT_6 107 rfl rfl
set_option maxRecDepth 100000 in
theorem kw_1429 : (Jvm.Cond.instanceMethod ({ cls := "GuardNets$House", name := "changed", desc := "(I)I" } : Jvm.MethodName)) ∈ wsAll := wT_6 108 rfl rfl
set_option maxRecDepth 100000 in
theorem kw_1430 : (Jvm.Cond.selects "GuardNets$House" ({ cls := "GuardNets$House", name := "changed", desc := "(I)I" } : Jvm.MethodName) ({ cls := "GuardNets$House", name := "changed", desc := "(I)I" } : Jvm.MethodName)) ∈ wsAll := wT_6 109 rfl rfl
set_option maxRecDepth 100000 in
theorem kw_1431 : (Jvm.Cond.code ({ cls := "GuardNets$House", name := "changed", desc := "(I)I" } : Jvm.MethodName) prog_7_method_8_code (4 : Nat) (Option.some Jvm.ClassFile.FieldType.int)) ∈ wsAll := wT_6 110 rfl rfl
set_option maxRecDepth 100000 in
theorem kw_1432 : (Jvm.Cond.methodLink "GuardNetsLaw" (198 : Nat) ({ cls := "GuardNets", name := "from", desc := "(I)I" } : Jvm.MethodName)) ∈ wsAll := wT_6 111 rfl rfl
set_option maxRecDepth 100000 in
theorem kw_1433 : (Jvm.Cond.instanceMethod ({ cls := "GuardNets", name := "from", desc := "(I)I" } : Jvm.MethodName)) ∈ wsAll := wT_6 112 rfl rfl
set_option maxRecDepth 100000 in
theorem kw_1434 : (Jvm.Cond.selects "GuardNets" ({ cls := "GuardNets", name := "from", desc := "(I)I" } : Jvm.MethodName) ({ cls := "GuardNets", name := "from", desc := "(I)I" } : Jvm.MethodName)) ∈ wsAll := wT_6 113 rfl rfl
set_option maxRecDepth 100000 in
theorem kw_1435 : (Jvm.Cond.code ({ cls := "GuardNets", name := "from", desc := "(I)I" } : Jvm.MethodName) prog_1_method_47_code (2 : Nat) (Option.some Jvm.ClassFile.FieldType.int)) ∈ wsAll := wT_6 114 rfl rfl
set_option maxRecDepth 100000 in
theorem kw_1436 : (Jvm.Cond.methodLink "GuardNets" (365 : Nat) ({ cls := "GuardNets$House", name := "restore", desc := "(I)V" } : Jvm.MethodName)) ∈ wsAll := wT_6 115 rfl rfl
set_option maxRecDepth 100000 in
theorem kw_1437 : (Jvm.Cond.instanceMethod ({ cls := "GuardNets$House", name := "restore", desc := "(I)V" } : Jvm.MethodName)) ∈ wsAll := wT_6 116 rfl rfl
set_option maxRecDepth 100000 in
theorem kw_1438 : (Jvm.Cond.selects "GuardNets$House" ({ cls := "GuardNets$House", name := "restore", desc := "(I)V" } : Jvm.MethodName) ({ cls := "GuardNets$House", name := "restore", desc := "(I)V" } : Jvm.MethodName)) ∈ wsAll := wT_6 117 rfl rfl
set_option maxRecDepth 100000 in
theorem kw_1439 : (Jvm.Cond.code ({ cls := "GuardNets$House", name := "restore", desc := "(I)V" } : Jvm.MethodName) prog_7_method_7_code (2 : Nat) (Option.none : Option Jvm.ClassFile.FieldType)) ∈ wsAll := wT_6 118 rfl rfl
set_option maxRecDepth 100000 in
theorem kw_1440 : (Jvm.Cond.methodLink "GuardNetsLaw" (202 : Nat) ({ cls := "GuardNets", name := "count", desc := "(I)I" } : Jvm.MethodName)) ∈ wsAll := wT_6 119 rfl rfl
set_option maxRecDepth 100000 in
theorem kw_1441 : (Jvm.Cond.instanceMethod ({ cls := "GuardNets", name := "count", desc := "(I)I" } : Jvm.MethodName)) ∈ wsAll := wT_6 120 rfl rfl
set_option maxRecDepth 100000 in
theorem kw_1442 : (Jvm.Cond.selects "GuardNets" ({ cls := "GuardNets", name := "count", desc := "(I)I" } : Jvm.MethodName) ({ cls := "GuardNets", name := "count", desc := "(I)I" } : Jvm.MethodName)) ∈ wsAll := wT_6 121 rfl rfl
set_option maxRecDepth 100000 in
theorem kw_1443 : (Jvm.Cond.code ({ cls := "GuardNets", name := "count", desc := "(I)I" } : Jvm.MethodName) prog_1_method_48_code (2 : Nat) (Option.some Jvm.ClassFile.FieldType.int)) ∈ wsAll := wT_6 122 rfl rfl
set_option maxRecDepth 100000 in
theorem kw_1444 : (Jvm.Cond.methodLink "GuardNets" (368 : Nat) ({ cls := "GuardNets$Nets", name := "standing", desc := "()I" } : Jvm.MethodName)) ∈ wsAll := wT_6 123 rfl rfl
set_option maxRecDepth 100000 in
theorem kw_1445 : (Jvm.Cond.instanceMethod ({ cls := "GuardNets$Nets", name := "standing", desc := "()I" } : Jvm.MethodName)) ∈ wsAll := wT_6 124 rfl rfl
set_option maxRecDepth 100000 in
theorem kw_1446 : (Jvm.Cond.selects "GuardNets$Nets" ({ cls := "GuardNets$Nets", name := "standing", desc := "()I" } : Jvm.MethodName) ({ cls := "GuardNets$Nets", name := "standing", desc := "()I" } : Jvm.MethodName)) ∈ wsAll := wT_6 125 rfl rfl
set_option maxRecDepth 100000 in
theorem kw_1447 : (Jvm.Cond.code ({ cls := "GuardNets$Nets", name := "standing", desc := "()I" } : Jvm.MethodName) prog_8_method_5_code (3 : Nat) (Option.some Jvm.ClassFile.FieldType.int)) ∈ wsAll := wT_6 126 rfl rfl
set_option maxRecDepth 100000 in
theorem kw_1448 : (Jvm.Cond.methodLink "GuardNetsLaw" (206 : Nat) ({ cls := "GuardNets", name := "digest", desc := "()J" } : Jvm.MethodName)) ∈ wsAll := wT_6 127 rfl rfl
set_option maxRecDepth 100000 in
theorem kw_1449 : (Jvm.Cond.instanceMethod ({ cls := "GuardNets", name := "digest", desc := "()J" } : Jvm.MethodName)) ∈ wsAll := wT_6 128 rfl rfl
set_option maxRecDepth 100000 in
theorem kw_1450 : (Jvm.Cond.selects "GuardNets" ({ cls := "GuardNets", name := "digest", desc := "()J" } : Jvm.MethodName) ({ cls := "GuardNets", name := "digest", desc := "()J" } : Jvm.MethodName)) ∈ wsAll := wT_6 129 rfl rfl
set_option maxRecDepth 100000 in
theorem kw_1451 : (Jvm.Cond.code ({ cls := "GuardNets", name := "digest", desc := "()J" } : Jvm.MethodName) prog_1_method_49_code (4 : Nat) (Option.some Jvm.ClassFile.FieldType.long)) ∈ wsAll := wT_6 130 rfl rfl
set_option maxRecDepth 100000 in
theorem kw_1452 : (Jvm.Cond.constantLong "GuardNets" (371 : Nat) (269 : Int64)) ∈ wsAll := wT_6 131 rfl rfl
set_option maxRecDepth 100000 in
theorem kw_1453 : (Jvm.Cond.constantLong "GuardNets" (373 : Nat) (31 : Int64)) ∈ wsAll := wT_6 132 rfl rfl
set_option maxRecDepth 100000 in
theorem kw_1454 : (Jvm.Cond.methodLink "GuardNets" (375 : Nat) ({ cls := "GuardNets", name := "count", desc := "(I)I" } : Jvm.MethodName)) ∈ wsAll := wT_6 133 rfl rfl
set_option maxRecDepth 100000 in
theorem kw_1455 : (Jvm.Cond.methodLink "GuardNets" (378 : Nat) ({ cls := "GuardNets$House", name := "mixInto", desc := "(J)J" } : Jvm.MethodName)) ∈ wsAll := wT_6 134 rfl rfl
set_option maxRecDepth 100000 in
theorem kw_1456 : (Jvm.Cond.instanceMethod ({ cls := "GuardNets$House", name := "mixInto", desc := "(J)J" } : Jvm.MethodName)) ∈ wsAll := wT_6 135 rfl rfl
set_option maxRecDepth 100000 in
theorem kw_1457 : (Jvm.Cond.selects "GuardNets$House" ({ cls := "GuardNets$House", name := "mixInto", desc := "(J)J" } : Jvm.MethodName) ({ cls := "GuardNets$House", name := "mixInto", desc := "(J)J" } : Jvm.MethodName)) ∈ wsAll := wT_6 136 rfl rfl
set_option maxRecDepth 100000 in
theorem kw_1458 : (Jvm.Cond.code ({ cls := "GuardNets$House", name := "mixInto", desc := "(J)J" } : Jvm.MethodName) prog_7_method_9_code (4 : Nat) (Option.some Jvm.ClassFile.FieldType.long)) ∈ wsAll := wT_6 137 rfl rfl
set_option maxRecDepth 100000 in
theorem kw_1459 : (Jvm.Cond.constantLong "GuardNets$House" (34 : Nat) (31 : Int64)) ∈ wsAll := wT_6 138 rfl rfl
set_option maxRecDepth 100000 in
theorem kw_1460 : (Jvm.Cond.methodLink "GuardNets" (382 : Nat) ({ cls := "GuardNets$Nets", name := "mixInto", desc := "(J)J" } : Jvm.MethodName)) ∈ wsAll := wT_6 139 rfl rfl
set_option maxRecDepth 100000 in
theorem kw_1461 : (Jvm.Cond.instanceMethod ({ cls := "GuardNets$Nets", name := "mixInto", desc := "(J)J" } : Jvm.MethodName)) ∈ wsAll := wT_6 140 rfl rfl
set_option maxRecDepth 100000 in
theorem kw_1462 : (Jvm.Cond.selects "GuardNets$Nets" ({ cls := "GuardNets$Nets", name := "mixInto", desc := "(J)J" } : Jvm.MethodName) ({ cls := "GuardNets$Nets", name := "mixInto", desc := "(J)J" } : Jvm.MethodName)) ∈ wsAll := wT_6 141 rfl rfl
set_option maxRecDepth 100000 in
theorem kw_1463 : (Jvm.Cond.code ({ cls := "GuardNets$Nets", name := "mixInto", desc := "(J)J" } : Jvm.MethodName) prog_8_method_17_code (6 : Nat) (Option.some Jvm.ClassFile.FieldType.long)) ∈ wsAll := wT_6 142 rfl rfl
set_option maxRecDepth 100000 in
theorem kw_1464 : (Jvm.Cond.constantLong "GuardNets$Nets" (111 : Nat) (31 : Int64)) ∈ wsAll := wT_6 143 rfl rfl
set_option maxRecDepth 100000 in
theorem kw_1465 : (Jvm.Cond.methodLink "GuardNets" (383 : Nat) ({ cls := "GuardNets$Guards", name := "mixInto", desc := "(J)J" } : Jvm.MethodName)) ∈ wsAll := wT_6 144 rfl rfl
set_option maxRecDepth 100000 in
theorem kw_1466 : (Jvm.Cond.instanceMethod ({ cls := "GuardNets$Guards", name := "mixInto", desc := "(J)J" } : Jvm.MethodName)) ∈ wsAll := wT_6 145 rfl rfl
set_option maxRecDepth 100000 in
theorem kw_1467 : (Jvm.Cond.selects "GuardNets$Guards" ({ cls := "GuardNets$Guards", name := "mixInto", desc := "(J)J" } : Jvm.MethodName) ({ cls := "GuardNets$Guards", name := "mixInto", desc := "(J)J" } : Jvm.MethodName)) ∈ wsAll := wT_6 146 rfl rfl
set_option maxRecDepth 100000 in
theorem kw_1468 : (Jvm.Cond.code ({ cls := "GuardNets$Guards", name := "mixInto", desc := "(J)J" } : Jvm.MethodName) prog_6_method_11_code (4 : Nat) (Option.some Jvm.ClassFile.FieldType.long)) ∈ wsAll := wT_6 147 rfl rfl
set_option maxRecDepth 100000 in
theorem kw_1469 : (Jvm.Cond.constantLong "GuardNets$Guards" (135 : Nat) (31 : Int64)) ∈ wsAll := wT_6 148 rfl rfl
set_option maxRecDepth 100000 in
theorem kw_1470 : (Jvm.Cond.methodLink "GuardNets" (384 : Nat) ({ cls := "GuardNets$Game", name := "mixInto", desc := "(J)J" } : Jvm.MethodName)) ∈ wsAll := wT_6 149 rfl rfl
set_option maxRecDepth 100000 in
theorem kw_1471 : (Jvm.Cond.instanceMethod ({ cls := "GuardNets$Game", name := "mixInto", desc := "(J)J" } : Jvm.MethodName)) ∈ wsAll := wT_6 150 rfl rfl
set_option maxRecDepth 100000 in
theorem kw_1472 : (Jvm.Cond.selects "GuardNets$Game" ({ cls := "GuardNets$Game", name := "mixInto", desc := "(J)J" } : Jvm.MethodName) ({ cls := "GuardNets$Game", name := "mixInto", desc := "(J)J" } : Jvm.MethodName)) ∈ wsAll := wT_6 151 rfl rfl
set_option maxRecDepth 100000 in
theorem kw_1473 : (Jvm.Cond.code ({ cls := "GuardNets$Game", name := "mixInto", desc := "(J)J" } : Jvm.MethodName) prog_5_method_16_code (4 : Nat) (Option.some Jvm.ClassFile.FieldType.long)) ∈ wsAll := wT_6 152 rfl rfl
set_option maxRecDepth 100000 in
theorem kw_1474 : (Jvm.Cond.constantLong "GuardNets$Game" (126 : Nat) (31 : Int64)) ∈ wsAll := wT_6 153 rfl rfl
set_option maxRecDepth 100000 in
theorem kw_1475 : (Jvm.Cond.methodLink "GuardNets" (385 : Nat) ({ cls := "GuardNets$Ways", name := "mixInto", desc := "(J)J" } : Jvm.MethodName)) ∈ wsAll := wT_6 154 rfl rfl
set_option maxRecDepth 100000 in
theorem kw_1476 : (Jvm.Cond.instanceMethod ({ cls := "GuardNets$Ways", name := "mixInto", desc := "(J)J" } : Jvm.MethodName)) ∈ wsAll := wT_6 155 rfl rfl
set_option maxRecDepth 100000 in
theorem kw_1477 : (Jvm.Cond.selects "GuardNets$Ways" ({ cls := "GuardNets$Ways", name := "mixInto", desc := "(J)J" } : Jvm.MethodName) ({ cls := "GuardNets$Ways", name := "mixInto", desc := "(J)J" } : Jvm.MethodName)) ∈ wsAll := wT_6 156 rfl rfl
set_option maxRecDepth 100000 in
theorem kw_1478 : (Jvm.Cond.code ({ cls := "GuardNets$Ways", name := "mixInto", desc := "(J)J" } : Jvm.MethodName) prog_12_method_13_code (4 : Nat) (Option.some Jvm.ClassFile.FieldType.long)) ∈ wsAll := wT_6 157 rfl rfl
set_option maxRecDepth 100000 in
theorem kw_1479 : (Jvm.Cond.constantLong "GuardNets$Ways" (104 : Nat) (31 : Int64)) ∈ wsAll := wT_6 158 rfl rfl
set_option maxRecDepth 100000 in
theorem kw_1480 : (Jvm.Cond.methodLink "GuardNets" (386 : Nat) ({ cls := "GuardNets$Drill", name := "mixInto", desc := "(J)J" } : Jvm.MethodName)) ∈ wsAll := wT_6 159 rfl rfl
set_option maxRecDepth 100000 in
theorem kw_1481 : (Jvm.Cond.instanceMethod ({ cls := "GuardNets$Drill", name := "mixInto", desc := "(J)J" } : Jvm.MethodName)) ∈ wsAll := wT_6 160 rfl rfl
set_option maxRecDepth 100000 in
theorem kw_1482 : (Jvm.Cond.selects "GuardNets$Drill" ({ cls := "GuardNets$Drill", name := "mixInto", desc := "(J)J" } : Jvm.MethodName) ({ cls := "GuardNets$Drill", name := "mixInto", desc := "(J)J" } : Jvm.MethodName)) ∈ wsAll := wT_6 161 rfl rfl
set_option maxRecDepth 100000 in
theorem kw_1483 : (Jvm.Cond.code ({ cls := "GuardNets$Drill", name := "mixInto", desc := "(J)J" } : Jvm.MethodName) prog_3_method_13_code (4 : Nat) (Option.some Jvm.ClassFile.FieldType.long)) ∈ wsAll := wT_6 162 rfl rfl
set_option maxRecDepth 100000 in
theorem kw_1484 : (Jvm.Cond.constantLong "GuardNets$Drill" (98 : Nat) (31 : Int64)) ∈ wsAll := wT_6 163 rfl rfl
set_option maxRecDepth 100000 in
theorem kw_1485 : (Jvm.Cond.methodLink "GuardNets" (387 : Nat) ({ cls := "GuardNets$Watch", name := "mixInto", desc := "(J)J" } : Jvm.MethodName)) ∈ wsAll := wT_6 164 rfl rfl
set_option maxRecDepth 100000 in
theorem kw_1486 : (Jvm.Cond.instanceMethod ({ cls := "GuardNets$Watch", name := "mixInto", desc := "(J)J" } : Jvm.MethodName)) ∈ wsAll := wT_6 165 rfl rfl
set_option maxRecDepth 100000 in
theorem kw_1487 : (Jvm.Cond.selects "GuardNets$Watch" ({ cls := "GuardNets$Watch", name := "mixInto", desc := "(J)J" } : Jvm.MethodName) ({ cls := "GuardNets$Watch", name := "mixInto", desc := "(J)J" } : Jvm.MethodName)) ∈ wsAll := wT_6 166 rfl rfl
set_option maxRecDepth 100000 in
theorem kw_1488 : (Jvm.Cond.code ({ cls := "GuardNets$Watch", name := "mixInto", desc := "(J)J" } : Jvm.MethodName) prog_11_method_13_code (5 : Nat) (Option.some Jvm.ClassFile.FieldType.long)) ∈ wsAll := wT_6 167 rfl rfl
set_option maxRecDepth 100000 in
theorem kw_1489 : (Jvm.Cond.constantLong "GuardNets$Watch" (79 : Nat) (31 : Int64)) ∈ wsAll := wT_6 168 rfl rfl
set_option maxRecDepth 100000 in
theorem kw_1490 : (Jvm.Cond.classLink "GuardNetsLaw" (10 : Nat) "GuardNetsModel") ∈ wsAll := wT_6 169 rfl rfl
set_option maxRecDepth 100000 in
theorem kw_1491 : (Jvm.Cond.instantiable "GuardNetsModel" (68 : Nat)) ∈ wsAll := wT_6 170 rfl rfl
set_option maxRecDepth 100000 in
theorem kw_1492 : (Jvm.Cond.methodLink "GuardNetsLaw" (12 : Nat) ({ cls := "GuardNetsModel", name := "<init>", desc := "()V" } : Jvm.MethodName)) ∈ wsAll := wT_6 171 rfl rfl
set_option maxRecDepth 100000 in
theorem kw_1493 : (Jvm.Cond.instanceMethod ({ cls := "GuardNetsModel", name := "<init>", desc := "()V" } : Jvm.MethodName)) ∈ wsAll := wT_6 172 rfl rfl
set_option maxRecDepth 100000 in
theorem kw_1494 : (Jvm.Cond.code ({ cls := "GuardNetsModel", name := "<init>", desc := "()V" } : Jvm.MethodName) prog_14_method_3_code (2 : Nat) (Option.none : Option Jvm.ClassFile.FieldType)) ∈ wsAll := wT_6 173 rfl rfl
set_option maxRecDepth 100000 in
theorem kw_1495 : (Jvm.Cond.methodLink "GuardNetsModel" (1 : Nat) ({ cls := "java/lang/Object", name := "<init>", desc := "()V" } : Jvm.MethodName)) ∈ wsAll := wT_6 174 rfl rfl
set_option maxRecDepth 100000 in
theorem kw_1496 : (Jvm.Cond.constant "GuardNetsModel" (52 : Nat) (256000 : Int32)) ∈ wsAll := wT_6 175 rfl rfl
set_option maxRecDepth 100000 in
theorem kw_1708 : (Jvm.Cond.methodLink "GuardNetsLaw" (17 : Nat) ({ cls := "GuardNetsModel", name := "step", desc := "(IIII)I" } : Jvm.MethodName)) ∈ wsAll := wT_7 147 rfl rfl
set_option maxRecDepth 100000 in
theorem kw_1709 : (Jvm.Cond.instanceMethod ({ cls := "GuardNetsModel", name := "step", desc := "(IIII)I" } : Jvm.MethodName)) ∈ wsAll := wT_7 148 rfl rfl
set_option maxRecDepth 100000 in
theorem kw_1710 : (Jvm.Cond.selects "GuardNetsModel" ({ cls := "GuardNetsModel", name := "step", desc := "(IIII)I" } : Jvm.MethodName) ({ cls := "GuardNetsModel", name := "step", desc := "(IIII)I" } : Jvm.MethodName)) ∈ wsAll := wT_7 149 rfl rfl
set_option maxRecDepth 100000 in
theorem kw_1711 : (Jvm.Cond.code ({ cls := "GuardNetsModel", name := "step", desc := "(IIII)I" } : Jvm.MethodName) prog_14_method_5_code (5 : Nat) (Option.some Jvm.ClassFile.FieldType.int)) ∈ wsAll := wT_7 150 rfl rfl
set_option maxRecDepth 100000 in
theorem kw_1718 : (Jvm.Cond.methodLink "GuardNetsLaw" (22 : Nat) ({ cls := "GuardNetsModel", name := "trace", desc := "(III)I" } : Jvm.MethodName)) ∈ wsAll := wT_7 157 rfl rfl
set_option maxRecDepth 100000 in
theorem kw_1719 : (Jvm.Cond.instanceMethod ({ cls := "GuardNetsModel", name := "trace", desc := "(III)I" } : Jvm.MethodName)) ∈ wsAll := wT_7 158 rfl rfl
set_option maxRecDepth 100000 in
theorem kw_1720 : (Jvm.Cond.selects "GuardNetsModel" ({ cls := "GuardNetsModel", name := "trace", desc := "(III)I" } : Jvm.MethodName) ({ cls := "GuardNetsModel", name := "trace", desc := "(III)I" } : Jvm.MethodName)) ∈ wsAll := wT_7 159 rfl rfl
set_option maxRecDepth 100000 in
theorem kw_1721 : (Jvm.Cond.code ({ cls := "GuardNetsModel", name := "trace", desc := "(III)I" } : Jvm.MethodName) prog_14_method_6_code (4 : Nat) (Option.some Jvm.ClassFile.FieldType.int)) ∈ wsAll := wT_7 160 rfl rfl
set_option maxRecDepth 100000 in
theorem kw_1722 : (Jvm.Cond.methodLink "GuardNetsLaw" (27 : Nat) ({ cls := "GuardNetsModel", name := "about", desc := "(II)I" } : Jvm.MethodName)) ∈ wsAll := wT_7 161 rfl rfl
set_option maxRecDepth 100000 in
theorem kw_1723 : (Jvm.Cond.instanceMethod ({ cls := "GuardNetsModel", name := "about", desc := "(II)I" } : Jvm.MethodName)) ∈ wsAll := wT_7 162 rfl rfl
set_option maxRecDepth 100000 in
theorem kw_1724 : (Jvm.Cond.selects "GuardNetsModel" ({ cls := "GuardNetsModel", name := "about", desc := "(II)I" } : Jvm.MethodName) ({ cls := "GuardNetsModel", name := "about", desc := "(II)I" } : Jvm.MethodName)) ∈ wsAll := wT_7 163 rfl rfl
set_option maxRecDepth 100000 in
theorem kw_1725 : (Jvm.Cond.code ({ cls := "GuardNetsModel", name := "about", desc := "(II)I" } : Jvm.MethodName) prog_14_method_8_code (3 : Nat) (Option.some Jvm.ClassFile.FieldType.int)) ∈ wsAll := wT_7 164 rfl rfl
set_option maxRecDepth 100000 in
theorem kw_1730 : (Jvm.Cond.methodLink "GuardNetsLaw" (32 : Nat) ({ cls := "GuardNetsModel", name := "write", desc := "(I)I" } : Jvm.MethodName)) ∈ wsAll := wT_7 169 rfl rfl
set_option maxRecDepth 100000 in
theorem kw_1731 : (Jvm.Cond.instanceMethod ({ cls := "GuardNetsModel", name := "write", desc := "(I)I" } : Jvm.MethodName)) ∈ wsAll := wT_7 170 rfl rfl
set_option maxRecDepth 100000 in
theorem kw_1732 : (Jvm.Cond.selects "GuardNetsModel" ({ cls := "GuardNetsModel", name := "write", desc := "(I)I" } : Jvm.MethodName) ({ cls := "GuardNetsModel", name := "write", desc := "(I)I" } : Jvm.MethodName)) ∈ wsAll := wT_7 171 rfl rfl
set_option maxRecDepth 100000 in
theorem kw_1733 : (Jvm.Cond.code ({ cls := "GuardNetsModel", name := "write", desc := "(I)I" } : Jvm.MethodName) prog_14_method_9_code (2 : Nat) (Option.some Jvm.ClassFile.FieldType.int)) ∈ wsAll := wT_7 172 rfl rfl
set_option maxRecDepth 100000 in
theorem kw_1734 : (Jvm.Cond.methodLink "GuardNetsLaw" (37 : Nat) ({ cls := "GuardNetsModel", name := "erase", desc := "()I" } : Jvm.MethodName)) ∈ wsAll := wT_7 173 rfl rfl
set_option maxRecDepth 100000 in
theorem kw_1735 : (Jvm.Cond.instanceMethod ({ cls := "GuardNetsModel", name := "erase", desc := "()I" } : Jvm.MethodName)) ∈ wsAll := wT_7 174 rfl rfl
set_option maxRecDepth 100000 in
theorem kw_1736 : (Jvm.Cond.selects "GuardNetsModel" ({ cls := "GuardNetsModel", name := "erase", desc := "()I" } : Jvm.MethodName) ({ cls := "GuardNetsModel", name := "erase", desc := "()I" } : Jvm.MethodName)) ∈ wsAll := wT_7 175 rfl rfl
set_option maxRecDepth 100000 in
theorem kw_1737 : (Jvm.Cond.code ({ cls := "GuardNetsModel", name := "erase", desc := "()I" } : Jvm.MethodName) prog_14_method_10_code (2 : Nat) (Option.some Jvm.ClassFile.FieldType.int)) ∈ wsAll := wT_7 176 rfl rfl
set_option maxRecDepth 100000 in
theorem kw_1738 : (Jvm.Cond.methodLink "GuardNetsLaw" (41 : Nat) ({ cls := "GuardNetsModel", name := "make", desc := "(I)I" } : Jvm.MethodName)) ∈ wsAll := wT_7 177 rfl rfl
set_option maxRecDepth 100000 in
theorem kw_1739 : (Jvm.Cond.instanceMethod ({ cls := "GuardNetsModel", name := "make", desc := "(I)I" } : Jvm.MethodName)) ∈ wsAll := wT_7 178 rfl rfl
set_option maxRecDepth 100000 in
theorem kw_1740 : (Jvm.Cond.selects "GuardNetsModel" ({ cls := "GuardNetsModel", name := "make", desc := "(I)I" } : Jvm.MethodName) ({ cls := "GuardNetsModel", name := "make", desc := "(I)I" } : Jvm.MethodName)) ∈ wsAll := wT_7 179 rfl rfl
set_option maxRecDepth 100000 in
theorem kw_1741 : (Jvm.Cond.code ({ cls := "GuardNetsModel", name := "make", desc := "(I)I" } : Jvm.MethodName) prog_14_method_25_code (6 : Nat) (Option.some Jvm.ClassFile.FieldType.int)) ∈ wsAll := wT_7 180 rfl rfl
set_option maxRecDepth 100000 in
theorem kw_1812 : (Jvm.Cond.methodLink "GuardNetsLaw" (45 : Nat) ({ cls := "GuardNetsModel", name := "clear", desc := "()I" } : Jvm.MethodName)) ∈ wsAll := wT_8 11 rfl rfl
set_option maxRecDepth 100000 in
theorem kw_1813 : (Jvm.Cond.instanceMethod ({ cls := "GuardNetsModel", name := "clear", desc := "()I" } : Jvm.MethodName)) ∈ wsAll := wT_8 12 rfl rfl
set_option maxRecDepth 100000 in
theorem kw_1814 : (Jvm.Cond.selects "GuardNetsModel" ({ cls := "GuardNetsModel", name := "clear", desc := "()I" } : Jvm.MethodName) ({ cls := "GuardNetsModel", name := "clear", desc := "()I" } : Jvm.MethodName)) ∈ wsAll := wT_8 13 rfl rfl
set_option maxRecDepth 100000 in
theorem kw_1815 : (Jvm.Cond.code ({ cls := "GuardNetsModel", name := "clear", desc := "()I" } : Jvm.MethodName) prog_14_method_26_code (3 : Nat) (Option.some Jvm.ClassFile.FieldType.int)) ∈ wsAll := wT_8 14 rfl rfl
set_option maxRecDepth 100000 in
theorem kw_1816 : (Jvm.Cond.methodLink "GuardNetsLaw" (49 : Nat) ({ cls := "GuardNetsModel", name := "knot", desc := "(II)I" } : Jvm.MethodName)) ∈ wsAll := wT_8 15 rfl rfl
set_option maxRecDepth 100000 in
theorem kw_1817 : (Jvm.Cond.instanceMethod ({ cls := "GuardNetsModel", name := "knot", desc := "(II)I" } : Jvm.MethodName)) ∈ wsAll := wT_8 16 rfl rfl
set_option maxRecDepth 100000 in
theorem kw_1818 : (Jvm.Cond.selects "GuardNetsModel" ({ cls := "GuardNetsModel", name := "knot", desc := "(II)I" } : Jvm.MethodName) ({ cls := "GuardNetsModel", name := "knot", desc := "(II)I" } : Jvm.MethodName)) ∈ wsAll := wT_8 17 rfl rfl
set_option maxRecDepth 100000 in
theorem kw_1819 : (Jvm.Cond.code ({ cls := "GuardNetsModel", name := "knot", desc := "(II)I" } : Jvm.MethodName) prog_14_method_34_code (4 : Nat) (Option.some Jvm.ClassFile.FieldType.int)) ∈ wsAll := wT_8 18 rfl rfl
set_option maxRecDepth 100000 in
theorem kw_1828 : (Jvm.Cond.methodLink "GuardNetsLaw" (53 : Nat) ({ cls := "GuardNetsModel", name := "part", desc := "(II)I" } : Jvm.MethodName)) ∈ wsAll := wT_8 27 rfl rfl
set_option maxRecDepth 100000 in
theorem kw_1829 : (Jvm.Cond.instanceMethod ({ cls := "GuardNetsModel", name := "part", desc := "(II)I" } : Jvm.MethodName)) ∈ wsAll := wT_8 28 rfl rfl
set_option maxRecDepth 100000 in
theorem kw_1830 : (Jvm.Cond.selects "GuardNetsModel" ({ cls := "GuardNetsModel", name := "part", desc := "(II)I" } : Jvm.MethodName) ({ cls := "GuardNetsModel", name := "part", desc := "(II)I" } : Jvm.MethodName)) ∈ wsAll := wT_8 29 rfl rfl
set_option maxRecDepth 100000 in
theorem kw_1831 : (Jvm.Cond.code ({ cls := "GuardNetsModel", name := "part", desc := "(II)I" } : Jvm.MethodName) prog_14_method_35_code (3 : Nat) (Option.some Jvm.ClassFile.FieldType.int)) ∈ wsAll := wT_8 30 rfl rfl
set_option maxRecDepth 100000 in
theorem kw_1832 : (Jvm.Cond.methodLink "GuardNetsLaw" (57 : Nat) ({ cls := "GuardNetsModel", name := "reaches", desc := "(II)I" } : Jvm.MethodName)) ∈ wsAll := wT_8 31 rfl rfl
set_option maxRecDepth 100000 in
theorem kw_1833 : (Jvm.Cond.instanceMethod ({ cls := "GuardNetsModel", name := "reaches", desc := "(II)I" } : Jvm.MethodName)) ∈ wsAll := wT_8 32 rfl rfl
set_option maxRecDepth 100000 in
theorem kw_1834 : (Jvm.Cond.selects "GuardNetsModel" ({ cls := "GuardNetsModel", name := "reaches", desc := "(II)I" } : Jvm.MethodName) ({ cls := "GuardNetsModel", name := "reaches", desc := "(II)I" } : Jvm.MethodName)) ∈ wsAll := wT_8 33 rfl rfl
set_option maxRecDepth 100000 in
theorem kw_1835 : (Jvm.Cond.code ({ cls := "GuardNetsModel", name := "reaches", desc := "(II)I" } : Jvm.MethodName) prog_14_method_37_code (4 : Nat) (Option.some Jvm.ClassFile.FieldType.int)) ∈ wsAll := wT_8 34 rfl rfl
set_option maxRecDepth 100000 in
theorem kw_1844 : (Jvm.Cond.methodLink "GuardNetsLaw" (61 : Nat) ({ cls := "GuardNetsModel", name := "ways", desc := "(I)I" } : Jvm.MethodName)) ∈ wsAll := wT_8 43 rfl rfl
set_option maxRecDepth 100000 in
theorem kw_1845 : (Jvm.Cond.instanceMethod ({ cls := "GuardNetsModel", name := "ways", desc := "(I)I" } : Jvm.MethodName)) ∈ wsAll := wT_8 44 rfl rfl
set_option maxRecDepth 100000 in
theorem kw_1846 : (Jvm.Cond.selects "GuardNetsModel" ({ cls := "GuardNetsModel", name := "ways", desc := "(I)I" } : Jvm.MethodName) ({ cls := "GuardNetsModel", name := "ways", desc := "(I)I" } : Jvm.MethodName)) ∈ wsAll := wT_8 45 rfl rfl
set_option maxRecDepth 100000 in
theorem kw_1847 : (Jvm.Cond.code ({ cls := "GuardNetsModel", name := "ways", desc := "(I)I" } : Jvm.MethodName) prog_14_method_43_code (3 : Nat) (Option.some Jvm.ClassFile.FieldType.int)) ∈ wsAll := wT_8 46 rfl rfl
set_option maxRecDepth 100000 in
theorem kw_1867 : (Jvm.Cond.methodLink "GuardNetsLaw" (65 : Nat) ({ cls := "GuardNetsModel", name := "wayAt", desc := "(II)I" } : Jvm.MethodName)) ∈ wsAll := wT_8 66 rfl rfl
set_option maxRecDepth 100000 in
theorem kw_1868 : (Jvm.Cond.instanceMethod ({ cls := "GuardNetsModel", name := "wayAt", desc := "(II)I" } : Jvm.MethodName)) ∈ wsAll := wT_8 67 rfl rfl
set_option maxRecDepth 100000 in
theorem kw_1869 : (Jvm.Cond.selects "GuardNetsModel" ({ cls := "GuardNetsModel", name := "wayAt", desc := "(II)I" } : Jvm.MethodName) ({ cls := "GuardNetsModel", name := "wayAt", desc := "(II)I" } : Jvm.MethodName)) ∈ wsAll := wT_8 68 rfl rfl
set_option maxRecDepth 100000 in
theorem kw_1870 : (Jvm.Cond.code ({ cls := "GuardNetsModel", name := "wayAt", desc := "(II)I" } : Jvm.MethodName) prog_14_method_44_code (4 : Nat) (Option.some Jvm.ClassFile.FieldType.int)) ∈ wsAll := wT_8 69 rfl rfl
set_option maxRecDepth 100000 in
theorem kw_1871 : (Jvm.Cond.methodLink "GuardNetsLaw" (69 : Nat) ({ cls := "GuardNetsModel", name := "least", desc := "(II)I" } : Jvm.MethodName)) ∈ wsAll := wT_8 70 rfl rfl
set_option maxRecDepth 100000 in
theorem kw_1872 : (Jvm.Cond.instanceMethod ({ cls := "GuardNetsModel", name := "least", desc := "(II)I" } : Jvm.MethodName)) ∈ wsAll := wT_8 71 rfl rfl
set_option maxRecDepth 100000 in
theorem kw_1873 : (Jvm.Cond.selects "GuardNetsModel" ({ cls := "GuardNetsModel", name := "least", desc := "(II)I" } : Jvm.MethodName) ({ cls := "GuardNetsModel", name := "least", desc := "(II)I" } : Jvm.MethodName)) ∈ wsAll := wT_8 72 rfl rfl
set_option maxRecDepth 100000 in
theorem kw_1874 : (Jvm.Cond.code ({ cls := "GuardNetsModel", name := "least", desc := "(II)I" } : Jvm.MethodName) prog_14_method_47_code (4 : Nat) (Option.some Jvm.ClassFile.FieldType.int)) ∈ wsAll := wT_8 73 rfl rfl
set_option maxRecDepth 100000 in
theorem kw_1883 : (Jvm.Cond.methodLink "GuardNetsLaw" (73 : Nat) ({ cls := "GuardNetsModel", name := "leastWay", desc := "(II)I" } : Jvm.MethodName)) ∈ wsAll := wT_8 82 rfl rfl
set_option maxRecDepth 100000 in
theorem kw_1884 : (Jvm.Cond.instanceMethod ({ cls := "GuardNetsModel", name := "leastWay", desc := "(II)I" } : Jvm.MethodName)) ∈ wsAll := wT_8 83 rfl rfl
set_option maxRecDepth 100000 in
theorem kw_1885 : (Jvm.Cond.selects "GuardNetsModel" ({ cls := "GuardNetsModel", name := "leastWay", desc := "(II)I" } : Jvm.MethodName) ({ cls := "GuardNetsModel", name := "leastWay", desc := "(II)I" } : Jvm.MethodName)) ∈ wsAll := wT_8 84 rfl rfl
set_option maxRecDepth 100000 in
theorem kw_1886 : (Jvm.Cond.code ({ cls := "GuardNetsModel", name := "leastWay", desc := "(II)I" } : Jvm.MethodName) prog_14_method_48_code (4 : Nat) (Option.some Jvm.ClassFile.FieldType.int)) ∈ wsAll := wT_8 85 rfl rfl
set_option maxRecDepth 100000 in
theorem kw_1887 : (Jvm.Cond.methodLink "GuardNetsLaw" (77 : Nat) ({ cls := "GuardNetsModel", name := "many", desc := "(I)I" } : Jvm.MethodName)) ∈ wsAll := wT_8 86 rfl rfl
set_option maxRecDepth 100000 in
theorem kw_1888 : (Jvm.Cond.instanceMethod ({ cls := "GuardNetsModel", name := "many", desc := "(I)I" } : Jvm.MethodName)) ∈ wsAll := wT_8 87 rfl rfl
set_option maxRecDepth 100000 in
theorem kw_1889 : (Jvm.Cond.selects "GuardNetsModel" ({ cls := "GuardNetsModel", name := "many", desc := "(I)I" } : Jvm.MethodName) ({ cls := "GuardNetsModel", name := "many", desc := "(I)I" } : Jvm.MethodName)) ∈ wsAll := wT_8 88 rfl rfl
set_option maxRecDepth 100000 in
theorem kw_1890 : (Jvm.Cond.code ({ cls := "GuardNetsModel", name := "many", desc := "(I)I" } : Jvm.MethodName) prog_14_method_50_code (7 : Nat) (Option.some Jvm.ClassFile.FieldType.int)) ∈ wsAll := wT_8 89 rfl rfl
set_option maxRecDepth 100000 in
theorem kw_1895 : (Jvm.Cond.methodLink "GuardNetsLaw" (97 : Nat) ({ cls := "GuardNetsModel", name := "limbs", desc := "(I)I" } : Jvm.MethodName)) ∈ wsAll := wT_8 94 rfl rfl
set_option maxRecDepth 100000 in
theorem kw_1896 : (Jvm.Cond.instanceMethod ({ cls := "GuardNetsModel", name := "limbs", desc := "(I)I" } : Jvm.MethodName)) ∈ wsAll := wT_8 95 rfl rfl
set_option maxRecDepth 100000 in
theorem kw_1897 : (Jvm.Cond.selects "GuardNetsModel" ({ cls := "GuardNetsModel", name := "limbs", desc := "(I)I" } : Jvm.MethodName) ({ cls := "GuardNetsModel", name := "limbs", desc := "(I)I" } : Jvm.MethodName)) ∈ wsAll := wT_8 96 rfl rfl
set_option maxRecDepth 100000 in
theorem kw_1898 : (Jvm.Cond.code ({ cls := "GuardNetsModel", name := "limbs", desc := "(I)I" } : Jvm.MethodName) prog_14_method_66_code (2 : Nat) (Option.some Jvm.ClassFile.FieldType.int)) ∈ wsAll := wT_8 97 rfl rfl
set_option maxRecDepth 100000 in
theorem kw_1903 : (Jvm.Cond.methodLink "GuardNetsLaw" (101 : Nat) ({ cls := "GuardNetsModel", name := "limb", desc := "(II)I" } : Jvm.MethodName)) ∈ wsAll := wT_8 102 rfl rfl
set_option maxRecDepth 100000 in
theorem kw_1904 : (Jvm.Cond.instanceMethod ({ cls := "GuardNetsModel", name := "limb", desc := "(II)I" } : Jvm.MethodName)) ∈ wsAll := wT_8 103 rfl rfl
set_option maxRecDepth 100000 in
theorem kw_1905 : (Jvm.Cond.selects "GuardNetsModel" ({ cls := "GuardNetsModel", name := "limb", desc := "(II)I" } : Jvm.MethodName) ({ cls := "GuardNetsModel", name := "limb", desc := "(II)I" } : Jvm.MethodName)) ∈ wsAll := wT_8 104 rfl rfl
set_option maxRecDepth 100000 in
theorem kw_1906 : (Jvm.Cond.code ({ cls := "GuardNetsModel", name := "limb", desc := "(II)I" } : Jvm.MethodName) prog_14_method_67_code (3 : Nat) (Option.some Jvm.ClassFile.FieldType.int)) ∈ wsAll := wT_8 105 rfl rfl
set_option maxRecDepth 100000 in
theorem kw_1907 : (Jvm.Cond.methodLink "GuardNetsLaw" (81 : Nat) ({ cls := "GuardNetsModel", name := "size", desc := "(I)I" } : Jvm.MethodName)) ∈ wsAll := wT_8 106 rfl rfl
set_option maxRecDepth 100000 in
theorem kw_1908 : (Jvm.Cond.instanceMethod ({ cls := "GuardNetsModel", name := "size", desc := "(I)I" } : Jvm.MethodName)) ∈ wsAll := wT_8 107 rfl rfl
set_option maxRecDepth 100000 in
theorem kw_1909 : (Jvm.Cond.selects "GuardNetsModel" ({ cls := "GuardNetsModel", name := "size", desc := "(I)I" } : Jvm.MethodName) ({ cls := "GuardNetsModel", name := "size", desc := "(I)I" } : Jvm.MethodName)) ∈ wsAll := wT_8 108 rfl rfl
set_option maxRecDepth 100000 in
theorem kw_1910 : (Jvm.Cond.code ({ cls := "GuardNetsModel", name := "size", desc := "(I)I" } : Jvm.MethodName) prog_14_method_70_code (3 : Nat) (Option.some Jvm.ClassFile.FieldType.int)) ∈ wsAll := wT_8 109 rfl rfl
set_option maxRecDepth 100000 in
theorem kw_1921 : (Jvm.Cond.methodLink "GuardNetsLaw" (85 : Nat) ({ cls := "GuardNetsModel", name := "chance", desc := "(I)I" } : Jvm.MethodName)) ∈ wsAll := wT_8 120 rfl rfl
set_option maxRecDepth 100000 in
theorem kw_1922 : (Jvm.Cond.instanceMethod ({ cls := "GuardNetsModel", name := "chance", desc := "(I)I" } : Jvm.MethodName)) ∈ wsAll := wT_8 121 rfl rfl
set_option maxRecDepth 100000 in
theorem kw_1923 : (Jvm.Cond.selects "GuardNetsModel" ({ cls := "GuardNetsModel", name := "chance", desc := "(I)I" } : Jvm.MethodName) ({ cls := "GuardNetsModel", name := "chance", desc := "(I)I" } : Jvm.MethodName)) ∈ wsAll := wT_8 122 rfl rfl
set_option maxRecDepth 100000 in
theorem kw_1924 : (Jvm.Cond.code ({ cls := "GuardNetsModel", name := "chance", desc := "(I)I" } : Jvm.MethodName) prog_14_method_76_code (3 : Nat) (Option.some Jvm.ClassFile.FieldType.int)) ∈ wsAll := wT_8 123 rfl rfl
set_option maxRecDepth 100000 in
theorem kw_1996 : (Jvm.Cond.methodLink "GuardNetsLaw" (89 : Nat) ({ cls := "GuardNetsModel", name := "weight", desc := "(II)I" } : Jvm.MethodName)) ∈ wsAll := wT_8 195 rfl rfl
set_option maxRecDepth 100000 in
theorem kw_1997 : (Jvm.Cond.instanceMethod ({ cls := "GuardNetsModel", name := "weight", desc := "(II)I" } : Jvm.MethodName)) ∈ wsAll := wT_8 196 rfl rfl
set_option maxRecDepth 100000 in
theorem kw_1998 : (Jvm.Cond.selects "GuardNetsModel" ({ cls := "GuardNetsModel", name := "weight", desc := "(II)I" } : Jvm.MethodName) ({ cls := "GuardNetsModel", name := "weight", desc := "(II)I" } : Jvm.MethodName)) ∈ wsAll := wT_8 197 rfl rfl
set_option maxRecDepth 100000 in
theorem kw_1999 : (Jvm.Cond.code ({ cls := "GuardNetsModel", name := "weight", desc := "(II)I" } : Jvm.MethodName) prog_14_method_77_code (4 : Nat) (Option.some Jvm.ClassFile.FieldType.int)) ∈ wsAll := wT_8 198 rfl rfl
set_option maxRecDepth 100000 in
theorem kw_2000 : (Jvm.Cond.methodLink "GuardNetsLaw" (93 : Nat) ({ cls := "GuardNetsModel", name := "best", desc := "(II)I" } : Jvm.MethodName)) ∈ wsAll := wT_8 199 rfl rfl
set_option maxRecDepth 100000 in
theorem kw_2001 : (Jvm.Cond.instanceMethod ({ cls := "GuardNetsModel", name := "best", desc := "(II)I" } : Jvm.MethodName)) ∈ wsAll := wT_8 200 rfl rfl
set_option maxRecDepth 100000 in
theorem kw_2002 : (Jvm.Cond.selects "GuardNetsModel" ({ cls := "GuardNetsModel", name := "best", desc := "(II)I" } : Jvm.MethodName) ({ cls := "GuardNetsModel", name := "best", desc := "(II)I" } : Jvm.MethodName)) ∈ wsAll := wT_8 201 rfl rfl
set_option maxRecDepth 100000 in
theorem kw_2003 : (Jvm.Cond.code ({ cls := "GuardNetsModel", name := "best", desc := "(II)I" } : Jvm.MethodName) prog_14_method_78_code (13 : Nat) (Option.some Jvm.ClassFile.FieldType.int)) ∈ wsAll := wT_8 202 rfl rfl
set_option maxRecDepth 100000 in
theorem kw_2008 : (Jvm.Cond.methodLink "GuardNetsLaw" (105 : Nat) ({ cls := "GuardNetsModel", name := "guard", desc := "(II)I" } : Jvm.MethodName)) ∈ wsAll := wT_8 207 rfl rfl
set_option maxRecDepth 100000 in
theorem kw_2009 : (Jvm.Cond.instanceMethod ({ cls := "GuardNetsModel", name := "guard", desc := "(II)I" } : Jvm.MethodName)) ∈ wsAll := wT_8 208 rfl rfl
set_option maxRecDepth 100000 in
theorem kw_2010 : (Jvm.Cond.selects "GuardNetsModel" ({ cls := "GuardNetsModel", name := "guard", desc := "(II)I" } : Jvm.MethodName) ({ cls := "GuardNetsModel", name := "guard", desc := "(II)I" } : Jvm.MethodName)) ∈ wsAll := wT_8 209 rfl rfl
set_option maxRecDepth 100000 in
theorem kw_2011 : (Jvm.Cond.code ({ cls := "GuardNetsModel", name := "guard", desc := "(II)I" } : Jvm.MethodName) prog_14_method_80_code (3 : Nat) (Option.some Jvm.ClassFile.FieldType.int)) ∈ wsAll := wT_8 210 rfl rfl
set_option maxRecDepth 100000 in
theorem kw_2012 : (Jvm.Cond.methodLink "GuardNetsLaw" (109 : Nat) ({ cls := "GuardNetsModel", name := "holds", desc := "(II)I" } : Jvm.MethodName)) ∈ wsAll := wT_8 211 rfl rfl
set_option maxRecDepth 100000 in
theorem kw_2013 : (Jvm.Cond.instanceMethod ({ cls := "GuardNetsModel", name := "holds", desc := "(II)I" } : Jvm.MethodName)) ∈ wsAll := wT_8 212 rfl rfl
set_option maxRecDepth 100000 in
theorem kw_2014 : (Jvm.Cond.selects "GuardNetsModel" ({ cls := "GuardNetsModel", name := "holds", desc := "(II)I" } : Jvm.MethodName) ({ cls := "GuardNetsModel", name := "holds", desc := "(II)I" } : Jvm.MethodName)) ∈ wsAll := wT_8 213 rfl rfl
set_option maxRecDepth 100000 in
theorem kw_2015 : (Jvm.Cond.code ({ cls := "GuardNetsModel", name := "holds", desc := "(II)I" } : Jvm.MethodName) prog_14_method_84_code (4 : Nat) (Option.some Jvm.ClassFile.FieldType.int)) ∈ wsAll := wT_8 214 rfl rfl
set_option maxRecDepth 100000 in
theorem kw_2024 : (Jvm.Cond.methodLink "GuardNetsLaw" (113 : Nat) ({ cls := "GuardNetsModel", name := "leastGuards", desc := "(I)I" } : Jvm.MethodName)) ∈ wsAll := wT_8 223 rfl rfl
set_option maxRecDepth 100000 in
theorem kw_2025 : (Jvm.Cond.instanceMethod ({ cls := "GuardNetsModel", name := "leastGuards", desc := "(I)I" } : Jvm.MethodName)) ∈ wsAll := wT_8 224 rfl rfl
set_option maxRecDepth 100000 in
theorem kw_2026 : (Jvm.Cond.selects "GuardNetsModel" ({ cls := "GuardNetsModel", name := "leastGuards", desc := "(I)I" } : Jvm.MethodName) ({ cls := "GuardNetsModel", name := "leastGuards", desc := "(I)I" } : Jvm.MethodName)) ∈ wsAll := wT_8 225 rfl rfl
set_option maxRecDepth 100000 in
theorem kw_2027 : (Jvm.Cond.code ({ cls := "GuardNetsModel", name := "leastGuards", desc := "(I)I" } : Jvm.MethodName) prog_14_method_85_code (5 : Nat) (Option.some Jvm.ClassFile.FieldType.int)) ∈ wsAll := wT_8 226 rfl rfl
set_option maxRecDepth 100000 in
theorem kw_2032 : (Jvm.Cond.methodLink "GuardNetsLaw" (117 : Nat) ({ cls := "GuardNetsModel", name := "front", desc := "(I)I" } : Jvm.MethodName)) ∈ wsAll := wT_8 231 rfl rfl
set_option maxRecDepth 100000 in
theorem kw_2033 : (Jvm.Cond.instanceMethod ({ cls := "GuardNetsModel", name := "front", desc := "(I)I" } : Jvm.MethodName)) ∈ wsAll := wT_8 232 rfl rfl
set_option maxRecDepth 100000 in
theorem kw_2034 : (Jvm.Cond.selects "GuardNetsModel" ({ cls := "GuardNetsModel", name := "front", desc := "(I)I" } : Jvm.MethodName) ({ cls := "GuardNetsModel", name := "front", desc := "(I)I" } : Jvm.MethodName)) ∈ wsAll := wT_8 233 rfl rfl
set_option maxRecDepth 100000 in
theorem kw_2035 : (Jvm.Cond.code ({ cls := "GuardNetsModel", name := "front", desc := "(I)I" } : Jvm.MethodName) prog_14_method_87_code (3 : Nat) (Option.some Jvm.ClassFile.FieldType.int)) ∈ wsAll := wT_8 234 rfl rfl
set_option maxRecDepth 100000 in
theorem kw_2040 : (Jvm.Cond.methodLink "GuardNetsLaw" (121 : Nat) ({ cls := "GuardNetsModel", name := "frontAt", desc := "(III)I" } : Jvm.MethodName)) ∈ wsAll := wT_8 239 rfl rfl
set_option maxRecDepth 100000 in
theorem kw_2041 : (Jvm.Cond.instanceMethod ({ cls := "GuardNetsModel", name := "frontAt", desc := "(III)I" } : Jvm.MethodName)) ∈ wsAll := wT_9 0 rfl rfl
set_option maxRecDepth 100000 in
theorem kw_2042 : (Jvm.Cond.selects "GuardNetsModel" ({ cls := "GuardNetsModel", name := "frontAt", desc := "(III)I" } : Jvm.MethodName) ({ cls := "GuardNetsModel", name := "frontAt", desc := "(III)I" } : Jvm.MethodName)) ∈ wsAll := wT_9 1 rfl rfl
set_option maxRecDepth 100000 in
theorem kw_2043 : (Jvm.Cond.code ({ cls := "GuardNetsModel", name := "frontAt", desc := "(III)I" } : Jvm.MethodName) prog_14_method_88_code (5 : Nat) (Option.some Jvm.ClassFile.FieldType.int)) ∈ wsAll := wT_9 2 rfl rfl
set_option maxRecDepth 100000 in
theorem kw_2044 : (Jvm.Cond.methodLink "GuardNetsLaw" (125 : Nat) ({ cls := "GuardNetsModel", name := "patrol", desc := "()I" } : Jvm.MethodName)) ∈ wsAll := wT_9 3 rfl rfl
set_option maxRecDepth 100000 in
theorem kw_2045 : (Jvm.Cond.instanceMethod ({ cls := "GuardNetsModel", name := "patrol", desc := "()I" } : Jvm.MethodName)) ∈ wsAll := wT_9 4 rfl rfl
set_option maxRecDepth 100000 in
theorem kw_2046 : (Jvm.Cond.selects "GuardNetsModel" ({ cls := "GuardNetsModel", name := "patrol", desc := "()I" } : Jvm.MethodName) ({ cls := "GuardNetsModel", name := "patrol", desc := "()I" } : Jvm.MethodName)) ∈ wsAll := wT_9 5 rfl rfl
set_option maxRecDepth 100000 in
theorem kw_2047 : (Jvm.Cond.code ({ cls := "GuardNetsModel", name := "patrol", desc := "()I" } : Jvm.MethodName) prog_14_method_89_code (2 : Nat) (Option.some Jvm.ClassFile.FieldType.int)) ∈ wsAll := wT_9 6 rfl rfl
set_option maxRecDepth 100000 in
theorem kw_2048 : (Jvm.Cond.methodLink "GuardNetsLaw" (129 : Nat) ({ cls := "GuardNetsModel", name := "catches", desc := "(III)I" } : Jvm.MethodName)) ∈ wsAll := wT_9 7 rfl rfl
set_option maxRecDepth 100000 in
theorem kw_2049 : (Jvm.Cond.instanceMethod ({ cls := "GuardNetsModel", name := "catches", desc := "(III)I" } : Jvm.MethodName)) ∈ wsAll := wT_9 8 rfl rfl
set_option maxRecDepth 100000 in
theorem kw_2050 : (Jvm.Cond.selects "GuardNetsModel" ({ cls := "GuardNetsModel", name := "catches", desc := "(III)I" } : Jvm.MethodName) ({ cls := "GuardNetsModel", name := "catches", desc := "(III)I" } : Jvm.MethodName)) ∈ wsAll := wT_9 9 rfl rfl
set_option maxRecDepth 100000 in
theorem kw_2051 : (Jvm.Cond.code ({ cls := "GuardNetsModel", name := "catches", desc := "(III)I" } : Jvm.MethodName) prog_14_method_90_code (5 : Nat) (Option.some Jvm.ClassFile.FieldType.int)) ∈ wsAll := wT_9 10 rfl rfl
set_option maxRecDepth 100000 in
theorem kw_2052 : (Jvm.Cond.methodLink "GuardNetsLaw" (133 : Nat) ({ cls := "GuardNetsModel", name := "game", desc := "(I)I" } : Jvm.MethodName)) ∈ wsAll := wT_9 11 rfl rfl
set_option maxRecDepth 100000 in
theorem kw_2053 : (Jvm.Cond.instanceMethod ({ cls := "GuardNetsModel", name := "game", desc := "(I)I" } : Jvm.MethodName)) ∈ wsAll := wT_9 12 rfl rfl
set_option maxRecDepth 100000 in
theorem kw_2054 : (Jvm.Cond.selects "GuardNetsModel" ({ cls := "GuardNetsModel", name := "game", desc := "(I)I" } : Jvm.MethodName) ({ cls := "GuardNetsModel", name := "game", desc := "(I)I" } : Jvm.MethodName)) ∈ wsAll := wT_9 13 rfl rfl
set_option maxRecDepth 100000 in
theorem kw_2055 : (Jvm.Cond.code ({ cls := "GuardNetsModel", name := "game", desc := "(I)I" } : Jvm.MethodName) prog_14_method_98_code (3 : Nat) (Option.some Jvm.ClassFile.FieldType.int)) ∈ wsAll := wT_9 14 rfl rfl
set_option maxRecDepth 100000 in
theorem kw_2088 : (Jvm.Cond.methodLink "GuardNetsLaw" (137 : Nat) ({ cls := "GuardNetsModel", name := "insider", desc := "(I)I" } : Jvm.MethodName)) ∈ wsAll := wT_9 47 rfl rfl
set_option maxRecDepth 100000 in
theorem kw_2089 : (Jvm.Cond.instanceMethod ({ cls := "GuardNetsModel", name := "insider", desc := "(I)I" } : Jvm.MethodName)) ∈ wsAll := wT_9 48 rfl rfl
set_option maxRecDepth 100000 in
theorem kw_2090 : (Jvm.Cond.selects "GuardNetsModel" ({ cls := "GuardNetsModel", name := "insider", desc := "(I)I" } : Jvm.MethodName) ({ cls := "GuardNetsModel", name := "insider", desc := "(I)I" } : Jvm.MethodName)) ∈ wsAll := wT_9 49 rfl rfl
set_option maxRecDepth 100000 in
theorem kw_2091 : (Jvm.Cond.code ({ cls := "GuardNetsModel", name := "insider", desc := "(I)I" } : Jvm.MethodName) prog_14_method_99_code (2 : Nat) (Option.some Jvm.ClassFile.FieldType.int)) ∈ wsAll := wT_9 50 rfl rfl
set_option maxRecDepth 100000 in
theorem kw_2092 : (Jvm.Cond.methodLink "GuardNetsLaw" (141 : Nat) ({ cls := "GuardNetsModel", name := "worst", desc := "(III)I" } : Jvm.MethodName)) ∈ wsAll := wT_9 51 rfl rfl
set_option maxRecDepth 100000 in
theorem kw_2093 : (Jvm.Cond.instanceMethod ({ cls := "GuardNetsModel", name := "worst", desc := "(III)I" } : Jvm.MethodName)) ∈ wsAll := wT_9 52 rfl rfl
set_option maxRecDepth 100000 in
theorem kw_2094 : (Jvm.Cond.selects "GuardNetsModel" ({ cls := "GuardNetsModel", name := "worst", desc := "(III)I" } : Jvm.MethodName) ({ cls := "GuardNetsModel", name := "worst", desc := "(III)I" } : Jvm.MethodName)) ∈ wsAll := wT_9 53 rfl rfl
set_option maxRecDepth 100000 in
theorem kw_2095 : (Jvm.Cond.code ({ cls := "GuardNetsModel", name := "worst", desc := "(III)I" } : Jvm.MethodName) prog_14_method_102_code (7 : Nat) (Option.some Jvm.ClassFile.FieldType.int)) ∈ wsAll := wT_9 54 rfl rfl
set_option maxRecDepth 100000 in
theorem kw_2104 : (Jvm.Cond.methodLink "GuardNetsLaw" (145 : Nat) ({ cls := "GuardNetsModel", name := "may", desc := "(III)I" } : Jvm.MethodName)) ∈ wsAll := wT_9 63 rfl rfl
set_option maxRecDepth 100000 in
theorem kw_2105 : (Jvm.Cond.instanceMethod ({ cls := "GuardNetsModel", name := "may", desc := "(III)I" } : Jvm.MethodName)) ∈ wsAll := wT_9 64 rfl rfl
set_option maxRecDepth 100000 in
theorem kw_2106 : (Jvm.Cond.selects "GuardNetsModel" ({ cls := "GuardNetsModel", name := "may", desc := "(III)I" } : Jvm.MethodName) ({ cls := "GuardNetsModel", name := "may", desc := "(III)I" } : Jvm.MethodName)) ∈ wsAll := wT_9 65 rfl rfl
set_option maxRecDepth 100000 in
theorem kw_2107 : (Jvm.Cond.code ({ cls := "GuardNetsModel", name := "may", desc := "(III)I" } : Jvm.MethodName) prog_14_method_106_code (5 : Nat) (Option.some Jvm.ClassFile.FieldType.int)) ∈ wsAll := wT_9 66 rfl rfl
set_option maxRecDepth 100000 in
theorem kw_2119 : (Jvm.Cond.methodLink "GuardNetsLaw" (149 : Nat) ({ cls := "GuardNetsModel", name := "ask", desc := "(III)I" } : Jvm.MethodName)) ∈ wsAll := wT_9 78 rfl rfl
set_option maxRecDepth 100000 in
theorem kw_2120 : (Jvm.Cond.instanceMethod ({ cls := "GuardNetsModel", name := "ask", desc := "(III)I" } : Jvm.MethodName)) ∈ wsAll := wT_9 79 rfl rfl
set_option maxRecDepth 100000 in
theorem kw_2121 : (Jvm.Cond.selects "GuardNetsModel" ({ cls := "GuardNetsModel", name := "ask", desc := "(III)I" } : Jvm.MethodName) ({ cls := "GuardNetsModel", name := "ask", desc := "(III)I" } : Jvm.MethodName)) ∈ wsAll := wT_9 80 rfl rfl
set_option maxRecDepth 100000 in
theorem kw_2122 : (Jvm.Cond.code ({ cls := "GuardNetsModel", name := "ask", desc := "(III)I" } : Jvm.MethodName) prog_14_method_107_code (11 : Nat) (Option.some Jvm.ClassFile.FieldType.int)) ∈ wsAll := wT_9 81 rfl rfl
set_option maxRecDepth 100000 in
theorem kw_2123 : (Jvm.Cond.methodLink "GuardNetsLaw" (153 : Nat) ({ cls := "GuardNetsModel", name := "event", desc := "(II)I" } : Jvm.MethodName)) ∈ wsAll := wT_9 82 rfl rfl
set_option maxRecDepth 100000 in
theorem kw_2124 : (Jvm.Cond.instanceMethod ({ cls := "GuardNetsModel", name := "event", desc := "(II)I" } : Jvm.MethodName)) ∈ wsAll := wT_9 83 rfl rfl
set_option maxRecDepth 100000 in
theorem kw_2125 : (Jvm.Cond.selects "GuardNetsModel" ({ cls := "GuardNetsModel", name := "event", desc := "(II)I" } : Jvm.MethodName) ({ cls := "GuardNetsModel", name := "event", desc := "(II)I" } : Jvm.MethodName)) ∈ wsAll := wT_9 84 rfl rfl
set_option maxRecDepth 100000 in
theorem kw_2126 : (Jvm.Cond.code ({ cls := "GuardNetsModel", name := "event", desc := "(II)I" } : Jvm.MethodName) prog_14_method_108_code (3 : Nat) (Option.some Jvm.ClassFile.FieldType.int)) ∈ wsAll := wT_9 85 rfl rfl
set_option maxRecDepth 100000 in
theorem kw_2127 : (Jvm.Cond.methodLink "GuardNetsLaw" (157 : Nat) ({ cls := "GuardNetsModel", name := "rest", desc := "()I" } : Jvm.MethodName)) ∈ wsAll := wT_9 86 rfl rfl
set_option maxRecDepth 100000 in
theorem kw_2128 : (Jvm.Cond.instanceMethod ({ cls := "GuardNetsModel", name := "rest", desc := "()I" } : Jvm.MethodName)) ∈ wsAll := wT_9 87 rfl rfl
set_option maxRecDepth 100000 in
theorem kw_2129 : (Jvm.Cond.selects "GuardNetsModel" ({ cls := "GuardNetsModel", name := "rest", desc := "()I" } : Jvm.MethodName) ({ cls := "GuardNetsModel", name := "rest", desc := "()I" } : Jvm.MethodName)) ∈ wsAll := wT_9 88 rfl rfl
set_option maxRecDepth 100000 in
theorem kw_2130 : (Jvm.Cond.code ({ cls := "GuardNetsModel", name := "rest", desc := "()I" } : Jvm.MethodName) prog_14_method_109_code (2 : Nat) (Option.some Jvm.ClassFile.FieldType.int)) ∈ wsAll := wT_9 89 rfl rfl
set_option maxRecDepth 100000 in
theorem kw_2131 : (Jvm.Cond.methodLink "GuardNetsLaw" (161 : Nat) ({ cls := "GuardNetsModel", name := "soon", desc := "()I" } : Jvm.MethodName)) ∈ wsAll := wT_9 90 rfl rfl
set_option maxRecDepth 100000 in
theorem kw_2132 : (Jvm.Cond.instanceMethod ({ cls := "GuardNetsModel", name := "soon", desc := "()I" } : Jvm.MethodName)) ∈ wsAll := wT_9 91 rfl rfl
set_option maxRecDepth 100000 in
theorem kw_2133 : (Jvm.Cond.selects "GuardNetsModel" ({ cls := "GuardNetsModel", name := "soon", desc := "()I" } : Jvm.MethodName) ({ cls := "GuardNetsModel", name := "soon", desc := "()I" } : Jvm.MethodName)) ∈ wsAll := wT_9 92 rfl rfl
set_option maxRecDepth 100000 in
theorem kw_2134 : (Jvm.Cond.code ({ cls := "GuardNetsModel", name := "soon", desc := "()I" } : Jvm.MethodName) prog_14_method_110_code (2 : Nat) (Option.some Jvm.ClassFile.FieldType.int)) ∈ wsAll := wT_9 93 rfl rfl
set_option maxRecDepth 100000 in
theorem kw_2135 : (Jvm.Cond.methodLink "GuardNetsLaw" (165 : Nat) ({ cls := "GuardNetsModel", name := "reached", desc := "(II)I" } : Jvm.MethodName)) ∈ wsAll := wT_9 94 rfl rfl
set_option maxRecDepth 100000 in
theorem kw_2136 : (Jvm.Cond.instanceMethod ({ cls := "GuardNetsModel", name := "reached", desc := "(II)I" } : Jvm.MethodName)) ∈ wsAll := wT_9 95 rfl rfl
set_option maxRecDepth 100000 in
theorem kw_2137 : (Jvm.Cond.selects "GuardNetsModel" ({ cls := "GuardNetsModel", name := "reached", desc := "(II)I" } : Jvm.MethodName) ({ cls := "GuardNetsModel", name := "reached", desc := "(II)I" } : Jvm.MethodName)) ∈ wsAll := wT_9 96 rfl rfl
set_option maxRecDepth 100000 in
theorem kw_2138 : (Jvm.Cond.code ({ cls := "GuardNetsModel", name := "reached", desc := "(II)I" } : Jvm.MethodName) prog_14_method_112_code (6 : Nat) (Option.some Jvm.ClassFile.FieldType.int)) ∈ wsAll := wT_9 97 rfl rfl
set_option maxRecDepth 100000 in
theorem kw_2143 : (Jvm.Cond.methodLink "GuardNetsLaw" (169 : Nat) ({ cls := "GuardNetsModel", name := "walk", desc := "(II)I" } : Jvm.MethodName)) ∈ wsAll := wT_9 102 rfl rfl
set_option maxRecDepth 100000 in
theorem kw_2144 : (Jvm.Cond.instanceMethod ({ cls := "GuardNetsModel", name := "walk", desc := "(II)I" } : Jvm.MethodName)) ∈ wsAll := wT_9 103 rfl rfl
set_option maxRecDepth 100000 in
theorem kw_2145 : (Jvm.Cond.selects "GuardNetsModel" ({ cls := "GuardNetsModel", name := "walk", desc := "(II)I" } : Jvm.MethodName) ({ cls := "GuardNetsModel", name := "walk", desc := "(II)I" } : Jvm.MethodName)) ∈ wsAll := wT_9 104 rfl rfl
set_option maxRecDepth 100000 in
theorem kw_2146 : (Jvm.Cond.code ({ cls := "GuardNetsModel", name := "walk", desc := "(II)I" } : Jvm.MethodName) prog_14_method_113_code (3 : Nat) (Option.some Jvm.ClassFile.FieldType.int)) ∈ wsAll := wT_9 105 rfl rfl
set_option maxRecDepth 100000 in
theorem kw_2147 : (Jvm.Cond.methodLink "GuardNetsLaw" (173 : Nat) ({ cls := "GuardNetsModel", name := "home", desc := "(I)I" } : Jvm.MethodName)) ∈ wsAll := wT_9 106 rfl rfl
set_option maxRecDepth 100000 in
theorem kw_2148 : (Jvm.Cond.instanceMethod ({ cls := "GuardNetsModel", name := "home", desc := "(I)I" } : Jvm.MethodName)) ∈ wsAll := wT_9 107 rfl rfl
set_option maxRecDepth 100000 in
theorem kw_2149 : (Jvm.Cond.selects "GuardNetsModel" ({ cls := "GuardNetsModel", name := "home", desc := "(I)I" } : Jvm.MethodName) ({ cls := "GuardNetsModel", name := "home", desc := "(I)I" } : Jvm.MethodName)) ∈ wsAll := wT_9 108 rfl rfl
set_option maxRecDepth 100000 in
theorem kw_2150 : (Jvm.Cond.code ({ cls := "GuardNetsModel", name := "home", desc := "(I)I" } : Jvm.MethodName) prog_14_method_114_code (3 : Nat) (Option.some Jvm.ClassFile.FieldType.int)) ∈ wsAll := wT_9 109 rfl rfl
set_option maxRecDepth 100000 in
theorem kw_2151 : (Jvm.Cond.methodLink "GuardNetsLaw" (177 : Nat) ({ cls := "GuardNetsModel", name := "stands", desc := "(II)I" } : Jvm.MethodName)) ∈ wsAll := wT_9 110 rfl rfl
set_option maxRecDepth 100000 in
theorem kw_2152 : (Jvm.Cond.instanceMethod ({ cls := "GuardNetsModel", name := "stands", desc := "(II)I" } : Jvm.MethodName)) ∈ wsAll := wT_9 111 rfl rfl
set_option maxRecDepth 100000 in
theorem kw_2153 : (Jvm.Cond.selects "GuardNetsModel" ({ cls := "GuardNetsModel", name := "stands", desc := "(II)I" } : Jvm.MethodName) ({ cls := "GuardNetsModel", name := "stands", desc := "(II)I" } : Jvm.MethodName)) ∈ wsAll := wT_9 112 rfl rfl
set_option maxRecDepth 100000 in
theorem kw_2154 : (Jvm.Cond.code ({ cls := "GuardNetsModel", name := "stands", desc := "(II)I" } : Jvm.MethodName) prog_14_method_116_code (3 : Nat) (Option.some Jvm.ClassFile.FieldType.int)) ∈ wsAll := wT_9 113 rfl rfl
set_option maxRecDepth 100000 in
theorem kw_2159 : (Jvm.Cond.methodLink "GuardNetsLaw" (181 : Nat) ({ cls := "GuardNetsModel", name := "begins", desc := "(II)I" } : Jvm.MethodName)) ∈ wsAll := wT_9 118 rfl rfl
set_option maxRecDepth 100000 in
theorem kw_2160 : (Jvm.Cond.instanceMethod ({ cls := "GuardNetsModel", name := "begins", desc := "(II)I" } : Jvm.MethodName)) ∈ wsAll := wT_9 119 rfl rfl
set_option maxRecDepth 100000 in
theorem kw_2161 : (Jvm.Cond.selects "GuardNetsModel" ({ cls := "GuardNetsModel", name := "begins", desc := "(II)I" } : Jvm.MethodName) ({ cls := "GuardNetsModel", name := "begins", desc := "(II)I" } : Jvm.MethodName)) ∈ wsAll := wT_9 120 rfl rfl
set_option maxRecDepth 100000 in
theorem kw_2162 : (Jvm.Cond.code ({ cls := "GuardNetsModel", name := "begins", desc := "(II)I" } : Jvm.MethodName) prog_14_method_118_code (3 : Nat) (Option.some Jvm.ClassFile.FieldType.int)) ∈ wsAll := wT_9 121 rfl rfl
set_option maxRecDepth 100000 in
theorem kw_2167 : (Jvm.Cond.methodLink "GuardNetsLaw" (185 : Nat) ({ cls := "GuardNetsModel", name := "end", desc := "(II)I" } : Jvm.MethodName)) ∈ wsAll := wT_9 126 rfl rfl
set_option maxRecDepth 100000 in
theorem kw_2168 : (Jvm.Cond.instanceMethod ({ cls := "GuardNetsModel", name := "end", desc := "(II)I" } : Jvm.MethodName)) ∈ wsAll := wT_9 127 rfl rfl
set_option maxRecDepth 100000 in
theorem kw_2169 : (Jvm.Cond.selects "GuardNetsModel" ({ cls := "GuardNetsModel", name := "end", desc := "(II)I" } : Jvm.MethodName) ({ cls := "GuardNetsModel", name := "end", desc := "(II)I" } : Jvm.MethodName)) ∈ wsAll := wT_9 128 rfl rfl
set_option maxRecDepth 100000 in
theorem kw_2170 : (Jvm.Cond.code ({ cls := "GuardNetsModel", name := "end", desc := "(II)I" } : Jvm.MethodName) prog_14_method_123_code (4 : Nat) (Option.some Jvm.ClassFile.FieldType.int)) ∈ wsAll := wT_9 129 rfl rfl
set_option maxRecDepth 100000 in
theorem kw_2186 : (Jvm.Cond.methodLink "GuardNetsLaw" (189 : Nat) ({ cls := "GuardNetsModel", name := "orderAt", desc := "(III)I" } : Jvm.MethodName)) ∈ wsAll := wT_9 145 rfl rfl
set_option maxRecDepth 100000 in
theorem kw_2187 : (Jvm.Cond.instanceMethod ({ cls := "GuardNetsModel", name := "orderAt", desc := "(III)I" } : Jvm.MethodName)) ∈ wsAll := wT_9 146 rfl rfl
set_option maxRecDepth 100000 in
theorem kw_2188 : (Jvm.Cond.selects "GuardNetsModel" ({ cls := "GuardNetsModel", name := "orderAt", desc := "(III)I" } : Jvm.MethodName) ({ cls := "GuardNetsModel", name := "orderAt", desc := "(III)I" } : Jvm.MethodName)) ∈ wsAll := wT_9 147 rfl rfl
set_option maxRecDepth 100000 in
theorem kw_2189 : (Jvm.Cond.code ({ cls := "GuardNetsModel", name := "orderAt", desc := "(III)I" } : Jvm.MethodName) prog_14_method_124_code (5 : Nat) (Option.some Jvm.ClassFile.FieldType.int)) ∈ wsAll := wT_9 148 rfl rfl
set_option maxRecDepth 100000 in
theorem kw_2190 : (Jvm.Cond.methodLink "GuardNetsLaw" (193 : Nat) ({ cls := "GuardNetsModel", name := "image", desc := "(I)I" } : Jvm.MethodName)) ∈ wsAll := wT_9 149 rfl rfl
set_option maxRecDepth 100000 in
theorem kw_2191 : (Jvm.Cond.instanceMethod ({ cls := "GuardNetsModel", name := "image", desc := "(I)I" } : Jvm.MethodName)) ∈ wsAll := wT_9 150 rfl rfl
set_option maxRecDepth 100000 in
theorem kw_2192 : (Jvm.Cond.selects "GuardNetsModel" ({ cls := "GuardNetsModel", name := "image", desc := "(I)I" } : Jvm.MethodName) ({ cls := "GuardNetsModel", name := "image", desc := "(I)I" } : Jvm.MethodName)) ∈ wsAll := wT_9 151 rfl rfl
set_option maxRecDepth 100000 in
theorem kw_2193 : (Jvm.Cond.code ({ cls := "GuardNetsModel", name := "image", desc := "(I)I" } : Jvm.MethodName) prog_14_method_125_code (4 : Nat) (Option.some Jvm.ClassFile.FieldType.int)) ∈ wsAll := wT_9 152 rfl rfl
set_option maxRecDepth 100000 in
theorem kw_2194 : (Jvm.Cond.methodLink "GuardNetsLaw" (197 : Nat) ({ cls := "GuardNetsModel", name := "differ", desc := "(I)I" } : Jvm.MethodName)) ∈ wsAll := wT_9 153 rfl rfl
set_option maxRecDepth 100000 in
theorem kw_2195 : (Jvm.Cond.instanceMethod ({ cls := "GuardNetsModel", name := "differ", desc := "(I)I" } : Jvm.MethodName)) ∈ wsAll := wT_9 154 rfl rfl
set_option maxRecDepth 100000 in
theorem kw_2196 : (Jvm.Cond.selects "GuardNetsModel" ({ cls := "GuardNetsModel", name := "differ", desc := "(I)I" } : Jvm.MethodName) ({ cls := "GuardNetsModel", name := "differ", desc := "(I)I" } : Jvm.MethodName)) ∈ wsAll := wT_9 155 rfl rfl
set_option maxRecDepth 100000 in
theorem kw_2197 : (Jvm.Cond.code ({ cls := "GuardNetsModel", name := "differ", desc := "(I)I" } : Jvm.MethodName) prog_14_method_126_code (5 : Nat) (Option.some Jvm.ClassFile.FieldType.int)) ∈ wsAll := wT_9 156 rfl rfl
set_option maxRecDepth 100000 in
theorem kw_2198 : (Jvm.Cond.methodLink "GuardNetsLaw" (201 : Nat) ({ cls := "GuardNetsModel", name := "from", desc := "(I)I" } : Jvm.MethodName)) ∈ wsAll := wT_9 157 rfl rfl
set_option maxRecDepth 100000 in
theorem kw_2199 : (Jvm.Cond.instanceMethod ({ cls := "GuardNetsModel", name := "from", desc := "(I)I" } : Jvm.MethodName)) ∈ wsAll := wT_9 158 rfl rfl
set_option maxRecDepth 100000 in
theorem kw_2200 : (Jvm.Cond.selects "GuardNetsModel" ({ cls := "GuardNetsModel", name := "from", desc := "(I)I" } : Jvm.MethodName) ({ cls := "GuardNetsModel", name := "from", desc := "(I)I" } : Jvm.MethodName)) ∈ wsAll := wT_9 159 rfl rfl
set_option maxRecDepth 100000 in
theorem kw_2201 : (Jvm.Cond.code ({ cls := "GuardNetsModel", name := "from", desc := "(I)I" } : Jvm.MethodName) prog_14_method_127_code (4 : Nat) (Option.some Jvm.ClassFile.FieldType.int)) ∈ wsAll := wT_9 160 rfl rfl
set_option maxRecDepth 100000 in
theorem kw_2202 : (Jvm.Cond.methodLink "GuardNetsLaw" (205 : Nat) ({ cls := "GuardNetsModel", name := "count", desc := "(I)I" } : Jvm.MethodName)) ∈ wsAll := wT_9 161 rfl rfl
set_option maxRecDepth 100000 in
theorem kw_2206 : (Jvm.Cond.methodLink "GuardNetsLaw" (210 : Nat) ({ cls := "GuardNetsModel", name := "digest", desc := "()J" } : Jvm.MethodName)) ∈ wsAll := wT_9 165 rfl rfl
set_option maxRecDepth 100000 in
theorem kw_2207 : (Jvm.Cond.instanceMethod ({ cls := "GuardNetsModel", name := "digest", desc := "()J" } : Jvm.MethodName)) ∈ wsAll := wT_9 166 rfl rfl
set_option maxRecDepth 100000 in
theorem kw_2208 : (Jvm.Cond.selects "GuardNetsModel" ({ cls := "GuardNetsModel", name := "digest", desc := "()J" } : Jvm.MethodName) ({ cls := "GuardNetsModel", name := "digest", desc := "()J" } : Jvm.MethodName)) ∈ wsAll := wT_9 167 rfl rfl
set_option maxRecDepth 100000 in
theorem kw_2209 : (Jvm.Cond.code ({ cls := "GuardNetsModel", name := "digest", desc := "()J" } : Jvm.MethodName) prog_14_method_129_code (5 : Nat) (Option.some Jvm.ClassFile.FieldType.long)) ∈ wsAll := wT_9 168 rfl rfl
