theorem kw_51 : (Jvm.Cond.selects "GuardNetsModel" ({ cls := "GuardNetsModel", name := "puts", desc := "(II)V" } : Jvm.MethodName) ({ cls := "GuardNetsModel", name := "puts", desc := "(II)V" } : Jvm.MethodName)) ∈ wsAll := wA_mem 51 (by decide +kernel) rfl
theorem kw_52 : (Jvm.Cond.selects "GuardNetsModel" ({ cls := "GuardNetsModel", name := "stepOf", desc := "(II)I" } : Jvm.MethodName) ({ cls := "GuardNetsModel", name := "stepOf", desc := "(II)I" } : Jvm.MethodName)) ∈ wsAll := wA_mem 52 (by decide +kernel) rfl
theorem kw_53 : (Jvm.Cond.selects "GuardNetsModel" ({ cls := "GuardNetsModel", name := "reads", desc := "()I" } : Jvm.MethodName) ({ cls := "GuardNetsModel", name := "reads", desc := "()I" } : Jvm.MethodName)) ∈ wsAll := wA_mem 53 (by decide +kernel) rfl
theorem kw_54 : (Jvm.Cond.selects "GuardNetsModel" ({ cls := "GuardNetsModel", name := "opens", desc := "(Z)V" } : Jvm.MethodName) ({ cls := "GuardNetsModel", name := "opens", desc := "(Z)V" } : Jvm.MethodName)) ∈ wsAll := wA_mem 54 (by decide +kernel) rfl
theorem kw_55 : (Jvm.Cond.selects "GuardNetsModel" ({ cls := "GuardNetsModel", name := "opensPart", desc := "(II)I" } : Jvm.MethodName) ({ cls := "GuardNetsModel", name := "opensPart", desc := "(II)I" } : Jvm.MethodName)) ∈ wsAll := wA_mem 55 (by decide +kernel) rfl
theorem kw_56 : (Jvm.Cond.selects "GuardNetsModel" ({ cls := "GuardNetsModel", name := "newKnot", desc := "(I)I" } : Jvm.MethodName) ({ cls := "GuardNetsModel", name := "newKnot", desc := "(I)I" } : Jvm.MethodName)) ∈ wsAll := wA_mem 56 (by decide +kernel) rfl
theorem kw_57 : (Jvm.Cond.selects "GuardNetsModel" ({ cls := "GuardNetsModel", name := "toRow", desc := "(II)V" } : Jvm.MethodName) ({ cls := "GuardNetsModel", name := "toRow", desc := "(II)V" } : Jvm.MethodName)) ∈ wsAll := wA_mem 57 (by decide +kernel) rfl
theorem kw_58 : (Jvm.Cond.selects "GuardNetsModel" ({ cls := "GuardNetsModel", name := "goesOn", desc := "(II)I" } : Jvm.MethodName) ({ cls := "GuardNetsModel", name := "goesOn", desc := "(II)I" } : Jvm.MethodName)) ∈ wsAll := wA_mem 58 (by decide +kernel) rfl
theorem kw_59 : (Jvm.Cond.selects "GuardNetsModel" ({ cls := "GuardNetsModel", name := "endsBoth", desc := "()V" } : Jvm.MethodName) ({ cls := "GuardNetsModel", name := "endsBoth", desc := "()V" } : Jvm.MethodName)) ∈ wsAll := wA_mem 59 (by decide +kernel) rfl
theorem kw_60 : (Jvm.Cond.selects "GuardNetsModel" ({ cls := "GuardNetsModel", name := "ends", desc := "(II)I" } : Jvm.MethodName) ({ cls := "GuardNetsModel", name := "ends", desc := "(II)I" } : Jvm.MethodName)) ∈ wsAll := wA_mem 60 (by decide +kernel) rfl
theorem kw_61 : (Jvm.Cond.selects "GuardNetsModel" ({ cls := "GuardNetsModel", name := "comes", desc := "(II)V" } : Jvm.MethodName) ({ cls := "GuardNetsModel", name := "comes", desc := "(II)V" } : Jvm.MethodName)) ∈ wsAll := wA_mem 61 (by decide +kernel) rfl
theorem kw_62 : (Jvm.Cond.selects "GuardNetsModel" ({ cls := "GuardNetsModel", name := "endsChain", desc := "()V" } : Jvm.MethodName) ({ cls := "GuardNetsModel", name := "endsChain", desc := "()V" } : Jvm.MethodName)) ∈ wsAll := wA_mem 62 (by decide +kernel) rfl
theorem kw_63 : (Jvm.Cond.selects "GuardNetsModel" ({ cls := "GuardNetsModel", name := "endsNet", desc := "()I" } : Jvm.MethodName) ({ cls := "GuardNetsModel", name := "endsNet", desc := "()I" } : Jvm.MethodName)) ∈ wsAll := wA_mem 63 (by decide +kernel) rfl
theorem kw_64 : (Jvm.Cond.selects "GuardNetsModel" ({ cls := "GuardNetsModel", name := "closes", desc := "(I)V" } : Jvm.MethodName) ({ cls := "GuardNetsModel", name := "closes", desc := "(I)V" } : Jvm.MethodName)) ∈ wsAll := wA_mem 64 (by decide +kernel) rfl
theorem kw_65 : (Jvm.Cond.selects "GuardNetsModel" ({ cls := "GuardNetsModel", name := "squares", desc := "()I" } : Jvm.MethodName) ({ cls := "GuardNetsModel", name := "squares", desc := "()I" } : Jvm.MethodName)) ∈ wsAll := wA_mem 65 (by decide +kernel) rfl
theorem kw_66 : (Jvm.Cond.selects "GuardNetsModel" ({ cls := "GuardNetsModel", name := "lays", desc := "(I)V" } : Jvm.MethodName) ({ cls := "GuardNetsModel", name := "lays", desc := "(I)V" } : Jvm.MethodName)) ∈ wsAll := wA_mem 66 (by decide +kernel) rfl
theorem kw_67 : (Jvm.Cond.selects "GuardNetsModel" ({ cls := "GuardNetsModel", name := "wordOf", desc := "(II)J" } : Jvm.MethodName) ({ cls := "GuardNetsModel", name := "wordOf", desc := "(II)J" } : Jvm.MethodName)) ∈ wsAll := wA_mem 67 (by decide +kernel) rfl
theorem kw_68 : (Jvm.Cond.selects "GuardNetsModel" ({ cls := "GuardNetsModel", name := "why", desc := "(IZ)I" } : Jvm.MethodName) ({ cls := "GuardNetsModel", name := "why", desc := "(IZ)I" } : Jvm.MethodName)) ∈ wsAll := wA_mem 68 (by decide +kernel) rfl
theorem kw_69 : (Jvm.Cond.selects "GuardNetsModel" ({ cls := "GuardNetsModel", name := "knotOf", desc := "(II)I" } : Jvm.MethodName) ({ cls := "GuardNetsModel", name := "knotOf", desc := "(II)I" } : Jvm.MethodName)) ∈ wsAll := wA_mem 69 (by decide +kernel) rfl
theorem kw_70 : (Jvm.Cond.selects "GuardNetsModel" ({ cls := "GuardNetsModel", name := "isReached", desc := "(II)Z" } : Jvm.MethodName) ({ cls := "GuardNetsModel", name := "isReached", desc := "(II)Z" } : Jvm.MethodName)) ∈ wsAll := wA_mem 70 (by decide +kernel) rfl
theorem kw_71 : (Jvm.Cond.selects "GuardNetsModel" ({ cls := "GuardNetsModel", name := "whyWays", desc := "(IZ)I" } : Jvm.MethodName) ({ cls := "GuardNetsModel", name := "whyWays", desc := "(IZ)I" } : Jvm.MethodName)) ∈ wsAll := wA_mem 71 (by decide +kernel) rfl
theorem kw_72 : (Jvm.Cond.selects "GuardNetsModel" ({ cls := "GuardNetsModel", name := "findWays", desc := "(I)Z" } : Jvm.MethodName) ({ cls := "GuardNetsModel", name := "findWays", desc := "(I)Z" } : Jvm.MethodName)) ∈ wsAll := wA_mem 72 (by decide +kernel) rfl
theorem kw_73 : (Jvm.Cond.selects "GuardNetsModel" ({ cls := "GuardNetsModel", name := "countWays", desc := "(I)I" } : Jvm.MethodName) ({ cls := "GuardNetsModel", name := "countWays", desc := "(I)I" } : Jvm.MethodName)) ∈ wsAll := wA_mem 73 (by decide +kernel) rfl
theorem kw_74 : (Jvm.Cond.selects "GuardNetsModel" ({ cls := "GuardNetsModel", name := "findLesser", desc := "(I)V" } : Jvm.MethodName) ({ cls := "GuardNetsModel", name := "findLesser", desc := "(I)V" } : Jvm.MethodName)) ∈ wsAll := wA_mem 74 (by decide +kernel) rfl
theorem kw_75 : (Jvm.Cond.selects "GuardNetsModel" ({ cls := "GuardNetsModel", name := "leastAt", desc := "(II)I" } : Jvm.MethodName) ({ cls := "GuardNetsModel", name := "leastAt", desc := "(II)I" } : Jvm.MethodName)) ∈ wsAll := wA_mem 75 (by decide +kernel) rfl
theorem kw_76 : (Jvm.Cond.selects "GuardNetsModel" ({ cls := "GuardNetsModel", name := "sumOf", desc := "(III)I" } : Jvm.MethodName) ({ cls := "GuardNetsModel", name := "sumOf", desc := "(III)I" } : Jvm.MethodName)) ∈ wsAll := wA_mem 76 (by decide +kernel) rfl
theorem kw_77 : (Jvm.Cond.selects "GuardNetsModel" ({ cls := "GuardNetsModel", name := "sorted", desc := "(II)I" } : Jvm.MethodName) ({ cls := "GuardNetsModel", name := "sorted", desc := "(II)I" } : Jvm.MethodName)) ∈ wsAll := wA_mem 77 (by decide +kernel) rfl
theorem kw_78 : (Jvm.Cond.selects "GuardNetsModel" ({ cls := "GuardNetsModel", name := "limbsOf", desc := "(I)I" } : Jvm.MethodName) ({ cls := "GuardNetsModel", name := "limbsOf", desc := "(I)I" } : Jvm.MethodName)) ∈ wsAll := wA_mem 78 (by decide +kernel) rfl
theorem kw_79 : (Jvm.Cond.selects "GuardNetsModel" ({ cls := "GuardNetsModel", name := "diagrams", desc := "(I)V" } : Jvm.MethodName) ({ cls := "GuardNetsModel", name := "diagrams", desc := "(I)V" } : Jvm.MethodName)) ∈ wsAll := wA_mem 79 (by decide +kernel) rfl
theorem kw_80 : (Jvm.Cond.selects "GuardNetsModel" ({ cls := "GuardNetsModel", name := "nodeOf", desc := "(III)I" } : Jvm.MethodName) ({ cls := "GuardNetsModel", name := "nodeOf", desc := "(III)I" } : Jvm.MethodName)) ∈ wsAll := wA_mem 80 (by decide +kernel) rfl
theorem kw_81 : (Jvm.Cond.selects "GuardNetsModel" ({ cls := "GuardNetsModel", name := "whyChance", desc := "(IZ)I" } : Jvm.MethodName) ({ cls := "GuardNetsModel", name := "whyChance", desc := "(IZ)I" } : Jvm.MethodName)) ∈ wsAll := wA_mem 81 (by decide +kernel) rfl
theorem kw_82 : (Jvm.Cond.selects "GuardNetsModel" ({ cls := "GuardNetsModel", name := "uses", desc := "(I)V" } : Jvm.MethodName) ({ cls := "GuardNetsModel", name := "uses", desc := "(I)V" } : Jvm.MethodName)) ∈ wsAll := wA_mem 82 (by decide +kernel) rfl
theorem kw_83 : (Jvm.Cond.selects "GuardNetsModel" ({ cls := "GuardNetsModel", name := "chances", desc := "(I)V" } : Jvm.MethodName) ({ cls := "GuardNetsModel", name := "chances", desc := "(I)V" } : Jvm.MethodName)) ∈ wsAll := wA_mem 83 (by decide +kernel) rfl
theorem kw_84 : (Jvm.Cond.selects "GuardNetsModel" ({ cls := "GuardNetsModel", name := "brings", desc := "(III)V" } : Jvm.MethodName) ({ cls := "GuardNetsModel", name := "brings", desc := "(III)V" } : Jvm.MethodName)) ∈ wsAll := wA_mem 84 (by decide +kernel) rfl
theorem kw_85 : (Jvm.Cond.selects "GuardNetsModel" ({ cls := "GuardNetsModel", name := "takes", desc := "(II)V" } : Jvm.MethodName) ({ cls := "GuardNetsModel", name := "takes", desc := "(II)V" } : Jvm.MethodName)) ∈ wsAll := wA_mem 85 (by decide +kernel) rfl
theorem kw_86 : (Jvm.Cond.selects "GuardNetsModel" ({ cls := "GuardNetsModel", name := "times", desc := "(II)V" } : Jvm.MethodName) ({ cls := "GuardNetsModel", name := "times", desc := "(II)V" } : Jvm.MethodName)) ∈ wsAll := wA_mem 86 (by decide +kernel) rfl
theorem kw_87 : (Jvm.Cond.selects "GuardNetsModel" ({ cls := "GuardNetsModel", name := "adds", desc := "(II)V" } : Jvm.MethodName) ({ cls := "GuardNetsModel", name := "adds", desc := "(II)V" } : Jvm.MethodName)) ∈ wsAll := wA_mem 87 (by decide +kernel) rfl
theorem kw_88 : (Jvm.Cond.selects "GuardNetsModel" ({ cls := "GuardNetsModel", name := "wholes", desc := "(II)V" } : Jvm.MethodName) ({ cls := "GuardNetsModel", name := "wholes", desc := "(II)V" } : Jvm.MethodName)) ∈ wsAll := wA_mem 88 (by decide +kernel) rfl
theorem kw_89 : (Jvm.Cond.selects "GuardNetsModel" ({ cls := "GuardNetsModel", name := "tells", desc := "(II)V" } : Jvm.MethodName) ({ cls := "GuardNetsModel", name := "tells", desc := "(II)V" } : Jvm.MethodName)) ∈ wsAll := wA_mem 89 (by decide +kernel) rfl
theorem kw_90 : (Jvm.Cond.selects "GuardNetsModel" ({ cls := "GuardNetsModel", name := "isNothing", desc := "(I)Z" } : Jvm.MethodName) ({ cls := "GuardNetsModel", name := "isNothing", desc := "(I)Z" } : Jvm.MethodName)) ∈ wsAll := wA_mem 90 (by decide +kernel) rfl
theorem kw_91 : (Jvm.Cond.selects "GuardNetsModel" ({ cls := "GuardNetsModel", name := "divisor", desc := "(II)V" } : Jvm.MethodName) ({ cls := "GuardNetsModel", name := "divisor", desc := "(II)V" } : Jvm.MethodName)) ∈ wsAll := wA_mem 91 (by decide +kernel) rfl
theorem kw_92 : (Jvm.Cond.selects "GuardNetsModel" ({ cls := "GuardNetsModel", name := "isEven", desc := "(I)Z" } : Jvm.MethodName) ({ cls := "GuardNetsModel", name := "isEven", desc := "(I)Z" } : Jvm.MethodName)) ∈ wsAll := wA_mem 92 (by decide +kernel) rfl
theorem kw_93 : (Jvm.Cond.selects "GuardNetsModel" ({ cls := "GuardNetsModel", name := "halves", desc := "(I)V" } : Jvm.MethodName) ({ cls := "GuardNetsModel", name := "halves", desc := "(I)V" } : Jvm.MethodName)) ∈ wsAll := wA_mem 93 (by decide +kernel) rfl
theorem kw_94 : (Jvm.Cond.selects "GuardNetsModel" ({ cls := "GuardNetsModel", name := "against", desc := "(II)I" } : Jvm.MethodName) ({ cls := "GuardNetsModel", name := "against", desc := "(II)I" } : Jvm.MethodName)) ∈ wsAll := wA_mem 94 (by decide +kernel) rfl
theorem kw_95 : (Jvm.Cond.selects "GuardNetsModel" ({ cls := "GuardNetsModel", name := "lessens", desc := "(II)V" } : Jvm.MethodName) ({ cls := "GuardNetsModel", name := "lessens", desc := "(II)V" } : Jvm.MethodName)) ∈ wsAll := wA_mem 95 (by decide +kernel) rfl
theorem kw_96 : (Jvm.Cond.selects "GuardNetsModel" ({ cls := "GuardNetsModel", name := "divides", desc := "(III)V" } : Jvm.MethodName) ({ cls := "GuardNetsModel", name := "divides", desc := "(III)V" } : Jvm.MethodName)) ∈ wsAll := wA_mem 96 (by decide +kernel) rfl
theorem kw_97 : (Jvm.Cond.selects "GuardNetsModel" ({ cls := "GuardNetsModel", name := "bitOf", desc := "(II)Z" } : Jvm.MethodName) ({ cls := "GuardNetsModel", name := "bitOf", desc := "(II)Z" } : Jvm.MethodName)) ∈ wsAll := wA_mem 97 (by decide +kernel) rfl
theorem kw_98 : (Jvm.Cond.selects "GuardNetsModel" ({ cls := "GuardNetsModel", name := "spread", desc := "(II)I" } : Jvm.MethodName) ({ cls := "GuardNetsModel", name := "spread", desc := "(II)I" } : Jvm.MethodName)) ∈ wsAll := wA_mem 98 (by decide +kernel) rfl
theorem kw_99 : (Jvm.Cond.selects "GuardNetsModel" ({ cls := "GuardNetsModel", name := "isHeld", desc := "(II)Z" } : Jvm.MethodName) ({ cls := "GuardNetsModel", name := "isHeld", desc := "(II)Z" } : Jvm.MethodName)) ∈ wsAll := wA_mem 99 (by decide +kernel) rfl
theorem kw_100 : (Jvm.Cond.selects "GuardNetsModel" ({ cls := "GuardNetsModel", name := "stopped", desc := "(I)I" } : Jvm.MethodName) ({ cls := "GuardNetsModel", name := "stopped", desc := "(I)I" } : Jvm.MethodName)) ∈ wsAll := wA_mem 100 (by decide +kernel) rfl
theorem kw_101 : (Jvm.Cond.selects "GuardNetsModel" ({ cls := "GuardNetsModel", name := "wages", desc := "(I)I" } : Jvm.MethodName) ({ cls := "GuardNetsModel", name := "wages", desc := "(I)I" } : Jvm.MethodName)) ∈ wsAll := wA_mem 101 (by decide +kernel) rfl
theorem kw_102 : (Jvm.Cond.selects "GuardNetsModel" ({ cls := "GuardNetsModel", name := "findFront", desc := "()V" } : Jvm.MethodName) ({ cls := "GuardNetsModel", name := "findFront", desc := "()V" } : Jvm.MethodName)) ∈ wsAll := wA_mem 102 (by decide +kernel) rfl
theorem kw_103 : (Jvm.Cond.selects "GuardNetsModel" ({ cls := "GuardNetsModel", name := "plays", desc := "()V" } : Jvm.MethodName) ({ cls := "GuardNetsModel", name := "plays", desc := "()V" } : Jvm.MethodName)) ∈ wsAll := wA_mem 103 (by decide +kernel) rfl
theorem kw_104 : (Jvm.Cond.selects "GuardNetsModel" ({ cls := "GuardNetsModel", name := "greatest", desc := "(II)I" } : Jvm.MethodName) ({ cls := "GuardNetsModel", name := "greatest", desc := "(II)I" } : Jvm.MethodName)) ∈ wsAll := wA_mem 104 (by decide +kernel) rfl
theorem kw_105 : (Jvm.Cond.selects "GuardNetsModel" ({ cls := "GuardNetsModel", name := "setsCell", desc := "(III)V" } : Jvm.MethodName) ({ cls := "GuardNetsModel", name := "setsCell", desc := "(III)V" } : Jvm.MethodName)) ∈ wsAll := wA_mem 105 (by decide +kernel) rfl
theorem kw_106 : (Jvm.Cond.selects "GuardNetsModel" ({ cls := "GuardNetsModel", name := "cell", desc := "(II)I" } : Jvm.MethodName) ({ cls := "GuardNetsModel", name := "cell", desc := "(II)I" } : Jvm.MethodName)) ∈ wsAll := wA_mem 106 (by decide +kernel) rfl
theorem kw_107 : (Jvm.Cond.selects "GuardNetsModel" ({ cls := "GuardNetsModel", name := "rowOf", desc := "(II)I" } : Jvm.MethodName) ({ cls := "GuardNetsModel", name := "rowOf", desc := "(II)I" } : Jvm.MethodName)) ∈ wsAll := wA_mem 107 (by decide +kernel) rfl
theorem kw_108 : (Jvm.Cond.selects "GuardNetsModel" ({ cls := "GuardNetsModel", name := "multiplies", desc := "(III)V" } : Jvm.MethodName) ({ cls := "GuardNetsModel", name := "multiplies", desc := "(III)V" } : Jvm.MethodName)) ∈ wsAll := wA_mem 108 (by decide +kernel) rfl
theorem kw_109 : (Jvm.Cond.selects "GuardNetsModel" ({ cls := "GuardNetsModel", name := "turns", desc := "(III)V" } : Jvm.MethodName) ({ cls := "GuardNetsModel", name := "turns", desc := "(III)V" } : Jvm.MethodName)) ∈ wsAll := wA_mem 109 (by decide +kernel) rfl
theorem kw_110 : (Jvm.Cond.selects "GuardNetsModel" ({ cls := "GuardNetsModel", name := "turnsCell", desc := "(IIIII)V" } : Jvm.MethodName) ({ cls := "GuardNetsModel", name := "turnsCell", desc := "(IIIII)V" } : Jvm.MethodName)) ∈ wsAll := wA_mem 110 (by decide +kernel) rfl
theorem kw_111 : (Jvm.Cond.selects "GuardNetsModel" ({ cls := "GuardNetsModel", name := "given", desc := "(I)I" } : Jvm.MethodName) ({ cls := "GuardNetsModel", name := "given", desc := "(I)I" } : Jvm.MethodName)) ∈ wsAll := wA_mem 111 (by decide +kernel) rfl
theorem kw_112 : (Jvm.Cond.selects "GuardNetsModel" ({ cls := "GuardNetsModel", name := "cheapest", desc := "(I)I" } : Jvm.MethodName) ({ cls := "GuardNetsModel", name := "cheapest", desc := "(I)I" } : Jvm.MethodName)) ∈ wsAll := wA_mem 112 (by decide +kernel) rfl
theorem kw_113 : (Jvm.Cond.selects "GuardNetsModel" ({ cls := "GuardNetsModel", name := "mayBe", desc := "(II)I" } : Jvm.MethodName) ({ cls := "GuardNetsModel", name := "mayBe", desc := "(II)I" } : Jvm.MethodName)) ∈ wsAll := wA_mem 113 (by decide +kernel) rfl
theorem kw_114 : (Jvm.Cond.selects "GuardNetsModel" ({ cls := "GuardNetsModel", name := "marksOf", desc := "(I)I" } : Jvm.MethodName) ({ cls := "GuardNetsModel", name := "marksOf", desc := "(I)I" } : Jvm.MethodName)) ∈ wsAll := wA_mem 114 (by decide +kernel) rfl
theorem kw_115 : (Jvm.Cond.selects "GuardNetsModel" ({ cls := "GuardNetsModel", name := "reachedOf", desc := "(II)I" } : Jvm.MethodName) ({ cls := "GuardNetsModel", name := "reachedOf", desc := "(II)I" } : Jvm.MethodName)) ∈ wsAll := wA_mem 115 (by decide +kernel) rfl
theorem kw_116 : (Jvm.Cond.selects "GuardNetsModel" ({ cls := "GuardNetsModel", name := "standing", desc := "(II)I" } : Jvm.MethodName) ({ cls := "GuardNetsModel", name := "standing", desc := "(II)I" } : Jvm.MethodName)) ∈ wsAll := wA_mem 116 (by decide +kernel) rfl
theorem kw_117 : (Jvm.Cond.selects "GuardNetsModel" ({ cls := "GuardNetsModel", name := "beginsAt", desc := "(II)I" } : Jvm.MethodName) ({ cls := "GuardNetsModel", name := "beginsAt", desc := "(II)I" } : Jvm.MethodName)) ∈ wsAll := wA_mem 117 (by decide +kernel) rfl
theorem kw_118 : (Jvm.Cond.selects "GuardNetsModel" ({ cls := "GuardNetsModel", name := "findOrder", desc := "(II)V" } : Jvm.MethodName) ({ cls := "GuardNetsModel", name := "findOrder", desc := "(II)V" } : Jvm.MethodName)) ∈ wsAll := wA_mem 118 (by decide +kernel) rfl
theorem kw_119 : (Jvm.Cond.selects "GuardNetsModel" ({ cls := "GuardNetsModel", name := "endOf", desc := "(II)I" } : Jvm.MethodName) ({ cls := "GuardNetsModel", name := "endOf", desc := "(II)I" } : Jvm.MethodName)) ∈ wsAll := wA_mem 119 (by decide +kernel) rfl
theorem kw_120 : (Jvm.Cond.selects "GuardNetsModel" ({ cls := "GuardNetsModel", name := "next", desc := "(I)Z" } : Jvm.MethodName) ({ cls := "GuardNetsModel", name := "next", desc := "(I)Z" } : Jvm.MethodName)) ∈ wsAll := wA_mem 120 (by decide +kernel) rfl
set_option maxRecDepth 100000 in
theorem kw_135 : (Jvm.Cond.initialized "GuardNetsModel") ∈ wsAll := wT_1 14 rfl rfl
set_option maxRecDepth 100000 in
theorem kw_1497 : (Jvm.Cond.constant "GuardNetsModel" (101 : Nat) (65536 : Int32)) ∈ wsAll := wT_6 176 rfl rfl
set_option maxRecDepth 100000 in
theorem kw_1498 : (Jvm.Cond.constant "GuardNetsModel" (114 : Nat) (32768 : Int32)) ∈ wsAll := wT_6 177 rfl rfl
set_option maxRecDepth 100000 in
theorem kw_1499 : (Jvm.Cond.methodLink "GuardNetsModel" (175 : Nat) ({ cls := "GuardNetsModel", name := "puts", desc := "(II)V" } : Jvm.MethodName)) ∈ wsAll := wT_6 178 rfl rfl
set_option maxRecDepth 100000 in
theorem kw_1501 : (Jvm.Cond.instanceMethod ({ cls := "GuardNetsModel", name := "puts", desc := "(II)V" } : Jvm.MethodName)) ∈ wsAll := wT_6 180 rfl rfl
set_option maxRecDepth 100000 in
theorem kw_1502 : (Jvm.Cond.code ({ cls := "GuardNetsModel", name := "puts", desc := "(II)V" } : Jvm.MethodName) prog_14_method_51_code (4 : Nat) (Option.none : Option Jvm.ClassFile.FieldType)) ∈ wsAll := wT_6 181 rfl rfl
set_option maxRecDepth 100000 in
theorem kw_1503 : (Jvm.Cond.fieldLink "GuardNetsModel" (7 : Nat) "GuardNetsModel" "price" "[I") ∈ wsAll := wT_6 182 rfl rfl
set_option maxRecDepth 100000 in
theorem kw_1504 : (Jvm.Cond.fieldLink "GuardNetsModel" (13 : Nat) "GuardNetsModel" "time" "[I") ∈ wsAll := wT_6 183 rfl rfl
set_option maxRecDepth 100000 in
theorem kw_1505 : (Jvm.Cond.fieldLink "GuardNetsModel" (16 : Nat) "GuardNetsModel" "chanceOf" "[I") ∈ wsAll := wT_6 184 rfl rfl
set_option maxRecDepth 100000 in
theorem kw_1506 : (Jvm.Cond.fieldLink "GuardNetsModel" (19 : Nat) "GuardNetsModel" "marks" "[I") ∈ wsAll := wT_6 185 rfl rfl
set_option maxRecDepth 100000 in
theorem kw_1507 : (Jvm.Cond.fieldLink "GuardNetsModel" (22 : Nat) "GuardNetsModel" "place" "[I") ∈ wsAll := wT_6 186 rfl rfl
set_option maxRecDepth 100000 in
theorem kw_1508 : (Jvm.Cond.fieldLink "GuardNetsModel" (191 : Nat) "GuardNetsModel" "letters" "I") ∈ wsAll := wT_6 187 rfl rfl
set_option maxRecDepth 100000 in
theorem kw_1509 : (Jvm.Cond.fieldLink "GuardNetsModel" (25 : Nat) "GuardNetsModel" "text" "[I") ∈ wsAll := wT_6 188 rfl rfl
set_option maxRecDepth 100000 in
theorem kw_1510 : (Jvm.Cond.fieldLink "GuardNetsModel" (194 : Nat) "GuardNetsModel" "knots" "I") ∈ wsAll := wT_6 189 rfl rfl
set_option maxRecDepth 100000 in
theorem kw_1511 : (Jvm.Cond.fieldLink "GuardNetsModel" (28 : Nat) "GuardNetsModel" "sort" "[I") ∈ wsAll := wT_6 190 rfl rfl
set_option maxRecDepth 100000 in
theorem kw_1512 : (Jvm.Cond.fieldLink "GuardNetsModel" (31 : Nat) "GuardNetsModel" "least" "[I") ∈ wsAll := wT_6 191 rfl rfl
set_option maxRecDepth 100000 in
theorem kw_1513 : (Jvm.Cond.fieldLink "GuardNetsModel" (34 : Nat) "GuardNetsModel" "stepOfKnot" "[I") ∈ wsAll := wT_6 192 rfl rfl
set_option maxRecDepth 100000 in
theorem kw_1514 : (Jvm.Cond.fieldLink "GuardNetsModel" (37 : Nat) "GuardNetsModel" "partFrom" "[I") ∈ wsAll := wT_6 193 rfl rfl
set_option maxRecDepth 100000 in
theorem kw_1515 : (Jvm.Cond.fieldLink "GuardNetsModel" (40 : Nat) "GuardNetsModel" "partMany" "[I") ∈ wsAll := wT_6 194 rfl rfl
set_option maxRecDepth 100000 in
theorem kw_1516 : (Jvm.Cond.fieldLink "GuardNetsModel" (197 : Nat) "GuardNetsModel" "parts" "I") ∈ wsAll := wT_6 195 rfl rfl
set_option maxRecDepth 100000 in
theorem kw_1517 : (Jvm.Cond.fieldLink "GuardNetsModel" (43 : Nat) "GuardNetsModel" "part" "[I") ∈ wsAll := wT_6 196 rfl rfl
set_option maxRecDepth 100000 in
theorem kw_1518 : (Jvm.Cond.fieldLink "GuardNetsModel" (46 : Nat) "GuardNetsModel" "has" "[I") ∈ wsAll := wT_6 197 rfl rfl
set_option maxRecDepth 100000 in
theorem kw_1519 : (Jvm.Cond.fieldLink "GuardNetsModel" (49 : Nat) "GuardNetsModel" "net" "[I") ∈ wsAll := wT_6 198 rfl rfl
set_option maxRecDepth 100000 in
theorem kw_1520 : (Jvm.Cond.fieldLink "GuardNetsModel" (53 : Nat) "GuardNetsModel" "reach" "[J") ∈ wsAll := wT_6 199 rfl rfl
set_option maxRecDepth 100000 in
theorem kw_1521 : (Jvm.Cond.fieldLink "GuardNetsModel" (57 : Nat) "GuardNetsModel" "wayMany" "[I") ∈ wsAll := wT_6 200 rfl rfl
set_option maxRecDepth 100000 in
theorem kw_1522 : (Jvm.Cond.fieldLink "GuardNetsModel" (200 : Nat) "GuardNetsModel" "level" "I") ∈ wsAll := wT_6 201 rfl rfl
set_option maxRecDepth 100000 in
theorem kw_1523 : (Jvm.Cond.fieldLink "GuardNetsModel" (60 : Nat) "GuardNetsModel" "rowMany" "[I") ∈ wsAll := wT_6 202 rfl rfl
set_option maxRecDepth 100000 in
theorem kw_1524 : (Jvm.Cond.fieldLink "GuardNetsModel" (63 : Nat) "GuardNetsModel" "row" "[I") ∈ wsAll := wT_6 203 rfl rfl
set_option maxRecDepth 100000 in
theorem kw_1525 : (Jvm.Cond.fieldLink "GuardNetsModel" (66 : Nat) "GuardNetsModel" "openAt" "[I") ∈ wsAll := wT_6 204 rfl rfl
set_option maxRecDepth 100000 in
theorem kw_1526 : (Jvm.Cond.fieldLink "GuardNetsModel" (69 : Nat) "GuardNetsModel" "digitAt" "[I") ∈ wsAll := wT_6 205 rfl rfl
set_option maxRecDepth 100000 in
theorem kw_1527 : (Jvm.Cond.fieldLink "GuardNetsModel" (72 : Nat) "GuardNetsModel" "isSquare" "[Z") ∈ wsAll := wT_6 206 rfl rfl
set_option maxRecDepth 100000 in
theorem kw_1528 : (Jvm.Cond.fieldLink "GuardNetsModel" (226 : Nat) "GuardNetsModel" "faultAt" "I") ∈ wsAll := wT_6 207 rfl rfl
set_option maxRecDepth 100000 in
theorem kw_1529 : (Jvm.Cond.fieldLink "GuardNetsModel" (246 : Nat) "GuardNetsModel" "top" "I") ∈ wsAll := wT_6 208 rfl rfl
set_option maxRecDepth 100000 in
theorem kw_1530 : (Jvm.Cond.fieldLink "GuardNetsModel" (76 : Nat) "GuardNetsModel" "count" "[J") ∈ wsAll := wT_6 209 rfl rfl
set_option maxRecDepth 100000 in
theorem kw_1531 : (Jvm.Cond.fieldLink "GuardNetsModel" (79 : Nat) "GuardNetsModel" "lesser" "[J") ∈ wsAll := wT_6 210 rfl rfl
set_option maxRecDepth 100000 in
theorem kw_1532 : (Jvm.Cond.fieldLink "GuardNetsModel" (82 : Nat) "GuardNetsModel" "isOf" "[Z") ∈ wsAll := wT_6 211 rfl rfl
set_option maxRecDepth 100000 in
theorem kw_1533 : (Jvm.Cond.fieldLink "GuardNetsModel" (85 : Nat) "GuardNetsModel" "way" "[I") ∈ wsAll := wT_6 212 rfl rfl
set_option maxRecDepth 100000 in
theorem kw_1534 : (Jvm.Cond.fieldLink "GuardNetsModel" (292 : Nat) "GuardNetsModel" "ways" "I") ∈ wsAll := wT_6 213 rfl rfl
set_option maxRecDepth 100000 in
theorem kw_1535 : (Jvm.Cond.fieldLink "GuardNetsModel" (88 : Nat) "GuardNetsModel" "lasts" "[I") ∈ wsAll := wT_6 214 rfl rfl
set_option maxRecDepth 100000 in
theorem kw_1536 : (Jvm.Cond.fieldLink "GuardNetsModel" (91 : Nat) "GuardNetsModel" "held" "[I") ∈ wsAll := wT_6 215 rfl rfl
set_option maxRecDepth 100000 in
theorem kw_1537 : (Jvm.Cond.fieldLink "GuardNetsModel" (94 : Nat) "GuardNetsModel" "big" "[I") ∈ wsAll := wT_6 216 rfl rfl
set_option maxRecDepth 100000 in
theorem kw_1538 : (Jvm.Cond.fieldLink "GuardNetsModel" (97 : Nat) "GuardNetsModel" "diagramOf" "I") ∈ wsAll := wT_6 217 rfl rfl
set_option maxRecDepth 100000 in
theorem kw_1539 : (Jvm.Cond.fieldLink "GuardNetsModel" (354 : Nat) "GuardNetsModel" "nodes" "I") ∈ wsAll := wT_6 218 rfl rfl
set_option maxRecDepth 100000 in
theorem kw_1540 : (Jvm.Cond.fieldLink "GuardNetsModel" (360 : Nat) "GuardNetsModel" "root" "I") ∈ wsAll := wT_6 219 rfl rfl
set_option maxRecDepth 100000 in
theorem kw_1541 : (Jvm.Cond.fieldLink "GuardNetsModel" (102 : Nat) "GuardNetsModel" "id" "[I") ∈ wsAll := wT_6 220 rfl rfl
set_option maxRecDepth 100000 in
theorem kw_1542 : (Jvm.Cond.fieldLink "GuardNetsModel" (105 : Nat) "GuardNetsModel" "nodeLevel" "[I") ∈ wsAll := wT_6 221 rfl rfl
set_option maxRecDepth 100000 in
theorem kw_1543 : (Jvm.Cond.fieldLink "GuardNetsModel" (108 : Nat) "GuardNetsModel" "nodeLow" "[I") ∈ wsAll := wT_6 222 rfl rfl
set_option maxRecDepth 100000 in
theorem kw_1544 : (Jvm.Cond.fieldLink "GuardNetsModel" (111 : Nat) "GuardNetsModel" "nodeHigh" "[I") ∈ wsAll := wT_6 223 rfl rfl
set_option maxRecDepth 100000 in
theorem kw_1545 : (Jvm.Cond.fieldLink "GuardNetsModel" (115 : Nat) "GuardNetsModel" "tabled" "[I") ∈ wsAll := wT_6 224 rfl rfl
set_option maxRecDepth 100000 in
theorem kw_1546 : (Jvm.Cond.fieldLink "GuardNetsModel" (118 : Nat) "GuardNetsModel" "use" "[I") ∈ wsAll := wT_6 225 rfl rfl
set_option maxRecDepth 100000 in
theorem kw_1547 : (Jvm.Cond.fieldLink "GuardNetsModel" (121 : Nat) "GuardNetsModel" "letterOf" "[I") ∈ wsAll := wT_6 226 rfl rfl
set_option maxRecDepth 100000 in
theorem kw_1548 : (Jvm.Cond.fieldLink "GuardNetsModel" (390 : Nat) "GuardNetsModel" "guards" "I") ∈ wsAll := wT_6 227 rfl rfl
set_option maxRecDepth 100000 in
theorem kw_1549 : (Jvm.Cond.fieldLink "GuardNetsModel" (124 : Nat) "GuardNetsModel" "stops" "[I") ∈ wsAll := wT_6 228 rfl rfl
set_option maxRecDepth 100000 in
theorem kw_1550 : (Jvm.Cond.fieldLink "GuardNetsModel" (127 : Nat) "GuardNetsModel" "wage" "[I") ∈ wsAll := wT_6 229 rfl rfl
set_option maxRecDepth 100000 in
theorem kw_1551 : (Jvm.Cond.fieldLink "GuardNetsModel" (402 : Nat) "GuardNetsModel" "fronts" "I") ∈ wsAll := wT_6 230 rfl rfl
set_option maxRecDepth 100000 in
theorem kw_1552 : (Jvm.Cond.fieldLink "GuardNetsModel" (130 : Nat) "GuardNetsModel" "front" "[I") ∈ wsAll := wT_6 231 rfl rfl
set_option maxRecDepth 100000 in
theorem kw_1553 : (Jvm.Cond.fieldLink "GuardNetsModel" (408 : Nat) "GuardNetsModel" "patrols" "I") ∈ wsAll := wT_6 232 rfl rfl
set_option maxRecDepth 100000 in
theorem kw_1554 : (Jvm.Cond.fieldLink "GuardNetsModel" (133 : Nat) "GuardNetsModel" "caught" "[I") ∈ wsAll := wT_6 233 rfl rfl
set_option maxRecDepth 100000 in
theorem kw_1555 : (Jvm.Cond.fieldLink "GuardNetsModel" (136 : Nat) "GuardNetsModel" "isMinus" "[Z") ∈ wsAll := wT_6 234 rfl rfl
set_option maxRecDepth 100000 in
theorem kw_1556 : (Jvm.Cond.fieldLink "GuardNetsModel" (139 : Nat) "GuardNetsModel" "base" "[I") ∈ wsAll := wT_6 235 rfl rfl
set_option maxRecDepth 100000 in
theorem kw_1557 : (Jvm.Cond.fieldLink "GuardNetsModel" (436 : Nat) "GuardNetsModel" "insiders" "I") ∈ wsAll := wT_6 236 rfl rfl
set_option maxRecDepth 100000 in
theorem kw_1558 : (Jvm.Cond.fieldLink "GuardNetsModel" (142 : Nat) "GuardNetsModel" "gives" "[I") ∈ wsAll := wT_6 237 rfl rfl
set_option maxRecDepth 100000 in
theorem kw_1559 : (Jvm.Cond.fieldLink "GuardNetsModel" (454 : Nat) "GuardNetsModel" "events" "I") ∈ wsAll := wT_6 238 rfl rfl
set_option maxRecDepth 100000 in
theorem kw_1560 : (Jvm.Cond.fieldLink "GuardNetsModel" (145 : Nat) "GuardNetsModel" "eventStep" "[I") ∈ wsAll := wT_6 239 rfl rfl
set_option maxRecDepth 100000 in
theorem kw_1561 : (Jvm.Cond.fieldLink "GuardNetsModel" (148 : Nat) "GuardNetsModel" "eventAt" "[I") ∈ wsAll := wT_7 0 rfl rfl
set_option maxRecDepth 100000 in
theorem kw_1562 : (Jvm.Cond.fieldLink "GuardNetsModel" (151 : Nat) "GuardNetsModel" "reachedAt" "[I") ∈ wsAll := wT_7 1 rfl rfl
set_option maxRecDepth 100000 in
theorem kw_1563 : (Jvm.Cond.fieldLink "GuardNetsModel" (154 : Nat) "GuardNetsModel" "walks" "[I") ∈ wsAll := wT_7 2 rfl rfl
set_option maxRecDepth 100000 in
theorem kw_1564 : (Jvm.Cond.fieldLink "GuardNetsModel" (157 : Nat) "GuardNetsModel" "walked" "[I") ∈ wsAll := wT_7 3 rfl rfl
set_option maxRecDepth 100000 in
theorem kw_1565 : (Jvm.Cond.fieldLink "GuardNetsModel" (160 : Nat) "GuardNetsModel" "doneBy" "[I") ∈ wsAll := wT_7 4 rfl rfl
set_option maxRecDepth 100000 in
theorem kw_1566 : (Jvm.Cond.fieldLink "GuardNetsModel" (163 : Nat) "GuardNetsModel" "order" "[I") ∈ wsAll := wT_7 5 rfl rfl
set_option maxRecDepth 100000 in
theorem kw_1567 : (Jvm.Cond.fieldLink "GuardNetsModel" (166 : Nat) "GuardNetsModel" "bestOrder" "[I") ∈ wsAll := wT_7 6 rfl rfl
set_option maxRecDepth 100000 in
theorem kw_1568 : (Jvm.Cond.fieldLink "GuardNetsModel" (466 : Nat) "GuardNetsModel" "bestEnd" "I") ∈ wsAll := wT_7 7 rfl rfl
set_option maxRecDepth 100000 in
theorem kw_1569 : (Jvm.Cond.fieldLink "GuardNetsModel" (169 : Nat) "GuardNetsModel" "isKept" "[Z") ∈ wsAll := wT_7 8 rfl rfl
set_option maxRecDepth 100000 in
theorem kw_1570 : (Jvm.Cond.fieldLink "GuardNetsModel" (172 : Nat) "GuardNetsModel" "kept" "[I") ∈ wsAll := wT_7 9 rfl rfl
set_option maxRecDepth 100000 in
theorem kw_1571 : (Jvm.Cond.laysFinal "GuardNetsModel" "GuardNetsModel" "price" "[I") ∈ wsAll := wT_7 10 rfl rfl
set_option maxRecDepth 100000 in
theorem kw_1573 : (Jvm.Cond.laysFinal "GuardNetsModel" "GuardNetsModel" "time" "[I") ∈ wsAll := wT_7 12 rfl rfl
set_option maxRecDepth 100000 in
theorem kw_1575 : (Jvm.Cond.laysFinal "GuardNetsModel" "GuardNetsModel" "chanceOf" "[I") ∈ wsAll := wT_7 14 rfl rfl
set_option maxRecDepth 100000 in
theorem kw_1577 : (Jvm.Cond.laysFinal "GuardNetsModel" "GuardNetsModel" "marks" "[I") ∈ wsAll := wT_7 16 rfl rfl
set_option maxRecDepth 100000 in
theorem kw_1579 : (Jvm.Cond.laysFinal "GuardNetsModel" "GuardNetsModel" "place" "[I") ∈ wsAll := wT_7 18 rfl rfl
set_option maxRecDepth 100000 in
theorem kw_1581 : (Jvm.Cond.lays "GuardNetsModel" "GuardNetsModel" "letters" "I") ∈ wsAll := wT_7 20 rfl rfl
set_option maxRecDepth 100000 in
theorem kw_1583 : (Jvm.Cond.laysFinal "GuardNetsModel" "GuardNetsModel" "text" "[I") ∈ wsAll := wT_7 22 rfl rfl
set_option maxRecDepth 100000 in
theorem kw_1585 : (Jvm.Cond.lays "GuardNetsModel" "GuardNetsModel" "knots" "I") ∈ wsAll := wT_7 24 rfl rfl
set_option maxRecDepth 100000 in
theorem kw_1587 : (Jvm.Cond.laysFinal "GuardNetsModel" "GuardNetsModel" "sort" "[I") ∈ wsAll := wT_7 26 rfl rfl
set_option maxRecDepth 100000 in
theorem kw_1589 : (Jvm.Cond.laysFinal "GuardNetsModel" "GuardNetsModel" "least" "[I") ∈ wsAll := wT_7 28 rfl rfl
set_option maxRecDepth 100000 in
theorem kw_1591 : (Jvm.Cond.laysFinal "GuardNetsModel" "GuardNetsModel" "stepOfKnot" "[I") ∈ wsAll := wT_7 30 rfl rfl
set_option maxRecDepth 100000 in
theorem kw_1593 : (Jvm.Cond.laysFinal "GuardNetsModel" "GuardNetsModel" "partFrom" "[I") ∈ wsAll := wT_7 32 rfl rfl
set_option maxRecDepth 100000 in
theorem kw_1595 : (Jvm.Cond.laysFinal "GuardNetsModel" "GuardNetsModel" "partMany" "[I") ∈ wsAll := wT_7 34 rfl rfl
set_option maxRecDepth 100000 in
theorem kw_1597 : (Jvm.Cond.lays "GuardNetsModel" "GuardNetsModel" "parts" "I") ∈ wsAll := wT_7 36 rfl rfl
set_option maxRecDepth 100000 in
theorem kw_1599 : (Jvm.Cond.laysFinal "GuardNetsModel" "GuardNetsModel" "part" "[I") ∈ wsAll := wT_7 38 rfl rfl
set_option maxRecDepth 100000 in
theorem kw_1601 : (Jvm.Cond.laysFinal "GuardNetsModel" "GuardNetsModel" "has" "[I") ∈ wsAll := wT_7 40 rfl rfl
set_option maxRecDepth 100000 in
theorem kw_1603 : (Jvm.Cond.laysFinal "GuardNetsModel" "GuardNetsModel" "net" "[I") ∈ wsAll := wT_7 42 rfl rfl
set_option maxRecDepth 100000 in
theorem kw_1605 : (Jvm.Cond.laysFinal "GuardNetsModel" "GuardNetsModel" "reach" "[J") ∈ wsAll := wT_7 44 rfl rfl
set_option maxRecDepth 100000 in
theorem kw_1607 : (Jvm.Cond.laysFinal "GuardNetsModel" "GuardNetsModel" "wayMany" "[I") ∈ wsAll := wT_7 46 rfl rfl
set_option maxRecDepth 100000 in
theorem kw_1609 : (Jvm.Cond.lays "GuardNetsModel" "GuardNetsModel" "level" "I") ∈ wsAll := wT_7 48 rfl rfl
set_option maxRecDepth 100000 in
theorem kw_1611 : (Jvm.Cond.laysFinal "GuardNetsModel" "GuardNetsModel" "rowMany" "[I") ∈ wsAll := wT_7 50 rfl rfl
set_option maxRecDepth 100000 in
theorem kw_1613 : (Jvm.Cond.laysFinal "GuardNetsModel" "GuardNetsModel" "row" "[I") ∈ wsAll := wT_7 52 rfl rfl
set_option maxRecDepth 100000 in
theorem kw_1615 : (Jvm.Cond.laysFinal "GuardNetsModel" "GuardNetsModel" "openAt" "[I") ∈ wsAll := wT_7 54 rfl rfl
set_option maxRecDepth 100000 in
theorem kw_1617 : (Jvm.Cond.laysFinal "GuardNetsModel" "GuardNetsModel" "digitAt" "[I") ∈ wsAll := wT_7 56 rfl rfl
set_option maxRecDepth 100000 in
theorem kw_1619 : (Jvm.Cond.laysFinal "GuardNetsModel" "GuardNetsModel" "isSquare" "[Z") ∈ wsAll := wT_7 58 rfl rfl
set_option maxRecDepth 100000 in
theorem kw_1621 : (Jvm.Cond.lays "GuardNetsModel" "GuardNetsModel" "faultAt" "I") ∈ wsAll := wT_7 60 rfl rfl
set_option maxRecDepth 100000 in
theorem kw_1623 : (Jvm.Cond.lays "GuardNetsModel" "GuardNetsModel" "top" "I") ∈ wsAll := wT_7 62 rfl rfl
set_option maxRecDepth 100000 in
theorem kw_1625 : (Jvm.Cond.laysFinal "GuardNetsModel" "GuardNetsModel" "count" "[J") ∈ wsAll := wT_7 64 rfl rfl
set_option maxRecDepth 100000 in
theorem kw_1627 : (Jvm.Cond.laysFinal "GuardNetsModel" "GuardNetsModel" "lesser" "[J") ∈ wsAll := wT_7 66 rfl rfl
set_option maxRecDepth 100000 in
theorem kw_1629 : (Jvm.Cond.laysFinal "GuardNetsModel" "GuardNetsModel" "isOf" "[Z") ∈ wsAll := wT_7 68 rfl rfl
set_option maxRecDepth 100000 in
theorem kw_1631 : (Jvm.Cond.laysFinal "GuardNetsModel" "GuardNetsModel" "way" "[I") ∈ wsAll := wT_7 70 rfl rfl
set_option maxRecDepth 100000 in
theorem kw_1633 : (Jvm.Cond.lays "GuardNetsModel" "GuardNetsModel" "ways" "I") ∈ wsAll := wT_7 72 rfl rfl
set_option maxRecDepth 100000 in
theorem kw_1635 : (Jvm.Cond.laysFinal "GuardNetsModel" "GuardNetsModel" "lasts" "[I") ∈ wsAll := wT_7 74 rfl rfl
set_option maxRecDepth 100000 in
theorem kw_1637 : (Jvm.Cond.laysFinal "GuardNetsModel" "GuardNetsModel" "held" "[I") ∈ wsAll := wT_7 76 rfl rfl
set_option maxRecDepth 100000 in
theorem kw_1639 : (Jvm.Cond.laysFinal "GuardNetsModel" "GuardNetsModel" "big" "[I") ∈ wsAll := wT_7 78 rfl rfl
set_option maxRecDepth 100000 in
theorem kw_1641 : (Jvm.Cond.lays "GuardNetsModel" "GuardNetsModel" "diagramOf" "I") ∈ wsAll := wT_7 80 rfl rfl
set_option maxRecDepth 100000 in
theorem kw_1643 : (Jvm.Cond.lays "GuardNetsModel" "GuardNetsModel" "nodes" "I") ∈ wsAll := wT_7 82 rfl rfl
set_option maxRecDepth 100000 in
theorem kw_1645 : (Jvm.Cond.lays "GuardNetsModel" "GuardNetsModel" "root" "I") ∈ wsAll := wT_7 84 rfl rfl
set_option maxRecDepth 100000 in
theorem kw_1647 : (Jvm.Cond.laysFinal "GuardNetsModel" "GuardNetsModel" "id" "[I") ∈ wsAll := wT_7 86 rfl rfl
set_option maxRecDepth 100000 in
theorem kw_1649 : (Jvm.Cond.laysFinal "GuardNetsModel" "GuardNetsModel" "nodeLevel" "[I") ∈ wsAll := wT_7 88 rfl rfl
set_option maxRecDepth 100000 in
theorem kw_1651 : (Jvm.Cond.laysFinal "GuardNetsModel" "GuardNetsModel" "nodeLow" "[I") ∈ wsAll := wT_7 90 rfl rfl
set_option maxRecDepth 100000 in
theorem kw_1653 : (Jvm.Cond.laysFinal "GuardNetsModel" "GuardNetsModel" "nodeHigh" "[I") ∈ wsAll := wT_7 92 rfl rfl
set_option maxRecDepth 100000 in
theorem kw_1655 : (Jvm.Cond.laysFinal "GuardNetsModel" "GuardNetsModel" "tabled" "[I") ∈ wsAll := wT_7 94 rfl rfl
set_option maxRecDepth 100000 in
theorem kw_1657 : (Jvm.Cond.laysFinal "GuardNetsModel" "GuardNetsModel" "use" "[I") ∈ wsAll := wT_7 96 rfl rfl
set_option maxRecDepth 100000 in
theorem kw_1659 : (Jvm.Cond.laysFinal "GuardNetsModel" "GuardNetsModel" "letterOf" "[I") ∈ wsAll := wT_7 98 rfl rfl
set_option maxRecDepth 100000 in
theorem kw_1661 : (Jvm.Cond.lays "GuardNetsModel" "GuardNetsModel" "guards" "I") ∈ wsAll := wT_7 100 rfl rfl
set_option maxRecDepth 100000 in
theorem kw_1663 : (Jvm.Cond.laysFinal "GuardNetsModel" "GuardNetsModel" "stops" "[I") ∈ wsAll := wT_7 102 rfl rfl
set_option maxRecDepth 100000 in
theorem kw_1665 : (Jvm.Cond.laysFinal "GuardNetsModel" "GuardNetsModel" "wage" "[I") ∈ wsAll := wT_7 104 rfl rfl
set_option maxRecDepth 100000 in
theorem kw_1667 : (Jvm.Cond.lays "GuardNetsModel" "GuardNetsModel" "fronts" "I") ∈ wsAll := wT_7 106 rfl rfl
set_option maxRecDepth 100000 in
theorem kw_1669 : (Jvm.Cond.laysFinal "GuardNetsModel" "GuardNetsModel" "front" "[I") ∈ wsAll := wT_7 108 rfl rfl
set_option maxRecDepth 100000 in
theorem kw_1671 : (Jvm.Cond.lays "GuardNetsModel" "GuardNetsModel" "patrols" "I") ∈ wsAll := wT_7 110 rfl rfl
set_option maxRecDepth 100000 in
theorem kw_1673 : (Jvm.Cond.laysFinal "GuardNetsModel" "GuardNetsModel" "caught" "[I") ∈ wsAll := wT_7 112 rfl rfl
set_option maxRecDepth 100000 in
theorem kw_1675 : (Jvm.Cond.laysFinal "GuardNetsModel" "GuardNetsModel" "isMinus" "[Z") ∈ wsAll := wT_7 114 rfl rfl
set_option maxRecDepth 100000 in
theorem kw_1677 : (Jvm.Cond.laysFinal "GuardNetsModel" "GuardNetsModel" "base" "[I") ∈ wsAll := wT_7 116 rfl rfl
set_option maxRecDepth 100000 in
theorem kw_1679 : (Jvm.Cond.lays "GuardNetsModel" "GuardNetsModel" "insiders" "I") ∈ wsAll := wT_7 118 rfl rfl
set_option maxRecDepth 100000 in
theorem kw_1681 : (Jvm.Cond.laysFinal "GuardNetsModel" "GuardNetsModel" "gives" "[I") ∈ wsAll := wT_7 120 rfl rfl
set_option maxRecDepth 100000 in
theorem kw_1683 : (Jvm.Cond.lays "GuardNetsModel" "GuardNetsModel" "events" "I") ∈ wsAll := wT_7 122 rfl rfl
set_option maxRecDepth 100000 in
theorem kw_1685 : (Jvm.Cond.laysFinal "GuardNetsModel" "GuardNetsModel" "eventStep" "[I") ∈ wsAll := wT_7 124 rfl rfl
set_option maxRecDepth 100000 in
theorem kw_1687 : (Jvm.Cond.laysFinal "GuardNetsModel" "GuardNetsModel" "eventAt" "[I") ∈ wsAll := wT_7 126 rfl rfl
set_option maxRecDepth 100000 in
theorem kw_1689 : (Jvm.Cond.laysFinal "GuardNetsModel" "GuardNetsModel" "reachedAt" "[I") ∈ wsAll := wT_7 128 rfl rfl
set_option maxRecDepth 100000 in
theorem kw_1691 : (Jvm.Cond.laysFinal "GuardNetsModel" "GuardNetsModel" "walks" "[I") ∈ wsAll := wT_7 130 rfl rfl
set_option maxRecDepth 100000 in
theorem kw_1693 : (Jvm.Cond.laysFinal "GuardNetsModel" "GuardNetsModel" "walked" "[I") ∈ wsAll := wT_7 132 rfl rfl
set_option maxRecDepth 100000 in
theorem kw_1695 : (Jvm.Cond.laysFinal "GuardNetsModel" "GuardNetsModel" "doneBy" "[I") ∈ wsAll := wT_7 134 rfl rfl
set_option maxRecDepth 100000 in
theorem kw_1697 : (Jvm.Cond.laysFinal "GuardNetsModel" "GuardNetsModel" "order" "[I") ∈ wsAll := wT_7 136 rfl rfl
set_option maxRecDepth 100000 in
theorem kw_1699 : (Jvm.Cond.laysFinal "GuardNetsModel" "GuardNetsModel" "bestOrder" "[I") ∈ wsAll := wT_7 138 rfl rfl
set_option maxRecDepth 100000 in
theorem kw_1701 : (Jvm.Cond.lays "GuardNetsModel" "GuardNetsModel" "bestEnd" "I") ∈ wsAll := wT_7 140 rfl rfl
set_option maxRecDepth 100000 in
theorem kw_1703 : (Jvm.Cond.laysFinal "GuardNetsModel" "GuardNetsModel" "isKept" "[Z") ∈ wsAll := wT_7 142 rfl rfl
set_option maxRecDepth 100000 in
theorem kw_1705 : (Jvm.Cond.laysFinal "GuardNetsModel" "GuardNetsModel" "kept" "[I") ∈ wsAll := wT_7 144 rfl rfl
set_option maxRecDepth 100000 in
theorem kw_1712 : (Jvm.Cond.methodLink "GuardNetsModel" (183 : Nat) ({ cls := "GuardNetsModel", name := "isStep", desc := "(I)Z" } : Jvm.MethodName)) ∈ wsAll := wT_7 151 rfl rfl
set_option maxRecDepth 100000 in
theorem kw_1713 : (Jvm.Cond.static ({ cls := "GuardNetsModel", name := "isStep", desc := "(I)Z" } : Jvm.MethodName)) ∈ wsAll := wT_7 152 rfl rfl
set_option maxRecDepth 100000 in
theorem kw_1714 : (Jvm.Cond.code ({ cls := "GuardNetsModel", name := "isStep", desc := "(I)Z" } : Jvm.MethodName) prog_14_method_4_code (1 : Nat) (Option.some Jvm.ClassFile.FieldType.boolean)) ∈ wsAll := wT_7 153 rfl rfl
set_option maxRecDepth 100000 in
theorem kw_1715 : (Jvm.Cond.methodLink "GuardNetsModel" (179 : Nat) ({ cls := "GuardNetsModel", name := "in", desc := "(III)Z" } : Jvm.MethodName)) ∈ wsAll := wT_7 154 rfl rfl
set_option maxRecDepth 100000 in
theorem kw_1716 : (Jvm.Cond.static ({ cls := "GuardNetsModel", name := "in", desc := "(III)Z" } : Jvm.MethodName)) ∈ wsAll := wT_7 155 rfl rfl
set_option maxRecDepth 100000 in
theorem kw_1717 : (Jvm.Cond.code ({ cls := "GuardNetsModel", name := "in", desc := "(III)Z" } : Jvm.MethodName) prog_14_method_2_code (3 : Nat) (Option.some Jvm.ClassFile.FieldType.boolean)) ∈ wsAll := wT_7 156 rfl rfl
set_option maxRecDepth 100000 in
theorem kw_1726 : (Jvm.Cond.methodLink "GuardNetsModel" (187 : Nat) ({ cls := "GuardNetsModel", name := "stepOf", desc := "(II)I" } : Jvm.MethodName)) ∈ wsAll := wT_7 165 rfl rfl
set_option maxRecDepth 100000 in
theorem kw_1728 : (Jvm.Cond.instanceMethod ({ cls := "GuardNetsModel", name := "stepOf", desc := "(II)I" } : Jvm.MethodName)) ∈ wsAll := wT_7 167 rfl rfl
set_option maxRecDepth 100000 in
theorem kw_1729 : (Jvm.Cond.code ({ cls := "GuardNetsModel", name := "stepOf", desc := "(II)I" } : Jvm.MethodName) prog_14_method_7_code (3 : Nat) (Option.some Jvm.ClassFile.FieldType.int)) ∈ wsAll := wT_7 168 rfl rfl
set_option maxRecDepth 100000 in
theorem kw_1742 : (Jvm.Cond.methodLink "GuardNetsModel" (249 : Nat) ({ cls := "GuardNetsModel", name := "isNet", desc := "(I)Z" } : Jvm.MethodName)) ∈ wsAll := wT_7 181 rfl rfl
set_option maxRecDepth 100000 in
theorem kw_1743 : (Jvm.Cond.static ({ cls := "GuardNetsModel", name := "isNet", desc := "(I)Z" } : Jvm.MethodName)) ∈ wsAll := wT_7 182 rfl rfl
set_option maxRecDepth 100000 in
theorem kw_1744 : (Jvm.Cond.code ({ cls := "GuardNetsModel", name := "isNet", desc := "(I)Z" } : Jvm.MethodName) prog_14_method_24_code (1 : Nat) (Option.some Jvm.ClassFile.FieldType.boolean)) ∈ wsAll := wT_7 183 rfl rfl
set_option maxRecDepth 100000 in
theorem kw_1745 : (Jvm.Cond.methodLink "GuardNetsModel" (252 : Nat) ({ cls := "GuardNetsModel", name := "reads", desc := "()I" } : Jvm.MethodName)) ∈ wsAll := wT_7 184 rfl rfl
set_option maxRecDepth 100000 in
theorem kw_1747 : (Jvm.Cond.instanceMethod ({ cls := "GuardNetsModel", name := "reads", desc := "()I" } : Jvm.MethodName)) ∈ wsAll := wT_7 186 rfl rfl
set_option maxRecDepth 100000 in
theorem kw_1748 : (Jvm.Cond.code ({ cls := "GuardNetsModel", name := "reads", desc := "()I" } : Jvm.MethodName) prog_14_method_23_code (5 : Nat) (Option.some Jvm.ClassFile.FieldType.int)) ∈ wsAll := wT_7 187 rfl rfl
set_option maxRecDepth 100000 in
theorem kw_1749 : (Jvm.Cond.methodLink "GuardNetsModel" (222 : Nat) ({ cls := "GuardNetsModel", name := "opens", desc := "(Z)V" } : Jvm.MethodName)) ∈ wsAll := wT_7 188 rfl rfl
set_option maxRecDepth 100000 in
theorem kw_1751 : (Jvm.Cond.instanceMethod ({ cls := "GuardNetsModel", name := "opens", desc := "(Z)V" } : Jvm.MethodName)) ∈ wsAll := wT_7 190 rfl rfl
set_option maxRecDepth 100000 in
theorem kw_1752 : (Jvm.Cond.code ({ cls := "GuardNetsModel", name := "opens", desc := "(Z)V" } : Jvm.MethodName) prog_14_method_13_code (3 : Nat) (Option.none : Option Jvm.ClassFile.FieldType)) ∈ wsAll := wT_7 191 rfl rfl
set_option maxRecDepth 100000 in
theorem kw_1753 : (Jvm.Cond.methodLink "GuardNetsModel" (240 : Nat) ({ cls := "GuardNetsModel", name := "opensPart", desc := "(II)I" } : Jvm.MethodName)) ∈ wsAll := wT_7 192 rfl rfl
set_option maxRecDepth 100000 in
theorem kw_1755 : (Jvm.Cond.instanceMethod ({ cls := "GuardNetsModel", name := "opensPart", desc := "(II)I" } : Jvm.MethodName)) ∈ wsAll := wT_7 194 rfl rfl
set_option maxRecDepth 100000 in
theorem kw_1756 : (Jvm.Cond.code ({ cls := "GuardNetsModel", name := "opensPart", desc := "(II)I" } : Jvm.MethodName) prog_14_method_19_code (4 : Nat) (Option.some Jvm.ClassFile.FieldType.int)) ∈ wsAll := wT_7 195 rfl rfl
set_option maxRecDepth 100000 in
theorem kw_1757 : (Jvm.Cond.methodLink "GuardNetsModel" (203 : Nat) ({ cls := "GuardNetsModel", name := "newKnot", desc := "(I)I" } : Jvm.MethodName)) ∈ wsAll := wT_7 196 rfl rfl
set_option maxRecDepth 100000 in
theorem kw_1759 : (Jvm.Cond.instanceMethod ({ cls := "GuardNetsModel", name := "newKnot", desc := "(I)I" } : Jvm.MethodName)) ∈ wsAll := wT_7 198 rfl rfl
set_option maxRecDepth 100000 in
theorem kw_1760 : (Jvm.Cond.code ({ cls := "GuardNetsModel", name := "newKnot", desc := "(I)I" } : Jvm.MethodName) prog_14_method_11_code (3 : Nat) (Option.some Jvm.ClassFile.FieldType.int)) ∈ wsAll := wT_7 199 rfl rfl
set_option maxRecDepth 100000 in
theorem kw_1761 : (Jvm.Cond.methodLink "GuardNetsModel" (213 : Nat) ({ cls := "GuardNetsModel", name := "toRow", desc := "(II)V" } : Jvm.MethodName)) ∈ wsAll := wT_7 200 rfl rfl
set_option maxRecDepth 100000 in
theorem kw_1763 : (Jvm.Cond.instanceMethod ({ cls := "GuardNetsModel", name := "toRow", desc := "(II)V" } : Jvm.MethodName)) ∈ wsAll := wT_7 202 rfl rfl
set_option maxRecDepth 100000 in
theorem kw_1764 : (Jvm.Cond.code ({ cls := "GuardNetsModel", name := "toRow", desc := "(II)V" } : Jvm.MethodName) prog_14_method_14_code (4 : Nat) (Option.none : Option Jvm.ClassFile.FieldType)) ∈ wsAll := wT_7 203 rfl rfl
set_option maxRecDepth 100000 in
theorem kw_1765 : (Jvm.Cond.methodLink "GuardNetsModel" (243 : Nat) ({ cls := "GuardNetsModel", name := "goesOn", desc := "(II)I" } : Jvm.MethodName)) ∈ wsAll := wT_7 204 rfl rfl
set_option maxRecDepth 100000 in
theorem kw_1767 : (Jvm.Cond.instanceMethod ({ cls := "GuardNetsModel", name := "goesOn", desc := "(II)I" } : Jvm.MethodName)) ∈ wsAll := wT_7 206 rfl rfl
set_option maxRecDepth 100000 in
theorem kw_1768 : (Jvm.Cond.code ({ cls := "GuardNetsModel", name := "goesOn", desc := "(II)I" } : Jvm.MethodName) prog_14_method_21_code (3 : Nat) (Option.some Jvm.ClassFile.FieldType.int)) ∈ wsAll := wT_7 207 rfl rfl
set_option maxRecDepth 100000 in
theorem kw_1769 : (Jvm.Cond.methodLink "GuardNetsModel" (216 : Nat) ({ cls := "GuardNetsModel", name := "endsBoth", desc := "()V" } : Jvm.MethodName)) ∈ wsAll := wT_7 208 rfl rfl
set_option maxRecDepth 100000 in
theorem kw_1771 : (Jvm.Cond.instanceMethod ({ cls := "GuardNetsModel", name := "endsBoth", desc := "()V" } : Jvm.MethodName)) ∈ wsAll := wT_7 210 rfl rfl
set_option maxRecDepth 100000 in
theorem kw_1772 : (Jvm.Cond.code ({ cls := "GuardNetsModel", name := "endsBoth", desc := "()V" } : Jvm.MethodName) prog_14_method_16_code (1 : Nat) (Option.none : Option Jvm.ClassFile.FieldType)) ∈ wsAll := wT_7 211 rfl rfl
set_option maxRecDepth 100000 in
theorem kw_1773 : (Jvm.Cond.methodLink "GuardNetsModel" (210 : Nat) ({ cls := "GuardNetsModel", name := "ends", desc := "(II)I" } : Jvm.MethodName)) ∈ wsAll := wT_7 212 rfl rfl
set_option maxRecDepth 100000 in
theorem kw_1775 : (Jvm.Cond.instanceMethod ({ cls := "GuardNetsModel", name := "ends", desc := "(II)I" } : Jvm.MethodName)) ∈ wsAll := wT_7 214 rfl rfl
set_option maxRecDepth 100000 in
theorem kw_1776 : (Jvm.Cond.code ({ cls := "GuardNetsModel", name := "ends", desc := "(II)I" } : Jvm.MethodName) prog_14_method_15_code (6 : Nat) (Option.some Jvm.ClassFile.FieldType.int)) ∈ wsAll := wT_7 215 rfl rfl
set_option maxRecDepth 100000 in
theorem kw_1777 : (Jvm.Cond.methodLink "GuardNetsModel" (207 : Nat) ({ cls := "GuardNetsModel", name := "comes", desc := "(II)V" } : Jvm.MethodName)) ∈ wsAll := wT_7 216 rfl rfl
set_option maxRecDepth 100000 in
theorem kw_1779 : (Jvm.Cond.instanceMethod ({ cls := "GuardNetsModel", name := "comes", desc := "(II)V" } : Jvm.MethodName)) ∈ wsAll := wT_7 218 rfl rfl
set_option maxRecDepth 100000 in
theorem kw_1780 : (Jvm.Cond.code ({ cls := "GuardNetsModel", name := "comes", desc := "(II)V" } : Jvm.MethodName) prog_14_method_12_code (3 : Nat) (Option.none : Option Jvm.ClassFile.FieldType)) ∈ wsAll := wT_7 219 rfl rfl
set_option maxRecDepth 100000 in
theorem kw_1781 : (Jvm.Cond.methodLink "GuardNetsModel" (219 : Nat) ({ cls := "GuardNetsModel", name := "endsChain", desc := "()V" } : Jvm.MethodName)) ∈ wsAll := wT_7 220 rfl rfl
set_option maxRecDepth 100000 in
theorem kw_1783 : (Jvm.Cond.instanceMethod ({ cls := "GuardNetsModel", name := "endsChain", desc := "()V" } : Jvm.MethodName)) ∈ wsAll := wT_7 222 rfl rfl
set_option maxRecDepth 100000 in
theorem kw_1784 : (Jvm.Cond.code ({ cls := "GuardNetsModel", name := "endsChain", desc := "()V" } : Jvm.MethodName) prog_14_method_17_code (1 : Nat) (Option.none : Option Jvm.ClassFile.FieldType)) ∈ wsAll := wT_7 223 rfl rfl
set_option maxRecDepth 100000 in
theorem kw_1785 : (Jvm.Cond.methodLink "GuardNetsModel" (229 : Nat) ({ cls := "GuardNetsModel", name := "endsNet", desc := "()I" } : Jvm.MethodName)) ∈ wsAll := wT_7 224 rfl rfl
set_option maxRecDepth 100000 in
theorem kw_1787 : (Jvm.Cond.instanceMethod ({ cls := "GuardNetsModel", name := "endsNet", desc := "()I" } : Jvm.MethodName)) ∈ wsAll := wT_7 226 rfl rfl
set_option maxRecDepth 100000 in
theorem kw_1788 : (Jvm.Cond.code ({ cls := "GuardNetsModel", name := "endsNet", desc := "()I" } : Jvm.MethodName) prog_14_method_18_code (1 : Nat) (Option.some Jvm.ClassFile.FieldType.int)) ∈ wsAll := wT_7 227 rfl rfl
set_option maxRecDepth 100000 in
theorem kw_1789 : (Jvm.Cond.methodLink "GuardNetsModel" (233 : Nat) ({ cls := "GuardNetsModel", name := "closes", desc := "(I)V" } : Jvm.MethodName)) ∈ wsAll := wT_7 228 rfl rfl
set_option maxRecDepth 100000 in
theorem kw_1791 : (Jvm.Cond.instanceMethod ({ cls := "GuardNetsModel", name := "closes", desc := "(I)V" } : Jvm.MethodName)) ∈ wsAll := wT_7 230 rfl rfl
set_option maxRecDepth 100000 in
theorem kw_1792 : (Jvm.Cond.code ({ cls := "GuardNetsModel", name := "closes", desc := "(I)V" } : Jvm.MethodName) prog_14_method_20_code (2 : Nat) (Option.none : Option Jvm.ClassFile.FieldType)) ∈ wsAll := wT_7 231 rfl rfl
set_option maxRecDepth 100000 in
theorem kw_1793 : (Jvm.Cond.methodLink "GuardNetsModel" (237 : Nat) ({ cls := "GuardNetsModel", name := "squares", desc := "()I" } : Jvm.MethodName)) ∈ wsAll := wT_7 232 rfl rfl
set_option maxRecDepth 100000 in
theorem kw_1795 : (Jvm.Cond.instanceMethod ({ cls := "GuardNetsModel", name := "squares", desc := "()I" } : Jvm.MethodName)) ∈ wsAll := wT_7 234 rfl rfl
set_option maxRecDepth 100000 in
theorem kw_1796 : (Jvm.Cond.code ({ cls := "GuardNetsModel", name := "squares", desc := "()I" } : Jvm.MethodName) prog_14_method_22_code (5 : Nat) (Option.some Jvm.ClassFile.FieldType.int)) ∈ wsAll := wT_7 235 rfl rfl
set_option maxRecDepth 100000 in
theorem kw_1797 : (Jvm.Cond.methodLink "GuardNetsModel" (255 : Nat) ({ cls := "GuardNetsModel", name := "lays", desc := "(I)V" } : Jvm.MethodName)) ∈ wsAll := wT_7 236 rfl rfl
set_option maxRecDepth 100000 in
theorem kw_1799 : (Jvm.Cond.instanceMethod ({ cls := "GuardNetsModel", name := "lays", desc := "(I)V" } : Jvm.MethodName)) ∈ wsAll := wT_7 238 rfl rfl
set_option maxRecDepth 100000 in
theorem kw_1800 : (Jvm.Cond.code ({ cls := "GuardNetsModel", name := "lays", desc := "(I)V" } : Jvm.MethodName) prog_14_method_29_code (5 : Nat) (Option.none : Option Jvm.ClassFile.FieldType)) ∈ wsAll := wT_7 239 rfl rfl
set_option maxRecDepth 100000 in
theorem kw_1801 : (Jvm.Cond.methodLink "GuardNetsModel" (258 : Nat) ({ cls := "GuardNetsModel", name := "patternOf", desc := "(I)J" } : Jvm.MethodName)) ∈ wsAll := wT_8 0 rfl rfl
set_option maxRecDepth 100000 in
theorem kw_1802 : (Jvm.Cond.static ({ cls := "GuardNetsModel", name := "patternOf", desc := "(I)J" } : Jvm.MethodName)) ∈ wsAll := wT_8 1 rfl rfl
set_option maxRecDepth 100000 in
theorem kw_1803 : (Jvm.Cond.code ({ cls := "GuardNetsModel", name := "patternOf", desc := "(I)J" } : Jvm.MethodName) prog_14_method_28_code (4 : Nat) (Option.some Jvm.ClassFile.FieldType.long)) ∈ wsAll := wT_8 2 rfl rfl
set_option maxRecDepth 100000 in
theorem kw_1804 : (Jvm.Cond.methodLink "GuardNetsModel" (262 : Nat) ({ cls := "GuardNetsModel", name := "isIn", desc := "(III)Z" } : Jvm.MethodName)) ∈ wsAll := wT_8 3 rfl rfl
set_option maxRecDepth 100000 in
theorem kw_1805 : (Jvm.Cond.static ({ cls := "GuardNetsModel", name := "isIn", desc := "(III)Z" } : Jvm.MethodName)) ∈ wsAll := wT_8 4 rfl rfl
set_option maxRecDepth 100000 in
theorem kw_1806 : (Jvm.Cond.code ({ cls := "GuardNetsModel", name := "isIn", desc := "(III)Z" } : Jvm.MethodName) prog_14_method_27_code (3 : Nat) (Option.some Jvm.ClassFile.FieldType.boolean)) ∈ wsAll := wT_8 5 rfl rfl
set_option maxRecDepth 100000 in
theorem kw_1807 : (Jvm.Cond.constantLong "GuardNetsModel" (265 : Nat) (-1 : Int64)) ∈ wsAll := wT_8 6 rfl rfl
set_option maxRecDepth 100000 in
theorem kw_1808 : (Jvm.Cond.methodLink "GuardNetsModel" (267 : Nat) ({ cls := "GuardNetsModel", name := "wordOf", desc := "(II)J" } : Jvm.MethodName)) ∈ wsAll := wT_8 7 rfl rfl
set_option maxRecDepth 100000 in
theorem kw_1810 : (Jvm.Cond.instanceMethod ({ cls := "GuardNetsModel", name := "wordOf", desc := "(II)J" } : Jvm.MethodName)) ∈ wsAll := wT_8 9 rfl rfl
set_option maxRecDepth 100000 in
theorem kw_1811 : (Jvm.Cond.code ({ cls := "GuardNetsModel", name := "wordOf", desc := "(II)J" } : Jvm.MethodName) prog_14_method_30_code (10 : Nat) (Option.some Jvm.ClassFile.FieldType.long)) ∈ wsAll := wT_8 10 rfl rfl
set_option maxRecDepth 100000 in
theorem kw_1820 : (Jvm.Cond.methodLink "GuardNetsModel" (271 : Nat) ({ cls := "GuardNetsModel", name := "why", desc := "(IZ)I" } : Jvm.MethodName)) ∈ wsAll := wT_8 19 rfl rfl
set_option maxRecDepth 100000 in
theorem kw_1822 : (Jvm.Cond.instanceMethod ({ cls := "GuardNetsModel", name := "why", desc := "(IZ)I" } : Jvm.MethodName)) ∈ wsAll := wT_8 21 rfl rfl
set_option maxRecDepth 100000 in
theorem kw_1823 : (Jvm.Cond.code ({ cls := "GuardNetsModel", name := "why", desc := "(IZ)I" } : Jvm.MethodName) prog_14_method_32_code (3 : Nat) (Option.some Jvm.ClassFile.FieldType.int)) ∈ wsAll := wT_8 22 rfl rfl
set_option maxRecDepth 100000 in
theorem kw_1824 : (Jvm.Cond.methodLink "GuardNetsModel" (275 : Nat) ({ cls := "GuardNetsModel", name := "knotOf", desc := "(II)I" } : Jvm.MethodName)) ∈ wsAll := wT_8 23 rfl rfl
set_option maxRecDepth 100000 in
theorem kw_1826 : (Jvm.Cond.instanceMethod ({ cls := "GuardNetsModel", name := "knotOf", desc := "(II)I" } : Jvm.MethodName)) ∈ wsAll := wT_8 25 rfl rfl
set_option maxRecDepth 100000 in
theorem kw_1827 : (Jvm.Cond.code ({ cls := "GuardNetsModel", name := "knotOf", desc := "(II)I" } : Jvm.MethodName) prog_14_method_33_code (3 : Nat) (Option.some Jvm.ClassFile.FieldType.int)) ∈ wsAll := wT_8 26 rfl rfl
set_option maxRecDepth 100000 in
theorem kw_1836 : (Jvm.Cond.methodLink "GuardNetsModel" (279 : Nat) ({ cls := "GuardNetsModel", name := "isSet", desc := "(I)Z" } : Jvm.MethodName)) ∈ wsAll := wT_8 35 rfl rfl
set_option maxRecDepth 100000 in
theorem kw_1837 : (Jvm.Cond.static ({ cls := "GuardNetsModel", name := "isSet", desc := "(I)Z" } : Jvm.MethodName)) ∈ wsAll := wT_8 36 rfl rfl
set_option maxRecDepth 100000 in
theorem kw_1838 : (Jvm.Cond.code ({ cls := "GuardNetsModel", name := "isSet", desc := "(I)Z" } : Jvm.MethodName) prog_14_method_36_code (1 : Nat) (Option.some Jvm.ClassFile.FieldType.boolean)) ∈ wsAll := wT_8 37 rfl rfl
set_option maxRecDepth 100000 in
theorem kw_1839 : (Jvm.Cond.constant "GuardNetsModel" (278 : Nat) (65535 : Int32)) ∈ wsAll := wT_8 38 rfl rfl
set_option maxRecDepth 100000 in
theorem kw_1840 : (Jvm.Cond.methodLink "GuardNetsModel" (282 : Nat) ({ cls := "GuardNetsModel", name := "isReached", desc := "(II)Z" } : Jvm.MethodName)) ∈ wsAll := wT_8 39 rfl rfl
set_option maxRecDepth 100000 in
theorem kw_1842 : (Jvm.Cond.instanceMethod ({ cls := "GuardNetsModel", name := "isReached", desc := "(II)Z" } : Jvm.MethodName)) ∈ wsAll := wT_8 41 rfl rfl
set_option maxRecDepth 100000 in
theorem kw_1843 : (Jvm.Cond.code ({ cls := "GuardNetsModel", name := "isReached", desc := "(II)Z" } : Jvm.MethodName) prog_14_method_31_code (3 : Nat) (Option.some Jvm.ClassFile.FieldType.boolean)) ∈ wsAll := wT_8 42 rfl rfl
set_option maxRecDepth 100000 in
theorem kw_1848 : (Jvm.Cond.methodLink "GuardNetsModel" (301 : Nat) ({ cls := "GuardNetsModel", name := "whyWays", desc := "(IZ)I" } : Jvm.MethodName)) ∈ wsAll := wT_8 47 rfl rfl
set_option maxRecDepth 100000 in
theorem kw_1850 : (Jvm.Cond.instanceMethod ({ cls := "GuardNetsModel", name := "whyWays", desc := "(IZ)I" } : Jvm.MethodName)) ∈ wsAll := wT_8 49 rfl rfl
set_option maxRecDepth 100000 in
theorem kw_1851 : (Jvm.Cond.code ({ cls := "GuardNetsModel", name := "whyWays", desc := "(IZ)I" } : Jvm.MethodName) prog_14_method_42_code (4 : Nat) (Option.some Jvm.ClassFile.FieldType.int)) ∈ wsAll := wT_8 50 rfl rfl
set_option maxRecDepth 100000 in
theorem kw_1852 : (Jvm.Cond.methodLink "GuardNetsModel" (298 : Nat) ({ cls := "GuardNetsModel", name := "findWays", desc := "(I)Z" } : Jvm.MethodName)) ∈ wsAll := wT_8 51 rfl rfl
set_option maxRecDepth 100000 in
theorem kw_1854 : (Jvm.Cond.instanceMethod ({ cls := "GuardNetsModel", name := "findWays", desc := "(I)Z" } : Jvm.MethodName)) ∈ wsAll := wT_8 53 rfl rfl
set_option maxRecDepth 100000 in
theorem kw_1855 : (Jvm.Cond.code ({ cls := "GuardNetsModel", name := "findWays", desc := "(I)Z" } : Jvm.MethodName) prog_14_method_41_code (7 : Nat) (Option.some Jvm.ClassFile.FieldType.boolean)) ∈ wsAll := wT_8 54 rfl rfl
set_option maxRecDepth 100000 in
theorem kw_1856 : (Jvm.Cond.methodLink "GuardNetsModel" (289 : Nat) ({ cls := "GuardNetsModel", name := "countWays", desc := "(I)I" } : Jvm.MethodName)) ∈ wsAll := wT_8 55 rfl rfl
set_option maxRecDepth 100000 in
theorem kw_1858 : (Jvm.Cond.instanceMethod ({ cls := "GuardNetsModel", name := "countWays", desc := "(I)I" } : Jvm.MethodName)) ∈ wsAll := wT_8 57 rfl rfl
set_option maxRecDepth 100000 in
theorem kw_1859 : (Jvm.Cond.code ({ cls := "GuardNetsModel", name := "countWays", desc := "(I)I" } : Jvm.MethodName) prog_14_method_40_code (6 : Nat) (Option.some Jvm.ClassFile.FieldType.int)) ∈ wsAll := wT_8 58 rfl rfl
set_option maxRecDepth 100000 in
theorem kw_1860 : (Jvm.Cond.methodLink "GuardNetsModel" (286 : Nat) ({ cls := "GuardNetsModel", name := "findLesser", desc := "(I)V" } : Jvm.MethodName)) ∈ wsAll := wT_8 59 rfl rfl
set_option maxRecDepth 100000 in
theorem kw_1862 : (Jvm.Cond.instanceMethod ({ cls := "GuardNetsModel", name := "findLesser", desc := "(I)V" } : Jvm.MethodName)) ∈ wsAll := wT_8 61 rfl rfl
set_option maxRecDepth 100000 in
theorem kw_1863 : (Jvm.Cond.code ({ cls := "GuardNetsModel", name := "findLesser", desc := "(I)V" } : Jvm.MethodName) prog_14_method_39_code (6 : Nat) (Option.none : Option Jvm.ClassFile.FieldType)) ∈ wsAll := wT_8 62 rfl rfl
set_option maxRecDepth 100000 in
theorem kw_1864 : (Jvm.Cond.methodLink "GuardNetsModel" (295 : Nat) ({ cls := "GuardNetsModel", name := "sizeOf", desc := "(I)I" } : Jvm.MethodName)) ∈ wsAll := wT_8 63 rfl rfl
set_option maxRecDepth 100000 in
theorem kw_1865 : (Jvm.Cond.static ({ cls := "GuardNetsModel", name := "sizeOf", desc := "(I)I" } : Jvm.MethodName)) ∈ wsAll := wT_8 64 rfl rfl
set_option maxRecDepth 100000 in
theorem kw_1866 : (Jvm.Cond.code ({ cls := "GuardNetsModel", name := "sizeOf", desc := "(I)I" } : Jvm.MethodName) prog_14_method_38_code (3 : Nat) (Option.some Jvm.ClassFile.FieldType.int)) ∈ wsAll := wT_8 65 rfl rfl
set_option maxRecDepth 100000 in
theorem kw_1875 : (Jvm.Cond.methodLink "GuardNetsModel" (308 : Nat) ({ cls := "GuardNetsModel", name := "leastAt", desc := "(II)I" } : Jvm.MethodName)) ∈ wsAll := wT_8 74 rfl rfl
set_option maxRecDepth 100000 in
theorem kw_1877 : (Jvm.Cond.instanceMethod ({ cls := "GuardNetsModel", name := "leastAt", desc := "(II)I" } : Jvm.MethodName)) ∈ wsAll := wT_8 76 rfl rfl
set_option maxRecDepth 100000 in
theorem kw_1878 : (Jvm.Cond.code ({ cls := "GuardNetsModel", name := "leastAt", desc := "(II)I" } : Jvm.MethodName) prog_14_method_46_code (5 : Nat) (Option.some Jvm.ClassFile.FieldType.int)) ∈ wsAll := wT_8 77 rfl rfl
set_option maxRecDepth 100000 in
theorem kw_1879 : (Jvm.Cond.methodLink "GuardNetsModel" (304 : Nat) ({ cls := "GuardNetsModel", name := "sumOf", desc := "(III)I" } : Jvm.MethodName)) ∈ wsAll := wT_8 78 rfl rfl
set_option maxRecDepth 100000 in
theorem kw_1881 : (Jvm.Cond.instanceMethod ({ cls := "GuardNetsModel", name := "sumOf", desc := "(III)I" } : Jvm.MethodName)) ∈ wsAll := wT_8 80 rfl rfl
set_option maxRecDepth 100000 in
theorem kw_1882 : (Jvm.Cond.code ({ cls := "GuardNetsModel", name := "sumOf", desc := "(III)I" } : Jvm.MethodName) prog_14_method_45_code (6 : Nat) (Option.some Jvm.ClassFile.FieldType.int)) ∈ wsAll := wT_8 81 rfl rfl
set_option maxRecDepth 100000 in
theorem kw_1891 : (Jvm.Cond.methodLink "GuardNetsModel" (311 : Nat) ({ cls := "GuardNetsModel", name := "sorted", desc := "(II)I" } : Jvm.MethodName)) ∈ wsAll := wT_8 90 rfl rfl
set_option maxRecDepth 100000 in
theorem kw_1893 : (Jvm.Cond.instanceMethod ({ cls := "GuardNetsModel", name := "sorted", desc := "(II)I" } : Jvm.MethodName)) ∈ wsAll := wT_8 92 rfl rfl
set_option maxRecDepth 100000 in
theorem kw_1894 : (Jvm.Cond.code ({ cls := "GuardNetsModel", name := "sorted", desc := "(II)I" } : Jvm.MethodName) prog_14_method_49_code (6 : Nat) (Option.some Jvm.ClassFile.FieldType.int)) ∈ wsAll := wT_8 93 rfl rfl
set_option maxRecDepth 100000 in
theorem kw_1899 : (Jvm.Cond.methodLink "GuardNetsModel" (349 : Nat) ({ cls := "GuardNetsModel", name := "limbsOf", desc := "(I)I" } : Jvm.MethodName)) ∈ wsAll := wT_8 98 rfl rfl
set_option maxRecDepth 100000 in
theorem kw_1901 : (Jvm.Cond.instanceMethod ({ cls := "GuardNetsModel", name := "limbsOf", desc := "(I)I" } : Jvm.MethodName)) ∈ wsAll := wT_8 100 rfl rfl
set_option maxRecDepth 100000 in
theorem kw_1902 : (Jvm.Cond.code ({ cls := "GuardNetsModel", name := "limbsOf", desc := "(I)I" } : Jvm.MethodName) prog_14_method_65_code (3 : Nat) (Option.some Jvm.ClassFile.FieldType.int)) ∈ wsAll := wT_8 101 rfl rfl
set_option maxRecDepth 100000 in
theorem kw_1911 : (Jvm.Cond.methodLink "GuardNetsModel" (363 : Nat) ({ cls := "GuardNetsModel", name := "diagrams", desc := "(I)V" } : Jvm.MethodName)) ∈ wsAll := wT_8 110 rfl rfl
set_option maxRecDepth 100000 in
theorem kw_1913 : (Jvm.Cond.instanceMethod ({ cls := "GuardNetsModel", name := "diagrams", desc := "(I)V" } : Jvm.MethodName)) ∈ wsAll := wT_8 112 rfl rfl
set_option maxRecDepth 100000 in
theorem kw_1914 : (Jvm.Cond.code ({ cls := "GuardNetsModel", name := "diagrams", desc := "(I)V" } : Jvm.MethodName) prog_14_method_69_code (4 : Nat) (Option.none : Option Jvm.ClassFile.FieldType)) ∈ wsAll := wT_8 113 rfl rfl
set_option maxRecDepth 100000 in
theorem kw_1915 : (Jvm.Cond.methodLink "GuardNetsModel" (357 : Nat) ({ cls := "GuardNetsModel", name := "nodeOf", desc := "(III)I" } : Jvm.MethodName)) ∈ wsAll := wT_8 114 rfl rfl
set_option maxRecDepth 100000 in
theorem kw_1917 : (Jvm.Cond.instanceMethod ({ cls := "GuardNetsModel", name := "nodeOf", desc := "(III)I" } : Jvm.MethodName)) ∈ wsAll := wT_8 116 rfl rfl
set_option maxRecDepth 100000 in
theorem kw_1918 : (Jvm.Cond.code ({ cls := "GuardNetsModel", name := "nodeOf", desc := "(III)I" } : Jvm.MethodName) prog_14_method_68_code (6 : Nat) (Option.some Jvm.ClassFile.FieldType.int)) ∈ wsAll := wT_8 117 rfl rfl
set_option maxRecDepth 100000 in
theorem kw_1919 : (Jvm.Cond.constant "GuardNetsModel" (352 : Nat) (104729 : Int32)) ∈ wsAll := wT_8 118 rfl rfl
set_option maxRecDepth 100000 in
theorem kw_1920 : (Jvm.Cond.constant "GuardNetsModel" (353 : Nat) (2147483647 : Int32)) ∈ wsAll := wT_8 119 rfl rfl
set_option maxRecDepth 100000 in
theorem kw_1925 : (Jvm.Cond.methodLink "GuardNetsModel" (372 : Nat) ({ cls := "GuardNetsModel", name := "whyChance", desc := "(IZ)I" } : Jvm.MethodName)) ∈ wsAll := wT_8 124 rfl rfl
set_option maxRecDepth 100000 in
theorem kw_1927 : (Jvm.Cond.instanceMethod ({ cls := "GuardNetsModel", name := "whyChance", desc := "(IZ)I" } : Jvm.MethodName)) ∈ wsAll := wT_8 126 rfl rfl
set_option maxRecDepth 100000 in
theorem kw_1928 : (Jvm.Cond.code ({ cls := "GuardNetsModel", name := "whyChance", desc := "(IZ)I" } : Jvm.MethodName) prog_14_method_75_code (4 : Nat) (Option.some Jvm.ClassFile.FieldType.int)) ∈ wsAll := wT_8 127 rfl rfl
set_option maxRecDepth 100000 in
theorem kw_1929 : (Jvm.Cond.methodLink "GuardNetsModel" (375 : Nat) ({ cls := "GuardNetsModel", name := "uses", desc := "(I)V" } : Jvm.MethodName)) ∈ wsAll := wT_8 128 rfl rfl
set_option maxRecDepth 100000 in
theorem kw_1931 : (Jvm.Cond.instanceMethod ({ cls := "GuardNetsModel", name := "uses", desc := "(I)V" } : Jvm.MethodName)) ∈ wsAll := wT_8 130 rfl rfl
set_option maxRecDepth 100000 in
theorem kw_1932 : (Jvm.Cond.code ({ cls := "GuardNetsModel", name := "uses", desc := "(I)V" } : Jvm.MethodName) prog_14_method_71_code (3 : Nat) (Option.none : Option Jvm.ClassFile.FieldType)) ∈ wsAll := wT_8 131 rfl rfl
set_option maxRecDepth 100000 in
theorem kw_1933 : (Jvm.Cond.methodLink "GuardNetsModel" (378 : Nat) ({ cls := "GuardNetsModel", name := "chances", desc := "(I)V" } : Jvm.MethodName)) ∈ wsAll := wT_8 132 rfl rfl
set_option maxRecDepth 100000 in
theorem kw_1935 : (Jvm.Cond.instanceMethod ({ cls := "GuardNetsModel", name := "chances", desc := "(I)V" } : Jvm.MethodName)) ∈ wsAll := wT_8 134 rfl rfl
set_option maxRecDepth 100000 in
theorem kw_1936 : (Jvm.Cond.code ({ cls := "GuardNetsModel", name := "chances", desc := "(I)V" } : Jvm.MethodName) prog_14_method_73_code (4 : Nat) (Option.none : Option Jvm.ClassFile.FieldType)) ∈ wsAll := wT_8 135 rfl rfl
set_option maxRecDepth 100000 in
theorem kw_1937 : (Jvm.Cond.methodLink "GuardNetsModel" (366 : Nat) ({ cls := "GuardNetsModel", name := "brings", desc := "(III)V" } : Jvm.MethodName)) ∈ wsAll := wT_8 136 rfl rfl
set_option maxRecDepth 100000 in
theorem kw_1939 : (Jvm.Cond.instanceMethod ({ cls := "GuardNetsModel", name := "brings", desc := "(III)V" } : Jvm.MethodName)) ∈ wsAll := wT_8 138 rfl rfl
set_option maxRecDepth 100000 in
theorem kw_1940 : (Jvm.Cond.code ({ cls := "GuardNetsModel", name := "brings", desc := "(III)V" } : Jvm.MethodName) prog_14_method_72_code (5 : Nat) (Option.none : Option Jvm.ClassFile.FieldType)) ∈ wsAll := wT_8 139 rfl rfl
set_option maxRecDepth 100000 in
theorem kw_1941 : (Jvm.Cond.methodLink "GuardNetsModel" (333 : Nat) ({ cls := "GuardNetsModel", name := "takes", desc := "(II)V" } : Jvm.MethodName)) ∈ wsAll := wT_8 140 rfl rfl
set_option maxRecDepth 100000 in
theorem kw_1943 : (Jvm.Cond.instanceMethod ({ cls := "GuardNetsModel", name := "takes", desc := "(II)V" } : Jvm.MethodName)) ∈ wsAll := wT_8 142 rfl rfl
set_option maxRecDepth 100000 in
theorem kw_1944 : (Jvm.Cond.code ({ cls := "GuardNetsModel", name := "takes", desc := "(II)V" } : Jvm.MethodName) prog_14_method_52_code (4 : Nat) (Option.none : Option Jvm.ClassFile.FieldType)) ∈ wsAll := wT_8 143 rfl rfl
set_option maxRecDepth 100000 in
theorem kw_1945 : (Jvm.Cond.methodLink "GuardNetsModel" (336 : Nat) ({ cls := "GuardNetsModel", name := "times", desc := "(II)V" } : Jvm.MethodName)) ∈ wsAll := wT_8 144 rfl rfl
set_option maxRecDepth 100000 in
theorem kw_1947 : (Jvm.Cond.instanceMethod ({ cls := "GuardNetsModel", name := "times", desc := "(II)V" } : Jvm.MethodName)) ∈ wsAll := wT_8 146 rfl rfl
set_option maxRecDepth 100000 in
theorem kw_1948 : (Jvm.Cond.code ({ cls := "GuardNetsModel", name := "times", desc := "(II)V" } : Jvm.MethodName) prog_14_method_55_code (8 : Nat) (Option.none : Option Jvm.ClassFile.FieldType)) ∈ wsAll := wT_8 147 rfl rfl
set_option maxRecDepth 100000 in
theorem kw_1949 : (Jvm.Cond.constantLong "GuardNetsModel" (314 : Nat) (1073741824 : Int64)) ∈ wsAll := wT_8 148 rfl rfl
set_option maxRecDepth 100000 in
theorem kw_1950 : (Jvm.Cond.methodLink "GuardNetsModel" (369 : Nat) ({ cls := "GuardNetsModel", name := "adds", desc := "(II)V" } : Jvm.MethodName)) ∈ wsAll := wT_8 149 rfl rfl
set_option maxRecDepth 100000 in
theorem kw_1952 : (Jvm.Cond.instanceMethod ({ cls := "GuardNetsModel", name := "adds", desc := "(II)V" } : Jvm.MethodName)) ∈ wsAll := wT_8 151 rfl rfl
set_option maxRecDepth 100000 in
theorem kw_1953 : (Jvm.Cond.code ({ cls := "GuardNetsModel", name := "adds", desc := "(II)V" } : Jvm.MethodName) prog_14_method_53_code (7 : Nat) (Option.none : Option Jvm.ClassFile.FieldType)) ∈ wsAll := wT_8 152 rfl rfl
set_option maxRecDepth 100000 in
theorem kw_1954 : (Jvm.Cond.methodLink "GuardNetsModel" (381 : Nat) ({ cls := "GuardNetsModel", name := "wholes", desc := "(II)V" } : Jvm.MethodName)) ∈ wsAll := wT_8 153 rfl rfl
set_option maxRecDepth 100000 in
theorem kw_1956 : (Jvm.Cond.instanceMethod ({ cls := "GuardNetsModel", name := "wholes", desc := "(II)V" } : Jvm.MethodName)) ∈ wsAll := wT_8 155 rfl rfl
set_option maxRecDepth 100000 in
theorem kw_1957 : (Jvm.Cond.code ({ cls := "GuardNetsModel", name := "wholes", desc := "(II)V" } : Jvm.MethodName) prog_14_method_74_code (4 : Nat) (Option.none : Option Jvm.ClassFile.FieldType)) ∈ wsAll := wT_8 156 rfl rfl
set_option maxRecDepth 100000 in
theorem kw_1958 : (Jvm.Cond.methodLink "GuardNetsModel" (384 : Nat) ({ cls := "GuardNetsModel", name := "tells", desc := "(II)V" } : Jvm.MethodName)) ∈ wsAll := wT_8 157 rfl rfl
set_option maxRecDepth 100000 in
theorem kw_1960 : (Jvm.Cond.instanceMethod ({ cls := "GuardNetsModel", name := "tells", desc := "(II)V" } : Jvm.MethodName)) ∈ wsAll := wT_8 159 rfl rfl
set_option maxRecDepth 100000 in
theorem kw_1961 : (Jvm.Cond.code ({ cls := "GuardNetsModel", name := "tells", desc := "(II)V" } : Jvm.MethodName) prog_14_method_64_code (3 : Nat) (Option.none : Option Jvm.ClassFile.FieldType)) ∈ wsAll := wT_8 160 rfl rfl
set_option maxRecDepth 100000 in
theorem kw_1962 : (Jvm.Cond.methodLink "GuardNetsModel" (324 : Nat) ({ cls := "GuardNetsModel", name := "isNothing", desc := "(I)Z" } : Jvm.MethodName)) ∈ wsAll := wT_8 161 rfl rfl
set_option maxRecDepth 100000 in
theorem kw_1964 : (Jvm.Cond.instanceMethod ({ cls := "GuardNetsModel", name := "isNothing", desc := "(I)Z" } : Jvm.MethodName)) ∈ wsAll := wT_8 163 rfl rfl
set_option maxRecDepth 100000 in
theorem kw_1965 : (Jvm.Cond.code ({ cls := "GuardNetsModel", name := "isNothing", desc := "(I)Z" } : Jvm.MethodName) prog_14_method_58_code (3 : Nat) (Option.some Jvm.ClassFile.FieldType.boolean)) ∈ wsAll := wT_8 164 rfl rfl
set_option maxRecDepth 100000 in
theorem kw_1966 : (Jvm.Cond.methodLink "GuardNetsModel" (342 : Nat) ({ cls := "GuardNetsModel", name := "divisor", desc := "(II)V" } : Jvm.MethodName)) ∈ wsAll := wT_8 165 rfl rfl
set_option maxRecDepth 100000 in
theorem kw_1968 : (Jvm.Cond.instanceMethod ({ cls := "GuardNetsModel", name := "divisor", desc := "(II)V" } : Jvm.MethodName)) ∈ wsAll := wT_8 167 rfl rfl
set_option maxRecDepth 100000 in
theorem kw_1969 : (Jvm.Cond.code ({ cls := "GuardNetsModel", name := "divisor", desc := "(II)V" } : Jvm.MethodName) prog_14_method_61_code (5 : Nat) (Option.none : Option Jvm.ClassFile.FieldType)) ∈ wsAll := wT_8 168 rfl rfl
set_option maxRecDepth 100000 in
theorem kw_1970 : (Jvm.Cond.methodLink "GuardNetsModel" (318 : Nat) ({ cls := "GuardNetsModel", name := "isEven", desc := "(I)Z" } : Jvm.MethodName)) ∈ wsAll := wT_8 169 rfl rfl
set_option maxRecDepth 100000 in
theorem kw_1972 : (Jvm.Cond.instanceMethod ({ cls := "GuardNetsModel", name := "isEven", desc := "(I)Z" } : Jvm.MethodName)) ∈ wsAll := wT_8 171 rfl rfl
set_option maxRecDepth 100000 in
theorem kw_1973 : (Jvm.Cond.code ({ cls := "GuardNetsModel", name := "isEven", desc := "(I)Z" } : Jvm.MethodName) prog_14_method_60_code (2 : Nat) (Option.some Jvm.ClassFile.FieldType.boolean)) ∈ wsAll := wT_8 172 rfl rfl
set_option maxRecDepth 100000 in
theorem kw_1974 : (Jvm.Cond.methodLink "GuardNetsModel" (321 : Nat) ({ cls := "GuardNetsModel", name := "halves", desc := "(I)V" } : Jvm.MethodName)) ∈ wsAll := wT_8 173 rfl rfl
set_option maxRecDepth 100000 in
theorem kw_1976 : (Jvm.Cond.instanceMethod ({ cls := "GuardNetsModel", name := "halves", desc := "(I)V" } : Jvm.MethodName)) ∈ wsAll := wT_8 175 rfl rfl
set_option maxRecDepth 100000 in
theorem kw_1977 : (Jvm.Cond.code ({ cls := "GuardNetsModel", name := "halves", desc := "(I)V" } : Jvm.MethodName) prog_14_method_59_code (5 : Nat) (Option.none : Option Jvm.ClassFile.FieldType)) ∈ wsAll := wT_8 176 rfl rfl
set_option maxRecDepth 100000 in
theorem kw_1978 : (Jvm.Cond.constant "GuardNetsModel" (317 : Nat) (536870912 : Int32)) ∈ wsAll := wT_8 177 rfl rfl
set_option maxRecDepth 100000 in
theorem kw_1979 : (Jvm.Cond.methodLink "GuardNetsModel" (327 : Nat) ({ cls := "GuardNetsModel", name := "against", desc := "(II)I" } : Jvm.MethodName)) ∈ wsAll := wT_8 178 rfl rfl
set_option maxRecDepth 100000 in
theorem kw_1981 : (Jvm.Cond.instanceMethod ({ cls := "GuardNetsModel", name := "against", desc := "(II)I" } : Jvm.MethodName)) ∈ wsAll := wT_8 180 rfl rfl
set_option maxRecDepth 100000 in
theorem kw_1982 : (Jvm.Cond.code ({ cls := "GuardNetsModel", name := "against", desc := "(II)I" } : Jvm.MethodName) prog_14_method_57_code (6 : Nat) (Option.some Jvm.ClassFile.FieldType.int)) ∈ wsAll := wT_8 181 rfl rfl
set_option maxRecDepth 100000 in
theorem kw_1983 : (Jvm.Cond.methodLink "GuardNetsModel" (330 : Nat) ({ cls := "GuardNetsModel", name := "lessens", desc := "(II)V" } : Jvm.MethodName)) ∈ wsAll := wT_8 182 rfl rfl
set_option maxRecDepth 100000 in
theorem kw_1985 : (Jvm.Cond.instanceMethod ({ cls := "GuardNetsModel", name := "lessens", desc := "(II)V" } : Jvm.MethodName)) ∈ wsAll := wT_8 184 rfl rfl
set_option maxRecDepth 100000 in
theorem kw_1986 : (Jvm.Cond.code ({ cls := "GuardNetsModel", name := "lessens", desc := "(II)V" } : Jvm.MethodName) prog_14_method_54_code (6 : Nat) (Option.none : Option Jvm.ClassFile.FieldType)) ∈ wsAll := wT_8 185 rfl rfl
set_option maxRecDepth 100000 in
theorem kw_1987 : (Jvm.Cond.constant "GuardNetsModel" (316 : Nat) (1073741824 : Int32)) ∈ wsAll := wT_8 186 rfl rfl
set_option maxRecDepth 100000 in
theorem kw_1988 : (Jvm.Cond.methodLink "GuardNetsModel" (345 : Nat) ({ cls := "GuardNetsModel", name := "divides", desc := "(III)V" } : Jvm.MethodName)) ∈ wsAll := wT_8 187 rfl rfl
set_option maxRecDepth 100000 in
theorem kw_1990 : (Jvm.Cond.instanceMethod ({ cls := "GuardNetsModel", name := "divides", desc := "(III)V" } : Jvm.MethodName)) ∈ wsAll := wT_8 189 rfl rfl
set_option maxRecDepth 100000 in
theorem kw_1991 : (Jvm.Cond.code ({ cls := "GuardNetsModel", name := "divides", desc := "(III)V" } : Jvm.MethodName) prog_14_method_63_code (5 : Nat) (Option.none : Option Jvm.ClassFile.FieldType)) ∈ wsAll := wT_8 190 rfl rfl
set_option maxRecDepth 100000 in
theorem kw_1992 : (Jvm.Cond.methodLink "GuardNetsModel" (339 : Nat) ({ cls := "GuardNetsModel", name := "bitOf", desc := "(II)Z" } : Jvm.MethodName)) ∈ wsAll := wT_8 191 rfl rfl
set_option maxRecDepth 100000 in
theorem kw_1994 : (Jvm.Cond.instanceMethod ({ cls := "GuardNetsModel", name := "bitOf", desc := "(II)Z" } : Jvm.MethodName)) ∈ wsAll := wT_8 193 rfl rfl
set_option maxRecDepth 100000 in
theorem kw_1995 : (Jvm.Cond.code ({ cls := "GuardNetsModel", name := "bitOf", desc := "(II)Z" } : Jvm.MethodName) prog_14_method_62_code (3 : Nat) (Option.some Jvm.ClassFile.FieldType.boolean)) ∈ wsAll := wT_8 194 rfl rfl
set_option maxRecDepth 100000 in
theorem kw_2004 : (Jvm.Cond.methodLink "GuardNetsModel" (387 : Nat) ({ cls := "GuardNetsModel", name := "spread", desc := "(II)I" } : Jvm.MethodName)) ∈ wsAll := wT_8 203 rfl rfl
set_option maxRecDepth 100000 in
theorem kw_2006 : (Jvm.Cond.instanceMethod ({ cls := "GuardNetsModel", name := "spread", desc := "(II)I" } : Jvm.MethodName)) ∈ wsAll := wT_8 205 rfl rfl
set_option maxRecDepth 100000 in
theorem kw_2007 : (Jvm.Cond.code ({ cls := "GuardNetsModel", name := "spread", desc := "(II)I" } : Jvm.MethodName) prog_14_method_79_code (5 : Nat) (Option.some Jvm.ClassFile.FieldType.int)) ∈ wsAll := wT_8 206 rfl rfl
set_option maxRecDepth 100000 in
theorem kw_2016 : (Jvm.Cond.methodLink "GuardNetsModel" (396 : Nat) ({ cls := "GuardNetsModel", name := "isHeld", desc := "(II)Z" } : Jvm.MethodName)) ∈ wsAll := wT_8 215 rfl rfl
set_option maxRecDepth 100000 in
theorem kw_2018 : (Jvm.Cond.instanceMethod ({ cls := "GuardNetsModel", name := "isHeld", desc := "(II)Z" } : Jvm.MethodName)) ∈ wsAll := wT_8 217 rfl rfl
set_option maxRecDepth 100000 in
theorem kw_2019 : (Jvm.Cond.code ({ cls := "GuardNetsModel", name := "isHeld", desc := "(II)Z" } : Jvm.MethodName) prog_14_method_83_code (3 : Nat) (Option.some Jvm.ClassFile.FieldType.boolean)) ∈ wsAll := wT_8 218 rfl rfl
set_option maxRecDepth 100000 in
theorem kw_2020 : (Jvm.Cond.methodLink "GuardNetsModel" (393 : Nat) ({ cls := "GuardNetsModel", name := "stopped", desc := "(I)I" } : Jvm.MethodName)) ∈ wsAll := wT_8 219 rfl rfl
set_option maxRecDepth 100000 in
theorem kw_2022 : (Jvm.Cond.instanceMethod ({ cls := "GuardNetsModel", name := "stopped", desc := "(I)I" } : Jvm.MethodName)) ∈ wsAll := wT_8 221 rfl rfl
set_option maxRecDepth 100000 in
theorem kw_2023 : (Jvm.Cond.code ({ cls := "GuardNetsModel", name := "stopped", desc := "(I)I" } : Jvm.MethodName) prog_14_method_81_code (4 : Nat) (Option.some Jvm.ClassFile.FieldType.int)) ∈ wsAll := wT_8 222 rfl rfl
set_option maxRecDepth 100000 in
theorem kw_2028 : (Jvm.Cond.methodLink "GuardNetsModel" (399 : Nat) ({ cls := "GuardNetsModel", name := "wages", desc := "(I)I" } : Jvm.MethodName)) ∈ wsAll := wT_8 227 rfl rfl
set_option maxRecDepth 100000 in
theorem kw_2030 : (Jvm.Cond.instanceMethod ({ cls := "GuardNetsModel", name := "wages", desc := "(I)I" } : Jvm.MethodName)) ∈ wsAll := wT_8 229 rfl rfl
set_option maxRecDepth 100000 in
theorem kw_2031 : (Jvm.Cond.code ({ cls := "GuardNetsModel", name := "wages", desc := "(I)I" } : Jvm.MethodName) prog_14_method_82_code (4 : Nat) (Option.some Jvm.ClassFile.FieldType.int)) ∈ wsAll := wT_8 230 rfl rfl
set_option maxRecDepth 100000 in
theorem kw_2036 : (Jvm.Cond.methodLink "GuardNetsModel" (405 : Nat) ({ cls := "GuardNetsModel", name := "findFront", desc := "()V" } : Jvm.MethodName)) ∈ wsAll := wT_8 235 rfl rfl
set_option maxRecDepth 100000 in
theorem kw_2038 : (Jvm.Cond.instanceMethod ({ cls := "GuardNetsModel", name := "findFront", desc := "()V" } : Jvm.MethodName)) ∈ wsAll := wT_8 237 rfl rfl
set_option maxRecDepth 100000 in
theorem kw_2039 : (Jvm.Cond.code ({ cls := "GuardNetsModel", name := "findFront", desc := "()V" } : Jvm.MethodName) prog_14_method_86_code (7 : Nat) (Option.none : Option Jvm.ClassFile.FieldType)) ∈ wsAll := wT_8 238 rfl rfl
set_option maxRecDepth 100000 in
theorem kw_2056 : (Jvm.Cond.methodLink "GuardNetsModel" (433 : Nat) ({ cls := "GuardNetsModel", name := "plays", desc := "()V" } : Jvm.MethodName)) ∈ wsAll := wT_9 15 rfl rfl
set_option maxRecDepth 100000 in
theorem kw_2058 : (Jvm.Cond.instanceMethod ({ cls := "GuardNetsModel", name := "plays", desc := "()V" } : Jvm.MethodName)) ∈ wsAll := wT_9 17 rfl rfl
set_option maxRecDepth 100000 in
theorem kw_2059 : (Jvm.Cond.code ({ cls := "GuardNetsModel", name := "plays", desc := "()V" } : Jvm.MethodName) prog_14_method_97_code (6 : Nat) (Option.none : Option Jvm.ClassFile.FieldType)) ∈ wsAll := wT_9 18 rfl rfl
set_option maxRecDepth 100000 in
theorem kw_2060 : (Jvm.Cond.methodLink "GuardNetsModel" (421 : Nat) ({ cls := "GuardNetsModel", name := "greatest", desc := "(II)I" } : Jvm.MethodName)) ∈ wsAll := wT_9 19 rfl rfl
set_option maxRecDepth 100000 in
theorem kw_2062 : (Jvm.Cond.instanceMethod ({ cls := "GuardNetsModel", name := "greatest", desc := "(II)I" } : Jvm.MethodName)) ∈ wsAll := wT_9 21 rfl rfl
set_option maxRecDepth 100000 in
theorem kw_2063 : (Jvm.Cond.code ({ cls := "GuardNetsModel", name := "greatest", desc := "(II)I" } : Jvm.MethodName) prog_14_method_91_code (6 : Nat) (Option.some Jvm.ClassFile.FieldType.int)) ∈ wsAll := wT_9 22 rfl rfl
set_option maxRecDepth 100000 in
theorem kw_2064 : (Jvm.Cond.methodLink "GuardNetsModel" (424 : Nat) ({ cls := "GuardNetsModel", name := "setsCell", desc := "(III)V" } : Jvm.MethodName)) ∈ wsAll := wT_9 23 rfl rfl
set_option maxRecDepth 100000 in
theorem kw_2066 : (Jvm.Cond.instanceMethod ({ cls := "GuardNetsModel", name := "setsCell", desc := "(III)V" } : Jvm.MethodName)) ∈ wsAll := wT_9 25 rfl rfl
set_option maxRecDepth 100000 in
theorem kw_2067 : (Jvm.Cond.code ({ cls := "GuardNetsModel", name := "setsCell", desc := "(III)V" } : Jvm.MethodName) prog_14_method_93_code (4 : Nat) (Option.none : Option Jvm.ClassFile.FieldType)) ∈ wsAll := wT_9 26 rfl rfl
set_option maxRecDepth 100000 in
theorem kw_2068 : (Jvm.Cond.methodLink "GuardNetsModel" (411 : Nat) ({ cls := "GuardNetsModel", name := "cell", desc := "(II)I" } : Jvm.MethodName)) ∈ wsAll := wT_9 27 rfl rfl
set_option maxRecDepth 100000 in
theorem kw_2070 : (Jvm.Cond.instanceMethod ({ cls := "GuardNetsModel", name := "cell", desc := "(II)I" } : Jvm.MethodName)) ∈ wsAll := wT_9 29 rfl rfl
set_option maxRecDepth 100000 in
theorem kw_2071 : (Jvm.Cond.code ({ cls := "GuardNetsModel", name := "cell", desc := "(II)I" } : Jvm.MethodName) prog_14_method_92_code (3 : Nat) (Option.some Jvm.ClassFile.FieldType.int)) ∈ wsAll := wT_9 30 rfl rfl
set_option maxRecDepth 100000 in
theorem kw_2072 : (Jvm.Cond.methodLink "GuardNetsModel" (427 : Nat) ({ cls := "GuardNetsModel", name := "rowOf", desc := "(II)I" } : Jvm.MethodName)) ∈ wsAll := wT_9 31 rfl rfl
set_option maxRecDepth 100000 in
theorem kw_2074 : (Jvm.Cond.instanceMethod ({ cls := "GuardNetsModel", name := "rowOf", desc := "(II)I" } : Jvm.MethodName)) ∈ wsAll := wT_9 33 rfl rfl
set_option maxRecDepth 100000 in
theorem kw_2075 : (Jvm.Cond.code ({ cls := "GuardNetsModel", name := "rowOf", desc := "(II)I" } : Jvm.MethodName) prog_14_method_96_code (7 : Nat) (Option.some Jvm.ClassFile.FieldType.int)) ∈ wsAll := wT_9 34 rfl rfl
set_option maxRecDepth 100000 in
theorem kw_2076 : (Jvm.Cond.methodLink "GuardNetsModel" (414 : Nat) ({ cls := "GuardNetsModel", name := "multiplies", desc := "(III)V" } : Jvm.MethodName)) ∈ wsAll := wT_9 35 rfl rfl
set_option maxRecDepth 100000 in
theorem kw_2078 : (Jvm.Cond.instanceMethod ({ cls := "GuardNetsModel", name := "multiplies", desc := "(III)V" } : Jvm.MethodName)) ∈ wsAll := wT_9 37 rfl rfl
set_option maxRecDepth 100000 in
theorem kw_2079 : (Jvm.Cond.code ({ cls := "GuardNetsModel", name := "multiplies", desc := "(III)V" } : Jvm.MethodName) prog_14_method_56_code (10 : Nat) (Option.none : Option Jvm.ClassFile.FieldType)) ∈ wsAll := wT_9 38 rfl rfl
set_option maxRecDepth 100000 in
theorem kw_2080 : (Jvm.Cond.methodLink "GuardNetsModel" (430 : Nat) ({ cls := "GuardNetsModel", name := "turns", desc := "(III)V" } : Jvm.MethodName)) ∈ wsAll := wT_9 39 rfl rfl
set_option maxRecDepth 100000 in
theorem kw_2082 : (Jvm.Cond.instanceMethod ({ cls := "GuardNetsModel", name := "turns", desc := "(III)V" } : Jvm.MethodName)) ∈ wsAll := wT_9 41 rfl rfl
set_option maxRecDepth 100000 in
theorem kw_2083 : (Jvm.Cond.code ({ cls := "GuardNetsModel", name := "turns", desc := "(III)V" } : Jvm.MethodName) prog_14_method_95_code (8 : Nat) (Option.none : Option Jvm.ClassFile.FieldType)) ∈ wsAll := wT_9 42 rfl rfl
set_option maxRecDepth 100000 in
theorem kw_2084 : (Jvm.Cond.methodLink "GuardNetsModel" (417 : Nat) ({ cls := "GuardNetsModel", name := "turnsCell", desc := "(IIIII)V" } : Jvm.MethodName)) ∈ wsAll := wT_9 43 rfl rfl
set_option maxRecDepth 100000 in
theorem kw_2086 : (Jvm.Cond.instanceMethod ({ cls := "GuardNetsModel", name := "turnsCell", desc := "(IIIII)V" } : Jvm.MethodName)) ∈ wsAll := wT_9 45 rfl rfl
set_option maxRecDepth 100000 in
theorem kw_2087 : (Jvm.Cond.code ({ cls := "GuardNetsModel", name := "turnsCell", desc := "(IIIII)V" } : Jvm.MethodName) prog_14_method_94_code (9 : Nat) (Option.none : Option Jvm.ClassFile.FieldType)) ∈ wsAll := wT_9 46 rfl rfl
set_option maxRecDepth 100000 in
theorem kw_2096 : (Jvm.Cond.methodLink "GuardNetsModel" (439 : Nat) ({ cls := "GuardNetsModel", name := "given", desc := "(I)I" } : Jvm.MethodName)) ∈ wsAll := wT_9 55 rfl rfl
set_option maxRecDepth 100000 in
theorem kw_2098 : (Jvm.Cond.instanceMethod ({ cls := "GuardNetsModel", name := "given", desc := "(I)I" } : Jvm.MethodName)) ∈ wsAll := wT_9 57 rfl rfl
set_option maxRecDepth 100000 in
theorem kw_2099 : (Jvm.Cond.code ({ cls := "GuardNetsModel", name := "given", desc := "(I)I" } : Jvm.MethodName) prog_14_method_100_code (4 : Nat) (Option.some Jvm.ClassFile.FieldType.int)) ∈ wsAll := wT_9 58 rfl rfl
set_option maxRecDepth 100000 in
theorem kw_2100 : (Jvm.Cond.methodLink "GuardNetsModel" (442 : Nat) ({ cls := "GuardNetsModel", name := "cheapest", desc := "(I)I" } : Jvm.MethodName)) ∈ wsAll := wT_9 59 rfl rfl
set_option maxRecDepth 100000 in
theorem kw_2102 : (Jvm.Cond.instanceMethod ({ cls := "GuardNetsModel", name := "cheapest", desc := "(I)I" } : Jvm.MethodName)) ∈ wsAll := wT_9 61 rfl rfl
set_option maxRecDepth 100000 in
theorem kw_2103 : (Jvm.Cond.code ({ cls := "GuardNetsModel", name := "cheapest", desc := "(I)I" } : Jvm.MethodName) prog_14_method_101_code (2 : Nat) (Option.some Jvm.ClassFile.FieldType.int)) ∈ wsAll := wT_9 62 rfl rfl
set_option maxRecDepth 100000 in
theorem kw_2108 : (Jvm.Cond.methodLink "GuardNetsModel" (448 : Nat) ({ cls := "GuardNetsModel", name := "isMarks", desc := "(II)Z" } : Jvm.MethodName)) ∈ wsAll := wT_9 67 rfl rfl
set_option maxRecDepth 100000 in
theorem kw_2109 : (Jvm.Cond.static ({ cls := "GuardNetsModel", name := "isMarks", desc := "(II)Z" } : Jvm.MethodName)) ∈ wsAll := wT_9 68 rfl rfl
set_option maxRecDepth 100000 in
theorem kw_2110 : (Jvm.Cond.code ({ cls := "GuardNetsModel", name := "isMarks", desc := "(II)Z" } : Jvm.MethodName) prog_14_method_104_code (2 : Nat) (Option.some Jvm.ClassFile.FieldType.boolean)) ∈ wsAll := wT_9 69 rfl rfl
set_option maxRecDepth 100000 in
theorem kw_2111 : (Jvm.Cond.methodLink "GuardNetsModel" (451 : Nat) ({ cls := "GuardNetsModel", name := "mayBe", desc := "(II)I" } : Jvm.MethodName)) ∈ wsAll := wT_9 70 rfl rfl
set_option maxRecDepth 100000 in
theorem kw_2113 : (Jvm.Cond.instanceMethod ({ cls := "GuardNetsModel", name := "mayBe", desc := "(II)I" } : Jvm.MethodName)) ∈ wsAll := wT_9 72 rfl rfl
set_option maxRecDepth 100000 in
theorem kw_2114 : (Jvm.Cond.code ({ cls := "GuardNetsModel", name := "mayBe", desc := "(II)I" } : Jvm.MethodName) prog_14_method_105_code (6 : Nat) (Option.some Jvm.ClassFile.FieldType.int)) ∈ wsAll := wT_9 73 rfl rfl
set_option maxRecDepth 100000 in
theorem kw_2115 : (Jvm.Cond.methodLink "GuardNetsModel" (445 : Nat) ({ cls := "GuardNetsModel", name := "marksOf", desc := "(I)I" } : Jvm.MethodName)) ∈ wsAll := wT_9 74 rfl rfl
set_option maxRecDepth 100000 in
theorem kw_2117 : (Jvm.Cond.instanceMethod ({ cls := "GuardNetsModel", name := "marksOf", desc := "(I)I" } : Jvm.MethodName)) ∈ wsAll := wT_9 76 rfl rfl
set_option maxRecDepth 100000 in
theorem kw_2118 : (Jvm.Cond.code ({ cls := "GuardNetsModel", name := "marksOf", desc := "(I)I" } : Jvm.MethodName) prog_14_method_103_code (4 : Nat) (Option.some Jvm.ClassFile.FieldType.int)) ∈ wsAll := wT_9 77 rfl rfl
set_option maxRecDepth 100000 in
theorem kw_2139 : (Jvm.Cond.methodLink "GuardNetsModel" (457 : Nat) ({ cls := "GuardNetsModel", name := "reachedOf", desc := "(II)I" } : Jvm.MethodName)) ∈ wsAll := wT_9 98 rfl rfl
set_option maxRecDepth 100000 in
theorem kw_2141 : (Jvm.Cond.instanceMethod ({ cls := "GuardNetsModel", name := "reachedOf", desc := "(II)I" } : Jvm.MethodName)) ∈ wsAll := wT_9 100 rfl rfl
set_option maxRecDepth 100000 in
theorem kw_2142 : (Jvm.Cond.code ({ cls := "GuardNetsModel", name := "reachedOf", desc := "(II)I" } : Jvm.MethodName) prog_14_method_111_code (7 : Nat) (Option.some Jvm.ClassFile.FieldType.int)) ∈ wsAll := wT_9 101 rfl rfl
set_option maxRecDepth 100000 in
theorem kw_2155 : (Jvm.Cond.methodLink "GuardNetsModel" (460 : Nat) ({ cls := "GuardNetsModel", name := "standing", desc := "(II)I" } : Jvm.MethodName)) ∈ wsAll := wT_9 114 rfl rfl
set_option maxRecDepth 100000 in
theorem kw_2157 : (Jvm.Cond.instanceMethod ({ cls := "GuardNetsModel", name := "standing", desc := "(II)I" } : Jvm.MethodName)) ∈ wsAll := wT_9 116 rfl rfl
set_option maxRecDepth 100000 in
theorem kw_2158 : (Jvm.Cond.code ({ cls := "GuardNetsModel", name := "standing", desc := "(II)I" } : Jvm.MethodName) prog_14_method_115_code (5 : Nat) (Option.some Jvm.ClassFile.FieldType.int)) ∈ wsAll := wT_9 117 rfl rfl
set_option maxRecDepth 100000 in
theorem kw_2163 : (Jvm.Cond.methodLink "GuardNetsModel" (463 : Nat) ({ cls := "GuardNetsModel", name := "beginsAt", desc := "(II)I" } : Jvm.MethodName)) ∈ wsAll := wT_9 122 rfl rfl
set_option maxRecDepth 100000 in
theorem kw_2165 : (Jvm.Cond.instanceMethod ({ cls := "GuardNetsModel", name := "beginsAt", desc := "(II)I" } : Jvm.MethodName)) ∈ wsAll := wT_9 124 rfl rfl
set_option maxRecDepth 100000 in
theorem kw_2166 : (Jvm.Cond.code ({ cls := "GuardNetsModel", name := "beginsAt", desc := "(II)I" } : Jvm.MethodName) prog_14_method_117_code (5 : Nat) (Option.some Jvm.ClassFile.FieldType.int)) ∈ wsAll := wT_9 125 rfl rfl
set_option maxRecDepth 100000 in
theorem kw_2171 : (Jvm.Cond.methodLink "GuardNetsModel" (475 : Nat) ({ cls := "GuardNetsModel", name := "whyOrder", desc := "(IIZ)I" } : Jvm.MethodName)) ∈ wsAll := wT_9 130 rfl rfl
set_option maxRecDepth 100000 in
theorem kw_2172 : (Jvm.Cond.static ({ cls := "GuardNetsModel", name := "whyOrder", desc := "(IIZ)I" } : Jvm.MethodName)) ∈ wsAll := wT_9 131 rfl rfl
set_option maxRecDepth 100000 in
theorem kw_2173 : (Jvm.Cond.code ({ cls := "GuardNetsModel", name := "whyOrder", desc := "(IIZ)I" } : Jvm.MethodName) prog_14_method_122_code (3 : Nat) (Option.some Jvm.ClassFile.FieldType.int)) ∈ wsAll := wT_9 132 rfl rfl
set_option maxRecDepth 100000 in
theorem kw_2174 : (Jvm.Cond.methodLink "GuardNetsModel" (479 : Nat) ({ cls := "GuardNetsModel", name := "findOrder", desc := "(II)V" } : Jvm.MethodName)) ∈ wsAll := wT_9 133 rfl rfl
set_option maxRecDepth 100000 in
theorem kw_2176 : (Jvm.Cond.instanceMethod ({ cls := "GuardNetsModel", name := "findOrder", desc := "(II)V" } : Jvm.MethodName)) ∈ wsAll := wT_9 135 rfl rfl
set_option maxRecDepth 100000 in
theorem kw_2177 : (Jvm.Cond.code ({ cls := "GuardNetsModel", name := "findOrder", desc := "(II)V" } : Jvm.MethodName) prog_14_method_121_code (7 : Nat) (Option.none : Option Jvm.ClassFile.FieldType)) ∈ wsAll := wT_9 136 rfl rfl
set_option maxRecDepth 100000 in
theorem kw_2178 : (Jvm.Cond.methodLink "GuardNetsModel" (469 : Nat) ({ cls := "GuardNetsModel", name := "endOf", desc := "(II)I" } : Jvm.MethodName)) ∈ wsAll := wT_9 137 rfl rfl
set_option maxRecDepth 100000 in
theorem kw_2180 : (Jvm.Cond.instanceMethod ({ cls := "GuardNetsModel", name := "endOf", desc := "(II)I" } : Jvm.MethodName)) ∈ wsAll := wT_9 139 rfl rfl
set_option maxRecDepth 100000 in
theorem kw_2181 : (Jvm.Cond.code ({ cls := "GuardNetsModel", name := "endOf", desc := "(II)I" } : Jvm.MethodName) prog_14_method_119_code (5 : Nat) (Option.some Jvm.ClassFile.FieldType.int)) ∈ wsAll := wT_9 140 rfl rfl
set_option maxRecDepth 100000 in
theorem kw_2182 : (Jvm.Cond.methodLink "GuardNetsModel" (472 : Nat) ({ cls := "GuardNetsModel", name := "next", desc := "(I)Z" } : Jvm.MethodName)) ∈ wsAll := wT_9 141 rfl rfl
set_option maxRecDepth 100000 in
theorem kw_2184 : (Jvm.Cond.instanceMethod ({ cls := "GuardNetsModel", name := "next", desc := "(I)Z" } : Jvm.MethodName)) ∈ wsAll := wT_9 143 rfl rfl
set_option maxRecDepth 100000 in
theorem kw_2185 : (Jvm.Cond.code ({ cls := "GuardNetsModel", name := "next", desc := "(I)Z" } : Jvm.MethodName) prog_14_method_120_code (7 : Nat) (Option.some Jvm.ClassFile.FieldType.boolean)) ∈ wsAll := wT_9 144 rfl rfl
set_option maxRecDepth 100000 in
theorem kw_2203 : (Jvm.Cond.instanceMethod ({ cls := "GuardNetsModel", name := "count", desc := "(I)I" } : Jvm.MethodName)) ∈ wsAll := wT_9 162 rfl rfl
set_option maxRecDepth 100000 in
theorem kw_2204 : (Jvm.Cond.selects "GuardNetsModel" ({ cls := "GuardNetsModel", name := "count", desc := "(I)I" } : Jvm.MethodName) ({ cls := "GuardNetsModel", name := "count", desc := "(I)I" } : Jvm.MethodName)) ∈ wsAll := wT_9 163 rfl rfl
set_option maxRecDepth 100000 in
theorem kw_2205 : (Jvm.Cond.code ({ cls := "GuardNetsModel", name := "count", desc := "(I)I" } : Jvm.MethodName) prog_14_method_128_code (4 : Nat) (Option.some Jvm.ClassFile.FieldType.int)) ∈ wsAll := wT_9 164 rfl rfl
set_option maxRecDepth 100000 in
theorem kw_2210 : (Jvm.Cond.constantLong "GuardNetsModel" (482 : Nat) (269 : Int64)) ∈ wsAll := wT_9 169 rfl rfl
set_option maxRecDepth 100000 in
theorem kw_2211 : (Jvm.Cond.constantLong "GuardNetsModel" (484 : Nat) (31 : Int64)) ∈ wsAll := wT_9 170 rfl rfl
set_option maxRecDepth 100000 in
theorem kw_2212 : (Jvm.Cond.methodLink "GuardNetsModel" (486 : Nat) ({ cls := "GuardNetsModel", name := "count", desc := "(I)I" } : Jvm.MethodName)) ∈ wsAll := wT_9 171 rfl rfl
