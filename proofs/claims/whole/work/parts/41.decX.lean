theorem dX8_rankSteps_49 : decode cX8_rankSteps 49 = .ok (.putfield 18, 3) := by decide +kernel
theorem dX8_rankSteps_52 : decode cX8_rankSteps 52 = .ok (.iinc 2 1, 3) := by decide +kernel
theorem dX8_rankSteps_55 : decode cX8_rankSteps 55 = .ok (.goto (-48), 3) := by decide +kernel
theorem dX8_rankSteps_58 : decode cX8_rankSteps 58 = .ok (.return_, 1) := by decide +kernel
theorem dX8_fillStep_0 : decode cX8_fillStep 0 = .ok (.iconst 0, 1) := by decide +kernel
theorem dX8_fillStep_1 : decode cX8_fillStep 1 = .ok (.istore_n 2, 1) := by decide +kernel
theorem dX8_fillStep_2 : decode cX8_fillStep 2 = .ok (.iload_n 2, 1) := by decide +kernel
theorem dX8_fillStep_3 : decode cX8_fillStep 3 = .ok (.aload_n 0, 1) := by decide +kernel
theorem dX8_fillStep_4 : decode cX8_fillStep 4 = .ok (.getfield 22, 3) := by decide +kernel
theorem dX8_fillStep_7 : decode cX8_fillStep 7 = .ok (.if_icmp .ge 66, 3) := by decide +kernel
theorem dX8_fillStep_10 : decode cX8_fillStep 10 = .ok (.iload_n 1, 1) := by decide +kernel
theorem dX8_fillStep_11 : decode cX8_fillStep 11 = .ok (.getstatic 98, 3) := by decide +kernel
theorem dX8_fillStep_14 : decode cX8_fillStep 14 = .ok (.arraylength, 1) := by decide +kernel
theorem dX8_fillStep_15 : decode cX8_fillStep 15 = .ok (.if_icmp .ge 24, 3) := by decide +kernel
theorem dX8_fillStep_18 : decode cX8_fillStep 18 = .ok (.aload_n 0, 1) := by decide +kernel
theorem dX8_fillStep_19 : decode cX8_fillStep 19 = .ok (.getfield 35, 3) := by decide +kernel
theorem dX8_fillStep_22 : decode cX8_fillStep 22 = .ok (.iload_n 1, 1) := by decide +kernel
theorem dX8_fillStep_23 : decode cX8_fillStep 23 = .ok (.aload_n 0, 1) := by decide +kernel
theorem dX8_fillStep_24 : decode cX8_fillStep 24 = .ok (.getfield 22, 3) := by decide +kernel
theorem dX8_fillStep_27 : decode cX8_fillStep 27 = .ok (.imul, 1) := by decide +kernel
theorem dX8_fillStep_28 : decode cX8_fillStep 28 = .ok (.iload_n 2, 1) := by decide +kernel
theorem dX8_fillStep_29 : decode cX8_fillStep 29 = .ok (.iadd, 1) := by decide +kernel
theorem dX8_fillStep_30 : decode cX8_fillStep 30 = .ok (.getstatic 98, 3) := by decide +kernel
theorem dX8_fillStep_33 : decode cX8_fillStep 33 = .ok (.iload_n 1, 1) := by decide +kernel
theorem dX8_fillStep_34 : decode cX8_fillStep 34 = .ok (.laload, 1) := by decide +kernel
theorem dX8_fillStep_35 : decode cX8_fillStep 35 = .ok (.lastore, 1) := by decide +kernel
theorem dX8_fillStep_36 : decode cX8_fillStep 36 = .ok (.goto 31, 3) := by decide +kernel
theorem dX8_fillStep_39 : decode cX8_fillStep 39 = .ok (.aload_n 0, 1) := by decide +kernel
theorem dX8_fillStep_40 : decode cX8_fillStep 40 = .ok (.getfield 35, 3) := by decide +kernel
theorem dX8_fillStep_43 : decode cX8_fillStep 43 = .ok (.iload_n 1, 1) := by decide +kernel
theorem dX8_fillStep_44 : decode cX8_fillStep 44 = .ok (.aload_n 0, 1) := by decide +kernel
theorem dX8_fillStep_45 : decode cX8_fillStep 45 = .ok (.getfield 22, 3) := by decide +kernel
theorem dX8_fillStep_48 : decode cX8_fillStep 48 = .ok (.imul, 1) := by decide +kernel
theorem dX8_fillStep_49 : decode cX8_fillStep 49 = .ok (.iload_n 2, 1) := by decide +kernel
theorem dX8_fillStep_50 : decode cX8_fillStep 50 = .ok (.iadd, 1) := by decide +kernel
theorem dX8_fillStep_51 : decode cX8_fillStep 51 = .ok (.iload_n 2, 1) := by decide +kernel
theorem dX8_fillStep_52 : decode cX8_fillStep 52 = .ok (.iload_n 1, 1) := by decide +kernel
theorem dX8_fillStep_53 : decode cX8_fillStep 53 = .ok (.invokestatic 101, 3) := by decide +kernel
theorem dX8_fillStep_56 : decode cX8_fillStep 56 = .ok (.ifCond .eq 9, 3) := by decide +kernel
theorem dX8_fillStep_59 : decode cX8_fillStep 59 = .ok (.ldc2_w 105, 3) := by decide +kernel
theorem dX8_fillStep_62 : decode cX8_fillStep 62 = .ok (.goto 4, 3) := by decide +kernel
theorem dX8_fillStep_65 : decode cX8_fillStep 65 = .ok (.lconst 0, 1) := by decide +kernel
theorem dX8_fillStep_66 : decode cX8_fillStep 66 = .ok (.lastore, 1) := by decide +kernel
theorem dX8_fillStep_67 : decode cX8_fillStep 67 = .ok (.iinc 2 1, 3) := by decide +kernel
theorem dX8_fillStep_70 : decode cX8_fillStep 70 = .ok (.goto (-68), 3) := by decide +kernel
theorem dX8_fillStep_73 : decode cX8_fillStep 73 = .ok (.return_, 1) := by decide +kernel
theorem dX8_hasRank_0 : decode cX8_hasRank 0 = .ok (.iload_n 0, 1) := by decide +kernel
theorem dX8_hasRank_1 : decode cX8_hasRank 1 = .ok (.iload_n 1, 1) := by decide +kernel
theorem dX8_hasRank_2 : decode cX8_hasRank 2 = .ok (.getstatic 98, 3) := by decide +kernel
theorem dX8_hasRank_5 : decode cX8_hasRank 5 = .ok (.arraylength, 1) := by decide +kernel
theorem dX8_hasRank_6 : decode cX8_hasRank 6 = .ok (.isub, 1) := by decide +kernel
theorem dX8_hasRank_7 : decode cX8_hasRank 7 = .ok (.ishr, 1) := by decide +kernel
theorem dX8_hasRank_8 : decode cX8_hasRank 8 = .ok (.iconst 1, 1) := by decide +kernel
theorem dX8_hasRank_9 : decode cX8_hasRank 9 = .ok (.iand, 1) := by decide +kernel
theorem dX8_hasRank_10 : decode cX8_hasRank 10 = .ok (.iconst 1, 1) := by decide +kernel
theorem dX8_hasRank_11 : decode cX8_hasRank 11 = .ok (.if_icmp .ne 7, 3) := by decide +kernel
theorem dX8_hasRank_14 : decode cX8_hasRank 14 = .ok (.iconst 1, 1) := by decide +kernel
theorem dX8_hasRank_15 : decode cX8_hasRank 15 = .ok (.goto 4, 3) := by decide +kernel
theorem dX8_hasRank_18 : decode cX8_hasRank 18 = .ok (.iconst 0, 1) := by decide +kernel
theorem dX8_hasRank_19 : decode cX8_hasRank 19 = .ok (.ireturn, 1) := by decide +kernel
theorem dX8_markNeeded_0 : decode cX8_markNeeded 0 = .ok (.iconst 0, 1) := by decide +kernel
theorem dX8_markNeeded_1 : decode cX8_markNeeded 1 = .ok (.istore_n 1, 1) := by decide +kernel
theorem dX8_markNeeded_2 : decode cX8_markNeeded 2 = .ok (.iload_n 1, 1) := by decide +kernel
theorem dX8_markNeeded_3 : decode cX8_markNeeded 3 = .ok (.aload_n 0, 1) := by decide +kernel
theorem dX8_markNeeded_4 : decode cX8_markNeeded 4 = .ok (.getfield 25, 3) := by decide +kernel
theorem dX8_markNeeded_7 : decode cX8_markNeeded 7 = .ok (.if_icmp .ge 16, 3) := by decide +kernel
theorem dX8_markNeeded_10 : decode cX8_markNeeded 10 = .ok (.aload_n 0, 1) := by decide +kernel
theorem dX8_markNeeded_11 : decode cX8_markNeeded 11 = .ok (.getfield 45, 3) := by decide +kernel
theorem dX8_markNeeded_14 : decode cX8_markNeeded 14 = .ok (.iload_n 1, 1) := by decide +kernel
theorem dX8_markNeeded_15 : decode cX8_markNeeded 15 = .ok (.iconst 0, 1) := by decide +kernel
theorem dX8_markNeeded_16 : decode cX8_markNeeded 16 = .ok (.bastore, 1) := by decide +kernel
theorem dX8_markNeeded_17 : decode cX8_markNeeded 17 = .ok (.iinc 1 1, 3) := by decide +kernel
theorem dX8_markNeeded_20 : decode cX8_markNeeded 20 = .ok (.goto (-18), 3) := by decide +kernel
theorem dX8_markNeeded_23 : decode cX8_markNeeded 23 = .ok (.aload_n 0, 1) := by decide +kernel
theorem dX8_markNeeded_24 : decode cX8_markNeeded 24 = .ok (.getfield 45, 3) := by decide +kernel
theorem dX8_markNeeded_27 : decode cX8_markNeeded 27 = .ok (.aload_n 0, 1) := by decide +kernel
theorem dX8_markNeeded_28 : decode cX8_markNeeded 28 = .ok (.getfield 25, 3) := by decide +kernel
theorem dX8_markNeeded_31 : decode cX8_markNeeded 31 = .ok (.iconst 1, 1) := by decide +kernel
theorem dX8_markNeeded_32 : decode cX8_markNeeded 32 = .ok (.bastore, 1) := by decide +kernel
theorem dX8_markNeeded_33 : decode cX8_markNeeded 33 = .ok (.aload_n 0, 1) := by decide +kernel
theorem dX8_markNeeded_34 : decode cX8_markNeeded 34 = .ok (.getfield 25, 3) := by decide +kernel
theorem dX8_markNeeded_37 : decode cX8_markNeeded 37 = .ok (.istore_n 1, 1) := by decide +kernel
theorem dX8_markNeeded_38 : decode cX8_markNeeded 38 = .ok (.iload_n 1, 1) := by decide +kernel
theorem dX8_markNeeded_39 : decode cX8_markNeeded 39 = .ok (.ifCond .lt 94, 3) := by decide +kernel
theorem dX8_markNeeded_42 : decode cX8_markNeeded 42 = .ok (.aload_n 0, 1) := by decide +kernel
theorem dX8_markNeeded_43 : decode cX8_markNeeded 43 = .ok (.getfield 45, 3) := by decide +kernel
theorem dX8_markNeeded_46 : decode cX8_markNeeded 46 = .ok (.iload_n 1, 1) := by decide +kernel
theorem dX8_markNeeded_47 : decode cX8_markNeeded 47 = .ok (.baload, 1) := by decide +kernel
theorem dX8_markNeeded_48 : decode cX8_markNeeded 48 = .ok (.ifCond .eq 27, 3) := by decide +kernel
theorem dX8_markNeeded_51 : decode cX8_markNeeded 51 = .ok (.aload_n 0, 1) := by decide +kernel
theorem dX8_markNeeded_52 : decode cX8_markNeeded 52 = .ok (.getfield 62, 3) := by decide +kernel
theorem dX8_markNeeded_55 : decode cX8_markNeeded 55 = .ok (.getfield 85, 3) := by decide +kernel
theorem dX8_markNeeded_58 : decode cX8_markNeeded 58 = .ok (.iload_n 1, 1) := by decide +kernel
theorem dX8_markNeeded_59 : decode cX8_markNeeded 59 = .ok (.iaload, 1) := by decide +kernel
theorem dX8_markNeeded_60 : decode cX8_markNeeded 60 = .ok (.ifCond .eq 15, 3) := by decide +kernel
theorem dX8_markNeeded_63 : decode cX8_markNeeded 63 = .ok (.aload_n 0, 1) := by decide +kernel
theorem dX8_markNeeded_64 : decode cX8_markNeeded 64 = .ok (.getfield 62, 3) := by decide +kernel
theorem dX8_markNeeded_67 : decode cX8_markNeeded 67 = .ok (.getfield 88, 3) := by decide +kernel
theorem dX8_markNeeded_70 : decode cX8_markNeeded 70 = .ok (.iload_n 1, 1) := by decide +kernel
theorem dX8_markNeeded_71 : decode cX8_markNeeded 71 = .ok (.iaload, 1) := by decide +kernel
theorem dX8_markNeeded_72 : decode cX8_markNeeded 72 = .ok (.goto 4, 3) := by decide +kernel
theorem dX8_markNeeded_75 : decode cX8_markNeeded 75 = .ok (.iconst 0, 1) := by decide +kernel
theorem dX8_markNeeded_76 : decode cX8_markNeeded 76 = .ok (.istore_n 2, 1) := by decide +kernel
theorem dX8_markNeeded_77 : decode cX8_markNeeded 77 = .ok (.iconst 0, 1) := by decide +kernel
theorem dX8_markNeeded_78 : decode cX8_markNeeded 78 = .ok (.istore_n 3, 1) := by decide +kernel
theorem dX8_markNeeded_79 : decode cX8_markNeeded 79 = .ok (.iload_n 3, 1) := by decide +kernel
theorem dX8_markNeeded_80 : decode cX8_markNeeded 80 = .ok (.iload_n 2, 1) := by decide +kernel
theorem dX8_markNeeded_81 : decode cX8_markNeeded 81 = .ok (.if_icmp .ge 46, 3) := by decide +kernel
theorem dX8_markNeeded_84 : decode cX8_markNeeded 84 = .ok (.aload_n 0, 1) := by decide +kernel
theorem dX8_markNeeded_85 : decode cX8_markNeeded 85 = .ok (.getfield 62, 3) := by decide +kernel
theorem dX8_markNeeded_88 : decode cX8_markNeeded 88 = .ok (.iload_n 1, 1) := by decide +kernel
theorem dX8_markNeeded_89 : decode cX8_markNeeded 89 = .ok (.iload_n 3, 1) := by decide +kernel
theorem dX8_markNeeded_90 : decode cX8_markNeeded 90 = .ok (.invokevirtual 107, 3) := by decide +kernel
theorem dX8_markNeeded_93 : decode cX8_markNeeded 93 = .ok (.istore 4, 2) := by decide +kernel
theorem dX8_markNeeded_95 : decode cX8_markNeeded 95 = .ok (.aload_n 0, 1) := by decide +kernel
theorem dX8_markNeeded_96 : decode cX8_markNeeded 96 = .ok (.getfield 45, 3) := by decide +kernel
theorem dX8_markNeeded_99 : decode cX8_markNeeded 99 = .ok (.iload 4, 2) := by decide +kernel
theorem dX8_markNeeded_101 : decode cX8_markNeeded 101 = .ok (.baload, 1) := by decide +kernel
theorem dX8_markNeeded_102 : decode cX8_markNeeded 102 = .ok (.ifCond .ne 11, 3) := by decide +kernel
theorem dX8_markNeeded_105 : decode cX8_markNeeded 105 = .ok (.aload_n 0, 1) := by decide +kernel
theorem dX8_markNeeded_106 : decode cX8_markNeeded 106 = .ok (.getfield 48, 3) := by decide +kernel
theorem dX8_markNeeded_109 : decode cX8_markNeeded 109 = .ok (.iload 4, 2) := by decide +kernel
theorem dX8_markNeeded_111 : decode cX8_markNeeded 111 = .ok (.iload_n 1, 1) := by decide +kernel
theorem dX8_markNeeded_112 : decode cX8_markNeeded 112 = .ok (.iastore, 1) := by decide +kernel
theorem dX8_markNeeded_113 : decode cX8_markNeeded 113 = .ok (.aload_n 0, 1) := by decide +kernel
theorem dX8_markNeeded_114 : decode cX8_markNeeded 114 = .ok (.getfield 45, 3) := by decide +kernel
theorem dX8_markNeeded_117 : decode cX8_markNeeded 117 = .ok (.iload 4, 2) := by decide +kernel
theorem dX8_markNeeded_119 : decode cX8_markNeeded 119 = .ok (.iconst 1, 1) := by decide +kernel
theorem dX8_markNeeded_120 : decode cX8_markNeeded 120 = .ok (.bastore, 1) := by decide +kernel
theorem dX8_markNeeded_121 : decode cX8_markNeeded 121 = .ok (.iinc 3 1, 3) := by decide +kernel
theorem dX8_markNeeded_124 : decode cX8_markNeeded 124 = .ok (.goto (-45), 3) := by decide +kernel
theorem dX8_markNeeded_127 : decode cX8_markNeeded 127 = .ok (.iinc 1 (-1), 3) := by decide +kernel
theorem dX8_markNeeded_130 : decode cX8_markNeeded 130 = .ok (.goto (-92), 3) := by decide +kernel
theorem dX8_markNeeded_133 : decode cX8_markNeeded 133 = .ok (.return_, 1) := by decide +kernel
theorem dX8_fillKnot_0 : decode cX8_fillKnot 0 = .ok (.bipush 16, 2) := by decide +kernel
theorem dX8_fillKnot_2 : decode cX8_fillKnot 2 = .ok (.istore_n 2, 1) := by decide +kernel
theorem dX8_fillKnot_3 : decode cX8_fillKnot 3 = .ok (.iload_n 2, 1) := by decide +kernel
theorem dX8_fillKnot_4 : decode cX8_fillKnot 4 = .ok (.bipush 55, 2) := by decide +kernel
theorem dX8_fillKnot_6 : decode cX8_fillKnot 6 = .ok (.if_icmp .ge 18, 3) := by decide +kernel
theorem dX8_fillKnot_9 : decode cX8_fillKnot 9 = .ok (.aload_n 0, 1) := by decide +kernel
theorem dX8_fillKnot_10 : decode cX8_fillKnot 10 = .ok (.getfield 39, 3) := by decide +kernel
theorem dX8_fillKnot_13 : decode cX8_fillKnot 13 = .ok (.iload_n 2, 1) := by decide +kernel
theorem dX8_fillKnot_14 : decode cX8_fillKnot 14 = .ok (.baload, 1) := by decide +kernel
theorem dX8_fillKnot_15 : decode cX8_fillKnot 15 = .ok (.ifCond .eq 9, 3) := by decide +kernel
theorem dX8_fillKnot_18 : decode cX8_fillKnot 18 = .ok (.iinc 2 1, 3) := by decide +kernel
theorem dX8_fillKnot_21 : decode cX8_fillKnot 21 = .ok (.goto (-18), 3) := by decide +kernel
theorem dX8_fillKnot_24 : decode cX8_fillKnot 24 = .ok (.aload_n 0, 1) := by decide +kernel
theorem dX8_fillKnot_25 : decode cX8_fillKnot 25 = .ok (.getfield 39, 3) := by decide +kernel
theorem dX8_fillKnot_28 : decode cX8_fillKnot 28 = .ok (.iload_n 2, 1) := by decide +kernel
theorem dX8_fillKnot_29 : decode cX8_fillKnot 29 = .ok (.iconst 1, 1) := by decide +kernel
theorem dX8_fillKnot_30 : decode cX8_fillKnot 30 = .ok (.bastore, 1) := by decide +kernel
theorem dX8_fillKnot_31 : decode cX8_fillKnot 31 = .ok (.aload_n 0, 1) := by decide +kernel
theorem dX8_fillKnot_32 : decode cX8_fillKnot 32 = .ok (.getfield 51, 3) := by decide +kernel
theorem dX8_fillKnot_35 : decode cX8_fillKnot 35 = .ok (.iload_n 1, 1) := by decide +kernel
theorem dX8_fillKnot_36 : decode cX8_fillKnot 36 = .ok (.iload_n 2, 1) := by decide +kernel
theorem dX8_fillKnot_37 : decode cX8_fillKnot 37 = .ok (.iastore, 1) := by decide +kernel
theorem dX8_fillKnot_38 : decode cX8_fillKnot 38 = .ok (.aload_n 0, 1) := by decide +kernel
theorem dX8_fillKnot_39 : decode cX8_fillKnot 39 = .ok (.getfield 62, 3) := by decide +kernel
theorem dX8_fillKnot_42 : decode cX8_fillKnot 42 = .ok (.getfield 85, 3) := by decide +kernel
theorem dX8_fillKnot_45 : decode cX8_fillKnot 45 = .ok (.iload_n 1, 1) := by decide +kernel
theorem dX8_fillKnot_46 : decode cX8_fillKnot 46 = .ok (.iaload, 1) := by decide +kernel
theorem dX8_fillKnot_47 : decode cX8_fillKnot 47 = .ok (.iconst 4, 1) := by decide +kernel
theorem dX8_fillKnot_48 : decode cX8_fillKnot 48 = .ok (.if_icmp .ne 11, 3) := by decide +kernel
theorem dX8_fillKnot_51 : decode cX8_fillKnot 51 = .ok (.aload_n 0, 1) := by decide +kernel
theorem dX8_fillKnot_52 : decode cX8_fillKnot 52 = .ok (.iload_n 1, 1) := by decide +kernel
theorem dX8_fillKnot_53 : decode cX8_fillKnot 53 = .ok (.invokevirtual 111, 3) := by decide +kernel
theorem dX8_fillKnot_56 : decode cX8_fillKnot 56 = .ok (.goto 8, 3) := by decide +kernel
theorem dX8_fillKnot_59 : decode cX8_fillKnot 59 = .ok (.aload_n 0, 1) := by decide +kernel
theorem dX8_fillKnot_60 : decode cX8_fillKnot 60 = .ok (.iload_n 1, 1) := by decide +kernel
theorem dX8_fillKnot_61 : decode cX8_fillKnot 61 = .ok (.invokevirtual 114, 3) := by decide +kernel
theorem dX8_fillKnot_64 : decode cX8_fillKnot 64 = .ok (.iconst 0, 1) := by decide +kernel
theorem dX8_fillKnot_65 : decode cX8_fillKnot 65 = .ok (.istore_n 3, 1) := by decide +kernel
theorem dX8_fillKnot_66 : decode cX8_fillKnot 66 = .ok (.iload_n 3, 1) := by decide +kernel
theorem dX8_fillKnot_67 : decode cX8_fillKnot 67 = .ok (.aload_n 0, 1) := by decide +kernel
theorem dX8_fillKnot_68 : decode cX8_fillKnot 68 = .ok (.getfield 62, 3) := by decide +kernel
theorem dX8_fillKnot_71 : decode cX8_fillKnot 71 = .ok (.getfield 88, 3) := by decide +kernel
theorem dX8_fillKnot_74 : decode cX8_fillKnot 74 = .ok (.iload_n 1, 1) := by decide +kernel
theorem dX8_fillKnot_75 : decode cX8_fillKnot 75 = .ok (.iaload, 1) := by decide +kernel
theorem dX8_fillKnot_76 : decode cX8_fillKnot 76 = .ok (.if_icmp .ge 57, 3) := by decide +kernel
theorem dX8_fillKnot_79 : decode cX8_fillKnot 79 = .ok (.aload_n 0, 1) := by decide +kernel
theorem dX8_fillKnot_80 : decode cX8_fillKnot 80 = .ok (.getfield 62, 3) := by decide +kernel
theorem dX8_fillKnot_83 : decode cX8_fillKnot 83 = .ok (.iload_n 1, 1) := by decide +kernel
theorem dX8_fillKnot_84 : decode cX8_fillKnot 84 = .ok (.iload_n 3, 1) := by decide +kernel
theorem dX8_fillKnot_85 : decode cX8_fillKnot 85 = .ok (.invokevirtual 107, 3) := by decide +kernel
theorem dX8_fillKnot_88 : decode cX8_fillKnot 88 = .ok (.istore 4, 2) := by decide +kernel
theorem dX8_fillKnot_90 : decode cX8_fillKnot 90 = .ok (.aload_n 0, 1) := by decide +kernel
theorem dX8_fillKnot_91 : decode cX8_fillKnot 91 = .ok (.getfield 62, 3) := by decide +kernel
theorem dX8_fillKnot_94 : decode cX8_fillKnot 94 = .ok (.getfield 85, 3) := by decide +kernel
theorem dX8_fillKnot_97 : decode cX8_fillKnot 97 = .ok (.iload 4, 2) := by decide +kernel
theorem dX8_fillKnot_99 : decode cX8_fillKnot 99 = .ok (.iaload, 1) := by decide +kernel
theorem dX8_fillKnot_100 : decode cX8_fillKnot 100 = .ok (.ifCond .eq 27, 3) := by decide +kernel
theorem dX8_fillKnot_103 : decode cX8_fillKnot 103 = .ok (.aload_n 0, 1) := by decide +kernel
theorem dX8_fillKnot_104 : decode cX8_fillKnot 104 = .ok (.getfield 48, 3) := by decide +kernel
theorem dX8_fillKnot_107 : decode cX8_fillKnot 107 = .ok (.iload 4, 2) := by decide +kernel
theorem dX8_fillKnot_109 : decode cX8_fillKnot 109 = .ok (.iaload, 1) := by decide +kernel
theorem dX8_fillKnot_110 : decode cX8_fillKnot 110 = .ok (.iload_n 1, 1) := by decide +kernel
theorem dX8_fillKnot_111 : decode cX8_fillKnot 111 = .ok (.if_icmp .ne 16, 3) := by decide +kernel
theorem dX8_fillKnot_114 : decode cX8_fillKnot 114 = .ok (.aload_n 0, 1) := by decide +kernel
theorem dX8_fillKnot_115 : decode cX8_fillKnot 115 = .ok (.getfield 39, 3) := by decide +kernel
theorem dX8_fillKnot_118 : decode cX8_fillKnot 118 = .ok (.aload_n 0, 1) := by decide +kernel
theorem dX8_fillKnot_119 : decode cX8_fillKnot 119 = .ok (.getfield 51, 3) := by decide +kernel
theorem dX8_fillKnot_122 : decode cX8_fillKnot 122 = .ok (.iload 4, 2) := by decide +kernel
theorem dX8_fillKnot_124 : decode cX8_fillKnot 124 = .ok (.iaload, 1) := by decide +kernel
theorem dX8_fillKnot_125 : decode cX8_fillKnot 125 = .ok (.iconst 0, 1) := by decide +kernel
theorem dX8_fillKnot_126 : decode cX8_fillKnot 126 = .ok (.bastore, 1) := by decide +kernel
theorem dX8_fillKnot_127 : decode cX8_fillKnot 127 = .ok (.iinc 3 1, 3) := by decide +kernel
theorem dX8_fillKnot_130 : decode cX8_fillKnot 130 = .ok (.goto (-64), 3) := by decide +kernel
theorem dX8_fillKnot_133 : decode cX8_fillKnot 133 = .ok (.return_, 1) := by decide +kernel
theorem dX8_fillRow_0 : decode cX8_fillRow 0 = .ok (.aload_n 0, 1) := by decide +kernel
theorem dX8_fillRow_1 : decode cX8_fillRow 1 = .ok (.getfield 51, 3) := by decide +kernel
theorem dX8_fillRow_4 : decode cX8_fillRow 4 = .ok (.iload_n 1, 1) := by decide +kernel
theorem dX8_fillRow_5 : decode cX8_fillRow 5 = .ok (.iaload, 1) := by decide +kernel
theorem dX8_fillRow_6 : decode cX8_fillRow 6 = .ok (.aload_n 0, 1) := by decide +kernel
theorem dX8_fillRow_7 : decode cX8_fillRow 7 = .ok (.getfield 22, 3) := by decide +kernel
theorem dX8_fillRow_10 : decode cX8_fillRow 10 = .ok (.imul, 1) := by decide +kernel
theorem dX8_fillRow_11 : decode cX8_fillRow 11 = .ok (.istore_n 2, 1) := by decide +kernel
theorem dX8_fillRow_12 : decode cX8_fillRow 12 = .ok (.aload_n 0, 1) := by decide +kernel
theorem dX8_fillRow_13 : decode cX8_fillRow 13 = .ok (.getfield 62, 3) := by decide +kernel
theorem dX8_fillRow_16 : decode cX8_fillRow 16 = .ok (.getfield 85, 3) := by decide +kernel
theorem dX8_fillRow_19 : decode cX8_fillRow 19 = .ok (.iload_n 1, 1) := by decide +kernel
theorem dX8_fillRow_20 : decode cX8_fillRow 20 = .ok (.iaload, 1) := by decide +kernel
theorem dX8_fillRow_21 : decode cX8_fillRow 21 = .ok (.iconst 1, 1) := by decide +kernel
theorem dX8_fillRow_22 : decode cX8_fillRow 22 = .ok (.if_icmp .ne 7, 3) := by decide +kernel
theorem dX8_fillRow_25 : decode cX8_fillRow 25 = .ok (.iconst 1, 1) := by decide +kernel
theorem dX8_fillRow_26 : decode cX8_fillRow 26 = .ok (.goto 4, 3) := by decide +kernel
theorem dX8_fillRow_29 : decode cX8_fillRow 29 = .ok (.iconst 0, 1) := by decide +kernel
theorem dX8_fillRow_30 : decode cX8_fillRow 30 = .ok (.istore_n 3, 1) := by decide +kernel
theorem dX8_fillRow_31 : decode cX8_fillRow 31 = .ok (.iconst 0, 1) := by decide +kernel
theorem dX8_fillRow_32 : decode cX8_fillRow 32 = .ok (.istore 4, 2) := by decide +kernel
theorem dX8_fillRow_34 : decode cX8_fillRow 34 = .ok (.iload 4, 2) := by decide +kernel
theorem dX8_fillRow_36 : decode cX8_fillRow 36 = .ok (.aload_n 0, 1) := by decide +kernel
theorem dX8_fillRow_37 : decode cX8_fillRow 37 = .ok (.getfield 22, 3) := by decide +kernel
theorem dX8_fillRow_40 : decode cX8_fillRow 40 = .ok (.if_icmp .ge 29, 3) := by decide +kernel
theorem dX8_fillRow_43 : decode cX8_fillRow 43 = .ok (.aload_n 0, 1) := by decide +kernel
theorem dX8_fillRow_44 : decode cX8_fillRow 44 = .ok (.getfield 35, 3) := by decide +kernel
theorem dX8_fillRow_47 : decode cX8_fillRow 47 = .ok (.iload_n 2, 1) := by decide +kernel
theorem dX8_fillRow_48 : decode cX8_fillRow 48 = .ok (.iload 4, 2) := by decide +kernel
theorem dX8_fillRow_50 : decode cX8_fillRow 50 = .ok (.iadd, 1) := by decide +kernel
theorem dX8_fillRow_51 : decode cX8_fillRow 51 = .ok (.iload_n 3, 1) := by decide +kernel
theorem dX8_fillRow_52 : decode cX8_fillRow 52 = .ok (.ifCond .eq 7, 3) := by decide +kernel
theorem dX8_fillRow_55 : decode cX8_fillRow 55 = .ok (.lconst 0, 1) := by decide +kernel
theorem dX8_fillRow_56 : decode cX8_fillRow 56 = .ok (.goto 6, 3) := by decide +kernel
theorem dX8_fillRow_59 : decode cX8_fillRow 59 = .ok (.ldc2_w 105, 3) := by decide +kernel
theorem dX8_fillRow_62 : decode cX8_fillRow 62 = .ok (.lastore, 1) := by decide +kernel
theorem dX8_fillRow_63 : decode cX8_fillRow 63 = .ok (.iinc 4 1, 3) := by decide +kernel
theorem dX8_fillRow_66 : decode cX8_fillRow 66 = .ok (.goto (-32), 3) := by decide +kernel
theorem dX8_fillRow_69 : decode cX8_fillRow 69 = .ok (.iconst 0, 1) := by decide +kernel
theorem dX8_fillRow_70 : decode cX8_fillRow 70 = .ok (.istore 4, 2) := by decide +kernel
theorem dX8_fillRow_72 : decode cX8_fillRow 72 = .ok (.iload 4, 2) := by decide +kernel
theorem dX8_fillRow_74 : decode cX8_fillRow 74 = .ok (.aload_n 0, 1) := by decide +kernel
theorem dX8_fillRow_75 : decode cX8_fillRow 75 = .ok (.getfield 62, 3) := by decide +kernel
theorem dX8_fillRow_78 : decode cX8_fillRow 78 = .ok (.getfield 88, 3) := by decide +kernel
theorem dX8_fillRow_81 : decode cX8_fillRow 81 = .ok (.iload_n 1, 1) := by decide +kernel
theorem dX8_fillRow_82 : decode cX8_fillRow 82 = .ok (.iaload, 1) := by decide +kernel
theorem dX8_fillRow_83 : decode cX8_fillRow 83 = .ok (.if_icmp .ge 100, 3) := by decide +kernel
theorem dX8_fillRow_86 : decode cX8_fillRow 86 = .ok (.aload_n 0, 1) := by decide +kernel
theorem dX8_fillRow_87 : decode cX8_fillRow 87 = .ok (.getfield 51, 3) := by decide +kernel
theorem dX8_fillRow_90 : decode cX8_fillRow 90 = .ok (.aload_n 0, 1) := by decide +kernel
theorem dX8_fillRow_91 : decode cX8_fillRow 91 = .ok (.getfield 62, 3) := by decide +kernel
theorem dX8_fillRow_94 : decode cX8_fillRow 94 = .ok (.iload_n 1, 1) := by decide +kernel
theorem dX8_fillRow_95 : decode cX8_fillRow 95 = .ok (.iload 4, 2) := by decide +kernel
theorem dX8_fillRow_97 : decode cX8_fillRow 97 = .ok (.invokevirtual 107, 3) := by decide +kernel
theorem dX8_fillRow_100 : decode cX8_fillRow 100 = .ok (.iaload, 1) := by decide +kernel
theorem dX8_fillRow_101 : decode cX8_fillRow 101 = .ok (.aload_n 0, 1) := by decide +kernel
theorem dX8_fillRow_102 : decode cX8_fillRow 102 = .ok (.getfield 22, 3) := by decide +kernel
theorem dX8_fillRow_105 : decode cX8_fillRow 105 = .ok (.imul, 1) := by decide +kernel
theorem dX8_fillRow_106 : decode cX8_fillRow 106 = .ok (.istore 5, 2) := by decide +kernel
theorem dX8_fillRow_108 : decode cX8_fillRow 108 = .ok (.iconst 0, 1) := by decide +kernel
theorem dX8_fillRow_109 : decode cX8_fillRow 109 = .ok (.istore 6, 2) := by decide +kernel
theorem dX8_fillRow_111 : decode cX8_fillRow 111 = .ok (.iload 6, 2) := by decide +kernel
theorem dX8_fillRow_113 : decode cX8_fillRow 113 = .ok (.aload_n 0, 1) := by decide +kernel
theorem dX8_fillRow_114 : decode cX8_fillRow 114 = .ok (.getfield 22, 3) := by decide +kernel
theorem dX8_fillRow_117 : decode cX8_fillRow 117 = .ok (.if_icmp .ge 60, 3) := by decide +kernel
theorem dX8_fillRow_120 : decode cX8_fillRow 120 = .ok (.iload_n 3, 1) := by decide +kernel
theorem dX8_fillRow_121 : decode cX8_fillRow 121 = .ok (.ifCond .eq 28, 3) := by decide +kernel
theorem dX8_fillRow_124 : decode cX8_fillRow 124 = .ok (.aload_n 0, 1) := by decide +kernel
theorem dX8_fillRow_125 : decode cX8_fillRow 125 = .ok (.getfield 35, 3) := by decide +kernel
theorem dX8_fillRow_128 : decode cX8_fillRow 128 = .ok (.iload_n 2, 1) := by decide +kernel
theorem dX8_fillRow_129 : decode cX8_fillRow 129 = .ok (.iload 6, 2) := by decide +kernel
theorem dX8_fillRow_131 : decode cX8_fillRow 131 = .ok (.iadd, 1) := by decide +kernel
theorem dX8_fillRow_132 : decode cX8_fillRow 132 = .ok (.dup2, 1) := by decide +kernel
theorem dX8_fillRow_133 : decode cX8_fillRow 133 = .ok (.laload, 1) := by decide +kernel
theorem dX8_fillRow_134 : decode cX8_fillRow 134 = .ok (.aload_n 0, 1) := by decide +kernel
theorem dX8_fillRow_135 : decode cX8_fillRow 135 = .ok (.getfield 35, 3) := by decide +kernel
theorem dX8_fillRow_138 : decode cX8_fillRow 138 = .ok (.iload 5, 2) := by decide +kernel
theorem dX8_fillRow_140 : decode cX8_fillRow 140 = .ok (.iload 6, 2) := by decide +kernel
theorem dX8_fillRow_142 : decode cX8_fillRow 142 = .ok (.iadd, 1) := by decide +kernel
theorem dX8_fillRow_143 : decode cX8_fillRow 143 = .ok (.laload, 1) := by decide +kernel
theorem dX8_fillRow_144 : decode cX8_fillRow 144 = .ok (.lor, 1) := by decide +kernel
theorem dX8_fillRow_145 : decode cX8_fillRow 145 = .ok (.lastore, 1) := by decide +kernel
theorem dX8_fillRow_146 : decode cX8_fillRow 146 = .ok (.goto 25, 3) := by decide +kernel
theorem dX8_fillRow_149 : decode cX8_fillRow 149 = .ok (.aload_n 0, 1) := by decide +kernel
theorem dX8_fillRow_150 : decode cX8_fillRow 150 = .ok (.getfield 35, 3) := by decide +kernel
theorem dX8_fillRow_153 : decode cX8_fillRow 153 = .ok (.iload_n 2, 1) := by decide +kernel
theorem dX8_fillRow_154 : decode cX8_fillRow 154 = .ok (.iload 6, 2) := by decide +kernel
theorem dX8_fillRow_156 : decode cX8_fillRow 156 = .ok (.iadd, 1) := by decide +kernel
theorem dX8_fillRow_157 : decode cX8_fillRow 157 = .ok (.dup2, 1) := by decide +kernel
theorem dX8_fillRow_158 : decode cX8_fillRow 158 = .ok (.laload, 1) := by decide +kernel
theorem dX8_fillRow_159 : decode cX8_fillRow 159 = .ok (.aload_n 0, 1) := by decide +kernel
theorem dX8_fillRow_160 : decode cX8_fillRow 160 = .ok (.getfield 35, 3) := by decide +kernel
theorem dX8_fillRow_163 : decode cX8_fillRow 163 = .ok (.iload 5, 2) := by decide +kernel
theorem dX8_fillRow_165 : decode cX8_fillRow 165 = .ok (.iload 6, 2) := by decide +kernel
theorem dX8_fillRow_167 : decode cX8_fillRow 167 = .ok (.iadd, 1) := by decide +kernel
theorem dX8_fillRow_168 : decode cX8_fillRow 168 = .ok (.laload, 1) := by decide +kernel
theorem dX8_fillRow_169 : decode cX8_fillRow 169 = .ok (.land, 1) := by decide +kernel
theorem dX8_fillRow_170 : decode cX8_fillRow 170 = .ok (.lastore, 1) := by decide +kernel
theorem dX8_fillRow_171 : decode cX8_fillRow 171 = .ok (.iinc 6 1, 3) := by decide +kernel
theorem dX8_fillRow_174 : decode cX8_fillRow 174 = .ok (.goto (-63), 3) := by decide +kernel
theorem dX8_fillRow_177 : decode cX8_fillRow 177 = .ok (.iinc 4 1, 3) := by decide +kernel
theorem dX8_fillRow_180 : decode cX8_fillRow 180 = .ok (.goto (-108), 3) := by decide +kernel
theorem dX8_fillRow_183 : decode cX8_fillRow 183 = .ok (.return_, 1) := by decide +kernel
theorem dX8_fillSome_0 : decode cX8_fillSome 0 = .ok (.aload_n 0, 1) := by decide +kernel
theorem dX8_fillSome_1 : decode cX8_fillSome 1 = .ok (.getfield 62, 3) := by decide +kernel
theorem dX8_fillSome_4 : decode cX8_fillSome 4 = .ok (.getfield 117, 3) := by decide +kernel
theorem dX8_fillSome_7 : decode cX8_fillSome 7 = .ok (.iload_n 1, 1) := by decide +kernel
theorem dX8_fillSome_8 : decode cX8_fillSome 8 = .ok (.iaload, 1) := by decide +kernel
theorem dX8_fillSome_9 : decode cX8_fillSome 9 = .ok (.aload_n 0, 1) := by decide +kernel
theorem dX8_fillSome_10 : decode cX8_fillSome 10 = .ok (.getfield 59, 3) := by decide +kernel
theorem dX8_fillSome_13 : decode cX8_fillSome 13 = .ok (.arraylength, 1) := by decide +kernel
theorem dX8_fillSome_14 : decode cX8_fillSome 14 = .ok (.iconst 1, 1) := by decide +kernel
theorem dX8_fillSome_15 : decode cX8_fillSome 15 = .ok (.isub, 1) := by decide +kernel
theorem dX8_fillSome_16 : decode cX8_fillSome 16 = .ok (.invokestatic 120, 3) := by decide +kernel
theorem dX8_fillSome_19 : decode cX8_fillSome 19 = .ok (.istore_n 2, 1) := by decide +kernel
theorem dX8_fillSome_20 : decode cX8_fillSome 20 = .ok (.iconst 0, 1) := by decide +kernel
theorem dX8_fillSome_21 : decode cX8_fillSome 21 = .ok (.istore_n 3, 1) := by decide +kernel
theorem dX8_fillSome_22 : decode cX8_fillSome 22 = .ok (.iload_n 3, 1) := by decide +kernel
theorem dX8_fillSome_23 : decode cX8_fillSome 23 = .ok (.aload_n 0, 1) := by decide +kernel
theorem dX8_fillSome_24 : decode cX8_fillSome 24 = .ok (.getfield 22, 3) := by decide +kernel
theorem dX8_fillSome_27 : decode cX8_fillSome 27 = .ok (.if_icmp .ge 138, 3) := by decide +kernel
theorem dX8_fillSome_30 : decode cX8_fillSome 30 = .ok (.aload_n 0, 1) := by decide +kernel
theorem dX8_fillSome_31 : decode cX8_fillSome 31 = .ok (.getfield 59, 3) := by decide +kernel
theorem dX8_fillSome_34 : decode cX8_fillSome 34 = .ok (.lconst 0, 1) := by decide +kernel
theorem dX8_fillSome_35 : decode cX8_fillSome 35 = .ok (.invokestatic 125, 3) := by decide +kernel
theorem dX8_fillSome_38 : decode cX8_fillSome 38 = .ok (.aload_n 0, 1) := by decide +kernel
theorem dX8_fillSome_39 : decode cX8_fillSome 39 = .ok (.getfield 59, 3) := by decide +kernel
theorem dX8_fillSome_42 : decode cX8_fillSome 42 = .ok (.iconst 0, 1) := by decide +kernel
theorem dX8_fillSome_43 : decode cX8_fillSome 43 = .ok (.ldc2_w 105, 3) := by decide +kernel
theorem dX8_fillSome_46 : decode cX8_fillSome 46 = .ok (.lastore, 1) := by decide +kernel
theorem dX8_fillSome_47 : decode cX8_fillSome 47 = .ok (.iconst 0, 1) := by decide +kernel
theorem dX8_fillSome_48 : decode cX8_fillSome 48 = .ok (.istore 4, 2) := by decide +kernel
theorem dX8_fillSome_50 : decode cX8_fillSome 50 = .ok (.iload 4, 2) := by decide +kernel
theorem dX8_fillSome_52 : decode cX8_fillSome 52 = .ok (.aload_n 0, 1) := by decide +kernel
theorem dX8_fillSome_53 : decode cX8_fillSome 53 = .ok (.getfield 62, 3) := by decide +kernel
theorem dX8_fillSome_56 : decode cX8_fillSome 56 = .ok (.getfield 88, 3) := by decide +kernel
theorem dX8_fillSome_59 : decode cX8_fillSome 59 = .ok (.iload_n 1, 1) := by decide +kernel
theorem dX8_fillSome_60 : decode cX8_fillSome 60 = .ok (.iaload, 1) := by decide +kernel
theorem dX8_fillSome_61 : decode cX8_fillSome 61 = .ok (.if_icmp .ge 74, 3) := by decide +kernel
theorem dX8_fillSome_64 : decode cX8_fillSome 64 = .ok (.aload_n 0, 1) := by decide +kernel
theorem dX8_fillSome_65 : decode cX8_fillSome 65 = .ok (.getfield 35, 3) := by decide +kernel
theorem dX8_fillSome_68 : decode cX8_fillSome 68 = .ok (.aload_n 0, 1) := by decide +kernel
theorem dX8_fillSome_69 : decode cX8_fillSome 69 = .ok (.getfield 51, 3) := by decide +kernel
theorem dX8_fillSome_72 : decode cX8_fillSome 72 = .ok (.aload_n 0, 1) := by decide +kernel
theorem dX8_fillSome_73 : decode cX8_fillSome 73 = .ok (.getfield 62, 3) := by decide +kernel
theorem dX8_fillSome_76 : decode cX8_fillSome 76 = .ok (.iload_n 1, 1) := by decide +kernel
theorem dX8_fillSome_77 : decode cX8_fillSome 77 = .ok (.iload 4, 2) := by decide +kernel
theorem dX8_fillSome_79 : decode cX8_fillSome 79 = .ok (.invokevirtual 107, 3) := by decide +kernel
theorem dX8_fillSome_82 : decode cX8_fillSome 82 = .ok (.iaload, 1) := by decide +kernel
theorem dX8_fillSome_83 : decode cX8_fillSome 83 = .ok (.aload_n 0, 1) := by decide +kernel
theorem dX8_fillSome_84 : decode cX8_fillSome 84 = .ok (.getfield 22, 3) := by decide +kernel
theorem dX8_fillSome_87 : decode cX8_fillSome 87 = .ok (.imul, 1) := by decide +kernel
theorem dX8_fillSome_88 : decode cX8_fillSome 88 = .ok (.iload_n 3, 1) := by decide +kernel
theorem dX8_fillSome_89 : decode cX8_fillSome 89 = .ok (.iadd, 1) := by decide +kernel
theorem dX8_fillSome_90 : decode cX8_fillSome 90 = .ok (.laload, 1) := by decide +kernel
theorem dX8_fillSome_91 : decode cX8_fillSome 91 = .ok (.lstore 5, 2) := by decide +kernel
theorem dX8_fillSome_93 : decode cX8_fillSome 93 = .ok (.iload_n 2, 1) := by decide +kernel
theorem dX8_fillSome_94 : decode cX8_fillSome 94 = .ok (.istore 7, 2) := by decide +kernel
theorem dX8_fillSome_96 : decode cX8_fillSome 96 = .ok (.iload 7, 2) := by decide +kernel
theorem dX8_fillSome_98 : decode cX8_fillSome 98 = .ok (.ifCond .le 31, 3) := by decide +kernel
theorem dX8_fillSome_101 : decode cX8_fillSome 101 = .ok (.aload_n 0, 1) := by decide +kernel
theorem dX8_fillSome_102 : decode cX8_fillSome 102 = .ok (.getfield 59, 3) := by decide +kernel
theorem dX8_fillSome_105 : decode cX8_fillSome 105 = .ok (.iload 7, 2) := by decide +kernel
theorem dX8_fillSome_107 : decode cX8_fillSome 107 = .ok (.dup2, 1) := by decide +kernel
theorem dX8_fillSome_108 : decode cX8_fillSome 108 = .ok (.laload, 1) := by decide +kernel
theorem dX8_fillSome_109 : decode cX8_fillSome 109 = .ok (.aload_n 0, 1) := by decide +kernel
theorem dX8_fillSome_110 : decode cX8_fillSome 110 = .ok (.getfield 59, 3) := by decide +kernel
theorem dX8_fillSome_113 : decode cX8_fillSome 113 = .ok (.iload 7, 2) := by decide +kernel
theorem dX8_fillSome_115 : decode cX8_fillSome 115 = .ok (.iconst 1, 1) := by decide +kernel
theorem dX8_fillSome_116 : decode cX8_fillSome 116 = .ok (.isub, 1) := by decide +kernel
theorem dX8_fillSome_117 : decode cX8_fillSome 117 = .ok (.laload, 1) := by decide +kernel
theorem dX8_fillSome_118 : decode cX8_fillSome 118 = .ok (.lload 5, 2) := by decide +kernel
theorem dX8_fillSome_120 : decode cX8_fillSome 120 = .ok (.land, 1) := by decide +kernel
theorem dX8_fillSome_121 : decode cX8_fillSome 121 = .ok (.lor, 1) := by decide +kernel
theorem dX8_fillSome_122 : decode cX8_fillSome 122 = .ok (.lastore, 1) := by decide +kernel
theorem dX8_fillSome_123 : decode cX8_fillSome 123 = .ok (.iinc 7 (-1), 3) := by decide +kernel
theorem dX8_fillSome_126 : decode cX8_fillSome 126 = .ok (.goto (-30), 3) := by decide +kernel
theorem dX8_fillSome_129 : decode cX8_fillSome 129 = .ok (.iinc 4 1, 3) := by decide +kernel
theorem dX8_fillSome_132 : decode cX8_fillSome 132 = .ok (.goto (-82), 3) := by decide +kernel
theorem dX8_fillSome_135 : decode cX8_fillSome 135 = .ok (.aload_n 0, 1) := by decide +kernel
theorem dX8_fillSome_136 : decode cX8_fillSome 136 = .ok (.getfield 35, 3) := by decide +kernel
theorem dX8_fillSome_139 : decode cX8_fillSome 139 = .ok (.aload_n 0, 1) := by decide +kernel
theorem dX8_fillSome_140 : decode cX8_fillSome 140 = .ok (.getfield 51, 3) := by decide +kernel
theorem dX8_fillSome_143 : decode cX8_fillSome 143 = .ok (.iload_n 1, 1) := by decide +kernel
theorem dX8_fillSome_144 : decode cX8_fillSome 144 = .ok (.iaload, 1) := by decide +kernel
theorem dX8_fillSome_145 : decode cX8_fillSome 145 = .ok (.aload_n 0, 1) := by decide +kernel
theorem dX8_fillSome_146 : decode cX8_fillSome 146 = .ok (.getfield 22, 3) := by decide +kernel
theorem dX8_fillSome_149 : decode cX8_fillSome 149 = .ok (.imul, 1) := by decide +kernel
theorem dX8_fillSome_150 : decode cX8_fillSome 150 = .ok (.iload_n 3, 1) := by decide +kernel
theorem dX8_fillSome_151 : decode cX8_fillSome 151 = .ok (.iadd, 1) := by decide +kernel
theorem dX8_fillSome_152 : decode cX8_fillSome 152 = .ok (.aload_n 0, 1) := by decide +kernel
theorem dX8_fillSome_153 : decode cX8_fillSome 153 = .ok (.getfield 59, 3) := by decide +kernel
theorem dX8_fillSome_156 : decode cX8_fillSome 156 = .ok (.iload_n 2, 1) := by decide +kernel
theorem dX8_fillSome_157 : decode cX8_fillSome 157 = .ok (.laload, 1) := by decide +kernel
theorem dX8_fillSome_158 : decode cX8_fillSome 158 = .ok (.lastore, 1) := by decide +kernel
theorem dX8_fillSome_159 : decode cX8_fillSome 159 = .ok (.iinc 3 1, 3) := by decide +kernel
theorem dX8_fillSome_162 : decode cX8_fillSome 162 = .ok (.goto (-140), 3) := by decide +kernel
theorem dX8_fillSome_165 : decode cX8_fillSome 165 = .ok (.return_, 1) := by decide +kernel
theorem dX8_countLeast_0 : decode cX8_countLeast 0 = .ok (.iconst 0, 1) := by decide +kernel
theorem dX8_countLeast_1 : decode cX8_countLeast 1 = .ok (.istore_n 2, 1) := by decide +kernel
theorem dX8_countLeast_2 : decode cX8_countLeast 2 = .ok (.iconst 0, 1) := by decide +kernel
theorem dX8_countLeast_3 : decode cX8_countLeast 3 = .ok (.istore_n 3, 1) := by decide +kernel
theorem dX8_countLeast_4 : decode cX8_countLeast 4 = .ok (.iload_n 3, 1) := by decide +kernel
theorem dX8_countLeast_5 : decode cX8_countLeast 5 = .ok (.aload_n 0, 1) := by decide +kernel
theorem dX8_countLeast_6 : decode cX8_countLeast 6 = .ok (.getfield 22, 3) := by decide +kernel
theorem dX8_countLeast_9 : decode cX8_countLeast 9 = .ok (.if_icmp .ge 28, 3) := by decide +kernel
theorem dX8_countLeast_12 : decode cX8_countLeast 12 = .ok (.iload_n 2, 1) := by decide +kernel
theorem dX8_countLeast_13 : decode cX8_countLeast 13 = .ok (.sipush 200, 3) := by decide +kernel
theorem dX8_countLeast_16 : decode cX8_countLeast 16 = .ok (.if_icmp .gt 21, 3) := by decide +kernel
theorem dX8_countLeast_19 : decode cX8_countLeast 19 = .ok (.iload_n 2, 1) := by decide +kernel
theorem dX8_countLeast_20 : decode cX8_countLeast 20 = .ok (.aload_n 0, 1) := by decide +kernel
theorem dX8_countLeast_21 : decode cX8_countLeast 21 = .ok (.iload_n 1, 1) := by decide +kernel
theorem dX8_countLeast_22 : decode cX8_countLeast 22 = .ok (.iload_n 3, 1) := by decide +kernel
theorem dX8_countLeast_23 : decode cX8_countLeast 23 = .ok (.invokevirtual 128, 3) := by decide +kernel
theorem dX8_countLeast_26 : decode cX8_countLeast 26 = .ok (.invokestatic 132, 3) := by decide +kernel
theorem dX8_countLeast_29 : decode cX8_countLeast 29 = .ok (.iadd, 1) := by decide +kernel
theorem dX8_countLeast_30 : decode cX8_countLeast 30 = .ok (.istore_n 2, 1) := by decide +kernel
theorem dX8_countLeast_31 : decode cX8_countLeast 31 = .ok (.iinc 3 1, 3) := by decide +kernel
theorem dX8_countLeast_34 : decode cX8_countLeast 34 = .ok (.goto (-30), 3) := by decide +kernel
theorem dX8_countLeast_37 : decode cX8_countLeast 37 = .ok (.iload_n 2, 1) := by decide +kernel
theorem dX8_countLeast_38 : decode cX8_countLeast 38 = .ok (.ireturn, 1) := by decide +kernel
theorem dX8_leastWord_0 : decode cX8_leastWord 0 = .ok (.aload_n 0, 1) := by decide +kernel
theorem dX8_leastWord_1 : decode cX8_leastWord 1 = .ok (.getfield 35, 3) := by decide +kernel
theorem dX8_leastWord_4 : decode cX8_leastWord 4 = .ok (.iload_n 1, 1) := by decide +kernel
theorem dX8_leastWord_5 : decode cX8_leastWord 5 = .ok (.iload_n 2, 1) := by decide +kernel
theorem dX8_leastWord_6 : decode cX8_leastWord 6 = .ok (.iadd, 1) := by decide +kernel
theorem dX8_leastWord_7 : decode cX8_leastWord 7 = .ok (.laload, 1) := by decide +kernel
theorem dX8_leastWord_8 : decode cX8_leastWord 8 = .ok (.lstore_n 3, 1) := by decide +kernel
theorem dX8_leastWord_9 : decode cX8_leastWord 9 = .ok (.lconst 0, 1) := by decide +kernel
theorem dX8_leastWord_10 : decode cX8_leastWord 10 = .ok (.lstore 5, 2) := by decide +kernel
theorem dX8_leastWord_12 : decode cX8_leastWord 12 = .ok (.iconst 0, 1) := by decide +kernel
theorem dX8_leastWord_13 : decode cX8_leastWord 13 = .ok (.istore 7, 2) := by decide +kernel
theorem dX8_leastWord_15 : decode cX8_leastWord 15 = .ok (.iload 7, 2) := by decide +kernel
theorem dX8_leastWord_17 : decode cX8_leastWord 17 = .ok (.aload_n 0, 1) := by decide +kernel
theorem dX8_leastWord_18 : decode cX8_leastWord 18 = .ok (.getfield 18, 3) := by decide +kernel
theorem dX8_leastWord_21 : decode cX8_leastWord 21 = .ok (.if_icmp .ge 71, 3) := by decide +kernel
theorem dX8_leastWord_24 : decode cX8_leastWord 24 = .ok (.iload 7, 2) := by decide +kernel
theorem dX8_leastWord_26 : decode cX8_leastWord 26 = .ok (.getstatic 98, 3) := by decide +kernel
theorem dX8_leastWord_29 : decode cX8_leastWord 29 = .ok (.arraylength, 1) := by decide +kernel
theorem dX8_leastWord_30 : decode cX8_leastWord 30 = .ok (.if_icmp .ge 24, 3) := by decide +kernel
theorem dX8_leastWord_33 : decode cX8_leastWord 33 = .ok (.lload 5, 2) := by decide +kernel
theorem dX8_leastWord_35 : decode cX8_leastWord 35 = .ok (.lload_n 3, 1) := by decide +kernel
theorem dX8_leastWord_36 : decode cX8_leastWord 36 = .ok (.iconst 1, 1) := by decide +kernel
theorem dX8_leastWord_37 : decode cX8_leastWord 37 = .ok (.iload 7, 2) := by decide +kernel
theorem dX8_leastWord_39 : decode cX8_leastWord 39 = .ok (.ishl, 1) := by decide +kernel
theorem dX8_leastWord_40 : decode cX8_leastWord 40 = .ok (.lshl, 1) := by decide +kernel
theorem dX8_leastWord_41 : decode cX8_leastWord 41 = .ok (.getstatic 98, 3) := by decide +kernel
theorem dX8_leastWord_44 : decode cX8_leastWord 44 = .ok (.iload 7, 2) := by decide +kernel
theorem dX8_leastWord_46 : decode cX8_leastWord 46 = .ok (.laload, 1) := by decide +kernel
theorem dX8_leastWord_47 : decode cX8_leastWord 47 = .ok (.land, 1) := by decide +kernel
theorem dX8_leastWord_48 : decode cX8_leastWord 48 = .ok (.lor, 1) := by decide +kernel
theorem dX8_leastWord_49 : decode cX8_leastWord 49 = .ok (.lstore 5, 2) := by decide +kernel
theorem dX8_leastWord_51 : decode cX8_leastWord 51 = .ok (.goto 35, 3) := by decide +kernel
theorem dX8_leastWord_54 : decode cX8_leastWord 54 = .ok (.iload_n 2, 1) := by decide +kernel
theorem dX8_leastWord_55 : decode cX8_leastWord 55 = .ok (.iload 7, 2) := by decide +kernel
theorem dX8_leastWord_57 : decode cX8_leastWord 57 = .ok (.invokestatic 101, 3) := by decide +kernel
theorem dX8_leastWord_60 : decode cX8_leastWord 60 = .ok (.ifCond .eq 26, 3) := by decide +kernel
theorem dX8_leastWord_63 : decode cX8_leastWord 63 = .ok (.lload 5, 2) := by decide +kernel
theorem dX8_leastWord_65 : decode cX8_leastWord 65 = .ok (.aload_n 0, 1) := by decide +kernel
theorem dX8_leastWord_66 : decode cX8_leastWord 66 = .ok (.getfield 35, 3) := by decide +kernel
theorem dX8_leastWord_69 : decode cX8_leastWord 69 = .ok (.iload_n 1, 1) := by decide +kernel
theorem dX8_leastWord_70 : decode cX8_leastWord 70 = .ok (.iload_n 2, 1) := by decide +kernel
theorem dX8_leastWord_71 : decode cX8_leastWord 71 = .ok (.iadd, 1) := by decide +kernel
theorem dX8_leastWord_72 : decode cX8_leastWord 72 = .ok (.iconst 1, 1) := by decide +kernel
theorem dX8_leastWord_73 : decode cX8_leastWord 73 = .ok (.iload 7, 2) := by decide +kernel
theorem dX8_leastWord_75 : decode cX8_leastWord 75 = .ok (.getstatic 98, 3) := by decide +kernel
theorem dX8_leastWord_78 : decode cX8_leastWord 78 = .ok (.arraylength, 1) := by decide +kernel
theorem dX8_leastWord_79 : decode cX8_leastWord 79 = .ok (.isub, 1) := by decide +kernel
theorem dX8_leastWord_80 : decode cX8_leastWord 80 = .ok (.ishl, 1) := by decide +kernel
theorem dX8_leastWord_81 : decode cX8_leastWord 81 = .ok (.isub, 1) := by decide +kernel
theorem dX8_leastWord_82 : decode cX8_leastWord 82 = .ok (.laload, 1) := by decide +kernel
theorem dX8_leastWord_83 : decode cX8_leastWord 83 = .ok (.lor, 1) := by decide +kernel
theorem dX8_leastWord_84 : decode cX8_leastWord 84 = .ok (.lstore 5, 2) := by decide +kernel
theorem dX8_leastWord_86 : decode cX8_leastWord 86 = .ok (.iinc 7 1, 3) := by decide +kernel
theorem dX8_leastWord_89 : decode cX8_leastWord 89 = .ok (.goto (-74), 3) := by decide +kernel
theorem dX8_leastWord_92 : decode cX8_leastWord 92 = .ok (.aload_n 0, 1) := by decide +kernel
theorem dX8_leastWord_93 : decode cX8_leastWord 93 = .ok (.getfield 18, 3) := by decide +kernel
theorem dX8_leastWord_96 : decode cX8_leastWord 96 = .ok (.getstatic 98, 3) := by decide +kernel
theorem dX8_leastWord_99 : decode cX8_leastWord 99 = .ok (.arraylength, 1) := by decide +kernel
theorem dX8_leastWord_100 : decode cX8_leastWord 100 = .ok (.if_icmp .ge 16, 3) := by decide +kernel
theorem dX8_leastWord_103 : decode cX8_leastWord 103 = .ok (.lconst 1, 1) := by decide +kernel
theorem dX8_leastWord_104 : decode cX8_leastWord 104 = .ok (.iconst 1, 1) := by decide +kernel
theorem dX8_leastWord_105 : decode cX8_leastWord 105 = .ok (.aload_n 0, 1) := by decide +kernel
theorem dX8_leastWord_106 : decode cX8_leastWord 106 = .ok (.getfield 18, 3) := by decide +kernel
theorem dX8_leastWord_109 : decode cX8_leastWord 109 = .ok (.ishl, 1) := by decide +kernel
theorem dX8_leastWord_110 : decode cX8_leastWord 110 = .ok (.lshl, 1) := by decide +kernel
theorem dX8_leastWord_111 : decode cX8_leastWord 111 = .ok (.lconst 1, 1) := by decide +kernel
theorem dX8_leastWord_112 : decode cX8_leastWord 112 = .ok (.lsub, 1) := by decide +kernel
theorem dX8_leastWord_113 : decode cX8_leastWord 113 = .ok (.goto 6, 3) := by decide +kernel
theorem dX8_leastWord_116 : decode cX8_leastWord 116 = .ok (.ldc2_w 105, 3) := by decide +kernel
theorem dX8_leastWord_119 : decode cX8_leastWord 119 = .ok (.lstore 7, 2) := by decide +kernel
theorem dX8_leastWord_121 : decode cX8_leastWord 121 = .ok (.lload_n 3, 1) := by decide +kernel
theorem dX8_leastWord_122 : decode cX8_leastWord 122 = .ok (.lload 5, 2) := by decide +kernel
theorem dX8_leastWord_124 : decode cX8_leastWord 124 = .ok (.ldc2_w 105, 3) := by decide +kernel
theorem dX8_leastWord_127 : decode cX8_leastWord 127 = .ok (.lxor, 1) := by decide +kernel
theorem dX8_leastWord_128 : decode cX8_leastWord 128 = .ok (.land, 1) := by decide +kernel
theorem dX8_leastWord_129 : decode cX8_leastWord 129 = .ok (.lload 7, 2) := by decide +kernel
theorem dX8_leastWord_131 : decode cX8_leastWord 131 = .ok (.land, 1) := by decide +kernel
theorem dX8_leastWord_132 : decode cX8_leastWord 132 = .ok (.lreturn, 1) := by decide +kernel
theorem dX8_bit_0 : decode cX8_bit 0 = .ok (.aload_n 0, 1) := by decide +kernel
theorem dX8_bit_1 : decode cX8_bit 1 = .ok (.getfield 35, 3) := by decide +kernel
theorem dX8_bit_4 : decode cX8_bit 4 = .ok (.aload_n 0, 1) := by decide +kernel
theorem dX8_bit_5 : decode cX8_bit 5 = .ok (.getfield 28, 3) := by decide +kernel
theorem dX8_bit_8 : decode cX8_bit 8 = .ok (.iload_n 1, 1) := by decide +kernel
theorem dX8_bit_9 : decode cX8_bit 9 = .ok (.bipush 6, 2) := by decide +kernel
theorem dX8_bit_11 : decode cX8_bit 11 = .ok (.ishr, 1) := by decide +kernel
theorem dX8_bit_12 : decode cX8_bit 12 = .ok (.iadd, 1) := by decide +kernel
theorem dX8_bit_13 : decode cX8_bit 13 = .ok (.laload, 1) := by decide +kernel
theorem dX8_bit_14 : decode cX8_bit 14 = .ok (.iload_n 1, 1) := by decide +kernel
theorem dX8_bit_15 : decode cX8_bit 15 = .ok (.bipush 63, 2) := by decide +kernel
theorem dX8_bit_17 : decode cX8_bit 17 = .ok (.iand, 1) := by decide +kernel
theorem dX8_bit_18 : decode cX8_bit 18 = .ok (.lushr, 1) := by decide +kernel
theorem dX8_bit_19 : decode cX8_bit 19 = .ok (.lconst 1, 1) := by decide +kernel
theorem dX8_bit_20 : decode cX8_bit 20 = .ok (.land, 1) := by decide +kernel
theorem dX8_bit_21 : decode cX8_bit 21 = .ok (.l2i, 1) := by decide +kernel
theorem dX8_bit_22 : decode cX8_bit 22 = .ok (.ireturn, 1) := by decide +kernel
theorem dX8_narrowed_0 : decode cX8_narrowed 0 = .ok (.iconst 0, 1) := by decide +kernel
theorem dX8_narrowed_1 : decode cX8_narrowed 1 = .ok (.istore_n 2, 1) := by decide +kernel
theorem dX8_narrowed_2 : decode cX8_narrowed 2 = .ok (.iconst 0, 1) := by decide +kernel
theorem dX8_narrowed_3 : decode cX8_narrowed 3 = .ok (.istore_n 3, 1) := by decide +kernel
theorem dX8_narrowed_4 : decode cX8_narrowed 4 = .ok (.iload_n 3, 1) := by decide +kernel
theorem dX8_narrowed_5 : decode cX8_narrowed 5 = .ok (.aload_n 0, 1) := by decide +kernel
theorem dX8_narrowed_6 : decode cX8_narrowed 6 = .ok (.getfield 18, 3) := by decide +kernel
theorem dX8_narrowed_9 : decode cX8_narrowed 9 = .ok (.if_icmp .ge 24, 3) := by decide +kernel
theorem dX8_narrowed_12 : decode cX8_narrowed 12 = .ok (.iload_n 2, 1) := by decide +kernel
theorem dX8_narrowed_13 : decode cX8_narrowed 13 = .ok (.iload_n 1, 1) := by decide +kernel
theorem dX8_narrowed_14 : decode cX8_narrowed 14 = .ok (.aload_n 0, 1) := by decide +kernel
theorem dX8_narrowed_15 : decode cX8_narrowed 15 = .ok (.getfield 9, 3) := by decide +kernel
theorem dX8_narrowed_18 : decode cX8_narrowed 18 = .ok (.iload_n 3, 1) := by decide +kernel
theorem dX8_narrowed_19 : decode cX8_narrowed 19 = .ok (.iaload, 1) := by decide +kernel
theorem dX8_narrowed_20 : decode cX8_narrowed 20 = .ok (.ishr, 1) := by decide +kernel
theorem dX8_narrowed_21 : decode cX8_narrowed 21 = .ok (.iconst 1, 1) := by decide +kernel
theorem dX8_narrowed_22 : decode cX8_narrowed 22 = .ok (.iand, 1) := by decide +kernel
theorem dX8_narrowed_23 : decode cX8_narrowed 23 = .ok (.iload_n 3, 1) := by decide +kernel
theorem dX8_narrowed_24 : decode cX8_narrowed 24 = .ok (.ishl, 1) := by decide +kernel
theorem dX8_narrowed_25 : decode cX8_narrowed 25 = .ok (.ior, 1) := by decide +kernel
theorem dX8_narrowed_26 : decode cX8_narrowed 26 = .ok (.istore_n 2, 1) := by decide +kernel
theorem dX8_narrowed_27 : decode cX8_narrowed 27 = .ok (.iinc 3 1, 3) := by decide +kernel
theorem dX8_narrowed_30 : decode cX8_narrowed 30 = .ok (.goto (-26), 3) := by decide +kernel
theorem dX8_narrowed_33 : decode cX8_narrowed 33 = .ok (.iload_n 2, 1) := by decide +kernel
theorem dX8_narrowed_34 : decode cX8_narrowed 34 = .ok (.ireturn, 1) := by decide +kernel
theorem dX8_widened_0 : decode cX8_widened 0 = .ok (.iconst 0, 1) := by decide +kernel
theorem dX8_widened_1 : decode cX8_widened 1 = .ok (.istore_n 2, 1) := by decide +kernel
theorem dX8_widened_2 : decode cX8_widened 2 = .ok (.iconst 0, 1) := by decide +kernel
theorem dX8_widened_3 : decode cX8_widened 3 = .ok (.istore_n 3, 1) := by decide +kernel
theorem dX8_widened_4 : decode cX8_widened 4 = .ok (.iload_n 3, 1) := by decide +kernel
theorem dX8_widened_5 : decode cX8_widened 5 = .ok (.aload_n 0, 1) := by decide +kernel
theorem dX8_widened_6 : decode cX8_widened 6 = .ok (.getfield 18, 3) := by decide +kernel
theorem dX8_widened_9 : decode cX8_widened 9 = .ok (.if_icmp .ge 24, 3) := by decide +kernel
theorem dX8_widened_12 : decode cX8_widened 12 = .ok (.iload_n 2, 1) := by decide +kernel
theorem dX8_widened_13 : decode cX8_widened 13 = .ok (.iload_n 1, 1) := by decide +kernel
theorem dX8_widened_14 : decode cX8_widened 14 = .ok (.iload_n 3, 1) := by decide +kernel
theorem dX8_widened_15 : decode cX8_widened 15 = .ok (.ishr, 1) := by decide +kernel
theorem dX8_widened_16 : decode cX8_widened 16 = .ok (.iconst 1, 1) := by decide +kernel
theorem dX8_widened_17 : decode cX8_widened 17 = .ok (.iand, 1) := by decide +kernel
theorem dX8_widened_18 : decode cX8_widened 18 = .ok (.aload_n 0, 1) := by decide +kernel
theorem dX8_widened_19 : decode cX8_widened 19 = .ok (.getfield 9, 3) := by decide +kernel
theorem dX8_widened_22 : decode cX8_widened 22 = .ok (.iload_n 3, 1) := by decide +kernel
theorem dX8_widened_23 : decode cX8_widened 23 = .ok (.iaload, 1) := by decide +kernel
theorem dX8_widened_24 : decode cX8_widened 24 = .ok (.ishl, 1) := by decide +kernel
theorem dX8_widened_25 : decode cX8_widened 25 = .ok (.ior, 1) := by decide +kernel
theorem dX8_widened_26 : decode cX8_widened 26 = .ok (.istore_n 2, 1) := by decide +kernel
theorem dX8_widened_27 : decode cX8_widened 27 = .ok (.iinc 3 1, 3) := by decide +kernel
theorem dX8_widened_30 : decode cX8_widened 30 = .ok (.goto (-26), 3) := by decide +kernel
theorem dX8_widened_33 : decode cX8_widened 33 = .ok (.iload_n 2, 1) := by decide +kernel
theorem dX8_widened_34 : decode cX8_widened 34 = .ok (.ireturn, 1) := by decide +kernel
theorem dX9_addPlace_0 : decode cX9_addPlace 0 = .ok (.aload_n 0, 1) := by decide +kernel
theorem dX9_addPlace_1 : decode cX9_addPlace 1 = .ok (.getfield 15, 3) := by decide +kernel
theorem dX9_addPlace_4 : decode cX9_addPlace 4 = .ok (.iload_n 1, 1) := by decide +kernel
theorem dX9_addPlace_5 : decode cX9_addPlace 5 = .ok (.iaload, 1) := by decide +kernel
theorem dX9_addPlace_6 : decode cX9_addPlace 6 = .ok (.bipush 12, 2) := by decide +kernel
theorem dX9_addPlace_8 : decode cX9_addPlace 8 = .ok (.if_icmp .lt 5, 3) := by decide +kernel
theorem dX9_addPlace_11 : decode cX9_addPlace 11 = .ok (.iconst 0, 1) := by decide +kernel
theorem dX9_addPlace_12 : decode cX9_addPlace 12 = .ok (.ireturn, 1) := by decide +kernel
theorem dX9_addPlace_13 : decode cX9_addPlace 13 = .ok (.aload_n 0, 1) := by decide +kernel
theorem dX9_addPlace_14 : decode cX9_addPlace 14 = .ok (.getfield 11, 3) := by decide +kernel
theorem dX9_addPlace_17 : decode cX9_addPlace 17 = .ok (.iload_n 1, 1) := by decide +kernel
theorem dX9_addPlace_18 : decode cX9_addPlace 18 = .ok (.bipush 12, 2) := by decide +kernel
theorem dX9_addPlace_20 : decode cX9_addPlace 20 = .ok (.imul, 1) := by decide +kernel
theorem dX9_addPlace_21 : decode cX9_addPlace 21 = .ok (.aload_n 0, 1) := by decide +kernel
theorem dX9_addPlace_22 : decode cX9_addPlace 22 = .ok (.getfield 15, 3) := by decide +kernel
theorem dX9_addPlace_25 : decode cX9_addPlace 25 = .ok (.iload_n 1, 1) := by decide +kernel
theorem dX9_addPlace_26 : decode cX9_addPlace 26 = .ok (.iaload, 1) := by decide +kernel
theorem dX9_addPlace_27 : decode cX9_addPlace 27 = .ok (.iadd, 1) := by decide +kernel
theorem dX9_addPlace_28 : decode cX9_addPlace 28 = .ok (.iload_n 2, 1) := by decide +kernel
theorem dX9_addPlace_29 : decode cX9_addPlace 29 = .ok (.iastore, 1) := by decide +kernel
theorem dX9_addPlace_30 : decode cX9_addPlace 30 = .ok (.aload_n 0, 1) := by decide +kernel
theorem dX9_addPlace_31 : decode cX9_addPlace 31 = .ok (.getfield 15, 3) := by decide +kernel
theorem dX9_addPlace_34 : decode cX9_addPlace 34 = .ok (.iload_n 1, 1) := by decide +kernel
theorem dX9_addPlace_35 : decode cX9_addPlace 35 = .ok (.dup2, 1) := by decide +kernel
theorem dX9_addPlace_36 : decode cX9_addPlace 36 = .ok (.iaload, 1) := by decide +kernel
theorem dX9_addPlace_37 : decode cX9_addPlace 37 = .ok (.iconst 1, 1) := by decide +kernel
theorem dX9_addPlace_38 : decode cX9_addPlace 38 = .ok (.iadd, 1) := by decide +kernel
theorem dX9_addPlace_39 : decode cX9_addPlace 39 = .ok (.iastore, 1) := by decide +kernel
theorem dX9_addPlace_40 : decode cX9_addPlace 40 = .ok (.iconst 1, 1) := by decide +kernel
theorem dX9_addPlace_41 : decode cX9_addPlace 41 = .ok (.ireturn, 1) := by decide +kernel
theorem dX9_menAt_0 : decode cX9_menAt 0 = .ok (.iconst 0, 1) := by decide +kernel
theorem dX9_menAt_1 : decode cX9_menAt 1 = .ok (.istore_n 3, 1) := by decide +kernel
theorem dX9_menAt_2 : decode cX9_menAt 2 = .ok (.iconst 0, 1) := by decide +kernel
theorem dX9_menAt_3 : decode cX9_menAt 3 = .ok (.istore 4, 2) := by decide +kernel
theorem dX9_menAt_5 : decode cX9_menAt 5 = .ok (.iload 4, 2) := by decide +kernel
theorem dX9_menAt_7 : decode cX9_menAt 7 = .ok (.iconst 3, 1) := by decide +kernel
theorem dX9_menAt_8 : decode cX9_menAt 8 = .ok (.if_icmp .gt 23, 3) := by decide +kernel
theorem dX9_menAt_11 : decode cX9_menAt 11 = .ok (.aload_n 0, 1) := by decide +kernel
theorem dX9_menAt_12 : decode cX9_menAt 12 = .ok (.iload 4, 2) := by decide +kernel
theorem dX9_menAt_14 : decode cX9_menAt 14 = .ok (.iload_n 2, 1) := by decide +kernel
theorem dX9_menAt_15 : decode cX9_menAt 15 = .ok (.invokevirtual 38, 3) := by decide +kernel
theorem dX9_menAt_18 : decode cX9_menAt 18 = .ok (.iload_n 1, 1) := by decide +kernel
theorem dX9_menAt_19 : decode cX9_menAt 19 = .ok (.if_icmp .ne 6, 3) := by decide +kernel
theorem dX9_menAt_22 : decode cX9_menAt 22 = .ok (.iinc 3 1, 3) := by decide +kernel
theorem dX9_menAt_25 : decode cX9_menAt 25 = .ok (.iinc 4 1, 3) := by decide +kernel
theorem dX9_menAt_28 : decode cX9_menAt 28 = .ok (.goto (-23), 3) := by decide +kernel
theorem dX9_menAt_31 : decode cX9_menAt 31 = .ok (.iload_n 3, 1) := by decide +kernel
theorem dX9_menAt_32 : decode cX9_menAt 32 = .ok (.ireturn, 1) := by decide +kernel
theorem dX9_placeOf_0 : decode cX9_placeOf 0 = .ok (.aload_n 0, 1) := by decide +kernel
theorem dX9_placeOf_1 : decode cX9_placeOf 1 = .ok (.getfield 15, 3) := by decide +kernel
theorem dX9_placeOf_4 : decode cX9_placeOf 4 = .ok (.iload_n 1, 1) := by decide +kernel
theorem dX9_placeOf_5 : decode cX9_placeOf 5 = .ok (.iaload, 1) := by decide +kernel
theorem dX9_placeOf_6 : decode cX9_placeOf 6 = .ok (.ifCond .ne 5, 3) := by decide +kernel
theorem dX9_placeOf_9 : decode cX9_placeOf 9 = .ok (.iconst (-1), 1) := by decide +kernel
theorem dX9_placeOf_10 : decode cX9_placeOf 10 = .ok (.ireturn, 1) := by decide +kernel
theorem dX9_placeOf_11 : decode cX9_placeOf 11 = .ok (.aload_n 0, 1) := by decide +kernel
theorem dX9_placeOf_12 : decode cX9_placeOf 12 = .ok (.getfield 11, 3) := by decide +kernel
theorem dX9_placeOf_15 : decode cX9_placeOf 15 = .ok (.iload_n 1, 1) := by decide +kernel
theorem dX9_placeOf_16 : decode cX9_placeOf 16 = .ok (.bipush 12, 2) := by decide +kernel
theorem dX9_placeOf_18 : decode cX9_placeOf 18 = .ok (.imul, 1) := by decide +kernel
theorem dX9_placeOf_19 : decode cX9_placeOf 19 = .ok (.iload_n 2, 1) := by decide +kernel
theorem dX9_placeOf_20 : decode cX9_placeOf 20 = .ok (.aload_n 0, 1) := by decide +kernel
theorem dX9_placeOf_21 : decode cX9_placeOf 21 = .ok (.getfield 15, 3) := by decide +kernel
theorem dX9_placeOf_24 : decode cX9_placeOf 24 = .ok (.iload_n 1, 1) := by decide +kernel
theorem dX9_placeOf_25 : decode cX9_placeOf 25 = .ok (.iaload, 1) := by decide +kernel
theorem dX9_placeOf_26 : decode cX9_placeOf 26 = .ok (.irem, 1) := by decide +kernel
theorem dX9_placeOf_27 : decode cX9_placeOf 27 = .ok (.iadd, 1) := by decide +kernel
theorem dX9_placeOf_28 : decode cX9_placeOf 28 = .ok (.iaload, 1) := by decide +kernel
theorem dX9_placeOf_29 : decode cX9_placeOf 29 = .ok (.ireturn, 1) := by decide +kernel
theorem dX9_firstBegin_0 : decode cX9_firstBegin 0 = .ok (.aload_n 0, 1) := by decide +kernel
theorem dX9_firstBegin_1 : decode cX9_firstBegin 1 = .ok (.getfield 34, 3) := by decide +kernel
theorem dX9_firstBegin_4 : decode cX9_firstBegin 4 = .ok (.iload_n 1, 1) := by decide +kernel
theorem dX9_firstBegin_5 : decode cX9_firstBegin 5 = .ok (.iconst 4, 1) := by decide +kernel
theorem dX9_firstBegin_6 : decode cX9_firstBegin 6 = .ok (.invokevirtual 44, 3) := by decide +kernel
theorem dX9_firstBegin_9 : decode cX9_firstBegin 9 = .ok (.istore_n 3, 1) := by decide +kernel
theorem dX9_firstBegin_10 : decode cX9_firstBegin 10 = .ok (.aload_n 0, 1) := by decide +kernel
theorem dX9_firstBegin_11 : decode cX9_firstBegin 11 = .ok (.getfield 34, 3) := by decide +kernel
theorem dX9_firstBegin_14 : decode cX9_firstBegin 14 = .ok (.iload_n 1, 1) := by decide +kernel
theorem dX9_firstBegin_15 : decode cX9_firstBegin 15 = .ok (.iconst 1, 1) := by decide +kernel
theorem dX9_firstBegin_16 : decode cX9_firstBegin 16 = .ok (.invokevirtual 44, 3) := by decide +kernel
theorem dX9_firstBegin_19 : decode cX9_firstBegin 19 = .ok (.istore 4, 2) := by decide +kernel
theorem dX9_firstBegin_21 : decode cX9_firstBegin 21 = .ok (.iconst 0, 1) := by decide +kernel
theorem dX9_firstBegin_22 : decode cX9_firstBegin 22 = .ok (.istore 5, 2) := by decide +kernel
theorem dX9_firstBegin_24 : decode cX9_firstBegin 24 = .ok (.iload_n 2, 1) := by decide +kernel
theorem dX9_firstBegin_25 : decode cX9_firstBegin 25 = .ok (.istore 6, 2) := by decide +kernel
theorem dX9_firstBegin_27 : decode cX9_firstBegin 27 = .ok (.iload 6, 2) := by decide +kernel
theorem dX9_firstBegin_29 : decode cX9_firstBegin 29 = .ok (.sipush 600, 3) := by decide +kernel
theorem dX9_firstBegin_32 : decode cX9_firstBegin 32 = .ok (.if_icmp .ge 44, 3) := by decide +kernel
theorem dX9_firstBegin_35 : decode cX9_firstBegin 35 = .ok (.aload_n 0, 1) := by decide +kernel
theorem dX9_firstBegin_36 : decode cX9_firstBegin 36 = .ok (.iload_n 3, 1) := by decide +kernel
theorem dX9_firstBegin_37 : decode cX9_firstBegin 37 = .ok (.iload 6, 2) := by decide +kernel
theorem dX9_firstBegin_39 : decode cX9_firstBegin 39 = .ok (.invokevirtual 47, 3) := by decide +kernel
theorem dX9_firstBegin_42 : decode cX9_firstBegin 42 = .ok (.ifCond .ne 10, 3) := by decide +kernel
theorem dX9_firstBegin_45 : decode cX9_firstBegin 45 = .ok (.iload 5, 2) := by decide +kernel
theorem dX9_firstBegin_47 : decode cX9_firstBegin 47 = .ok (.iconst 1, 1) := by decide +kernel
theorem dX9_firstBegin_48 : decode cX9_firstBegin 48 = .ok (.iadd, 1) := by decide +kernel
theorem dX9_firstBegin_49 : decode cX9_firstBegin 49 = .ok (.goto 4, 3) := by decide +kernel
theorem dX9_firstBegin_52 : decode cX9_firstBegin 52 = .ok (.iconst 0, 1) := by decide +kernel
theorem dX9_firstBegin_53 : decode cX9_firstBegin 53 = .ok (.istore 5, 2) := by decide +kernel
theorem dX9_firstBegin_55 : decode cX9_firstBegin 55 = .ok (.iload 5, 2) := by decide +kernel
theorem dX9_firstBegin_57 : decode cX9_firstBegin 57 = .ok (.iload 4, 2) := by decide +kernel
theorem dX9_firstBegin_59 : decode cX9_firstBegin 59 = .ok (.if_icmp .ne 11, 3) := by decide +kernel
theorem dX9_firstBegin_62 : decode cX9_firstBegin 62 = .ok (.iload 6, 2) := by decide +kernel
theorem dX9_firstBegin_64 : decode cX9_firstBegin 64 = .ok (.iconst 1, 1) := by decide +kernel
theorem dX9_firstBegin_65 : decode cX9_firstBegin 65 = .ok (.iadd, 1) := by decide +kernel
theorem dX9_firstBegin_66 : decode cX9_firstBegin 66 = .ok (.iload 4, 2) := by decide +kernel
theorem dX9_firstBegin_68 : decode cX9_firstBegin 68 = .ok (.isub, 1) := by decide +kernel
theorem dX9_firstBegin_69 : decode cX9_firstBegin 69 = .ok (.ireturn, 1) := by decide +kernel
theorem dX9_firstBegin_70 : decode cX9_firstBegin 70 = .ok (.iinc 6 1, 3) := by decide +kernel
theorem dX9_firstBegin_73 : decode cX9_firstBegin 73 = .ok (.goto (-46), 3) := by decide +kernel
theorem dX9_firstBegin_76 : decode cX9_firstBegin 76 = .ok (.iconst (-1), 1) := by decide +kernel
theorem dX9_firstBegin_77 : decode cX9_firstBegin 77 = .ok (.ireturn, 1) := by decide +kernel
theorem dX9_firstToGo_0 : decode cX9_firstToGo 0 = .ok (.iconst 0, 1) := by decide +kernel
theorem dX9_firstToGo_1 : decode cX9_firstToGo 1 = .ok (.istore 4, 2) := by decide +kernel
theorem dX9_firstToGo_3 : decode cX9_firstToGo 3 = .ok (.iload 4, 2) := by decide +kernel
theorem dX9_firstToGo_5 : decode cX9_firstToGo 5 = .ok (.aload_n 0, 1) := by decide +kernel
theorem dX9_firstToGo_6 : decode cX9_firstToGo 6 = .ok (.getfield 24, 3) := by decide +kernel
theorem dX9_firstToGo_9 : decode cX9_firstToGo 9 = .ok (.if_icmp .ge 63, 3) := by decide +kernel
theorem dX9_firstToGo_12 : decode cX9_firstToGo 12 = .ok (.iload_n 1, 1) := by decide +kernel
theorem dX9_firstToGo_13 : decode cX9_firstToGo 13 = .ok (.iload 4, 2) := by decide +kernel
theorem dX9_firstToGo_15 : decode cX9_firstToGo 15 = .ok (.ishr, 1) := by decide +kernel
theorem dX9_firstToGo_16 : decode cX9_firstToGo 16 = .ok (.iconst 1, 1) := by decide +kernel
theorem dX9_firstToGo_17 : decode cX9_firstToGo 17 = .ok (.iand, 1) := by decide +kernel
theorem dX9_firstToGo_18 : decode cX9_firstToGo 18 = .ok (.ifCond .ne 6, 3) := by decide +kernel
theorem dX9_firstToGo_21 : decode cX9_firstToGo 21 = .ok (.goto 45, 3) := by decide +kernel
theorem dX9_firstToGo_24 : decode cX9_firstToGo 24 = .ok (.aload_n 0, 1) := by decide +kernel
theorem dX9_firstToGo_25 : decode cX9_firstToGo 25 = .ok (.getfield 28, 3) := by decide +kernel
theorem dX9_firstToGo_28 : decode cX9_firstToGo 28 = .ok (.iload 4, 2) := by decide +kernel
theorem dX9_firstToGo_30 : decode cX9_firstToGo 30 = .ok (.sipush 601, 3) := by decide +kernel
theorem dX9_firstToGo_33 : decode cX9_firstToGo 33 = .ok (.imul, 1) := by decide +kernel
theorem dX9_firstToGo_34 : decode cX9_firstToGo 34 = .ok (.iload_n 2, 1) := by decide +kernel
theorem dX9_firstToGo_35 : decode cX9_firstToGo 35 = .ok (.iadd, 1) := by decide +kernel
theorem dX9_firstToGo_36 : decode cX9_firstToGo 36 = .ok (.iaload, 1) := by decide +kernel
theorem dX9_firstToGo_37 : decode cX9_firstToGo 37 = .ok (.istore 5, 2) := by decide +kernel
theorem dX9_firstToGo_39 : decode cX9_firstToGo 39 = .ok (.iload 5, 2) := by decide +kernel
theorem dX9_firstToGo_41 : decode cX9_firstToGo 41 = .ok (.iload_n 3, 1) := by decide +kernel
theorem dX9_firstToGo_42 : decode cX9_firstToGo 42 = .ok (.if_icmp .gt 24, 3) := by decide +kernel
theorem dX9_firstToGo_45 : decode cX9_firstToGo 45 = .ok (.aload_n 0, 1) := by decide +kernel
theorem dX9_firstToGo_46 : decode cX9_firstToGo 46 = .ok (.iload_n 1, 1) := by decide +kernel
theorem dX9_firstToGo_47 : decode cX9_firstToGo 47 = .ok (.iconst 1, 1) := by decide +kernel
theorem dX9_firstToGo_48 : decode cX9_firstToGo 48 = .ok (.iload 4, 2) := by decide +kernel
theorem dX9_firstToGo_50 : decode cX9_firstToGo 50 = .ok (.ishl, 1) := by decide +kernel
theorem dX9_firstToGo_51 : decode cX9_firstToGo 51 = .ok (.iconst (-1), 1) := by decide +kernel
theorem dX9_firstToGo_52 : decode cX9_firstToGo 52 = .ok (.ixor, 1) := by decide +kernel
theorem dX9_firstToGo_53 : decode cX9_firstToGo 53 = .ok (.iand, 1) := by decide +kernel
theorem dX9_firstToGo_54 : decode cX9_firstToGo 54 = .ok (.iload 5, 2) := by decide +kernel
theorem dX9_firstToGo_56 : decode cX9_firstToGo 56 = .ok (.invokevirtual 54, 3) := by decide +kernel
theorem dX9_firstToGo_59 : decode cX9_firstToGo 59 = .ok (.iload_n 3, 1) := by decide +kernel
theorem dX9_firstToGo_60 : decode cX9_firstToGo 60 = .ok (.if_icmp .ne 6, 3) := by decide +kernel
theorem dX9_firstToGo_63 : decode cX9_firstToGo 63 = .ok (.iload 4, 2) := by decide +kernel
theorem dX9_firstToGo_65 : decode cX9_firstToGo 65 = .ok (.ireturn, 1) := by decide +kernel
theorem dX9_firstToGo_66 : decode cX9_firstToGo 66 = .ok (.iinc 4 1, 3) := by decide +kernel
theorem dX9_firstToGo_69 : decode cX9_firstToGo 69 = .ok (.goto (-66), 3) := by decide +kernel
theorem dX9_firstToGo_72 : decode cX9_firstToGo 72 = .ok (.iconst (-1), 1) := by decide +kernel
theorem dX9_firstToGo_73 : decode cX9_firstToGo 73 = .ok (.ireturn, 1) := by decide +kernel
theorem dX9_soonestEnd_0 : decode cX9_soonestEnd 0 = .ok (.aload_n 0, 1) := by decide +kernel
theorem dX9_soonestEnd_1 : decode cX9_soonestEnd 1 = .ok (.getfield 31, 3) := by decide +kernel
theorem dX9_soonestEnd_4 : decode cX9_soonestEnd 4 = .ok (.iconst 0, 1) := by decide +kernel
theorem dX9_soonestEnd_5 : decode cX9_soonestEnd 5 = .ok (.iload_n 2, 1) := by decide +kernel
theorem dX9_soonestEnd_6 : decode cX9_soonestEnd 6 = .ok (.iastore, 1) := by decide +kernel
theorem dX9_soonestEnd_7 : decode cX9_soonestEnd 7 = .ok (.iconst 1, 1) := by decide +kernel
theorem dX9_soonestEnd_8 : decode cX9_soonestEnd 8 = .ok (.istore_n 3, 1) := by decide +kernel
theorem dX9_soonestEnd_9 : decode cX9_soonestEnd 9 = .ok (.iload_n 3, 1) := by decide +kernel
theorem dX9_soonestEnd_10 : decode cX9_soonestEnd 10 = .ok (.iload_n 1, 1) := by decide +kernel
theorem dX9_soonestEnd_11 : decode cX9_soonestEnd 11 = .ok (.if_icmp .gt 107, 3) := by decide +kernel
theorem dX9_soonestEnd_14 : decode cX9_soonestEnd 14 = .ok (.iload_n 3, 1) := by decide +kernel
theorem dX9_soonestEnd_15 : decode cX9_soonestEnd 15 = .ok (.iload_n 1, 1) := by decide +kernel
theorem dX9_soonestEnd_16 : decode cX9_soonestEnd 16 = .ok (.iconst (-1), 1) := by decide +kernel
theorem dX9_soonestEnd_17 : decode cX9_soonestEnd 17 = .ok (.ixor, 1) := by decide +kernel
theorem dX9_soonestEnd_18 : decode cX9_soonestEnd 18 = .ok (.iand, 1) := by decide +kernel
theorem dX9_soonestEnd_19 : decode cX9_soonestEnd 19 = .ok (.ifCond .eq 6, 3) := by decide +kernel
theorem dX9_soonestEnd_22 : decode cX9_soonestEnd 22 = .ok (.goto 90, 3) := by decide +kernel
theorem dX9_soonestEnd_25 : decode cX9_soonestEnd 25 = .ok (.sipush 601, 3) := by decide +kernel
theorem dX9_soonestEnd_28 : decode cX9_soonestEnd 28 = .ok (.istore 4, 2) := by decide +kernel
theorem dX9_soonestEnd_30 : decode cX9_soonestEnd 30 = .ok (.iconst 0, 1) := by decide +kernel
theorem dX9_soonestEnd_31 : decode cX9_soonestEnd 31 = .ok (.istore 5, 2) := by decide +kernel
theorem dX9_soonestEnd_33 : decode cX9_soonestEnd 33 = .ok (.iload 5, 2) := by decide +kernel
theorem dX9_soonestEnd_35 : decode cX9_soonestEnd 35 = .ok (.aload_n 0, 1) := by decide +kernel
theorem dX9_soonestEnd_36 : decode cX9_soonestEnd 36 = .ok (.getfield 24, 3) := by decide +kernel
theorem dX9_soonestEnd_39 : decode cX9_soonestEnd 39 = .ok (.if_icmp .ge 65, 3) := by decide +kernel
theorem dX9_soonestEnd_42 : decode cX9_soonestEnd 42 = .ok (.iload_n 3, 1) := by decide +kernel
theorem dX9_soonestEnd_43 : decode cX9_soonestEnd 43 = .ok (.iload 5, 2) := by decide +kernel
theorem dX9_soonestEnd_45 : decode cX9_soonestEnd 45 = .ok (.ishr, 1) := by decide +kernel
theorem dX9_soonestEnd_46 : decode cX9_soonestEnd 46 = .ok (.iconst 1, 1) := by decide +kernel
theorem dX9_soonestEnd_47 : decode cX9_soonestEnd 47 = .ok (.iand, 1) := by decide +kernel
theorem dX9_soonestEnd_48 : decode cX9_soonestEnd 48 = .ok (.ifCond .ne 6, 3) := by decide +kernel
theorem dX9_soonestEnd_51 : decode cX9_soonestEnd 51 = .ok (.goto 47, 3) := by decide +kernel
theorem dX9_soonestEnd_54 : decode cX9_soonestEnd 54 = .ok (.aload_n 0, 1) := by decide +kernel
theorem dX9_soonestEnd_55 : decode cX9_soonestEnd 55 = .ok (.getfield 31, 3) := by decide +kernel
theorem dX9_soonestEnd_58 : decode cX9_soonestEnd 58 = .ok (.iload_n 3, 1) := by decide +kernel
theorem dX9_soonestEnd_59 : decode cX9_soonestEnd 59 = .ok (.iconst 1, 1) := by decide +kernel
theorem dX9_soonestEnd_60 : decode cX9_soonestEnd 60 = .ok (.iload 5, 2) := by decide +kernel
theorem dX9_soonestEnd_62 : decode cX9_soonestEnd 62 = .ok (.ishl, 1) := by decide +kernel
theorem dX9_soonestEnd_63 : decode cX9_soonestEnd 63 = .ok (.iconst (-1), 1) := by decide +kernel
theorem dX9_soonestEnd_64 : decode cX9_soonestEnd 64 = .ok (.ixor, 1) := by decide +kernel
theorem dX9_soonestEnd_65 : decode cX9_soonestEnd 65 = .ok (.iand, 1) := by decide +kernel
theorem dX9_soonestEnd_66 : decode cX9_soonestEnd 66 = .ok (.iaload, 1) := by decide +kernel
theorem dX9_soonestEnd_67 : decode cX9_soonestEnd 67 = .ok (.istore 6, 2) := by decide +kernel
theorem dX9_soonestEnd_69 : decode cX9_soonestEnd 69 = .ok (.iload 6, 2) := by decide +kernel
theorem dX9_soonestEnd_71 : decode cX9_soonestEnd 71 = .ok (.sipush 601, 3) := by decide +kernel
theorem dX9_soonestEnd_74 : decode cX9_soonestEnd 74 = .ok (.if_icmp .ge 24, 3) := by decide +kernel
theorem dX9_soonestEnd_77 : decode cX9_soonestEnd 77 = .ok (.iload 4, 2) := by decide +kernel
theorem dX9_soonestEnd_79 : decode cX9_soonestEnd 79 = .ok (.aload_n 0, 1) := by decide +kernel
theorem dX9_soonestEnd_80 : decode cX9_soonestEnd 80 = .ok (.getfield 28, 3) := by decide +kernel
theorem dX9_soonestEnd_83 : decode cX9_soonestEnd 83 = .ok (.iload 5, 2) := by decide +kernel
theorem dX9_soonestEnd_85 : decode cX9_soonestEnd 85 = .ok (.sipush 601, 3) := by decide +kernel
theorem dX9_soonestEnd_88 : decode cX9_soonestEnd 88 = .ok (.imul, 1) := by decide +kernel
theorem dX9_soonestEnd_89 : decode cX9_soonestEnd 89 = .ok (.iload 6, 2) := by decide +kernel
theorem dX9_soonestEnd_91 : decode cX9_soonestEnd 91 = .ok (.iadd, 1) := by decide +kernel
theorem dX9_soonestEnd_92 : decode cX9_soonestEnd 92 = .ok (.iaload, 1) := by decide +kernel
theorem dX9_soonestEnd_93 : decode cX9_soonestEnd 93 = .ok (.invokestatic 61, 3) := by decide +kernel
theorem dX9_soonestEnd_96 : decode cX9_soonestEnd 96 = .ok (.istore 4, 2) := by decide +kernel
theorem dX9_soonestEnd_98 : decode cX9_soonestEnd 98 = .ok (.iinc 5 1, 3) := by decide +kernel
theorem dX9_soonestEnd_101 : decode cX9_soonestEnd 101 = .ok (.goto (-68), 3) := by decide +kernel
theorem dX9_soonestEnd_104 : decode cX9_soonestEnd 104 = .ok (.aload_n 0, 1) := by decide +kernel
theorem dX9_soonestEnd_105 : decode cX9_soonestEnd 105 = .ok (.getfield 31, 3) := by decide +kernel
theorem dX9_soonestEnd_108 : decode cX9_soonestEnd 108 = .ok (.iload_n 3, 1) := by decide +kernel
theorem dX9_soonestEnd_109 : decode cX9_soonestEnd 109 = .ok (.iload 4, 2) := by decide +kernel
theorem dX9_soonestEnd_111 : decode cX9_soonestEnd 111 = .ok (.iastore, 1) := by decide +kernel
theorem dX9_soonestEnd_112 : decode cX9_soonestEnd 112 = .ok (.iinc 3 1, 3) := by decide +kernel
theorem dX9_soonestEnd_115 : decode cX9_soonestEnd 115 = .ok (.goto (-106), 3) := by decide +kernel
theorem dX9_soonestEnd_118 : decode cX9_soonestEnd 118 = .ok (.aload_n 0, 1) := by decide +kernel
theorem dX9_soonestEnd_119 : decode cX9_soonestEnd 119 = .ok (.getfield 31, 3) := by decide +kernel
theorem dX9_soonestEnd_122 : decode cX9_soonestEnd 122 = .ok (.iload_n 1, 1) := by decide +kernel
theorem dX9_soonestEnd_123 : decode cX9_soonestEnd 123 = .ok (.iaload, 1) := by decide +kernel
theorem dX9_soonestEnd_124 : decode cX9_soonestEnd 124 = .ok (.ireturn, 1) := by decide +kernel
theorem dX9_lookRound_0 : decode cX9_lookRound 0 = .ok (.iload_n 1, 1) := by decide +kernel
theorem dX9_lookRound_1 : decode cX9_lookRound 1 = .ok (.istore_n 2, 1) := by decide +kernel
theorem dX9_lookRound_2 : decode cX9_lookRound 2 = .ok (.iload_n 2, 1) := by decide +kernel
theorem dX9_lookRound_3 : decode cX9_lookRound 3 = .ok (.sipush 600, 3) := by decide +kernel
theorem dX9_lookRound_6 : decode cX9_lookRound 6 = .ok (.if_icmp .ge 55, 3) := by decide +kernel
theorem dX9_lookRound_9 : decode cX9_lookRound 9 = .ok (.aload_n 0, 1) := by decide +kernel
theorem dX9_lookRound_10 : decode cX9_lookRound 10 = .ok (.getfield 18, 3) := by decide +kernel
theorem dX9_lookRound_13 : decode cX9_lookRound 13 = .ok (.iload_n 2, 1) := by decide +kernel
theorem dX9_lookRound_14 : decode cX9_lookRound 14 = .ok (.iconst 0, 1) := by decide +kernel
theorem dX9_lookRound_15 : decode cX9_lookRound 15 = .ok (.iastore, 1) := by decide +kernel
theorem dX9_lookRound_16 : decode cX9_lookRound 16 = .ok (.iconst 0, 1) := by decide +kernel
theorem dX9_lookRound_17 : decode cX9_lookRound 17 = .ok (.istore_n 3, 1) := by decide +kernel
theorem dX9_lookRound_18 : decode cX9_lookRound 18 = .ok (.iload_n 3, 1) := by decide +kernel
theorem dX9_lookRound_19 : decode cX9_lookRound 19 = .ok (.iconst 3, 1) := by decide +kernel
theorem dX9_lookRound_20 : decode cX9_lookRound 20 = .ok (.if_icmp .gt 35, 3) := by decide +kernel
theorem dX9_lookRound_23 : decode cX9_lookRound 23 = .ok (.aload_n 0, 1) := by decide +kernel
theorem dX9_lookRound_24 : decode cX9_lookRound 24 = .ok (.iload_n 3, 1) := by decide +kernel
theorem dX9_lookRound_25 : decode cX9_lookRound 25 = .ok (.iload_n 2, 1) := by decide +kernel
theorem dX9_lookRound_26 : decode cX9_lookRound 26 = .ok (.invokevirtual 38, 3) := by decide +kernel
theorem dX9_lookRound_29 : decode cX9_lookRound 29 = .ok (.istore 4, 2) := by decide +kernel
theorem dX9_lookRound_31 : decode cX9_lookRound 31 = .ok (.iload 4, 2) := by decide +kernel
theorem dX9_lookRound_33 : decode cX9_lookRound 33 = .ok (.ifCond .lt 16, 3) := by decide +kernel
theorem dX9_lookRound_36 : decode cX9_lookRound 36 = .ok (.aload_n 0, 1) := by decide +kernel
theorem dX9_lookRound_37 : decode cX9_lookRound 37 = .ok (.getfield 18, 3) := by decide +kernel
theorem dX9_lookRound_40 : decode cX9_lookRound 40 = .ok (.iload_n 2, 1) := by decide +kernel
theorem dX9_lookRound_41 : decode cX9_lookRound 41 = .ok (.dup2, 1) := by decide +kernel
theorem dX9_lookRound_42 : decode cX9_lookRound 42 = .ok (.iaload, 1) := by decide +kernel
theorem dX9_lookRound_43 : decode cX9_lookRound 43 = .ok (.iconst 1, 1) := by decide +kernel
theorem dX9_lookRound_44 : decode cX9_lookRound 44 = .ok (.iload 4, 2) := by decide +kernel
theorem dX9_lookRound_46 : decode cX9_lookRound 46 = .ok (.ishl, 1) := by decide +kernel
theorem dX9_lookRound_47 : decode cX9_lookRound 47 = .ok (.ior, 1) := by decide +kernel
theorem dX9_lookRound_48 : decode cX9_lookRound 48 = .ok (.iastore, 1) := by decide +kernel
theorem dX9_lookRound_49 : decode cX9_lookRound 49 = .ok (.iinc 3 1, 3) := by decide +kernel
theorem dX9_lookRound_52 : decode cX9_lookRound 52 = .ok (.goto (-34), 3) := by decide +kernel
theorem dX9_lookRound_55 : decode cX9_lookRound 55 = .ok (.iinc 2 1, 3) := by decide +kernel
theorem dX9_lookRound_58 : decode cX9_lookRound 58 = .ok (.goto (-56), 3) := by decide +kernel
theorem dX9_lookRound_61 : decode cX9_lookRound 61 = .ok (.return_, 1) := by decide +kernel
theorem dX9_findEnds_0 : decode cX9_findEnds 0 = .ok (.aload_n 0, 1) := by decide +kernel
theorem dX9_findEnds_1 : decode cX9_findEnds 1 = .ok (.getfield 34, 3) := by decide +kernel
theorem dX9_findEnds_4 : decode cX9_findEnds 4 = .ok (.aload_n 0, 1) := by decide +kernel
theorem dX9_findEnds_5 : decode cX9_findEnds 5 = .ok (.getfield 21, 3) := by decide +kernel
theorem dX9_findEnds_8 : decode cX9_findEnds 8 = .ok (.iload_n 1, 1) := by decide +kernel
theorem dX9_findEnds_9 : decode cX9_findEnds 9 = .ok (.iaload, 1) := by decide +kernel
theorem dX9_findEnds_10 : decode cX9_findEnds 10 = .ok (.iconst 4, 1) := by decide +kernel
theorem dX9_findEnds_11 : decode cX9_findEnds 11 = .ok (.invokevirtual 44, 3) := by decide +kernel
theorem dX9_findEnds_14 : decode cX9_findEnds 14 = .ok (.istore_n 3, 1) := by decide +kernel
theorem dX9_findEnds_15 : decode cX9_findEnds 15 = .ok (.aload_n 0, 1) := by decide +kernel
theorem dX9_findEnds_16 : decode cX9_findEnds 16 = .ok (.getfield 34, 3) := by decide +kernel
theorem dX9_findEnds_19 : decode cX9_findEnds 19 = .ok (.aload_n 0, 1) := by decide +kernel
theorem dX9_findEnds_20 : decode cX9_findEnds 20 = .ok (.getfield 21, 3) := by decide +kernel
theorem dX9_findEnds_23 : decode cX9_findEnds 23 = .ok (.iload_n 1, 1) := by decide +kernel
theorem dX9_findEnds_24 : decode cX9_findEnds 24 = .ok (.iaload, 1) := by decide +kernel
theorem dX9_findEnds_25 : decode cX9_findEnds 25 = .ok (.iconst 1, 1) := by decide +kernel
theorem dX9_findEnds_26 : decode cX9_findEnds 26 = .ok (.invokevirtual 44, 3) := by decide +kernel
theorem dX9_findEnds_29 : decode cX9_findEnds 29 = .ok (.istore 4, 2) := by decide +kernel
theorem dX9_findEnds_31 : decode cX9_findEnds 31 = .ok (.iconst 0, 1) := by decide +kernel
theorem dX9_findEnds_32 : decode cX9_findEnds 32 = .ok (.istore 5, 2) := by decide +kernel
theorem dX9_findEnds_34 : decode cX9_findEnds 34 = .ok (.aload_n 0, 1) := by decide +kernel
theorem dX9_findEnds_35 : decode cX9_findEnds 35 = .ok (.getfield 28, 3) := by decide +kernel
theorem dX9_findEnds_38 : decode cX9_findEnds 38 = .ok (.iload_n 1, 1) := by decide +kernel
theorem dX9_findEnds_39 : decode cX9_findEnds 39 = .ok (.sipush 601, 3) := by decide +kernel
theorem dX9_findEnds_42 : decode cX9_findEnds 42 = .ok (.imul, 1) := by decide +kernel
theorem dX9_findEnds_43 : decode cX9_findEnds 43 = .ok (.sipush 600, 3) := by decide +kernel
theorem dX9_findEnds_46 : decode cX9_findEnds 46 = .ok (.iadd, 1) := by decide +kernel
theorem dX9_findEnds_47 : decode cX9_findEnds 47 = .ok (.sipush 601, 3) := by decide +kernel
theorem dX9_findEnds_50 : decode cX9_findEnds 50 = .ok (.iastore, 1) := by decide +kernel
theorem dX9_findEnds_51 : decode cX9_findEnds 51 = .ok (.sipush 599, 3) := by decide +kernel
theorem dX9_findEnds_54 : decode cX9_findEnds 54 = .ok (.istore 6, 2) := by decide +kernel
theorem dX9_findEnds_56 : decode cX9_findEnds 56 = .ok (.iload 6, 2) := by decide +kernel
theorem dX9_findEnds_58 : decode cX9_findEnds 58 = .ok (.iload_n 2, 1) := by decide +kernel
theorem dX9_findEnds_59 : decode cX9_findEnds 59 = .ok (.if_icmp .lt 76, 3) := by decide +kernel
theorem dX9_findEnds_62 : decode cX9_findEnds 62 = .ok (.aload_n 0, 1) := by decide +kernel
theorem dX9_findEnds_63 : decode cX9_findEnds 63 = .ok (.getfield 18, 3) := by decide +kernel
theorem dX9_findEnds_66 : decode cX9_findEnds 66 = .ok (.iload 6, 2) := by decide +kernel
theorem dX9_findEnds_68 : decode cX9_findEnds 68 = .ok (.iaload, 1) := by decide +kernel
theorem dX9_findEnds_69 : decode cX9_findEnds 69 = .ok (.iload_n 3, 1) := by decide +kernel
theorem dX9_findEnds_70 : decode cX9_findEnds 70 = .ok (.ishr, 1) := by decide +kernel
theorem dX9_findEnds_71 : decode cX9_findEnds 71 = .ok (.iconst 1, 1) := by decide +kernel
theorem dX9_findEnds_72 : decode cX9_findEnds 72 = .ok (.iand, 1) := by decide +kernel
theorem dX9_findEnds_73 : decode cX9_findEnds 73 = .ok (.ifCond .ne 10, 3) := by decide +kernel
theorem dX9_findEnds_76 : decode cX9_findEnds 76 = .ok (.iload 5, 2) := by decide +kernel
theorem dX9_findEnds_78 : decode cX9_findEnds 78 = .ok (.iconst 1, 1) := by decide +kernel
theorem dX9_findEnds_79 : decode cX9_findEnds 79 = .ok (.iadd, 1) := by decide +kernel
theorem dX9_findEnds_80 : decode cX9_findEnds 80 = .ok (.goto 4, 3) := by decide +kernel
theorem dX9_findEnds_83 : decode cX9_findEnds 83 = .ok (.iconst 0, 1) := by decide +kernel
theorem dX9_findEnds_84 : decode cX9_findEnds 84 = .ok (.istore 5, 2) := by decide +kernel
theorem dX9_findEnds_86 : decode cX9_findEnds 86 = .ok (.aload_n 0, 1) := by decide +kernel
theorem dX9_findEnds_87 : decode cX9_findEnds 87 = .ok (.getfield 28, 3) := by decide +kernel
theorem dX9_findEnds_90 : decode cX9_findEnds 90 = .ok (.iload_n 1, 1) := by decide +kernel
theorem dX9_findEnds_91 : decode cX9_findEnds 91 = .ok (.sipush 601, 3) := by decide +kernel
theorem dX9_findEnds_94 : decode cX9_findEnds 94 = .ok (.imul, 1) := by decide +kernel
theorem dX9_findEnds_95 : decode cX9_findEnds 95 = .ok (.iload 6, 2) := by decide +kernel
theorem dX9_findEnds_97 : decode cX9_findEnds 97 = .ok (.iadd, 1) := by decide +kernel
theorem dX9_findEnds_98 : decode cX9_findEnds 98 = .ok (.iload 5, 2) := by decide +kernel
theorem dX9_findEnds_100 : decode cX9_findEnds 100 = .ok (.iload 4, 2) := by decide +kernel
theorem dX9_findEnds_102 : decode cX9_findEnds 102 = .ok (.if_icmp .lt 11, 3) := by decide +kernel
theorem dX9_findEnds_105 : decode cX9_findEnds 105 = .ok (.iload 6, 2) := by decide +kernel
theorem dX9_findEnds_107 : decode cX9_findEnds 107 = .ok (.iload 4, 2) := by decide +kernel
theorem dX9_findEnds_109 : decode cX9_findEnds 109 = .ok (.iadd, 1) := by decide +kernel
theorem dX9_findEnds_110 : decode cX9_findEnds 110 = .ok (.goto 18, 3) := by decide +kernel
theorem dX9_findEnds_113 : decode cX9_findEnds 113 = .ok (.aload_n 0, 1) := by decide +kernel
theorem dX9_findEnds_114 : decode cX9_findEnds 114 = .ok (.getfield 28, 3) := by decide +kernel
theorem dX9_findEnds_117 : decode cX9_findEnds 117 = .ok (.iload_n 1, 1) := by decide +kernel
theorem dX9_findEnds_118 : decode cX9_findEnds 118 = .ok (.sipush 601, 3) := by decide +kernel
theorem dX9_findEnds_121 : decode cX9_findEnds 121 = .ok (.imul, 1) := by decide +kernel
theorem dX9_findEnds_122 : decode cX9_findEnds 122 = .ok (.iload 6, 2) := by decide +kernel
theorem dX9_findEnds_124 : decode cX9_findEnds 124 = .ok (.iadd, 1) := by decide +kernel
theorem dX9_findEnds_125 : decode cX9_findEnds 125 = .ok (.iconst 1, 1) := by decide +kernel
theorem dX9_findEnds_126 : decode cX9_findEnds 126 = .ok (.iadd, 1) := by decide +kernel
theorem dX9_findEnds_127 : decode cX9_findEnds 127 = .ok (.iaload, 1) := by decide +kernel
theorem dX9_findEnds_128 : decode cX9_findEnds 128 = .ok (.iastore, 1) := by decide +kernel
theorem dX9_findEnds_129 : decode cX9_findEnds 129 = .ok (.iinc 6 (-1), 3) := by decide +kernel
theorem dX9_findEnds_132 : decode cX9_findEnds 132 = .ok (.goto (-76), 3) := by decide +kernel
theorem dX9_findEnds_135 : decode cX9_findEnds 135 = .ok (.return_, 1) := by decide +kernel
theorem dX9_mixInto_0 : decode cX9_mixInto 0 = .ok (.iconst 0, 1) := by decide +kernel
theorem dX9_mixInto_1 : decode cX9_mixInto 1 = .ok (.istore_n 3, 1) := by decide +kernel
theorem dX9_mixInto_2 : decode cX9_mixInto 2 = .ok (.iload_n 3, 1) := by decide +kernel
theorem dX9_mixInto_3 : decode cX9_mixInto 3 = .ok (.iconst 3, 1) := by decide +kernel
theorem dX9_mixInto_4 : decode cX9_mixInto 4 = .ok (.if_icmp .gt 63, 3) := by decide +kernel
theorem dX9_mixInto_7 : decode cX9_mixInto 7 = .ok (.ldc2_w 79, 3) := by decide +kernel
theorem dX9_mixInto_10 : decode cX9_mixInto 10 = .ok (.lload_n 1, 1) := by decide +kernel
theorem dX9_mixInto_11 : decode cX9_mixInto 11 = .ok (.lmul, 1) := by decide +kernel
theorem dX9_mixInto_12 : decode cX9_mixInto 12 = .ok (.aload_n 0, 1) := by decide +kernel
theorem dX9_mixInto_13 : decode cX9_mixInto 13 = .ok (.getfield 15, 3) := by decide +kernel
theorem dX9_mixInto_16 : decode cX9_mixInto 16 = .ok (.iload_n 3, 1) := by decide +kernel
theorem dX9_mixInto_17 : decode cX9_mixInto 17 = .ok (.iaload, 1) := by decide +kernel
theorem dX9_mixInto_18 : decode cX9_mixInto 18 = .ok (.i2l, 1) := by decide +kernel
theorem dX9_mixInto_19 : decode cX9_mixInto 19 = .ok (.ladd, 1) := by decide +kernel
theorem dX9_mixInto_20 : decode cX9_mixInto 20 = .ok (.lstore_n 1, 1) := by decide +kernel
theorem dX9_mixInto_21 : decode cX9_mixInto 21 = .ok (.iconst 0, 1) := by decide +kernel
theorem dX9_mixInto_22 : decode cX9_mixInto 22 = .ok (.istore 4, 2) := by decide +kernel
theorem dX9_mixInto_24 : decode cX9_mixInto 24 = .ok (.iload 4, 2) := by decide +kernel
theorem dX9_mixInto_26 : decode cX9_mixInto 26 = .ok (.aload_n 0, 1) := by decide +kernel
theorem dX9_mixInto_27 : decode cX9_mixInto 27 = .ok (.getfield 15, 3) := by decide +kernel
theorem dX9_mixInto_30 : decode cX9_mixInto 30 = .ok (.iload_n 3, 1) := by decide +kernel
theorem dX9_mixInto_31 : decode cX9_mixInto 31 = .ok (.iaload, 1) := by decide +kernel
theorem dX9_mixInto_32 : decode cX9_mixInto 32 = .ok (.if_icmp .ge 29, 3) := by decide +kernel
theorem dX9_mixInto_35 : decode cX9_mixInto 35 = .ok (.ldc2_w 79, 3) := by decide +kernel
theorem dX9_mixInto_38 : decode cX9_mixInto 38 = .ok (.lload_n 1, 1) := by decide +kernel
theorem dX9_mixInto_39 : decode cX9_mixInto 39 = .ok (.lmul, 1) := by decide +kernel
theorem dX9_mixInto_40 : decode cX9_mixInto 40 = .ok (.aload_n 0, 1) := by decide +kernel
theorem dX9_mixInto_41 : decode cX9_mixInto 41 = .ok (.getfield 11, 3) := by decide +kernel
theorem dX9_mixInto_44 : decode cX9_mixInto 44 = .ok (.iload_n 3, 1) := by decide +kernel
theorem dX9_mixInto_45 : decode cX9_mixInto 45 = .ok (.bipush 12, 2) := by decide +kernel
theorem dX9_mixInto_47 : decode cX9_mixInto 47 = .ok (.imul, 1) := by decide +kernel
theorem dX9_mixInto_48 : decode cX9_mixInto 48 = .ok (.iload 4, 2) := by decide +kernel
theorem dX9_mixInto_50 : decode cX9_mixInto 50 = .ok (.iadd, 1) := by decide +kernel
theorem dX9_mixInto_51 : decode cX9_mixInto 51 = .ok (.iaload, 1) := by decide +kernel
theorem dX9_mixInto_52 : decode cX9_mixInto 52 = .ok (.i2l, 1) := by decide +kernel
theorem dX9_mixInto_53 : decode cX9_mixInto 53 = .ok (.ladd, 1) := by decide +kernel
theorem dX9_mixInto_54 : decode cX9_mixInto 54 = .ok (.lstore_n 1, 1) := by decide +kernel
theorem dX9_mixInto_55 : decode cX9_mixInto 55 = .ok (.iinc 4 1, 3) := by decide +kernel
theorem dX9_mixInto_58 : decode cX9_mixInto 58 = .ok (.goto (-34), 3) := by decide +kernel
theorem dX9_mixInto_61 : decode cX9_mixInto 61 = .ok (.iinc 3 1, 3) := by decide +kernel
theorem dX9_mixInto_64 : decode cX9_mixInto 64 = .ok (.goto (-62), 3) := by decide +kernel
theorem dX9_mixInto_67 : decode cX9_mixInto 67 = .ok (.lload_n 1, 1) := by decide +kernel
theorem dX9_mixInto_68 : decode cX9_mixInto 68 = .ok (.lreturn, 1) := by decide +kernel
theorem dX10_forget_0 : decode cX10_forget 0 = .ok (.aload_n 0, 1) := by decide +kernel
theorem dX10_forget_1 : decode cX10_forget 1 = .ok (.iconst (-1), 1) := by decide +kernel
theorem dX10_forget_2 : decode cX10_forget 2 = .ok (.putfield 24, 3) := by decide +kernel
theorem dX10_forget_5 : decode cX10_forget 5 = .ok (.return_, 1) := by decide +kernel
theorem dX10_findAll_0 : decode cX10_findAll 0 = .ok (.iconst 0, 1) := by decide +kernel
theorem dX10_findAll_1 : decode cX10_findAll 1 = .ok (.istore_n 1, 1) := by decide +kernel
theorem dX10_findAll_2 : decode cX10_findAll 2 = .ok (.iconst 0, 1) := by decide +kernel
theorem dX10_findAll_3 : decode cX10_findAll 3 = .ok (.istore_n 2, 1) := by decide +kernel
theorem dX10_findAll_4 : decode cX10_findAll 4 = .ok (.iload_n 2, 1) := by decide +kernel
theorem dX10_findAll_5 : decode cX10_findAll 5 = .ok (.aload_n 0, 1) := by decide +kernel
theorem dX10_findAll_6 : decode cX10_findAll 6 = .ok (.getfield 40, 3) := by decide +kernel
theorem dX10_findAll_9 : decode cX10_findAll 9 = .ok (.getfield 59, 3) := by decide +kernel
theorem dX10_findAll_12 : decode cX10_findAll 12 = .ok (.if_icmp .ge 90, 3) := by decide +kernel
theorem dX10_findAll_15 : decode cX10_findAll 15 = .ok (.aload_n 0, 1) := by decide +kernel
theorem dX10_findAll_16 : decode cX10_findAll 16 = .ok (.getfield 40, 3) := by decide +kernel
theorem dX10_findAll_19 : decode cX10_findAll 19 = .ok (.aload_n 0, 1) := by decide +kernel
theorem dX10_findAll_20 : decode cX10_findAll 20 = .ok (.getfield 40, 3) := by decide +kernel
theorem dX10_findAll_23 : decode cX10_findAll 23 = .ok (.getfield 62, 3) := by decide +kernel
theorem dX10_findAll_26 : decode cX10_findAll 26 = .ok (.iload_n 2, 1) := by decide +kernel
theorem dX10_findAll_27 : decode cX10_findAll 27 = .ok (.invokevirtual 65, 3) := by decide +kernel
theorem dX10_findAll_30 : decode cX10_findAll 30 = .ok (.lstore_n 3, 1) := by decide +kernel
theorem dX10_findAll_31 : decode cX10_findAll 31 = .ok (.iconst 0, 1) := by decide +kernel
theorem dX10_findAll_32 : decode cX10_findAll 32 = .ok (.istore 5, 2) := by decide +kernel
theorem dX10_findAll_34 : decode cX10_findAll 34 = .ok (.iload 5, 2) := by decide +kernel
theorem dX10_findAll_36 : decode cX10_findAll 36 = .ok (.bipush 64, 2) := by decide +kernel
theorem dX10_findAll_38 : decode cX10_findAll 38 = .ok (.if_icmp .ge 58, 3) := by decide +kernel
theorem dX10_findAll_41 : decode cX10_findAll 41 = .ok (.lload_n 3, 1) := by decide +kernel
theorem dX10_findAll_42 : decode cX10_findAll 42 = .ok (.lconst 0, 1) := by decide +kernel
theorem dX10_findAll_43 : decode cX10_findAll 43 = .ok (.lcmp, 1) := by decide +kernel
theorem dX10_findAll_44 : decode cX10_findAll 44 = .ok (.ifCond .eq 52, 3) := by decide +kernel
theorem dX10_findAll_47 : decode cX10_findAll 47 = .ok (.lload_n 3, 1) := by decide +kernel
theorem dX10_findAll_48 : decode cX10_findAll 48 = .ok (.iload 5, 2) := by decide +kernel
theorem dX10_findAll_50 : decode cX10_findAll 50 = .ok (.lushr, 1) := by decide +kernel
theorem dX10_findAll_51 : decode cX10_findAll 51 = .ok (.lconst 1, 1) := by decide +kernel
theorem dX10_findAll_52 : decode cX10_findAll 52 = .ok (.land, 1) := by decide +kernel
theorem dX10_findAll_53 : decode cX10_findAll 53 = .ok (.lconst 1, 1) := by decide +kernel
theorem dX10_findAll_54 : decode cX10_findAll 54 = .ok (.lcmp, 1) := by decide +kernel
theorem dX10_findAll_55 : decode cX10_findAll 55 = .ok (.ifCond .ne 35, 3) := by decide +kernel
theorem dX10_findAll_58 : decode cX10_findAll 58 = .ok (.iload_n 1, 1) := by decide +kernel
theorem dX10_findAll_59 : decode cX10_findAll 59 = .ok (.aload_n 0, 1) := by decide +kernel
theorem dX10_findAll_60 : decode cX10_findAll 60 = .ok (.getfield 17, 3) := by decide +kernel
theorem dX10_findAll_63 : decode cX10_findAll 63 = .ok (.arraylength, 1) := by decide +kernel
theorem dX10_findAll_64 : decode cX10_findAll 64 = .ok (.if_icmp .ge 26, 3) := by decide +kernel
theorem dX10_findAll_67 : decode cX10_findAll 67 = .ok (.aload_n 0, 1) := by decide +kernel
theorem dX10_findAll_68 : decode cX10_findAll 68 = .ok (.getfield 17, 3) := by decide +kernel
theorem dX10_findAll_71 : decode cX10_findAll 71 = .ok (.iload_n 1, 1) := by decide +kernel
theorem dX10_findAll_72 : decode cX10_findAll 72 = .ok (.aload_n 0, 1) := by decide +kernel
theorem dX10_findAll_73 : decode cX10_findAll 73 = .ok (.getfield 40, 3) := by decide +kernel
theorem dX10_findAll_76 : decode cX10_findAll 76 = .ok (.iload_n 2, 1) := by decide +kernel
theorem dX10_findAll_77 : decode cX10_findAll 77 = .ok (.bipush 64, 2) := by decide +kernel
theorem dX10_findAll_79 : decode cX10_findAll 79 = .ok (.imul, 1) := by decide +kernel
theorem dX10_findAll_80 : decode cX10_findAll 80 = .ok (.iload 5, 2) := by decide +kernel
theorem dX10_findAll_82 : decode cX10_findAll 82 = .ok (.iadd, 1) := by decide +kernel
theorem dX10_findAll_83 : decode cX10_findAll 83 = .ok (.invokevirtual 69, 3) := by decide +kernel
theorem dX10_findAll_86 : decode cX10_findAll 86 = .ok (.iastore, 1) := by decide +kernel
theorem dX10_findAll_87 : decode cX10_findAll 87 = .ok (.iinc 1 1, 3) := by decide +kernel
theorem dX10_findAll_90 : decode cX10_findAll 90 = .ok (.iinc 5 1, 3) := by decide +kernel
theorem dX10_findAll_93 : decode cX10_findAll 93 = .ok (.goto (-59), 3) := by decide +kernel
theorem dX10_findAll_96 : decode cX10_findAll 96 = .ok (.iinc 2 1, 3) := by decide +kernel
theorem dX10_findAll_99 : decode cX10_findAll 99 = .ok (.goto (-95), 3) := by decide +kernel
theorem dX10_findAll_102 : decode cX10_findAll 102 = .ok (.iload_n 1, 1) := by decide +kernel
theorem dX10_findAll_103 : decode cX10_findAll 103 = .ok (.ireturn, 1) := by decide +kernel
theorem dX10_sortBySize_0 : decode cX10_sortBySize 0 = .ok (.aload_n 0, 1) := by decide +kernel
theorem dX10_sortBySize_1 : decode cX10_sortBySize 1 = .ok (.iconst 0, 1) := by decide +kernel
theorem dX10_sortBySize_2 : decode cX10_sortBySize 2 = .ok (.putfield 20, 3) := by decide +kernel
theorem dX10_sortBySize_5 : decode cX10_sortBySize 5 = .ok (.iconst 1, 1) := by decide +kernel
theorem dX10_sortBySize_6 : decode cX10_sortBySize 6 = .ok (.istore_n 2, 1) := by decide +kernel
theorem dX10_sortBySize_7 : decode cX10_sortBySize 7 = .ok (.iload_n 2, 1) := by decide +kernel
theorem dX10_sortBySize_8 : decode cX10_sortBySize 8 = .ok (.bipush 16, 2) := by decide +kernel
theorem dX10_sortBySize_10 : decode cX10_sortBySize 10 = .ok (.if_icmp .gt 60, 3) := by decide +kernel
theorem dX10_sortBySize_13 : decode cX10_sortBySize 13 = .ok (.iconst 0, 1) := by decide +kernel
theorem dX10_sortBySize_14 : decode cX10_sortBySize 14 = .ok (.istore_n 3, 1) := by decide +kernel
theorem dX10_sortBySize_15 : decode cX10_sortBySize 15 = .ok (.iload_n 3, 1) := by decide +kernel
theorem dX10_sortBySize_16 : decode cX10_sortBySize 16 = .ok (.iload_n 1, 1) := by decide +kernel
theorem dX10_sortBySize_17 : decode cX10_sortBySize 17 = .ok (.if_icmp .ge 47, 3) := by decide +kernel
theorem dX10_sortBySize_20 : decode cX10_sortBySize 20 = .ok (.aload_n 0, 1) := by decide +kernel
theorem dX10_sortBySize_21 : decode cX10_sortBySize 21 = .ok (.getfield 17, 3) := by decide +kernel
theorem dX10_sortBySize_24 : decode cX10_sortBySize 24 = .ok (.iload_n 3, 1) := by decide +kernel
theorem dX10_sortBySize_25 : decode cX10_sortBySize 25 = .ok (.iaload, 1) := by decide +kernel
theorem dX10_sortBySize_26 : decode cX10_sortBySize 26 = .ok (.invokestatic 73, 3) := by decide +kernel
theorem dX10_sortBySize_29 : decode cX10_sortBySize 29 = .ok (.iload_n 2, 1) := by decide +kernel
theorem dX10_sortBySize_30 : decode cX10_sortBySize 30 = .ok (.if_icmp .ne 28, 3) := by decide +kernel
theorem dX10_sortBySize_33 : decode cX10_sortBySize 33 = .ok (.aload_n 0, 1) := by decide +kernel
theorem dX10_sortBySize_34 : decode cX10_sortBySize 34 = .ok (.getfield 11, 3) := by decide +kernel
theorem dX10_sortBySize_37 : decode cX10_sortBySize 37 = .ok (.aload_n 0, 1) := by decide +kernel
theorem dX10_sortBySize_38 : decode cX10_sortBySize 38 = .ok (.getfield 20, 3) := by decide +kernel
theorem dX10_sortBySize_41 : decode cX10_sortBySize 41 = .ok (.aload_n 0, 1) := by decide +kernel
theorem dX10_sortBySize_42 : decode cX10_sortBySize 42 = .ok (.getfield 17, 3) := by decide +kernel
theorem dX10_sortBySize_45 : decode cX10_sortBySize 45 = .ok (.iload_n 3, 1) := by decide +kernel
theorem dX10_sortBySize_46 : decode cX10_sortBySize 46 = .ok (.iaload, 1) := by decide +kernel
theorem dX10_sortBySize_47 : decode cX10_sortBySize 47 = .ok (.iastore, 1) := by decide +kernel
theorem dX10_sortBySize_48 : decode cX10_sortBySize 48 = .ok (.aload_n 0, 1) := by decide +kernel
theorem dX10_sortBySize_49 : decode cX10_sortBySize 49 = .ok (.dup, 1) := by decide +kernel
theorem dX10_sortBySize_50 : decode cX10_sortBySize 50 = .ok (.getfield 20, 3) := by decide +kernel
theorem dX10_sortBySize_53 : decode cX10_sortBySize 53 = .ok (.iconst 1, 1) := by decide +kernel
theorem dX10_sortBySize_54 : decode cX10_sortBySize 54 = .ok (.iadd, 1) := by decide +kernel
theorem dX10_sortBySize_55 : decode cX10_sortBySize 55 = .ok (.putfield 20, 3) := by decide +kernel
theorem dX10_sortBySize_58 : decode cX10_sortBySize 58 = .ok (.iinc 3 1, 3) := by decide +kernel
theorem dX10_sortBySize_61 : decode cX10_sortBySize 61 = .ok (.goto (-46), 3) := by decide +kernel
theorem dX10_sortBySize_64 : decode cX10_sortBySize 64 = .ok (.iinc 2 1, 3) := by decide +kernel
theorem dX10_sortBySize_67 : decode cX10_sortBySize 67 = .ok (.goto (-60), 3) := by decide +kernel
theorem dX10_sortBySize_70 : decode cX10_sortBySize 70 = .ok (.return_, 1) := by decide +kernel
theorem dX10_firstLeast_0 : decode cX10_firstLeast 0 = .ok (.iconst 0, 1) := by decide +kernel
theorem dX10_firstLeast_1 : decode cX10_firstLeast 1 = .ok (.istore_n 2, 1) := by decide +kernel
theorem dX10_firstLeast_2 : decode cX10_firstLeast 2 = .ok (.ldc 78, 2) := by decide +kernel
theorem dX10_firstLeast_4 : decode cX10_firstLeast 4 = .ok (.istore_n 3, 1) := by decide +kernel
theorem dX10_firstLeast_5 : decode cX10_firstLeast 5 = .ok (.iconst 0, 1) := by decide +kernel
theorem dX10_firstLeast_6 : decode cX10_firstLeast 6 = .ok (.istore 4, 2) := by decide +kernel
theorem dX10_firstLeast_8 : decode cX10_firstLeast 8 = .ok (.iload 4, 2) := by decide +kernel
theorem dX10_firstLeast_10 : decode cX10_firstLeast 10 = .ok (.aload_n 0, 1) := by decide +kernel
theorem dX10_firstLeast_11 : decode cX10_firstLeast 11 = .ok (.getfield 20, 3) := by decide +kernel
theorem dX10_firstLeast_14 : decode cX10_firstLeast 14 = .ok (.if_icmp .ge 43, 3) := by decide +kernel
theorem dX10_firstLeast_17 : decode cX10_firstLeast 17 = .ok (.aload_n 0, 1) := by decide +kernel
theorem dX10_firstLeast_18 : decode cX10_firstLeast 18 = .ok (.getfield 36, 3) := by decide +kernel
theorem dX10_firstLeast_21 : decode cX10_firstLeast 21 = .ok (.aload_n 0, 1) := by decide +kernel
theorem dX10_firstLeast_22 : decode cX10_firstLeast 22 = .ok (.getfield 11, 3) := by decide +kernel
theorem dX10_firstLeast_25 : decode cX10_firstLeast 25 = .ok (.iload 4, 2) := by decide +kernel
theorem dX10_firstLeast_27 : decode cX10_firstLeast 27 = .ok (.iaload, 1) := by decide +kernel
theorem dX10_firstLeast_28 : decode cX10_firstLeast 28 = .ok (.iload_n 1, 1) := by decide +kernel
theorem dX10_firstLeast_29 : decode cX10_firstLeast 29 = .ok (.invokevirtual 79, 3) := by decide +kernel
theorem dX10_firstLeast_32 : decode cX10_firstLeast 32 = .ok (.istore 5, 2) := by decide +kernel
theorem dX10_firstLeast_34 : decode cX10_firstLeast 34 = .ok (.iload 5, 2) := by decide +kernel
theorem dX10_firstLeast_36 : decode cX10_firstLeast 36 = .ok (.iload_n 3, 1) := by decide +kernel
theorem dX10_firstLeast_37 : decode cX10_firstLeast 37 = .ok (.if_icmp .ge 14, 3) := by decide +kernel
theorem dX10_firstLeast_40 : decode cX10_firstLeast 40 = .ok (.iload 5, 2) := by decide +kernel
theorem dX10_firstLeast_42 : decode cX10_firstLeast 42 = .ok (.istore_n 3, 1) := by decide +kernel
theorem dX10_firstLeast_43 : decode cX10_firstLeast 43 = .ok (.aload_n 0, 1) := by decide +kernel
theorem dX10_firstLeast_44 : decode cX10_firstLeast 44 = .ok (.getfield 11, 3) := by decide +kernel
theorem dX10_firstLeast_47 : decode cX10_firstLeast 47 = .ok (.iload 4, 2) := by decide +kernel
theorem dX10_firstLeast_49 : decode cX10_firstLeast 49 = .ok (.iaload, 1) := by decide +kernel
theorem dX10_firstLeast_50 : decode cX10_firstLeast 50 = .ok (.istore_n 2, 1) := by decide +kernel
theorem dX10_firstLeast_51 : decode cX10_firstLeast 51 = .ok (.iinc 4 1, 3) := by decide +kernel
theorem dX10_firstLeast_54 : decode cX10_firstLeast 54 = .ok (.goto (-46), 3) := by decide +kernel
theorem dX10_firstLeast_57 : decode cX10_firstLeast 57 = .ok (.iload_n 2, 1) := by decide +kernel
theorem dX10_firstLeast_58 : decode cX10_firstLeast 58 = .ok (.ireturn, 1) := by decide +kernel
theorem dX10_bribe_0 : decode cX10_bribe 0 = .ok (.aload_n 0, 1) := by decide +kernel
theorem dX10_bribe_1 : decode cX10_bribe 1 = .ok (.getfield 30, 3) := by decide +kernel
theorem dX10_bribe_4 : decode cX10_bribe 4 = .ok (.bipush 6, 2) := by decide +kernel
theorem dX10_bribe_6 : decode cX10_bribe 6 = .ok (.if_icmp .lt 5, 3) := by decide +kernel
theorem dX10_bribe_9 : decode cX10_bribe 9 = .ok (.iconst 0, 1) := by decide +kernel
theorem dX10_bribe_10 : decode cX10_bribe 10 = .ok (.ireturn, 1) := by decide +kernel
theorem dX10_bribe_11 : decode cX10_bribe 11 = .ok (.aload_n 0, 1) := by decide +kernel
theorem dX10_bribe_12 : decode cX10_bribe 12 = .ok (.getfield 27, 3) := by decide +kernel
theorem dX10_bribe_15 : decode cX10_bribe 15 = .ok (.aload_n 0, 1) := by decide +kernel
theorem dX10_bribe_16 : decode cX10_bribe 16 = .ok (.getfield 30, 3) := by decide +kernel
theorem dX10_bribe_19 : decode cX10_bribe 19 = .ok (.iload_n 1, 1) := by decide +kernel
theorem dX10_bribe_20 : decode cX10_bribe 20 = .ok (.iastore, 1) := by decide +kernel
theorem dX10_bribe_21 : decode cX10_bribe 21 = .ok (.aload_n 0, 1) := by decide +kernel
theorem dX10_bribe_22 : decode cX10_bribe 22 = .ok (.dup, 1) := by decide +kernel
theorem dX10_bribe_23 : decode cX10_bribe 23 = .ok (.getfield 30, 3) := by decide +kernel
theorem dX10_bribe_26 : decode cX10_bribe 26 = .ok (.iconst 1, 1) := by decide +kernel
theorem dX10_bribe_27 : decode cX10_bribe 27 = .ok (.iadd, 1) := by decide +kernel
theorem dX10_bribe_28 : decode cX10_bribe 28 = .ok (.putfield 30, 3) := by decide +kernel
theorem dX10_bribe_31 : decode cX10_bribe 31 = .ok (.iconst 1, 1) := by decide +kernel
theorem dX10_bribe_32 : decode cX10_bribe 32 = .ok (.ireturn, 1) := by decide +kernel
theorem dX10_givenBy_0 : decode cX10_givenBy 0 = .ok (.iconst 0, 1) := by decide +kernel
theorem dX10_givenBy_1 : decode cX10_givenBy 1 = .ok (.istore_n 2, 1) := by decide +kernel
theorem dX10_givenBy_2 : decode cX10_givenBy 2 = .ok (.iconst 0, 1) := by decide +kernel
theorem dX10_givenBy_3 : decode cX10_givenBy 3 = .ok (.istore_n 3, 1) := by decide +kernel
theorem dX10_givenBy_4 : decode cX10_givenBy 4 = .ok (.iload_n 3, 1) := by decide +kernel
theorem dX10_givenBy_5 : decode cX10_givenBy 5 = .ok (.aload_n 0, 1) := by decide +kernel
theorem dX10_givenBy_6 : decode cX10_givenBy 6 = .ok (.getfield 30, 3) := by decide +kernel
theorem dX10_givenBy_9 : decode cX10_givenBy 9 = .ok (.if_icmp .ge 27, 3) := by decide +kernel
theorem dX10_givenBy_12 : decode cX10_givenBy 12 = .ok (.iload_n 1, 1) := by decide +kernel
theorem dX10_givenBy_13 : decode cX10_givenBy 13 = .ok (.iload_n 3, 1) := by decide +kernel
theorem dX10_givenBy_14 : decode cX10_givenBy 14 = .ok (.ishr, 1) := by decide +kernel
theorem dX10_givenBy_15 : decode cX10_givenBy 15 = .ok (.iconst 1, 1) := by decide +kernel
theorem dX10_givenBy_16 : decode cX10_givenBy 16 = .ok (.iand, 1) := by decide +kernel
theorem dX10_givenBy_17 : decode cX10_givenBy 17 = .ok (.iconst 1, 1) := by decide +kernel
theorem dX10_givenBy_18 : decode cX10_givenBy 18 = .ok (.if_icmp .ne 12, 3) := by decide +kernel
theorem dX10_givenBy_21 : decode cX10_givenBy 21 = .ok (.iload_n 2, 1) := by decide +kernel
theorem dX10_givenBy_22 : decode cX10_givenBy 22 = .ok (.aload_n 0, 1) := by decide +kernel
theorem dX10_givenBy_23 : decode cX10_givenBy 23 = .ok (.getfield 27, 3) := by decide +kernel
theorem dX10_givenBy_26 : decode cX10_givenBy 26 = .ok (.iload_n 3, 1) := by decide +kernel
theorem dX10_givenBy_27 : decode cX10_givenBy 27 = .ok (.iaload, 1) := by decide +kernel
theorem dX10_givenBy_28 : decode cX10_givenBy 28 = .ok (.ior, 1) := by decide +kernel
theorem dX10_givenBy_29 : decode cX10_givenBy 29 = .ok (.istore_n 2, 1) := by decide +kernel
theorem dX10_givenBy_30 : decode cX10_givenBy 30 = .ok (.iinc 3 1, 3) := by decide +kernel
theorem dX10_givenBy_33 : decode cX10_givenBy 33 = .ok (.goto (-29), 3) := by decide +kernel
theorem dX10_givenBy_36 : decode cX10_givenBy 36 = .ok (.iload_n 2, 1) := by decide +kernel
theorem dX10_givenBy_37 : decode cX10_givenBy 37 = .ok (.ireturn, 1) := by decide +kernel
theorem dX10_leastPriceWith_0 : decode cX10_leastPriceWith 0 = .ok (.ldc 78, 2) := by decide +kernel
theorem dX10_leastPriceWith_2 : decode cX10_leastPriceWith 2 = .ok (.istore_n 2, 1) := by decide +kernel
theorem dX10_leastPriceWith_3 : decode cX10_leastPriceWith 3 = .ok (.iconst 0, 1) := by decide +kernel
theorem dX10_leastPriceWith_4 : decode cX10_leastPriceWith 4 = .ok (.istore_n 3, 1) := by decide +kernel
theorem dX10_leastPriceWith_5 : decode cX10_leastPriceWith 5 = .ok (.iload_n 3, 1) := by decide +kernel
theorem dX10_leastPriceWith_6 : decode cX10_leastPriceWith 6 = .ok (.aload_n 0, 1) := by decide +kernel
theorem dX10_leastPriceWith_7 : decode cX10_leastPriceWith 7 = .ok (.getfield 20, 3) := by decide +kernel
theorem dX10_leastPriceWith_10 : decode cX10_leastPriceWith 10 = .ok (.if_icmp .ge 32, 3) := by decide +kernel
theorem dX10_leastPriceWith_13 : decode cX10_leastPriceWith 13 = .ok (.iload_n 2, 1) := by decide +kernel
theorem dX10_leastPriceWith_14 : decode cX10_leastPriceWith 14 = .ok (.aload_n 0, 1) := by decide +kernel
theorem dX10_leastPriceWith_15 : decode cX10_leastPriceWith 15 = .ok (.getfield 36, 3) := by decide +kernel
theorem dX10_leastPriceWith_18 : decode cX10_leastPriceWith 18 = .ok (.aload_n 0, 1) := by decide +kernel
theorem dX10_leastPriceWith_19 : decode cX10_leastPriceWith 19 = .ok (.getfield 11, 3) := by decide +kernel
theorem dX10_leastPriceWith_22 : decode cX10_leastPriceWith 22 = .ok (.iload_n 3, 1) := by decide +kernel
theorem dX10_leastPriceWith_23 : decode cX10_leastPriceWith 23 = .ok (.iaload, 1) := by decide +kernel
theorem dX10_leastPriceWith_24 : decode cX10_leastPriceWith 24 = .ok (.iload_n 1, 1) := by decide +kernel
theorem dX10_leastPriceWith_25 : decode cX10_leastPriceWith 25 = .ok (.iconst (-1), 1) := by decide +kernel
theorem dX10_leastPriceWith_26 : decode cX10_leastPriceWith 26 = .ok (.ixor, 1) := by decide +kernel
theorem dX10_leastPriceWith_27 : decode cX10_leastPriceWith 27 = .ok (.iand, 1) := by decide +kernel
theorem dX10_leastPriceWith_28 : decode cX10_leastPriceWith 28 = .ok (.iconst 0, 1) := by decide +kernel
theorem dX10_leastPriceWith_29 : decode cX10_leastPriceWith 29 = .ok (.invokevirtual 79, 3) := by decide +kernel
theorem dX10_leastPriceWith_32 : decode cX10_leastPriceWith 32 = .ok (.invokestatic 85, 3) := by decide +kernel
theorem dX10_leastPriceWith_35 : decode cX10_leastPriceWith 35 = .ok (.istore_n 2, 1) := by decide +kernel
theorem dX10_leastPriceWith_36 : decode cX10_leastPriceWith 36 = .ok (.iinc 3 1, 3) := by decide +kernel
theorem dX10_leastPriceWith_39 : decode cX10_leastPriceWith 39 = .ok (.goto (-34), 3) := by decide +kernel
theorem dX10_leastPriceWith_42 : decode cX10_leastPriceWith 42 = .ok (.iload_n 2, 1) := by decide +kernel
theorem dX10_leastPriceWith_43 : decode cX10_leastPriceWith 43 = .ok (.ireturn, 1) := by decide +kernel
theorem dX10_worstSet_0 : decode cX10_worstSet 0 = .ok (.iconst 0, 1) := by decide +kernel
theorem dX10_worstSet_1 : decode cX10_worstSet 1 = .ok (.istore_n 2, 1) := by decide +kernel
theorem dX10_worstSet_2 : decode cX10_worstSet 2 = .ok (.ldc 78, 2) := by decide +kernel
theorem dX10_worstSet_4 : decode cX10_worstSet 4 = .ok (.istore_n 3, 1) := by decide +kernel
theorem dX10_worstSet_5 : decode cX10_worstSet 5 = .ok (.iconst 0, 1) := by decide +kernel
theorem dX10_worstSet_6 : decode cX10_worstSet 6 = .ok (.istore 4, 2) := by decide +kernel
theorem dX10_worstSet_8 : decode cX10_worstSet 8 = .ok (.iload 4, 2) := by decide +kernel
theorem dX10_worstSet_10 : decode cX10_worstSet 10 = .ok (.iconst 1, 1) := by decide +kernel
theorem dX10_worstSet_11 : decode cX10_worstSet 11 = .ok (.aload_n 0, 1) := by decide +kernel
theorem dX10_worstSet_12 : decode cX10_worstSet 12 = .ok (.getfield 30, 3) := by decide +kernel
theorem dX10_worstSet_15 : decode cX10_worstSet 15 = .ok (.ishl, 1) := by decide +kernel
theorem dX10_worstSet_16 : decode cX10_worstSet 16 = .ok (.if_icmp .ge 45, 3) := by decide +kernel
theorem dX10_worstSet_19 : decode cX10_worstSet 19 = .ok (.iload 4, 2) := by decide +kernel
theorem dX10_worstSet_21 : decode cX10_worstSet 21 = .ok (.invokestatic 73, 3) := by decide +kernel
theorem dX10_worstSet_24 : decode cX10_worstSet 24 = .ok (.iload_n 1, 1) := by decide +kernel
theorem dX10_worstSet_25 : decode cX10_worstSet 25 = .ok (.if_icmp .eq 6, 3) := by decide +kernel
theorem dX10_worstSet_28 : decode cX10_worstSet 28 = .ok (.goto 27, 3) := by decide +kernel
theorem dX10_worstSet_31 : decode cX10_worstSet 31 = .ok (.aload_n 0, 1) := by decide +kernel
theorem dX10_worstSet_32 : decode cX10_worstSet 32 = .ok (.aload_n 0, 1) := by decide +kernel
theorem dX10_worstSet_33 : decode cX10_worstSet 33 = .ok (.iload 4, 2) := by decide +kernel
theorem dX10_worstSet_35 : decode cX10_worstSet 35 = .ok (.invokevirtual 90, 3) := by decide +kernel
theorem dX10_worstSet_38 : decode cX10_worstSet 38 = .ok (.invokevirtual 93, 3) := by decide +kernel
theorem dX10_worstSet_41 : decode cX10_worstSet 41 = .ok (.istore 5, 2) := by decide +kernel
theorem dX10_worstSet_43 : decode cX10_worstSet 43 = .ok (.iload 5, 2) := by decide +kernel
theorem dX10_worstSet_45 : decode cX10_worstSet 45 = .ok (.iload_n 3, 1) := by decide +kernel
theorem dX10_worstSet_46 : decode cX10_worstSet 46 = .ok (.if_icmp .ge 9, 3) := by decide +kernel
theorem dX10_worstSet_49 : decode cX10_worstSet 49 = .ok (.iload 5, 2) := by decide +kernel
theorem dX10_worstSet_51 : decode cX10_worstSet 51 = .ok (.istore_n 3, 1) := by decide +kernel
theorem dX10_worstSet_52 : decode cX10_worstSet 52 = .ok (.iload 4, 2) := by decide +kernel
theorem dX10_worstSet_54 : decode cX10_worstSet 54 = .ok (.istore_n 2, 1) := by decide +kernel
theorem dX10_worstSet_55 : decode cX10_worstSet 55 = .ok (.iinc 4 1, 3) := by decide +kernel
theorem dX10_worstSet_58 : decode cX10_worstSet 58 = .ok (.goto (-50), 3) := by decide +kernel
theorem dX10_worstSet_61 : decode cX10_worstSet 61 = .ok (.iload_n 2, 1) := by decide +kernel
theorem dX10_worstSet_62 : decode cX10_worstSet 62 = .ok (.ireturn, 1) := by decide +kernel
theorem dX10_sift_0 : decode cX10_sift 0 = .ok (.iconst 0, 1) := by decide +kernel
theorem dX10_sift_1 : decode cX10_sift 1 = .ok (.istore_n 3, 1) := by decide +kernel
theorem dX10_sift_2 : decode cX10_sift 2 = .ok (.iconst 0, 1) := by decide +kernel
theorem dX10_sift_3 : decode cX10_sift 3 = .ok (.istore 4, 2) := by decide +kernel
theorem dX10_sift_5 : decode cX10_sift 5 = .ok (.iload 4, 2) := by decide +kernel
theorem dX10_sift_7 : decode cX10_sift 7 = .ok (.aload_n 0, 1) := by decide +kernel
theorem dX10_sift_8 : decode cX10_sift 8 = .ok (.getfield 20, 3) := by decide +kernel
theorem dX10_sift_11 : decode cX10_sift 11 = .ok (.if_icmp .ge 52, 3) := by decide +kernel
theorem dX10_sift_14 : decode cX10_sift 14 = .ok (.aload_n 0, 1) := by decide +kernel
theorem dX10_sift_15 : decode cX10_sift 15 = .ok (.getfield 36, 3) := by decide +kernel
theorem dX10_sift_18 : decode cX10_sift 18 = .ok (.aload_n 0, 1) := by decide +kernel
theorem dX10_sift_19 : decode cX10_sift 19 = .ok (.getfield 11, 3) := by decide +kernel
theorem dX10_sift_22 : decode cX10_sift 22 = .ok (.iload 4, 2) := by decide +kernel
theorem dX10_sift_24 : decode cX10_sift 24 = .ok (.iaload, 1) := by decide +kernel
theorem dX10_sift_25 : decode cX10_sift 25 = .ok (.invokevirtual 96, 3) := by decide +kernel
theorem dX10_sift_28 : decode cX10_sift 28 = .ok (.istore 5, 2) := by decide +kernel
theorem dX10_sift_30 : decode cX10_sift 30 = .ok (.iload_n 1, 1) := by decide +kernel
theorem dX10_sift_31 : decode cX10_sift 31 = .ok (.iload 5, 2) := by decide +kernel
theorem dX10_sift_33 : decode cX10_sift 33 = .ok (.iconst (-1), 1) := by decide +kernel
theorem dX10_sift_34 : decode cX10_sift 34 = .ok (.ixor, 1) := by decide +kernel
theorem dX10_sift_35 : decode cX10_sift 35 = .ok (.iand, 1) := by decide +kernel
theorem dX10_sift_36 : decode cX10_sift 36 = .ok (.ifCond .ne 21, 3) := by decide +kernel
theorem dX10_sift_39 : decode cX10_sift 39 = .ok (.iload_n 2, 1) := by decide +kernel
theorem dX10_sift_40 : decode cX10_sift 40 = .ok (.iload 5, 2) := by decide +kernel
theorem dX10_sift_42 : decode cX10_sift 42 = .ok (.iand, 1) := by decide +kernel
theorem dX10_sift_43 : decode cX10_sift 43 = .ok (.ifCond .ne 14, 3) := by decide +kernel
theorem dX10_sift_46 : decode cX10_sift 46 = .ok (.aload_n 0, 1) := by decide +kernel
theorem dX10_sift_47 : decode cX10_sift 47 = .ok (.getfield 33, 3) := by decide +kernel
theorem dX10_sift_50 : decode cX10_sift 50 = .ok (.iload_n 3, 1) := by decide +kernel
theorem dX10_sift_51 : decode cX10_sift 51 = .ok (.iload 5, 2) := by decide +kernel
theorem dX10_sift_53 : decode cX10_sift 53 = .ok (.iastore, 1) := by decide +kernel
theorem dX10_sift_54 : decode cX10_sift 54 = .ok (.iinc 3 1, 3) := by decide +kernel
theorem dX10_sift_57 : decode cX10_sift 57 = .ok (.iinc 4 1, 3) := by decide +kernel
theorem dX10_sift_60 : decode cX10_sift 60 = .ok (.goto (-55), 3) := by decide +kernel
theorem dX10_sift_63 : decode cX10_sift 63 = .ok (.iload_n 3, 1) := by decide +kernel
theorem dX10_sift_64 : decode cX10_sift 64 = .ok (.ireturn, 1) := by decide +kernel
theorem dX10_markToAsk_0 : decode cX10_markToAsk 0 = .ok (.aload_n 0, 1) := by decide +kernel
theorem dX10_markToAsk_1 : decode cX10_markToAsk 1 = .ok (.iload_n 1, 1) := by decide +kernel
theorem dX10_markToAsk_2 : decode cX10_markToAsk 2 = .ok (.iload_n 2, 1) := by decide +kernel
theorem dX10_markToAsk_3 : decode cX10_markToAsk 3 = .ok (.invokevirtual 99, 3) := by decide +kernel
theorem dX10_markToAsk_6 : decode cX10_markToAsk 6 = .ok (.istore_n 3, 1) := by decide +kernel
theorem dX10_markToAsk_7 : decode cX10_markToAsk 7 = .ok (.iconst (-1), 1) := by decide +kernel
theorem dX10_markToAsk_8 : decode cX10_markToAsk 8 = .ok (.istore 4, 2) := by decide +kernel
theorem dX10_markToAsk_10 : decode cX10_markToAsk 10 = .ok (.iload_n 3, 1) := by decide +kernel
theorem dX10_markToAsk_11 : decode cX10_markToAsk 11 = .ok (.istore 5, 2) := by decide +kernel
theorem dX10_markToAsk_13 : decode cX10_markToAsk 13 = .ok (.iconst 0, 1) := by decide +kernel
theorem dX10_markToAsk_14 : decode cX10_markToAsk 14 = .ok (.istore 6, 2) := by decide +kernel
theorem dX10_markToAsk_16 : decode cX10_markToAsk 16 = .ok (.iload 6, 2) := by decide +kernel
theorem dX10_markToAsk_18 : decode cX10_markToAsk 18 = .ok (.bipush 8, 2) := by decide +kernel
theorem dX10_markToAsk_20 : decode cX10_markToAsk 20 = .ok (.if_icmp .ge 85, 3) := by decide +kernel
theorem dX10_markToAsk_23 : decode cX10_markToAsk 23 = .ok (.iload_n 1, 1) := by decide +kernel
theorem dX10_markToAsk_24 : decode cX10_markToAsk 24 = .ok (.iload_n 2, 1) := by decide +kernel
theorem dX10_markToAsk_25 : decode cX10_markToAsk 25 = .ok (.ior, 1) := by decide +kernel
theorem dX10_markToAsk_26 : decode cX10_markToAsk 26 = .ok (.iload 6, 2) := by decide +kernel
theorem dX10_markToAsk_28 : decode cX10_markToAsk 28 = .ok (.ishr, 1) := by decide +kernel
theorem dX10_markToAsk_29 : decode cX10_markToAsk 29 = .ok (.iconst 1, 1) := by decide +kernel
theorem dX10_markToAsk_30 : decode cX10_markToAsk 30 = .ok (.iand, 1) := by decide +kernel
theorem dX10_markToAsk_31 : decode cX10_markToAsk 31 = .ok (.iconst 1, 1) := by decide +kernel
theorem dX10_markToAsk_32 : decode cX10_markToAsk 32 = .ok (.if_icmp .ne 6, 3) := by decide +kernel
theorem dX10_markToAsk_35 : decode cX10_markToAsk 35 = .ok (.goto 64, 3) := by decide +kernel
theorem dX10_markToAsk_38 : decode cX10_markToAsk 38 = .ok (.iconst 0, 1) := by decide +kernel
theorem dX10_markToAsk_39 : decode cX10_markToAsk 39 = .ok (.istore 7, 2) := by decide +kernel
theorem dX10_markToAsk_41 : decode cX10_markToAsk 41 = .ok (.iconst 0, 1) := by decide +kernel
theorem dX10_markToAsk_42 : decode cX10_markToAsk 42 = .ok (.istore 8, 2) := by decide +kernel
theorem dX10_markToAsk_44 : decode cX10_markToAsk 44 = .ok (.iload 8, 2) := by decide +kernel
theorem dX10_markToAsk_46 : decode cX10_markToAsk 46 = .ok (.iload_n 3, 1) := by decide +kernel
theorem dX10_markToAsk_47 : decode cX10_markToAsk 47 = .ok (.if_icmp .ge 26, 3) := by decide +kernel
theorem dX10_markToAsk_50 : decode cX10_markToAsk 50 = .ok (.iload 7, 2) := by decide +kernel
theorem dX10_markToAsk_52 : decode cX10_markToAsk 52 = .ok (.aload_n 0, 1) := by decide +kernel
theorem dX10_markToAsk_53 : decode cX10_markToAsk 53 = .ok (.getfield 33, 3) := by decide +kernel
theorem dX10_markToAsk_56 : decode cX10_markToAsk 56 = .ok (.iload 8, 2) := by decide +kernel
theorem dX10_markToAsk_58 : decode cX10_markToAsk 58 = .ok (.iaload, 1) := by decide +kernel
theorem dX10_markToAsk_59 : decode cX10_markToAsk 59 = .ok (.iload 6, 2) := by decide +kernel
theorem dX10_markToAsk_61 : decode cX10_markToAsk 61 = .ok (.ishr, 1) := by decide +kernel
theorem dX10_markToAsk_62 : decode cX10_markToAsk 62 = .ok (.iconst 1, 1) := by decide +kernel
theorem dX10_markToAsk_63 : decode cX10_markToAsk 63 = .ok (.iand, 1) := by decide +kernel
theorem dX10_markToAsk_64 : decode cX10_markToAsk 64 = .ok (.iadd, 1) := by decide +kernel
theorem dX10_markToAsk_65 : decode cX10_markToAsk 65 = .ok (.istore 7, 2) := by decide +kernel
theorem dX10_markToAsk_67 : decode cX10_markToAsk 67 = .ok (.iinc 8 1, 3) := by decide +kernel
theorem dX10_markToAsk_70 : decode cX10_markToAsk 70 = .ok (.goto (-26), 3) := by decide +kernel
theorem dX10_markToAsk_73 : decode cX10_markToAsk 73 = .ok (.iload 7, 2) := by decide +kernel
theorem dX10_markToAsk_75 : decode cX10_markToAsk 75 = .ok (.iload_n 3, 1) := by decide +kernel
theorem dX10_markToAsk_76 : decode cX10_markToAsk 76 = .ok (.iload 7, 2) := by decide +kernel
theorem dX10_markToAsk_78 : decode cX10_markToAsk 78 = .ok (.isub, 1) := by decide +kernel
theorem dX10_markToAsk_79 : decode cX10_markToAsk 79 = .ok (.invokestatic 102, 3) := by decide +kernel
theorem dX10_markToAsk_82 : decode cX10_markToAsk 82 = .ok (.istore 8, 2) := by decide +kernel
theorem dX10_markToAsk_84 : decode cX10_markToAsk 84 = .ok (.iload 8, 2) := by decide +kernel
theorem dX10_markToAsk_86 : decode cX10_markToAsk 86 = .ok (.iload 5, 2) := by decide +kernel
theorem dX10_markToAsk_88 : decode cX10_markToAsk 88 = .ok (.if_icmp .ge 11, 3) := by decide +kernel
theorem dX10_markToAsk_91 : decode cX10_markToAsk 91 = .ok (.iload 8, 2) := by decide +kernel
theorem dX10_markToAsk_93 : decode cX10_markToAsk 93 = .ok (.istore 5, 2) := by decide +kernel
theorem dX10_markToAsk_95 : decode cX10_markToAsk 95 = .ok (.iload 6, 2) := by decide +kernel
theorem dX10_markToAsk_97 : decode cX10_markToAsk 97 = .ok (.istore 4, 2) := by decide +kernel
theorem dX10_markToAsk_99 : decode cX10_markToAsk 99 = .ok (.iinc 6 1, 3) := by decide +kernel
theorem dX10_markToAsk_102 : decode cX10_markToAsk 102 = .ok (.goto (-86), 3) := by decide +kernel
theorem dX10_markToAsk_105 : decode cX10_markToAsk 105 = .ok (.iload 4, 2) := by decide +kernel
theorem dX10_markToAsk_107 : decode cX10_markToAsk 107 = .ok (.ireturn, 1) := by decide +kernel
theorem dX10_mixInto_0 : decode cX10_mixInto 0 = .ok (.iconst 0, 1) := by decide +kernel
theorem dX10_mixInto_1 : decode cX10_mixInto 1 = .ok (.istore_n 3, 1) := by decide +kernel
theorem dX10_mixInto_2 : decode cX10_mixInto 2 = .ok (.iload_n 3, 1) := by decide +kernel
theorem dX10_mixInto_3 : decode cX10_mixInto 3 = .ok (.aload_n 0, 1) := by decide +kernel
theorem dX10_mixInto_4 : decode cX10_mixInto 4 = .ok (.getfield 30, 3) := by decide +kernel
theorem dX10_mixInto_7 : decode cX10_mixInto 7 = .ok (.if_icmp .ge 23, 3) := by decide +kernel
theorem dX10_mixInto_10 : decode cX10_mixInto 10 = .ok (.ldc2_w 105, 3) := by decide +kernel
theorem dX10_mixInto_13 : decode cX10_mixInto 13 = .ok (.lload_n 1, 1) := by decide +kernel
theorem dX10_mixInto_14 : decode cX10_mixInto 14 = .ok (.lmul, 1) := by decide +kernel
theorem dX10_mixInto_15 : decode cX10_mixInto 15 = .ok (.aload_n 0, 1) := by decide +kernel
theorem dX10_mixInto_16 : decode cX10_mixInto 16 = .ok (.getfield 27, 3) := by decide +kernel
theorem dX10_mixInto_19 : decode cX10_mixInto 19 = .ok (.iload_n 3, 1) := by decide +kernel
theorem dX10_mixInto_20 : decode cX10_mixInto 20 = .ok (.iaload, 1) := by decide +kernel
theorem dX10_mixInto_21 : decode cX10_mixInto 21 = .ok (.i2l, 1) := by decide +kernel
theorem dX10_mixInto_22 : decode cX10_mixInto 22 = .ok (.ladd, 1) := by decide +kernel
theorem dX10_mixInto_23 : decode cX10_mixInto 23 = .ok (.lstore_n 1, 1) := by decide +kernel
theorem dX10_mixInto_24 : decode cX10_mixInto 24 = .ok (.iinc 3 1, 3) := by decide +kernel
theorem dX10_mixInto_27 : decode cX10_mixInto 27 = .ok (.goto (-25), 3) := by decide +kernel
theorem dX10_mixInto_30 : decode cX10_mixInto 30 = .ok (.lload_n 1, 1) := by decide +kernel
theorem dX10_mixInto_31 : decode cX10_mixInto 31 = .ok (.lreturn, 1) := by decide +kernel
theorem dX11_step_0 : decode cX11_step 0 = .ok (.iload_n 1, 1) := by decide +kernel
theorem dX11_step_1 : decode cX11_step 1 = .ok (.invokestatic 98, 3) := by decide +kernel
theorem dX11_step_4 : decode cX11_step 4 = .ok (.ifCond .ne 14, 3) := by decide +kernel
theorem dX11_step_7 : decode cX11_step 7 = .ok (.iload_n 2, 1) := by decide +kernel
theorem dX11_step_8 : decode cX11_step 8 = .ok (.iconst 0, 1) := by decide +kernel
theorem dX11_step_9 : decode cX11_step 9 = .ok (.sipush 1000, 3) := by decide +kernel
theorem dX11_step_12 : decode cX11_step 12 = .ok (.invokestatic 102, 3) := by decide +kernel
theorem dX11_step_15 : decode cX11_step 15 = .ok (.ifCond .eq 6, 3) := by decide +kernel
theorem dX11_step_18 : decode cX11_step 18 = .ok (.bipush (-2), 2) := by decide +kernel
theorem dX11_step_20 : decode cX11_step 20 = .ok (.ireturn, 1) := by decide +kernel
theorem dX11_step_21 : decode cX11_step 21 = .ok (.iload_n 3, 1) := by decide +kernel
theorem dX11_step_22 : decode cX11_step 22 = .ok (.iconst 1, 1) := by decide +kernel
theorem dX11_step_23 : decode cX11_step 23 = .ok (.bipush 50, 2) := by decide +kernel
theorem dX11_step_25 : decode cX11_step 25 = .ok (.invokestatic 102, 3) := by decide +kernel
theorem dX11_step_28 : decode cX11_step 28 = .ok (.ifCond .ne 15, 3) := by decide +kernel
theorem dX11_step_31 : decode cX11_step 31 = .ok (.iload 4, 2) := by decide +kernel
theorem dX11_step_33 : decode cX11_step 33 = .ok (.iconst 0, 1) := by decide +kernel
theorem dX11_step_34 : decode cX11_step 34 = .ok (.sipush 1000, 3) := by decide +kernel
theorem dX11_step_37 : decode cX11_step 37 = .ok (.invokestatic 102, 3) := by decide +kernel
theorem dX11_step_40 : decode cX11_step 40 = .ok (.ifCond .eq 6, 3) := by decide +kernel
theorem dX11_step_43 : decode cX11_step 43 = .ok (.bipush (-2), 2) := by decide +kernel
theorem dX11_step_45 : decode cX11_step 45 = .ok (.ireturn, 1) := by decide +kernel
theorem dX11_step_46 : decode cX11_step 46 = .ok (.aload_n 0, 1) := by decide +kernel
theorem dX11_step_47 : decode cX11_step 47 = .ok (.getfield 10, 3) := by decide +kernel
theorem dX11_step_50 : decode cX11_step 50 = .ok (.iload_n 1, 1) := by decide +kernel
theorem dX11_step_51 : decode cX11_step 51 = .ok (.iconst 0, 1) := by decide +kernel
theorem dX11_step_52 : decode cX11_step 52 = .ok (.iload_n 2, 1) := by decide +kernel
theorem dX11_step_53 : decode cX11_step 53 = .ok (.invokevirtual 106, 3) := by decide +kernel
theorem dX11_step_56 : decode cX11_step 56 = .ok (.aload_n 0, 1) := by decide +kernel
theorem dX11_step_57 : decode cX11_step 57 = .ok (.getfield 10, 3) := by decide +kernel
theorem dX11_step_60 : decode cX11_step 60 = .ok (.iload_n 1, 1) := by decide +kernel
theorem dX11_step_61 : decode cX11_step 61 = .ok (.iconst 1, 1) := by decide +kernel
theorem dX11_step_62 : decode cX11_step 62 = .ok (.iload_n 3, 1) := by decide +kernel
theorem dX11_step_63 : decode cX11_step 63 = .ok (.invokevirtual 106, 3) := by decide +kernel
theorem dX11_step_66 : decode cX11_step 66 = .ok (.aload_n 0, 1) := by decide +kernel
theorem dX11_step_67 : decode cX11_step 67 = .ok (.getfield 10, 3) := by decide +kernel
theorem dX11_step_70 : decode cX11_step 70 = .ok (.iload_n 1, 1) := by decide +kernel
theorem dX11_step_71 : decode cX11_step 71 = .ok (.iconst 2, 1) := by decide +kernel
theorem dX11_step_72 : decode cX11_step 72 = .ok (.iload 4, 2) := by decide +kernel
theorem dX11_step_74 : decode cX11_step 74 = .ok (.invokevirtual 106, 3) := by decide +kernel
theorem dX11_step_77 : decode cX11_step 77 = .ok (.aload_n 0, 1) := by decide +kernel
theorem dX11_step_78 : decode cX11_step 78 = .ok (.getfield 67, 3) := by decide +kernel
theorem dX11_step_81 : decode cX11_step 81 = .ok (.invokevirtual 110, 3) := by decide +kernel
theorem dX11_step_84 : decode cX11_step 84 = .ok (.iconst 1, 1) := by decide +kernel
theorem dX11_step_85 : decode cX11_step 85 = .ok (.ireturn, 1) := by decide +kernel
theorem dX11_trace_0 : decode cX11_trace 0 = .ok (.iload_n 1, 1) := by decide +kernel
theorem dX11_trace_1 : decode cX11_trace 1 = .ok (.invokestatic 98, 3) := by decide +kernel
theorem dX11_trace_4 : decode cX11_trace 4 = .ok (.ifCond .ne 24, 3) := by decide +kernel
theorem dX11_trace_7 : decode cX11_trace 7 = .ok (.iload_n 2, 1) := by decide +kernel
theorem dX11_trace_8 : decode cX11_trace 8 = .ok (.iconst 0, 1) := by decide +kernel
theorem dX11_trace_9 : decode cX11_trace 9 = .ok (.sipush 255, 3) := by decide +kernel
theorem dX11_trace_12 : decode cX11_trace 12 = .ok (.invokestatic 102, 3) := by decide +kernel
theorem dX11_trace_15 : decode cX11_trace 15 = .ok (.ifCond .ne 13, 3) := by decide +kernel
theorem dX11_trace_18 : decode cX11_trace 18 = .ok (.iload_n 3, 1) := by decide +kernel
theorem dX11_trace_19 : decode cX11_trace 19 = .ok (.iconst 0, 1) := by decide +kernel
theorem dX11_trace_20 : decode cX11_trace 20 = .ok (.bipush 7, 2) := by decide +kernel
theorem dX11_trace_22 : decode cX11_trace 22 = .ok (.invokestatic 102, 3) := by decide +kernel
theorem dX11_trace_25 : decode cX11_trace 25 = .ok (.ifCond .eq 6, 3) := by decide +kernel
theorem dX11_trace_28 : decode cX11_trace 28 = .ok (.bipush (-2), 2) := by decide +kernel
theorem dX11_trace_30 : decode cX11_trace 30 = .ok (.ireturn, 1) := by decide +kernel
theorem dX11_trace_31 : decode cX11_trace 31 = .ok (.aload_n 0, 1) := by decide +kernel
theorem dX11_trace_32 : decode cX11_trace 32 = .ok (.getfield 10, 3) := by decide +kernel
theorem dX11_trace_35 : decode cX11_trace 35 = .ok (.iload_n 1, 1) := by decide +kernel
theorem dX11_trace_36 : decode cX11_trace 36 = .ok (.iconst 3, 1) := by decide +kernel
theorem dX11_trace_37 : decode cX11_trace 37 = .ok (.iload_n 2, 1) := by decide +kernel
theorem dX11_trace_38 : decode cX11_trace 38 = .ok (.invokevirtual 106, 3) := by decide +kernel
theorem dX11_trace_41 : decode cX11_trace 41 = .ok (.aload_n 0, 1) := by decide +kernel
theorem dX11_trace_42 : decode cX11_trace 42 = .ok (.getfield 10, 3) := by decide +kernel
theorem dX11_trace_45 : decode cX11_trace 45 = .ok (.iload_n 1, 1) := by decide +kernel
theorem dX11_trace_46 : decode cX11_trace 46 = .ok (.iconst 4, 1) := by decide +kernel
theorem dX11_trace_47 : decode cX11_trace 47 = .ok (.iload_n 3, 1) := by decide +kernel
theorem dX11_trace_48 : decode cX11_trace 48 = .ok (.invokevirtual 106, 3) := by decide +kernel
theorem dX11_trace_51 : decode cX11_trace 51 = .ok (.iconst 1, 1) := by decide +kernel
theorem dX11_trace_52 : decode cX11_trace 52 = .ok (.ireturn, 1) := by decide +kernel
theorem dX11_about_0 : decode cX11_about 0 = .ok (.iload_n 1, 1) := by decide +kernel
theorem dX11_about_1 : decode cX11_about 1 = .ok (.invokestatic 98, 3) := by decide +kernel
theorem dX11_about_4 : decode cX11_about 4 = .ok (.ifCond .ne 12, 3) := by decide +kernel
theorem dX11_about_7 : decode cX11_about 7 = .ok (.iload_n 2, 1) := by decide +kernel
theorem dX11_about_8 : decode cX11_about 8 = .ok (.iconst 0, 1) := by decide +kernel
theorem dX11_about_9 : decode cX11_about 9 = .ok (.iconst 4, 1) := by decide +kernel
theorem dX11_about_10 : decode cX11_about 10 = .ok (.invokestatic 102, 3) := by decide +kernel
theorem dX11_about_13 : decode cX11_about 13 = .ok (.ifCond .eq 6, 3) := by decide +kernel
theorem dX11_about_16 : decode cX11_about 16 = .ok (.bipush (-2), 2) := by decide +kernel
theorem dX11_about_18 : decode cX11_about 18 = .ok (.ireturn, 1) := by decide +kernel
theorem dX11_about_19 : decode cX11_about 19 = .ok (.aload_n 0, 1) := by decide +kernel
theorem dX11_about_20 : decode cX11_about 20 = .ok (.getfield 10, 3) := by decide +kernel
theorem dX11_about_23 : decode cX11_about 23 = .ok (.iload_n 1, 1) := by decide +kernel
theorem dX11_about_24 : decode cX11_about 24 = .ok (.iload_n 2, 1) := by decide +kernel
theorem dX11_about_25 : decode cX11_about 25 = .ok (.invokevirtual 113, 3) := by decide +kernel
theorem dX11_about_28 : decode cX11_about 28 = .ok (.ireturn, 1) := by decide +kernel
theorem dX11_write_0 : decode cX11_write 0 = .ok (.iload_n 1, 1) := by decide +kernel
theorem dX11_write_1 : decode cX11_write 1 = .ok (.iconst 0, 1) := by decide +kernel
theorem dX11_write_2 : decode cX11_write 2 = .ok (.bipush 127, 2) := by decide +kernel
theorem dX11_write_4 : decode cX11_write 4 = .ok (.invokestatic 102, 3) := by decide +kernel
theorem dX11_write_7 : decode cX11_write 7 = .ok (.ifCond .eq 6, 3) := by decide +kernel
theorem dX11_write_10 : decode cX11_write 10 = .ok (.bipush (-2), 2) := by decide +kernel
theorem dX11_write_12 : decode cX11_write 12 = .ok (.ireturn, 1) := by decide +kernel
theorem dX11_write_13 : decode cX11_write 13 = .ok (.aload_n 0, 1) := by decide +kernel
theorem dX11_write_14 : decode cX11_write 14 = .ok (.getfield 19, 3) := by decide +kernel
theorem dX11_write_17 : decode cX11_write 17 = .ok (.iload_n 1, 1) := by decide +kernel
theorem dX11_write_18 : decode cX11_write 18 = .ok (.invokevirtual 117, 3) := by decide +kernel
theorem dX11_write_21 : decode cX11_write 21 = .ok (.ifCond .eq 13, 3) := by decide +kernel
theorem dX11_write_24 : decode cX11_write 24 = .ok (.aload_n 0, 1) := by decide +kernel
theorem dX11_write_25 : decode cX11_write 25 = .ok (.getfield 19, 3) := by decide +kernel
theorem dX11_write_28 : decode cX11_write 28 = .ok (.getfield 120, 3) := by decide +kernel
theorem dX11_write_31 : decode cX11_write 31 = .ok (.goto 5, 3) := by decide +kernel
theorem dX11_write_34 : decode cX11_write 34 = .ok (.bipush (-4), 2) := by decide +kernel
theorem dX11_write_36 : decode cX11_write 36 = .ok (.ireturn, 1) := by decide +kernel
theorem dX11_erase_0 : decode cX11_erase 0 = .ok (.aload_n 0, 1) := by decide +kernel
theorem dX11_erase_1 : decode cX11_erase 1 = .ok (.getfield 19, 3) := by decide +kernel
theorem dX11_erase_4 : decode cX11_erase 4 = .ok (.getfield 120, 3) := by decide +kernel
theorem dX11_erase_7 : decode cX11_erase 7 = .ok (.istore_n 1, 1) := by decide +kernel
theorem dX11_erase_8 : decode cX11_erase 8 = .ok (.aload_n 0, 1) := by decide +kernel
theorem dX11_erase_9 : decode cX11_erase 9 = .ok (.getfield 19, 3) := by decide +kernel
theorem dX11_erase_12 : decode cX11_erase 12 = .ok (.iconst 0, 1) := by decide +kernel
theorem dX11_erase_13 : decode cX11_erase 13 = .ok (.putfield 120, 3) := by decide +kernel
theorem dX11_erase_16 : decode cX11_erase 16 = .ok (.iload_n 1, 1) := by decide +kernel
theorem dX11_erase_17 : decode cX11_erase 17 = .ok (.ireturn, 1) := by decide +kernel
theorem dX11_clear_0 : decode cX11_clear 0 = .ok (.aload_n 0, 1) := by decide +kernel
theorem dX11_clear_1 : decode cX11_clear 1 = .ok (.getfield 19, 3) := by decide +kernel
theorem dX11_clear_4 : decode cX11_clear 4 = .ok (.getfield 138, 3) := by decide +kernel
theorem dX11_clear_7 : decode cX11_clear 7 = .ok (.istore_n 1, 1) := by decide +kernel
theorem dX11_clear_8 : decode cX11_clear 8 = .ok (.aload_n 0, 1) := by decide +kernel
theorem dX11_clear_9 : decode cX11_clear 9 = .ok (.getfield 19, 3) := by decide +kernel
theorem dX11_clear_12 : decode cX11_clear 12 = .ok (.invokevirtual 141, 3) := by decide +kernel
theorem dX11_clear_15 : decode cX11_clear 15 = .ok (.aload_n 0, 1) := by decide +kernel
theorem dX11_clear_16 : decode cX11_clear 16 = .ok (.getfield 35, 3) := by decide +kernel
theorem dX11_clear_19 : decode cX11_clear 19 = .ok (.invokevirtual 144, 3) := by decide +kernel
theorem dX11_clear_22 : decode cX11_clear 22 = .ok (.aload_n 0, 1) := by decide +kernel
theorem dX11_clear_23 : decode cX11_clear 23 = .ok (.getfield 44, 3) := by decide +kernel
theorem dX11_clear_26 : decode cX11_clear 26 = .ok (.invokevirtual 145, 3) := by decide +kernel
theorem dX11_clear_29 : decode cX11_clear 29 = .ok (.aload_n 0, 1) := by decide +kernel
theorem dX11_clear_30 : decode cX11_clear 30 = .ok (.getfield 58, 3) := by decide +kernel
theorem dX11_clear_33 : decode cX11_clear 33 = .ok (.invokevirtual 146, 3) := by decide +kernel
theorem dX11_clear_36 : decode cX11_clear 36 = .ok (.aload_n 0, 1) := by decide +kernel
theorem dX11_clear_37 : decode cX11_clear 37 = .ok (.getfield 67, 3) := by decide +kernel
theorem dX11_clear_40 : decode cX11_clear 40 = .ok (.invokevirtual 110, 3) := by decide +kernel
theorem dX11_clear_43 : decode cX11_clear 43 = .ok (.iload_n 1, 1) := by decide +kernel
theorem dX11_clear_44 : decode cX11_clear 44 = .ok (.ireturn, 1) := by decide +kernel
theorem dX11_knot_0 : decode cX11_knot 0 = .ok (.iload_n 1, 1) := by decide +kernel
theorem dX11_knot_1 : decode cX11_knot 1 = .ok (.invokestatic 124, 3) := by decide +kernel
theorem dX11_knot_4 : decode cX11_knot 4 = .ok (.ifCond .ne 12, 3) := by decide +kernel
theorem dX11_knot_7 : decode cX11_knot 7 = .ok (.iload_n 2, 1) := by decide +kernel
theorem dX11_knot_8 : decode cX11_knot 8 = .ok (.iconst 0, 1) := by decide +kernel
theorem dX11_knot_9 : decode cX11_knot 9 = .ok (.iconst 4, 1) := by decide +kernel
theorem dX11_knot_10 : decode cX11_knot 10 = .ok (.invokestatic 102, 3) := by decide +kernel
theorem dX11_knot_13 : decode cX11_knot 13 = .ok (.ifCond .eq 6, 3) := by decide +kernel
theorem dX11_knot_16 : decode cX11_knot 16 = .ok (.bipush (-2), 2) := by decide +kernel
theorem dX11_knot_18 : decode cX11_knot 18 = .ok (.ireturn, 1) := by decide +kernel
theorem dX11_knot_19 : decode cX11_knot 19 = .ok (.aload_n 0, 1) := by decide +kernel
theorem dX11_knot_20 : decode cX11_knot 20 = .ok (.getfield 19, 3) := by decide +kernel
theorem dX11_knot_23 : decode cX11_knot 23 = .ok (.getfield 134, 3) := by decide +kernel
theorem dX11_knot_26 : decode cX11_knot 26 = .ok (.iload_n 1, 1) := by decide +kernel
theorem dX11_knot_27 : decode cX11_knot 27 = .ok (.iaload, 1) := by decide +kernel
theorem dX11_knot_28 : decode cX11_knot 28 = .ok (.istore_n 3, 1) := by decide +kernel
theorem dX11_knot_29 : decode cX11_knot 29 = .ok (.iload_n 3, 1) := by decide +kernel
theorem dX11_knot_30 : decode cX11_knot 30 = .ok (.ifCond .ge 6, 3) := by decide +kernel
theorem dX11_knot_33 : decode cX11_knot 33 = .ok (.bipush (-3), 2) := by decide +kernel
theorem dX11_knot_35 : decode cX11_knot 35 = .ok (.ireturn, 1) := by decide +kernel
theorem dX11_knot_36 : decode cX11_knot 36 = .ok (.iload_n 2, 1) := by decide +kernel
theorem dX11_knot_37 : decode cX11_knot 37 = .ok (.tableswitch 63 0 3 #[31, 33, 43, 53], 31) := by decide +kernel
theorem dX11_knot_68 : decode cX11_knot 68 = .ok (.iload_n 3, 1) := by decide +kernel
theorem dX11_knot_69 : decode cX11_knot 69 = .ok (.ireturn, 1) := by decide +kernel
theorem dX11_knot_70 : decode cX11_knot 70 = .ok (.aload_n 0, 1) := by decide +kernel
theorem dX11_knot_71 : decode cX11_knot 71 = .ok (.getfield 19, 3) := by decide +kernel
theorem dX11_knot_74 : decode cX11_knot 74 = .ok (.getfield 147, 3) := by decide +kernel
theorem dX11_knot_77 : decode cX11_knot 77 = .ok (.iload_n 3, 1) := by decide +kernel
theorem dX11_knot_78 : decode cX11_knot 78 = .ok (.iaload, 1) := by decide +kernel
theorem dX11_knot_79 : decode cX11_knot 79 = .ok (.ireturn, 1) := by decide +kernel
theorem dX11_knot_80 : decode cX11_knot 80 = .ok (.aload_n 0, 1) := by decide +kernel
theorem dX11_knot_81 : decode cX11_knot 81 = .ok (.getfield 19, 3) := by decide +kernel
theorem dX11_knot_84 : decode cX11_knot 84 = .ok (.getfield 150, 3) := by decide +kernel
theorem dX11_knot_87 : decode cX11_knot 87 = .ok (.iload_n 3, 1) := by decide +kernel
theorem dX11_knot_88 : decode cX11_knot 88 = .ok (.iaload, 1) := by decide +kernel
theorem dX11_knot_89 : decode cX11_knot 89 = .ok (.ireturn, 1) := by decide +kernel
theorem dX11_knot_90 : decode cX11_knot 90 = .ok (.aload_n 0, 1) := by decide +kernel
theorem dX11_knot_91 : decode cX11_knot 91 = .ok (.getfield 19, 3) := by decide +kernel
theorem dX11_knot_94 : decode cX11_knot 94 = .ok (.getfield 153, 3) := by decide +kernel
theorem dX11_knot_97 : decode cX11_knot 97 = .ok (.iload_n 3, 1) := by decide +kernel
theorem dX11_knot_98 : decode cX11_knot 98 = .ok (.iaload, 1) := by decide +kernel
theorem dX11_knot_99 : decode cX11_knot 99 = .ok (.ireturn, 1) := by decide +kernel
theorem dX11_knot_100 : decode cX11_knot 100 = .ok (.aload_n 0, 1) := by decide +kernel
theorem dX11_knot_101 : decode cX11_knot 101 = .ok (.getfield 19, 3) := by decide +kernel
theorem dX11_knot_104 : decode cX11_knot 104 = .ok (.getfield 156, 3) := by decide +kernel
theorem dX11_knot_107 : decode cX11_knot 107 = .ok (.iload_n 3, 1) := by decide +kernel
theorem dX11_knot_108 : decode cX11_knot 108 = .ok (.iaload, 1) := by decide +kernel
theorem dX11_knot_109 : decode cX11_knot 109 = .ok (.ireturn, 1) := by decide +kernel
theorem dX11_part_0 : decode cX11_part 0 = .ok (.iload_n 1, 1) := by decide +kernel
theorem dX11_part_1 : decode cX11_part 1 = .ok (.iconst 0, 1) := by decide +kernel
theorem dX11_part_2 : decode cX11_part 2 = .ok (.aload_n 0, 1) := by decide +kernel
theorem dX11_part_3 : decode cX11_part 3 = .ok (.getfield 19, 3) := by decide +kernel
theorem dX11_part_6 : decode cX11_part 6 = .ok (.getfield 138, 3) := by decide +kernel
theorem dX11_part_9 : decode cX11_part 9 = .ok (.iconst 1, 1) := by decide +kernel
theorem dX11_part_10 : decode cX11_part 10 = .ok (.isub, 1) := by decide +kernel
theorem dX11_part_11 : decode cX11_part 11 = .ok (.invokestatic 102, 3) := by decide +kernel
theorem dX11_part_14 : decode cX11_part 14 = .ok (.ifCond .ne 7, 3) := by decide +kernel
theorem dX11_part_17 : decode cX11_part 17 = .ok (.iload_n 2, 1) := by decide +kernel
theorem dX11_part_18 : decode cX11_part 18 = .ok (.ifCond .ge 6, 3) := by decide +kernel
theorem dX11_part_21 : decode cX11_part 21 = .ok (.bipush (-2), 2) := by decide +kernel
theorem dX11_part_23 : decode cX11_part 23 = .ok (.ireturn, 1) := by decide +kernel
theorem dX11_part_24 : decode cX11_part 24 = .ok (.aload_n 0, 1) := by decide +kernel
theorem dX11_part_25 : decode cX11_part 25 = .ok (.getfield 19, 3) := by decide +kernel
theorem dX11_part_28 : decode cX11_part 28 = .ok (.getfield 147, 3) := by decide +kernel
theorem dX11_part_31 : decode cX11_part 31 = .ok (.iload_n 1, 1) := by decide +kernel
theorem dX11_part_32 : decode cX11_part 32 = .ok (.iaload, 1) := by decide +kernel
theorem dX11_part_33 : decode cX11_part 33 = .ok (.ifCond .eq 16, 3) := by decide +kernel
theorem dX11_part_36 : decode cX11_part 36 = .ok (.iload_n 2, 1) := by decide +kernel
theorem dX11_part_37 : decode cX11_part 37 = .ok (.aload_n 0, 1) := by decide +kernel
theorem dX11_part_38 : decode cX11_part 38 = .ok (.getfield 19, 3) := by decide +kernel
theorem dX11_part_41 : decode cX11_part 41 = .ok (.getfield 150, 3) := by decide +kernel
theorem dX11_part_44 : decode cX11_part 44 = .ok (.iload_n 1, 1) := by decide +kernel
theorem dX11_part_45 : decode cX11_part 45 = .ok (.iaload, 1) := by decide +kernel
theorem dX11_part_46 : decode cX11_part 46 = .ok (.if_icmp .lt 5, 3) := by decide +kernel
theorem dX11_part_49 : decode cX11_part 49 = .ok (.iconst (-1), 1) := by decide +kernel
theorem dX11_part_50 : decode cX11_part 50 = .ok (.ireturn, 1) := by decide +kernel
theorem dX11_part_51 : decode cX11_part 51 = .ok (.aload_n 0, 1) := by decide +kernel
theorem dX11_part_52 : decode cX11_part 52 = .ok (.getfield 19, 3) := by decide +kernel
theorem dX11_part_55 : decode cX11_part 55 = .ok (.iload_n 1, 1) := by decide +kernel
theorem dX11_part_56 : decode cX11_part 56 = .ok (.iload_n 2, 1) := by decide +kernel
theorem dX11_part_57 : decode cX11_part 57 = .ok (.invokevirtual 159, 3) := by decide +kernel
theorem dX11_part_60 : decode cX11_part 60 = .ok (.ireturn, 1) := by decide +kernel
theorem dX11_reaches_0 : decode cX11_reaches 0 = .ok (.iload_n 1, 1) := by decide +kernel
theorem dX11_reaches_1 : decode cX11_reaches 1 = .ok (.invokestatic 124, 3) := by decide +kernel
theorem dX11_reaches_4 : decode cX11_reaches 4 = .ok (.ifCond .ne 13, 3) := by decide +kernel
theorem dX11_reaches_7 : decode cX11_reaches 7 = .ok (.iload_n 2, 1) := by decide +kernel
theorem dX11_reaches_8 : decode cX11_reaches 8 = .ok (.iconst 0, 1) := by decide +kernel
theorem dX11_reaches_9 : decode cX11_reaches 9 = .ok (.ldc 162, 2) := by decide +kernel
theorem dX11_reaches_11 : decode cX11_reaches 11 = .ok (.invokestatic 102, 3) := by decide +kernel
theorem dX11_reaches_14 : decode cX11_reaches 14 = .ok (.ifCond .eq 6, 3) := by decide +kernel
theorem dX11_reaches_17 : decode cX11_reaches 17 = .ok (.bipush (-2), 2) := by decide +kernel
theorem dX11_reaches_19 : decode cX11_reaches 19 = .ok (.ireturn, 1) := by decide +kernel
theorem dX11_reaches_20 : decode cX11_reaches 20 = .ok (.aload_n 0, 1) := by decide +kernel
theorem dX11_reaches_21 : decode cX11_reaches 21 = .ok (.getfield 19, 3) := by decide +kernel
theorem dX11_reaches_24 : decode cX11_reaches 24 = .ok (.getfield 134, 3) := by decide +kernel
theorem dX11_reaches_27 : decode cX11_reaches 27 = .ok (.iload_n 1, 1) := by decide +kernel
theorem dX11_reaches_28 : decode cX11_reaches 28 = .ok (.iaload, 1) := by decide +kernel
theorem dX11_reaches_29 : decode cX11_reaches 29 = .ok (.istore_n 3, 1) := by decide +kernel
theorem dX11_reaches_30 : decode cX11_reaches 30 = .ok (.iload_n 3, 1) := by decide +kernel
theorem dX11_reaches_31 : decode cX11_reaches 31 = .ok (.ifCond .ge 6, 3) := by decide +kernel
theorem dX11_reaches_34 : decode cX11_reaches 34 = .ok (.bipush (-3), 2) := by decide +kernel
theorem dX11_reaches_36 : decode cX11_reaches 36 = .ok (.ireturn, 1) := by decide +kernel
theorem dX11_reaches_37 : decode cX11_reaches 37 = .ok (.aload_n 0, 1) := by decide +kernel
theorem dX11_reaches_38 : decode cX11_reaches 38 = .ok (.getfield 19, 3) := by decide +kernel
theorem dX11_reaches_41 : decode cX11_reaches 41 = .ok (.iload_n 3, 1) := by decide +kernel
theorem dX11_reaches_42 : decode cX11_reaches 42 = .ok (.iload_n 2, 1) := by decide +kernel
theorem dX11_reaches_43 : decode cX11_reaches 43 = .ok (.invokevirtual 163, 3) := by decide +kernel
theorem dX11_reaches_46 : decode cX11_reaches 46 = .ok (.ifCond .eq 7, 3) := by decide +kernel
theorem dX11_reaches_49 : decode cX11_reaches 49 = .ok (.iconst 1, 1) := by decide +kernel
theorem dX11_reaches_50 : decode cX11_reaches 50 = .ok (.goto 4, 3) := by decide +kernel
theorem dX11_reaches_53 : decode cX11_reaches 53 = .ok (.iconst 0, 1) := by decide +kernel
theorem dX11_reaches_54 : decode cX11_reaches 54 = .ok (.ireturn, 1) := by decide +kernel
theorem dX11_many_0 : decode cX11_many 0 = .ok (.iload_n 1, 1) := by decide +kernel
theorem dX11_many_1 : decode cX11_many 1 = .ok (.invokestatic 124, 3) := by decide +kernel
theorem dX11_many_4 : decode cX11_many 4 = .ok (.ifCond .eq 6, 3) := by decide +kernel
theorem dX11_many_7 : decode cX11_many 7 = .ok (.bipush (-2), 2) := by decide +kernel
theorem dX11_many_9 : decode cX11_many 9 = .ok (.ireturn, 1) := by decide +kernel
theorem dX11_many_10 : decode cX11_many 10 = .ok (.aload_n 0, 1) := by decide +kernel
theorem dX11_many_11 : decode cX11_many 11 = .ok (.getfield 19, 3) := by decide +kernel
theorem dX11_many_14 : decode cX11_many 14 = .ok (.getfield 134, 3) := by decide +kernel
theorem dX11_many_17 : decode cX11_many 17 = .ok (.iload_n 1, 1) := by decide +kernel
theorem dX11_many_18 : decode cX11_many 18 = .ok (.iaload, 1) := by decide +kernel
theorem dX11_many_19 : decode cX11_many 19 = .ok (.istore_n 2, 1) := by decide +kernel
theorem dX11_many_20 : decode cX11_many 20 = .ok (.iload_n 2, 1) := by decide +kernel
theorem dX11_many_21 : decode cX11_many 21 = .ok (.ifCond .ge 8, 3) := by decide +kernel
theorem dX11_many_24 : decode cX11_many 24 = .ok (.bipush (-3), 2) := by decide +kernel
theorem dX11_many_26 : decode cX11_many 26 = .ok (.goto 15, 3) := by decide +kernel
theorem dX11_many_29 : decode cX11_many 29 = .ok (.aload_n 0, 1) := by decide +kernel
theorem dX11_many_30 : decode cX11_many 30 = .ok (.getfield 19, 3) := by decide +kernel
theorem dX11_many_33 : decode cX11_many 33 = .ok (.iload_n 2, 1) := by decide +kernel
theorem dX11_many_34 : decode cX11_many 34 = .ok (.aload_n 0, 1) := by decide +kernel
theorem dX11_many_35 : decode cX11_many 35 = .ok (.getfield 10, 3) := by decide +kernel
theorem dX11_many_38 : decode cX11_many 38 = .ok (.invokevirtual 186, 3) := by decide +kernel
theorem dX11_many_41 : decode cX11_many 41 = .ok (.ireturn, 1) := by decide +kernel
theorem dX11_limbs_0 : decode cX11_limbs 0 = .ok (.iload_n 1, 1) := by decide +kernel
theorem dX11_limbs_1 : decode cX11_limbs 1 = .ok (.iconst 0, 1) := by decide +kernel
theorem dX11_limbs_2 : decode cX11_limbs 2 = .ok (.iconst 1, 1) := by decide +kernel
theorem dX11_limbs_3 : decode cX11_limbs 3 = .ok (.invokestatic 102, 3) := by decide +kernel
theorem dX11_limbs_6 : decode cX11_limbs 6 = .ok (.ifCond .eq 6, 3) := by decide +kernel
theorem dX11_limbs_9 : decode cX11_limbs 9 = .ok (.bipush (-2), 2) := by decide +kernel
theorem dX11_limbs_11 : decode cX11_limbs 11 = .ok (.ireturn, 1) := by decide +kernel
theorem dX11_limbs_12 : decode cX11_limbs 12 = .ok (.aload_n 0, 1) := by decide +kernel
theorem dX11_limbs_13 : decode cX11_limbs 13 = .ok (.getfield 51, 3) := by decide +kernel
theorem dX11_limbs_16 : decode cX11_limbs 16 = .ok (.iload_n 1, 1) := by decide +kernel
theorem dX11_limbs_17 : decode cX11_limbs 17 = .ok (.invokevirtual 240, 3) := by decide +kernel
theorem dX11_limbs_20 : decode cX11_limbs 20 = .ok (.ireturn, 1) := by decide +kernel
theorem dX11_limb_0 : decode cX11_limb 0 = .ok (.iload_n 1, 1) := by decide +kernel
theorem dX11_limb_1 : decode cX11_limb 1 = .ok (.iconst 0, 1) := by decide +kernel
theorem dX11_limb_2 : decode cX11_limb 2 = .ok (.iconst 1, 1) := by decide +kernel
theorem dX11_limb_3 : decode cX11_limb 3 = .ok (.invokestatic 102, 3) := by decide +kernel
theorem dX11_limb_6 : decode cX11_limb 6 = .ok (.ifCond .ne 7, 3) := by decide +kernel
theorem dX11_limb_9 : decode cX11_limb 9 = .ok (.iload_n 2, 1) := by decide +kernel
theorem dX11_limb_10 : decode cX11_limb 10 = .ok (.ifCond .ge 6, 3) := by decide +kernel
theorem dX11_limb_13 : decode cX11_limb 13 = .ok (.bipush (-2), 2) := by decide +kernel
theorem dX11_limb_15 : decode cX11_limb 15 = .ok (.ireturn, 1) := by decide +kernel
theorem dX11_limb_16 : decode cX11_limb 16 = .ok (.iload_n 2, 1) := by decide +kernel
theorem dX11_limb_17 : decode cX11_limb 17 = .ok (.aload_n 0, 1) := by decide +kernel
theorem dX11_limb_18 : decode cX11_limb 18 = .ok (.getfield 51, 3) := by decide +kernel
theorem dX11_limb_21 : decode cX11_limb 21 = .ok (.iload_n 1, 1) := by decide +kernel
theorem dX11_limb_22 : decode cX11_limb 22 = .ok (.invokevirtual 240, 3) := by decide +kernel
theorem dX11_limb_25 : decode cX11_limb 25 = .ok (.if_icmp .ge 15, 3) := by decide +kernel
theorem dX11_limb_28 : decode cX11_limb 28 = .ok (.aload_n 0, 1) := by decide +kernel
theorem dX11_limb_29 : decode cX11_limb 29 = .ok (.getfield 51, 3) := by decide +kernel
theorem dX11_limb_32 : decode cX11_limb 32 = .ok (.iload_n 1, 1) := by decide +kernel
theorem dX11_limb_33 : decode cX11_limb 33 = .ok (.iload_n 2, 1) := by decide +kernel
theorem dX11_limb_34 : decode cX11_limb 34 = .ok (.invokevirtual 243, 3) := by decide +kernel
theorem dX11_limb_37 : decode cX11_limb 37 = .ok (.goto 4, 3) := by decide +kernel
theorem dX11_limb_40 : decode cX11_limb 40 = .ok (.iconst (-1), 1) := by decide +kernel
theorem dX11_limb_41 : decode cX11_limb 41 = .ok (.ireturn, 1) := by decide +kernel
theorem dX11_holds_0 : decode cX11_holds 0 = .ok (.iload_n 1, 1) := by decide +kernel
theorem dX11_holds_1 : decode cX11_holds 1 = .ok (.invokestatic 124, 3) := by decide +kernel
theorem dX11_holds_4 : decode cX11_holds 4 = .ok (.ifCond .ne 22, 3) := by decide +kernel
theorem dX11_holds_7 : decode cX11_holds 7 = .ok (.iload_n 2, 1) := by decide +kernel
theorem dX11_holds_8 : decode cX11_holds 8 = .ok (.iconst 0, 1) := by decide +kernel
theorem dX11_holds_9 : decode cX11_holds 9 = .ok (.iconst 1, 1) := by decide +kernel
theorem dX11_holds_10 : decode cX11_holds 10 = .ok (.aload_n 0, 1) := by decide +kernel
theorem dX11_holds_11 : decode cX11_holds 11 = .ok (.getfield 67, 3) := by decide +kernel
theorem dX11_holds_14 : decode cX11_holds 14 = .ok (.getfield 249, 3) := by decide +kernel
theorem dX11_holds_17 : decode cX11_holds 17 = .ok (.ishl, 1) := by decide +kernel
theorem dX11_holds_18 : decode cX11_holds 18 = .ok (.iconst 1, 1) := by decide +kernel
theorem dX11_holds_19 : decode cX11_holds 19 = .ok (.isub, 1) := by decide +kernel
theorem dX11_holds_20 : decode cX11_holds 20 = .ok (.invokestatic 102, 3) := by decide +kernel
theorem dX11_holds_23 : decode cX11_holds 23 = .ok (.ifCond .eq 6, 3) := by decide +kernel
theorem dX11_holds_26 : decode cX11_holds 26 = .ok (.bipush (-2), 2) := by decide +kernel
theorem dX11_holds_28 : decode cX11_holds 28 = .ok (.ireturn, 1) := by decide +kernel
theorem dX11_holds_29 : decode cX11_holds 29 = .ok (.aload_n 0, 1) := by decide +kernel
theorem dX11_holds_30 : decode cX11_holds 30 = .ok (.getfield 19, 3) := by decide +kernel
theorem dX11_holds_33 : decode cX11_holds 33 = .ok (.getfield 134, 3) := by decide +kernel
theorem dX11_holds_36 : decode cX11_holds 36 = .ok (.iload_n 1, 1) := by decide +kernel
theorem dX11_holds_37 : decode cX11_holds 37 = .ok (.iaload, 1) := by decide +kernel
theorem dX11_holds_38 : decode cX11_holds 38 = .ok (.istore_n 3, 1) := by decide +kernel
theorem dX11_holds_39 : decode cX11_holds 39 = .ok (.iload_n 3, 1) := by decide +kernel
theorem dX11_holds_40 : decode cX11_holds 40 = .ok (.ifCond .ge 6, 3) := by decide +kernel
theorem dX11_holds_43 : decode cX11_holds 43 = .ok (.bipush (-3), 2) := by decide +kernel
theorem dX11_holds_45 : decode cX11_holds 45 = .ok (.ireturn, 1) := by decide +kernel
theorem dX11_holds_46 : decode cX11_holds 46 = .ok (.aload_n 0, 1) := by decide +kernel
theorem dX11_holds_47 : decode cX11_holds 47 = .ok (.getfield 19, 3) := by decide +kernel
theorem dX11_holds_50 : decode cX11_holds 50 = .ok (.iload_n 3, 1) := by decide +kernel
theorem dX11_holds_51 : decode cX11_holds 51 = .ok (.ldc 162, 2) := by decide +kernel
theorem dX11_holds_53 : decode cX11_holds 53 = .ok (.aload_n 0, 1) := by decide +kernel
theorem dX11_holds_54 : decode cX11_holds 54 = .ok (.getfield 67, 3) := by decide +kernel
theorem dX11_holds_57 : decode cX11_holds 57 = .ok (.getfield 250, 3) := by decide +kernel
theorem dX11_holds_60 : decode cX11_holds 60 = .ok (.iload_n 2, 1) := by decide +kernel
theorem dX11_holds_61 : decode cX11_holds 61 = .ok (.iaload, 1) := by decide +kernel
theorem dX11_holds_62 : decode cX11_holds 62 = .ok (.iconst (-1), 1) := by decide +kernel
theorem dX11_holds_63 : decode cX11_holds 63 = .ok (.ixor, 1) := by decide +kernel
theorem dX11_holds_64 : decode cX11_holds 64 = .ok (.iand, 1) := by decide +kernel
theorem dX11_holds_65 : decode cX11_holds 65 = .ok (.invokevirtual 163, 3) := by decide +kernel
theorem dX11_holds_68 : decode cX11_holds 68 = .ok (.ifCond .eq 7, 3) := by decide +kernel
theorem dX11_holds_71 : decode cX11_holds 71 = .ok (.iconst 0, 1) := by decide +kernel
theorem dX11_holds_72 : decode cX11_holds 72 = .ok (.goto 4, 3) := by decide +kernel
theorem dX11_holds_75 : decode cX11_holds 75 = .ok (.iconst 1, 1) := by decide +kernel
theorem dX11_holds_76 : decode cX11_holds 76 = .ok (.ireturn, 1) := by decide +kernel
theorem dX11_patrol_0 : decode cX11_patrol 0 = .ok (.aload_n 0, 1) := by decide +kernel
theorem dX11_patrol_1 : decode cX11_patrol 1 = .ok (.getfield 76, 3) := by decide +kernel
theorem dX11_patrol_4 : decode cX11_patrol 4 = .ok (.invokevirtual 277, 3) := by decide +kernel
theorem dX11_patrol_7 : decode cX11_patrol 7 = .ok (.ifCond .eq 15, 3) := by decide +kernel
theorem dX11_patrol_10 : decode cX11_patrol 10 = .ok (.aload_n 0, 1) := by decide +kernel
theorem dX11_patrol_11 : decode cX11_patrol 11 = .ok (.getfield 76, 3) := by decide +kernel
theorem dX11_patrol_14 : decode cX11_patrol 14 = .ok (.getfield 279, 3) := by decide +kernel
theorem dX11_patrol_17 : decode cX11_patrol 17 = .ok (.iconst 1, 1) := by decide +kernel
theorem dX11_patrol_18 : decode cX11_patrol 18 = .ok (.isub, 1) := by decide +kernel
theorem dX11_patrol_19 : decode cX11_patrol 19 = .ok (.goto 5, 3) := by decide +kernel
theorem dX11_patrol_22 : decode cX11_patrol 22 = .ok (.bipush (-4), 2) := by decide +kernel
theorem dX11_patrol_24 : decode cX11_patrol 24 = .ok (.ireturn, 1) := by decide +kernel
theorem dX11_catches_0 : decode cX11_catches 0 = .ok (.iload_n 1, 1) := by decide +kernel
theorem dX11_catches_1 : decode cX11_catches 1 = .ok (.iconst 0, 1) := by decide +kernel
theorem dX11_catches_2 : decode cX11_catches 2 = .ok (.aload_n 0, 1) := by decide +kernel
theorem dX11_catches_3 : decode cX11_catches 3 = .ok (.getfield 76, 3) := by decide +kernel
theorem dX11_catches_6 : decode cX11_catches 6 = .ok (.getfield 279, 3) := by decide +kernel
theorem dX11_catches_9 : decode cX11_catches 9 = .ok (.iconst 1, 1) := by decide +kernel
theorem dX11_catches_10 : decode cX11_catches 10 = .ok (.isub, 1) := by decide +kernel
theorem dX11_catches_11 : decode cX11_catches 11 = .ok (.invokestatic 102, 3) := by decide +kernel
theorem dX11_catches_14 : decode cX11_catches 14 = .ok (.ifCond .ne 21, 3) := by decide +kernel
theorem dX11_catches_17 : decode cX11_catches 17 = .ok (.iload_n 2, 1) := by decide +kernel
theorem dX11_catches_18 : decode cX11_catches 18 = .ok (.invokestatic 98, 3) := by decide +kernel
theorem dX11_catches_21 : decode cX11_catches 21 = .ok (.ifCond .ne 14, 3) := by decide +kernel
theorem dX11_catches_24 : decode cX11_catches 24 = .ok (.iload_n 3, 1) := by decide +kernel
theorem dX11_catches_25 : decode cX11_catches 25 = .ok (.iconst 0, 1) := by decide +kernel
theorem dX11_catches_26 : decode cX11_catches 26 = .ok (.sipush 1000, 3) := by decide +kernel
theorem dX11_catches_29 : decode cX11_catches 29 = .ok (.invokestatic 102, 3) := by decide +kernel
theorem dX11_catches_32 : decode cX11_catches 32 = .ok (.ifCond .eq 6, 3) := by decide +kernel
theorem dX11_catches_35 : decode cX11_catches 35 = .ok (.bipush (-2), 2) := by decide +kernel
theorem dX11_catches_37 : decode cX11_catches 37 = .ok (.ireturn, 1) := by decide +kernel
theorem dX11_catches_38 : decode cX11_catches 38 = .ok (.aload_n 0, 1) := by decide +kernel
theorem dX11_catches_39 : decode cX11_catches 39 = .ok (.getfield 76, 3) := by decide +kernel
theorem dX11_catches_42 : decode cX11_catches 42 = .ok (.iload_n 1, 1) := by decide +kernel
theorem dX11_catches_43 : decode cX11_catches 43 = .ok (.iload_n 2, 1) := by decide +kernel
theorem dX11_catches_44 : decode cX11_catches 44 = .ok (.invokevirtual 280, 3) := by decide +kernel
theorem dX11_catches_47 : decode cX11_catches 47 = .ok (.istore 4, 2) := by decide +kernel
theorem dX11_catches_49 : decode cX11_catches 49 = .ok (.aload_n 0, 1) := by decide +kernel
theorem dX11_catches_50 : decode cX11_catches 50 = .ok (.getfield 76, 3) := by decide +kernel
theorem dX11_catches_53 : decode cX11_catches 53 = .ok (.iload_n 1, 1) := by decide +kernel
theorem dX11_catches_54 : decode cX11_catches 54 = .ok (.iload_n 2, 1) := by decide +kernel
theorem dX11_catches_55 : decode cX11_catches 55 = .ok (.iload_n 3, 1) := by decide +kernel
theorem dX11_catches_56 : decode cX11_catches 56 = .ok (.invokevirtual 283, 3) := by decide +kernel
theorem dX11_catches_59 : decode cX11_catches 59 = .ok (.iload 4, 2) := by decide +kernel
theorem dX11_catches_61 : decode cX11_catches 61 = .ok (.ireturn, 1) := by decide +kernel
theorem dX11_insider_0 : decode cX11_insider 0 = .ok (.iload_n 1, 1) := by decide +kernel
theorem dX11_insider_1 : decode cX11_insider 1 = .ok (.iconst 0, 1) := by decide +kernel
theorem dX11_insider_2 : decode cX11_insider 2 = .ok (.ldc 162, 2) := by decide +kernel
theorem dX11_insider_4 : decode cX11_insider 4 = .ok (.invokestatic 102, 3) := by decide +kernel
theorem dX11_insider_7 : decode cX11_insider 7 = .ok (.ifCond .eq 6, 3) := by decide +kernel
theorem dX11_insider_10 : decode cX11_insider 10 = .ok (.bipush (-2), 2) := by decide +kernel
theorem dX11_insider_12 : decode cX11_insider 12 = .ok (.ireturn, 1) := by decide +kernel
theorem dX11_insider_13 : decode cX11_insider 13 = .ok (.aload_n 0, 1) := by decide +kernel
theorem dX11_insider_14 : decode cX11_insider 14 = .ok (.getfield 44, 3) := by decide +kernel
theorem dX11_insider_17 : decode cX11_insider 17 = .ok (.iload_n 1, 1) := by decide +kernel
theorem dX11_insider_18 : decode cX11_insider 18 = .ok (.invokevirtual 300, 3) := by decide +kernel
theorem dX11_insider_21 : decode cX11_insider 21 = .ok (.ifCond .eq 15, 3) := by decide +kernel
theorem dX11_insider_24 : decode cX11_insider 24 = .ok (.aload_n 0, 1) := by decide +kernel
theorem dX11_insider_25 : decode cX11_insider 25 = .ok (.getfield 44, 3) := by decide +kernel
theorem dX11_insider_28 : decode cX11_insider 28 = .ok (.getfield 303, 3) := by decide +kernel
theorem dX11_insider_31 : decode cX11_insider 31 = .ok (.iconst 1, 1) := by decide +kernel
theorem dX11_insider_32 : decode cX11_insider 32 = .ok (.isub, 1) := by decide +kernel
theorem dX11_insider_33 : decode cX11_insider 33 = .ok (.goto 5, 3) := by decide +kernel
theorem dX11_insider_36 : decode cX11_insider 36 = .ok (.bipush (-4), 2) := by decide +kernel
theorem dX11_insider_38 : decode cX11_insider 38 = .ok (.ireturn, 1) := by decide +kernel
theorem dX11_event_0 : decode cX11_event 0 = .ok (.iload_n 1, 1) := by decide +kernel
theorem dX11_event_1 : decode cX11_event 1 = .ok (.invokestatic 98, 3) := by decide +kernel
theorem dX11_event_4 : decode cX11_event 4 = .ok (.ifCond .ne 20, 3) := by decide +kernel
theorem dX11_event_7 : decode cX11_event 7 = .ok (.iload_n 2, 1) := by decide +kernel
theorem dX11_event_8 : decode cX11_event 8 = .ok (.aload_n 0, 1) := by decide +kernel
theorem dX11_event_9 : decode cX11_event 9 = .ok (.getfield 85, 3) := by decide +kernel
theorem dX11_event_12 : decode cX11_event 12 = .ok (.invokevirtual 324, 3) := by decide +kernel
theorem dX11_event_15 : decode cX11_event 15 = .ok (.sipush 10000, 3) := by decide +kernel
theorem dX11_event_18 : decode cX11_event 18 = .ok (.invokestatic 102, 3) := by decide +kernel
theorem dX11_event_21 : decode cX11_event 21 = .ok (.ifCond .eq 6, 3) := by decide +kernel
theorem dX11_event_24 : decode cX11_event 24 = .ok (.bipush (-2), 2) := by decide +kernel
theorem dX11_event_26 : decode cX11_event 26 = .ok (.ireturn, 1) := by decide +kernel
theorem dX11_event_27 : decode cX11_event 27 = .ok (.aload_n 0, 1) := by decide +kernel
theorem dX11_event_28 : decode cX11_event 28 = .ok (.getfield 85, 3) := by decide +kernel
theorem dX11_event_31 : decode cX11_event 31 = .ok (.iload_n 1, 1) := by decide +kernel
theorem dX11_event_32 : decode cX11_event 32 = .ok (.iload_n 2, 1) := by decide +kernel
theorem dX11_event_33 : decode cX11_event 33 = .ok (.invokevirtual 327, 3) := by decide +kernel
theorem dX11_event_36 : decode cX11_event 36 = .ok (.ifCond .eq 13, 3) := by decide +kernel
theorem dX11_event_39 : decode cX11_event 39 = .ok (.aload_n 0, 1) := by decide +kernel
theorem dX11_event_40 : decode cX11_event 40 = .ok (.getfield 85, 3) := by decide +kernel
theorem dX11_event_43 : decode cX11_event 43 = .ok (.getfield 329, 3) := by decide +kernel
theorem dX11_event_46 : decode cX11_event 46 = .ok (.goto 5, 3) := by decide +kernel
theorem dX11_event_49 : decode cX11_event 49 = .ok (.bipush (-4), 2) := by decide +kernel
theorem dX11_event_51 : decode cX11_event 51 = .ok (.ireturn, 1) := by decide +kernel
theorem dX11_rest_0 : decode cX11_rest 0 = .ok (.aload_n 0, 1) := by decide +kernel
theorem dX11_rest_1 : decode cX11_rest 1 = .ok (.getfield 85, 3) := by decide +kernel
theorem dX11_rest_4 : decode cX11_rest 4 = .ok (.getfield 329, 3) := by decide +kernel
theorem dX11_rest_7 : decode cX11_rest 7 = .ok (.istore_n 1, 1) := by decide +kernel
theorem dX11_rest_8 : decode cX11_rest 8 = .ok (.aload_n 0, 1) := by decide +kernel
theorem dX11_rest_9 : decode cX11_rest 9 = .ok (.getfield 85, 3) := by decide +kernel
theorem dX11_rest_12 : decode cX11_rest 12 = .ok (.iconst 0, 1) := by decide +kernel
theorem dX11_rest_13 : decode cX11_rest 13 = .ok (.putfield 329, 3) := by decide +kernel
theorem dX11_rest_16 : decode cX11_rest 16 = .ok (.iload_n 1, 1) := by decide +kernel
theorem dX11_rest_17 : decode cX11_rest 17 = .ok (.ireturn, 1) := by decide +kernel
theorem dX11_soon_0 : decode cX11_soon 0 = .ok (.aload_n 0, 1) := by decide +kernel
theorem dX11_soon_1 : decode cX11_soon 1 = .ok (.getfield 85, 3) := by decide +kernel
theorem dX11_soon_4 : decode cX11_soon 4 = .ok (.invokevirtual 330, 3) := by decide +kernel
theorem dX11_soon_7 : decode cX11_soon 7 = .ok (.ireturn, 1) := by decide +kernel
theorem dX11_walk_0 : decode cX11_walk 0 = .ok (.iload_n 1, 1) := by decide +kernel
theorem dX11_walk_1 : decode cX11_walk 1 = .ok (.iconst 0, 1) := by decide +kernel
theorem dX11_walk_2 : decode cX11_walk 2 = .ok (.iconst 3, 1) := by decide +kernel
theorem dX11_walk_3 : decode cX11_walk 3 = .ok (.invokestatic 102, 3) := by decide +kernel
theorem dX11_walk_6 : decode cX11_walk 6 = .ok (.ifCond .ne 13, 3) := by decide +kernel
theorem dX11_walk_9 : decode cX11_walk 9 = .ok (.iload_n 2, 1) := by decide +kernel
theorem dX11_walk_10 : decode cX11_walk 10 = .ok (.iconst 0, 1) := by decide +kernel
theorem dX11_walk_11 : decode cX11_walk 11 = .ok (.bipush 7, 2) := by decide +kernel
theorem dX11_walk_13 : decode cX11_walk 13 = .ok (.invokestatic 102, 3) := by decide +kernel
theorem dX11_walk_16 : decode cX11_walk 16 = .ok (.ifCond .eq 6, 3) := by decide +kernel
theorem dX11_walk_19 : decode cX11_walk 19 = .ok (.bipush (-2), 2) := by decide +kernel
theorem dX11_walk_21 : decode cX11_walk 21 = .ok (.ireturn, 1) := by decide +kernel
theorem dX11_walk_22 : decode cX11_walk 22 = .ok (.aload_n 0, 1) := by decide +kernel
theorem dX11_walk_23 : decode cX11_walk 23 = .ok (.getfield 94, 3) := by decide +kernel
theorem dX11_walk_26 : decode cX11_walk 26 = .ok (.iload_n 1, 1) := by decide +kernel
theorem dX11_walk_27 : decode cX11_walk 27 = .ok (.iload_n 2, 1) := by decide +kernel
theorem dX11_walk_28 : decode cX11_walk 28 = .ok (.invokevirtual 336, 3) := by decide +kernel
theorem dX11_walk_31 : decode cX11_walk 31 = .ok (.ifCond .eq 15, 3) := by decide +kernel
theorem dX11_walk_34 : decode cX11_walk 34 = .ok (.aload_n 0, 1) := by decide +kernel
theorem dX11_walk_35 : decode cX11_walk 35 = .ok (.getfield 94, 3) := by decide +kernel
theorem dX11_walk_38 : decode cX11_walk 38 = .ok (.getfield 339, 3) := by decide +kernel
theorem dX11_walk_41 : decode cX11_walk 41 = .ok (.iload_n 1, 1) := by decide +kernel
theorem dX11_walk_42 : decode cX11_walk 42 = .ok (.iaload, 1) := by decide +kernel
theorem dX11_walk_43 : decode cX11_walk 43 = .ok (.goto 5, 3) := by decide +kernel
theorem dX11_walk_46 : decode cX11_walk 46 = .ok (.bipush (-4), 2) := by decide +kernel
theorem dX11_walk_48 : decode cX11_walk 48 = .ok (.ireturn, 1) := by decide +kernel
theorem dX11_home_0 : decode cX11_home 0 = .ok (.iload_n 1, 1) := by decide +kernel
theorem dX11_home_1 : decode cX11_home 1 = .ok (.iconst 0, 1) := by decide +kernel
theorem dX11_home_2 : decode cX11_home 2 = .ok (.iconst 3, 1) := by decide +kernel
theorem dX11_home_3 : decode cX11_home 3 = .ok (.invokestatic 102, 3) := by decide +kernel
theorem dX11_home_6 : decode cX11_home 6 = .ok (.ifCond .eq 6, 3) := by decide +kernel
theorem dX11_home_9 : decode cX11_home 9 = .ok (.bipush (-2), 2) := by decide +kernel
theorem dX11_home_11 : decode cX11_home 11 = .ok (.ireturn, 1) := by decide +kernel
theorem dX11_home_12 : decode cX11_home 12 = .ok (.aload_n 0, 1) := by decide +kernel
theorem dX11_home_13 : decode cX11_home 13 = .ok (.getfield 94, 3) := by decide +kernel
theorem dX11_home_16 : decode cX11_home 16 = .ok (.getfield 339, 3) := by decide +kernel
theorem dX11_home_19 : decode cX11_home 19 = .ok (.iload_n 1, 1) := by decide +kernel
theorem dX11_home_20 : decode cX11_home 20 = .ok (.iaload, 1) := by decide +kernel
theorem dX11_home_21 : decode cX11_home 21 = .ok (.istore_n 2, 1) := by decide +kernel
theorem dX11_home_22 : decode cX11_home 22 = .ok (.aload_n 0, 1) := by decide +kernel
theorem dX11_home_23 : decode cX11_home 23 = .ok (.getfield 94, 3) := by decide +kernel
theorem dX11_home_26 : decode cX11_home 26 = .ok (.getfield 339, 3) := by decide +kernel
theorem dX11_home_29 : decode cX11_home 29 = .ok (.iload_n 1, 1) := by decide +kernel
theorem dX11_home_30 : decode cX11_home 30 = .ok (.iconst 0, 1) := by decide +kernel
theorem dX11_home_31 : decode cX11_home 31 = .ok (.iastore, 1) := by decide +kernel
theorem dX11_home_32 : decode cX11_home 32 = .ok (.iload_n 2, 1) := by decide +kernel
theorem dX11_home_33 : decode cX11_home 33 = .ok (.ireturn, 1) := by decide +kernel
theorem dX11_stands_0 : decode cX11_stands 0 = .ok (.iload_n 1, 1) := by decide +kernel
theorem dX11_stands_1 : decode cX11_stands 1 = .ok (.iconst 0, 1) := by decide +kernel
theorem dX11_stands_2 : decode cX11_stands 2 = .ok (.bipush 7, 2) := by decide +kernel
theorem dX11_stands_4 : decode cX11_stands 4 = .ok (.invokestatic 102, 3) := by decide +kernel
theorem dX11_stands_7 : decode cX11_stands 7 = .ok (.ifCond .ne 14, 3) := by decide +kernel
theorem dX11_stands_10 : decode cX11_stands 10 = .ok (.iload_n 2, 1) := by decide +kernel
theorem dX11_stands_11 : decode cX11_stands 11 = .ok (.iconst 0, 1) := by decide +kernel
theorem dX11_stands_12 : decode cX11_stands 12 = .ok (.sipush 10000, 3) := by decide +kernel
theorem dX11_stands_15 : decode cX11_stands 15 = .ok (.invokestatic 102, 3) := by decide +kernel
theorem dX11_stands_18 : decode cX11_stands 18 = .ok (.ifCond .eq 6, 3) := by decide +kernel
theorem dX11_stands_21 : decode cX11_stands 21 = .ok (.bipush (-2), 2) := by decide +kernel
theorem dX11_stands_23 : decode cX11_stands 23 = .ok (.ireturn, 1) := by decide +kernel
theorem dX11_stands_24 : decode cX11_stands 24 = .ok (.aload_n 0, 1) := by decide +kernel
theorem dX11_stands_25 : decode cX11_stands 25 = .ok (.getfield 94, 3) := by decide +kernel
theorem dX11_stands_28 : decode cX11_stands 28 = .ok (.iload_n 1, 1) := by decide +kernel
theorem dX11_stands_29 : decode cX11_stands 29 = .ok (.iload_n 2, 1) := by decide +kernel
theorem dX11_stands_30 : decode cX11_stands 30 = .ok (.invokevirtual 342, 3) := by decide +kernel
theorem dX11_stands_33 : decode cX11_stands 33 = .ok (.ireturn, 1) := by decide +kernel
theorem dX11_begins_0 : decode cX11_begins 0 = .ok (.iload_n 1, 1) := by decide +kernel
theorem dX11_begins_1 : decode cX11_begins 1 = .ok (.invokestatic 98, 3) := by decide +kernel
theorem dX11_begins_4 : decode cX11_begins 4 = .ok (.ifCond .ne 14, 3) := by decide +kernel
theorem dX11_begins_7 : decode cX11_begins 7 = .ok (.iload_n 2, 1) := by decide +kernel
theorem dX11_begins_8 : decode cX11_begins 8 = .ok (.iconst 0, 1) := by decide +kernel
theorem dX11_begins_9 : decode cX11_begins 9 = .ok (.sipush 600, 3) := by decide +kernel
theorem dX11_begins_12 : decode cX11_begins 12 = .ok (.invokestatic 102, 3) := by decide +kernel
theorem dX11_begins_15 : decode cX11_begins 15 = .ok (.ifCond .eq 6, 3) := by decide +kernel
theorem dX11_begins_18 : decode cX11_begins 18 = .ok (.bipush (-2), 2) := by decide +kernel
theorem dX11_begins_20 : decode cX11_begins 20 = .ok (.ireturn, 1) := by decide +kernel
theorem dX11_begins_21 : decode cX11_begins 21 = .ok (.aload_n 0, 1) := by decide +kernel
theorem dX11_begins_22 : decode cX11_begins 22 = .ok (.getfield 94, 3) := by decide +kernel
theorem dX11_begins_25 : decode cX11_begins 25 = .ok (.iload_n 1, 1) := by decide +kernel
theorem dX11_begins_26 : decode cX11_begins 26 = .ok (.iload_n 2, 1) := by decide +kernel
theorem dX11_begins_27 : decode cX11_begins 27 = .ok (.invokevirtual 345, 3) := by decide +kernel
theorem dX11_begins_30 : decode cX11_begins 30 = .ok (.ireturn, 1) := by decide +kernel
theorem dX11_image_0 : decode cX11_image 0 = .ok (.iload_n 1, 1) := by decide +kernel
theorem dX11_image_1 : decode cX11_image 1 = .ok (.iconst 0, 1) := by decide +kernel
theorem dX11_image_2 : decode cX11_image 2 = .ok (.iconst 1, 1) := by decide +kernel
theorem dX11_image_3 : decode cX11_image 3 = .ok (.invokestatic 102, 3) := by decide +kernel
theorem dX11_image_6 : decode cX11_image 6 = .ok (.ifCond .eq 6, 3) := by decide +kernel
theorem dX11_image_9 : decode cX11_image 9 = .ok (.bipush (-2), 2) := by decide +kernel
theorem dX11_image_11 : decode cX11_image 11 = .ok (.ireturn, 1) := by decide +kernel
theorem dX11_image_12 : decode cX11_image 12 = .ok (.aload_n 0, 1) := by decide +kernel
theorem dX11_image_13 : decode cX11_image 13 = .ok (.getfield 10, 3) := by decide +kernel
theorem dX11_image_16 : decode cX11_image 16 = .ok (.iload_n 1, 1) := by decide +kernel
theorem dX11_image_17 : decode cX11_image 17 = .ok (.invokevirtual 355, 3) := by decide +kernel
theorem dX11_image_20 : decode cX11_image 20 = .ok (.iconst 1, 1) := by decide +kernel
theorem dX11_image_21 : decode cX11_image 21 = .ok (.ireturn, 1) := by decide +kernel
theorem dX11_differ_0 : decode cX11_differ 0 = .ok (.iload_n 1, 1) := by decide +kernel
theorem dX11_differ_1 : decode cX11_differ 1 = .ok (.iconst 0, 1) := by decide +kernel
theorem dX11_differ_2 : decode cX11_differ 2 = .ok (.iconst 1, 1) := by decide +kernel
theorem dX11_differ_3 : decode cX11_differ 3 = .ok (.invokestatic 102, 3) := by decide +kernel
theorem dX11_differ_6 : decode cX11_differ 6 = .ok (.ifCond .eq 6, 3) := by decide +kernel
theorem dX11_differ_9 : decode cX11_differ 9 = .ok (.bipush (-2), 2) := by decide +kernel
theorem dX11_differ_11 : decode cX11_differ 11 = .ok (.ireturn, 1) := by decide +kernel
theorem dX11_differ_12 : decode cX11_differ 12 = .ok (.aload_n 0, 1) := by decide +kernel
theorem dX11_differ_13 : decode cX11_differ 13 = .ok (.getfield 10, 3) := by decide +kernel
theorem dX11_differ_16 : decode cX11_differ 16 = .ok (.getfield 358, 3) := by decide +kernel
theorem dX11_differ_19 : decode cX11_differ 19 = .ok (.iload_n 1, 1) := by decide +kernel
theorem dX11_differ_20 : decode cX11_differ 20 = .ok (.baload, 1) := by decide +kernel
theorem dX11_differ_21 : decode cX11_differ 21 = .ok (.ifCond .eq 14, 3) := by decide +kernel
theorem dX11_differ_24 : decode cX11_differ 24 = .ok (.aload_n 0, 1) := by decide +kernel
theorem dX11_differ_25 : decode cX11_differ 25 = .ok (.getfield 10, 3) := by decide +kernel
theorem dX11_differ_28 : decode cX11_differ 28 = .ok (.iload_n 1, 1) := by decide +kernel
theorem dX11_differ_29 : decode cX11_differ 29 = .ok (.invokevirtual 362, 3) := by decide +kernel
theorem dX11_differ_32 : decode cX11_differ 32 = .ok (.goto 5, 3) := by decide +kernel
theorem dX11_differ_35 : decode cX11_differ 35 = .ok (.bipush (-3), 2) := by decide +kernel
theorem dX11_differ_37 : decode cX11_differ 37 = .ok (.ireturn, 1) := by decide +kernel
theorem dX11_from_0 : decode cX11_from 0 = .ok (.iload_n 1, 1) := by decide +kernel
theorem dX11_from_1 : decode cX11_from 1 = .ok (.iconst 0, 1) := by decide +kernel
theorem dX11_from_2 : decode cX11_from 2 = .ok (.iconst 1, 1) := by decide +kernel
theorem dX11_from_3 : decode cX11_from 3 = .ok (.invokestatic 102, 3) := by decide +kernel
theorem dX11_from_6 : decode cX11_from 6 = .ok (.ifCond .eq 6, 3) := by decide +kernel
theorem dX11_from_9 : decode cX11_from 9 = .ok (.bipush (-2), 2) := by decide +kernel
theorem dX11_from_11 : decode cX11_from 11 = .ok (.ireturn, 1) := by decide +kernel
theorem dX11_from_12 : decode cX11_from 12 = .ok (.aload_n 0, 1) := by decide +kernel
theorem dX11_from_13 : decode cX11_from 13 = .ok (.getfield 10, 3) := by decide +kernel
theorem dX11_from_16 : decode cX11_from 16 = .ok (.getfield 358, 3) := by decide +kernel
theorem dX11_from_19 : decode cX11_from 19 = .ok (.iload_n 1, 1) := by decide +kernel
theorem dX11_from_20 : decode cX11_from 20 = .ok (.baload, 1) := by decide +kernel
theorem dX11_from_21 : decode cX11_from 21 = .ok (.ifCond .ne 6, 3) := by decide +kernel
theorem dX11_from_24 : decode cX11_from 24 = .ok (.bipush (-3), 2) := by decide +kernel
theorem dX11_from_26 : decode cX11_from 26 = .ok (.ireturn, 1) := by decide +kernel
theorem dX11_from_27 : decode cX11_from 27 = .ok (.aload_n 0, 1) := by decide +kernel
theorem dX11_from_28 : decode cX11_from 28 = .ok (.getfield 10, 3) := by decide +kernel
theorem dX11_from_31 : decode cX11_from 31 = .ok (.iload_n 1, 1) := by decide +kernel
theorem dX11_from_32 : decode cX11_from 32 = .ok (.invokevirtual 365, 3) := by decide +kernel
theorem dX11_from_35 : decode cX11_from 35 = .ok (.aload_n 0, 1) := by decide +kernel
theorem dX11_from_36 : decode cX11_from 36 = .ok (.getfield 67, 3) := by decide +kernel
theorem dX11_from_39 : decode cX11_from 39 = .ok (.invokevirtual 110, 3) := by decide +kernel
theorem dX11_from_42 : decode cX11_from 42 = .ok (.iconst 1, 1) := by decide +kernel
theorem dX11_from_43 : decode cX11_from 43 = .ok (.ireturn, 1) := by decide +kernel
theorem dX11_count_0 : decode cX11_count 0 = .ok (.iload_n 1, 1) := by decide +kernel
theorem dX11_count_1 : decode cX11_count 1 = .ok (.tableswitch 99 0 6 #[43, 51, 59, 67, 75, 83, 91], 43) := by decide +kernel
theorem dX11_count_44 : decode cX11_count 44 = .ok (.aload_n 0, 1) := by decide +kernel
theorem dX11_count_45 : decode cX11_count 45 = .ok (.getfield 19, 3) := by decide +kernel
theorem dX11_count_48 : decode cX11_count 48 = .ok (.getfield 120, 3) := by decide +kernel
theorem dX11_count_51 : decode cX11_count 51 = .ok (.ireturn, 1) := by decide +kernel
theorem dX11_count_52 : decode cX11_count 52 = .ok (.aload_n 0, 1) := by decide +kernel
theorem dX11_count_53 : decode cX11_count 53 = .ok (.getfield 19, 3) := by decide +kernel
theorem dX11_count_56 : decode cX11_count 56 = .ok (.getfield 138, 3) := by decide +kernel
theorem dX11_count_59 : decode cX11_count 59 = .ok (.ireturn, 1) := by decide +kernel
theorem dX11_count_60 : decode cX11_count 60 = .ok (.aload_n 0, 1) := by decide +kernel
theorem dX11_count_61 : decode cX11_count 61 = .ok (.getfield 19, 3) := by decide +kernel
theorem dX11_count_64 : decode cX11_count 64 = .ok (.invokevirtual 368, 3) := by decide +kernel
theorem dX11_count_67 : decode cX11_count 67 = .ok (.ireturn, 1) := by decide +kernel
theorem dX11_count_68 : decode cX11_count 68 = .ok (.aload_n 0, 1) := by decide +kernel
theorem dX11_count_69 : decode cX11_count 69 = .ok (.getfield 67, 3) := by decide +kernel
theorem dX11_count_72 : decode cX11_count 72 = .ok (.getfield 249, 3) := by decide +kernel
theorem dX11_count_75 : decode cX11_count 75 = .ok (.ireturn, 1) := by decide +kernel
theorem dX11_count_76 : decode cX11_count 76 = .ok (.aload_n 0, 1) := by decide +kernel
theorem dX11_count_77 : decode cX11_count 77 = .ok (.getfield 76, 3) := by decide +kernel
theorem dX11_count_80 : decode cX11_count 80 = .ok (.getfield 279, 3) := by decide +kernel
theorem dX11_count_83 : decode cX11_count 83 = .ok (.ireturn, 1) := by decide +kernel
theorem dX11_count_84 : decode cX11_count 84 = .ok (.aload_n 0, 1) := by decide +kernel
theorem dX11_count_85 : decode cX11_count 85 = .ok (.getfield 44, 3) := by decide +kernel
theorem dX11_count_88 : decode cX11_count 88 = .ok (.getfield 303, 3) := by decide +kernel
theorem dX11_count_91 : decode cX11_count 91 = .ok (.ireturn, 1) := by decide +kernel
theorem dX11_count_92 : decode cX11_count 92 = .ok (.aload_n 0, 1) := by decide +kernel
theorem dX11_count_93 : decode cX11_count 93 = .ok (.getfield 85, 3) := by decide +kernel
theorem dX11_count_96 : decode cX11_count 96 = .ok (.getfield 329, 3) := by decide +kernel
theorem dX11_count_99 : decode cX11_count 99 = .ok (.ireturn, 1) := by decide +kernel
theorem dX11_count_100 : decode cX11_count 100 = .ok (.bipush (-2), 2) := by decide +kernel
theorem dX11_count_102 : decode cX11_count 102 = .ok (.ireturn, 1) := by decide +kernel
theorem dX11_digest_0 : decode cX11_digest 0 = .ok (.ldc2_w 371, 3) := by decide +kernel
theorem dX11_digest_3 : decode cX11_digest 3 = .ok (.lstore_n 1, 1) := by decide +kernel
theorem dX11_digest_4 : decode cX11_digest 4 = .ok (.iconst 0, 1) := by decide +kernel
theorem dX11_digest_5 : decode cX11_digest 5 = .ok (.istore_n 3, 1) := by decide +kernel
theorem dX11_digest_6 : decode cX11_digest 6 = .ok (.iload_n 3, 1) := by decide +kernel
theorem dX11_digest_7 : decode cX11_digest 7 = .ok (.bipush 6, 2) := by decide +kernel
theorem dX11_digest_9 : decode cX11_digest 9 = .ok (.if_icmp .gt 22, 3) := by decide +kernel
theorem dX11_digest_12 : decode cX11_digest 12 = .ok (.ldc2_w 373, 3) := by decide +kernel
theorem dX11_digest_15 : decode cX11_digest 15 = .ok (.lload_n 1, 1) := by decide +kernel
theorem dX11_digest_16 : decode cX11_digest 16 = .ok (.lmul, 1) := by decide +kernel
theorem dX11_digest_17 : decode cX11_digest 17 = .ok (.aload_n 0, 1) := by decide +kernel
theorem dX11_digest_18 : decode cX11_digest 18 = .ok (.iload_n 3, 1) := by decide +kernel
theorem dX11_digest_19 : decode cX11_digest 19 = .ok (.invokevirtual 375, 3) := by decide +kernel
theorem dX11_digest_22 : decode cX11_digest 22 = .ok (.i2l, 1) := by decide +kernel
theorem dX11_digest_23 : decode cX11_digest 23 = .ok (.ladd, 1) := by decide +kernel
theorem dX11_digest_24 : decode cX11_digest 24 = .ok (.lstore_n 1, 1) := by decide +kernel
theorem dX11_digest_25 : decode cX11_digest 25 = .ok (.iinc 3 1, 3) := by decide +kernel
theorem dX11_digest_28 : decode cX11_digest 28 = .ok (.goto (-22), 3) := by decide +kernel
theorem dX11_digest_31 : decode cX11_digest 31 = .ok (.aload_n 0, 1) := by decide +kernel
theorem dX11_digest_32 : decode cX11_digest 32 = .ok (.getfield 10, 3) := by decide +kernel
theorem dX11_digest_35 : decode cX11_digest 35 = .ok (.lload_n 1, 1) := by decide +kernel
theorem dX11_digest_36 : decode cX11_digest 36 = .ok (.invokevirtual 378, 3) := by decide +kernel
theorem dX11_digest_39 : decode cX11_digest 39 = .ok (.lstore_n 1, 1) := by decide +kernel
theorem dX11_digest_40 : decode cX11_digest 40 = .ok (.aload_n 0, 1) := by decide +kernel
theorem dX11_digest_41 : decode cX11_digest 41 = .ok (.getfield 19, 3) := by decide +kernel
theorem dX11_digest_44 : decode cX11_digest 44 = .ok (.lload_n 1, 1) := by decide +kernel
theorem dX11_digest_45 : decode cX11_digest 45 = .ok (.invokevirtual 382, 3) := by decide +kernel
theorem dX11_digest_48 : decode cX11_digest 48 = .ok (.lstore_n 1, 1) := by decide +kernel
theorem dX11_digest_49 : decode cX11_digest 49 = .ok (.aload_n 0, 1) := by decide +kernel
theorem dX11_digest_50 : decode cX11_digest 50 = .ok (.getfield 67, 3) := by decide +kernel
theorem dX11_digest_53 : decode cX11_digest 53 = .ok (.lload_n 1, 1) := by decide +kernel
theorem dX11_digest_54 : decode cX11_digest 54 = .ok (.invokevirtual 383, 3) := by decide +kernel
theorem dX11_digest_57 : decode cX11_digest 57 = .ok (.lstore_n 1, 1) := by decide +kernel
theorem dX11_digest_58 : decode cX11_digest 58 = .ok (.aload_n 0, 1) := by decide +kernel
theorem dX11_digest_59 : decode cX11_digest 59 = .ok (.getfield 76, 3) := by decide +kernel
theorem dX11_digest_62 : decode cX11_digest 62 = .ok (.lload_n 1, 1) := by decide +kernel
theorem dX11_digest_63 : decode cX11_digest 63 = .ok (.invokevirtual 384, 3) := by decide +kernel
theorem dX11_digest_66 : decode cX11_digest 66 = .ok (.lstore_n 1, 1) := by decide +kernel
theorem dX11_digest_67 : decode cX11_digest 67 = .ok (.aload_n 0, 1) := by decide +kernel
theorem dX11_digest_68 : decode cX11_digest 68 = .ok (.getfield 44, 3) := by decide +kernel
theorem dX11_digest_71 : decode cX11_digest 71 = .ok (.lload_n 1, 1) := by decide +kernel
theorem dX11_digest_72 : decode cX11_digest 72 = .ok (.invokevirtual 385, 3) := by decide +kernel
theorem dX11_digest_75 : decode cX11_digest 75 = .ok (.lstore_n 1, 1) := by decide +kernel
theorem dX11_digest_76 : decode cX11_digest 76 = .ok (.aload_n 0, 1) := by decide +kernel
theorem dX11_digest_77 : decode cX11_digest 77 = .ok (.getfield 85, 3) := by decide +kernel
theorem dX11_digest_80 : decode cX11_digest 80 = .ok (.lload_n 1, 1) := by decide +kernel
theorem dX11_digest_81 : decode cX11_digest 81 = .ok (.invokevirtual 386, 3) := by decide +kernel
theorem dX11_digest_84 : decode cX11_digest 84 = .ok (.lstore_n 1, 1) := by decide +kernel
theorem dX11_digest_85 : decode cX11_digest 85 = .ok (.aload_n 0, 1) := by decide +kernel
theorem dX11_digest_86 : decode cX11_digest 86 = .ok (.getfield 94, 3) := by decide +kernel
theorem dX11_digest_89 : decode cX11_digest 89 = .ok (.lload_n 1, 1) := by decide +kernel
theorem dX11_digest_90 : decode cX11_digest 90 = .ok (.invokevirtual 387, 3) := by decide +kernel
theorem dX11_digest_93 : decode cX11_digest 93 = .ok (.lreturn, 1) := by decide +kernel
theorem dX11_outside_0 : decode cX11_outside 0 = .ok (.iload_n 0, 1) := by decide +kernel
theorem dX11_outside_1 : decode cX11_outside 1 = .ok (.iload_n 1, 1) := by decide +kernel
theorem dX11_outside_2 : decode cX11_outside 2 = .ok (.if_icmp .lt 8, 3) := by decide +kernel
theorem dX11_outside_5 : decode cX11_outside 5 = .ok (.iload_n 0, 1) := by decide +kernel
theorem dX11_outside_6 : decode cX11_outside 6 = .ok (.iload_n 2, 1) := by decide +kernel
theorem dX11_outside_7 : decode cX11_outside 7 = .ok (.if_icmp .le 7, 3) := by decide +kernel
theorem dX11_outside_10 : decode cX11_outside 10 = .ok (.iconst 1, 1) := by decide +kernel
theorem dX11_outside_11 : decode cX11_outside 11 = .ok (.goto 4, 3) := by decide +kernel
theorem dX11_outside_14 : decode cX11_outside 14 = .ok (.iconst 0, 1) := by decide +kernel
theorem dX11_outside_15 : decode cX11_outside 15 = .ok (.ireturn, 1) := by decide +kernel
theorem dX11_noStep_0 : decode cX11_noStep 0 = .ok (.iload_n 0, 1) := by decide +kernel
theorem dX11_noStep_1 : decode cX11_noStep 1 = .ok (.iconst 0, 1) := by decide +kernel
theorem dX11_noStep_2 : decode cX11_noStep 2 = .ok (.bipush 15, 2) := by decide +kernel
theorem dX11_noStep_4 : decode cX11_noStep 4 = .ok (.invokestatic 102, 3) := by decide +kernel
theorem dX11_noStep_7 : decode cX11_noStep 7 = .ok (.ireturn, 1) := by decide +kernel
theorem dX11_noNet_0 : decode cX11_noNet 0 = .ok (.iload_n 0, 1) := by decide +kernel
theorem dX11_noNet_1 : decode cX11_noNet 1 = .ok (.iconst 0, 1) := by decide +kernel
theorem dX11_noNet_2 : decode cX11_noNet 2 = .ok (.bipush 9, 2) := by decide +kernel
theorem dX11_noNet_4 : decode cX11_noNet 4 = .ok (.invokestatic 102, 3) := by decide +kernel
theorem dX11_noNet_7 : decode cX11_noNet 7 = .ok (.ireturn, 1) := by decide +kernel
theorem dX11_noMarks_0 : decode cX11_noMarks 0 = .ok (.iload_n 0, 1) := by decide +kernel
theorem dX11_noMarks_1 : decode cX11_noMarks 1 = .ok (.iconst 0, 1) := by decide +kernel
theorem dX11_noMarks_2 : decode cX11_noMarks 2 = .ok (.sipush 255, 3) := by decide +kernel
theorem dX11_noMarks_5 : decode cX11_noMarks 5 = .ok (.invokestatic 102, 3) := by decide +kernel
theorem dX11_noMarks_8 : decode cX11_noMarks 8 = .ok (.ifCond .ne 20, 3) := by decide +kernel
theorem dX11_noMarks_11 : decode cX11_noMarks 11 = .ok (.iload_n 1, 1) := by decide +kernel
theorem dX11_noMarks_12 : decode cX11_noMarks 12 = .ok (.iconst 0, 1) := by decide +kernel
theorem dX11_noMarks_13 : decode cX11_noMarks 13 = .ok (.sipush 255, 3) := by decide +kernel
theorem dX11_noMarks_16 : decode cX11_noMarks 16 = .ok (.invokestatic 102, 3) := by decide +kernel
theorem dX11_noMarks_19 : decode cX11_noMarks 19 = .ok (.ifCond .ne 9, 3) := by decide +kernel
theorem dX11_noMarks_22 : decode cX11_noMarks 22 = .ok (.iload_n 0, 1) := by decide +kernel
theorem dX11_noMarks_23 : decode cX11_noMarks 23 = .ok (.iload_n 1, 1) := by decide +kernel
theorem dX11_noMarks_24 : decode cX11_noMarks 24 = .ok (.iand, 1) := by decide +kernel
theorem dX11_noMarks_25 : decode cX11_noMarks 25 = .ok (.ifCond .eq 7, 3) := by decide +kernel
theorem dX11_noMarks_28 : decode cX11_noMarks 28 = .ok (.iconst 1, 1) := by decide +kernel
theorem dX11_noMarks_29 : decode cX11_noMarks 29 = .ok (.goto 4, 3) := by decide +kernel
theorem dX11_noMarks_32 : decode cX11_noMarks 32 = .ok (.iconst 0, 1) := by decide +kernel
theorem dX11_noMarks_33 : decode cX11_noMarks 33 = .ok (.ireturn, 1) := by decide +kernel
theorem dJ6_bitCount_0f7a4_0 : decode cJ6_bitCount_0f7a4 0 = .ok (.iload_n 0, 1) := by decide +kernel
theorem dJ6_bitCount_0f7a4_1 : decode cJ6_bitCount_0f7a4 1 = .ok (.iload_n 0, 1) := by decide +kernel
theorem dJ6_bitCount_0f7a4_2 : decode cJ6_bitCount_0f7a4 2 = .ok (.iconst 1, 1) := by decide +kernel
theorem dJ6_bitCount_0f7a4_3 : decode cJ6_bitCount_0f7a4 3 = .ok (.iushr, 1) := by decide +kernel
theorem dJ6_bitCount_0f7a4_4 : decode cJ6_bitCount_0f7a4 4 = .ok (.ldc_w 265, 3) := by decide +kernel
theorem dJ6_bitCount_0f7a4_7 : decode cJ6_bitCount_0f7a4 7 = .ok (.iand, 1) := by decide +kernel
theorem dJ6_bitCount_0f7a4_8 : decode cJ6_bitCount_0f7a4 8 = .ok (.isub, 1) := by decide +kernel
theorem dJ6_bitCount_0f7a4_9 : decode cJ6_bitCount_0f7a4 9 = .ok (.istore_n 0, 1) := by decide +kernel
theorem dJ6_bitCount_0f7a4_10 : decode cJ6_bitCount_0f7a4 10 = .ok (.iload_n 0, 1) := by decide +kernel
theorem dJ6_bitCount_0f7a4_11 : decode cJ6_bitCount_0f7a4 11 = .ok (.ldc_w 266, 3) := by decide +kernel
theorem dJ6_bitCount_0f7a4_14 : decode cJ6_bitCount_0f7a4 14 = .ok (.iand, 1) := by decide +kernel
theorem dJ6_bitCount_0f7a4_15 : decode cJ6_bitCount_0f7a4 15 = .ok (.iload_n 0, 1) := by decide +kernel
theorem dJ6_bitCount_0f7a4_16 : decode cJ6_bitCount_0f7a4 16 = .ok (.iconst 2, 1) := by decide +kernel
theorem dJ6_bitCount_0f7a4_17 : decode cJ6_bitCount_0f7a4 17 = .ok (.iushr, 1) := by decide +kernel
theorem dJ6_bitCount_0f7a4_18 : decode cJ6_bitCount_0f7a4 18 = .ok (.ldc_w 266, 3) := by decide +kernel
theorem dJ6_bitCount_0f7a4_21 : decode cJ6_bitCount_0f7a4 21 = .ok (.iand, 1) := by decide +kernel
theorem dJ6_bitCount_0f7a4_22 : decode cJ6_bitCount_0f7a4 22 = .ok (.iadd, 1) := by decide +kernel
theorem dJ6_bitCount_0f7a4_23 : decode cJ6_bitCount_0f7a4 23 = .ok (.istore_n 0, 1) := by decide +kernel
theorem dJ6_bitCount_0f7a4_24 : decode cJ6_bitCount_0f7a4 24 = .ok (.iload_n 0, 1) := by decide +kernel
theorem dJ6_bitCount_0f7a4_25 : decode cJ6_bitCount_0f7a4 25 = .ok (.iload_n 0, 1) := by decide +kernel
theorem dJ6_bitCount_0f7a4_26 : decode cJ6_bitCount_0f7a4 26 = .ok (.iconst 4, 1) := by decide +kernel
theorem dJ6_bitCount_0f7a4_27 : decode cJ6_bitCount_0f7a4 27 = .ok (.iushr, 1) := by decide +kernel
theorem dJ6_bitCount_0f7a4_28 : decode cJ6_bitCount_0f7a4 28 = .ok (.iadd, 1) := by decide +kernel
theorem dJ6_bitCount_0f7a4_29 : decode cJ6_bitCount_0f7a4 29 = .ok (.ldc_w 267, 3) := by decide +kernel
theorem dJ6_bitCount_0f7a4_32 : decode cJ6_bitCount_0f7a4 32 = .ok (.iand, 1) := by decide +kernel
theorem dJ6_bitCount_0f7a4_33 : decode cJ6_bitCount_0f7a4 33 = .ok (.istore_n 0, 1) := by decide +kernel
theorem dJ6_bitCount_0f7a4_34 : decode cJ6_bitCount_0f7a4 34 = .ok (.iload_n 0, 1) := by decide +kernel
theorem dJ6_bitCount_0f7a4_35 : decode cJ6_bitCount_0f7a4 35 = .ok (.iload_n 0, 1) := by decide +kernel
theorem dJ6_bitCount_0f7a4_36 : decode cJ6_bitCount_0f7a4 36 = .ok (.bipush 8, 2) := by decide +kernel
theorem dJ6_bitCount_0f7a4_38 : decode cJ6_bitCount_0f7a4 38 = .ok (.iushr, 1) := by decide +kernel
theorem dJ6_bitCount_0f7a4_39 : decode cJ6_bitCount_0f7a4 39 = .ok (.iadd, 1) := by decide +kernel
theorem dJ6_bitCount_0f7a4_40 : decode cJ6_bitCount_0f7a4 40 = .ok (.istore_n 0, 1) := by decide +kernel
theorem dJ6_bitCount_0f7a4_41 : decode cJ6_bitCount_0f7a4 41 = .ok (.iload_n 0, 1) := by decide +kernel
theorem dJ6_bitCount_0f7a4_42 : decode cJ6_bitCount_0f7a4 42 = .ok (.iload_n 0, 1) := by decide +kernel
theorem dJ6_bitCount_0f7a4_43 : decode cJ6_bitCount_0f7a4 43 = .ok (.bipush 16, 2) := by decide +kernel
theorem dJ6_bitCount_0f7a4_45 : decode cJ6_bitCount_0f7a4 45 = .ok (.iushr, 1) := by decide +kernel
theorem dJ6_bitCount_0f7a4_46 : decode cJ6_bitCount_0f7a4 46 = .ok (.iadd, 1) := by decide +kernel
theorem dJ6_bitCount_0f7a4_47 : decode cJ6_bitCount_0f7a4 47 = .ok (.istore_n 0, 1) := by decide +kernel
theorem dJ6_bitCount_0f7a4_48 : decode cJ6_bitCount_0f7a4 48 = .ok (.iload_n 0, 1) := by decide +kernel
theorem dJ6_bitCount_0f7a4_49 : decode cJ6_bitCount_0f7a4 49 = .ok (.bipush 63, 2) := by decide +kernel
theorem dJ6_bitCount_0f7a4_51 : decode cJ6_bitCount_0f7a4 51 = .ok (.iand, 1) := by decide +kernel
theorem dJ6_bitCount_0f7a4_52 : decode cJ6_bitCount_0f7a4 52 = .ok (.ireturn, 1) := by decide +kernel
theorem dJ13_bitCount_95d88_0 : decode cJ13_bitCount_95d88 0 = .ok (.lload_n 0, 1) := by decide +kernel
theorem dJ13_bitCount_95d88_1 : decode cJ13_bitCount_95d88 1 = .ok (.lload_n 0, 1) := by decide +kernel
theorem dJ13_bitCount_95d88_2 : decode cJ13_bitCount_95d88 2 = .ok (.iconst 1, 1) := by decide +kernel
theorem dJ13_bitCount_95d88_3 : decode cJ13_bitCount_95d88 3 = .ok (.lushr, 1) := by decide +kernel
theorem dJ13_bitCount_95d88_4 : decode cJ13_bitCount_95d88 4 = .ok (.ldc2_w 314, 3) := by decide +kernel
theorem dJ13_bitCount_95d88_7 : decode cJ13_bitCount_95d88 7 = .ok (.land, 1) := by decide +kernel
theorem dJ13_bitCount_95d88_8 : decode cJ13_bitCount_95d88 8 = .ok (.lsub, 1) := by decide +kernel
theorem dJ13_bitCount_95d88_9 : decode cJ13_bitCount_95d88 9 = .ok (.lstore_n 0, 1) := by decide +kernel
theorem dJ13_bitCount_95d88_10 : decode cJ13_bitCount_95d88 10 = .ok (.lload_n 0, 1) := by decide +kernel
theorem dJ13_bitCount_95d88_11 : decode cJ13_bitCount_95d88 11 = .ok (.ldc2_w 316, 3) := by decide +kernel
theorem dJ13_bitCount_95d88_14 : decode cJ13_bitCount_95d88 14 = .ok (.land, 1) := by decide +kernel
theorem dJ13_bitCount_95d88_15 : decode cJ13_bitCount_95d88 15 = .ok (.lload_n 0, 1) := by decide +kernel
theorem dJ13_bitCount_95d88_16 : decode cJ13_bitCount_95d88 16 = .ok (.iconst 2, 1) := by decide +kernel
theorem dJ13_bitCount_95d88_17 : decode cJ13_bitCount_95d88 17 = .ok (.lushr, 1) := by decide +kernel
theorem dJ13_bitCount_95d88_18 : decode cJ13_bitCount_95d88 18 = .ok (.ldc2_w 316, 3) := by decide +kernel
theorem dJ13_bitCount_95d88_21 : decode cJ13_bitCount_95d88 21 = .ok (.land, 1) := by decide +kernel
theorem dJ13_bitCount_95d88_22 : decode cJ13_bitCount_95d88 22 = .ok (.ladd, 1) := by decide +kernel
theorem dJ13_bitCount_95d88_23 : decode cJ13_bitCount_95d88 23 = .ok (.lstore_n 0, 1) := by decide +kernel
theorem dJ13_bitCount_95d88_24 : decode cJ13_bitCount_95d88 24 = .ok (.lload_n 0, 1) := by decide +kernel
theorem dJ13_bitCount_95d88_25 : decode cJ13_bitCount_95d88 25 = .ok (.lload_n 0, 1) := by decide +kernel
theorem dJ13_bitCount_95d88_26 : decode cJ13_bitCount_95d88 26 = .ok (.iconst 4, 1) := by decide +kernel
theorem dJ13_bitCount_95d88_27 : decode cJ13_bitCount_95d88 27 = .ok (.lushr, 1) := by decide +kernel
theorem dJ13_bitCount_95d88_28 : decode cJ13_bitCount_95d88 28 = .ok (.ladd, 1) := by decide +kernel
theorem dJ13_bitCount_95d88_29 : decode cJ13_bitCount_95d88 29 = .ok (.ldc2_w 318, 3) := by decide +kernel
theorem dJ13_bitCount_95d88_32 : decode cJ13_bitCount_95d88 32 = .ok (.land, 1) := by decide +kernel
theorem dJ13_bitCount_95d88_33 : decode cJ13_bitCount_95d88 33 = .ok (.lstore_n 0, 1) := by decide +kernel
theorem dJ13_bitCount_95d88_34 : decode cJ13_bitCount_95d88 34 = .ok (.lload_n 0, 1) := by decide +kernel
theorem dJ13_bitCount_95d88_35 : decode cJ13_bitCount_95d88 35 = .ok (.lload_n 0, 1) := by decide +kernel
theorem dJ13_bitCount_95d88_36 : decode cJ13_bitCount_95d88 36 = .ok (.bipush 8, 2) := by decide +kernel
theorem dJ13_bitCount_95d88_38 : decode cJ13_bitCount_95d88 38 = .ok (.lushr, 1) := by decide +kernel
theorem dJ13_bitCount_95d88_39 : decode cJ13_bitCount_95d88 39 = .ok (.ladd, 1) := by decide +kernel
theorem dJ13_bitCount_95d88_40 : decode cJ13_bitCount_95d88 40 = .ok (.lstore_n 0, 1) := by decide +kernel
theorem dJ13_bitCount_95d88_41 : decode cJ13_bitCount_95d88 41 = .ok (.lload_n 0, 1) := by decide +kernel
theorem dJ13_bitCount_95d88_42 : decode cJ13_bitCount_95d88 42 = .ok (.lload_n 0, 1) := by decide +kernel
theorem dJ13_bitCount_95d88_43 : decode cJ13_bitCount_95d88 43 = .ok (.bipush 16, 2) := by decide +kernel
theorem dJ13_bitCount_95d88_45 : decode cJ13_bitCount_95d88 45 = .ok (.lushr, 1) := by decide +kernel
theorem dJ13_bitCount_95d88_46 : decode cJ13_bitCount_95d88 46 = .ok (.ladd, 1) := by decide +kernel
theorem dJ13_bitCount_95d88_47 : decode cJ13_bitCount_95d88 47 = .ok (.lstore_n 0, 1) := by decide +kernel
theorem dJ13_bitCount_95d88_48 : decode cJ13_bitCount_95d88 48 = .ok (.lload_n 0, 1) := by decide +kernel
theorem dJ13_bitCount_95d88_49 : decode cJ13_bitCount_95d88 49 = .ok (.lload_n 0, 1) := by decide +kernel
theorem dJ13_bitCount_95d88_50 : decode cJ13_bitCount_95d88 50 = .ok (.bipush 32, 2) := by decide +kernel
theorem dJ13_bitCount_95d88_52 : decode cJ13_bitCount_95d88 52 = .ok (.lushr, 1) := by decide +kernel
theorem dJ13_bitCount_95d88_53 : decode cJ13_bitCount_95d88 53 = .ok (.ladd, 1) := by decide +kernel
theorem dJ13_bitCount_95d88_54 : decode cJ13_bitCount_95d88 54 = .ok (.lstore_n 0, 1) := by decide +kernel
theorem dJ13_bitCount_95d88_55 : decode cJ13_bitCount_95d88 55 = .ok (.lload_n 0, 1) := by decide +kernel
theorem dJ13_bitCount_95d88_56 : decode cJ13_bitCount_95d88 56 = .ok (.l2i, 1) := by decide +kernel
theorem dJ13_bitCount_95d88_57 : decode cJ13_bitCount_95d88 57 = .ok (.bipush 127, 2) := by decide +kernel
theorem dJ13_bitCount_95d88_59 : decode cJ13_bitCount_95d88 59 = .ok (.iand, 1) := by decide +kernel
theorem dJ13_bitCount_95d88_60 : decode cJ13_bitCount_95d88 60 = .ok (.ireturn, 1) := by decide +kernel
theorem dJ7_fill_d0a16_0 : decode cJ7_fill_d0a16 0 = .ok (.iconst 0, 1) := by decide +kernel
theorem dJ7_fill_d0a16_1 : decode cJ7_fill_d0a16 1 = .ok (.istore_n 3, 1) := by decide +kernel
theorem dJ7_fill_d0a16_2 : decode cJ7_fill_d0a16 2 = .ok (.aload_n 0, 1) := by decide +kernel
theorem dJ7_fill_d0a16_3 : decode cJ7_fill_d0a16 3 = .ok (.arraylength, 1) := by decide +kernel
theorem dJ7_fill_d0a16_4 : decode cJ7_fill_d0a16 4 = .ok (.istore 4, 2) := by decide +kernel
theorem dJ7_fill_d0a16_6 : decode cJ7_fill_d0a16 6 = .ok (.iload_n 3, 1) := by decide +kernel
theorem dJ7_fill_d0a16_7 : decode cJ7_fill_d0a16 7 = .ok (.iload 4, 2) := by decide +kernel
theorem dJ7_fill_d0a16_9 : decode cJ7_fill_d0a16 9 = .ok (.if_icmp .ge 13, 3) := by decide +kernel
theorem dJ7_fill_d0a16_12 : decode cJ7_fill_d0a16 12 = .ok (.aload_n 0, 1) := by decide +kernel
theorem dJ7_fill_d0a16_13 : decode cJ7_fill_d0a16 13 = .ok (.iload_n 3, 1) := by decide +kernel
theorem dJ7_fill_d0a16_14 : decode cJ7_fill_d0a16 14 = .ok (.lload_n 1, 1) := by decide +kernel
theorem dJ7_fill_d0a16_15 : decode cJ7_fill_d0a16 15 = .ok (.lastore, 1) := by decide +kernel
theorem dJ7_fill_d0a16_16 : decode cJ7_fill_d0a16 16 = .ok (.iinc 3 1, 3) := by decide +kernel
theorem dJ7_fill_d0a16_19 : decode cJ7_fill_d0a16 19 = .ok (.goto (-13), 3) := by decide +kernel
theorem dJ7_fill_d0a16_22 : decode cJ7_fill_d0a16 22 = .ok (.return_, 1) := by decide +kernel
theorem dJ7_fill_53178_0 : decode cJ7_fill_53178 0 = .ok (.iconst 0, 1) := by decide +kernel
theorem dJ7_fill_53178_1 : decode cJ7_fill_53178 1 = .ok (.istore_n 2, 1) := by decide +kernel
theorem dJ7_fill_53178_2 : decode cJ7_fill_53178 2 = .ok (.aload_n 0, 1) := by decide +kernel
theorem dJ7_fill_53178_3 : decode cJ7_fill_53178 3 = .ok (.arraylength, 1) := by decide +kernel
theorem dJ7_fill_53178_4 : decode cJ7_fill_53178 4 = .ok (.istore_n 3, 1) := by decide +kernel
theorem dJ7_fill_53178_5 : decode cJ7_fill_53178 5 = .ok (.iload_n 2, 1) := by decide +kernel
theorem dJ7_fill_53178_6 : decode cJ7_fill_53178 6 = .ok (.iload_n 3, 1) := by decide +kernel
theorem dJ7_fill_53178_7 : decode cJ7_fill_53178 7 = .ok (.if_icmp .ge 13, 3) := by decide +kernel
theorem dJ7_fill_53178_10 : decode cJ7_fill_53178 10 = .ok (.aload_n 0, 1) := by decide +kernel
theorem dJ7_fill_53178_11 : decode cJ7_fill_53178 11 = .ok (.iload_n 2, 1) := by decide +kernel
theorem dJ7_fill_53178_12 : decode cJ7_fill_53178 12 = .ok (.iload_n 1, 1) := by decide +kernel
theorem dJ7_fill_53178_13 : decode cJ7_fill_53178 13 = .ok (.iastore, 1) := by decide +kernel
theorem dJ7_fill_53178_14 : decode cJ7_fill_53178 14 = .ok (.iinc 2 1, 3) := by decide +kernel
theorem dJ7_fill_53178_17 : decode cJ7_fill_53178 17 = .ok (.goto (-12), 3) := by decide +kernel
theorem dJ7_fill_53178_20 : decode cJ7_fill_53178 20 = .ok (.return_, 1) := by decide +kernel
theorem dJ7_copyOf_59c91_0 : decode cJ7_copyOf_59c91 0 = .ok (.iload_n 1, 1) := by decide +kernel
theorem dJ7_copyOf_59c91_1 : decode cJ7_copyOf_59c91 1 = .ok (.aload_n 0, 1) := by decide +kernel
theorem dJ7_copyOf_59c91_2 : decode cJ7_copyOf_59c91 2 = .ok (.arraylength, 1) := by decide +kernel
theorem dJ7_copyOf_59c91_3 : decode cJ7_copyOf_59c91 3 = .ok (.if_icmp .ne 11, 3) := by decide +kernel
theorem dJ7_copyOf_59c91_6 : decode cJ7_copyOf_59c91 6 = .ok (.aload_n 0, 1) := by decide +kernel
theorem dJ7_copyOf_59c91_7 : decode cJ7_copyOf_59c91 7 = .ok (.invokevirtual 316, 3) := by decide +kernel
theorem dJ7_copyOf_59c91_10 : decode cJ7_copyOf_59c91 10 = .ok (.checkcast 317, 3) := by decide +kernel
theorem dJ7_copyOf_59c91_13 : decode cJ7_copyOf_59c91 13 = .ok (.areturn, 1) := by decide +kernel
theorem dJ7_copyOf_59c91_14 : decode cJ7_copyOf_59c91 14 = .ok (.iload_n 1, 1) := by decide +kernel
theorem dJ7_copyOf_59c91_15 : decode cJ7_copyOf_59c91 15 = .ok (.newarray .int, 2) := by decide +kernel
theorem dJ7_copyOf_59c91_17 : decode cJ7_copyOf_59c91 17 = .ok (.astore_n 2, 1) := by decide +kernel
theorem dJ7_copyOf_59c91_18 : decode cJ7_copyOf_59c91 18 = .ok (.aload_n 0, 1) := by decide +kernel
theorem dJ7_copyOf_59c91_19 : decode cJ7_copyOf_59c91 19 = .ok (.iconst 0, 1) := by decide +kernel
theorem dJ7_copyOf_59c91_20 : decode cJ7_copyOf_59c91 20 = .ok (.aload_n 2, 1) := by decide +kernel
theorem dJ7_copyOf_59c91_21 : decode cJ7_copyOf_59c91 21 = .ok (.iconst 0, 1) := by decide +kernel
theorem dJ7_copyOf_59c91_22 : decode cJ7_copyOf_59c91 22 = .ok (.aload_n 0, 1) := by decide +kernel
theorem dJ7_copyOf_59c91_23 : decode cJ7_copyOf_59c91 23 = .ok (.arraylength, 1) := by decide +kernel
theorem dJ7_copyOf_59c91_24 : decode cJ7_copyOf_59c91 24 = .ok (.iload_n 1, 1) := by decide +kernel
theorem dJ7_copyOf_59c91_25 : decode cJ7_copyOf_59c91 25 = .ok (.invokestatic 304, 3) := by decide +kernel
theorem dJ7_copyOf_59c91_28 : decode cJ7_copyOf_59c91 28 = .ok (.invokestatic 150, 3) := by decide +kernel
theorem dJ7_copyOf_59c91_31 : decode cJ7_copyOf_59c91 31 = .ok (.aload_n 2, 1) := by decide +kernel
theorem dJ7_copyOf_59c91_32 : decode cJ7_copyOf_59c91 32 = .ok (.areturn, 1) := by decide +kernel
