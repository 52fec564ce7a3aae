theorem dX12_limb_3 : decode cX12_limb 3 = .ok (.invokestatic 179, 3) := by decide +kernel
theorem dX12_limb_6 : decode cX12_limb 6 = .ok (.ifCond .eq 7, 3) := by decide +kernel
theorem dX12_limb_9 : decode cX12_limb 9 = .ok (.iload_n 2, 1) := by decide +kernel
theorem dX12_limb_10 : decode cX12_limb 10 = .ok (.ifCond .ge 6, 3) := by decide +kernel
theorem dX12_limb_13 : decode cX12_limb 13 = .ok (.bipush (-2), 2) := by decide +kernel
theorem dX12_limb_15 : decode cX12_limb 15 = .ok (.ireturn, 1) := by decide +kernel
theorem dX12_limb_16 : decode cX12_limb 16 = .ok (.iload_n 2, 1) := by decide +kernel
theorem dX12_limb_17 : decode cX12_limb 17 = .ok (.aload_n 0, 1) := by decide +kernel
theorem dX12_limb_18 : decode cX12_limb 18 = .ok (.sipush 4500, 3) := by decide +kernel
theorem dX12_limb_21 : decode cX12_limb 21 = .ok (.iload_n 1, 1) := by decide +kernel
theorem dX12_limb_22 : decode cX12_limb 22 = .ok (.iadd, 1) := by decide +kernel
theorem dX12_limb_23 : decode cX12_limb 23 = .ok (.invokevirtual 349, 3) := by decide +kernel
theorem dX12_limb_26 : decode cX12_limb 26 = .ok (.if_icmp .ge 21, 3) := by decide +kernel
theorem dX12_limb_29 : decode cX12_limb 29 = .ok (.aload_n 0, 1) := by decide +kernel
theorem dX12_limb_30 : decode cX12_limb 30 = .ok (.getfield 94, 3) := by decide +kernel
theorem dX12_limb_33 : decode cX12_limb 33 = .ok (.bipush 7, 2) := by decide +kernel
theorem dX12_limb_35 : decode cX12_limb 35 = .ok (.sipush 4500, 3) := by decide +kernel
theorem dX12_limb_38 : decode cX12_limb 38 = .ok (.iload_n 1, 1) := by decide +kernel
theorem dX12_limb_39 : decode cX12_limb 39 = .ok (.iadd, 1) := by decide +kernel
theorem dX12_limb_40 : decode cX12_limb 40 = .ok (.imul, 1) := by decide +kernel
theorem dX12_limb_41 : decode cX12_limb 41 = .ok (.iload_n 2, 1) := by decide +kernel
theorem dX12_limb_42 : decode cX12_limb 42 = .ok (.iadd, 1) := by decide +kernel
theorem dX12_limb_43 : decode cX12_limb 43 = .ok (.iaload, 1) := by decide +kernel
theorem dX12_limb_44 : decode cX12_limb 44 = .ok (.goto 4, 3) := by decide +kernel
theorem dX12_limb_47 : decode cX12_limb 47 = .ok (.iconst (-1), 1) := by decide +kernel
theorem dX12_limb_48 : decode cX12_limb 48 = .ok (.ireturn, 1) := by decide +kernel
theorem dX12_nodeOf_0 : decode cX12_nodeOf 0 = .ok (.iload_n 2, 1) := by decide +kernel
theorem dX12_nodeOf_1 : decode cX12_nodeOf 1 = .ok (.iload_n 3, 1) := by decide +kernel
theorem dX12_nodeOf_2 : decode cX12_nodeOf 2 = .ok (.if_icmp .ne 5, 3) := by decide +kernel
theorem dX12_nodeOf_5 : decode cX12_nodeOf 5 = .ok (.iload_n 2, 1) := by decide +kernel
theorem dX12_nodeOf_6 : decode cX12_nodeOf 6 = .ok (.ireturn, 1) := by decide +kernel
theorem dX12_nodeOf_7 : decode cX12_nodeOf 7 = .ok (.iload_n 2, 1) := by decide +kernel
theorem dX12_nodeOf_8 : decode cX12_nodeOf 8 = .ok (.sipush 7919, 3) := by decide +kernel
theorem dX12_nodeOf_11 : decode cX12_nodeOf 11 = .ok (.imul, 1) := by decide +kernel
theorem dX12_nodeOf_12 : decode cX12_nodeOf 12 = .ok (.iload_n 3, 1) := by decide +kernel
theorem dX12_nodeOf_13 : decode cX12_nodeOf 13 = .ok (.ldc_w 352, 3) := by decide +kernel
theorem dX12_nodeOf_16 : decode cX12_nodeOf 16 = .ok (.imul, 1) := by decide +kernel
theorem dX12_nodeOf_17 : decode cX12_nodeOf 17 = .ok (.iadd, 1) := by decide +kernel
theorem dX12_nodeOf_18 : decode cX12_nodeOf 18 = .ok (.ldc_w 353, 3) := by decide +kernel
theorem dX12_nodeOf_21 : decode cX12_nodeOf 21 = .ok (.iand, 1) := by decide +kernel
theorem dX12_nodeOf_22 : decode cX12_nodeOf 22 = .ok (.ldc 114, 2) := by decide +kernel
theorem dX12_nodeOf_24 : decode cX12_nodeOf 24 = .ok (.irem, 1) := by decide +kernel
theorem dX12_nodeOf_25 : decode cX12_nodeOf 25 = .ok (.istore 4, 2) := by decide +kernel
theorem dX12_nodeOf_27 : decode cX12_nodeOf 27 = .ok (.aload_n 0, 1) := by decide +kernel
theorem dX12_nodeOf_28 : decode cX12_nodeOf 28 = .ok (.getfield 115, 3) := by decide +kernel
theorem dX12_nodeOf_31 : decode cX12_nodeOf 31 = .ok (.iload 4, 2) := by decide +kernel
theorem dX12_nodeOf_33 : decode cX12_nodeOf 33 = .ok (.iaload, 1) := by decide +kernel
theorem dX12_nodeOf_34 : decode cX12_nodeOf 34 = .ok (.iconst (-1), 1) := by decide +kernel
theorem dX12_nodeOf_35 : decode cX12_nodeOf 35 = .ok (.if_icmp .eq 49, 3) := by decide +kernel
theorem dX12_nodeOf_38 : decode cX12_nodeOf 38 = .ok (.aload_n 0, 1) := by decide +kernel
theorem dX12_nodeOf_39 : decode cX12_nodeOf 39 = .ok (.getfield 115, 3) := by decide +kernel
theorem dX12_nodeOf_42 : decode cX12_nodeOf 42 = .ok (.iload 4, 2) := by decide +kernel
theorem dX12_nodeOf_44 : decode cX12_nodeOf 44 = .ok (.iaload, 1) := by decide +kernel
theorem dX12_nodeOf_45 : decode cX12_nodeOf 45 = .ok (.istore 5, 2) := by decide +kernel
theorem dX12_nodeOf_47 : decode cX12_nodeOf 47 = .ok (.aload_n 0, 1) := by decide +kernel
theorem dX12_nodeOf_48 : decode cX12_nodeOf 48 = .ok (.getfield 108, 3) := by decide +kernel
theorem dX12_nodeOf_51 : decode cX12_nodeOf 51 = .ok (.iload 5, 2) := by decide +kernel
theorem dX12_nodeOf_53 : decode cX12_nodeOf 53 = .ok (.iaload, 1) := by decide +kernel
theorem dX12_nodeOf_54 : decode cX12_nodeOf 54 = .ok (.iload_n 2, 1) := by decide +kernel
theorem dX12_nodeOf_55 : decode cX12_nodeOf 55 = .ok (.if_icmp .ne 17, 3) := by decide +kernel
theorem dX12_nodeOf_58 : decode cX12_nodeOf 58 = .ok (.aload_n 0, 1) := by decide +kernel
theorem dX12_nodeOf_59 : decode cX12_nodeOf 59 = .ok (.getfield 111, 3) := by decide +kernel
theorem dX12_nodeOf_62 : decode cX12_nodeOf 62 = .ok (.iload 5, 2) := by decide +kernel
theorem dX12_nodeOf_64 : decode cX12_nodeOf 64 = .ok (.iaload, 1) := by decide +kernel
theorem dX12_nodeOf_65 : decode cX12_nodeOf 65 = .ok (.iload_n 3, 1) := by decide +kernel
theorem dX12_nodeOf_66 : decode cX12_nodeOf 66 = .ok (.if_icmp .ne 6, 3) := by decide +kernel
theorem dX12_nodeOf_69 : decode cX12_nodeOf 69 = .ok (.iload 5, 2) := by decide +kernel
theorem dX12_nodeOf_71 : decode cX12_nodeOf 71 = .ok (.ireturn, 1) := by decide +kernel
theorem dX12_nodeOf_72 : decode cX12_nodeOf 72 = .ok (.iload 4, 2) := by decide +kernel
theorem dX12_nodeOf_74 : decode cX12_nodeOf 74 = .ok (.iconst 1, 1) := by decide +kernel
theorem dX12_nodeOf_75 : decode cX12_nodeOf 75 = .ok (.iadd, 1) := by decide +kernel
theorem dX12_nodeOf_76 : decode cX12_nodeOf 76 = .ok (.ldc 114, 2) := by decide +kernel
theorem dX12_nodeOf_78 : decode cX12_nodeOf 78 = .ok (.irem, 1) := by decide +kernel
theorem dX12_nodeOf_79 : decode cX12_nodeOf 79 = .ok (.istore 4, 2) := by decide +kernel
theorem dX12_nodeOf_81 : decode cX12_nodeOf 81 = .ok (.goto (-54), 3) := by decide +kernel
theorem dX12_nodeOf_84 : decode cX12_nodeOf 84 = .ok (.aload_n 0, 1) := by decide +kernel
theorem dX12_nodeOf_85 : decode cX12_nodeOf 85 = .ok (.getfield 105, 3) := by decide +kernel
theorem dX12_nodeOf_88 : decode cX12_nodeOf 88 = .ok (.aload_n 0, 1) := by decide +kernel
theorem dX12_nodeOf_89 : decode cX12_nodeOf 89 = .ok (.getfield 354, 3) := by decide +kernel
theorem dX12_nodeOf_92 : decode cX12_nodeOf 92 = .ok (.iload_n 1, 1) := by decide +kernel
theorem dX12_nodeOf_93 : decode cX12_nodeOf 93 = .ok (.iastore, 1) := by decide +kernel
theorem dX12_nodeOf_94 : decode cX12_nodeOf 94 = .ok (.aload_n 0, 1) := by decide +kernel
theorem dX12_nodeOf_95 : decode cX12_nodeOf 95 = .ok (.getfield 108, 3) := by decide +kernel
theorem dX12_nodeOf_98 : decode cX12_nodeOf 98 = .ok (.aload_n 0, 1) := by decide +kernel
theorem dX12_nodeOf_99 : decode cX12_nodeOf 99 = .ok (.getfield 354, 3) := by decide +kernel
theorem dX12_nodeOf_102 : decode cX12_nodeOf 102 = .ok (.iload_n 2, 1) := by decide +kernel
theorem dX12_nodeOf_103 : decode cX12_nodeOf 103 = .ok (.iastore, 1) := by decide +kernel
theorem dX12_nodeOf_104 : decode cX12_nodeOf 104 = .ok (.aload_n 0, 1) := by decide +kernel
theorem dX12_nodeOf_105 : decode cX12_nodeOf 105 = .ok (.getfield 111, 3) := by decide +kernel
theorem dX12_nodeOf_108 : decode cX12_nodeOf 108 = .ok (.aload_n 0, 1) := by decide +kernel
theorem dX12_nodeOf_109 : decode cX12_nodeOf 109 = .ok (.getfield 354, 3) := by decide +kernel
theorem dX12_nodeOf_112 : decode cX12_nodeOf 112 = .ok (.iload_n 3, 1) := by decide +kernel
theorem dX12_nodeOf_113 : decode cX12_nodeOf 113 = .ok (.iastore, 1) := by decide +kernel
theorem dX12_nodeOf_114 : decode cX12_nodeOf 114 = .ok (.aload_n 0, 1) := by decide +kernel
theorem dX12_nodeOf_115 : decode cX12_nodeOf 115 = .ok (.getfield 115, 3) := by decide +kernel
theorem dX12_nodeOf_118 : decode cX12_nodeOf 118 = .ok (.iload 4, 2) := by decide +kernel
theorem dX12_nodeOf_120 : decode cX12_nodeOf 120 = .ok (.aload_n 0, 1) := by decide +kernel
theorem dX12_nodeOf_121 : decode cX12_nodeOf 121 = .ok (.getfield 354, 3) := by decide +kernel
theorem dX12_nodeOf_124 : decode cX12_nodeOf 124 = .ok (.iastore, 1) := by decide +kernel
theorem dX12_nodeOf_125 : decode cX12_nodeOf 125 = .ok (.aload_n 0, 1) := by decide +kernel
theorem dX12_nodeOf_126 : decode cX12_nodeOf 126 = .ok (.dup, 1) := by decide +kernel
theorem dX12_nodeOf_127 : decode cX12_nodeOf 127 = .ok (.getfield 354, 3) := by decide +kernel
theorem dX12_nodeOf_130 : decode cX12_nodeOf 130 = .ok (.iconst 1, 1) := by decide +kernel
theorem dX12_nodeOf_131 : decode cX12_nodeOf 131 = .ok (.iadd, 1) := by decide +kernel
theorem dX12_nodeOf_132 : decode cX12_nodeOf 132 = .ok (.putfield 354, 3) := by decide +kernel
theorem dX12_nodeOf_135 : decode cX12_nodeOf 135 = .ok (.aload_n 0, 1) := by decide +kernel
theorem dX12_nodeOf_136 : decode cX12_nodeOf 136 = .ok (.getfield 354, 3) := by decide +kernel
theorem dX12_nodeOf_139 : decode cX12_nodeOf 139 = .ok (.iconst 1, 1) := by decide +kernel
theorem dX12_nodeOf_140 : decode cX12_nodeOf 140 = .ok (.isub, 1) := by decide +kernel
theorem dX12_nodeOf_141 : decode cX12_nodeOf 141 = .ok (.ireturn, 1) := by decide +kernel
theorem dX12_diagrams_0 : decode cX12_diagrams 0 = .ok (.aload_n 0, 1) := by decide +kernel
theorem dX12_diagrams_1 : decode cX12_diagrams 1 = .ok (.getfield 97, 3) := by decide +kernel
theorem dX12_diagrams_4 : decode cX12_diagrams 4 = .ok (.iload_n 1, 1) := by decide +kernel
theorem dX12_diagrams_5 : decode cX12_diagrams 5 = .ok (.if_icmp .ne 4, 3) := by decide +kernel
theorem dX12_diagrams_8 : decode cX12_diagrams 8 = .ok (.return_, 1) := by decide +kernel
theorem dX12_diagrams_9 : decode cX12_diagrams 9 = .ok (.aload_n 0, 1) := by decide +kernel
theorem dX12_diagrams_10 : decode cX12_diagrams 10 = .ok (.iload_n 1, 1) := by decide +kernel
theorem dX12_diagrams_11 : decode cX12_diagrams 11 = .ok (.putfield 97, 3) := by decide +kernel
theorem dX12_diagrams_14 : decode cX12_diagrams 14 = .ok (.aload_n 0, 1) := by decide +kernel
theorem dX12_diagrams_15 : decode cX12_diagrams 15 = .ok (.iconst 2, 1) := by decide +kernel
theorem dX12_diagrams_16 : decode cX12_diagrams 16 = .ok (.putfield 354, 3) := by decide +kernel
theorem dX12_diagrams_19 : decode cX12_diagrams 19 = .ok (.aload_n 0, 1) := by decide +kernel
theorem dX12_diagrams_20 : decode cX12_diagrams 20 = .ok (.getfield 105, 3) := by decide +kernel
theorem dX12_diagrams_23 : decode cX12_diagrams 23 = .ok (.iconst 0, 1) := by decide +kernel
theorem dX12_diagrams_24 : decode cX12_diagrams 24 = .ok (.bipush 16, 2) := by decide +kernel
theorem dX12_diagrams_26 : decode cX12_diagrams 26 = .ok (.iastore, 1) := by decide +kernel
theorem dX12_diagrams_27 : decode cX12_diagrams 27 = .ok (.aload_n 0, 1) := by decide +kernel
theorem dX12_diagrams_28 : decode cX12_diagrams 28 = .ok (.getfield 105, 3) := by decide +kernel
theorem dX12_diagrams_31 : decode cX12_diagrams 31 = .ok (.iconst 1, 1) := by decide +kernel
theorem dX12_diagrams_32 : decode cX12_diagrams 32 = .ok (.bipush 16, 2) := by decide +kernel
theorem dX12_diagrams_34 : decode cX12_diagrams 34 = .ok (.iastore, 1) := by decide +kernel
theorem dX12_diagrams_35 : decode cX12_diagrams 35 = .ok (.iconst 0, 1) := by decide +kernel
theorem dX12_diagrams_36 : decode cX12_diagrams 36 = .ok (.istore_n 2, 1) := by decide +kernel
theorem dX12_diagrams_37 : decode cX12_diagrams 37 = .ok (.iload_n 2, 1) := by decide +kernel
theorem dX12_diagrams_38 : decode cX12_diagrams 38 = .ok (.ldc 101, 2) := by decide +kernel
theorem dX12_diagrams_40 : decode cX12_diagrams 40 = .ok (.if_icmp .ge 29, 3) := by decide +kernel
theorem dX12_diagrams_43 : decode cX12_diagrams 43 = .ok (.aload_n 0, 1) := by decide +kernel
theorem dX12_diagrams_44 : decode cX12_diagrams 44 = .ok (.getfield 102, 3) := by decide +kernel
theorem dX12_diagrams_47 : decode cX12_diagrams 47 = .ok (.iload_n 2, 1) := by decide +kernel
theorem dX12_diagrams_48 : decode cX12_diagrams 48 = .ok (.aload_n 0, 1) := by decide +kernel
theorem dX12_diagrams_49 : decode cX12_diagrams 49 = .ok (.iload_n 1, 1) := by decide +kernel
theorem dX12_diagrams_50 : decode cX12_diagrams 50 = .ok (.iload_n 2, 1) := by decide +kernel
theorem dX12_diagrams_51 : decode cX12_diagrams 51 = .ok (.invokevirtual 282, 3) := by decide +kernel
theorem dX12_diagrams_54 : decode cX12_diagrams 54 = .ok (.ifCond .eq 7, 3) := by decide +kernel
theorem dX12_diagrams_57 : decode cX12_diagrams 57 = .ok (.iconst 1, 1) := by decide +kernel
theorem dX12_diagrams_58 : decode cX12_diagrams 58 = .ok (.goto 4, 3) := by decide +kernel
theorem dX12_diagrams_61 : decode cX12_diagrams 61 = .ok (.iconst 0, 1) := by decide +kernel
theorem dX12_diagrams_62 : decode cX12_diagrams 62 = .ok (.iastore, 1) := by decide +kernel
theorem dX12_diagrams_63 : decode cX12_diagrams 63 = .ok (.iinc 2 1, 3) := by decide +kernel
theorem dX12_diagrams_66 : decode cX12_diagrams 66 = .ok (.goto (-29), 3) := by decide +kernel
theorem dX12_diagrams_69 : decode cX12_diagrams 69 = .ok (.bipush 15, 2) := by decide +kernel
theorem dX12_diagrams_71 : decode cX12_diagrams 71 = .ok (.istore_n 2, 1) := by decide +kernel
theorem dX12_diagrams_72 : decode cX12_diagrams 72 = .ok (.iload_n 2, 1) := by decide +kernel
theorem dX12_diagrams_73 : decode cX12_diagrams 73 = .ok (.ifCond .lt 72, 3) := by decide +kernel
theorem dX12_diagrams_76 : decode cX12_diagrams 76 = .ok (.iconst 0, 1) := by decide +kernel
theorem dX12_diagrams_77 : decode cX12_diagrams 77 = .ok (.istore_n 3, 1) := by decide +kernel
theorem dX12_diagrams_78 : decode cX12_diagrams 78 = .ok (.iload_n 3, 1) := by decide +kernel
theorem dX12_diagrams_79 : decode cX12_diagrams 79 = .ok (.ldc 114, 2) := by decide +kernel
theorem dX12_diagrams_81 : decode cX12_diagrams 81 = .ok (.if_icmp .ge 16, 3) := by decide +kernel
theorem dX12_diagrams_84 : decode cX12_diagrams 84 = .ok (.aload_n 0, 1) := by decide +kernel
theorem dX12_diagrams_85 : decode cX12_diagrams 85 = .ok (.getfield 115, 3) := by decide +kernel
theorem dX12_diagrams_88 : decode cX12_diagrams 88 = .ok (.iload_n 3, 1) := by decide +kernel
theorem dX12_diagrams_89 : decode cX12_diagrams 89 = .ok (.iconst (-1), 1) := by decide +kernel
theorem dX12_diagrams_90 : decode cX12_diagrams 90 = .ok (.iastore, 1) := by decide +kernel
theorem dX12_diagrams_91 : decode cX12_diagrams 91 = .ok (.iinc 3 1, 3) := by decide +kernel
theorem dX12_diagrams_94 : decode cX12_diagrams 94 = .ok (.goto (-16), 3) := by decide +kernel
theorem dX12_diagrams_97 : decode cX12_diagrams 97 = .ok (.iconst 0, 1) := by decide +kernel
theorem dX12_diagrams_98 : decode cX12_diagrams 98 = .ok (.istore_n 3, 1) := by decide +kernel
theorem dX12_diagrams_99 : decode cX12_diagrams 99 = .ok (.iload_n 3, 1) := by decide +kernel
theorem dX12_diagrams_100 : decode cX12_diagrams 100 = .ok (.iconst 1, 1) := by decide +kernel
theorem dX12_diagrams_101 : decode cX12_diagrams 101 = .ok (.iload_n 2, 1) := by decide +kernel
theorem dX12_diagrams_102 : decode cX12_diagrams 102 = .ok (.ishl, 1) := by decide +kernel
theorem dX12_diagrams_103 : decode cX12_diagrams 103 = .ok (.if_icmp .ge 36, 3) := by decide +kernel
theorem dX12_diagrams_106 : decode cX12_diagrams 106 = .ok (.aload_n 0, 1) := by decide +kernel
theorem dX12_diagrams_107 : decode cX12_diagrams 107 = .ok (.getfield 102, 3) := by decide +kernel
theorem dX12_diagrams_110 : decode cX12_diagrams 110 = .ok (.iload_n 3, 1) := by decide +kernel
theorem dX12_diagrams_111 : decode cX12_diagrams 111 = .ok (.aload_n 0, 1) := by decide +kernel
theorem dX12_diagrams_112 : decode cX12_diagrams 112 = .ok (.iload_n 2, 1) := by decide +kernel
theorem dX12_diagrams_113 : decode cX12_diagrams 113 = .ok (.aload_n 0, 1) := by decide +kernel
theorem dX12_diagrams_114 : decode cX12_diagrams 114 = .ok (.getfield 102, 3) := by decide +kernel
theorem dX12_diagrams_117 : decode cX12_diagrams 117 = .ok (.iload_n 3, 1) := by decide +kernel
theorem dX12_diagrams_118 : decode cX12_diagrams 118 = .ok (.iaload, 1) := by decide +kernel
theorem dX12_diagrams_119 : decode cX12_diagrams 119 = .ok (.aload_n 0, 1) := by decide +kernel
theorem dX12_diagrams_120 : decode cX12_diagrams 120 = .ok (.getfield 102, 3) := by decide +kernel
theorem dX12_diagrams_123 : decode cX12_diagrams 123 = .ok (.iload_n 3, 1) := by decide +kernel
theorem dX12_diagrams_124 : decode cX12_diagrams 124 = .ok (.iconst 1, 1) := by decide +kernel
theorem dX12_diagrams_125 : decode cX12_diagrams 125 = .ok (.iload_n 2, 1) := by decide +kernel
theorem dX12_diagrams_126 : decode cX12_diagrams 126 = .ok (.ishl, 1) := by decide +kernel
theorem dX12_diagrams_127 : decode cX12_diagrams 127 = .ok (.iadd, 1) := by decide +kernel
theorem dX12_diagrams_128 : decode cX12_diagrams 128 = .ok (.iaload, 1) := by decide +kernel
theorem dX12_diagrams_129 : decode cX12_diagrams 129 = .ok (.invokevirtual 357, 3) := by decide +kernel
theorem dX12_diagrams_132 : decode cX12_diagrams 132 = .ok (.iastore, 1) := by decide +kernel
theorem dX12_diagrams_133 : decode cX12_diagrams 133 = .ok (.iinc 3 1, 3) := by decide +kernel
theorem dX12_diagrams_136 : decode cX12_diagrams 136 = .ok (.goto (-37), 3) := by decide +kernel
theorem dX12_diagrams_139 : decode cX12_diagrams 139 = .ok (.iinc 2 (-1), 3) := by decide +kernel
theorem dX12_diagrams_142 : decode cX12_diagrams 142 = .ok (.goto (-70), 3) := by decide +kernel
theorem dX12_diagrams_145 : decode cX12_diagrams 145 = .ok (.aload_n 0, 1) := by decide +kernel
theorem dX12_diagrams_146 : decode cX12_diagrams 146 = .ok (.aload_n 0, 1) := by decide +kernel
theorem dX12_diagrams_147 : decode cX12_diagrams 147 = .ok (.getfield 102, 3) := by decide +kernel
theorem dX12_diagrams_150 : decode cX12_diagrams 150 = .ok (.iconst 0, 1) := by decide +kernel
theorem dX12_diagrams_151 : decode cX12_diagrams 151 = .ok (.iaload, 1) := by decide +kernel
theorem dX12_diagrams_152 : decode cX12_diagrams 152 = .ok (.putfield 360, 3) := by decide +kernel
theorem dX12_diagrams_155 : decode cX12_diagrams 155 = .ok (.return_, 1) := by decide +kernel
theorem dX12_size_0 : decode cX12_size 0 = .ok (.aload_n 0, 1) := by decide +kernel
theorem dX12_size_1 : decode cX12_size 1 = .ok (.iload_n 1, 1) := by decide +kernel
theorem dX12_size_2 : decode cX12_size 2 = .ok (.iconst 1, 1) := by decide +kernel
theorem dX12_size_3 : decode cX12_size 3 = .ok (.invokevirtual 271, 3) := by decide +kernel
theorem dX12_size_6 : decode cX12_size 6 = .ok (.istore_n 2, 1) := by decide +kernel
theorem dX12_size_7 : decode cX12_size 7 = .ok (.iload_n 2, 1) := by decide +kernel
theorem dX12_size_8 : decode cX12_size 8 = .ok (.iconst 1, 1) := by decide +kernel
theorem dX12_size_9 : decode cX12_size 9 = .ok (.if_icmp .eq 5, 3) := by decide +kernel
theorem dX12_size_12 : decode cX12_size 12 = .ok (.iload_n 2, 1) := by decide +kernel
theorem dX12_size_13 : decode cX12_size 13 = .ok (.ireturn, 1) := by decide +kernel
theorem dX12_size_14 : decode cX12_size 14 = .ok (.aload_n 0, 1) := by decide +kernel
theorem dX12_size_15 : decode cX12_size 15 = .ok (.aload_n 0, 1) := by decide +kernel
theorem dX12_size_16 : decode cX12_size 16 = .ok (.getfield 49, 3) := by decide +kernel
theorem dX12_size_19 : decode cX12_size 19 = .ok (.iload_n 1, 1) := by decide +kernel
theorem dX12_size_20 : decode cX12_size 20 = .ok (.iaload, 1) := by decide +kernel
theorem dX12_size_21 : decode cX12_size 21 = .ok (.invokevirtual 363, 3) := by decide +kernel
theorem dX12_size_24 : decode cX12_size 24 = .ok (.aload_n 0, 1) := by decide +kernel
theorem dX12_size_25 : decode cX12_size 25 = .ok (.getfield 354, 3) := by decide +kernel
theorem dX12_size_28 : decode cX12_size 28 = .ok (.iconst 2, 1) := by decide +kernel
theorem dX12_size_29 : decode cX12_size 29 = .ok (.isub, 1) := by decide +kernel
theorem dX12_size_30 : decode cX12_size 30 = .ok (.ireturn, 1) := by decide +kernel
theorem dX12_uses_0 : decode cX12_uses 0 = .ok (.iconst 0, 1) := by decide +kernel
theorem dX12_uses_1 : decode cX12_uses 1 = .ok (.istore_n 2, 1) := by decide +kernel
theorem dX12_uses_2 : decode cX12_uses 2 = .ok (.iload_n 2, 1) := by decide +kernel
theorem dX12_uses_3 : decode cX12_uses 3 = .ok (.bipush 16, 2) := by decide +kernel
theorem dX12_uses_5 : decode cX12_uses 5 = .ok (.if_icmp .ge 34, 3) := by decide +kernel
theorem dX12_uses_8 : decode cX12_uses 8 = .ok (.aload_n 0, 1) := by decide +kernel
theorem dX12_uses_9 : decode cX12_uses 9 = .ok (.getfield 118, 3) := by decide +kernel
theorem dX12_uses_12 : decode cX12_uses 12 = .ok (.iload_n 2, 1) := by decide +kernel
theorem dX12_uses_13 : decode cX12_uses 13 = .ok (.iload_n 1, 1) := by decide +kernel
theorem dX12_uses_14 : decode cX12_uses 14 = .ok (.iload_n 2, 1) := by decide +kernel
theorem dX12_uses_15 : decode cX12_uses 15 = .ok (.ishr, 1) := by decide +kernel
theorem dX12_uses_16 : decode cX12_uses 16 = .ok (.iconst 1, 1) := by decide +kernel
theorem dX12_uses_17 : decode cX12_uses 17 = .ok (.iand, 1) := by decide +kernel
theorem dX12_uses_18 : decode cX12_uses 18 = .ok (.iconst 1, 1) := by decide +kernel
theorem dX12_uses_19 : decode cX12_uses 19 = .ok (.if_icmp .ne 7, 3) := by decide +kernel
theorem dX12_uses_22 : decode cX12_uses 22 = .ok (.iconst 0, 1) := by decide +kernel
theorem dX12_uses_23 : decode cX12_uses 23 = .ok (.goto 9, 3) := by decide +kernel
theorem dX12_uses_26 : decode cX12_uses 26 = .ok (.aload_n 0, 1) := by decide +kernel
theorem dX12_uses_27 : decode cX12_uses 27 = .ok (.getfield 16, 3) := by decide +kernel
theorem dX12_uses_30 : decode cX12_uses 30 = .ok (.iload_n 2, 1) := by decide +kernel
theorem dX12_uses_31 : decode cX12_uses 31 = .ok (.iaload, 1) := by decide +kernel
theorem dX12_uses_32 : decode cX12_uses 32 = .ok (.iastore, 1) := by decide +kernel
theorem dX12_uses_33 : decode cX12_uses 33 = .ok (.iinc 2 1, 3) := by decide +kernel
theorem dX12_uses_36 : decode cX12_uses 36 = .ok (.goto (-34), 3) := by decide +kernel
theorem dX12_uses_39 : decode cX12_uses 39 = .ok (.return_, 1) := by decide +kernel
theorem dX12_brings_0 : decode cX12_brings 0 = .ok (.aload_n 0, 1) := by decide +kernel
theorem dX12_brings_1 : decode cX12_brings 1 = .ok (.iload_n 1, 1) := by decide +kernel
theorem dX12_brings_2 : decode cX12_brings 2 = .ok (.iload_n 2, 1) := by decide +kernel
theorem dX12_brings_3 : decode cX12_brings 3 = .ok (.invokevirtual 333, 3) := by decide +kernel
theorem dX12_brings_6 : decode cX12_brings 6 = .ok (.iload_n 3, 1) := by decide +kernel
theorem dX12_brings_7 : decode cX12_brings 7 = .ok (.istore 4, 2) := by decide +kernel
theorem dX12_brings_9 : decode cX12_brings 9 = .ok (.iload 4, 2) := by decide +kernel
theorem dX12_brings_11 : decode cX12_brings 11 = .ok (.aload_n 0, 1) := by decide +kernel
theorem dX12_brings_12 : decode cX12_brings 12 = .ok (.getfield 105, 3) := by decide +kernel
theorem dX12_brings_15 : decode cX12_brings 15 = .ok (.iload_n 2, 1) := by decide +kernel
theorem dX12_brings_16 : decode cX12_brings 16 = .ok (.iaload, 1) := by decide +kernel
theorem dX12_brings_17 : decode cX12_brings 17 = .ok (.if_icmp .ge 17, 3) := by decide +kernel
theorem dX12_brings_20 : decode cX12_brings 20 = .ok (.aload_n 0, 1) := by decide +kernel
theorem dX12_brings_21 : decode cX12_brings 21 = .ok (.iload_n 1, 1) := by decide +kernel
theorem dX12_brings_22 : decode cX12_brings 22 = .ok (.sipush 1000, 3) := by decide +kernel
theorem dX12_brings_25 : decode cX12_brings 25 = .ok (.invokevirtual 336, 3) := by decide +kernel
theorem dX12_brings_28 : decode cX12_brings 28 = .ok (.iinc 4 1, 3) := by decide +kernel
theorem dX12_brings_31 : decode cX12_brings 31 = .ok (.goto (-22), 3) := by decide +kernel
theorem dX12_brings_34 : decode cX12_brings 34 = .ok (.return_, 1) := by decide +kernel
theorem dX12_chances_0 : decode cX12_chances 0 = .ok (.aload_n 0, 1) := by decide +kernel
theorem dX12_chances_1 : decode cX12_chances 1 = .ok (.iconst 0, 1) := by decide +kernel
theorem dX12_chances_2 : decode cX12_chances 2 = .ok (.iconst 0, 1) := by decide +kernel
theorem dX12_chances_3 : decode cX12_chances 3 = .ok (.invokevirtual 175, 3) := by decide +kernel
theorem dX12_chances_6 : decode cX12_chances 6 = .ok (.aload_n 0, 1) := by decide +kernel
theorem dX12_chances_7 : decode cX12_chances 7 = .ok (.iconst 1, 1) := by decide +kernel
theorem dX12_chances_8 : decode cX12_chances 8 = .ok (.iconst 1, 1) := by decide +kernel
theorem dX12_chances_9 : decode cX12_chances 9 = .ok (.invokevirtual 175, 3) := by decide +kernel
theorem dX12_chances_12 : decode cX12_chances 12 = .ok (.iconst 2, 1) := by decide +kernel
theorem dX12_chances_13 : decode cX12_chances 13 = .ok (.istore_n 2, 1) := by decide +kernel
theorem dX12_chances_14 : decode cX12_chances 14 = .ok (.iload_n 2, 1) := by decide +kernel
theorem dX12_chances_15 : decode cX12_chances 15 = .ok (.aload_n 0, 1) := by decide +kernel
theorem dX12_chances_16 : decode cX12_chances 16 = .ok (.getfield 354, 3) := by decide +kernel
theorem dX12_chances_19 : decode cX12_chances 19 = .ok (.if_icmp .ge 82, 3) := by decide +kernel
theorem dX12_chances_22 : decode cX12_chances 22 = .ok (.aload_n 0, 1) := by decide +kernel
theorem dX12_chances_23 : decode cX12_chances 23 = .ok (.getfield 105, 3) := by decide +kernel
theorem dX12_chances_26 : decode cX12_chances 26 = .ok (.iload_n 2, 1) := by decide +kernel
theorem dX12_chances_27 : decode cX12_chances 27 = .ok (.iaload, 1) := by decide +kernel
theorem dX12_chances_28 : decode cX12_chances 28 = .ok (.istore_n 3, 1) := by decide +kernel
theorem dX12_chances_29 : decode cX12_chances 29 = .ok (.aload_n 0, 1) := by decide +kernel
theorem dX12_chances_30 : decode cX12_chances 30 = .ok (.iload_n 2, 1) := by decide +kernel
theorem dX12_chances_31 : decode cX12_chances 31 = .ok (.aload_n 0, 1) := by decide +kernel
theorem dX12_chances_32 : decode cX12_chances 32 = .ok (.getfield 108, 3) := by decide +kernel
theorem dX12_chances_35 : decode cX12_chances 35 = .ok (.iload_n 2, 1) := by decide +kernel
theorem dX12_chances_36 : decode cX12_chances 36 = .ok (.iaload, 1) := by decide +kernel
theorem dX12_chances_37 : decode cX12_chances 37 = .ok (.iload_n 3, 1) := by decide +kernel
theorem dX12_chances_38 : decode cX12_chances 38 = .ok (.iconst 1, 1) := by decide +kernel
theorem dX12_chances_39 : decode cX12_chances 39 = .ok (.iadd, 1) := by decide +kernel
theorem dX12_chances_40 : decode cX12_chances 40 = .ok (.invokevirtual 366, 3) := by decide +kernel
theorem dX12_chances_43 : decode cX12_chances 43 = .ok (.aload_n 0, 1) := by decide +kernel
theorem dX12_chances_44 : decode cX12_chances 44 = .ok (.iload_n 2, 1) := by decide +kernel
theorem dX12_chances_45 : decode cX12_chances 45 = .ok (.sipush 1000, 3) := by decide +kernel
theorem dX12_chances_48 : decode cX12_chances 48 = .ok (.aload_n 0, 1) := by decide +kernel
theorem dX12_chances_49 : decode cX12_chances 49 = .ok (.getfield 118, 3) := by decide +kernel
theorem dX12_chances_52 : decode cX12_chances 52 = .ok (.iload_n 3, 1) := by decide +kernel
theorem dX12_chances_53 : decode cX12_chances 53 = .ok (.iaload, 1) := by decide +kernel
theorem dX12_chances_54 : decode cX12_chances 54 = .ok (.isub, 1) := by decide +kernel
theorem dX12_chances_55 : decode cX12_chances 55 = .ok (.invokevirtual 336, 3) := by decide +kernel
theorem dX12_chances_58 : decode cX12_chances 58 = .ok (.aload_n 0, 1) := by decide +kernel
theorem dX12_chances_59 : decode cX12_chances 59 = .ok (.sipush 4502, 3) := by decide +kernel
theorem dX12_chances_62 : decode cX12_chances 62 = .ok (.aload_n 0, 1) := by decide +kernel
theorem dX12_chances_63 : decode cX12_chances 63 = .ok (.getfield 111, 3) := by decide +kernel
theorem dX12_chances_66 : decode cX12_chances 66 = .ok (.iload_n 2, 1) := by decide +kernel
theorem dX12_chances_67 : decode cX12_chances 67 = .ok (.iaload, 1) := by decide +kernel
theorem dX12_chances_68 : decode cX12_chances 68 = .ok (.iload_n 3, 1) := by decide +kernel
theorem dX12_chances_69 : decode cX12_chances 69 = .ok (.iconst 1, 1) := by decide +kernel
theorem dX12_chances_70 : decode cX12_chances 70 = .ok (.iadd, 1) := by decide +kernel
theorem dX12_chances_71 : decode cX12_chances 71 = .ok (.invokevirtual 366, 3) := by decide +kernel
theorem dX12_chances_74 : decode cX12_chances 74 = .ok (.aload_n 0, 1) := by decide +kernel
theorem dX12_chances_75 : decode cX12_chances 75 = .ok (.sipush 4502, 3) := by decide +kernel
theorem dX12_chances_78 : decode cX12_chances 78 = .ok (.aload_n 0, 1) := by decide +kernel
theorem dX12_chances_79 : decode cX12_chances 79 = .ok (.getfield 118, 3) := by decide +kernel
theorem dX12_chances_82 : decode cX12_chances 82 = .ok (.iload_n 3, 1) := by decide +kernel
theorem dX12_chances_83 : decode cX12_chances 83 = .ok (.iaload, 1) := by decide +kernel
theorem dX12_chances_84 : decode cX12_chances 84 = .ok (.invokevirtual 336, 3) := by decide +kernel
theorem dX12_chances_87 : decode cX12_chances 87 = .ok (.aload_n 0, 1) := by decide +kernel
theorem dX12_chances_88 : decode cX12_chances 88 = .ok (.iload_n 2, 1) := by decide +kernel
theorem dX12_chances_89 : decode cX12_chances 89 = .ok (.sipush 4502, 3) := by decide +kernel
theorem dX12_chances_92 : decode cX12_chances 92 = .ok (.invokevirtual 369, 3) := by decide +kernel
theorem dX12_chances_95 : decode cX12_chances 95 = .ok (.iinc 2 1, 3) := by decide +kernel
theorem dX12_chances_98 : decode cX12_chances 98 = .ok (.goto (-84), 3) := by decide +kernel
theorem dX12_chances_101 : decode cX12_chances 101 = .ok (.aload_n 0, 1) := by decide +kernel
theorem dX12_chances_102 : decode cX12_chances 102 = .ok (.iload_n 1, 1) := by decide +kernel
theorem dX12_chances_103 : decode cX12_chances 103 = .ok (.aload_n 0, 1) := by decide +kernel
theorem dX12_chances_104 : decode cX12_chances 104 = .ok (.getfield 360, 3) := by decide +kernel
theorem dX12_chances_107 : decode cX12_chances 107 = .ok (.iconst 0, 1) := by decide +kernel
theorem dX12_chances_108 : decode cX12_chances 108 = .ok (.invokevirtual 366, 3) := by decide +kernel
theorem dX12_chances_111 : decode cX12_chances 111 = .ok (.return_, 1) := by decide +kernel
theorem dX12_wholes_0 : decode cX12_wholes 0 = .ok (.aload_n 0, 1) := by decide +kernel
theorem dX12_wholes_1 : decode cX12_wholes 1 = .ok (.iload_n 1, 1) := by decide +kernel
theorem dX12_wholes_2 : decode cX12_wholes 2 = .ok (.iconst 1, 1) := by decide +kernel
theorem dX12_wholes_3 : decode cX12_wholes 3 = .ok (.invokevirtual 175, 3) := by decide +kernel
theorem dX12_wholes_6 : decode cX12_wholes 6 = .ok (.iconst 0, 1) := by decide +kernel
theorem dX12_wholes_7 : decode cX12_wholes 7 = .ok (.istore_n 3, 1) := by decide +kernel
theorem dX12_wholes_8 : decode cX12_wholes 8 = .ok (.iload_n 3, 1) := by decide +kernel
theorem dX12_wholes_9 : decode cX12_wholes 9 = .ok (.iload_n 2, 1) := by decide +kernel
theorem dX12_wholes_10 : decode cX12_wholes 10 = .ok (.if_icmp .ge 17, 3) := by decide +kernel
theorem dX12_wholes_13 : decode cX12_wholes 13 = .ok (.aload_n 0, 1) := by decide +kernel
theorem dX12_wholes_14 : decode cX12_wholes 14 = .ok (.iload_n 1, 1) := by decide +kernel
theorem dX12_wholes_15 : decode cX12_wholes 15 = .ok (.sipush 1000, 3) := by decide +kernel
theorem dX12_wholes_18 : decode cX12_wholes 18 = .ok (.invokevirtual 336, 3) := by decide +kernel
theorem dX12_wholes_21 : decode cX12_wholes 21 = .ok (.iinc 3 1, 3) := by decide +kernel
theorem dX12_wholes_24 : decode cX12_wholes 24 = .ok (.goto (-16), 3) := by decide +kernel
theorem dX12_wholes_27 : decode cX12_wholes 27 = .ok (.return_, 1) := by decide +kernel
theorem dX12_whyChance_0 : decode cX12_whyChance 0 = .ok (.aload_n 0, 1) := by decide +kernel
theorem dX12_whyChance_1 : decode cX12_whyChance 1 = .ok (.iload_n 1, 1) := by decide +kernel
theorem dX12_whyChance_2 : decode cX12_whyChance 2 = .ok (.iload_n 2, 1) := by decide +kernel
theorem dX12_whyChance_3 : decode cX12_whyChance 3 = .ok (.invokevirtual 271, 3) := by decide +kernel
theorem dX12_whyChance_6 : decode cX12_whyChance 6 = .ok (.istore_n 3, 1) := by decide +kernel
theorem dX12_whyChance_7 : decode cX12_whyChance 7 = .ok (.iload_n 3, 1) := by decide +kernel
theorem dX12_whyChance_8 : decode cX12_whyChance 8 = .ok (.iconst 1, 1) := by decide +kernel
theorem dX12_whyChance_9 : decode cX12_whyChance 9 = .ok (.if_icmp .eq 5, 3) := by decide +kernel
theorem dX12_whyChance_12 : decode cX12_whyChance 12 = .ok (.iload_n 3, 1) := by decide +kernel
theorem dX12_whyChance_13 : decode cX12_whyChance 13 = .ok (.ireturn, 1) := by decide +kernel
theorem dX12_whyChance_14 : decode cX12_whyChance 14 = .ok (.aload_n 0, 1) := by decide +kernel
theorem dX12_whyChance_15 : decode cX12_whyChance 15 = .ok (.aload_n 0, 1) := by decide +kernel
theorem dX12_whyChance_16 : decode cX12_whyChance 16 = .ok (.getfield 49, 3) := by decide +kernel
theorem dX12_whyChance_19 : decode cX12_whyChance 19 = .ok (.iload_n 1, 1) := by decide +kernel
theorem dX12_whyChance_20 : decode cX12_whyChance 20 = .ok (.iaload, 1) := by decide +kernel
theorem dX12_whyChance_21 : decode cX12_whyChance 21 = .ok (.invokevirtual 363, 3) := by decide +kernel
theorem dX12_whyChance_24 : decode cX12_whyChance 24 = .ok (.aload_n 0, 1) := by decide +kernel
theorem dX12_whyChance_25 : decode cX12_whyChance 25 = .ok (.getfield 354, 3) := by decide +kernel
theorem dX12_whyChance_28 : decode cX12_whyChance 28 = .ok (.iconst 2, 1) := by decide +kernel
theorem dX12_whyChance_29 : decode cX12_whyChance 29 = .ok (.isub, 1) := by decide +kernel
theorem dX12_whyChance_30 : decode cX12_whyChance 30 = .ok (.sipush 400, 3) := by decide +kernel
theorem dX12_whyChance_33 : decode cX12_whyChance 33 = .ok (.if_icmp .le 8, 3) := by decide +kernel
theorem dX12_whyChance_36 : decode cX12_whyChance 36 = .ok (.bipush (-5), 2) := by decide +kernel
theorem dX12_whyChance_38 : decode cX12_whyChance 38 = .ok (.goto 4, 3) := by decide +kernel
theorem dX12_whyChance_41 : decode cX12_whyChance 41 = .ok (.iconst 1, 1) := by decide +kernel
theorem dX12_whyChance_42 : decode cX12_whyChance 42 = .ok (.ireturn, 1) := by decide +kernel
theorem dX12_chance_0 : decode cX12_chance 0 = .ok (.aload_n 0, 1) := by decide +kernel
theorem dX12_chance_1 : decode cX12_chance 1 = .ok (.iload_n 1, 1) := by decide +kernel
theorem dX12_chance_2 : decode cX12_chance 2 = .ok (.iconst 1, 1) := by decide +kernel
theorem dX12_chance_3 : decode cX12_chance 3 = .ok (.invokevirtual 372, 3) := by decide +kernel
theorem dX12_chance_6 : decode cX12_chance 6 = .ok (.istore_n 2, 1) := by decide +kernel
theorem dX12_chance_7 : decode cX12_chance 7 = .ok (.iload_n 2, 1) := by decide +kernel
theorem dX12_chance_8 : decode cX12_chance 8 = .ok (.iconst 1, 1) := by decide +kernel
theorem dX12_chance_9 : decode cX12_chance 9 = .ok (.if_icmp .eq 5, 3) := by decide +kernel
theorem dX12_chance_12 : decode cX12_chance 12 = .ok (.iload_n 2, 1) := by decide +kernel
theorem dX12_chance_13 : decode cX12_chance 13 = .ok (.ireturn, 1) := by decide +kernel
theorem dX12_chance_14 : decode cX12_chance 14 = .ok (.aload_n 0, 1) := by decide +kernel
theorem dX12_chance_15 : decode cX12_chance 15 = .ok (.iconst 0, 1) := by decide +kernel
theorem dX12_chance_16 : decode cX12_chance 16 = .ok (.invokevirtual 375, 3) := by decide +kernel
theorem dX12_chance_19 : decode cX12_chance 19 = .ok (.aload_n 0, 1) := by decide +kernel
theorem dX12_chance_20 : decode cX12_chance 20 = .ok (.sipush 4507, 3) := by decide +kernel
theorem dX12_chance_23 : decode cX12_chance 23 = .ok (.invokevirtual 378, 3) := by decide +kernel
theorem dX12_chance_26 : decode cX12_chance 26 = .ok (.aload_n 0, 1) := by decide +kernel
theorem dX12_chance_27 : decode cX12_chance 27 = .ok (.sipush 4505, 3) := by decide +kernel
theorem dX12_chance_30 : decode cX12_chance 30 = .ok (.bipush 16, 2) := by decide +kernel
theorem dX12_chance_32 : decode cX12_chance 32 = .ok (.invokevirtual 381, 3) := by decide +kernel
theorem dX12_chance_35 : decode cX12_chance 35 = .ok (.aload_n 0, 1) := by decide +kernel
theorem dX12_chance_36 : decode cX12_chance 36 = .ok (.sipush 4507, 3) := by decide +kernel
theorem dX12_chance_39 : decode cX12_chance 39 = .ok (.sipush 4505, 3) := by decide +kernel
theorem dX12_chance_42 : decode cX12_chance 42 = .ok (.invokevirtual 384, 3) := by decide +kernel
theorem dX12_chance_45 : decode cX12_chance 45 = .ok (.iconst 1, 1) := by decide +kernel
theorem dX12_chance_46 : decode cX12_chance 46 = .ok (.ireturn, 1) := by decide +kernel
theorem dX12_weight_0 : decode cX12_weight 0 = .ok (.aload_n 0, 1) := by decide +kernel
theorem dX12_weight_1 : decode cX12_weight 1 = .ok (.iload_n 1, 1) := by decide +kernel
theorem dX12_weight_2 : decode cX12_weight 2 = .ok (.iload_n 2, 1) := by decide +kernel
theorem dX12_weight_3 : decode cX12_weight 3 = .ok (.invokestatic 183, 3) := by decide +kernel
theorem dX12_weight_6 : decode cX12_weight 6 = .ok (.invokevirtual 372, 3) := by decide +kernel
theorem dX12_weight_9 : decode cX12_weight 9 = .ok (.istore_n 3, 1) := by decide +kernel
theorem dX12_weight_10 : decode cX12_weight 10 = .ok (.iload_n 3, 1) := by decide +kernel
theorem dX12_weight_11 : decode cX12_weight 11 = .ok (.iconst 1, 1) := by decide +kernel
theorem dX12_weight_12 : decode cX12_weight 12 = .ok (.if_icmp .eq 5, 3) := by decide +kernel
theorem dX12_weight_15 : decode cX12_weight 15 = .ok (.iload_n 3, 1) := by decide +kernel
theorem dX12_weight_16 : decode cX12_weight 16 = .ok (.ireturn, 1) := by decide +kernel
theorem dX12_weight_17 : decode cX12_weight 17 = .ok (.aload_n 0, 1) := by decide +kernel
theorem dX12_weight_18 : decode cX12_weight 18 = .ok (.iconst 0, 1) := by decide +kernel
theorem dX12_weight_19 : decode cX12_weight 19 = .ok (.invokevirtual 375, 3) := by decide +kernel
theorem dX12_weight_22 : decode cX12_weight 22 = .ok (.aload_n 0, 1) := by decide +kernel
theorem dX12_weight_23 : decode cX12_weight 23 = .ok (.getfield 118, 3) := by decide +kernel
theorem dX12_weight_26 : decode cX12_weight 26 = .ok (.iload_n 2, 1) := by decide +kernel
theorem dX12_weight_27 : decode cX12_weight 27 = .ok (.iconst 0, 1) := by decide +kernel
theorem dX12_weight_28 : decode cX12_weight 28 = .ok (.iastore, 1) := by decide +kernel
theorem dX12_weight_29 : decode cX12_weight 29 = .ok (.aload_n 0, 1) := by decide +kernel
theorem dX12_weight_30 : decode cX12_weight 30 = .ok (.sipush 402, 3) := by decide +kernel
theorem dX12_weight_33 : decode cX12_weight 33 = .ok (.invokevirtual 378, 3) := by decide +kernel
theorem dX12_weight_36 : decode cX12_weight 36 = .ok (.aload_n 0, 1) := by decide +kernel
theorem dX12_weight_37 : decode cX12_weight 37 = .ok (.getfield 118, 3) := by decide +kernel
theorem dX12_weight_40 : decode cX12_weight 40 = .ok (.iload_n 2, 1) := by decide +kernel
theorem dX12_weight_41 : decode cX12_weight 41 = .ok (.sipush 1000, 3) := by decide +kernel
theorem dX12_weight_44 : decode cX12_weight 44 = .ok (.iastore, 1) := by decide +kernel
theorem dX12_weight_45 : decode cX12_weight 45 = .ok (.aload_n 0, 1) := by decide +kernel
theorem dX12_weight_46 : decode cX12_weight 46 = .ok (.sipush 4507, 3) := by decide +kernel
theorem dX12_weight_49 : decode cX12_weight 49 = .ok (.invokevirtual 378, 3) := by decide +kernel
theorem dX12_weight_52 : decode cX12_weight 52 = .ok (.aload_n 0, 1) := by decide +kernel
theorem dX12_weight_53 : decode cX12_weight 53 = .ok (.sipush 4507, 3) := by decide +kernel
theorem dX12_weight_56 : decode cX12_weight 56 = .ok (.sipush 402, 3) := by decide +kernel
theorem dX12_weight_59 : decode cX12_weight 59 = .ok (.invokevirtual 330, 3) := by decide +kernel
theorem dX12_weight_62 : decode cX12_weight 62 = .ok (.aload_n 0, 1) := by decide +kernel
theorem dX12_weight_63 : decode cX12_weight 63 = .ok (.sipush 4505, 3) := by decide +kernel
theorem dX12_weight_66 : decode cX12_weight 66 = .ok (.bipush 16, 2) := by decide +kernel
theorem dX12_weight_68 : decode cX12_weight 68 = .ok (.invokevirtual 381, 3) := by decide +kernel
theorem dX12_weight_71 : decode cX12_weight 71 = .ok (.aload_n 0, 1) := by decide +kernel
theorem dX12_weight_72 : decode cX12_weight 72 = .ok (.sipush 4507, 3) := by decide +kernel
theorem dX12_weight_75 : decode cX12_weight 75 = .ok (.sipush 4505, 3) := by decide +kernel
theorem dX12_weight_78 : decode cX12_weight 78 = .ok (.invokevirtual 384, 3) := by decide +kernel
theorem dX12_weight_81 : decode cX12_weight 81 = .ok (.aload_n 0, 1) := by decide +kernel
theorem dX12_weight_82 : decode cX12_weight 82 = .ok (.sipush 4500, 3) := by decide +kernel
theorem dX12_weight_85 : decode cX12_weight 85 = .ok (.invokevirtual 324, 3) := by decide +kernel
theorem dX12_weight_88 : decode cX12_weight 88 = .ok (.ifCond .eq 7, 3) := by decide +kernel
theorem dX12_weight_91 : decode cX12_weight 91 = .ok (.iconst 0, 1) := by decide +kernel
theorem dX12_weight_92 : decode cX12_weight 92 = .ok (.goto 4, 3) := by decide +kernel
theorem dX12_weight_95 : decode cX12_weight 95 = .ok (.iconst 1, 1) := by decide +kernel
theorem dX12_weight_96 : decode cX12_weight 96 = .ok (.ireturn, 1) := by decide +kernel
theorem dX12_best_0 : decode cX12_best 0 = .ok (.aload_n 0, 1) := by decide +kernel
theorem dX12_best_1 : decode cX12_best 1 = .ok (.iload_n 1, 1) := by decide +kernel
theorem dX12_best_2 : decode cX12_best 2 = .ok (.iload_n 2, 1) := by decide +kernel
theorem dX12_best_3 : decode cX12_best 3 = .ok (.iconst 0, 1) := by decide +kernel
theorem dX12_best_4 : decode cX12_best 4 = .ok (.sipush 16000, 3) := by decide +kernel
theorem dX12_best_7 : decode cX12_best 7 = .ok (.invokestatic 179, 3) := by decide +kernel
theorem dX12_best_10 : decode cX12_best 10 = .ok (.invokevirtual 271, 3) := by decide +kernel
theorem dX12_best_13 : decode cX12_best 13 = .ok (.istore_n 3, 1) := by decide +kernel
theorem dX12_best_14 : decode cX12_best 14 = .ok (.iload_n 3, 1) := by decide +kernel
theorem dX12_best_15 : decode cX12_best 15 = .ok (.iconst 1, 1) := by decide +kernel
theorem dX12_best_16 : decode cX12_best 16 = .ok (.if_icmp .eq 5, 3) := by decide +kernel
theorem dX12_best_19 : decode cX12_best 19 = .ok (.iload_n 3, 1) := by decide +kernel
theorem dX12_best_20 : decode cX12_best 20 = .ok (.ireturn, 1) := by decide +kernel
theorem dX12_best_21 : decode cX12_best 21 = .ok (.aload_n 0, 1) := by decide +kernel
theorem dX12_best_22 : decode cX12_best 22 = .ok (.getfield 46, 3) := by decide +kernel
theorem dX12_best_25 : decode cX12_best 25 = .ok (.aload_n 0, 1) := by decide +kernel
theorem dX12_best_26 : decode cX12_best 26 = .ok (.getfield 49, 3) := by decide +kernel
theorem dX12_best_29 : decode cX12_best 29 = .ok (.iload_n 1, 1) := by decide +kernel
theorem dX12_best_30 : decode cX12_best 30 = .ok (.iaload, 1) := by decide +kernel
theorem dX12_best_31 : decode cX12_best 31 = .ok (.iaload, 1) := by decide +kernel
theorem dX12_best_32 : decode cX12_best 32 = .ok (.invokestatic 295, 3) := by decide +kernel
theorem dX12_best_35 : decode cX12_best 35 = .ok (.istore 4, 2) := by decide +kernel
theorem dX12_best_37 : decode cX12_best 37 = .ok (.iload 4, 2) := by decide +kernel
theorem dX12_best_39 : decode cX12_best 39 = .ok (.bipush 12, 2) := by decide +kernel
theorem dX12_best_41 : decode cX12_best 41 = .ok (.if_icmp .le 6, 3) := by decide +kernel
theorem dX12_best_44 : decode cX12_best 44 = .ok (.bipush (-3), 2) := by decide +kernel
theorem dX12_best_46 : decode cX12_best 46 = .ok (.ireturn, 1) := by decide +kernel
theorem dX12_best_47 : decode cX12_best 47 = .ok (.aload_n 0, 1) := by decide +kernel
theorem dX12_best_48 : decode cX12_best 48 = .ok (.aload_n 0, 1) := by decide +kernel
theorem dX12_best_49 : decode cX12_best 49 = .ok (.getfield 49, 3) := by decide +kernel
theorem dX12_best_52 : decode cX12_best 52 = .ok (.iload_n 1, 1) := by decide +kernel
theorem dX12_best_53 : decode cX12_best 53 = .ok (.iaload, 1) := by decide +kernel
theorem dX12_best_54 : decode cX12_best 54 = .ok (.invokevirtual 363, 3) := by decide +kernel
theorem dX12_best_57 : decode cX12_best 57 = .ok (.aload_n 0, 1) := by decide +kernel
theorem dX12_best_58 : decode cX12_best 58 = .ok (.getfield 354, 3) := by decide +kernel
theorem dX12_best_61 : decode cX12_best 61 = .ok (.iconst 2, 1) := by decide +kernel
theorem dX12_best_62 : decode cX12_best 62 = .ok (.isub, 1) := by decide +kernel
theorem dX12_best_63 : decode cX12_best 63 = .ok (.sipush 400, 3) := by decide +kernel
theorem dX12_best_66 : decode cX12_best 66 = .ok (.if_icmp .le 6, 3) := by decide +kernel
theorem dX12_best_69 : decode cX12_best 69 = .ok (.bipush (-5), 2) := by decide +kernel
theorem dX12_best_71 : decode cX12_best 71 = .ok (.ireturn, 1) := by decide +kernel
theorem dX12_best_72 : decode cX12_best 72 = .ok (.iconst 0, 1) := by decide +kernel
theorem dX12_best_73 : decode cX12_best 73 = .ok (.istore 5, 2) := by decide +kernel
theorem dX12_best_75 : decode cX12_best 75 = .ok (.iconst 0, 1) := by decide +kernel
theorem dX12_best_76 : decode cX12_best 76 = .ok (.istore 6, 2) := by decide +kernel
theorem dX12_best_78 : decode cX12_best 78 = .ok (.iload 6, 2) := by decide +kernel
theorem dX12_best_80 : decode cX12_best 80 = .ok (.bipush 16, 2) := by decide +kernel
theorem dX12_best_82 : decode cX12_best 82 = .ok (.if_icmp .ge 41, 3) := by decide +kernel
theorem dX12_best_85 : decode cX12_best 85 = .ok (.aload_n 0, 1) := by decide +kernel
theorem dX12_best_86 : decode cX12_best 86 = .ok (.getfield 46, 3) := by decide +kernel
theorem dX12_best_89 : decode cX12_best 89 = .ok (.aload_n 0, 1) := by decide +kernel
theorem dX12_best_90 : decode cX12_best 90 = .ok (.getfield 49, 3) := by decide +kernel
theorem dX12_best_93 : decode cX12_best 93 = .ok (.iload_n 1, 1) := by decide +kernel
theorem dX12_best_94 : decode cX12_best 94 = .ok (.iaload, 1) := by decide +kernel
theorem dX12_best_95 : decode cX12_best 95 = .ok (.iaload, 1) := by decide +kernel
theorem dX12_best_96 : decode cX12_best 96 = .ok (.iload 6, 2) := by decide +kernel
theorem dX12_best_98 : decode cX12_best 98 = .ok (.ishr, 1) := by decide +kernel
theorem dX12_best_99 : decode cX12_best 99 = .ok (.iconst 1, 1) := by decide +kernel
theorem dX12_best_100 : decode cX12_best 100 = .ok (.iand, 1) := by decide +kernel
theorem dX12_best_101 : decode cX12_best 101 = .ok (.iconst 1, 1) := by decide +kernel
theorem dX12_best_102 : decode cX12_best 102 = .ok (.if_icmp .ne 15, 3) := by decide +kernel
theorem dX12_best_105 : decode cX12_best 105 = .ok (.aload_n 0, 1) := by decide +kernel
theorem dX12_best_106 : decode cX12_best 106 = .ok (.getfield 121, 3) := by decide +kernel
theorem dX12_best_109 : decode cX12_best 109 = .ok (.iload 5, 2) := by decide +kernel
theorem dX12_best_111 : decode cX12_best 111 = .ok (.iload 6, 2) := by decide +kernel
theorem dX12_best_113 : decode cX12_best 113 = .ok (.iastore, 1) := by decide +kernel
theorem dX12_best_114 : decode cX12_best 114 = .ok (.iinc 5 1, 3) := by decide +kernel
theorem dX12_best_117 : decode cX12_best 117 = .ok (.iinc 6 1, 3) := by decide +kernel
theorem dX12_best_120 : decode cX12_best 120 = .ok (.goto (-42), 3) := by decide +kernel
theorem dX12_best_123 : decode cX12_best 123 = .ok (.iconst 1, 1) := by decide +kernel
theorem dX12_best_124 : decode cX12_best 124 = .ok (.iload 5, 2) := by decide +kernel
theorem dX12_best_126 : decode cX12_best 126 = .ok (.ishl, 1) := by decide +kernel
theorem dX12_best_127 : decode cX12_best 127 = .ok (.istore 6, 2) := by decide +kernel
theorem dX12_best_129 : decode cX12_best 129 = .ok (.iconst 0, 1) := by decide +kernel
theorem dX12_best_130 : decode cX12_best 130 = .ok (.istore 7, 2) := by decide +kernel
theorem dX12_best_132 : decode cX12_best 132 = .ok (.iload 7, 2) := by decide +kernel
theorem dX12_best_134 : decode cX12_best 134 = .ok (.iload 6, 2) := by decide +kernel
theorem dX12_best_136 : decode cX12_best 136 = .ok (.if_icmp .ge 45, 3) := by decide +kernel
theorem dX12_best_139 : decode cX12_best 139 = .ok (.aload_n 0, 1) := by decide +kernel
theorem dX12_best_140 : decode cX12_best 140 = .ok (.sipush 402, 3) := by decide +kernel
theorem dX12_best_143 : decode cX12_best 143 = .ok (.iload 7, 2) := by decide +kernel
theorem dX12_best_145 : decode cX12_best 145 = .ok (.iadd, 1) := by decide +kernel
theorem dX12_best_146 : decode cX12_best 146 = .ok (.aload_n 0, 1) := by decide +kernel
theorem dX12_best_147 : decode cX12_best 147 = .ok (.aload_n 0, 1) := by decide +kernel
theorem dX12_best_148 : decode cX12_best 148 = .ok (.getfield 49, 3) := by decide +kernel
theorem dX12_best_151 : decode cX12_best 151 = .ok (.iload_n 1, 1) := by decide +kernel
theorem dX12_best_152 : decode cX12_best 152 = .ok (.iaload, 1) := by decide +kernel
theorem dX12_best_153 : decode cX12_best 153 = .ok (.aload_n 0, 1) := by decide +kernel
theorem dX12_best_154 : decode cX12_best 154 = .ok (.iload 7, 2) := by decide +kernel
theorem dX12_best_156 : decode cX12_best 156 = .ok (.iload 5, 2) := by decide +kernel
theorem dX12_best_158 : decode cX12_best 158 = .ok (.invokevirtual 387, 3) := by decide +kernel
theorem dX12_best_161 : decode cX12_best 161 = .ok (.invokevirtual 282, 3) := by decide +kernel
theorem dX12_best_164 : decode cX12_best 164 = .ok (.ifCond .eq 7, 3) := by decide +kernel
theorem dX12_best_167 : decode cX12_best 167 = .ok (.iconst 1, 1) := by decide +kernel
theorem dX12_best_168 : decode cX12_best 168 = .ok (.goto 4, 3) := by decide +kernel
theorem dX12_best_171 : decode cX12_best 171 = .ok (.iconst 0, 1) := by decide +kernel
theorem dX12_best_172 : decode cX12_best 172 = .ok (.invokevirtual 175, 3) := by decide +kernel
theorem dX12_best_175 : decode cX12_best 175 = .ok (.iinc 7 1, 3) := by decide +kernel
theorem dX12_best_178 : decode cX12_best 178 = .ok (.goto (-46), 3) := by decide +kernel
theorem dX12_best_181 : decode cX12_best 181 = .ok (.iconst 0, 1) := by decide +kernel
theorem dX12_best_182 : decode cX12_best 182 = .ok (.istore 7, 2) := by decide +kernel
theorem dX12_best_184 : decode cX12_best 184 = .ok (.iload 7, 2) := by decide +kernel
theorem dX12_best_186 : decode cX12_best 186 = .ok (.iload 5, 2) := by decide +kernel
theorem dX12_best_188 : decode cX12_best 188 = .ok (.if_icmp .ge 148, 3) := by decide +kernel
theorem dX12_best_191 : decode cX12_best 191 = .ok (.aload_n 0, 1) := by decide +kernel
theorem dX12_best_192 : decode cX12_best 192 = .ok (.getfield 16, 3) := by decide +kernel
theorem dX12_best_195 : decode cX12_best 195 = .ok (.aload_n 0, 1) := by decide +kernel
theorem dX12_best_196 : decode cX12_best 196 = .ok (.getfield 121, 3) := by decide +kernel
theorem dX12_best_199 : decode cX12_best 199 = .ok (.iload 7, 2) := by decide +kernel
theorem dX12_best_201 : decode cX12_best 201 = .ok (.iaload, 1) := by decide +kernel
theorem dX12_best_202 : decode cX12_best 202 = .ok (.iaload, 1) := by decide +kernel
theorem dX12_best_203 : decode cX12_best 203 = .ok (.istore 8, 2) := by decide +kernel
theorem dX12_best_205 : decode cX12_best 205 = .ok (.iload 6, 2) := by decide +kernel
theorem dX12_best_207 : decode cX12_best 207 = .ok (.iconst 1, 1) := by decide +kernel
theorem dX12_best_208 : decode cX12_best 208 = .ok (.isub, 1) := by decide +kernel
theorem dX12_best_209 : decode cX12_best 209 = .ok (.istore 9, 2) := by decide +kernel
theorem dX12_best_211 : decode cX12_best 211 = .ok (.iload 9, 2) := by decide +kernel
theorem dX12_best_213 : decode cX12_best 213 = .ok (.ifCond .lt 78, 3) := by decide +kernel
theorem dX12_best_216 : decode cX12_best 216 = .ok (.iload 9, 2) := by decide +kernel
theorem dX12_best_218 : decode cX12_best 218 = .ok (.iload 7, 2) := by decide +kernel
theorem dX12_best_220 : decode cX12_best 220 = .ok (.ishr, 1) := by decide +kernel
theorem dX12_best_221 : decode cX12_best 221 = .ok (.iconst 1, 1) := by decide +kernel
theorem dX12_best_222 : decode cX12_best 222 = .ok (.iand, 1) := by decide +kernel
theorem dX12_best_223 : decode cX12_best 223 = .ok (.iconst 1, 1) := by decide +kernel
theorem dX12_best_224 : decode cX12_best 224 = .ok (.if_icmp .ne 61, 3) := by decide +kernel
theorem dX12_best_227 : decode cX12_best 227 = .ok (.aload_n 0, 1) := by decide +kernel
theorem dX12_best_228 : decode cX12_best 228 = .ok (.sipush 4502, 3) := by decide +kernel
theorem dX12_best_231 : decode cX12_best 231 = .ok (.sipush 402, 3) := by decide +kernel
theorem dX12_best_234 : decode cX12_best 234 = .ok (.iload 9, 2) := by decide +kernel
theorem dX12_best_236 : decode cX12_best 236 = .ok (.iconst 1, 1) := by decide +kernel
theorem dX12_best_237 : decode cX12_best 237 = .ok (.iload 7, 2) := by decide +kernel
theorem dX12_best_239 : decode cX12_best 239 = .ok (.ishl, 1) := by decide +kernel
theorem dX12_best_240 : decode cX12_best 240 = .ok (.iconst (-1), 1) := by decide +kernel
theorem dX12_best_241 : decode cX12_best 241 = .ok (.ixor, 1) := by decide +kernel
theorem dX12_best_242 : decode cX12_best 242 = .ok (.iand, 1) := by decide +kernel
theorem dX12_best_243 : decode cX12_best 243 = .ok (.iadd, 1) := by decide +kernel
theorem dX12_best_244 : decode cX12_best 244 = .ok (.invokevirtual 333, 3) := by decide +kernel
theorem dX12_best_247 : decode cX12_best 247 = .ok (.aload_n 0, 1) := by decide +kernel
theorem dX12_best_248 : decode cX12_best 248 = .ok (.sipush 4502, 3) := by decide +kernel
theorem dX12_best_251 : decode cX12_best 251 = .ok (.sipush 1000, 3) := by decide +kernel
theorem dX12_best_254 : decode cX12_best 254 = .ok (.iload 8, 2) := by decide +kernel
theorem dX12_best_256 : decode cX12_best 256 = .ok (.isub, 1) := by decide +kernel
theorem dX12_best_257 : decode cX12_best 257 = .ok (.invokevirtual 336, 3) := by decide +kernel
theorem dX12_best_260 : decode cX12_best 260 = .ok (.aload_n 0, 1) := by decide +kernel
theorem dX12_best_261 : decode cX12_best 261 = .ok (.sipush 402, 3) := by decide +kernel
theorem dX12_best_264 : decode cX12_best 264 = .ok (.iload 9, 2) := by decide +kernel
theorem dX12_best_266 : decode cX12_best 266 = .ok (.iadd, 1) := by decide +kernel
theorem dX12_best_267 : decode cX12_best 267 = .ok (.iload 8, 2) := by decide +kernel
theorem dX12_best_269 : decode cX12_best 269 = .ok (.invokevirtual 336, 3) := by decide +kernel
theorem dX12_best_272 : decode cX12_best 272 = .ok (.aload_n 0, 1) := by decide +kernel
theorem dX12_best_273 : decode cX12_best 273 = .ok (.sipush 402, 3) := by decide +kernel
theorem dX12_best_276 : decode cX12_best 276 = .ok (.iload 9, 2) := by decide +kernel
theorem dX12_best_278 : decode cX12_best 278 = .ok (.iadd, 1) := by decide +kernel
theorem dX12_best_279 : decode cX12_best 279 = .ok (.sipush 4502, 3) := by decide +kernel
theorem dX12_best_282 : decode cX12_best 282 = .ok (.invokevirtual 369, 3) := by decide +kernel
theorem dX12_best_285 : decode cX12_best 285 = .ok (.iinc 9 (-1), 3) := by decide +kernel
theorem dX12_best_288 : decode cX12_best 288 = .ok (.goto (-77), 3) := by decide +kernel
theorem dX12_best_291 : decode cX12_best 291 = .ok (.iconst 0, 1) := by decide +kernel
theorem dX12_best_292 : decode cX12_best 292 = .ok (.istore 9, 2) := by decide +kernel
theorem dX12_best_294 : decode cX12_best 294 = .ok (.iload 9, 2) := by decide +kernel
theorem dX12_best_296 : decode cX12_best 296 = .ok (.iload 6, 2) := by decide +kernel
theorem dX12_best_298 : decode cX12_best 298 = .ok (.if_icmp .ge 32, 3) := by decide +kernel
theorem dX12_best_301 : decode cX12_best 301 = .ok (.iload 9, 2) := by decide +kernel
theorem dX12_best_303 : decode cX12_best 303 = .ok (.iload 7, 2) := by decide +kernel
theorem dX12_best_305 : decode cX12_best 305 = .ok (.ishr, 1) := by decide +kernel
theorem dX12_best_306 : decode cX12_best 306 = .ok (.iconst 1, 1) := by decide +kernel
theorem dX12_best_307 : decode cX12_best 307 = .ok (.iand, 1) := by decide +kernel
theorem dX12_best_308 : decode cX12_best 308 = .ok (.ifCond .ne 16, 3) := by decide +kernel
theorem dX12_best_311 : decode cX12_best 311 = .ok (.aload_n 0, 1) := by decide +kernel
theorem dX12_best_312 : decode cX12_best 312 = .ok (.sipush 402, 3) := by decide +kernel
theorem dX12_best_315 : decode cX12_best 315 = .ok (.iload 9, 2) := by decide +kernel
theorem dX12_best_317 : decode cX12_best 317 = .ok (.iadd, 1) := by decide +kernel
theorem dX12_best_318 : decode cX12_best 318 = .ok (.sipush 1000, 3) := by decide +kernel
theorem dX12_best_321 : decode cX12_best 321 = .ok (.invokevirtual 336, 3) := by decide +kernel
theorem dX12_best_324 : decode cX12_best 324 = .ok (.iinc 9 1, 3) := by decide +kernel
theorem dX12_best_327 : decode cX12_best 327 = .ok (.goto (-33), 3) := by decide +kernel
theorem dX12_best_330 : decode cX12_best 330 = .ok (.iinc 7 1, 3) := by decide +kernel
theorem dX12_best_333 : decode cX12_best 333 = .ok (.goto (-149), 3) := by decide +kernel
theorem dX12_best_336 : decode cX12_best 336 = .ok (.iconst 0, 1) := by decide +kernel
theorem dX12_best_337 : decode cX12_best 337 = .ok (.istore 7, 2) := by decide +kernel
theorem dX12_best_339 : decode cX12_best 339 = .ok (.iconst 0, 1) := by decide +kernel
theorem dX12_best_340 : decode cX12_best 340 = .ok (.istore 8, 2) := by decide +kernel
theorem dX12_best_342 : decode cX12_best 342 = .ok (.iconst 1, 1) := by decide +kernel
theorem dX12_best_343 : decode cX12_best 343 = .ok (.istore 9, 2) := by decide +kernel
theorem dX12_best_345 : decode cX12_best 345 = .ok (.iload 9, 2) := by decide +kernel
theorem dX12_best_347 : decode cX12_best 347 = .ok (.iload 6, 2) := by decide +kernel
theorem dX12_best_349 : decode cX12_best 349 = .ok (.if_icmp .ge 98, 3) := by decide +kernel
theorem dX12_best_352 : decode cX12_best 352 = .ok (.aload_n 0, 1) := by decide +kernel
theorem dX12_best_353 : decode cX12_best 353 = .ok (.iload 9, 2) := by decide +kernel
theorem dX12_best_355 : decode cX12_best 355 = .ok (.iload 5, 2) := by decide +kernel
theorem dX12_best_357 : decode cX12_best 357 = .ok (.invokevirtual 387, 3) := by decide +kernel
theorem dX12_best_360 : decode cX12_best 360 = .ok (.istore 10, 2) := by decide +kernel
theorem dX12_best_362 : decode cX12_best 362 = .ok (.aload_n 0, 1) := by decide +kernel
theorem dX12_best_363 : decode cX12_best 363 = .ok (.iload 10, 2) := by decide +kernel
theorem dX12_best_365 : decode cX12_best 365 = .ok (.iconst 0, 1) := by decide +kernel
theorem dX12_best_366 : decode cX12_best 366 = .ok (.iconst 0, 1) := by decide +kernel
theorem dX12_best_367 : decode cX12_best 367 = .ok (.invokevirtual 304, 3) := by decide +kernel
theorem dX12_best_370 : decode cX12_best 370 = .ok (.istore 11, 2) := by decide +kernel
theorem dX12_best_372 : decode cX12_best 372 = .ok (.aload_n 0, 1) := by decide +kernel
theorem dX12_best_373 : decode cX12_best 373 = .ok (.sipush 402, 3) := by decide +kernel
theorem dX12_best_376 : decode cX12_best 376 = .ok (.iload 9, 2) := by decide +kernel
theorem dX12_best_378 : decode cX12_best 378 = .ok (.iadd, 1) := by decide +kernel
theorem dX12_best_379 : decode cX12_best 379 = .ok (.sipush 402, 3) := by decide +kernel
theorem dX12_best_382 : decode cX12_best 382 = .ok (.iload 7, 2) := by decide +kernel
theorem dX12_best_384 : decode cX12_best 384 = .ok (.iadd, 1) := by decide +kernel
theorem dX12_best_385 : decode cX12_best 385 = .ok (.invokevirtual 327, 3) := by decide +kernel
theorem dX12_best_388 : decode cX12_best 388 = .ok (.istore 12, 2) := by decide +kernel
theorem dX12_best_390 : decode cX12_best 390 = .ok (.iload 11, 2) := by decide +kernel
theorem dX12_best_392 : decode cX12_best 392 = .ok (.iload_n 2, 1) := by decide +kernel
theorem dX12_best_393 : decode cX12_best 393 = .ok (.if_icmp .gt 48, 3) := by decide +kernel
theorem dX12_best_396 : decode cX12_best 396 = .ok (.iload 12, 2) := by decide +kernel
theorem dX12_best_398 : decode cX12_best 398 = .ok (.ifCond .gt 35, 3) := by decide +kernel
theorem dX12_best_401 : decode cX12_best 401 = .ok (.iload 12, 2) := by decide +kernel
theorem dX12_best_403 : decode cX12_best 403 = .ok (.ifCond .ne 38, 3) := by decide +kernel
theorem dX12_best_406 : decode cX12_best 406 = .ok (.iload 11, 2) := by decide +kernel
theorem dX12_best_408 : decode cX12_best 408 = .ok (.iload 8, 2) := by decide +kernel
theorem dX12_best_410 : decode cX12_best 410 = .ok (.if_icmp .lt 23, 3) := by decide +kernel
theorem dX12_best_413 : decode cX12_best 413 = .ok (.iload 11, 2) := by decide +kernel
theorem dX12_best_415 : decode cX12_best 415 = .ok (.iload 8, 2) := by decide +kernel
theorem dX12_best_417 : decode cX12_best 417 = .ok (.if_icmp .ne 24, 3) := by decide +kernel
theorem dX12_best_420 : decode cX12_best 420 = .ok (.iload 10, 2) := by decide +kernel
theorem dX12_best_422 : decode cX12_best 422 = .ok (.aload_n 0, 1) := by decide +kernel
theorem dX12_best_423 : decode cX12_best 423 = .ok (.iload 7, 2) := by decide +kernel
theorem dX12_best_425 : decode cX12_best 425 = .ok (.iload 5, 2) := by decide +kernel
theorem dX12_best_427 : decode cX12_best 427 = .ok (.invokevirtual 387, 3) := by decide +kernel
theorem dX12_best_430 : decode cX12_best 430 = .ok (.if_icmp .ge 11, 3) := by decide +kernel
theorem dX12_best_433 : decode cX12_best 433 = .ok (.iload 9, 2) := by decide +kernel
theorem dX12_best_435 : decode cX12_best 435 = .ok (.istore 7, 2) := by decide +kernel
theorem dX12_best_437 : decode cX12_best 437 = .ok (.iload 11, 2) := by decide +kernel
theorem dX12_best_439 : decode cX12_best 439 = .ok (.istore 8, 2) := by decide +kernel
theorem dX12_best_441 : decode cX12_best 441 = .ok (.iinc 9 1, 3) := by decide +kernel
theorem dX12_best_444 : decode cX12_best 444 = .ok (.goto (-99), 3) := by decide +kernel
theorem dX12_best_447 : decode cX12_best 447 = .ok (.aload_n 0, 1) := by decide +kernel
theorem dX12_best_448 : decode cX12_best 448 = .ok (.sipush 4505, 3) := by decide +kernel
theorem dX12_best_451 : decode cX12_best 451 = .ok (.iload 5, 2) := by decide +kernel
theorem dX12_best_453 : decode cX12_best 453 = .ok (.invokevirtual 381, 3) := by decide +kernel
theorem dX12_best_456 : decode cX12_best 456 = .ok (.aload_n 0, 1) := by decide +kernel
theorem dX12_best_457 : decode cX12_best 457 = .ok (.sipush 4507, 3) := by decide +kernel
theorem dX12_best_460 : decode cX12_best 460 = .ok (.sipush 402, 3) := by decide +kernel
theorem dX12_best_463 : decode cX12_best 463 = .ok (.iload 7, 2) := by decide +kernel
theorem dX12_best_465 : decode cX12_best 465 = .ok (.iadd, 1) := by decide +kernel
theorem dX12_best_466 : decode cX12_best 466 = .ok (.invokevirtual 333, 3) := by decide +kernel
theorem dX12_best_469 : decode cX12_best 469 = .ok (.aload_n 0, 1) := by decide +kernel
theorem dX12_best_470 : decode cX12_best 470 = .ok (.sipush 4507, 3) := by decide +kernel
theorem dX12_best_473 : decode cX12_best 473 = .ok (.sipush 4505, 3) := by decide +kernel
theorem dX12_best_476 : decode cX12_best 476 = .ok (.invokevirtual 384, 3) := by decide +kernel
theorem dX12_best_479 : decode cX12_best 479 = .ok (.aload_n 0, 1) := by decide +kernel
theorem dX12_best_480 : decode cX12_best 480 = .ok (.iload 7, 2) := by decide +kernel
theorem dX12_best_482 : decode cX12_best 482 = .ok (.iload 5, 2) := by decide +kernel
theorem dX12_best_484 : decode cX12_best 484 = .ok (.invokevirtual 387, 3) := by decide +kernel
theorem dX12_best_487 : decode cX12_best 487 = .ok (.ireturn, 1) := by decide +kernel
theorem dX12_spread_0 : decode cX12_spread 0 = .ok (.iconst 0, 1) := by decide +kernel
theorem dX12_spread_1 : decode cX12_spread 1 = .ok (.istore_n 3, 1) := by decide +kernel
theorem dX12_spread_2 : decode cX12_spread 2 = .ok (.iconst 0, 1) := by decide +kernel
theorem dX12_spread_3 : decode cX12_spread 3 = .ok (.istore 4, 2) := by decide +kernel
theorem dX12_spread_5 : decode cX12_spread 5 = .ok (.iload 4, 2) := by decide +kernel
theorem dX12_spread_7 : decode cX12_spread 7 = .ok (.iload_n 2, 1) := by decide +kernel
theorem dX12_spread_8 : decode cX12_spread 8 = .ok (.if_icmp .ge 35, 3) := by decide +kernel
theorem dX12_spread_11 : decode cX12_spread 11 = .ok (.iload_n 3, 1) := by decide +kernel
theorem dX12_spread_12 : decode cX12_spread 12 = .ok (.iload_n 1, 1) := by decide +kernel
theorem dX12_spread_13 : decode cX12_spread 13 = .ok (.iload 4, 2) := by decide +kernel
theorem dX12_spread_15 : decode cX12_spread 15 = .ok (.ishr, 1) := by decide +kernel
theorem dX12_spread_16 : decode cX12_spread 16 = .ok (.iconst 1, 1) := by decide +kernel
theorem dX12_spread_17 : decode cX12_spread 17 = .ok (.iand, 1) := by decide +kernel
theorem dX12_spread_18 : decode cX12_spread 18 = .ok (.iconst 1, 1) := by decide +kernel
theorem dX12_spread_19 : decode cX12_spread 19 = .ok (.if_icmp .ne 15, 3) := by decide +kernel
theorem dX12_spread_22 : decode cX12_spread 22 = .ok (.iconst 1, 1) := by decide +kernel
theorem dX12_spread_23 : decode cX12_spread 23 = .ok (.aload_n 0, 1) := by decide +kernel
theorem dX12_spread_24 : decode cX12_spread 24 = .ok (.getfield 121, 3) := by decide +kernel
theorem dX12_spread_27 : decode cX12_spread 27 = .ok (.iload 4, 2) := by decide +kernel
theorem dX12_spread_29 : decode cX12_spread 29 = .ok (.iaload, 1) := by decide +kernel
theorem dX12_spread_30 : decode cX12_spread 30 = .ok (.ishl, 1) := by decide +kernel
theorem dX12_spread_31 : decode cX12_spread 31 = .ok (.goto 4, 3) := by decide +kernel
theorem dX12_spread_34 : decode cX12_spread 34 = .ok (.iconst 0, 1) := by decide +kernel
theorem dX12_spread_35 : decode cX12_spread 35 = .ok (.ior, 1) := by decide +kernel
theorem dX12_spread_36 : decode cX12_spread 36 = .ok (.istore_n 3, 1) := by decide +kernel
theorem dX12_spread_37 : decode cX12_spread 37 = .ok (.iinc 4 1, 3) := by decide +kernel
theorem dX12_spread_40 : decode cX12_spread 40 = .ok (.goto (-35), 3) := by decide +kernel
theorem dX12_spread_43 : decode cX12_spread 43 = .ok (.iload_n 3, 1) := by decide +kernel
theorem dX12_spread_44 : decode cX12_spread 44 = .ok (.ireturn, 1) := by decide +kernel
theorem dX12_guard_0 : decode cX12_guard 0 = .ok (.iload_n 1, 1) := by decide +kernel
theorem dX12_guard_1 : decode cX12_guard 1 = .ok (.invokestatic 279, 3) := by decide +kernel
theorem dX12_guard_4 : decode cX12_guard 4 = .ok (.ifCond .eq 14, 3) := by decide +kernel
theorem dX12_guard_7 : decode cX12_guard 7 = .ok (.iload_n 2, 1) := by decide +kernel
theorem dX12_guard_8 : decode cX12_guard 8 = .ok (.iconst 0, 1) := by decide +kernel
theorem dX12_guard_9 : decode cX12_guard 9 = .ok (.sipush 1000, 3) := by decide +kernel
theorem dX12_guard_12 : decode cX12_guard 12 = .ok (.invokestatic 179, 3) := by decide +kernel
theorem dX12_guard_15 : decode cX12_guard 15 = .ok (.ifCond .ne 6, 3) := by decide +kernel
theorem dX12_guard_18 : decode cX12_guard 18 = .ok (.bipush (-2), 2) := by decide +kernel
theorem dX12_guard_20 : decode cX12_guard 20 = .ok (.ireturn, 1) := by decide +kernel
theorem dX12_guard_21 : decode cX12_guard 21 = .ok (.aload_n 0, 1) := by decide +kernel
theorem dX12_guard_22 : decode cX12_guard 22 = .ok (.getfield 390, 3) := by decide +kernel
theorem dX12_guard_25 : decode cX12_guard 25 = .ok (.bipush 10, 2) := by decide +kernel
theorem dX12_guard_27 : decode cX12_guard 27 = .ok (.if_icmp .ne 6, 3) := by decide +kernel
theorem dX12_guard_30 : decode cX12_guard 30 = .ok (.bipush (-4), 2) := by decide +kernel
theorem dX12_guard_32 : decode cX12_guard 32 = .ok (.ireturn, 1) := by decide +kernel
theorem dX12_guard_33 : decode cX12_guard 33 = .ok (.aload_n 0, 1) := by decide +kernel
theorem dX12_guard_34 : decode cX12_guard 34 = .ok (.getfield 124, 3) := by decide +kernel
theorem dX12_guard_37 : decode cX12_guard 37 = .ok (.aload_n 0, 1) := by decide +kernel
theorem dX12_guard_38 : decode cX12_guard 38 = .ok (.getfield 390, 3) := by decide +kernel
theorem dX12_guard_41 : decode cX12_guard 41 = .ok (.iload_n 1, 1) := by decide +kernel
theorem dX12_guard_42 : decode cX12_guard 42 = .ok (.iastore, 1) := by decide +kernel
theorem dX12_guard_43 : decode cX12_guard 43 = .ok (.aload_n 0, 1) := by decide +kernel
theorem dX12_guard_44 : decode cX12_guard 44 = .ok (.getfield 127, 3) := by decide +kernel
theorem dX12_guard_47 : decode cX12_guard 47 = .ok (.aload_n 0, 1) := by decide +kernel
theorem dX12_guard_48 : decode cX12_guard 48 = .ok (.getfield 390, 3) := by decide +kernel
theorem dX12_guard_51 : decode cX12_guard 51 = .ok (.iload_n 2, 1) := by decide +kernel
theorem dX12_guard_52 : decode cX12_guard 52 = .ok (.iastore, 1) := by decide +kernel
theorem dX12_guard_53 : decode cX12_guard 53 = .ok (.aload_n 0, 1) := by decide +kernel
theorem dX12_guard_54 : decode cX12_guard 54 = .ok (.dup, 1) := by decide +kernel
theorem dX12_guard_55 : decode cX12_guard 55 = .ok (.getfield 390, 3) := by decide +kernel
theorem dX12_guard_58 : decode cX12_guard 58 = .ok (.iconst 1, 1) := by decide +kernel
theorem dX12_guard_59 : decode cX12_guard 59 = .ok (.iadd, 1) := by decide +kernel
theorem dX12_guard_60 : decode cX12_guard 60 = .ok (.putfield 390, 3) := by decide +kernel
theorem dX12_guard_63 : decode cX12_guard 63 = .ok (.aload_n 0, 1) := by decide +kernel
theorem dX12_guard_64 : decode cX12_guard 64 = .ok (.getfield 390, 3) := by decide +kernel
theorem dX12_guard_67 : decode cX12_guard 67 = .ok (.iconst 1, 1) := by decide +kernel
theorem dX12_guard_68 : decode cX12_guard 68 = .ok (.isub, 1) := by decide +kernel
theorem dX12_guard_69 : decode cX12_guard 69 = .ok (.ireturn, 1) := by decide +kernel
theorem dX12_stopped_0 : decode cX12_stopped 0 = .ok (.iconst 0, 1) := by decide +kernel
theorem dX12_stopped_1 : decode cX12_stopped 1 = .ok (.istore_n 2, 1) := by decide +kernel
theorem dX12_stopped_2 : decode cX12_stopped 2 = .ok (.iconst 0, 1) := by decide +kernel
theorem dX12_stopped_3 : decode cX12_stopped 3 = .ok (.istore_n 3, 1) := by decide +kernel
theorem dX12_stopped_4 : decode cX12_stopped 4 = .ok (.iload_n 3, 1) := by decide +kernel
theorem dX12_stopped_5 : decode cX12_stopped 5 = .ok (.aload_n 0, 1) := by decide +kernel
theorem dX12_stopped_6 : decode cX12_stopped 6 = .ok (.getfield 390, 3) := by decide +kernel
theorem dX12_stopped_9 : decode cX12_stopped 9 = .ok (.if_icmp .ge 31, 3) := by decide +kernel
theorem dX12_stopped_12 : decode cX12_stopped 12 = .ok (.iload_n 2, 1) := by decide +kernel
theorem dX12_stopped_13 : decode cX12_stopped 13 = .ok (.iload_n 1, 1) := by decide +kernel
theorem dX12_stopped_14 : decode cX12_stopped 14 = .ok (.iload_n 3, 1) := by decide +kernel
theorem dX12_stopped_15 : decode cX12_stopped 15 = .ok (.ishr, 1) := by decide +kernel
theorem dX12_stopped_16 : decode cX12_stopped 16 = .ok (.iconst 1, 1) := by decide +kernel
theorem dX12_stopped_17 : decode cX12_stopped 17 = .ok (.iand, 1) := by decide +kernel
theorem dX12_stopped_18 : decode cX12_stopped 18 = .ok (.iconst 1, 1) := by decide +kernel
theorem dX12_stopped_19 : decode cX12_stopped 19 = .ok (.if_icmp .ne 12, 3) := by decide +kernel
theorem dX12_stopped_22 : decode cX12_stopped 22 = .ok (.aload_n 0, 1) := by decide +kernel
theorem dX12_stopped_23 : decode cX12_stopped 23 = .ok (.getfield 124, 3) := by decide +kernel
theorem dX12_stopped_26 : decode cX12_stopped 26 = .ok (.iload_n 3, 1) := by decide +kernel
theorem dX12_stopped_27 : decode cX12_stopped 27 = .ok (.iaload, 1) := by decide +kernel
theorem dX12_stopped_28 : decode cX12_stopped 28 = .ok (.goto 4, 3) := by decide +kernel
theorem dX12_stopped_31 : decode cX12_stopped 31 = .ok (.iconst 0, 1) := by decide +kernel
theorem dX12_stopped_32 : decode cX12_stopped 32 = .ok (.ior, 1) := by decide +kernel
theorem dX12_stopped_33 : decode cX12_stopped 33 = .ok (.istore_n 2, 1) := by decide +kernel
theorem dX12_stopped_34 : decode cX12_stopped 34 = .ok (.iinc 3 1, 3) := by decide +kernel
theorem dX12_stopped_37 : decode cX12_stopped 37 = .ok (.goto (-33), 3) := by decide +kernel
theorem dX12_stopped_40 : decode cX12_stopped 40 = .ok (.iload_n 2, 1) := by decide +kernel
theorem dX12_stopped_41 : decode cX12_stopped 41 = .ok (.ireturn, 1) := by decide +kernel
theorem dX12_wages_0 : decode cX12_wages 0 = .ok (.iconst 0, 1) := by decide +kernel
theorem dX12_wages_1 : decode cX12_wages 1 = .ok (.istore_n 2, 1) := by decide +kernel
theorem dX12_wages_2 : decode cX12_wages 2 = .ok (.iconst 0, 1) := by decide +kernel
theorem dX12_wages_3 : decode cX12_wages 3 = .ok (.istore_n 3, 1) := by decide +kernel
theorem dX12_wages_4 : decode cX12_wages 4 = .ok (.iload_n 3, 1) := by decide +kernel
theorem dX12_wages_5 : decode cX12_wages 5 = .ok (.aload_n 0, 1) := by decide +kernel
theorem dX12_wages_6 : decode cX12_wages 6 = .ok (.getfield 390, 3) := by decide +kernel
theorem dX12_wages_9 : decode cX12_wages 9 = .ok (.if_icmp .ge 31, 3) := by decide +kernel
theorem dX12_wages_12 : decode cX12_wages 12 = .ok (.iload_n 2, 1) := by decide +kernel
theorem dX12_wages_13 : decode cX12_wages 13 = .ok (.iload_n 1, 1) := by decide +kernel
theorem dX12_wages_14 : decode cX12_wages 14 = .ok (.iload_n 3, 1) := by decide +kernel
theorem dX12_wages_15 : decode cX12_wages 15 = .ok (.ishr, 1) := by decide +kernel
theorem dX12_wages_16 : decode cX12_wages 16 = .ok (.iconst 1, 1) := by decide +kernel
theorem dX12_wages_17 : decode cX12_wages 17 = .ok (.iand, 1) := by decide +kernel
theorem dX12_wages_18 : decode cX12_wages 18 = .ok (.iconst 1, 1) := by decide +kernel
theorem dX12_wages_19 : decode cX12_wages 19 = .ok (.if_icmp .ne 12, 3) := by decide +kernel
theorem dX12_wages_22 : decode cX12_wages 22 = .ok (.aload_n 0, 1) := by decide +kernel
theorem dX12_wages_23 : decode cX12_wages 23 = .ok (.getfield 127, 3) := by decide +kernel
theorem dX12_wages_26 : decode cX12_wages 26 = .ok (.iload_n 3, 1) := by decide +kernel
theorem dX12_wages_27 : decode cX12_wages 27 = .ok (.iaload, 1) := by decide +kernel
theorem dX12_wages_28 : decode cX12_wages 28 = .ok (.goto 4, 3) := by decide +kernel
theorem dX12_wages_31 : decode cX12_wages 31 = .ok (.iconst 0, 1) := by decide +kernel
theorem dX12_wages_32 : decode cX12_wages 32 = .ok (.iadd, 1) := by decide +kernel
theorem dX12_wages_33 : decode cX12_wages 33 = .ok (.istore_n 2, 1) := by decide +kernel
theorem dX12_wages_34 : decode cX12_wages 34 = .ok (.iinc 3 1, 3) := by decide +kernel
theorem dX12_wages_37 : decode cX12_wages 37 = .ok (.goto (-33), 3) := by decide +kernel
theorem dX12_wages_40 : decode cX12_wages 40 = .ok (.iload_n 2, 1) := by decide +kernel
theorem dX12_wages_41 : decode cX12_wages 41 = .ok (.ireturn, 1) := by decide +kernel
theorem dX12_isHeld_0 : decode cX12_isHeld 0 = .ok (.aload_n 0, 1) := by decide +kernel
theorem dX12_isHeld_1 : decode cX12_isHeld 1 = .ok (.iload_n 1, 1) := by decide +kernel
theorem dX12_isHeld_2 : decode cX12_isHeld 2 = .ok (.ldc_w 278, 3) := by decide +kernel
theorem dX12_isHeld_5 : decode cX12_isHeld 5 = .ok (.aload_n 0, 1) := by decide +kernel
theorem dX12_isHeld_6 : decode cX12_isHeld 6 = .ok (.iload_n 2, 1) := by decide +kernel
theorem dX12_isHeld_7 : decode cX12_isHeld 7 = .ok (.invokevirtual 393, 3) := by decide +kernel
theorem dX12_isHeld_10 : decode cX12_isHeld 10 = .ok (.iconst (-1), 1) := by decide +kernel
theorem dX12_isHeld_11 : decode cX12_isHeld 11 = .ok (.ixor, 1) := by decide +kernel
theorem dX12_isHeld_12 : decode cX12_isHeld 12 = .ok (.iand, 1) := by decide +kernel
theorem dX12_isHeld_13 : decode cX12_isHeld 13 = .ok (.invokevirtual 282, 3) := by decide +kernel
theorem dX12_isHeld_16 : decode cX12_isHeld 16 = .ok (.ifCond .ne 7, 3) := by decide +kernel
theorem dX12_isHeld_19 : decode cX12_isHeld 19 = .ok (.iconst 1, 1) := by decide +kernel
theorem dX12_isHeld_20 : decode cX12_isHeld 20 = .ok (.goto 4, 3) := by decide +kernel
theorem dX12_isHeld_23 : decode cX12_isHeld 23 = .ok (.iconst 0, 1) := by decide +kernel
theorem dX12_isHeld_24 : decode cX12_isHeld 24 = .ok (.ireturn, 1) := by decide +kernel
theorem dX12_holds_0 : decode cX12_holds 0 = .ok (.aload_n 0, 1) := by decide +kernel
theorem dX12_holds_1 : decode cX12_holds 1 = .ok (.iload_n 1, 1) := by decide +kernel
theorem dX12_holds_2 : decode cX12_holds 2 = .ok (.iload_n 2, 1) := by decide +kernel
theorem dX12_holds_3 : decode cX12_holds 3 = .ok (.iconst 0, 1) := by decide +kernel
theorem dX12_holds_4 : decode cX12_holds 4 = .ok (.iconst 1, 1) := by decide +kernel
theorem dX12_holds_5 : decode cX12_holds 5 = .ok (.aload_n 0, 1) := by decide +kernel
theorem dX12_holds_6 : decode cX12_holds 6 = .ok (.getfield 390, 3) := by decide +kernel
theorem dX12_holds_9 : decode cX12_holds 9 = .ok (.ishl, 1) := by decide +kernel
theorem dX12_holds_10 : decode cX12_holds 10 = .ok (.iconst 1, 1) := by decide +kernel
theorem dX12_holds_11 : decode cX12_holds 11 = .ok (.isub, 1) := by decide +kernel
theorem dX12_holds_12 : decode cX12_holds 12 = .ok (.invokestatic 179, 3) := by decide +kernel
theorem dX12_holds_15 : decode cX12_holds 15 = .ok (.invokevirtual 271, 3) := by decide +kernel
theorem dX12_holds_18 : decode cX12_holds 18 = .ok (.istore_n 3, 1) := by decide +kernel
theorem dX12_holds_19 : decode cX12_holds 19 = .ok (.iload_n 3, 1) := by decide +kernel
theorem dX12_holds_20 : decode cX12_holds 20 = .ok (.iconst 1, 1) := by decide +kernel
theorem dX12_holds_21 : decode cX12_holds 21 = .ok (.if_icmp .eq 7, 3) := by decide +kernel
theorem dX12_holds_24 : decode cX12_holds 24 = .ok (.iload_n 3, 1) := by decide +kernel
theorem dX12_holds_25 : decode cX12_holds 25 = .ok (.goto 22, 3) := by decide +kernel
theorem dX12_holds_28 : decode cX12_holds 28 = .ok (.aload_n 0, 1) := by decide +kernel
theorem dX12_holds_29 : decode cX12_holds 29 = .ok (.aload_n 0, 1) := by decide +kernel
theorem dX12_holds_30 : decode cX12_holds 30 = .ok (.getfield 49, 3) := by decide +kernel
theorem dX12_holds_33 : decode cX12_holds 33 = .ok (.iload_n 1, 1) := by decide +kernel
theorem dX12_holds_34 : decode cX12_holds 34 = .ok (.iaload, 1) := by decide +kernel
theorem dX12_holds_35 : decode cX12_holds 35 = .ok (.iload_n 2, 1) := by decide +kernel
theorem dX12_holds_36 : decode cX12_holds 36 = .ok (.invokevirtual 396, 3) := by decide +kernel
theorem dX12_holds_39 : decode cX12_holds 39 = .ok (.ifCond .eq 7, 3) := by decide +kernel
theorem dX12_holds_42 : decode cX12_holds 42 = .ok (.iconst 1, 1) := by decide +kernel
theorem dX12_holds_43 : decode cX12_holds 43 = .ok (.goto 4, 3) := by decide +kernel
theorem dX12_holds_46 : decode cX12_holds 46 = .ok (.iconst 0, 1) := by decide +kernel
theorem dX12_holds_47 : decode cX12_holds 47 = .ok (.ireturn, 1) := by decide +kernel
theorem dX12_leastGuards_0 : decode cX12_leastGuards 0 = .ok (.aload_n 0, 1) := by decide +kernel
theorem dX12_leastGuards_1 : decode cX12_leastGuards 1 = .ok (.iload_n 1, 1) := by decide +kernel
theorem dX12_leastGuards_2 : decode cX12_leastGuards 2 = .ok (.iconst 1, 1) := by decide +kernel
theorem dX12_leastGuards_3 : decode cX12_leastGuards 3 = .ok (.invokevirtual 271, 3) := by decide +kernel
theorem dX12_leastGuards_6 : decode cX12_leastGuards 6 = .ok (.istore_n 2, 1) := by decide +kernel
theorem dX12_leastGuards_7 : decode cX12_leastGuards 7 = .ok (.iload_n 2, 1) := by decide +kernel
theorem dX12_leastGuards_8 : decode cX12_leastGuards 8 = .ok (.iconst 1, 1) := by decide +kernel
theorem dX12_leastGuards_9 : decode cX12_leastGuards 9 = .ok (.if_icmp .eq 5, 3) := by decide +kernel
theorem dX12_leastGuards_12 : decode cX12_leastGuards 12 = .ok (.iload_n 2, 1) := by decide +kernel
theorem dX12_leastGuards_13 : decode cX12_leastGuards 13 = .ok (.ireturn, 1) := by decide +kernel
theorem dX12_leastGuards_14 : decode cX12_leastGuards 14 = .ok (.iconst (-1), 1) := by decide +kernel
theorem dX12_leastGuards_15 : decode cX12_leastGuards 15 = .ok (.istore_n 3, 1) := by decide +kernel
theorem dX12_leastGuards_16 : decode cX12_leastGuards 16 = .ok (.iconst 0, 1) := by decide +kernel
theorem dX12_leastGuards_17 : decode cX12_leastGuards 17 = .ok (.istore 4, 2) := by decide +kernel
theorem dX12_leastGuards_19 : decode cX12_leastGuards 19 = .ok (.iload 4, 2) := by decide +kernel
theorem dX12_leastGuards_21 : decode cX12_leastGuards 21 = .ok (.iconst 1, 1) := by decide +kernel
theorem dX12_leastGuards_22 : decode cX12_leastGuards 22 = .ok (.aload_n 0, 1) := by decide +kernel
theorem dX12_leastGuards_23 : decode cX12_leastGuards 23 = .ok (.getfield 390, 3) := by decide +kernel
theorem dX12_leastGuards_26 : decode cX12_leastGuards 26 = .ok (.ishl, 1) := by decide +kernel
theorem dX12_leastGuards_27 : decode cX12_leastGuards 27 = .ok (.if_icmp .ge 72, 3) := by decide +kernel
theorem dX12_leastGuards_30 : decode cX12_leastGuards 30 = .ok (.aload_n 0, 1) := by decide +kernel
theorem dX12_leastGuards_31 : decode cX12_leastGuards 31 = .ok (.aload_n 0, 1) := by decide +kernel
theorem dX12_leastGuards_32 : decode cX12_leastGuards 32 = .ok (.getfield 49, 3) := by decide +kernel
theorem dX12_leastGuards_35 : decode cX12_leastGuards 35 = .ok (.iload_n 1, 1) := by decide +kernel
theorem dX12_leastGuards_36 : decode cX12_leastGuards 36 = .ok (.iaload, 1) := by decide +kernel
theorem dX12_leastGuards_37 : decode cX12_leastGuards 37 = .ok (.iload 4, 2) := by decide +kernel
theorem dX12_leastGuards_39 : decode cX12_leastGuards 39 = .ok (.invokevirtual 396, 3) := by decide +kernel
theorem dX12_leastGuards_42 : decode cX12_leastGuards 42 = .ok (.ifCond .eq 51, 3) := by decide +kernel
theorem dX12_leastGuards_45 : decode cX12_leastGuards 45 = .ok (.iload_n 3, 1) := by decide +kernel
theorem dX12_leastGuards_46 : decode cX12_leastGuards 46 = .ok (.iconst (-1), 1) := by decide +kernel
theorem dX12_leastGuards_47 : decode cX12_leastGuards 47 = .ok (.if_icmp .eq 43, 3) := by decide +kernel
theorem dX12_leastGuards_50 : decode cX12_leastGuards 50 = .ok (.aload_n 0, 1) := by decide +kernel
theorem dX12_leastGuards_51 : decode cX12_leastGuards 51 = .ok (.iload 4, 2) := by decide +kernel
theorem dX12_leastGuards_53 : decode cX12_leastGuards 53 = .ok (.invokevirtual 399, 3) := by decide +kernel
theorem dX12_leastGuards_56 : decode cX12_leastGuards 56 = .ok (.aload_n 0, 1) := by decide +kernel
theorem dX12_leastGuards_57 : decode cX12_leastGuards 57 = .ok (.iload_n 3, 1) := by decide +kernel
theorem dX12_leastGuards_58 : decode cX12_leastGuards 58 = .ok (.invokevirtual 399, 3) := by decide +kernel
theorem dX12_leastGuards_61 : decode cX12_leastGuards 61 = .ok (.if_icmp .lt 29, 3) := by decide +kernel
theorem dX12_leastGuards_64 : decode cX12_leastGuards 64 = .ok (.aload_n 0, 1) := by decide +kernel
theorem dX12_leastGuards_65 : decode cX12_leastGuards 65 = .ok (.iload 4, 2) := by decide +kernel
theorem dX12_leastGuards_67 : decode cX12_leastGuards 67 = .ok (.invokevirtual 399, 3) := by decide +kernel
theorem dX12_leastGuards_70 : decode cX12_leastGuards 70 = .ok (.aload_n 0, 1) := by decide +kernel
theorem dX12_leastGuards_71 : decode cX12_leastGuards 71 = .ok (.iload_n 3, 1) := by decide +kernel
theorem dX12_leastGuards_72 : decode cX12_leastGuards 72 = .ok (.invokevirtual 399, 3) := by decide +kernel
theorem dX12_leastGuards_75 : decode cX12_leastGuards 75 = .ok (.if_icmp .ne 18, 3) := by decide +kernel
theorem dX12_leastGuards_78 : decode cX12_leastGuards 78 = .ok (.iload 4, 2) := by decide +kernel
theorem dX12_leastGuards_80 : decode cX12_leastGuards 80 = .ok (.invokestatic 295, 3) := by decide +kernel
theorem dX12_leastGuards_83 : decode cX12_leastGuards 83 = .ok (.iload_n 3, 1) := by decide +kernel
theorem dX12_leastGuards_84 : decode cX12_leastGuards 84 = .ok (.invokestatic 295, 3) := by decide +kernel
theorem dX12_leastGuards_87 : decode cX12_leastGuards 87 = .ok (.if_icmp .ge 6, 3) := by decide +kernel
theorem dX12_leastGuards_90 : decode cX12_leastGuards 90 = .ok (.iload 4, 2) := by decide +kernel
theorem dX12_leastGuards_92 : decode cX12_leastGuards 92 = .ok (.istore_n 3, 1) := by decide +kernel
theorem dX12_leastGuards_93 : decode cX12_leastGuards 93 = .ok (.iinc 4 1, 3) := by decide +kernel
theorem dX12_leastGuards_96 : decode cX12_leastGuards 96 = .ok (.goto (-77), 3) := by decide +kernel
theorem dX12_leastGuards_99 : decode cX12_leastGuards 99 = .ok (.iload_n 3, 1) := by decide +kernel
theorem dX12_leastGuards_100 : decode cX12_leastGuards 100 = .ok (.ireturn, 1) := by decide +kernel
theorem dX12_findFront_0 : decode cX12_findFront 0 = .ok (.iconst 1, 1) := by decide +kernel
theorem dX12_findFront_1 : decode cX12_findFront 1 = .ok (.aload_n 0, 1) := by decide +kernel
theorem dX12_findFront_2 : decode cX12_findFront 2 = .ok (.getfield 390, 3) := by decide +kernel
theorem dX12_findFront_5 : decode cX12_findFront 5 = .ok (.ishl, 1) := by decide +kernel
theorem dX12_findFront_6 : decode cX12_findFront 6 = .ok (.istore_n 1, 1) := by decide +kernel
theorem dX12_findFront_7 : decode cX12_findFront 7 = .ok (.iconst 0, 1) := by decide +kernel
theorem dX12_findFront_8 : decode cX12_findFront 8 = .ok (.istore_n 2, 1) := by decide +kernel
theorem dX12_findFront_9 : decode cX12_findFront 9 = .ok (.iload_n 2, 1) := by decide +kernel
theorem dX12_findFront_10 : decode cX12_findFront 10 = .ok (.iload_n 1, 1) := by decide +kernel
theorem dX12_findFront_11 : decode cX12_findFront 11 = .ok (.if_icmp .ge 27, 3) := by decide +kernel
theorem dX12_findFront_14 : decode cX12_findFront 14 = .ok (.aload_n 0, 1) := by decide +kernel
theorem dX12_findFront_15 : decode cX12_findFront 15 = .ok (.aload_n 0, 1) := by decide +kernel
theorem dX12_findFront_16 : decode cX12_findFront 16 = .ok (.iload_n 2, 1) := by decide +kernel
theorem dX12_findFront_17 : decode cX12_findFront 17 = .ok (.invokevirtual 393, 3) := by decide +kernel
theorem dX12_findFront_20 : decode cX12_findFront 20 = .ok (.invokevirtual 375, 3) := by decide +kernel
theorem dX12_findFront_23 : decode cX12_findFront 23 = .ok (.aload_n 0, 1) := by decide +kernel
theorem dX12_findFront_24 : decode cX12_findFront 24 = .ok (.sipush 402, 3) := by decide +kernel
theorem dX12_findFront_27 : decode cX12_findFront 27 = .ok (.iload_n 2, 1) := by decide +kernel
theorem dX12_findFront_28 : decode cX12_findFront 28 = .ok (.iadd, 1) := by decide +kernel
theorem dX12_findFront_29 : decode cX12_findFront 29 = .ok (.invokevirtual 378, 3) := by decide +kernel
theorem dX12_findFront_32 : decode cX12_findFront 32 = .ok (.iinc 2 1, 3) := by decide +kernel
theorem dX12_findFront_35 : decode cX12_findFront 35 = .ok (.goto (-26), 3) := by decide +kernel
theorem dX12_findFront_38 : decode cX12_findFront 38 = .ok (.aload_n 0, 1) := by decide +kernel
theorem dX12_findFront_39 : decode cX12_findFront 39 = .ok (.iconst 0, 1) := by decide +kernel
theorem dX12_findFront_40 : decode cX12_findFront 40 = .ok (.putfield 402, 3) := by decide +kernel
theorem dX12_findFront_43 : decode cX12_findFront 43 = .ok (.iconst (-1), 1) := by decide +kernel
theorem dX12_findFront_44 : decode cX12_findFront 44 = .ok (.istore_n 2, 1) := by decide +kernel
theorem dX12_findFront_45 : decode cX12_findFront 45 = .ok (.iconst 1, 1) := by decide +kernel
theorem dX12_findFront_46 : decode cX12_findFront 46 = .ok (.istore_n 3, 1) := by decide +kernel
theorem dX12_findFront_47 : decode cX12_findFront 47 = .ok (.iload_n 3, 1) := by decide +kernel
theorem dX12_findFront_48 : decode cX12_findFront 48 = .ok (.ifCond .eq 150, 3) := by decide +kernel
theorem dX12_findFront_51 : decode cX12_findFront 51 = .ok (.iconst (-1), 1) := by decide +kernel
theorem dX12_findFront_52 : decode cX12_findFront 52 = .ok (.istore 4, 2) := by decide +kernel
theorem dX12_findFront_54 : decode cX12_findFront 54 = .ok (.iconst 0, 1) := by decide +kernel
theorem dX12_findFront_55 : decode cX12_findFront 55 = .ok (.istore 5, 2) := by decide +kernel
theorem dX12_findFront_57 : decode cX12_findFront 57 = .ok (.iload 5, 2) := by decide +kernel
theorem dX12_findFront_59 : decode cX12_findFront 59 = .ok (.iload_n 1, 1) := by decide +kernel
theorem dX12_findFront_60 : decode cX12_findFront 60 = .ok (.if_icmp .ge 95, 3) := by decide +kernel
theorem dX12_findFront_63 : decode cX12_findFront 63 = .ok (.iload_n 2, 1) := by decide +kernel
theorem dX12_findFront_64 : decode cX12_findFront 64 = .ok (.iconst (-1), 1) := by decide +kernel
theorem dX12_findFront_65 : decode cX12_findFront 65 = .ok (.if_icmp .eq 21, 3) := by decide +kernel
theorem dX12_findFront_68 : decode cX12_findFront 68 = .ok (.aload_n 0, 1) := by decide +kernel
theorem dX12_findFront_69 : decode cX12_findFront 69 = .ok (.sipush 402, 3) := by decide +kernel
theorem dX12_findFront_72 : decode cX12_findFront 72 = .ok (.iload 5, 2) := by decide +kernel
theorem dX12_findFront_74 : decode cX12_findFront 74 = .ok (.iadd, 1) := by decide +kernel
theorem dX12_findFront_75 : decode cX12_findFront 75 = .ok (.sipush 402, 3) := by decide +kernel
theorem dX12_findFront_78 : decode cX12_findFront 78 = .ok (.iload_n 2, 1) := by decide +kernel
theorem dX12_findFront_79 : decode cX12_findFront 79 = .ok (.iadd, 1) := by decide +kernel
theorem dX12_findFront_80 : decode cX12_findFront 80 = .ok (.invokevirtual 327, 3) := by decide +kernel
theorem dX12_findFront_83 : decode cX12_findFront 83 = .ok (.ifCond .ge 66, 3) := by decide +kernel
theorem dX12_findFront_86 : decode cX12_findFront 86 = .ok (.iload 4, 2) := by decide +kernel
theorem dX12_findFront_88 : decode cX12_findFront 88 = .ok (.iconst (-1), 1) := by decide +kernel
theorem dX12_findFront_89 : decode cX12_findFront 89 = .ok (.if_icmp .ne 7, 3) := by decide +kernel
theorem dX12_findFront_92 : decode cX12_findFront 92 = .ok (.iconst (-1), 1) := by decide +kernel
theorem dX12_findFront_93 : decode cX12_findFront 93 = .ok (.goto 16, 3) := by decide +kernel
theorem dX12_findFront_96 : decode cX12_findFront 96 = .ok (.aload_n 0, 1) := by decide +kernel
theorem dX12_findFront_97 : decode cX12_findFront 97 = .ok (.iload 5, 2) := by decide +kernel
theorem dX12_findFront_99 : decode cX12_findFront 99 = .ok (.invokevirtual 399, 3) := by decide +kernel
theorem dX12_findFront_102 : decode cX12_findFront 102 = .ok (.aload_n 0, 1) := by decide +kernel
theorem dX12_findFront_103 : decode cX12_findFront 103 = .ok (.iload 4, 2) := by decide +kernel
theorem dX12_findFront_105 : decode cX12_findFront 105 = .ok (.invokevirtual 399, 3) := by decide +kernel
theorem dX12_findFront_108 : decode cX12_findFront 108 = .ok (.isub, 1) := by decide +kernel
theorem dX12_findFront_109 : decode cX12_findFront 109 = .ok (.istore 6, 2) := by decide +kernel
theorem dX12_findFront_111 : decode cX12_findFront 111 = .ok (.iload 6, 2) := by decide +kernel
theorem dX12_findFront_113 : decode cX12_findFront 113 = .ok (.ifCond .lt 27, 3) := by decide +kernel
theorem dX12_findFront_116 : decode cX12_findFront 116 = .ok (.iload 6, 2) := by decide +kernel
theorem dX12_findFront_118 : decode cX12_findFront 118 = .ok (.ifCond .ne 27, 3) := by decide +kernel
theorem dX12_findFront_121 : decode cX12_findFront 121 = .ok (.aload_n 0, 1) := by decide +kernel
theorem dX12_findFront_122 : decode cX12_findFront 122 = .ok (.sipush 402, 3) := by decide +kernel
theorem dX12_findFront_125 : decode cX12_findFront 125 = .ok (.iload 5, 2) := by decide +kernel
theorem dX12_findFront_127 : decode cX12_findFront 127 = .ok (.iadd, 1) := by decide +kernel
theorem dX12_findFront_128 : decode cX12_findFront 128 = .ok (.sipush 402, 3) := by decide +kernel
theorem dX12_findFront_131 : decode cX12_findFront 131 = .ok (.iload 4, 2) := by decide +kernel
theorem dX12_findFront_133 : decode cX12_findFront 133 = .ok (.iadd, 1) := by decide +kernel
theorem dX12_findFront_134 : decode cX12_findFront 134 = .ok (.invokevirtual 327, 3) := by decide +kernel
theorem dX12_findFront_137 : decode cX12_findFront 137 = .ok (.ifCond .ge 8, 3) := by decide +kernel
theorem dX12_findFront_140 : decode cX12_findFront 140 = .ok (.iload 5, 2) := by decide +kernel
theorem dX12_findFront_142 : decode cX12_findFront 142 = .ok (.goto 5, 3) := by decide +kernel
theorem dX12_findFront_145 : decode cX12_findFront 145 = .ok (.iload 4, 2) := by decide +kernel
theorem dX12_findFront_147 : decode cX12_findFront 147 = .ok (.istore 4, 2) := by decide +kernel
theorem dX12_findFront_149 : decode cX12_findFront 149 = .ok (.iinc 5 1, 3) := by decide +kernel
theorem dX12_findFront_152 : decode cX12_findFront 152 = .ok (.goto (-95), 3) := by decide +kernel
theorem dX12_findFront_155 : decode cX12_findFront 155 = .ok (.iload 4, 2) := by decide +kernel
theorem dX12_findFront_157 : decode cX12_findFront 157 = .ok (.iconst (-1), 1) := by decide +kernel
theorem dX12_findFront_158 : decode cX12_findFront 158 = .ok (.if_icmp .eq 7, 3) := by decide +kernel
theorem dX12_findFront_161 : decode cX12_findFront 161 = .ok (.iconst 1, 1) := by decide +kernel
theorem dX12_findFront_162 : decode cX12_findFront 162 = .ok (.goto 4, 3) := by decide +kernel
theorem dX12_findFront_165 : decode cX12_findFront 165 = .ok (.iconst 0, 1) := by decide +kernel
theorem dX12_findFront_166 : decode cX12_findFront 166 = .ok (.istore_n 3, 1) := by decide +kernel
theorem dX12_findFront_167 : decode cX12_findFront 167 = .ok (.iload_n 3, 1) := by decide +kernel
theorem dX12_findFront_168 : decode cX12_findFront 168 = .ok (.ifCond .eq 27, 3) := by decide +kernel
theorem dX12_findFront_171 : decode cX12_findFront 171 = .ok (.aload_n 0, 1) := by decide +kernel
theorem dX12_findFront_172 : decode cX12_findFront 172 = .ok (.getfield 130, 3) := by decide +kernel
theorem dX12_findFront_175 : decode cX12_findFront 175 = .ok (.aload_n 0, 1) := by decide +kernel
theorem dX12_findFront_176 : decode cX12_findFront 176 = .ok (.getfield 402, 3) := by decide +kernel
theorem dX12_findFront_179 : decode cX12_findFront 179 = .ok (.iload 4, 2) := by decide +kernel
theorem dX12_findFront_181 : decode cX12_findFront 181 = .ok (.iastore, 1) := by decide +kernel
theorem dX12_findFront_182 : decode cX12_findFront 182 = .ok (.aload_n 0, 1) := by decide +kernel
theorem dX12_findFront_183 : decode cX12_findFront 183 = .ok (.dup, 1) := by decide +kernel
theorem dX12_findFront_184 : decode cX12_findFront 184 = .ok (.getfield 402, 3) := by decide +kernel
theorem dX12_findFront_187 : decode cX12_findFront 187 = .ok (.iconst 1, 1) := by decide +kernel
theorem dX12_findFront_188 : decode cX12_findFront 188 = .ok (.iadd, 1) := by decide +kernel
theorem dX12_findFront_189 : decode cX12_findFront 189 = .ok (.putfield 402, 3) := by decide +kernel
theorem dX12_findFront_192 : decode cX12_findFront 192 = .ok (.iload 4, 2) := by decide +kernel
theorem dX12_findFront_194 : decode cX12_findFront 194 = .ok (.istore_n 2, 1) := by decide +kernel
theorem dX12_findFront_195 : decode cX12_findFront 195 = .ok (.goto (-148), 3) := by decide +kernel
theorem dX12_findFront_198 : decode cX12_findFront 198 = .ok (.return_, 1) := by decide +kernel
theorem dX12_front_0 : decode cX12_front 0 = .ok (.aload_n 0, 1) := by decide +kernel
theorem dX12_front_1 : decode cX12_front 1 = .ok (.iload_n 1, 1) := by decide +kernel
theorem dX12_front_2 : decode cX12_front 2 = .ok (.iconst 1, 1) := by decide +kernel
theorem dX12_front_3 : decode cX12_front 3 = .ok (.invokevirtual 372, 3) := by decide +kernel
theorem dX12_front_6 : decode cX12_front 6 = .ok (.istore_n 2, 1) := by decide +kernel
theorem dX12_front_7 : decode cX12_front 7 = .ok (.iload_n 2, 1) := by decide +kernel
theorem dX12_front_8 : decode cX12_front 8 = .ok (.iconst 1, 1) := by decide +kernel
theorem dX12_front_9 : decode cX12_front 9 = .ok (.if_icmp .eq 5, 3) := by decide +kernel
theorem dX12_front_12 : decode cX12_front 12 = .ok (.iload_n 2, 1) := by decide +kernel
theorem dX12_front_13 : decode cX12_front 13 = .ok (.ireturn, 1) := by decide +kernel
theorem dX12_front_14 : decode cX12_front 14 = .ok (.aload_n 0, 1) := by decide +kernel
theorem dX12_front_15 : decode cX12_front 15 = .ok (.invokevirtual 405, 3) := by decide +kernel
theorem dX12_front_18 : decode cX12_front 18 = .ok (.aload_n 0, 1) := by decide +kernel
theorem dX12_front_19 : decode cX12_front 19 = .ok (.getfield 402, 3) := by decide +kernel
theorem dX12_front_22 : decode cX12_front 22 = .ok (.ireturn, 1) := by decide +kernel
theorem dX12_frontAt_0 : decode cX12_frontAt 0 = .ok (.aload_n 0, 1) := by decide +kernel
theorem dX12_frontAt_1 : decode cX12_frontAt 1 = .ok (.iload_n 1, 1) := by decide +kernel
theorem dX12_frontAt_2 : decode cX12_frontAt 2 = .ok (.iload_n 2, 1) := by decide +kernel
theorem dX12_frontAt_3 : decode cX12_frontAt 3 = .ok (.ifCond .lt 16, 3) := by decide +kernel
theorem dX12_frontAt_6 : decode cX12_frontAt 6 = .ok (.iload_n 3, 1) := by decide +kernel
theorem dX12_frontAt_7 : decode cX12_frontAt 7 = .ok (.iconst 0, 1) := by decide +kernel
theorem dX12_frontAt_8 : decode cX12_frontAt 8 = .ok (.iconst 1, 1) := by decide +kernel
theorem dX12_frontAt_9 : decode cX12_frontAt 9 = .ok (.invokestatic 179, 3) := by decide +kernel
theorem dX12_frontAt_12 : decode cX12_frontAt 12 = .ok (.ifCond .eq 7, 3) := by decide +kernel
theorem dX12_frontAt_15 : decode cX12_frontAt 15 = .ok (.iconst 1, 1) := by decide +kernel
theorem dX12_frontAt_16 : decode cX12_frontAt 16 = .ok (.goto 4, 3) := by decide +kernel
theorem dX12_frontAt_19 : decode cX12_frontAt 19 = .ok (.iconst 0, 1) := by decide +kernel
theorem dX12_frontAt_20 : decode cX12_frontAt 20 = .ok (.invokevirtual 372, 3) := by decide +kernel
theorem dX12_frontAt_23 : decode cX12_frontAt 23 = .ok (.istore 4, 2) := by decide +kernel
theorem dX12_frontAt_25 : decode cX12_frontAt 25 = .ok (.iload 4, 2) := by decide +kernel
theorem dX12_frontAt_27 : decode cX12_frontAt 27 = .ok (.iconst 1, 1) := by decide +kernel
theorem dX12_frontAt_28 : decode cX12_frontAt 28 = .ok (.if_icmp .eq 6, 3) := by decide +kernel
theorem dX12_frontAt_31 : decode cX12_frontAt 31 = .ok (.iload 4, 2) := by decide +kernel
theorem dX12_frontAt_33 : decode cX12_frontAt 33 = .ok (.ireturn, 1) := by decide +kernel
theorem dX12_frontAt_34 : decode cX12_frontAt 34 = .ok (.aload_n 0, 1) := by decide +kernel
theorem dX12_frontAt_35 : decode cX12_frontAt 35 = .ok (.invokevirtual 405, 3) := by decide +kernel
theorem dX12_frontAt_38 : decode cX12_frontAt 38 = .ok (.iload_n 2, 1) := by decide +kernel
theorem dX12_frontAt_39 : decode cX12_frontAt 39 = .ok (.aload_n 0, 1) := by decide +kernel
theorem dX12_frontAt_40 : decode cX12_frontAt 40 = .ok (.getfield 402, 3) := by decide +kernel
theorem dX12_frontAt_43 : decode cX12_frontAt 43 = .ok (.if_icmp .lt 5, 3) := by decide +kernel
theorem dX12_frontAt_46 : decode cX12_frontAt 46 = .ok (.iconst (-1), 1) := by decide +kernel
theorem dX12_frontAt_47 : decode cX12_frontAt 47 = .ok (.ireturn, 1) := by decide +kernel
theorem dX12_frontAt_48 : decode cX12_frontAt 48 = .ok (.aload_n 0, 1) := by decide +kernel
theorem dX12_frontAt_49 : decode cX12_frontAt 49 = .ok (.sipush 4505, 3) := by decide +kernel
theorem dX12_frontAt_52 : decode cX12_frontAt 52 = .ok (.bipush 16, 2) := by decide +kernel
theorem dX12_frontAt_54 : decode cX12_frontAt 54 = .ok (.invokevirtual 381, 3) := by decide +kernel
theorem dX12_frontAt_57 : decode cX12_frontAt 57 = .ok (.aload_n 0, 1) := by decide +kernel
theorem dX12_frontAt_58 : decode cX12_frontAt 58 = .ok (.sipush 4507, 3) := by decide +kernel
theorem dX12_frontAt_61 : decode cX12_frontAt 61 = .ok (.sipush 402, 3) := by decide +kernel
theorem dX12_frontAt_64 : decode cX12_frontAt 64 = .ok (.aload_n 0, 1) := by decide +kernel
theorem dX12_frontAt_65 : decode cX12_frontAt 65 = .ok (.getfield 130, 3) := by decide +kernel
theorem dX12_frontAt_68 : decode cX12_frontAt 68 = .ok (.iload_n 2, 1) := by decide +kernel
theorem dX12_frontAt_69 : decode cX12_frontAt 69 = .ok (.iaload, 1) := by decide +kernel
theorem dX12_frontAt_70 : decode cX12_frontAt 70 = .ok (.iadd, 1) := by decide +kernel
theorem dX12_frontAt_71 : decode cX12_frontAt 71 = .ok (.invokevirtual 333, 3) := by decide +kernel
theorem dX12_frontAt_74 : decode cX12_frontAt 74 = .ok (.aload_n 0, 1) := by decide +kernel
theorem dX12_frontAt_75 : decode cX12_frontAt 75 = .ok (.sipush 4507, 3) := by decide +kernel
theorem dX12_frontAt_78 : decode cX12_frontAt 78 = .ok (.sipush 4505, 3) := by decide +kernel
theorem dX12_frontAt_81 : decode cX12_frontAt 81 = .ok (.invokevirtual 384, 3) := by decide +kernel
theorem dX12_frontAt_84 : decode cX12_frontAt 84 = .ok (.iload_n 3, 1) := by decide +kernel
theorem dX12_frontAt_85 : decode cX12_frontAt 85 = .ok (.ifCond .ne 12, 3) := by decide +kernel
theorem dX12_frontAt_88 : decode cX12_frontAt 88 = .ok (.aload_n 0, 1) := by decide +kernel
theorem dX12_frontAt_89 : decode cX12_frontAt 89 = .ok (.getfield 130, 3) := by decide +kernel
theorem dX12_frontAt_92 : decode cX12_frontAt 92 = .ok (.iload_n 2, 1) := by decide +kernel
theorem dX12_frontAt_93 : decode cX12_frontAt 93 = .ok (.iaload, 1) := by decide +kernel
theorem dX12_frontAt_94 : decode cX12_frontAt 94 = .ok (.goto 13, 3) := by decide +kernel
theorem dX12_frontAt_97 : decode cX12_frontAt 97 = .ok (.aload_n 0, 1) := by decide +kernel
theorem dX12_frontAt_98 : decode cX12_frontAt 98 = .ok (.aload_n 0, 1) := by decide +kernel
theorem dX12_frontAt_99 : decode cX12_frontAt 99 = .ok (.getfield 130, 3) := by decide +kernel
theorem dX12_frontAt_102 : decode cX12_frontAt 102 = .ok (.iload_n 2, 1) := by decide +kernel
theorem dX12_frontAt_103 : decode cX12_frontAt 103 = .ok (.iaload, 1) := by decide +kernel
theorem dX12_frontAt_104 : decode cX12_frontAt 104 = .ok (.invokevirtual 399, 3) := by decide +kernel
theorem dX12_frontAt_107 : decode cX12_frontAt 107 = .ok (.ireturn, 1) := by decide +kernel
theorem dX12_patrol_0 : decode cX12_patrol 0 = .ok (.aload_n 0, 1) := by decide +kernel
theorem dX12_patrol_1 : decode cX12_patrol 1 = .ok (.getfield 408, 3) := by decide +kernel
theorem dX12_patrol_4 : decode cX12_patrol 4 = .ok (.bipush 6, 2) := by decide +kernel
theorem dX12_patrol_6 : decode cX12_patrol 6 = .ok (.if_icmp .ne 6, 3) := by decide +kernel
theorem dX12_patrol_9 : decode cX12_patrol 9 = .ok (.bipush (-4), 2) := by decide +kernel
theorem dX12_patrol_11 : decode cX12_patrol 11 = .ok (.ireturn, 1) := by decide +kernel
theorem dX12_patrol_12 : decode cX12_patrol 12 = .ok (.iconst 0, 1) := by decide +kernel
theorem dX12_patrol_13 : decode cX12_patrol 13 = .ok (.istore_n 1, 1) := by decide +kernel
theorem dX12_patrol_14 : decode cX12_patrol 14 = .ok (.iload_n 1, 1) := by decide +kernel
theorem dX12_patrol_15 : decode cX12_patrol 15 = .ok (.bipush 16, 2) := by decide +kernel
theorem dX12_patrol_17 : decode cX12_patrol 17 = .ok (.if_icmp .ge 24, 3) := by decide +kernel
theorem dX12_patrol_20 : decode cX12_patrol 20 = .ok (.aload_n 0, 1) := by decide +kernel
theorem dX12_patrol_21 : decode cX12_patrol 21 = .ok (.getfield 133, 3) := by decide +kernel
theorem dX12_patrol_24 : decode cX12_patrol 24 = .ok (.bipush 16, 2) := by decide +kernel
theorem dX12_patrol_26 : decode cX12_patrol 26 = .ok (.aload_n 0, 1) := by decide +kernel
theorem dX12_patrol_27 : decode cX12_patrol 27 = .ok (.getfield 408, 3) := by decide +kernel
theorem dX12_patrol_30 : decode cX12_patrol 30 = .ok (.imul, 1) := by decide +kernel
theorem dX12_patrol_31 : decode cX12_patrol 31 = .ok (.iload_n 1, 1) := by decide +kernel
theorem dX12_patrol_32 : decode cX12_patrol 32 = .ok (.iadd, 1) := by decide +kernel
theorem dX12_patrol_33 : decode cX12_patrol 33 = .ok (.iconst 0, 1) := by decide +kernel
theorem dX12_patrol_34 : decode cX12_patrol 34 = .ok (.iastore, 1) := by decide +kernel
theorem dX12_patrol_35 : decode cX12_patrol 35 = .ok (.iinc 1 1, 3) := by decide +kernel
theorem dX12_patrol_38 : decode cX12_patrol 38 = .ok (.goto (-24), 3) := by decide +kernel
theorem dX12_patrol_41 : decode cX12_patrol 41 = .ok (.aload_n 0, 1) := by decide +kernel
theorem dX12_patrol_42 : decode cX12_patrol 42 = .ok (.dup, 1) := by decide +kernel
theorem dX12_patrol_43 : decode cX12_patrol 43 = .ok (.getfield 408, 3) := by decide +kernel
theorem dX12_patrol_46 : decode cX12_patrol 46 = .ok (.iconst 1, 1) := by decide +kernel
theorem dX12_patrol_47 : decode cX12_patrol 47 = .ok (.iadd, 1) := by decide +kernel
theorem dX12_patrol_48 : decode cX12_patrol 48 = .ok (.putfield 408, 3) := by decide +kernel
theorem dX12_patrol_51 : decode cX12_patrol 51 = .ok (.aload_n 0, 1) := by decide +kernel
theorem dX12_patrol_52 : decode cX12_patrol 52 = .ok (.getfield 408, 3) := by decide +kernel
theorem dX12_patrol_55 : decode cX12_patrol 55 = .ok (.iconst 1, 1) := by decide +kernel
theorem dX12_patrol_56 : decode cX12_patrol 56 = .ok (.isub, 1) := by decide +kernel
theorem dX12_patrol_57 : decode cX12_patrol 57 = .ok (.ireturn, 1) := by decide +kernel
theorem dX12_catches_0 : decode cX12_catches 0 = .ok (.iload_n 1, 1) := by decide +kernel
theorem dX12_catches_1 : decode cX12_catches 1 = .ok (.iconst 0, 1) := by decide +kernel
theorem dX12_catches_2 : decode cX12_catches 2 = .ok (.aload_n 0, 1) := by decide +kernel
theorem dX12_catches_3 : decode cX12_catches 3 = .ok (.getfield 408, 3) := by decide +kernel
theorem dX12_catches_6 : decode cX12_catches 6 = .ok (.iconst 1, 1) := by decide +kernel
theorem dX12_catches_7 : decode cX12_catches 7 = .ok (.isub, 1) := by decide +kernel
theorem dX12_catches_8 : decode cX12_catches 8 = .ok (.invokestatic 179, 3) := by decide +kernel
theorem dX12_catches_11 : decode cX12_catches 11 = .ok (.ifCond .eq 21, 3) := by decide +kernel
theorem dX12_catches_14 : decode cX12_catches 14 = .ok (.iload_n 2, 1) := by decide +kernel
theorem dX12_catches_15 : decode cX12_catches 15 = .ok (.invokestatic 183, 3) := by decide +kernel
theorem dX12_catches_18 : decode cX12_catches 18 = .ok (.ifCond .eq 14, 3) := by decide +kernel
theorem dX12_catches_21 : decode cX12_catches 21 = .ok (.iload_n 3, 1) := by decide +kernel
theorem dX12_catches_22 : decode cX12_catches 22 = .ok (.iconst 0, 1) := by decide +kernel
theorem dX12_catches_23 : decode cX12_catches 23 = .ok (.sipush 1000, 3) := by decide +kernel
theorem dX12_catches_26 : decode cX12_catches 26 = .ok (.invokestatic 179, 3) := by decide +kernel
theorem dX12_catches_29 : decode cX12_catches 29 = .ok (.ifCond .ne 6, 3) := by decide +kernel
theorem dX12_catches_32 : decode cX12_catches 32 = .ok (.bipush (-2), 2) := by decide +kernel
theorem dX12_catches_34 : decode cX12_catches 34 = .ok (.ireturn, 1) := by decide +kernel
theorem dX12_catches_35 : decode cX12_catches 35 = .ok (.aload_n 0, 1) := by decide +kernel
theorem dX12_catches_36 : decode cX12_catches 36 = .ok (.getfield 133, 3) := by decide +kernel
theorem dX12_catches_39 : decode cX12_catches 39 = .ok (.bipush 16, 2) := by decide +kernel
theorem dX12_catches_41 : decode cX12_catches 41 = .ok (.iload_n 1, 1) := by decide +kernel
theorem dX12_catches_42 : decode cX12_catches 42 = .ok (.imul, 1) := by decide +kernel
theorem dX12_catches_43 : decode cX12_catches 43 = .ok (.iload_n 2, 1) := by decide +kernel
theorem dX12_catches_44 : decode cX12_catches 44 = .ok (.iadd, 1) := by decide +kernel
theorem dX12_catches_45 : decode cX12_catches 45 = .ok (.iaload, 1) := by decide +kernel
theorem dX12_catches_46 : decode cX12_catches 46 = .ok (.istore 4, 2) := by decide +kernel
theorem dX12_catches_48 : decode cX12_catches 48 = .ok (.aload_n 0, 1) := by decide +kernel
theorem dX12_catches_49 : decode cX12_catches 49 = .ok (.getfield 133, 3) := by decide +kernel
theorem dX12_catches_52 : decode cX12_catches 52 = .ok (.bipush 16, 2) := by decide +kernel
theorem dX12_catches_54 : decode cX12_catches 54 = .ok (.iload_n 1, 1) := by decide +kernel
theorem dX12_catches_55 : decode cX12_catches 55 = .ok (.imul, 1) := by decide +kernel
theorem dX12_catches_56 : decode cX12_catches 56 = .ok (.iload_n 2, 1) := by decide +kernel
theorem dX12_catches_57 : decode cX12_catches 57 = .ok (.iadd, 1) := by decide +kernel
theorem dX12_catches_58 : decode cX12_catches 58 = .ok (.iload_n 3, 1) := by decide +kernel
theorem dX12_catches_59 : decode cX12_catches 59 = .ok (.iastore, 1) := by decide +kernel
theorem dX12_catches_60 : decode cX12_catches 60 = .ok (.iload 4, 2) := by decide +kernel
theorem dX12_catches_62 : decode cX12_catches 62 = .ok (.ireturn, 1) := by decide +kernel
theorem dX12_greatest_0 : decode cX12_greatest 0 = .ok (.iconst 0, 1) := by decide +kernel
theorem dX12_greatest_1 : decode cX12_greatest 1 = .ok (.istore_n 3, 1) := by decide +kernel
theorem dX12_greatest_2 : decode cX12_greatest 2 = .ok (.iconst 0, 1) := by decide +kernel
theorem dX12_greatest_3 : decode cX12_greatest 3 = .ok (.istore 4, 2) := by decide +kernel
theorem dX12_greatest_5 : decode cX12_greatest 5 = .ok (.iload 4, 2) := by decide +kernel
theorem dX12_greatest_7 : decode cX12_greatest 7 = .ok (.bipush 16, 2) := by decide +kernel
theorem dX12_greatest_9 : decode cX12_greatest 9 = .ok (.if_icmp .ge 46, 3) := by decide +kernel
theorem dX12_greatest_12 : decode cX12_greatest 12 = .ok (.aload_n 0, 1) := by decide +kernel
theorem dX12_greatest_13 : decode cX12_greatest 13 = .ok (.getfield 133, 3) := by decide +kernel
theorem dX12_greatest_16 : decode cX12_greatest 16 = .ok (.bipush 16, 2) := by decide +kernel
theorem dX12_greatest_18 : decode cX12_greatest 18 = .ok (.iload_n 1, 1) := by decide +kernel
theorem dX12_greatest_19 : decode cX12_greatest 19 = .ok (.imul, 1) := by decide +kernel
theorem dX12_greatest_20 : decode cX12_greatest 20 = .ok (.iload 4, 2) := by decide +kernel
theorem dX12_greatest_22 : decode cX12_greatest 22 = .ok (.iadd, 1) := by decide +kernel
theorem dX12_greatest_23 : decode cX12_greatest 23 = .ok (.iaload, 1) := by decide +kernel
theorem dX12_greatest_24 : decode cX12_greatest 24 = .ok (.istore 5, 2) := by decide +kernel
theorem dX12_greatest_26 : decode cX12_greatest 26 = .ok (.iload_n 2, 1) := by decide +kernel
theorem dX12_greatest_27 : decode cX12_greatest 27 = .ok (.iload 4, 2) := by decide +kernel
theorem dX12_greatest_29 : decode cX12_greatest 29 = .ok (.ishr, 1) := by decide +kernel
theorem dX12_greatest_30 : decode cX12_greatest 30 = .ok (.iconst 1, 1) := by decide +kernel
theorem dX12_greatest_31 : decode cX12_greatest 31 = .ok (.iand, 1) := by decide +kernel
theorem dX12_greatest_32 : decode cX12_greatest 32 = .ok (.iconst 1, 1) := by decide +kernel
theorem dX12_greatest_33 : decode cX12_greatest 33 = .ok (.if_icmp .ne 14, 3) := by decide +kernel
theorem dX12_greatest_36 : decode cX12_greatest 36 = .ok (.iload 5, 2) := by decide +kernel
theorem dX12_greatest_38 : decode cX12_greatest 38 = .ok (.iload_n 3, 1) := by decide +kernel
theorem dX12_greatest_39 : decode cX12_greatest 39 = .ok (.if_icmp .le 8, 3) := by decide +kernel
theorem dX12_greatest_42 : decode cX12_greatest 42 = .ok (.iload 5, 2) := by decide +kernel
theorem dX12_greatest_44 : decode cX12_greatest 44 = .ok (.goto 4, 3) := by decide +kernel
theorem dX12_greatest_47 : decode cX12_greatest 47 = .ok (.iload_n 3, 1) := by decide +kernel
theorem dX12_greatest_48 : decode cX12_greatest 48 = .ok (.istore_n 3, 1) := by decide +kernel
theorem dX12_greatest_49 : decode cX12_greatest 49 = .ok (.iinc 4 1, 3) := by decide +kernel
theorem dX12_greatest_52 : decode cX12_greatest 52 = .ok (.goto (-47), 3) := by decide +kernel
theorem dX12_greatest_55 : decode cX12_greatest 55 = .ok (.iload_n 3, 1) := by decide +kernel
theorem dX12_greatest_56 : decode cX12_greatest 56 = .ok (.ireturn, 1) := by decide +kernel
theorem dX12_cell_0 : decode cX12_cell 0 = .ok (.bipush 31, 2) := by decide +kernel
theorem dX12_cell_2 : decode cX12_cell 2 = .ok (.iload_n 1, 1) := by decide +kernel
theorem dX12_cell_3 : decode cX12_cell 3 = .ok (.imul, 1) := by decide +kernel
theorem dX12_cell_4 : decode cX12_cell 4 = .ok (.iload_n 2, 1) := by decide +kernel
theorem dX12_cell_5 : decode cX12_cell 5 = .ok (.iadd, 1) := by decide +kernel
theorem dX12_cell_6 : decode cX12_cell 6 = .ok (.ireturn, 1) := by decide +kernel
theorem dX12_setsCell_0 : decode cX12_setsCell 0 = .ok (.aload_n 0, 1) := by decide +kernel
theorem dX12_setsCell_1 : decode cX12_setsCell 1 = .ok (.sipush 402, 3) := by decide +kernel
theorem dX12_setsCell_4 : decode cX12_setsCell 4 = .ok (.aload_n 0, 1) := by decide +kernel
theorem dX12_setsCell_5 : decode cX12_setsCell 5 = .ok (.iload_n 1, 1) := by decide +kernel
theorem dX12_setsCell_6 : decode cX12_setsCell 6 = .ok (.iload_n 2, 1) := by decide +kernel
theorem dX12_setsCell_7 : decode cX12_setsCell 7 = .ok (.invokevirtual 411, 3) := by decide +kernel
theorem dX12_setsCell_10 : decode cX12_setsCell 10 = .ok (.iadd, 1) := by decide +kernel
theorem dX12_setsCell_11 : decode cX12_setsCell 11 = .ok (.iload_n 3, 1) := by decide +kernel
theorem dX12_setsCell_12 : decode cX12_setsCell 12 = .ok (.ifCond .ge 8, 3) := by decide +kernel
theorem dX12_setsCell_15 : decode cX12_setsCell 15 = .ok (.iload_n 3, 1) := by decide +kernel
theorem dX12_setsCell_16 : decode cX12_setsCell 16 = .ok (.ineg, 1) := by decide +kernel
theorem dX12_setsCell_17 : decode cX12_setsCell 17 = .ok (.goto 4, 3) := by decide +kernel
theorem dX12_setsCell_20 : decode cX12_setsCell 20 = .ok (.iload_n 3, 1) := by decide +kernel
theorem dX12_setsCell_21 : decode cX12_setsCell 21 = .ok (.invokevirtual 175, 3) := by decide +kernel
theorem dX12_setsCell_24 : decode cX12_setsCell 24 = .ok (.aload_n 0, 1) := by decide +kernel
theorem dX12_setsCell_25 : decode cX12_setsCell 25 = .ok (.getfield 136, 3) := by decide +kernel
theorem dX12_setsCell_28 : decode cX12_setsCell 28 = .ok (.aload_n 0, 1) := by decide +kernel
theorem dX12_setsCell_29 : decode cX12_setsCell 29 = .ok (.iload_n 1, 1) := by decide +kernel
theorem dX12_setsCell_30 : decode cX12_setsCell 30 = .ok (.iload_n 2, 1) := by decide +kernel
theorem dX12_setsCell_31 : decode cX12_setsCell 31 = .ok (.invokevirtual 411, 3) := by decide +kernel
theorem dX12_setsCell_34 : decode cX12_setsCell 34 = .ok (.iload_n 3, 1) := by decide +kernel
theorem dX12_setsCell_35 : decode cX12_setsCell 35 = .ok (.ifCond .ge 7, 3) := by decide +kernel
theorem dX12_setsCell_38 : decode cX12_setsCell 38 = .ok (.iconst 1, 1) := by decide +kernel
theorem dX12_setsCell_39 : decode cX12_setsCell 39 = .ok (.goto 4, 3) := by decide +kernel
theorem dX12_setsCell_42 : decode cX12_setsCell 42 = .ok (.iconst 0, 1) := by decide +kernel
theorem dX12_setsCell_43 : decode cX12_setsCell 43 = .ok (.bastore, 1) := by decide +kernel
theorem dX12_setsCell_44 : decode cX12_setsCell 44 = .ok (.return_, 1) := by decide +kernel
theorem dX12_turnsCell_0 : decode cX12_turnsCell 0 = .ok (.aload_n 0, 1) := by decide +kernel
theorem dX12_turnsCell_1 : decode cX12_turnsCell 1 = .ok (.sipush 701, 3) := by decide +kernel
theorem dX12_turnsCell_4 : decode cX12_turnsCell 4 = .ok (.sipush 402, 3) := by decide +kernel
theorem dX12_turnsCell_7 : decode cX12_turnsCell 7 = .ok (.iload_n 2, 1) := by decide +kernel
theorem dX12_turnsCell_8 : decode cX12_turnsCell 8 = .ok (.iadd, 1) := by decide +kernel
theorem dX12_turnsCell_9 : decode cX12_turnsCell 9 = .ok (.sipush 402, 3) := by decide +kernel
theorem dX12_turnsCell_12 : decode cX12_turnsCell 12 = .ok (.iload_n 3, 1) := by decide +kernel
theorem dX12_turnsCell_13 : decode cX12_turnsCell 13 = .ok (.iadd, 1) := by decide +kernel
theorem dX12_turnsCell_14 : decode cX12_turnsCell 14 = .ok (.invokevirtual 414, 3) := by decide +kernel
theorem dX12_turnsCell_17 : decode cX12_turnsCell 17 = .ok (.aload_n 0, 1) := by decide +kernel
theorem dX12_turnsCell_18 : decode cX12_turnsCell 18 = .ok (.sipush 702, 3) := by decide +kernel
theorem dX12_turnsCell_21 : decode cX12_turnsCell 21 = .ok (.sipush 402, 3) := by decide +kernel
theorem dX12_turnsCell_24 : decode cX12_turnsCell 24 = .ok (.iload 4, 2) := by decide +kernel
theorem dX12_turnsCell_26 : decode cX12_turnsCell 26 = .ok (.iadd, 1) := by decide +kernel
theorem dX12_turnsCell_27 : decode cX12_turnsCell 27 = .ok (.sipush 402, 3) := by decide +kernel
theorem dX12_turnsCell_30 : decode cX12_turnsCell 30 = .ok (.iload 5, 2) := by decide +kernel
theorem dX12_turnsCell_32 : decode cX12_turnsCell 32 = .ok (.iadd, 1) := by decide +kernel
theorem dX12_turnsCell_33 : decode cX12_turnsCell 33 = .ok (.invokevirtual 414, 3) := by decide +kernel
theorem dX12_turnsCell_36 : decode cX12_turnsCell 36 = .ok (.aload_n 0, 1) := by decide +kernel
theorem dX12_turnsCell_37 : decode cX12_turnsCell 37 = .ok (.getfield 136, 3) := by decide +kernel
theorem dX12_turnsCell_40 : decode cX12_turnsCell 40 = .ok (.iload_n 2, 1) := by decide +kernel
theorem dX12_turnsCell_41 : decode cX12_turnsCell 41 = .ok (.baload, 1) := by decide +kernel
theorem dX12_turnsCell_42 : decode cX12_turnsCell 42 = .ok (.aload_n 0, 1) := by decide +kernel
theorem dX12_turnsCell_43 : decode cX12_turnsCell 43 = .ok (.getfield 136, 3) := by decide +kernel
theorem dX12_turnsCell_46 : decode cX12_turnsCell 46 = .ok (.iload_n 3, 1) := by decide +kernel
theorem dX12_turnsCell_47 : decode cX12_turnsCell 47 = .ok (.baload, 1) := by decide +kernel
theorem dX12_turnsCell_48 : decode cX12_turnsCell 48 = .ok (.if_icmp .eq 7, 3) := by decide +kernel
theorem dX12_turnsCell_51 : decode cX12_turnsCell 51 = .ok (.iconst 1, 1) := by decide +kernel
theorem dX12_turnsCell_52 : decode cX12_turnsCell 52 = .ok (.goto 4, 3) := by decide +kernel
theorem dX12_turnsCell_55 : decode cX12_turnsCell 55 = .ok (.iconst 0, 1) := by decide +kernel
theorem dX12_turnsCell_56 : decode cX12_turnsCell 56 = .ok (.istore 6, 2) := by decide +kernel
theorem dX12_turnsCell_58 : decode cX12_turnsCell 58 = .ok (.aload_n 0, 1) := by decide +kernel
theorem dX12_turnsCell_59 : decode cX12_turnsCell 59 = .ok (.getfield 136, 3) := by decide +kernel
theorem dX12_turnsCell_62 : decode cX12_turnsCell 62 = .ok (.iload 4, 2) := by decide +kernel
theorem dX12_turnsCell_64 : decode cX12_turnsCell 64 = .ok (.baload, 1) := by decide +kernel
theorem dX12_turnsCell_65 : decode cX12_turnsCell 65 = .ok (.aload_n 0, 1) := by decide +kernel
theorem dX12_turnsCell_66 : decode cX12_turnsCell 66 = .ok (.getfield 136, 3) := by decide +kernel
theorem dX12_turnsCell_69 : decode cX12_turnsCell 69 = .ok (.iload 5, 2) := by decide +kernel
theorem dX12_turnsCell_71 : decode cX12_turnsCell 71 = .ok (.baload, 1) := by decide +kernel
theorem dX12_turnsCell_72 : decode cX12_turnsCell 72 = .ok (.if_icmp .ne 7, 3) := by decide +kernel
theorem dX12_turnsCell_75 : decode cX12_turnsCell 75 = .ok (.iconst 1, 1) := by decide +kernel
theorem dX12_turnsCell_76 : decode cX12_turnsCell 76 = .ok (.goto 4, 3) := by decide +kernel
theorem dX12_turnsCell_79 : decode cX12_turnsCell 79 = .ok (.iconst 0, 1) := by decide +kernel
theorem dX12_turnsCell_80 : decode cX12_turnsCell 80 = .ok (.istore 7, 2) := by decide +kernel
theorem dX12_turnsCell_82 : decode cX12_turnsCell 82 = .ok (.iload 6, 2) := by decide +kernel
theorem dX12_turnsCell_84 : decode cX12_turnsCell 84 = .ok (.istore 8, 2) := by decide +kernel
theorem dX12_turnsCell_86 : decode cX12_turnsCell 86 = .ok (.iload 6, 2) := by decide +kernel
theorem dX12_turnsCell_88 : decode cX12_turnsCell 88 = .ok (.iload 7, 2) := by decide +kernel
theorem dX12_turnsCell_90 : decode cX12_turnsCell 90 = .ok (.if_icmp .ne 16, 3) := by decide +kernel
theorem dX12_turnsCell_93 : decode cX12_turnsCell 93 = .ok (.aload_n 0, 1) := by decide +kernel
theorem dX12_turnsCell_94 : decode cX12_turnsCell 94 = .ok (.sipush 701, 3) := by decide +kernel
theorem dX12_turnsCell_97 : decode cX12_turnsCell 97 = .ok (.sipush 702, 3) := by decide +kernel
theorem dX12_turnsCell_100 : decode cX12_turnsCell 100 = .ok (.invokevirtual 369, 3) := by decide +kernel
theorem dX12_turnsCell_103 : decode cX12_turnsCell 103 = .ok (.goto 53, 3) := by decide +kernel
theorem dX12_turnsCell_106 : decode cX12_turnsCell 106 = .ok (.aload_n 0, 1) := by decide +kernel
theorem dX12_turnsCell_107 : decode cX12_turnsCell 107 = .ok (.sipush 701, 3) := by decide +kernel
theorem dX12_turnsCell_110 : decode cX12_turnsCell 110 = .ok (.sipush 702, 3) := by decide +kernel
theorem dX12_turnsCell_113 : decode cX12_turnsCell 113 = .ok (.invokevirtual 327, 3) := by decide +kernel
theorem dX12_turnsCell_116 : decode cX12_turnsCell 116 = .ok (.ifCond .lt 16, 3) := by decide +kernel
theorem dX12_turnsCell_119 : decode cX12_turnsCell 119 = .ok (.aload_n 0, 1) := by decide +kernel
theorem dX12_turnsCell_120 : decode cX12_turnsCell 120 = .ok (.sipush 701, 3) := by decide +kernel
theorem dX12_turnsCell_123 : decode cX12_turnsCell 123 = .ok (.sipush 702, 3) := by decide +kernel
theorem dX12_turnsCell_126 : decode cX12_turnsCell 126 = .ok (.invokevirtual 330, 3) := by decide +kernel
theorem dX12_turnsCell_129 : decode cX12_turnsCell 129 = .ok (.goto 27, 3) := by decide +kernel
theorem dX12_turnsCell_132 : decode cX12_turnsCell 132 = .ok (.aload_n 0, 1) := by decide +kernel
theorem dX12_turnsCell_133 : decode cX12_turnsCell 133 = .ok (.sipush 702, 3) := by decide +kernel
theorem dX12_turnsCell_136 : decode cX12_turnsCell 136 = .ok (.sipush 701, 3) := by decide +kernel
theorem dX12_turnsCell_139 : decode cX12_turnsCell 139 = .ok (.invokevirtual 330, 3) := by decide +kernel
theorem dX12_turnsCell_142 : decode cX12_turnsCell 142 = .ok (.aload_n 0, 1) := by decide +kernel
theorem dX12_turnsCell_143 : decode cX12_turnsCell 143 = .ok (.sipush 701, 3) := by decide +kernel
theorem dX12_turnsCell_146 : decode cX12_turnsCell 146 = .ok (.sipush 702, 3) := by decide +kernel
theorem dX12_turnsCell_149 : decode cX12_turnsCell 149 = .ok (.invokevirtual 333, 3) := by decide +kernel
theorem dX12_turnsCell_152 : decode cX12_turnsCell 152 = .ok (.iload 7, 2) := by decide +kernel
theorem dX12_turnsCell_154 : decode cX12_turnsCell 154 = .ok (.istore 8, 2) := by decide +kernel
theorem dX12_turnsCell_156 : decode cX12_turnsCell 156 = .ok (.aload_n 0, 1) := by decide +kernel
theorem dX12_turnsCell_157 : decode cX12_turnsCell 157 = .ok (.sipush 701, 3) := by decide +kernel
theorem dX12_turnsCell_160 : decode cX12_turnsCell 160 = .ok (.sipush 700, 3) := by decide +kernel
theorem dX12_turnsCell_163 : decode cX12_turnsCell 163 = .ok (.sipush 703, 3) := by decide +kernel
theorem dX12_turnsCell_166 : decode cX12_turnsCell 166 = .ok (.invokevirtual 345, 3) := by decide +kernel
theorem dX12_turnsCell_169 : decode cX12_turnsCell 169 = .ok (.aload_n 0, 1) := by decide +kernel
theorem dX12_turnsCell_170 : decode cX12_turnsCell 170 = .ok (.sipush 402, 3) := by decide +kernel
theorem dX12_turnsCell_173 : decode cX12_turnsCell 173 = .ok (.iload_n 1, 1) := by decide +kernel
theorem dX12_turnsCell_174 : decode cX12_turnsCell 174 = .ok (.iadd, 1) := by decide +kernel
theorem dX12_turnsCell_175 : decode cX12_turnsCell 175 = .ok (.sipush 703, 3) := by decide +kernel
theorem dX12_turnsCell_178 : decode cX12_turnsCell 178 = .ok (.invokevirtual 333, 3) := by decide +kernel
theorem dX12_turnsCell_181 : decode cX12_turnsCell 181 = .ok (.aload_n 0, 1) := by decide +kernel
theorem dX12_turnsCell_182 : decode cX12_turnsCell 182 = .ok (.getfield 136, 3) := by decide +kernel
theorem dX12_turnsCell_185 : decode cX12_turnsCell 185 = .ok (.iload_n 1, 1) := by decide +kernel
theorem dX12_turnsCell_186 : decode cX12_turnsCell 186 = .ok (.iload 8, 2) := by decide +kernel
theorem dX12_turnsCell_188 : decode cX12_turnsCell 188 = .ok (.ifCond .eq 17, 3) := by decide +kernel
theorem dX12_turnsCell_191 : decode cX12_turnsCell 191 = .ok (.aload_n 0, 1) := by decide +kernel
theorem dX12_turnsCell_192 : decode cX12_turnsCell 192 = .ok (.sipush 703, 3) := by decide +kernel
theorem dX12_turnsCell_195 : decode cX12_turnsCell 195 = .ok (.invokevirtual 324, 3) := by decide +kernel
theorem dX12_turnsCell_198 : decode cX12_turnsCell 198 = .ok (.ifCond .ne 7, 3) := by decide +kernel
theorem dX12_turnsCell_201 : decode cX12_turnsCell 201 = .ok (.iconst 1, 1) := by decide +kernel
theorem dX12_turnsCell_202 : decode cX12_turnsCell 202 = .ok (.goto 4, 3) := by decide +kernel
theorem dX12_turnsCell_205 : decode cX12_turnsCell 205 = .ok (.iconst 0, 1) := by decide +kernel
theorem dX12_turnsCell_206 : decode cX12_turnsCell 206 = .ok (.bastore, 1) := by decide +kernel
theorem dX12_turnsCell_207 : decode cX12_turnsCell 207 = .ok (.return_, 1) := by decide +kernel
theorem dX12_turns_0 : decode cX12_turns 0 = .ok (.aload_n 0, 1) := by decide +kernel
theorem dX12_turns_1 : decode cX12_turns 1 = .ok (.iload_n 1, 1) := by decide +kernel
theorem dX12_turns_2 : decode cX12_turns 2 = .ok (.iload_n 2, 1) := by decide +kernel
theorem dX12_turns_3 : decode cX12_turns 3 = .ok (.invokevirtual 411, 3) := by decide +kernel
theorem dX12_turns_6 : decode cX12_turns 6 = .ok (.istore 4, 2) := by decide +kernel
theorem dX12_turns_8 : decode cX12_turns 8 = .ok (.iconst 0, 1) := by decide +kernel
theorem dX12_turns_9 : decode cX12_turns 9 = .ok (.istore 5, 2) := by decide +kernel
theorem dX12_turns_11 : decode cX12_turns 11 = .ok (.iload 5, 2) := by decide +kernel
theorem dX12_turns_13 : decode cX12_turns 13 = .ok (.aload_n 0, 1) := by decide +kernel
theorem dX12_turns_14 : decode cX12_turns 14 = .ok (.getfield 408, 3) := by decide +kernel
theorem dX12_turns_17 : decode cX12_turns 17 = .ok (.if_icmp .gt 76, 3) := by decide +kernel
theorem dX12_turns_20 : decode cX12_turns 20 = .ok (.iload 5, 2) := by decide +kernel
theorem dX12_turns_22 : decode cX12_turns 22 = .ok (.iload_n 1, 1) := by decide +kernel
theorem dX12_turns_23 : decode cX12_turns 23 = .ok (.if_icmp .eq 64, 3) := by decide +kernel
theorem dX12_turns_26 : decode cX12_turns 26 = .ok (.aload_n 0, 1) := by decide +kernel
theorem dX12_turns_27 : decode cX12_turns 27 = .ok (.iload 5, 2) := by decide +kernel
theorem dX12_turns_29 : decode cX12_turns 29 = .ok (.iload_n 2, 1) := by decide +kernel
theorem dX12_turns_30 : decode cX12_turns 30 = .ok (.invokevirtual 411, 3) := by decide +kernel
theorem dX12_turns_33 : decode cX12_turns 33 = .ok (.istore 6, 2) := by decide +kernel
theorem dX12_turns_35 : decode cX12_turns 35 = .ok (.iconst 0, 1) := by decide +kernel
theorem dX12_turns_36 : decode cX12_turns 36 = .ok (.istore 7, 2) := by decide +kernel
theorem dX12_turns_38 : decode cX12_turns 38 = .ok (.iload 7, 2) := by decide +kernel
theorem dX12_turns_40 : decode cX12_turns 40 = .ok (.iload_n 3, 1) := by decide +kernel
theorem dX12_turns_41 : decode cX12_turns 41 = .ok (.if_icmp .ge 46, 3) := by decide +kernel
theorem dX12_turns_44 : decode cX12_turns 44 = .ok (.iload 7, 2) := by decide +kernel
theorem dX12_turns_46 : decode cX12_turns 46 = .ok (.iload_n 2, 1) := by decide +kernel
theorem dX12_turns_47 : decode cX12_turns 47 = .ok (.if_icmp .eq 34, 3) := by decide +kernel
theorem dX12_turns_50 : decode cX12_turns 50 = .ok (.aload_n 0, 1) := by decide +kernel
theorem dX12_turns_51 : decode cX12_turns 51 = .ok (.aload_n 0, 1) := by decide +kernel
theorem dX12_turns_52 : decode cX12_turns 52 = .ok (.iload 5, 2) := by decide +kernel
theorem dX12_turns_54 : decode cX12_turns 54 = .ok (.iload 7, 2) := by decide +kernel
theorem dX12_turns_56 : decode cX12_turns 56 = .ok (.invokevirtual 411, 3) := by decide +kernel
theorem dX12_turns_59 : decode cX12_turns 59 = .ok (.aload_n 0, 1) := by decide +kernel
theorem dX12_turns_60 : decode cX12_turns 60 = .ok (.iload 5, 2) := by decide +kernel
theorem dX12_turns_62 : decode cX12_turns 62 = .ok (.iload 7, 2) := by decide +kernel
theorem dX12_turns_64 : decode cX12_turns 64 = .ok (.invokevirtual 411, 3) := by decide +kernel
theorem dX12_turns_67 : decode cX12_turns 67 = .ok (.iload 4, 2) := by decide +kernel
theorem dX12_turns_69 : decode cX12_turns 69 = .ok (.iload 6, 2) := by decide +kernel
theorem dX12_turns_71 : decode cX12_turns 71 = .ok (.aload_n 0, 1) := by decide +kernel
theorem dX12_turns_72 : decode cX12_turns 72 = .ok (.iload_n 1, 1) := by decide +kernel
theorem dX12_turns_73 : decode cX12_turns 73 = .ok (.iload 7, 2) := by decide +kernel
theorem dX12_turns_75 : decode cX12_turns 75 = .ok (.invokevirtual 411, 3) := by decide +kernel
theorem dX12_turns_78 : decode cX12_turns 78 = .ok (.invokevirtual 417, 3) := by decide +kernel
theorem dX12_turns_81 : decode cX12_turns 81 = .ok (.iinc 7 1, 3) := by decide +kernel
theorem dX12_turns_84 : decode cX12_turns 84 = .ok (.goto (-46), 3) := by decide +kernel
theorem dX12_turns_87 : decode cX12_turns 87 = .ok (.iinc 5 1, 3) := by decide +kernel
theorem dX12_turns_90 : decode cX12_turns 90 = .ok (.goto (-79), 3) := by decide +kernel
theorem dX12_turns_93 : decode cX12_turns 93 = .ok (.iconst 0, 1) := by decide +kernel
theorem dX12_turns_94 : decode cX12_turns 94 = .ok (.istore 5, 2) := by decide +kernel
theorem dX12_turns_96 : decode cX12_turns 96 = .ok (.iload 5, 2) := by decide +kernel
theorem dX12_turns_98 : decode cX12_turns 98 = .ok (.aload_n 0, 1) := by decide +kernel
theorem dX12_turns_99 : decode cX12_turns 99 = .ok (.getfield 408, 3) := by decide +kernel
theorem dX12_turns_102 : decode cX12_turns 102 = .ok (.if_icmp .gt 44, 3) := by decide +kernel
theorem dX12_turns_105 : decode cX12_turns 105 = .ok (.iload 5, 2) := by decide +kernel
theorem dX12_turns_107 : decode cX12_turns 107 = .ok (.iload_n 1, 1) := by decide +kernel
theorem dX12_turns_108 : decode cX12_turns 108 = .ok (.if_icmp .eq 32, 3) := by decide +kernel
theorem dX12_turns_111 : decode cX12_turns 111 = .ok (.aload_n 0, 1) := by decide +kernel
theorem dX12_turns_112 : decode cX12_turns 112 = .ok (.sipush 402, 3) := by decide +kernel
theorem dX12_turns_115 : decode cX12_turns 115 = .ok (.aload_n 0, 1) := by decide +kernel
theorem dX12_turns_116 : decode cX12_turns 116 = .ok (.iload 5, 2) := by decide +kernel
theorem dX12_turns_118 : decode cX12_turns 118 = .ok (.iload_n 2, 1) := by decide +kernel
theorem dX12_turns_119 : decode cX12_turns 119 = .ok (.invokevirtual 411, 3) := by decide +kernel
theorem dX12_turns_122 : decode cX12_turns 122 = .ok (.iadd, 1) := by decide +kernel
theorem dX12_turns_123 : decode cX12_turns 123 = .ok (.iconst 0, 1) := by decide +kernel
theorem dX12_turns_124 : decode cX12_turns 124 = .ok (.invokevirtual 175, 3) := by decide +kernel
theorem dX12_turns_127 : decode cX12_turns 127 = .ok (.aload_n 0, 1) := by decide +kernel
theorem dX12_turns_128 : decode cX12_turns 128 = .ok (.getfield 136, 3) := by decide +kernel
theorem dX12_turns_131 : decode cX12_turns 131 = .ok (.aload_n 0, 1) := by decide +kernel
theorem dX12_turns_132 : decode cX12_turns 132 = .ok (.iload 5, 2) := by decide +kernel
theorem dX12_turns_134 : decode cX12_turns 134 = .ok (.iload_n 2, 1) := by decide +kernel
theorem dX12_turns_135 : decode cX12_turns 135 = .ok (.invokevirtual 411, 3) := by decide +kernel
theorem dX12_turns_138 : decode cX12_turns 138 = .ok (.iconst 0, 1) := by decide +kernel
theorem dX12_turns_139 : decode cX12_turns 139 = .ok (.bastore, 1) := by decide +kernel
theorem dX12_turns_140 : decode cX12_turns 140 = .ok (.iinc 5 1, 3) := by decide +kernel
theorem dX12_turns_143 : decode cX12_turns 143 = .ok (.goto (-47), 3) := by decide +kernel
theorem dX12_turns_146 : decode cX12_turns 146 = .ok (.aload_n 0, 1) := by decide +kernel
theorem dX12_turns_147 : decode cX12_turns 147 = .ok (.sipush 700, 3) := by decide +kernel
theorem dX12_turns_150 : decode cX12_turns 150 = .ok (.sipush 402, 3) := by decide +kernel
theorem dX12_turns_153 : decode cX12_turns 153 = .ok (.iload 4, 2) := by decide +kernel
theorem dX12_turns_155 : decode cX12_turns 155 = .ok (.iadd, 1) := by decide +kernel
theorem dX12_turns_156 : decode cX12_turns 156 = .ok (.invokevirtual 333, 3) := by decide +kernel
theorem dX12_turns_159 : decode cX12_turns 159 = .ok (.aload_n 0, 1) := by decide +kernel
theorem dX12_turns_160 : decode cX12_turns 160 = .ok (.getfield 139, 3) := by decide +kernel
theorem dX12_turns_163 : decode cX12_turns 163 = .ok (.iload_n 1, 1) := by decide +kernel
theorem dX12_turns_164 : decode cX12_turns 164 = .ok (.iload_n 2, 1) := by decide +kernel
theorem dX12_turns_165 : decode cX12_turns 165 = .ok (.iastore, 1) := by decide +kernel
theorem dX12_turns_166 : decode cX12_turns 166 = .ok (.return_, 1) := by decide +kernel
theorem dX12_rowOf_0 : decode cX12_rowOf 0 = .ok (.iconst (-1), 1) := by decide +kernel
theorem dX12_rowOf_1 : decode cX12_rowOf 1 = .ok (.istore_n 3, 1) := by decide +kernel
theorem dX12_rowOf_2 : decode cX12_rowOf 2 = .ok (.iconst 0, 1) := by decide +kernel
theorem dX12_rowOf_3 : decode cX12_rowOf 3 = .ok (.istore 4, 2) := by decide +kernel
theorem dX12_rowOf_5 : decode cX12_rowOf 5 = .ok (.iload 4, 2) := by decide +kernel
theorem dX12_rowOf_7 : decode cX12_rowOf 7 = .ok (.aload_n 0, 1) := by decide +kernel
theorem dX12_rowOf_8 : decode cX12_rowOf 8 = .ok (.getfield 408, 3) := by decide +kernel
theorem dX12_rowOf_11 : decode cX12_rowOf 11 = .ok (.if_icmp .ge 145, 3) := by decide +kernel
theorem dX12_rowOf_14 : decode cX12_rowOf 14 = .ok (.aload_n 0, 1) := by decide +kernel
theorem dX12_rowOf_15 : decode cX12_rowOf 15 = .ok (.iload 4, 2) := by decide +kernel
theorem dX12_rowOf_17 : decode cX12_rowOf 17 = .ok (.iload_n 1, 1) := by decide +kernel
theorem dX12_rowOf_18 : decode cX12_rowOf 18 = .ok (.invokevirtual 411, 3) := by decide +kernel
theorem dX12_rowOf_21 : decode cX12_rowOf 21 = .ok (.istore 5, 2) := by decide +kernel
theorem dX12_rowOf_23 : decode cX12_rowOf 23 = .ok (.aload_n 0, 1) := by decide +kernel
theorem dX12_rowOf_24 : decode cX12_rowOf 24 = .ok (.getfield 136, 3) := by decide +kernel
theorem dX12_rowOf_27 : decode cX12_rowOf 27 = .ok (.iload 5, 2) := by decide +kernel
theorem dX12_rowOf_29 : decode cX12_rowOf 29 = .ok (.baload, 1) := by decide +kernel
theorem dX12_rowOf_30 : decode cX12_rowOf 30 = .ok (.ifCond .ne 120, 3) := by decide +kernel
theorem dX12_rowOf_33 : decode cX12_rowOf 33 = .ok (.aload_n 0, 1) := by decide +kernel
theorem dX12_rowOf_34 : decode cX12_rowOf 34 = .ok (.sipush 402, 3) := by decide +kernel
theorem dX12_rowOf_37 : decode cX12_rowOf 37 = .ok (.iload 5, 2) := by decide +kernel
theorem dX12_rowOf_39 : decode cX12_rowOf 39 = .ok (.iadd, 1) := by decide +kernel
theorem dX12_rowOf_40 : decode cX12_rowOf 40 = .ok (.invokevirtual 324, 3) := by decide +kernel
theorem dX12_rowOf_43 : decode cX12_rowOf 43 = .ok (.ifCond .ne 107, 3) := by decide +kernel
theorem dX12_rowOf_46 : decode cX12_rowOf 46 = .ok (.iconst (-1), 1) := by decide +kernel
theorem dX12_rowOf_47 : decode cX12_rowOf 47 = .ok (.istore 6, 2) := by decide +kernel
theorem dX12_rowOf_49 : decode cX12_rowOf 49 = .ok (.iload_n 3, 1) := by decide +kernel
theorem dX12_rowOf_50 : decode cX12_rowOf 50 = .ok (.iconst (-1), 1) := by decide +kernel
theorem dX12_rowOf_51 : decode cX12_rowOf 51 = .ok (.if_icmp .eq 66, 3) := by decide +kernel
theorem dX12_rowOf_54 : decode cX12_rowOf 54 = .ok (.aload_n 0, 1) := by decide +kernel
theorem dX12_rowOf_55 : decode cX12_rowOf 55 = .ok (.sipush 701, 3) := by decide +kernel
theorem dX12_rowOf_58 : decode cX12_rowOf 58 = .ok (.sipush 402, 3) := by decide +kernel
theorem dX12_rowOf_61 : decode cX12_rowOf 61 = .ok (.aload_n 0, 1) := by decide +kernel
theorem dX12_rowOf_62 : decode cX12_rowOf 62 = .ok (.iload 4, 2) := by decide +kernel
theorem dX12_rowOf_64 : decode cX12_rowOf 64 = .ok (.iload_n 2, 1) := by decide +kernel
theorem dX12_rowOf_65 : decode cX12_rowOf 65 = .ok (.invokevirtual 411, 3) := by decide +kernel
theorem dX12_rowOf_68 : decode cX12_rowOf 68 = .ok (.iadd, 1) := by decide +kernel
theorem dX12_rowOf_69 : decode cX12_rowOf 69 = .ok (.sipush 402, 3) := by decide +kernel
theorem dX12_rowOf_72 : decode cX12_rowOf 72 = .ok (.aload_n 0, 1) := by decide +kernel
theorem dX12_rowOf_73 : decode cX12_rowOf 73 = .ok (.iload_n 3, 1) := by decide +kernel
theorem dX12_rowOf_74 : decode cX12_rowOf 74 = .ok (.iload_n 1, 1) := by decide +kernel
theorem dX12_rowOf_75 : decode cX12_rowOf 75 = .ok (.invokevirtual 411, 3) := by decide +kernel
theorem dX12_rowOf_78 : decode cX12_rowOf 78 = .ok (.iadd, 1) := by decide +kernel
theorem dX12_rowOf_79 : decode cX12_rowOf 79 = .ok (.invokevirtual 414, 3) := by decide +kernel
theorem dX12_rowOf_82 : decode cX12_rowOf 82 = .ok (.aload_n 0, 1) := by decide +kernel
theorem dX12_rowOf_83 : decode cX12_rowOf 83 = .ok (.sipush 702, 3) := by decide +kernel
theorem dX12_rowOf_86 : decode cX12_rowOf 86 = .ok (.sipush 402, 3) := by decide +kernel
theorem dX12_rowOf_89 : decode cX12_rowOf 89 = .ok (.aload_n 0, 1) := by decide +kernel
theorem dX12_rowOf_90 : decode cX12_rowOf 90 = .ok (.iload_n 3, 1) := by decide +kernel
theorem dX12_rowOf_91 : decode cX12_rowOf 91 = .ok (.iload_n 2, 1) := by decide +kernel
theorem dX12_rowOf_92 : decode cX12_rowOf 92 = .ok (.invokevirtual 411, 3) := by decide +kernel
theorem dX12_rowOf_95 : decode cX12_rowOf 95 = .ok (.iadd, 1) := by decide +kernel
theorem dX12_rowOf_96 : decode cX12_rowOf 96 = .ok (.sipush 402, 3) := by decide +kernel
theorem dX12_rowOf_99 : decode cX12_rowOf 99 = .ok (.iload 5, 2) := by decide +kernel
theorem dX12_rowOf_101 : decode cX12_rowOf 101 = .ok (.iadd, 1) := by decide +kernel
theorem dX12_rowOf_102 : decode cX12_rowOf 102 = .ok (.invokevirtual 414, 3) := by decide +kernel
theorem dX12_rowOf_105 : decode cX12_rowOf 105 = .ok (.aload_n 0, 1) := by decide +kernel
theorem dX12_rowOf_106 : decode cX12_rowOf 106 = .ok (.sipush 701, 3) := by decide +kernel
theorem dX12_rowOf_109 : decode cX12_rowOf 109 = .ok (.sipush 702, 3) := by decide +kernel
theorem dX12_rowOf_112 : decode cX12_rowOf 112 = .ok (.invokevirtual 327, 3) := by decide +kernel
theorem dX12_rowOf_115 : decode cX12_rowOf 115 = .ok (.istore 6, 2) := by decide +kernel
theorem dX12_rowOf_117 : decode cX12_rowOf 117 = .ok (.iload 6, 2) := by decide +kernel
theorem dX12_rowOf_119 : decode cX12_rowOf 119 = .ok (.ifCond .lt 24, 3) := by decide +kernel
theorem dX12_rowOf_122 : decode cX12_rowOf 122 = .ok (.iload 6, 2) := by decide +kernel
theorem dX12_rowOf_124 : decode cX12_rowOf 124 = .ok (.ifCond .ne 24, 3) := by decide +kernel
theorem dX12_rowOf_127 : decode cX12_rowOf 127 = .ok (.aload_n 0, 1) := by decide +kernel
theorem dX12_rowOf_128 : decode cX12_rowOf 128 = .ok (.getfield 139, 3) := by decide +kernel
theorem dX12_rowOf_131 : decode cX12_rowOf 131 = .ok (.iload 4, 2) := by decide +kernel
theorem dX12_rowOf_133 : decode cX12_rowOf 133 = .ok (.iaload, 1) := by decide +kernel
theorem dX12_rowOf_134 : decode cX12_rowOf 134 = .ok (.aload_n 0, 1) := by decide +kernel
theorem dX12_rowOf_135 : decode cX12_rowOf 135 = .ok (.getfield 139, 3) := by decide +kernel
theorem dX12_rowOf_138 : decode cX12_rowOf 138 = .ok (.iload_n 3, 1) := by decide +kernel
theorem dX12_rowOf_139 : decode cX12_rowOf 139 = .ok (.iaload, 1) := by decide +kernel
theorem dX12_rowOf_140 : decode cX12_rowOf 140 = .ok (.if_icmp .ge 8, 3) := by decide +kernel
theorem dX12_rowOf_143 : decode cX12_rowOf 143 = .ok (.iload 4, 2) := by decide +kernel
theorem dX12_rowOf_145 : decode cX12_rowOf 145 = .ok (.goto 4, 3) := by decide +kernel
theorem dX12_rowOf_148 : decode cX12_rowOf 148 = .ok (.iload_n 3, 1) := by decide +kernel
theorem dX12_rowOf_149 : decode cX12_rowOf 149 = .ok (.istore_n 3, 1) := by decide +kernel
theorem dX12_rowOf_150 : decode cX12_rowOf 150 = .ok (.iinc 4 1, 3) := by decide +kernel
theorem dX12_rowOf_153 : decode cX12_rowOf 153 = .ok (.goto (-148), 3) := by decide +kernel
theorem dX12_rowOf_156 : decode cX12_rowOf 156 = .ok (.iload_n 3, 1) := by decide +kernel
theorem dX12_rowOf_157 : decode cX12_rowOf 157 = .ok (.ireturn, 1) := by decide +kernel
theorem dX12_plays_0 : decode cX12_plays 0 = .ok (.aload_n 0, 1) := by decide +kernel
theorem dX12_plays_1 : decode cX12_plays 1 = .ok (.getfield 292, 3) := by decide +kernel
theorem dX12_plays_4 : decode cX12_plays 4 = .ok (.aload_n 0, 1) := by decide +kernel
theorem dX12_plays_5 : decode cX12_plays 5 = .ok (.getfield 408, 3) := by decide +kernel
theorem dX12_plays_8 : decode cX12_plays 8 = .ok (.iadd, 1) := by decide +kernel
theorem dX12_plays_9 : decode cX12_plays 9 = .ok (.iconst 1, 1) := by decide +kernel
theorem dX12_plays_10 : decode cX12_plays 10 = .ok (.iadd, 1) := by decide +kernel
theorem dX12_plays_11 : decode cX12_plays 11 = .ok (.istore_n 1, 1) := by decide +kernel
theorem dX12_plays_12 : decode cX12_plays 12 = .ok (.iload_n 1, 1) := by decide +kernel
theorem dX12_plays_13 : decode cX12_plays 13 = .ok (.iconst 1, 1) := by decide +kernel
theorem dX12_plays_14 : decode cX12_plays 14 = .ok (.isub, 1) := by decide +kernel
theorem dX12_plays_15 : decode cX12_plays 15 = .ok (.istore_n 2, 1) := by decide +kernel
theorem dX12_plays_16 : decode cX12_plays 16 = .ok (.iconst 0, 1) := by decide +kernel
theorem dX12_plays_17 : decode cX12_plays 17 = .ok (.istore_n 3, 1) := by decide +kernel
theorem dX12_plays_18 : decode cX12_plays 18 = .ok (.iload_n 3, 1) := by decide +kernel
theorem dX12_plays_19 : decode cX12_plays 19 = .ok (.aload_n 0, 1) := by decide +kernel
theorem dX12_plays_20 : decode cX12_plays 20 = .ok (.getfield 408, 3) := by decide +kernel
theorem dX12_plays_23 : decode cX12_plays 23 = .ok (.if_icmp .gt 136, 3) := by decide +kernel
theorem dX12_plays_26 : decode cX12_plays 26 = .ok (.iconst 0, 1) := by decide +kernel
theorem dX12_plays_27 : decode cX12_plays 27 = .ok (.istore 4, 2) := by decide +kernel
theorem dX12_plays_29 : decode cX12_plays 29 = .ok (.iload 4, 2) := by decide +kernel
theorem dX12_plays_31 : decode cX12_plays 31 = .ok (.iload_n 1, 1) := by decide +kernel
theorem dX12_plays_32 : decode cX12_plays 32 = .ok (.if_icmp .ge 101, 3) := by decide +kernel
theorem dX12_plays_35 : decode cX12_plays 35 = .ok (.iload_n 3, 1) := by decide +kernel
theorem dX12_plays_36 : decode cX12_plays 36 = .ok (.aload_n 0, 1) := by decide +kernel
theorem dX12_plays_37 : decode cX12_plays 37 = .ok (.getfield 408, 3) := by decide +kernel
theorem dX12_plays_40 : decode cX12_plays 40 = .ok (.if_icmp .ne 7, 3) := by decide +kernel
theorem dX12_plays_43 : decode cX12_plays 43 = .ok (.iconst 1, 1) := by decide +kernel
theorem dX12_plays_44 : decode cX12_plays 44 = .ok (.goto 4, 3) := by decide +kernel
theorem dX12_plays_47 : decode cX12_plays 47 = .ok (.iconst 0, 1) := by decide +kernel
theorem dX12_plays_48 : decode cX12_plays 48 = .ok (.istore 5, 2) := by decide +kernel
theorem dX12_plays_50 : decode cX12_plays 50 = .ok (.aload_n 0, 1) := by decide +kernel
theorem dX12_plays_51 : decode cX12_plays 51 = .ok (.iload_n 3, 1) := by decide +kernel
theorem dX12_plays_52 : decode cX12_plays 52 = .ok (.iload 4, 2) := by decide +kernel
theorem dX12_plays_54 : decode cX12_plays 54 = .ok (.iload 5, 2) := by decide +kernel
theorem dX12_plays_56 : decode cX12_plays 56 = .ok (.ifCond .eq 20, 3) := by decide +kernel
theorem dX12_plays_59 : decode cX12_plays 59 = .ok (.iload 4, 2) := by decide +kernel
theorem dX12_plays_61 : decode cX12_plays 61 = .ok (.aload_n 0, 1) := by decide +kernel
theorem dX12_plays_62 : decode cX12_plays 62 = .ok (.getfield 292, 3) := by decide +kernel
theorem dX12_plays_65 : decode cX12_plays 65 = .ok (.if_icmp .ge 7, 3) := by decide +kernel
theorem dX12_plays_68 : decode cX12_plays 68 = .ok (.iconst (-1), 1) := by decide +kernel
theorem dX12_plays_69 : decode cX12_plays 69 = .ok (.goto 55, 3) := by decide +kernel
theorem dX12_plays_72 : decode cX12_plays 72 = .ok (.iconst 0, 1) := by decide +kernel
theorem dX12_plays_73 : decode cX12_plays 73 = .ok (.goto 51, 3) := by decide +kernel
theorem dX12_plays_76 : decode cX12_plays 76 = .ok (.iload 4, 2) := by decide +kernel
theorem dX12_plays_78 : decode cX12_plays 78 = .ok (.aload_n 0, 1) := by decide +kernel
theorem dX12_plays_79 : decode cX12_plays 79 = .ok (.getfield 292, 3) := by decide +kernel
theorem dX12_plays_82 : decode cX12_plays 82 = .ok (.if_icmp .ge 20, 3) := by decide +kernel
theorem dX12_plays_85 : decode cX12_plays 85 = .ok (.aload_n 0, 1) := by decide +kernel
theorem dX12_plays_86 : decode cX12_plays 86 = .ok (.iload_n 3, 1) := by decide +kernel
theorem dX12_plays_87 : decode cX12_plays 87 = .ok (.aload_n 0, 1) := by decide +kernel
theorem dX12_plays_88 : decode cX12_plays 88 = .ok (.getfield 85, 3) := by decide +kernel
theorem dX12_plays_91 : decode cX12_plays 91 = .ok (.iload 4, 2) := by decide +kernel
theorem dX12_plays_93 : decode cX12_plays 93 = .ok (.iaload, 1) := by decide +kernel
theorem dX12_plays_94 : decode cX12_plays 94 = .ok (.invokevirtual 421, 3) := by decide +kernel
theorem dX12_plays_97 : decode cX12_plays 97 = .ok (.iconst 1, 1) := by decide +kernel
theorem dX12_plays_98 : decode cX12_plays 98 = .ok (.iadd, 1) := by decide +kernel
theorem dX12_plays_99 : decode cX12_plays 99 = .ok (.goto 25, 3) := by decide +kernel
theorem dX12_plays_102 : decode cX12_plays 102 = .ok (.iload 4, 2) := by decide +kernel
theorem dX12_plays_104 : decode cX12_plays 104 = .ok (.iload_n 2, 1) := by decide +kernel
theorem dX12_plays_105 : decode cX12_plays 105 = .ok (.if_icmp .eq 14, 3) := by decide +kernel
theorem dX12_plays_108 : decode cX12_plays 108 = .ok (.iload 4, 2) := by decide +kernel
theorem dX12_plays_110 : decode cX12_plays 110 = .ok (.aload_n 0, 1) := by decide +kernel
theorem dX12_plays_111 : decode cX12_plays 111 = .ok (.getfield 292, 3) := by decide +kernel
theorem dX12_plays_114 : decode cX12_plays 114 = .ok (.iload_n 3, 1) := by decide +kernel
theorem dX12_plays_115 : decode cX12_plays 115 = .ok (.iadd, 1) := by decide +kernel
theorem dX12_plays_116 : decode cX12_plays 116 = .ok (.if_icmp .ne 7, 3) := by decide +kernel
theorem dX12_plays_119 : decode cX12_plays 119 = .ok (.iconst 1, 1) := by decide +kernel
theorem dX12_plays_120 : decode cX12_plays 120 = .ok (.goto 4, 3) := by decide +kernel
theorem dX12_plays_123 : decode cX12_plays 123 = .ok (.iconst 0, 1) := by decide +kernel
theorem dX12_plays_124 : decode cX12_plays 124 = .ok (.invokevirtual 424, 3) := by decide +kernel
theorem dX12_plays_127 : decode cX12_plays 127 = .ok (.iinc 4 1, 3) := by decide +kernel
theorem dX12_plays_130 : decode cX12_plays 130 = .ok (.goto (-101), 3) := by decide +kernel
theorem dX12_plays_133 : decode cX12_plays 133 = .ok (.iload_n 3, 1) := by decide +kernel
theorem dX12_plays_134 : decode cX12_plays 134 = .ok (.aload_n 0, 1) := by decide +kernel
theorem dX12_plays_135 : decode cX12_plays 135 = .ok (.getfield 408, 3) := by decide +kernel
theorem dX12_plays_138 : decode cX12_plays 138 = .ok (.if_icmp .ge 15, 3) := by decide +kernel
theorem dX12_plays_141 : decode cX12_plays 141 = .ok (.aload_n 0, 1) := by decide +kernel
theorem dX12_plays_142 : decode cX12_plays 142 = .ok (.getfield 139, 3) := by decide +kernel
theorem dX12_plays_145 : decode cX12_plays 145 = .ok (.iload_n 3, 1) := by decide +kernel
theorem dX12_plays_146 : decode cX12_plays 146 = .ok (.aload_n 0, 1) := by decide +kernel
theorem dX12_plays_147 : decode cX12_plays 147 = .ok (.getfield 292, 3) := by decide +kernel
theorem dX12_plays_150 : decode cX12_plays 150 = .ok (.iload_n 3, 1) := by decide +kernel
theorem dX12_plays_151 : decode cX12_plays 151 = .ok (.iadd, 1) := by decide +kernel
theorem dX12_plays_152 : decode cX12_plays 152 = .ok (.iastore, 1) := by decide +kernel
theorem dX12_plays_153 : decode cX12_plays 153 = .ok (.iinc 3 1, 3) := by decide +kernel
theorem dX12_plays_156 : decode cX12_plays 156 = .ok (.goto (-138), 3) := by decide +kernel
theorem dX12_plays_159 : decode cX12_plays 159 = .ok (.aload_n 0, 1) := by decide +kernel
theorem dX12_plays_160 : decode cX12_plays 160 = .ok (.sipush 700, 3) := by decide +kernel
theorem dX12_plays_163 : decode cX12_plays 163 = .ok (.iconst 1, 1) := by decide +kernel
theorem dX12_plays_164 : decode cX12_plays 164 = .ok (.invokevirtual 175, 3) := by decide +kernel
theorem dX12_plays_167 : decode cX12_plays 167 = .ok (.iconst 1, 1) := by decide +kernel
theorem dX12_plays_168 : decode cX12_plays 168 = .ok (.istore_n 3, 1) := by decide +kernel
theorem dX12_plays_169 : decode cX12_plays 169 = .ok (.iload_n 3, 1) := by decide +kernel
theorem dX12_plays_170 : decode cX12_plays 170 = .ok (.ifCond .eq 69, 3) := by decide +kernel
theorem dX12_plays_173 : decode cX12_plays 173 = .ok (.iconst 0, 1) := by decide +kernel
theorem dX12_plays_174 : decode cX12_plays 174 = .ok (.istore 4, 2) := by decide +kernel
theorem dX12_plays_176 : decode cX12_plays 176 = .ok (.iload 4, 2) := by decide +kernel
theorem dX12_plays_178 : decode cX12_plays 178 = .ok (.iload_n 2, 1) := by decide +kernel
theorem dX12_plays_179 : decode cX12_plays 179 = .ok (.if_icmp .ge 27, 3) := by decide +kernel
theorem dX12_plays_182 : decode cX12_plays 182 = .ok (.aload_n 0, 1) := by decide +kernel
theorem dX12_plays_183 : decode cX12_plays 183 = .ok (.getfield 136, 3) := by decide +kernel
theorem dX12_plays_186 : decode cX12_plays 186 = .ok (.aload_n 0, 1) := by decide +kernel
theorem dX12_plays_187 : decode cX12_plays 187 = .ok (.aload_n 0, 1) := by decide +kernel
theorem dX12_plays_188 : decode cX12_plays 188 = .ok (.getfield 408, 3) := by decide +kernel
theorem dX12_plays_191 : decode cX12_plays 191 = .ok (.iload 4, 2) := by decide +kernel
theorem dX12_plays_193 : decode cX12_plays 193 = .ok (.invokevirtual 411, 3) := by decide +kernel
theorem dX12_plays_196 : decode cX12_plays 196 = .ok (.baload, 1) := by decide +kernel
theorem dX12_plays_197 : decode cX12_plays 197 = .ok (.ifCond .ne 9, 3) := by decide +kernel
theorem dX12_plays_200 : decode cX12_plays 200 = .ok (.iinc 4 1, 3) := by decide +kernel
theorem dX12_plays_203 : decode cX12_plays 203 = .ok (.goto (-27), 3) := by decide +kernel
theorem dX12_plays_206 : decode cX12_plays 206 = .ok (.iload 4, 2) := by decide +kernel
theorem dX12_plays_208 : decode cX12_plays 208 = .ok (.iload_n 2, 1) := by decide +kernel
theorem dX12_plays_209 : decode cX12_plays 209 = .ok (.if_icmp .ge 7, 3) := by decide +kernel
theorem dX12_plays_212 : decode cX12_plays 212 = .ok (.iconst 1, 1) := by decide +kernel
theorem dX12_plays_213 : decode cX12_plays 213 = .ok (.goto 4, 3) := by decide +kernel
theorem dX12_plays_216 : decode cX12_plays 216 = .ok (.iconst 0, 1) := by decide +kernel
theorem dX12_plays_217 : decode cX12_plays 217 = .ok (.istore_n 3, 1) := by decide +kernel
theorem dX12_plays_218 : decode cX12_plays 218 = .ok (.iload_n 3, 1) := by decide +kernel
theorem dX12_plays_219 : decode cX12_plays 219 = .ok (.ifCond .eq 17, 3) := by decide +kernel
theorem dX12_plays_222 : decode cX12_plays 222 = .ok (.aload_n 0, 1) := by decide +kernel
theorem dX12_plays_223 : decode cX12_plays 223 = .ok (.aload_n 0, 1) := by decide +kernel
theorem dX12_plays_224 : decode cX12_plays 224 = .ok (.iload 4, 2) := by decide +kernel
theorem dX12_plays_226 : decode cX12_plays 226 = .ok (.iload_n 2, 1) := by decide +kernel
theorem dX12_plays_227 : decode cX12_plays 227 = .ok (.invokevirtual 427, 3) := by decide +kernel
theorem dX12_plays_230 : decode cX12_plays 230 = .ok (.iload 4, 2) := by decide +kernel
theorem dX12_plays_232 : decode cX12_plays 232 = .ok (.iload_n 1, 1) := by decide +kernel
theorem dX12_plays_233 : decode cX12_plays 233 = .ok (.invokevirtual 430, 3) := by decide +kernel
theorem dX12_plays_236 : decode cX12_plays 236 = .ok (.goto (-67), 3) := by decide +kernel
theorem dX12_plays_239 : decode cX12_plays 239 = .ok (.aload_n 0, 1) := by decide +kernel
theorem dX12_plays_240 : decode cX12_plays 240 = .ok (.sipush 4507, 3) := by decide +kernel
theorem dX12_plays_243 : decode cX12_plays 243 = .ok (.sipush 700, 3) := by decide +kernel
theorem dX12_plays_246 : decode cX12_plays 246 = .ok (.invokevirtual 333, 3) := by decide +kernel
theorem dX12_plays_249 : decode cX12_plays 249 = .ok (.aload_n 0, 1) := by decide +kernel
theorem dX12_plays_250 : decode cX12_plays 250 = .ok (.sipush 4507, 3) := by decide +kernel
theorem dX12_plays_253 : decode cX12_plays 253 = .ok (.sipush 402, 3) := by decide +kernel
theorem dX12_plays_256 : decode cX12_plays 256 = .ok (.aload_n 0, 1) := by decide +kernel
theorem dX12_plays_257 : decode cX12_plays 257 = .ok (.aload_n 0, 1) := by decide +kernel
theorem dX12_plays_258 : decode cX12_plays 258 = .ok (.getfield 408, 3) := by decide +kernel
theorem dX12_plays_261 : decode cX12_plays 261 = .ok (.iload_n 2, 1) := by decide +kernel
theorem dX12_plays_262 : decode cX12_plays 262 = .ok (.invokevirtual 411, 3) := by decide +kernel
theorem dX12_plays_265 : decode cX12_plays 265 = .ok (.iadd, 1) := by decide +kernel
theorem dX12_plays_266 : decode cX12_plays 266 = .ok (.invokevirtual 330, 3) := by decide +kernel
theorem dX12_plays_269 : decode cX12_plays 269 = .ok (.aload_n 0, 1) := by decide +kernel
theorem dX12_plays_270 : decode cX12_plays 270 = .ok (.sipush 4505, 3) := by decide +kernel
theorem dX12_plays_273 : decode cX12_plays 273 = .ok (.sipush 402, 3) := by decide +kernel
theorem dX12_plays_276 : decode cX12_plays 276 = .ok (.aload_n 0, 1) := by decide +kernel
theorem dX12_plays_277 : decode cX12_plays 277 = .ok (.aload_n 0, 1) := by decide +kernel
theorem dX12_plays_278 : decode cX12_plays 278 = .ok (.getfield 408, 3) := by decide +kernel
theorem dX12_plays_281 : decode cX12_plays 281 = .ok (.iload_n 2, 1) := by decide +kernel
theorem dX12_plays_282 : decode cX12_plays 282 = .ok (.invokevirtual 411, 3) := by decide +kernel
theorem dX12_plays_285 : decode cX12_plays 285 = .ok (.iadd, 1) := by decide +kernel
theorem dX12_plays_286 : decode cX12_plays 286 = .ok (.invokevirtual 333, 3) := by decide +kernel
theorem dX12_plays_289 : decode cX12_plays 289 = .ok (.aload_n 0, 1) := by decide +kernel
theorem dX12_plays_290 : decode cX12_plays 290 = .ok (.sipush 4507, 3) := by decide +kernel
theorem dX12_plays_293 : decode cX12_plays 293 = .ok (.sipush 4505, 3) := by decide +kernel
theorem dX12_plays_296 : decode cX12_plays 296 = .ok (.invokevirtual 384, 3) := by decide +kernel
theorem dX12_plays_299 : decode cX12_plays 299 = .ok (.return_, 1) := by decide +kernel
theorem dX12_game_0 : decode cX12_game 0 = .ok (.aload_n 0, 1) := by decide +kernel
theorem dX12_game_1 : decode cX12_game 1 = .ok (.iload_n 1, 1) := by decide +kernel
theorem dX12_game_2 : decode cX12_game 2 = .ok (.iconst 1, 1) := by decide +kernel
theorem dX12_game_3 : decode cX12_game 3 = .ok (.invokevirtual 271, 3) := by decide +kernel
theorem dX12_game_6 : decode cX12_game 6 = .ok (.istore_n 2, 1) := by decide +kernel
theorem dX12_game_7 : decode cX12_game 7 = .ok (.iload_n 2, 1) := by decide +kernel
theorem dX12_game_8 : decode cX12_game 8 = .ok (.iconst 1, 1) := by decide +kernel
theorem dX12_game_9 : decode cX12_game 9 = .ok (.if_icmp .eq 5, 3) := by decide +kernel
theorem dX12_game_12 : decode cX12_game 12 = .ok (.iload_n 2, 1) := by decide +kernel
theorem dX12_game_13 : decode cX12_game 13 = .ok (.ireturn, 1) := by decide +kernel
theorem dX12_game_14 : decode cX12_game 14 = .ok (.aload_n 0, 1) := by decide +kernel
theorem dX12_game_15 : decode cX12_game 15 = .ok (.getfield 408, 3) := by decide +kernel
theorem dX12_game_18 : decode cX12_game 18 = .ok (.ifCond .ne 6, 3) := by decide +kernel
theorem dX12_game_21 : decode cX12_game 21 = .ok (.bipush (-3), 2) := by decide +kernel
theorem dX12_game_23 : decode cX12_game 23 = .ok (.ireturn, 1) := by decide +kernel
theorem dX12_game_24 : decode cX12_game 24 = .ok (.aload_n 0, 1) := by decide +kernel
theorem dX12_game_25 : decode cX12_game 25 = .ok (.aload_n 0, 1) := by decide +kernel
theorem dX12_game_26 : decode cX12_game 26 = .ok (.getfield 49, 3) := by decide +kernel
theorem dX12_game_29 : decode cX12_game 29 = .ok (.iload_n 1, 1) := by decide +kernel
theorem dX12_game_30 : decode cX12_game 30 = .ok (.iaload, 1) := by decide +kernel
theorem dX12_game_31 : decode cX12_game 31 = .ok (.invokevirtual 298, 3) := by decide +kernel
theorem dX12_game_34 : decode cX12_game 34 = .ok (.ifCond .eq 12, 3) := by decide +kernel
theorem dX12_game_37 : decode cX12_game 37 = .ok (.aload_n 0, 1) := by decide +kernel
theorem dX12_game_38 : decode cX12_game 38 = .ok (.getfield 292, 3) := by decide +kernel
theorem dX12_game_41 : decode cX12_game 41 = .ok (.bipush 24, 2) := by decide +kernel
theorem dX12_game_43 : decode cX12_game 43 = .ok (.if_icmp .le 6, 3) := by decide +kernel
theorem dX12_game_46 : decode cX12_game 46 = .ok (.bipush (-5), 2) := by decide +kernel
theorem dX12_game_48 : decode cX12_game 48 = .ok (.ireturn, 1) := by decide +kernel
theorem dX12_game_49 : decode cX12_game 49 = .ok (.aload_n 0, 1) := by decide +kernel
theorem dX12_game_50 : decode cX12_game 50 = .ok (.invokevirtual 433, 3) := by decide +kernel
theorem dX12_game_53 : decode cX12_game 53 = .ok (.iconst 1, 1) := by decide +kernel
theorem dX12_game_54 : decode cX12_game 54 = .ok (.ireturn, 1) := by decide +kernel
theorem dX12_insider_0 : decode cX12_insider 0 = .ok (.iload_n 1, 1) := by decide +kernel
theorem dX12_insider_1 : decode cX12_insider 1 = .ok (.invokestatic 279, 3) := by decide +kernel
theorem dX12_insider_4 : decode cX12_insider 4 = .ok (.ifCond .ne 6, 3) := by decide +kernel
theorem dX12_insider_7 : decode cX12_insider 7 = .ok (.bipush (-2), 2) := by decide +kernel
theorem dX12_insider_9 : decode cX12_insider 9 = .ok (.ireturn, 1) := by decide +kernel
theorem dX12_insider_10 : decode cX12_insider 10 = .ok (.aload_n 0, 1) := by decide +kernel
theorem dX12_insider_11 : decode cX12_insider 11 = .ok (.getfield 436, 3) := by decide +kernel
theorem dX12_insider_14 : decode cX12_insider 14 = .ok (.bipush 6, 2) := by decide +kernel
theorem dX12_insider_16 : decode cX12_insider 16 = .ok (.if_icmp .ne 6, 3) := by decide +kernel
theorem dX12_insider_19 : decode cX12_insider 19 = .ok (.bipush (-4), 2) := by decide +kernel
theorem dX12_insider_21 : decode cX12_insider 21 = .ok (.ireturn, 1) := by decide +kernel
theorem dX12_insider_22 : decode cX12_insider 22 = .ok (.aload_n 0, 1) := by decide +kernel
theorem dX12_insider_23 : decode cX12_insider 23 = .ok (.getfield 142, 3) := by decide +kernel
theorem dX12_insider_26 : decode cX12_insider 26 = .ok (.aload_n 0, 1) := by decide +kernel
theorem dX12_insider_27 : decode cX12_insider 27 = .ok (.getfield 436, 3) := by decide +kernel
theorem dX12_insider_30 : decode cX12_insider 30 = .ok (.iload_n 1, 1) := by decide +kernel
theorem dX12_insider_31 : decode cX12_insider 31 = .ok (.iastore, 1) := by decide +kernel
theorem dX12_insider_32 : decode cX12_insider 32 = .ok (.aload_n 0, 1) := by decide +kernel
theorem dX12_insider_33 : decode cX12_insider 33 = .ok (.dup, 1) := by decide +kernel
theorem dX12_insider_34 : decode cX12_insider 34 = .ok (.getfield 436, 3) := by decide +kernel
theorem dX12_insider_37 : decode cX12_insider 37 = .ok (.iconst 1, 1) := by decide +kernel
theorem dX12_insider_38 : decode cX12_insider 38 = .ok (.iadd, 1) := by decide +kernel
theorem dX12_insider_39 : decode cX12_insider 39 = .ok (.putfield 436, 3) := by decide +kernel
theorem dX12_insider_42 : decode cX12_insider 42 = .ok (.aload_n 0, 1) := by decide +kernel
theorem dX12_insider_43 : decode cX12_insider 43 = .ok (.getfield 436, 3) := by decide +kernel
theorem dX12_insider_46 : decode cX12_insider 46 = .ok (.iconst 1, 1) := by decide +kernel
theorem dX12_insider_47 : decode cX12_insider 47 = .ok (.isub, 1) := by decide +kernel
theorem dX12_insider_48 : decode cX12_insider 48 = .ok (.ireturn, 1) := by decide +kernel
theorem dX12_given_0 : decode cX12_given 0 = .ok (.iconst 0, 1) := by decide +kernel
theorem dX12_given_1 : decode cX12_given 1 = .ok (.istore_n 2, 1) := by decide +kernel
theorem dX12_given_2 : decode cX12_given 2 = .ok (.iconst 0, 1) := by decide +kernel
theorem dX12_given_3 : decode cX12_given 3 = .ok (.istore_n 3, 1) := by decide +kernel
theorem dX12_given_4 : decode cX12_given 4 = .ok (.iload_n 3, 1) := by decide +kernel
theorem dX12_given_5 : decode cX12_given 5 = .ok (.aload_n 0, 1) := by decide +kernel
theorem dX12_given_6 : decode cX12_given 6 = .ok (.getfield 436, 3) := by decide +kernel
theorem dX12_given_9 : decode cX12_given 9 = .ok (.if_icmp .ge 31, 3) := by decide +kernel
theorem dX12_given_12 : decode cX12_given 12 = .ok (.iload_n 2, 1) := by decide +kernel
theorem dX12_given_13 : decode cX12_given 13 = .ok (.iload_n 1, 1) := by decide +kernel
theorem dX12_given_14 : decode cX12_given 14 = .ok (.iload_n 3, 1) := by decide +kernel
theorem dX12_given_15 : decode cX12_given 15 = .ok (.ishr, 1) := by decide +kernel
theorem dX12_given_16 : decode cX12_given 16 = .ok (.iconst 1, 1) := by decide +kernel
theorem dX12_given_17 : decode cX12_given 17 = .ok (.iand, 1) := by decide +kernel
theorem dX12_given_18 : decode cX12_given 18 = .ok (.iconst 1, 1) := by decide +kernel
theorem dX12_given_19 : decode cX12_given 19 = .ok (.if_icmp .ne 12, 3) := by decide +kernel
theorem dX12_given_22 : decode cX12_given 22 = .ok (.aload_n 0, 1) := by decide +kernel
theorem dX12_given_23 : decode cX12_given 23 = .ok (.getfield 142, 3) := by decide +kernel
theorem dX12_given_26 : decode cX12_given 26 = .ok (.iload_n 3, 1) := by decide +kernel
theorem dX12_given_27 : decode cX12_given 27 = .ok (.iaload, 1) := by decide +kernel
theorem dX12_given_28 : decode cX12_given 28 = .ok (.goto 4, 3) := by decide +kernel
theorem dX12_given_31 : decode cX12_given 31 = .ok (.iconst 0, 1) := by decide +kernel
theorem dX12_given_32 : decode cX12_given 32 = .ok (.ior, 1) := by decide +kernel
theorem dX12_given_33 : decode cX12_given 33 = .ok (.istore_n 2, 1) := by decide +kernel
theorem dX12_given_34 : decode cX12_given 34 = .ok (.iinc 3 1, 3) := by decide +kernel
theorem dX12_given_37 : decode cX12_given 37 = .ok (.goto (-33), 3) := by decide +kernel
theorem dX12_given_40 : decode cX12_given 40 = .ok (.iload_n 2, 1) := by decide +kernel
theorem dX12_given_41 : decode cX12_given 41 = .ok (.ireturn, 1) := by decide +kernel
theorem dX12_cheapest_0 : decode cX12_cheapest 0 = .ok (.aload_n 0, 1) := by decide +kernel
theorem dX12_cheapest_1 : decode cX12_cheapest 1 = .ok (.aload_n 0, 1) := by decide +kernel
theorem dX12_cheapest_2 : decode cX12_cheapest 2 = .ok (.getfield 85, 3) := by decide +kernel
theorem dX12_cheapest_5 : decode cX12_cheapest 5 = .ok (.aload_n 0, 1) := by decide +kernel
theorem dX12_cheapest_6 : decode cX12_cheapest 6 = .ok (.iconst 0, 1) := by decide +kernel
theorem dX12_cheapest_7 : decode cX12_cheapest 7 = .ok (.iload_n 1, 1) := by decide +kernel
theorem dX12_cheapest_8 : decode cX12_cheapest 8 = .ok (.invokevirtual 308, 3) := by decide +kernel
theorem dX12_cheapest_11 : decode cX12_cheapest 11 = .ok (.iaload, 1) := by decide +kernel
theorem dX12_cheapest_12 : decode cX12_cheapest 12 = .ok (.iconst 0, 1) := by decide +kernel
theorem dX12_cheapest_13 : decode cX12_cheapest 13 = .ok (.iload_n 1, 1) := by decide +kernel
theorem dX12_cheapest_14 : decode cX12_cheapest 14 = .ok (.invokevirtual 304, 3) := by decide +kernel
theorem dX12_cheapest_17 : decode cX12_cheapest 17 = .ok (.ireturn, 1) := by decide +kernel
theorem dX12_worst_0 : decode cX12_worst 0 = .ok (.aload_n 0, 1) := by decide +kernel
theorem dX12_worst_1 : decode cX12_worst 1 = .ok (.iload_n 1, 1) := by decide +kernel
theorem dX12_worst_2 : decode cX12_worst 2 = .ok (.iload_n 2, 1) := by decide +kernel
theorem dX12_worst_3 : decode cX12_worst 3 = .ok (.iconst 0, 1) := by decide +kernel
theorem dX12_worst_4 : decode cX12_worst 4 = .ok (.aload_n 0, 1) := by decide +kernel
theorem dX12_worst_5 : decode cX12_worst 5 = .ok (.getfield 436, 3) := by decide +kernel
theorem dX12_worst_8 : decode cX12_worst 8 = .ok (.invokestatic 179, 3) := by decide +kernel
theorem dX12_worst_11 : decode cX12_worst 11 = .ok (.ifCond .eq 16, 3) := by decide +kernel
theorem dX12_worst_14 : decode cX12_worst 14 = .ok (.iload_n 3, 1) := by decide +kernel
theorem dX12_worst_15 : decode cX12_worst 15 = .ok (.iconst 0, 1) := by decide +kernel
theorem dX12_worst_16 : decode cX12_worst 16 = .ok (.iconst 1, 1) := by decide +kernel
theorem dX12_worst_17 : decode cX12_worst 17 = .ok (.invokestatic 179, 3) := by decide +kernel
theorem dX12_worst_20 : decode cX12_worst 20 = .ok (.ifCond .eq 7, 3) := by decide +kernel
theorem dX12_worst_23 : decode cX12_worst 23 = .ok (.iconst 1, 1) := by decide +kernel
theorem dX12_worst_24 : decode cX12_worst 24 = .ok (.goto 4, 3) := by decide +kernel
theorem dX12_worst_27 : decode cX12_worst 27 = .ok (.iconst 0, 1) := by decide +kernel
theorem dX12_worst_28 : decode cX12_worst 28 = .ok (.invokevirtual 301, 3) := by decide +kernel
theorem dX12_worst_31 : decode cX12_worst 31 = .ok (.istore 4, 2) := by decide +kernel
theorem dX12_worst_33 : decode cX12_worst 33 = .ok (.iload 4, 2) := by decide +kernel
theorem dX12_worst_35 : decode cX12_worst 35 = .ok (.iconst 1, 1) := by decide +kernel
theorem dX12_worst_36 : decode cX12_worst 36 = .ok (.if_icmp .eq 6, 3) := by decide +kernel
theorem dX12_worst_39 : decode cX12_worst 39 = .ok (.iload 4, 2) := by decide +kernel
theorem dX12_worst_41 : decode cX12_worst 41 = .ok (.ireturn, 1) := by decide +kernel
theorem dX12_worst_42 : decode cX12_worst 42 = .ok (.iconst (-1), 1) := by decide +kernel
theorem dX12_worst_43 : decode cX12_worst 43 = .ok (.istore 5, 2) := by decide +kernel
theorem dX12_worst_45 : decode cX12_worst 45 = .ok (.iconst 0, 1) := by decide +kernel
theorem dX12_worst_46 : decode cX12_worst 46 = .ok (.istore 6, 2) := by decide +kernel
theorem dX12_worst_48 : decode cX12_worst 48 = .ok (.iload 6, 2) := by decide +kernel
theorem dX12_worst_50 : decode cX12_worst 50 = .ok (.iconst 1, 1) := by decide +kernel
theorem dX12_worst_51 : decode cX12_worst 51 = .ok (.aload_n 0, 1) := by decide +kernel
theorem dX12_worst_52 : decode cX12_worst 52 = .ok (.getfield 436, 3) := by decide +kernel
theorem dX12_worst_55 : decode cX12_worst 55 = .ok (.ishl, 1) := by decide +kernel
theorem dX12_worst_56 : decode cX12_worst 56 = .ok (.if_icmp .ge 51, 3) := by decide +kernel
theorem dX12_worst_59 : decode cX12_worst 59 = .ok (.iload 6, 2) := by decide +kernel
theorem dX12_worst_61 : decode cX12_worst 61 = .ok (.invokestatic 295, 3) := by decide +kernel
theorem dX12_worst_64 : decode cX12_worst 64 = .ok (.iload_n 2, 1) := by decide +kernel
theorem dX12_worst_65 : decode cX12_worst 65 = .ok (.if_icmp .ne 36, 3) := by decide +kernel
theorem dX12_worst_68 : decode cX12_worst 68 = .ok (.iload 5, 2) := by decide +kernel
theorem dX12_worst_70 : decode cX12_worst 70 = .ok (.iconst (-1), 1) := by decide +kernel
theorem dX12_worst_71 : decode cX12_worst 71 = .ok (.if_icmp .eq 26, 3) := by decide +kernel
theorem dX12_worst_74 : decode cX12_worst 74 = .ok (.aload_n 0, 1) := by decide +kernel
theorem dX12_worst_75 : decode cX12_worst 75 = .ok (.aload_n 0, 1) := by decide +kernel
theorem dX12_worst_76 : decode cX12_worst 76 = .ok (.iload 6, 2) := by decide +kernel
theorem dX12_worst_78 : decode cX12_worst 78 = .ok (.invokevirtual 439, 3) := by decide +kernel
theorem dX12_worst_81 : decode cX12_worst 81 = .ok (.invokevirtual 442, 3) := by decide +kernel
theorem dX12_worst_84 : decode cX12_worst 84 = .ok (.aload_n 0, 1) := by decide +kernel
theorem dX12_worst_85 : decode cX12_worst 85 = .ok (.aload_n 0, 1) := by decide +kernel
theorem dX12_worst_86 : decode cX12_worst 86 = .ok (.iload 5, 2) := by decide +kernel
theorem dX12_worst_88 : decode cX12_worst 88 = .ok (.invokevirtual 439, 3) := by decide +kernel
theorem dX12_worst_91 : decode cX12_worst 91 = .ok (.invokevirtual 442, 3) := by decide +kernel
theorem dX12_worst_94 : decode cX12_worst 94 = .ok (.if_icmp .ge 7, 3) := by decide +kernel
theorem dX12_worst_97 : decode cX12_worst 97 = .ok (.iload 6, 2) := by decide +kernel
theorem dX12_worst_99 : decode cX12_worst 99 = .ok (.istore 5, 2) := by decide +kernel
theorem dX12_worst_101 : decode cX12_worst 101 = .ok (.iinc 6 1, 3) := by decide +kernel
theorem dX12_worst_104 : decode cX12_worst 104 = .ok (.goto (-56), 3) := by decide +kernel
theorem dX12_worst_107 : decode cX12_worst 107 = .ok (.iload_n 3, 1) := by decide +kernel
theorem dX12_worst_108 : decode cX12_worst 108 = .ok (.ifCond .ne 16, 3) := by decide +kernel
theorem dX12_worst_111 : decode cX12_worst 111 = .ok (.aload_n 0, 1) := by decide +kernel
theorem dX12_worst_112 : decode cX12_worst 112 = .ok (.aload_n 0, 1) := by decide +kernel
theorem dX12_worst_113 : decode cX12_worst 113 = .ok (.iload 5, 2) := by decide +kernel
theorem dX12_worst_115 : decode cX12_worst 115 = .ok (.invokevirtual 439, 3) := by decide +kernel
theorem dX12_worst_118 : decode cX12_worst 118 = .ok (.invokevirtual 442, 3) := by decide +kernel
theorem dX12_worst_121 : decode cX12_worst 121 = .ok (.goto 5, 3) := by decide +kernel
theorem dX12_worst_124 : decode cX12_worst 124 = .ok (.iload 5, 2) := by decide +kernel
theorem dX12_worst_126 : decode cX12_worst 126 = .ok (.ireturn, 1) := by decide +kernel
theorem dX12_marksOf_0 : decode cX12_marksOf 0 = .ok (.iconst 0, 1) := by decide +kernel
theorem dX12_marksOf_1 : decode cX12_marksOf 1 = .ok (.istore_n 2, 1) := by decide +kernel
theorem dX12_marksOf_2 : decode cX12_marksOf 2 = .ok (.iconst 0, 1) := by decide +kernel
theorem dX12_marksOf_3 : decode cX12_marksOf 3 = .ok (.istore_n 3, 1) := by decide +kernel
theorem dX12_marksOf_4 : decode cX12_marksOf 4 = .ok (.iload_n 3, 1) := by decide +kernel
theorem dX12_marksOf_5 : decode cX12_marksOf 5 = .ok (.bipush 16, 2) := by decide +kernel
theorem dX12_marksOf_7 : decode cX12_marksOf 7 = .ok (.if_icmp .ge 31, 3) := by decide +kernel
theorem dX12_marksOf_10 : decode cX12_marksOf 10 = .ok (.iload_n 2, 1) := by decide +kernel
theorem dX12_marksOf_11 : decode cX12_marksOf 11 = .ok (.iload_n 1, 1) := by decide +kernel
theorem dX12_marksOf_12 : decode cX12_marksOf 12 = .ok (.iload_n 3, 1) := by decide +kernel
theorem dX12_marksOf_13 : decode cX12_marksOf 13 = .ok (.ishr, 1) := by decide +kernel
theorem dX12_marksOf_14 : decode cX12_marksOf 14 = .ok (.iconst 1, 1) := by decide +kernel
theorem dX12_marksOf_15 : decode cX12_marksOf 15 = .ok (.iand, 1) := by decide +kernel
theorem dX12_marksOf_16 : decode cX12_marksOf 16 = .ok (.iconst 1, 1) := by decide +kernel
theorem dX12_marksOf_17 : decode cX12_marksOf 17 = .ok (.if_icmp .ne 12, 3) := by decide +kernel
theorem dX12_marksOf_20 : decode cX12_marksOf 20 = .ok (.aload_n 0, 1) := by decide +kernel
theorem dX12_marksOf_21 : decode cX12_marksOf 21 = .ok (.getfield 19, 3) := by decide +kernel
theorem dX12_marksOf_24 : decode cX12_marksOf 24 = .ok (.iload_n 3, 1) := by decide +kernel
theorem dX12_marksOf_25 : decode cX12_marksOf 25 = .ok (.iaload, 1) := by decide +kernel
theorem dX12_marksOf_26 : decode cX12_marksOf 26 = .ok (.goto 4, 3) := by decide +kernel
theorem dX12_marksOf_29 : decode cX12_marksOf 29 = .ok (.iconst 0, 1) := by decide +kernel
theorem dX12_marksOf_30 : decode cX12_marksOf 30 = .ok (.ior, 1) := by decide +kernel
theorem dX12_marksOf_31 : decode cX12_marksOf 31 = .ok (.istore_n 2, 1) := by decide +kernel
theorem dX12_marksOf_32 : decode cX12_marksOf 32 = .ok (.iinc 3 1, 3) := by decide +kernel
theorem dX12_marksOf_35 : decode cX12_marksOf 35 = .ok (.goto (-31), 3) := by decide +kernel
theorem dX12_marksOf_38 : decode cX12_marksOf 38 = .ok (.iload_n 2, 1) := by decide +kernel
theorem dX12_marksOf_39 : decode cX12_marksOf 39 = .ok (.ireturn, 1) := by decide +kernel
theorem dX12_isMarks_0 : decode cX12_isMarks 0 = .ok (.iload_n 0, 1) := by decide +kernel
theorem dX12_isMarks_1 : decode cX12_isMarks 1 = .ok (.iconst 0, 1) := by decide +kernel
theorem dX12_isMarks_2 : decode cX12_isMarks 2 = .ok (.sipush 255, 3) := by decide +kernel
theorem dX12_isMarks_5 : decode cX12_isMarks 5 = .ok (.invokestatic 179, 3) := by decide +kernel
theorem dX12_isMarks_8 : decode cX12_isMarks 8 = .ok (.ifCond .eq 24, 3) := by decide +kernel
theorem dX12_isMarks_11 : decode cX12_isMarks 11 = .ok (.iload_n 1, 1) := by decide +kernel
theorem dX12_isMarks_12 : decode cX12_isMarks 12 = .ok (.iconst 0, 1) := by decide +kernel
theorem dX12_isMarks_13 : decode cX12_isMarks 13 = .ok (.sipush 255, 3) := by decide +kernel
theorem dX12_isMarks_16 : decode cX12_isMarks 16 = .ok (.invokestatic 179, 3) := by decide +kernel
theorem dX12_isMarks_19 : decode cX12_isMarks 19 = .ok (.ifCond .eq 13, 3) := by decide +kernel
theorem dX12_isMarks_22 : decode cX12_isMarks 22 = .ok (.iload_n 0, 1) := by decide +kernel
theorem dX12_isMarks_23 : decode cX12_isMarks 23 = .ok (.iload_n 1, 1) := by decide +kernel
theorem dX12_isMarks_24 : decode cX12_isMarks 24 = .ok (.iand, 1) := by decide +kernel
theorem dX12_isMarks_25 : decode cX12_isMarks 25 = .ok (.ifCond .ne 7, 3) := by decide +kernel
theorem dX12_isMarks_28 : decode cX12_isMarks 28 = .ok (.iconst 1, 1) := by decide +kernel
theorem dX12_isMarks_29 : decode cX12_isMarks 29 = .ok (.goto 4, 3) := by decide +kernel
theorem dX12_isMarks_32 : decode cX12_isMarks 32 = .ok (.iconst 0, 1) := by decide +kernel
theorem dX12_isMarks_33 : decode cX12_isMarks 33 = .ok (.ireturn, 1) := by decide +kernel
theorem dX12_mayBe_0 : decode cX12_mayBe 0 = .ok (.iconst 0, 1) := by decide +kernel
theorem dX12_mayBe_1 : decode cX12_mayBe 1 = .ok (.istore_n 3, 1) := by decide +kernel
theorem dX12_mayBe_2 : decode cX12_mayBe 2 = .ok (.iconst 0, 1) := by decide +kernel
theorem dX12_mayBe_3 : decode cX12_mayBe 3 = .ok (.istore 4, 2) := by decide +kernel
theorem dX12_mayBe_5 : decode cX12_mayBe 5 = .ok (.iload 4, 2) := by decide +kernel
theorem dX12_mayBe_7 : decode cX12_mayBe 7 = .ok (.aload_n 0, 1) := by decide +kernel
theorem dX12_mayBe_8 : decode cX12_mayBe 8 = .ok (.getfield 292, 3) := by decide +kernel
theorem dX12_mayBe_11 : decode cX12_mayBe 11 = .ok (.if_icmp .ge 45, 3) := by decide +kernel
theorem dX12_mayBe_14 : decode cX12_mayBe 14 = .ok (.aload_n 0, 1) := by decide +kernel
theorem dX12_mayBe_15 : decode cX12_mayBe 15 = .ok (.aload_n 0, 1) := by decide +kernel
theorem dX12_mayBe_16 : decode cX12_mayBe 16 = .ok (.getfield 85, 3) := by decide +kernel
theorem dX12_mayBe_19 : decode cX12_mayBe 19 = .ok (.iload 4, 2) := by decide +kernel
theorem dX12_mayBe_21 : decode cX12_mayBe 21 = .ok (.iaload, 1) := by decide +kernel
theorem dX12_mayBe_22 : decode cX12_mayBe 22 = .ok (.invokevirtual 445, 3) := by decide +kernel
theorem dX12_mayBe_25 : decode cX12_mayBe 25 = .ok (.istore 5, 2) := by decide +kernel
theorem dX12_mayBe_27 : decode cX12_mayBe 27 = .ok (.iload_n 3, 1) := by decide +kernel
theorem dX12_mayBe_28 : decode cX12_mayBe 28 = .ok (.iload 5, 2) := by decide +kernel
theorem dX12_mayBe_30 : decode cX12_mayBe 30 = .ok (.iload_n 1, 1) := by decide +kernel
theorem dX12_mayBe_31 : decode cX12_mayBe 31 = .ok (.iand, 1) := by decide +kernel
theorem dX12_mayBe_32 : decode cX12_mayBe 32 = .ok (.iload_n 1, 1) := by decide +kernel
theorem dX12_mayBe_33 : decode cX12_mayBe 33 = .ok (.if_icmp .ne 14, 3) := by decide +kernel
theorem dX12_mayBe_36 : decode cX12_mayBe 36 = .ok (.iload 5, 2) := by decide +kernel
theorem dX12_mayBe_38 : decode cX12_mayBe 38 = .ok (.iload_n 2, 1) := by decide +kernel
theorem dX12_mayBe_39 : decode cX12_mayBe 39 = .ok (.iand, 1) := by decide +kernel
theorem dX12_mayBe_40 : decode cX12_mayBe 40 = .ok (.ifCond .ne 7, 3) := by decide +kernel
theorem dX12_mayBe_43 : decode cX12_mayBe 43 = .ok (.iconst 1, 1) := by decide +kernel
theorem dX12_mayBe_44 : decode cX12_mayBe 44 = .ok (.goto 4, 3) := by decide +kernel
theorem dX12_mayBe_47 : decode cX12_mayBe 47 = .ok (.iconst 0, 1) := by decide +kernel
theorem dX12_mayBe_48 : decode cX12_mayBe 48 = .ok (.iadd, 1) := by decide +kernel
theorem dX12_mayBe_49 : decode cX12_mayBe 49 = .ok (.istore_n 3, 1) := by decide +kernel
theorem dX12_mayBe_50 : decode cX12_mayBe 50 = .ok (.iinc 4 1, 3) := by decide +kernel
theorem dX12_mayBe_53 : decode cX12_mayBe 53 = .ok (.goto (-48), 3) := by decide +kernel
theorem dX12_mayBe_56 : decode cX12_mayBe 56 = .ok (.iload_n 3, 1) := by decide +kernel
theorem dX12_mayBe_57 : decode cX12_mayBe 57 = .ok (.ireturn, 1) := by decide +kernel
theorem dX12_may_0 : decode cX12_may 0 = .ok (.aload_n 0, 1) := by decide +kernel
theorem dX12_may_1 : decode cX12_may 1 = .ok (.iload_n 1, 1) := by decide +kernel
theorem dX12_may_2 : decode cX12_may 2 = .ok (.iload_n 2, 1) := by decide +kernel
theorem dX12_may_3 : decode cX12_may 3 = .ok (.iload_n 3, 1) := by decide +kernel
theorem dX12_may_4 : decode cX12_may 4 = .ok (.invokestatic 448, 3) := by decide +kernel
theorem dX12_may_7 : decode cX12_may 7 = .ok (.invokevirtual 301, 3) := by decide +kernel
theorem dX12_may_10 : decode cX12_may 10 = .ok (.istore 4, 2) := by decide +kernel
theorem dX12_may_12 : decode cX12_may 12 = .ok (.iload 4, 2) := by decide +kernel
theorem dX12_may_14 : decode cX12_may 14 = .ok (.iconst 1, 1) := by decide +kernel
theorem dX12_may_15 : decode cX12_may 15 = .ok (.if_icmp .eq 8, 3) := by decide +kernel
theorem dX12_may_18 : decode cX12_may 18 = .ok (.iload 4, 2) := by decide +kernel
theorem dX12_may_20 : decode cX12_may 20 = .ok (.goto 9, 3) := by decide +kernel
theorem dX12_may_23 : decode cX12_may 23 = .ok (.aload_n 0, 1) := by decide +kernel
theorem dX12_may_24 : decode cX12_may 24 = .ok (.iload_n 2, 1) := by decide +kernel
theorem dX12_may_25 : decode cX12_may 25 = .ok (.iload_n 3, 1) := by decide +kernel
theorem dX12_may_26 : decode cX12_may 26 = .ok (.invokevirtual 451, 3) := by decide +kernel
theorem dX12_may_29 : decode cX12_may 29 = .ok (.ireturn, 1) := by decide +kernel
theorem dX12_ask_0 : decode cX12_ask 0 = .ok (.aload_n 0, 1) := by decide +kernel
theorem dX12_ask_1 : decode cX12_ask 1 = .ok (.iload_n 1, 1) := by decide +kernel
theorem dX12_ask_2 : decode cX12_ask 2 = .ok (.iload_n 2, 1) := by decide +kernel
theorem dX12_ask_3 : decode cX12_ask 3 = .ok (.iload_n 3, 1) := by decide +kernel
theorem dX12_ask_4 : decode cX12_ask 4 = .ok (.invokestatic 448, 3) := by decide +kernel
theorem dX12_ask_7 : decode cX12_ask 7 = .ok (.invokevirtual 301, 3) := by decide +kernel
theorem dX12_ask_10 : decode cX12_ask 10 = .ok (.istore 4, 2) := by decide +kernel
theorem dX12_ask_12 : decode cX12_ask 12 = .ok (.iload 4, 2) := by decide +kernel
theorem dX12_ask_14 : decode cX12_ask 14 = .ok (.iconst 1, 1) := by decide +kernel
theorem dX12_ask_15 : decode cX12_ask 15 = .ok (.if_icmp .eq 6, 3) := by decide +kernel
theorem dX12_ask_18 : decode cX12_ask 18 = .ok (.iload 4, 2) := by decide +kernel
theorem dX12_ask_20 : decode cX12_ask 20 = .ok (.ireturn, 1) := by decide +kernel
theorem dX12_ask_21 : decode cX12_ask 21 = .ok (.aload_n 0, 1) := by decide +kernel
theorem dX12_ask_22 : decode cX12_ask 22 = .ok (.iload_n 2, 1) := by decide +kernel
theorem dX12_ask_23 : decode cX12_ask 23 = .ok (.iload_n 3, 1) := by decide +kernel
theorem dX12_ask_24 : decode cX12_ask 24 = .ok (.invokevirtual 451, 3) := by decide +kernel
theorem dX12_ask_27 : decode cX12_ask 27 = .ok (.istore 5, 2) := by decide +kernel
theorem dX12_ask_29 : decode cX12_ask 29 = .ok (.iconst (-1), 1) := by decide +kernel
theorem dX12_ask_30 : decode cX12_ask 30 = .ok (.istore 6, 2) := by decide +kernel
theorem dX12_ask_32 : decode cX12_ask 32 = .ok (.iload 5, 2) := by decide +kernel
theorem dX12_ask_34 : decode cX12_ask 34 = .ok (.istore 7, 2) := by decide +kernel
theorem dX12_ask_36 : decode cX12_ask 36 = .ok (.iconst 0, 1) := by decide +kernel
theorem dX12_ask_37 : decode cX12_ask 37 = .ok (.istore 8, 2) := by decide +kernel
theorem dX12_ask_39 : decode cX12_ask 39 = .ok (.iload 8, 2) := by decide +kernel
theorem dX12_ask_41 : decode cX12_ask 41 = .ok (.bipush 8, 2) := by decide +kernel
theorem dX12_ask_43 : decode cX12_ask 43 = .ok (.if_icmp .ge 87, 3) := by decide +kernel
theorem dX12_ask_46 : decode cX12_ask 46 = .ok (.iload_n 2, 1) := by decide +kernel
theorem dX12_ask_47 : decode cX12_ask 47 = .ok (.iload_n 3, 1) := by decide +kernel
theorem dX12_ask_48 : decode cX12_ask 48 = .ok (.ior, 1) := by decide +kernel
theorem dX12_ask_49 : decode cX12_ask 49 = .ok (.iload 8, 2) := by decide +kernel
theorem dX12_ask_51 : decode cX12_ask 51 = .ok (.ishr, 1) := by decide +kernel
theorem dX12_ask_52 : decode cX12_ask 52 = .ok (.iconst 1, 1) := by decide +kernel
theorem dX12_ask_53 : decode cX12_ask 53 = .ok (.iand, 1) := by decide +kernel
theorem dX12_ask_54 : decode cX12_ask 54 = .ok (.ifCond .ne 70, 3) := by decide +kernel
theorem dX12_ask_57 : decode cX12_ask 57 = .ok (.aload_n 0, 1) := by decide +kernel
theorem dX12_ask_58 : decode cX12_ask 58 = .ok (.iload_n 2, 1) := by decide +kernel
theorem dX12_ask_59 : decode cX12_ask 59 = .ok (.iconst 1, 1) := by decide +kernel
theorem dX12_ask_60 : decode cX12_ask 60 = .ok (.iload 8, 2) := by decide +kernel
theorem dX12_ask_62 : decode cX12_ask 62 = .ok (.ishl, 1) := by decide +kernel
theorem dX12_ask_63 : decode cX12_ask 63 = .ok (.ior, 1) := by decide +kernel
theorem dX12_ask_64 : decode cX12_ask 64 = .ok (.iload_n 3, 1) := by decide +kernel
theorem dX12_ask_65 : decode cX12_ask 65 = .ok (.invokevirtual 451, 3) := by decide +kernel
theorem dX12_ask_68 : decode cX12_ask 68 = .ok (.istore 9, 2) := by decide +kernel
theorem dX12_ask_70 : decode cX12_ask 70 = .ok (.iload 9, 2) := by decide +kernel
theorem dX12_ask_72 : decode cX12_ask 72 = .ok (.iload 5, 2) := by decide +kernel
theorem dX12_ask_74 : decode cX12_ask 74 = .ok (.iload 9, 2) := by decide +kernel
theorem dX12_ask_76 : decode cX12_ask 76 = .ok (.isub, 1) := by decide +kernel
theorem dX12_ask_77 : decode cX12_ask 77 = .ok (.if_icmp .le 8, 3) := by decide +kernel
theorem dX12_ask_80 : decode cX12_ask 80 = .ok (.iload 9, 2) := by decide +kernel
theorem dX12_ask_82 : decode cX12_ask 82 = .ok (.goto 8, 3) := by decide +kernel
theorem dX12_ask_85 : decode cX12_ask 85 = .ok (.iload 5, 2) := by decide +kernel
theorem dX12_ask_87 : decode cX12_ask 87 = .ok (.iload 9, 2) := by decide +kernel
theorem dX12_ask_89 : decode cX12_ask 89 = .ok (.isub, 1) := by decide +kernel
theorem dX12_ask_90 : decode cX12_ask 90 = .ok (.istore 10, 2) := by decide +kernel
theorem dX12_ask_92 : decode cX12_ask 92 = .ok (.iload 10, 2) := by decide +kernel
theorem dX12_ask_94 : decode cX12_ask 94 = .ok (.iload 7, 2) := by decide +kernel
theorem dX12_ask_96 : decode cX12_ask 96 = .ok (.if_icmp .ge 8, 3) := by decide +kernel
theorem dX12_ask_99 : decode cX12_ask 99 = .ok (.iload 8, 2) := by decide +kernel
theorem dX12_ask_101 : decode cX12_ask 101 = .ok (.goto 5, 3) := by decide +kernel
theorem dX12_ask_104 : decode cX12_ask 104 = .ok (.iload 6, 2) := by decide +kernel
theorem dX12_ask_106 : decode cX12_ask 106 = .ok (.istore 6, 2) := by decide +kernel
theorem dX12_ask_108 : decode cX12_ask 108 = .ok (.iload 10, 2) := by decide +kernel
theorem dX12_ask_110 : decode cX12_ask 110 = .ok (.iload 7, 2) := by decide +kernel
theorem dX12_ask_112 : decode cX12_ask 112 = .ok (.if_icmp .ge 8, 3) := by decide +kernel
theorem dX12_ask_115 : decode cX12_ask 115 = .ok (.iload 10, 2) := by decide +kernel
theorem dX12_ask_117 : decode cX12_ask 117 = .ok (.goto 5, 3) := by decide +kernel
theorem dX12_ask_120 : decode cX12_ask 120 = .ok (.iload 7, 2) := by decide +kernel
theorem dX12_ask_122 : decode cX12_ask 122 = .ok (.istore 7, 2) := by decide +kernel
theorem dX12_ask_124 : decode cX12_ask 124 = .ok (.iinc 8 1, 3) := by decide +kernel
theorem dX12_ask_127 : decode cX12_ask 127 = .ok (.goto (-88), 3) := by decide +kernel
theorem dX12_ask_130 : decode cX12_ask 130 = .ok (.iload 5, 2) := by decide +kernel
theorem dX12_ask_132 : decode cX12_ask 132 = .ok (.iconst 2, 1) := by decide +kernel
theorem dX12_ask_133 : decode cX12_ask 133 = .ok (.if_icmp .ge 7, 3) := by decide +kernel
theorem dX12_ask_136 : decode cX12_ask 136 = .ok (.iconst (-1), 1) := by decide +kernel
theorem dX12_ask_137 : decode cX12_ask 137 = .ok (.goto 5, 3) := by decide +kernel
theorem dX12_ask_140 : decode cX12_ask 140 = .ok (.iload 6, 2) := by decide +kernel
theorem dX12_ask_142 : decode cX12_ask 142 = .ok (.ireturn, 1) := by decide +kernel
theorem dX12_event_0 : decode cX12_event 0 = .ok (.iload_n 1, 1) := by decide +kernel
theorem dX12_event_1 : decode cX12_event 1 = .ok (.invokestatic 183, 3) := by decide +kernel
theorem dX12_event_4 : decode cX12_event 4 = .ok (.ifCond .eq 35, 3) := by decide +kernel
theorem dX12_event_7 : decode cX12_event 7 = .ok (.iload_n 2, 1) := by decide +kernel
theorem dX12_event_8 : decode cX12_event 8 = .ok (.aload_n 0, 1) := by decide +kernel
theorem dX12_event_9 : decode cX12_event 9 = .ok (.getfield 454, 3) := by decide +kernel
theorem dX12_event_12 : decode cX12_event 12 = .ok (.ifCond .ne 7, 3) := by decide +kernel
theorem dX12_event_15 : decode cX12_event 15 = .ok (.iconst 0, 1) := by decide +kernel
theorem dX12_event_16 : decode cX12_event 16 = .ok (.goto 14, 3) := by decide +kernel
theorem dX12_event_19 : decode cX12_event 19 = .ok (.aload_n 0, 1) := by decide +kernel
theorem dX12_event_20 : decode cX12_event 20 = .ok (.getfield 148, 3) := by decide +kernel
theorem dX12_event_23 : decode cX12_event 23 = .ok (.aload_n 0, 1) := by decide +kernel
theorem dX12_event_24 : decode cX12_event 24 = .ok (.getfield 454, 3) := by decide +kernel
theorem dX12_event_27 : decode cX12_event 27 = .ok (.iconst 1, 1) := by decide +kernel
theorem dX12_event_28 : decode cX12_event 28 = .ok (.isub, 1) := by decide +kernel
theorem dX12_event_29 : decode cX12_event 29 = .ok (.iaload, 1) := by decide +kernel
theorem dX12_event_30 : decode cX12_event 30 = .ok (.sipush 10000, 3) := by decide +kernel
theorem dX12_event_33 : decode cX12_event 33 = .ok (.invokestatic 179, 3) := by decide +kernel
theorem dX12_event_36 : decode cX12_event 36 = .ok (.ifCond .ne 6, 3) := by decide +kernel
theorem dX12_event_39 : decode cX12_event 39 = .ok (.bipush (-2), 2) := by decide +kernel
theorem dX12_event_41 : decode cX12_event 41 = .ok (.ireturn, 1) := by decide +kernel
theorem dX12_event_42 : decode cX12_event 42 = .ok (.aload_n 0, 1) := by decide +kernel
theorem dX12_event_43 : decode cX12_event 43 = .ok (.getfield 454, 3) := by decide +kernel
theorem dX12_event_46 : decode cX12_event 46 = .ok (.bipush 40, 2) := by decide +kernel
theorem dX12_event_48 : decode cX12_event 48 = .ok (.if_icmp .ne 6, 3) := by decide +kernel
theorem dX12_event_51 : decode cX12_event 51 = .ok (.bipush (-4), 2) := by decide +kernel
theorem dX12_event_53 : decode cX12_event 53 = .ok (.ireturn, 1) := by decide +kernel
theorem dX12_event_54 : decode cX12_event 54 = .ok (.aload_n 0, 1) := by decide +kernel
theorem dX12_event_55 : decode cX12_event 55 = .ok (.getfield 145, 3) := by decide +kernel
theorem dX12_event_58 : decode cX12_event 58 = .ok (.aload_n 0, 1) := by decide +kernel
theorem dX12_event_59 : decode cX12_event 59 = .ok (.getfield 454, 3) := by decide +kernel
theorem dX12_event_62 : decode cX12_event 62 = .ok (.iload_n 1, 1) := by decide +kernel
theorem dX12_event_63 : decode cX12_event 63 = .ok (.iastore, 1) := by decide +kernel
theorem dX12_event_64 : decode cX12_event 64 = .ok (.aload_n 0, 1) := by decide +kernel
theorem dX12_event_65 : decode cX12_event 65 = .ok (.getfield 148, 3) := by decide +kernel
theorem dX12_event_68 : decode cX12_event 68 = .ok (.aload_n 0, 1) := by decide +kernel
theorem dX12_event_69 : decode cX12_event 69 = .ok (.getfield 454, 3) := by decide +kernel
theorem dX12_event_72 : decode cX12_event 72 = .ok (.iload_n 2, 1) := by decide +kernel
theorem dX12_event_73 : decode cX12_event 73 = .ok (.iastore, 1) := by decide +kernel
theorem dX12_event_74 : decode cX12_event 74 = .ok (.aload_n 0, 1) := by decide +kernel
theorem dX12_event_75 : decode cX12_event 75 = .ok (.dup, 1) := by decide +kernel
theorem dX12_event_76 : decode cX12_event 76 = .ok (.getfield 454, 3) := by decide +kernel
theorem dX12_event_79 : decode cX12_event 79 = .ok (.iconst 1, 1) := by decide +kernel
theorem dX12_event_80 : decode cX12_event 80 = .ok (.iadd, 1) := by decide +kernel
theorem dX12_event_81 : decode cX12_event 81 = .ok (.putfield 454, 3) := by decide +kernel
theorem dX12_event_84 : decode cX12_event 84 = .ok (.aload_n 0, 1) := by decide +kernel
theorem dX12_event_85 : decode cX12_event 85 = .ok (.getfield 454, 3) := by decide +kernel
theorem dX12_event_88 : decode cX12_event 88 = .ok (.ireturn, 1) := by decide +kernel
theorem dX12_rest_0 : decode cX12_rest 0 = .ok (.aload_n 0, 1) := by decide +kernel
theorem dX12_rest_1 : decode cX12_rest 1 = .ok (.getfield 454, 3) := by decide +kernel
theorem dX12_rest_4 : decode cX12_rest 4 = .ok (.istore_n 1, 1) := by decide +kernel
theorem dX12_rest_5 : decode cX12_rest 5 = .ok (.aload_n 0, 1) := by decide +kernel
theorem dX12_rest_6 : decode cX12_rest 6 = .ok (.iconst 0, 1) := by decide +kernel
theorem dX12_rest_7 : decode cX12_rest 7 = .ok (.putfield 454, 3) := by decide +kernel
theorem dX12_rest_10 : decode cX12_rest 10 = .ok (.iload_n 1, 1) := by decide +kernel
theorem dX12_rest_11 : decode cX12_rest 11 = .ok (.ireturn, 1) := by decide +kernel
theorem dX12_soon_0 : decode cX12_soon 0 = .ok (.iconst 0, 1) := by decide +kernel
theorem dX12_soon_1 : decode cX12_soon 1 = .ok (.istore_n 1, 1) := by decide +kernel
theorem dX12_soon_2 : decode cX12_soon 2 = .ok (.iload_n 1, 1) := by decide +kernel
theorem dX12_soon_3 : decode cX12_soon 3 = .ok (.aload_n 0, 1) := by decide +kernel
theorem dX12_soon_4 : decode cX12_soon 4 = .ok (.getfield 454, 3) := by decide +kernel
theorem dX12_soon_7 : decode cX12_soon 7 = .ok (.if_icmp .ge 48, 3) := by decide +kernel
theorem dX12_soon_10 : decode cX12_soon 10 = .ok (.aload_n 0, 1) := by decide +kernel
theorem dX12_soon_11 : decode cX12_soon 11 = .ok (.getfield 148, 3) := by decide +kernel
theorem dX12_soon_14 : decode cX12_soon 14 = .ok (.iload_n 1, 1) := by decide +kernel
theorem dX12_soon_15 : decode cX12_soon 15 = .ok (.iaload, 1) := by decide +kernel
theorem dX12_soon_16 : decode cX12_soon 16 = .ok (.iload_n 1, 1) := by decide +kernel
theorem dX12_soon_17 : decode cX12_soon 17 = .ok (.ifCond .ne 7, 3) := by decide +kernel
theorem dX12_soon_20 : decode cX12_soon 20 = .ok (.iconst 0, 1) := by decide +kernel
theorem dX12_soon_21 : decode cX12_soon 21 = .ok (.goto 11, 3) := by decide +kernel
theorem dX12_soon_24 : decode cX12_soon 24 = .ok (.aload_n 0, 1) := by decide +kernel
theorem dX12_soon_25 : decode cX12_soon 25 = .ok (.getfield 148, 3) := by decide +kernel
theorem dX12_soon_28 : decode cX12_soon 28 = .ok (.iload_n 1, 1) := by decide +kernel
theorem dX12_soon_29 : decode cX12_soon 29 = .ok (.iconst 1, 1) := by decide +kernel
theorem dX12_soon_30 : decode cX12_soon 30 = .ok (.isub, 1) := by decide +kernel
theorem dX12_soon_31 : decode cX12_soon 31 = .ok (.iaload, 1) := by decide +kernel
theorem dX12_soon_32 : decode cX12_soon 32 = .ok (.isub, 1) := by decide +kernel
theorem dX12_soon_33 : decode cX12_soon 33 = .ok (.aload_n 0, 1) := by decide +kernel
theorem dX12_soon_34 : decode cX12_soon 34 = .ok (.getfield 13, 3) := by decide +kernel
theorem dX12_soon_37 : decode cX12_soon 37 = .ok (.aload_n 0, 1) := by decide +kernel
theorem dX12_soon_38 : decode cX12_soon 38 = .ok (.getfield 145, 3) := by decide +kernel
theorem dX12_soon_41 : decode cX12_soon 41 = .ok (.iload_n 1, 1) := by decide +kernel
theorem dX12_soon_42 : decode cX12_soon 42 = .ok (.iaload, 1) := by decide +kernel
theorem dX12_soon_43 : decode cX12_soon 43 = .ok (.iaload, 1) := by decide +kernel
theorem dX12_soon_44 : decode cX12_soon 44 = .ok (.if_icmp .ge 5, 3) := by decide +kernel
theorem dX12_soon_47 : decode cX12_soon 47 = .ok (.iload_n 1, 1) := by decide +kernel
theorem dX12_soon_48 : decode cX12_soon 48 = .ok (.ireturn, 1) := by decide +kernel
theorem dX12_soon_49 : decode cX12_soon 49 = .ok (.iinc 1 1, 3) := by decide +kernel
theorem dX12_soon_52 : decode cX12_soon 52 = .ok (.goto (-50), 3) := by decide +kernel
theorem dX12_soon_55 : decode cX12_soon 55 = .ok (.iconst (-1), 1) := by decide +kernel
theorem dX12_soon_56 : decode cX12_soon 56 = .ok (.ireturn, 1) := by decide +kernel
theorem dX12_reachedOf_0 : decode cX12_reachedOf 0 = .ok (.aload_n 0, 1) := by decide +kernel
theorem dX12_reachedOf_1 : decode cX12_reachedOf 1 = .ok (.getfield 28, 3) := by decide +kernel
theorem dX12_reachedOf_4 : decode cX12_reachedOf 4 = .ok (.iload_n 1, 1) := by decide +kernel
theorem dX12_reachedOf_5 : decode cX12_reachedOf 5 = .ok (.iaload, 1) := by decide +kernel
theorem dX12_reachedOf_6 : decode cX12_reachedOf 6 = .ok (.ifCond .ne 39, 3) := by decide +kernel
theorem dX12_reachedOf_9 : decode cX12_reachedOf 9 = .ok (.iload_n 2, 1) := by decide +kernel
theorem dX12_reachedOf_10 : decode cX12_reachedOf 10 = .ok (.istore_n 3, 1) := by decide +kernel
theorem dX12_reachedOf_11 : decode cX12_reachedOf 11 = .ok (.iload_n 3, 1) := by decide +kernel
theorem dX12_reachedOf_12 : decode cX12_reachedOf 12 = .ok (.aload_n 0, 1) := by decide +kernel
theorem dX12_reachedOf_13 : decode cX12_reachedOf 13 = .ok (.getfield 454, 3) := by decide +kernel
theorem dX12_reachedOf_16 : decode cX12_reachedOf 16 = .ok (.if_icmp .ge 26, 3) := by decide +kernel
theorem dX12_reachedOf_19 : decode cX12_reachedOf 19 = .ok (.aload_n 0, 1) := by decide +kernel
theorem dX12_reachedOf_20 : decode cX12_reachedOf 20 = .ok (.getfield 145, 3) := by decide +kernel
theorem dX12_reachedOf_23 : decode cX12_reachedOf 23 = .ok (.iload_n 3, 1) := by decide +kernel
theorem dX12_reachedOf_24 : decode cX12_reachedOf 24 = .ok (.iaload, 1) := by decide +kernel
theorem dX12_reachedOf_25 : decode cX12_reachedOf 25 = .ok (.aload_n 0, 1) := by decide +kernel
theorem dX12_reachedOf_26 : decode cX12_reachedOf 26 = .ok (.getfield 34, 3) := by decide +kernel
theorem dX12_reachedOf_29 : decode cX12_reachedOf 29 = .ok (.iload_n 1, 1) := by decide +kernel
theorem dX12_reachedOf_30 : decode cX12_reachedOf 30 = .ok (.iaload, 1) := by decide +kernel
theorem dX12_reachedOf_31 : decode cX12_reachedOf 31 = .ok (.if_icmp .ne 5, 3) := by decide +kernel
theorem dX12_reachedOf_34 : decode cX12_reachedOf 34 = .ok (.iload_n 3, 1) := by decide +kernel
theorem dX12_reachedOf_35 : decode cX12_reachedOf 35 = .ok (.ireturn, 1) := by decide +kernel
theorem dX12_reachedOf_36 : decode cX12_reachedOf 36 = .ok (.iinc 3 1, 3) := by decide +kernel
theorem dX12_reachedOf_39 : decode cX12_reachedOf 39 = .ok (.goto (-28), 3) := by decide +kernel
theorem dX12_reachedOf_42 : decode cX12_reachedOf 42 = .ok (.bipush 99, 2) := by decide +kernel
theorem dX12_reachedOf_44 : decode cX12_reachedOf 44 = .ok (.ireturn, 1) := by decide +kernel
theorem dX12_reachedOf_45 : decode cX12_reachedOf 45 = .ok (.iload_n 2, 1) := by decide +kernel
theorem dX12_reachedOf_46 : decode cX12_reachedOf 46 = .ok (.istore_n 3, 1) := by decide +kernel
theorem dX12_reachedOf_47 : decode cX12_reachedOf 47 = .ok (.aload_n 0, 1) := by decide +kernel
theorem dX12_reachedOf_48 : decode cX12_reachedOf 48 = .ok (.getfield 28, 3) := by decide +kernel
theorem dX12_reachedOf_51 : decode cX12_reachedOf 51 = .ok (.iload_n 1, 1) := by decide +kernel
theorem dX12_reachedOf_52 : decode cX12_reachedOf 52 = .ok (.iaload, 1) := by decide +kernel
theorem dX12_reachedOf_53 : decode cX12_reachedOf 53 = .ok (.iconst 1, 1) := by decide +kernel
theorem dX12_reachedOf_54 : decode cX12_reachedOf 54 = .ok (.if_icmp .ne 8, 3) := by decide +kernel
theorem dX12_reachedOf_57 : decode cX12_reachedOf 57 = .ok (.bipush 99, 2) := by decide +kernel
theorem dX12_reachedOf_59 : decode cX12_reachedOf 59 = .ok (.goto 4, 3) := by decide +kernel
theorem dX12_reachedOf_62 : decode cX12_reachedOf 62 = .ok (.iconst 0, 1) := by decide +kernel
theorem dX12_reachedOf_63 : decode cX12_reachedOf 63 = .ok (.istore 4, 2) := by decide +kernel
theorem dX12_reachedOf_65 : decode cX12_reachedOf 65 = .ok (.iconst 0, 1) := by decide +kernel
theorem dX12_reachedOf_66 : decode cX12_reachedOf 66 = .ok (.istore 5, 2) := by decide +kernel
theorem dX12_reachedOf_68 : decode cX12_reachedOf 68 = .ok (.iload 5, 2) := by decide +kernel
theorem dX12_reachedOf_70 : decode cX12_reachedOf 70 = .ok (.aload_n 0, 1) := by decide +kernel
theorem dX12_reachedOf_71 : decode cX12_reachedOf 71 = .ok (.getfield 40, 3) := by decide +kernel
theorem dX12_reachedOf_74 : decode cX12_reachedOf 74 = .ok (.iload_n 1, 1) := by decide +kernel
theorem dX12_reachedOf_75 : decode cX12_reachedOf 75 = .ok (.iaload, 1) := by decide +kernel
theorem dX12_reachedOf_76 : decode cX12_reachedOf 76 = .ok (.if_icmp .ge 134, 3) := by decide +kernel
theorem dX12_reachedOf_79 : decode cX12_reachedOf 79 = .ok (.iload_n 3, 1) := by decide +kernel
theorem dX12_reachedOf_80 : decode cX12_reachedOf 80 = .ok (.aload_n 0, 1) := by decide +kernel
theorem dX12_reachedOf_81 : decode cX12_reachedOf 81 = .ok (.getfield 454, 3) := by decide +kernel
theorem dX12_reachedOf_84 : decode cX12_reachedOf 84 = .ok (.if_icmp .le 8, 3) := by decide +kernel
theorem dX12_reachedOf_87 : decode cX12_reachedOf 87 = .ok (.bipush 99, 2) := by decide +kernel
theorem dX12_reachedOf_89 : decode cX12_reachedOf 89 = .ok (.goto 27, 3) := by decide +kernel
theorem dX12_reachedOf_92 : decode cX12_reachedOf 92 = .ok (.aload_n 0, 1) := by decide +kernel
theorem dX12_reachedOf_93 : decode cX12_reachedOf 93 = .ok (.getfield 151, 3) := by decide +kernel
theorem dX12_reachedOf_96 : decode cX12_reachedOf 96 = .ok (.bipush 42, 2) := by decide +kernel
theorem dX12_reachedOf_98 : decode cX12_reachedOf 98 = .ok (.aload_n 0, 1) := by decide +kernel
theorem dX12_reachedOf_99 : decode cX12_reachedOf 99 = .ok (.getfield 43, 3) := by decide +kernel
theorem dX12_reachedOf_102 : decode cX12_reachedOf 102 = .ok (.aload_n 0, 1) := by decide +kernel
theorem dX12_reachedOf_103 : decode cX12_reachedOf 103 = .ok (.getfield 37, 3) := by decide +kernel
theorem dX12_reachedOf_106 : decode cX12_reachedOf 106 = .ok (.iload_n 1, 1) := by decide +kernel
theorem dX12_reachedOf_107 : decode cX12_reachedOf 107 = .ok (.iaload, 1) := by decide +kernel
theorem dX12_reachedOf_108 : decode cX12_reachedOf 108 = .ok (.iload 5, 2) := by decide +kernel
theorem dX12_reachedOf_110 : decode cX12_reachedOf 110 = .ok (.iadd, 1) := by decide +kernel
theorem dX12_reachedOf_111 : decode cX12_reachedOf 111 = .ok (.iaload, 1) := by decide +kernel
theorem dX12_reachedOf_112 : decode cX12_reachedOf 112 = .ok (.imul, 1) := by decide +kernel
theorem dX12_reachedOf_113 : decode cX12_reachedOf 113 = .ok (.iload_n 3, 1) := by decide +kernel
theorem dX12_reachedOf_114 : decode cX12_reachedOf 114 = .ok (.iadd, 1) := by decide +kernel
theorem dX12_reachedOf_115 : decode cX12_reachedOf 115 = .ok (.iaload, 1) := by decide +kernel
theorem dX12_reachedOf_116 : decode cX12_reachedOf 116 = .ok (.istore 6, 2) := by decide +kernel
theorem dX12_reachedOf_118 : decode cX12_reachedOf 118 = .ok (.aload_n 0, 1) := by decide +kernel
theorem dX12_reachedOf_119 : decode cX12_reachedOf 119 = .ok (.getfield 91, 3) := by decide +kernel
theorem dX12_reachedOf_122 : decode cX12_reachedOf 122 = .ok (.iload 5, 2) := by decide +kernel
theorem dX12_reachedOf_124 : decode cX12_reachedOf 124 = .ok (.iload 6, 2) := by decide +kernel
theorem dX12_reachedOf_126 : decode cX12_reachedOf 126 = .ok (.iastore, 1) := by decide +kernel
theorem dX12_reachedOf_127 : decode cX12_reachedOf 127 = .ok (.aload_n 0, 1) := by decide +kernel
theorem dX12_reachedOf_128 : decode cX12_reachedOf 128 = .ok (.getfield 28, 3) := by decide +kernel
theorem dX12_reachedOf_131 : decode cX12_reachedOf 131 = .ok (.iload_n 1, 1) := by decide +kernel
theorem dX12_reachedOf_132 : decode cX12_reachedOf 132 = .ok (.iaload, 1) := by decide +kernel
theorem dX12_reachedOf_133 : decode cX12_reachedOf 133 = .ok (.iconst 1, 1) := by decide +kernel
theorem dX12_reachedOf_134 : decode cX12_reachedOf 134 = .ok (.if_icmp .ne 20, 3) := by decide +kernel
theorem dX12_reachedOf_137 : decode cX12_reachedOf 137 = .ok (.iload 6, 2) := by decide +kernel
theorem dX12_reachedOf_139 : decode cX12_reachedOf 139 = .ok (.iload 4, 2) := by decide +kernel
theorem dX12_reachedOf_141 : decode cX12_reachedOf 141 = .ok (.if_icmp .ge 8, 3) := by decide +kernel
theorem dX12_reachedOf_144 : decode cX12_reachedOf 144 = .ok (.iload 6, 2) := by decide +kernel
theorem dX12_reachedOf_146 : decode cX12_reachedOf 146 = .ok (.goto 37, 3) := by decide +kernel
theorem dX12_reachedOf_149 : decode cX12_reachedOf 149 = .ok (.iload 4, 2) := by decide +kernel
theorem dX12_reachedOf_151 : decode cX12_reachedOf 151 = .ok (.goto 32, 3) := by decide +kernel
theorem dX12_reachedOf_154 : decode cX12_reachedOf 154 = .ok (.aload_n 0, 1) := by decide +kernel
theorem dX12_reachedOf_155 : decode cX12_reachedOf 155 = .ok (.getfield 28, 3) := by decide +kernel
theorem dX12_reachedOf_158 : decode cX12_reachedOf 158 = .ok (.iload_n 1, 1) := by decide +kernel
theorem dX12_reachedOf_159 : decode cX12_reachedOf 159 = .ok (.iaload, 1) := by decide +kernel
theorem dX12_reachedOf_160 : decode cX12_reachedOf 160 = .ok (.iconst 3, 1) := by decide +kernel
theorem dX12_reachedOf_161 : decode cX12_reachedOf 161 = .ok (.if_icmp .ne 20, 3) := by decide +kernel
theorem dX12_reachedOf_164 : decode cX12_reachedOf 164 = .ok (.iload 6, 2) := by decide +kernel
theorem dX12_reachedOf_166 : decode cX12_reachedOf 166 = .ok (.iload 4, 2) := by decide +kernel
theorem dX12_reachedOf_168 : decode cX12_reachedOf 168 = .ok (.if_icmp .le 8, 3) := by decide +kernel
theorem dX12_reachedOf_171 : decode cX12_reachedOf 171 = .ok (.iload 6, 2) := by decide +kernel
theorem dX12_reachedOf_173 : decode cX12_reachedOf 173 = .ok (.goto 10, 3) := by decide +kernel
theorem dX12_reachedOf_176 : decode cX12_reachedOf 176 = .ok (.iload 4, 2) := by decide +kernel
theorem dX12_reachedOf_178 : decode cX12_reachedOf 178 = .ok (.goto 5, 3) := by decide +kernel
theorem dX12_reachedOf_181 : decode cX12_reachedOf 181 = .ok (.iload 6, 2) := by decide +kernel
theorem dX12_reachedOf_183 : decode cX12_reachedOf 183 = .ok (.istore 4, 2) := by decide +kernel
theorem dX12_reachedOf_185 : decode cX12_reachedOf 185 = .ok (.aload_n 0, 1) := by decide +kernel
theorem dX12_reachedOf_186 : decode cX12_reachedOf 186 = .ok (.getfield 28, 3) := by decide +kernel
theorem dX12_reachedOf_189 : decode cX12_reachedOf 189 = .ok (.iload_n 1, 1) := by decide +kernel
theorem dX12_reachedOf_190 : decode cX12_reachedOf 190 = .ok (.iaload, 1) := by decide +kernel
theorem dX12_reachedOf_191 : decode cX12_reachedOf 191 = .ok (.iconst 2, 1) := by decide +kernel
theorem dX12_reachedOf_192 : decode cX12_reachedOf 192 = .ok (.if_icmp .ne 10, 3) := by decide +kernel
theorem dX12_reachedOf_195 : decode cX12_reachedOf 195 = .ok (.iload 6, 2) := by decide +kernel
theorem dX12_reachedOf_197 : decode cX12_reachedOf 197 = .ok (.iconst 1, 1) := by decide +kernel
theorem dX12_reachedOf_198 : decode cX12_reachedOf 198 = .ok (.iadd, 1) := by decide +kernel
theorem dX12_reachedOf_199 : decode cX12_reachedOf 199 = .ok (.goto 4, 3) := by decide +kernel
theorem dX12_reachedOf_202 : decode cX12_reachedOf 202 = .ok (.iload_n 2, 1) := by decide +kernel
theorem dX12_reachedOf_203 : decode cX12_reachedOf 203 = .ok (.istore_n 3, 1) := by decide +kernel
theorem dX12_reachedOf_204 : decode cX12_reachedOf 204 = .ok (.iinc 5 1, 3) := by decide +kernel
theorem dX12_reachedOf_207 : decode cX12_reachedOf 207 = .ok (.goto (-139), 3) := by decide +kernel
theorem dX12_reachedOf_210 : decode cX12_reachedOf 210 = .ok (.aload_n 0, 1) := by decide +kernel
theorem dX12_reachedOf_211 : decode cX12_reachedOf 211 = .ok (.getfield 28, 3) := by decide +kernel
theorem dX12_reachedOf_214 : decode cX12_reachedOf 214 = .ok (.iload_n 1, 1) := by decide +kernel
theorem dX12_reachedOf_215 : decode cX12_reachedOf 215 = .ok (.iaload, 1) := by decide +kernel
theorem dX12_reachedOf_216 : decode cX12_reachedOf 216 = .ok (.iconst 4, 1) := by decide +kernel
theorem dX12_reachedOf_217 : decode cX12_reachedOf 217 = .ok (.if_icmp .ne 24, 3) := by decide +kernel
theorem dX12_reachedOf_220 : decode cX12_reachedOf 220 = .ok (.aload_n 0, 1) := by decide +kernel
theorem dX12_reachedOf_221 : decode cX12_reachedOf 221 = .ok (.aload_n 0, 1) := by decide +kernel
theorem dX12_reachedOf_222 : decode cX12_reachedOf 222 = .ok (.getfield 40, 3) := by decide +kernel
theorem dX12_reachedOf_225 : decode cX12_reachedOf 225 = .ok (.iload_n 1, 1) := by decide +kernel
theorem dX12_reachedOf_226 : decode cX12_reachedOf 226 = .ok (.iaload, 1) := by decide +kernel
theorem dX12_reachedOf_227 : decode cX12_reachedOf 227 = .ok (.aload_n 0, 1) := by decide +kernel
theorem dX12_reachedOf_228 : decode cX12_reachedOf 228 = .ok (.getfield 31, 3) := by decide +kernel
theorem dX12_reachedOf_231 : decode cX12_reachedOf 231 = .ok (.iload_n 1, 1) := by decide +kernel
theorem dX12_reachedOf_232 : decode cX12_reachedOf 232 = .ok (.iaload, 1) := by decide +kernel
theorem dX12_reachedOf_233 : decode cX12_reachedOf 233 = .ok (.iconst 1, 1) := by decide +kernel
theorem dX12_reachedOf_234 : decode cX12_reachedOf 234 = .ok (.isub, 1) := by decide +kernel
theorem dX12_reachedOf_235 : decode cX12_reachedOf 235 = .ok (.invokevirtual 311, 3) := by decide +kernel
theorem dX12_reachedOf_238 : decode cX12_reachedOf 238 = .ok (.goto 5, 3) := by decide +kernel
theorem dX12_reachedOf_241 : decode cX12_reachedOf 241 = .ok (.iload 4, 2) := by decide +kernel
theorem dX12_reachedOf_243 : decode cX12_reachedOf 243 = .ok (.ireturn, 1) := by decide +kernel
theorem dX12_reached_0 : decode cX12_reached 0 = .ok (.aload_n 0, 1) := by decide +kernel
theorem dX12_reached_1 : decode cX12_reached 1 = .ok (.iload_n 1, 1) := by decide +kernel
theorem dX12_reached_2 : decode cX12_reached 2 = .ok (.iload_n 2, 1) := by decide +kernel
theorem dX12_reached_3 : decode cX12_reached 3 = .ok (.iconst 0, 1) := by decide +kernel
theorem dX12_reached_4 : decode cX12_reached 4 = .ok (.aload_n 0, 1) := by decide +kernel
theorem dX12_reached_5 : decode cX12_reached 5 = .ok (.getfield 454, 3) := by decide +kernel
theorem dX12_reached_8 : decode cX12_reached 8 = .ok (.invokestatic 179, 3) := by decide +kernel
theorem dX12_reached_11 : decode cX12_reached 11 = .ok (.invokevirtual 271, 3) := by decide +kernel
theorem dX12_reached_14 : decode cX12_reached 14 = .ok (.istore_n 3, 1) := by decide +kernel
theorem dX12_reached_15 : decode cX12_reached 15 = .ok (.iload_n 3, 1) := by decide +kernel
theorem dX12_reached_16 : decode cX12_reached 16 = .ok (.iconst 1, 1) := by decide +kernel
theorem dX12_reached_17 : decode cX12_reached 17 = .ok (.if_icmp .eq 5, 3) := by decide +kernel
theorem dX12_reached_20 : decode cX12_reached 20 = .ok (.iload_n 3, 1) := by decide +kernel
theorem dX12_reached_21 : decode cX12_reached 21 = .ok (.ireturn, 1) := by decide +kernel
theorem dX12_reached_22 : decode cX12_reached 22 = .ok (.iconst 0, 1) := by decide +kernel
theorem dX12_reached_23 : decode cX12_reached 23 = .ok (.istore 4, 2) := by decide +kernel
theorem dX12_reached_25 : decode cX12_reached 25 = .ok (.iload 4, 2) := by decide +kernel
theorem dX12_reached_27 : decode cX12_reached 27 = .ok (.aload_n 0, 1) := by decide +kernel
theorem dX12_reached_28 : decode cX12_reached 28 = .ok (.getfield 49, 3) := by decide +kernel
theorem dX12_reached_31 : decode cX12_reached 31 = .ok (.iload_n 1, 1) := by decide +kernel
theorem dX12_reached_32 : decode cX12_reached 32 = .ok (.iaload, 1) := by decide +kernel
theorem dX12_reached_33 : decode cX12_reached 33 = .ok (.if_icmp .gt 48, 3) := by decide +kernel
theorem dX12_reached_36 : decode cX12_reached 36 = .ok (.iconst 0, 1) := by decide +kernel
theorem dX12_reached_37 : decode cX12_reached 37 = .ok (.istore 5, 2) := by decide +kernel
theorem dX12_reached_39 : decode cX12_reached 39 = .ok (.iload 5, 2) := by decide +kernel
theorem dX12_reached_41 : decode cX12_reached 41 = .ok (.aload_n 0, 1) := by decide +kernel
theorem dX12_reached_42 : decode cX12_reached 42 = .ok (.getfield 454, 3) := by decide +kernel
theorem dX12_reached_45 : decode cX12_reached 45 = .ok (.if_icmp .gt 30, 3) := by decide +kernel
theorem dX12_reached_48 : decode cX12_reached 48 = .ok (.aload_n 0, 1) := by decide +kernel
theorem dX12_reached_49 : decode cX12_reached 49 = .ok (.getfield 151, 3) := by decide +kernel
theorem dX12_reached_52 : decode cX12_reached 52 = .ok (.bipush 42, 2) := by decide +kernel
theorem dX12_reached_54 : decode cX12_reached 54 = .ok (.iload 4, 2) := by decide +kernel
theorem dX12_reached_56 : decode cX12_reached 56 = .ok (.imul, 1) := by decide +kernel
theorem dX12_reached_57 : decode cX12_reached 57 = .ok (.iload 5, 2) := by decide +kernel
theorem dX12_reached_59 : decode cX12_reached 59 = .ok (.iadd, 1) := by decide +kernel
theorem dX12_reached_60 : decode cX12_reached 60 = .ok (.aload_n 0, 1) := by decide +kernel
theorem dX12_reached_61 : decode cX12_reached 61 = .ok (.iload 4, 2) := by decide +kernel
theorem dX12_reached_63 : decode cX12_reached 63 = .ok (.iload 5, 2) := by decide +kernel
theorem dX12_reached_65 : decode cX12_reached 65 = .ok (.invokevirtual 457, 3) := by decide +kernel
theorem dX12_reached_68 : decode cX12_reached 68 = .ok (.iastore, 1) := by decide +kernel
theorem dX12_reached_69 : decode cX12_reached 69 = .ok (.iinc 5 1, 3) := by decide +kernel
theorem dX12_reached_72 : decode cX12_reached 72 = .ok (.goto (-33), 3) := by decide +kernel
theorem dX12_reached_75 : decode cX12_reached 75 = .ok (.iinc 4 1, 3) := by decide +kernel
theorem dX12_reached_78 : decode cX12_reached 78 = .ok (.goto (-53), 3) := by decide +kernel
theorem dX12_reached_81 : decode cX12_reached 81 = .ok (.aload_n 0, 1) := by decide +kernel
theorem dX12_reached_82 : decode cX12_reached 82 = .ok (.getfield 151, 3) := by decide +kernel
theorem dX12_reached_85 : decode cX12_reached 85 = .ok (.bipush 42, 2) := by decide +kernel
theorem dX12_reached_87 : decode cX12_reached 87 = .ok (.aload_n 0, 1) := by decide +kernel
theorem dX12_reached_88 : decode cX12_reached 88 = .ok (.getfield 49, 3) := by decide +kernel
theorem dX12_reached_91 : decode cX12_reached 91 = .ok (.iload_n 1, 1) := by decide +kernel
theorem dX12_reached_92 : decode cX12_reached 92 = .ok (.iaload, 1) := by decide +kernel
theorem dX12_reached_93 : decode cX12_reached 93 = .ok (.imul, 1) := by decide +kernel
theorem dX12_reached_94 : decode cX12_reached 94 = .ok (.iload_n 2, 1) := by decide +kernel
theorem dX12_reached_95 : decode cX12_reached 95 = .ok (.iadd, 1) := by decide +kernel
theorem dX12_reached_96 : decode cX12_reached 96 = .ok (.iaload, 1) := by decide +kernel
theorem dX12_reached_97 : decode cX12_reached 97 = .ok (.istore 4, 2) := by decide +kernel
theorem dX12_reached_99 : decode cX12_reached 99 = .ok (.iload 4, 2) := by decide +kernel
theorem dX12_reached_101 : decode cX12_reached 101 = .ok (.bipush 99, 2) := by decide +kernel
theorem dX12_reached_103 : decode cX12_reached 103 = .ok (.if_icmp .ne 7, 3) := by decide +kernel
theorem dX12_reached_106 : decode cX12_reached 106 = .ok (.iconst (-1), 1) := by decide +kernel
theorem dX12_reached_107 : decode cX12_reached 107 = .ok (.goto 5, 3) := by decide +kernel
theorem dX12_reached_110 : decode cX12_reached 110 = .ok (.iload 4, 2) := by decide +kernel
theorem dX12_reached_112 : decode cX12_reached 112 = .ok (.ireturn, 1) := by decide +kernel
theorem dX12_walk_0 : decode cX12_walk 0 = .ok (.iload_n 1, 1) := by decide +kernel
theorem dX12_walk_1 : decode cX12_walk 1 = .ok (.iconst 0, 1) := by decide +kernel
theorem dX12_walk_2 : decode cX12_walk 2 = .ok (.iconst 3, 1) := by decide +kernel
theorem dX12_walk_3 : decode cX12_walk 3 = .ok (.invokestatic 179, 3) := by decide +kernel
theorem dX12_walk_6 : decode cX12_walk 6 = .ok (.ifCond .eq 13, 3) := by decide +kernel
theorem dX12_walk_9 : decode cX12_walk 9 = .ok (.iload_n 2, 1) := by decide +kernel
theorem dX12_walk_10 : decode cX12_walk 10 = .ok (.iconst 0, 1) := by decide +kernel
theorem dX12_walk_11 : decode cX12_walk 11 = .ok (.bipush 7, 2) := by decide +kernel
theorem dX12_walk_13 : decode cX12_walk 13 = .ok (.invokestatic 179, 3) := by decide +kernel
theorem dX12_walk_16 : decode cX12_walk 16 = .ok (.ifCond .ne 6, 3) := by decide +kernel
theorem dX12_walk_19 : decode cX12_walk 19 = .ok (.bipush (-2), 2) := by decide +kernel
theorem dX12_walk_21 : decode cX12_walk 21 = .ok (.ireturn, 1) := by decide +kernel
theorem dX12_walk_22 : decode cX12_walk 22 = .ok (.aload_n 0, 1) := by decide +kernel
theorem dX12_walk_23 : decode cX12_walk 23 = .ok (.getfield 154, 3) := by decide +kernel
theorem dX12_walk_26 : decode cX12_walk 26 = .ok (.iload_n 1, 1) := by decide +kernel
theorem dX12_walk_27 : decode cX12_walk 27 = .ok (.iaload, 1) := by decide +kernel
theorem dX12_walk_28 : decode cX12_walk 28 = .ok (.bipush 12, 2) := by decide +kernel
theorem dX12_walk_30 : decode cX12_walk 30 = .ok (.if_icmp .ne 6, 3) := by decide +kernel
theorem dX12_walk_33 : decode cX12_walk 33 = .ok (.bipush (-4), 2) := by decide +kernel
theorem dX12_walk_35 : decode cX12_walk 35 = .ok (.ireturn, 1) := by decide +kernel
theorem dX12_walk_36 : decode cX12_walk 36 = .ok (.aload_n 0, 1) := by decide +kernel
theorem dX12_walk_37 : decode cX12_walk 37 = .ok (.getfield 157, 3) := by decide +kernel
theorem dX12_walk_40 : decode cX12_walk 40 = .ok (.bipush 12, 2) := by decide +kernel
theorem dX12_walk_42 : decode cX12_walk 42 = .ok (.iload_n 1, 1) := by decide +kernel
theorem dX12_walk_43 : decode cX12_walk 43 = .ok (.imul, 1) := by decide +kernel
theorem dX12_walk_44 : decode cX12_walk 44 = .ok (.aload_n 0, 1) := by decide +kernel
theorem dX12_walk_45 : decode cX12_walk 45 = .ok (.getfield 154, 3) := by decide +kernel
theorem dX12_walk_48 : decode cX12_walk 48 = .ok (.iload_n 1, 1) := by decide +kernel
theorem dX12_walk_49 : decode cX12_walk 49 = .ok (.iaload, 1) := by decide +kernel
theorem dX12_walk_50 : decode cX12_walk 50 = .ok (.iadd, 1) := by decide +kernel
theorem dX12_walk_51 : decode cX12_walk 51 = .ok (.iload_n 2, 1) := by decide +kernel
theorem dX12_walk_52 : decode cX12_walk 52 = .ok (.iastore, 1) := by decide +kernel
theorem dX12_walk_53 : decode cX12_walk 53 = .ok (.aload_n 0, 1) := by decide +kernel
theorem dX12_walk_54 : decode cX12_walk 54 = .ok (.getfield 154, 3) := by decide +kernel
theorem dX12_walk_57 : decode cX12_walk 57 = .ok (.iload_n 1, 1) := by decide +kernel
theorem dX12_walk_58 : decode cX12_walk 58 = .ok (.dup2, 1) := by decide +kernel
theorem dX12_walk_59 : decode cX12_walk 59 = .ok (.iaload, 1) := by decide +kernel
theorem dX12_walk_60 : decode cX12_walk 60 = .ok (.iconst 1, 1) := by decide +kernel
theorem dX12_walk_61 : decode cX12_walk 61 = .ok (.iadd, 1) := by decide +kernel
theorem dX12_walk_62 : decode cX12_walk 62 = .ok (.iastore, 1) := by decide +kernel
theorem dX12_walk_63 : decode cX12_walk 63 = .ok (.aload_n 0, 1) := by decide +kernel
theorem dX12_walk_64 : decode cX12_walk 64 = .ok (.getfield 154, 3) := by decide +kernel
theorem dX12_walk_67 : decode cX12_walk 67 = .ok (.iload_n 1, 1) := by decide +kernel
theorem dX12_walk_68 : decode cX12_walk 68 = .ok (.iaload, 1) := by decide +kernel
theorem dX12_walk_69 : decode cX12_walk 69 = .ok (.ireturn, 1) := by decide +kernel
theorem dX12_home_0 : decode cX12_home 0 = .ok (.iload_n 1, 1) := by decide +kernel
theorem dX12_home_1 : decode cX12_home 1 = .ok (.iconst 0, 1) := by decide +kernel
theorem dX12_home_2 : decode cX12_home 2 = .ok (.iconst 3, 1) := by decide +kernel
theorem dX12_home_3 : decode cX12_home 3 = .ok (.invokestatic 179, 3) := by decide +kernel
theorem dX12_home_6 : decode cX12_home 6 = .ok (.ifCond .ne 6, 3) := by decide +kernel
theorem dX12_home_9 : decode cX12_home 9 = .ok (.bipush (-2), 2) := by decide +kernel
theorem dX12_home_11 : decode cX12_home 11 = .ok (.ireturn, 1) := by decide +kernel
theorem dX12_home_12 : decode cX12_home 12 = .ok (.aload_n 0, 1) := by decide +kernel
theorem dX12_home_13 : decode cX12_home 13 = .ok (.getfield 154, 3) := by decide +kernel
theorem dX12_home_16 : decode cX12_home 16 = .ok (.iload_n 1, 1) := by decide +kernel
theorem dX12_home_17 : decode cX12_home 17 = .ok (.iaload, 1) := by decide +kernel
theorem dX12_home_18 : decode cX12_home 18 = .ok (.istore_n 2, 1) := by decide +kernel
theorem dX12_home_19 : decode cX12_home 19 = .ok (.aload_n 0, 1) := by decide +kernel
theorem dX12_home_20 : decode cX12_home 20 = .ok (.getfield 154, 3) := by decide +kernel
theorem dX12_home_23 : decode cX12_home 23 = .ok (.iload_n 1, 1) := by decide +kernel
theorem dX12_home_24 : decode cX12_home 24 = .ok (.iconst 0, 1) := by decide +kernel
theorem dX12_home_25 : decode cX12_home 25 = .ok (.iastore, 1) := by decide +kernel
theorem dX12_home_26 : decode cX12_home 26 = .ok (.iload_n 2, 1) := by decide +kernel
theorem dX12_home_27 : decode cX12_home 27 = .ok (.ireturn, 1) := by decide +kernel
theorem dX12_standing_0 : decode cX12_standing 0 = .ok (.iconst 0, 1) := by decide +kernel
theorem dX12_standing_1 : decode cX12_standing 1 = .ok (.istore_n 3, 1) := by decide +kernel
theorem dX12_standing_2 : decode cX12_standing 2 = .ok (.iconst 0, 1) := by decide +kernel
theorem dX12_standing_3 : decode cX12_standing 3 = .ok (.istore 4, 2) := by decide +kernel
theorem dX12_standing_5 : decode cX12_standing 5 = .ok (.iload 4, 2) := by decide +kernel
theorem dX12_standing_7 : decode cX12_standing 7 = .ok (.iconst 4, 1) := by decide +kernel
theorem dX12_standing_8 : decode cX12_standing 8 = .ok (.if_icmp .ge 51, 3) := by decide +kernel
theorem dX12_standing_11 : decode cX12_standing 11 = .ok (.iload_n 3, 1) := by decide +kernel
theorem dX12_standing_12 : decode cX12_standing 12 = .ok (.aload_n 0, 1) := by decide +kernel
theorem dX12_standing_13 : decode cX12_standing 13 = .ok (.getfield 154, 3) := by decide +kernel
theorem dX12_standing_16 : decode cX12_standing 16 = .ok (.iload 4, 2) := by decide +kernel
theorem dX12_standing_18 : decode cX12_standing 18 = .ok (.iaload, 1) := by decide +kernel
theorem dX12_standing_19 : decode cX12_standing 19 = .ok (.ifCond .le 31, 3) := by decide +kernel
theorem dX12_standing_22 : decode cX12_standing 22 = .ok (.aload_n 0, 1) := by decide +kernel
theorem dX12_standing_23 : decode cX12_standing 23 = .ok (.getfield 157, 3) := by decide +kernel
theorem dX12_standing_26 : decode cX12_standing 26 = .ok (.bipush 12, 2) := by decide +kernel
theorem dX12_standing_28 : decode cX12_standing 28 = .ok (.iload 4, 2) := by decide +kernel
theorem dX12_standing_30 : decode cX12_standing 30 = .ok (.imul, 1) := by decide +kernel
theorem dX12_standing_31 : decode cX12_standing 31 = .ok (.iload_n 2, 1) := by decide +kernel
theorem dX12_standing_32 : decode cX12_standing 32 = .ok (.aload_n 0, 1) := by decide +kernel
theorem dX12_standing_33 : decode cX12_standing 33 = .ok (.getfield 154, 3) := by decide +kernel
theorem dX12_standing_36 : decode cX12_standing 36 = .ok (.iload 4, 2) := by decide +kernel
theorem dX12_standing_38 : decode cX12_standing 38 = .ok (.iaload, 1) := by decide +kernel
theorem dX12_standing_39 : decode cX12_standing 39 = .ok (.irem, 1) := by decide +kernel
theorem dX12_standing_40 : decode cX12_standing 40 = .ok (.iadd, 1) := by decide +kernel
theorem dX12_standing_41 : decode cX12_standing 41 = .ok (.iaload, 1) := by decide +kernel
theorem dX12_standing_42 : decode cX12_standing 42 = .ok (.iload_n 1, 1) := by decide +kernel
theorem dX12_standing_43 : decode cX12_standing 43 = .ok (.if_icmp .ne 7, 3) := by decide +kernel
theorem dX12_standing_46 : decode cX12_standing 46 = .ok (.iconst 1, 1) := by decide +kernel
theorem dX12_standing_47 : decode cX12_standing 47 = .ok (.goto 4, 3) := by decide +kernel
theorem dX12_standing_50 : decode cX12_standing 50 = .ok (.iconst 0, 1) := by decide +kernel
theorem dX12_standing_51 : decode cX12_standing 51 = .ok (.iadd, 1) := by decide +kernel
theorem dX12_standing_52 : decode cX12_standing 52 = .ok (.istore_n 3, 1) := by decide +kernel
theorem dX12_standing_53 : decode cX12_standing 53 = .ok (.iinc 4 1, 3) := by decide +kernel
theorem dX12_standing_56 : decode cX12_standing 56 = .ok (.goto (-51), 3) := by decide +kernel
theorem dX12_standing_59 : decode cX12_standing 59 = .ok (.iload_n 3, 1) := by decide +kernel
theorem dX12_standing_60 : decode cX12_standing 60 = .ok (.ireturn, 1) := by decide +kernel
theorem dX12_stands_0 : decode cX12_stands 0 = .ok (.iload_n 1, 1) := by decide +kernel
theorem dX12_stands_1 : decode cX12_stands 1 = .ok (.iconst 0, 1) := by decide +kernel
theorem dX12_stands_2 : decode cX12_stands 2 = .ok (.bipush 7, 2) := by decide +kernel
theorem dX12_stands_4 : decode cX12_stands 4 = .ok (.invokestatic 179, 3) := by decide +kernel
theorem dX12_stands_7 : decode cX12_stands 7 = .ok (.ifCond .eq 23, 3) := by decide +kernel
theorem dX12_stands_10 : decode cX12_stands 10 = .ok (.iload_n 2, 1) := by decide +kernel
theorem dX12_stands_11 : decode cX12_stands 11 = .ok (.iconst 0, 1) := by decide +kernel
theorem dX12_stands_12 : decode cX12_stands 12 = .ok (.sipush 10000, 3) := by decide +kernel
theorem dX12_stands_15 : decode cX12_stands 15 = .ok (.invokestatic 179, 3) := by decide +kernel
theorem dX12_stands_18 : decode cX12_stands 18 = .ok (.ifCond .eq 12, 3) := by decide +kernel
theorem dX12_stands_21 : decode cX12_stands 21 = .ok (.aload_n 0, 1) := by decide +kernel
theorem dX12_stands_22 : decode cX12_stands 22 = .ok (.iload_n 1, 1) := by decide +kernel
theorem dX12_stands_23 : decode cX12_stands 23 = .ok (.iload_n 2, 1) := by decide +kernel
theorem dX12_stands_24 : decode cX12_stands 24 = .ok (.invokevirtual 460, 3) := by decide +kernel
theorem dX12_stands_27 : decode cX12_stands 27 = .ok (.goto 5, 3) := by decide +kernel
theorem dX12_stands_30 : decode cX12_stands 30 = .ok (.bipush (-2), 2) := by decide +kernel
theorem dX12_stands_32 : decode cX12_stands 32 = .ok (.ireturn, 1) := by decide +kernel
theorem dX12_beginsAt_0 : decode cX12_beginsAt 0 = .ok (.iload_n 2, 1) := by decide +kernel
theorem dX12_beginsAt_1 : decode cX12_beginsAt 1 = .ok (.istore_n 3, 1) := by decide +kernel
theorem dX12_beginsAt_2 : decode cX12_beginsAt 2 = .ok (.iconst 0, 1) := by decide +kernel
theorem dX12_beginsAt_3 : decode cX12_beginsAt 3 = .ok (.istore 4, 2) := by decide +kernel
theorem dX12_beginsAt_5 : decode cX12_beginsAt 5 = .ok (.iload_n 3, 1) := by decide +kernel
theorem dX12_beginsAt_6 : decode cX12_beginsAt 6 = .ok (.aload_n 0, 1) := by decide +kernel
theorem dX12_beginsAt_7 : decode cX12_beginsAt 7 = .ok (.getfield 13, 3) := by decide +kernel
theorem dX12_beginsAt_10 : decode cX12_beginsAt 10 = .ok (.iload_n 1, 1) := by decide +kernel
theorem dX12_beginsAt_11 : decode cX12_beginsAt 11 = .ok (.iaload, 1) := by decide +kernel
theorem dX12_beginsAt_12 : decode cX12_beginsAt 12 = .ok (.iadd, 1) := by decide +kernel
theorem dX12_beginsAt_13 : decode cX12_beginsAt 13 = .ok (.sipush 600, 3) := by decide +kernel
theorem dX12_beginsAt_16 : decode cX12_beginsAt 16 = .ok (.if_icmp .gt 49, 3) := by decide +kernel
theorem dX12_beginsAt_19 : decode cX12_beginsAt 19 = .ok (.aload_n 0, 1) := by decide +kernel
theorem dX12_beginsAt_20 : decode cX12_beginsAt 20 = .ok (.aload_n 0, 1) := by decide +kernel
theorem dX12_beginsAt_21 : decode cX12_beginsAt 21 = .ok (.getfield 22, 3) := by decide +kernel
theorem dX12_beginsAt_24 : decode cX12_beginsAt 24 = .ok (.iload_n 1, 1) := by decide +kernel
theorem dX12_beginsAt_25 : decode cX12_beginsAt 25 = .ok (.iaload, 1) := by decide +kernel
theorem dX12_beginsAt_26 : decode cX12_beginsAt 26 = .ok (.iload_n 3, 1) := by decide +kernel
theorem dX12_beginsAt_27 : decode cX12_beginsAt 27 = .ok (.iload 4, 2) := by decide +kernel
theorem dX12_beginsAt_29 : decode cX12_beginsAt 29 = .ok (.iadd, 1) := by decide +kernel
theorem dX12_beginsAt_30 : decode cX12_beginsAt 30 = .ok (.invokevirtual 460, 3) := by decide +kernel
theorem dX12_beginsAt_33 : decode cX12_beginsAt 33 = .ok (.ifCond .le 16, 3) := by decide +kernel
theorem dX12_beginsAt_36 : decode cX12_beginsAt 36 = .ok (.iload_n 3, 1) := by decide +kernel
theorem dX12_beginsAt_37 : decode cX12_beginsAt 37 = .ok (.iload 4, 2) := by decide +kernel
theorem dX12_beginsAt_39 : decode cX12_beginsAt 39 = .ok (.iconst 1, 1) := by decide +kernel
theorem dX12_beginsAt_40 : decode cX12_beginsAt 40 = .ok (.iadd, 1) := by decide +kernel
theorem dX12_beginsAt_41 : decode cX12_beginsAt 41 = .ok (.iadd, 1) := by decide +kernel
theorem dX12_beginsAt_42 : decode cX12_beginsAt 42 = .ok (.istore_n 3, 1) := by decide +kernel
theorem dX12_beginsAt_43 : decode cX12_beginsAt 43 = .ok (.iconst 0, 1) := by decide +kernel
theorem dX12_beginsAt_44 : decode cX12_beginsAt 44 = .ok (.istore 4, 2) := by decide +kernel
theorem dX12_beginsAt_46 : decode cX12_beginsAt 46 = .ok (.goto (-41), 3) := by decide +kernel
theorem dX12_beginsAt_49 : decode cX12_beginsAt 49 = .ok (.iinc 4 1, 3) := by decide +kernel
theorem dX12_beginsAt_52 : decode cX12_beginsAt 52 = .ok (.iload 4, 2) := by decide +kernel
theorem dX12_beginsAt_54 : decode cX12_beginsAt 54 = .ok (.aload_n 0, 1) := by decide +kernel
theorem dX12_beginsAt_55 : decode cX12_beginsAt 55 = .ok (.getfield 13, 3) := by decide +kernel
theorem dX12_beginsAt_58 : decode cX12_beginsAt 58 = .ok (.iload_n 1, 1) := by decide +kernel
theorem dX12_beginsAt_59 : decode cX12_beginsAt 59 = .ok (.iaload, 1) := by decide +kernel
theorem dX12_beginsAt_60 : decode cX12_beginsAt 60 = .ok (.if_icmp .ne (-55), 3) := by decide +kernel
theorem dX12_beginsAt_63 : decode cX12_beginsAt 63 = .ok (.iload_n 3, 1) := by decide +kernel
theorem dX12_beginsAt_64 : decode cX12_beginsAt 64 = .ok (.ireturn, 1) := by decide +kernel
theorem dX12_beginsAt_65 : decode cX12_beginsAt 65 = .ok (.iconst (-1), 1) := by decide +kernel
theorem dX12_beginsAt_66 : decode cX12_beginsAt 66 = .ok (.ireturn, 1) := by decide +kernel
theorem dX12_begins_0 : decode cX12_begins 0 = .ok (.iload_n 1, 1) := by decide +kernel
theorem dX12_begins_1 : decode cX12_begins 1 = .ok (.invokestatic 183, 3) := by decide +kernel
theorem dX12_begins_4 : decode cX12_begins 4 = .ok (.ifCond .eq 23, 3) := by decide +kernel
theorem dX12_begins_7 : decode cX12_begins 7 = .ok (.iload_n 2, 1) := by decide +kernel
theorem dX12_begins_8 : decode cX12_begins 8 = .ok (.iconst 0, 1) := by decide +kernel
theorem dX12_begins_9 : decode cX12_begins 9 = .ok (.sipush 600, 3) := by decide +kernel
theorem dX12_begins_12 : decode cX12_begins 12 = .ok (.invokestatic 179, 3) := by decide +kernel
theorem dX12_begins_15 : decode cX12_begins 15 = .ok (.ifCond .eq 12, 3) := by decide +kernel
theorem dX12_begins_18 : decode cX12_begins 18 = .ok (.aload_n 0, 1) := by decide +kernel
theorem dX12_begins_19 : decode cX12_begins 19 = .ok (.iload_n 1, 1) := by decide +kernel
theorem dX12_begins_20 : decode cX12_begins 20 = .ok (.iload_n 2, 1) := by decide +kernel
theorem dX12_begins_21 : decode cX12_begins 21 = .ok (.invokevirtual 463, 3) := by decide +kernel
theorem dX12_begins_24 : decode cX12_begins 24 = .ok (.goto 5, 3) := by decide +kernel
theorem dX12_begins_27 : decode cX12_begins 27 = .ok (.bipush (-2), 2) := by decide +kernel
theorem dX12_begins_29 : decode cX12_begins 29 = .ok (.ireturn, 1) := by decide +kernel
theorem dX12_endOf_0 : decode cX12_endOf 0 = .ok (.iload_n 2, 1) := by decide +kernel
theorem dX12_endOf_1 : decode cX12_endOf 1 = .ok (.istore_n 3, 1) := by decide +kernel
theorem dX12_endOf_2 : decode cX12_endOf 2 = .ok (.iconst 0, 1) := by decide +kernel
theorem dX12_endOf_3 : decode cX12_endOf 3 = .ok (.istore 4, 2) := by decide +kernel
theorem dX12_endOf_5 : decode cX12_endOf 5 = .ok (.iload 4, 2) := by decide +kernel
theorem dX12_endOf_7 : decode cX12_endOf 7 = .ok (.iload_n 1, 1) := by decide +kernel
theorem dX12_endOf_8 : decode cX12_endOf 8 = .ok (.if_icmp .ge 33, 3) := by decide +kernel
theorem dX12_endOf_11 : decode cX12_endOf 11 = .ok (.iload_n 3, 1) := by decide +kernel
theorem dX12_endOf_12 : decode cX12_endOf 12 = .ok (.iconst (-1), 1) := by decide +kernel
theorem dX12_endOf_13 : decode cX12_endOf 13 = .ok (.if_icmp .eq 28, 3) := by decide +kernel
theorem dX12_endOf_16 : decode cX12_endOf 16 = .ok (.aload_n 0, 1) := by decide +kernel
theorem dX12_endOf_17 : decode cX12_endOf 17 = .ok (.getfield 160, 3) := by decide +kernel
theorem dX12_endOf_20 : decode cX12_endOf 20 = .ok (.sipush 601, 3) := by decide +kernel
theorem dX12_endOf_23 : decode cX12_endOf 23 = .ok (.aload_n 0, 1) := by decide +kernel
theorem dX12_endOf_24 : decode cX12_endOf 24 = .ok (.getfield 163, 3) := by decide +kernel
theorem dX12_endOf_27 : decode cX12_endOf 27 = .ok (.iload 4, 2) := by decide +kernel
theorem dX12_endOf_29 : decode cX12_endOf 29 = .ok (.iaload, 1) := by decide +kernel
theorem dX12_endOf_30 : decode cX12_endOf 30 = .ok (.imul, 1) := by decide +kernel
theorem dX12_endOf_31 : decode cX12_endOf 31 = .ok (.iload_n 3, 1) := by decide +kernel
theorem dX12_endOf_32 : decode cX12_endOf 32 = .ok (.iadd, 1) := by decide +kernel
theorem dX12_endOf_33 : decode cX12_endOf 33 = .ok (.iaload, 1) := by decide +kernel
