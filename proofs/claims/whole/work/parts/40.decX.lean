theorem dX0_forget_0 : decode cX0_forget 0 = .ok (.aload_n 0, 1) := by decide +kernel
theorem dX0_forget_1 : decode cX0_forget 1 = .ok (.iconst (-1), 1) := by decide +kernel
theorem dX0_forget_2 : decode cX0_forget 2 = .ok (.putfield 9, 3) := by decide +kernel
theorem dX0_forget_5 : decode cX0_forget 5 = .ok (.return_, 1) := by decide +kernel
theorem dX0_draw_0 : decode cX0_draw 0 = .ok (.aload_n 0, 1) := by decide +kernel
theorem dX0_draw_1 : decode cX0_draw 1 = .ok (.getfield 58, 3) := by decide +kernel
theorem dX0_draw_4 : decode cX0_draw 4 = .ok (.iload_n 1, 1) := by decide +kernel
theorem dX0_draw_5 : decode cX0_draw 5 = .ok (.invokevirtual 62, 3) := by decide +kernel
theorem dX0_draw_8 : decode cX0_draw 8 = .ok (.iload_n 1, 1) := by decide +kernel
theorem dX0_draw_9 : decode cX0_draw 9 = .ok (.aload_n 0, 1) := by decide +kernel
theorem dX0_draw_10 : decode cX0_draw 10 = .ok (.getfield 9, 3) := by decide +kernel
theorem dX0_draw_13 : decode cX0_draw 13 = .ok (.if_icmp .ne 4, 3) := by decide +kernel
theorem dX0_draw_16 : decode cX0_draw 16 = .ok (.return_, 1) := by decide +kernel
theorem dX0_draw_17 : decode cX0_draw 17 = .ok (.aload_n 0, 1) := by decide +kernel
theorem dX0_draw_18 : decode cX0_draw 18 = .ok (.iload_n 1, 1) := by decide +kernel
theorem dX0_draw_19 : decode cX0_draw 19 = .ok (.putfield 9, 3) := by decide +kernel
theorem dX0_draw_22 : decode cX0_draw 22 = .ok (.aload_n 0, 1) := by decide +kernel
theorem dX0_draw_23 : decode cX0_draw 23 = .ok (.aload_n 0, 1) := by decide +kernel
theorem dX0_draw_24 : decode cX0_draw 24 = .ok (.getfield 58, 3) := by decide +kernel
theorem dX0_draw_27 : decode cX0_draw 27 = .ok (.getfield 68, 3) := by decide +kernel
theorem dX0_draw_30 : decode cX0_draw 30 = .ok (.invokevirtual 71, 3) := by decide +kernel
theorem dX0_draw_33 : decode cX0_draw 33 = .ok (.iconst 1, 1) := by decide +kernel
theorem dX0_draw_34 : decode cX0_draw 34 = .ok (.aload_n 0, 1) := by decide +kernel
theorem dX0_draw_35 : decode cX0_draw 35 = .ok (.getfield 58, 3) := by decide +kernel
theorem dX0_draw_38 : decode cX0_draw 38 = .ok (.getfield 68, 3) := by decide +kernel
theorem dX0_draw_41 : decode cX0_draw 41 = .ok (.iconst 1, 1) := by decide +kernel
theorem dX0_draw_42 : decode cX0_draw 42 = .ok (.isub, 1) := by decide +kernel
theorem dX0_draw_43 : decode cX0_draw 43 = .ok (.ishl, 1) := by decide +kernel
theorem dX0_draw_44 : decode cX0_draw 44 = .ok (.istore_n 2, 1) := by decide +kernel
theorem dX0_draw_45 : decode cX0_draw 45 = .ok (.iconst 0, 1) := by decide +kernel
theorem dX0_draw_46 : decode cX0_draw 46 = .ok (.istore_n 3, 1) := by decide +kernel
theorem dX0_draw_47 : decode cX0_draw 47 = .ok (.iload_n 3, 1) := by decide +kernel
theorem dX0_draw_48 : decode cX0_draw 48 = .ok (.iload_n 2, 1) := by decide +kernel
theorem dX0_draw_49 : decode cX0_draw 49 = .ok (.if_icmp .ge 46, 3) := by decide +kernel
theorem dX0_draw_52 : decode cX0_draw 52 = .ok (.aload_n 0, 1) := by decide +kernel
theorem dX0_draw_53 : decode cX0_draw 53 = .ok (.getfield 27, 3) := by decide +kernel
theorem dX0_draw_56 : decode cX0_draw 56 = .ok (.iload_n 3, 1) := by decide +kernel
theorem dX0_draw_57 : decode cX0_draw 57 = .ok (.aload_n 0, 1) := by decide +kernel
theorem dX0_draw_58 : decode cX0_draw 58 = .ok (.aload_n 0, 1) := by decide +kernel
theorem dX0_draw_59 : decode cX0_draw 59 = .ok (.getfield 58, 3) := by decide +kernel
theorem dX0_draw_62 : decode cX0_draw 62 = .ok (.getfield 68, 3) := by decide +kernel
theorem dX0_draw_65 : decode cX0_draw 65 = .ok (.iconst 1, 1) := by decide +kernel
theorem dX0_draw_66 : decode cX0_draw 66 = .ok (.isub, 1) := by decide +kernel
theorem dX0_draw_67 : decode cX0_draw 67 = .ok (.aload_n 0, 1) := by decide +kernel
theorem dX0_draw_68 : decode cX0_draw 68 = .ok (.getfield 58, 3) := by decide +kernel
theorem dX0_draw_71 : decode cX0_draw 71 = .ok (.iload_n 3, 1) := by decide +kernel
theorem dX0_draw_72 : decode cX0_draw 72 = .ok (.invokevirtual 74, 3) := by decide +kernel
theorem dX0_draw_75 : decode cX0_draw 75 = .ok (.aload_n 0, 1) := by decide +kernel
theorem dX0_draw_76 : decode cX0_draw 76 = .ok (.getfield 58, 3) := by decide +kernel
theorem dX0_draw_79 : decode cX0_draw 79 = .ok (.iload_n 3, 1) := by decide +kernel
theorem dX0_draw_80 : decode cX0_draw 80 = .ok (.iload_n 2, 1) := by decide +kernel
theorem dX0_draw_81 : decode cX0_draw 81 = .ok (.iadd, 1) := by decide +kernel
theorem dX0_draw_82 : decode cX0_draw 82 = .ok (.invokevirtual 74, 3) := by decide +kernel
theorem dX0_draw_85 : decode cX0_draw 85 = .ok (.invokevirtual 78, 3) := by decide +kernel
theorem dX0_draw_88 : decode cX0_draw 88 = .ok (.iastore, 1) := by decide +kernel
theorem dX0_draw_89 : decode cX0_draw 89 = .ok (.iinc 3 1, 3) := by decide +kernel
theorem dX0_draw_92 : decode cX0_draw 92 = .ok (.goto (-45), 3) := by decide +kernel
theorem dX0_draw_95 : decode cX0_draw 95 = .ok (.aload_n 0, 1) := by decide +kernel
theorem dX0_draw_96 : decode cX0_draw 96 = .ok (.getfield 58, 3) := by decide +kernel
theorem dX0_draw_99 : decode cX0_draw 99 = .ok (.getfield 68, 3) := by decide +kernel
theorem dX0_draw_102 : decode cX0_draw 102 = .ok (.iconst 2, 1) := by decide +kernel
theorem dX0_draw_103 : decode cX0_draw 103 = .ok (.isub, 1) := by decide +kernel
theorem dX0_draw_104 : decode cX0_draw 104 = .ok (.istore_n 3, 1) := by decide +kernel
theorem dX0_draw_105 : decode cX0_draw 105 = .ok (.iload_n 3, 1) := by decide +kernel
theorem dX0_draw_106 : decode cX0_draw 106 = .ok (.ifCond .lt 56, 3) := by decide +kernel
theorem dX0_draw_109 : decode cX0_draw 109 = .ok (.iconst 1, 1) := by decide +kernel
theorem dX0_draw_110 : decode cX0_draw 110 = .ok (.iload_n 3, 1) := by decide +kernel
theorem dX0_draw_111 : decode cX0_draw 111 = .ok (.ishl, 1) := by decide +kernel
theorem dX0_draw_112 : decode cX0_draw 112 = .ok (.istore_n 2, 1) := by decide +kernel
theorem dX0_draw_113 : decode cX0_draw 113 = .ok (.iconst 0, 1) := by decide +kernel
theorem dX0_draw_114 : decode cX0_draw 114 = .ok (.istore 4, 2) := by decide +kernel
theorem dX0_draw_116 : decode cX0_draw 116 = .ok (.iload 4, 2) := by decide +kernel
theorem dX0_draw_118 : decode cX0_draw 118 = .ok (.iload_n 2, 1) := by decide +kernel
theorem dX0_draw_119 : decode cX0_draw 119 = .ok (.if_icmp .ge 37, 3) := by decide +kernel
theorem dX0_draw_122 : decode cX0_draw 122 = .ok (.aload_n 0, 1) := by decide +kernel
theorem dX0_draw_123 : decode cX0_draw 123 = .ok (.getfield 27, 3) := by decide +kernel
theorem dX0_draw_126 : decode cX0_draw 126 = .ok (.iload 4, 2) := by decide +kernel
theorem dX0_draw_128 : decode cX0_draw 128 = .ok (.aload_n 0, 1) := by decide +kernel
theorem dX0_draw_129 : decode cX0_draw 129 = .ok (.iload_n 3, 1) := by decide +kernel
theorem dX0_draw_130 : decode cX0_draw 130 = .ok (.aload_n 0, 1) := by decide +kernel
theorem dX0_draw_131 : decode cX0_draw 131 = .ok (.getfield 27, 3) := by decide +kernel
theorem dX0_draw_134 : decode cX0_draw 134 = .ok (.iload 4, 2) := by decide +kernel
theorem dX0_draw_136 : decode cX0_draw 136 = .ok (.iaload, 1) := by decide +kernel
theorem dX0_draw_137 : decode cX0_draw 137 = .ok (.aload_n 0, 1) := by decide +kernel
theorem dX0_draw_138 : decode cX0_draw 138 = .ok (.getfield 27, 3) := by decide +kernel
theorem dX0_draw_141 : decode cX0_draw 141 = .ok (.iload 4, 2) := by decide +kernel
theorem dX0_draw_143 : decode cX0_draw 143 = .ok (.iload_n 2, 1) := by decide +kernel
theorem dX0_draw_144 : decode cX0_draw 144 = .ok (.iadd, 1) := by decide +kernel
theorem dX0_draw_145 : decode cX0_draw 145 = .ok (.iaload, 1) := by decide +kernel
theorem dX0_draw_146 : decode cX0_draw 146 = .ok (.invokevirtual 78, 3) := by decide +kernel
theorem dX0_draw_149 : decode cX0_draw 149 = .ok (.iastore, 1) := by decide +kernel
theorem dX0_draw_150 : decode cX0_draw 150 = .ok (.iinc 4 1, 3) := by decide +kernel
theorem dX0_draw_153 : decode cX0_draw 153 = .ok (.goto (-37), 3) := by decide +kernel
theorem dX0_draw_156 : decode cX0_draw 156 = .ok (.iinc 3 (-1), 3) := by decide +kernel
theorem dX0_draw_159 : decode cX0_draw 159 = .ok (.goto (-54), 3) := by decide +kernel
theorem dX0_draw_162 : decode cX0_draw 162 = .ok (.aload_n 0, 1) := by decide +kernel
theorem dX0_draw_163 : decode cX0_draw 163 = .ok (.aload_n 0, 1) := by decide +kernel
theorem dX0_draw_164 : decode cX0_draw 164 = .ok (.getfield 27, 3) := by decide +kernel
theorem dX0_draw_167 : decode cX0_draw 167 = .ok (.iconst 0, 1) := by decide +kernel
theorem dX0_draw_168 : decode cX0_draw 168 = .ok (.iaload, 1) := by decide +kernel
theorem dX0_draw_169 : decode cX0_draw 169 = .ok (.putfield 18, 3) := by decide +kernel
theorem dX0_draw_172 : decode cX0_draw 172 = .ok (.return_, 1) := by decide +kernel
theorem dX0_makeRoom_0 : decode cX0_makeRoom 0 = .ok (.sipush 4400, 3) := by decide +kernel
theorem dX0_makeRoom_3 : decode cX0_makeRoom 3 = .ok (.iconst 1, 1) := by decide +kernel
theorem dX0_makeRoom_4 : decode cX0_makeRoom 4 = .ok (.iload_n 1, 1) := by decide +kernel
theorem dX0_makeRoom_5 : decode cX0_makeRoom 5 = .ok (.ishl, 1) := by decide +kernel
theorem dX0_makeRoom_6 : decode cX0_makeRoom 6 = .ok (.iconst 2, 1) := by decide +kernel
theorem dX0_makeRoom_7 : decode cX0_makeRoom 7 = .ok (.iadd, 1) := by decide +kernel
theorem dX0_makeRoom_8 : decode cX0_makeRoom 8 = .ok (.invokestatic 82, 3) := by decide +kernel
theorem dX0_makeRoom_11 : decode cX0_makeRoom 11 = .ok (.istore_n 2, 1) := by decide +kernel
theorem dX0_makeRoom_12 : decode cX0_makeRoom 12 = .ok (.sipush 8192, 3) := by decide +kernel
theorem dX0_makeRoom_15 : decode cX0_makeRoom 15 = .ok (.iconst 2, 1) := by decide +kernel
theorem dX0_makeRoom_16 : decode cX0_makeRoom 16 = .ok (.iload_n 1, 1) := by decide +kernel
theorem dX0_makeRoom_17 : decode cX0_makeRoom 17 = .ok (.ishl, 1) := by decide +kernel
theorem dX0_makeRoom_18 : decode cX0_makeRoom 18 = .ok (.invokestatic 82, 3) := by decide +kernel
theorem dX0_makeRoom_21 : decode cX0_makeRoom 21 = .ok (.istore_n 3, 1) := by decide +kernel
theorem dX0_makeRoom_22 : decode cX0_makeRoom 22 = .ok (.aload_n 0, 1) := by decide +kernel
theorem dX0_makeRoom_23 : decode cX0_makeRoom 23 = .ok (.aload_n 0, 1) := by decide +kernel
theorem dX0_makeRoom_24 : decode cX0_makeRoom 24 = .ok (.getfield 27, 3) := by decide +kernel
theorem dX0_makeRoom_27 : decode cX0_makeRoom 27 = .ok (.iconst 1, 1) := by decide +kernel
theorem dX0_makeRoom_28 : decode cX0_makeRoom 28 = .ok (.iload_n 1, 1) := by decide +kernel
theorem dX0_makeRoom_29 : decode cX0_makeRoom 29 = .ok (.iconst 1, 1) := by decide +kernel
theorem dX0_makeRoom_30 : decode cX0_makeRoom 30 = .ok (.isub, 1) := by decide +kernel
theorem dX0_makeRoom_31 : decode cX0_makeRoom 31 = .ok (.ishl, 1) := by decide +kernel
theorem dX0_makeRoom_32 : decode cX0_makeRoom 32 = .ok (.invokestatic 88, 3) := by decide +kernel
theorem dX0_makeRoom_35 : decode cX0_makeRoom 35 = .ok (.putfield 27, 3) := by decide +kernel
theorem dX0_makeRoom_38 : decode cX0_makeRoom 38 = .ok (.aload_n 0, 1) := by decide +kernel
theorem dX0_makeRoom_39 : decode cX0_makeRoom 39 = .ok (.aload_n 0, 1) := by decide +kernel
theorem dX0_makeRoom_40 : decode cX0_makeRoom 40 = .ok (.getfield 34, 3) := by decide +kernel
theorem dX0_makeRoom_43 : decode cX0_makeRoom 43 = .ok (.iload_n 2, 1) := by decide +kernel
theorem dX0_makeRoom_44 : decode cX0_makeRoom 44 = .ok (.invokestatic 88, 3) := by decide +kernel
theorem dX0_makeRoom_47 : decode cX0_makeRoom 47 = .ok (.putfield 34, 3) := by decide +kernel
theorem dX0_makeRoom_50 : decode cX0_makeRoom 50 = .ok (.aload_n 0, 1) := by decide +kernel
theorem dX0_makeRoom_51 : decode cX0_makeRoom 51 = .ok (.aload_n 0, 1) := by decide +kernel
theorem dX0_makeRoom_52 : decode cX0_makeRoom 52 = .ok (.getfield 37, 3) := by decide +kernel
theorem dX0_makeRoom_55 : decode cX0_makeRoom 55 = .ok (.iload_n 2, 1) := by decide +kernel
theorem dX0_makeRoom_56 : decode cX0_makeRoom 56 = .ok (.invokestatic 88, 3) := by decide +kernel
theorem dX0_makeRoom_59 : decode cX0_makeRoom 59 = .ok (.putfield 37, 3) := by decide +kernel
theorem dX0_makeRoom_62 : decode cX0_makeRoom 62 = .ok (.aload_n 0, 1) := by decide +kernel
theorem dX0_makeRoom_63 : decode cX0_makeRoom 63 = .ok (.aload_n 0, 1) := by decide +kernel
theorem dX0_makeRoom_64 : decode cX0_makeRoom 64 = .ok (.getfield 40, 3) := by decide +kernel
theorem dX0_makeRoom_67 : decode cX0_makeRoom 67 = .ok (.iload_n 2, 1) := by decide +kernel
theorem dX0_makeRoom_68 : decode cX0_makeRoom 68 = .ok (.invokestatic 88, 3) := by decide +kernel
theorem dX0_makeRoom_71 : decode cX0_makeRoom 71 = .ok (.putfield 40, 3) := by decide +kernel
theorem dX0_makeRoom_74 : decode cX0_makeRoom 74 = .ok (.aload_n 0, 1) := by decide +kernel
theorem dX0_makeRoom_75 : decode cX0_makeRoom 75 = .ok (.aload_n 0, 1) := by decide +kernel
theorem dX0_makeRoom_76 : decode cX0_makeRoom 76 = .ok (.getfield 31, 3) := by decide +kernel
theorem dX0_makeRoom_79 : decode cX0_makeRoom 79 = .ok (.iload_n 3, 1) := by decide +kernel
theorem dX0_makeRoom_80 : decode cX0_makeRoom 80 = .ok (.invokestatic 88, 3) := by decide +kernel
theorem dX0_makeRoom_83 : decode cX0_makeRoom 83 = .ok (.putfield 31, 3) := by decide +kernel
theorem dX0_makeRoom_86 : decode cX0_makeRoom 86 = .ok (.aload_n 0, 1) := by decide +kernel
theorem dX0_makeRoom_87 : decode cX0_makeRoom 87 = .ok (.getfield 31, 3) := by decide +kernel
theorem dX0_makeRoom_90 : decode cX0_makeRoom 90 = .ok (.iconst 0, 1) := by decide +kernel
theorem dX0_makeRoom_91 : decode cX0_makeRoom 91 = .ok (.iload_n 3, 1) := by decide +kernel
theorem dX0_makeRoom_92 : decode cX0_makeRoom 92 = .ok (.invokestatic 92, 3) := by decide +kernel
theorem dX0_makeRoom_95 : decode cX0_makeRoom 95 = .ok (.aload_n 0, 1) := by decide +kernel
theorem dX0_makeRoom_96 : decode cX0_makeRoom 96 = .ok (.iload_n 3, 1) := by decide +kernel
theorem dX0_makeRoom_97 : decode cX0_makeRoom 97 = .ok (.iconst 1, 1) := by decide +kernel
theorem dX0_makeRoom_98 : decode cX0_makeRoom 98 = .ok (.isub, 1) := by decide +kernel
theorem dX0_makeRoom_99 : decode cX0_makeRoom 99 = .ok (.putfield 21, 3) := by decide +kernel
theorem dX0_makeRoom_102 : decode cX0_makeRoom 102 = .ok (.aload_n 0, 1) := by decide +kernel
theorem dX0_makeRoom_103 : decode cX0_makeRoom 103 = .ok (.iconst 2, 1) := by decide +kernel
theorem dX0_makeRoom_104 : decode cX0_makeRoom 104 = .ok (.putfield 15, 3) := by decide +kernel
theorem dX0_makeRoom_107 : decode cX0_makeRoom 107 = .ok (.aload_n 0, 1) := by decide +kernel
theorem dX0_makeRoom_108 : decode cX0_makeRoom 108 = .ok (.iload_n 1, 1) := by decide +kernel
theorem dX0_makeRoom_109 : decode cX0_makeRoom 109 = .ok (.iconst 2, 1) := by decide +kernel
theorem dX0_makeRoom_110 : decode cX0_makeRoom 110 = .ok (.iadd, 1) := by decide +kernel
theorem dX0_makeRoom_111 : decode cX0_makeRoom 111 = .ok (.iconst 3, 1) := by decide +kernel
theorem dX0_makeRoom_112 : decode cX0_makeRoom 112 = .ok (.idiv, 1) := by decide +kernel
theorem dX0_makeRoom_113 : decode cX0_makeRoom 113 = .ok (.putfield 24, 3) := by decide +kernel
theorem dX0_makeRoom_116 : decode cX0_makeRoom 116 = .ok (.return_, 1) := by decide +kernel
theorem dX0_nodeFor_0 : decode cX0_nodeFor 0 = .ok (.iload_n 2, 1) := by decide +kernel
theorem dX0_nodeFor_1 : decode cX0_nodeFor 1 = .ok (.iload_n 3, 1) := by decide +kernel
theorem dX0_nodeFor_2 : decode cX0_nodeFor 2 = .ok (.if_icmp .ne 5, 3) := by decide +kernel
theorem dX0_nodeFor_5 : decode cX0_nodeFor 5 = .ok (.iload_n 2, 1) := by decide +kernel
theorem dX0_nodeFor_6 : decode cX0_nodeFor 6 = .ok (.ireturn, 1) := by decide +kernel
theorem dX0_nodeFor_7 : decode cX0_nodeFor 7 = .ok (.iload_n 2, 1) := by decide +kernel
theorem dX0_nodeFor_8 : decode cX0_nodeFor 8 = .ok (.ldc 96, 2) := by decide +kernel
theorem dX0_nodeFor_10 : decode cX0_nodeFor 10 = .ok (.imul, 1) := by decide +kernel
theorem dX0_nodeFor_11 : decode cX0_nodeFor 11 = .ok (.iload_n 3, 1) := by decide +kernel
theorem dX0_nodeFor_12 : decode cX0_nodeFor 12 = .ok (.sipush 30011, 3) := by decide +kernel
theorem dX0_nodeFor_15 : decode cX0_nodeFor 15 = .ok (.imul, 1) := by decide +kernel
theorem dX0_nodeFor_16 : decode cX0_nodeFor 16 = .ok (.iadd, 1) := by decide +kernel
theorem dX0_nodeFor_17 : decode cX0_nodeFor 17 = .ok (.iload_n 1, 1) := by decide +kernel
theorem dX0_nodeFor_18 : decode cX0_nodeFor 18 = .ok (.iadd, 1) := by decide +kernel
theorem dX0_nodeFor_19 : decode cX0_nodeFor 19 = .ok (.aload_n 0, 1) := by decide +kernel
theorem dX0_nodeFor_20 : decode cX0_nodeFor 20 = .ok (.getfield 21, 3) := by decide +kernel
theorem dX0_nodeFor_23 : decode cX0_nodeFor 23 = .ok (.iand, 1) := by decide +kernel
theorem dX0_nodeFor_24 : decode cX0_nodeFor 24 = .ok (.istore 4, 2) := by decide +kernel
theorem dX0_nodeFor_26 : decode cX0_nodeFor 26 = .ok (.iconst 0, 1) := by decide +kernel
theorem dX0_nodeFor_27 : decode cX0_nodeFor 27 = .ok (.istore 5, 2) := by decide +kernel
theorem dX0_nodeFor_29 : decode cX0_nodeFor 29 = .ok (.iload 5, 2) := by decide +kernel
theorem dX0_nodeFor_31 : decode cX0_nodeFor 31 = .ok (.aload_n 0, 1) := by decide +kernel
theorem dX0_nodeFor_32 : decode cX0_nodeFor 32 = .ok (.getfield 21, 3) := by decide +kernel
theorem dX0_nodeFor_35 : decode cX0_nodeFor 35 = .ok (.if_icmp .gt 75, 3) := by decide +kernel
theorem dX0_nodeFor_38 : decode cX0_nodeFor 38 = .ok (.aload_n 0, 1) := by decide +kernel
theorem dX0_nodeFor_39 : decode cX0_nodeFor 39 = .ok (.getfield 31, 3) := by decide +kernel
theorem dX0_nodeFor_42 : decode cX0_nodeFor 42 = .ok (.iload 4, 2) := by decide +kernel
theorem dX0_nodeFor_44 : decode cX0_nodeFor 44 = .ok (.iaload, 1) := by decide +kernel
theorem dX0_nodeFor_45 : decode cX0_nodeFor 45 = .ok (.ifCond .eq 65, 3) := by decide +kernel
theorem dX0_nodeFor_48 : decode cX0_nodeFor 48 = .ok (.aload_n 0, 1) := by decide +kernel
theorem dX0_nodeFor_49 : decode cX0_nodeFor 49 = .ok (.getfield 31, 3) := by decide +kernel
theorem dX0_nodeFor_52 : decode cX0_nodeFor 52 = .ok (.iload 4, 2) := by decide +kernel
theorem dX0_nodeFor_54 : decode cX0_nodeFor 54 = .ok (.iaload, 1) := by decide +kernel
theorem dX0_nodeFor_55 : decode cX0_nodeFor 55 = .ok (.istore 6, 2) := by decide +kernel
theorem dX0_nodeFor_57 : decode cX0_nodeFor 57 = .ok (.aload_n 0, 1) := by decide +kernel
theorem dX0_nodeFor_58 : decode cX0_nodeFor 58 = .ok (.getfield 37, 3) := by decide +kernel
theorem dX0_nodeFor_61 : decode cX0_nodeFor 61 = .ok (.iload 6, 2) := by decide +kernel
theorem dX0_nodeFor_63 : decode cX0_nodeFor 63 = .ok (.iaload, 1) := by decide +kernel
theorem dX0_nodeFor_64 : decode cX0_nodeFor 64 = .ok (.iload_n 2, 1) := by decide +kernel
theorem dX0_nodeFor_65 : decode cX0_nodeFor 65 = .ok (.if_icmp .ne 28, 3) := by decide +kernel
theorem dX0_nodeFor_68 : decode cX0_nodeFor 68 = .ok (.aload_n 0, 1) := by decide +kernel
theorem dX0_nodeFor_69 : decode cX0_nodeFor 69 = .ok (.getfield 40, 3) := by decide +kernel
theorem dX0_nodeFor_72 : decode cX0_nodeFor 72 = .ok (.iload 6, 2) := by decide +kernel
theorem dX0_nodeFor_74 : decode cX0_nodeFor 74 = .ok (.iaload, 1) := by decide +kernel
theorem dX0_nodeFor_75 : decode cX0_nodeFor 75 = .ok (.iload_n 3, 1) := by decide +kernel
theorem dX0_nodeFor_76 : decode cX0_nodeFor 76 = .ok (.if_icmp .ne 17, 3) := by decide +kernel
theorem dX0_nodeFor_79 : decode cX0_nodeFor 79 = .ok (.aload_n 0, 1) := by decide +kernel
theorem dX0_nodeFor_80 : decode cX0_nodeFor 80 = .ok (.getfield 34, 3) := by decide +kernel
theorem dX0_nodeFor_83 : decode cX0_nodeFor 83 = .ok (.iload 6, 2) := by decide +kernel
theorem dX0_nodeFor_85 : decode cX0_nodeFor 85 = .ok (.iaload, 1) := by decide +kernel
theorem dX0_nodeFor_86 : decode cX0_nodeFor 86 = .ok (.iload_n 1, 1) := by decide +kernel
theorem dX0_nodeFor_87 : decode cX0_nodeFor 87 = .ok (.if_icmp .ne 6, 3) := by decide +kernel
theorem dX0_nodeFor_90 : decode cX0_nodeFor 90 = .ok (.iload 6, 2) := by decide +kernel
theorem dX0_nodeFor_92 : decode cX0_nodeFor 92 = .ok (.ireturn, 1) := by decide +kernel
theorem dX0_nodeFor_93 : decode cX0_nodeFor 93 = .ok (.iload 4, 2) := by decide +kernel
theorem dX0_nodeFor_95 : decode cX0_nodeFor 95 = .ok (.iconst 1, 1) := by decide +kernel
theorem dX0_nodeFor_96 : decode cX0_nodeFor 96 = .ok (.iadd, 1) := by decide +kernel
theorem dX0_nodeFor_97 : decode cX0_nodeFor 97 = .ok (.aload_n 0, 1) := by decide +kernel
theorem dX0_nodeFor_98 : decode cX0_nodeFor 98 = .ok (.getfield 21, 3) := by decide +kernel
theorem dX0_nodeFor_101 : decode cX0_nodeFor 101 = .ok (.iand, 1) := by decide +kernel
theorem dX0_nodeFor_102 : decode cX0_nodeFor 102 = .ok (.istore 4, 2) := by decide +kernel
theorem dX0_nodeFor_104 : decode cX0_nodeFor 104 = .ok (.iinc 5 1, 3) := by decide +kernel
theorem dX0_nodeFor_107 : decode cX0_nodeFor 107 = .ok (.goto (-78), 3) := by decide +kernel
theorem dX0_nodeFor_110 : decode cX0_nodeFor 110 = .ok (.aload_n 0, 1) := by decide +kernel
theorem dX0_nodeFor_111 : decode cX0_nodeFor 111 = .ok (.getfield 15, 3) := by decide +kernel
theorem dX0_nodeFor_114 : decode cX0_nodeFor 114 = .ok (.aload_n 0, 1) := by decide +kernel
theorem dX0_nodeFor_115 : decode cX0_nodeFor 115 = .ok (.getfield 34, 3) := by decide +kernel
theorem dX0_nodeFor_118 : decode cX0_nodeFor 118 = .ok (.arraylength, 1) := by decide +kernel
theorem dX0_nodeFor_119 : decode cX0_nodeFor 119 = .ok (.if_icmp .lt 5, 3) := by decide +kernel
theorem dX0_nodeFor_122 : decode cX0_nodeFor 122 = .ok (.iload_n 2, 1) := by decide +kernel
theorem dX0_nodeFor_123 : decode cX0_nodeFor 123 = .ok (.ireturn, 1) := by decide +kernel
theorem dX0_nodeFor_124 : decode cX0_nodeFor 124 = .ok (.aload_n 0, 1) := by decide +kernel
theorem dX0_nodeFor_125 : decode cX0_nodeFor 125 = .ok (.getfield 34, 3) := by decide +kernel
theorem dX0_nodeFor_128 : decode cX0_nodeFor 128 = .ok (.aload_n 0, 1) := by decide +kernel
theorem dX0_nodeFor_129 : decode cX0_nodeFor 129 = .ok (.getfield 15, 3) := by decide +kernel
theorem dX0_nodeFor_132 : decode cX0_nodeFor 132 = .ok (.iload_n 1, 1) := by decide +kernel
theorem dX0_nodeFor_133 : decode cX0_nodeFor 133 = .ok (.iastore, 1) := by decide +kernel
theorem dX0_nodeFor_134 : decode cX0_nodeFor 134 = .ok (.aload_n 0, 1) := by decide +kernel
theorem dX0_nodeFor_135 : decode cX0_nodeFor 135 = .ok (.getfield 37, 3) := by decide +kernel
theorem dX0_nodeFor_138 : decode cX0_nodeFor 138 = .ok (.aload_n 0, 1) := by decide +kernel
theorem dX0_nodeFor_139 : decode cX0_nodeFor 139 = .ok (.getfield 15, 3) := by decide +kernel
theorem dX0_nodeFor_142 : decode cX0_nodeFor 142 = .ok (.iload_n 2, 1) := by decide +kernel
theorem dX0_nodeFor_143 : decode cX0_nodeFor 143 = .ok (.iastore, 1) := by decide +kernel
theorem dX0_nodeFor_144 : decode cX0_nodeFor 144 = .ok (.aload_n 0, 1) := by decide +kernel
theorem dX0_nodeFor_145 : decode cX0_nodeFor 145 = .ok (.getfield 40, 3) := by decide +kernel
theorem dX0_nodeFor_148 : decode cX0_nodeFor 148 = .ok (.aload_n 0, 1) := by decide +kernel
theorem dX0_nodeFor_149 : decode cX0_nodeFor 149 = .ok (.getfield 15, 3) := by decide +kernel
theorem dX0_nodeFor_152 : decode cX0_nodeFor 152 = .ok (.iload_n 3, 1) := by decide +kernel
theorem dX0_nodeFor_153 : decode cX0_nodeFor 153 = .ok (.iastore, 1) := by decide +kernel
theorem dX0_nodeFor_154 : decode cX0_nodeFor 154 = .ok (.aload_n 0, 1) := by decide +kernel
theorem dX0_nodeFor_155 : decode cX0_nodeFor 155 = .ok (.getfield 31, 3) := by decide +kernel
theorem dX0_nodeFor_158 : decode cX0_nodeFor 158 = .ok (.iload 4, 2) := by decide +kernel
theorem dX0_nodeFor_160 : decode cX0_nodeFor 160 = .ok (.aload_n 0, 1) := by decide +kernel
theorem dX0_nodeFor_161 : decode cX0_nodeFor 161 = .ok (.getfield 15, 3) := by decide +kernel
theorem dX0_nodeFor_164 : decode cX0_nodeFor 164 = .ok (.iastore, 1) := by decide +kernel
theorem dX0_nodeFor_165 : decode cX0_nodeFor 165 = .ok (.aload_n 0, 1) := by decide +kernel
theorem dX0_nodeFor_166 : decode cX0_nodeFor 166 = .ok (.dup, 1) := by decide +kernel
theorem dX0_nodeFor_167 : decode cX0_nodeFor 167 = .ok (.getfield 15, 3) := by decide +kernel
theorem dX0_nodeFor_170 : decode cX0_nodeFor 170 = .ok (.iconst 1, 1) := by decide +kernel
theorem dX0_nodeFor_171 : decode cX0_nodeFor 171 = .ok (.iadd, 1) := by decide +kernel
theorem dX0_nodeFor_172 : decode cX0_nodeFor 172 = .ok (.putfield 15, 3) := by decide +kernel
theorem dX0_nodeFor_175 : decode cX0_nodeFor 175 = .ok (.aload_n 0, 1) := by decide +kernel
theorem dX0_nodeFor_176 : decode cX0_nodeFor 176 = .ok (.getfield 15, 3) := by decide +kernel
theorem dX0_nodeFor_179 : decode cX0_nodeFor 179 = .ok (.iconst 1, 1) := by decide +kernel
theorem dX0_nodeFor_180 : decode cX0_nodeFor 180 = .ok (.isub, 1) := by decide +kernel
theorem dX0_nodeFor_181 : decode cX0_nodeFor 181 = .ok (.ireturn, 1) := by decide +kernel
theorem dX0_drawnSize_0 : decode cX0_drawnSize 0 = .ok (.aload_n 0, 1) := by decide +kernel
theorem dX0_drawnSize_1 : decode cX0_drawnSize 1 = .ok (.getfield 15, 3) := by decide +kernel
theorem dX0_drawnSize_4 : decode cX0_drawnSize 4 = .ok (.iconst 2, 1) := by decide +kernel
theorem dX0_drawnSize_5 : decode cX0_drawnSize 5 = .ok (.isub, 1) := by decide +kernel
theorem dX0_drawnSize_6 : decode cX0_drawnSize 6 = .ok (.ireturn, 1) := by decide +kernel
theorem dX0_mayWork_0 : decode cX0_mayWork 0 = .ok (.aload_n 0, 1) := by decide +kernel
theorem dX0_mayWork_1 : decode cX0_mayWork 1 = .ok (.iload_n 1, 1) := by decide +kernel
theorem dX0_mayWork_2 : decode cX0_mayWork 2 = .ok (.invokevirtual 97, 3) := by decide +kernel
theorem dX0_mayWork_5 : decode cX0_mayWork 5 = .ok (.aload_n 0, 1) := by decide +kernel
theorem dX0_mayWork_6 : decode cX0_mayWork 6 = .ok (.invokevirtual 100, 3) := by decide +kernel
theorem dX0_mayWork_9 : decode cX0_mayWork 9 = .ok (.sipush 400, 3) := by decide +kernel
theorem dX0_mayWork_12 : decode cX0_mayWork 12 = .ok (.if_icmp .gt 7, 3) := by decide +kernel
theorem dX0_mayWork_15 : decode cX0_mayWork 15 = .ok (.iconst 1, 1) := by decide +kernel
theorem dX0_mayWork_16 : decode cX0_mayWork 16 = .ok (.goto 4, 3) := by decide +kernel
theorem dX0_mayWork_19 : decode cX0_mayWork 19 = .ok (.iconst 0, 1) := by decide +kernel
theorem dX0_mayWork_20 : decode cX0_mayWork 20 = .ok (.ireturn, 1) := by decide +kernel
theorem dX0_takeOdds_0 : decode cX0_takeOdds 0 = .ok (.iconst 0, 1) := by decide +kernel
theorem dX0_takeOdds_1 : decode cX0_takeOdds 1 = .ok (.istore_n 2, 1) := by decide +kernel
theorem dX0_takeOdds_2 : decode cX0_takeOdds 2 = .ok (.iload_n 2, 1) := by decide +kernel
theorem dX0_takeOdds_3 : decode cX0_takeOdds 3 = .ok (.aload_n 0, 1) := by decide +kernel
theorem dX0_takeOdds_4 : decode cX0_takeOdds 4 = .ok (.getfield 58, 3) := by decide +kernel
theorem dX0_takeOdds_7 : decode cX0_takeOdds 7 = .ok (.getfield 68, 3) := by decide +kernel
theorem dX0_takeOdds_10 : decode cX0_takeOdds 10 = .ok (.if_icmp .ge 47, 3) := by decide +kernel
theorem dX0_takeOdds_13 : decode cX0_takeOdds 13 = .ok (.aload_n 0, 1) := by decide +kernel
theorem dX0_takeOdds_14 : decode cX0_takeOdds 14 = .ok (.getfield 58, 3) := by decide +kernel
theorem dX0_takeOdds_17 : decode cX0_takeOdds 17 = .ok (.getfield 104, 3) := by decide +kernel
theorem dX0_takeOdds_20 : decode cX0_takeOdds 20 = .ok (.iload_n 2, 1) := by decide +kernel
theorem dX0_takeOdds_21 : decode cX0_takeOdds 21 = .ok (.iaload, 1) := by decide +kernel
theorem dX0_takeOdds_22 : decode cX0_takeOdds 22 = .ok (.istore_n 3, 1) := by decide +kernel
theorem dX0_takeOdds_23 : decode cX0_takeOdds 23 = .ok (.aload_n 0, 1) := by decide +kernel
theorem dX0_takeOdds_24 : decode cX0_takeOdds 24 = .ok (.getfield 51, 3) := by decide +kernel
theorem dX0_takeOdds_27 : decode cX0_takeOdds 27 = .ok (.iload_n 2, 1) := by decide +kernel
theorem dX0_takeOdds_28 : decode cX0_takeOdds 28 = .ok (.iload_n 1, 1) := by decide +kernel
theorem dX0_takeOdds_29 : decode cX0_takeOdds 29 = .ok (.iload_n 3, 1) := by decide +kernel
theorem dX0_takeOdds_30 : decode cX0_takeOdds 30 = .ok (.ishr, 1) := by decide +kernel
theorem dX0_takeOdds_31 : decode cX0_takeOdds 31 = .ok (.iconst 1, 1) := by decide +kernel
theorem dX0_takeOdds_32 : decode cX0_takeOdds 32 = .ok (.iand, 1) := by decide +kernel
theorem dX0_takeOdds_33 : decode cX0_takeOdds 33 = .ok (.iconst 1, 1) := by decide +kernel
theorem dX0_takeOdds_34 : decode cX0_takeOdds 34 = .ok (.if_icmp .ne 7, 3) := by decide +kernel
theorem dX0_takeOdds_37 : decode cX0_takeOdds 37 = .ok (.iconst 0, 1) := by decide +kernel
theorem dX0_takeOdds_38 : decode cX0_takeOdds 38 = .ok (.goto 12, 3) := by decide +kernel
theorem dX0_takeOdds_41 : decode cX0_takeOdds 41 = .ok (.aload_n 0, 1) := by decide +kernel
theorem dX0_takeOdds_42 : decode cX0_takeOdds 42 = .ok (.getfield 54, 3) := by decide +kernel
theorem dX0_takeOdds_45 : decode cX0_takeOdds 45 = .ok (.iload_n 3, 1) := by decide +kernel
theorem dX0_takeOdds_46 : decode cX0_takeOdds 46 = .ok (.iconst 2, 1) := by decide +kernel
theorem dX0_takeOdds_47 : decode cX0_takeOdds 47 = .ok (.invokevirtual 109, 3) := by decide +kernel
theorem dX0_takeOdds_50 : decode cX0_takeOdds 50 = .ok (.iastore, 1) := by decide +kernel
theorem dX0_takeOdds_51 : decode cX0_takeOdds 51 = .ok (.iinc 2 1, 3) := by decide +kernel
theorem dX0_takeOdds_54 : decode cX0_takeOdds 54 = .ok (.goto (-52), 3) := by decide +kernel
theorem dX0_takeOdds_57 : decode cX0_takeOdds 57 = .ok (.return_, 1) := by decide +kernel
theorem dX0_work_0 : decode cX0_work 0 = .ok (.aload_n 0, 1) := by decide +kernel
theorem dX0_work_1 : decode cX0_work 1 = .ok (.aload_n 0, 1) := by decide +kernel
theorem dX0_work_2 : decode cX0_work 2 = .ok (.getfield 43, 3) := by decide +kernel
theorem dX0_work_5 : decode cX0_work 5 = .ok (.aload_n 0, 1) := by decide +kernel
theorem dX0_work_6 : decode cX0_work 6 = .ok (.getfield 15, 3) := by decide +kernel
theorem dX0_work_9 : decode cX0_work 9 = .ok (.aload_n 0, 1) := by decide +kernel
theorem dX0_work_10 : decode cX0_work 10 = .ok (.getfield 24, 3) := by decide +kernel
theorem dX0_work_13 : decode cX0_work 13 = .ok (.imul, 1) := by decide +kernel
theorem dX0_work_14 : decode cX0_work 14 = .ok (.invokestatic 88, 3) := by decide +kernel
theorem dX0_work_17 : decode cX0_work 17 = .ok (.putfield 43, 3) := by decide +kernel
theorem dX0_work_20 : decode cX0_work 20 = .ok (.aload_n 0, 1) := by decide +kernel
theorem dX0_work_21 : decode cX0_work 21 = .ok (.getfield 43, 3) := by decide +kernel
theorem dX0_work_24 : decode cX0_work 24 = .ok (.iconst 0, 1) := by decide +kernel
theorem dX0_work_25 : decode cX0_work 25 = .ok (.aload_n 0, 1) := by decide +kernel
theorem dX0_work_26 : decode cX0_work 26 = .ok (.getfield 24, 3) := by decide +kernel
theorem dX0_work_29 : decode cX0_work 29 = .ok (.invokestatic 92, 3) := by decide +kernel
theorem dX0_work_32 : decode cX0_work 32 = .ok (.aload_n 0, 1) := by decide +kernel
theorem dX0_work_33 : decode cX0_work 33 = .ok (.getfield 43, 3) := by decide +kernel
theorem dX0_work_36 : decode cX0_work 36 = .ok (.aload_n 0, 1) := by decide +kernel
theorem dX0_work_37 : decode cX0_work 37 = .ok (.getfield 24, 3) := by decide +kernel
theorem dX0_work_40 : decode cX0_work 40 = .ok (.aload_n 0, 1) := by decide +kernel
theorem dX0_work_41 : decode cX0_work 41 = .ok (.getfield 24, 3) := by decide +kernel
theorem dX0_work_44 : decode cX0_work 44 = .ok (.aload_n 0, 1) := by decide +kernel
theorem dX0_work_45 : decode cX0_work 45 = .ok (.getfield 58, 3) := by decide +kernel
theorem dX0_work_48 : decode cX0_work 48 = .ok (.getfield 68, 3) := by decide +kernel
theorem dX0_work_51 : decode cX0_work 51 = .ok (.invokestatic 112, 3) := by decide +kernel
theorem dX0_work_54 : decode cX0_work 54 = .ok (.iconst 2, 1) := by decide +kernel
theorem dX0_work_55 : decode cX0_work 55 = .ok (.istore_n 1, 1) := by decide +kernel
theorem dX0_work_56 : decode cX0_work 56 = .ok (.iload_n 1, 1) := by decide +kernel
theorem dX0_work_57 : decode cX0_work 57 = .ok (.aload_n 0, 1) := by decide +kernel
theorem dX0_work_58 : decode cX0_work 58 = .ok (.getfield 15, 3) := by decide +kernel
theorem dX0_work_61 : decode cX0_work 61 = .ok (.if_icmp .ge 59, 3) := by decide +kernel
theorem dX0_work_64 : decode cX0_work 64 = .ok (.aload_n 0, 1) := by decide +kernel
theorem dX0_work_65 : decode cX0_work 65 = .ok (.getfield 43, 3) := by decide +kernel
theorem dX0_work_68 : decode cX0_work 68 = .ok (.iload_n 1, 1) := by decide +kernel
theorem dX0_work_69 : decode cX0_work 69 = .ok (.aload_n 0, 1) := by decide +kernel
theorem dX0_work_70 : decode cX0_work 70 = .ok (.getfield 24, 3) := by decide +kernel
theorem dX0_work_73 : decode cX0_work 73 = .ok (.imul, 1) := by decide +kernel
theorem dX0_work_74 : decode cX0_work 74 = .ok (.aload_n 0, 1) := by decide +kernel
theorem dX0_work_75 : decode cX0_work 75 = .ok (.getfield 40, 3) := by decide +kernel
theorem dX0_work_78 : decode cX0_work 78 = .ok (.iload_n 1, 1) := by decide +kernel
theorem dX0_work_79 : decode cX0_work 79 = .ok (.iaload, 1) := by decide +kernel
theorem dX0_work_80 : decode cX0_work 80 = .ok (.aload_n 0, 1) := by decide +kernel
theorem dX0_work_81 : decode cX0_work 81 = .ok (.getfield 24, 3) := by decide +kernel
theorem dX0_work_84 : decode cX0_work 84 = .ok (.imul, 1) := by decide +kernel
theorem dX0_work_85 : decode cX0_work 85 = .ok (.aload_n 0, 1) := by decide +kernel
theorem dX0_work_86 : decode cX0_work 86 = .ok (.getfield 37, 3) := by decide +kernel
theorem dX0_work_89 : decode cX0_work 89 = .ok (.iload_n 1, 1) := by decide +kernel
theorem dX0_work_90 : decode cX0_work 90 = .ok (.iaload, 1) := by decide +kernel
theorem dX0_work_91 : decode cX0_work 91 = .ok (.aload_n 0, 1) := by decide +kernel
theorem dX0_work_92 : decode cX0_work 92 = .ok (.getfield 24, 3) := by decide +kernel
theorem dX0_work_95 : decode cX0_work 95 = .ok (.imul, 1) := by decide +kernel
theorem dX0_work_96 : decode cX0_work 96 = .ok (.aload_n 0, 1) := by decide +kernel
theorem dX0_work_97 : decode cX0_work 97 = .ok (.getfield 51, 3) := by decide +kernel
theorem dX0_work_100 : decode cX0_work 100 = .ok (.aload_n 0, 1) := by decide +kernel
theorem dX0_work_101 : decode cX0_work 101 = .ok (.getfield 34, 3) := by decide +kernel
theorem dX0_work_104 : decode cX0_work 104 = .ok (.iload_n 1, 1) := by decide +kernel
theorem dX0_work_105 : decode cX0_work 105 = .ok (.iaload, 1) := by decide +kernel
theorem dX0_work_106 : decode cX0_work 106 = .ok (.iaload, 1) := by decide +kernel
theorem dX0_work_107 : decode cX0_work 107 = .ok (.aload_n 0, 1) := by decide +kernel
theorem dX0_work_108 : decode cX0_work 108 = .ok (.getfield 24, 3) := by decide +kernel
theorem dX0_work_111 : decode cX0_work 111 = .ok (.invokestatic 116, 3) := by decide +kernel
theorem dX0_work_114 : decode cX0_work 114 = .ok (.iinc 1 1, 3) := by decide +kernel
theorem dX0_work_117 : decode cX0_work 117 = .ok (.goto (-61), 3) := by decide +kernel
theorem dX0_work_120 : decode cX0_work 120 = .ok (.aload_n 0, 1) := by decide +kernel
theorem dX0_work_121 : decode cX0_work 121 = .ok (.getfield 18, 3) := by decide +kernel
theorem dX0_work_124 : decode cX0_work 124 = .ok (.aload_n 0, 1) := by decide +kernel
theorem dX0_work_125 : decode cX0_work 125 = .ok (.getfield 24, 3) := by decide +kernel
theorem dX0_work_128 : decode cX0_work 128 = .ok (.imul, 1) := by decide +kernel
theorem dX0_work_129 : decode cX0_work 129 = .ok (.ireturn, 1) := by decide +kernel
theorem dX0_workWeight_0 : decode cX0_workWeight 0 = .ok (.aload_n 0, 1) := by decide +kernel
theorem dX0_workWeight_1 : decode cX0_workWeight 1 = .ok (.getfield 48, 3) := by decide +kernel
theorem dX0_workWeight_4 : decode cX0_workWeight 4 = .ok (.iconst 0, 1) := by decide +kernel
theorem dX0_workWeight_5 : decode cX0_workWeight 5 = .ok (.invokestatic 120, 3) := by decide +kernel
theorem dX0_workWeight_8 : decode cX0_workWeight 8 = .ok (.aload_n 0, 1) := by decide +kernel
theorem dX0_workWeight_9 : decode cX0_workWeight 9 = .ok (.getfield 58, 3) := by decide +kernel
theorem dX0_workWeight_12 : decode cX0_workWeight 12 = .ok (.iconst 1, 1) := by decide +kernel
theorem dX0_workWeight_13 : decode cX0_workWeight 13 = .ok (.iload_n 1, 1) := by decide +kernel
theorem dX0_workWeight_14 : decode cX0_workWeight 14 = .ok (.ishl, 1) := by decide +kernel
theorem dX0_workWeight_15 : decode cX0_workWeight 15 = .ok (.invokevirtual 126, 3) := by decide +kernel
theorem dX0_workWeight_18 : decode cX0_workWeight 18 = .ok (.ifCond .ne 4, 3) := by decide +kernel
theorem dX0_workWeight_21 : decode cX0_workWeight 21 = .ok (.return_, 1) := by decide +kernel
theorem dX0_workWeight_22 : decode cX0_workWeight 22 = .ok (.aload_n 0, 1) := by decide +kernel
theorem dX0_workWeight_23 : decode cX0_workWeight 23 = .ok (.iconst 0, 1) := by decide +kernel
theorem dX0_workWeight_24 : decode cX0_workWeight 24 = .ok (.invokevirtual 129, 3) := by decide +kernel
theorem dX0_workWeight_27 : decode cX0_workWeight 27 = .ok (.aload_n 0, 1) := by decide +kernel
theorem dX0_workWeight_28 : decode cX0_workWeight 28 = .ok (.getfield 58, 3) := by decide +kernel
theorem dX0_workWeight_31 : decode cX0_workWeight 31 = .ok (.getfield 132, 3) := by decide +kernel
theorem dX0_workWeight_34 : decode cX0_workWeight 34 = .ok (.iload_n 1, 1) := by decide +kernel
theorem dX0_workWeight_35 : decode cX0_workWeight 35 = .ok (.iaload, 1) := by decide +kernel
theorem dX0_workWeight_36 : decode cX0_workWeight 36 = .ok (.istore_n 2, 1) := by decide +kernel
theorem dX0_workWeight_37 : decode cX0_workWeight 37 = .ok (.aload_n 0, 1) := by decide +kernel
theorem dX0_workWeight_38 : decode cX0_workWeight 38 = .ok (.getfield 51, 3) := by decide +kernel
theorem dX0_workWeight_41 : decode cX0_workWeight 41 = .ok (.iload_n 2, 1) := by decide +kernel
theorem dX0_workWeight_42 : decode cX0_workWeight 42 = .ok (.sipush 1000, 3) := by decide +kernel
theorem dX0_workWeight_45 : decode cX0_workWeight 45 = .ok (.iastore, 1) := by decide +kernel
theorem dX0_workWeight_46 : decode cX0_workWeight 46 = .ok (.aload_n 0, 1) := by decide +kernel
theorem dX0_workWeight_47 : decode cX0_workWeight 47 = .ok (.invokevirtual 135, 3) := by decide +kernel
theorem dX0_workWeight_50 : decode cX0_workWeight 50 = .ok (.istore_n 3, 1) := by decide +kernel
theorem dX0_workWeight_51 : decode cX0_workWeight 51 = .ok (.aload_n 0, 1) := by decide +kernel
theorem dX0_workWeight_52 : decode cX0_workWeight 52 = .ok (.getfield 43, 3) := by decide +kernel
theorem dX0_workWeight_55 : decode cX0_workWeight 55 = .ok (.iload_n 3, 1) := by decide +kernel
theorem dX0_workWeight_56 : decode cX0_workWeight 56 = .ok (.aload_n 0, 1) := by decide +kernel
theorem dX0_workWeight_57 : decode cX0_workWeight 57 = .ok (.getfield 48, 3) := by decide +kernel
theorem dX0_workWeight_60 : decode cX0_workWeight 60 = .ok (.iconst 0, 1) := by decide +kernel
theorem dX0_workWeight_61 : decode cX0_workWeight 61 = .ok (.aload_n 0, 1) := by decide +kernel
theorem dX0_workWeight_62 : decode cX0_workWeight 62 = .ok (.getfield 24, 3) := by decide +kernel
theorem dX0_workWeight_65 : decode cX0_workWeight 65 = .ok (.invokestatic 138, 3) := by decide +kernel
theorem dX0_workWeight_68 : decode cX0_workWeight 68 = .ok (.aload_n 0, 1) := by decide +kernel
theorem dX0_workWeight_69 : decode cX0_workWeight 69 = .ok (.getfield 51, 3) := by decide +kernel
theorem dX0_workWeight_72 : decode cX0_workWeight 72 = .ok (.iload_n 2, 1) := by decide +kernel
theorem dX0_workWeight_73 : decode cX0_workWeight 73 = .ok (.iconst 0, 1) := by decide +kernel
theorem dX0_workWeight_74 : decode cX0_workWeight 74 = .ok (.iastore, 1) := by decide +kernel
theorem dX0_workWeight_75 : decode cX0_workWeight 75 = .ok (.aload_n 0, 1) := by decide +kernel
theorem dX0_workWeight_76 : decode cX0_workWeight 76 = .ok (.invokevirtual 135, 3) := by decide +kernel
theorem dX0_workWeight_79 : decode cX0_workWeight 79 = .ok (.istore_n 3, 1) := by decide +kernel
theorem dX0_workWeight_80 : decode cX0_workWeight 80 = .ok (.aload_n 0, 1) := by decide +kernel
theorem dX0_workWeight_81 : decode cX0_workWeight 81 = .ok (.getfield 48, 3) := by decide +kernel
theorem dX0_workWeight_84 : decode cX0_workWeight 84 = .ok (.aload_n 0, 1) := by decide +kernel
theorem dX0_workWeight_85 : decode cX0_workWeight 85 = .ok (.getfield 43, 3) := by decide +kernel
theorem dX0_workWeight_88 : decode cX0_workWeight 88 = .ok (.iload_n 3, 1) := by decide +kernel
theorem dX0_workWeight_89 : decode cX0_workWeight 89 = .ok (.aload_n 0, 1) := by decide +kernel
theorem dX0_workWeight_90 : decode cX0_workWeight 90 = .ok (.getfield 24, 3) := by decide +kernel
theorem dX0_workWeight_93 : decode cX0_workWeight 93 = .ok (.invokestatic 144, 3) := by decide +kernel
theorem dX0_workWeight_96 : decode cX0_workWeight 96 = .ok (.return_, 1) := by decide +kernel
theorem dX0_bestSet_0 : decode cX0_bestSet 0 = .ok (.aload_n 0, 1) := by decide +kernel
theorem dX0_bestSet_1 : decode cX0_bestSet 1 = .ok (.invokevirtual 148, 3) := by decide +kernel
theorem dX0_bestSet_4 : decode cX0_bestSet 4 = .ok (.iconst 0, 1) := by decide +kernel
theorem dX0_bestSet_5 : decode cX0_bestSet 5 = .ok (.istore_n 2, 1) := by decide +kernel
theorem dX0_bestSet_6 : decode cX0_bestSet 6 = .ok (.iconst 0, 1) := by decide +kernel
theorem dX0_bestSet_7 : decode cX0_bestSet 7 = .ok (.istore_n 3, 1) := by decide +kernel
theorem dX0_bestSet_8 : decode cX0_bestSet 8 = .ok (.iconst 1, 1) := by decide +kernel
theorem dX0_bestSet_9 : decode cX0_bestSet 9 = .ok (.istore 4, 2) := by decide +kernel
theorem dX0_bestSet_11 : decode cX0_bestSet 11 = .ok (.iload 4, 2) := by decide +kernel
theorem dX0_bestSet_13 : decode cX0_bestSet 13 = .ok (.iconst 1, 1) := by decide +kernel
theorem dX0_bestSet_14 : decode cX0_bestSet 14 = .ok (.aload_n 0, 1) := by decide +kernel
theorem dX0_bestSet_15 : decode cX0_bestSet 15 = .ok (.getfield 58, 3) := by decide +kernel
theorem dX0_bestSet_18 : decode cX0_bestSet 18 = .ok (.getfield 68, 3) := by decide +kernel
theorem dX0_bestSet_21 : decode cX0_bestSet 21 = .ok (.ishl, 1) := by decide +kernel
theorem dX0_bestSet_22 : decode cX0_bestSet 22 = .ok (.if_icmp .ge 85, 3) := by decide +kernel
theorem dX0_bestSet_25 : decode cX0_bestSet 25 = .ok (.aload_n 0, 1) := by decide +kernel
theorem dX0_bestSet_26 : decode cX0_bestSet 26 = .ok (.getfield 54, 3) := by decide +kernel
theorem dX0_bestSet_29 : decode cX0_bestSet 29 = .ok (.aload_n 0, 1) := by decide +kernel
theorem dX0_bestSet_30 : decode cX0_bestSet 30 = .ok (.getfield 58, 3) := by decide +kernel
theorem dX0_bestSet_33 : decode cX0_bestSet 33 = .ok (.iload 4, 2) := by decide +kernel
theorem dX0_bestSet_35 : decode cX0_bestSet 35 = .ok (.invokevirtual 151, 3) := by decide +kernel
theorem dX0_bestSet_38 : decode cX0_bestSet 38 = .ok (.iconst 0, 1) := by decide +kernel
theorem dX0_bestSet_39 : decode cX0_bestSet 39 = .ok (.invokevirtual 154, 3) := by decide +kernel
theorem dX0_bestSet_42 : decode cX0_bestSet 42 = .ok (.istore 5, 2) := by decide +kernel
theorem dX0_bestSet_44 : decode cX0_bestSet 44 = .ok (.iload 5, 2) := by decide +kernel
theorem dX0_bestSet_46 : decode cX0_bestSet 46 = .ok (.iload_n 1, 1) := by decide +kernel
theorem dX0_bestSet_47 : decode cX0_bestSet 47 = .ok (.if_icmp .le 6, 3) := by decide +kernel
theorem dX0_bestSet_50 : decode cX0_bestSet 50 = .ok (.goto 51, 3) := by decide +kernel
theorem dX0_bestSet_53 : decode cX0_bestSet 53 = .ok (.aload_n 0, 1) := by decide +kernel
theorem dX0_bestSet_54 : decode cX0_bestSet 54 = .ok (.getfield 43, 3) := by decide +kernel
theorem dX0_bestSet_57 : decode cX0_bestSet 57 = .ok (.iload 4, 2) := by decide +kernel
theorem dX0_bestSet_59 : decode cX0_bestSet 59 = .ok (.aload_n 0, 1) := by decide +kernel
theorem dX0_bestSet_60 : decode cX0_bestSet 60 = .ok (.getfield 24, 3) := by decide +kernel
theorem dX0_bestSet_63 : decode cX0_bestSet 63 = .ok (.imul, 1) := by decide +kernel
theorem dX0_bestSet_64 : decode cX0_bestSet 64 = .ok (.iload_n 2, 1) := by decide +kernel
theorem dX0_bestSet_65 : decode cX0_bestSet 65 = .ok (.aload_n 0, 1) := by decide +kernel
theorem dX0_bestSet_66 : decode cX0_bestSet 66 = .ok (.getfield 24, 3) := by decide +kernel
theorem dX0_bestSet_69 : decode cX0_bestSet 69 = .ok (.imul, 1) := by decide +kernel
theorem dX0_bestSet_70 : decode cX0_bestSet 70 = .ok (.aload_n 0, 1) := by decide +kernel
theorem dX0_bestSet_71 : decode cX0_bestSet 71 = .ok (.getfield 24, 3) := by decide +kernel
theorem dX0_bestSet_74 : decode cX0_bestSet 74 = .ok (.invokestatic 157, 3) := by decide +kernel
theorem dX0_bestSet_77 : decode cX0_bestSet 77 = .ok (.istore 6, 2) := by decide +kernel
theorem dX0_bestSet_79 : decode cX0_bestSet 79 = .ok (.iload 6, 2) := by decide +kernel
theorem dX0_bestSet_81 : decode cX0_bestSet 81 = .ok (.ifCond .gt 14, 3) := by decide +kernel
theorem dX0_bestSet_84 : decode cX0_bestSet 84 = .ok (.iload 6, 2) := by decide +kernel
theorem dX0_bestSet_86 : decode cX0_bestSet 86 = .ok (.ifCond .ne 15, 3) := by decide +kernel
theorem dX0_bestSet_89 : decode cX0_bestSet 89 = .ok (.iload 5, 2) := by decide +kernel
theorem dX0_bestSet_91 : decode cX0_bestSet 91 = .ok (.iload_n 3, 1) := by decide +kernel
theorem dX0_bestSet_92 : decode cX0_bestSet 92 = .ok (.if_icmp .ge 9, 3) := by decide +kernel
theorem dX0_bestSet_95 : decode cX0_bestSet 95 = .ok (.iload 4, 2) := by decide +kernel
theorem dX0_bestSet_97 : decode cX0_bestSet 97 = .ok (.istore_n 2, 1) := by decide +kernel
theorem dX0_bestSet_98 : decode cX0_bestSet 98 = .ok (.iload 5, 2) := by decide +kernel
theorem dX0_bestSet_100 : decode cX0_bestSet 100 = .ok (.istore_n 3, 1) := by decide +kernel
theorem dX0_bestSet_101 : decode cX0_bestSet 101 = .ok (.iinc 4 1, 3) := by decide +kernel
theorem dX0_bestSet_104 : decode cX0_bestSet 104 = .ok (.goto (-93), 3) := by decide +kernel
theorem dX0_bestSet_107 : decode cX0_bestSet 107 = .ok (.iload_n 2, 1) := by decide +kernel
theorem dX0_bestSet_108 : decode cX0_bestSet 108 = .ok (.ireturn, 1) := by decide +kernel
theorem dX0_workSets_0 : decode cX0_workSets 0 = .ok (.iconst 1, 1) := by decide +kernel
theorem dX0_workSets_1 : decode cX0_workSets 1 = .ok (.aload_n 0, 1) := by decide +kernel
theorem dX0_workSets_2 : decode cX0_workSets 2 = .ok (.getfield 58, 3) := by decide +kernel
theorem dX0_workSets_5 : decode cX0_workSets 5 = .ok (.getfield 68, 3) := by decide +kernel
theorem dX0_workSets_8 : decode cX0_workSets 8 = .ok (.ishl, 1) := by decide +kernel
theorem dX0_workSets_9 : decode cX0_workSets 9 = .ok (.istore_n 1, 1) := by decide +kernel
theorem dX0_workSets_10 : decode cX0_workSets 10 = .ok (.aload_n 0, 1) := by decide +kernel
theorem dX0_workSets_11 : decode cX0_workSets 11 = .ok (.aload_n 0, 1) := by decide +kernel
theorem dX0_workSets_12 : decode cX0_workSets 12 = .ok (.getfield 43, 3) := by decide +kernel
theorem dX0_workSets_15 : decode cX0_workSets 15 = .ok (.iload_n 1, 1) := by decide +kernel
theorem dX0_workSets_16 : decode cX0_workSets 16 = .ok (.aload_n 0, 1) := by decide +kernel
theorem dX0_workSets_17 : decode cX0_workSets 17 = .ok (.getfield 24, 3) := by decide +kernel
theorem dX0_workSets_20 : decode cX0_workSets 20 = .ok (.imul, 1) := by decide +kernel
theorem dX0_workSets_21 : decode cX0_workSets 21 = .ok (.invokestatic 88, 3) := by decide +kernel
theorem dX0_workSets_24 : decode cX0_workSets 24 = .ok (.putfield 43, 3) := by decide +kernel
theorem dX0_workSets_27 : decode cX0_workSets 27 = .ok (.aload_n 0, 1) := by decide +kernel
theorem dX0_workSets_28 : decode cX0_workSets 28 = .ok (.iconst 0, 1) := by decide +kernel
theorem dX0_workSets_29 : decode cX0_workSets 29 = .ok (.invokevirtual 129, 3) := by decide +kernel
theorem dX0_workSets_32 : decode cX0_workSets 32 = .ok (.iconst 0, 1) := by decide +kernel
theorem dX0_workSets_33 : decode cX0_workSets 33 = .ok (.istore_n 2, 1) := by decide +kernel
theorem dX0_workSets_34 : decode cX0_workSets 34 = .ok (.iload_n 2, 1) := by decide +kernel
theorem dX0_workSets_35 : decode cX0_workSets 35 = .ok (.iload_n 1, 1) := by decide +kernel
theorem dX0_workSets_36 : decode cX0_workSets 36 = .ok (.if_icmp .ge 65, 3) := by decide +kernel
theorem dX0_workSets_39 : decode cX0_workSets 39 = .ok (.aload_n 0, 1) := by decide +kernel
theorem dX0_workSets_40 : decode cX0_workSets 40 = .ok (.getfield 58, 3) := by decide +kernel
theorem dX0_workSets_43 : decode cX0_workSets 43 = .ok (.iload_n 2, 1) := by decide +kernel
theorem dX0_workSets_44 : decode cX0_workSets 44 = .ok (.invokevirtual 74, 3) := by decide +kernel
theorem dX0_workSets_47 : decode cX0_workSets 47 = .ok (.iconst 1, 1) := by decide +kernel
theorem dX0_workSets_48 : decode cX0_workSets 48 = .ok (.if_icmp .ne 30, 3) := by decide +kernel
theorem dX0_workSets_51 : decode cX0_workSets 51 = .ok (.aload_n 0, 1) := by decide +kernel
theorem dX0_workSets_52 : decode cX0_workSets 52 = .ok (.getfield 43, 3) := by decide +kernel
theorem dX0_workSets_55 : decode cX0_workSets 55 = .ok (.iload_n 2, 1) := by decide +kernel
theorem dX0_workSets_56 : decode cX0_workSets 56 = .ok (.aload_n 0, 1) := by decide +kernel
theorem dX0_workSets_57 : decode cX0_workSets 57 = .ok (.getfield 24, 3) := by decide +kernel
theorem dX0_workSets_60 : decode cX0_workSets 60 = .ok (.imul, 1) := by decide +kernel
theorem dX0_workSets_61 : decode cX0_workSets 61 = .ok (.aload_n 0, 1) := by decide +kernel
theorem dX0_workSets_62 : decode cX0_workSets 62 = .ok (.getfield 24, 3) := by decide +kernel
theorem dX0_workSets_65 : decode cX0_workSets 65 = .ok (.aload_n 0, 1) := by decide +kernel
theorem dX0_workSets_66 : decode cX0_workSets 66 = .ok (.getfield 58, 3) := by decide +kernel
theorem dX0_workSets_69 : decode cX0_workSets 69 = .ok (.getfield 68, 3) := by decide +kernel
theorem dX0_workSets_72 : decode cX0_workSets 72 = .ok (.invokestatic 112, 3) := by decide +kernel
theorem dX0_workSets_75 : decode cX0_workSets 75 = .ok (.goto 20, 3) := by decide +kernel
theorem dX0_workSets_78 : decode cX0_workSets 78 = .ok (.aload_n 0, 1) := by decide +kernel
theorem dX0_workSets_79 : decode cX0_workSets 79 = .ok (.getfield 43, 3) := by decide +kernel
theorem dX0_workSets_82 : decode cX0_workSets 82 = .ok (.iload_n 2, 1) := by decide +kernel
theorem dX0_workSets_83 : decode cX0_workSets 83 = .ok (.aload_n 0, 1) := by decide +kernel
theorem dX0_workSets_84 : decode cX0_workSets 84 = .ok (.getfield 24, 3) := by decide +kernel
theorem dX0_workSets_87 : decode cX0_workSets 87 = .ok (.imul, 1) := by decide +kernel
theorem dX0_workSets_88 : decode cX0_workSets 88 = .ok (.aload_n 0, 1) := by decide +kernel
theorem dX0_workSets_89 : decode cX0_workSets 89 = .ok (.getfield 24, 3) := by decide +kernel
theorem dX0_workSets_92 : decode cX0_workSets 92 = .ok (.invokestatic 92, 3) := by decide +kernel
theorem dX0_workSets_95 : decode cX0_workSets 95 = .ok (.iinc 2 1, 3) := by decide +kernel
theorem dX0_workSets_98 : decode cX0_workSets 98 = .ok (.goto (-64), 3) := by decide +kernel
theorem dX0_workSets_101 : decode cX0_workSets 101 = .ok (.iconst 0, 1) := by decide +kernel
theorem dX0_workSets_102 : decode cX0_workSets 102 = .ok (.istore_n 2, 1) := by decide +kernel
theorem dX0_workSets_103 : decode cX0_workSets 103 = .ok (.iload_n 2, 1) := by decide +kernel
theorem dX0_workSets_104 : decode cX0_workSets 104 = .ok (.aload_n 0, 1) := by decide +kernel
theorem dX0_workSets_105 : decode cX0_workSets 105 = .ok (.getfield 58, 3) := by decide +kernel
theorem dX0_workSets_108 : decode cX0_workSets 108 = .ok (.getfield 68, 3) := by decide +kernel
theorem dX0_workSets_111 : decode cX0_workSets 111 = .ok (.if_icmp .ge 72, 3) := by decide +kernel
theorem dX0_workSets_114 : decode cX0_workSets 114 = .ok (.iconst 0, 1) := by decide +kernel
theorem dX0_workSets_115 : decode cX0_workSets 115 = .ok (.istore_n 3, 1) := by decide +kernel
theorem dX0_workSets_116 : decode cX0_workSets 116 = .ok (.iload_n 3, 1) := by decide +kernel
theorem dX0_workSets_117 : decode cX0_workSets 117 = .ok (.iload_n 1, 1) := by decide +kernel
theorem dX0_workSets_118 : decode cX0_workSets 118 = .ok (.if_icmp .ge 59, 3) := by decide +kernel
theorem dX0_workSets_121 : decode cX0_workSets 121 = .ok (.iload_n 3, 1) := by decide +kernel
theorem dX0_workSets_122 : decode cX0_workSets 122 = .ok (.iload_n 2, 1) := by decide +kernel
theorem dX0_workSets_123 : decode cX0_workSets 123 = .ok (.ishr, 1) := by decide +kernel
theorem dX0_workSets_124 : decode cX0_workSets 124 = .ok (.iconst 1, 1) := by decide +kernel
theorem dX0_workSets_125 : decode cX0_workSets 125 = .ok (.iand, 1) := by decide +kernel
theorem dX0_workSets_126 : decode cX0_workSets 126 = .ok (.ifCond .ne 6, 3) := by decide +kernel
theorem dX0_workSets_129 : decode cX0_workSets 129 = .ok (.goto 42, 3) := by decide +kernel
theorem dX0_workSets_132 : decode cX0_workSets 132 = .ok (.iload_n 3, 1) := by decide +kernel
theorem dX0_workSets_133 : decode cX0_workSets 133 = .ok (.aload_n 0, 1) := by decide +kernel
theorem dX0_workSets_134 : decode cX0_workSets 134 = .ok (.getfield 24, 3) := by decide +kernel
theorem dX0_workSets_137 : decode cX0_workSets 137 = .ok (.imul, 1) := by decide +kernel
theorem dX0_workSets_138 : decode cX0_workSets 138 = .ok (.istore 4, 2) := by decide +kernel
theorem dX0_workSets_140 : decode cX0_workSets 140 = .ok (.aload_n 0, 1) := by decide +kernel
theorem dX0_workSets_141 : decode cX0_workSets 141 = .ok (.getfield 43, 3) := by decide +kernel
theorem dX0_workSets_144 : decode cX0_workSets 144 = .ok (.iload 4, 2) := by decide +kernel
theorem dX0_workSets_146 : decode cX0_workSets 146 = .ok (.iload 4, 2) := by decide +kernel
theorem dX0_workSets_148 : decode cX0_workSets 148 = .ok (.iload_n 3, 1) := by decide +kernel
theorem dX0_workSets_149 : decode cX0_workSets 149 = .ok (.iconst 1, 1) := by decide +kernel
theorem dX0_workSets_150 : decode cX0_workSets 150 = .ok (.iload_n 2, 1) := by decide +kernel
theorem dX0_workSets_151 : decode cX0_workSets 151 = .ok (.ishl, 1) := by decide +kernel
theorem dX0_workSets_152 : decode cX0_workSets 152 = .ok (.ixor, 1) := by decide +kernel
theorem dX0_workSets_153 : decode cX0_workSets 153 = .ok (.aload_n 0, 1) := by decide +kernel
theorem dX0_workSets_154 : decode cX0_workSets 154 = .ok (.getfield 24, 3) := by decide +kernel
theorem dX0_workSets_157 : decode cX0_workSets 157 = .ok (.imul, 1) := by decide +kernel
theorem dX0_workSets_158 : decode cX0_workSets 158 = .ok (.aload_n 0, 1) := by decide +kernel
theorem dX0_workSets_159 : decode cX0_workSets 159 = .ok (.getfield 51, 3) := by decide +kernel
theorem dX0_workSets_162 : decode cX0_workSets 162 = .ok (.iload_n 2, 1) := by decide +kernel
theorem dX0_workSets_163 : decode cX0_workSets 163 = .ok (.iaload, 1) := by decide +kernel
theorem dX0_workSets_164 : decode cX0_workSets 164 = .ok (.aload_n 0, 1) := by decide +kernel
theorem dX0_workSets_165 : decode cX0_workSets 165 = .ok (.getfield 24, 3) := by decide +kernel
theorem dX0_workSets_168 : decode cX0_workSets 168 = .ok (.invokestatic 116, 3) := by decide +kernel
theorem dX0_workSets_171 : decode cX0_workSets 171 = .ok (.iinc 3 1, 3) := by decide +kernel
theorem dX0_workSets_174 : decode cX0_workSets 174 = .ok (.goto (-58), 3) := by decide +kernel
theorem dX0_workSets_177 : decode cX0_workSets 177 = .ok (.iinc 2 1, 3) := by decide +kernel
theorem dX0_workSets_180 : decode cX0_workSets 180 = .ok (.goto (-77), 3) := by decide +kernel
theorem dX0_workSets_183 : decode cX0_workSets 183 = .ok (.return_, 1) := by decide +kernel
theorem dX1_lastMinute_0 : decode cX1_lastMinute 0 = .ok (.aload_n 0, 1) := by decide +kernel
theorem dX1_lastMinute_1 : decode cX1_lastMinute 1 = .ok (.getfield 18, 3) := by decide +kernel
theorem dX1_lastMinute_4 : decode cX1_lastMinute 4 = .ok (.ifCond .ne 7, 3) := by decide +kernel
theorem dX1_lastMinute_7 : decode cX1_lastMinute 7 = .ok (.iconst 0, 1) := by decide +kernel
theorem dX1_lastMinute_8 : decode cX1_lastMinute 8 = .ok (.goto 14, 3) := by decide +kernel
theorem dX1_lastMinute_11 : decode cX1_lastMinute 11 = .ok (.aload_n 0, 1) := by decide +kernel
theorem dX1_lastMinute_12 : decode cX1_lastMinute 12 = .ok (.getfield 15, 3) := by decide +kernel
theorem dX1_lastMinute_15 : decode cX1_lastMinute 15 = .ok (.aload_n 0, 1) := by decide +kernel
theorem dX1_lastMinute_16 : decode cX1_lastMinute 16 = .ok (.getfield 18, 3) := by decide +kernel
theorem dX1_lastMinute_19 : decode cX1_lastMinute 19 = .ok (.iconst 1, 1) := by decide +kernel
theorem dX1_lastMinute_20 : decode cX1_lastMinute 20 = .ok (.isub, 1) := by decide +kernel
theorem dX1_lastMinute_21 : decode cX1_lastMinute 21 = .ok (.iaload, 1) := by decide +kernel
theorem dX1_lastMinute_22 : decode cX1_lastMinute 22 = .ok (.ireturn, 1) := by decide +kernel
theorem dX1_append_0 : decode cX1_append 0 = .ok (.aload_n 0, 1) := by decide +kernel
theorem dX1_append_1 : decode cX1_append 1 = .ok (.getfield 18, 3) := by decide +kernel
theorem dX1_append_4 : decode cX1_append 4 = .ok (.bipush 40, 2) := by decide +kernel
theorem dX1_append_6 : decode cX1_append 6 = .ok (.if_icmp .lt 5, 3) := by decide +kernel
theorem dX1_append_9 : decode cX1_append 9 = .ok (.iconst 0, 1) := by decide +kernel
theorem dX1_append_10 : decode cX1_append 10 = .ok (.ireturn, 1) := by decide +kernel
theorem dX1_append_11 : decode cX1_append 11 = .ok (.aload_n 0, 1) := by decide +kernel
theorem dX1_append_12 : decode cX1_append 12 = .ok (.getfield 11, 3) := by decide +kernel
theorem dX1_append_15 : decode cX1_append 15 = .ok (.aload_n 0, 1) := by decide +kernel
theorem dX1_append_16 : decode cX1_append 16 = .ok (.getfield 18, 3) := by decide +kernel
theorem dX1_append_19 : decode cX1_append 19 = .ok (.iload_n 1, 1) := by decide +kernel
theorem dX1_append_20 : decode cX1_append 20 = .ok (.iastore, 1) := by decide +kernel
theorem dX1_append_21 : decode cX1_append 21 = .ok (.aload_n 0, 1) := by decide +kernel
theorem dX1_append_22 : decode cX1_append 22 = .ok (.getfield 15, 3) := by decide +kernel
theorem dX1_append_25 : decode cX1_append 25 = .ok (.aload_n 0, 1) := by decide +kernel
theorem dX1_append_26 : decode cX1_append 26 = .ok (.getfield 18, 3) := by decide +kernel
theorem dX1_append_29 : decode cX1_append 29 = .ok (.iload_n 2, 1) := by decide +kernel
theorem dX1_append_30 : decode cX1_append 30 = .ok (.iastore, 1) := by decide +kernel
theorem dX1_append_31 : decode cX1_append 31 = .ok (.aload_n 0, 1) := by decide +kernel
theorem dX1_append_32 : decode cX1_append 32 = .ok (.dup, 1) := by decide +kernel
theorem dX1_append_33 : decode cX1_append 33 = .ok (.getfield 18, 3) := by decide +kernel
theorem dX1_append_36 : decode cX1_append 36 = .ok (.iconst 1, 1) := by decide +kernel
theorem dX1_append_37 : decode cX1_append 37 = .ok (.iadd, 1) := by decide +kernel
theorem dX1_append_38 : decode cX1_append 38 = .ok (.putfield 18, 3) := by decide +kernel
theorem dX1_append_41 : decode cX1_append 41 = .ok (.iconst 1, 1) := by decide +kernel
theorem dX1_append_42 : decode cX1_append 42 = .ok (.ireturn, 1) := by decide +kernel
theorem dX1_firstTooSoon_0 : decode cX1_firstTooSoon 0 = .ok (.iconst 0, 1) := by decide +kernel
theorem dX1_firstTooSoon_1 : decode cX1_firstTooSoon 1 = .ok (.istore_n 1, 1) := by decide +kernel
theorem dX1_firstTooSoon_2 : decode cX1_firstTooSoon 2 = .ok (.iconst 0, 1) := by decide +kernel
theorem dX1_firstTooSoon_3 : decode cX1_firstTooSoon 3 = .ok (.istore_n 2, 1) := by decide +kernel
theorem dX1_firstTooSoon_4 : decode cX1_firstTooSoon 4 = .ok (.iload_n 2, 1) := by decide +kernel
theorem dX1_firstTooSoon_5 : decode cX1_firstTooSoon 5 = .ok (.aload_n 0, 1) := by decide +kernel
theorem dX1_firstTooSoon_6 : decode cX1_firstTooSoon 6 = .ok (.getfield 18, 3) := by decide +kernel
theorem dX1_firstTooSoon_9 : decode cX1_firstTooSoon 9 = .ok (.if_icmp .ge 43, 3) := by decide +kernel
theorem dX1_firstTooSoon_12 : decode cX1_firstTooSoon 12 = .ok (.aload_n 0, 1) := by decide +kernel
theorem dX1_firstTooSoon_13 : decode cX1_firstTooSoon 13 = .ok (.getfield 15, 3) := by decide +kernel
theorem dX1_firstTooSoon_16 : decode cX1_firstTooSoon 16 = .ok (.iload_n 2, 1) := by decide +kernel
theorem dX1_firstTooSoon_17 : decode cX1_firstTooSoon 17 = .ok (.iaload, 1) := by decide +kernel
theorem dX1_firstTooSoon_18 : decode cX1_firstTooSoon 18 = .ok (.iload_n 1, 1) := by decide +kernel
theorem dX1_firstTooSoon_19 : decode cX1_firstTooSoon 19 = .ok (.isub, 1) := by decide +kernel
theorem dX1_firstTooSoon_20 : decode cX1_firstTooSoon 20 = .ok (.aload_n 0, 1) := by decide +kernel
theorem dX1_firstTooSoon_21 : decode cX1_firstTooSoon 21 = .ok (.getfield 33, 3) := by decide +kernel
theorem dX1_firstTooSoon_24 : decode cX1_firstTooSoon 24 = .ok (.aload_n 0, 1) := by decide +kernel
theorem dX1_firstTooSoon_25 : decode cX1_firstTooSoon 25 = .ok (.getfield 11, 3) := by decide +kernel
theorem dX1_firstTooSoon_28 : decode cX1_firstTooSoon 28 = .ok (.iload_n 2, 1) := by decide +kernel
theorem dX1_firstTooSoon_29 : decode cX1_firstTooSoon 29 = .ok (.iaload, 1) := by decide +kernel
theorem dX1_firstTooSoon_30 : decode cX1_firstTooSoon 30 = .ok (.iconst 1, 1) := by decide +kernel
theorem dX1_firstTooSoon_31 : decode cX1_firstTooSoon 31 = .ok (.invokevirtual 43, 3) := by decide +kernel
theorem dX1_firstTooSoon_34 : decode cX1_firstTooSoon 34 = .ok (.if_icmp .ge 5, 3) := by decide +kernel
theorem dX1_firstTooSoon_37 : decode cX1_firstTooSoon 37 = .ok (.iload_n 2, 1) := by decide +kernel
theorem dX1_firstTooSoon_38 : decode cX1_firstTooSoon 38 = .ok (.ireturn, 1) := by decide +kernel
theorem dX1_firstTooSoon_39 : decode cX1_firstTooSoon 39 = .ok (.aload_n 0, 1) := by decide +kernel
theorem dX1_firstTooSoon_40 : decode cX1_firstTooSoon 40 = .ok (.getfield 15, 3) := by decide +kernel
theorem dX1_firstTooSoon_43 : decode cX1_firstTooSoon 43 = .ok (.iload_n 2, 1) := by decide +kernel
theorem dX1_firstTooSoon_44 : decode cX1_firstTooSoon 44 = .ok (.iaload, 1) := by decide +kernel
theorem dX1_firstTooSoon_45 : decode cX1_firstTooSoon 45 = .ok (.istore_n 1, 1) := by decide +kernel
theorem dX1_firstTooSoon_46 : decode cX1_firstTooSoon 46 = .ok (.iinc 2 1, 3) := by decide +kernel
theorem dX1_firstTooSoon_49 : decode cX1_firstTooSoon 49 = .ok (.goto (-45), 3) := by decide +kernel
theorem dX1_firstTooSoon_52 : decode cX1_firstTooSoon 52 = .ok (.iconst (-1), 1) := by decide +kernel
theorem dX1_firstTooSoon_53 : decode cX1_firstTooSoon 53 = .ok (.ireturn, 1) := by decide +kernel
theorem dX1_eventReaching_0 : decode cX1_eventReaching 0 = .ok (.aload_n 0, 1) := by decide +kernel
theorem dX1_eventReaching_1 : decode cX1_eventReaching 1 = .ok (.aload_n 0, 1) := by decide +kernel
theorem dX1_eventReaching_2 : decode cX1_eventReaching 2 = .ok (.getfield 18, 3) := by decide +kernel
theorem dX1_eventReaching_5 : decode cX1_eventReaching 5 = .ok (.iconst 1, 1) := by decide +kernel
theorem dX1_eventReaching_6 : decode cX1_eventReaching 6 = .ok (.iadd, 1) := by decide +kernel
theorem dX1_eventReaching_7 : decode cX1_eventReaching 7 = .ok (.putfield 25, 3) := by decide +kernel
theorem dX1_eventReaching_10 : decode cX1_eventReaching 10 = .ok (.aload_n 0, 1) := by decide +kernel
theorem dX1_eventReaching_11 : decode cX1_eventReaching 11 = .ok (.aload_n 0, 1) := by decide +kernel
theorem dX1_eventReaching_12 : decode cX1_eventReaching 12 = .ok (.getfield 22, 3) := by decide +kernel
theorem dX1_eventReaching_15 : decode cX1_eventReaching 15 = .ok (.iload_n 1, 1) := by decide +kernel
theorem dX1_eventReaching_16 : decode cX1_eventReaching 16 = .ok (.iconst 1, 1) := by decide +kernel
theorem dX1_eventReaching_17 : decode cX1_eventReaching 17 = .ok (.iadd, 1) := by decide +kernel
theorem dX1_eventReaching_18 : decode cX1_eventReaching 18 = .ok (.aload_n 0, 1) := by decide +kernel
theorem dX1_eventReaching_19 : decode cX1_eventReaching 19 = .ok (.getfield 25, 3) := by decide +kernel
theorem dX1_eventReaching_22 : decode cX1_eventReaching 22 = .ok (.imul, 1) := by decide +kernel
theorem dX1_eventReaching_23 : decode cX1_eventReaching 23 = .ok (.invokestatic 47, 3) := by decide +kernel
theorem dX1_eventReaching_26 : decode cX1_eventReaching 26 = .ok (.putfield 22, 3) := by decide +kernel
theorem dX1_eventReaching_29 : decode cX1_eventReaching 29 = .ok (.iconst 0, 1) := by decide +kernel
theorem dX1_eventReaching_30 : decode cX1_eventReaching 30 = .ok (.istore_n 3, 1) := by decide +kernel
theorem dX1_eventReaching_31 : decode cX1_eventReaching 31 = .ok (.iload_n 3, 1) := by decide +kernel
theorem dX1_eventReaching_32 : decode cX1_eventReaching 32 = .ok (.iload_n 1, 1) := by decide +kernel
theorem dX1_eventReaching_33 : decode cX1_eventReaching 33 = .ok (.if_icmp .gt 48, 3) := by decide +kernel
theorem dX1_eventReaching_36 : decode cX1_eventReaching 36 = .ok (.iload_n 2, 1) := by decide +kernel
theorem dX1_eventReaching_37 : decode cX1_eventReaching 37 = .ok (.istore 4, 2) := by decide +kernel
theorem dX1_eventReaching_39 : decode cX1_eventReaching 39 = .ok (.iload 4, 2) := by decide +kernel
theorem dX1_eventReaching_41 : decode cX1_eventReaching 41 = .ok (.aload_n 0, 1) := by decide +kernel
theorem dX1_eventReaching_42 : decode cX1_eventReaching 42 = .ok (.getfield 18, 3) := by decide +kernel
theorem dX1_eventReaching_45 : decode cX1_eventReaching 45 = .ok (.if_icmp .gt 30, 3) := by decide +kernel
theorem dX1_eventReaching_48 : decode cX1_eventReaching 48 = .ok (.aload_n 0, 1) := by decide +kernel
theorem dX1_eventReaching_49 : decode cX1_eventReaching 49 = .ok (.getfield 22, 3) := by decide +kernel
theorem dX1_eventReaching_52 : decode cX1_eventReaching 52 = .ok (.iload_n 3, 1) := by decide +kernel
theorem dX1_eventReaching_53 : decode cX1_eventReaching 53 = .ok (.aload_n 0, 1) := by decide +kernel
theorem dX1_eventReaching_54 : decode cX1_eventReaching 54 = .ok (.getfield 25, 3) := by decide +kernel
theorem dX1_eventReaching_57 : decode cX1_eventReaching 57 = .ok (.imul, 1) := by decide +kernel
theorem dX1_eventReaching_58 : decode cX1_eventReaching 58 = .ok (.iload 4, 2) := by decide +kernel
theorem dX1_eventReaching_60 : decode cX1_eventReaching 60 = .ok (.iadd, 1) := by decide +kernel
theorem dX1_eventReaching_61 : decode cX1_eventReaching 61 = .ok (.aload_n 0, 1) := by decide +kernel
theorem dX1_eventReaching_62 : decode cX1_eventReaching 62 = .ok (.iload_n 3, 1) := by decide +kernel
theorem dX1_eventReaching_63 : decode cX1_eventReaching 63 = .ok (.iload 4, 2) := by decide +kernel
theorem dX1_eventReaching_65 : decode cX1_eventReaching 65 = .ok (.invokevirtual 53, 3) := by decide +kernel
theorem dX1_eventReaching_68 : decode cX1_eventReaching 68 = .ok (.iastore, 1) := by decide +kernel
theorem dX1_eventReaching_69 : decode cX1_eventReaching 69 = .ok (.iinc 4 1, 3) := by decide +kernel
theorem dX1_eventReaching_72 : decode cX1_eventReaching 72 = .ok (.goto (-33), 3) := by decide +kernel
theorem dX1_eventReaching_75 : decode cX1_eventReaching 75 = .ok (.iinc 3 1, 3) := by decide +kernel
theorem dX1_eventReaching_78 : decode cX1_eventReaching 78 = .ok (.goto (-47), 3) := by decide +kernel
theorem dX1_eventReaching_81 : decode cX1_eventReaching 81 = .ok (.aload_n 0, 1) := by decide +kernel
theorem dX1_eventReaching_82 : decode cX1_eventReaching 82 = .ok (.getfield 22, 3) := by decide +kernel
theorem dX1_eventReaching_85 : decode cX1_eventReaching 85 = .ok (.iload_n 1, 1) := by decide +kernel
theorem dX1_eventReaching_86 : decode cX1_eventReaching 86 = .ok (.aload_n 0, 1) := by decide +kernel
theorem dX1_eventReaching_87 : decode cX1_eventReaching 87 = .ok (.getfield 25, 3) := by decide +kernel
theorem dX1_eventReaching_90 : decode cX1_eventReaching 90 = .ok (.imul, 1) := by decide +kernel
theorem dX1_eventReaching_91 : decode cX1_eventReaching 91 = .ok (.iload_n 2, 1) := by decide +kernel
theorem dX1_eventReaching_92 : decode cX1_eventReaching 92 = .ok (.iadd, 1) := by decide +kernel
theorem dX1_eventReaching_93 : decode cX1_eventReaching 93 = .ok (.iaload, 1) := by decide +kernel
theorem dX1_eventReaching_94 : decode cX1_eventReaching 94 = .ok (.ireturn, 1) := by decide +kernel
theorem dX1_knotEvent_0 : decode cX1_knotEvent 0 = .ok (.aload_n 0, 1) := by decide +kernel
theorem dX1_knotEvent_1 : decode cX1_knotEvent 1 = .ok (.getfield 37, 3) := by decide +kernel
theorem dX1_knotEvent_4 : decode cX1_knotEvent 4 = .ok (.getfield 56, 3) := by decide +kernel
theorem dX1_knotEvent_7 : decode cX1_knotEvent 7 = .ok (.iload_n 1, 1) := by decide +kernel
theorem dX1_knotEvent_8 : decode cX1_knotEvent 8 = .ok (.iaload, 1) := by decide +kernel
theorem dX1_knotEvent_9 : decode cX1_knotEvent 9 = .ok (.tableswitch 67 0 3 #[31, 46, 53, 60], 31) := by decide +kernel
theorem dX1_knotEvent_40 : decode cX1_knotEvent 40 = .ok (.aload_n 0, 1) := by decide +kernel
theorem dX1_knotEvent_41 : decode cX1_knotEvent 41 = .ok (.aload_n 0, 1) := by decide +kernel
theorem dX1_knotEvent_42 : decode cX1_knotEvent 42 = .ok (.getfield 37, 3) := by decide +kernel
theorem dX1_knotEvent_45 : decode cX1_knotEvent 45 = .ok (.getfield 61, 3) := by decide +kernel
theorem dX1_knotEvent_48 : decode cX1_knotEvent 48 = .ok (.iload_n 1, 1) := by decide +kernel
theorem dX1_knotEvent_49 : decode cX1_knotEvent 49 = .ok (.iaload, 1) := by decide +kernel
theorem dX1_knotEvent_50 : decode cX1_knotEvent 50 = .ok (.iload_n 2, 1) := by decide +kernel
theorem dX1_knotEvent_51 : decode cX1_knotEvent 51 = .ok (.invokevirtual 64, 3) := by decide +kernel
theorem dX1_knotEvent_54 : decode cX1_knotEvent 54 = .ok (.ireturn, 1) := by decide +kernel
theorem dX1_knotEvent_55 : decode cX1_knotEvent 55 = .ok (.aload_n 0, 1) := by decide +kernel
theorem dX1_knotEvent_56 : decode cX1_knotEvent 56 = .ok (.iload_n 1, 1) := by decide +kernel
theorem dX1_knotEvent_57 : decode cX1_knotEvent 57 = .ok (.iload_n 2, 1) := by decide +kernel
theorem dX1_knotEvent_58 : decode cX1_knotEvent 58 = .ok (.invokevirtual 67, 3) := by decide +kernel
theorem dX1_knotEvent_61 : decode cX1_knotEvent 61 = .ok (.ireturn, 1) := by decide +kernel
theorem dX1_knotEvent_62 : decode cX1_knotEvent 62 = .ok (.aload_n 0, 1) := by decide +kernel
theorem dX1_knotEvent_63 : decode cX1_knotEvent 63 = .ok (.iload_n 1, 1) := by decide +kernel
theorem dX1_knotEvent_64 : decode cX1_knotEvent 64 = .ok (.iload_n 2, 1) := by decide +kernel
theorem dX1_knotEvent_65 : decode cX1_knotEvent 65 = .ok (.invokevirtual 70, 3) := by decide +kernel
theorem dX1_knotEvent_68 : decode cX1_knotEvent 68 = .ok (.ireturn, 1) := by decide +kernel
theorem dX1_knotEvent_69 : decode cX1_knotEvent 69 = .ok (.aload_n 0, 1) := by decide +kernel
theorem dX1_knotEvent_70 : decode cX1_knotEvent 70 = .ok (.iload_n 1, 1) := by decide +kernel
theorem dX1_knotEvent_71 : decode cX1_knotEvent 71 = .ok (.iload_n 2, 1) := by decide +kernel
theorem dX1_knotEvent_72 : decode cX1_knotEvent 72 = .ok (.invokevirtual 73, 3) := by decide +kernel
theorem dX1_knotEvent_75 : decode cX1_knotEvent 75 = .ok (.ireturn, 1) := by decide +kernel
theorem dX1_knotEvent_76 : decode cX1_knotEvent 76 = .ok (.aload_n 0, 1) := by decide +kernel
theorem dX1_knotEvent_77 : decode cX1_knotEvent 77 = .ok (.iload_n 1, 1) := by decide +kernel
theorem dX1_knotEvent_78 : decode cX1_knotEvent 78 = .ok (.iload_n 2, 1) := by decide +kernel
theorem dX1_knotEvent_79 : decode cX1_knotEvent 79 = .ok (.invokevirtual 76, 3) := by decide +kernel
theorem dX1_knotEvent_82 : decode cX1_knotEvent 82 = .ok (.ireturn, 1) := by decide +kernel
theorem dX1_letterEvent_0 : decode cX1_letterEvent 0 = .ok (.iload_n 2, 1) := by decide +kernel
theorem dX1_letterEvent_1 : decode cX1_letterEvent 1 = .ok (.istore_n 3, 1) := by decide +kernel
theorem dX1_letterEvent_2 : decode cX1_letterEvent 2 = .ok (.iload_n 3, 1) := by decide +kernel
theorem dX1_letterEvent_3 : decode cX1_letterEvent 3 = .ok (.aload_n 0, 1) := by decide +kernel
theorem dX1_letterEvent_4 : decode cX1_letterEvent 4 = .ok (.getfield 18, 3) := by decide +kernel
theorem dX1_letterEvent_7 : decode cX1_letterEvent 7 = .ok (.if_icmp .ge 21, 3) := by decide +kernel
theorem dX1_letterEvent_10 : decode cX1_letterEvent 10 = .ok (.aload_n 0, 1) := by decide +kernel
theorem dX1_letterEvent_11 : decode cX1_letterEvent 11 = .ok (.getfield 11, 3) := by decide +kernel
theorem dX1_letterEvent_14 : decode cX1_letterEvent 14 = .ok (.iload_n 3, 1) := by decide +kernel
theorem dX1_letterEvent_15 : decode cX1_letterEvent 15 = .ok (.iaload, 1) := by decide +kernel
theorem dX1_letterEvent_16 : decode cX1_letterEvent 16 = .ok (.iload_n 1, 1) := by decide +kernel
theorem dX1_letterEvent_17 : decode cX1_letterEvent 17 = .ok (.if_icmp .ne 5, 3) := by decide +kernel
theorem dX1_letterEvent_20 : decode cX1_letterEvent 20 = .ok (.iload_n 3, 1) := by decide +kernel
theorem dX1_letterEvent_21 : decode cX1_letterEvent 21 = .ok (.ireturn, 1) := by decide +kernel
theorem dX1_letterEvent_22 : decode cX1_letterEvent 22 = .ok (.iinc 3 1, 3) := by decide +kernel
theorem dX1_letterEvent_25 : decode cX1_letterEvent 25 = .ok (.goto (-23), 3) := by decide +kernel
theorem dX1_letterEvent_28 : decode cX1_letterEvent 28 = .ok (.iconst (-1), 1) := by decide +kernel
theorem dX1_letterEvent_29 : decode cX1_letterEvent 29 = .ok (.ireturn, 1) := by decide +kernel
theorem dX1_partEvent_0 : decode cX1_partEvent 0 = .ok (.aload_n 0, 1) := by decide +kernel
theorem dX1_partEvent_1 : decode cX1_partEvent 1 = .ok (.getfield 22, 3) := by decide +kernel
theorem dX1_partEvent_4 : decode cX1_partEvent 4 = .ok (.aload_n 0, 1) := by decide +kernel
theorem dX1_partEvent_5 : decode cX1_partEvent 5 = .ok (.getfield 37, 3) := by decide +kernel
theorem dX1_partEvent_8 : decode cX1_partEvent 8 = .ok (.iload_n 1, 1) := by decide +kernel
theorem dX1_partEvent_9 : decode cX1_partEvent 9 = .ok (.iload_n 2, 1) := by decide +kernel
theorem dX1_partEvent_10 : decode cX1_partEvent 10 = .ok (.invokevirtual 79, 3) := by decide +kernel
theorem dX1_partEvent_13 : decode cX1_partEvent 13 = .ok (.aload_n 0, 1) := by decide +kernel
theorem dX1_partEvent_14 : decode cX1_partEvent 14 = .ok (.getfield 25, 3) := by decide +kernel
theorem dX1_partEvent_17 : decode cX1_partEvent 17 = .ok (.imul, 1) := by decide +kernel
theorem dX1_partEvent_18 : decode cX1_partEvent 18 = .ok (.iload_n 3, 1) := by decide +kernel
theorem dX1_partEvent_19 : decode cX1_partEvent 19 = .ok (.iadd, 1) := by decide +kernel
theorem dX1_partEvent_20 : decode cX1_partEvent 20 = .ok (.iaload, 1) := by decide +kernel
theorem dX1_partEvent_21 : decode cX1_partEvent 21 = .ok (.ireturn, 1) := by decide +kernel
theorem dX1_firstEvent_0 : decode cX1_firstEvent 0 = .ok (.iconst (-1), 1) := by decide +kernel
theorem dX1_firstEvent_1 : decode cX1_firstEvent 1 = .ok (.istore_n 3, 1) := by decide +kernel
theorem dX1_firstEvent_2 : decode cX1_firstEvent 2 = .ok (.iconst 0, 1) := by decide +kernel
theorem dX1_firstEvent_3 : decode cX1_firstEvent 3 = .ok (.istore 4, 2) := by decide +kernel
theorem dX1_firstEvent_5 : decode cX1_firstEvent 5 = .ok (.iload 4, 2) := by decide +kernel
theorem dX1_firstEvent_7 : decode cX1_firstEvent 7 = .ok (.aload_n 0, 1) := by decide +kernel
theorem dX1_firstEvent_8 : decode cX1_firstEvent 8 = .ok (.getfield 37, 3) := by decide +kernel
theorem dX1_firstEvent_11 : decode cX1_firstEvent 11 = .ok (.getfield 61, 3) := by decide +kernel
theorem dX1_firstEvent_14 : decode cX1_firstEvent 14 = .ok (.iload_n 1, 1) := by decide +kernel
theorem dX1_firstEvent_15 : decode cX1_firstEvent 15 = .ok (.iaload, 1) := by decide +kernel
theorem dX1_firstEvent_16 : decode cX1_firstEvent 16 = .ok (.if_icmp .ge 37, 3) := by decide +kernel
theorem dX1_firstEvent_19 : decode cX1_firstEvent 19 = .ok (.aload_n 0, 1) := by decide +kernel
theorem dX1_firstEvent_20 : decode cX1_firstEvent 20 = .ok (.iload_n 1, 1) := by decide +kernel
theorem dX1_firstEvent_21 : decode cX1_firstEvent 21 = .ok (.iload 4, 2) := by decide +kernel
theorem dX1_firstEvent_23 : decode cX1_firstEvent 23 = .ok (.iload_n 2, 1) := by decide +kernel
theorem dX1_firstEvent_24 : decode cX1_firstEvent 24 = .ok (.invokevirtual 82, 3) := by decide +kernel
theorem dX1_firstEvent_27 : decode cX1_firstEvent 27 = .ok (.istore 5, 2) := by decide +kernel
theorem dX1_firstEvent_29 : decode cX1_firstEvent 29 = .ok (.iload 5, 2) := by decide +kernel
theorem dX1_firstEvent_31 : decode cX1_firstEvent 31 = .ok (.ifCond .lt 16, 3) := by decide +kernel
theorem dX1_firstEvent_34 : decode cX1_firstEvent 34 = .ok (.iload_n 3, 1) := by decide +kernel
theorem dX1_firstEvent_35 : decode cX1_firstEvent 35 = .ok (.ifCond .lt 9, 3) := by decide +kernel
theorem dX1_firstEvent_38 : decode cX1_firstEvent 38 = .ok (.iload 5, 2) := by decide +kernel
theorem dX1_firstEvent_40 : decode cX1_firstEvent 40 = .ok (.iload_n 3, 1) := by decide +kernel
theorem dX1_firstEvent_41 : decode cX1_firstEvent 41 = .ok (.if_icmp .ge 6, 3) := by decide +kernel
theorem dX1_firstEvent_44 : decode cX1_firstEvent 44 = .ok (.iload 5, 2) := by decide +kernel
theorem dX1_firstEvent_46 : decode cX1_firstEvent 46 = .ok (.istore_n 3, 1) := by decide +kernel
theorem dX1_firstEvent_47 : decode cX1_firstEvent 47 = .ok (.iinc 4 1, 3) := by decide +kernel
theorem dX1_firstEvent_50 : decode cX1_firstEvent 50 = .ok (.goto (-45), 3) := by decide +kernel
theorem dX1_firstEvent_53 : decode cX1_firstEvent 53 = .ok (.iload_n 3, 1) := by decide +kernel
theorem dX1_firstEvent_54 : decode cX1_firstEvent 54 = .ok (.ireturn, 1) := by decide +kernel
theorem dX1_lastEvent_0 : decode cX1_lastEvent 0 = .ok (.iconst (-1), 1) := by decide +kernel
theorem dX1_lastEvent_1 : decode cX1_lastEvent 1 = .ok (.istore_n 3, 1) := by decide +kernel
theorem dX1_lastEvent_2 : decode cX1_lastEvent 2 = .ok (.iconst 0, 1) := by decide +kernel
theorem dX1_lastEvent_3 : decode cX1_lastEvent 3 = .ok (.istore 4, 2) := by decide +kernel
theorem dX1_lastEvent_5 : decode cX1_lastEvent 5 = .ok (.iload 4, 2) := by decide +kernel
theorem dX1_lastEvent_7 : decode cX1_lastEvent 7 = .ok (.aload_n 0, 1) := by decide +kernel
theorem dX1_lastEvent_8 : decode cX1_lastEvent 8 = .ok (.getfield 37, 3) := by decide +kernel
theorem dX1_lastEvent_11 : decode cX1_lastEvent 11 = .ok (.getfield 61, 3) := by decide +kernel
theorem dX1_lastEvent_14 : decode cX1_lastEvent 14 = .ok (.iload_n 1, 1) := by decide +kernel
theorem dX1_lastEvent_15 : decode cX1_lastEvent 15 = .ok (.iaload, 1) := by decide +kernel
theorem dX1_lastEvent_16 : decode cX1_lastEvent 16 = .ok (.if_icmp .ge 33, 3) := by decide +kernel
theorem dX1_lastEvent_19 : decode cX1_lastEvent 19 = .ok (.aload_n 0, 1) := by decide +kernel
theorem dX1_lastEvent_20 : decode cX1_lastEvent 20 = .ok (.iload_n 1, 1) := by decide +kernel
theorem dX1_lastEvent_21 : decode cX1_lastEvent 21 = .ok (.iload 4, 2) := by decide +kernel
theorem dX1_lastEvent_23 : decode cX1_lastEvent 23 = .ok (.iload_n 2, 1) := by decide +kernel
theorem dX1_lastEvent_24 : decode cX1_lastEvent 24 = .ok (.invokevirtual 82, 3) := by decide +kernel
theorem dX1_lastEvent_27 : decode cX1_lastEvent 27 = .ok (.istore 5, 2) := by decide +kernel
theorem dX1_lastEvent_29 : decode cX1_lastEvent 29 = .ok (.iload 5, 2) := by decide +kernel
theorem dX1_lastEvent_31 : decode cX1_lastEvent 31 = .ok (.ifCond .ge 5, 3) := by decide +kernel
theorem dX1_lastEvent_34 : decode cX1_lastEvent 34 = .ok (.iconst (-1), 1) := by decide +kernel
theorem dX1_lastEvent_35 : decode cX1_lastEvent 35 = .ok (.ireturn, 1) := by decide +kernel
theorem dX1_lastEvent_36 : decode cX1_lastEvent 36 = .ok (.iload_n 3, 1) := by decide +kernel
theorem dX1_lastEvent_37 : decode cX1_lastEvent 37 = .ok (.iload 5, 2) := by decide +kernel
theorem dX1_lastEvent_39 : decode cX1_lastEvent 39 = .ok (.invokestatic 86, 3) := by decide +kernel
theorem dX1_lastEvent_42 : decode cX1_lastEvent 42 = .ok (.istore_n 3, 1) := by decide +kernel
theorem dX1_lastEvent_43 : decode cX1_lastEvent 43 = .ok (.iinc 4 1, 3) := by decide +kernel
theorem dX1_lastEvent_46 : decode cX1_lastEvent 46 = .ok (.goto (-41), 3) := by decide +kernel
theorem dX1_lastEvent_49 : decode cX1_lastEvent 49 = .ok (.iload_n 3, 1) := by decide +kernel
theorem dX1_lastEvent_50 : decode cX1_lastEvent 50 = .ok (.ireturn, 1) := by decide +kernel
theorem dX1_chainEvent_0 : decode cX1_chainEvent 0 = .ok (.iload_n 2, 1) := by decide +kernel
theorem dX1_chainEvent_1 : decode cX1_chainEvent 1 = .ok (.iconst 1, 1) := by decide +kernel
theorem dX1_chainEvent_2 : decode cX1_chainEvent 2 = .ok (.isub, 1) := by decide +kernel
theorem dX1_chainEvent_3 : decode cX1_chainEvent 3 = .ok (.istore_n 3, 1) := by decide +kernel
theorem dX1_chainEvent_4 : decode cX1_chainEvent 4 = .ok (.iconst 0, 1) := by decide +kernel
theorem dX1_chainEvent_5 : decode cX1_chainEvent 5 = .ok (.istore 4, 2) := by decide +kernel
theorem dX1_chainEvent_7 : decode cX1_chainEvent 7 = .ok (.iload 4, 2) := by decide +kernel
theorem dX1_chainEvent_9 : decode cX1_chainEvent 9 = .ok (.aload_n 0, 1) := by decide +kernel
theorem dX1_chainEvent_10 : decode cX1_chainEvent 10 = .ok (.getfield 37, 3) := by decide +kernel
theorem dX1_chainEvent_13 : decode cX1_chainEvent 13 = .ok (.getfield 61, 3) := by decide +kernel
theorem dX1_chainEvent_16 : decode cX1_chainEvent 16 = .ok (.iload_n 1, 1) := by decide +kernel
theorem dX1_chainEvent_17 : decode cX1_chainEvent 17 = .ok (.iaload, 1) := by decide +kernel
theorem dX1_chainEvent_18 : decode cX1_chainEvent 18 = .ok (.if_icmp .ge 26, 3) := by decide +kernel
theorem dX1_chainEvent_21 : decode cX1_chainEvent 21 = .ok (.aload_n 0, 1) := by decide +kernel
theorem dX1_chainEvent_22 : decode cX1_chainEvent 22 = .ok (.iload_n 1, 1) := by decide +kernel
theorem dX1_chainEvent_23 : decode cX1_chainEvent 23 = .ok (.iload 4, 2) := by decide +kernel
theorem dX1_chainEvent_25 : decode cX1_chainEvent 25 = .ok (.iload_n 3, 1) := by decide +kernel
theorem dX1_chainEvent_26 : decode cX1_chainEvent 26 = .ok (.iconst 1, 1) := by decide +kernel
theorem dX1_chainEvent_27 : decode cX1_chainEvent 27 = .ok (.iadd, 1) := by decide +kernel
theorem dX1_chainEvent_28 : decode cX1_chainEvent 28 = .ok (.invokevirtual 82, 3) := by decide +kernel
theorem dX1_chainEvent_31 : decode cX1_chainEvent 31 = .ok (.istore_n 3, 1) := by decide +kernel
theorem dX1_chainEvent_32 : decode cX1_chainEvent 32 = .ok (.iload_n 3, 1) := by decide +kernel
theorem dX1_chainEvent_33 : decode cX1_chainEvent 33 = .ok (.ifCond .ge 5, 3) := by decide +kernel
theorem dX1_chainEvent_36 : decode cX1_chainEvent 36 = .ok (.iconst (-1), 1) := by decide +kernel
theorem dX1_chainEvent_37 : decode cX1_chainEvent 37 = .ok (.ireturn, 1) := by decide +kernel
theorem dX1_chainEvent_38 : decode cX1_chainEvent 38 = .ok (.iinc 4 1, 3) := by decide +kernel
theorem dX1_chainEvent_41 : decode cX1_chainEvent 41 = .ok (.goto (-34), 3) := by decide +kernel
theorem dX1_chainEvent_44 : decode cX1_chainEvent 44 = .ok (.iload_n 3, 1) := by decide +kernel
theorem dX1_chainEvent_45 : decode cX1_chainEvent 45 = .ok (.ireturn, 1) := by decide +kernel
theorem dX1_someEvent_0 : decode cX1_someEvent 0 = .ok (.iconst 0, 1) := by decide +kernel
theorem dX1_someEvent_1 : decode cX1_someEvent 1 = .ok (.istore_n 3, 1) := by decide +kernel
theorem dX1_someEvent_2 : decode cX1_someEvent 2 = .ok (.iconst 0, 1) := by decide +kernel
theorem dX1_someEvent_3 : decode cX1_someEvent 3 = .ok (.istore 4, 2) := by decide +kernel
theorem dX1_someEvent_5 : decode cX1_someEvent 5 = .ok (.iload 4, 2) := by decide +kernel
theorem dX1_someEvent_7 : decode cX1_someEvent 7 = .ok (.aload_n 0, 1) := by decide +kernel
theorem dX1_someEvent_8 : decode cX1_someEvent 8 = .ok (.getfield 37, 3) := by decide +kernel
theorem dX1_someEvent_11 : decode cX1_someEvent 11 = .ok (.getfield 61, 3) := by decide +kernel
theorem dX1_someEvent_14 : decode cX1_someEvent 14 = .ok (.iload_n 1, 1) := by decide +kernel
theorem dX1_someEvent_15 : decode cX1_someEvent 15 = .ok (.iaload, 1) := by decide +kernel
theorem dX1_someEvent_16 : decode cX1_someEvent 16 = .ok (.if_icmp .ge 44, 3) := by decide +kernel
theorem dX1_someEvent_19 : decode cX1_someEvent 19 = .ok (.iload_n 3, 1) := by decide +kernel
theorem dX1_someEvent_20 : decode cX1_someEvent 20 = .ok (.aload_n 0, 1) := by decide +kernel
theorem dX1_someEvent_21 : decode cX1_someEvent 21 = .ok (.getfield 30, 3) := by decide +kernel
theorem dX1_someEvent_24 : decode cX1_someEvent 24 = .ok (.arraylength, 1) := by decide +kernel
theorem dX1_someEvent_25 : decode cX1_someEvent 25 = .ok (.if_icmp .ge 35, 3) := by decide +kernel
theorem dX1_someEvent_28 : decode cX1_someEvent 28 = .ok (.aload_n 0, 1) := by decide +kernel
theorem dX1_someEvent_29 : decode cX1_someEvent 29 = .ok (.iload_n 1, 1) := by decide +kernel
theorem dX1_someEvent_30 : decode cX1_someEvent 30 = .ok (.iload 4, 2) := by decide +kernel
theorem dX1_someEvent_32 : decode cX1_someEvent 32 = .ok (.iload_n 2, 1) := by decide +kernel
theorem dX1_someEvent_33 : decode cX1_someEvent 33 = .ok (.invokevirtual 82, 3) := by decide +kernel
theorem dX1_someEvent_36 : decode cX1_someEvent 36 = .ok (.istore 5, 2) := by decide +kernel
theorem dX1_someEvent_38 : decode cX1_someEvent 38 = .ok (.iload 5, 2) := by decide +kernel
theorem dX1_someEvent_40 : decode cX1_someEvent 40 = .ok (.ifCond .lt 14, 3) := by decide +kernel
theorem dX1_someEvent_43 : decode cX1_someEvent 43 = .ok (.aload_n 0, 1) := by decide +kernel
theorem dX1_someEvent_44 : decode cX1_someEvent 44 = .ok (.getfield 30, 3) := by decide +kernel
theorem dX1_someEvent_47 : decode cX1_someEvent 47 = .ok (.iload_n 3, 1) := by decide +kernel
theorem dX1_someEvent_48 : decode cX1_someEvent 48 = .ok (.iload 5, 2) := by decide +kernel
theorem dX1_someEvent_50 : decode cX1_someEvent 50 = .ok (.iastore, 1) := by decide +kernel
theorem dX1_someEvent_51 : decode cX1_someEvent 51 = .ok (.iinc 3 1, 3) := by decide +kernel
theorem dX1_someEvent_54 : decode cX1_someEvent 54 = .ok (.iinc 4 1, 3) := by decide +kernel
theorem dX1_someEvent_57 : decode cX1_someEvent 57 = .ok (.goto (-52), 3) := by decide +kernel
theorem dX1_someEvent_60 : decode cX1_someEvent 60 = .ok (.iload_n 3, 1) := by decide +kernel
theorem dX1_someEvent_61 : decode cX1_someEvent 61 = .ok (.aload_n 0, 1) := by decide +kernel
theorem dX1_someEvent_62 : decode cX1_someEvent 62 = .ok (.getfield 37, 3) := by decide +kernel
theorem dX1_someEvent_65 : decode cX1_someEvent 65 = .ok (.getfield 91, 3) := by decide +kernel
theorem dX1_someEvent_68 : decode cX1_someEvent 68 = .ok (.iload_n 1, 1) := by decide +kernel
theorem dX1_someEvent_69 : decode cX1_someEvent 69 = .ok (.iaload, 1) := by decide +kernel
theorem dX1_someEvent_70 : decode cX1_someEvent 70 = .ok (.if_icmp .ge 7, 3) := by decide +kernel
theorem dX1_someEvent_73 : decode cX1_someEvent 73 = .ok (.iconst (-1), 1) := by decide +kernel
theorem dX1_someEvent_74 : decode cX1_someEvent 74 = .ok (.goto 20, 3) := by decide +kernel
theorem dX1_someEvent_77 : decode cX1_someEvent 77 = .ok (.aload_n 0, 1) := by decide +kernel
theorem dX1_someEvent_78 : decode cX1_someEvent 78 = .ok (.getfield 30, 3) := by decide +kernel
theorem dX1_someEvent_81 : decode cX1_someEvent 81 = .ok (.iload_n 3, 1) := by decide +kernel
theorem dX1_someEvent_82 : decode cX1_someEvent 82 = .ok (.aload_n 0, 1) := by decide +kernel
theorem dX1_someEvent_83 : decode cX1_someEvent 83 = .ok (.getfield 37, 3) := by decide +kernel
theorem dX1_someEvent_86 : decode cX1_someEvent 86 = .ok (.getfield 91, 3) := by decide +kernel
theorem dX1_someEvent_89 : decode cX1_someEvent 89 = .ok (.iload_n 1, 1) := by decide +kernel
theorem dX1_someEvent_90 : decode cX1_someEvent 90 = .ok (.iaload, 1) := by decide +kernel
theorem dX1_someEvent_91 : decode cX1_someEvent 91 = .ok (.invokestatic 94, 3) := by decide +kernel
theorem dX1_someEvent_94 : decode cX1_someEvent 94 = .ok (.ireturn, 1) := by decide +kernel
theorem dX1_mixInto_0 : decode cX1_mixInto 0 = .ok (.iconst 0, 1) := by decide +kernel
theorem dX1_mixInto_1 : decode cX1_mixInto 1 = .ok (.istore_n 3, 1) := by decide +kernel
theorem dX1_mixInto_2 : decode cX1_mixInto 2 = .ok (.iload_n 3, 1) := by decide +kernel
theorem dX1_mixInto_3 : decode cX1_mixInto 3 = .ok (.aload_n 0, 1) := by decide +kernel
theorem dX1_mixInto_4 : decode cX1_mixInto 4 = .ok (.getfield 18, 3) := by decide +kernel
theorem dX1_mixInto_7 : decode cX1_mixInto 7 = .ok (.if_icmp .ge 35, 3) := by decide +kernel
theorem dX1_mixInto_10 : decode cX1_mixInto 10 = .ok (.ldc2_w 98, 3) := by decide +kernel
theorem dX1_mixInto_13 : decode cX1_mixInto 13 = .ok (.ldc2_w 98, 3) := by decide +kernel
theorem dX1_mixInto_16 : decode cX1_mixInto 16 = .ok (.lload_n 1, 1) := by decide +kernel
theorem dX1_mixInto_17 : decode cX1_mixInto 17 = .ok (.lmul, 1) := by decide +kernel
theorem dX1_mixInto_18 : decode cX1_mixInto 18 = .ok (.aload_n 0, 1) := by decide +kernel
theorem dX1_mixInto_19 : decode cX1_mixInto 19 = .ok (.getfield 11, 3) := by decide +kernel
theorem dX1_mixInto_22 : decode cX1_mixInto 22 = .ok (.iload_n 3, 1) := by decide +kernel
theorem dX1_mixInto_23 : decode cX1_mixInto 23 = .ok (.iaload, 1) := by decide +kernel
theorem dX1_mixInto_24 : decode cX1_mixInto 24 = .ok (.i2l, 1) := by decide +kernel
theorem dX1_mixInto_25 : decode cX1_mixInto 25 = .ok (.ladd, 1) := by decide +kernel
theorem dX1_mixInto_26 : decode cX1_mixInto 26 = .ok (.lmul, 1) := by decide +kernel
theorem dX1_mixInto_27 : decode cX1_mixInto 27 = .ok (.aload_n 0, 1) := by decide +kernel
theorem dX1_mixInto_28 : decode cX1_mixInto 28 = .ok (.getfield 15, 3) := by decide +kernel
theorem dX1_mixInto_31 : decode cX1_mixInto 31 = .ok (.iload_n 3, 1) := by decide +kernel
theorem dX1_mixInto_32 : decode cX1_mixInto 32 = .ok (.iaload, 1) := by decide +kernel
theorem dX1_mixInto_33 : decode cX1_mixInto 33 = .ok (.i2l, 1) := by decide +kernel
theorem dX1_mixInto_34 : decode cX1_mixInto 34 = .ok (.ladd, 1) := by decide +kernel
theorem dX1_mixInto_35 : decode cX1_mixInto 35 = .ok (.lstore_n 1, 1) := by decide +kernel
theorem dX1_mixInto_36 : decode cX1_mixInto 36 = .ok (.iinc 3 1, 3) := by decide +kernel
theorem dX1_mixInto_39 : decode cX1_mixInto 39 = .ok (.goto (-37), 3) := by decide +kernel
theorem dX1_mixInto_42 : decode cX1_mixInto 42 = .ok (.lload_n 1, 1) := by decide +kernel
theorem dX1_mixInto_43 : decode cX1_mixInto 43 = .ok (.lreturn, 1) := by decide +kernel
theorem dX2_isZero_0 : decode cX2_isZero 0 = .ok (.aload_n 0, 1) := by decide +kernel
theorem dX2_isZero_1 : decode cX2_isZero 1 = .ok (.getfield 11, 3) := by decide +kernel
theorem dX2_isZero_4 : decode cX2_isZero 4 = .ok (.invokestatic 18, 3) := by decide +kernel
theorem dX2_isZero_7 : decode cX2_isZero 7 = .ok (.ireturn, 1) := by decide +kernel
theorem dX2_isZeroRow_0 : decode cX2_isZeroRow 0 = .ok (.iconst 0, 1) := by decide +kernel
theorem dX2_isZeroRow_1 : decode cX2_isZeroRow 1 = .ok (.istore_n 1, 1) := by decide +kernel
theorem dX2_isZeroRow_2 : decode cX2_isZeroRow 2 = .ok (.iload_n 1, 1) := by decide +kernel
theorem dX2_isZeroRow_3 : decode cX2_isZeroRow 3 = .ok (.bipush 6, 2) := by decide +kernel
theorem dX2_isZeroRow_5 : decode cX2_isZeroRow 5 = .ok (.if_icmp .ge 17, 3) := by decide +kernel
theorem dX2_isZeroRow_8 : decode cX2_isZeroRow 8 = .ok (.aload_n 0, 1) := by decide +kernel
theorem dX2_isZeroRow_9 : decode cX2_isZeroRow 9 = .ok (.iload_n 1, 1) := by decide +kernel
theorem dX2_isZeroRow_10 : decode cX2_isZeroRow 10 = .ok (.iaload, 1) := by decide +kernel
theorem dX2_isZeroRow_11 : decode cX2_isZeroRow 11 = .ok (.ifCond .eq 5, 3) := by decide +kernel
theorem dX2_isZeroRow_14 : decode cX2_isZeroRow 14 = .ok (.iconst 0, 1) := by decide +kernel
theorem dX2_isZeroRow_15 : decode cX2_isZeroRow 15 = .ok (.ireturn, 1) := by decide +kernel
theorem dX2_isZeroRow_16 : decode cX2_isZeroRow 16 = .ok (.iinc 1 1, 3) := by decide +kernel
theorem dX2_isZeroRow_19 : decode cX2_isZeroRow 19 = .ok (.goto (-17), 3) := by decide +kernel
theorem dX2_isZeroRow_22 : decode cX2_isZeroRow 22 = .ok (.iconst 1, 1) := by decide +kernel
theorem dX2_isZeroRow_23 : decode cX2_isZeroRow 23 = .ok (.ireturn, 1) := by decide +kernel
theorem dX2_limbsOf_0 : decode cX2_limbsOf 0 = .ok (.iload_n 1, 1) := by decide +kernel
theorem dX2_limbsOf_1 : decode cX2_limbsOf 1 = .ok (.ifCond .ne 10, 3) := by decide +kernel
theorem dX2_limbsOf_4 : decode cX2_limbsOf 4 = .ok (.aload_n 0, 1) := by decide +kernel
theorem dX2_limbsOf_5 : decode cX2_limbsOf 5 = .ok (.getfield 11, 3) := by decide +kernel
theorem dX2_limbsOf_8 : decode cX2_limbsOf 8 = .ok (.goto 7, 3) := by decide +kernel
theorem dX2_limbsOf_11 : decode cX2_limbsOf 11 = .ok (.aload_n 0, 1) := by decide +kernel
theorem dX2_limbsOf_12 : decode cX2_limbsOf 12 = .ok (.getfield 15, 3) := by decide +kernel
theorem dX2_limbsOf_15 : decode cX2_limbsOf 15 = .ok (.astore_n 2, 1) := by decide +kernel
theorem dX2_limbsOf_16 : decode cX2_limbsOf 16 = .ok (.bipush 6, 2) := by decide +kernel
theorem dX2_limbsOf_18 : decode cX2_limbsOf 18 = .ok (.istore_n 3, 1) := by decide +kernel
theorem dX2_limbsOf_19 : decode cX2_limbsOf 19 = .ok (.iload_n 3, 1) := by decide +kernel
theorem dX2_limbsOf_20 : decode cX2_limbsOf 20 = .ok (.ifCond .le 17, 3) := by decide +kernel
theorem dX2_limbsOf_23 : decode cX2_limbsOf 23 = .ok (.aload_n 2, 1) := by decide +kernel
theorem dX2_limbsOf_24 : decode cX2_limbsOf 24 = .ok (.iload_n 3, 1) := by decide +kernel
theorem dX2_limbsOf_25 : decode cX2_limbsOf 25 = .ok (.iconst 1, 1) := by decide +kernel
theorem dX2_limbsOf_26 : decode cX2_limbsOf 26 = .ok (.isub, 1) := by decide +kernel
theorem dX2_limbsOf_27 : decode cX2_limbsOf 27 = .ok (.iaload, 1) := by decide +kernel
theorem dX2_limbsOf_28 : decode cX2_limbsOf 28 = .ok (.ifCond .ne 9, 3) := by decide +kernel
theorem dX2_limbsOf_31 : decode cX2_limbsOf 31 = .ok (.iinc 3 (-1), 3) := by decide +kernel
theorem dX2_limbsOf_34 : decode cX2_limbsOf 34 = .ok (.goto (-15), 3) := by decide +kernel
theorem dX2_limbsOf_37 : decode cX2_limbsOf 37 = .ok (.iload_n 3, 1) := by decide +kernel
theorem dX2_limbsOf_38 : decode cX2_limbsOf 38 = .ok (.ireturn, 1) := by decide +kernel
theorem dX2_limbOf_0 : decode cX2_limbOf 0 = .ok (.iload_n 1, 1) := by decide +kernel
theorem dX2_limbOf_1 : decode cX2_limbOf 1 = .ok (.ifCond .ne 12, 3) := by decide +kernel
theorem dX2_limbOf_4 : decode cX2_limbOf 4 = .ok (.aload_n 0, 1) := by decide +kernel
theorem dX2_limbOf_5 : decode cX2_limbOf 5 = .ok (.getfield 11, 3) := by decide +kernel
theorem dX2_limbOf_8 : decode cX2_limbOf 8 = .ok (.iload_n 2, 1) := by decide +kernel
theorem dX2_limbOf_9 : decode cX2_limbOf 9 = .ok (.iaload, 1) := by decide +kernel
theorem dX2_limbOf_10 : decode cX2_limbOf 10 = .ok (.goto 9, 3) := by decide +kernel
theorem dX2_limbOf_13 : decode cX2_limbOf 13 = .ok (.aload_n 0, 1) := by decide +kernel
theorem dX2_limbOf_14 : decode cX2_limbOf 14 = .ok (.getfield 15, 3) := by decide +kernel
theorem dX2_limbOf_17 : decode cX2_limbOf 17 = .ok (.iload_n 2, 1) := by decide +kernel
theorem dX2_limbOf_18 : decode cX2_limbOf 18 = .ok (.iaload, 1) := by decide +kernel
theorem dX2_limbOf_19 : decode cX2_limbOf 19 = .ok (.ireturn, 1) := by decide +kernel
theorem dX2_putThousandths_0 : decode cX2_putThousandths 0 = .ok (.aload_n 0, 1) := by decide +kernel
theorem dX2_putThousandths_1 : decode cX2_putThousandths 1 = .ok (.getfield 11, 3) := by decide +kernel
theorem dX2_putThousandths_4 : decode cX2_putThousandths 4 = .ok (.iconst 0, 1) := by decide +kernel
theorem dX2_putThousandths_5 : decode cX2_putThousandths 5 = .ok (.invokestatic 22, 3) := by decide +kernel
theorem dX2_putThousandths_8 : decode cX2_putThousandths 8 = .ok (.aload_n 1, 1) := by decide +kernel
theorem dX2_putThousandths_9 : decode cX2_putThousandths 9 = .ok (.iload_n 2, 1) := by decide +kernel
theorem dX2_putThousandths_10 : decode cX2_putThousandths 10 = .ok (.aload_n 0, 1) := by decide +kernel
theorem dX2_putThousandths_11 : decode cX2_putThousandths 11 = .ok (.getfield 11, 3) := by decide +kernel
theorem dX2_putThousandths_14 : decode cX2_putThousandths 14 = .ok (.iconst 0, 1) := by decide +kernel
theorem dX2_putThousandths_15 : decode cX2_putThousandths 15 = .ok (.iload_n 3, 1) := by decide +kernel
theorem dX2_putThousandths_16 : decode cX2_putThousandths 16 = .ok (.bipush 6, 2) := by decide +kernel
theorem dX2_putThousandths_18 : decode cX2_putThousandths 18 = .ok (.invokestatic 28, 3) := by decide +kernel
theorem dX2_putThousandths_21 : decode cX2_putThousandths 21 = .ok (.invokestatic 34, 3) := by decide +kernel
theorem dX2_putThousandths_24 : decode cX2_putThousandths 24 = .ok (.aload_n 0, 1) := by decide +kernel
theorem dX2_putThousandths_25 : decode cX2_putThousandths 25 = .ok (.invokevirtual 40, 3) := by decide +kernel
theorem dX2_putThousandths_28 : decode cX2_putThousandths 28 = .ok (.ifCond .eq 7, 3) := by decide +kernel
theorem dX2_putThousandths_31 : decode cX2_putThousandths 31 = .ok (.iconst 0, 1) := by decide +kernel
theorem dX2_putThousandths_32 : decode cX2_putThousandths 32 = .ok (.goto 7, 3) := by decide +kernel
theorem dX2_putThousandths_35 : decode cX2_putThousandths 35 = .ok (.iconst 3, 1) := by decide +kernel
theorem dX2_putThousandths_36 : decode cX2_putThousandths 36 = .ok (.iload 4, 2) := by decide +kernel
theorem dX2_putThousandths_38 : decode cX2_putThousandths 38 = .ok (.imul, 1) := by decide +kernel
theorem dX2_putThousandths_39 : decode cX2_putThousandths 39 = .ok (.istore 5, 2) := by decide +kernel
theorem dX2_putThousandths_41 : decode cX2_putThousandths 41 = .ok (.iload 5, 2) := by decide +kernel
theorem dX2_putThousandths_43 : decode cX2_putThousandths 43 = .ok (.istore 6, 2) := by decide +kernel
theorem dX2_putThousandths_45 : decode cX2_putThousandths 45 = .ok (.iload 5, 2) := by decide +kernel
theorem dX2_putThousandths_47 : decode cX2_putThousandths 47 = .ok (.ifCond .le 28, 3) := by decide +kernel
theorem dX2_putThousandths_50 : decode cX2_putThousandths 50 = .ok (.aload_n 0, 1) := by decide +kernel
theorem dX2_putThousandths_51 : decode cX2_putThousandths 51 = .ok (.getfield 11, 3) := by decide +kernel
theorem dX2_putThousandths_54 : decode cX2_putThousandths 54 = .ok (.iconst 2, 1) := by decide +kernel
theorem dX2_putThousandths_55 : decode cX2_putThousandths 55 = .ok (.invokestatic 44, 3) := by decide +kernel
theorem dX2_putThousandths_58 : decode cX2_putThousandths 58 = .ok (.ifCond .ne 17, 3) := by decide +kernel
theorem dX2_putThousandths_61 : decode cX2_putThousandths 61 = .ok (.aload_n 0, 1) := by decide +kernel
theorem dX2_putThousandths_62 : decode cX2_putThousandths 62 = .ok (.getfield 11, 3) := by decide +kernel
theorem dX2_putThousandths_65 : decode cX2_putThousandths 65 = .ok (.iconst 2, 1) := by decide +kernel
theorem dX2_putThousandths_66 : decode cX2_putThousandths 66 = .ok (.invokestatic 48, 3) := by decide +kernel
theorem dX2_putThousandths_69 : decode cX2_putThousandths 69 = .ok (.iinc 5 (-1), 3) := by decide +kernel
theorem dX2_putThousandths_72 : decode cX2_putThousandths 72 = .ok (.goto (-27), 3) := by decide +kernel
theorem dX2_putThousandths_75 : decode cX2_putThousandths 75 = .ok (.iload 6, 2) := by decide +kernel
theorem dX2_putThousandths_77 : decode cX2_putThousandths 77 = .ok (.ifCond .le 28, 3) := by decide +kernel
theorem dX2_putThousandths_80 : decode cX2_putThousandths 80 = .ok (.aload_n 0, 1) := by decide +kernel
theorem dX2_putThousandths_81 : decode cX2_putThousandths 81 = .ok (.getfield 11, 3) := by decide +kernel
theorem dX2_putThousandths_84 : decode cX2_putThousandths 84 = .ok (.iconst 5, 1) := by decide +kernel
theorem dX2_putThousandths_85 : decode cX2_putThousandths 85 = .ok (.invokestatic 44, 3) := by decide +kernel
theorem dX2_putThousandths_88 : decode cX2_putThousandths 88 = .ok (.ifCond .ne 17, 3) := by decide +kernel
theorem dX2_putThousandths_91 : decode cX2_putThousandths 91 = .ok (.aload_n 0, 1) := by decide +kernel
theorem dX2_putThousandths_92 : decode cX2_putThousandths 92 = .ok (.getfield 11, 3) := by decide +kernel
theorem dX2_putThousandths_95 : decode cX2_putThousandths 95 = .ok (.iconst 5, 1) := by decide +kernel
theorem dX2_putThousandths_96 : decode cX2_putThousandths 96 = .ok (.invokestatic 48, 3) := by decide +kernel
theorem dX2_putThousandths_99 : decode cX2_putThousandths 99 = .ok (.iinc 6 (-1), 3) := by decide +kernel
theorem dX2_putThousandths_102 : decode cX2_putThousandths 102 = .ok (.goto (-27), 3) := by decide +kernel
theorem dX2_putThousandths_105 : decode cX2_putThousandths 105 = .ok (.aload_n 0, 1) := by decide +kernel
theorem dX2_putThousandths_106 : decode cX2_putThousandths 106 = .ok (.getfield 15, 3) := by decide +kernel
theorem dX2_putThousandths_109 : decode cX2_putThousandths 109 = .ok (.iconst 0, 1) := by decide +kernel
theorem dX2_putThousandths_110 : decode cX2_putThousandths 110 = .ok (.invokestatic 22, 3) := by decide +kernel
theorem dX2_putThousandths_113 : decode cX2_putThousandths 113 = .ok (.aload_n 0, 1) := by decide +kernel
theorem dX2_putThousandths_114 : decode cX2_putThousandths 114 = .ok (.getfield 15, 3) := by decide +kernel
theorem dX2_putThousandths_117 : decode cX2_putThousandths 117 = .ok (.iconst 0, 1) := by decide +kernel
theorem dX2_putThousandths_118 : decode cX2_putThousandths 118 = .ok (.iconst 1, 1) := by decide +kernel
theorem dX2_putThousandths_119 : decode cX2_putThousandths 119 = .ok (.iastore, 1) := by decide +kernel
theorem dX2_putThousandths_120 : decode cX2_putThousandths 120 = .ok (.iconst 0, 1) := by decide +kernel
theorem dX2_putThousandths_121 : decode cX2_putThousandths 121 = .ok (.istore 7, 2) := by decide +kernel
theorem dX2_putThousandths_123 : decode cX2_putThousandths 123 = .ok (.iload 7, 2) := by decide +kernel
theorem dX2_putThousandths_125 : decode cX2_putThousandths 125 = .ok (.iload 5, 2) := by decide +kernel
theorem dX2_putThousandths_127 : decode cX2_putThousandths 127 = .ok (.if_icmp .ge 20, 3) := by decide +kernel
theorem dX2_putThousandths_130 : decode cX2_putThousandths 130 = .ok (.aload_n 0, 1) := by decide +kernel
theorem dX2_putThousandths_131 : decode cX2_putThousandths 131 = .ok (.getfield 15, 3) := by decide +kernel
theorem dX2_putThousandths_134 : decode cX2_putThousandths 134 = .ok (.iconst 0, 1) := by decide +kernel
theorem dX2_putThousandths_135 : decode cX2_putThousandths 135 = .ok (.bipush 6, 2) := by decide +kernel
theorem dX2_putThousandths_137 : decode cX2_putThousandths 137 = .ok (.iconst 2, 1) := by decide +kernel
theorem dX2_putThousandths_138 : decode cX2_putThousandths 138 = .ok (.invokestatic 51, 3) := by decide +kernel
theorem dX2_putThousandths_141 : decode cX2_putThousandths 141 = .ok (.iinc 7 1, 3) := by decide +kernel
theorem dX2_putThousandths_144 : decode cX2_putThousandths 144 = .ok (.goto (-21), 3) := by decide +kernel
theorem dX2_putThousandths_147 : decode cX2_putThousandths 147 = .ok (.iconst 0, 1) := by decide +kernel
theorem dX2_putThousandths_148 : decode cX2_putThousandths 148 = .ok (.istore 7, 2) := by decide +kernel
theorem dX2_putThousandths_150 : decode cX2_putThousandths 150 = .ok (.iload 7, 2) := by decide +kernel
theorem dX2_putThousandths_152 : decode cX2_putThousandths 152 = .ok (.iload 6, 2) := by decide +kernel
theorem dX2_putThousandths_154 : decode cX2_putThousandths 154 = .ok (.if_icmp .ge 20, 3) := by decide +kernel
theorem dX2_putThousandths_157 : decode cX2_putThousandths 157 = .ok (.aload_n 0, 1) := by decide +kernel
theorem dX2_putThousandths_158 : decode cX2_putThousandths 158 = .ok (.getfield 15, 3) := by decide +kernel
theorem dX2_putThousandths_161 : decode cX2_putThousandths 161 = .ok (.iconst 0, 1) := by decide +kernel
theorem dX2_putThousandths_162 : decode cX2_putThousandths 162 = .ok (.bipush 6, 2) := by decide +kernel
theorem dX2_putThousandths_164 : decode cX2_putThousandths 164 = .ok (.iconst 5, 1) := by decide +kernel
theorem dX2_putThousandths_165 : decode cX2_putThousandths 165 = .ok (.invokestatic 51, 3) := by decide +kernel
theorem dX2_putThousandths_168 : decode cX2_putThousandths 168 = .ok (.iinc 7 1, 3) := by decide +kernel
theorem dX2_putThousandths_171 : decode cX2_putThousandths 171 = .ok (.goto (-21), 3) := by decide +kernel
theorem dX2_putThousandths_174 : decode cX2_putThousandths 174 = .ok (.return_, 1) := by decide +kernel
theorem dX2_putRatio_0 : decode cX2_putRatio 0 = .ok (.lload_n 1, 1) := by decide +kernel
theorem dX2_putRatio_1 : decode cX2_putRatio 1 = .ok (.lload_n 3, 1) := by decide +kernel
theorem dX2_putRatio_2 : decode cX2_putRatio 2 = .ok (.invokestatic 55, 3) := by decide +kernel
theorem dX2_putRatio_5 : decode cX2_putRatio 5 = .ok (.lstore 5, 2) := by decide +kernel
theorem dX2_putRatio_7 : decode cX2_putRatio 7 = .ok (.lload 5, 2) := by decide +kernel
theorem dX2_putRatio_9 : decode cX2_putRatio 9 = .ok (.lconst 1, 1) := by decide +kernel
theorem dX2_putRatio_10 : decode cX2_putRatio 10 = .ok (.lcmp, 1) := by decide +kernel
theorem dX2_putRatio_11 : decode cX2_putRatio 11 = .ok (.ifCond .ge 6, 3) := by decide +kernel
theorem dX2_putRatio_14 : decode cX2_putRatio 14 = .ok (.lconst 1, 1) := by decide +kernel
theorem dX2_putRatio_15 : decode cX2_putRatio 15 = .ok (.lstore 5, 2) := by decide +kernel
theorem dX2_putRatio_17 : decode cX2_putRatio 17 = .ok (.lload_n 1, 1) := by decide +kernel
theorem dX2_putRatio_18 : decode cX2_putRatio 18 = .ok (.lload 5, 2) := by decide +kernel
theorem dX2_putRatio_20 : decode cX2_putRatio 20 = .ok (.ldiv, 1) := by decide +kernel
theorem dX2_putRatio_21 : decode cX2_putRatio 21 = .ok (.aload_n 0, 1) := by decide +kernel
theorem dX2_putRatio_22 : decode cX2_putRatio 22 = .ok (.getfield 11, 3) := by decide +kernel
theorem dX2_putRatio_25 : decode cX2_putRatio 25 = .ok (.invokestatic 59, 3) := by decide +kernel
theorem dX2_putRatio_28 : decode cX2_putRatio 28 = .ok (.lload_n 3, 1) := by decide +kernel
theorem dX2_putRatio_29 : decode cX2_putRatio 29 = .ok (.lload 5, 2) := by decide +kernel
theorem dX2_putRatio_31 : decode cX2_putRatio 31 = .ok (.ldiv, 1) := by decide +kernel
theorem dX2_putRatio_32 : decode cX2_putRatio 32 = .ok (.aload_n 0, 1) := by decide +kernel
theorem dX2_putRatio_33 : decode cX2_putRatio 33 = .ok (.getfield 15, 3) := by decide +kernel
theorem dX2_putRatio_36 : decode cX2_putRatio 36 = .ok (.invokestatic 59, 3) := by decide +kernel
theorem dX2_putRatio_39 : decode cX2_putRatio 39 = .ok (.return_, 1) := by decide +kernel
theorem dX2_commonDivisor_0 : decode cX2_commonDivisor 0 = .ok (.iconst 0, 1) := by decide +kernel
theorem dX2_commonDivisor_1 : decode cX2_commonDivisor 1 = .ok (.istore 4, 2) := by decide +kernel
theorem dX2_commonDivisor_3 : decode cX2_commonDivisor 3 = .ok (.iload 4, 2) := by decide +kernel
theorem dX2_commonDivisor_5 : decode cX2_commonDivisor 5 = .ok (.bipush 100, 2) := by decide +kernel
theorem dX2_commonDivisor_7 : decode cX2_commonDivisor 7 = .ok (.if_icmp .ge 25, 3) := by decide +kernel
theorem dX2_commonDivisor_10 : decode cX2_commonDivisor 10 = .ok (.lload_n 2, 1) := by decide +kernel
theorem dX2_commonDivisor_11 : decode cX2_commonDivisor 11 = .ok (.lconst 0, 1) := by decide +kernel
theorem dX2_commonDivisor_12 : decode cX2_commonDivisor 12 = .ok (.lcmp, 1) := by decide +kernel
theorem dX2_commonDivisor_13 : decode cX2_commonDivisor 13 = .ok (.ifCond .eq 19, 3) := by decide +kernel
theorem dX2_commonDivisor_16 : decode cX2_commonDivisor 16 = .ok (.lload_n 0, 1) := by decide +kernel
theorem dX2_commonDivisor_17 : decode cX2_commonDivisor 17 = .ok (.lload_n 2, 1) := by decide +kernel
theorem dX2_commonDivisor_18 : decode cX2_commonDivisor 18 = .ok (.lrem, 1) := by decide +kernel
theorem dX2_commonDivisor_19 : decode cX2_commonDivisor 19 = .ok (.lstore 5, 2) := by decide +kernel
theorem dX2_commonDivisor_21 : decode cX2_commonDivisor 21 = .ok (.lload_n 2, 1) := by decide +kernel
theorem dX2_commonDivisor_22 : decode cX2_commonDivisor 22 = .ok (.lstore_n 0, 1) := by decide +kernel
theorem dX2_commonDivisor_23 : decode cX2_commonDivisor 23 = .ok (.lload 5, 2) := by decide +kernel
theorem dX2_commonDivisor_25 : decode cX2_commonDivisor 25 = .ok (.lstore_n 2, 1) := by decide +kernel
theorem dX2_commonDivisor_26 : decode cX2_commonDivisor 26 = .ok (.iinc 4 1, 3) := by decide +kernel
theorem dX2_commonDivisor_29 : decode cX2_commonDivisor 29 = .ok (.goto (-26), 3) := by decide +kernel
theorem dX2_commonDivisor_32 : decode cX2_commonDivisor 32 = .ok (.lload_n 0, 1) := by decide +kernel
theorem dX2_commonDivisor_33 : decode cX2_commonDivisor 33 = .ok (.lreturn, 1) := by decide +kernel
theorem dX2_spread_0 : decode cX2_spread 0 = .ok (.aload_n 2, 1) := by decide +kernel
theorem dX2_spread_1 : decode cX2_spread 1 = .ok (.iconst 0, 1) := by decide +kernel
theorem dX2_spread_2 : decode cX2_spread 2 = .ok (.invokestatic 22, 3) := by decide +kernel
theorem dX2_spread_5 : decode cX2_spread 5 = .ok (.iconst 0, 1) := by decide +kernel
theorem dX2_spread_6 : decode cX2_spread 6 = .ok (.istore_n 3, 1) := by decide +kernel
theorem dX2_spread_7 : decode cX2_spread 7 = .ok (.iload_n 3, 1) := by decide +kernel
theorem dX2_spread_8 : decode cX2_spread 8 = .ok (.iconst 3, 1) := by decide +kernel
theorem dX2_spread_9 : decode cX2_spread 9 = .ok (.if_icmp .ge 23, 3) := by decide +kernel
theorem dX2_spread_12 : decode cX2_spread 12 = .ok (.aload_n 2, 1) := by decide +kernel
theorem dX2_spread_13 : decode cX2_spread 13 = .ok (.iload_n 3, 1) := by decide +kernel
theorem dX2_spread_14 : decode cX2_spread 14 = .ok (.lload_n 0, 1) := by decide +kernel
theorem dX2_spread_15 : decode cX2_spread 15 = .ok (.ldc2_w 63, 3) := by decide +kernel
theorem dX2_spread_18 : decode cX2_spread 18 = .ok (.land, 1) := by decide +kernel
theorem dX2_spread_19 : decode cX2_spread 19 = .ok (.l2i, 1) := by decide +kernel
theorem dX2_spread_20 : decode cX2_spread 20 = .ok (.iastore, 1) := by decide +kernel
theorem dX2_spread_21 : decode cX2_spread 21 = .ok (.lload_n 0, 1) := by decide +kernel
theorem dX2_spread_22 : decode cX2_spread 22 = .ok (.bipush 30, 2) := by decide +kernel
theorem dX2_spread_24 : decode cX2_spread 24 = .ok (.lshr, 1) := by decide +kernel
theorem dX2_spread_25 : decode cX2_spread 25 = .ok (.lstore_n 0, 1) := by decide +kernel
theorem dX2_spread_26 : decode cX2_spread 26 = .ok (.iinc 3 1, 3) := by decide +kernel
theorem dX2_spread_29 : decode cX2_spread 29 = .ok (.goto (-22), 3) := by decide +kernel
theorem dX2_spread_32 : decode cX2_spread 32 = .ok (.return_, 1) := by decide +kernel
theorem dX2_remainder_0 : decode cX2_remainder 0 = .ok (.iload_n 1, 1) := by decide +kernel
theorem dX2_remainder_1 : decode cX2_remainder 1 = .ok (.iconst 1, 1) := by decide +kernel
theorem dX2_remainder_2 : decode cX2_remainder 2 = .ok (.if_icmp .ge 5, 3) := by decide +kernel
theorem dX2_remainder_5 : decode cX2_remainder 5 = .ok (.iconst 0, 1) := by decide +kernel
theorem dX2_remainder_6 : decode cX2_remainder 6 = .ok (.ireturn, 1) := by decide +kernel
theorem dX2_remainder_7 : decode cX2_remainder 7 = .ok (.lconst 0, 1) := by decide +kernel
theorem dX2_remainder_8 : decode cX2_remainder 8 = .ok (.lstore_n 2, 1) := by decide +kernel
theorem dX2_remainder_9 : decode cX2_remainder 9 = .ok (.iconst 5, 1) := by decide +kernel
theorem dX2_remainder_10 : decode cX2_remainder 10 = .ok (.istore 4, 2) := by decide +kernel
theorem dX2_remainder_12 : decode cX2_remainder 12 = .ok (.iload 4, 2) := by decide +kernel
theorem dX2_remainder_14 : decode cX2_remainder 14 = .ok (.ifCond .lt 23, 3) := by decide +kernel
theorem dX2_remainder_17 : decode cX2_remainder 17 = .ok (.lload_n 2, 1) := by decide +kernel
theorem dX2_remainder_18 : decode cX2_remainder 18 = .ok (.bipush 30, 2) := by decide +kernel
theorem dX2_remainder_20 : decode cX2_remainder 20 = .ok (.lshl, 1) := by decide +kernel
theorem dX2_remainder_21 : decode cX2_remainder 21 = .ok (.aload_n 0, 1) := by decide +kernel
theorem dX2_remainder_22 : decode cX2_remainder 22 = .ok (.iload 4, 2) := by decide +kernel
theorem dX2_remainder_24 : decode cX2_remainder 24 = .ok (.iaload, 1) := by decide +kernel
theorem dX2_remainder_25 : decode cX2_remainder 25 = .ok (.i2l, 1) := by decide +kernel
theorem dX2_remainder_26 : decode cX2_remainder 26 = .ok (.ladd, 1) := by decide +kernel
theorem dX2_remainder_27 : decode cX2_remainder 27 = .ok (.iload_n 1, 1) := by decide +kernel
theorem dX2_remainder_28 : decode cX2_remainder 28 = .ok (.i2l, 1) := by decide +kernel
theorem dX2_remainder_29 : decode cX2_remainder 29 = .ok (.lrem, 1) := by decide +kernel
theorem dX2_remainder_30 : decode cX2_remainder 30 = .ok (.lstore_n 2, 1) := by decide +kernel
theorem dX2_remainder_31 : decode cX2_remainder 31 = .ok (.iinc 4 (-1), 3) := by decide +kernel
theorem dX2_remainder_34 : decode cX2_remainder 34 = .ok (.goto (-22), 3) := by decide +kernel
theorem dX2_remainder_37 : decode cX2_remainder 37 = .ok (.lload_n 2, 1) := by decide +kernel
theorem dX2_remainder_38 : decode cX2_remainder 38 = .ok (.l2i, 1) := by decide +kernel
theorem dX2_remainder_39 : decode cX2_remainder 39 = .ok (.ireturn, 1) := by decide +kernel
theorem dX2_divide_0 : decode cX2_divide 0 = .ok (.iload_n 1, 1) := by decide +kernel
theorem dX2_divide_1 : decode cX2_divide 1 = .ok (.iconst 1, 1) := by decide +kernel
theorem dX2_divide_2 : decode cX2_divide 2 = .ok (.if_icmp .ge 4, 3) := by decide +kernel
theorem dX2_divide_5 : decode cX2_divide 5 = .ok (.return_, 1) := by decide +kernel
theorem dX2_divide_6 : decode cX2_divide 6 = .ok (.lconst 0, 1) := by decide +kernel
theorem dX2_divide_7 : decode cX2_divide 7 = .ok (.lstore_n 2, 1) := by decide +kernel
theorem dX2_divide_8 : decode cX2_divide 8 = .ok (.iconst 5, 1) := by decide +kernel
theorem dX2_divide_9 : decode cX2_divide 9 = .ok (.istore 4, 2) := by decide +kernel
theorem dX2_divide_11 : decode cX2_divide 11 = .ok (.iload 4, 2) := by decide +kernel
theorem dX2_divide_13 : decode cX2_divide 13 = .ok (.ifCond .lt 34, 3) := by decide +kernel
theorem dX2_divide_16 : decode cX2_divide 16 = .ok (.lload_n 2, 1) := by decide +kernel
theorem dX2_divide_17 : decode cX2_divide 17 = .ok (.bipush 30, 2) := by decide +kernel
theorem dX2_divide_19 : decode cX2_divide 19 = .ok (.lshl, 1) := by decide +kernel
theorem dX2_divide_20 : decode cX2_divide 20 = .ok (.aload_n 0, 1) := by decide +kernel
theorem dX2_divide_21 : decode cX2_divide 21 = .ok (.iload 4, 2) := by decide +kernel
theorem dX2_divide_23 : decode cX2_divide 23 = .ok (.iaload, 1) := by decide +kernel
theorem dX2_divide_24 : decode cX2_divide 24 = .ok (.i2l, 1) := by decide +kernel
theorem dX2_divide_25 : decode cX2_divide 25 = .ok (.ladd, 1) := by decide +kernel
theorem dX2_divide_26 : decode cX2_divide 26 = .ok (.lstore_n 2, 1) := by decide +kernel
theorem dX2_divide_27 : decode cX2_divide 27 = .ok (.aload_n 0, 1) := by decide +kernel
theorem dX2_divide_28 : decode cX2_divide 28 = .ok (.iload 4, 2) := by decide +kernel
theorem dX2_divide_30 : decode cX2_divide 30 = .ok (.lload_n 2, 1) := by decide +kernel
theorem dX2_divide_31 : decode cX2_divide 31 = .ok (.iload_n 1, 1) := by decide +kernel
theorem dX2_divide_32 : decode cX2_divide 32 = .ok (.i2l, 1) := by decide +kernel
theorem dX2_divide_33 : decode cX2_divide 33 = .ok (.ldiv, 1) := by decide +kernel
theorem dX2_divide_34 : decode cX2_divide 34 = .ok (.l2i, 1) := by decide +kernel
theorem dX2_divide_35 : decode cX2_divide 35 = .ok (.iastore, 1) := by decide +kernel
theorem dX2_divide_36 : decode cX2_divide 36 = .ok (.lload_n 2, 1) := by decide +kernel
theorem dX2_divide_37 : decode cX2_divide 37 = .ok (.iload_n 1, 1) := by decide +kernel
theorem dX2_divide_38 : decode cX2_divide 38 = .ok (.i2l, 1) := by decide +kernel
theorem dX2_divide_39 : decode cX2_divide 39 = .ok (.lrem, 1) := by decide +kernel
theorem dX2_divide_40 : decode cX2_divide 40 = .ok (.lstore_n 2, 1) := by decide +kernel
theorem dX2_divide_41 : decode cX2_divide 41 = .ok (.iinc 4 (-1), 3) := by decide +kernel
theorem dX2_divide_44 : decode cX2_divide 44 = .ok (.goto (-33), 3) := by decide +kernel
theorem dX2_divide_47 : decode cX2_divide 47 = .ok (.return_, 1) := by decide +kernel
theorem dX2_multiply_0 : decode cX2_multiply 0 = .ok (.lconst 0, 1) := by decide +kernel
theorem dX2_multiply_1 : decode cX2_multiply 1 = .ok (.lstore 4, 2) := by decide +kernel
theorem dX2_multiply_3 : decode cX2_multiply 3 = .ok (.iconst 0, 1) := by decide +kernel
theorem dX2_multiply_4 : decode cX2_multiply 4 = .ok (.istore 6, 2) := by decide +kernel
theorem dX2_multiply_6 : decode cX2_multiply 6 = .ok (.iload 6, 2) := by decide +kernel
theorem dX2_multiply_8 : decode cX2_multiply 8 = .ok (.iload_n 2, 1) := by decide +kernel
theorem dX2_multiply_9 : decode cX2_multiply 9 = .ok (.if_icmp .ge 44, 3) := by decide +kernel
theorem dX2_multiply_12 : decode cX2_multiply 12 = .ok (.lload 4, 2) := by decide +kernel
theorem dX2_multiply_14 : decode cX2_multiply 14 = .ok (.aload_n 0, 1) := by decide +kernel
theorem dX2_multiply_15 : decode cX2_multiply 15 = .ok (.iload_n 1, 1) := by decide +kernel
theorem dX2_multiply_16 : decode cX2_multiply 16 = .ok (.iload 6, 2) := by decide +kernel
theorem dX2_multiply_18 : decode cX2_multiply 18 = .ok (.iadd, 1) := by decide +kernel
theorem dX2_multiply_19 : decode cX2_multiply 19 = .ok (.iaload, 1) := by decide +kernel
theorem dX2_multiply_20 : decode cX2_multiply 20 = .ok (.i2l, 1) := by decide +kernel
theorem dX2_multiply_21 : decode cX2_multiply 21 = .ok (.iload_n 3, 1) := by decide +kernel
theorem dX2_multiply_22 : decode cX2_multiply 22 = .ok (.i2l, 1) := by decide +kernel
theorem dX2_multiply_23 : decode cX2_multiply 23 = .ok (.lmul, 1) := by decide +kernel
theorem dX2_multiply_24 : decode cX2_multiply 24 = .ok (.ladd, 1) := by decide +kernel
theorem dX2_multiply_25 : decode cX2_multiply 25 = .ok (.lstore 4, 2) := by decide +kernel
theorem dX2_multiply_27 : decode cX2_multiply 27 = .ok (.aload_n 0, 1) := by decide +kernel
theorem dX2_multiply_28 : decode cX2_multiply 28 = .ok (.iload_n 1, 1) := by decide +kernel
theorem dX2_multiply_29 : decode cX2_multiply 29 = .ok (.iload 6, 2) := by decide +kernel
theorem dX2_multiply_31 : decode cX2_multiply 31 = .ok (.iadd, 1) := by decide +kernel
theorem dX2_multiply_32 : decode cX2_multiply 32 = .ok (.lload 4, 2) := by decide +kernel
theorem dX2_multiply_34 : decode cX2_multiply 34 = .ok (.ldc2_w 63, 3) := by decide +kernel
theorem dX2_multiply_37 : decode cX2_multiply 37 = .ok (.land, 1) := by decide +kernel
theorem dX2_multiply_38 : decode cX2_multiply 38 = .ok (.l2i, 1) := by decide +kernel
theorem dX2_multiply_39 : decode cX2_multiply 39 = .ok (.iastore, 1) := by decide +kernel
theorem dX2_multiply_40 : decode cX2_multiply 40 = .ok (.lload 4, 2) := by decide +kernel
theorem dX2_multiply_42 : decode cX2_multiply 42 = .ok (.bipush 30, 2) := by decide +kernel
theorem dX2_multiply_44 : decode cX2_multiply 44 = .ok (.lshr, 1) := by decide +kernel
theorem dX2_multiply_45 : decode cX2_multiply 45 = .ok (.lstore 4, 2) := by decide +kernel
theorem dX2_multiply_47 : decode cX2_multiply 47 = .ok (.iinc 6 1, 3) := by decide +kernel
theorem dX2_multiply_50 : decode cX2_multiply 50 = .ok (.goto (-44), 3) := by decide +kernel
theorem dX2_multiply_53 : decode cX2_multiply 53 = .ok (.return_, 1) := by decide +kernel
theorem dX2_putPower_0 : decode cX2_putPower 0 = .ok (.aload_n 0, 1) := by decide +kernel
theorem dX2_putPower_1 : decode cX2_putPower 1 = .ok (.iload_n 1, 1) := by decide +kernel
theorem dX2_putPower_2 : decode cX2_putPower 2 = .ok (.iload_n 2, 1) := by decide +kernel
theorem dX2_putPower_3 : decode cX2_putPower 3 = .ok (.invokestatic 65, 3) := by decide +kernel
theorem dX2_putPower_6 : decode cX2_putPower 6 = .ok (.aload_n 0, 1) := by decide +kernel
theorem dX2_putPower_7 : decode cX2_putPower 7 = .ok (.iload_n 1, 1) := by decide +kernel
theorem dX2_putPower_8 : decode cX2_putPower 8 = .ok (.iconst 1, 1) := by decide +kernel
theorem dX2_putPower_9 : decode cX2_putPower 9 = .ok (.iastore, 1) := by decide +kernel
theorem dX2_putPower_10 : decode cX2_putPower 10 = .ok (.iconst 0, 1) := by decide +kernel
theorem dX2_putPower_11 : decode cX2_putPower 11 = .ok (.istore 4, 2) := by decide +kernel
theorem dX2_putPower_13 : decode cX2_putPower 13 = .ok (.iload 4, 2) := by decide +kernel
theorem dX2_putPower_15 : decode cX2_putPower 15 = .ok (.iload_n 3, 1) := by decide +kernel
theorem dX2_putPower_16 : decode cX2_putPower 16 = .ok (.if_icmp .ge 18, 3) := by decide +kernel
theorem dX2_putPower_19 : decode cX2_putPower 19 = .ok (.aload_n 0, 1) := by decide +kernel
theorem dX2_putPower_20 : decode cX2_putPower 20 = .ok (.iload_n 1, 1) := by decide +kernel
theorem dX2_putPower_21 : decode cX2_putPower 21 = .ok (.iload_n 2, 1) := by decide +kernel
theorem dX2_putPower_22 : decode cX2_putPower 22 = .ok (.sipush 1000, 3) := by decide +kernel
theorem dX2_putPower_25 : decode cX2_putPower 25 = .ok (.invokestatic 51, 3) := by decide +kernel
theorem dX2_putPower_28 : decode cX2_putPower 28 = .ok (.iinc 4 1, 3) := by decide +kernel
theorem dX2_putPower_31 : decode cX2_putPower 31 = .ok (.goto (-18), 3) := by decide +kernel
theorem dX2_putPower_34 : decode cX2_putPower 34 = .ok (.return_, 1) := by decide +kernel
theorem dX2_blend_0 : decode cX2_blend 0 = .ok (.lconst 0, 1) := by decide +kernel
theorem dX2_blend_1 : decode cX2_blend 1 = .ok (.lstore 6, 2) := by decide +kernel
theorem dX2_blend_3 : decode cX2_blend 3 = .ok (.iconst 0, 1) := by decide +kernel
theorem dX2_blend_4 : decode cX2_blend 4 = .ok (.istore 8, 2) := by decide +kernel
theorem dX2_blend_6 : decode cX2_blend 6 = .ok (.iload 8, 2) := by decide +kernel
theorem dX2_blend_8 : decode cX2_blend 8 = .ok (.iload 5, 2) := by decide +kernel
theorem dX2_blend_10 : decode cX2_blend 10 = .ok (.if_icmp .ge 61, 3) := by decide +kernel
theorem dX2_blend_13 : decode cX2_blend 13 = .ok (.lload 6, 2) := by decide +kernel
theorem dX2_blend_15 : decode cX2_blend 15 = .ok (.iload 4, 2) := by decide +kernel
theorem dX2_blend_17 : decode cX2_blend 17 = .ok (.i2l, 1) := by decide +kernel
theorem dX2_blend_18 : decode cX2_blend 18 = .ok (.aload_n 0, 1) := by decide +kernel
theorem dX2_blend_19 : decode cX2_blend 19 = .ok (.iload_n 2, 1) := by decide +kernel
theorem dX2_blend_20 : decode cX2_blend 20 = .ok (.iload 8, 2) := by decide +kernel
theorem dX2_blend_22 : decode cX2_blend 22 = .ok (.iadd, 1) := by decide +kernel
theorem dX2_blend_23 : decode cX2_blend 23 = .ok (.iaload, 1) := by decide +kernel
theorem dX2_blend_24 : decode cX2_blend 24 = .ok (.i2l, 1) := by decide +kernel
theorem dX2_blend_25 : decode cX2_blend 25 = .ok (.lmul, 1) := by decide +kernel
theorem dX2_blend_26 : decode cX2_blend 26 = .ok (.sipush 1000, 3) := by decide +kernel
theorem dX2_blend_29 : decode cX2_blend 29 = .ok (.iload 4, 2) := by decide +kernel
theorem dX2_blend_31 : decode cX2_blend 31 = .ok (.isub, 1) := by decide +kernel
theorem dX2_blend_32 : decode cX2_blend 32 = .ok (.i2l, 1) := by decide +kernel
theorem dX2_blend_33 : decode cX2_blend 33 = .ok (.aload_n 0, 1) := by decide +kernel
theorem dX2_blend_34 : decode cX2_blend 34 = .ok (.iload_n 3, 1) := by decide +kernel
theorem dX2_blend_35 : decode cX2_blend 35 = .ok (.iload 8, 2) := by decide +kernel
theorem dX2_blend_37 : decode cX2_blend 37 = .ok (.iadd, 1) := by decide +kernel
theorem dX2_blend_38 : decode cX2_blend 38 = .ok (.iaload, 1) := by decide +kernel
theorem dX2_blend_39 : decode cX2_blend 39 = .ok (.i2l, 1) := by decide +kernel
theorem dX2_blend_40 : decode cX2_blend 40 = .ok (.lmul, 1) := by decide +kernel
theorem dX2_blend_41 : decode cX2_blend 41 = .ok (.ladd, 1) := by decide +kernel
theorem dX2_blend_42 : decode cX2_blend 42 = .ok (.ladd, 1) := by decide +kernel
theorem dX2_blend_43 : decode cX2_blend 43 = .ok (.lstore 6, 2) := by decide +kernel
theorem dX2_blend_45 : decode cX2_blend 45 = .ok (.aload_n 0, 1) := by decide +kernel
theorem dX2_blend_46 : decode cX2_blend 46 = .ok (.iload_n 1, 1) := by decide +kernel
theorem dX2_blend_47 : decode cX2_blend 47 = .ok (.iload 8, 2) := by decide +kernel
theorem dX2_blend_49 : decode cX2_blend 49 = .ok (.iadd, 1) := by decide +kernel
theorem dX2_blend_50 : decode cX2_blend 50 = .ok (.lload 6, 2) := by decide +kernel
theorem dX2_blend_52 : decode cX2_blend 52 = .ok (.ldc2_w 63, 3) := by decide +kernel
theorem dX2_blend_55 : decode cX2_blend 55 = .ok (.land, 1) := by decide +kernel
theorem dX2_blend_56 : decode cX2_blend 56 = .ok (.l2i, 1) := by decide +kernel
theorem dX2_blend_57 : decode cX2_blend 57 = .ok (.iastore, 1) := by decide +kernel
theorem dX2_blend_58 : decode cX2_blend 58 = .ok (.lload 6, 2) := by decide +kernel
theorem dX2_blend_60 : decode cX2_blend 60 = .ok (.bipush 30, 2) := by decide +kernel
theorem dX2_blend_62 : decode cX2_blend 62 = .ok (.lshr, 1) := by decide +kernel
theorem dX2_blend_63 : decode cX2_blend 63 = .ok (.lstore 6, 2) := by decide +kernel
theorem dX2_blend_65 : decode cX2_blend 65 = .ok (.iinc 8 1, 3) := by decide +kernel
theorem dX2_blend_68 : decode cX2_blend 68 = .ok (.goto (-62), 3) := by decide +kernel
theorem dX2_blend_71 : decode cX2_blend 71 = .ok (.iload 5, 2) := by decide +kernel
theorem dX2_blend_73 : decode cX2_blend 73 = .ok (.iconst 1, 1) := by decide +kernel
theorem dX2_blend_74 : decode cX2_blend 74 = .ok (.isub, 1) := by decide +kernel
theorem dX2_blend_75 : decode cX2_blend 75 = .ok (.istore 8, 2) := by decide +kernel
theorem dX2_blend_77 : decode cX2_blend 77 = .ok (.iload 8, 2) := by decide +kernel
theorem dX2_blend_79 : decode cX2_blend 79 = .ok (.ifCond .lt 45, 3) := by decide +kernel
theorem dX2_blend_82 : decode cX2_blend 82 = .ok (.lload 6, 2) := by decide +kernel
theorem dX2_blend_84 : decode cX2_blend 84 = .ok (.bipush 30, 2) := by decide +kernel
theorem dX2_blend_86 : decode cX2_blend 86 = .ok (.lshl, 1) := by decide +kernel
theorem dX2_blend_87 : decode cX2_blend 87 = .ok (.aload_n 0, 1) := by decide +kernel
theorem dX2_blend_88 : decode cX2_blend 88 = .ok (.iload_n 1, 1) := by decide +kernel
theorem dX2_blend_89 : decode cX2_blend 89 = .ok (.iload 8, 2) := by decide +kernel
theorem dX2_blend_91 : decode cX2_blend 91 = .ok (.iadd, 1) := by decide +kernel
theorem dX2_blend_92 : decode cX2_blend 92 = .ok (.iaload, 1) := by decide +kernel
theorem dX2_blend_93 : decode cX2_blend 93 = .ok (.i2l, 1) := by decide +kernel
theorem dX2_blend_94 : decode cX2_blend 94 = .ok (.ladd, 1) := by decide +kernel
theorem dX2_blend_95 : decode cX2_blend 95 = .ok (.lstore 6, 2) := by decide +kernel
theorem dX2_blend_97 : decode cX2_blend 97 = .ok (.aload_n 0, 1) := by decide +kernel
theorem dX2_blend_98 : decode cX2_blend 98 = .ok (.iload_n 1, 1) := by decide +kernel
theorem dX2_blend_99 : decode cX2_blend 99 = .ok (.iload 8, 2) := by decide +kernel
theorem dX2_blend_101 : decode cX2_blend 101 = .ok (.iadd, 1) := by decide +kernel
theorem dX2_blend_102 : decode cX2_blend 102 = .ok (.lload 6, 2) := by decide +kernel
theorem dX2_blend_104 : decode cX2_blend 104 = .ok (.ldc2_w 69, 3) := by decide +kernel
theorem dX2_blend_107 : decode cX2_blend 107 = .ok (.ldiv, 1) := by decide +kernel
theorem dX2_blend_108 : decode cX2_blend 108 = .ok (.l2i, 1) := by decide +kernel
theorem dX2_blend_109 : decode cX2_blend 109 = .ok (.iastore, 1) := by decide +kernel
theorem dX2_blend_110 : decode cX2_blend 110 = .ok (.lload 6, 2) := by decide +kernel
theorem dX2_blend_112 : decode cX2_blend 112 = .ok (.ldc2_w 69, 3) := by decide +kernel
theorem dX2_blend_115 : decode cX2_blend 115 = .ok (.lrem, 1) := by decide +kernel
theorem dX2_blend_116 : decode cX2_blend 116 = .ok (.lstore 6, 2) := by decide +kernel
theorem dX2_blend_118 : decode cX2_blend 118 = .ok (.iinc 8 (-1), 3) := by decide +kernel
theorem dX2_blend_121 : decode cX2_blend 121 = .ok (.goto (-44), 3) := by decide +kernel
theorem dX2_blend_124 : decode cX2_blend 124 = .ok (.return_, 1) := by decide +kernel
theorem dX2_compareRows_0 : decode cX2_compareRows 0 = .ok (.iload_n 3, 1) := by decide +kernel
theorem dX2_compareRows_1 : decode cX2_compareRows 1 = .ok (.iconst 1, 1) := by decide +kernel
theorem dX2_compareRows_2 : decode cX2_compareRows 2 = .ok (.isub, 1) := by decide +kernel
theorem dX2_compareRows_3 : decode cX2_compareRows 3 = .ok (.istore 4, 2) := by decide +kernel
theorem dX2_compareRows_5 : decode cX2_compareRows 5 = .ok (.iload 4, 2) := by decide +kernel
theorem dX2_compareRows_7 : decode cX2_compareRows 7 = .ok (.ifCond .lt 45, 3) := by decide +kernel
theorem dX2_compareRows_10 : decode cX2_compareRows 10 = .ok (.aload_n 0, 1) := by decide +kernel
theorem dX2_compareRows_11 : decode cX2_compareRows 11 = .ok (.iload_n 1, 1) := by decide +kernel
theorem dX2_compareRows_12 : decode cX2_compareRows 12 = .ok (.iload 4, 2) := by decide +kernel
theorem dX2_compareRows_14 : decode cX2_compareRows 14 = .ok (.iadd, 1) := by decide +kernel
theorem dX2_compareRows_15 : decode cX2_compareRows 15 = .ok (.iaload, 1) := by decide +kernel
theorem dX2_compareRows_16 : decode cX2_compareRows 16 = .ok (.aload_n 0, 1) := by decide +kernel
theorem dX2_compareRows_17 : decode cX2_compareRows 17 = .ok (.iload_n 2, 1) := by decide +kernel
theorem dX2_compareRows_18 : decode cX2_compareRows 18 = .ok (.iload 4, 2) := by decide +kernel
theorem dX2_compareRows_20 : decode cX2_compareRows 20 = .ok (.iadd, 1) := by decide +kernel
theorem dX2_compareRows_21 : decode cX2_compareRows 21 = .ok (.iaload, 1) := by decide +kernel
theorem dX2_compareRows_22 : decode cX2_compareRows 22 = .ok (.if_icmp .eq 24, 3) := by decide +kernel
theorem dX2_compareRows_25 : decode cX2_compareRows 25 = .ok (.aload_n 0, 1) := by decide +kernel
theorem dX2_compareRows_26 : decode cX2_compareRows 26 = .ok (.iload_n 1, 1) := by decide +kernel
theorem dX2_compareRows_27 : decode cX2_compareRows 27 = .ok (.iload 4, 2) := by decide +kernel
theorem dX2_compareRows_29 : decode cX2_compareRows 29 = .ok (.iadd, 1) := by decide +kernel
theorem dX2_compareRows_30 : decode cX2_compareRows 30 = .ok (.iaload, 1) := by decide +kernel
theorem dX2_compareRows_31 : decode cX2_compareRows 31 = .ok (.aload_n 0, 1) := by decide +kernel
theorem dX2_compareRows_32 : decode cX2_compareRows 32 = .ok (.iload_n 2, 1) := by decide +kernel
theorem dX2_compareRows_33 : decode cX2_compareRows 33 = .ok (.iload 4, 2) := by decide +kernel
theorem dX2_compareRows_35 : decode cX2_compareRows 35 = .ok (.iadd, 1) := by decide +kernel
theorem dX2_compareRows_36 : decode cX2_compareRows 36 = .ok (.iaload, 1) := by decide +kernel
theorem dX2_compareRows_37 : decode cX2_compareRows 37 = .ok (.if_icmp .ge 7, 3) := by decide +kernel
theorem dX2_compareRows_40 : decode cX2_compareRows 40 = .ok (.iconst (-1), 1) := by decide +kernel
theorem dX2_compareRows_41 : decode cX2_compareRows 41 = .ok (.goto 4, 3) := by decide +kernel
theorem dX2_compareRows_44 : decode cX2_compareRows 44 = .ok (.iconst 1, 1) := by decide +kernel
theorem dX2_compareRows_45 : decode cX2_compareRows 45 = .ok (.ireturn, 1) := by decide +kernel
theorem dX2_compareRows_46 : decode cX2_compareRows 46 = .ok (.iinc 4 (-1), 3) := by decide +kernel
theorem dX2_compareRows_49 : decode cX2_compareRows 49 = .ok (.goto (-44), 3) := by decide +kernel
theorem dX2_compareRows_52 : decode cX2_compareRows 52 = .ok (.iconst 0, 1) := by decide +kernel
theorem dX2_compareRows_53 : decode cX2_compareRows 53 = .ok (.ireturn, 1) := by decide +kernel
theorem dX2_subtract_0 : decode cX2_subtract 0 = .ok (.lconst 0, 1) := by decide +kernel
theorem dX2_subtract_1 : decode cX2_subtract 1 = .ok (.lstore 4, 2) := by decide +kernel
theorem dX2_subtract_3 : decode cX2_subtract 3 = .ok (.iconst 0, 1) := by decide +kernel
theorem dX2_subtract_4 : decode cX2_subtract 4 = .ok (.istore 6, 2) := by decide +kernel
theorem dX2_subtract_6 : decode cX2_subtract 6 = .ok (.iload 6, 2) := by decide +kernel
theorem dX2_subtract_8 : decode cX2_subtract 8 = .ok (.iload_n 3, 1) := by decide +kernel
theorem dX2_subtract_9 : decode cX2_subtract 9 = .ok (.if_icmp .ge 44, 3) := by decide +kernel
theorem dX2_subtract_12 : decode cX2_subtract 12 = .ok (.lload 4, 2) := by decide +kernel
theorem dX2_subtract_14 : decode cX2_subtract 14 = .ok (.aload_n 0, 1) := by decide +kernel
theorem dX2_subtract_15 : decode cX2_subtract 15 = .ok (.iload 6, 2) := by decide +kernel
theorem dX2_subtract_17 : decode cX2_subtract 17 = .ok (.iaload, 1) := by decide +kernel
theorem dX2_subtract_18 : decode cX2_subtract 18 = .ok (.aload_n 1, 1) := by decide +kernel
theorem dX2_subtract_19 : decode cX2_subtract 19 = .ok (.iload_n 2, 1) := by decide +kernel
theorem dX2_subtract_20 : decode cX2_subtract 20 = .ok (.iload 6, 2) := by decide +kernel
theorem dX2_subtract_22 : decode cX2_subtract 22 = .ok (.iadd, 1) := by decide +kernel
theorem dX2_subtract_23 : decode cX2_subtract 23 = .ok (.iaload, 1) := by decide +kernel
theorem dX2_subtract_24 : decode cX2_subtract 24 = .ok (.isub, 1) := by decide +kernel
theorem dX2_subtract_25 : decode cX2_subtract 25 = .ok (.i2l, 1) := by decide +kernel
theorem dX2_subtract_26 : decode cX2_subtract 26 = .ok (.ladd, 1) := by decide +kernel
theorem dX2_subtract_27 : decode cX2_subtract 27 = .ok (.lstore 4, 2) := by decide +kernel
theorem dX2_subtract_29 : decode cX2_subtract 29 = .ok (.aload_n 0, 1) := by decide +kernel
theorem dX2_subtract_30 : decode cX2_subtract 30 = .ok (.iload 6, 2) := by decide +kernel
theorem dX2_subtract_32 : decode cX2_subtract 32 = .ok (.lload 4, 2) := by decide +kernel
theorem dX2_subtract_34 : decode cX2_subtract 34 = .ok (.ldc2_w 63, 3) := by decide +kernel
theorem dX2_subtract_37 : decode cX2_subtract 37 = .ok (.land, 1) := by decide +kernel
theorem dX2_subtract_38 : decode cX2_subtract 38 = .ok (.l2i, 1) := by decide +kernel
theorem dX2_subtract_39 : decode cX2_subtract 39 = .ok (.iastore, 1) := by decide +kernel
theorem dX2_subtract_40 : decode cX2_subtract 40 = .ok (.lload 4, 2) := by decide +kernel
theorem dX2_subtract_42 : decode cX2_subtract 42 = .ok (.bipush 30, 2) := by decide +kernel
theorem dX2_subtract_44 : decode cX2_subtract 44 = .ok (.lshr, 1) := by decide +kernel
theorem dX2_subtract_45 : decode cX2_subtract 45 = .ok (.lstore 4, 2) := by decide +kernel
theorem dX2_subtract_47 : decode cX2_subtract 47 = .ok (.iinc 6 1, 3) := by decide +kernel
theorem dX2_subtract_50 : decode cX2_subtract 50 = .ok (.goto (-44), 3) := by decide +kernel
theorem dX2_subtract_53 : decode cX2_subtract 53 = .ok (.return_, 1) := by decide +kernel
theorem dX2_wipe_0 : decode cX2_wipe 0 = .ok (.iconst 0, 1) := by decide +kernel
theorem dX2_wipe_1 : decode cX2_wipe 1 = .ok (.istore_n 3, 1) := by decide +kernel
theorem dX2_wipe_2 : decode cX2_wipe 2 = .ok (.iload_n 3, 1) := by decide +kernel
theorem dX2_wipe_3 : decode cX2_wipe 3 = .ok (.iload_n 2, 1) := by decide +kernel
theorem dX2_wipe_4 : decode cX2_wipe 4 = .ok (.if_icmp .ge 15, 3) := by decide +kernel
theorem dX2_wipe_7 : decode cX2_wipe 7 = .ok (.aload_n 0, 1) := by decide +kernel
theorem dX2_wipe_8 : decode cX2_wipe 8 = .ok (.iload_n 1, 1) := by decide +kernel
theorem dX2_wipe_9 : decode cX2_wipe 9 = .ok (.iload_n 3, 1) := by decide +kernel
theorem dX2_wipe_10 : decode cX2_wipe 10 = .ok (.iadd, 1) := by decide +kernel
theorem dX2_wipe_11 : decode cX2_wipe 11 = .ok (.iconst 0, 1) := by decide +kernel
theorem dX2_wipe_12 : decode cX2_wipe 12 = .ok (.iastore, 1) := by decide +kernel
theorem dX2_wipe_13 : decode cX2_wipe 13 = .ok (.iinc 3 1, 3) := by decide +kernel
theorem dX2_wipe_16 : decode cX2_wipe 16 = .ok (.goto (-14), 3) := by decide +kernel
theorem dX2_wipe_19 : decode cX2_wipe 19 = .ok (.return_, 1) := by decide +kernel
theorem dX2_grown_0 : decode cX2_grown 0 = .ok (.aload_n 0, 1) := by decide +kernel
theorem dX2_grown_1 : decode cX2_grown 1 = .ok (.arraylength, 1) := by decide +kernel
theorem dX2_grown_2 : decode cX2_grown 2 = .ok (.iload_n 1, 1) := by decide +kernel
theorem dX2_grown_3 : decode cX2_grown 3 = .ok (.if_icmp .lt 7, 3) := by decide +kernel
theorem dX2_grown_6 : decode cX2_grown 6 = .ok (.aload_n 0, 1) := by decide +kernel
theorem dX2_grown_7 : decode cX2_grown 7 = .ok (.goto 13, 3) := by decide +kernel
theorem dX2_grown_10 : decode cX2_grown 10 = .ok (.iload_n 1, 1) := by decide +kernel
theorem dX2_grown_11 : decode cX2_grown 11 = .ok (.iconst 2, 1) := by decide +kernel
theorem dX2_grown_12 : decode cX2_grown 12 = .ok (.aload_n 0, 1) := by decide +kernel
theorem dX2_grown_13 : decode cX2_grown 13 = .ok (.arraylength, 1) := by decide +kernel
theorem dX2_grown_14 : decode cX2_grown 14 = .ok (.imul, 1) := by decide +kernel
theorem dX2_grown_15 : decode cX2_grown 15 = .ok (.invokestatic 71, 3) := by decide +kernel
theorem dX2_grown_18 : decode cX2_grown 18 = .ok (.newarray .int, 2) := by decide +kernel
theorem dX2_grown_20 : decode cX2_grown 20 = .ok (.areturn, 1) := by decide +kernel
theorem dX3_hire_0 : decode cX3_hire 0 = .ok (.aload_n 0, 1) := by decide +kernel
theorem dX3_hire_1 : decode cX3_hire 1 = .ok (.getfield 15, 3) := by decide +kernel
theorem dX3_hire_4 : decode cX3_hire 4 = .ok (.bipush 6, 2) := by decide +kernel
theorem dX3_hire_6 : decode cX3_hire 6 = .ok (.if_icmp .lt 5, 3) := by decide +kernel
theorem dX3_hire_9 : decode cX3_hire 9 = .ok (.iconst 0, 1) := by decide +kernel
theorem dX3_hire_10 : decode cX3_hire 10 = .ok (.ireturn, 1) := by decide +kernel
theorem dX3_hire_11 : decode cX3_hire 11 = .ok (.aload_n 0, 1) := by decide +kernel
theorem dX3_hire_12 : decode cX3_hire 12 = .ok (.getfield 11, 3) := by decide +kernel
theorem dX3_hire_15 : decode cX3_hire 15 = .ok (.aload_n 0, 1) := by decide +kernel
theorem dX3_hire_16 : decode cX3_hire 16 = .ok (.getfield 15, 3) := by decide +kernel
theorem dX3_hire_19 : decode cX3_hire 19 = .ok (.bipush 16, 2) := by decide +kernel
theorem dX3_hire_21 : decode cX3_hire 21 = .ok (.imul, 1) := by decide +kernel
theorem dX3_hire_22 : decode cX3_hire 22 = .ok (.bipush 16, 2) := by decide +kernel
theorem dX3_hire_24 : decode cX3_hire 24 = .ok (.invokestatic 49, 3) := by decide +kernel
theorem dX3_hire_27 : decode cX3_hire 27 = .ok (.aload_n 0, 1) := by decide +kernel
theorem dX3_hire_28 : decode cX3_hire 28 = .ok (.dup, 1) := by decide +kernel
theorem dX3_hire_29 : decode cX3_hire 29 = .ok (.getfield 15, 3) := by decide +kernel
theorem dX3_hire_32 : decode cX3_hire 32 = .ok (.iconst 1, 1) := by decide +kernel
theorem dX3_hire_33 : decode cX3_hire 33 = .ok (.iadd, 1) := by decide +kernel
theorem dX3_hire_34 : decode cX3_hire 34 = .ok (.putfield 15, 3) := by decide +kernel
theorem dX3_hire_37 : decode cX3_hire 37 = .ok (.iconst 1, 1) := by decide +kernel
theorem dX3_hire_38 : decode cX3_hire 38 = .ok (.ireturn, 1) := by decide +kernel
theorem dX3_catchOf_0 : decode cX3_catchOf 0 = .ok (.aload_n 0, 1) := by decide +kernel
theorem dX3_catchOf_1 : decode cX3_catchOf 1 = .ok (.getfield 11, 3) := by decide +kernel
theorem dX3_catchOf_4 : decode cX3_catchOf 4 = .ok (.iload_n 1, 1) := by decide +kernel
theorem dX3_catchOf_5 : decode cX3_catchOf 5 = .ok (.bipush 16, 2) := by decide +kernel
theorem dX3_catchOf_7 : decode cX3_catchOf 7 = .ok (.imul, 1) := by decide +kernel
theorem dX3_catchOf_8 : decode cX3_catchOf 8 = .ok (.iload_n 2, 1) := by decide +kernel
theorem dX3_catchOf_9 : decode cX3_catchOf 9 = .ok (.iadd, 1) := by decide +kernel
theorem dX3_catchOf_10 : decode cX3_catchOf 10 = .ok (.iaload, 1) := by decide +kernel
theorem dX3_catchOf_11 : decode cX3_catchOf 11 = .ok (.ireturn, 1) := by decide +kernel
theorem dX3_putCatch_0 : decode cX3_putCatch 0 = .ok (.aload_n 0, 1) := by decide +kernel
theorem dX3_putCatch_1 : decode cX3_putCatch 1 = .ok (.getfield 11, 3) := by decide +kernel
theorem dX3_putCatch_4 : decode cX3_putCatch 4 = .ok (.iload_n 1, 1) := by decide +kernel
theorem dX3_putCatch_5 : decode cX3_putCatch 5 = .ok (.bipush 16, 2) := by decide +kernel
theorem dX3_putCatch_7 : decode cX3_putCatch 7 = .ok (.imul, 1) := by decide +kernel
theorem dX3_putCatch_8 : decode cX3_putCatch 8 = .ok (.iload_n 2, 1) := by decide +kernel
theorem dX3_putCatch_9 : decode cX3_putCatch 9 = .ok (.iadd, 1) := by decide +kernel
theorem dX3_putCatch_10 : decode cX3_putCatch 10 = .ok (.iload_n 3, 1) := by decide +kernel
theorem dX3_putCatch_11 : decode cX3_putCatch 11 = .ok (.iastore, 1) := by decide +kernel
theorem dX3_putCatch_12 : decode cX3_putCatch 12 = .ok (.return_, 1) := by decide +kernel
theorem dX3_play_0 : decode cX3_play 0 = .ok (.aload_n 0, 1) := by decide +kernel
theorem dX3_play_1 : decode cX3_play 1 = .ok (.invokevirtual 55, 3) := by decide +kernel
theorem dX3_play_4 : decode cX3_play 4 = .ok (.iconst 0, 1) := by decide +kernel
theorem dX3_play_5 : decode cX3_play 5 = .ok (.istore_n 1, 1) := by decide +kernel
theorem dX3_play_6 : decode cX3_play 6 = .ok (.iload_n 1, 1) := by decide +kernel
theorem dX3_play_7 : decode cX3_play 7 = .ok (.ldc 58, 2) := by decide +kernel
theorem dX3_play_9 : decode cX3_play 9 = .ok (.if_icmp .ge 40, 3) := by decide +kernel
theorem dX3_play_12 : decode cX3_play 12 = .ok (.aload_n 0, 1) := by decide +kernel
theorem dX3_play_13 : decode cX3_play 13 = .ok (.invokevirtual 59, 3) := by decide +kernel
theorem dX3_play_16 : decode cX3_play 16 = .ok (.istore_n 2, 1) := by decide +kernel
theorem dX3_play_17 : decode cX3_play 17 = .ok (.iload_n 2, 1) := by decide +kernel
theorem dX3_play_18 : decode cX3_play 18 = .ok (.ifCond .ge 6, 3) := by decide +kernel
theorem dX3_play_21 : decode cX3_play 21 = .ok (.goto 28, 3) := by decide +kernel
theorem dX3_play_24 : decode cX3_play 24 = .ok (.aload_n 0, 1) := by decide +kernel
theorem dX3_play_25 : decode cX3_play 25 = .ok (.iload_n 2, 1) := by decide +kernel
theorem dX3_play_26 : decode cX3_play 26 = .ok (.invokevirtual 63, 3) := by decide +kernel
theorem dX3_play_29 : decode cX3_play 29 = .ok (.istore_n 3, 1) := by decide +kernel
theorem dX3_play_30 : decode cX3_play 30 = .ok (.iload_n 3, 1) := by decide +kernel
theorem dX3_play_31 : decode cX3_play 31 = .ok (.ifCond .ge 6, 3) := by decide +kernel
theorem dX3_play_34 : decode cX3_play 34 = .ok (.goto 15, 3) := by decide +kernel
theorem dX3_play_37 : decode cX3_play 37 = .ok (.aload_n 0, 1) := by decide +kernel
theorem dX3_play_38 : decode cX3_play 38 = .ok (.iload_n 3, 1) := by decide +kernel
theorem dX3_play_39 : decode cX3_play 39 = .ok (.iload_n 2, 1) := by decide +kernel
theorem dX3_play_40 : decode cX3_play 40 = .ok (.invokevirtual 67, 3) := by decide +kernel
theorem dX3_play_43 : decode cX3_play 43 = .ok (.iinc 1 1, 3) := by decide +kernel
theorem dX3_play_46 : decode cX3_play 46 = .ok (.goto (-40), 3) := by decide +kernel
theorem dX3_play_49 : decode cX3_play 49 = .ok (.aload_n 0, 1) := by decide +kernel
theorem dX3_play_50 : decode cX3_play 50 = .ok (.getfield 19, 3) := by decide +kernel
theorem dX3_play_53 : decode cX3_play 53 = .ok (.aload_n 0, 1) := by decide +kernel
theorem dX3_play_54 : decode cX3_play 54 = .ok (.getfield 15, 3) := by decide +kernel
theorem dX3_play_57 : decode cX3_play 57 = .ok (.aload_n 0, 1) := by decide +kernel
theorem dX3_play_58 : decode cX3_play 58 = .ok (.getfield 32, 3) := by decide +kernel
theorem dX3_play_61 : decode cX3_play 61 = .ok (.imul, 1) := by decide +kernel
theorem dX3_play_62 : decode cX3_play 62 = .ok (.aload_n 0, 1) := by decide +kernel
theorem dX3_play_63 : decode cX3_play 63 = .ok (.getfield 29, 3) := by decide +kernel
theorem dX3_play_66 : decode cX3_play 66 = .ok (.iadd, 1) := by decide +kernel
theorem dX3_play_67 : decode cX3_play 67 = .ok (.laload, 1) := by decide +kernel
theorem dX3_play_68 : decode cX3_play 68 = .ok (.lstore_n 1, 1) := by decide +kernel
theorem dX3_play_69 : decode cX3_play 69 = .ok (.aload_n 0, 1) := by decide +kernel
theorem dX3_play_70 : decode cX3_play 70 = .ok (.lload_n 1, 1) := by decide +kernel
theorem dX3_play_71 : decode cX3_play 71 = .ok (.lconst 0, 1) := by decide +kernel
theorem dX3_play_72 : decode cX3_play 72 = .ok (.lcmp, 1) := by decide +kernel
theorem dX3_play_73 : decode cX3_play 73 = .ok (.ifCond .le 12, 3) := by decide +kernel
theorem dX3_play_76 : decode cX3_play 76 = .ok (.aload_n 0, 1) := by decide +kernel
theorem dX3_play_77 : decode cX3_play 77 = .ok (.getfield 35, 3) := by decide +kernel
theorem dX3_play_80 : decode cX3_play 80 = .ok (.lload_n 1, 1) := by decide +kernel
theorem dX3_play_81 : decode cX3_play 81 = .ok (.lsub, 1) := by decide +kernel
theorem dX3_play_82 : decode cX3_play 82 = .ok (.goto 4, 3) := by decide +kernel
theorem dX3_play_85 : decode cX3_play 85 = .ok (.lconst 0, 1) := by decide +kernel
theorem dX3_play_86 : decode cX3_play 86 = .ok (.putfield 39, 3) := by decide +kernel
theorem dX3_play_89 : decode cX3_play 89 = .ok (.aload_n 0, 1) := by decide +kernel
theorem dX3_play_90 : decode cX3_play 90 = .ok (.lload_n 1, 1) := by decide +kernel
theorem dX3_play_91 : decode cX3_play 91 = .ok (.lconst 0, 1) := by decide +kernel
theorem dX3_play_92 : decode cX3_play 92 = .ok (.lcmp, 1) := by decide +kernel
theorem dX3_play_93 : decode cX3_play 93 = .ok (.ifCond .le 7, 3) := by decide +kernel
theorem dX3_play_96 : decode cX3_play 96 = .ok (.lload_n 1, 1) := by decide +kernel
theorem dX3_play_97 : decode cX3_play 97 = .ok (.goto 4, 3) := by decide +kernel
theorem dX3_play_100 : decode cX3_play 100 = .ok (.lconst 1, 1) := by decide +kernel
theorem dX3_play_101 : decode cX3_play 101 = .ok (.putfield 42, 3) := by decide +kernel
theorem dX3_play_104 : decode cX3_play 104 = .ok (.return_, 1) := by decide +kernel
theorem dX3_layOut_0 : decode cX3_layOut 0 = .ok (.aload_n 0, 1) := by decide +kernel
theorem dX3_layOut_1 : decode cX3_layOut 1 = .ok (.aload_n 0, 1) := by decide +kernel
theorem dX3_layOut_2 : decode cX3_layOut 2 = .ok (.getfield 45, 3) := by decide +kernel
theorem dX3_layOut_5 : decode cX3_layOut 5 = .ok (.getfield 71, 3) := by decide +kernel
theorem dX3_layOut_8 : decode cX3_layOut 8 = .ok (.bipush 24, 2) := by decide +kernel
theorem dX3_layOut_10 : decode cX3_layOut 10 = .ok (.invokestatic 74, 3) := by decide +kernel
theorem dX3_layOut_13 : decode cX3_layOut 13 = .ok (.putfield 29, 3) := by decide +kernel
theorem dX3_layOut_16 : decode cX3_layOut 16 = .ok (.aload_n 0, 1) := by decide +kernel
theorem dX3_layOut_17 : decode cX3_layOut 17 = .ok (.aload_n 0, 1) := by decide +kernel
theorem dX3_layOut_18 : decode cX3_layOut 18 = .ok (.getfield 29, 3) := by decide +kernel
theorem dX3_layOut_21 : decode cX3_layOut 21 = .ok (.iconst 1, 1) := by decide +kernel
theorem dX3_layOut_22 : decode cX3_layOut 22 = .ok (.iadd, 1) := by decide +kernel
theorem dX3_layOut_23 : decode cX3_layOut 23 = .ok (.putfield 32, 3) := by decide +kernel
theorem dX3_layOut_26 : decode cX3_layOut 26 = .ok (.aload_n 0, 1) := by decide +kernel
theorem dX3_layOut_27 : decode cX3_layOut 27 = .ok (.lconst 1, 1) := by decide +kernel
theorem dX3_layOut_28 : decode cX3_layOut 28 = .ok (.putfield 35, 3) := by decide +kernel
theorem dX3_layOut_31 : decode cX3_layOut 31 = .ok (.iconst 0, 1) := by decide +kernel
theorem dX3_layOut_32 : decode cX3_layOut 32 = .ok (.istore_n 1, 1) := by decide +kernel
theorem dX3_layOut_33 : decode cX3_layOut 33 = .ok (.iload_n 1, 1) := by decide +kernel
theorem dX3_layOut_34 : decode cX3_layOut 34 = .ok (.aload_n 0, 1) := by decide +kernel
theorem dX3_layOut_35 : decode cX3_layOut 35 = .ok (.getfield 15, 3) := by decide +kernel
theorem dX3_layOut_38 : decode cX3_layOut 38 = .ok (.if_icmp .ge 84, 3) := by decide +kernel
theorem dX3_layOut_41 : decode cX3_layOut 41 = .ok (.aload_n 0, 1) := by decide +kernel
theorem dX3_layOut_42 : decode cX3_layOut 42 = .ok (.getfield 23, 3) := by decide +kernel
theorem dX3_layOut_45 : decode cX3_layOut 45 = .ok (.iload_n 1, 1) := by decide +kernel
theorem dX3_layOut_46 : decode cX3_layOut 46 = .ok (.aload_n 0, 1) := by decide +kernel
theorem dX3_layOut_47 : decode cX3_layOut 47 = .ok (.getfield 29, 3) := by decide +kernel
theorem dX3_layOut_50 : decode cX3_layOut 50 = .ok (.iload_n 1, 1) := by decide +kernel
theorem dX3_layOut_51 : decode cX3_layOut 51 = .ok (.iadd, 1) := by decide +kernel
theorem dX3_layOut_52 : decode cX3_layOut 52 = .ok (.iastore, 1) := by decide +kernel
theorem dX3_layOut_53 : decode cX3_layOut 53 = .ok (.iconst 0, 1) := by decide +kernel
theorem dX3_layOut_54 : decode cX3_layOut 54 = .ok (.istore_n 2, 1) := by decide +kernel
theorem dX3_layOut_55 : decode cX3_layOut 55 = .ok (.iload_n 2, 1) := by decide +kernel
theorem dX3_layOut_56 : decode cX3_layOut 56 = .ok (.aload_n 0, 1) := by decide +kernel
theorem dX3_layOut_57 : decode cX3_layOut 57 = .ok (.getfield 29, 3) := by decide +kernel
theorem dX3_layOut_60 : decode cX3_layOut 60 = .ok (.if_icmp .ge 39, 3) := by decide +kernel
theorem dX3_layOut_63 : decode cX3_layOut 63 = .ok (.aload_n 0, 1) := by decide +kernel
theorem dX3_layOut_64 : decode cX3_layOut 64 = .ok (.getfield 19, 3) := by decide +kernel
theorem dX3_layOut_67 : decode cX3_layOut 67 = .ok (.iload_n 1, 1) := by decide +kernel
theorem dX3_layOut_68 : decode cX3_layOut 68 = .ok (.aload_n 0, 1) := by decide +kernel
theorem dX3_layOut_69 : decode cX3_layOut 69 = .ok (.getfield 32, 3) := by decide +kernel
theorem dX3_layOut_72 : decode cX3_layOut 72 = .ok (.imul, 1) := by decide +kernel
theorem dX3_layOut_73 : decode cX3_layOut 73 = .ok (.iload_n 2, 1) := by decide +kernel
theorem dX3_layOut_74 : decode cX3_layOut 74 = .ok (.iadd, 1) := by decide +kernel
theorem dX3_layOut_75 : decode cX3_layOut 75 = .ok (.iconst 1, 1) := by decide +kernel
theorem dX3_layOut_76 : decode cX3_layOut 76 = .ok (.aload_n 0, 1) := by decide +kernel
theorem dX3_layOut_77 : decode cX3_layOut 77 = .ok (.iload_n 1, 1) := by decide +kernel
theorem dX3_layOut_78 : decode cX3_layOut 78 = .ok (.aload_n 0, 1) := by decide +kernel
theorem dX3_layOut_79 : decode cX3_layOut 79 = .ok (.getfield 45, 3) := by decide +kernel
theorem dX3_layOut_82 : decode cX3_layOut 82 = .ok (.getfield 80, 3) := by decide +kernel
theorem dX3_layOut_85 : decode cX3_layOut 85 = .ok (.iload_n 2, 1) := by decide +kernel
theorem dX3_layOut_86 : decode cX3_layOut 86 = .ok (.iaload, 1) := by decide +kernel
theorem dX3_layOut_87 : decode cX3_layOut 87 = .ok (.invokevirtual 83, 3) := by decide +kernel
theorem dX3_layOut_90 : decode cX3_layOut 90 = .ok (.iadd, 1) := by decide +kernel
theorem dX3_layOut_91 : decode cX3_layOut 91 = .ok (.i2l, 1) := by decide +kernel
theorem dX3_layOut_92 : decode cX3_layOut 92 = .ok (.lastore, 1) := by decide +kernel
theorem dX3_layOut_93 : decode cX3_layOut 93 = .ok (.iinc 2 1, 3) := by decide +kernel
theorem dX3_layOut_96 : decode cX3_layOut 96 = .ok (.goto (-41), 3) := by decide +kernel
theorem dX3_layOut_99 : decode cX3_layOut 99 = .ok (.aload_n 0, 1) := by decide +kernel
theorem dX3_layOut_100 : decode cX3_layOut 100 = .ok (.getfield 19, 3) := by decide +kernel
theorem dX3_layOut_103 : decode cX3_layOut 103 = .ok (.iload_n 1, 1) := by decide +kernel
theorem dX3_layOut_104 : decode cX3_layOut 104 = .ok (.aload_n 0, 1) := by decide +kernel
theorem dX3_layOut_105 : decode cX3_layOut 105 = .ok (.getfield 32, 3) := by decide +kernel
theorem dX3_layOut_108 : decode cX3_layOut 108 = .ok (.imul, 1) := by decide +kernel
theorem dX3_layOut_109 : decode cX3_layOut 109 = .ok (.aload_n 0, 1) := by decide +kernel
theorem dX3_layOut_110 : decode cX3_layOut 110 = .ok (.getfield 29, 3) := by decide +kernel
theorem dX3_layOut_113 : decode cX3_layOut 113 = .ok (.iadd, 1) := by decide +kernel
theorem dX3_layOut_114 : decode cX3_layOut 114 = .ok (.lconst 1, 1) := by decide +kernel
theorem dX3_layOut_115 : decode cX3_layOut 115 = .ok (.lastore, 1) := by decide +kernel
theorem dX3_layOut_116 : decode cX3_layOut 116 = .ok (.iinc 1 1, 3) := by decide +kernel
theorem dX3_layOut_119 : decode cX3_layOut 119 = .ok (.goto (-86), 3) := by decide +kernel
theorem dX3_layOut_122 : decode cX3_layOut 122 = .ok (.iconst 0, 1) := by decide +kernel
theorem dX3_layOut_123 : decode cX3_layOut 123 = .ok (.istore_n 1, 1) := by decide +kernel
theorem dX3_layOut_124 : decode cX3_layOut 124 = .ok (.iload_n 1, 1) := by decide +kernel
theorem dX3_layOut_125 : decode cX3_layOut 125 = .ok (.aload_n 0, 1) := by decide +kernel
theorem dX3_layOut_126 : decode cX3_layOut 126 = .ok (.getfield 29, 3) := by decide +kernel
theorem dX3_layOut_129 : decode cX3_layOut 129 = .ok (.if_icmp .ge 35, 3) := by decide +kernel
theorem dX3_layOut_132 : decode cX3_layOut 132 = .ok (.aload_n 0, 1) := by decide +kernel
theorem dX3_layOut_133 : decode cX3_layOut 133 = .ok (.getfield 26, 3) := by decide +kernel
theorem dX3_layOut_136 : decode cX3_layOut 136 = .ok (.iload_n 1, 1) := by decide +kernel
theorem dX3_layOut_137 : decode cX3_layOut 137 = .ok (.iload_n 1, 1) := by decide +kernel
theorem dX3_layOut_138 : decode cX3_layOut 138 = .ok (.iastore, 1) := by decide +kernel
theorem dX3_layOut_139 : decode cX3_layOut 139 = .ok (.aload_n 0, 1) := by decide +kernel
theorem dX3_layOut_140 : decode cX3_layOut 140 = .ok (.getfield 19, 3) := by decide +kernel
theorem dX3_layOut_143 : decode cX3_layOut 143 = .ok (.aload_n 0, 1) := by decide +kernel
theorem dX3_layOut_144 : decode cX3_layOut 144 = .ok (.getfield 15, 3) := by decide +kernel
theorem dX3_layOut_147 : decode cX3_layOut 147 = .ok (.aload_n 0, 1) := by decide +kernel
theorem dX3_layOut_148 : decode cX3_layOut 148 = .ok (.getfield 32, 3) := by decide +kernel
theorem dX3_layOut_151 : decode cX3_layOut 151 = .ok (.imul, 1) := by decide +kernel
theorem dX3_layOut_152 : decode cX3_layOut 152 = .ok (.iload_n 1, 1) := by decide +kernel
theorem dX3_layOut_153 : decode cX3_layOut 153 = .ok (.iadd, 1) := by decide +kernel
theorem dX3_layOut_154 : decode cX3_layOut 154 = .ok (.ldc2_w 86, 3) := by decide +kernel
theorem dX3_layOut_157 : decode cX3_layOut 157 = .ok (.lastore, 1) := by decide +kernel
theorem dX3_layOut_158 : decode cX3_layOut 158 = .ok (.iinc 1 1, 3) := by decide +kernel
theorem dX3_layOut_161 : decode cX3_layOut 161 = .ok (.goto (-37), 3) := by decide +kernel
theorem dX3_layOut_164 : decode cX3_layOut 164 = .ok (.aload_n 0, 1) := by decide +kernel
theorem dX3_layOut_165 : decode cX3_layOut 165 = .ok (.getfield 19, 3) := by decide +kernel
theorem dX3_layOut_168 : decode cX3_layOut 168 = .ok (.aload_n 0, 1) := by decide +kernel
theorem dX3_layOut_169 : decode cX3_layOut 169 = .ok (.getfield 15, 3) := by decide +kernel
theorem dX3_layOut_172 : decode cX3_layOut 172 = .ok (.aload_n 0, 1) := by decide +kernel
theorem dX3_layOut_173 : decode cX3_layOut 173 = .ok (.getfield 32, 3) := by decide +kernel
theorem dX3_layOut_176 : decode cX3_layOut 176 = .ok (.imul, 1) := by decide +kernel
theorem dX3_layOut_177 : decode cX3_layOut 177 = .ok (.aload_n 0, 1) := by decide +kernel
theorem dX3_layOut_178 : decode cX3_layOut 178 = .ok (.getfield 29, 3) := by decide +kernel
theorem dX3_layOut_181 : decode cX3_layOut 181 = .ok (.iadd, 1) := by decide +kernel
theorem dX3_layOut_182 : decode cX3_layOut 182 = .ok (.lconst 0, 1) := by decide +kernel
theorem dX3_layOut_183 : decode cX3_layOut 183 = .ok (.lastore, 1) := by decide +kernel
theorem dX3_layOut_184 : decode cX3_layOut 184 = .ok (.return_, 1) := by decide +kernel
theorem dX3_greatestCatch_0 : decode cX3_greatestCatch 0 = .ok (.iconst 0, 1) := by decide +kernel
theorem dX3_greatestCatch_1 : decode cX3_greatestCatch 1 = .ok (.istore_n 3, 1) := by decide +kernel
theorem dX3_greatestCatch_2 : decode cX3_greatestCatch 2 = .ok (.iconst 0, 1) := by decide +kernel
theorem dX3_greatestCatch_3 : decode cX3_greatestCatch 3 = .ok (.istore 4, 2) := by decide +kernel
theorem dX3_greatestCatch_5 : decode cX3_greatestCatch 5 = .ok (.iload 4, 2) := by decide +kernel
theorem dX3_greatestCatch_7 : decode cX3_greatestCatch 7 = .ok (.bipush 16, 2) := by decide +kernel
theorem dX3_greatestCatch_9 : decode cX3_greatestCatch 9 = .ok (.if_icmp .ge 31, 3) := by decide +kernel
theorem dX3_greatestCatch_12 : decode cX3_greatestCatch 12 = .ok (.iload_n 2, 1) := by decide +kernel
theorem dX3_greatestCatch_13 : decode cX3_greatestCatch 13 = .ok (.iload 4, 2) := by decide +kernel
theorem dX3_greatestCatch_15 : decode cX3_greatestCatch 15 = .ok (.ishr, 1) := by decide +kernel
theorem dX3_greatestCatch_16 : decode cX3_greatestCatch 16 = .ok (.iconst 1, 1) := by decide +kernel
theorem dX3_greatestCatch_17 : decode cX3_greatestCatch 17 = .ok (.iand, 1) := by decide +kernel
theorem dX3_greatestCatch_18 : decode cX3_greatestCatch 18 = .ok (.iconst 1, 1) := by decide +kernel
theorem dX3_greatestCatch_19 : decode cX3_greatestCatch 19 = .ok (.if_icmp .ne 15, 3) := by decide +kernel
theorem dX3_greatestCatch_22 : decode cX3_greatestCatch 22 = .ok (.iload_n 3, 1) := by decide +kernel
theorem dX3_greatestCatch_23 : decode cX3_greatestCatch 23 = .ok (.aload_n 0, 1) := by decide +kernel
theorem dX3_greatestCatch_24 : decode cX3_greatestCatch 24 = .ok (.iload_n 1, 1) := by decide +kernel
theorem dX3_greatestCatch_25 : decode cX3_greatestCatch 25 = .ok (.iload 4, 2) := by decide +kernel
theorem dX3_greatestCatch_27 : decode cX3_greatestCatch 27 = .ok (.invokevirtual 88, 3) := by decide +kernel
theorem dX3_greatestCatch_30 : decode cX3_greatestCatch 30 = .ok (.invokestatic 91, 3) := by decide +kernel
theorem dX3_greatestCatch_33 : decode cX3_greatestCatch 33 = .ok (.istore_n 3, 1) := by decide +kernel
theorem dX3_greatestCatch_34 : decode cX3_greatestCatch 34 = .ok (.iinc 4 1, 3) := by decide +kernel
theorem dX3_greatestCatch_37 : decode cX3_greatestCatch 37 = .ok (.goto (-32), 3) := by decide +kernel
theorem dX3_greatestCatch_40 : decode cX3_greatestCatch 40 = .ok (.iload_n 3, 1) := by decide +kernel
theorem dX3_greatestCatch_41 : decode cX3_greatestCatch 41 = .ok (.ireturn, 1) := by decide +kernel
theorem dX3_enteringColumn_0 : decode cX3_enteringColumn 0 = .ok (.iconst (-1), 1) := by decide +kernel
theorem dX3_enteringColumn_1 : decode cX3_enteringColumn 1 = .ok (.istore_n 1, 1) := by decide +kernel
theorem dX3_enteringColumn_2 : decode cX3_enteringColumn 2 = .ok (.iconst 0, 1) := by decide +kernel
theorem dX3_enteringColumn_3 : decode cX3_enteringColumn 3 = .ok (.istore_n 2, 1) := by decide +kernel
theorem dX3_enteringColumn_4 : decode cX3_enteringColumn 4 = .ok (.iload_n 2, 1) := by decide +kernel
theorem dX3_enteringColumn_5 : decode cX3_enteringColumn 5 = .ok (.aload_n 0, 1) := by decide +kernel
theorem dX3_enteringColumn_6 : decode cX3_enteringColumn 6 = .ok (.getfield 29, 3) := by decide +kernel
theorem dX3_enteringColumn_9 : decode cX3_enteringColumn 9 = .ok (.if_icmp .ge 54, 3) := by decide +kernel
theorem dX3_enteringColumn_12 : decode cX3_enteringColumn 12 = .ok (.aload_n 0, 1) := by decide +kernel
theorem dX3_enteringColumn_13 : decode cX3_enteringColumn 13 = .ok (.getfield 19, 3) := by decide +kernel
theorem dX3_enteringColumn_16 : decode cX3_enteringColumn 16 = .ok (.aload_n 0, 1) := by decide +kernel
theorem dX3_enteringColumn_17 : decode cX3_enteringColumn 17 = .ok (.getfield 15, 3) := by decide +kernel
theorem dX3_enteringColumn_20 : decode cX3_enteringColumn 20 = .ok (.aload_n 0, 1) := by decide +kernel
theorem dX3_enteringColumn_21 : decode cX3_enteringColumn 21 = .ok (.getfield 32, 3) := by decide +kernel
theorem dX3_enteringColumn_24 : decode cX3_enteringColumn 24 = .ok (.imul, 1) := by decide +kernel
theorem dX3_enteringColumn_25 : decode cX3_enteringColumn 25 = .ok (.iload_n 2, 1) := by decide +kernel
theorem dX3_enteringColumn_26 : decode cX3_enteringColumn 26 = .ok (.iadd, 1) := by decide +kernel
theorem dX3_enteringColumn_27 : decode cX3_enteringColumn 27 = .ok (.laload, 1) := by decide +kernel
theorem dX3_enteringColumn_28 : decode cX3_enteringColumn 28 = .ok (.lconst 0, 1) := by decide +kernel
theorem dX3_enteringColumn_29 : decode cX3_enteringColumn 29 = .ok (.lcmp, 1) := by decide +kernel
theorem dX3_enteringColumn_30 : decode cX3_enteringColumn 30 = .ok (.ifCond .lt 6, 3) := by decide +kernel
theorem dX3_enteringColumn_33 : decode cX3_enteringColumn 33 = .ok (.goto 24, 3) := by decide +kernel
theorem dX3_enteringColumn_36 : decode cX3_enteringColumn 36 = .ok (.iload_n 1, 1) := by decide +kernel
theorem dX3_enteringColumn_37 : decode cX3_enteringColumn 37 = .ok (.ifCond .lt 18, 3) := by decide +kernel
theorem dX3_enteringColumn_40 : decode cX3_enteringColumn 40 = .ok (.aload_n 0, 1) := by decide +kernel
theorem dX3_enteringColumn_41 : decode cX3_enteringColumn 41 = .ok (.getfield 26, 3) := by decide +kernel
theorem dX3_enteringColumn_44 : decode cX3_enteringColumn 44 = .ok (.iload_n 2, 1) := by decide +kernel
theorem dX3_enteringColumn_45 : decode cX3_enteringColumn 45 = .ok (.iaload, 1) := by decide +kernel
theorem dX3_enteringColumn_46 : decode cX3_enteringColumn 46 = .ok (.aload_n 0, 1) := by decide +kernel
theorem dX3_enteringColumn_47 : decode cX3_enteringColumn 47 = .ok (.getfield 26, 3) := by decide +kernel
theorem dX3_enteringColumn_50 : decode cX3_enteringColumn 50 = .ok (.iload_n 1, 1) := by decide +kernel
theorem dX3_enteringColumn_51 : decode cX3_enteringColumn 51 = .ok (.iaload, 1) := by decide +kernel
theorem dX3_enteringColumn_52 : decode cX3_enteringColumn 52 = .ok (.if_icmp .ge 5, 3) := by decide +kernel
theorem dX3_enteringColumn_55 : decode cX3_enteringColumn 55 = .ok (.iload_n 2, 1) := by decide +kernel
theorem dX3_enteringColumn_56 : decode cX3_enteringColumn 56 = .ok (.istore_n 1, 1) := by decide +kernel
theorem dX3_enteringColumn_57 : decode cX3_enteringColumn 57 = .ok (.iinc 2 1, 3) := by decide +kernel
theorem dX3_enteringColumn_60 : decode cX3_enteringColumn 60 = .ok (.goto (-56), 3) := by decide +kernel
theorem dX3_enteringColumn_63 : decode cX3_enteringColumn 63 = .ok (.iload_n 1, 1) := by decide +kernel
theorem dX3_enteringColumn_64 : decode cX3_enteringColumn 64 = .ok (.ireturn, 1) := by decide +kernel
theorem dX3_leavingRow_0 : decode cX3_leavingRow 0 = .ok (.iconst (-1), 1) := by decide +kernel
theorem dX3_leavingRow_1 : decode cX3_leavingRow 1 = .ok (.istore_n 2, 1) := by decide +kernel
theorem dX3_leavingRow_2 : decode cX3_leavingRow 2 = .ok (.iconst 0, 1) := by decide +kernel
theorem dX3_leavingRow_3 : decode cX3_leavingRow 3 = .ok (.istore_n 3, 1) := by decide +kernel
theorem dX3_leavingRow_4 : decode cX3_leavingRow 4 = .ok (.iload_n 3, 1) := by decide +kernel
theorem dX3_leavingRow_5 : decode cX3_leavingRow 5 = .ok (.aload_n 0, 1) := by decide +kernel
theorem dX3_leavingRow_6 : decode cX3_leavingRow 6 = .ok (.getfield 15, 3) := by decide +kernel
theorem dX3_leavingRow_9 : decode cX3_leavingRow 9 = .ok (.if_icmp .ge 43, 3) := by decide +kernel
theorem dX3_leavingRow_12 : decode cX3_leavingRow 12 = .ok (.aload_n 0, 1) := by decide +kernel
theorem dX3_leavingRow_13 : decode cX3_leavingRow 13 = .ok (.getfield 19, 3) := by decide +kernel
theorem dX3_leavingRow_16 : decode cX3_leavingRow 16 = .ok (.iload_n 3, 1) := by decide +kernel
theorem dX3_leavingRow_17 : decode cX3_leavingRow 17 = .ok (.aload_n 0, 1) := by decide +kernel
theorem dX3_leavingRow_18 : decode cX3_leavingRow 18 = .ok (.getfield 32, 3) := by decide +kernel
theorem dX3_leavingRow_21 : decode cX3_leavingRow 21 = .ok (.imul, 1) := by decide +kernel
theorem dX3_leavingRow_22 : decode cX3_leavingRow 22 = .ok (.iload_n 1, 1) := by decide +kernel
theorem dX3_leavingRow_23 : decode cX3_leavingRow 23 = .ok (.iadd, 1) := by decide +kernel
theorem dX3_leavingRow_24 : decode cX3_leavingRow 24 = .ok (.laload, 1) := by decide +kernel
theorem dX3_leavingRow_25 : decode cX3_leavingRow 25 = .ok (.lconst 0, 1) := by decide +kernel
theorem dX3_leavingRow_26 : decode cX3_leavingRow 26 = .ok (.lcmp, 1) := by decide +kernel
theorem dX3_leavingRow_27 : decode cX3_leavingRow 27 = .ok (.ifCond .le 19, 3) := by decide +kernel
theorem dX3_leavingRow_30 : decode cX3_leavingRow 30 = .ok (.iload_n 2, 1) := by decide +kernel
theorem dX3_leavingRow_31 : decode cX3_leavingRow 31 = .ok (.ifCond .lt 13, 3) := by decide +kernel
theorem dX3_leavingRow_34 : decode cX3_leavingRow 34 = .ok (.aload_n 0, 1) := by decide +kernel
theorem dX3_leavingRow_35 : decode cX3_leavingRow 35 = .ok (.iload_n 3, 1) := by decide +kernel
theorem dX3_leavingRow_36 : decode cX3_leavingRow 36 = .ok (.iload_n 2, 1) := by decide +kernel
theorem dX3_leavingRow_37 : decode cX3_leavingRow 37 = .ok (.iload_n 1, 1) := by decide +kernel
theorem dX3_leavingRow_38 : decode cX3_leavingRow 38 = .ok (.invokevirtual 94, 3) := by decide +kernel
theorem dX3_leavingRow_41 : decode cX3_leavingRow 41 = .ok (.ifCond .eq 5, 3) := by decide +kernel
theorem dX3_leavingRow_44 : decode cX3_leavingRow 44 = .ok (.iload_n 3, 1) := by decide +kernel
theorem dX3_leavingRow_45 : decode cX3_leavingRow 45 = .ok (.istore_n 2, 1) := by decide +kernel
theorem dX3_leavingRow_46 : decode cX3_leavingRow 46 = .ok (.iinc 3 1, 3) := by decide +kernel
theorem dX3_leavingRow_49 : decode cX3_leavingRow 49 = .ok (.goto (-45), 3) := by decide +kernel
theorem dX3_leavingRow_52 : decode cX3_leavingRow 52 = .ok (.iload_n 2, 1) := by decide +kernel
theorem dX3_leavingRow_53 : decode cX3_leavingRow 53 = .ok (.ireturn, 1) := by decide +kernel
theorem dX3_isTighter_0 : decode cX3_isTighter 0 = .ok (.aload_n 0, 1) := by decide +kernel
theorem dX3_isTighter_1 : decode cX3_isTighter 1 = .ok (.getfield 19, 3) := by decide +kernel
theorem dX3_isTighter_4 : decode cX3_isTighter 4 = .ok (.iload_n 1, 1) := by decide +kernel
theorem dX3_isTighter_5 : decode cX3_isTighter 5 = .ok (.aload_n 0, 1) := by decide +kernel
theorem dX3_isTighter_6 : decode cX3_isTighter 6 = .ok (.getfield 32, 3) := by decide +kernel
theorem dX3_isTighter_9 : decode cX3_isTighter 9 = .ok (.imul, 1) := by decide +kernel
theorem dX3_isTighter_10 : decode cX3_isTighter 10 = .ok (.aload_n 0, 1) := by decide +kernel
theorem dX3_isTighter_11 : decode cX3_isTighter 11 = .ok (.getfield 29, 3) := by decide +kernel
theorem dX3_isTighter_14 : decode cX3_isTighter 14 = .ok (.iadd, 1) := by decide +kernel
theorem dX3_isTighter_15 : decode cX3_isTighter 15 = .ok (.laload, 1) := by decide +kernel
theorem dX3_isTighter_16 : decode cX3_isTighter 16 = .ok (.lstore 4, 2) := by decide +kernel
theorem dX3_isTighter_18 : decode cX3_isTighter 18 = .ok (.aload_n 0, 1) := by decide +kernel
theorem dX3_isTighter_19 : decode cX3_isTighter 19 = .ok (.getfield 19, 3) := by decide +kernel
theorem dX3_isTighter_22 : decode cX3_isTighter 22 = .ok (.iload_n 2, 1) := by decide +kernel
theorem dX3_isTighter_23 : decode cX3_isTighter 23 = .ok (.aload_n 0, 1) := by decide +kernel
theorem dX3_isTighter_24 : decode cX3_isTighter 24 = .ok (.getfield 32, 3) := by decide +kernel
theorem dX3_isTighter_27 : decode cX3_isTighter 27 = .ok (.imul, 1) := by decide +kernel
theorem dX3_isTighter_28 : decode cX3_isTighter 28 = .ok (.iload_n 3, 1) := by decide +kernel
theorem dX3_isTighter_29 : decode cX3_isTighter 29 = .ok (.iadd, 1) := by decide +kernel
theorem dX3_isTighter_30 : decode cX3_isTighter 30 = .ok (.laload, 1) := by decide +kernel
theorem dX3_isTighter_31 : decode cX3_isTighter 31 = .ok (.lstore 6, 2) := by decide +kernel
theorem dX3_isTighter_33 : decode cX3_isTighter 33 = .ok (.aload_n 0, 1) := by decide +kernel
theorem dX3_isTighter_34 : decode cX3_isTighter 34 = .ok (.getfield 19, 3) := by decide +kernel
theorem dX3_isTighter_37 : decode cX3_isTighter 37 = .ok (.iload_n 2, 1) := by decide +kernel
theorem dX3_isTighter_38 : decode cX3_isTighter 38 = .ok (.aload_n 0, 1) := by decide +kernel
theorem dX3_isTighter_39 : decode cX3_isTighter 39 = .ok (.getfield 32, 3) := by decide +kernel
theorem dX3_isTighter_42 : decode cX3_isTighter 42 = .ok (.imul, 1) := by decide +kernel
theorem dX3_isTighter_43 : decode cX3_isTighter 43 = .ok (.aload_n 0, 1) := by decide +kernel
theorem dX3_isTighter_44 : decode cX3_isTighter 44 = .ok (.getfield 29, 3) := by decide +kernel
theorem dX3_isTighter_47 : decode cX3_isTighter 47 = .ok (.iadd, 1) := by decide +kernel
theorem dX3_isTighter_48 : decode cX3_isTighter 48 = .ok (.laload, 1) := by decide +kernel
theorem dX3_isTighter_49 : decode cX3_isTighter 49 = .ok (.lstore 8, 2) := by decide +kernel
theorem dX3_isTighter_51 : decode cX3_isTighter 51 = .ok (.aload_n 0, 1) := by decide +kernel
theorem dX3_isTighter_52 : decode cX3_isTighter 52 = .ok (.getfield 19, 3) := by decide +kernel
theorem dX3_isTighter_55 : decode cX3_isTighter 55 = .ok (.iload_n 1, 1) := by decide +kernel
theorem dX3_isTighter_56 : decode cX3_isTighter 56 = .ok (.aload_n 0, 1) := by decide +kernel
theorem dX3_isTighter_57 : decode cX3_isTighter 57 = .ok (.getfield 32, 3) := by decide +kernel
theorem dX3_isTighter_60 : decode cX3_isTighter 60 = .ok (.imul, 1) := by decide +kernel
theorem dX3_isTighter_61 : decode cX3_isTighter 61 = .ok (.iload_n 3, 1) := by decide +kernel
theorem dX3_isTighter_62 : decode cX3_isTighter 62 = .ok (.iadd, 1) := by decide +kernel
theorem dX3_isTighter_63 : decode cX3_isTighter 63 = .ok (.laload, 1) := by decide +kernel
theorem dX3_isTighter_64 : decode cX3_isTighter 64 = .ok (.lstore 10, 2) := by decide +kernel
theorem dX3_isTighter_66 : decode cX3_isTighter 66 = .ok (.lload 4, 2) := by decide +kernel
theorem dX3_isTighter_68 : decode cX3_isTighter 68 = .ok (.lload 6, 2) := by decide +kernel
theorem dX3_isTighter_70 : decode cX3_isTighter 70 = .ok (.lload 8, 2) := by decide +kernel
theorem dX3_isTighter_72 : decode cX3_isTighter 72 = .ok (.lload 10, 2) := by decide +kernel
theorem dX3_isTighter_74 : decode cX3_isTighter 74 = .ok (.invokestatic 98, 3) := by decide +kernel
theorem dX3_isTighter_77 : decode cX3_isTighter 77 = .ok (.lstore 12, 2) := by decide +kernel
theorem dX3_isTighter_79 : decode cX3_isTighter 79 = .ok (.lload 12, 2) := by decide +kernel
theorem dX3_isTighter_81 : decode cX3_isTighter 81 = .ok (.lconst 0, 1) := by decide +kernel
theorem dX3_isTighter_82 : decode cX3_isTighter 82 = .ok (.lcmp, 1) := by decide +kernel
theorem dX3_isTighter_83 : decode cX3_isTighter 83 = .ok (.ifCond .eq 16, 3) := by decide +kernel
theorem dX3_isTighter_86 : decode cX3_isTighter 86 = .ok (.lload 12, 2) := by decide +kernel
theorem dX3_isTighter_88 : decode cX3_isTighter 88 = .ok (.lconst 0, 1) := by decide +kernel
theorem dX3_isTighter_89 : decode cX3_isTighter 89 = .ok (.lcmp, 1) := by decide +kernel
theorem dX3_isTighter_90 : decode cX3_isTighter 90 = .ok (.ifCond .ge 7, 3) := by decide +kernel
theorem dX3_isTighter_93 : decode cX3_isTighter 93 = .ok (.iconst 1, 1) := by decide +kernel
theorem dX3_isTighter_94 : decode cX3_isTighter 94 = .ok (.goto 4, 3) := by decide +kernel
theorem dX3_isTighter_97 : decode cX3_isTighter 97 = .ok (.iconst 0, 1) := by decide +kernel
theorem dX3_isTighter_98 : decode cX3_isTighter 98 = .ok (.ireturn, 1) := by decide +kernel
theorem dX3_isTighter_99 : decode cX3_isTighter 99 = .ok (.lload 4, 2) := by decide +kernel
theorem dX3_isTighter_101 : decode cX3_isTighter 101 = .ok (.lload 6, 2) := by decide +kernel
theorem dX3_isTighter_103 : decode cX3_isTighter 103 = .ok (.lmul, 1) := by decide +kernel
theorem dX3_isTighter_104 : decode cX3_isTighter 104 = .ok (.lload 8, 2) := by decide +kernel
theorem dX3_isTighter_106 : decode cX3_isTighter 106 = .ok (.lload 10, 2) := by decide +kernel
theorem dX3_isTighter_108 : decode cX3_isTighter 108 = .ok (.lmul, 1) := by decide +kernel
theorem dX3_isTighter_109 : decode cX3_isTighter 109 = .ok (.lcmp, 1) := by decide +kernel
theorem dX3_isTighter_110 : decode cX3_isTighter 110 = .ok (.ifCond .ne 22, 3) := by decide +kernel
theorem dX3_isTighter_113 : decode cX3_isTighter 113 = .ok (.aload_n 0, 1) := by decide +kernel
theorem dX3_isTighter_114 : decode cX3_isTighter 114 = .ok (.getfield 23, 3) := by decide +kernel
theorem dX3_isTighter_117 : decode cX3_isTighter 117 = .ok (.iload_n 1, 1) := by decide +kernel
theorem dX3_isTighter_118 : decode cX3_isTighter 118 = .ok (.iaload, 1) := by decide +kernel
theorem dX3_isTighter_119 : decode cX3_isTighter 119 = .ok (.aload_n 0, 1) := by decide +kernel
theorem dX3_isTighter_120 : decode cX3_isTighter 120 = .ok (.getfield 23, 3) := by decide +kernel
theorem dX3_isTighter_123 : decode cX3_isTighter 123 = .ok (.iload_n 2, 1) := by decide +kernel
theorem dX3_isTighter_124 : decode cX3_isTighter 124 = .ok (.iaload, 1) := by decide +kernel
theorem dX3_isTighter_125 : decode cX3_isTighter 125 = .ok (.if_icmp .ge 7, 3) := by decide +kernel
theorem dX3_isTighter_128 : decode cX3_isTighter 128 = .ok (.iconst 1, 1) := by decide +kernel
theorem dX3_isTighter_129 : decode cX3_isTighter 129 = .ok (.goto 4, 3) := by decide +kernel
theorem dX3_isTighter_132 : decode cX3_isTighter 132 = .ok (.iconst 0, 1) := by decide +kernel
theorem dX3_isTighter_133 : decode cX3_isTighter 133 = .ok (.ireturn, 1) := by decide +kernel
theorem dX3_turn_0 : decode cX3_turn 0 = .ok (.aload_n 0, 1) := by decide +kernel
theorem dX3_turn_1 : decode cX3_turn 1 = .ok (.getfield 19, 3) := by decide +kernel
theorem dX3_turn_4 : decode cX3_turn 4 = .ok (.iload_n 1, 1) := by decide +kernel
theorem dX3_turn_5 : decode cX3_turn 5 = .ok (.aload_n 0, 1) := by decide +kernel
theorem dX3_turn_6 : decode cX3_turn 6 = .ok (.getfield 32, 3) := by decide +kernel
theorem dX3_turn_9 : decode cX3_turn 9 = .ok (.imul, 1) := by decide +kernel
theorem dX3_turn_10 : decode cX3_turn 10 = .ok (.iload_n 2, 1) := by decide +kernel
theorem dX3_turn_11 : decode cX3_turn 11 = .ok (.iadd, 1) := by decide +kernel
theorem dX3_turn_12 : decode cX3_turn 12 = .ok (.laload, 1) := by decide +kernel
theorem dX3_turn_13 : decode cX3_turn 13 = .ok (.lstore_n 3, 1) := by decide +kernel
theorem dX3_turn_14 : decode cX3_turn 14 = .ok (.aload_n 0, 1) := by decide +kernel
theorem dX3_turn_15 : decode cX3_turn 15 = .ok (.getfield 35, 3) := by decide +kernel
theorem dX3_turn_18 : decode cX3_turn 18 = .ok (.aload_n 0, 1) := by decide +kernel
theorem dX3_turn_19 : decode cX3_turn 19 = .ok (.getfield 35, 3) := by decide +kernel
theorem dX3_turn_22 : decode cX3_turn 22 = .ok (.lneg, 1) := by decide +kernel
theorem dX3_turn_23 : decode cX3_turn 23 = .ok (.land, 1) := by decide +kernel
theorem dX3_turn_24 : decode cX3_turn 24 = .ok (.lconst 1, 1) := by decide +kernel
theorem dX3_turn_25 : decode cX3_turn 25 = .ok (.lsub, 1) := by decide +kernel
theorem dX3_turn_26 : decode cX3_turn 26 = .ok (.invokestatic 102, 3) := by decide +kernel
theorem dX3_turn_29 : decode cX3_turn 29 = .ok (.istore 5, 2) := by decide +kernel
theorem dX3_turn_31 : decode cX3_turn 31 = .ok (.aload_n 0, 1) := by decide +kernel
theorem dX3_turn_32 : decode cX3_turn 32 = .ok (.getfield 35, 3) := by decide +kernel
theorem dX3_turn_35 : decode cX3_turn 35 = .ok (.iload 5, 2) := by decide +kernel
theorem dX3_turn_37 : decode cX3_turn 37 = .ok (.lshr, 1) := by decide +kernel
theorem dX3_turn_38 : decode cX3_turn 38 = .ok (.invokestatic 108, 3) := by decide +kernel
theorem dX3_turn_41 : decode cX3_turn 41 = .ok (.lstore 6, 2) := by decide +kernel
theorem dX3_turn_43 : decode cX3_turn 43 = .ok (.iconst 0, 1) := by decide +kernel
theorem dX3_turn_44 : decode cX3_turn 44 = .ok (.istore 8, 2) := by decide +kernel
theorem dX3_turn_46 : decode cX3_turn 46 = .ok (.iload 8, 2) := by decide +kernel
theorem dX3_turn_48 : decode cX3_turn 48 = .ok (.aload_n 0, 1) := by decide +kernel
theorem dX3_turn_49 : decode cX3_turn 49 = .ok (.getfield 15, 3) := by decide +kernel
theorem dX3_turn_52 : decode cX3_turn 52 = .ok (.if_icmp .gt 158, 3) := by decide +kernel
theorem dX3_turn_55 : decode cX3_turn 55 = .ok (.iload 8, 2) := by decide +kernel
theorem dX3_turn_57 : decode cX3_turn 57 = .ok (.iload_n 1, 1) := by decide +kernel
theorem dX3_turn_58 : decode cX3_turn 58 = .ok (.if_icmp .ne 6, 3) := by decide +kernel
theorem dX3_turn_61 : decode cX3_turn 61 = .ok (.goto 143, 3) := by decide +kernel
theorem dX3_turn_64 : decode cX3_turn 64 = .ok (.aload_n 0, 1) := by decide +kernel
theorem dX3_turn_65 : decode cX3_turn 65 = .ok (.getfield 19, 3) := by decide +kernel
theorem dX3_turn_68 : decode cX3_turn 68 = .ok (.iload 8, 2) := by decide +kernel
theorem dX3_turn_70 : decode cX3_turn 70 = .ok (.aload_n 0, 1) := by decide +kernel
theorem dX3_turn_71 : decode cX3_turn 71 = .ok (.getfield 32, 3) := by decide +kernel
theorem dX3_turn_74 : decode cX3_turn 74 = .ok (.imul, 1) := by decide +kernel
theorem dX3_turn_75 : decode cX3_turn 75 = .ok (.iload_n 2, 1) := by decide +kernel
theorem dX3_turn_76 : decode cX3_turn 76 = .ok (.iadd, 1) := by decide +kernel
theorem dX3_turn_77 : decode cX3_turn 77 = .ok (.laload, 1) := by decide +kernel
theorem dX3_turn_78 : decode cX3_turn 78 = .ok (.lstore 9, 2) := by decide +kernel
theorem dX3_turn_80 : decode cX3_turn 80 = .ok (.iconst 0, 1) := by decide +kernel
theorem dX3_turn_81 : decode cX3_turn 81 = .ok (.istore 11, 2) := by decide +kernel
theorem dX3_turn_83 : decode cX3_turn 83 = .ok (.iload 11, 2) := by decide +kernel
theorem dX3_turn_85 : decode cX3_turn 85 = .ok (.aload_n 0, 1) := by decide +kernel
theorem dX3_turn_86 : decode cX3_turn 86 = .ok (.getfield 29, 3) := by decide +kernel
theorem dX3_turn_89 : decode cX3_turn 89 = .ok (.if_icmp .gt 98, 3) := by decide +kernel
theorem dX3_turn_92 : decode cX3_turn 92 = .ok (.iload 11, 2) := by decide +kernel
theorem dX3_turn_94 : decode cX3_turn 94 = .ok (.iload_n 2, 1) := by decide +kernel
theorem dX3_turn_95 : decode cX3_turn 95 = .ok (.if_icmp .ne 6, 3) := by decide +kernel
theorem dX3_turn_98 : decode cX3_turn 98 = .ok (.goto 83, 3) := by decide +kernel
theorem dX3_turn_101 : decode cX3_turn 101 = .ok (.aload_n 0, 1) := by decide +kernel
theorem dX3_turn_102 : decode cX3_turn 102 = .ok (.getfield 19, 3) := by decide +kernel
theorem dX3_turn_105 : decode cX3_turn 105 = .ok (.iload 8, 2) := by decide +kernel
theorem dX3_turn_107 : decode cX3_turn 107 = .ok (.aload_n 0, 1) := by decide +kernel
theorem dX3_turn_108 : decode cX3_turn 108 = .ok (.getfield 32, 3) := by decide +kernel
theorem dX3_turn_111 : decode cX3_turn 111 = .ok (.imul, 1) := by decide +kernel
theorem dX3_turn_112 : decode cX3_turn 112 = .ok (.iload 11, 2) := by decide +kernel
theorem dX3_turn_114 : decode cX3_turn 114 = .ok (.iadd, 1) := by decide +kernel
theorem dX3_turn_115 : decode cX3_turn 115 = .ok (.laload, 1) := by decide +kernel
theorem dX3_turn_116 : decode cX3_turn 116 = .ok (.lstore 12, 2) := by decide +kernel
theorem dX3_turn_118 : decode cX3_turn 118 = .ok (.aload_n 0, 1) := by decide +kernel
theorem dX3_turn_119 : decode cX3_turn 119 = .ok (.getfield 19, 3) := by decide +kernel
theorem dX3_turn_122 : decode cX3_turn 122 = .ok (.iload_n 1, 1) := by decide +kernel
theorem dX3_turn_123 : decode cX3_turn 123 = .ok (.aload_n 0, 1) := by decide +kernel
theorem dX3_turn_124 : decode cX3_turn 124 = .ok (.getfield 32, 3) := by decide +kernel
theorem dX3_turn_127 : decode cX3_turn 127 = .ok (.imul, 1) := by decide +kernel
theorem dX3_turn_128 : decode cX3_turn 128 = .ok (.iload 11, 2) := by decide +kernel
theorem dX3_turn_130 : decode cX3_turn 130 = .ok (.iadd, 1) := by decide +kernel
theorem dX3_turn_131 : decode cX3_turn 131 = .ok (.laload, 1) := by decide +kernel
theorem dX3_turn_132 : decode cX3_turn 132 = .ok (.lstore 14, 2) := by decide +kernel
theorem dX3_turn_134 : decode cX3_turn 134 = .ok (.lload 12, 2) := by decide +kernel
theorem dX3_turn_136 : decode cX3_turn 136 = .ok (.lload_n 3, 1) := by decide +kernel
theorem dX3_turn_137 : decode cX3_turn 137 = .ok (.lload 9, 2) := by decide +kernel
theorem dX3_turn_139 : decode cX3_turn 139 = .ok (.lload 14, 2) := by decide +kernel
theorem dX3_turn_141 : decode cX3_turn 141 = .ok (.invokestatic 98, 3) := by decide +kernel
theorem dX3_turn_144 : decode cX3_turn 144 = .ok (.lstore 16, 2) := by decide +kernel
theorem dX3_turn_146 : decode cX3_turn 146 = .ok (.aload_n 0, 1) := by decide +kernel
theorem dX3_turn_147 : decode cX3_turn 147 = .ok (.getfield 19, 3) := by decide +kernel
theorem dX3_turn_150 : decode cX3_turn 150 = .ok (.iload 8, 2) := by decide +kernel
theorem dX3_turn_152 : decode cX3_turn 152 = .ok (.aload_n 0, 1) := by decide +kernel
theorem dX3_turn_153 : decode cX3_turn 153 = .ok (.getfield 32, 3) := by decide +kernel
theorem dX3_turn_156 : decode cX3_turn 156 = .ok (.imul, 1) := by decide +kernel
theorem dX3_turn_157 : decode cX3_turn 157 = .ok (.iload 11, 2) := by decide +kernel
theorem dX3_turn_159 : decode cX3_turn 159 = .ok (.iadd, 1) := by decide +kernel
theorem dX3_turn_160 : decode cX3_turn 160 = .ok (.lload 16, 2) := by decide +kernel
theorem dX3_turn_162 : decode cX3_turn 162 = .ok (.lload 12, 2) := by decide +kernel
theorem dX3_turn_164 : decode cX3_turn 164 = .ok (.lload_n 3, 1) := by decide +kernel
theorem dX3_turn_165 : decode cX3_turn 165 = .ok (.lmul, 1) := by decide +kernel
theorem dX3_turn_166 : decode cX3_turn 166 = .ok (.lload 9, 2) := by decide +kernel
theorem dX3_turn_168 : decode cX3_turn 168 = .ok (.lload 14, 2) := by decide +kernel
theorem dX3_turn_170 : decode cX3_turn 170 = .ok (.lmul, 1) := by decide +kernel
theorem dX3_turn_171 : decode cX3_turn 171 = .ok (.lsub, 1) := by decide +kernel
theorem dX3_turn_172 : decode cX3_turn 172 = .ok (.iload 5, 2) := by decide +kernel
theorem dX3_turn_174 : decode cX3_turn 174 = .ok (.invokestatic 112, 3) := by decide +kernel
theorem dX3_turn_177 : decode cX3_turn 177 = .ok (.lload 6, 2) := by decide +kernel
theorem dX3_turn_179 : decode cX3_turn 179 = .ok (.lmul, 1) := by decide +kernel
theorem dX3_turn_180 : decode cX3_turn 180 = .ok (.lastore, 1) := by decide +kernel
theorem dX3_turn_181 : decode cX3_turn 181 = .ok (.iinc 11 1, 3) := by decide +kernel
theorem dX3_turn_184 : decode cX3_turn 184 = .ok (.goto (-101), 3) := by decide +kernel
theorem dX3_turn_187 : decode cX3_turn 187 = .ok (.aload_n 0, 1) := by decide +kernel
theorem dX3_turn_188 : decode cX3_turn 188 = .ok (.getfield 19, 3) := by decide +kernel
theorem dX3_turn_191 : decode cX3_turn 191 = .ok (.iload 8, 2) := by decide +kernel
theorem dX3_turn_193 : decode cX3_turn 193 = .ok (.aload_n 0, 1) := by decide +kernel
theorem dX3_turn_194 : decode cX3_turn 194 = .ok (.getfield 32, 3) := by decide +kernel
theorem dX3_turn_197 : decode cX3_turn 197 = .ok (.imul, 1) := by decide +kernel
theorem dX3_turn_198 : decode cX3_turn 198 = .ok (.iload_n 2, 1) := by decide +kernel
theorem dX3_turn_199 : decode cX3_turn 199 = .ok (.iadd, 1) := by decide +kernel
theorem dX3_turn_200 : decode cX3_turn 200 = .ok (.lload 9, 2) := by decide +kernel
theorem dX3_turn_202 : decode cX3_turn 202 = .ok (.lneg, 1) := by decide +kernel
theorem dX3_turn_203 : decode cX3_turn 203 = .ok (.lastore, 1) := by decide +kernel
theorem dX3_turn_204 : decode cX3_turn 204 = .ok (.iinc 8 1, 3) := by decide +kernel
theorem dX3_turn_207 : decode cX3_turn 207 = .ok (.goto (-161), 3) := by decide +kernel
theorem dX3_turn_210 : decode cX3_turn 210 = .ok (.aload_n 0, 1) := by decide +kernel
theorem dX3_turn_211 : decode cX3_turn 211 = .ok (.getfield 19, 3) := by decide +kernel
theorem dX3_turn_214 : decode cX3_turn 214 = .ok (.iload_n 1, 1) := by decide +kernel
theorem dX3_turn_215 : decode cX3_turn 215 = .ok (.aload_n 0, 1) := by decide +kernel
theorem dX3_turn_216 : decode cX3_turn 216 = .ok (.getfield 32, 3) := by decide +kernel
theorem dX3_turn_219 : decode cX3_turn 219 = .ok (.imul, 1) := by decide +kernel
theorem dX3_turn_220 : decode cX3_turn 220 = .ok (.iload_n 2, 1) := by decide +kernel
theorem dX3_turn_221 : decode cX3_turn 221 = .ok (.iadd, 1) := by decide +kernel
theorem dX3_turn_222 : decode cX3_turn 222 = .ok (.aload_n 0, 1) := by decide +kernel
theorem dX3_turn_223 : decode cX3_turn 223 = .ok (.getfield 35, 3) := by decide +kernel
theorem dX3_turn_226 : decode cX3_turn 226 = .ok (.lastore, 1) := by decide +kernel
theorem dX3_turn_227 : decode cX3_turn 227 = .ok (.aload_n 0, 1) := by decide +kernel
theorem dX3_turn_228 : decode cX3_turn 228 = .ok (.lload_n 3, 1) := by decide +kernel
theorem dX3_turn_229 : decode cX3_turn 229 = .ok (.putfield 35, 3) := by decide +kernel
theorem dX3_turn_232 : decode cX3_turn 232 = .ok (.aload_n 0, 1) := by decide +kernel
theorem dX3_turn_233 : decode cX3_turn 233 = .ok (.getfield 23, 3) := by decide +kernel
theorem dX3_turn_236 : decode cX3_turn 236 = .ok (.iload_n 1, 1) := by decide +kernel
theorem dX3_turn_237 : decode cX3_turn 237 = .ok (.iaload, 1) := by decide +kernel
theorem dX3_turn_238 : decode cX3_turn 238 = .ok (.istore 8, 2) := by decide +kernel
theorem dX3_turn_240 : decode cX3_turn 240 = .ok (.aload_n 0, 1) := by decide +kernel
theorem dX3_turn_241 : decode cX3_turn 241 = .ok (.getfield 23, 3) := by decide +kernel
theorem dX3_turn_244 : decode cX3_turn 244 = .ok (.iload_n 1, 1) := by decide +kernel
theorem dX3_turn_245 : decode cX3_turn 245 = .ok (.aload_n 0, 1) := by decide +kernel
theorem dX3_turn_246 : decode cX3_turn 246 = .ok (.getfield 26, 3) := by decide +kernel
theorem dX3_turn_249 : decode cX3_turn 249 = .ok (.iload_n 2, 1) := by decide +kernel
theorem dX3_turn_250 : decode cX3_turn 250 = .ok (.iaload, 1) := by decide +kernel
theorem dX3_turn_251 : decode cX3_turn 251 = .ok (.iastore, 1) := by decide +kernel
theorem dX3_turn_252 : decode cX3_turn 252 = .ok (.aload_n 0, 1) := by decide +kernel
theorem dX3_turn_253 : decode cX3_turn 253 = .ok (.getfield 26, 3) := by decide +kernel
theorem dX3_turn_256 : decode cX3_turn 256 = .ok (.iload_n 2, 1) := by decide +kernel
theorem dX3_turn_257 : decode cX3_turn 257 = .ok (.iload 8, 2) := by decide +kernel
theorem dX3_turn_259 : decode cX3_turn 259 = .ok (.iastore, 1) := by decide +kernel
theorem dX3_turn_260 : decode cX3_turn 260 = .ok (.return_, 1) := by decide +kernel
theorem dX3_inverseOf_0 : decode cX3_inverseOf 0 = .ok (.lload_n 0, 1) := by decide +kernel
theorem dX3_inverseOf_1 : decode cX3_inverseOf 1 = .ok (.lstore_n 2, 1) := by decide +kernel
theorem dX3_inverseOf_2 : decode cX3_inverseOf 2 = .ok (.iconst 0, 1) := by decide +kernel
theorem dX3_inverseOf_3 : decode cX3_inverseOf 3 = .ok (.istore 4, 2) := by decide +kernel
theorem dX3_inverseOf_5 : decode cX3_inverseOf 5 = .ok (.iload 4, 2) := by decide +kernel
theorem dX3_inverseOf_7 : decode cX3_inverseOf 7 = .ok (.iconst 5, 1) := by decide +kernel
theorem dX3_inverseOf_8 : decode cX3_inverseOf 8 = .ok (.if_icmp .ge 19, 3) := by decide +kernel
theorem dX3_inverseOf_11 : decode cX3_inverseOf 11 = .ok (.lload_n 2, 1) := by decide +kernel
theorem dX3_inverseOf_12 : decode cX3_inverseOf 12 = .ok (.ldc2_w 116, 3) := by decide +kernel
theorem dX3_inverseOf_15 : decode cX3_inverseOf 15 = .ok (.lload_n 0, 1) := by decide +kernel
theorem dX3_inverseOf_16 : decode cX3_inverseOf 16 = .ok (.lload_n 2, 1) := by decide +kernel
theorem dX3_inverseOf_17 : decode cX3_inverseOf 17 = .ok (.lmul, 1) := by decide +kernel
theorem dX3_inverseOf_18 : decode cX3_inverseOf 18 = .ok (.lsub, 1) := by decide +kernel
theorem dX3_inverseOf_19 : decode cX3_inverseOf 19 = .ok (.lmul, 1) := by decide +kernel
theorem dX3_inverseOf_20 : decode cX3_inverseOf 20 = .ok (.lstore_n 2, 1) := by decide +kernel
theorem dX3_inverseOf_21 : decode cX3_inverseOf 21 = .ok (.iinc 4 1, 3) := by decide +kernel
theorem dX3_inverseOf_24 : decode cX3_inverseOf 24 = .ok (.goto (-19), 3) := by decide +kernel
theorem dX3_inverseOf_27 : decode cX3_inverseOf 27 = .ok (.lload_n 2, 1) := by decide +kernel
theorem dX3_inverseOf_28 : decode cX3_inverseOf 28 = .ok (.lreturn, 1) := by decide +kernel
theorem dX3_shifted_0 : decode cX3_shifted 0 = .ok (.iload 4, 2) := by decide +kernel
theorem dX3_shifted_2 : decode cX3_shifted 2 = .ok (.ifCond .ne 7, 3) := by decide +kernel
theorem dX3_shifted_5 : decode cX3_shifted 5 = .ok (.lload_n 2, 1) := by decide +kernel
theorem dX3_shifted_6 : decode cX3_shifted 6 = .ok (.goto 15, 3) := by decide +kernel
theorem dX3_shifted_9 : decode cX3_shifted 9 = .ok (.lload_n 2, 1) := by decide +kernel
theorem dX3_shifted_10 : decode cX3_shifted 10 = .ok (.iload 4, 2) := by decide +kernel
theorem dX3_shifted_12 : decode cX3_shifted 12 = .ok (.lushr, 1) := by decide +kernel
theorem dX3_shifted_13 : decode cX3_shifted 13 = .ok (.lload_n 0, 1) := by decide +kernel
theorem dX3_shifted_14 : decode cX3_shifted 14 = .ok (.bipush 64, 2) := by decide +kernel
theorem dX3_shifted_16 : decode cX3_shifted 16 = .ok (.iload 4, 2) := by decide +kernel
theorem dX3_shifted_18 : decode cX3_shifted 18 = .ok (.isub, 1) := by decide +kernel
theorem dX3_shifted_19 : decode cX3_shifted 19 = .ok (.lshl, 1) := by decide +kernel
theorem dX3_shifted_20 : decode cX3_shifted 20 = .ok (.lor, 1) := by decide +kernel
theorem dX3_shifted_21 : decode cX3_shifted 21 = .ok (.lreturn, 1) := by decide +kernel
theorem dX3_highOfDifference_0 : decode cX3_highOfDifference 0 = .ok (.lload_n 0, 1) := by decide +kernel
theorem dX3_highOfDifference_1 : decode cX3_highOfDifference 1 = .ok (.lload_n 2, 1) := by decide +kernel
theorem dX3_highOfDifference_2 : decode cX3_highOfDifference 2 = .ok (.lmul, 1) := by decide +kernel
theorem dX3_highOfDifference_3 : decode cX3_highOfDifference 3 = .ok (.ldc2_w 118, 3) := by decide +kernel
theorem dX3_highOfDifference_6 : decode cX3_highOfDifference 6 = .ok (.lxor, 1) := by decide +kernel
theorem dX3_highOfDifference_7 : decode cX3_highOfDifference 7 = .ok (.lload 4, 2) := by decide +kernel
theorem dX3_highOfDifference_9 : decode cX3_highOfDifference 9 = .ok (.lload 6, 2) := by decide +kernel
theorem dX3_highOfDifference_11 : decode cX3_highOfDifference 11 = .ok (.lmul, 1) := by decide +kernel
theorem dX3_highOfDifference_12 : decode cX3_highOfDifference 12 = .ok (.ldc2_w 118, 3) := by decide +kernel
theorem dX3_highOfDifference_15 : decode cX3_highOfDifference 15 = .ok (.lxor, 1) := by decide +kernel
theorem dX3_highOfDifference_16 : decode cX3_highOfDifference 16 = .ok (.lcmp, 1) := by decide +kernel
theorem dX3_highOfDifference_17 : decode cX3_highOfDifference 17 = .ok (.ifCond .ge 7, 3) := by decide +kernel
theorem dX3_highOfDifference_20 : decode cX3_highOfDifference 20 = .ok (.iconst 1, 1) := by decide +kernel
theorem dX3_highOfDifference_21 : decode cX3_highOfDifference 21 = .ok (.goto 4, 3) := by decide +kernel
theorem dX3_highOfDifference_24 : decode cX3_highOfDifference 24 = .ok (.iconst 0, 1) := by decide +kernel
theorem dX3_highOfDifference_25 : decode cX3_highOfDifference 25 = .ok (.istore 8, 2) := by decide +kernel
theorem dX3_highOfDifference_27 : decode cX3_highOfDifference 27 = .ok (.lload_n 0, 1) := by decide +kernel
theorem dX3_highOfDifference_28 : decode cX3_highOfDifference 28 = .ok (.lload_n 2, 1) := by decide +kernel
theorem dX3_highOfDifference_29 : decode cX3_highOfDifference 29 = .ok (.invokestatic 120, 3) := by decide +kernel
theorem dX3_highOfDifference_32 : decode cX3_highOfDifference 32 = .ok (.lload 4, 2) := by decide +kernel
theorem dX3_highOfDifference_34 : decode cX3_highOfDifference 34 = .ok (.lload 6, 2) := by decide +kernel
theorem dX3_highOfDifference_36 : decode cX3_highOfDifference 36 = .ok (.invokestatic 120, 3) := by decide +kernel
theorem dX3_highOfDifference_39 : decode cX3_highOfDifference 39 = .ok (.lsub, 1) := by decide +kernel
theorem dX3_highOfDifference_40 : decode cX3_highOfDifference 40 = .ok (.iload 8, 2) := by decide +kernel
theorem dX3_highOfDifference_42 : decode cX3_highOfDifference 42 = .ok (.ifCond .eq 7, 3) := by decide +kernel
theorem dX3_highOfDifference_45 : decode cX3_highOfDifference 45 = .ok (.iconst 1, 1) := by decide +kernel
theorem dX3_highOfDifference_46 : decode cX3_highOfDifference 46 = .ok (.goto 4, 3) := by decide +kernel
theorem dX3_highOfDifference_49 : decode cX3_highOfDifference 49 = .ok (.iconst 0, 1) := by decide +kernel
theorem dX3_highOfDifference_50 : decode cX3_highOfDifference 50 = .ok (.i2l, 1) := by decide +kernel
theorem dX3_highOfDifference_51 : decode cX3_highOfDifference 51 = .ok (.lsub, 1) := by decide +kernel
theorem dX3_highOfDifference_52 : decode cX3_highOfDifference 52 = .ok (.lreturn, 1) := by decide +kernel
theorem dX3_highOfProduct_0 : decode cX3_highOfProduct 0 = .ok (.ldc2_w 124, 3) := by decide +kernel
theorem dX3_highOfProduct_3 : decode cX3_highOfProduct 3 = .ok (.lstore 4, 2) := by decide +kernel
theorem dX3_highOfProduct_5 : decode cX3_highOfProduct 5 = .ok (.lload_n 0, 1) := by decide +kernel
theorem dX3_highOfProduct_6 : decode cX3_highOfProduct 6 = .ok (.lload 4, 2) := by decide +kernel
theorem dX3_highOfProduct_8 : decode cX3_highOfProduct 8 = .ok (.land, 1) := by decide +kernel
theorem dX3_highOfProduct_9 : decode cX3_highOfProduct 9 = .ok (.lload_n 2, 1) := by decide +kernel
theorem dX3_highOfProduct_10 : decode cX3_highOfProduct 10 = .ok (.lload 4, 2) := by decide +kernel
theorem dX3_highOfProduct_12 : decode cX3_highOfProduct 12 = .ok (.land, 1) := by decide +kernel
theorem dX3_highOfProduct_13 : decode cX3_highOfProduct 13 = .ok (.lmul, 1) := by decide +kernel
theorem dX3_highOfProduct_14 : decode cX3_highOfProduct 14 = .ok (.lstore 6, 2) := by decide +kernel
theorem dX3_highOfProduct_16 : decode cX3_highOfProduct 16 = .ok (.lload_n 0, 1) := by decide +kernel
theorem dX3_highOfProduct_17 : decode cX3_highOfProduct 17 = .ok (.bipush 32, 2) := by decide +kernel
theorem dX3_highOfProduct_19 : decode cX3_highOfProduct 19 = .ok (.lshr, 1) := by decide +kernel
theorem dX3_highOfProduct_20 : decode cX3_highOfProduct 20 = .ok (.lload_n 2, 1) := by decide +kernel
theorem dX3_highOfProduct_21 : decode cX3_highOfProduct 21 = .ok (.lload 4, 2) := by decide +kernel
theorem dX3_highOfProduct_23 : decode cX3_highOfProduct 23 = .ok (.land, 1) := by decide +kernel
theorem dX3_highOfProduct_24 : decode cX3_highOfProduct 24 = .ok (.lmul, 1) := by decide +kernel
theorem dX3_highOfProduct_25 : decode cX3_highOfProduct 25 = .ok (.lload 6, 2) := by decide +kernel
theorem dX3_highOfProduct_27 : decode cX3_highOfProduct 27 = .ok (.bipush 32, 2) := by decide +kernel
theorem dX3_highOfProduct_29 : decode cX3_highOfProduct 29 = .ok (.lushr, 1) := by decide +kernel
theorem dX3_highOfProduct_30 : decode cX3_highOfProduct 30 = .ok (.ladd, 1) := by decide +kernel
theorem dX3_highOfProduct_31 : decode cX3_highOfProduct 31 = .ok (.lstore 8, 2) := by decide +kernel
theorem dX3_highOfProduct_33 : decode cX3_highOfProduct 33 = .ok (.lload_n 0, 1) := by decide +kernel
theorem dX3_highOfProduct_34 : decode cX3_highOfProduct 34 = .ok (.lload 4, 2) := by decide +kernel
theorem dX3_highOfProduct_36 : decode cX3_highOfProduct 36 = .ok (.land, 1) := by decide +kernel
theorem dX3_highOfProduct_37 : decode cX3_highOfProduct 37 = .ok (.lload_n 2, 1) := by decide +kernel
theorem dX3_highOfProduct_38 : decode cX3_highOfProduct 38 = .ok (.bipush 32, 2) := by decide +kernel
theorem dX3_highOfProduct_40 : decode cX3_highOfProduct 40 = .ok (.lshr, 1) := by decide +kernel
theorem dX3_highOfProduct_41 : decode cX3_highOfProduct 41 = .ok (.lmul, 1) := by decide +kernel
theorem dX3_highOfProduct_42 : decode cX3_highOfProduct 42 = .ok (.lload 8, 2) := by decide +kernel
theorem dX3_highOfProduct_44 : decode cX3_highOfProduct 44 = .ok (.lload 4, 2) := by decide +kernel
theorem dX3_highOfProduct_46 : decode cX3_highOfProduct 46 = .ok (.land, 1) := by decide +kernel
theorem dX3_highOfProduct_47 : decode cX3_highOfProduct 47 = .ok (.ladd, 1) := by decide +kernel
theorem dX3_highOfProduct_48 : decode cX3_highOfProduct 48 = .ok (.lstore 10, 2) := by decide +kernel
theorem dX3_highOfProduct_50 : decode cX3_highOfProduct 50 = .ok (.lload_n 0, 1) := by decide +kernel
theorem dX3_highOfProduct_51 : decode cX3_highOfProduct 51 = .ok (.bipush 32, 2) := by decide +kernel
theorem dX3_highOfProduct_53 : decode cX3_highOfProduct 53 = .ok (.lshr, 1) := by decide +kernel
theorem dX3_highOfProduct_54 : decode cX3_highOfProduct 54 = .ok (.lload_n 2, 1) := by decide +kernel
theorem dX3_highOfProduct_55 : decode cX3_highOfProduct 55 = .ok (.bipush 32, 2) := by decide +kernel
theorem dX3_highOfProduct_57 : decode cX3_highOfProduct 57 = .ok (.lshr, 1) := by decide +kernel
theorem dX3_highOfProduct_58 : decode cX3_highOfProduct 58 = .ok (.lmul, 1) := by decide +kernel
theorem dX3_highOfProduct_59 : decode cX3_highOfProduct 59 = .ok (.lload 8, 2) := by decide +kernel
theorem dX3_highOfProduct_61 : decode cX3_highOfProduct 61 = .ok (.bipush 32, 2) := by decide +kernel
theorem dX3_highOfProduct_63 : decode cX3_highOfProduct 63 = .ok (.lshr, 1) := by decide +kernel
theorem dX3_highOfProduct_64 : decode cX3_highOfProduct 64 = .ok (.ladd, 1) := by decide +kernel
theorem dX3_highOfProduct_65 : decode cX3_highOfProduct 65 = .ok (.lload 10, 2) := by decide +kernel
theorem dX3_highOfProduct_67 : decode cX3_highOfProduct 67 = .ok (.bipush 32, 2) := by decide +kernel
theorem dX3_highOfProduct_69 : decode cX3_highOfProduct 69 = .ok (.lshr, 1) := by decide +kernel
theorem dX3_highOfProduct_70 : decode cX3_highOfProduct 70 = .ok (.ladd, 1) := by decide +kernel
theorem dX3_highOfProduct_71 : decode cX3_highOfProduct 71 = .ok (.lreturn, 1) := by decide +kernel
theorem dX3_mixInto_0 : decode cX3_mixInto 0 = .ok (.iconst 0, 1) := by decide +kernel
theorem dX3_mixInto_1 : decode cX3_mixInto 1 = .ok (.istore_n 3, 1) := by decide +kernel
theorem dX3_mixInto_2 : decode cX3_mixInto 2 = .ok (.iload_n 3, 1) := by decide +kernel
theorem dX3_mixInto_3 : decode cX3_mixInto 3 = .ok (.aload_n 0, 1) := by decide +kernel
theorem dX3_mixInto_4 : decode cX3_mixInto 4 = .ok (.getfield 15, 3) := by decide +kernel
theorem dX3_mixInto_7 : decode cX3_mixInto 7 = .ok (.bipush 16, 2) := by decide +kernel
theorem dX3_mixInto_9 : decode cX3_mixInto 9 = .ok (.imul, 1) := by decide +kernel
theorem dX3_mixInto_10 : decode cX3_mixInto 10 = .ok (.if_icmp .ge 23, 3) := by decide +kernel
theorem dX3_mixInto_13 : decode cX3_mixInto 13 = .ok (.ldc2_w 126, 3) := by decide +kernel
theorem dX3_mixInto_16 : decode cX3_mixInto 16 = .ok (.lload_n 1, 1) := by decide +kernel
theorem dX3_mixInto_17 : decode cX3_mixInto 17 = .ok (.lmul, 1) := by decide +kernel
theorem dX3_mixInto_18 : decode cX3_mixInto 18 = .ok (.aload_n 0, 1) := by decide +kernel
theorem dX3_mixInto_19 : decode cX3_mixInto 19 = .ok (.getfield 11, 3) := by decide +kernel
theorem dX3_mixInto_22 : decode cX3_mixInto 22 = .ok (.iload_n 3, 1) := by decide +kernel
theorem dX3_mixInto_23 : decode cX3_mixInto 23 = .ok (.iaload, 1) := by decide +kernel
theorem dX3_mixInto_24 : decode cX3_mixInto 24 = .ok (.i2l, 1) := by decide +kernel
theorem dX3_mixInto_25 : decode cX3_mixInto 25 = .ok (.ladd, 1) := by decide +kernel
theorem dX3_mixInto_26 : decode cX3_mixInto 26 = .ok (.lstore_n 1, 1) := by decide +kernel
theorem dX3_mixInto_27 : decode cX3_mixInto 27 = .ok (.iinc 3 1, 3) := by decide +kernel
theorem dX3_mixInto_30 : decode cX3_mixInto 30 = .ok (.goto (-28), 3) := by decide +kernel
theorem dX3_mixInto_33 : decode cX3_mixInto 33 = .ok (.lload_n 1, 1) := by decide +kernel
theorem dX3_mixInto_34 : decode cX3_mixInto 34 = .ok (.lreturn, 1) := by decide +kernel
theorem dX4_hire_0 : decode cX4_hire 0 = .ok (.aload_n 0, 1) := by decide +kernel
theorem dX4_hire_1 : decode cX4_hire 1 = .ok (.getfield 9, 3) := by decide +kernel
theorem dX4_hire_4 : decode cX4_hire 4 = .ok (.bipush 10, 2) := by decide +kernel
theorem dX4_hire_6 : decode cX4_hire 6 = .ok (.if_icmp .lt 5, 3) := by decide +kernel
theorem dX4_hire_9 : decode cX4_hire 9 = .ok (.iconst 0, 1) := by decide +kernel
theorem dX4_hire_10 : decode cX4_hire 10 = .ok (.ireturn, 1) := by decide +kernel
theorem dX4_hire_11 : decode cX4_hire 11 = .ok (.iconst 1, 1) := by decide +kernel
theorem dX4_hire_12 : decode cX4_hire 12 = .ok (.aload_n 0, 1) := by decide +kernel
theorem dX4_hire_13 : decode cX4_hire 13 = .ok (.getfield 9, 3) := by decide +kernel
theorem dX4_hire_16 : decode cX4_hire 16 = .ok (.ishl, 1) := by decide +kernel
theorem dX4_hire_17 : decode cX4_hire 17 = .ok (.istore_n 3, 1) := by decide +kernel
theorem dX4_hire_18 : decode cX4_hire 18 = .ok (.aload_n 0, 1) := by decide +kernel
theorem dX4_hire_19 : decode cX4_hire 19 = .ok (.aload_n 0, 1) := by decide +kernel
theorem dX4_hire_20 : decode cX4_hire 20 = .ok (.getfield 15, 3) := by decide +kernel
theorem dX4_hire_23 : decode cX4_hire 23 = .ok (.iconst 2, 1) := by decide +kernel
theorem dX4_hire_24 : decode cX4_hire 24 = .ok (.iload_n 3, 1) := by decide +kernel
theorem dX4_hire_25 : decode cX4_hire 25 = .ok (.imul, 1) := by decide +kernel
theorem dX4_hire_26 : decode cX4_hire 26 = .ok (.invokestatic 51, 3) := by decide +kernel
theorem dX4_hire_29 : decode cX4_hire 29 = .ok (.putfield 15, 3) := by decide +kernel
theorem dX4_hire_32 : decode cX4_hire 32 = .ok (.aload_n 0, 1) := by decide +kernel
theorem dX4_hire_33 : decode cX4_hire 33 = .ok (.aload_n 0, 1) := by decide +kernel
theorem dX4_hire_34 : decode cX4_hire 34 = .ok (.getfield 19, 3) := by decide +kernel
theorem dX4_hire_37 : decode cX4_hire 37 = .ok (.iconst 2, 1) := by decide +kernel
theorem dX4_hire_38 : decode cX4_hire 38 = .ok (.iload_n 3, 1) := by decide +kernel
theorem dX4_hire_39 : decode cX4_hire 39 = .ok (.imul, 1) := by decide +kernel
theorem dX4_hire_40 : decode cX4_hire 40 = .ok (.invokestatic 51, 3) := by decide +kernel
theorem dX4_hire_43 : decode cX4_hire 43 = .ok (.putfield 19, 3) := by decide +kernel
theorem dX4_hire_46 : decode cX4_hire 46 = .ok (.iconst 0, 1) := by decide +kernel
theorem dX4_hire_47 : decode cX4_hire 47 = .ok (.istore 4, 2) := by decide +kernel
theorem dX4_hire_49 : decode cX4_hire 49 = .ok (.iload 4, 2) := by decide +kernel
theorem dX4_hire_51 : decode cX4_hire 51 = .ok (.iload_n 3, 1) := by decide +kernel
theorem dX4_hire_52 : decode cX4_hire 52 = .ok (.if_icmp .ge 45, 3) := by decide +kernel
theorem dX4_hire_55 : decode cX4_hire 55 = .ok (.aload_n 0, 1) := by decide +kernel
theorem dX4_hire_56 : decode cX4_hire 56 = .ok (.getfield 15, 3) := by decide +kernel
theorem dX4_hire_59 : decode cX4_hire 59 = .ok (.iload_n 3, 1) := by decide +kernel
theorem dX4_hire_60 : decode cX4_hire 60 = .ok (.iload 4, 2) := by decide +kernel
theorem dX4_hire_62 : decode cX4_hire 62 = .ok (.iadd, 1) := by decide +kernel
theorem dX4_hire_63 : decode cX4_hire 63 = .ok (.aload_n 0, 1) := by decide +kernel
theorem dX4_hire_64 : decode cX4_hire 64 = .ok (.getfield 15, 3) := by decide +kernel
theorem dX4_hire_67 : decode cX4_hire 67 = .ok (.iload 4, 2) := by decide +kernel
theorem dX4_hire_69 : decode cX4_hire 69 = .ok (.iaload, 1) := by decide +kernel
theorem dX4_hire_70 : decode cX4_hire 70 = .ok (.iload_n 1, 1) := by decide +kernel
theorem dX4_hire_71 : decode cX4_hire 71 = .ok (.ior, 1) := by decide +kernel
theorem dX4_hire_72 : decode cX4_hire 72 = .ok (.iastore, 1) := by decide +kernel
theorem dX4_hire_73 : decode cX4_hire 73 = .ok (.aload_n 0, 1) := by decide +kernel
theorem dX4_hire_74 : decode cX4_hire 74 = .ok (.getfield 19, 3) := by decide +kernel
theorem dX4_hire_77 : decode cX4_hire 77 = .ok (.iload_n 3, 1) := by decide +kernel
theorem dX4_hire_78 : decode cX4_hire 78 = .ok (.iload 4, 2) := by decide +kernel
theorem dX4_hire_80 : decode cX4_hire 80 = .ok (.iadd, 1) := by decide +kernel
theorem dX4_hire_81 : decode cX4_hire 81 = .ok (.aload_n 0, 1) := by decide +kernel
theorem dX4_hire_82 : decode cX4_hire 82 = .ok (.getfield 19, 3) := by decide +kernel
theorem dX4_hire_85 : decode cX4_hire 85 = .ok (.iload 4, 2) := by decide +kernel
theorem dX4_hire_87 : decode cX4_hire 87 = .ok (.iaload, 1) := by decide +kernel
theorem dX4_hire_88 : decode cX4_hire 88 = .ok (.iload_n 2, 1) := by decide +kernel
theorem dX4_hire_89 : decode cX4_hire 89 = .ok (.iadd, 1) := by decide +kernel
theorem dX4_hire_90 : decode cX4_hire 90 = .ok (.iastore, 1) := by decide +kernel
theorem dX4_hire_91 : decode cX4_hire 91 = .ok (.iinc 4 1, 3) := by decide +kernel
theorem dX4_hire_94 : decode cX4_hire 94 = .ok (.goto (-45), 3) := by decide +kernel
theorem dX4_hire_97 : decode cX4_hire 97 = .ok (.aload_n 0, 1) := by decide +kernel
theorem dX4_hire_98 : decode cX4_hire 98 = .ok (.dup, 1) := by decide +kernel
theorem dX4_hire_99 : decode cX4_hire 99 = .ok (.getfield 9, 3) := by decide +kernel
theorem dX4_hire_102 : decode cX4_hire 102 = .ok (.iconst 1, 1) := by decide +kernel
theorem dX4_hire_103 : decode cX4_hire 103 = .ok (.iadd, 1) := by decide +kernel
theorem dX4_hire_104 : decode cX4_hire 104 = .ok (.putfield 9, 3) := by decide +kernel
theorem dX4_hire_107 : decode cX4_hire 107 = .ok (.aload_n 0, 1) := by decide +kernel
theorem dX4_hire_108 : decode cX4_hire 108 = .ok (.invokevirtual 57, 3) := by decide +kernel
theorem dX4_hire_111 : decode cX4_hire 111 = .ok (.iconst 1, 1) := by decide +kernel
theorem dX4_hire_112 : decode cX4_hire 112 = .ok (.ireturn, 1) := by decide +kernel
theorem dX4_forgetFront_0 : decode cX4_forgetFront 0 = .ok (.aload_n 0, 1) := by decide +kernel
theorem dX4_forgetFront_1 : decode cX4_forgetFront 1 = .ok (.iconst (-1), 1) := by decide +kernel
theorem dX4_forgetFront_2 : decode cX4_forgetFront 2 = .ok (.putfield 34, 3) := by decide +kernel
theorem dX4_forgetFront_5 : decode cX4_forgetFront 5 = .ok (.return_, 1) := by decide +kernel
theorem dX4_leastHolding_0 : decode cX4_leastHolding 0 = .ok (.aload_n 0, 1) := by decide +kernel
theorem dX4_leastHolding_1 : decode cX4_leastHolding 1 = .ok (.getfield 43, 3) := by decide +kernel
theorem dX4_leastHolding_4 : decode cX4_leastHolding 4 = .ok (.iload_n 1, 1) := by decide +kernel
theorem dX4_leastHolding_5 : decode cX4_leastHolding 5 = .ok (.invokevirtual 60, 3) := by decide +kernel
theorem dX4_leastHolding_8 : decode cX4_leastHolding 8 = .ok (.iconst (-1), 1) := by decide +kernel
theorem dX4_leastHolding_9 : decode cX4_leastHolding 9 = .ok (.istore_n 2, 1) := by decide +kernel
theorem dX4_leastHolding_10 : decode cX4_leastHolding 10 = .ok (.iconst 0, 1) := by decide +kernel
theorem dX4_leastHolding_11 : decode cX4_leastHolding 11 = .ok (.istore_n 3, 1) := by decide +kernel
theorem dX4_leastHolding_12 : decode cX4_leastHolding 12 = .ok (.iload_n 3, 1) := by decide +kernel
theorem dX4_leastHolding_13 : decode cX4_leastHolding 13 = .ok (.iconst 1, 1) := by decide +kernel
theorem dX4_leastHolding_14 : decode cX4_leastHolding 14 = .ok (.aload_n 0, 1) := by decide +kernel
theorem dX4_leastHolding_15 : decode cX4_leastHolding 15 = .ok (.getfield 9, 3) := by decide +kernel
theorem dX4_leastHolding_18 : decode cX4_leastHolding 18 = .ok (.ishl, 1) := by decide +kernel
theorem dX4_leastHolding_19 : decode cX4_leastHolding 19 = .ok (.if_icmp .ge 55, 3) := by decide +kernel
theorem dX4_leastHolding_22 : decode cX4_leastHolding 22 = .ok (.iload_n 2, 1) := by decide +kernel
theorem dX4_leastHolding_23 : decode cX4_leastHolding 23 = .ok (.ifCond .lt 15, 3) := by decide +kernel
theorem dX4_leastHolding_26 : decode cX4_leastHolding 26 = .ok (.aload_n 0, 1) := by decide +kernel
theorem dX4_leastHolding_27 : decode cX4_leastHolding 27 = .ok (.iload_n 3, 1) := by decide +kernel
theorem dX4_leastHolding_28 : decode cX4_leastHolding 28 = .ok (.iload_n 2, 1) := by decide +kernel
theorem dX4_leastHolding_29 : decode cX4_leastHolding 29 = .ok (.invokevirtual 66, 3) := by decide +kernel
theorem dX4_leastHolding_32 : decode cX4_leastHolding 32 = .ok (.ifCond .ne 6, 3) := by decide +kernel
theorem dX4_leastHolding_35 : decode cX4_leastHolding 35 = .ok (.goto 33, 3) := by decide +kernel
theorem dX4_leastHolding_38 : decode cX4_leastHolding 38 = .ok (.aload_n 0, 1) := by decide +kernel
theorem dX4_leastHolding_39 : decode cX4_leastHolding 39 = .ok (.getfield 43, 3) := by decide +kernel
theorem dX4_leastHolding_42 : decode cX4_leastHolding 42 = .ok (.aload_n 0, 1) := by decide +kernel
theorem dX4_leastHolding_43 : decode cX4_leastHolding 43 = .ok (.getfield 43, 3) := by decide +kernel
theorem dX4_leastHolding_46 : decode cX4_leastHolding 46 = .ok (.ldc 70, 2) := by decide +kernel
theorem dX4_leastHolding_48 : decode cX4_leastHolding 48 = .ok (.aload_n 0, 1) := by decide +kernel
theorem dX4_leastHolding_49 : decode cX4_leastHolding 49 = .ok (.getfield 15, 3) := by decide +kernel
theorem dX4_leastHolding_52 : decode cX4_leastHolding 52 = .ok (.iload_n 3, 1) := by decide +kernel
theorem dX4_leastHolding_53 : decode cX4_leastHolding 53 = .ok (.iaload, 1) := by decide +kernel
theorem dX4_leastHolding_54 : decode cX4_leastHolding 54 = .ok (.iconst (-1), 1) := by decide +kernel
theorem dX4_leastHolding_55 : decode cX4_leastHolding 55 = .ok (.ixor, 1) := by decide +kernel
theorem dX4_leastHolding_56 : decode cX4_leastHolding 56 = .ok (.iand, 1) := by decide +kernel
theorem dX4_leastHolding_57 : decode cX4_leastHolding 57 = .ok (.invokevirtual 71, 3) := by decide +kernel
theorem dX4_leastHolding_60 : decode cX4_leastHolding 60 = .ok (.invokevirtual 75, 3) := by decide +kernel
theorem dX4_leastHolding_63 : decode cX4_leastHolding 63 = .ok (.ifCond .ne 5, 3) := by decide +kernel
theorem dX4_leastHolding_66 : decode cX4_leastHolding 66 = .ok (.iload_n 3, 1) := by decide +kernel
theorem dX4_leastHolding_67 : decode cX4_leastHolding 67 = .ok (.istore_n 2, 1) := by decide +kernel
theorem dX4_leastHolding_68 : decode cX4_leastHolding 68 = .ok (.iinc 3 1, 3) := by decide +kernel
theorem dX4_leastHolding_71 : decode cX4_leastHolding 71 = .ok (.goto (-59), 3) := by decide +kernel
theorem dX4_leastHolding_74 : decode cX4_leastHolding 74 = .ok (.iload_n 2, 1) := by decide +kernel
theorem dX4_leastHolding_75 : decode cX4_leastHolding 75 = .ok (.ireturn, 1) := by decide +kernel
theorem dX4_isCheaper_0 : decode cX4_isCheaper 0 = .ok (.aload_n 0, 1) := by decide +kernel
theorem dX4_isCheaper_1 : decode cX4_isCheaper 1 = .ok (.getfield 19, 3) := by decide +kernel
theorem dX4_isCheaper_4 : decode cX4_isCheaper 4 = .ok (.iload_n 1, 1) := by decide +kernel
theorem dX4_isCheaper_5 : decode cX4_isCheaper 5 = .ok (.iaload, 1) := by decide +kernel
theorem dX4_isCheaper_6 : decode cX4_isCheaper 6 = .ok (.aload_n 0, 1) := by decide +kernel
theorem dX4_isCheaper_7 : decode cX4_isCheaper 7 = .ok (.getfield 19, 3) := by decide +kernel
theorem dX4_isCheaper_10 : decode cX4_isCheaper 10 = .ok (.iload_n 2, 1) := by decide +kernel
theorem dX4_isCheaper_11 : decode cX4_isCheaper 11 = .ok (.iaload, 1) := by decide +kernel
theorem dX4_isCheaper_12 : decode cX4_isCheaper 12 = .ok (.if_icmp .eq 24, 3) := by decide +kernel
theorem dX4_isCheaper_15 : decode cX4_isCheaper 15 = .ok (.aload_n 0, 1) := by decide +kernel
theorem dX4_isCheaper_16 : decode cX4_isCheaper 16 = .ok (.getfield 19, 3) := by decide +kernel
theorem dX4_isCheaper_19 : decode cX4_isCheaper 19 = .ok (.iload_n 1, 1) := by decide +kernel
theorem dX4_isCheaper_20 : decode cX4_isCheaper 20 = .ok (.iaload, 1) := by decide +kernel
theorem dX4_isCheaper_21 : decode cX4_isCheaper 21 = .ok (.aload_n 0, 1) := by decide +kernel
theorem dX4_isCheaper_22 : decode cX4_isCheaper 22 = .ok (.getfield 19, 3) := by decide +kernel
theorem dX4_isCheaper_25 : decode cX4_isCheaper 25 = .ok (.iload_n 2, 1) := by decide +kernel
theorem dX4_isCheaper_26 : decode cX4_isCheaper 26 = .ok (.iaload, 1) := by decide +kernel
theorem dX4_isCheaper_27 : decode cX4_isCheaper 27 = .ok (.if_icmp .ge 7, 3) := by decide +kernel
theorem dX4_isCheaper_30 : decode cX4_isCheaper 30 = .ok (.iconst 1, 1) := by decide +kernel
theorem dX4_isCheaper_31 : decode cX4_isCheaper 31 = .ok (.goto 4, 3) := by decide +kernel
theorem dX4_isCheaper_34 : decode cX4_isCheaper 34 = .ok (.iconst 0, 1) := by decide +kernel
theorem dX4_isCheaper_35 : decode cX4_isCheaper 35 = .ok (.ireturn, 1) := by decide +kernel
theorem dX4_isCheaper_36 : decode cX4_isCheaper 36 = .ok (.iload_n 1, 1) := by decide +kernel
theorem dX4_isCheaper_37 : decode cX4_isCheaper 37 = .ok (.invokestatic 78, 3) := by decide +kernel
theorem dX4_isCheaper_40 : decode cX4_isCheaper 40 = .ok (.iload_n 2, 1) := by decide +kernel
theorem dX4_isCheaper_41 : decode cX4_isCheaper 41 = .ok (.invokestatic 78, 3) := by decide +kernel
theorem dX4_isCheaper_44 : decode cX4_isCheaper 44 = .ok (.if_icmp .ge 7, 3) := by decide +kernel
theorem dX4_isCheaper_47 : decode cX4_isCheaper 47 = .ok (.iconst 1, 1) := by decide +kernel
theorem dX4_isCheaper_48 : decode cX4_isCheaper 48 = .ok (.goto 4, 3) := by decide +kernel
theorem dX4_isCheaper_51 : decode cX4_isCheaper 51 = .ok (.iconst 0, 1) := by decide +kernel
theorem dX4_isCheaper_52 : decode cX4_isCheaper 52 = .ok (.ireturn, 1) := by decide +kernel
theorem dX4_drawFront_0 : decode cX4_drawFront 0 = .ok (.iload_n 1, 1) := by decide +kernel
theorem dX4_drawFront_1 : decode cX4_drawFront 1 = .ok (.aload_n 0, 1) := by decide +kernel
theorem dX4_drawFront_2 : decode cX4_drawFront 2 = .ok (.getfield 34, 3) := by decide +kernel
theorem dX4_drawFront_5 : decode cX4_drawFront 5 = .ok (.if_icmp .ne 5, 3) := by decide +kernel
theorem dX4_drawFront_8 : decode cX4_drawFront 8 = .ok (.iconst 1, 1) := by decide +kernel
theorem dX4_drawFront_9 : decode cX4_drawFront 9 = .ok (.ireturn, 1) := by decide +kernel
theorem dX4_drawFront_10 : decode cX4_drawFront 10 = .ok (.aload_n 0, 1) := by decide +kernel
theorem dX4_drawFront_11 : decode cX4_drawFront 11 = .ok (.getfield 47, 3) := by decide +kernel
theorem dX4_drawFront_14 : decode cX4_drawFront 14 = .ok (.iload_n 1, 1) := by decide +kernel
theorem dX4_drawFront_15 : decode cX4_drawFront 15 = .ok (.invokevirtual 83, 3) := by decide +kernel
theorem dX4_drawFront_18 : decode cX4_drawFront 18 = .ok (.aload_n 0, 1) := by decide +kernel
theorem dX4_drawFront_19 : decode cX4_drawFront 19 = .ok (.getfield 47, 3) := by decide +kernel
theorem dX4_drawFront_22 : decode cX4_drawFront 22 = .ok (.invokevirtual 88, 3) := by decide +kernel
theorem dX4_drawFront_25 : decode cX4_drawFront 25 = .ok (.sipush 400, 3) := by decide +kernel
theorem dX4_drawFront_28 : decode cX4_drawFront 28 = .ok (.if_icmp .le 5, 3) := by decide +kernel
theorem dX4_drawFront_31 : decode cX4_drawFront 31 = .ok (.iconst 0, 1) := by decide +kernel
theorem dX4_drawFront_32 : decode cX4_drawFront 32 = .ok (.ireturn, 1) := by decide +kernel
theorem dX4_drawFront_33 : decode cX4_drawFront 33 = .ok (.aload_n 0, 1) := by decide +kernel
theorem dX4_drawFront_34 : decode cX4_drawFront 34 = .ok (.iload_n 1, 1) := by decide +kernel
theorem dX4_drawFront_35 : decode cX4_drawFront 35 = .ok (.putfield 34, 3) := by decide +kernel
theorem dX4_drawFront_38 : decode cX4_drawFront 38 = .ok (.aload_n 0, 1) := by decide +kernel
theorem dX4_drawFront_39 : decode cX4_drawFront 39 = .ok (.aload_n 0, 1) := by decide +kernel
theorem dX4_drawFront_40 : decode cX4_drawFront 40 = .ok (.getfield 47, 3) := by decide +kernel
theorem dX4_drawFront_43 : decode cX4_drawFront 43 = .ok (.getfield 92, 3) := by decide +kernel
theorem dX4_drawFront_46 : decode cX4_drawFront 46 = .ok (.putfield 37, 3) := by decide +kernel
theorem dX4_drawFront_49 : decode cX4_drawFront 49 = .ok (.aload_n 0, 1) := by decide +kernel
theorem dX4_drawFront_50 : decode cX4_drawFront 50 = .ok (.aload_n 0, 1) := by decide +kernel
theorem dX4_drawFront_51 : decode cX4_drawFront 51 = .ok (.getfield 43, 3) := by decide +kernel
theorem dX4_drawFront_54 : decode cX4_drawFront 54 = .ok (.getfield 95, 3) := by decide +kernel
theorem dX4_drawFront_57 : decode cX4_drawFront 57 = .ok (.putfield 40, 3) := by decide +kernel
theorem dX4_drawFront_60 : decode cX4_drawFront 60 = .ok (.aload_n 0, 1) := by decide +kernel
theorem dX4_drawFront_61 : decode cX4_drawFront 61 = .ok (.invokevirtual 98, 3) := by decide +kernel
theorem dX4_drawFront_64 : decode cX4_drawFront 64 = .ok (.istore_n 2, 1) := by decide +kernel
theorem dX4_drawFront_65 : decode cX4_drawFront 65 = .ok (.aload_n 0, 1) := by decide +kernel
theorem dX4_drawFront_66 : decode cX4_drawFront 66 = .ok (.iload_n 2, 1) := by decide +kernel
theorem dX4_drawFront_67 : decode cX4_drawFront 67 = .ok (.invokevirtual 101, 3) := by decide +kernel
theorem dX4_drawFront_70 : decode cX4_drawFront 70 = .ok (.aload_n 0, 1) := by decide +kernel
theorem dX4_drawFront_71 : decode cX4_drawFront 71 = .ok (.iload_n 2, 1) := by decide +kernel
theorem dX4_drawFront_72 : decode cX4_drawFront 72 = .ok (.invokevirtual 104, 3) := by decide +kernel
theorem dX4_drawFront_75 : decode cX4_drawFront 75 = .ok (.iconst 1, 1) := by decide +kernel
theorem dX4_drawFront_76 : decode cX4_drawFront 76 = .ok (.ireturn, 1) := by decide +kernel
theorem dX4_workChances_0 : decode cX4_workChances 0 = .ok (.iconst 1, 1) := by decide +kernel
theorem dX4_workChances_1 : decode cX4_workChances 1 = .ok (.aload_n 0, 1) := by decide +kernel
theorem dX4_workChances_2 : decode cX4_workChances 2 = .ok (.getfield 9, 3) := by decide +kernel
theorem dX4_workChances_5 : decode cX4_workChances 5 = .ok (.ishl, 1) := by decide +kernel
theorem dX4_workChances_6 : decode cX4_workChances 6 = .ok (.istore_n 1, 1) := by decide +kernel
theorem dX4_workChances_7 : decode cX4_workChances 7 = .ok (.aload_n 0, 1) := by decide +kernel
theorem dX4_workChances_8 : decode cX4_workChances 8 = .ok (.aload_n 0, 1) := by decide +kernel
theorem dX4_workChances_9 : decode cX4_workChances 9 = .ok (.getfield 22, 3) := by decide +kernel
theorem dX4_workChances_12 : decode cX4_workChances 12 = .ok (.iload_n 1, 1) := by decide +kernel
theorem dX4_workChances_13 : decode cX4_workChances 13 = .ok (.aload_n 0, 1) := by decide +kernel
theorem dX4_workChances_14 : decode cX4_workChances 14 = .ok (.getfield 37, 3) := by decide +kernel
theorem dX4_workChances_17 : decode cX4_workChances 17 = .ok (.imul, 1) := by decide +kernel
theorem dX4_workChances_18 : decode cX4_workChances 18 = .ok (.invokestatic 107, 3) := by decide +kernel
theorem dX4_workChances_21 : decode cX4_workChances 21 = .ok (.putfield 22, 3) := by decide +kernel
theorem dX4_workChances_24 : decode cX4_workChances 24 = .ok (.aload_n 0, 1) := by decide +kernel
theorem dX4_workChances_25 : decode cX4_workChances 25 = .ok (.aload_n 0, 1) := by decide +kernel
theorem dX4_workChances_26 : decode cX4_workChances 26 = .ok (.getfield 28, 3) := by decide +kernel
theorem dX4_workChances_29 : decode cX4_workChances 29 = .ok (.iload_n 1, 1) := by decide +kernel
theorem dX4_workChances_30 : decode cX4_workChances 30 = .ok (.invokestatic 107, 3) := by decide +kernel
theorem dX4_workChances_33 : decode cX4_workChances 33 = .ok (.putfield 28, 3) := by decide +kernel
theorem dX4_workChances_36 : decode cX4_workChances 36 = .ok (.iconst 0, 1) := by decide +kernel
theorem dX4_workChances_37 : decode cX4_workChances 37 = .ok (.istore_n 2, 1) := by decide +kernel
theorem dX4_workChances_38 : decode cX4_workChances 38 = .ok (.iconst 0, 1) := by decide +kernel
theorem dX4_workChances_39 : decode cX4_workChances 39 = .ok (.istore_n 3, 1) := by decide +kernel
theorem dX4_workChances_40 : decode cX4_workChances 40 = .ok (.iload_n 3, 1) := by decide +kernel
theorem dX4_workChances_41 : decode cX4_workChances 41 = .ok (.iload_n 1, 1) := by decide +kernel
theorem dX4_workChances_42 : decode cX4_workChances 42 = .ok (.if_icmp .ge 88, 3) := by decide +kernel
theorem dX4_workChances_45 : decode cX4_workChances 45 = .ok (.aload_n 0, 1) := by decide +kernel
theorem dX4_workChances_46 : decode cX4_workChances 46 = .ok (.iload_n 3, 1) := by decide +kernel
theorem dX4_workChances_47 : decode cX4_workChances 47 = .ok (.invokevirtual 112, 3) := by decide +kernel
theorem dX4_workChances_50 : decode cX4_workChances 50 = .ok (.ifCond .eq 6, 3) := by decide +kernel
theorem dX4_workChances_53 : decode cX4_workChances 53 = .ok (.goto 71, 3) := by decide +kernel
theorem dX4_workChances_56 : decode cX4_workChances 56 = .ok (.aload_n 0, 1) := by decide +kernel
theorem dX4_workChances_57 : decode cX4_workChances 57 = .ok (.getfield 47, 3) := by decide +kernel
theorem dX4_workChances_60 : decode cX4_workChances 60 = .ok (.aload_n 0, 1) := by decide +kernel
theorem dX4_workChances_61 : decode cX4_workChances 61 = .ok (.getfield 15, 3) := by decide +kernel
theorem dX4_workChances_64 : decode cX4_workChances 64 = .ok (.iload_n 3, 1) := by decide +kernel
theorem dX4_workChances_65 : decode cX4_workChances 65 = .ok (.iaload, 1) := by decide +kernel
theorem dX4_workChances_66 : decode cX4_workChances 66 = .ok (.invokevirtual 116, 3) := by decide +kernel
theorem dX4_workChances_69 : decode cX4_workChances 69 = .ok (.aload_n 0, 1) := by decide +kernel
theorem dX4_workChances_70 : decode cX4_workChances 70 = .ok (.getfield 47, 3) := by decide +kernel
theorem dX4_workChances_73 : decode cX4_workChances 73 = .ok (.invokevirtual 119, 3) := by decide +kernel
theorem dX4_workChances_76 : decode cX4_workChances 76 = .ok (.istore 4, 2) := by decide +kernel
theorem dX4_workChances_78 : decode cX4_workChances 78 = .ok (.aload_n 0, 1) := by decide +kernel
theorem dX4_workChances_79 : decode cX4_workChances 79 = .ok (.getfield 47, 3) := by decide +kernel
theorem dX4_workChances_82 : decode cX4_workChances 82 = .ok (.getfield 122, 3) := by decide +kernel
theorem dX4_workChances_85 : decode cX4_workChances 85 = .ok (.iload 4, 2) := by decide +kernel
theorem dX4_workChances_87 : decode cX4_workChances 87 = .ok (.aload_n 0, 1) := by decide +kernel
theorem dX4_workChances_88 : decode cX4_workChances 88 = .ok (.getfield 22, 3) := by decide +kernel
theorem dX4_workChances_91 : decode cX4_workChances 91 = .ok (.iload_n 3, 1) := by decide +kernel
theorem dX4_workChances_92 : decode cX4_workChances 92 = .ok (.aload_n 0, 1) := by decide +kernel
theorem dX4_workChances_93 : decode cX4_workChances 93 = .ok (.getfield 37, 3) := by decide +kernel
theorem dX4_workChances_96 : decode cX4_workChances 96 = .ok (.imul, 1) := by decide +kernel
theorem dX4_workChances_97 : decode cX4_workChances 97 = .ok (.aload_n 0, 1) := by decide +kernel
theorem dX4_workChances_98 : decode cX4_workChances 98 = .ok (.getfield 37, 3) := by decide +kernel
theorem dX4_workChances_101 : decode cX4_workChances 101 = .ok (.invokestatic 125, 3) := by decide +kernel
theorem dX4_workChances_104 : decode cX4_workChances 104 = .ok (.aload_n 0, 1) := by decide +kernel
theorem dX4_workChances_105 : decode cX4_workChances 105 = .ok (.getfield 28, 3) := by decide +kernel
theorem dX4_workChances_108 : decode cX4_workChances 108 = .ok (.iload_n 2, 1) := by decide +kernel
theorem dX4_workChances_109 : decode cX4_workChances 109 = .ok (.aload_n 0, 1) := by decide +kernel
theorem dX4_workChances_110 : decode cX4_workChances 110 = .ok (.getfield 19, 3) := by decide +kernel
theorem dX4_workChances_113 : decode cX4_workChances 113 = .ok (.iload_n 3, 1) := by decide +kernel
theorem dX4_workChances_114 : decode cX4_workChances 114 = .ok (.iaload, 1) := by decide +kernel
theorem dX4_workChances_115 : decode cX4_workChances 115 = .ok (.bipush 10, 2) := by decide +kernel
theorem dX4_workChances_117 : decode cX4_workChances 117 = .ok (.ishl, 1) := by decide +kernel
theorem dX4_workChances_118 : decode cX4_workChances 118 = .ok (.iload_n 3, 1) := by decide +kernel
theorem dX4_workChances_119 : decode cX4_workChances 119 = .ok (.ior, 1) := by decide +kernel
theorem dX4_workChances_120 : decode cX4_workChances 120 = .ok (.iastore, 1) := by decide +kernel
theorem dX4_workChances_121 : decode cX4_workChances 121 = .ok (.iinc 2 1, 3) := by decide +kernel
theorem dX4_workChances_124 : decode cX4_workChances 124 = .ok (.iinc 3 1, 3) := by decide +kernel
theorem dX4_workChances_127 : decode cX4_workChances 127 = .ok (.goto (-87), 3) := by decide +kernel
theorem dX4_workChances_130 : decode cX4_workChances 130 = .ok (.iload_n 2, 1) := by decide +kernel
theorem dX4_workChances_131 : decode cX4_workChances 131 = .ok (.ireturn, 1) := by decide +kernel
theorem dX4_hasIdler_0 : decode cX4_hasIdler 0 = .ok (.aload_n 0, 1) := by decide +kernel
theorem dX4_hasIdler_1 : decode cX4_hasIdler 1 = .ok (.getfield 43, 3) := by decide +kernel
theorem dX4_hasIdler_4 : decode cX4_hasIdler 4 = .ok (.aload_n 0, 1) := by decide +kernel
theorem dX4_hasIdler_5 : decode cX4_hasIdler 5 = .ok (.getfield 15, 3) := by decide +kernel
theorem dX4_hasIdler_8 : decode cX4_hasIdler 8 = .ok (.iload_n 1, 1) := by decide +kernel
theorem dX4_hasIdler_9 : decode cX4_hasIdler 9 = .ok (.iaload, 1) := by decide +kernel
theorem dX4_hasIdler_10 : decode cX4_hasIdler 10 = .ok (.invokevirtual 71, 3) := by decide +kernel
theorem dX4_hasIdler_13 : decode cX4_hasIdler 13 = .ok (.istore_n 2, 1) := by decide +kernel
theorem dX4_hasIdler_14 : decode cX4_hasIdler 14 = .ok (.iconst 0, 1) := by decide +kernel
theorem dX4_hasIdler_15 : decode cX4_hasIdler 15 = .ok (.istore_n 3, 1) := by decide +kernel
theorem dX4_hasIdler_16 : decode cX4_hasIdler 16 = .ok (.iload_n 3, 1) := by decide +kernel
theorem dX4_hasIdler_17 : decode cX4_hasIdler 17 = .ok (.aload_n 0, 1) := by decide +kernel
theorem dX4_hasIdler_18 : decode cX4_hasIdler 18 = .ok (.getfield 9, 3) := by decide +kernel
theorem dX4_hasIdler_21 : decode cX4_hasIdler 21 = .ok (.if_icmp .ge 41, 3) := by decide +kernel
theorem dX4_hasIdler_24 : decode cX4_hasIdler 24 = .ok (.iload_n 1, 1) := by decide +kernel
theorem dX4_hasIdler_25 : decode cX4_hasIdler 25 = .ok (.iload_n 3, 1) := by decide +kernel
theorem dX4_hasIdler_26 : decode cX4_hasIdler 26 = .ok (.ishr, 1) := by decide +kernel
theorem dX4_hasIdler_27 : decode cX4_hasIdler 27 = .ok (.iconst 1, 1) := by decide +kernel
theorem dX4_hasIdler_28 : decode cX4_hasIdler 28 = .ok (.iand, 1) := by decide +kernel
theorem dX4_hasIdler_29 : decode cX4_hasIdler 29 = .ok (.iconst 1, 1) := by decide +kernel
theorem dX4_hasIdler_30 : decode cX4_hasIdler 30 = .ok (.if_icmp .ne 26, 3) := by decide +kernel
theorem dX4_hasIdler_33 : decode cX4_hasIdler 33 = .ok (.aload_n 0, 1) := by decide +kernel
theorem dX4_hasIdler_34 : decode cX4_hasIdler 34 = .ok (.getfield 43, 3) := by decide +kernel
theorem dX4_hasIdler_37 : decode cX4_hasIdler 37 = .ok (.aload_n 0, 1) := by decide +kernel
theorem dX4_hasIdler_38 : decode cX4_hasIdler 38 = .ok (.getfield 15, 3) := by decide +kernel
theorem dX4_hasIdler_41 : decode cX4_hasIdler 41 = .ok (.iload_n 1, 1) := by decide +kernel
theorem dX4_hasIdler_42 : decode cX4_hasIdler 42 = .ok (.iconst 1, 1) := by decide +kernel
theorem dX4_hasIdler_43 : decode cX4_hasIdler 43 = .ok (.iload_n 3, 1) := by decide +kernel
theorem dX4_hasIdler_44 : decode cX4_hasIdler 44 = .ok (.ishl, 1) := by decide +kernel
theorem dX4_hasIdler_45 : decode cX4_hasIdler 45 = .ok (.ixor, 1) := by decide +kernel
theorem dX4_hasIdler_46 : decode cX4_hasIdler 46 = .ok (.iaload, 1) := by decide +kernel
theorem dX4_hasIdler_47 : decode cX4_hasIdler 47 = .ok (.invokevirtual 71, 3) := by decide +kernel
theorem dX4_hasIdler_50 : decode cX4_hasIdler 50 = .ok (.iload_n 2, 1) := by decide +kernel
theorem dX4_hasIdler_51 : decode cX4_hasIdler 51 = .ok (.if_icmp .ne 5, 3) := by decide +kernel
theorem dX4_hasIdler_54 : decode cX4_hasIdler 54 = .ok (.iconst 1, 1) := by decide +kernel
theorem dX4_hasIdler_55 : decode cX4_hasIdler 55 = .ok (.ireturn, 1) := by decide +kernel
theorem dX4_hasIdler_56 : decode cX4_hasIdler 56 = .ok (.iinc 3 1, 3) := by decide +kernel
theorem dX4_hasIdler_59 : decode cX4_hasIdler 59 = .ok (.goto (-43), 3) := by decide +kernel
theorem dX4_hasIdler_62 : decode cX4_hasIdler 62 = .ok (.iconst 0, 1) := by decide +kernel
theorem dX4_hasIdler_63 : decode cX4_hasIdler 63 = .ok (.ireturn, 1) := by decide +kernel
theorem dX4_sort_0 : decode cX4_sort 0 = .ok (.iload_n 1, 1) := by decide +kernel
theorem dX4_sort_1 : decode cX4_sort 1 = .ok (.iconst 2, 1) := by decide +kernel
theorem dX4_sort_2 : decode cX4_sort 2 = .ok (.idiv, 1) := by decide +kernel
theorem dX4_sort_3 : decode cX4_sort 3 = .ok (.istore_n 2, 1) := by decide +kernel
theorem dX4_sort_4 : decode cX4_sort 4 = .ok (.iload_n 2, 1) := by decide +kernel
theorem dX4_sort_5 : decode cX4_sort 5 = .ok (.ifCond .le 88, 3) := by decide +kernel
theorem dX4_sort_8 : decode cX4_sort 8 = .ok (.iload_n 2, 1) := by decide +kernel
theorem dX4_sort_9 : decode cX4_sort 9 = .ok (.istore_n 3, 1) := by decide +kernel
theorem dX4_sort_10 : decode cX4_sort 10 = .ok (.iload_n 3, 1) := by decide +kernel
theorem dX4_sort_11 : decode cX4_sort 11 = .ok (.iload_n 1, 1) := by decide +kernel
theorem dX4_sort_12 : decode cX4_sort 12 = .ok (.if_icmp .ge 74, 3) := by decide +kernel
theorem dX4_sort_15 : decode cX4_sort 15 = .ok (.aload_n 0, 1) := by decide +kernel
theorem dX4_sort_16 : decode cX4_sort 16 = .ok (.getfield 28, 3) := by decide +kernel
theorem dX4_sort_19 : decode cX4_sort 19 = .ok (.iload_n 3, 1) := by decide +kernel
theorem dX4_sort_20 : decode cX4_sort 20 = .ok (.iaload, 1) := by decide +kernel
theorem dX4_sort_21 : decode cX4_sort 21 = .ok (.istore 4, 2) := by decide +kernel
theorem dX4_sort_23 : decode cX4_sort 23 = .ok (.iload_n 3, 1) := by decide +kernel
theorem dX4_sort_24 : decode cX4_sort 24 = .ok (.istore 5, 2) := by decide +kernel
theorem dX4_sort_26 : decode cX4_sort 26 = .ok (.iload 5, 2) := by decide +kernel
theorem dX4_sort_28 : decode cX4_sort 28 = .ok (.iload_n 2, 1) := by decide +kernel
theorem dX4_sort_29 : decode cX4_sort 29 = .ok (.if_icmp .lt 42, 3) := by decide +kernel
theorem dX4_sort_32 : decode cX4_sort 32 = .ok (.aload_n 0, 1) := by decide +kernel
theorem dX4_sort_33 : decode cX4_sort 33 = .ok (.getfield 28, 3) := by decide +kernel
theorem dX4_sort_36 : decode cX4_sort 36 = .ok (.iload 5, 2) := by decide +kernel
theorem dX4_sort_38 : decode cX4_sort 38 = .ok (.iload_n 2, 1) := by decide +kernel
theorem dX4_sort_39 : decode cX4_sort 39 = .ok (.isub, 1) := by decide +kernel
theorem dX4_sort_40 : decode cX4_sort 40 = .ok (.iaload, 1) := by decide +kernel
theorem dX4_sort_41 : decode cX4_sort 41 = .ok (.iload 4, 2) := by decide +kernel
theorem dX4_sort_43 : decode cX4_sort 43 = .ok (.if_icmp .le 28, 3) := by decide +kernel
theorem dX4_sort_46 : decode cX4_sort 46 = .ok (.aload_n 0, 1) := by decide +kernel
theorem dX4_sort_47 : decode cX4_sort 47 = .ok (.getfield 28, 3) := by decide +kernel
theorem dX4_sort_50 : decode cX4_sort 50 = .ok (.iload 5, 2) := by decide +kernel
theorem dX4_sort_52 : decode cX4_sort 52 = .ok (.aload_n 0, 1) := by decide +kernel
theorem dX4_sort_53 : decode cX4_sort 53 = .ok (.getfield 28, 3) := by decide +kernel
theorem dX4_sort_56 : decode cX4_sort 56 = .ok (.iload 5, 2) := by decide +kernel
theorem dX4_sort_58 : decode cX4_sort 58 = .ok (.iload_n 2, 1) := by decide +kernel
theorem dX4_sort_59 : decode cX4_sort 59 = .ok (.isub, 1) := by decide +kernel
theorem dX4_sort_60 : decode cX4_sort 60 = .ok (.iaload, 1) := by decide +kernel
theorem dX4_sort_61 : decode cX4_sort 61 = .ok (.iastore, 1) := by decide +kernel
theorem dX4_sort_62 : decode cX4_sort 62 = .ok (.iload 5, 2) := by decide +kernel
theorem dX4_sort_64 : decode cX4_sort 64 = .ok (.iload_n 2, 1) := by decide +kernel
theorem dX4_sort_65 : decode cX4_sort 65 = .ok (.isub, 1) := by decide +kernel
theorem dX4_sort_66 : decode cX4_sort 66 = .ok (.istore 5, 2) := by decide +kernel
theorem dX4_sort_68 : decode cX4_sort 68 = .ok (.goto (-42), 3) := by decide +kernel
theorem dX4_sort_71 : decode cX4_sort 71 = .ok (.aload_n 0, 1) := by decide +kernel
theorem dX4_sort_72 : decode cX4_sort 72 = .ok (.getfield 28, 3) := by decide +kernel
theorem dX4_sort_75 : decode cX4_sort 75 = .ok (.iload 5, 2) := by decide +kernel
theorem dX4_sort_77 : decode cX4_sort 77 = .ok (.iload 4, 2) := by decide +kernel
theorem dX4_sort_79 : decode cX4_sort 79 = .ok (.iastore, 1) := by decide +kernel
theorem dX4_sort_80 : decode cX4_sort 80 = .ok (.iinc 3 1, 3) := by decide +kernel
theorem dX4_sort_83 : decode cX4_sort 83 = .ok (.goto (-73), 3) := by decide +kernel
theorem dX4_sort_86 : decode cX4_sort 86 = .ok (.iload_n 2, 1) := by decide +kernel
