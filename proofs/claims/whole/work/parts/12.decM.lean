theorem dX12_endOf_34 : decode cX12_endOf 34 = .ok (.istore_n 3, 1) := by decide +kernel
theorem dX12_endOf_35 : decode cX12_endOf 35 = .ok (.iinc 4 1, 3) := by decide +kernel
theorem dX12_endOf_38 : decode cX12_endOf 38 = .ok (.goto (-33), 3) := by decide +kernel
theorem dX12_endOf_41 : decode cX12_endOf 41 = .ok (.iload_n 3, 1) := by decide +kernel
theorem dX12_endOf_42 : decode cX12_endOf 42 = .ok (.ireturn, 1) := by decide +kernel
theorem dX12_next_0 : decode cX12_next 0 = .ok (.iload_n 1, 1) := by decide +kernel
theorem dX12_next_1 : decode cX12_next 1 = .ok (.iconst 2, 1) := by decide +kernel
theorem dX12_next_2 : decode cX12_next 2 = .ok (.isub, 1) := by decide +kernel
theorem dX12_next_3 : decode cX12_next 3 = .ok (.istore_n 2, 1) := by decide +kernel
theorem dX12_next_4 : decode cX12_next 4 = .ok (.iload_n 2, 1) := by decide +kernel
theorem dX12_next_5 : decode cX12_next 5 = .ok (.ifCond .lt 26, 3) := by decide +kernel
theorem dX12_next_8 : decode cX12_next 8 = .ok (.aload_n 0, 1) := by decide +kernel
theorem dX12_next_9 : decode cX12_next 9 = .ok (.getfield 163, 3) := by decide +kernel
theorem dX12_next_12 : decode cX12_next 12 = .ok (.iload_n 2, 1) := by decide +kernel
theorem dX12_next_13 : decode cX12_next 13 = .ok (.iaload, 1) := by decide +kernel
theorem dX12_next_14 : decode cX12_next 14 = .ok (.aload_n 0, 1) := by decide +kernel
theorem dX12_next_15 : decode cX12_next 15 = .ok (.getfield 163, 3) := by decide +kernel
theorem dX12_next_18 : decode cX12_next 18 = .ok (.iload_n 2, 1) := by decide +kernel
theorem dX12_next_19 : decode cX12_next 19 = .ok (.iconst 1, 1) := by decide +kernel
theorem dX12_next_20 : decode cX12_next 20 = .ok (.iadd, 1) := by decide +kernel
theorem dX12_next_21 : decode cX12_next 21 = .ok (.iaload, 1) := by decide +kernel
theorem dX12_next_22 : decode cX12_next 22 = .ok (.if_icmp .le 9, 3) := by decide +kernel
theorem dX12_next_25 : decode cX12_next 25 = .ok (.iinc 2 (-1), 3) := by decide +kernel
theorem dX12_next_28 : decode cX12_next 28 = .ok (.goto (-24), 3) := by decide +kernel
theorem dX12_next_31 : decode cX12_next 31 = .ok (.iload_n 2, 1) := by decide +kernel
theorem dX12_next_32 : decode cX12_next 32 = .ok (.ifCond .ge 5, 3) := by decide +kernel
theorem dX12_next_35 : decode cX12_next 35 = .ok (.iconst 0, 1) := by decide +kernel
theorem dX12_next_36 : decode cX12_next 36 = .ok (.ireturn, 1) := by decide +kernel
theorem dX12_next_37 : decode cX12_next 37 = .ok (.iload_n 1, 1) := by decide +kernel
theorem dX12_next_38 : decode cX12_next 38 = .ok (.iconst 1, 1) := by decide +kernel
theorem dX12_next_39 : decode cX12_next 39 = .ok (.isub, 1) := by decide +kernel
theorem dX12_next_40 : decode cX12_next 40 = .ok (.istore_n 3, 1) := by decide +kernel
theorem dX12_next_41 : decode cX12_next 41 = .ok (.aload_n 0, 1) := by decide +kernel
theorem dX12_next_42 : decode cX12_next 42 = .ok (.getfield 163, 3) := by decide +kernel
theorem dX12_next_45 : decode cX12_next 45 = .ok (.iload_n 3, 1) := by decide +kernel
theorem dX12_next_46 : decode cX12_next 46 = .ok (.iaload, 1) := by decide +kernel
theorem dX12_next_47 : decode cX12_next 47 = .ok (.aload_n 0, 1) := by decide +kernel
theorem dX12_next_48 : decode cX12_next 48 = .ok (.getfield 163, 3) := by decide +kernel
theorem dX12_next_51 : decode cX12_next 51 = .ok (.iload_n 2, 1) := by decide +kernel
theorem dX12_next_52 : decode cX12_next 52 = .ok (.iaload, 1) := by decide +kernel
theorem dX12_next_53 : decode cX12_next 53 = .ok (.if_icmp .ge 9, 3) := by decide +kernel
theorem dX12_next_56 : decode cX12_next 56 = .ok (.iinc 3 (-1), 3) := by decide +kernel
theorem dX12_next_59 : decode cX12_next 59 = .ok (.goto (-18), 3) := by decide +kernel
theorem dX12_next_62 : decode cX12_next 62 = .ok (.aload_n 0, 1) := by decide +kernel
theorem dX12_next_63 : decode cX12_next 63 = .ok (.getfield 163, 3) := by decide +kernel
theorem dX12_next_66 : decode cX12_next 66 = .ok (.iload_n 2, 1) := by decide +kernel
theorem dX12_next_67 : decode cX12_next 67 = .ok (.iaload, 1) := by decide +kernel
theorem dX12_next_68 : decode cX12_next 68 = .ok (.istore 4, 2) := by decide +kernel
theorem dX12_next_70 : decode cX12_next 70 = .ok (.aload_n 0, 1) := by decide +kernel
theorem dX12_next_71 : decode cX12_next 71 = .ok (.getfield 163, 3) := by decide +kernel
theorem dX12_next_74 : decode cX12_next 74 = .ok (.iload_n 2, 1) := by decide +kernel
theorem dX12_next_75 : decode cX12_next 75 = .ok (.aload_n 0, 1) := by decide +kernel
theorem dX12_next_76 : decode cX12_next 76 = .ok (.getfield 163, 3) := by decide +kernel
theorem dX12_next_79 : decode cX12_next 79 = .ok (.iload_n 3, 1) := by decide +kernel
theorem dX12_next_80 : decode cX12_next 80 = .ok (.iaload, 1) := by decide +kernel
theorem dX12_next_81 : decode cX12_next 81 = .ok (.iastore, 1) := by decide +kernel
theorem dX12_next_82 : decode cX12_next 82 = .ok (.aload_n 0, 1) := by decide +kernel
theorem dX12_next_83 : decode cX12_next 83 = .ok (.getfield 163, 3) := by decide +kernel
theorem dX12_next_86 : decode cX12_next 86 = .ok (.iload_n 3, 1) := by decide +kernel
theorem dX12_next_87 : decode cX12_next 87 = .ok (.iload 4, 2) := by decide +kernel
theorem dX12_next_89 : decode cX12_next 89 = .ok (.iastore, 1) := by decide +kernel
theorem dX12_next_90 : decode cX12_next 90 = .ok (.iload_n 2, 1) := by decide +kernel
theorem dX12_next_91 : decode cX12_next 91 = .ok (.iconst 1, 1) := by decide +kernel
theorem dX12_next_92 : decode cX12_next 92 = .ok (.iadd, 1) := by decide +kernel
theorem dX12_next_93 : decode cX12_next 93 = .ok (.istore 5, 2) := by decide +kernel
theorem dX12_next_95 : decode cX12_next 95 = .ok (.iload_n 1, 1) := by decide +kernel
theorem dX12_next_96 : decode cX12_next 96 = .ok (.iconst 1, 1) := by decide +kernel
theorem dX12_next_97 : decode cX12_next 97 = .ok (.isub, 1) := by decide +kernel
theorem dX12_next_98 : decode cX12_next 98 = .ok (.istore 6, 2) := by decide +kernel
theorem dX12_next_100 : decode cX12_next 100 = .ok (.iload 5, 2) := by decide +kernel
theorem dX12_next_102 : decode cX12_next 102 = .ok (.iload 6, 2) := by decide +kernel
theorem dX12_next_104 : decode cX12_next 104 = .ok (.if_icmp .ge 44, 3) := by decide +kernel
theorem dX12_next_107 : decode cX12_next 107 = .ok (.aload_n 0, 1) := by decide +kernel
theorem dX12_next_108 : decode cX12_next 108 = .ok (.getfield 163, 3) := by decide +kernel
theorem dX12_next_111 : decode cX12_next 111 = .ok (.iload 5, 2) := by decide +kernel
theorem dX12_next_113 : decode cX12_next 113 = .ok (.iaload, 1) := by decide +kernel
theorem dX12_next_114 : decode cX12_next 114 = .ok (.istore 4, 2) := by decide +kernel
theorem dX12_next_116 : decode cX12_next 116 = .ok (.aload_n 0, 1) := by decide +kernel
theorem dX12_next_117 : decode cX12_next 117 = .ok (.getfield 163, 3) := by decide +kernel
theorem dX12_next_120 : decode cX12_next 120 = .ok (.iload 5, 2) := by decide +kernel
theorem dX12_next_122 : decode cX12_next 122 = .ok (.aload_n 0, 1) := by decide +kernel
theorem dX12_next_123 : decode cX12_next 123 = .ok (.getfield 163, 3) := by decide +kernel
theorem dX12_next_126 : decode cX12_next 126 = .ok (.iload 6, 2) := by decide +kernel
theorem dX12_next_128 : decode cX12_next 128 = .ok (.iaload, 1) := by decide +kernel
theorem dX12_next_129 : decode cX12_next 129 = .ok (.iastore, 1) := by decide +kernel
theorem dX12_next_130 : decode cX12_next 130 = .ok (.aload_n 0, 1) := by decide +kernel
theorem dX12_next_131 : decode cX12_next 131 = .ok (.getfield 163, 3) := by decide +kernel
theorem dX12_next_134 : decode cX12_next 134 = .ok (.iload 6, 2) := by decide +kernel
theorem dX12_next_136 : decode cX12_next 136 = .ok (.iload 4, 2) := by decide +kernel
theorem dX12_next_138 : decode cX12_next 138 = .ok (.iastore, 1) := by decide +kernel
theorem dX12_next_139 : decode cX12_next 139 = .ok (.iinc 5 1, 3) := by decide +kernel
theorem dX12_next_142 : decode cX12_next 142 = .ok (.iinc 6 (-1), 3) := by decide +kernel
theorem dX12_next_145 : decode cX12_next 145 = .ok (.goto (-45), 3) := by decide +kernel
theorem dX12_next_148 : decode cX12_next 148 = .ok (.iconst 1, 1) := by decide +kernel
theorem dX12_next_149 : decode cX12_next 149 = .ok (.ireturn, 1) := by decide +kernel
theorem dX12_findOrder_0 : decode cX12_findOrder 0 = .ok (.iconst 0, 1) := by decide +kernel
theorem dX12_findOrder_1 : decode cX12_findOrder 1 = .ok (.istore_n 3, 1) := by decide +kernel
theorem dX12_findOrder_2 : decode cX12_findOrder 2 = .ok (.iconst 0, 1) := by decide +kernel
theorem dX12_findOrder_3 : decode cX12_findOrder 3 = .ok (.istore 4, 2) := by decide +kernel
theorem dX12_findOrder_5 : decode cX12_findOrder 5 = .ok (.iload 4, 2) := by decide +kernel
theorem dX12_findOrder_7 : decode cX12_findOrder 7 = .ok (.bipush 16, 2) := by decide +kernel
theorem dX12_findOrder_9 : decode cX12_findOrder 9 = .ok (.if_icmp .ge 97, 3) := by decide +kernel
theorem dX12_findOrder_12 : decode cX12_findOrder 12 = .ok (.iload_n 1, 1) := by decide +kernel
theorem dX12_findOrder_13 : decode cX12_findOrder 13 = .ok (.iload 4, 2) := by decide +kernel
theorem dX12_findOrder_15 : decode cX12_findOrder 15 = .ok (.ishr, 1) := by decide +kernel
theorem dX12_findOrder_16 : decode cX12_findOrder 16 = .ok (.iconst 1, 1) := by decide +kernel
theorem dX12_findOrder_17 : decode cX12_findOrder 17 = .ok (.iand, 1) := by decide +kernel
theorem dX12_findOrder_18 : decode cX12_findOrder 18 = .ok (.iconst 1, 1) := by decide +kernel
theorem dX12_findOrder_19 : decode cX12_findOrder 19 = .ok (.if_icmp .ne 81, 3) := by decide +kernel
theorem dX12_findOrder_22 : decode cX12_findOrder 22 = .ok (.aload_n 0, 1) := by decide +kernel
theorem dX12_findOrder_23 : decode cX12_findOrder 23 = .ok (.getfield 121, 3) := by decide +kernel
theorem dX12_findOrder_26 : decode cX12_findOrder 26 = .ok (.iload_n 3, 1) := by decide +kernel
theorem dX12_findOrder_27 : decode cX12_findOrder 27 = .ok (.iload 4, 2) := by decide +kernel
theorem dX12_findOrder_29 : decode cX12_findOrder 29 = .ok (.iastore, 1) := by decide +kernel
theorem dX12_findOrder_30 : decode cX12_findOrder 30 = .ok (.iload_n 2, 1) := by decide +kernel
theorem dX12_findOrder_31 : decode cX12_findOrder 31 = .ok (.istore 5, 2) := by decide +kernel
theorem dX12_findOrder_33 : decode cX12_findOrder 33 = .ok (.iload 5, 2) := by decide +kernel
theorem dX12_findOrder_35 : decode cX12_findOrder 35 = .ok (.sipush 600, 3) := by decide +kernel
theorem dX12_findOrder_38 : decode cX12_findOrder 38 = .ok (.if_icmp .gt 52, 3) := by decide +kernel
theorem dX12_findOrder_41 : decode cX12_findOrder 41 = .ok (.aload_n 0, 1) := by decide +kernel
theorem dX12_findOrder_42 : decode cX12_findOrder 42 = .ok (.iload 4, 2) := by decide +kernel
theorem dX12_findOrder_44 : decode cX12_findOrder 44 = .ok (.iload 5, 2) := by decide +kernel
theorem dX12_findOrder_46 : decode cX12_findOrder 46 = .ok (.invokevirtual 463, 3) := by decide +kernel
theorem dX12_findOrder_49 : decode cX12_findOrder 49 = .ok (.istore 6, 2) := by decide +kernel
theorem dX12_findOrder_51 : decode cX12_findOrder 51 = .ok (.aload_n 0, 1) := by decide +kernel
theorem dX12_findOrder_52 : decode cX12_findOrder 52 = .ok (.getfield 160, 3) := by decide +kernel
theorem dX12_findOrder_55 : decode cX12_findOrder 55 = .ok (.sipush 601, 3) := by decide +kernel
theorem dX12_findOrder_58 : decode cX12_findOrder 58 = .ok (.iload_n 3, 1) := by decide +kernel
theorem dX12_findOrder_59 : decode cX12_findOrder 59 = .ok (.imul, 1) := by decide +kernel
theorem dX12_findOrder_60 : decode cX12_findOrder 60 = .ok (.iload 5, 2) := by decide +kernel
theorem dX12_findOrder_62 : decode cX12_findOrder 62 = .ok (.iadd, 1) := by decide +kernel
theorem dX12_findOrder_63 : decode cX12_findOrder 63 = .ok (.iload 6, 2) := by decide +kernel
theorem dX12_findOrder_65 : decode cX12_findOrder 65 = .ok (.iconst (-1), 1) := by decide +kernel
theorem dX12_findOrder_66 : decode cX12_findOrder 66 = .ok (.if_icmp .ne 7, 3) := by decide +kernel
theorem dX12_findOrder_69 : decode cX12_findOrder 69 = .ok (.iconst (-1), 1) := by decide +kernel
theorem dX12_findOrder_70 : decode cX12_findOrder 70 = .ok (.goto 13, 3) := by decide +kernel
theorem dX12_findOrder_73 : decode cX12_findOrder 73 = .ok (.iload 6, 2) := by decide +kernel
theorem dX12_findOrder_75 : decode cX12_findOrder 75 = .ok (.aload_n 0, 1) := by decide +kernel
theorem dX12_findOrder_76 : decode cX12_findOrder 76 = .ok (.getfield 13, 3) := by decide +kernel
theorem dX12_findOrder_79 : decode cX12_findOrder 79 = .ok (.iload 4, 2) := by decide +kernel
theorem dX12_findOrder_81 : decode cX12_findOrder 81 = .ok (.iaload, 1) := by decide +kernel
theorem dX12_findOrder_82 : decode cX12_findOrder 82 = .ok (.iadd, 1) := by decide +kernel
theorem dX12_findOrder_83 : decode cX12_findOrder 83 = .ok (.iastore, 1) := by decide +kernel
theorem dX12_findOrder_84 : decode cX12_findOrder 84 = .ok (.iinc 5 1, 3) := by decide +kernel
theorem dX12_findOrder_87 : decode cX12_findOrder 87 = .ok (.goto (-54), 3) := by decide +kernel
theorem dX12_findOrder_90 : decode cX12_findOrder 90 = .ok (.aload_n 0, 1) := by decide +kernel
theorem dX12_findOrder_91 : decode cX12_findOrder 91 = .ok (.getfield 163, 3) := by decide +kernel
theorem dX12_findOrder_94 : decode cX12_findOrder 94 = .ok (.iload_n 3, 1) := by decide +kernel
theorem dX12_findOrder_95 : decode cX12_findOrder 95 = .ok (.iload_n 3, 1) := by decide +kernel
theorem dX12_findOrder_96 : decode cX12_findOrder 96 = .ok (.iastore, 1) := by decide +kernel
theorem dX12_findOrder_97 : decode cX12_findOrder 97 = .ok (.iinc 3 1, 3) := by decide +kernel
theorem dX12_findOrder_100 : decode cX12_findOrder 100 = .ok (.iinc 4 1, 3) := by decide +kernel
theorem dX12_findOrder_103 : decode cX12_findOrder 103 = .ok (.goto (-98), 3) := by decide +kernel
theorem dX12_findOrder_106 : decode cX12_findOrder 106 = .ok (.aload_n 0, 1) := by decide +kernel
theorem dX12_findOrder_107 : decode cX12_findOrder 107 = .ok (.iconst (-1), 1) := by decide +kernel
theorem dX12_findOrder_108 : decode cX12_findOrder 108 = .ok (.putfield 466, 3) := by decide +kernel
theorem dX12_findOrder_111 : decode cX12_findOrder 111 = .ok (.iconst 1, 1) := by decide +kernel
theorem dX12_findOrder_112 : decode cX12_findOrder 112 = .ok (.istore 4, 2) := by decide +kernel
theorem dX12_findOrder_114 : decode cX12_findOrder 114 = .ok (.iload 4, 2) := by decide +kernel
theorem dX12_findOrder_116 : decode cX12_findOrder 116 = .ok (.ifCond .eq 84, 3) := by decide +kernel
theorem dX12_findOrder_119 : decode cX12_findOrder 119 = .ok (.aload_n 0, 1) := by decide +kernel
theorem dX12_findOrder_120 : decode cX12_findOrder 120 = .ok (.iload_n 3, 1) := by decide +kernel
theorem dX12_findOrder_121 : decode cX12_findOrder 121 = .ok (.iload_n 2, 1) := by decide +kernel
theorem dX12_findOrder_122 : decode cX12_findOrder 122 = .ok (.invokevirtual 469, 3) := by decide +kernel
theorem dX12_findOrder_125 : decode cX12_findOrder 125 = .ok (.istore 5, 2) := by decide +kernel
theorem dX12_findOrder_127 : decode cX12_findOrder 127 = .ok (.iload 5, 2) := by decide +kernel
theorem dX12_findOrder_129 : decode cX12_findOrder 129 = .ok (.iconst (-1), 1) := by decide +kernel
theorem dX12_findOrder_130 : decode cX12_findOrder 130 = .ok (.if_icmp .eq 60, 3) := by decide +kernel
theorem dX12_findOrder_133 : decode cX12_findOrder 133 = .ok (.aload_n 0, 1) := by decide +kernel
theorem dX12_findOrder_134 : decode cX12_findOrder 134 = .ok (.getfield 466, 3) := by decide +kernel
theorem dX12_findOrder_137 : decode cX12_findOrder 137 = .ok (.iconst (-1), 1) := by decide +kernel
theorem dX12_findOrder_138 : decode cX12_findOrder 138 = .ok (.if_icmp .eq 12, 3) := by decide +kernel
theorem dX12_findOrder_141 : decode cX12_findOrder 141 = .ok (.iload 5, 2) := by decide +kernel
theorem dX12_findOrder_143 : decode cX12_findOrder 143 = .ok (.aload_n 0, 1) := by decide +kernel
theorem dX12_findOrder_144 : decode cX12_findOrder 144 = .ok (.getfield 466, 3) := by decide +kernel
theorem dX12_findOrder_147 : decode cX12_findOrder 147 = .ok (.if_icmp .ge 43, 3) := by decide +kernel
theorem dX12_findOrder_150 : decode cX12_findOrder 150 = .ok (.aload_n 0, 1) := by decide +kernel
theorem dX12_findOrder_151 : decode cX12_findOrder 151 = .ok (.iload 5, 2) := by decide +kernel
theorem dX12_findOrder_153 : decode cX12_findOrder 153 = .ok (.putfield 466, 3) := by decide +kernel
theorem dX12_findOrder_156 : decode cX12_findOrder 156 = .ok (.iconst 0, 1) := by decide +kernel
theorem dX12_findOrder_157 : decode cX12_findOrder 157 = .ok (.istore 6, 2) := by decide +kernel
theorem dX12_findOrder_159 : decode cX12_findOrder 159 = .ok (.iload 6, 2) := by decide +kernel
theorem dX12_findOrder_161 : decode cX12_findOrder 161 = .ok (.iload_n 3, 1) := by decide +kernel
theorem dX12_findOrder_162 : decode cX12_findOrder 162 = .ok (.if_icmp .ge 28, 3) := by decide +kernel
theorem dX12_findOrder_165 : decode cX12_findOrder 165 = .ok (.aload_n 0, 1) := by decide +kernel
theorem dX12_findOrder_166 : decode cX12_findOrder 166 = .ok (.getfield 166, 3) := by decide +kernel
theorem dX12_findOrder_169 : decode cX12_findOrder 169 = .ok (.iload 6, 2) := by decide +kernel
theorem dX12_findOrder_171 : decode cX12_findOrder 171 = .ok (.aload_n 0, 1) := by decide +kernel
theorem dX12_findOrder_172 : decode cX12_findOrder 172 = .ok (.getfield 121, 3) := by decide +kernel
theorem dX12_findOrder_175 : decode cX12_findOrder 175 = .ok (.aload_n 0, 1) := by decide +kernel
theorem dX12_findOrder_176 : decode cX12_findOrder 176 = .ok (.getfield 163, 3) := by decide +kernel
theorem dX12_findOrder_179 : decode cX12_findOrder 179 = .ok (.iload 6, 2) := by decide +kernel
theorem dX12_findOrder_181 : decode cX12_findOrder 181 = .ok (.iaload, 1) := by decide +kernel
theorem dX12_findOrder_182 : decode cX12_findOrder 182 = .ok (.iaload, 1) := by decide +kernel
theorem dX12_findOrder_183 : decode cX12_findOrder 183 = .ok (.iastore, 1) := by decide +kernel
theorem dX12_findOrder_184 : decode cX12_findOrder 184 = .ok (.iinc 6 1, 3) := by decide +kernel
theorem dX12_findOrder_187 : decode cX12_findOrder 187 = .ok (.goto (-28), 3) := by decide +kernel
theorem dX12_findOrder_190 : decode cX12_findOrder 190 = .ok (.aload_n 0, 1) := by decide +kernel
theorem dX12_findOrder_191 : decode cX12_findOrder 191 = .ok (.iload_n 3, 1) := by decide +kernel
theorem dX12_findOrder_192 : decode cX12_findOrder 192 = .ok (.invokevirtual 472, 3) := by decide +kernel
theorem dX12_findOrder_195 : decode cX12_findOrder 195 = .ok (.istore 4, 2) := by decide +kernel
theorem dX12_findOrder_197 : decode cX12_findOrder 197 = .ok (.goto (-83), 3) := by decide +kernel
theorem dX12_findOrder_200 : decode cX12_findOrder 200 = .ok (.return_, 1) := by decide +kernel
theorem dX12_whyOrder_0 : decode cX12_whyOrder 0 = .ok (.iload_n 0, 1) := by decide +kernel
theorem dX12_whyOrder_1 : decode cX12_whyOrder 1 = .ok (.invokestatic 279, 3) := by decide +kernel
theorem dX12_whyOrder_4 : decode cX12_whyOrder 4 = .ok (.ifCond .eq 18, 3) := by decide +kernel
theorem dX12_whyOrder_7 : decode cX12_whyOrder 7 = .ok (.iload_n 1, 1) := by decide +kernel
theorem dX12_whyOrder_8 : decode cX12_whyOrder 8 = .ok (.iconst 0, 1) := by decide +kernel
theorem dX12_whyOrder_9 : decode cX12_whyOrder 9 = .ok (.sipush 600, 3) := by decide +kernel
theorem dX12_whyOrder_12 : decode cX12_whyOrder 12 = .ok (.invokestatic 179, 3) := by decide +kernel
theorem dX12_whyOrder_15 : decode cX12_whyOrder 15 = .ok (.ifCond .eq 7, 3) := by decide +kernel
theorem dX12_whyOrder_18 : decode cX12_whyOrder 18 = .ok (.iload_n 2, 1) := by decide +kernel
theorem dX12_whyOrder_19 : decode cX12_whyOrder 19 = .ok (.ifCond .ne 8, 3) := by decide +kernel
theorem dX12_whyOrder_22 : decode cX12_whyOrder 22 = .ok (.bipush (-2), 2) := by decide +kernel
theorem dX12_whyOrder_24 : decode cX12_whyOrder 24 = .ok (.goto 18, 3) := by decide +kernel
theorem dX12_whyOrder_27 : decode cX12_whyOrder 27 = .ok (.iload_n 0, 1) := by decide +kernel
theorem dX12_whyOrder_28 : decode cX12_whyOrder 28 = .ok (.invokestatic 295, 3) := by decide +kernel
theorem dX12_whyOrder_31 : decode cX12_whyOrder 31 = .ok (.bipush 7, 2) := by decide +kernel
theorem dX12_whyOrder_33 : decode cX12_whyOrder 33 = .ok (.if_icmp .le 8, 3) := by decide +kernel
theorem dX12_whyOrder_36 : decode cX12_whyOrder 36 = .ok (.bipush (-3), 2) := by decide +kernel
theorem dX12_whyOrder_38 : decode cX12_whyOrder 38 = .ok (.goto 4, 3) := by decide +kernel
theorem dX12_whyOrder_41 : decode cX12_whyOrder 41 = .ok (.iconst 1, 1) := by decide +kernel
theorem dX12_whyOrder_42 : decode cX12_whyOrder 42 = .ok (.ireturn, 1) := by decide +kernel
theorem dX12_end_0 : decode cX12_end 0 = .ok (.iload_n 1, 1) := by decide +kernel
theorem dX12_end_1 : decode cX12_end 1 = .ok (.iload_n 2, 1) := by decide +kernel
theorem dX12_end_2 : decode cX12_end 2 = .ok (.iconst 1, 1) := by decide +kernel
theorem dX12_end_3 : decode cX12_end 3 = .ok (.invokestatic 475, 3) := by decide +kernel
theorem dX12_end_6 : decode cX12_end 6 = .ok (.istore_n 3, 1) := by decide +kernel
theorem dX12_end_7 : decode cX12_end 7 = .ok (.iload_n 3, 1) := by decide +kernel
theorem dX12_end_8 : decode cX12_end 8 = .ok (.iconst 1, 1) := by decide +kernel
theorem dX12_end_9 : decode cX12_end 9 = .ok (.if_icmp .eq 5, 3) := by decide +kernel
theorem dX12_end_12 : decode cX12_end 12 = .ok (.iload_n 3, 1) := by decide +kernel
theorem dX12_end_13 : decode cX12_end 13 = .ok (.ireturn, 1) := by decide +kernel
theorem dX12_end_14 : decode cX12_end 14 = .ok (.aload_n 0, 1) := by decide +kernel
theorem dX12_end_15 : decode cX12_end 15 = .ok (.iload_n 1, 1) := by decide +kernel
theorem dX12_end_16 : decode cX12_end 16 = .ok (.iload_n 2, 1) := by decide +kernel
theorem dX12_end_17 : decode cX12_end 17 = .ok (.invokevirtual 479, 3) := by decide +kernel
theorem dX12_end_20 : decode cX12_end 20 = .ok (.aload_n 0, 1) := by decide +kernel
theorem dX12_end_21 : decode cX12_end 21 = .ok (.getfield 466, 3) := by decide +kernel
theorem dX12_end_24 : decode cX12_end 24 = .ok (.ireturn, 1) := by decide +kernel
theorem dX12_orderAt_0 : decode cX12_orderAt 0 = .ok (.iload_n 1, 1) := by decide +kernel
theorem dX12_orderAt_1 : decode cX12_orderAt 1 = .ok (.iload_n 2, 1) := by decide +kernel
theorem dX12_orderAt_2 : decode cX12_orderAt 2 = .ok (.iload_n 3, 1) := by decide +kernel
theorem dX12_orderAt_3 : decode cX12_orderAt 3 = .ok (.ifCond .lt 7, 3) := by decide +kernel
theorem dX12_orderAt_6 : decode cX12_orderAt 6 = .ok (.iconst 1, 1) := by decide +kernel
theorem dX12_orderAt_7 : decode cX12_orderAt 7 = .ok (.goto 4, 3) := by decide +kernel
theorem dX12_orderAt_10 : decode cX12_orderAt 10 = .ok (.iconst 0, 1) := by decide +kernel
theorem dX12_orderAt_11 : decode cX12_orderAt 11 = .ok (.invokestatic 475, 3) := by decide +kernel
theorem dX12_orderAt_14 : decode cX12_orderAt 14 = .ok (.istore 4, 2) := by decide +kernel
theorem dX12_orderAt_16 : decode cX12_orderAt 16 = .ok (.iload 4, 2) := by decide +kernel
theorem dX12_orderAt_18 : decode cX12_orderAt 18 = .ok (.iconst 1, 1) := by decide +kernel
theorem dX12_orderAt_19 : decode cX12_orderAt 19 = .ok (.if_icmp .eq 6, 3) := by decide +kernel
theorem dX12_orderAt_22 : decode cX12_orderAt 22 = .ok (.iload 4, 2) := by decide +kernel
theorem dX12_orderAt_24 : decode cX12_orderAt 24 = .ok (.ireturn, 1) := by decide +kernel
theorem dX12_orderAt_25 : decode cX12_orderAt 25 = .ok (.aload_n 0, 1) := by decide +kernel
theorem dX12_orderAt_26 : decode cX12_orderAt 26 = .ok (.iload_n 1, 1) := by decide +kernel
theorem dX12_orderAt_27 : decode cX12_orderAt 27 = .ok (.iload_n 2, 1) := by decide +kernel
theorem dX12_orderAt_28 : decode cX12_orderAt 28 = .ok (.invokevirtual 479, 3) := by decide +kernel
theorem dX12_orderAt_31 : decode cX12_orderAt 31 = .ok (.aload_n 0, 1) := by decide +kernel
theorem dX12_orderAt_32 : decode cX12_orderAt 32 = .ok (.getfield 466, 3) := by decide +kernel
theorem dX12_orderAt_35 : decode cX12_orderAt 35 = .ok (.iconst (-1), 1) := by decide +kernel
theorem dX12_orderAt_36 : decode cX12_orderAt 36 = .ok (.if_icmp .eq 20, 3) := by decide +kernel
theorem dX12_orderAt_39 : decode cX12_orderAt 39 = .ok (.iload_n 3, 1) := by decide +kernel
theorem dX12_orderAt_40 : decode cX12_orderAt 40 = .ok (.iload_n 1, 1) := by decide +kernel
theorem dX12_orderAt_41 : decode cX12_orderAt 41 = .ok (.invokestatic 295, 3) := by decide +kernel
theorem dX12_orderAt_44 : decode cX12_orderAt 44 = .ok (.if_icmp .ge 12, 3) := by decide +kernel
theorem dX12_orderAt_47 : decode cX12_orderAt 47 = .ok (.aload_n 0, 1) := by decide +kernel
theorem dX12_orderAt_48 : decode cX12_orderAt 48 = .ok (.getfield 166, 3) := by decide +kernel
theorem dX12_orderAt_51 : decode cX12_orderAt 51 = .ok (.iload_n 3, 1) := by decide +kernel
theorem dX12_orderAt_52 : decode cX12_orderAt 52 = .ok (.iaload, 1) := by decide +kernel
theorem dX12_orderAt_53 : decode cX12_orderAt 53 = .ok (.goto 4, 3) := by decide +kernel
theorem dX12_orderAt_56 : decode cX12_orderAt 56 = .ok (.iconst (-1), 1) := by decide +kernel
theorem dX12_orderAt_57 : decode cX12_orderAt 57 = .ok (.ireturn, 1) := by decide +kernel
theorem dX12_image_0 : decode cX12_image 0 = .ok (.iload_n 1, 1) := by decide +kernel
theorem dX12_image_1 : decode cX12_image 1 = .ok (.iconst 0, 1) := by decide +kernel
theorem dX12_image_2 : decode cX12_image 2 = .ok (.iconst 1, 1) := by decide +kernel
theorem dX12_image_3 : decode cX12_image 3 = .ok (.invokestatic 179, 3) := by decide +kernel
theorem dX12_image_6 : decode cX12_image 6 = .ok (.ifCond .ne 6, 3) := by decide +kernel
theorem dX12_image_9 : decode cX12_image 9 = .ok (.bipush (-2), 2) := by decide +kernel
theorem dX12_image_11 : decode cX12_image 11 = .ok (.ireturn, 1) := by decide +kernel
theorem dX12_image_12 : decode cX12_image 12 = .ok (.aload_n 0, 1) := by decide +kernel
theorem dX12_image_13 : decode cX12_image 13 = .ok (.getfield 169, 3) := by decide +kernel
theorem dX12_image_16 : decode cX12_image 16 = .ok (.iload_n 1, 1) := by decide +kernel
theorem dX12_image_17 : decode cX12_image 17 = .ok (.iconst 1, 1) := by decide +kernel
theorem dX12_image_18 : decode cX12_image 18 = .ok (.bastore, 1) := by decide +kernel
theorem dX12_image_19 : decode cX12_image 19 = .ok (.iconst 0, 1) := by decide +kernel
theorem dX12_image_20 : decode cX12_image 20 = .ok (.istore_n 2, 1) := by decide +kernel
theorem dX12_image_21 : decode cX12_image 21 = .ok (.iload_n 2, 1) := by decide +kernel
theorem dX12_image_22 : decode cX12_image 22 = .ok (.bipush 16, 2) := by decide +kernel
theorem dX12_image_24 : decode cX12_image 24 = .ok (.if_icmp .ge 43, 3) := by decide +kernel
theorem dX12_image_27 : decode cX12_image 27 = .ok (.iconst 0, 1) := by decide +kernel
theorem dX12_image_28 : decode cX12_image 28 = .ok (.istore_n 3, 1) := by decide +kernel
theorem dX12_image_29 : decode cX12_image 29 = .ok (.iload_n 3, 1) := by decide +kernel
theorem dX12_image_30 : decode cX12_image 30 = .ok (.iconst 5, 1) := by decide +kernel
theorem dX12_image_31 : decode cX12_image 31 = .ok (.if_icmp .ge 30, 3) := by decide +kernel
theorem dX12_image_34 : decode cX12_image 34 = .ok (.aload_n 0, 1) := by decide +kernel
theorem dX12_image_35 : decode cX12_image 35 = .ok (.getfield 172, 3) := by decide +kernel
theorem dX12_image_38 : decode cX12_image 38 = .ok (.bipush 80, 2) := by decide +kernel
theorem dX12_image_40 : decode cX12_image 40 = .ok (.iload_n 1, 1) := by decide +kernel
theorem dX12_image_41 : decode cX12_image 41 = .ok (.imul, 1) := by decide +kernel
theorem dX12_image_42 : decode cX12_image 42 = .ok (.iconst 5, 1) := by decide +kernel
theorem dX12_image_43 : decode cX12_image 43 = .ok (.iload_n 2, 1) := by decide +kernel
theorem dX12_image_44 : decode cX12_image 44 = .ok (.imul, 1) := by decide +kernel
theorem dX12_image_45 : decode cX12_image 45 = .ok (.iadd, 1) := by decide +kernel
theorem dX12_image_46 : decode cX12_image 46 = .ok (.iload_n 3, 1) := by decide +kernel
theorem dX12_image_47 : decode cX12_image 47 = .ok (.iadd, 1) := by decide +kernel
theorem dX12_image_48 : decode cX12_image 48 = .ok (.aload_n 0, 1) := by decide +kernel
theorem dX12_image_49 : decode cX12_image 49 = .ok (.iload_n 2, 1) := by decide +kernel
theorem dX12_image_50 : decode cX12_image 50 = .ok (.iload_n 3, 1) := by decide +kernel
theorem dX12_image_51 : decode cX12_image 51 = .ok (.invokevirtual 187, 3) := by decide +kernel
theorem dX12_image_54 : decode cX12_image 54 = .ok (.iastore, 1) := by decide +kernel
theorem dX12_image_55 : decode cX12_image 55 = .ok (.iinc 3 1, 3) := by decide +kernel
theorem dX12_image_58 : decode cX12_image 58 = .ok (.goto (-29), 3) := by decide +kernel
theorem dX12_image_61 : decode cX12_image 61 = .ok (.iinc 2 1, 3) := by decide +kernel
theorem dX12_image_64 : decode cX12_image 64 = .ok (.goto (-43), 3) := by decide +kernel
theorem dX12_image_67 : decode cX12_image 67 = .ok (.iconst 1, 1) := by decide +kernel
theorem dX12_image_68 : decode cX12_image 68 = .ok (.ireturn, 1) := by decide +kernel
theorem dX12_differ_0 : decode cX12_differ 0 = .ok (.iload_n 1, 1) := by decide +kernel
theorem dX12_differ_1 : decode cX12_differ 1 = .ok (.iconst 0, 1) := by decide +kernel
theorem dX12_differ_2 : decode cX12_differ 2 = .ok (.iconst 1, 1) := by decide +kernel
theorem dX12_differ_3 : decode cX12_differ 3 = .ok (.invokestatic 179, 3) := by decide +kernel
theorem dX12_differ_6 : decode cX12_differ 6 = .ok (.ifCond .ne 6, 3) := by decide +kernel
theorem dX12_differ_9 : decode cX12_differ 9 = .ok (.bipush (-2), 2) := by decide +kernel
theorem dX12_differ_11 : decode cX12_differ 11 = .ok (.ireturn, 1) := by decide +kernel
theorem dX12_differ_12 : decode cX12_differ 12 = .ok (.aload_n 0, 1) := by decide +kernel
theorem dX12_differ_13 : decode cX12_differ 13 = .ok (.getfield 169, 3) := by decide +kernel
theorem dX12_differ_16 : decode cX12_differ 16 = .ok (.iload_n 1, 1) := by decide +kernel
theorem dX12_differ_17 : decode cX12_differ 17 = .ok (.baload, 1) := by decide +kernel
theorem dX12_differ_18 : decode cX12_differ 18 = .ok (.ifCond .ne 6, 3) := by decide +kernel
theorem dX12_differ_21 : decode cX12_differ 21 = .ok (.bipush (-3), 2) := by decide +kernel
theorem dX12_differ_23 : decode cX12_differ 23 = .ok (.ireturn, 1) := by decide +kernel
theorem dX12_differ_24 : decode cX12_differ 24 = .ok (.iconst 0, 1) := by decide +kernel
theorem dX12_differ_25 : decode cX12_differ 25 = .ok (.istore_n 2, 1) := by decide +kernel
theorem dX12_differ_26 : decode cX12_differ 26 = .ok (.iconst 0, 1) := by decide +kernel
theorem dX12_differ_27 : decode cX12_differ 27 = .ok (.istore_n 3, 1) := by decide +kernel
theorem dX12_differ_28 : decode cX12_differ 28 = .ok (.iload_n 3, 1) := by decide +kernel
theorem dX12_differ_29 : decode cX12_differ 29 = .ok (.bipush 16, 2) := by decide +kernel
theorem dX12_differ_31 : decode cX12_differ 31 = .ok (.if_icmp .ge 60, 3) := by decide +kernel
theorem dX12_differ_34 : decode cX12_differ 34 = .ok (.iconst 0, 1) := by decide +kernel
theorem dX12_differ_35 : decode cX12_differ 35 = .ok (.istore 4, 2) := by decide +kernel
theorem dX12_differ_37 : decode cX12_differ 37 = .ok (.iload 4, 2) := by decide +kernel
theorem dX12_differ_39 : decode cX12_differ 39 = .ok (.iconst 5, 1) := by decide +kernel
theorem dX12_differ_40 : decode cX12_differ 40 = .ok (.if_icmp .ge 45, 3) := by decide +kernel
theorem dX12_differ_43 : decode cX12_differ 43 = .ok (.iload_n 2, 1) := by decide +kernel
theorem dX12_differ_44 : decode cX12_differ 44 = .ok (.aload_n 0, 1) := by decide +kernel
theorem dX12_differ_45 : decode cX12_differ 45 = .ok (.getfield 172, 3) := by decide +kernel
theorem dX12_differ_48 : decode cX12_differ 48 = .ok (.bipush 80, 2) := by decide +kernel
theorem dX12_differ_50 : decode cX12_differ 50 = .ok (.iload_n 1, 1) := by decide +kernel
theorem dX12_differ_51 : decode cX12_differ 51 = .ok (.imul, 1) := by decide +kernel
theorem dX12_differ_52 : decode cX12_differ 52 = .ok (.iconst 5, 1) := by decide +kernel
theorem dX12_differ_53 : decode cX12_differ 53 = .ok (.iload_n 3, 1) := by decide +kernel
theorem dX12_differ_54 : decode cX12_differ 54 = .ok (.imul, 1) := by decide +kernel
theorem dX12_differ_55 : decode cX12_differ 55 = .ok (.iadd, 1) := by decide +kernel
theorem dX12_differ_56 : decode cX12_differ 56 = .ok (.iload 4, 2) := by decide +kernel
theorem dX12_differ_58 : decode cX12_differ 58 = .ok (.iadd, 1) := by decide +kernel
theorem dX12_differ_59 : decode cX12_differ 59 = .ok (.iaload, 1) := by decide +kernel
theorem dX12_differ_60 : decode cX12_differ 60 = .ok (.aload_n 0, 1) := by decide +kernel
theorem dX12_differ_61 : decode cX12_differ 61 = .ok (.iload_n 3, 1) := by decide +kernel
theorem dX12_differ_62 : decode cX12_differ 62 = .ok (.iload 4, 2) := by decide +kernel
theorem dX12_differ_64 : decode cX12_differ 64 = .ok (.invokevirtual 187, 3) := by decide +kernel
theorem dX12_differ_67 : decode cX12_differ 67 = .ok (.if_icmp .eq 9, 3) := by decide +kernel
theorem dX12_differ_70 : decode cX12_differ 70 = .ok (.iconst 1, 1) := by decide +kernel
theorem dX12_differ_71 : decode cX12_differ 71 = .ok (.iload_n 3, 1) := by decide +kernel
theorem dX12_differ_72 : decode cX12_differ 72 = .ok (.ishl, 1) := by decide +kernel
theorem dX12_differ_73 : decode cX12_differ 73 = .ok (.goto 4, 3) := by decide +kernel
theorem dX12_differ_76 : decode cX12_differ 76 = .ok (.iconst 0, 1) := by decide +kernel
theorem dX12_differ_77 : decode cX12_differ 77 = .ok (.ior, 1) := by decide +kernel
theorem dX12_differ_78 : decode cX12_differ 78 = .ok (.istore_n 2, 1) := by decide +kernel
theorem dX12_differ_79 : decode cX12_differ 79 = .ok (.iinc 4 1, 3) := by decide +kernel
theorem dX12_differ_82 : decode cX12_differ 82 = .ok (.goto (-45), 3) := by decide +kernel
theorem dX12_differ_85 : decode cX12_differ 85 = .ok (.iinc 3 1, 3) := by decide +kernel
theorem dX12_differ_88 : decode cX12_differ 88 = .ok (.goto (-60), 3) := by decide +kernel
theorem dX12_differ_91 : decode cX12_differ 91 = .ok (.iload_n 2, 1) := by decide +kernel
theorem dX12_differ_92 : decode cX12_differ 92 = .ok (.ireturn, 1) := by decide +kernel
theorem dX12_from_0 : decode cX12_from 0 = .ok (.iload_n 1, 1) := by decide +kernel
theorem dX12_from_1 : decode cX12_from 1 = .ok (.iconst 0, 1) := by decide +kernel
theorem dX12_from_2 : decode cX12_from 2 = .ok (.iconst 1, 1) := by decide +kernel
theorem dX12_from_3 : decode cX12_from 3 = .ok (.invokestatic 179, 3) := by decide +kernel
theorem dX12_from_6 : decode cX12_from 6 = .ok (.ifCond .ne 6, 3) := by decide +kernel
theorem dX12_from_9 : decode cX12_from 9 = .ok (.bipush (-2), 2) := by decide +kernel
theorem dX12_from_11 : decode cX12_from 11 = .ok (.ireturn, 1) := by decide +kernel
theorem dX12_from_12 : decode cX12_from 12 = .ok (.aload_n 0, 1) := by decide +kernel
theorem dX12_from_13 : decode cX12_from 13 = .ok (.getfield 169, 3) := by decide +kernel
theorem dX12_from_16 : decode cX12_from 16 = .ok (.iload_n 1, 1) := by decide +kernel
theorem dX12_from_17 : decode cX12_from 17 = .ok (.baload, 1) := by decide +kernel
theorem dX12_from_18 : decode cX12_from 18 = .ok (.ifCond .ne 6, 3) := by decide +kernel
theorem dX12_from_21 : decode cX12_from 21 = .ok (.bipush (-3), 2) := by decide +kernel
theorem dX12_from_23 : decode cX12_from 23 = .ok (.ireturn, 1) := by decide +kernel
theorem dX12_from_24 : decode cX12_from 24 = .ok (.iconst 0, 1) := by decide +kernel
theorem dX12_from_25 : decode cX12_from 25 = .ok (.istore_n 2, 1) := by decide +kernel
theorem dX12_from_26 : decode cX12_from 26 = .ok (.iload_n 2, 1) := by decide +kernel
theorem dX12_from_27 : decode cX12_from 27 = .ok (.bipush 16, 2) := by decide +kernel
theorem dX12_from_29 : decode cX12_from 29 = .ok (.if_icmp .ge 86, 3) := by decide +kernel
theorem dX12_from_32 : decode cX12_from 32 = .ok (.bipush 80, 2) := by decide +kernel
theorem dX12_from_34 : decode cX12_from 34 = .ok (.iload_n 1, 1) := by decide +kernel
theorem dX12_from_35 : decode cX12_from 35 = .ok (.imul, 1) := by decide +kernel
theorem dX12_from_36 : decode cX12_from 36 = .ok (.iconst 5, 1) := by decide +kernel
theorem dX12_from_37 : decode cX12_from 37 = .ok (.iload_n 2, 1) := by decide +kernel
theorem dX12_from_38 : decode cX12_from 38 = .ok (.imul, 1) := by decide +kernel
theorem dX12_from_39 : decode cX12_from 39 = .ok (.iadd, 1) := by decide +kernel
theorem dX12_from_40 : decode cX12_from 40 = .ok (.istore_n 3, 1) := by decide +kernel
theorem dX12_from_41 : decode cX12_from 41 = .ok (.aload_n 0, 1) := by decide +kernel
theorem dX12_from_42 : decode cX12_from 42 = .ok (.getfield 7, 3) := by decide +kernel
theorem dX12_from_45 : decode cX12_from 45 = .ok (.iload_n 2, 1) := by decide +kernel
theorem dX12_from_46 : decode cX12_from 46 = .ok (.aload_n 0, 1) := by decide +kernel
theorem dX12_from_47 : decode cX12_from 47 = .ok (.getfield 172, 3) := by decide +kernel
theorem dX12_from_50 : decode cX12_from 50 = .ok (.iload_n 3, 1) := by decide +kernel
theorem dX12_from_51 : decode cX12_from 51 = .ok (.iaload, 1) := by decide +kernel
theorem dX12_from_52 : decode cX12_from 52 = .ok (.iastore, 1) := by decide +kernel
theorem dX12_from_53 : decode cX12_from 53 = .ok (.aload_n 0, 1) := by decide +kernel
theorem dX12_from_54 : decode cX12_from 54 = .ok (.getfield 13, 3) := by decide +kernel
theorem dX12_from_57 : decode cX12_from 57 = .ok (.iload_n 2, 1) := by decide +kernel
theorem dX12_from_58 : decode cX12_from 58 = .ok (.aload_n 0, 1) := by decide +kernel
theorem dX12_from_59 : decode cX12_from 59 = .ok (.getfield 172, 3) := by decide +kernel
theorem dX12_from_62 : decode cX12_from 62 = .ok (.iload_n 3, 1) := by decide +kernel
theorem dX12_from_63 : decode cX12_from 63 = .ok (.iconst 1, 1) := by decide +kernel
theorem dX12_from_64 : decode cX12_from 64 = .ok (.iadd, 1) := by decide +kernel
theorem dX12_from_65 : decode cX12_from 65 = .ok (.iaload, 1) := by decide +kernel
theorem dX12_from_66 : decode cX12_from 66 = .ok (.iastore, 1) := by decide +kernel
theorem dX12_from_67 : decode cX12_from 67 = .ok (.aload_n 0, 1) := by decide +kernel
theorem dX12_from_68 : decode cX12_from 68 = .ok (.getfield 16, 3) := by decide +kernel
theorem dX12_from_71 : decode cX12_from 71 = .ok (.iload_n 2, 1) := by decide +kernel
theorem dX12_from_72 : decode cX12_from 72 = .ok (.aload_n 0, 1) := by decide +kernel
theorem dX12_from_73 : decode cX12_from 73 = .ok (.getfield 172, 3) := by decide +kernel
theorem dX12_from_76 : decode cX12_from 76 = .ok (.iload_n 3, 1) := by decide +kernel
theorem dX12_from_77 : decode cX12_from 77 = .ok (.iconst 2, 1) := by decide +kernel
theorem dX12_from_78 : decode cX12_from 78 = .ok (.iadd, 1) := by decide +kernel
theorem dX12_from_79 : decode cX12_from 79 = .ok (.iaload, 1) := by decide +kernel
theorem dX12_from_80 : decode cX12_from 80 = .ok (.iastore, 1) := by decide +kernel
theorem dX12_from_81 : decode cX12_from 81 = .ok (.aload_n 0, 1) := by decide +kernel
theorem dX12_from_82 : decode cX12_from 82 = .ok (.getfield 19, 3) := by decide +kernel
theorem dX12_from_85 : decode cX12_from 85 = .ok (.iload_n 2, 1) := by decide +kernel
theorem dX12_from_86 : decode cX12_from 86 = .ok (.aload_n 0, 1) := by decide +kernel
theorem dX12_from_87 : decode cX12_from 87 = .ok (.getfield 172, 3) := by decide +kernel
theorem dX12_from_90 : decode cX12_from 90 = .ok (.iload_n 3, 1) := by decide +kernel
theorem dX12_from_91 : decode cX12_from 91 = .ok (.iconst 3, 1) := by decide +kernel
theorem dX12_from_92 : decode cX12_from 92 = .ok (.iadd, 1) := by decide +kernel
theorem dX12_from_93 : decode cX12_from 93 = .ok (.iaload, 1) := by decide +kernel
theorem dX12_from_94 : decode cX12_from 94 = .ok (.iastore, 1) := by decide +kernel
theorem dX12_from_95 : decode cX12_from 95 = .ok (.aload_n 0, 1) := by decide +kernel
theorem dX12_from_96 : decode cX12_from 96 = .ok (.getfield 22, 3) := by decide +kernel
theorem dX12_from_99 : decode cX12_from 99 = .ok (.iload_n 2, 1) := by decide +kernel
theorem dX12_from_100 : decode cX12_from 100 = .ok (.aload_n 0, 1) := by decide +kernel
theorem dX12_from_101 : decode cX12_from 101 = .ok (.getfield 172, 3) := by decide +kernel
theorem dX12_from_104 : decode cX12_from 104 = .ok (.iload_n 3, 1) := by decide +kernel
theorem dX12_from_105 : decode cX12_from 105 = .ok (.iconst 4, 1) := by decide +kernel
theorem dX12_from_106 : decode cX12_from 106 = .ok (.iadd, 1) := by decide +kernel
theorem dX12_from_107 : decode cX12_from 107 = .ok (.iaload, 1) := by decide +kernel
theorem dX12_from_108 : decode cX12_from 108 = .ok (.iastore, 1) := by decide +kernel
theorem dX12_from_109 : decode cX12_from 109 = .ok (.iinc 2 1, 3) := by decide +kernel
theorem dX12_from_112 : decode cX12_from 112 = .ok (.goto (-86), 3) := by decide +kernel
theorem dX12_from_115 : decode cX12_from 115 = .ok (.iconst 1, 1) := by decide +kernel
theorem dX12_from_116 : decode cX12_from 116 = .ok (.ireturn, 1) := by decide +kernel
theorem dX12_count_0 : decode cX12_count 0 = .ok (.iconst 0, 1) := by decide +kernel
theorem dX12_count_1 : decode cX12_count 1 = .ok (.istore_n 2, 1) := by decide +kernel
theorem dX12_count_2 : decode cX12_count 2 = .ok (.iload_n 1, 1) := by decide +kernel
theorem dX12_count_3 : decode cX12_count 3 = .ok (.tableswitch 105 0 6 #[41, 46, 51, 85, 90, 95, 100], 41) := by decide +kernel
theorem dX12_count_44 : decode cX12_count 44 = .ok (.aload_n 0, 1) := by decide +kernel
theorem dX12_count_45 : decode cX12_count 45 = .ok (.getfield 191, 3) := by decide +kernel
theorem dX12_count_48 : decode cX12_count 48 = .ok (.ireturn, 1) := by decide +kernel
theorem dX12_count_49 : decode cX12_count 49 = .ok (.aload_n 0, 1) := by decide +kernel
theorem dX12_count_50 : decode cX12_count 50 = .ok (.getfield 194, 3) := by decide +kernel
theorem dX12_count_53 : decode cX12_count 53 = .ok (.ireturn, 1) := by decide +kernel
theorem dX12_count_54 : decode cX12_count 54 = .ok (.iconst 0, 1) := by decide +kernel
theorem dX12_count_55 : decode cX12_count 55 = .ok (.istore_n 3, 1) := by decide +kernel
theorem dX12_count_56 : decode cX12_count 56 = .ok (.iload_n 3, 1) := by decide +kernel
theorem dX12_count_57 : decode cX12_count 57 = .ok (.bipush 10, 2) := by decide +kernel
theorem dX12_count_59 : decode cX12_count 59 = .ok (.if_icmp .ge 27, 3) := by decide +kernel
theorem dX12_count_62 : decode cX12_count 62 = .ok (.iload_n 2, 1) := by decide +kernel
theorem dX12_count_63 : decode cX12_count 63 = .ok (.aload_n 0, 1) := by decide +kernel
theorem dX12_count_64 : decode cX12_count 64 = .ok (.getfield 49, 3) := by decide +kernel
theorem dX12_count_67 : decode cX12_count 67 = .ok (.iload_n 3, 1) := by decide +kernel
theorem dX12_count_68 : decode cX12_count 68 = .ok (.iaload, 1) := by decide +kernel
theorem dX12_count_69 : decode cX12_count 69 = .ok (.iconst (-1), 1) := by decide +kernel
theorem dX12_count_70 : decode cX12_count 70 = .ok (.if_icmp .ne 7, 3) := by decide +kernel
theorem dX12_count_73 : decode cX12_count 73 = .ok (.iconst 0, 1) := by decide +kernel
theorem dX12_count_74 : decode cX12_count 74 = .ok (.goto 4, 3) := by decide +kernel
theorem dX12_count_77 : decode cX12_count 77 = .ok (.iconst 1, 1) := by decide +kernel
theorem dX12_count_78 : decode cX12_count 78 = .ok (.iadd, 1) := by decide +kernel
theorem dX12_count_79 : decode cX12_count 79 = .ok (.istore_n 2, 1) := by decide +kernel
theorem dX12_count_80 : decode cX12_count 80 = .ok (.iinc 3 1, 3) := by decide +kernel
theorem dX12_count_83 : decode cX12_count 83 = .ok (.goto (-27), 3) := by decide +kernel
theorem dX12_count_86 : decode cX12_count 86 = .ok (.iload_n 2, 1) := by decide +kernel
theorem dX12_count_87 : decode cX12_count 87 = .ok (.ireturn, 1) := by decide +kernel
theorem dX12_count_88 : decode cX12_count 88 = .ok (.aload_n 0, 1) := by decide +kernel
theorem dX12_count_89 : decode cX12_count 89 = .ok (.getfield 390, 3) := by decide +kernel
theorem dX12_count_92 : decode cX12_count 92 = .ok (.ireturn, 1) := by decide +kernel
theorem dX12_count_93 : decode cX12_count 93 = .ok (.aload_n 0, 1) := by decide +kernel
theorem dX12_count_94 : decode cX12_count 94 = .ok (.getfield 408, 3) := by decide +kernel
theorem dX12_count_97 : decode cX12_count 97 = .ok (.ireturn, 1) := by decide +kernel
theorem dX12_count_98 : decode cX12_count 98 = .ok (.aload_n 0, 1) := by decide +kernel
theorem dX12_count_99 : decode cX12_count 99 = .ok (.getfield 436, 3) := by decide +kernel
theorem dX12_count_102 : decode cX12_count 102 = .ok (.ireturn, 1) := by decide +kernel
theorem dX12_count_103 : decode cX12_count 103 = .ok (.aload_n 0, 1) := by decide +kernel
theorem dX12_count_104 : decode cX12_count 104 = .ok (.getfield 454, 3) := by decide +kernel
theorem dX12_count_107 : decode cX12_count 107 = .ok (.ireturn, 1) := by decide +kernel
theorem dX12_count_108 : decode cX12_count 108 = .ok (.bipush (-2), 2) := by decide +kernel
theorem dX12_count_110 : decode cX12_count 110 = .ok (.ireturn, 1) := by decide +kernel
theorem dX12_digest_0 : decode cX12_digest 0 = .ok (.ldc2_w 482, 3) := by decide +kernel
theorem dX12_digest_3 : decode cX12_digest 3 = .ok (.lstore_n 1, 1) := by decide +kernel
theorem dX12_digest_4 : decode cX12_digest 4 = .ok (.iconst 0, 1) := by decide +kernel
theorem dX12_digest_5 : decode cX12_digest 5 = .ok (.istore_n 3, 1) := by decide +kernel
theorem dX12_digest_6 : decode cX12_digest 6 = .ok (.iload_n 3, 1) := by decide +kernel
theorem dX12_digest_7 : decode cX12_digest 7 = .ok (.bipush 7, 2) := by decide +kernel
theorem dX12_digest_9 : decode cX12_digest 9 = .ok (.if_icmp .ge 22, 3) := by decide +kernel
theorem dX12_digest_12 : decode cX12_digest 12 = .ok (.ldc2_w 484, 3) := by decide +kernel
theorem dX12_digest_15 : decode cX12_digest 15 = .ok (.lload_n 1, 1) := by decide +kernel
theorem dX12_digest_16 : decode cX12_digest 16 = .ok (.lmul, 1) := by decide +kernel
theorem dX12_digest_17 : decode cX12_digest 17 = .ok (.aload_n 0, 1) := by decide +kernel
theorem dX12_digest_18 : decode cX12_digest 18 = .ok (.iload_n 3, 1) := by decide +kernel
theorem dX12_digest_19 : decode cX12_digest 19 = .ok (.invokevirtual 486, 3) := by decide +kernel
theorem dX12_digest_22 : decode cX12_digest 22 = .ok (.i2l, 1) := by decide +kernel
theorem dX12_digest_23 : decode cX12_digest 23 = .ok (.ladd, 1) := by decide +kernel
theorem dX12_digest_24 : decode cX12_digest 24 = .ok (.lstore_n 1, 1) := by decide +kernel
theorem dX12_digest_25 : decode cX12_digest 25 = .ok (.iinc 3 1, 3) := by decide +kernel
theorem dX12_digest_28 : decode cX12_digest 28 = .ok (.goto (-22), 3) := by decide +kernel
theorem dX12_digest_31 : decode cX12_digest 31 = .ok (.iconst 0, 1) := by decide +kernel
theorem dX12_digest_32 : decode cX12_digest 32 = .ok (.istore_n 3, 1) := by decide +kernel
theorem dX12_digest_33 : decode cX12_digest 33 = .ok (.iload_n 3, 1) := by decide +kernel
theorem dX12_digest_34 : decode cX12_digest 34 = .ok (.bipush 16, 2) := by decide +kernel
theorem dX12_digest_36 : decode cX12_digest 36 = .ok (.if_icmp .ge 39, 3) := by decide +kernel
theorem dX12_digest_39 : decode cX12_digest 39 = .ok (.iconst 0, 1) := by decide +kernel
theorem dX12_digest_40 : decode cX12_digest 40 = .ok (.istore 4, 2) := by decide +kernel
theorem dX12_digest_42 : decode cX12_digest 42 = .ok (.iload 4, 2) := by decide +kernel
theorem dX12_digest_44 : decode cX12_digest 44 = .ok (.iconst 5, 1) := by decide +kernel
theorem dX12_digest_45 : decode cX12_digest 45 = .ok (.if_icmp .ge 24, 3) := by decide +kernel
theorem dX12_digest_48 : decode cX12_digest 48 = .ok (.ldc2_w 484, 3) := by decide +kernel
theorem dX12_digest_51 : decode cX12_digest 51 = .ok (.lload_n 1, 1) := by decide +kernel
theorem dX12_digest_52 : decode cX12_digest 52 = .ok (.lmul, 1) := by decide +kernel
theorem dX12_digest_53 : decode cX12_digest 53 = .ok (.aload_n 0, 1) := by decide +kernel
theorem dX12_digest_54 : decode cX12_digest 54 = .ok (.iload_n 3, 1) := by decide +kernel
theorem dX12_digest_55 : decode cX12_digest 55 = .ok (.iload 4, 2) := by decide +kernel
theorem dX12_digest_57 : decode cX12_digest 57 = .ok (.invokevirtual 187, 3) := by decide +kernel
theorem dX12_digest_60 : decode cX12_digest 60 = .ok (.i2l, 1) := by decide +kernel
theorem dX12_digest_61 : decode cX12_digest 61 = .ok (.ladd, 1) := by decide +kernel
theorem dX12_digest_62 : decode cX12_digest 62 = .ok (.lstore_n 1, 1) := by decide +kernel
theorem dX12_digest_63 : decode cX12_digest 63 = .ok (.iinc 4 1, 3) := by decide +kernel
theorem dX12_digest_66 : decode cX12_digest 66 = .ok (.goto (-24), 3) := by decide +kernel
theorem dX12_digest_69 : decode cX12_digest 69 = .ok (.iinc 3 1, 3) := by decide +kernel
theorem dX12_digest_72 : decode cX12_digest 72 = .ok (.goto (-39), 3) := by decide +kernel
theorem dX12_digest_75 : decode cX12_digest 75 = .ok (.iconst 0, 1) := by decide +kernel
theorem dX12_digest_76 : decode cX12_digest 76 = .ok (.istore_n 3, 1) := by decide +kernel
theorem dX12_digest_77 : decode cX12_digest 77 = .ok (.iload_n 3, 1) := by decide +kernel
theorem dX12_digest_78 : decode cX12_digest 78 = .ok (.aload_n 0, 1) := by decide +kernel
theorem dX12_digest_79 : decode cX12_digest 79 = .ok (.getfield 191, 3) := by decide +kernel
theorem dX12_digest_82 : decode cX12_digest 82 = .ok (.if_icmp .ge 23, 3) := by decide +kernel
theorem dX12_digest_85 : decode cX12_digest 85 = .ok (.ldc2_w 484, 3) := by decide +kernel
theorem dX12_digest_88 : decode cX12_digest 88 = .ok (.lload_n 1, 1) := by decide +kernel
theorem dX12_digest_89 : decode cX12_digest 89 = .ok (.lmul, 1) := by decide +kernel
theorem dX12_digest_90 : decode cX12_digest 90 = .ok (.aload_n 0, 1) := by decide +kernel
theorem dX12_digest_91 : decode cX12_digest 91 = .ok (.getfield 25, 3) := by decide +kernel
theorem dX12_digest_94 : decode cX12_digest 94 = .ok (.iload_n 3, 1) := by decide +kernel
theorem dX12_digest_95 : decode cX12_digest 95 = .ok (.iaload, 1) := by decide +kernel
theorem dX12_digest_96 : decode cX12_digest 96 = .ok (.i2l, 1) := by decide +kernel
theorem dX12_digest_97 : decode cX12_digest 97 = .ok (.ladd, 1) := by decide +kernel
theorem dX12_digest_98 : decode cX12_digest 98 = .ok (.lstore_n 1, 1) := by decide +kernel
theorem dX12_digest_99 : decode cX12_digest 99 = .ok (.iinc 3 1, 3) := by decide +kernel
theorem dX12_digest_102 : decode cX12_digest 102 = .ok (.goto (-25), 3) := by decide +kernel
theorem dX12_digest_105 : decode cX12_digest 105 = .ok (.iconst 0, 1) := by decide +kernel
theorem dX12_digest_106 : decode cX12_digest 106 = .ok (.istore_n 3, 1) := by decide +kernel
theorem dX12_digest_107 : decode cX12_digest 107 = .ok (.iload_n 3, 1) := by decide +kernel
theorem dX12_digest_108 : decode cX12_digest 108 = .ok (.bipush 10, 2) := by decide +kernel
theorem dX12_digest_110 : decode cX12_digest 110 = .ok (.if_icmp .ge 40, 3) := by decide +kernel
theorem dX12_digest_113 : decode cX12_digest 113 = .ok (.aload_n 0, 1) := by decide +kernel
theorem dX12_digest_114 : decode cX12_digest 114 = .ok (.getfield 49, 3) := by decide +kernel
theorem dX12_digest_117 : decode cX12_digest 117 = .ok (.iload_n 3, 1) := by decide +kernel
theorem dX12_digest_118 : decode cX12_digest 118 = .ok (.iaload, 1) := by decide +kernel
theorem dX12_digest_119 : decode cX12_digest 119 = .ok (.iconst (-1), 1) := by decide +kernel
theorem dX12_digest_120 : decode cX12_digest 120 = .ok (.if_icmp .eq 24, 3) := by decide +kernel
theorem dX12_digest_123 : decode cX12_digest 123 = .ok (.ldc2_w 484, 3) := by decide +kernel
theorem dX12_digest_126 : decode cX12_digest 126 = .ok (.ldc2_w 484, 3) := by decide +kernel
theorem dX12_digest_129 : decode cX12_digest 129 = .ok (.lload_n 1, 1) := by decide +kernel
theorem dX12_digest_130 : decode cX12_digest 130 = .ok (.lmul, 1) := by decide +kernel
theorem dX12_digest_131 : decode cX12_digest 131 = .ok (.iload_n 3, 1) := by decide +kernel
theorem dX12_digest_132 : decode cX12_digest 132 = .ok (.i2l, 1) := by decide +kernel
theorem dX12_digest_133 : decode cX12_digest 133 = .ok (.ladd, 1) := by decide +kernel
theorem dX12_digest_134 : decode cX12_digest 134 = .ok (.lmul, 1) := by decide +kernel
theorem dX12_digest_135 : decode cX12_digest 135 = .ok (.aload_n 0, 1) := by decide +kernel
theorem dX12_digest_136 : decode cX12_digest 136 = .ok (.getfield 49, 3) := by decide +kernel
theorem dX12_digest_139 : decode cX12_digest 139 = .ok (.iload_n 3, 1) := by decide +kernel
theorem dX12_digest_140 : decode cX12_digest 140 = .ok (.iaload, 1) := by decide +kernel
theorem dX12_digest_141 : decode cX12_digest 141 = .ok (.i2l, 1) := by decide +kernel
theorem dX12_digest_142 : decode cX12_digest 142 = .ok (.ladd, 1) := by decide +kernel
theorem dX12_digest_143 : decode cX12_digest 143 = .ok (.lstore_n 1, 1) := by decide +kernel
theorem dX12_digest_144 : decode cX12_digest 144 = .ok (.iinc 3 1, 3) := by decide +kernel
theorem dX12_digest_147 : decode cX12_digest 147 = .ok (.goto (-40), 3) := by decide +kernel
theorem dX12_digest_150 : decode cX12_digest 150 = .ok (.iconst 0, 1) := by decide +kernel
theorem dX12_digest_151 : decode cX12_digest 151 = .ok (.istore_n 3, 1) := by decide +kernel
theorem dX12_digest_152 : decode cX12_digest 152 = .ok (.iload_n 3, 1) := by decide +kernel
theorem dX12_digest_153 : decode cX12_digest 153 = .ok (.aload_n 0, 1) := by decide +kernel
theorem dX12_digest_154 : decode cX12_digest 154 = .ok (.getfield 194, 3) := by decide +kernel
theorem dX12_digest_157 : decode cX12_digest 157 = .ok (.if_icmp .ge 91, 3) := by decide +kernel
theorem dX12_digest_160 : decode cX12_digest 160 = .ok (.ldc2_w 484, 3) := by decide +kernel
theorem dX12_digest_163 : decode cX12_digest 163 = .ok (.ldc2_w 484, 3) := by decide +kernel
theorem dX12_digest_166 : decode cX12_digest 166 = .ok (.lload_n 1, 1) := by decide +kernel
theorem dX12_digest_167 : decode cX12_digest 167 = .ok (.lmul, 1) := by decide +kernel
theorem dX12_digest_168 : decode cX12_digest 168 = .ok (.aload_n 0, 1) := by decide +kernel
theorem dX12_digest_169 : decode cX12_digest 169 = .ok (.getfield 28, 3) := by decide +kernel
theorem dX12_digest_172 : decode cX12_digest 172 = .ok (.iload_n 3, 1) := by decide +kernel
theorem dX12_digest_173 : decode cX12_digest 173 = .ok (.iaload, 1) := by decide +kernel
theorem dX12_digest_174 : decode cX12_digest 174 = .ok (.i2l, 1) := by decide +kernel
theorem dX12_digest_175 : decode cX12_digest 175 = .ok (.ladd, 1) := by decide +kernel
theorem dX12_digest_176 : decode cX12_digest 176 = .ok (.lmul, 1) := by decide +kernel
theorem dX12_digest_177 : decode cX12_digest 177 = .ok (.aload_n 0, 1) := by decide +kernel
theorem dX12_digest_178 : decode cX12_digest 178 = .ok (.iload_n 3, 1) := by decide +kernel
theorem dX12_digest_179 : decode cX12_digest 179 = .ok (.iconst 2, 1) := by decide +kernel
theorem dX12_digest_180 : decode cX12_digest 180 = .ok (.invokevirtual 275, 3) := by decide +kernel
theorem dX12_digest_183 : decode cX12_digest 183 = .ok (.i2l, 1) := by decide +kernel
theorem dX12_digest_184 : decode cX12_digest 184 = .ok (.ladd, 1) := by decide +kernel
theorem dX12_digest_185 : decode cX12_digest 185 = .ok (.lstore_n 1, 1) := by decide +kernel
theorem dX12_digest_186 : decode cX12_digest 186 = .ok (.ldc2_w 484, 3) := by decide +kernel
theorem dX12_digest_189 : decode cX12_digest 189 = .ok (.lload_n 1, 1) := by decide +kernel
theorem dX12_digest_190 : decode cX12_digest 190 = .ok (.lmul, 1) := by decide +kernel
theorem dX12_digest_191 : decode cX12_digest 191 = .ok (.aload_n 0, 1) := by decide +kernel
theorem dX12_digest_192 : decode cX12_digest 192 = .ok (.getfield 31, 3) := by decide +kernel
theorem dX12_digest_195 : decode cX12_digest 195 = .ok (.iload_n 3, 1) := by decide +kernel
theorem dX12_digest_196 : decode cX12_digest 196 = .ok (.iaload, 1) := by decide +kernel
theorem dX12_digest_197 : decode cX12_digest 197 = .ok (.i2l, 1) := by decide +kernel
theorem dX12_digest_198 : decode cX12_digest 198 = .ok (.ladd, 1) := by decide +kernel
theorem dX12_digest_199 : decode cX12_digest 199 = .ok (.lstore_n 1, 1) := by decide +kernel
theorem dX12_digest_200 : decode cX12_digest 200 = .ok (.iconst 0, 1) := by decide +kernel
theorem dX12_digest_201 : decode cX12_digest 201 = .ok (.istore 4, 2) := by decide +kernel
theorem dX12_digest_203 : decode cX12_digest 203 = .ok (.iload 4, 2) := by decide +kernel
theorem dX12_digest_205 : decode cX12_digest 205 = .ok (.aload_n 0, 1) := by decide +kernel
theorem dX12_digest_206 : decode cX12_digest 206 = .ok (.getfield 40, 3) := by decide +kernel
theorem dX12_digest_209 : decode cX12_digest 209 = .ok (.iload_n 3, 1) := by decide +kernel
theorem dX12_digest_210 : decode cX12_digest 210 = .ok (.iaload, 1) := by decide +kernel
theorem dX12_digest_211 : decode cX12_digest 211 = .ok (.if_icmp .ge 31, 3) := by decide +kernel
theorem dX12_digest_214 : decode cX12_digest 214 = .ok (.ldc2_w 484, 3) := by decide +kernel
theorem dX12_digest_217 : decode cX12_digest 217 = .ok (.lload_n 1, 1) := by decide +kernel
theorem dX12_digest_218 : decode cX12_digest 218 = .ok (.lmul, 1) := by decide +kernel
theorem dX12_digest_219 : decode cX12_digest 219 = .ok (.aload_n 0, 1) := by decide +kernel
theorem dX12_digest_220 : decode cX12_digest 220 = .ok (.getfield 43, 3) := by decide +kernel
theorem dX12_digest_223 : decode cX12_digest 223 = .ok (.aload_n 0, 1) := by decide +kernel
theorem dX12_digest_224 : decode cX12_digest 224 = .ok (.getfield 37, 3) := by decide +kernel
theorem dX12_digest_227 : decode cX12_digest 227 = .ok (.iload_n 3, 1) := by decide +kernel
theorem dX12_digest_228 : decode cX12_digest 228 = .ok (.iaload, 1) := by decide +kernel
theorem dX12_digest_229 : decode cX12_digest 229 = .ok (.iload 4, 2) := by decide +kernel
theorem dX12_digest_231 : decode cX12_digest 231 = .ok (.iadd, 1) := by decide +kernel
theorem dX12_digest_232 : decode cX12_digest 232 = .ok (.iaload, 1) := by decide +kernel
theorem dX12_digest_233 : decode cX12_digest 233 = .ok (.i2l, 1) := by decide +kernel
theorem dX12_digest_234 : decode cX12_digest 234 = .ok (.ladd, 1) := by decide +kernel
theorem dX12_digest_235 : decode cX12_digest 235 = .ok (.lstore_n 1, 1) := by decide +kernel
theorem dX12_digest_236 : decode cX12_digest 236 = .ok (.iinc 4 1, 3) := by decide +kernel
theorem dX12_digest_239 : decode cX12_digest 239 = .ok (.goto (-36), 3) := by decide +kernel
theorem dX12_digest_242 : decode cX12_digest 242 = .ok (.iinc 3 1, 3) := by decide +kernel
theorem dX12_digest_245 : decode cX12_digest 245 = .ok (.goto (-93), 3) := by decide +kernel
theorem dX12_digest_248 : decode cX12_digest 248 = .ok (.iconst 0, 1) := by decide +kernel
theorem dX12_digest_249 : decode cX12_digest 249 = .ok (.istore_n 3, 1) := by decide +kernel
theorem dX12_digest_250 : decode cX12_digest 250 = .ok (.iload_n 3, 1) := by decide +kernel
theorem dX12_digest_251 : decode cX12_digest 251 = .ok (.aload_n 0, 1) := by decide +kernel
theorem dX12_digest_252 : decode cX12_digest 252 = .ok (.getfield 390, 3) := by decide +kernel
theorem dX12_digest_255 : decode cX12_digest 255 = .ok (.if_icmp .ge 35, 3) := by decide +kernel
theorem dX12_digest_258 : decode cX12_digest 258 = .ok (.ldc2_w 484, 3) := by decide +kernel
theorem dX12_digest_261 : decode cX12_digest 261 = .ok (.ldc2_w 484, 3) := by decide +kernel
theorem dX12_digest_264 : decode cX12_digest 264 = .ok (.lload_n 1, 1) := by decide +kernel
theorem dX12_digest_265 : decode cX12_digest 265 = .ok (.lmul, 1) := by decide +kernel
theorem dX12_digest_266 : decode cX12_digest 266 = .ok (.aload_n 0, 1) := by decide +kernel
theorem dX12_digest_267 : decode cX12_digest 267 = .ok (.getfield 124, 3) := by decide +kernel
theorem dX12_digest_270 : decode cX12_digest 270 = .ok (.iload_n 3, 1) := by decide +kernel
theorem dX12_digest_271 : decode cX12_digest 271 = .ok (.iaload, 1) := by decide +kernel
theorem dX12_digest_272 : decode cX12_digest 272 = .ok (.i2l, 1) := by decide +kernel
theorem dX12_digest_273 : decode cX12_digest 273 = .ok (.ladd, 1) := by decide +kernel
theorem dX12_digest_274 : decode cX12_digest 274 = .ok (.lmul, 1) := by decide +kernel
theorem dX12_digest_275 : decode cX12_digest 275 = .ok (.aload_n 0, 1) := by decide +kernel
theorem dX12_digest_276 : decode cX12_digest 276 = .ok (.getfield 127, 3) := by decide +kernel
theorem dX12_digest_279 : decode cX12_digest 279 = .ok (.iload_n 3, 1) := by decide +kernel
theorem dX12_digest_280 : decode cX12_digest 280 = .ok (.iaload, 1) := by decide +kernel
theorem dX12_digest_281 : decode cX12_digest 281 = .ok (.i2l, 1) := by decide +kernel
theorem dX12_digest_282 : decode cX12_digest 282 = .ok (.ladd, 1) := by decide +kernel
theorem dX12_digest_283 : decode cX12_digest 283 = .ok (.lstore_n 1, 1) := by decide +kernel
theorem dX12_digest_284 : decode cX12_digest 284 = .ok (.iinc 3 1, 3) := by decide +kernel
theorem dX12_digest_287 : decode cX12_digest 287 = .ok (.goto (-37), 3) := by decide +kernel
theorem dX12_digest_290 : decode cX12_digest 290 = .ok (.iconst 0, 1) := by decide +kernel
theorem dX12_digest_291 : decode cX12_digest 291 = .ok (.istore_n 3, 1) := by decide +kernel
theorem dX12_digest_292 : decode cX12_digest 292 = .ok (.iload_n 3, 1) := by decide +kernel
theorem dX12_digest_293 : decode cX12_digest 293 = .ok (.bipush 16, 2) := by decide +kernel
theorem dX12_digest_295 : decode cX12_digest 295 = .ok (.aload_n 0, 1) := by decide +kernel
theorem dX12_digest_296 : decode cX12_digest 296 = .ok (.getfield 408, 3) := by decide +kernel
theorem dX12_digest_299 : decode cX12_digest 299 = .ok (.imul, 1) := by decide +kernel
theorem dX12_digest_300 : decode cX12_digest 300 = .ok (.if_icmp .ge 23, 3) := by decide +kernel
theorem dX12_digest_303 : decode cX12_digest 303 = .ok (.ldc2_w 484, 3) := by decide +kernel
theorem dX12_digest_306 : decode cX12_digest 306 = .ok (.lload_n 1, 1) := by decide +kernel
theorem dX12_digest_307 : decode cX12_digest 307 = .ok (.lmul, 1) := by decide +kernel
theorem dX12_digest_308 : decode cX12_digest 308 = .ok (.aload_n 0, 1) := by decide +kernel
theorem dX12_digest_309 : decode cX12_digest 309 = .ok (.getfield 133, 3) := by decide +kernel
theorem dX12_digest_312 : decode cX12_digest 312 = .ok (.iload_n 3, 1) := by decide +kernel
theorem dX12_digest_313 : decode cX12_digest 313 = .ok (.iaload, 1) := by decide +kernel
theorem dX12_digest_314 : decode cX12_digest 314 = .ok (.i2l, 1) := by decide +kernel
theorem dX12_digest_315 : decode cX12_digest 315 = .ok (.ladd, 1) := by decide +kernel
theorem dX12_digest_316 : decode cX12_digest 316 = .ok (.lstore_n 1, 1) := by decide +kernel
theorem dX12_digest_317 : decode cX12_digest 317 = .ok (.iinc 3 1, 3) := by decide +kernel
theorem dX12_digest_320 : decode cX12_digest 320 = .ok (.goto (-28), 3) := by decide +kernel
theorem dX12_digest_323 : decode cX12_digest 323 = .ok (.iconst 0, 1) := by decide +kernel
theorem dX12_digest_324 : decode cX12_digest 324 = .ok (.istore_n 3, 1) := by decide +kernel
theorem dX12_digest_325 : decode cX12_digest 325 = .ok (.iload_n 3, 1) := by decide +kernel
theorem dX12_digest_326 : decode cX12_digest 326 = .ok (.aload_n 0, 1) := by decide +kernel
theorem dX12_digest_327 : decode cX12_digest 327 = .ok (.getfield 436, 3) := by decide +kernel
theorem dX12_digest_330 : decode cX12_digest 330 = .ok (.if_icmp .ge 23, 3) := by decide +kernel
theorem dX12_digest_333 : decode cX12_digest 333 = .ok (.ldc2_w 484, 3) := by decide +kernel
theorem dX12_digest_336 : decode cX12_digest 336 = .ok (.lload_n 1, 1) := by decide +kernel
theorem dX12_digest_337 : decode cX12_digest 337 = .ok (.lmul, 1) := by decide +kernel
theorem dX12_digest_338 : decode cX12_digest 338 = .ok (.aload_n 0, 1) := by decide +kernel
theorem dX12_digest_339 : decode cX12_digest 339 = .ok (.getfield 142, 3) := by decide +kernel
theorem dX12_digest_342 : decode cX12_digest 342 = .ok (.iload_n 3, 1) := by decide +kernel
theorem dX12_digest_343 : decode cX12_digest 343 = .ok (.iaload, 1) := by decide +kernel
theorem dX12_digest_344 : decode cX12_digest 344 = .ok (.i2l, 1) := by decide +kernel
theorem dX12_digest_345 : decode cX12_digest 345 = .ok (.ladd, 1) := by decide +kernel
theorem dX12_digest_346 : decode cX12_digest 346 = .ok (.lstore_n 1, 1) := by decide +kernel
theorem dX12_digest_347 : decode cX12_digest 347 = .ok (.iinc 3 1, 3) := by decide +kernel
theorem dX12_digest_350 : decode cX12_digest 350 = .ok (.goto (-25), 3) := by decide +kernel
theorem dX12_digest_353 : decode cX12_digest 353 = .ok (.iconst 0, 1) := by decide +kernel
theorem dX12_digest_354 : decode cX12_digest 354 = .ok (.istore_n 3, 1) := by decide +kernel
theorem dX12_digest_355 : decode cX12_digest 355 = .ok (.iload_n 3, 1) := by decide +kernel
theorem dX12_digest_356 : decode cX12_digest 356 = .ok (.aload_n 0, 1) := by decide +kernel
theorem dX12_digest_357 : decode cX12_digest 357 = .ok (.getfield 454, 3) := by decide +kernel
theorem dX12_digest_360 : decode cX12_digest 360 = .ok (.if_icmp .ge 35, 3) := by decide +kernel
theorem dX12_digest_363 : decode cX12_digest 363 = .ok (.ldc2_w 484, 3) := by decide +kernel
theorem dX12_digest_366 : decode cX12_digest 366 = .ok (.ldc2_w 484, 3) := by decide +kernel
theorem dX12_digest_369 : decode cX12_digest 369 = .ok (.lload_n 1, 1) := by decide +kernel
theorem dX12_digest_370 : decode cX12_digest 370 = .ok (.lmul, 1) := by decide +kernel
theorem dX12_digest_371 : decode cX12_digest 371 = .ok (.aload_n 0, 1) := by decide +kernel
theorem dX12_digest_372 : decode cX12_digest 372 = .ok (.getfield 145, 3) := by decide +kernel
theorem dX12_digest_375 : decode cX12_digest 375 = .ok (.iload_n 3, 1) := by decide +kernel
theorem dX12_digest_376 : decode cX12_digest 376 = .ok (.iaload, 1) := by decide +kernel
theorem dX12_digest_377 : decode cX12_digest 377 = .ok (.i2l, 1) := by decide +kernel
theorem dX12_digest_378 : decode cX12_digest 378 = .ok (.ladd, 1) := by decide +kernel
theorem dX12_digest_379 : decode cX12_digest 379 = .ok (.lmul, 1) := by decide +kernel
theorem dX12_digest_380 : decode cX12_digest 380 = .ok (.aload_n 0, 1) := by decide +kernel
theorem dX12_digest_381 : decode cX12_digest 381 = .ok (.getfield 148, 3) := by decide +kernel
theorem dX12_digest_384 : decode cX12_digest 384 = .ok (.iload_n 3, 1) := by decide +kernel
theorem dX12_digest_385 : decode cX12_digest 385 = .ok (.iaload, 1) := by decide +kernel
theorem dX12_digest_386 : decode cX12_digest 386 = .ok (.i2l, 1) := by decide +kernel
theorem dX12_digest_387 : decode cX12_digest 387 = .ok (.ladd, 1) := by decide +kernel
theorem dX12_digest_388 : decode cX12_digest 388 = .ok (.lstore_n 1, 1) := by decide +kernel
theorem dX12_digest_389 : decode cX12_digest 389 = .ok (.iinc 3 1, 3) := by decide +kernel
theorem dX12_digest_392 : decode cX12_digest 392 = .ok (.goto (-37), 3) := by decide +kernel
theorem dX12_digest_395 : decode cX12_digest 395 = .ok (.iconst 0, 1) := by decide +kernel
theorem dX12_digest_396 : decode cX12_digest 396 = .ok (.istore_n 3, 1) := by decide +kernel
theorem dX12_digest_397 : decode cX12_digest 397 = .ok (.iload_n 3, 1) := by decide +kernel
theorem dX12_digest_398 : decode cX12_digest 398 = .ok (.iconst 4, 1) := by decide +kernel
theorem dX12_digest_399 : decode cX12_digest 399 = .ok (.if_icmp .ge 63, 3) := by decide +kernel
theorem dX12_digest_402 : decode cX12_digest 402 = .ok (.ldc2_w 484, 3) := by decide +kernel
theorem dX12_digest_405 : decode cX12_digest 405 = .ok (.lload_n 1, 1) := by decide +kernel
theorem dX12_digest_406 : decode cX12_digest 406 = .ok (.lmul, 1) := by decide +kernel
theorem dX12_digest_407 : decode cX12_digest 407 = .ok (.aload_n 0, 1) := by decide +kernel
theorem dX12_digest_408 : decode cX12_digest 408 = .ok (.getfield 154, 3) := by decide +kernel
theorem dX12_digest_411 : decode cX12_digest 411 = .ok (.iload_n 3, 1) := by decide +kernel
theorem dX12_digest_412 : decode cX12_digest 412 = .ok (.iaload, 1) := by decide +kernel
theorem dX12_digest_413 : decode cX12_digest 413 = .ok (.i2l, 1) := by decide +kernel
theorem dX12_digest_414 : decode cX12_digest 414 = .ok (.ladd, 1) := by decide +kernel
theorem dX12_digest_415 : decode cX12_digest 415 = .ok (.lstore_n 1, 1) := by decide +kernel
theorem dX12_digest_416 : decode cX12_digest 416 = .ok (.iconst 0, 1) := by decide +kernel
theorem dX12_digest_417 : decode cX12_digest 417 = .ok (.istore 4, 2) := by decide +kernel
theorem dX12_digest_419 : decode cX12_digest 419 = .ok (.iload 4, 2) := by decide +kernel
theorem dX12_digest_421 : decode cX12_digest 421 = .ok (.aload_n 0, 1) := by decide +kernel
theorem dX12_digest_422 : decode cX12_digest 422 = .ok (.getfield 154, 3) := by decide +kernel
theorem dX12_digest_425 : decode cX12_digest 425 = .ok (.iload_n 3, 1) := by decide +kernel
theorem dX12_digest_426 : decode cX12_digest 426 = .ok (.iaload, 1) := by decide +kernel
theorem dX12_digest_427 : decode cX12_digest 427 = .ok (.if_icmp .ge 29, 3) := by decide +kernel
theorem dX12_digest_430 : decode cX12_digest 430 = .ok (.ldc2_w 484, 3) := by decide +kernel
theorem dX12_digest_433 : decode cX12_digest 433 = .ok (.lload_n 1, 1) := by decide +kernel
theorem dX12_digest_434 : decode cX12_digest 434 = .ok (.lmul, 1) := by decide +kernel
theorem dX12_digest_435 : decode cX12_digest 435 = .ok (.aload_n 0, 1) := by decide +kernel
theorem dX12_digest_436 : decode cX12_digest 436 = .ok (.getfield 157, 3) := by decide +kernel
theorem dX12_digest_439 : decode cX12_digest 439 = .ok (.bipush 12, 2) := by decide +kernel
theorem dX12_digest_441 : decode cX12_digest 441 = .ok (.iload_n 3, 1) := by decide +kernel
theorem dX12_digest_442 : decode cX12_digest 442 = .ok (.imul, 1) := by decide +kernel
theorem dX12_digest_443 : decode cX12_digest 443 = .ok (.iload 4, 2) := by decide +kernel
theorem dX12_digest_445 : decode cX12_digest 445 = .ok (.iadd, 1) := by decide +kernel
theorem dX12_digest_446 : decode cX12_digest 446 = .ok (.iaload, 1) := by decide +kernel
theorem dX12_digest_447 : decode cX12_digest 447 = .ok (.i2l, 1) := by decide +kernel
theorem dX12_digest_448 : decode cX12_digest 448 = .ok (.ladd, 1) := by decide +kernel
theorem dX12_digest_449 : decode cX12_digest 449 = .ok (.lstore_n 1, 1) := by decide +kernel
theorem dX12_digest_450 : decode cX12_digest 450 = .ok (.iinc 4 1, 3) := by decide +kernel
theorem dX12_digest_453 : decode cX12_digest 453 = .ok (.goto (-34), 3) := by decide +kernel
theorem dX12_digest_456 : decode cX12_digest 456 = .ok (.iinc 3 1, 3) := by decide +kernel
theorem dX12_digest_459 : decode cX12_digest 459 = .ok (.goto (-62), 3) := by decide +kernel
theorem dX12_digest_462 : decode cX12_digest 462 = .ok (.lload_n 1, 1) := by decide +kernel
theorem dX12_digest_463 : decode cX12_digest 463 = .ok (.lreturn, 1) := by decide +kernel
