theorem dX0_forget_0 : decode cX0_forget 0 = .ok (.aload_n 0, 1) := by decide +kernel
theorem dX0_forget_1 : decode cX0_forget 1 = .ok (.iconst (-1), 1) := by decide +kernel
theorem dX0_forget_2 : decode cX0_forget 2 = .ok (.putfield 9, 3) := by decide +kernel
theorem dX0_forget_5 : decode cX0_forget 5 = .ok (.return_, 1) := by decide +kernel
theorem dX0_nodeFor_0 : decode cX0_nodeFor 0 = .ok (.iload_n 2, 1) := by decide +kernel
theorem dX0_nodeFor_1 : decode cX0_nodeFor 1 = .ok (.iload_n 3, 1) := by decide +kernel
theorem dX0_nodeFor_2 : decode cX0_nodeFor 2 = .ok (.if_icmp .ne 5, 3) := by decide +kernel
theorem dX0_nodeFor_5 : decode cX0_nodeFor 5 = .ok (.iload_n 2, 1) := by decide +kernel
theorem dX0_nodeFor_6 : decode cX0_nodeFor 6 = .ok (.ireturn, 1) := by decide +kernel
theorem dX0_nodeFor_7 : decode cX0_nodeFor 7 = .ok (.iload_n 2, 1) := by decide +kernel
theorem dX0_nodeFor_8 : decode cX0_nodeFor 8 = .ok (.ldc 96, 2) := by decide +kernel
theorem dX0_nodeFor_10 : decode cX0_nodeFor 10 = .ok (.imul, 1) := by decide +kernel
theorem dX0_nodeFor_11 : decode cX0_nodeFor 11 = .ok (.iload_n 3, 1) := by decide +kernel
theorem dX0_nodeFor_12 : decode cX0_nodeFor 12 = .ok (.sipush 30011, 3) := by decide +kernel
theorem dX0_nodeFor_15 : decode cX0_nodeFor 15 = .ok (.imul, 1) := by decide +kernel
theorem dX0_nodeFor_16 : decode cX0_nodeFor 16 = .ok (.iadd, 1) := by decide +kernel
theorem dX0_nodeFor_17 : decode cX0_nodeFor 17 = .ok (.iload_n 1, 1) := by decide +kernel
theorem dX0_nodeFor_18 : decode cX0_nodeFor 18 = .ok (.iadd, 1) := by decide +kernel
theorem dX0_nodeFor_19 : decode cX0_nodeFor 19 = .ok (.aload_n 0, 1) := by decide +kernel
theorem dX0_nodeFor_20 : decode cX0_nodeFor 20 = .ok (.getfield 21, 3) := by decide +kernel
theorem dX0_nodeFor_23 : decode cX0_nodeFor 23 = .ok (.iand, 1) := by decide +kernel
theorem dX0_nodeFor_24 : decode cX0_nodeFor 24 = .ok (.istore 4, 2) := by decide +kernel
theorem dX0_nodeFor_26 : decode cX0_nodeFor 26 = .ok (.iconst 0, 1) := by decide +kernel
theorem dX0_nodeFor_27 : decode cX0_nodeFor 27 = .ok (.istore 5, 2) := by decide +kernel
theorem dX0_nodeFor_29 : decode cX0_nodeFor 29 = .ok (.iload 5, 2) := by decide +kernel
theorem dX0_nodeFor_31 : decode cX0_nodeFor 31 = .ok (.aload_n 0, 1) := by decide +kernel
theorem dX0_nodeFor_32 : decode cX0_nodeFor 32 = .ok (.getfield 21, 3) := by decide +kernel
theorem dX0_nodeFor_35 : decode cX0_nodeFor 35 = .ok (.if_icmp .gt 75, 3) := by decide +kernel
theorem dX0_nodeFor_38 : decode cX0_nodeFor 38 = .ok (.aload_n 0, 1) := by decide +kernel
theorem dX0_nodeFor_39 : decode cX0_nodeFor 39 = .ok (.getfield 31, 3) := by decide +kernel
theorem dX0_nodeFor_42 : decode cX0_nodeFor 42 = .ok (.iload 4, 2) := by decide +kernel
theorem dX0_nodeFor_44 : decode cX0_nodeFor 44 = .ok (.iaload, 1) := by decide +kernel
theorem dX0_nodeFor_45 : decode cX0_nodeFor 45 = .ok (.ifCond .eq 65, 3) := by decide +kernel
theorem dX0_nodeFor_48 : decode cX0_nodeFor 48 = .ok (.aload_n 0, 1) := by decide +kernel
theorem dX0_nodeFor_49 : decode cX0_nodeFor 49 = .ok (.getfield 31, 3) := by decide +kernel
theorem dX0_nodeFor_52 : decode cX0_nodeFor 52 = .ok (.iload 4, 2) := by decide +kernel
theorem dX0_nodeFor_54 : decode cX0_nodeFor 54 = .ok (.iaload, 1) := by decide +kernel
theorem dX0_nodeFor_55 : decode cX0_nodeFor 55 = .ok (.istore 6, 2) := by decide +kernel
theorem dX0_nodeFor_57 : decode cX0_nodeFor 57 = .ok (.aload_n 0, 1) := by decide +kernel
theorem dX0_nodeFor_58 : decode cX0_nodeFor 58 = .ok (.getfield 37, 3) := by decide +kernel
theorem dX0_nodeFor_61 : decode cX0_nodeFor 61 = .ok (.iload 6, 2) := by decide +kernel
theorem dX0_nodeFor_63 : decode cX0_nodeFor 63 = .ok (.iaload, 1) := by decide +kernel
theorem dX0_nodeFor_64 : decode cX0_nodeFor 64 = .ok (.iload_n 2, 1) := by decide +kernel
theorem dX0_nodeFor_65 : decode cX0_nodeFor 65 = .ok (.if_icmp .ne 28, 3) := by decide +kernel
theorem dX0_nodeFor_68 : decode cX0_nodeFor 68 = .ok (.aload_n 0, 1) := by decide +kernel
theorem dX0_nodeFor_69 : decode cX0_nodeFor 69 = .ok (.getfield 40, 3) := by decide +kernel
theorem dX0_nodeFor_72 : decode cX0_nodeFor 72 = .ok (.iload 6, 2) := by decide +kernel
theorem dX0_nodeFor_74 : decode cX0_nodeFor 74 = .ok (.iaload, 1) := by decide +kernel
theorem dX0_nodeFor_75 : decode cX0_nodeFor 75 = .ok (.iload_n 3, 1) := by decide +kernel
theorem dX0_nodeFor_76 : decode cX0_nodeFor 76 = .ok (.if_icmp .ne 17, 3) := by decide +kernel
theorem dX0_nodeFor_79 : decode cX0_nodeFor 79 = .ok (.aload_n 0, 1) := by decide +kernel
theorem dX0_nodeFor_80 : decode cX0_nodeFor 80 = .ok (.getfield 34, 3) := by decide +kernel
theorem dX0_nodeFor_83 : decode cX0_nodeFor 83 = .ok (.iload 6, 2) := by decide +kernel
theorem dX0_nodeFor_85 : decode cX0_nodeFor 85 = .ok (.iaload, 1) := by decide +kernel
theorem dX0_nodeFor_86 : decode cX0_nodeFor 86 = .ok (.iload_n 1, 1) := by decide +kernel
theorem dX0_nodeFor_87 : decode cX0_nodeFor 87 = .ok (.if_icmp .ne 6, 3) := by decide +kernel
theorem dX0_nodeFor_90 : decode cX0_nodeFor 90 = .ok (.iload 6, 2) := by decide +kernel
theorem dX0_nodeFor_92 : decode cX0_nodeFor 92 = .ok (.ireturn, 1) := by decide +kernel
theorem dX0_nodeFor_93 : decode cX0_nodeFor 93 = .ok (.iload 4, 2) := by decide +kernel
theorem dX0_nodeFor_95 : decode cX0_nodeFor 95 = .ok (.iconst 1, 1) := by decide +kernel
theorem dX0_nodeFor_96 : decode cX0_nodeFor 96 = .ok (.iadd, 1) := by decide +kernel
theorem dX0_nodeFor_97 : decode cX0_nodeFor 97 = .ok (.aload_n 0, 1) := by decide +kernel
theorem dX0_nodeFor_98 : decode cX0_nodeFor 98 = .ok (.getfield 21, 3) := by decide +kernel
theorem dX0_nodeFor_101 : decode cX0_nodeFor 101 = .ok (.iand, 1) := by decide +kernel
theorem dX0_nodeFor_102 : decode cX0_nodeFor 102 = .ok (.istore 4, 2) := by decide +kernel
theorem dX0_nodeFor_104 : decode cX0_nodeFor 104 = .ok (.iinc 5 1, 3) := by decide +kernel
theorem dX0_nodeFor_107 : decode cX0_nodeFor 107 = .ok (.goto (-78), 3) := by decide +kernel
theorem dX0_nodeFor_110 : decode cX0_nodeFor 110 = .ok (.aload_n 0, 1) := by decide +kernel
theorem dX0_nodeFor_111 : decode cX0_nodeFor 111 = .ok (.getfield 15, 3) := by decide +kernel
theorem dX0_nodeFor_114 : decode cX0_nodeFor 114 = .ok (.aload_n 0, 1) := by decide +kernel
theorem dX0_nodeFor_115 : decode cX0_nodeFor 115 = .ok (.getfield 34, 3) := by decide +kernel
theorem dX0_nodeFor_118 : decode cX0_nodeFor 118 = .ok (.arraylength, 1) := by decide +kernel
theorem dX0_nodeFor_119 : decode cX0_nodeFor 119 = .ok (.if_icmp .lt 5, 3) := by decide +kernel
theorem dX0_nodeFor_122 : decode cX0_nodeFor 122 = .ok (.iload_n 2, 1) := by decide +kernel
theorem dX0_nodeFor_123 : decode cX0_nodeFor 123 = .ok (.ireturn, 1) := by decide +kernel
theorem dX0_nodeFor_124 : decode cX0_nodeFor 124 = .ok (.aload_n 0, 1) := by decide +kernel
theorem dX0_nodeFor_125 : decode cX0_nodeFor 125 = .ok (.getfield 34, 3) := by decide +kernel
theorem dX0_nodeFor_128 : decode cX0_nodeFor 128 = .ok (.aload_n 0, 1) := by decide +kernel
theorem dX0_nodeFor_129 : decode cX0_nodeFor 129 = .ok (.getfield 15, 3) := by decide +kernel
theorem dX0_nodeFor_132 : decode cX0_nodeFor 132 = .ok (.iload_n 1, 1) := by decide +kernel
theorem dX0_nodeFor_133 : decode cX0_nodeFor 133 = .ok (.iastore, 1) := by decide +kernel
theorem dX0_nodeFor_134 : decode cX0_nodeFor 134 = .ok (.aload_n 0, 1) := by decide +kernel
theorem dX0_nodeFor_135 : decode cX0_nodeFor 135 = .ok (.getfield 37, 3) := by decide +kernel
theorem dX0_nodeFor_138 : decode cX0_nodeFor 138 = .ok (.aload_n 0, 1) := by decide +kernel
theorem dX0_nodeFor_139 : decode cX0_nodeFor 139 = .ok (.getfield 15, 3) := by decide +kernel
theorem dX0_nodeFor_142 : decode cX0_nodeFor 142 = .ok (.iload_n 2, 1) := by decide +kernel
theorem dX0_nodeFor_143 : decode cX0_nodeFor 143 = .ok (.iastore, 1) := by decide +kernel
theorem dX0_nodeFor_144 : decode cX0_nodeFor 144 = .ok (.aload_n 0, 1) := by decide +kernel
theorem dX0_nodeFor_145 : decode cX0_nodeFor 145 = .ok (.getfield 40, 3) := by decide +kernel
theorem dX0_nodeFor_148 : decode cX0_nodeFor 148 = .ok (.aload_n 0, 1) := by decide +kernel
theorem dX0_nodeFor_149 : decode cX0_nodeFor 149 = .ok (.getfield 15, 3) := by decide +kernel
theorem dX0_nodeFor_152 : decode cX0_nodeFor 152 = .ok (.iload_n 3, 1) := by decide +kernel
theorem dX0_nodeFor_153 : decode cX0_nodeFor 153 = .ok (.iastore, 1) := by decide +kernel
theorem dX0_nodeFor_154 : decode cX0_nodeFor 154 = .ok (.aload_n 0, 1) := by decide +kernel
theorem dX0_nodeFor_155 : decode cX0_nodeFor 155 = .ok (.getfield 31, 3) := by decide +kernel
theorem dX0_nodeFor_158 : decode cX0_nodeFor 158 = .ok (.iload 4, 2) := by decide +kernel
theorem dX0_nodeFor_160 : decode cX0_nodeFor 160 = .ok (.aload_n 0, 1) := by decide +kernel
theorem dX0_nodeFor_161 : decode cX0_nodeFor 161 = .ok (.getfield 15, 3) := by decide +kernel
theorem dX0_nodeFor_164 : decode cX0_nodeFor 164 = .ok (.iastore, 1) := by decide +kernel
theorem dX0_nodeFor_165 : decode cX0_nodeFor 165 = .ok (.aload_n 0, 1) := by decide +kernel
theorem dX0_nodeFor_166 : decode cX0_nodeFor 166 = .ok (.dup, 1) := by decide +kernel
theorem dX0_nodeFor_167 : decode cX0_nodeFor 167 = .ok (.getfield 15, 3) := by decide +kernel
theorem dX0_nodeFor_170 : decode cX0_nodeFor 170 = .ok (.iconst 1, 1) := by decide +kernel
theorem dX0_nodeFor_171 : decode cX0_nodeFor 171 = .ok (.iadd, 1) := by decide +kernel
theorem dX0_nodeFor_172 : decode cX0_nodeFor 172 = .ok (.putfield 15, 3) := by decide +kernel
theorem dX0_nodeFor_175 : decode cX0_nodeFor 175 = .ok (.aload_n 0, 1) := by decide +kernel
theorem dX0_nodeFor_176 : decode cX0_nodeFor 176 = .ok (.getfield 15, 3) := by decide +kernel
theorem dX0_nodeFor_179 : decode cX0_nodeFor 179 = .ok (.iconst 1, 1) := by decide +kernel
theorem dX0_nodeFor_180 : decode cX0_nodeFor 180 = .ok (.isub, 1) := by decide +kernel
theorem dX0_nodeFor_181 : decode cX0_nodeFor 181 = .ok (.ireturn, 1) := by decide +kernel
theorem dX0_drawnSize_0 : decode cX0_drawnSize 0 = .ok (.aload_n 0, 1) := by decide +kernel
theorem dX0_drawnSize_1 : decode cX0_drawnSize 1 = .ok (.getfield 15, 3) := by decide +kernel
theorem dX0_drawnSize_4 : decode cX0_drawnSize 4 = .ok (.iconst 2, 1) := by decide +kernel
theorem dX0_drawnSize_5 : decode cX0_drawnSize 5 = .ok (.isub, 1) := by decide +kernel
theorem dX0_drawnSize_6 : decode cX0_drawnSize 6 = .ok (.ireturn, 1) := by decide +kernel
theorem dX0_takeOdds_0 : decode cX0_takeOdds 0 = .ok (.iconst 0, 1) := by decide +kernel
theorem dX0_takeOdds_1 : decode cX0_takeOdds 1 = .ok (.istore_n 2, 1) := by decide +kernel
theorem dX0_takeOdds_2 : decode cX0_takeOdds 2 = .ok (.iload_n 2, 1) := by decide +kernel
theorem dX0_takeOdds_3 : decode cX0_takeOdds 3 = .ok (.aload_n 0, 1) := by decide +kernel
theorem dX0_takeOdds_4 : decode cX0_takeOdds 4 = .ok (.getfield 58, 3) := by decide +kernel
theorem dX0_takeOdds_7 : decode cX0_takeOdds 7 = .ok (.getfield 68, 3) := by decide +kernel
theorem dX0_takeOdds_10 : decode cX0_takeOdds 10 = .ok (.if_icmp .ge 47, 3) := by decide +kernel
theorem dX0_takeOdds_13 : decode cX0_takeOdds 13 = .ok (.aload_n 0, 1) := by decide +kernel
theorem dX0_takeOdds_14 : decode cX0_takeOdds 14 = .ok (.getfield 58, 3) := by decide +kernel
theorem dX0_takeOdds_17 : decode cX0_takeOdds 17 = .ok (.getfield 104, 3) := by decide +kernel
theorem dX0_takeOdds_20 : decode cX0_takeOdds 20 = .ok (.iload_n 2, 1) := by decide +kernel
theorem dX0_takeOdds_21 : decode cX0_takeOdds 21 = .ok (.iaload, 1) := by decide +kernel
theorem dX0_takeOdds_22 : decode cX0_takeOdds 22 = .ok (.istore_n 3, 1) := by decide +kernel
theorem dX0_takeOdds_23 : decode cX0_takeOdds 23 = .ok (.aload_n 0, 1) := by decide +kernel
theorem dX0_takeOdds_24 : decode cX0_takeOdds 24 = .ok (.getfield 51, 3) := by decide +kernel
theorem dX0_takeOdds_27 : decode cX0_takeOdds 27 = .ok (.iload_n 2, 1) := by decide +kernel
theorem dX0_takeOdds_28 : decode cX0_takeOdds 28 = .ok (.iload_n 1, 1) := by decide +kernel
theorem dX0_takeOdds_29 : decode cX0_takeOdds 29 = .ok (.iload_n 3, 1) := by decide +kernel
theorem dX0_takeOdds_30 : decode cX0_takeOdds 30 = .ok (.ishr, 1) := by decide +kernel
theorem dX0_takeOdds_31 : decode cX0_takeOdds 31 = .ok (.iconst 1, 1) := by decide +kernel
theorem dX0_takeOdds_32 : decode cX0_takeOdds 32 = .ok (.iand, 1) := by decide +kernel
theorem dX0_takeOdds_33 : decode cX0_takeOdds 33 = .ok (.iconst 1, 1) := by decide +kernel
theorem dX0_takeOdds_34 : decode cX0_takeOdds 34 = .ok (.if_icmp .ne 7, 3) := by decide +kernel
theorem dX0_takeOdds_37 : decode cX0_takeOdds 37 = .ok (.iconst 0, 1) := by decide +kernel
theorem dX0_takeOdds_38 : decode cX0_takeOdds 38 = .ok (.goto 12, 3) := by decide +kernel
theorem dX0_takeOdds_41 : decode cX0_takeOdds 41 = .ok (.aload_n 0, 1) := by decide +kernel
theorem dX0_takeOdds_42 : decode cX0_takeOdds 42 = .ok (.getfield 54, 3) := by decide +kernel
theorem dX0_takeOdds_45 : decode cX0_takeOdds 45 = .ok (.iload_n 3, 1) := by decide +kernel
theorem dX0_takeOdds_46 : decode cX0_takeOdds 46 = .ok (.iconst 2, 1) := by decide +kernel
theorem dX0_takeOdds_47 : decode cX0_takeOdds 47 = .ok (.invokevirtual 109, 3) := by decide +kernel
theorem dX0_takeOdds_50 : decode cX0_takeOdds 50 = .ok (.iastore, 1) := by decide +kernel
theorem dX0_takeOdds_51 : decode cX0_takeOdds 51 = .ok (.iinc 2 1, 3) := by decide +kernel
theorem dX0_takeOdds_54 : decode cX0_takeOdds 54 = .ok (.goto (-52), 3) := by decide +kernel
theorem dX0_takeOdds_57 : decode cX0_takeOdds 57 = .ok (.return_, 1) := by decide +kernel
theorem dX1_lastMinute_0 : decode cX1_lastMinute 0 = .ok (.aload_n 0, 1) := by decide +kernel
theorem dX1_lastMinute_1 : decode cX1_lastMinute 1 = .ok (.getfield 18, 3) := by decide +kernel
theorem dX1_lastMinute_4 : decode cX1_lastMinute 4 = .ok (.ifCond .ne 7, 3) := by decide +kernel
theorem dX1_lastMinute_7 : decode cX1_lastMinute 7 = .ok (.iconst 0, 1) := by decide +kernel
theorem dX1_lastMinute_8 : decode cX1_lastMinute 8 = .ok (.goto 14, 3) := by decide +kernel
theorem dX1_lastMinute_11 : decode cX1_lastMinute 11 = .ok (.aload_n 0, 1) := by decide +kernel
theorem dX1_lastMinute_12 : decode cX1_lastMinute 12 = .ok (.getfield 15, 3) := by decide +kernel
theorem dX1_lastMinute_15 : decode cX1_lastMinute 15 = .ok (.aload_n 0, 1) := by decide +kernel
theorem dX1_lastMinute_16 : decode cX1_lastMinute 16 = .ok (.getfield 18, 3) := by decide +kernel
theorem dX1_lastMinute_19 : decode cX1_lastMinute 19 = .ok (.iconst 1, 1) := by decide +kernel
theorem dX1_lastMinute_20 : decode cX1_lastMinute 20 = .ok (.isub, 1) := by decide +kernel
theorem dX1_lastMinute_21 : decode cX1_lastMinute 21 = .ok (.iaload, 1) := by decide +kernel
theorem dX1_lastMinute_22 : decode cX1_lastMinute 22 = .ok (.ireturn, 1) := by decide +kernel
theorem dX1_append_0 : decode cX1_append 0 = .ok (.aload_n 0, 1) := by decide +kernel
theorem dX1_append_1 : decode cX1_append 1 = .ok (.getfield 18, 3) := by decide +kernel
theorem dX1_append_4 : decode cX1_append 4 = .ok (.bipush 40, 2) := by decide +kernel
theorem dX1_append_6 : decode cX1_append 6 = .ok (.if_icmp .lt 5, 3) := by decide +kernel
theorem dX1_append_9 : decode cX1_append 9 = .ok (.iconst 0, 1) := by decide +kernel
theorem dX1_append_10 : decode cX1_append 10 = .ok (.ireturn, 1) := by decide +kernel
theorem dX1_append_11 : decode cX1_append 11 = .ok (.aload_n 0, 1) := by decide +kernel
theorem dX1_append_12 : decode cX1_append 12 = .ok (.getfield 11, 3) := by decide +kernel
theorem dX1_append_15 : decode cX1_append 15 = .ok (.aload_n 0, 1) := by decide +kernel
theorem dX1_append_16 : decode cX1_append 16 = .ok (.getfield 18, 3) := by decide +kernel
theorem dX1_append_19 : decode cX1_append 19 = .ok (.iload_n 1, 1) := by decide +kernel
theorem dX1_append_20 : decode cX1_append 20 = .ok (.iastore, 1) := by decide +kernel
theorem dX1_append_21 : decode cX1_append 21 = .ok (.aload_n 0, 1) := by decide +kernel
theorem dX1_append_22 : decode cX1_append 22 = .ok (.getfield 15, 3) := by decide +kernel
theorem dX1_append_25 : decode cX1_append 25 = .ok (.aload_n 0, 1) := by decide +kernel
theorem dX1_append_26 : decode cX1_append 26 = .ok (.getfield 18, 3) := by decide +kernel
theorem dX1_append_29 : decode cX1_append 29 = .ok (.iload_n 2, 1) := by decide +kernel
theorem dX1_append_30 : decode cX1_append 30 = .ok (.iastore, 1) := by decide +kernel
theorem dX1_append_31 : decode cX1_append 31 = .ok (.aload_n 0, 1) := by decide +kernel
theorem dX1_append_32 : decode cX1_append 32 = .ok (.dup, 1) := by decide +kernel
theorem dX1_append_33 : decode cX1_append 33 = .ok (.getfield 18, 3) := by decide +kernel
theorem dX1_append_36 : decode cX1_append 36 = .ok (.iconst 1, 1) := by decide +kernel
theorem dX1_append_37 : decode cX1_append 37 = .ok (.iadd, 1) := by decide +kernel
theorem dX1_append_38 : decode cX1_append 38 = .ok (.putfield 18, 3) := by decide +kernel
theorem dX1_append_41 : decode cX1_append 41 = .ok (.iconst 1, 1) := by decide +kernel
theorem dX1_append_42 : decode cX1_append 42 = .ok (.ireturn, 1) := by decide +kernel
theorem dX1_firstTooSoon_0 : decode cX1_firstTooSoon 0 = .ok (.iconst 0, 1) := by decide +kernel
theorem dX1_firstTooSoon_1 : decode cX1_firstTooSoon 1 = .ok (.istore_n 1, 1) := by decide +kernel
theorem dX1_firstTooSoon_2 : decode cX1_firstTooSoon 2 = .ok (.iconst 0, 1) := by decide +kernel
theorem dX1_firstTooSoon_3 : decode cX1_firstTooSoon 3 = .ok (.istore_n 2, 1) := by decide +kernel
theorem dX1_firstTooSoon_4 : decode cX1_firstTooSoon 4 = .ok (.iload_n 2, 1) := by decide +kernel
theorem dX1_firstTooSoon_5 : decode cX1_firstTooSoon 5 = .ok (.aload_n 0, 1) := by decide +kernel
theorem dX1_firstTooSoon_6 : decode cX1_firstTooSoon 6 = .ok (.getfield 18, 3) := by decide +kernel
theorem dX1_firstTooSoon_9 : decode cX1_firstTooSoon 9 = .ok (.if_icmp .ge 43, 3) := by decide +kernel
theorem dX1_firstTooSoon_12 : decode cX1_firstTooSoon 12 = .ok (.aload_n 0, 1) := by decide +kernel
theorem dX1_firstTooSoon_13 : decode cX1_firstTooSoon 13 = .ok (.getfield 15, 3) := by decide +kernel
theorem dX1_firstTooSoon_16 : decode cX1_firstTooSoon 16 = .ok (.iload_n 2, 1) := by decide +kernel
theorem dX1_firstTooSoon_17 : decode cX1_firstTooSoon 17 = .ok (.iaload, 1) := by decide +kernel
theorem dX1_firstTooSoon_18 : decode cX1_firstTooSoon 18 = .ok (.iload_n 1, 1) := by decide +kernel
theorem dX1_firstTooSoon_19 : decode cX1_firstTooSoon 19 = .ok (.isub, 1) := by decide +kernel
theorem dX1_firstTooSoon_20 : decode cX1_firstTooSoon 20 = .ok (.aload_n 0, 1) := by decide +kernel
theorem dX1_firstTooSoon_21 : decode cX1_firstTooSoon 21 = .ok (.getfield 33, 3) := by decide +kernel
theorem dX1_firstTooSoon_24 : decode cX1_firstTooSoon 24 = .ok (.aload_n 0, 1) := by decide +kernel
theorem dX1_firstTooSoon_25 : decode cX1_firstTooSoon 25 = .ok (.getfield 11, 3) := by decide +kernel
theorem dX1_firstTooSoon_28 : decode cX1_firstTooSoon 28 = .ok (.iload_n 2, 1) := by decide +kernel
theorem dX1_firstTooSoon_29 : decode cX1_firstTooSoon 29 = .ok (.iaload, 1) := by decide +kernel
theorem dX1_firstTooSoon_30 : decode cX1_firstTooSoon 30 = .ok (.iconst 1, 1) := by decide +kernel
theorem dX1_firstTooSoon_31 : decode cX1_firstTooSoon 31 = .ok (.invokevirtual 43, 3) := by decide +kernel
theorem dX1_firstTooSoon_34 : decode cX1_firstTooSoon 34 = .ok (.if_icmp .ge 5, 3) := by decide +kernel
theorem dX1_firstTooSoon_37 : decode cX1_firstTooSoon 37 = .ok (.iload_n 2, 1) := by decide +kernel
theorem dX1_firstTooSoon_38 : decode cX1_firstTooSoon 38 = .ok (.ireturn, 1) := by decide +kernel
theorem dX1_firstTooSoon_39 : decode cX1_firstTooSoon 39 = .ok (.aload_n 0, 1) := by decide +kernel
theorem dX1_firstTooSoon_40 : decode cX1_firstTooSoon 40 = .ok (.getfield 15, 3) := by decide +kernel
theorem dX1_firstTooSoon_43 : decode cX1_firstTooSoon 43 = .ok (.iload_n 2, 1) := by decide +kernel
theorem dX1_firstTooSoon_44 : decode cX1_firstTooSoon 44 = .ok (.iaload, 1) := by decide +kernel
theorem dX1_firstTooSoon_45 : decode cX1_firstTooSoon 45 = .ok (.istore_n 1, 1) := by decide +kernel
theorem dX1_firstTooSoon_46 : decode cX1_firstTooSoon 46 = .ok (.iinc 2 1, 3) := by decide +kernel
theorem dX1_firstTooSoon_49 : decode cX1_firstTooSoon 49 = .ok (.goto (-45), 3) := by decide +kernel
theorem dX1_firstTooSoon_52 : decode cX1_firstTooSoon 52 = .ok (.iconst (-1), 1) := by decide +kernel
theorem dX1_firstTooSoon_53 : decode cX1_firstTooSoon 53 = .ok (.ireturn, 1) := by decide +kernel
theorem dX1_knotEvent_0 : decode cX1_knotEvent 0 = .ok (.aload_n 0, 1) := by decide +kernel
theorem dX1_knotEvent_1 : decode cX1_knotEvent 1 = .ok (.getfield 37, 3) := by decide +kernel
theorem dX1_knotEvent_4 : decode cX1_knotEvent 4 = .ok (.getfield 56, 3) := by decide +kernel
theorem dX1_knotEvent_7 : decode cX1_knotEvent 7 = .ok (.iload_n 1, 1) := by decide +kernel
theorem dX1_knotEvent_8 : decode cX1_knotEvent 8 = .ok (.iaload, 1) := by decide +kernel
theorem dX1_knotEvent_9 : decode cX1_knotEvent 9 = .ok (.tableswitch 67 0 3 #[31, 46, 53, 60], 31) := by decide +kernel
theorem dX1_knotEvent_40 : decode cX1_knotEvent 40 = .ok (.aload_n 0, 1) := by decide +kernel
theorem dX1_knotEvent_41 : decode cX1_knotEvent 41 = .ok (.aload_n 0, 1) := by decide +kernel
theorem dX1_knotEvent_42 : decode cX1_knotEvent 42 = .ok (.getfield 37, 3) := by decide +kernel
theorem dX1_knotEvent_45 : decode cX1_knotEvent 45 = .ok (.getfield 61, 3) := by decide +kernel
theorem dX1_knotEvent_48 : decode cX1_knotEvent 48 = .ok (.iload_n 1, 1) := by decide +kernel
theorem dX1_knotEvent_49 : decode cX1_knotEvent 49 = .ok (.iaload, 1) := by decide +kernel
theorem dX1_knotEvent_50 : decode cX1_knotEvent 50 = .ok (.iload_n 2, 1) := by decide +kernel
theorem dX1_knotEvent_51 : decode cX1_knotEvent 51 = .ok (.invokevirtual 64, 3) := by decide +kernel
theorem dX1_knotEvent_54 : decode cX1_knotEvent 54 = .ok (.ireturn, 1) := by decide +kernel
theorem dX1_knotEvent_55 : decode cX1_knotEvent 55 = .ok (.aload_n 0, 1) := by decide +kernel
theorem dX1_knotEvent_56 : decode cX1_knotEvent 56 = .ok (.iload_n 1, 1) := by decide +kernel
theorem dX1_knotEvent_57 : decode cX1_knotEvent 57 = .ok (.iload_n 2, 1) := by decide +kernel
theorem dX1_knotEvent_58 : decode cX1_knotEvent 58 = .ok (.invokevirtual 67, 3) := by decide +kernel
theorem dX1_knotEvent_61 : decode cX1_knotEvent 61 = .ok (.ireturn, 1) := by decide +kernel
theorem dX1_knotEvent_62 : decode cX1_knotEvent 62 = .ok (.aload_n 0, 1) := by decide +kernel
theorem dX1_knotEvent_63 : decode cX1_knotEvent 63 = .ok (.iload_n 1, 1) := by decide +kernel
theorem dX1_knotEvent_64 : decode cX1_knotEvent 64 = .ok (.iload_n 2, 1) := by decide +kernel
theorem dX1_knotEvent_65 : decode cX1_knotEvent 65 = .ok (.invokevirtual 70, 3) := by decide +kernel
theorem dX1_knotEvent_68 : decode cX1_knotEvent 68 = .ok (.ireturn, 1) := by decide +kernel
theorem dX1_knotEvent_69 : decode cX1_knotEvent 69 = .ok (.aload_n 0, 1) := by decide +kernel
theorem dX1_knotEvent_70 : decode cX1_knotEvent 70 = .ok (.iload_n 1, 1) := by decide +kernel
theorem dX1_knotEvent_71 : decode cX1_knotEvent 71 = .ok (.iload_n 2, 1) := by decide +kernel
theorem dX1_knotEvent_72 : decode cX1_knotEvent 72 = .ok (.invokevirtual 73, 3) := by decide +kernel
theorem dX1_knotEvent_75 : decode cX1_knotEvent 75 = .ok (.ireturn, 1) := by decide +kernel
theorem dX1_knotEvent_76 : decode cX1_knotEvent 76 = .ok (.aload_n 0, 1) := by decide +kernel
theorem dX1_knotEvent_77 : decode cX1_knotEvent 77 = .ok (.iload_n 1, 1) := by decide +kernel
theorem dX1_knotEvent_78 : decode cX1_knotEvent 78 = .ok (.iload_n 2, 1) := by decide +kernel
theorem dX1_knotEvent_79 : decode cX1_knotEvent 79 = .ok (.invokevirtual 76, 3) := by decide +kernel
theorem dX1_knotEvent_82 : decode cX1_knotEvent 82 = .ok (.ireturn, 1) := by decide +kernel
theorem dX1_letterEvent_0 : decode cX1_letterEvent 0 = .ok (.iload_n 2, 1) := by decide +kernel
theorem dX1_letterEvent_1 : decode cX1_letterEvent 1 = .ok (.istore_n 3, 1) := by decide +kernel
theorem dX1_letterEvent_2 : decode cX1_letterEvent 2 = .ok (.iload_n 3, 1) := by decide +kernel
theorem dX1_letterEvent_3 : decode cX1_letterEvent 3 = .ok (.aload_n 0, 1) := by decide +kernel
theorem dX1_letterEvent_4 : decode cX1_letterEvent 4 = .ok (.getfield 18, 3) := by decide +kernel
theorem dX1_letterEvent_7 : decode cX1_letterEvent 7 = .ok (.if_icmp .ge 21, 3) := by decide +kernel
theorem dX1_letterEvent_10 : decode cX1_letterEvent 10 = .ok (.aload_n 0, 1) := by decide +kernel
theorem dX1_letterEvent_11 : decode cX1_letterEvent 11 = .ok (.getfield 11, 3) := by decide +kernel
theorem dX1_letterEvent_14 : decode cX1_letterEvent 14 = .ok (.iload_n 3, 1) := by decide +kernel
theorem dX1_letterEvent_15 : decode cX1_letterEvent 15 = .ok (.iaload, 1) := by decide +kernel
theorem dX1_letterEvent_16 : decode cX1_letterEvent 16 = .ok (.iload_n 1, 1) := by decide +kernel
theorem dX1_letterEvent_17 : decode cX1_letterEvent 17 = .ok (.if_icmp .ne 5, 3) := by decide +kernel
theorem dX1_letterEvent_20 : decode cX1_letterEvent 20 = .ok (.iload_n 3, 1) := by decide +kernel
theorem dX1_letterEvent_21 : decode cX1_letterEvent 21 = .ok (.ireturn, 1) := by decide +kernel
theorem dX1_letterEvent_22 : decode cX1_letterEvent 22 = .ok (.iinc 3 1, 3) := by decide +kernel
theorem dX1_letterEvent_25 : decode cX1_letterEvent 25 = .ok (.goto (-23), 3) := by decide +kernel
theorem dX1_letterEvent_28 : decode cX1_letterEvent 28 = .ok (.iconst (-1), 1) := by decide +kernel
theorem dX1_letterEvent_29 : decode cX1_letterEvent 29 = .ok (.ireturn, 1) := by decide +kernel
theorem dX1_partEvent_0 : decode cX1_partEvent 0 = .ok (.aload_n 0, 1) := by decide +kernel
theorem dX1_partEvent_1 : decode cX1_partEvent 1 = .ok (.getfield 22, 3) := by decide +kernel
theorem dX1_partEvent_4 : decode cX1_partEvent 4 = .ok (.aload_n 0, 1) := by decide +kernel
theorem dX1_partEvent_5 : decode cX1_partEvent 5 = .ok (.getfield 37, 3) := by decide +kernel
theorem dX1_partEvent_8 : decode cX1_partEvent 8 = .ok (.iload_n 1, 1) := by decide +kernel
theorem dX1_partEvent_9 : decode cX1_partEvent 9 = .ok (.iload_n 2, 1) := by decide +kernel
theorem dX1_partEvent_10 : decode cX1_partEvent 10 = .ok (.invokevirtual 79, 3) := by decide +kernel
theorem dX1_partEvent_13 : decode cX1_partEvent 13 = .ok (.aload_n 0, 1) := by decide +kernel
theorem dX1_partEvent_14 : decode cX1_partEvent 14 = .ok (.getfield 25, 3) := by decide +kernel
theorem dX1_partEvent_17 : decode cX1_partEvent 17 = .ok (.imul, 1) := by decide +kernel
theorem dX1_partEvent_18 : decode cX1_partEvent 18 = .ok (.iload_n 3, 1) := by decide +kernel
theorem dX1_partEvent_19 : decode cX1_partEvent 19 = .ok (.iadd, 1) := by decide +kernel
theorem dX1_partEvent_20 : decode cX1_partEvent 20 = .ok (.iaload, 1) := by decide +kernel
theorem dX1_partEvent_21 : decode cX1_partEvent 21 = .ok (.ireturn, 1) := by decide +kernel
theorem dX1_firstEvent_0 : decode cX1_firstEvent 0 = .ok (.iconst (-1), 1) := by decide +kernel
theorem dX1_firstEvent_1 : decode cX1_firstEvent 1 = .ok (.istore_n 3, 1) := by decide +kernel
theorem dX1_firstEvent_2 : decode cX1_firstEvent 2 = .ok (.iconst 0, 1) := by decide +kernel
theorem dX1_firstEvent_3 : decode cX1_firstEvent 3 = .ok (.istore 4, 2) := by decide +kernel
theorem dX1_firstEvent_5 : decode cX1_firstEvent 5 = .ok (.iload 4, 2) := by decide +kernel
theorem dX1_firstEvent_7 : decode cX1_firstEvent 7 = .ok (.aload_n 0, 1) := by decide +kernel
theorem dX1_firstEvent_8 : decode cX1_firstEvent 8 = .ok (.getfield 37, 3) := by decide +kernel
theorem dX1_firstEvent_11 : decode cX1_firstEvent 11 = .ok (.getfield 61, 3) := by decide +kernel
theorem dX1_firstEvent_14 : decode cX1_firstEvent 14 = .ok (.iload_n 1, 1) := by decide +kernel
theorem dX1_firstEvent_15 : decode cX1_firstEvent 15 = .ok (.iaload, 1) := by decide +kernel
theorem dX1_firstEvent_16 : decode cX1_firstEvent 16 = .ok (.if_icmp .ge 37, 3) := by decide +kernel
theorem dX1_firstEvent_19 : decode cX1_firstEvent 19 = .ok (.aload_n 0, 1) := by decide +kernel
theorem dX1_firstEvent_20 : decode cX1_firstEvent 20 = .ok (.iload_n 1, 1) := by decide +kernel
theorem dX1_firstEvent_21 : decode cX1_firstEvent 21 = .ok (.iload 4, 2) := by decide +kernel
theorem dX1_firstEvent_23 : decode cX1_firstEvent 23 = .ok (.iload_n 2, 1) := by decide +kernel
theorem dX1_firstEvent_24 : decode cX1_firstEvent 24 = .ok (.invokevirtual 82, 3) := by decide +kernel
theorem dX1_firstEvent_27 : decode cX1_firstEvent 27 = .ok (.istore 5, 2) := by decide +kernel
theorem dX1_firstEvent_29 : decode cX1_firstEvent 29 = .ok (.iload 5, 2) := by decide +kernel
theorem dX1_firstEvent_31 : decode cX1_firstEvent 31 = .ok (.ifCond .lt 16, 3) := by decide +kernel
theorem dX1_firstEvent_34 : decode cX1_firstEvent 34 = .ok (.iload_n 3, 1) := by decide +kernel
theorem dX1_firstEvent_35 : decode cX1_firstEvent 35 = .ok (.ifCond .lt 9, 3) := by decide +kernel
theorem dX1_firstEvent_38 : decode cX1_firstEvent 38 = .ok (.iload 5, 2) := by decide +kernel
theorem dX1_firstEvent_40 : decode cX1_firstEvent 40 = .ok (.iload_n 3, 1) := by decide +kernel
theorem dX1_firstEvent_41 : decode cX1_firstEvent 41 = .ok (.if_icmp .ge 6, 3) := by decide +kernel
theorem dX1_firstEvent_44 : decode cX1_firstEvent 44 = .ok (.iload 5, 2) := by decide +kernel
theorem dX1_firstEvent_46 : decode cX1_firstEvent 46 = .ok (.istore_n 3, 1) := by decide +kernel
theorem dX1_firstEvent_47 : decode cX1_firstEvent 47 = .ok (.iinc 4 1, 3) := by decide +kernel
theorem dX1_firstEvent_50 : decode cX1_firstEvent 50 = .ok (.goto (-45), 3) := by decide +kernel
theorem dX1_firstEvent_53 : decode cX1_firstEvent 53 = .ok (.iload_n 3, 1) := by decide +kernel
theorem dX1_firstEvent_54 : decode cX1_firstEvent 54 = .ok (.ireturn, 1) := by decide +kernel
theorem dX1_lastEvent_0 : decode cX1_lastEvent 0 = .ok (.iconst (-1), 1) := by decide +kernel
theorem dX1_lastEvent_1 : decode cX1_lastEvent 1 = .ok (.istore_n 3, 1) := by decide +kernel
theorem dX1_lastEvent_2 : decode cX1_lastEvent 2 = .ok (.iconst 0, 1) := by decide +kernel
theorem dX1_lastEvent_3 : decode cX1_lastEvent 3 = .ok (.istore 4, 2) := by decide +kernel
theorem dX1_lastEvent_5 : decode cX1_lastEvent 5 = .ok (.iload 4, 2) := by decide +kernel
theorem dX1_lastEvent_7 : decode cX1_lastEvent 7 = .ok (.aload_n 0, 1) := by decide +kernel
theorem dX1_lastEvent_8 : decode cX1_lastEvent 8 = .ok (.getfield 37, 3) := by decide +kernel
theorem dX1_lastEvent_11 : decode cX1_lastEvent 11 = .ok (.getfield 61, 3) := by decide +kernel
theorem dX1_lastEvent_14 : decode cX1_lastEvent 14 = .ok (.iload_n 1, 1) := by decide +kernel
theorem dX1_lastEvent_15 : decode cX1_lastEvent 15 = .ok (.iaload, 1) := by decide +kernel
theorem dX1_lastEvent_16 : decode cX1_lastEvent 16 = .ok (.if_icmp .ge 33, 3) := by decide +kernel
theorem dX1_lastEvent_19 : decode cX1_lastEvent 19 = .ok (.aload_n 0, 1) := by decide +kernel
theorem dX1_lastEvent_20 : decode cX1_lastEvent 20 = .ok (.iload_n 1, 1) := by decide +kernel
theorem dX1_lastEvent_21 : decode cX1_lastEvent 21 = .ok (.iload 4, 2) := by decide +kernel
theorem dX1_lastEvent_23 : decode cX1_lastEvent 23 = .ok (.iload_n 2, 1) := by decide +kernel
theorem dX1_lastEvent_24 : decode cX1_lastEvent 24 = .ok (.invokevirtual 82, 3) := by decide +kernel
theorem dX1_lastEvent_27 : decode cX1_lastEvent 27 = .ok (.istore 5, 2) := by decide +kernel
theorem dX1_lastEvent_29 : decode cX1_lastEvent 29 = .ok (.iload 5, 2) := by decide +kernel
theorem dX1_lastEvent_31 : decode cX1_lastEvent 31 = .ok (.ifCond .ge 5, 3) := by decide +kernel
theorem dX1_lastEvent_34 : decode cX1_lastEvent 34 = .ok (.iconst (-1), 1) := by decide +kernel
theorem dX1_lastEvent_35 : decode cX1_lastEvent 35 = .ok (.ireturn, 1) := by decide +kernel
theorem dX1_lastEvent_36 : decode cX1_lastEvent 36 = .ok (.iload_n 3, 1) := by decide +kernel
theorem dX1_lastEvent_37 : decode cX1_lastEvent 37 = .ok (.iload 5, 2) := by decide +kernel
theorem dX1_lastEvent_39 : decode cX1_lastEvent 39 = .ok (.invokestatic 86, 3) := by decide +kernel
theorem dX1_lastEvent_42 : decode cX1_lastEvent 42 = .ok (.istore_n 3, 1) := by decide +kernel
theorem dX1_lastEvent_43 : decode cX1_lastEvent 43 = .ok (.iinc 4 1, 3) := by decide +kernel
theorem dX1_lastEvent_46 : decode cX1_lastEvent 46 = .ok (.goto (-41), 3) := by decide +kernel
theorem dX1_lastEvent_49 : decode cX1_lastEvent 49 = .ok (.iload_n 3, 1) := by decide +kernel
theorem dX1_lastEvent_50 : decode cX1_lastEvent 50 = .ok (.ireturn, 1) := by decide +kernel
theorem dX1_chainEvent_0 : decode cX1_chainEvent 0 = .ok (.iload_n 2, 1) := by decide +kernel
theorem dX1_chainEvent_1 : decode cX1_chainEvent 1 = .ok (.iconst 1, 1) := by decide +kernel
theorem dX1_chainEvent_2 : decode cX1_chainEvent 2 = .ok (.isub, 1) := by decide +kernel
theorem dX1_chainEvent_3 : decode cX1_chainEvent 3 = .ok (.istore_n 3, 1) := by decide +kernel
theorem dX1_chainEvent_4 : decode cX1_chainEvent 4 = .ok (.iconst 0, 1) := by decide +kernel
theorem dX1_chainEvent_5 : decode cX1_chainEvent 5 = .ok (.istore 4, 2) := by decide +kernel
theorem dX1_chainEvent_7 : decode cX1_chainEvent 7 = .ok (.iload 4, 2) := by decide +kernel
theorem dX1_chainEvent_9 : decode cX1_chainEvent 9 = .ok (.aload_n 0, 1) := by decide +kernel
theorem dX1_chainEvent_10 : decode cX1_chainEvent 10 = .ok (.getfield 37, 3) := by decide +kernel
theorem dX1_chainEvent_13 : decode cX1_chainEvent 13 = .ok (.getfield 61, 3) := by decide +kernel
theorem dX1_chainEvent_16 : decode cX1_chainEvent 16 = .ok (.iload_n 1, 1) := by decide +kernel
theorem dX1_chainEvent_17 : decode cX1_chainEvent 17 = .ok (.iaload, 1) := by decide +kernel
theorem dX1_chainEvent_18 : decode cX1_chainEvent 18 = .ok (.if_icmp .ge 26, 3) := by decide +kernel
theorem dX1_chainEvent_21 : decode cX1_chainEvent 21 = .ok (.aload_n 0, 1) := by decide +kernel
theorem dX1_chainEvent_22 : decode cX1_chainEvent 22 = .ok (.iload_n 1, 1) := by decide +kernel
theorem dX1_chainEvent_23 : decode cX1_chainEvent 23 = .ok (.iload 4, 2) := by decide +kernel
theorem dX1_chainEvent_25 : decode cX1_chainEvent 25 = .ok (.iload_n 3, 1) := by decide +kernel
theorem dX1_chainEvent_26 : decode cX1_chainEvent 26 = .ok (.iconst 1, 1) := by decide +kernel
theorem dX1_chainEvent_27 : decode cX1_chainEvent 27 = .ok (.iadd, 1) := by decide +kernel
theorem dX1_chainEvent_28 : decode cX1_chainEvent 28 = .ok (.invokevirtual 82, 3) := by decide +kernel
theorem dX1_chainEvent_31 : decode cX1_chainEvent 31 = .ok (.istore_n 3, 1) := by decide +kernel
theorem dX1_chainEvent_32 : decode cX1_chainEvent 32 = .ok (.iload_n 3, 1) := by decide +kernel
theorem dX1_chainEvent_33 : decode cX1_chainEvent 33 = .ok (.ifCond .ge 5, 3) := by decide +kernel
theorem dX1_chainEvent_36 : decode cX1_chainEvent 36 = .ok (.iconst (-1), 1) := by decide +kernel
theorem dX1_chainEvent_37 : decode cX1_chainEvent 37 = .ok (.ireturn, 1) := by decide +kernel
theorem dX1_chainEvent_38 : decode cX1_chainEvent 38 = .ok (.iinc 4 1, 3) := by decide +kernel
theorem dX1_chainEvent_41 : decode cX1_chainEvent 41 = .ok (.goto (-34), 3) := by decide +kernel
theorem dX1_chainEvent_44 : decode cX1_chainEvent 44 = .ok (.iload_n 3, 1) := by decide +kernel
theorem dX1_chainEvent_45 : decode cX1_chainEvent 45 = .ok (.ireturn, 1) := by decide +kernel
theorem dX1_someEvent_0 : decode cX1_someEvent 0 = .ok (.iconst 0, 1) := by decide +kernel
theorem dX1_someEvent_1 : decode cX1_someEvent 1 = .ok (.istore_n 3, 1) := by decide +kernel
theorem dX1_someEvent_2 : decode cX1_someEvent 2 = .ok (.iconst 0, 1) := by decide +kernel
theorem dX1_someEvent_3 : decode cX1_someEvent 3 = .ok (.istore 4, 2) := by decide +kernel
theorem dX1_someEvent_5 : decode cX1_someEvent 5 = .ok (.iload 4, 2) := by decide +kernel
theorem dX1_someEvent_7 : decode cX1_someEvent 7 = .ok (.aload_n 0, 1) := by decide +kernel
theorem dX1_someEvent_8 : decode cX1_someEvent 8 = .ok (.getfield 37, 3) := by decide +kernel
theorem dX1_someEvent_11 : decode cX1_someEvent 11 = .ok (.getfield 61, 3) := by decide +kernel
theorem dX1_someEvent_14 : decode cX1_someEvent 14 = .ok (.iload_n 1, 1) := by decide +kernel
theorem dX1_someEvent_15 : decode cX1_someEvent 15 = .ok (.iaload, 1) := by decide +kernel
theorem dX1_someEvent_16 : decode cX1_someEvent 16 = .ok (.if_icmp .ge 44, 3) := by decide +kernel
theorem dX1_someEvent_19 : decode cX1_someEvent 19 = .ok (.iload_n 3, 1) := by decide +kernel
theorem dX1_someEvent_20 : decode cX1_someEvent 20 = .ok (.aload_n 0, 1) := by decide +kernel
theorem dX1_someEvent_21 : decode cX1_someEvent 21 = .ok (.getfield 30, 3) := by decide +kernel
theorem dX1_someEvent_24 : decode cX1_someEvent 24 = .ok (.arraylength, 1) := by decide +kernel
theorem dX1_someEvent_25 : decode cX1_someEvent 25 = .ok (.if_icmp .ge 35, 3) := by decide +kernel
theorem dX1_someEvent_28 : decode cX1_someEvent 28 = .ok (.aload_n 0, 1) := by decide +kernel
theorem dX1_someEvent_29 : decode cX1_someEvent 29 = .ok (.iload_n 1, 1) := by decide +kernel
theorem dX1_someEvent_30 : decode cX1_someEvent 30 = .ok (.iload 4, 2) := by decide +kernel
theorem dX1_someEvent_32 : decode cX1_someEvent 32 = .ok (.iload_n 2, 1) := by decide +kernel
theorem dX1_someEvent_33 : decode cX1_someEvent 33 = .ok (.invokevirtual 82, 3) := by decide +kernel
theorem dX1_someEvent_36 : decode cX1_someEvent 36 = .ok (.istore 5, 2) := by decide +kernel
theorem dX1_someEvent_38 : decode cX1_someEvent 38 = .ok (.iload 5, 2) := by decide +kernel
theorem dX1_someEvent_40 : decode cX1_someEvent 40 = .ok (.ifCond .lt 14, 3) := by decide +kernel
theorem dX1_someEvent_43 : decode cX1_someEvent 43 = .ok (.aload_n 0, 1) := by decide +kernel
theorem dX1_someEvent_44 : decode cX1_someEvent 44 = .ok (.getfield 30, 3) := by decide +kernel
theorem dX1_someEvent_47 : decode cX1_someEvent 47 = .ok (.iload_n 3, 1) := by decide +kernel
theorem dX1_someEvent_48 : decode cX1_someEvent 48 = .ok (.iload 5, 2) := by decide +kernel
theorem dX1_someEvent_50 : decode cX1_someEvent 50 = .ok (.iastore, 1) := by decide +kernel
theorem dX1_someEvent_51 : decode cX1_someEvent 51 = .ok (.iinc 3 1, 3) := by decide +kernel
theorem dX1_someEvent_54 : decode cX1_someEvent 54 = .ok (.iinc 4 1, 3) := by decide +kernel
theorem dX1_someEvent_57 : decode cX1_someEvent 57 = .ok (.goto (-52), 3) := by decide +kernel
theorem dX1_someEvent_60 : decode cX1_someEvent 60 = .ok (.iload_n 3, 1) := by decide +kernel
theorem dX1_someEvent_61 : decode cX1_someEvent 61 = .ok (.aload_n 0, 1) := by decide +kernel
theorem dX1_someEvent_62 : decode cX1_someEvent 62 = .ok (.getfield 37, 3) := by decide +kernel
theorem dX1_someEvent_65 : decode cX1_someEvent 65 = .ok (.getfield 91, 3) := by decide +kernel
theorem dX1_someEvent_68 : decode cX1_someEvent 68 = .ok (.iload_n 1, 1) := by decide +kernel
theorem dX1_someEvent_69 : decode cX1_someEvent 69 = .ok (.iaload, 1) := by decide +kernel
theorem dX1_someEvent_70 : decode cX1_someEvent 70 = .ok (.if_icmp .ge 7, 3) := by decide +kernel
theorem dX1_someEvent_73 : decode cX1_someEvent 73 = .ok (.iconst (-1), 1) := by decide +kernel
theorem dX1_someEvent_74 : decode cX1_someEvent 74 = .ok (.goto 20, 3) := by decide +kernel
theorem dX1_someEvent_77 : decode cX1_someEvent 77 = .ok (.aload_n 0, 1) := by decide +kernel
theorem dX1_someEvent_78 : decode cX1_someEvent 78 = .ok (.getfield 30, 3) := by decide +kernel
theorem dX1_someEvent_81 : decode cX1_someEvent 81 = .ok (.iload_n 3, 1) := by decide +kernel
theorem dX1_someEvent_82 : decode cX1_someEvent 82 = .ok (.aload_n 0, 1) := by decide +kernel
theorem dX1_someEvent_83 : decode cX1_someEvent 83 = .ok (.getfield 37, 3) := by decide +kernel
theorem dX1_someEvent_86 : decode cX1_someEvent 86 = .ok (.getfield 91, 3) := by decide +kernel
theorem dX1_someEvent_89 : decode cX1_someEvent 89 = .ok (.iload_n 1, 1) := by decide +kernel
theorem dX1_someEvent_90 : decode cX1_someEvent 90 = .ok (.iaload, 1) := by decide +kernel
theorem dX1_someEvent_91 : decode cX1_someEvent 91 = .ok (.invokestatic 94, 3) := by decide +kernel
theorem dX1_someEvent_94 : decode cX1_someEvent 94 = .ok (.ireturn, 1) := by decide +kernel
theorem dX1_mixInto_0 : decode cX1_mixInto 0 = .ok (.iconst 0, 1) := by decide +kernel
theorem dX1_mixInto_1 : decode cX1_mixInto 1 = .ok (.istore_n 3, 1) := by decide +kernel
theorem dX1_mixInto_2 : decode cX1_mixInto 2 = .ok (.iload_n 3, 1) := by decide +kernel
theorem dX1_mixInto_3 : decode cX1_mixInto 3 = .ok (.aload_n 0, 1) := by decide +kernel
theorem dX1_mixInto_4 : decode cX1_mixInto 4 = .ok (.getfield 18, 3) := by decide +kernel
theorem dX1_mixInto_7 : decode cX1_mixInto 7 = .ok (.if_icmp .ge 35, 3) := by decide +kernel
theorem dX1_mixInto_10 : decode cX1_mixInto 10 = .ok (.ldc2_w 98, 3) := by decide +kernel
theorem dX1_mixInto_13 : decode cX1_mixInto 13 = .ok (.ldc2_w 98, 3) := by decide +kernel
theorem dX1_mixInto_16 : decode cX1_mixInto 16 = .ok (.lload_n 1, 1) := by decide +kernel
theorem dX1_mixInto_17 : decode cX1_mixInto 17 = .ok (.lmul, 1) := by decide +kernel
theorem dX1_mixInto_18 : decode cX1_mixInto 18 = .ok (.aload_n 0, 1) := by decide +kernel
theorem dX1_mixInto_19 : decode cX1_mixInto 19 = .ok (.getfield 11, 3) := by decide +kernel
theorem dX1_mixInto_22 : decode cX1_mixInto 22 = .ok (.iload_n 3, 1) := by decide +kernel
theorem dX1_mixInto_23 : decode cX1_mixInto 23 = .ok (.iaload, 1) := by decide +kernel
theorem dX1_mixInto_24 : decode cX1_mixInto 24 = .ok (.i2l, 1) := by decide +kernel
theorem dX1_mixInto_25 : decode cX1_mixInto 25 = .ok (.ladd, 1) := by decide +kernel
theorem dX1_mixInto_26 : decode cX1_mixInto 26 = .ok (.lmul, 1) := by decide +kernel
theorem dX1_mixInto_27 : decode cX1_mixInto 27 = .ok (.aload_n 0, 1) := by decide +kernel
theorem dX1_mixInto_28 : decode cX1_mixInto 28 = .ok (.getfield 15, 3) := by decide +kernel
theorem dX1_mixInto_31 : decode cX1_mixInto 31 = .ok (.iload_n 3, 1) := by decide +kernel
theorem dX1_mixInto_32 : decode cX1_mixInto 32 = .ok (.iaload, 1) := by decide +kernel
theorem dX1_mixInto_33 : decode cX1_mixInto 33 = .ok (.i2l, 1) := by decide +kernel
theorem dX1_mixInto_34 : decode cX1_mixInto 34 = .ok (.ladd, 1) := by decide +kernel
theorem dX1_mixInto_35 : decode cX1_mixInto 35 = .ok (.lstore_n 1, 1) := by decide +kernel
theorem dX1_mixInto_36 : decode cX1_mixInto 36 = .ok (.iinc 3 1, 3) := by decide +kernel
theorem dX1_mixInto_39 : decode cX1_mixInto 39 = .ok (.goto (-37), 3) := by decide +kernel
theorem dX1_mixInto_42 : decode cX1_mixInto 42 = .ok (.lload_n 1, 1) := by decide +kernel
theorem dX1_mixInto_43 : decode cX1_mixInto 43 = .ok (.lreturn, 1) := by decide +kernel
theorem dX2_isZero_0 : decode cX2_isZero 0 = .ok (.aload_n 0, 1) := by decide +kernel
theorem dX2_isZero_1 : decode cX2_isZero 1 = .ok (.getfield 11, 3) := by decide +kernel
theorem dX2_isZero_4 : decode cX2_isZero 4 = .ok (.invokestatic 18, 3) := by decide +kernel
theorem dX2_isZero_7 : decode cX2_isZero 7 = .ok (.ireturn, 1) := by decide +kernel
theorem dX2_isZeroRow_0 : decode cX2_isZeroRow 0 = .ok (.iconst 0, 1) := by decide +kernel
theorem dX2_isZeroRow_1 : decode cX2_isZeroRow 1 = .ok (.istore_n 1, 1) := by decide +kernel
theorem dX2_isZeroRow_2 : decode cX2_isZeroRow 2 = .ok (.iload_n 1, 1) := by decide +kernel
theorem dX2_isZeroRow_3 : decode cX2_isZeroRow 3 = .ok (.bipush 6, 2) := by decide +kernel
theorem dX2_isZeroRow_5 : decode cX2_isZeroRow 5 = .ok (.if_icmp .ge 17, 3) := by decide +kernel
theorem dX2_isZeroRow_8 : decode cX2_isZeroRow 8 = .ok (.aload_n 0, 1) := by decide +kernel
theorem dX2_isZeroRow_9 : decode cX2_isZeroRow 9 = .ok (.iload_n 1, 1) := by decide +kernel
theorem dX2_isZeroRow_10 : decode cX2_isZeroRow 10 = .ok (.iaload, 1) := by decide +kernel
theorem dX2_isZeroRow_11 : decode cX2_isZeroRow 11 = .ok (.ifCond .eq 5, 3) := by decide +kernel
theorem dX2_isZeroRow_14 : decode cX2_isZeroRow 14 = .ok (.iconst 0, 1) := by decide +kernel
theorem dX2_isZeroRow_15 : decode cX2_isZeroRow 15 = .ok (.ireturn, 1) := by decide +kernel
theorem dX2_isZeroRow_16 : decode cX2_isZeroRow 16 = .ok (.iinc 1 1, 3) := by decide +kernel
theorem dX2_isZeroRow_19 : decode cX2_isZeroRow 19 = .ok (.goto (-17), 3) := by decide +kernel
theorem dX2_isZeroRow_22 : decode cX2_isZeroRow 22 = .ok (.iconst 1, 1) := by decide +kernel
theorem dX2_isZeroRow_23 : decode cX2_isZeroRow 23 = .ok (.ireturn, 1) := by decide +kernel
theorem dX2_limbsOf_0 : decode cX2_limbsOf 0 = .ok (.iload_n 1, 1) := by decide +kernel
theorem dX2_limbsOf_1 : decode cX2_limbsOf 1 = .ok (.ifCond .ne 10, 3) := by decide +kernel
theorem dX2_limbsOf_4 : decode cX2_limbsOf 4 = .ok (.aload_n 0, 1) := by decide +kernel
theorem dX2_limbsOf_5 : decode cX2_limbsOf 5 = .ok (.getfield 11, 3) := by decide +kernel
theorem dX2_limbsOf_8 : decode cX2_limbsOf 8 = .ok (.goto 7, 3) := by decide +kernel
theorem dX2_limbsOf_11 : decode cX2_limbsOf 11 = .ok (.aload_n 0, 1) := by decide +kernel
theorem dX2_limbsOf_12 : decode cX2_limbsOf 12 = .ok (.getfield 15, 3) := by decide +kernel
theorem dX2_limbsOf_15 : decode cX2_limbsOf 15 = .ok (.astore_n 2, 1) := by decide +kernel
theorem dX2_limbsOf_16 : decode cX2_limbsOf 16 = .ok (.bipush 6, 2) := by decide +kernel
theorem dX2_limbsOf_18 : decode cX2_limbsOf 18 = .ok (.istore_n 3, 1) := by decide +kernel
theorem dX2_limbsOf_19 : decode cX2_limbsOf 19 = .ok (.iload_n 3, 1) := by decide +kernel
theorem dX2_limbsOf_20 : decode cX2_limbsOf 20 = .ok (.ifCond .le 17, 3) := by decide +kernel
theorem dX2_limbsOf_23 : decode cX2_limbsOf 23 = .ok (.aload_n 2, 1) := by decide +kernel
theorem dX2_limbsOf_24 : decode cX2_limbsOf 24 = .ok (.iload_n 3, 1) := by decide +kernel
theorem dX2_limbsOf_25 : decode cX2_limbsOf 25 = .ok (.iconst 1, 1) := by decide +kernel
theorem dX2_limbsOf_26 : decode cX2_limbsOf 26 = .ok (.isub, 1) := by decide +kernel
theorem dX2_limbsOf_27 : decode cX2_limbsOf 27 = .ok (.iaload, 1) := by decide +kernel
theorem dX2_limbsOf_28 : decode cX2_limbsOf 28 = .ok (.ifCond .ne 9, 3) := by decide +kernel
theorem dX2_limbsOf_31 : decode cX2_limbsOf 31 = .ok (.iinc 3 (-1), 3) := by decide +kernel
theorem dX2_limbsOf_34 : decode cX2_limbsOf 34 = .ok (.goto (-15), 3) := by decide +kernel
theorem dX2_limbsOf_37 : decode cX2_limbsOf 37 = .ok (.iload_n 3, 1) := by decide +kernel
theorem dX2_limbsOf_38 : decode cX2_limbsOf 38 = .ok (.ireturn, 1) := by decide +kernel
theorem dX2_limbOf_0 : decode cX2_limbOf 0 = .ok (.iload_n 1, 1) := by decide +kernel
theorem dX2_limbOf_1 : decode cX2_limbOf 1 = .ok (.ifCond .ne 12, 3) := by decide +kernel
theorem dX2_limbOf_4 : decode cX2_limbOf 4 = .ok (.aload_n 0, 1) := by decide +kernel
theorem dX2_limbOf_5 : decode cX2_limbOf 5 = .ok (.getfield 11, 3) := by decide +kernel
theorem dX2_limbOf_8 : decode cX2_limbOf 8 = .ok (.iload_n 2, 1) := by decide +kernel
theorem dX2_limbOf_9 : decode cX2_limbOf 9 = .ok (.iaload, 1) := by decide +kernel
theorem dX2_limbOf_10 : decode cX2_limbOf 10 = .ok (.goto 9, 3) := by decide +kernel
theorem dX2_limbOf_13 : decode cX2_limbOf 13 = .ok (.aload_n 0, 1) := by decide +kernel
theorem dX2_limbOf_14 : decode cX2_limbOf 14 = .ok (.getfield 15, 3) := by decide +kernel
theorem dX2_limbOf_17 : decode cX2_limbOf 17 = .ok (.iload_n 2, 1) := by decide +kernel
theorem dX2_limbOf_18 : decode cX2_limbOf 18 = .ok (.iaload, 1) := by decide +kernel
theorem dX2_limbOf_19 : decode cX2_limbOf 19 = .ok (.ireturn, 1) := by decide +kernel
theorem dX2_putThousandths_0 : decode cX2_putThousandths 0 = .ok (.aload_n 0, 1) := by decide +kernel
theorem dX2_putThousandths_1 : decode cX2_putThousandths 1 = .ok (.getfield 11, 3) := by decide +kernel
theorem dX2_putThousandths_4 : decode cX2_putThousandths 4 = .ok (.iconst 0, 1) := by decide +kernel
theorem dX2_putThousandths_5 : decode cX2_putThousandths 5 = .ok (.invokestatic 22, 3) := by decide +kernel
theorem dX2_putThousandths_8 : decode cX2_putThousandths 8 = .ok (.aload_n 1, 1) := by decide +kernel
theorem dX2_putThousandths_9 : decode cX2_putThousandths 9 = .ok (.iload_n 2, 1) := by decide +kernel
theorem dX2_putThousandths_10 : decode cX2_putThousandths 10 = .ok (.aload_n 0, 1) := by decide +kernel
theorem dX2_putThousandths_11 : decode cX2_putThousandths 11 = .ok (.getfield 11, 3) := by decide +kernel
theorem dX2_putThousandths_14 : decode cX2_putThousandths 14 = .ok (.iconst 0, 1) := by decide +kernel
theorem dX2_putThousandths_15 : decode cX2_putThousandths 15 = .ok (.iload_n 3, 1) := by decide +kernel
theorem dX2_putThousandths_16 : decode cX2_putThousandths 16 = .ok (.bipush 6, 2) := by decide +kernel
theorem dX2_putThousandths_18 : decode cX2_putThousandths 18 = .ok (.invokestatic 28, 3) := by decide +kernel
theorem dX2_putThousandths_21 : decode cX2_putThousandths 21 = .ok (.invokestatic 34, 3) := by decide +kernel
theorem dX2_putThousandths_24 : decode cX2_putThousandths 24 = .ok (.aload_n 0, 1) := by decide +kernel
theorem dX2_putThousandths_25 : decode cX2_putThousandths 25 = .ok (.invokevirtual 40, 3) := by decide +kernel
theorem dX2_putThousandths_28 : decode cX2_putThousandths 28 = .ok (.ifCond .eq 7, 3) := by decide +kernel
theorem dX2_putThousandths_31 : decode cX2_putThousandths 31 = .ok (.iconst 0, 1) := by decide +kernel
theorem dX2_putThousandths_32 : decode cX2_putThousandths 32 = .ok (.goto 7, 3) := by decide +kernel
theorem dX2_putThousandths_35 : decode cX2_putThousandths 35 = .ok (.iconst 3, 1) := by decide +kernel
theorem dX2_putThousandths_36 : decode cX2_putThousandths 36 = .ok (.iload 4, 2) := by decide +kernel
theorem dX2_putThousandths_38 : decode cX2_putThousandths 38 = .ok (.imul, 1) := by decide +kernel
theorem dX2_putThousandths_39 : decode cX2_putThousandths 39 = .ok (.istore 5, 2) := by decide +kernel
theorem dX2_putThousandths_41 : decode cX2_putThousandths 41 = .ok (.iload 5, 2) := by decide +kernel
theorem dX2_putThousandths_43 : decode cX2_putThousandths 43 = .ok (.istore 6, 2) := by decide +kernel
theorem dX2_putThousandths_45 : decode cX2_putThousandths 45 = .ok (.iload 5, 2) := by decide +kernel
theorem dX2_putThousandths_47 : decode cX2_putThousandths 47 = .ok (.ifCond .le 28, 3) := by decide +kernel
theorem dX2_putThousandths_50 : decode cX2_putThousandths 50 = .ok (.aload_n 0, 1) := by decide +kernel
theorem dX2_putThousandths_51 : decode cX2_putThousandths 51 = .ok (.getfield 11, 3) := by decide +kernel
theorem dX2_putThousandths_54 : decode cX2_putThousandths 54 = .ok (.iconst 2, 1) := by decide +kernel
theorem dX2_putThousandths_55 : decode cX2_putThousandths 55 = .ok (.invokestatic 44, 3) := by decide +kernel
theorem dX2_putThousandths_58 : decode cX2_putThousandths 58 = .ok (.ifCond .ne 17, 3) := by decide +kernel
theorem dX2_putThousandths_61 : decode cX2_putThousandths 61 = .ok (.aload_n 0, 1) := by decide +kernel
theorem dX2_putThousandths_62 : decode cX2_putThousandths 62 = .ok (.getfield 11, 3) := by decide +kernel
theorem dX2_putThousandths_65 : decode cX2_putThousandths 65 = .ok (.iconst 2, 1) := by decide +kernel
theorem dX2_putThousandths_66 : decode cX2_putThousandths 66 = .ok (.invokestatic 48, 3) := by decide +kernel
theorem dX2_putThousandths_69 : decode cX2_putThousandths 69 = .ok (.iinc 5 (-1), 3) := by decide +kernel
theorem dX2_putThousandths_72 : decode cX2_putThousandths 72 = .ok (.goto (-27), 3) := by decide +kernel
theorem dX2_putThousandths_75 : decode cX2_putThousandths 75 = .ok (.iload 6, 2) := by decide +kernel
theorem dX2_putThousandths_77 : decode cX2_putThousandths 77 = .ok (.ifCond .le 28, 3) := by decide +kernel
theorem dX2_putThousandths_80 : decode cX2_putThousandths 80 = .ok (.aload_n 0, 1) := by decide +kernel
theorem dX2_putThousandths_81 : decode cX2_putThousandths 81 = .ok (.getfield 11, 3) := by decide +kernel
theorem dX2_putThousandths_84 : decode cX2_putThousandths 84 = .ok (.iconst 5, 1) := by decide +kernel
theorem dX2_putThousandths_85 : decode cX2_putThousandths 85 = .ok (.invokestatic 44, 3) := by decide +kernel
theorem dX2_putThousandths_88 : decode cX2_putThousandths 88 = .ok (.ifCond .ne 17, 3) := by decide +kernel
theorem dX2_putThousandths_91 : decode cX2_putThousandths 91 = .ok (.aload_n 0, 1) := by decide +kernel
theorem dX2_putThousandths_92 : decode cX2_putThousandths 92 = .ok (.getfield 11, 3) := by decide +kernel
theorem dX2_putThousandths_95 : decode cX2_putThousandths 95 = .ok (.iconst 5, 1) := by decide +kernel
theorem dX2_putThousandths_96 : decode cX2_putThousandths 96 = .ok (.invokestatic 48, 3) := by decide +kernel
theorem dX2_putThousandths_99 : decode cX2_putThousandths 99 = .ok (.iinc 6 (-1), 3) := by decide +kernel
theorem dX2_putThousandths_102 : decode cX2_putThousandths 102 = .ok (.goto (-27), 3) := by decide +kernel
theorem dX2_putThousandths_105 : decode cX2_putThousandths 105 = .ok (.aload_n 0, 1) := by decide +kernel
theorem dX2_putThousandths_106 : decode cX2_putThousandths 106 = .ok (.getfield 15, 3) := by decide +kernel
theorem dX2_putThousandths_109 : decode cX2_putThousandths 109 = .ok (.iconst 0, 1) := by decide +kernel
theorem dX2_putThousandths_110 : decode cX2_putThousandths 110 = .ok (.invokestatic 22, 3) := by decide +kernel
theorem dX2_putThousandths_113 : decode cX2_putThousandths 113 = .ok (.aload_n 0, 1) := by decide +kernel
theorem dX2_putThousandths_114 : decode cX2_putThousandths 114 = .ok (.getfield 15, 3) := by decide +kernel
theorem dX2_putThousandths_117 : decode cX2_putThousandths 117 = .ok (.iconst 0, 1) := by decide +kernel
theorem dX2_putThousandths_118 : decode cX2_putThousandths 118 = .ok (.iconst 1, 1) := by decide +kernel
theorem dX2_putThousandths_119 : decode cX2_putThousandths 119 = .ok (.iastore, 1) := by decide +kernel
theorem dX2_putThousandths_120 : decode cX2_putThousandths 120 = .ok (.iconst 0, 1) := by decide +kernel
theorem dX2_putThousandths_121 : decode cX2_putThousandths 121 = .ok (.istore 7, 2) := by decide +kernel
theorem dX2_putThousandths_123 : decode cX2_putThousandths 123 = .ok (.iload 7, 2) := by decide +kernel
theorem dX2_putThousandths_125 : decode cX2_putThousandths 125 = .ok (.iload 5, 2) := by decide +kernel
theorem dX2_putThousandths_127 : decode cX2_putThousandths 127 = .ok (.if_icmp .ge 20, 3) := by decide +kernel
theorem dX2_putThousandths_130 : decode cX2_putThousandths 130 = .ok (.aload_n 0, 1) := by decide +kernel
theorem dX2_putThousandths_131 : decode cX2_putThousandths 131 = .ok (.getfield 15, 3) := by decide +kernel
theorem dX2_putThousandths_134 : decode cX2_putThousandths 134 = .ok (.iconst 0, 1) := by decide +kernel
theorem dX2_putThousandths_135 : decode cX2_putThousandths 135 = .ok (.bipush 6, 2) := by decide +kernel
theorem dX2_putThousandths_137 : decode cX2_putThousandths 137 = .ok (.iconst 2, 1) := by decide +kernel
theorem dX2_putThousandths_138 : decode cX2_putThousandths 138 = .ok (.invokestatic 51, 3) := by decide +kernel
theorem dX2_putThousandths_141 : decode cX2_putThousandths 141 = .ok (.iinc 7 1, 3) := by decide +kernel
theorem dX2_putThousandths_144 : decode cX2_putThousandths 144 = .ok (.goto (-21), 3) := by decide +kernel
theorem dX2_putThousandths_147 : decode cX2_putThousandths 147 = .ok (.iconst 0, 1) := by decide +kernel
theorem dX2_putThousandths_148 : decode cX2_putThousandths 148 = .ok (.istore 7, 2) := by decide +kernel
theorem dX2_putThousandths_150 : decode cX2_putThousandths 150 = .ok (.iload 7, 2) := by decide +kernel
theorem dX2_putThousandths_152 : decode cX2_putThousandths 152 = .ok (.iload 6, 2) := by decide +kernel
theorem dX2_putThousandths_154 : decode cX2_putThousandths 154 = .ok (.if_icmp .ge 20, 3) := by decide +kernel
theorem dX2_putThousandths_157 : decode cX2_putThousandths 157 = .ok (.aload_n 0, 1) := by decide +kernel
theorem dX2_putThousandths_158 : decode cX2_putThousandths 158 = .ok (.getfield 15, 3) := by decide +kernel
theorem dX2_putThousandths_161 : decode cX2_putThousandths 161 = .ok (.iconst 0, 1) := by decide +kernel
theorem dX2_putThousandths_162 : decode cX2_putThousandths 162 = .ok (.bipush 6, 2) := by decide +kernel
theorem dX2_putThousandths_164 : decode cX2_putThousandths 164 = .ok (.iconst 5, 1) := by decide +kernel
theorem dX2_putThousandths_165 : decode cX2_putThousandths 165 = .ok (.invokestatic 51, 3) := by decide +kernel
theorem dX2_putThousandths_168 : decode cX2_putThousandths 168 = .ok (.iinc 7 1, 3) := by decide +kernel
theorem dX2_putThousandths_171 : decode cX2_putThousandths 171 = .ok (.goto (-21), 3) := by decide +kernel
theorem dX2_putThousandths_174 : decode cX2_putThousandths 174 = .ok (.return_, 1) := by decide +kernel
theorem dX2_putRatio_0 : decode cX2_putRatio 0 = .ok (.lload_n 1, 1) := by decide +kernel
theorem dX2_putRatio_1 : decode cX2_putRatio 1 = .ok (.lload_n 3, 1) := by decide +kernel
theorem dX2_putRatio_2 : decode cX2_putRatio 2 = .ok (.invokestatic 55, 3) := by decide +kernel
theorem dX2_putRatio_5 : decode cX2_putRatio 5 = .ok (.lstore 5, 2) := by decide +kernel
theorem dX2_putRatio_7 : decode cX2_putRatio 7 = .ok (.lload 5, 2) := by decide +kernel
theorem dX2_putRatio_9 : decode cX2_putRatio 9 = .ok (.lconst 1, 1) := by decide +kernel
theorem dX2_putRatio_10 : decode cX2_putRatio 10 = .ok (.lcmp, 1) := by decide +kernel
theorem dX2_putRatio_11 : decode cX2_putRatio 11 = .ok (.ifCond .ge 6, 3) := by decide +kernel
theorem dX2_putRatio_14 : decode cX2_putRatio 14 = .ok (.lconst 1, 1) := by decide +kernel
theorem dX2_putRatio_15 : decode cX2_putRatio 15 = .ok (.lstore 5, 2) := by decide +kernel
theorem dX2_putRatio_17 : decode cX2_putRatio 17 = .ok (.lload_n 1, 1) := by decide +kernel
theorem dX2_putRatio_18 : decode cX2_putRatio 18 = .ok (.lload 5, 2) := by decide +kernel
theorem dX2_putRatio_20 : decode cX2_putRatio 20 = .ok (.ldiv, 1) := by decide +kernel
theorem dX2_putRatio_21 : decode cX2_putRatio 21 = .ok (.aload_n 0, 1) := by decide +kernel
theorem dX2_putRatio_22 : decode cX2_putRatio 22 = .ok (.getfield 11, 3) := by decide +kernel
theorem dX2_putRatio_25 : decode cX2_putRatio 25 = .ok (.invokestatic 59, 3) := by decide +kernel
theorem dX2_putRatio_28 : decode cX2_putRatio 28 = .ok (.lload_n 3, 1) := by decide +kernel
theorem dX2_putRatio_29 : decode cX2_putRatio 29 = .ok (.lload 5, 2) := by decide +kernel
theorem dX2_putRatio_31 : decode cX2_putRatio 31 = .ok (.ldiv, 1) := by decide +kernel
theorem dX2_putRatio_32 : decode cX2_putRatio 32 = .ok (.aload_n 0, 1) := by decide +kernel
theorem dX2_putRatio_33 : decode cX2_putRatio 33 = .ok (.getfield 15, 3) := by decide +kernel
theorem dX2_putRatio_36 : decode cX2_putRatio 36 = .ok (.invokestatic 59, 3) := by decide +kernel
theorem dX2_putRatio_39 : decode cX2_putRatio 39 = .ok (.return_, 1) := by decide +kernel
theorem dX2_commonDivisor_0 : decode cX2_commonDivisor 0 = .ok (.iconst 0, 1) := by decide +kernel
theorem dX2_commonDivisor_1 : decode cX2_commonDivisor 1 = .ok (.istore 4, 2) := by decide +kernel
theorem dX2_commonDivisor_3 : decode cX2_commonDivisor 3 = .ok (.iload 4, 2) := by decide +kernel
theorem dX2_commonDivisor_5 : decode cX2_commonDivisor 5 = .ok (.bipush 100, 2) := by decide +kernel
theorem dX2_commonDivisor_7 : decode cX2_commonDivisor 7 = .ok (.if_icmp .ge 25, 3) := by decide +kernel
theorem dX2_commonDivisor_10 : decode cX2_commonDivisor 10 = .ok (.lload_n 2, 1) := by decide +kernel
theorem dX2_commonDivisor_11 : decode cX2_commonDivisor 11 = .ok (.lconst 0, 1) := by decide +kernel
theorem dX2_commonDivisor_12 : decode cX2_commonDivisor 12 = .ok (.lcmp, 1) := by decide +kernel
theorem dX2_commonDivisor_13 : decode cX2_commonDivisor 13 = .ok (.ifCond .eq 19, 3) := by decide +kernel
theorem dX2_commonDivisor_16 : decode cX2_commonDivisor 16 = .ok (.lload_n 0, 1) := by decide +kernel
theorem dX2_commonDivisor_17 : decode cX2_commonDivisor 17 = .ok (.lload_n 2, 1) := by decide +kernel
theorem dX2_commonDivisor_18 : decode cX2_commonDivisor 18 = .ok (.lrem, 1) := by decide +kernel
theorem dX2_commonDivisor_19 : decode cX2_commonDivisor 19 = .ok (.lstore 5, 2) := by decide +kernel
theorem dX2_commonDivisor_21 : decode cX2_commonDivisor 21 = .ok (.lload_n 2, 1) := by decide +kernel
theorem dX2_commonDivisor_22 : decode cX2_commonDivisor 22 = .ok (.lstore_n 0, 1) := by decide +kernel
theorem dX2_commonDivisor_23 : decode cX2_commonDivisor 23 = .ok (.lload 5, 2) := by decide +kernel
theorem dX2_commonDivisor_25 : decode cX2_commonDivisor 25 = .ok (.lstore_n 2, 1) := by decide +kernel
theorem dX2_commonDivisor_26 : decode cX2_commonDivisor 26 = .ok (.iinc 4 1, 3) := by decide +kernel
theorem dX2_commonDivisor_29 : decode cX2_commonDivisor 29 = .ok (.goto (-26), 3) := by decide +kernel
theorem dX2_commonDivisor_32 : decode cX2_commonDivisor 32 = .ok (.lload_n 0, 1) := by decide +kernel
theorem dX2_commonDivisor_33 : decode cX2_commonDivisor 33 = .ok (.lreturn, 1) := by decide +kernel
theorem dX2_spread_0 : decode cX2_spread 0 = .ok (.aload_n 2, 1) := by decide +kernel
theorem dX2_spread_1 : decode cX2_spread 1 = .ok (.iconst 0, 1) := by decide +kernel
theorem dX2_spread_2 : decode cX2_spread 2 = .ok (.invokestatic 22, 3) := by decide +kernel
theorem dX2_spread_5 : decode cX2_spread 5 = .ok (.iconst 0, 1) := by decide +kernel
theorem dX2_spread_6 : decode cX2_spread 6 = .ok (.istore_n 3, 1) := by decide +kernel
theorem dX2_spread_7 : decode cX2_spread 7 = .ok (.iload_n 3, 1) := by decide +kernel
theorem dX2_spread_8 : decode cX2_spread 8 = .ok (.iconst 3, 1) := by decide +kernel
theorem dX2_spread_9 : decode cX2_spread 9 = .ok (.if_icmp .ge 23, 3) := by decide +kernel
theorem dX2_spread_12 : decode cX2_spread 12 = .ok (.aload_n 2, 1) := by decide +kernel
theorem dX2_spread_13 : decode cX2_spread 13 = .ok (.iload_n 3, 1) := by decide +kernel
theorem dX2_spread_14 : decode cX2_spread 14 = .ok (.lload_n 0, 1) := by decide +kernel
theorem dX2_spread_15 : decode cX2_spread 15 = .ok (.ldc2_w 63, 3) := by decide +kernel
theorem dX2_spread_18 : decode cX2_spread 18 = .ok (.land, 1) := by decide +kernel
theorem dX2_spread_19 : decode cX2_spread 19 = .ok (.l2i, 1) := by decide +kernel
theorem dX2_spread_20 : decode cX2_spread 20 = .ok (.iastore, 1) := by decide +kernel
theorem dX2_spread_21 : decode cX2_spread 21 = .ok (.lload_n 0, 1) := by decide +kernel
theorem dX2_spread_22 : decode cX2_spread 22 = .ok (.bipush 30, 2) := by decide +kernel
theorem dX2_spread_24 : decode cX2_spread 24 = .ok (.lshr, 1) := by decide +kernel
theorem dX2_spread_25 : decode cX2_spread 25 = .ok (.lstore_n 0, 1) := by decide +kernel
theorem dX2_spread_26 : decode cX2_spread 26 = .ok (.iinc 3 1, 3) := by decide +kernel
theorem dX2_spread_29 : decode cX2_spread 29 = .ok (.goto (-22), 3) := by decide +kernel
theorem dX2_spread_32 : decode cX2_spread 32 = .ok (.return_, 1) := by decide +kernel
theorem dX2_remainder_0 : decode cX2_remainder 0 = .ok (.lconst 0, 1) := by decide +kernel
theorem dX2_remainder_1 : decode cX2_remainder 1 = .ok (.lstore_n 2, 1) := by decide +kernel
theorem dX2_remainder_2 : decode cX2_remainder 2 = .ok (.iconst 5, 1) := by decide +kernel
theorem dX2_remainder_3 : decode cX2_remainder 3 = .ok (.istore 4, 2) := by decide +kernel
theorem dX2_remainder_5 : decode cX2_remainder 5 = .ok (.iload 4, 2) := by decide +kernel
theorem dX2_remainder_7 : decode cX2_remainder 7 = .ok (.ifCond .lt 23, 3) := by decide +kernel
theorem dX2_remainder_10 : decode cX2_remainder 10 = .ok (.lload_n 2, 1) := by decide +kernel
theorem dX2_remainder_11 : decode cX2_remainder 11 = .ok (.bipush 30, 2) := by decide +kernel
theorem dX2_remainder_13 : decode cX2_remainder 13 = .ok (.lshl, 1) := by decide +kernel
theorem dX2_remainder_14 : decode cX2_remainder 14 = .ok (.aload_n 0, 1) := by decide +kernel
theorem dX2_remainder_15 : decode cX2_remainder 15 = .ok (.iload 4, 2) := by decide +kernel
theorem dX2_remainder_17 : decode cX2_remainder 17 = .ok (.iaload, 1) := by decide +kernel
theorem dX2_remainder_18 : decode cX2_remainder 18 = .ok (.i2l, 1) := by decide +kernel
theorem dX2_remainder_19 : decode cX2_remainder 19 = .ok (.ladd, 1) := by decide +kernel
theorem dX2_remainder_20 : decode cX2_remainder 20 = .ok (.iload_n 1, 1) := by decide +kernel
theorem dX2_remainder_21 : decode cX2_remainder 21 = .ok (.i2l, 1) := by decide +kernel
theorem dX2_remainder_22 : decode cX2_remainder 22 = .ok (.lrem, 1) := by decide +kernel
theorem dX2_remainder_23 : decode cX2_remainder 23 = .ok (.lstore_n 2, 1) := by decide +kernel
theorem dX2_remainder_24 : decode cX2_remainder 24 = .ok (.iinc 4 (-1), 3) := by decide +kernel
theorem dX2_remainder_27 : decode cX2_remainder 27 = .ok (.goto (-22), 3) := by decide +kernel
theorem dX2_remainder_30 : decode cX2_remainder 30 = .ok (.lload_n 2, 1) := by decide +kernel
theorem dX2_remainder_31 : decode cX2_remainder 31 = .ok (.l2i, 1) := by decide +kernel
theorem dX2_remainder_32 : decode cX2_remainder 32 = .ok (.ireturn, 1) := by decide +kernel
theorem dX2_divide_0 : decode cX2_divide 0 = .ok (.lconst 0, 1) := by decide +kernel
theorem dX2_divide_1 : decode cX2_divide 1 = .ok (.lstore_n 2, 1) := by decide +kernel
theorem dX2_divide_2 : decode cX2_divide 2 = .ok (.iconst 5, 1) := by decide +kernel
theorem dX2_divide_3 : decode cX2_divide 3 = .ok (.istore 4, 2) := by decide +kernel
theorem dX2_divide_5 : decode cX2_divide 5 = .ok (.iload 4, 2) := by decide +kernel
theorem dX2_divide_7 : decode cX2_divide 7 = .ok (.ifCond .lt 34, 3) := by decide +kernel
theorem dX2_divide_10 : decode cX2_divide 10 = .ok (.lload_n 2, 1) := by decide +kernel
theorem dX2_divide_11 : decode cX2_divide 11 = .ok (.bipush 30, 2) := by decide +kernel
theorem dX2_divide_13 : decode cX2_divide 13 = .ok (.lshl, 1) := by decide +kernel
theorem dX2_divide_14 : decode cX2_divide 14 = .ok (.aload_n 0, 1) := by decide +kernel
theorem dX2_divide_15 : decode cX2_divide 15 = .ok (.iload 4, 2) := by decide +kernel
theorem dX2_divide_17 : decode cX2_divide 17 = .ok (.iaload, 1) := by decide +kernel
theorem dX2_divide_18 : decode cX2_divide 18 = .ok (.i2l, 1) := by decide +kernel
theorem dX2_divide_19 : decode cX2_divide 19 = .ok (.ladd, 1) := by decide +kernel
theorem dX2_divide_20 : decode cX2_divide 20 = .ok (.lstore_n 2, 1) := by decide +kernel
theorem dX2_divide_21 : decode cX2_divide 21 = .ok (.aload_n 0, 1) := by decide +kernel
theorem dX2_divide_22 : decode cX2_divide 22 = .ok (.iload 4, 2) := by decide +kernel
theorem dX2_divide_24 : decode cX2_divide 24 = .ok (.lload_n 2, 1) := by decide +kernel
theorem dX2_divide_25 : decode cX2_divide 25 = .ok (.iload_n 1, 1) := by decide +kernel
theorem dX2_divide_26 : decode cX2_divide 26 = .ok (.i2l, 1) := by decide +kernel
theorem dX2_divide_27 : decode cX2_divide 27 = .ok (.ldiv, 1) := by decide +kernel
theorem dX2_divide_28 : decode cX2_divide 28 = .ok (.l2i, 1) := by decide +kernel
theorem dX2_divide_29 : decode cX2_divide 29 = .ok (.iastore, 1) := by decide +kernel
theorem dX2_divide_30 : decode cX2_divide 30 = .ok (.lload_n 2, 1) := by decide +kernel
theorem dX2_divide_31 : decode cX2_divide 31 = .ok (.iload_n 1, 1) := by decide +kernel
theorem dX2_divide_32 : decode cX2_divide 32 = .ok (.i2l, 1) := by decide +kernel
theorem dX2_divide_33 : decode cX2_divide 33 = .ok (.lrem, 1) := by decide +kernel
theorem dX2_divide_34 : decode cX2_divide 34 = .ok (.lstore_n 2, 1) := by decide +kernel
theorem dX2_divide_35 : decode cX2_divide 35 = .ok (.iinc 4 (-1), 3) := by decide +kernel
theorem dX2_divide_38 : decode cX2_divide 38 = .ok (.goto (-33), 3) := by decide +kernel
theorem dX2_divide_41 : decode cX2_divide 41 = .ok (.return_, 1) := by decide +kernel
theorem dX2_multiply_0 : decode cX2_multiply 0 = .ok (.lconst 0, 1) := by decide +kernel
theorem dX2_multiply_1 : decode cX2_multiply 1 = .ok (.lstore 4, 2) := by decide +kernel
theorem dX2_multiply_3 : decode cX2_multiply 3 = .ok (.iconst 0, 1) := by decide +kernel
theorem dX2_multiply_4 : decode cX2_multiply 4 = .ok (.istore 6, 2) := by decide +kernel
theorem dX2_multiply_6 : decode cX2_multiply 6 = .ok (.iload 6, 2) := by decide +kernel
theorem dX2_multiply_8 : decode cX2_multiply 8 = .ok (.iload_n 2, 1) := by decide +kernel
theorem dX2_multiply_9 : decode cX2_multiply 9 = .ok (.if_icmp .ge 44, 3) := by decide +kernel
theorem dX2_multiply_12 : decode cX2_multiply 12 = .ok (.lload 4, 2) := by decide +kernel
theorem dX2_multiply_14 : decode cX2_multiply 14 = .ok (.aload_n 0, 1) := by decide +kernel
theorem dX2_multiply_15 : decode cX2_multiply 15 = .ok (.iload_n 1, 1) := by decide +kernel
theorem dX2_multiply_16 : decode cX2_multiply 16 = .ok (.iload 6, 2) := by decide +kernel
theorem dX2_multiply_18 : decode cX2_multiply 18 = .ok (.iadd, 1) := by decide +kernel
theorem dX2_multiply_19 : decode cX2_multiply 19 = .ok (.iaload, 1) := by decide +kernel
theorem dX2_multiply_20 : decode cX2_multiply 20 = .ok (.i2l, 1) := by decide +kernel
theorem dX2_multiply_21 : decode cX2_multiply 21 = .ok (.iload_n 3, 1) := by decide +kernel
theorem dX2_multiply_22 : decode cX2_multiply 22 = .ok (.i2l, 1) := by decide +kernel
theorem dX2_multiply_23 : decode cX2_multiply 23 = .ok (.lmul, 1) := by decide +kernel
theorem dX2_multiply_24 : decode cX2_multiply 24 = .ok (.ladd, 1) := by decide +kernel
theorem dX2_multiply_25 : decode cX2_multiply 25 = .ok (.lstore 4, 2) := by decide +kernel
theorem dX2_multiply_27 : decode cX2_multiply 27 = .ok (.aload_n 0, 1) := by decide +kernel
theorem dX2_multiply_28 : decode cX2_multiply 28 = .ok (.iload_n 1, 1) := by decide +kernel
theorem dX2_multiply_29 : decode cX2_multiply 29 = .ok (.iload 6, 2) := by decide +kernel
theorem dX2_multiply_31 : decode cX2_multiply 31 = .ok (.iadd, 1) := by decide +kernel
theorem dX2_multiply_32 : decode cX2_multiply 32 = .ok (.lload 4, 2) := by decide +kernel
theorem dX2_multiply_34 : decode cX2_multiply 34 = .ok (.ldc2_w 63, 3) := by decide +kernel
theorem dX2_multiply_37 : decode cX2_multiply 37 = .ok (.land, 1) := by decide +kernel
theorem dX2_multiply_38 : decode cX2_multiply 38 = .ok (.l2i, 1) := by decide +kernel
theorem dX2_multiply_39 : decode cX2_multiply 39 = .ok (.iastore, 1) := by decide +kernel
theorem dX2_multiply_40 : decode cX2_multiply 40 = .ok (.lload 4, 2) := by decide +kernel
theorem dX2_multiply_42 : decode cX2_multiply 42 = .ok (.bipush 30, 2) := by decide +kernel
theorem dX2_multiply_44 : decode cX2_multiply 44 = .ok (.lshr, 1) := by decide +kernel
theorem dX2_multiply_45 : decode cX2_multiply 45 = .ok (.lstore 4, 2) := by decide +kernel
theorem dX2_multiply_47 : decode cX2_multiply 47 = .ok (.iinc 6 1, 3) := by decide +kernel
theorem dX2_multiply_50 : decode cX2_multiply 50 = .ok (.goto (-44), 3) := by decide +kernel
theorem dX2_multiply_53 : decode cX2_multiply 53 = .ok (.return_, 1) := by decide +kernel
theorem dX2_compareRows_0 : decode cX2_compareRows 0 = .ok (.iload_n 3, 1) := by decide +kernel
theorem dX2_compareRows_1 : decode cX2_compareRows 1 = .ok (.iconst 1, 1) := by decide +kernel
theorem dX2_compareRows_2 : decode cX2_compareRows 2 = .ok (.isub, 1) := by decide +kernel
theorem dX2_compareRows_3 : decode cX2_compareRows 3 = .ok (.istore 4, 2) := by decide +kernel
theorem dX2_compareRows_5 : decode cX2_compareRows 5 = .ok (.iload 4, 2) := by decide +kernel
theorem dX2_compareRows_7 : decode cX2_compareRows 7 = .ok (.ifCond .lt 45, 3) := by decide +kernel
theorem dX2_compareRows_10 : decode cX2_compareRows 10 = .ok (.aload_n 0, 1) := by decide +kernel
theorem dX2_compareRows_11 : decode cX2_compareRows 11 = .ok (.iload_n 1, 1) := by decide +kernel
theorem dX2_compareRows_12 : decode cX2_compareRows 12 = .ok (.iload 4, 2) := by decide +kernel
theorem dX2_compareRows_14 : decode cX2_compareRows 14 = .ok (.iadd, 1) := by decide +kernel
theorem dX2_compareRows_15 : decode cX2_compareRows 15 = .ok (.iaload, 1) := by decide +kernel
theorem dX2_compareRows_16 : decode cX2_compareRows 16 = .ok (.aload_n 0, 1) := by decide +kernel
theorem dX2_compareRows_17 : decode cX2_compareRows 17 = .ok (.iload_n 2, 1) := by decide +kernel
theorem dX2_compareRows_18 : decode cX2_compareRows 18 = .ok (.iload 4, 2) := by decide +kernel
theorem dX2_compareRows_20 : decode cX2_compareRows 20 = .ok (.iadd, 1) := by decide +kernel
theorem dX2_compareRows_21 : decode cX2_compareRows 21 = .ok (.iaload, 1) := by decide +kernel
theorem dX2_compareRows_22 : decode cX2_compareRows 22 = .ok (.if_icmp .eq 24, 3) := by decide +kernel
theorem dX2_compareRows_25 : decode cX2_compareRows 25 = .ok (.aload_n 0, 1) := by decide +kernel
theorem dX2_compareRows_26 : decode cX2_compareRows 26 = .ok (.iload_n 1, 1) := by decide +kernel
theorem dX2_compareRows_27 : decode cX2_compareRows 27 = .ok (.iload 4, 2) := by decide +kernel
theorem dX2_compareRows_29 : decode cX2_compareRows 29 = .ok (.iadd, 1) := by decide +kernel
theorem dX2_compareRows_30 : decode cX2_compareRows 30 = .ok (.iaload, 1) := by decide +kernel
theorem dX2_compareRows_31 : decode cX2_compareRows 31 = .ok (.aload_n 0, 1) := by decide +kernel
theorem dX2_compareRows_32 : decode cX2_compareRows 32 = .ok (.iload_n 2, 1) := by decide +kernel
theorem dX2_compareRows_33 : decode cX2_compareRows 33 = .ok (.iload 4, 2) := by decide +kernel
theorem dX2_compareRows_35 : decode cX2_compareRows 35 = .ok (.iadd, 1) := by decide +kernel
theorem dX2_compareRows_36 : decode cX2_compareRows 36 = .ok (.iaload, 1) := by decide +kernel
theorem dX2_compareRows_37 : decode cX2_compareRows 37 = .ok (.if_icmp .ge 7, 3) := by decide +kernel
theorem dX2_compareRows_40 : decode cX2_compareRows 40 = .ok (.iconst (-1), 1) := by decide +kernel
theorem dX2_compareRows_41 : decode cX2_compareRows 41 = .ok (.goto 4, 3) := by decide +kernel
theorem dX2_compareRows_44 : decode cX2_compareRows 44 = .ok (.iconst 1, 1) := by decide +kernel
theorem dX2_compareRows_45 : decode cX2_compareRows 45 = .ok (.ireturn, 1) := by decide +kernel
theorem dX2_compareRows_46 : decode cX2_compareRows 46 = .ok (.iinc 4 (-1), 3) := by decide +kernel
theorem dX2_compareRows_49 : decode cX2_compareRows 49 = .ok (.goto (-44), 3) := by decide +kernel
theorem dX2_compareRows_52 : decode cX2_compareRows 52 = .ok (.iconst 0, 1) := by decide +kernel
theorem dX2_compareRows_53 : decode cX2_compareRows 53 = .ok (.ireturn, 1) := by decide +kernel
theorem dX2_subtract_0 : decode cX2_subtract 0 = .ok (.lconst 0, 1) := by decide +kernel
theorem dX2_subtract_1 : decode cX2_subtract 1 = .ok (.lstore 4, 2) := by decide +kernel
theorem dX2_subtract_3 : decode cX2_subtract 3 = .ok (.iconst 0, 1) := by decide +kernel
theorem dX2_subtract_4 : decode cX2_subtract 4 = .ok (.istore 6, 2) := by decide +kernel
theorem dX2_subtract_6 : decode cX2_subtract 6 = .ok (.iload 6, 2) := by decide +kernel
theorem dX2_subtract_8 : decode cX2_subtract 8 = .ok (.iload_n 3, 1) := by decide +kernel
theorem dX2_subtract_9 : decode cX2_subtract 9 = .ok (.if_icmp .ge 44, 3) := by decide +kernel
theorem dX2_subtract_12 : decode cX2_subtract 12 = .ok (.lload 4, 2) := by decide +kernel
theorem dX2_subtract_14 : decode cX2_subtract 14 = .ok (.aload_n 0, 1) := by decide +kernel
theorem dX2_subtract_15 : decode cX2_subtract 15 = .ok (.iload 6, 2) := by decide +kernel
theorem dX2_subtract_17 : decode cX2_subtract 17 = .ok (.iaload, 1) := by decide +kernel
theorem dX2_subtract_18 : decode cX2_subtract 18 = .ok (.aload_n 1, 1) := by decide +kernel
theorem dX2_subtract_19 : decode cX2_subtract 19 = .ok (.iload_n 2, 1) := by decide +kernel
theorem dX2_subtract_20 : decode cX2_subtract 20 = .ok (.iload 6, 2) := by decide +kernel
theorem dX2_subtract_22 : decode cX2_subtract 22 = .ok (.iadd, 1) := by decide +kernel
theorem dX2_subtract_23 : decode cX2_subtract 23 = .ok (.iaload, 1) := by decide +kernel
theorem dX2_subtract_24 : decode cX2_subtract 24 = .ok (.isub, 1) := by decide +kernel
theorem dX2_subtract_25 : decode cX2_subtract 25 = .ok (.i2l, 1) := by decide +kernel
theorem dX2_subtract_26 : decode cX2_subtract 26 = .ok (.ladd, 1) := by decide +kernel
theorem dX2_subtract_27 : decode cX2_subtract 27 = .ok (.lstore 4, 2) := by decide +kernel
theorem dX2_subtract_29 : decode cX2_subtract 29 = .ok (.aload_n 0, 1) := by decide +kernel
theorem dX2_subtract_30 : decode cX2_subtract 30 = .ok (.iload 6, 2) := by decide +kernel
theorem dX2_subtract_32 : decode cX2_subtract 32 = .ok (.lload 4, 2) := by decide +kernel
theorem dX2_subtract_34 : decode cX2_subtract 34 = .ok (.ldc2_w 63, 3) := by decide +kernel
theorem dX2_subtract_37 : decode cX2_subtract 37 = .ok (.land, 1) := by decide +kernel
theorem dX2_subtract_38 : decode cX2_subtract 38 = .ok (.l2i, 1) := by decide +kernel
theorem dX2_subtract_39 : decode cX2_subtract 39 = .ok (.iastore, 1) := by decide +kernel
theorem dX2_subtract_40 : decode cX2_subtract 40 = .ok (.lload 4, 2) := by decide +kernel
theorem dX2_subtract_42 : decode cX2_subtract 42 = .ok (.bipush 30, 2) := by decide +kernel
theorem dX2_subtract_44 : decode cX2_subtract 44 = .ok (.lshr, 1) := by decide +kernel
theorem dX2_subtract_45 : decode cX2_subtract 45 = .ok (.lstore 4, 2) := by decide +kernel
theorem dX2_subtract_47 : decode cX2_subtract 47 = .ok (.iinc 6 1, 3) := by decide +kernel
theorem dX2_subtract_50 : decode cX2_subtract 50 = .ok (.goto (-44), 3) := by decide +kernel
theorem dX2_subtract_53 : decode cX2_subtract 53 = .ok (.return_, 1) := by decide +kernel
theorem dX2_wipe_0 : decode cX2_wipe 0 = .ok (.iconst 0, 1) := by decide +kernel
theorem dX2_wipe_1 : decode cX2_wipe 1 = .ok (.istore_n 3, 1) := by decide +kernel
theorem dX2_wipe_2 : decode cX2_wipe 2 = .ok (.iload_n 3, 1) := by decide +kernel
theorem dX2_wipe_3 : decode cX2_wipe 3 = .ok (.iload_n 2, 1) := by decide +kernel
theorem dX2_wipe_4 : decode cX2_wipe 4 = .ok (.if_icmp .ge 15, 3) := by decide +kernel
theorem dX2_wipe_7 : decode cX2_wipe 7 = .ok (.aload_n 0, 1) := by decide +kernel
theorem dX2_wipe_8 : decode cX2_wipe 8 = .ok (.iload_n 1, 1) := by decide +kernel
theorem dX2_wipe_9 : decode cX2_wipe 9 = .ok (.iload_n 3, 1) := by decide +kernel
theorem dX2_wipe_10 : decode cX2_wipe 10 = .ok (.iadd, 1) := by decide +kernel
theorem dX2_wipe_11 : decode cX2_wipe 11 = .ok (.iconst 0, 1) := by decide +kernel
theorem dX2_wipe_12 : decode cX2_wipe 12 = .ok (.iastore, 1) := by decide +kernel
theorem dX2_wipe_13 : decode cX2_wipe 13 = .ok (.iinc 3 1, 3) := by decide +kernel
theorem dX2_wipe_16 : decode cX2_wipe 16 = .ok (.goto (-14), 3) := by decide +kernel
theorem dX2_wipe_19 : decode cX2_wipe 19 = .ok (.return_, 1) := by decide +kernel
theorem dX2_grown_0 : decode cX2_grown 0 = .ok (.aload_n 0, 1) := by decide +kernel
theorem dX2_grown_1 : decode cX2_grown 1 = .ok (.arraylength, 1) := by decide +kernel
theorem dX2_grown_2 : decode cX2_grown 2 = .ok (.iload_n 1, 1) := by decide +kernel
theorem dX2_grown_3 : decode cX2_grown 3 = .ok (.if_icmp .lt 7, 3) := by decide +kernel
theorem dX2_grown_6 : decode cX2_grown 6 = .ok (.aload_n 0, 1) := by decide +kernel
theorem dX2_grown_7 : decode cX2_grown 7 = .ok (.goto 6, 3) := by decide +kernel
theorem dX2_grown_10 : decode cX2_grown 10 = .ok (.iload_n 1, 1) := by decide +kernel
theorem dX2_grown_11 : decode cX2_grown 11 = .ok (.newarray .int, 2) := by decide +kernel
theorem dX2_grown_13 : decode cX2_grown 13 = .ok (.areturn, 1) := by decide +kernel
theorem dX3_hire_0 : decode cX3_hire 0 = .ok (.aload_n 0, 1) := by decide +kernel
theorem dX3_hire_1 : decode cX3_hire 1 = .ok (.getfield 15, 3) := by decide +kernel
theorem dX3_hire_4 : decode cX3_hire 4 = .ok (.bipush 6, 2) := by decide +kernel
theorem dX3_hire_6 : decode cX3_hire 6 = .ok (.if_icmp .lt 5, 3) := by decide +kernel
theorem dX3_hire_9 : decode cX3_hire 9 = .ok (.iconst 0, 1) := by decide +kernel
theorem dX3_hire_10 : decode cX3_hire 10 = .ok (.ireturn, 1) := by decide +kernel
theorem dX3_hire_11 : decode cX3_hire 11 = .ok (.aload_n 0, 1) := by decide +kernel
theorem dX3_hire_12 : decode cX3_hire 12 = .ok (.getfield 11, 3) := by decide +kernel
theorem dX3_hire_15 : decode cX3_hire 15 = .ok (.aload_n 0, 1) := by decide +kernel
theorem dX3_hire_16 : decode cX3_hire 16 = .ok (.getfield 15, 3) := by decide +kernel
theorem dX3_hire_19 : decode cX3_hire 19 = .ok (.bipush 16, 2) := by decide +kernel
theorem dX3_hire_21 : decode cX3_hire 21 = .ok (.imul, 1) := by decide +kernel
theorem dX3_hire_22 : decode cX3_hire 22 = .ok (.bipush 16, 2) := by decide +kernel
theorem dX3_hire_24 : decode cX3_hire 24 = .ok (.invokestatic 49, 3) := by decide +kernel
theorem dX3_hire_27 : decode cX3_hire 27 = .ok (.aload_n 0, 1) := by decide +kernel
theorem dX3_hire_28 : decode cX3_hire 28 = .ok (.dup, 1) := by decide +kernel
theorem dX3_hire_29 : decode cX3_hire 29 = .ok (.getfield 15, 3) := by decide +kernel
theorem dX3_hire_32 : decode cX3_hire 32 = .ok (.iconst 1, 1) := by decide +kernel
theorem dX3_hire_33 : decode cX3_hire 33 = .ok (.iadd, 1) := by decide +kernel
theorem dX3_hire_34 : decode cX3_hire 34 = .ok (.putfield 15, 3) := by decide +kernel
theorem dX3_hire_37 : decode cX3_hire 37 = .ok (.iconst 1, 1) := by decide +kernel
theorem dX3_hire_38 : decode cX3_hire 38 = .ok (.ireturn, 1) := by decide +kernel
theorem dX3_catchOf_0 : decode cX3_catchOf 0 = .ok (.aload_n 0, 1) := by decide +kernel
theorem dX3_catchOf_1 : decode cX3_catchOf 1 = .ok (.getfield 11, 3) := by decide +kernel
theorem dX3_catchOf_4 : decode cX3_catchOf 4 = .ok (.iload_n 1, 1) := by decide +kernel
theorem dX3_catchOf_5 : decode cX3_catchOf 5 = .ok (.bipush 16, 2) := by decide +kernel
theorem dX3_catchOf_7 : decode cX3_catchOf 7 = .ok (.imul, 1) := by decide +kernel
theorem dX3_catchOf_8 : decode cX3_catchOf 8 = .ok (.iload_n 2, 1) := by decide +kernel
theorem dX3_catchOf_9 : decode cX3_catchOf 9 = .ok (.iadd, 1) := by decide +kernel
theorem dX3_catchOf_10 : decode cX3_catchOf 10 = .ok (.iaload, 1) := by decide +kernel
theorem dX3_catchOf_11 : decode cX3_catchOf 11 = .ok (.ireturn, 1) := by decide +kernel
theorem dX3_putCatch_0 : decode cX3_putCatch 0 = .ok (.aload_n 0, 1) := by decide +kernel
theorem dX3_putCatch_1 : decode cX3_putCatch 1 = .ok (.getfield 11, 3) := by decide +kernel
theorem dX3_putCatch_4 : decode cX3_putCatch 4 = .ok (.iload_n 1, 1) := by decide +kernel
theorem dX3_putCatch_5 : decode cX3_putCatch 5 = .ok (.bipush 16, 2) := by decide +kernel
theorem dX3_putCatch_7 : decode cX3_putCatch 7 = .ok (.imul, 1) := by decide +kernel
theorem dX3_putCatch_8 : decode cX3_putCatch 8 = .ok (.iload_n 2, 1) := by decide +kernel
theorem dX3_putCatch_9 : decode cX3_putCatch 9 = .ok (.iadd, 1) := by decide +kernel
theorem dX3_putCatch_10 : decode cX3_putCatch 10 = .ok (.iload_n 3, 1) := by decide +kernel
theorem dX3_putCatch_11 : decode cX3_putCatch 11 = .ok (.iastore, 1) := by decide +kernel
theorem dX3_putCatch_12 : decode cX3_putCatch 12 = .ok (.return_, 1) := by decide +kernel
theorem dX3_play_0 : decode cX3_play 0 = .ok (.aload_n 0, 1) := by decide +kernel
theorem dX3_play_1 : decode cX3_play 1 = .ok (.invokevirtual 55, 3) := by decide +kernel
theorem dX3_play_4 : decode cX3_play 4 = .ok (.iconst 0, 1) := by decide +kernel
theorem dX3_play_5 : decode cX3_play 5 = .ok (.istore_n 1, 1) := by decide +kernel
theorem dX3_play_6 : decode cX3_play 6 = .ok (.iload_n 1, 1) := by decide +kernel
theorem dX3_play_7 : decode cX3_play 7 = .ok (.ldc 58, 2) := by decide +kernel
theorem dX3_play_9 : decode cX3_play 9 = .ok (.if_icmp .ge 40, 3) := by decide +kernel
theorem dX3_play_12 : decode cX3_play 12 = .ok (.aload_n 0, 1) := by decide +kernel
theorem dX3_play_13 : decode cX3_play 13 = .ok (.invokevirtual 59, 3) := by decide +kernel
theorem dX3_play_16 : decode cX3_play 16 = .ok (.istore_n 2, 1) := by decide +kernel
theorem dX3_play_17 : decode cX3_play 17 = .ok (.iload_n 2, 1) := by decide +kernel
theorem dX3_play_18 : decode cX3_play 18 = .ok (.ifCond .ge 6, 3) := by decide +kernel
theorem dX3_play_21 : decode cX3_play 21 = .ok (.goto 28, 3) := by decide +kernel
theorem dX3_play_24 : decode cX3_play 24 = .ok (.aload_n 0, 1) := by decide +kernel
theorem dX3_play_25 : decode cX3_play 25 = .ok (.iload_n 2, 1) := by decide +kernel
theorem dX3_play_26 : decode cX3_play 26 = .ok (.invokevirtual 63, 3) := by decide +kernel
theorem dX3_play_29 : decode cX3_play 29 = .ok (.istore_n 3, 1) := by decide +kernel
theorem dX3_play_30 : decode cX3_play 30 = .ok (.iload_n 3, 1) := by decide +kernel
theorem dX3_play_31 : decode cX3_play 31 = .ok (.ifCond .ge 6, 3) := by decide +kernel
theorem dX3_play_34 : decode cX3_play 34 = .ok (.goto 15, 3) := by decide +kernel
theorem dX3_play_37 : decode cX3_play 37 = .ok (.aload_n 0, 1) := by decide +kernel
theorem dX3_play_38 : decode cX3_play 38 = .ok (.iload_n 3, 1) := by decide +kernel
theorem dX3_play_39 : decode cX3_play 39 = .ok (.iload_n 2, 1) := by decide +kernel
theorem dX3_play_40 : decode cX3_play 40 = .ok (.invokevirtual 67, 3) := by decide +kernel
theorem dX3_play_43 : decode cX3_play 43 = .ok (.iinc 1 1, 3) := by decide +kernel
theorem dX3_play_46 : decode cX3_play 46 = .ok (.goto (-40), 3) := by decide +kernel
theorem dX3_play_49 : decode cX3_play 49 = .ok (.aload_n 0, 1) := by decide +kernel
theorem dX3_play_50 : decode cX3_play 50 = .ok (.getfield 19, 3) := by decide +kernel
theorem dX3_play_53 : decode cX3_play 53 = .ok (.aload_n 0, 1) := by decide +kernel
theorem dX3_play_54 : decode cX3_play 54 = .ok (.getfield 15, 3) := by decide +kernel
theorem dX3_play_57 : decode cX3_play 57 = .ok (.aload_n 0, 1) := by decide +kernel
theorem dX3_play_58 : decode cX3_play 58 = .ok (.getfield 32, 3) := by decide +kernel
theorem dX3_play_61 : decode cX3_play 61 = .ok (.imul, 1) := by decide +kernel
theorem dX3_play_62 : decode cX3_play 62 = .ok (.aload_n 0, 1) := by decide +kernel
theorem dX3_play_63 : decode cX3_play 63 = .ok (.getfield 29, 3) := by decide +kernel
theorem dX3_play_66 : decode cX3_play 66 = .ok (.iadd, 1) := by decide +kernel
theorem dX3_play_67 : decode cX3_play 67 = .ok (.laload, 1) := by decide +kernel
theorem dX3_play_68 : decode cX3_play 68 = .ok (.lstore_n 1, 1) := by decide +kernel
theorem dX3_play_69 : decode cX3_play 69 = .ok (.aload_n 0, 1) := by decide +kernel
theorem dX3_play_70 : decode cX3_play 70 = .ok (.lload_n 1, 1) := by decide +kernel
theorem dX3_play_71 : decode cX3_play 71 = .ok (.lconst 0, 1) := by decide +kernel
theorem dX3_play_72 : decode cX3_play 72 = .ok (.lcmp, 1) := by decide +kernel
theorem dX3_play_73 : decode cX3_play 73 = .ok (.ifCond .le 12, 3) := by decide +kernel
theorem dX3_play_76 : decode cX3_play 76 = .ok (.aload_n 0, 1) := by decide +kernel
theorem dX3_play_77 : decode cX3_play 77 = .ok (.getfield 35, 3) := by decide +kernel
theorem dX3_play_80 : decode cX3_play 80 = .ok (.lload_n 1, 1) := by decide +kernel
theorem dX3_play_81 : decode cX3_play 81 = .ok (.lsub, 1) := by decide +kernel
theorem dX3_play_82 : decode cX3_play 82 = .ok (.goto 4, 3) := by decide +kernel
theorem dX3_play_85 : decode cX3_play 85 = .ok (.lconst 0, 1) := by decide +kernel
theorem dX3_play_86 : decode cX3_play 86 = .ok (.putfield 39, 3) := by decide +kernel
theorem dX3_play_89 : decode cX3_play 89 = .ok (.aload_n 0, 1) := by decide +kernel
theorem dX3_play_90 : decode cX3_play 90 = .ok (.lload_n 1, 1) := by decide +kernel
theorem dX3_play_91 : decode cX3_play 91 = .ok (.lconst 0, 1) := by decide +kernel
theorem dX3_play_92 : decode cX3_play 92 = .ok (.lcmp, 1) := by decide +kernel
theorem dX3_play_93 : decode cX3_play 93 = .ok (.ifCond .le 7, 3) := by decide +kernel
theorem dX3_play_96 : decode cX3_play 96 = .ok (.lload_n 1, 1) := by decide +kernel
theorem dX3_play_97 : decode cX3_play 97 = .ok (.goto 4, 3) := by decide +kernel
theorem dX3_play_100 : decode cX3_play 100 = .ok (.lconst 1, 1) := by decide +kernel
theorem dX3_play_101 : decode cX3_play 101 = .ok (.putfield 42, 3) := by decide +kernel
theorem dX3_play_104 : decode cX3_play 104 = .ok (.return_, 1) := by decide +kernel
theorem dX3_layOut_0 : decode cX3_layOut 0 = .ok (.aload_n 0, 1) := by decide +kernel
theorem dX3_layOut_1 : decode cX3_layOut 1 = .ok (.aload_n 0, 1) := by decide +kernel
theorem dX3_layOut_2 : decode cX3_layOut 2 = .ok (.getfield 45, 3) := by decide +kernel
theorem dX3_layOut_5 : decode cX3_layOut 5 = .ok (.getfield 71, 3) := by decide +kernel
theorem dX3_layOut_8 : decode cX3_layOut 8 = .ok (.bipush 24, 2) := by decide +kernel
theorem dX3_layOut_10 : decode cX3_layOut 10 = .ok (.invokestatic 74, 3) := by decide +kernel
theorem dX3_layOut_13 : decode cX3_layOut 13 = .ok (.putfield 29, 3) := by decide +kernel
theorem dX3_layOut_16 : decode cX3_layOut 16 = .ok (.aload_n 0, 1) := by decide +kernel
theorem dX3_layOut_17 : decode cX3_layOut 17 = .ok (.aload_n 0, 1) := by decide +kernel
theorem dX3_layOut_18 : decode cX3_layOut 18 = .ok (.getfield 29, 3) := by decide +kernel
theorem dX3_layOut_21 : decode cX3_layOut 21 = .ok (.iconst 1, 1) := by decide +kernel
theorem dX3_layOut_22 : decode cX3_layOut 22 = .ok (.iadd, 1) := by decide +kernel
theorem dX3_layOut_23 : decode cX3_layOut 23 = .ok (.putfield 32, 3) := by decide +kernel
theorem dX3_layOut_26 : decode cX3_layOut 26 = .ok (.aload_n 0, 1) := by decide +kernel
theorem dX3_layOut_27 : decode cX3_layOut 27 = .ok (.lconst 1, 1) := by decide +kernel
theorem dX3_layOut_28 : decode cX3_layOut 28 = .ok (.putfield 35, 3) := by decide +kernel
theorem dX3_layOut_31 : decode cX3_layOut 31 = .ok (.iconst 0, 1) := by decide +kernel
theorem dX3_layOut_32 : decode cX3_layOut 32 = .ok (.istore_n 1, 1) := by decide +kernel
theorem dX3_layOut_33 : decode cX3_layOut 33 = .ok (.iload_n 1, 1) := by decide +kernel
theorem dX3_layOut_34 : decode cX3_layOut 34 = .ok (.aload_n 0, 1) := by decide +kernel
theorem dX3_layOut_35 : decode cX3_layOut 35 = .ok (.getfield 15, 3) := by decide +kernel
theorem dX3_layOut_38 : decode cX3_layOut 38 = .ok (.if_icmp .ge 84, 3) := by decide +kernel
theorem dX3_layOut_41 : decode cX3_layOut 41 = .ok (.aload_n 0, 1) := by decide +kernel
theorem dX3_layOut_42 : decode cX3_layOut 42 = .ok (.getfield 23, 3) := by decide +kernel
theorem dX3_layOut_45 : decode cX3_layOut 45 = .ok (.iload_n 1, 1) := by decide +kernel
theorem dX3_layOut_46 : decode cX3_layOut 46 = .ok (.aload_n 0, 1) := by decide +kernel
theorem dX3_layOut_47 : decode cX3_layOut 47 = .ok (.getfield 29, 3) := by decide +kernel
theorem dX3_layOut_50 : decode cX3_layOut 50 = .ok (.iload_n 1, 1) := by decide +kernel
theorem dX3_layOut_51 : decode cX3_layOut 51 = .ok (.iadd, 1) := by decide +kernel
theorem dX3_layOut_52 : decode cX3_layOut 52 = .ok (.iastore, 1) := by decide +kernel
theorem dX3_layOut_53 : decode cX3_layOut 53 = .ok (.iconst 0, 1) := by decide +kernel
theorem dX3_layOut_54 : decode cX3_layOut 54 = .ok (.istore_n 2, 1) := by decide +kernel
theorem dX3_layOut_55 : decode cX3_layOut 55 = .ok (.iload_n 2, 1) := by decide +kernel
theorem dX3_layOut_56 : decode cX3_layOut 56 = .ok (.aload_n 0, 1) := by decide +kernel
theorem dX3_layOut_57 : decode cX3_layOut 57 = .ok (.getfield 29, 3) := by decide +kernel
theorem dX3_layOut_60 : decode cX3_layOut 60 = .ok (.if_icmp .ge 39, 3) := by decide +kernel
theorem dX3_layOut_63 : decode cX3_layOut 63 = .ok (.aload_n 0, 1) := by decide +kernel
theorem dX3_layOut_64 : decode cX3_layOut 64 = .ok (.getfield 19, 3) := by decide +kernel
theorem dX3_layOut_67 : decode cX3_layOut 67 = .ok (.iload_n 1, 1) := by decide +kernel
theorem dX3_layOut_68 : decode cX3_layOut 68 = .ok (.aload_n 0, 1) := by decide +kernel
theorem dX3_layOut_69 : decode cX3_layOut 69 = .ok (.getfield 32, 3) := by decide +kernel
theorem dX3_layOut_72 : decode cX3_layOut 72 = .ok (.imul, 1) := by decide +kernel
theorem dX3_layOut_73 : decode cX3_layOut 73 = .ok (.iload_n 2, 1) := by decide +kernel
theorem dX3_layOut_74 : decode cX3_layOut 74 = .ok (.iadd, 1) := by decide +kernel
theorem dX3_layOut_75 : decode cX3_layOut 75 = .ok (.iconst 1, 1) := by decide +kernel
theorem dX3_layOut_76 : decode cX3_layOut 76 = .ok (.aload_n 0, 1) := by decide +kernel
theorem dX3_layOut_77 : decode cX3_layOut 77 = .ok (.iload_n 1, 1) := by decide +kernel
theorem dX3_layOut_78 : decode cX3_layOut 78 = .ok (.aload_n 0, 1) := by decide +kernel
theorem dX3_layOut_79 : decode cX3_layOut 79 = .ok (.getfield 45, 3) := by decide +kernel
theorem dX3_layOut_82 : decode cX3_layOut 82 = .ok (.getfield 80, 3) := by decide +kernel
theorem dX3_layOut_85 : decode cX3_layOut 85 = .ok (.iload_n 2, 1) := by decide +kernel
theorem dX3_layOut_86 : decode cX3_layOut 86 = .ok (.iaload, 1) := by decide +kernel
theorem dX3_layOut_87 : decode cX3_layOut 87 = .ok (.invokevirtual 83, 3) := by decide +kernel
theorem dX3_layOut_90 : decode cX3_layOut 90 = .ok (.iadd, 1) := by decide +kernel
theorem dX3_layOut_91 : decode cX3_layOut 91 = .ok (.i2l, 1) := by decide +kernel
theorem dX3_layOut_92 : decode cX3_layOut 92 = .ok (.lastore, 1) := by decide +kernel
theorem dX3_layOut_93 : decode cX3_layOut 93 = .ok (.iinc 2 1, 3) := by decide +kernel
theorem dX3_layOut_96 : decode cX3_layOut 96 = .ok (.goto (-41), 3) := by decide +kernel
theorem dX3_layOut_99 : decode cX3_layOut 99 = .ok (.aload_n 0, 1) := by decide +kernel
theorem dX3_layOut_100 : decode cX3_layOut 100 = .ok (.getfield 19, 3) := by decide +kernel
theorem dX3_layOut_103 : decode cX3_layOut 103 = .ok (.iload_n 1, 1) := by decide +kernel
theorem dX3_layOut_104 : decode cX3_layOut 104 = .ok (.aload_n 0, 1) := by decide +kernel
theorem dX3_layOut_105 : decode cX3_layOut 105 = .ok (.getfield 32, 3) := by decide +kernel
theorem dX3_layOut_108 : decode cX3_layOut 108 = .ok (.imul, 1) := by decide +kernel
theorem dX3_layOut_109 : decode cX3_layOut 109 = .ok (.aload_n 0, 1) := by decide +kernel
theorem dX3_layOut_110 : decode cX3_layOut 110 = .ok (.getfield 29, 3) := by decide +kernel
theorem dX3_layOut_113 : decode cX3_layOut 113 = .ok (.iadd, 1) := by decide +kernel
theorem dX3_layOut_114 : decode cX3_layOut 114 = .ok (.lconst 1, 1) := by decide +kernel
theorem dX3_layOut_115 : decode cX3_layOut 115 = .ok (.lastore, 1) := by decide +kernel
theorem dX3_layOut_116 : decode cX3_layOut 116 = .ok (.iinc 1 1, 3) := by decide +kernel
theorem dX3_layOut_119 : decode cX3_layOut 119 = .ok (.goto (-86), 3) := by decide +kernel
theorem dX3_layOut_122 : decode cX3_layOut 122 = .ok (.iconst 0, 1) := by decide +kernel
theorem dX3_layOut_123 : decode cX3_layOut 123 = .ok (.istore_n 1, 1) := by decide +kernel
theorem dX3_layOut_124 : decode cX3_layOut 124 = .ok (.iload_n 1, 1) := by decide +kernel
theorem dX3_layOut_125 : decode cX3_layOut 125 = .ok (.aload_n 0, 1) := by decide +kernel
theorem dX3_layOut_126 : decode cX3_layOut 126 = .ok (.getfield 29, 3) := by decide +kernel
theorem dX3_layOut_129 : decode cX3_layOut 129 = .ok (.if_icmp .ge 35, 3) := by decide +kernel
theorem dX3_layOut_132 : decode cX3_layOut 132 = .ok (.aload_n 0, 1) := by decide +kernel
theorem dX3_layOut_133 : decode cX3_layOut 133 = .ok (.getfield 26, 3) := by decide +kernel
theorem dX3_layOut_136 : decode cX3_layOut 136 = .ok (.iload_n 1, 1) := by decide +kernel
theorem dX3_layOut_137 : decode cX3_layOut 137 = .ok (.iload_n 1, 1) := by decide +kernel
theorem dX3_layOut_138 : decode cX3_layOut 138 = .ok (.iastore, 1) := by decide +kernel
theorem dX3_layOut_139 : decode cX3_layOut 139 = .ok (.aload_n 0, 1) := by decide +kernel
theorem dX3_layOut_140 : decode cX3_layOut 140 = .ok (.getfield 19, 3) := by decide +kernel
theorem dX3_layOut_143 : decode cX3_layOut 143 = .ok (.aload_n 0, 1) := by decide +kernel
theorem dX3_layOut_144 : decode cX3_layOut 144 = .ok (.getfield 15, 3) := by decide +kernel
theorem dX3_layOut_147 : decode cX3_layOut 147 = .ok (.aload_n 0, 1) := by decide +kernel
theorem dX3_layOut_148 : decode cX3_layOut 148 = .ok (.getfield 32, 3) := by decide +kernel
theorem dX3_layOut_151 : decode cX3_layOut 151 = .ok (.imul, 1) := by decide +kernel
theorem dX3_layOut_152 : decode cX3_layOut 152 = .ok (.iload_n 1, 1) := by decide +kernel
theorem dX3_layOut_153 : decode cX3_layOut 153 = .ok (.iadd, 1) := by decide +kernel
theorem dX3_layOut_154 : decode cX3_layOut 154 = .ok (.ldc2_w 86, 3) := by decide +kernel
theorem dX3_layOut_157 : decode cX3_layOut 157 = .ok (.lastore, 1) := by decide +kernel
theorem dX3_layOut_158 : decode cX3_layOut 158 = .ok (.iinc 1 1, 3) := by decide +kernel
theorem dX3_layOut_161 : decode cX3_layOut 161 = .ok (.goto (-37), 3) := by decide +kernel
theorem dX3_layOut_164 : decode cX3_layOut 164 = .ok (.aload_n 0, 1) := by decide +kernel
theorem dX3_layOut_165 : decode cX3_layOut 165 = .ok (.getfield 19, 3) := by decide +kernel
theorem dX3_layOut_168 : decode cX3_layOut 168 = .ok (.aload_n 0, 1) := by decide +kernel
theorem dX3_layOut_169 : decode cX3_layOut 169 = .ok (.getfield 15, 3) := by decide +kernel
theorem dX3_layOut_172 : decode cX3_layOut 172 = .ok (.aload_n 0, 1) := by decide +kernel
theorem dX3_layOut_173 : decode cX3_layOut 173 = .ok (.getfield 32, 3) := by decide +kernel
theorem dX3_layOut_176 : decode cX3_layOut 176 = .ok (.imul, 1) := by decide +kernel
theorem dX3_layOut_177 : decode cX3_layOut 177 = .ok (.aload_n 0, 1) := by decide +kernel
theorem dX3_layOut_178 : decode cX3_layOut 178 = .ok (.getfield 29, 3) := by decide +kernel
theorem dX3_layOut_181 : decode cX3_layOut 181 = .ok (.iadd, 1) := by decide +kernel
theorem dX3_layOut_182 : decode cX3_layOut 182 = .ok (.lconst 0, 1) := by decide +kernel
theorem dX3_layOut_183 : decode cX3_layOut 183 = .ok (.lastore, 1) := by decide +kernel
theorem dX3_layOut_184 : decode cX3_layOut 184 = .ok (.return_, 1) := by decide +kernel
theorem dX3_greatestCatch_0 : decode cX3_greatestCatch 0 = .ok (.iconst 0, 1) := by decide +kernel
theorem dX3_greatestCatch_1 : decode cX3_greatestCatch 1 = .ok (.istore_n 3, 1) := by decide +kernel
theorem dX3_greatestCatch_2 : decode cX3_greatestCatch 2 = .ok (.iconst 0, 1) := by decide +kernel
theorem dX3_greatestCatch_3 : decode cX3_greatestCatch 3 = .ok (.istore 4, 2) := by decide +kernel
theorem dX3_greatestCatch_5 : decode cX3_greatestCatch 5 = .ok (.iload 4, 2) := by decide +kernel
theorem dX3_greatestCatch_7 : decode cX3_greatestCatch 7 = .ok (.bipush 16, 2) := by decide +kernel
theorem dX3_greatestCatch_9 : decode cX3_greatestCatch 9 = .ok (.if_icmp .ge 31, 3) := by decide +kernel
theorem dX3_greatestCatch_12 : decode cX3_greatestCatch 12 = .ok (.iload_n 2, 1) := by decide +kernel
theorem dX3_greatestCatch_13 : decode cX3_greatestCatch 13 = .ok (.iload 4, 2) := by decide +kernel
theorem dX3_greatestCatch_15 : decode cX3_greatestCatch 15 = .ok (.ishr, 1) := by decide +kernel
theorem dX3_greatestCatch_16 : decode cX3_greatestCatch 16 = .ok (.iconst 1, 1) := by decide +kernel
theorem dX3_greatestCatch_17 : decode cX3_greatestCatch 17 = .ok (.iand, 1) := by decide +kernel
theorem dX3_greatestCatch_18 : decode cX3_greatestCatch 18 = .ok (.iconst 1, 1) := by decide +kernel
theorem dX3_greatestCatch_19 : decode cX3_greatestCatch 19 = .ok (.if_icmp .ne 15, 3) := by decide +kernel
theorem dX3_greatestCatch_22 : decode cX3_greatestCatch 22 = .ok (.iload_n 3, 1) := by decide +kernel
theorem dX3_greatestCatch_23 : decode cX3_greatestCatch 23 = .ok (.aload_n 0, 1) := by decide +kernel
theorem dX3_greatestCatch_24 : decode cX3_greatestCatch 24 = .ok (.iload_n 1, 1) := by decide +kernel
theorem dX3_greatestCatch_25 : decode cX3_greatestCatch 25 = .ok (.iload 4, 2) := by decide +kernel
theorem dX3_greatestCatch_27 : decode cX3_greatestCatch 27 = .ok (.invokevirtual 88, 3) := by decide +kernel
theorem dX3_greatestCatch_30 : decode cX3_greatestCatch 30 = .ok (.invokestatic 91, 3) := by decide +kernel
theorem dX3_greatestCatch_33 : decode cX3_greatestCatch 33 = .ok (.istore_n 3, 1) := by decide +kernel
theorem dX3_greatestCatch_34 : decode cX3_greatestCatch 34 = .ok (.iinc 4 1, 3) := by decide +kernel
theorem dX3_greatestCatch_37 : decode cX3_greatestCatch 37 = .ok (.goto (-32), 3) := by decide +kernel
theorem dX3_greatestCatch_40 : decode cX3_greatestCatch 40 = .ok (.iload_n 3, 1) := by decide +kernel
theorem dX3_greatestCatch_41 : decode cX3_greatestCatch 41 = .ok (.ireturn, 1) := by decide +kernel
theorem dX3_enteringColumn_0 : decode cX3_enteringColumn 0 = .ok (.iconst (-1), 1) := by decide +kernel
theorem dX3_enteringColumn_1 : decode cX3_enteringColumn 1 = .ok (.istore_n 1, 1) := by decide +kernel
theorem dX3_enteringColumn_2 : decode cX3_enteringColumn 2 = .ok (.iconst 0, 1) := by decide +kernel
theorem dX3_enteringColumn_3 : decode cX3_enteringColumn 3 = .ok (.istore_n 2, 1) := by decide +kernel
theorem dX3_enteringColumn_4 : decode cX3_enteringColumn 4 = .ok (.iload_n 2, 1) := by decide +kernel
theorem dX3_enteringColumn_5 : decode cX3_enteringColumn 5 = .ok (.aload_n 0, 1) := by decide +kernel
theorem dX3_enteringColumn_6 : decode cX3_enteringColumn 6 = .ok (.getfield 29, 3) := by decide +kernel
theorem dX3_enteringColumn_9 : decode cX3_enteringColumn 9 = .ok (.if_icmp .ge 54, 3) := by decide +kernel
theorem dX3_enteringColumn_12 : decode cX3_enteringColumn 12 = .ok (.aload_n 0, 1) := by decide +kernel
theorem dX3_enteringColumn_13 : decode cX3_enteringColumn 13 = .ok (.getfield 19, 3) := by decide +kernel
theorem dX3_enteringColumn_16 : decode cX3_enteringColumn 16 = .ok (.aload_n 0, 1) := by decide +kernel
theorem dX3_enteringColumn_17 : decode cX3_enteringColumn 17 = .ok (.getfield 15, 3) := by decide +kernel
theorem dX3_enteringColumn_20 : decode cX3_enteringColumn 20 = .ok (.aload_n 0, 1) := by decide +kernel
theorem dX3_enteringColumn_21 : decode cX3_enteringColumn 21 = .ok (.getfield 32, 3) := by decide +kernel
theorem dX3_enteringColumn_24 : decode cX3_enteringColumn 24 = .ok (.imul, 1) := by decide +kernel
theorem dX3_enteringColumn_25 : decode cX3_enteringColumn 25 = .ok (.iload_n 2, 1) := by decide +kernel
theorem dX3_enteringColumn_26 : decode cX3_enteringColumn 26 = .ok (.iadd, 1) := by decide +kernel
theorem dX3_enteringColumn_27 : decode cX3_enteringColumn 27 = .ok (.laload, 1) := by decide +kernel
theorem dX3_enteringColumn_28 : decode cX3_enteringColumn 28 = .ok (.lconst 0, 1) := by decide +kernel
theorem dX3_enteringColumn_29 : decode cX3_enteringColumn 29 = .ok (.lcmp, 1) := by decide +kernel
theorem dX3_enteringColumn_30 : decode cX3_enteringColumn 30 = .ok (.ifCond .lt 6, 3) := by decide +kernel
theorem dX3_enteringColumn_33 : decode cX3_enteringColumn 33 = .ok (.goto 24, 3) := by decide +kernel
theorem dX3_enteringColumn_36 : decode cX3_enteringColumn 36 = .ok (.iload_n 1, 1) := by decide +kernel
theorem dX3_enteringColumn_37 : decode cX3_enteringColumn 37 = .ok (.ifCond .lt 18, 3) := by decide +kernel
theorem dX3_enteringColumn_40 : decode cX3_enteringColumn 40 = .ok (.aload_n 0, 1) := by decide +kernel
theorem dX3_enteringColumn_41 : decode cX3_enteringColumn 41 = .ok (.getfield 26, 3) := by decide +kernel
theorem dX3_enteringColumn_44 : decode cX3_enteringColumn 44 = .ok (.iload_n 2, 1) := by decide +kernel
theorem dX3_enteringColumn_45 : decode cX3_enteringColumn 45 = .ok (.iaload, 1) := by decide +kernel
theorem dX3_enteringColumn_46 : decode cX3_enteringColumn 46 = .ok (.aload_n 0, 1) := by decide +kernel
theorem dX3_enteringColumn_47 : decode cX3_enteringColumn 47 = .ok (.getfield 26, 3) := by decide +kernel
theorem dX3_enteringColumn_50 : decode cX3_enteringColumn 50 = .ok (.iload_n 1, 1) := by decide +kernel
theorem dX3_enteringColumn_51 : decode cX3_enteringColumn 51 = .ok (.iaload, 1) := by decide +kernel
theorem dX3_enteringColumn_52 : decode cX3_enteringColumn 52 = .ok (.if_icmp .ge 5, 3) := by decide +kernel
theorem dX3_enteringColumn_55 : decode cX3_enteringColumn 55 = .ok (.iload_n 2, 1) := by decide +kernel
theorem dX3_enteringColumn_56 : decode cX3_enteringColumn 56 = .ok (.istore_n 1, 1) := by decide +kernel
theorem dX3_enteringColumn_57 : decode cX3_enteringColumn 57 = .ok (.iinc 2 1, 3) := by decide +kernel
theorem dX3_enteringColumn_60 : decode cX3_enteringColumn 60 = .ok (.goto (-56), 3) := by decide +kernel
theorem dX3_enteringColumn_63 : decode cX3_enteringColumn 63 = .ok (.iload_n 1, 1) := by decide +kernel
theorem dX3_enteringColumn_64 : decode cX3_enteringColumn 64 = .ok (.ireturn, 1) := by decide +kernel
theorem dX3_leavingRow_0 : decode cX3_leavingRow 0 = .ok (.iconst (-1), 1) := by decide +kernel
theorem dX3_leavingRow_1 : decode cX3_leavingRow 1 = .ok (.istore_n 2, 1) := by decide +kernel
theorem dX3_leavingRow_2 : decode cX3_leavingRow 2 = .ok (.iconst 0, 1) := by decide +kernel
theorem dX3_leavingRow_3 : decode cX3_leavingRow 3 = .ok (.istore_n 3, 1) := by decide +kernel
theorem dX3_leavingRow_4 : decode cX3_leavingRow 4 = .ok (.iload_n 3, 1) := by decide +kernel
theorem dX3_leavingRow_5 : decode cX3_leavingRow 5 = .ok (.aload_n 0, 1) := by decide +kernel
theorem dX3_leavingRow_6 : decode cX3_leavingRow 6 = .ok (.getfield 15, 3) := by decide +kernel
theorem dX3_leavingRow_9 : decode cX3_leavingRow 9 = .ok (.if_icmp .ge 43, 3) := by decide +kernel
theorem dX3_leavingRow_12 : decode cX3_leavingRow 12 = .ok (.aload_n 0, 1) := by decide +kernel
theorem dX3_leavingRow_13 : decode cX3_leavingRow 13 = .ok (.getfield 19, 3) := by decide +kernel
theorem dX3_leavingRow_16 : decode cX3_leavingRow 16 = .ok (.iload_n 3, 1) := by decide +kernel
theorem dX3_leavingRow_17 : decode cX3_leavingRow 17 = .ok (.aload_n 0, 1) := by decide +kernel
theorem dX3_leavingRow_18 : decode cX3_leavingRow 18 = .ok (.getfield 32, 3) := by decide +kernel
theorem dX3_leavingRow_21 : decode cX3_leavingRow 21 = .ok (.imul, 1) := by decide +kernel
theorem dX3_leavingRow_22 : decode cX3_leavingRow 22 = .ok (.iload_n 1, 1) := by decide +kernel
theorem dX3_leavingRow_23 : decode cX3_leavingRow 23 = .ok (.iadd, 1) := by decide +kernel
theorem dX3_leavingRow_24 : decode cX3_leavingRow 24 = .ok (.laload, 1) := by decide +kernel
theorem dX3_leavingRow_25 : decode cX3_leavingRow 25 = .ok (.lconst 0, 1) := by decide +kernel
theorem dX3_leavingRow_26 : decode cX3_leavingRow 26 = .ok (.lcmp, 1) := by decide +kernel
theorem dX3_leavingRow_27 : decode cX3_leavingRow 27 = .ok (.ifCond .le 19, 3) := by decide +kernel
theorem dX3_leavingRow_30 : decode cX3_leavingRow 30 = .ok (.iload_n 2, 1) := by decide +kernel
theorem dX3_leavingRow_31 : decode cX3_leavingRow 31 = .ok (.ifCond .lt 13, 3) := by decide +kernel
theorem dX3_leavingRow_34 : decode cX3_leavingRow 34 = .ok (.aload_n 0, 1) := by decide +kernel
theorem dX3_leavingRow_35 : decode cX3_leavingRow 35 = .ok (.iload_n 3, 1) := by decide +kernel
theorem dX3_leavingRow_36 : decode cX3_leavingRow 36 = .ok (.iload_n 2, 1) := by decide +kernel
theorem dX3_leavingRow_37 : decode cX3_leavingRow 37 = .ok (.iload_n 1, 1) := by decide +kernel
theorem dX3_leavingRow_38 : decode cX3_leavingRow 38 = .ok (.invokevirtual 94, 3) := by decide +kernel
theorem dX3_leavingRow_41 : decode cX3_leavingRow 41 = .ok (.ifCond .eq 5, 3) := by decide +kernel
theorem dX3_leavingRow_44 : decode cX3_leavingRow 44 = .ok (.iload_n 3, 1) := by decide +kernel
theorem dX3_leavingRow_45 : decode cX3_leavingRow 45 = .ok (.istore_n 2, 1) := by decide +kernel
theorem dX3_leavingRow_46 : decode cX3_leavingRow 46 = .ok (.iinc 3 1, 3) := by decide +kernel
theorem dX3_leavingRow_49 : decode cX3_leavingRow 49 = .ok (.goto (-45), 3) := by decide +kernel
theorem dX3_leavingRow_52 : decode cX3_leavingRow 52 = .ok (.iload_n 2, 1) := by decide +kernel
theorem dX3_leavingRow_53 : decode cX3_leavingRow 53 = .ok (.ireturn, 1) := by decide +kernel
theorem dX3_isTighter_0 : decode cX3_isTighter 0 = .ok (.aload_n 0, 1) := by decide +kernel
theorem dX3_isTighter_1 : decode cX3_isTighter 1 = .ok (.getfield 19, 3) := by decide +kernel
theorem dX3_isTighter_4 : decode cX3_isTighter 4 = .ok (.iload_n 1, 1) := by decide +kernel
theorem dX3_isTighter_5 : decode cX3_isTighter 5 = .ok (.aload_n 0, 1) := by decide +kernel
theorem dX3_isTighter_6 : decode cX3_isTighter 6 = .ok (.getfield 32, 3) := by decide +kernel
theorem dX3_isTighter_9 : decode cX3_isTighter 9 = .ok (.imul, 1) := by decide +kernel
theorem dX3_isTighter_10 : decode cX3_isTighter 10 = .ok (.aload_n 0, 1) := by decide +kernel
theorem dX3_isTighter_11 : decode cX3_isTighter 11 = .ok (.getfield 29, 3) := by decide +kernel
theorem dX3_isTighter_14 : decode cX3_isTighter 14 = .ok (.iadd, 1) := by decide +kernel
theorem dX3_isTighter_15 : decode cX3_isTighter 15 = .ok (.laload, 1) := by decide +kernel
theorem dX3_isTighter_16 : decode cX3_isTighter 16 = .ok (.lstore 4, 2) := by decide +kernel
theorem dX3_isTighter_18 : decode cX3_isTighter 18 = .ok (.aload_n 0, 1) := by decide +kernel
theorem dX3_isTighter_19 : decode cX3_isTighter 19 = .ok (.getfield 19, 3) := by decide +kernel
theorem dX3_isTighter_22 : decode cX3_isTighter 22 = .ok (.iload_n 2, 1) := by decide +kernel
theorem dX3_isTighter_23 : decode cX3_isTighter 23 = .ok (.aload_n 0, 1) := by decide +kernel
theorem dX3_isTighter_24 : decode cX3_isTighter 24 = .ok (.getfield 32, 3) := by decide +kernel
theorem dX3_isTighter_27 : decode cX3_isTighter 27 = .ok (.imul, 1) := by decide +kernel
theorem dX3_isTighter_28 : decode cX3_isTighter 28 = .ok (.iload_n 3, 1) := by decide +kernel
theorem dX3_isTighter_29 : decode cX3_isTighter 29 = .ok (.iadd, 1) := by decide +kernel
theorem dX3_isTighter_30 : decode cX3_isTighter 30 = .ok (.laload, 1) := by decide +kernel
theorem dX3_isTighter_31 : decode cX3_isTighter 31 = .ok (.lstore 6, 2) := by decide +kernel
theorem dX3_isTighter_33 : decode cX3_isTighter 33 = .ok (.aload_n 0, 1) := by decide +kernel
theorem dX3_isTighter_34 : decode cX3_isTighter 34 = .ok (.getfield 19, 3) := by decide +kernel
theorem dX3_isTighter_37 : decode cX3_isTighter 37 = .ok (.iload_n 2, 1) := by decide +kernel
theorem dX3_isTighter_38 : decode cX3_isTighter 38 = .ok (.aload_n 0, 1) := by decide +kernel
theorem dX3_isTighter_39 : decode cX3_isTighter 39 = .ok (.getfield 32, 3) := by decide +kernel
theorem dX3_isTighter_42 : decode cX3_isTighter 42 = .ok (.imul, 1) := by decide +kernel
theorem dX3_isTighter_43 : decode cX3_isTighter 43 = .ok (.aload_n 0, 1) := by decide +kernel
theorem dX3_isTighter_44 : decode cX3_isTighter 44 = .ok (.getfield 29, 3) := by decide +kernel
theorem dX3_isTighter_47 : decode cX3_isTighter 47 = .ok (.iadd, 1) := by decide +kernel
theorem dX3_isTighter_48 : decode cX3_isTighter 48 = .ok (.laload, 1) := by decide +kernel
theorem dX3_isTighter_49 : decode cX3_isTighter 49 = .ok (.lstore 8, 2) := by decide +kernel
theorem dX3_isTighter_51 : decode cX3_isTighter 51 = .ok (.aload_n 0, 1) := by decide +kernel
theorem dX3_isTighter_52 : decode cX3_isTighter 52 = .ok (.getfield 19, 3) := by decide +kernel
theorem dX3_isTighter_55 : decode cX3_isTighter 55 = .ok (.iload_n 1, 1) := by decide +kernel
theorem dX3_isTighter_56 : decode cX3_isTighter 56 = .ok (.aload_n 0, 1) := by decide +kernel
theorem dX3_isTighter_57 : decode cX3_isTighter 57 = .ok (.getfield 32, 3) := by decide +kernel
theorem dX3_isTighter_60 : decode cX3_isTighter 60 = .ok (.imul, 1) := by decide +kernel
theorem dX3_isTighter_61 : decode cX3_isTighter 61 = .ok (.iload_n 3, 1) := by decide +kernel
theorem dX3_isTighter_62 : decode cX3_isTighter 62 = .ok (.iadd, 1) := by decide +kernel
theorem dX3_isTighter_63 : decode cX3_isTighter 63 = .ok (.laload, 1) := by decide +kernel
theorem dX3_isTighter_64 : decode cX3_isTighter 64 = .ok (.lstore 10, 2) := by decide +kernel
theorem dX3_isTighter_66 : decode cX3_isTighter 66 = .ok (.lload 4, 2) := by decide +kernel
theorem dX3_isTighter_68 : decode cX3_isTighter 68 = .ok (.lload 6, 2) := by decide +kernel
theorem dX3_isTighter_70 : decode cX3_isTighter 70 = .ok (.lload 8, 2) := by decide +kernel
theorem dX3_isTighter_72 : decode cX3_isTighter 72 = .ok (.lload 10, 2) := by decide +kernel
theorem dX3_isTighter_74 : decode cX3_isTighter 74 = .ok (.invokestatic 98, 3) := by decide +kernel
theorem dX3_isTighter_77 : decode cX3_isTighter 77 = .ok (.lstore 12, 2) := by decide +kernel
theorem dX3_isTighter_79 : decode cX3_isTighter 79 = .ok (.lload 12, 2) := by decide +kernel
theorem dX3_isTighter_81 : decode cX3_isTighter 81 = .ok (.lconst 0, 1) := by decide +kernel
theorem dX3_isTighter_82 : decode cX3_isTighter 82 = .ok (.lcmp, 1) := by decide +kernel
theorem dX3_isTighter_83 : decode cX3_isTighter 83 = .ok (.ifCond .eq 16, 3) := by decide +kernel
theorem dX3_isTighter_86 : decode cX3_isTighter 86 = .ok (.lload 12, 2) := by decide +kernel
theorem dX3_isTighter_88 : decode cX3_isTighter 88 = .ok (.lconst 0, 1) := by decide +kernel
theorem dX3_isTighter_89 : decode cX3_isTighter 89 = .ok (.lcmp, 1) := by decide +kernel
theorem dX3_isTighter_90 : decode cX3_isTighter 90 = .ok (.ifCond .ge 7, 3) := by decide +kernel
theorem dX3_isTighter_93 : decode cX3_isTighter 93 = .ok (.iconst 1, 1) := by decide +kernel
theorem dX3_isTighter_94 : decode cX3_isTighter 94 = .ok (.goto 4, 3) := by decide +kernel
theorem dX3_isTighter_97 : decode cX3_isTighter 97 = .ok (.iconst 0, 1) := by decide +kernel
theorem dX3_isTighter_98 : decode cX3_isTighter 98 = .ok (.ireturn, 1) := by decide +kernel
theorem dX3_isTighter_99 : decode cX3_isTighter 99 = .ok (.lload 4, 2) := by decide +kernel
theorem dX3_isTighter_101 : decode cX3_isTighter 101 = .ok (.lload 6, 2) := by decide +kernel
theorem dX3_isTighter_103 : decode cX3_isTighter 103 = .ok (.lmul, 1) := by decide +kernel
theorem dX3_isTighter_104 : decode cX3_isTighter 104 = .ok (.lload 8, 2) := by decide +kernel
theorem dX3_isTighter_106 : decode cX3_isTighter 106 = .ok (.lload 10, 2) := by decide +kernel
theorem dX3_isTighter_108 : decode cX3_isTighter 108 = .ok (.lmul, 1) := by decide +kernel
theorem dX3_isTighter_109 : decode cX3_isTighter 109 = .ok (.lcmp, 1) := by decide +kernel
theorem dX3_isTighter_110 : decode cX3_isTighter 110 = .ok (.ifCond .ne 22, 3) := by decide +kernel
theorem dX3_isTighter_113 : decode cX3_isTighter 113 = .ok (.aload_n 0, 1) := by decide +kernel
theorem dX3_isTighter_114 : decode cX3_isTighter 114 = .ok (.getfield 23, 3) := by decide +kernel
theorem dX3_isTighter_117 : decode cX3_isTighter 117 = .ok (.iload_n 1, 1) := by decide +kernel
theorem dX3_isTighter_118 : decode cX3_isTighter 118 = .ok (.iaload, 1) := by decide +kernel
theorem dX3_isTighter_119 : decode cX3_isTighter 119 = .ok (.aload_n 0, 1) := by decide +kernel
theorem dX3_isTighter_120 : decode cX3_isTighter 120 = .ok (.getfield 23, 3) := by decide +kernel
theorem dX3_isTighter_123 : decode cX3_isTighter 123 = .ok (.iload_n 2, 1) := by decide +kernel
theorem dX3_isTighter_124 : decode cX3_isTighter 124 = .ok (.iaload, 1) := by decide +kernel
theorem dX3_isTighter_125 : decode cX3_isTighter 125 = .ok (.if_icmp .ge 7, 3) := by decide +kernel
theorem dX3_isTighter_128 : decode cX3_isTighter 128 = .ok (.iconst 1, 1) := by decide +kernel
theorem dX3_isTighter_129 : decode cX3_isTighter 129 = .ok (.goto 4, 3) := by decide +kernel
theorem dX3_isTighter_132 : decode cX3_isTighter 132 = .ok (.iconst 0, 1) := by decide +kernel
theorem dX3_isTighter_133 : decode cX3_isTighter 133 = .ok (.ireturn, 1) := by decide +kernel
theorem dX3_turn_0 : decode cX3_turn 0 = .ok (.aload_n 0, 1) := by decide +kernel
theorem dX3_turn_1 : decode cX3_turn 1 = .ok (.getfield 19, 3) := by decide +kernel
theorem dX3_turn_4 : decode cX3_turn 4 = .ok (.iload_n 1, 1) := by decide +kernel
theorem dX3_turn_5 : decode cX3_turn 5 = .ok (.aload_n 0, 1) := by decide +kernel
theorem dX3_turn_6 : decode cX3_turn 6 = .ok (.getfield 32, 3) := by decide +kernel
theorem dX3_turn_9 : decode cX3_turn 9 = .ok (.imul, 1) := by decide +kernel
theorem dX3_turn_10 : decode cX3_turn 10 = .ok (.iload_n 2, 1) := by decide +kernel
theorem dX3_turn_11 : decode cX3_turn 11 = .ok (.iadd, 1) := by decide +kernel
theorem dX3_turn_12 : decode cX3_turn 12 = .ok (.laload, 1) := by decide +kernel
theorem dX3_turn_13 : decode cX3_turn 13 = .ok (.lstore_n 3, 1) := by decide +kernel
theorem dX3_turn_14 : decode cX3_turn 14 = .ok (.aload_n 0, 1) := by decide +kernel
theorem dX3_turn_15 : decode cX3_turn 15 = .ok (.getfield 35, 3) := by decide +kernel
theorem dX3_turn_18 : decode cX3_turn 18 = .ok (.aload_n 0, 1) := by decide +kernel
theorem dX3_turn_19 : decode cX3_turn 19 = .ok (.getfield 35, 3) := by decide +kernel
theorem dX3_turn_22 : decode cX3_turn 22 = .ok (.lneg, 1) := by decide +kernel
theorem dX3_turn_23 : decode cX3_turn 23 = .ok (.land, 1) := by decide +kernel
theorem dX3_turn_24 : decode cX3_turn 24 = .ok (.lconst 1, 1) := by decide +kernel
theorem dX3_turn_25 : decode cX3_turn 25 = .ok (.lsub, 1) := by decide +kernel
theorem dX3_turn_26 : decode cX3_turn 26 = .ok (.invokestatic 102, 3) := by decide +kernel
theorem dX3_turn_29 : decode cX3_turn 29 = .ok (.istore 5, 2) := by decide +kernel
theorem dX3_turn_31 : decode cX3_turn 31 = .ok (.aload_n 0, 1) := by decide +kernel
theorem dX3_turn_32 : decode cX3_turn 32 = .ok (.getfield 35, 3) := by decide +kernel
theorem dX3_turn_35 : decode cX3_turn 35 = .ok (.iload 5, 2) := by decide +kernel
theorem dX3_turn_37 : decode cX3_turn 37 = .ok (.lshr, 1) := by decide +kernel
theorem dX3_turn_38 : decode cX3_turn 38 = .ok (.invokestatic 108, 3) := by decide +kernel
theorem dX3_turn_41 : decode cX3_turn 41 = .ok (.lstore 6, 2) := by decide +kernel
theorem dX3_turn_43 : decode cX3_turn 43 = .ok (.iconst 0, 1) := by decide +kernel
theorem dX3_turn_44 : decode cX3_turn 44 = .ok (.istore 8, 2) := by decide +kernel
theorem dX3_turn_46 : decode cX3_turn 46 = .ok (.iload 8, 2) := by decide +kernel
theorem dX3_turn_48 : decode cX3_turn 48 = .ok (.aload_n 0, 1) := by decide +kernel
theorem dX3_turn_49 : decode cX3_turn 49 = .ok (.getfield 15, 3) := by decide +kernel
theorem dX3_turn_52 : decode cX3_turn 52 = .ok (.if_icmp .gt 158, 3) := by decide +kernel
theorem dX3_turn_55 : decode cX3_turn 55 = .ok (.iload 8, 2) := by decide +kernel
theorem dX3_turn_57 : decode cX3_turn 57 = .ok (.iload_n 1, 1) := by decide +kernel
theorem dX3_turn_58 : decode cX3_turn 58 = .ok (.if_icmp .ne 6, 3) := by decide +kernel
theorem dX3_turn_61 : decode cX3_turn 61 = .ok (.goto 143, 3) := by decide +kernel
theorem dX3_turn_64 : decode cX3_turn 64 = .ok (.aload_n 0, 1) := by decide +kernel
theorem dX3_turn_65 : decode cX3_turn 65 = .ok (.getfield 19, 3) := by decide +kernel
theorem dX3_turn_68 : decode cX3_turn 68 = .ok (.iload 8, 2) := by decide +kernel
theorem dX3_turn_70 : decode cX3_turn 70 = .ok (.aload_n 0, 1) := by decide +kernel
theorem dX3_turn_71 : decode cX3_turn 71 = .ok (.getfield 32, 3) := by decide +kernel
theorem dX3_turn_74 : decode cX3_turn 74 = .ok (.imul, 1) := by decide +kernel
theorem dX3_turn_75 : decode cX3_turn 75 = .ok (.iload_n 2, 1) := by decide +kernel
theorem dX3_turn_76 : decode cX3_turn 76 = .ok (.iadd, 1) := by decide +kernel
theorem dX3_turn_77 : decode cX3_turn 77 = .ok (.laload, 1) := by decide +kernel
theorem dX3_turn_78 : decode cX3_turn 78 = .ok (.lstore 9, 2) := by decide +kernel
theorem dX3_turn_80 : decode cX3_turn 80 = .ok (.iconst 0, 1) := by decide +kernel
theorem dX3_turn_81 : decode cX3_turn 81 = .ok (.istore 11, 2) := by decide +kernel
theorem dX3_turn_83 : decode cX3_turn 83 = .ok (.iload 11, 2) := by decide +kernel
theorem dX3_turn_85 : decode cX3_turn 85 = .ok (.aload_n 0, 1) := by decide +kernel
theorem dX3_turn_86 : decode cX3_turn 86 = .ok (.getfield 29, 3) := by decide +kernel
theorem dX3_turn_89 : decode cX3_turn 89 = .ok (.if_icmp .gt 98, 3) := by decide +kernel
theorem dX3_turn_92 : decode cX3_turn 92 = .ok (.iload 11, 2) := by decide +kernel
theorem dX3_turn_94 : decode cX3_turn 94 = .ok (.iload_n 2, 1) := by decide +kernel
theorem dX3_turn_95 : decode cX3_turn 95 = .ok (.if_icmp .ne 6, 3) := by decide +kernel
theorem dX3_turn_98 : decode cX3_turn 98 = .ok (.goto 83, 3) := by decide +kernel
theorem dX3_turn_101 : decode cX3_turn 101 = .ok (.aload_n 0, 1) := by decide +kernel
theorem dX3_turn_102 : decode cX3_turn 102 = .ok (.getfield 19, 3) := by decide +kernel
theorem dX3_turn_105 : decode cX3_turn 105 = .ok (.iload 8, 2) := by decide +kernel
theorem dX3_turn_107 : decode cX3_turn 107 = .ok (.aload_n 0, 1) := by decide +kernel
theorem dX3_turn_108 : decode cX3_turn 108 = .ok (.getfield 32, 3) := by decide +kernel
theorem dX3_turn_111 : decode cX3_turn 111 = .ok (.imul, 1) := by decide +kernel
theorem dX3_turn_112 : decode cX3_turn 112 = .ok (.iload 11, 2) := by decide +kernel
theorem dX3_turn_114 : decode cX3_turn 114 = .ok (.iadd, 1) := by decide +kernel
theorem dX3_turn_115 : decode cX3_turn 115 = .ok (.laload, 1) := by decide +kernel
theorem dX3_turn_116 : decode cX3_turn 116 = .ok (.lstore 12, 2) := by decide +kernel
theorem dX3_turn_118 : decode cX3_turn 118 = .ok (.aload_n 0, 1) := by decide +kernel
theorem dX3_turn_119 : decode cX3_turn 119 = .ok (.getfield 19, 3) := by decide +kernel
theorem dX3_turn_122 : decode cX3_turn 122 = .ok (.iload_n 1, 1) := by decide +kernel
theorem dX3_turn_123 : decode cX3_turn 123 = .ok (.aload_n 0, 1) := by decide +kernel
theorem dX3_turn_124 : decode cX3_turn 124 = .ok (.getfield 32, 3) := by decide +kernel
theorem dX3_turn_127 : decode cX3_turn 127 = .ok (.imul, 1) := by decide +kernel
theorem dX3_turn_128 : decode cX3_turn 128 = .ok (.iload 11, 2) := by decide +kernel
theorem dX3_turn_130 : decode cX3_turn 130 = .ok (.iadd, 1) := by decide +kernel
theorem dX3_turn_131 : decode cX3_turn 131 = .ok (.laload, 1) := by decide +kernel
theorem dX3_turn_132 : decode cX3_turn 132 = .ok (.lstore 14, 2) := by decide +kernel
theorem dX3_turn_134 : decode cX3_turn 134 = .ok (.lload 12, 2) := by decide +kernel
theorem dX3_turn_136 : decode cX3_turn 136 = .ok (.lload_n 3, 1) := by decide +kernel
theorem dX3_turn_137 : decode cX3_turn 137 = .ok (.lload 9, 2) := by decide +kernel
theorem dX3_turn_139 : decode cX3_turn 139 = .ok (.lload 14, 2) := by decide +kernel
theorem dX3_turn_141 : decode cX3_turn 141 = .ok (.invokestatic 98, 3) := by decide +kernel
theorem dX3_turn_144 : decode cX3_turn 144 = .ok (.lstore 16, 2) := by decide +kernel
theorem dX3_turn_146 : decode cX3_turn 146 = .ok (.aload_n 0, 1) := by decide +kernel
theorem dX3_turn_147 : decode cX3_turn 147 = .ok (.getfield 19, 3) := by decide +kernel
theorem dX3_turn_150 : decode cX3_turn 150 = .ok (.iload 8, 2) := by decide +kernel
theorem dX3_turn_152 : decode cX3_turn 152 = .ok (.aload_n 0, 1) := by decide +kernel
theorem dX3_turn_153 : decode cX3_turn 153 = .ok (.getfield 32, 3) := by decide +kernel
theorem dX3_turn_156 : decode cX3_turn 156 = .ok (.imul, 1) := by decide +kernel
theorem dX3_turn_157 : decode cX3_turn 157 = .ok (.iload 11, 2) := by decide +kernel
theorem dX3_turn_159 : decode cX3_turn 159 = .ok (.iadd, 1) := by decide +kernel
theorem dX3_turn_160 : decode cX3_turn 160 = .ok (.lload 16, 2) := by decide +kernel
theorem dX3_turn_162 : decode cX3_turn 162 = .ok (.lload 12, 2) := by decide +kernel
theorem dX3_turn_164 : decode cX3_turn 164 = .ok (.lload_n 3, 1) := by decide +kernel
theorem dX3_turn_165 : decode cX3_turn 165 = .ok (.lmul, 1) := by decide +kernel
theorem dX3_turn_166 : decode cX3_turn 166 = .ok (.lload 9, 2) := by decide +kernel
theorem dX3_turn_168 : decode cX3_turn 168 = .ok (.lload 14, 2) := by decide +kernel
theorem dX3_turn_170 : decode cX3_turn 170 = .ok (.lmul, 1) := by decide +kernel
theorem dX3_turn_171 : decode cX3_turn 171 = .ok (.lsub, 1) := by decide +kernel
theorem dX3_turn_172 : decode cX3_turn 172 = .ok (.iload 5, 2) := by decide +kernel
theorem dX3_turn_174 : decode cX3_turn 174 = .ok (.invokestatic 112, 3) := by decide +kernel
theorem dX3_turn_177 : decode cX3_turn 177 = .ok (.lload 6, 2) := by decide +kernel
theorem dX3_turn_179 : decode cX3_turn 179 = .ok (.lmul, 1) := by decide +kernel
theorem dX3_turn_180 : decode cX3_turn 180 = .ok (.lastore, 1) := by decide +kernel
theorem dX3_turn_181 : decode cX3_turn 181 = .ok (.iinc 11 1, 3) := by decide +kernel
theorem dX3_turn_184 : decode cX3_turn 184 = .ok (.goto (-101), 3) := by decide +kernel
theorem dX3_turn_187 : decode cX3_turn 187 = .ok (.aload_n 0, 1) := by decide +kernel
theorem dX3_turn_188 : decode cX3_turn 188 = .ok (.getfield 19, 3) := by decide +kernel
theorem dX3_turn_191 : decode cX3_turn 191 = .ok (.iload 8, 2) := by decide +kernel
theorem dX3_turn_193 : decode cX3_turn 193 = .ok (.aload_n 0, 1) := by decide +kernel
theorem dX3_turn_194 : decode cX3_turn 194 = .ok (.getfield 32, 3) := by decide +kernel
theorem dX3_turn_197 : decode cX3_turn 197 = .ok (.imul, 1) := by decide +kernel
theorem dX3_turn_198 : decode cX3_turn 198 = .ok (.iload_n 2, 1) := by decide +kernel
theorem dX3_turn_199 : decode cX3_turn 199 = .ok (.iadd, 1) := by decide +kernel
theorem dX3_turn_200 : decode cX3_turn 200 = .ok (.lload 9, 2) := by decide +kernel
theorem dX3_turn_202 : decode cX3_turn 202 = .ok (.lneg, 1) := by decide +kernel
theorem dX3_turn_203 : decode cX3_turn 203 = .ok (.lastore, 1) := by decide +kernel
theorem dX3_turn_204 : decode cX3_turn 204 = .ok (.iinc 8 1, 3) := by decide +kernel
theorem dX3_turn_207 : decode cX3_turn 207 = .ok (.goto (-161), 3) := by decide +kernel
theorem dX3_turn_210 : decode cX3_turn 210 = .ok (.aload_n 0, 1) := by decide +kernel
theorem dX3_turn_211 : decode cX3_turn 211 = .ok (.getfield 19, 3) := by decide +kernel
theorem dX3_turn_214 : decode cX3_turn 214 = .ok (.iload_n 1, 1) := by decide +kernel
theorem dX3_turn_215 : decode cX3_turn 215 = .ok (.aload_n 0, 1) := by decide +kernel
theorem dX3_turn_216 : decode cX3_turn 216 = .ok (.getfield 32, 3) := by decide +kernel
theorem dX3_turn_219 : decode cX3_turn 219 = .ok (.imul, 1) := by decide +kernel
theorem dX3_turn_220 : decode cX3_turn 220 = .ok (.iload_n 2, 1) := by decide +kernel
theorem dX3_turn_221 : decode cX3_turn 221 = .ok (.iadd, 1) := by decide +kernel
theorem dX3_turn_222 : decode cX3_turn 222 = .ok (.aload_n 0, 1) := by decide +kernel
theorem dX3_turn_223 : decode cX3_turn 223 = .ok (.getfield 35, 3) := by decide +kernel
theorem dX3_turn_226 : decode cX3_turn 226 = .ok (.lastore, 1) := by decide +kernel
theorem dX3_turn_227 : decode cX3_turn 227 = .ok (.aload_n 0, 1) := by decide +kernel
theorem dX3_turn_228 : decode cX3_turn 228 = .ok (.lload_n 3, 1) := by decide +kernel
theorem dX3_turn_229 : decode cX3_turn 229 = .ok (.putfield 35, 3) := by decide +kernel
theorem dX3_turn_232 : decode cX3_turn 232 = .ok (.aload_n 0, 1) := by decide +kernel
theorem dX3_turn_233 : decode cX3_turn 233 = .ok (.getfield 23, 3) := by decide +kernel
theorem dX3_turn_236 : decode cX3_turn 236 = .ok (.iload_n 1, 1) := by decide +kernel
theorem dX3_turn_237 : decode cX3_turn 237 = .ok (.iaload, 1) := by decide +kernel
theorem dX3_turn_238 : decode cX3_turn 238 = .ok (.istore 8, 2) := by decide +kernel
theorem dX3_turn_240 : decode cX3_turn 240 = .ok (.aload_n 0, 1) := by decide +kernel
theorem dX3_turn_241 : decode cX3_turn 241 = .ok (.getfield 23, 3) := by decide +kernel
theorem dX3_turn_244 : decode cX3_turn 244 = .ok (.iload_n 1, 1) := by decide +kernel
theorem dX3_turn_245 : decode cX3_turn 245 = .ok (.aload_n 0, 1) := by decide +kernel
theorem dX3_turn_246 : decode cX3_turn 246 = .ok (.getfield 26, 3) := by decide +kernel
theorem dX3_turn_249 : decode cX3_turn 249 = .ok (.iload_n 2, 1) := by decide +kernel
theorem dX3_turn_250 : decode cX3_turn 250 = .ok (.iaload, 1) := by decide +kernel
theorem dX3_turn_251 : decode cX3_turn 251 = .ok (.iastore, 1) := by decide +kernel
theorem dX3_turn_252 : decode cX3_turn 252 = .ok (.aload_n 0, 1) := by decide +kernel
theorem dX3_turn_253 : decode cX3_turn 253 = .ok (.getfield 26, 3) := by decide +kernel
theorem dX3_turn_256 : decode cX3_turn 256 = .ok (.iload_n 2, 1) := by decide +kernel
theorem dX3_turn_257 : decode cX3_turn 257 = .ok (.iload 8, 2) := by decide +kernel
theorem dX3_turn_259 : decode cX3_turn 259 = .ok (.iastore, 1) := by decide +kernel
theorem dX3_turn_260 : decode cX3_turn 260 = .ok (.return_, 1) := by decide +kernel
theorem dX3_inverseOf_0 : decode cX3_inverseOf 0 = .ok (.lload_n 0, 1) := by decide +kernel
theorem dX3_inverseOf_1 : decode cX3_inverseOf 1 = .ok (.lstore_n 2, 1) := by decide +kernel
theorem dX3_inverseOf_2 : decode cX3_inverseOf 2 = .ok (.iconst 0, 1) := by decide +kernel
theorem dX3_inverseOf_3 : decode cX3_inverseOf 3 = .ok (.istore 4, 2) := by decide +kernel
theorem dX3_inverseOf_5 : decode cX3_inverseOf 5 = .ok (.iload 4, 2) := by decide +kernel
theorem dX3_inverseOf_7 : decode cX3_inverseOf 7 = .ok (.iconst 5, 1) := by decide +kernel
theorem dX3_inverseOf_8 : decode cX3_inverseOf 8 = .ok (.if_icmp .ge 19, 3) := by decide +kernel
theorem dX3_inverseOf_11 : decode cX3_inverseOf 11 = .ok (.lload_n 2, 1) := by decide +kernel
theorem dX3_inverseOf_12 : decode cX3_inverseOf 12 = .ok (.ldc2_w 116, 3) := by decide +kernel
theorem dX3_inverseOf_15 : decode cX3_inverseOf 15 = .ok (.lload_n 0, 1) := by decide +kernel
theorem dX3_inverseOf_16 : decode cX3_inverseOf 16 = .ok (.lload_n 2, 1) := by decide +kernel
theorem dX3_inverseOf_17 : decode cX3_inverseOf 17 = .ok (.lmul, 1) := by decide +kernel
theorem dX3_inverseOf_18 : decode cX3_inverseOf 18 = .ok (.lsub, 1) := by decide +kernel
theorem dX3_inverseOf_19 : decode cX3_inverseOf 19 = .ok (.lmul, 1) := by decide +kernel
theorem dX3_inverseOf_20 : decode cX3_inverseOf 20 = .ok (.lstore_n 2, 1) := by decide +kernel
theorem dX3_inverseOf_21 : decode cX3_inverseOf 21 = .ok (.iinc 4 1, 3) := by decide +kernel
theorem dX3_inverseOf_24 : decode cX3_inverseOf 24 = .ok (.goto (-19), 3) := by decide +kernel
theorem dX3_inverseOf_27 : decode cX3_inverseOf 27 = .ok (.lload_n 2, 1) := by decide +kernel
theorem dX3_inverseOf_28 : decode cX3_inverseOf 28 = .ok (.lreturn, 1) := by decide +kernel
theorem dX3_shifted_0 : decode cX3_shifted 0 = .ok (.iload 4, 2) := by decide +kernel
theorem dX3_shifted_2 : decode cX3_shifted 2 = .ok (.ifCond .ne 7, 3) := by decide +kernel
theorem dX3_shifted_5 : decode cX3_shifted 5 = .ok (.lload_n 2, 1) := by decide +kernel
theorem dX3_shifted_6 : decode cX3_shifted 6 = .ok (.goto 15, 3) := by decide +kernel
theorem dX3_shifted_9 : decode cX3_shifted 9 = .ok (.lload_n 2, 1) := by decide +kernel
theorem dX3_shifted_10 : decode cX3_shifted 10 = .ok (.iload 4, 2) := by decide +kernel
theorem dX3_shifted_12 : decode cX3_shifted 12 = .ok (.lushr, 1) := by decide +kernel
theorem dX3_shifted_13 : decode cX3_shifted 13 = .ok (.lload_n 0, 1) := by decide +kernel
theorem dX3_shifted_14 : decode cX3_shifted 14 = .ok (.bipush 64, 2) := by decide +kernel
theorem dX3_shifted_16 : decode cX3_shifted 16 = .ok (.iload 4, 2) := by decide +kernel
theorem dX3_shifted_18 : decode cX3_shifted 18 = .ok (.isub, 1) := by decide +kernel
theorem dX3_shifted_19 : decode cX3_shifted 19 = .ok (.lshl, 1) := by decide +kernel
theorem dX3_shifted_20 : decode cX3_shifted 20 = .ok (.lor, 1) := by decide +kernel
theorem dX3_shifted_21 : decode cX3_shifted 21 = .ok (.lreturn, 1) := by decide +kernel
theorem dX3_highOfDifference_0 : decode cX3_highOfDifference 0 = .ok (.lload_n 0, 1) := by decide +kernel
theorem dX3_highOfDifference_1 : decode cX3_highOfDifference 1 = .ok (.lload_n 2, 1) := by decide +kernel
theorem dX3_highOfDifference_2 : decode cX3_highOfDifference 2 = .ok (.lmul, 1) := by decide +kernel
theorem dX3_highOfDifference_3 : decode cX3_highOfDifference 3 = .ok (.ldc2_w 118, 3) := by decide +kernel
theorem dX3_highOfDifference_6 : decode cX3_highOfDifference 6 = .ok (.ladd, 1) := by decide +kernel
theorem dX3_highOfDifference_7 : decode cX3_highOfDifference 7 = .ok (.lload 4, 2) := by decide +kernel
theorem dX3_highOfDifference_9 : decode cX3_highOfDifference 9 = .ok (.lload 6, 2) := by decide +kernel
theorem dX3_highOfDifference_11 : decode cX3_highOfDifference 11 = .ok (.lmul, 1) := by decide +kernel
theorem dX3_highOfDifference_12 : decode cX3_highOfDifference 12 = .ok (.ldc2_w 118, 3) := by decide +kernel
theorem dX3_highOfDifference_15 : decode cX3_highOfDifference 15 = .ok (.ladd, 1) := by decide +kernel
theorem dX3_highOfDifference_16 : decode cX3_highOfDifference 16 = .ok (.lcmp, 1) := by decide +kernel
theorem dX3_highOfDifference_17 : decode cX3_highOfDifference 17 = .ok (.ifCond .ge 7, 3) := by decide +kernel
theorem dX3_highOfDifference_20 : decode cX3_highOfDifference 20 = .ok (.iconst 1, 1) := by decide +kernel
theorem dX3_highOfDifference_21 : decode cX3_highOfDifference 21 = .ok (.goto 4, 3) := by decide +kernel
theorem dX3_highOfDifference_24 : decode cX3_highOfDifference 24 = .ok (.iconst 0, 1) := by decide +kernel
theorem dX3_highOfDifference_25 : decode cX3_highOfDifference 25 = .ok (.istore 8, 2) := by decide +kernel
theorem dX3_highOfDifference_27 : decode cX3_highOfDifference 27 = .ok (.lload_n 0, 1) := by decide +kernel
theorem dX3_highOfDifference_28 : decode cX3_highOfDifference 28 = .ok (.lload_n 2, 1) := by decide +kernel
theorem dX3_highOfDifference_29 : decode cX3_highOfDifference 29 = .ok (.invokestatic 120, 3) := by decide +kernel
theorem dX3_highOfDifference_32 : decode cX3_highOfDifference 32 = .ok (.lload 4, 2) := by decide +kernel
theorem dX3_highOfDifference_34 : decode cX3_highOfDifference 34 = .ok (.lload 6, 2) := by decide +kernel
theorem dX3_highOfDifference_36 : decode cX3_highOfDifference 36 = .ok (.invokestatic 120, 3) := by decide +kernel
theorem dX3_highOfDifference_39 : decode cX3_highOfDifference 39 = .ok (.lsub, 1) := by decide +kernel
theorem dX3_highOfDifference_40 : decode cX3_highOfDifference 40 = .ok (.iload 8, 2) := by decide +kernel
theorem dX3_highOfDifference_42 : decode cX3_highOfDifference 42 = .ok (.ifCond .eq 7, 3) := by decide +kernel
theorem dX3_highOfDifference_45 : decode cX3_highOfDifference 45 = .ok (.iconst 1, 1) := by decide +kernel
theorem dX3_highOfDifference_46 : decode cX3_highOfDifference 46 = .ok (.goto 4, 3) := by decide +kernel
theorem dX3_highOfDifference_49 : decode cX3_highOfDifference 49 = .ok (.iconst 0, 1) := by decide +kernel
theorem dX3_highOfDifference_50 : decode cX3_highOfDifference 50 = .ok (.i2l, 1) := by decide +kernel
theorem dX3_highOfDifference_51 : decode cX3_highOfDifference 51 = .ok (.lsub, 1) := by decide +kernel
theorem dX3_highOfDifference_52 : decode cX3_highOfDifference 52 = .ok (.lreturn, 1) := by decide +kernel
theorem dX3_highOfProduct_0 : decode cX3_highOfProduct 0 = .ok (.ldc2_w 124, 3) := by decide +kernel
theorem dX3_highOfProduct_3 : decode cX3_highOfProduct 3 = .ok (.lstore 4, 2) := by decide +kernel
theorem dX3_highOfProduct_5 : decode cX3_highOfProduct 5 = .ok (.lload_n 0, 1) := by decide +kernel
theorem dX3_highOfProduct_6 : decode cX3_highOfProduct 6 = .ok (.lload 4, 2) := by decide +kernel
theorem dX3_highOfProduct_8 : decode cX3_highOfProduct 8 = .ok (.land, 1) := by decide +kernel
theorem dX3_highOfProduct_9 : decode cX3_highOfProduct 9 = .ok (.lload_n 2, 1) := by decide +kernel
theorem dX3_highOfProduct_10 : decode cX3_highOfProduct 10 = .ok (.lload 4, 2) := by decide +kernel
theorem dX3_highOfProduct_12 : decode cX3_highOfProduct 12 = .ok (.land, 1) := by decide +kernel
theorem dX3_highOfProduct_13 : decode cX3_highOfProduct 13 = .ok (.lmul, 1) := by decide +kernel
theorem dX3_highOfProduct_14 : decode cX3_highOfProduct 14 = .ok (.lstore 6, 2) := by decide +kernel
theorem dX3_highOfProduct_16 : decode cX3_highOfProduct 16 = .ok (.lload_n 0, 1) := by decide +kernel
theorem dX3_highOfProduct_17 : decode cX3_highOfProduct 17 = .ok (.bipush 32, 2) := by decide +kernel
theorem dX3_highOfProduct_19 : decode cX3_highOfProduct 19 = .ok (.lshr, 1) := by decide +kernel
theorem dX3_highOfProduct_20 : decode cX3_highOfProduct 20 = .ok (.lload_n 2, 1) := by decide +kernel
theorem dX3_highOfProduct_21 : decode cX3_highOfProduct 21 = .ok (.lload 4, 2) := by decide +kernel
theorem dX3_highOfProduct_23 : decode cX3_highOfProduct 23 = .ok (.land, 1) := by decide +kernel
theorem dX3_highOfProduct_24 : decode cX3_highOfProduct 24 = .ok (.lmul, 1) := by decide +kernel
theorem dX3_highOfProduct_25 : decode cX3_highOfProduct 25 = .ok (.lload 6, 2) := by decide +kernel
theorem dX3_highOfProduct_27 : decode cX3_highOfProduct 27 = .ok (.bipush 32, 2) := by decide +kernel
theorem dX3_highOfProduct_29 : decode cX3_highOfProduct 29 = .ok (.lushr, 1) := by decide +kernel
theorem dX3_highOfProduct_30 : decode cX3_highOfProduct 30 = .ok (.ladd, 1) := by decide +kernel
theorem dX3_highOfProduct_31 : decode cX3_highOfProduct 31 = .ok (.lstore 8, 2) := by decide +kernel
theorem dX3_highOfProduct_33 : decode cX3_highOfProduct 33 = .ok (.lload_n 0, 1) := by decide +kernel
theorem dX3_highOfProduct_34 : decode cX3_highOfProduct 34 = .ok (.lload 4, 2) := by decide +kernel
theorem dX3_highOfProduct_36 : decode cX3_highOfProduct 36 = .ok (.land, 1) := by decide +kernel
theorem dX3_highOfProduct_37 : decode cX3_highOfProduct 37 = .ok (.lload_n 2, 1) := by decide +kernel
theorem dX3_highOfProduct_38 : decode cX3_highOfProduct 38 = .ok (.bipush 32, 2) := by decide +kernel
theorem dX3_highOfProduct_40 : decode cX3_highOfProduct 40 = .ok (.lshr, 1) := by decide +kernel
theorem dX3_highOfProduct_41 : decode cX3_highOfProduct 41 = .ok (.lmul, 1) := by decide +kernel
theorem dX3_highOfProduct_42 : decode cX3_highOfProduct 42 = .ok (.lload 8, 2) := by decide +kernel
theorem dX3_highOfProduct_44 : decode cX3_highOfProduct 44 = .ok (.lload 4, 2) := by decide +kernel
theorem dX3_highOfProduct_46 : decode cX3_highOfProduct 46 = .ok (.land, 1) := by decide +kernel
theorem dX3_highOfProduct_47 : decode cX3_highOfProduct 47 = .ok (.ladd, 1) := by decide +kernel
theorem dX3_highOfProduct_48 : decode cX3_highOfProduct 48 = .ok (.lstore 10, 2) := by decide +kernel
theorem dX3_highOfProduct_50 : decode cX3_highOfProduct 50 = .ok (.lload_n 0, 1) := by decide +kernel
theorem dX3_highOfProduct_51 : decode cX3_highOfProduct 51 = .ok (.bipush 32, 2) := by decide +kernel
theorem dX3_highOfProduct_53 : decode cX3_highOfProduct 53 = .ok (.lshr, 1) := by decide +kernel
theorem dX3_highOfProduct_54 : decode cX3_highOfProduct 54 = .ok (.lload_n 2, 1) := by decide +kernel
theorem dX3_highOfProduct_55 : decode cX3_highOfProduct 55 = .ok (.bipush 32, 2) := by decide +kernel
theorem dX3_highOfProduct_57 : decode cX3_highOfProduct 57 = .ok (.lshr, 1) := by decide +kernel
theorem dX3_highOfProduct_58 : decode cX3_highOfProduct 58 = .ok (.lmul, 1) := by decide +kernel
theorem dX3_highOfProduct_59 : decode cX3_highOfProduct 59 = .ok (.lload 8, 2) := by decide +kernel
theorem dX3_highOfProduct_61 : decode cX3_highOfProduct 61 = .ok (.bipush 32, 2) := by decide +kernel
theorem dX3_highOfProduct_63 : decode cX3_highOfProduct 63 = .ok (.lshr, 1) := by decide +kernel
theorem dX3_highOfProduct_64 : decode cX3_highOfProduct 64 = .ok (.ladd, 1) := by decide +kernel
theorem dX3_highOfProduct_65 : decode cX3_highOfProduct 65 = .ok (.lload 10, 2) := by decide +kernel
theorem dX3_highOfProduct_67 : decode cX3_highOfProduct 67 = .ok (.bipush 32, 2) := by decide +kernel
theorem dX3_highOfProduct_69 : decode cX3_highOfProduct 69 = .ok (.lshr, 1) := by decide +kernel
theorem dX3_highOfProduct_70 : decode cX3_highOfProduct 70 = .ok (.ladd, 1) := by decide +kernel
theorem dX3_highOfProduct_71 : decode cX3_highOfProduct 71 = .ok (.lreturn, 1) := by decide +kernel
theorem dX3_mixInto_0 : decode cX3_mixInto 0 = .ok (.iconst 0, 1) := by decide +kernel
theorem dX3_mixInto_1 : decode cX3_mixInto 1 = .ok (.istore_n 3, 1) := by decide +kernel
theorem dX3_mixInto_2 : decode cX3_mixInto 2 = .ok (.iload_n 3, 1) := by decide +kernel
theorem dX3_mixInto_3 : decode cX3_mixInto 3 = .ok (.aload_n 0, 1) := by decide +kernel
theorem dX3_mixInto_4 : decode cX3_mixInto 4 = .ok (.getfield 15, 3) := by decide +kernel
theorem dX3_mixInto_7 : decode cX3_mixInto 7 = .ok (.bipush 16, 2) := by decide +kernel
theorem dX3_mixInto_9 : decode cX3_mixInto 9 = .ok (.imul, 1) := by decide +kernel
theorem dX3_mixInto_10 : decode cX3_mixInto 10 = .ok (.if_icmp .ge 23, 3) := by decide +kernel
theorem dX3_mixInto_13 : decode cX3_mixInto 13 = .ok (.ldc2_w 126, 3) := by decide +kernel
theorem dX3_mixInto_16 : decode cX3_mixInto 16 = .ok (.lload_n 1, 1) := by decide +kernel
theorem dX3_mixInto_17 : decode cX3_mixInto 17 = .ok (.lmul, 1) := by decide +kernel
theorem dX3_mixInto_18 : decode cX3_mixInto 18 = .ok (.aload_n 0, 1) := by decide +kernel
theorem dX3_mixInto_19 : decode cX3_mixInto 19 = .ok (.getfield 11, 3) := by decide +kernel
theorem dX3_mixInto_22 : decode cX3_mixInto 22 = .ok (.iload_n 3, 1) := by decide +kernel
theorem dX3_mixInto_23 : decode cX3_mixInto 23 = .ok (.iaload, 1) := by decide +kernel
theorem dX3_mixInto_24 : decode cX3_mixInto 24 = .ok (.i2l, 1) := by decide +kernel
theorem dX3_mixInto_25 : decode cX3_mixInto 25 = .ok (.ladd, 1) := by decide +kernel
theorem dX3_mixInto_26 : decode cX3_mixInto 26 = .ok (.lstore_n 1, 1) := by decide +kernel
theorem dX3_mixInto_27 : decode cX3_mixInto 27 = .ok (.iinc 3 1, 3) := by decide +kernel
theorem dX3_mixInto_30 : decode cX3_mixInto 30 = .ok (.goto (-28), 3) := by decide +kernel
theorem dX3_mixInto_33 : decode cX3_mixInto 33 = .ok (.lload_n 1, 1) := by decide +kernel
theorem dX3_mixInto_34 : decode cX3_mixInto 34 = .ok (.lreturn, 1) := by decide +kernel
theorem dX4_forgetFront_0 : decode cX4_forgetFront 0 = .ok (.aload_n 0, 1) := by decide +kernel
theorem dX4_forgetFront_1 : decode cX4_forgetFront 1 = .ok (.iconst (-1), 1) := by decide +kernel
theorem dX4_forgetFront_2 : decode cX4_forgetFront 2 = .ok (.putfield 34, 3) := by decide +kernel
theorem dX4_forgetFront_5 : decode cX4_forgetFront 5 = .ok (.return_, 1) := by decide +kernel
theorem dX4_isCheaper_0 : decode cX4_isCheaper 0 = .ok (.aload_n 0, 1) := by decide +kernel
theorem dX4_isCheaper_1 : decode cX4_isCheaper 1 = .ok (.getfield 19, 3) := by decide +kernel
theorem dX4_isCheaper_4 : decode cX4_isCheaper 4 = .ok (.iload_n 1, 1) := by decide +kernel
theorem dX4_isCheaper_5 : decode cX4_isCheaper 5 = .ok (.iaload, 1) := by decide +kernel
theorem dX4_isCheaper_6 : decode cX4_isCheaper 6 = .ok (.aload_n 0, 1) := by decide +kernel
theorem dX4_isCheaper_7 : decode cX4_isCheaper 7 = .ok (.getfield 19, 3) := by decide +kernel
theorem dX4_isCheaper_10 : decode cX4_isCheaper 10 = .ok (.iload_n 2, 1) := by decide +kernel
theorem dX4_isCheaper_11 : decode cX4_isCheaper 11 = .ok (.iaload, 1) := by decide +kernel
theorem dX4_isCheaper_12 : decode cX4_isCheaper 12 = .ok (.if_icmp .eq 24, 3) := by decide +kernel
theorem dX4_isCheaper_15 : decode cX4_isCheaper 15 = .ok (.aload_n 0, 1) := by decide +kernel
theorem dX4_isCheaper_16 : decode cX4_isCheaper 16 = .ok (.getfield 19, 3) := by decide +kernel
theorem dX4_isCheaper_19 : decode cX4_isCheaper 19 = .ok (.iload_n 1, 1) := by decide +kernel
theorem dX4_isCheaper_20 : decode cX4_isCheaper 20 = .ok (.iaload, 1) := by decide +kernel
theorem dX4_isCheaper_21 : decode cX4_isCheaper 21 = .ok (.aload_n 0, 1) := by decide +kernel
theorem dX4_isCheaper_22 : decode cX4_isCheaper 22 = .ok (.getfield 19, 3) := by decide +kernel
theorem dX4_isCheaper_25 : decode cX4_isCheaper 25 = .ok (.iload_n 2, 1) := by decide +kernel
theorem dX4_isCheaper_26 : decode cX4_isCheaper 26 = .ok (.iaload, 1) := by decide +kernel
theorem dX4_isCheaper_27 : decode cX4_isCheaper 27 = .ok (.if_icmp .ge 7, 3) := by decide +kernel
theorem dX4_isCheaper_30 : decode cX4_isCheaper 30 = .ok (.iconst 1, 1) := by decide +kernel
theorem dX4_isCheaper_31 : decode cX4_isCheaper 31 = .ok (.goto 4, 3) := by decide +kernel
theorem dX4_isCheaper_34 : decode cX4_isCheaper 34 = .ok (.iconst 0, 1) := by decide +kernel
theorem dX4_isCheaper_35 : decode cX4_isCheaper 35 = .ok (.ireturn, 1) := by decide +kernel
theorem dX4_isCheaper_36 : decode cX4_isCheaper 36 = .ok (.iload_n 1, 1) := by decide +kernel
theorem dX4_isCheaper_37 : decode cX4_isCheaper 37 = .ok (.invokestatic 78, 3) := by decide +kernel
theorem dX4_isCheaper_40 : decode cX4_isCheaper 40 = .ok (.iload_n 2, 1) := by decide +kernel
theorem dX4_isCheaper_41 : decode cX4_isCheaper 41 = .ok (.invokestatic 78, 3) := by decide +kernel
theorem dX4_isCheaper_44 : decode cX4_isCheaper 44 = .ok (.if_icmp .ge 7, 3) := by decide +kernel
theorem dX4_isCheaper_47 : decode cX4_isCheaper 47 = .ok (.iconst 1, 1) := by decide +kernel
theorem dX4_isCheaper_48 : decode cX4_isCheaper 48 = .ok (.goto 4, 3) := by decide +kernel
theorem dX4_isCheaper_51 : decode cX4_isCheaper 51 = .ok (.iconst 0, 1) := by decide +kernel
theorem dX4_isCheaper_52 : decode cX4_isCheaper 52 = .ok (.ireturn, 1) := by decide +kernel
theorem dX4_hasIdler_0 : decode cX4_hasIdler 0 = .ok (.aload_n 0, 1) := by decide +kernel
theorem dX4_hasIdler_1 : decode cX4_hasIdler 1 = .ok (.getfield 43, 3) := by decide +kernel
theorem dX4_hasIdler_4 : decode cX4_hasIdler 4 = .ok (.aload_n 0, 1) := by decide +kernel
theorem dX4_hasIdler_5 : decode cX4_hasIdler 5 = .ok (.getfield 15, 3) := by decide +kernel
theorem dX4_hasIdler_8 : decode cX4_hasIdler 8 = .ok (.iload_n 1, 1) := by decide +kernel
theorem dX4_hasIdler_9 : decode cX4_hasIdler 9 = .ok (.iaload, 1) := by decide +kernel
theorem dX4_hasIdler_10 : decode cX4_hasIdler 10 = .ok (.invokevirtual 71, 3) := by decide +kernel
theorem dX4_hasIdler_13 : decode cX4_hasIdler 13 = .ok (.istore_n 2, 1) := by decide +kernel
theorem dX4_hasIdler_14 : decode cX4_hasIdler 14 = .ok (.iconst 0, 1) := by decide +kernel
theorem dX4_hasIdler_15 : decode cX4_hasIdler 15 = .ok (.istore_n 3, 1) := by decide +kernel
theorem dX4_hasIdler_16 : decode cX4_hasIdler 16 = .ok (.iload_n 3, 1) := by decide +kernel
theorem dX4_hasIdler_17 : decode cX4_hasIdler 17 = .ok (.aload_n 0, 1) := by decide +kernel
theorem dX4_hasIdler_18 : decode cX4_hasIdler 18 = .ok (.getfield 9, 3) := by decide +kernel
theorem dX4_hasIdler_21 : decode cX4_hasIdler 21 = .ok (.if_icmp .ge 41, 3) := by decide +kernel
theorem dX4_hasIdler_24 : decode cX4_hasIdler 24 = .ok (.iload_n 1, 1) := by decide +kernel
theorem dX4_hasIdler_25 : decode cX4_hasIdler 25 = .ok (.iload_n 3, 1) := by decide +kernel
theorem dX4_hasIdler_26 : decode cX4_hasIdler 26 = .ok (.ishr, 1) := by decide +kernel
theorem dX4_hasIdler_27 : decode cX4_hasIdler 27 = .ok (.iconst 1, 1) := by decide +kernel
theorem dX4_hasIdler_28 : decode cX4_hasIdler 28 = .ok (.iand, 1) := by decide +kernel
theorem dX4_hasIdler_29 : decode cX4_hasIdler 29 = .ok (.iconst 1, 1) := by decide +kernel
theorem dX4_hasIdler_30 : decode cX4_hasIdler 30 = .ok (.if_icmp .ne 26, 3) := by decide +kernel
theorem dX4_hasIdler_33 : decode cX4_hasIdler 33 = .ok (.aload_n 0, 1) := by decide +kernel
theorem dX4_hasIdler_34 : decode cX4_hasIdler 34 = .ok (.getfield 43, 3) := by decide +kernel
theorem dX4_hasIdler_37 : decode cX4_hasIdler 37 = .ok (.aload_n 0, 1) := by decide +kernel
theorem dX4_hasIdler_38 : decode cX4_hasIdler 38 = .ok (.getfield 15, 3) := by decide +kernel
theorem dX4_hasIdler_41 : decode cX4_hasIdler 41 = .ok (.iload_n 1, 1) := by decide +kernel
theorem dX4_hasIdler_42 : decode cX4_hasIdler 42 = .ok (.iconst 1, 1) := by decide +kernel
theorem dX4_hasIdler_43 : decode cX4_hasIdler 43 = .ok (.iload_n 3, 1) := by decide +kernel
theorem dX4_hasIdler_44 : decode cX4_hasIdler 44 = .ok (.ishl, 1) := by decide +kernel
theorem dX4_hasIdler_45 : decode cX4_hasIdler 45 = .ok (.ixor, 1) := by decide +kernel
theorem dX4_hasIdler_46 : decode cX4_hasIdler 46 = .ok (.iaload, 1) := by decide +kernel
theorem dX4_hasIdler_47 : decode cX4_hasIdler 47 = .ok (.invokevirtual 71, 3) := by decide +kernel
theorem dX4_hasIdler_50 : decode cX4_hasIdler 50 = .ok (.iload_n 2, 1) := by decide +kernel
theorem dX4_hasIdler_51 : decode cX4_hasIdler 51 = .ok (.if_icmp .ne 5, 3) := by decide +kernel
theorem dX4_hasIdler_54 : decode cX4_hasIdler 54 = .ok (.iconst 1, 1) := by decide +kernel
theorem dX4_hasIdler_55 : decode cX4_hasIdler 55 = .ok (.ireturn, 1) := by decide +kernel
theorem dX4_hasIdler_56 : decode cX4_hasIdler 56 = .ok (.iinc 3 1, 3) := by decide +kernel
theorem dX4_hasIdler_59 : decode cX4_hasIdler 59 = .ok (.goto (-43), 3) := by decide +kernel
theorem dX4_hasIdler_62 : decode cX4_hasIdler 62 = .ok (.iconst 0, 1) := by decide +kernel
theorem dX4_hasIdler_63 : decode cX4_hasIdler 63 = .ok (.ireturn, 1) := by decide +kernel
theorem dX4_sort_0 : decode cX4_sort 0 = .ok (.iload_n 1, 1) := by decide +kernel
theorem dX4_sort_1 : decode cX4_sort 1 = .ok (.iconst 2, 1) := by decide +kernel
theorem dX4_sort_2 : decode cX4_sort 2 = .ok (.idiv, 1) := by decide +kernel
theorem dX4_sort_3 : decode cX4_sort 3 = .ok (.istore_n 2, 1) := by decide +kernel
theorem dX4_sort_4 : decode cX4_sort 4 = .ok (.iload_n 2, 1) := by decide +kernel
theorem dX4_sort_5 : decode cX4_sort 5 = .ok (.ifCond .le 88, 3) := by decide +kernel
theorem dX4_sort_8 : decode cX4_sort 8 = .ok (.iload_n 2, 1) := by decide +kernel
theorem dX4_sort_9 : decode cX4_sort 9 = .ok (.istore_n 3, 1) := by decide +kernel
theorem dX4_sort_10 : decode cX4_sort 10 = .ok (.iload_n 3, 1) := by decide +kernel
theorem dX4_sort_11 : decode cX4_sort 11 = .ok (.iload_n 1, 1) := by decide +kernel
theorem dX4_sort_12 : decode cX4_sort 12 = .ok (.if_icmp .ge 74, 3) := by decide +kernel
theorem dX4_sort_15 : decode cX4_sort 15 = .ok (.aload_n 0, 1) := by decide +kernel
theorem dX4_sort_16 : decode cX4_sort 16 = .ok (.getfield 28, 3) := by decide +kernel
theorem dX4_sort_19 : decode cX4_sort 19 = .ok (.iload_n 3, 1) := by decide +kernel
theorem dX4_sort_20 : decode cX4_sort 20 = .ok (.iaload, 1) := by decide +kernel
theorem dX4_sort_21 : decode cX4_sort 21 = .ok (.istore 4, 2) := by decide +kernel
theorem dX4_sort_23 : decode cX4_sort 23 = .ok (.iload_n 3, 1) := by decide +kernel
theorem dX4_sort_24 : decode cX4_sort 24 = .ok (.istore 5, 2) := by decide +kernel
theorem dX4_sort_26 : decode cX4_sort 26 = .ok (.iload 5, 2) := by decide +kernel
theorem dX4_sort_28 : decode cX4_sort 28 = .ok (.iload_n 2, 1) := by decide +kernel
theorem dX4_sort_29 : decode cX4_sort 29 = .ok (.if_icmp .lt 42, 3) := by decide +kernel
theorem dX4_sort_32 : decode cX4_sort 32 = .ok (.aload_n 0, 1) := by decide +kernel
theorem dX4_sort_33 : decode cX4_sort 33 = .ok (.getfield 28, 3) := by decide +kernel
theorem dX4_sort_36 : decode cX4_sort 36 = .ok (.iload 5, 2) := by decide +kernel
theorem dX4_sort_38 : decode cX4_sort 38 = .ok (.iload_n 2, 1) := by decide +kernel
theorem dX4_sort_39 : decode cX4_sort 39 = .ok (.isub, 1) := by decide +kernel
theorem dX4_sort_40 : decode cX4_sort 40 = .ok (.iaload, 1) := by decide +kernel
theorem dX4_sort_41 : decode cX4_sort 41 = .ok (.iload 4, 2) := by decide +kernel
theorem dX4_sort_43 : decode cX4_sort 43 = .ok (.if_icmp .le 28, 3) := by decide +kernel
theorem dX4_sort_46 : decode cX4_sort 46 = .ok (.aload_n 0, 1) := by decide +kernel
theorem dX4_sort_47 : decode cX4_sort 47 = .ok (.getfield 28, 3) := by decide +kernel
theorem dX4_sort_50 : decode cX4_sort 50 = .ok (.iload 5, 2) := by decide +kernel
theorem dX4_sort_52 : decode cX4_sort 52 = .ok (.aload_n 0, 1) := by decide +kernel
theorem dX4_sort_53 : decode cX4_sort 53 = .ok (.getfield 28, 3) := by decide +kernel
theorem dX4_sort_56 : decode cX4_sort 56 = .ok (.iload 5, 2) := by decide +kernel
theorem dX4_sort_58 : decode cX4_sort 58 = .ok (.iload_n 2, 1) := by decide +kernel
theorem dX4_sort_59 : decode cX4_sort 59 = .ok (.isub, 1) := by decide +kernel
theorem dX4_sort_60 : decode cX4_sort 60 = .ok (.iaload, 1) := by decide +kernel
theorem dX4_sort_61 : decode cX4_sort 61 = .ok (.iastore, 1) := by decide +kernel
theorem dX4_sort_62 : decode cX4_sort 62 = .ok (.iload 5, 2) := by decide +kernel
theorem dX4_sort_64 : decode cX4_sort 64 = .ok (.iload_n 2, 1) := by decide +kernel
theorem dX4_sort_65 : decode cX4_sort 65 = .ok (.isub, 1) := by decide +kernel
theorem dX4_sort_66 : decode cX4_sort 66 = .ok (.istore 5, 2) := by decide +kernel
theorem dX4_sort_68 : decode cX4_sort 68 = .ok (.goto (-42), 3) := by decide +kernel
theorem dX4_sort_71 : decode cX4_sort 71 = .ok (.aload_n 0, 1) := by decide +kernel
theorem dX4_sort_72 : decode cX4_sort 72 = .ok (.getfield 28, 3) := by decide +kernel
theorem dX4_sort_75 : decode cX4_sort 75 = .ok (.iload 5, 2) := by decide +kernel
theorem dX4_sort_77 : decode cX4_sort 77 = .ok (.iload 4, 2) := by decide +kernel
theorem dX4_sort_79 : decode cX4_sort 79 = .ok (.iastore, 1) := by decide +kernel
theorem dX4_sort_80 : decode cX4_sort 80 = .ok (.iinc 3 1, 3) := by decide +kernel
theorem dX4_sort_83 : decode cX4_sort 83 = .ok (.goto (-73), 3) := by decide +kernel
theorem dX4_sort_86 : decode cX4_sort 86 = .ok (.iload_n 2, 1) := by decide +kernel
theorem dX4_sort_87 : decode cX4_sort 87 = .ok (.iconst 2, 1) := by decide +kernel
theorem dX4_sort_88 : decode cX4_sort 88 = .ok (.idiv, 1) := by decide +kernel
theorem dX4_sort_89 : decode cX4_sort 89 = .ok (.istore_n 2, 1) := by decide +kernel
theorem dX4_sort_90 : decode cX4_sort 90 = .ok (.goto (-86), 3) := by decide +kernel
theorem dX4_sort_93 : decode cX4_sort 93 = .ok (.return_, 1) := by decide +kernel
theorem dX4_mixInto_0 : decode cX4_mixInto 0 = .ok (.iconst 0, 1) := by decide +kernel
theorem dX4_mixInto_1 : decode cX4_mixInto 1 = .ok (.istore_n 3, 1) := by decide +kernel
theorem dX4_mixInto_2 : decode cX4_mixInto 2 = .ok (.iload_n 3, 1) := by decide +kernel
theorem dX4_mixInto_3 : decode cX4_mixInto 3 = .ok (.aload_n 0, 1) := by decide +kernel
theorem dX4_mixInto_4 : decode cX4_mixInto 4 = .ok (.getfield 9, 3) := by decide +kernel
theorem dX4_mixInto_7 : decode cX4_mixInto 7 = .ok (.if_icmp .ge 39, 3) := by decide +kernel
theorem dX4_mixInto_10 : decode cX4_mixInto 10 = .ok (.ldc2_w 135, 3) := by decide +kernel
theorem dX4_mixInto_13 : decode cX4_mixInto 13 = .ok (.ldc2_w 135, 3) := by decide +kernel
theorem dX4_mixInto_16 : decode cX4_mixInto 16 = .ok (.lload_n 1, 1) := by decide +kernel
theorem dX4_mixInto_17 : decode cX4_mixInto 17 = .ok (.lmul, 1) := by decide +kernel
theorem dX4_mixInto_18 : decode cX4_mixInto 18 = .ok (.aload_n 0, 1) := by decide +kernel
theorem dX4_mixInto_19 : decode cX4_mixInto 19 = .ok (.getfield 15, 3) := by decide +kernel
theorem dX4_mixInto_22 : decode cX4_mixInto 22 = .ok (.iconst 1, 1) := by decide +kernel
theorem dX4_mixInto_23 : decode cX4_mixInto 23 = .ok (.iload_n 3, 1) := by decide +kernel
theorem dX4_mixInto_24 : decode cX4_mixInto 24 = .ok (.ishl, 1) := by decide +kernel
theorem dX4_mixInto_25 : decode cX4_mixInto 25 = .ok (.iaload, 1) := by decide +kernel
theorem dX4_mixInto_26 : decode cX4_mixInto 26 = .ok (.i2l, 1) := by decide +kernel
theorem dX4_mixInto_27 : decode cX4_mixInto 27 = .ok (.ladd, 1) := by decide +kernel
theorem dX4_mixInto_28 : decode cX4_mixInto 28 = .ok (.lmul, 1) := by decide +kernel
theorem dX4_mixInto_29 : decode cX4_mixInto 29 = .ok (.aload_n 0, 1) := by decide +kernel
theorem dX4_mixInto_30 : decode cX4_mixInto 30 = .ok (.getfield 19, 3) := by decide +kernel
theorem dX4_mixInto_33 : decode cX4_mixInto 33 = .ok (.iconst 1, 1) := by decide +kernel
theorem dX4_mixInto_34 : decode cX4_mixInto 34 = .ok (.iload_n 3, 1) := by decide +kernel
theorem dX4_mixInto_35 : decode cX4_mixInto 35 = .ok (.ishl, 1) := by decide +kernel
theorem dX4_mixInto_36 : decode cX4_mixInto 36 = .ok (.iaload, 1) := by decide +kernel
theorem dX4_mixInto_37 : decode cX4_mixInto 37 = .ok (.i2l, 1) := by decide +kernel
theorem dX4_mixInto_38 : decode cX4_mixInto 38 = .ok (.ladd, 1) := by decide +kernel
theorem dX4_mixInto_39 : decode cX4_mixInto 39 = .ok (.lstore_n 1, 1) := by decide +kernel
theorem dX4_mixInto_40 : decode cX4_mixInto 40 = .ok (.iinc 3 1, 3) := by decide +kernel
theorem dX4_mixInto_43 : decode cX4_mixInto 43 = .ok (.goto (-41), 3) := by decide +kernel
theorem dX4_mixInto_46 : decode cX4_mixInto 46 = .ok (.lload_n 1, 1) := by decide +kernel
theorem dX4_mixInto_47 : decode cX4_mixInto 47 = .ok (.lreturn, 1) := by decide +kernel
theorem dX5_get_0 : decode cX5_get 0 = .ok (.aload_n 0, 1) := by decide +kernel
theorem dX5_get_1 : decode cX5_get 1 = .ok (.getfield 11, 3) := by decide +kernel
theorem dX5_get_4 : decode cX5_get 4 = .ok (.iload_n 1, 1) := by decide +kernel
theorem dX5_get_5 : decode cX5_get 5 = .ok (.iconst 5, 1) := by decide +kernel
theorem dX5_get_6 : decode cX5_get 6 = .ok (.imul, 1) := by decide +kernel
theorem dX5_get_7 : decode cX5_get 7 = .ok (.iload_n 2, 1) := by decide +kernel
theorem dX5_get_8 : decode cX5_get 8 = .ok (.iadd, 1) := by decide +kernel
theorem dX5_get_9 : decode cX5_get 9 = .ok (.iaload, 1) := by decide +kernel
theorem dX5_get_10 : decode cX5_get 10 = .ok (.ireturn, 1) := by decide +kernel
theorem dX5_put_0 : decode cX5_put 0 = .ok (.aload_n 0, 1) := by decide +kernel
theorem dX5_put_1 : decode cX5_put 1 = .ok (.getfield 11, 3) := by decide +kernel
theorem dX5_put_4 : decode cX5_put 4 = .ok (.iload_n 1, 1) := by decide +kernel
theorem dX5_put_5 : decode cX5_put 5 = .ok (.iconst 5, 1) := by decide +kernel
theorem dX5_put_6 : decode cX5_put 6 = .ok (.imul, 1) := by decide +kernel
theorem dX5_put_7 : decode cX5_put 7 = .ok (.iload_n 2, 1) := by decide +kernel
theorem dX5_put_8 : decode cX5_put 8 = .ok (.iadd, 1) := by decide +kernel
theorem dX5_put_9 : decode cX5_put 9 = .ok (.iload_n 3, 1) := by decide +kernel
theorem dX5_put_10 : decode cX5_put 10 = .ok (.iastore, 1) := by decide +kernel
theorem dX5_put_11 : decode cX5_put 11 = .ok (.return_, 1) := by decide +kernel
theorem dX5_sumOf_0 : decode cX5_sumOf 0 = .ok (.iconst 0, 1) := by decide +kernel
theorem dX5_sumOf_1 : decode cX5_sumOf 1 = .ok (.istore_n 3, 1) := by decide +kernel
theorem dX5_sumOf_2 : decode cX5_sumOf 2 = .ok (.iconst 0, 1) := by decide +kernel
theorem dX5_sumOf_3 : decode cX5_sumOf 3 = .ok (.istore 4, 2) := by decide +kernel
theorem dX5_sumOf_5 : decode cX5_sumOf 5 = .ok (.iload 4, 2) := by decide +kernel
theorem dX5_sumOf_7 : decode cX5_sumOf 7 = .ok (.bipush 16, 2) := by decide +kernel
theorem dX5_sumOf_9 : decode cX5_sumOf 9 = .ok (.if_icmp .ge 29, 3) := by decide +kernel
theorem dX5_sumOf_12 : decode cX5_sumOf 12 = .ok (.iload_n 1, 1) := by decide +kernel
theorem dX5_sumOf_13 : decode cX5_sumOf 13 = .ok (.iload 4, 2) := by decide +kernel
theorem dX5_sumOf_15 : decode cX5_sumOf 15 = .ok (.ishr, 1) := by decide +kernel
theorem dX5_sumOf_16 : decode cX5_sumOf 16 = .ok (.iconst 1, 1) := by decide +kernel
theorem dX5_sumOf_17 : decode cX5_sumOf 17 = .ok (.iand, 1) := by decide +kernel
theorem dX5_sumOf_18 : decode cX5_sumOf 18 = .ok (.iconst 1, 1) := by decide +kernel
theorem dX5_sumOf_19 : decode cX5_sumOf 19 = .ok (.if_icmp .ne 13, 3) := by decide +kernel
theorem dX5_sumOf_22 : decode cX5_sumOf 22 = .ok (.iload_n 3, 1) := by decide +kernel
theorem dX5_sumOf_23 : decode cX5_sumOf 23 = .ok (.aload_n 0, 1) := by decide +kernel
theorem dX5_sumOf_24 : decode cX5_sumOf 24 = .ok (.iload 4, 2) := by decide +kernel
theorem dX5_sumOf_26 : decode cX5_sumOf 26 = .ok (.iload_n 2, 1) := by decide +kernel
theorem dX5_sumOf_27 : decode cX5_sumOf 27 = .ok (.invokevirtual 24, 3) := by decide +kernel
theorem dX5_sumOf_30 : decode cX5_sumOf 30 = .ok (.iadd, 1) := by decide +kernel
theorem dX5_sumOf_31 : decode cX5_sumOf 31 = .ok (.istore_n 3, 1) := by decide +kernel
theorem dX5_sumOf_32 : decode cX5_sumOf 32 = .ok (.iinc 4 1, 3) := by decide +kernel
theorem dX5_sumOf_35 : decode cX5_sumOf 35 = .ok (.goto (-30), 3) := by decide +kernel
theorem dX5_sumOf_38 : decode cX5_sumOf 38 = .ok (.iload_n 3, 1) := by decide +kernel
theorem dX5_sumOf_39 : decode cX5_sumOf 39 = .ok (.ireturn, 1) := by decide +kernel
theorem dX5_marksOf_0 : decode cX5_marksOf 0 = .ok (.iconst 0, 1) := by decide +kernel
theorem dX5_marksOf_1 : decode cX5_marksOf 1 = .ok (.istore_n 2, 1) := by decide +kernel
theorem dX5_marksOf_2 : decode cX5_marksOf 2 = .ok (.iconst 0, 1) := by decide +kernel
theorem dX5_marksOf_3 : decode cX5_marksOf 3 = .ok (.istore_n 3, 1) := by decide +kernel
theorem dX5_marksOf_4 : decode cX5_marksOf 4 = .ok (.iload_n 3, 1) := by decide +kernel
theorem dX5_marksOf_5 : decode cX5_marksOf 5 = .ok (.bipush 16, 2) := by decide +kernel
theorem dX5_marksOf_7 : decode cX5_marksOf 7 = .ok (.if_icmp .ge 27, 3) := by decide +kernel
theorem dX5_marksOf_10 : decode cX5_marksOf 10 = .ok (.iload_n 1, 1) := by decide +kernel
theorem dX5_marksOf_11 : decode cX5_marksOf 11 = .ok (.iload_n 3, 1) := by decide +kernel
theorem dX5_marksOf_12 : decode cX5_marksOf 12 = .ok (.ishr, 1) := by decide +kernel
theorem dX5_marksOf_13 : decode cX5_marksOf 13 = .ok (.iconst 1, 1) := by decide +kernel
theorem dX5_marksOf_14 : decode cX5_marksOf 14 = .ok (.iand, 1) := by decide +kernel
theorem dX5_marksOf_15 : decode cX5_marksOf 15 = .ok (.iconst 1, 1) := by decide +kernel
theorem dX5_marksOf_16 : decode cX5_marksOf 16 = .ok (.if_icmp .ne 12, 3) := by decide +kernel
theorem dX5_marksOf_19 : decode cX5_marksOf 19 = .ok (.iload_n 2, 1) := by decide +kernel
theorem dX5_marksOf_20 : decode cX5_marksOf 20 = .ok (.aload_n 0, 1) := by decide +kernel
theorem dX5_marksOf_21 : decode cX5_marksOf 21 = .ok (.iload_n 3, 1) := by decide +kernel
theorem dX5_marksOf_22 : decode cX5_marksOf 22 = .ok (.iconst 3, 1) := by decide +kernel
theorem dX5_marksOf_23 : decode cX5_marksOf 23 = .ok (.invokevirtual 24, 3) := by decide +kernel
theorem dX5_marksOf_26 : decode cX5_marksOf 26 = .ok (.ior, 1) := by decide +kernel
theorem dX5_marksOf_27 : decode cX5_marksOf 27 = .ok (.istore_n 2, 1) := by decide +kernel
theorem dX5_marksOf_28 : decode cX5_marksOf 28 = .ok (.iinc 3 1, 3) := by decide +kernel
theorem dX5_marksOf_31 : decode cX5_marksOf 31 = .ok (.goto (-27), 3) := by decide +kernel
theorem dX5_marksOf_34 : decode cX5_marksOf 34 = .ok (.iload_n 2, 1) := by decide +kernel
theorem dX5_marksOf_35 : decode cX5_marksOf 35 = .ok (.ireturn, 1) := by decide +kernel
theorem dX5_keep_0 : decode cX5_keep 0 = .ok (.aload_n 0, 1) := by decide +kernel
theorem dX5_keep_1 : decode cX5_keep 1 = .ok (.getfield 11, 3) := by decide +kernel
theorem dX5_keep_4 : decode cX5_keep 4 = .ok (.iconst 0, 1) := by decide +kernel
theorem dX5_keep_5 : decode cX5_keep 5 = .ok (.aload_n 0, 1) := by decide +kernel
theorem dX5_keep_6 : decode cX5_keep 6 = .ok (.getfield 17, 3) := by decide +kernel
theorem dX5_keep_9 : decode cX5_keep 9 = .ok (.iload_n 1, 1) := by decide +kernel
theorem dX5_keep_10 : decode cX5_keep 10 = .ok (.aaload, 1) := by decide +kernel
theorem dX5_keep_11 : decode cX5_keep 11 = .ok (.iconst 0, 1) := by decide +kernel
theorem dX5_keep_12 : decode cX5_keep 12 = .ok (.aload_n 0, 1) := by decide +kernel
theorem dX5_keep_13 : decode cX5_keep 13 = .ok (.getfield 11, 3) := by decide +kernel
theorem dX5_keep_16 : decode cX5_keep 16 = .ok (.arraylength, 1) := by decide +kernel
theorem dX5_keep_17 : decode cX5_keep 17 = .ok (.invokestatic 28, 3) := by decide +kernel
theorem dX5_keep_20 : decode cX5_keep 20 = .ok (.aload_n 0, 1) := by decide +kernel
theorem dX5_keep_21 : decode cX5_keep 21 = .ok (.getfield 20, 3) := by decide +kernel
theorem dX5_keep_24 : decode cX5_keep 24 = .ok (.iload_n 1, 1) := by decide +kernel
theorem dX5_keep_25 : decode cX5_keep 25 = .ok (.iconst 1, 1) := by decide +kernel
theorem dX5_keep_26 : decode cX5_keep 26 = .ok (.bastore, 1) := by decide +kernel
theorem dX5_keep_27 : decode cX5_keep 27 = .ok (.return_, 1) := by decide +kernel
theorem dX5_restore_0 : decode cX5_restore 0 = .ok (.aload_n 0, 1) := by decide +kernel
theorem dX5_restore_1 : decode cX5_restore 1 = .ok (.getfield 17, 3) := by decide +kernel
theorem dX5_restore_4 : decode cX5_restore 4 = .ok (.iload_n 1, 1) := by decide +kernel
theorem dX5_restore_5 : decode cX5_restore 5 = .ok (.aaload, 1) := by decide +kernel
theorem dX5_restore_6 : decode cX5_restore 6 = .ok (.iconst 0, 1) := by decide +kernel
theorem dX5_restore_7 : decode cX5_restore 7 = .ok (.aload_n 0, 1) := by decide +kernel
theorem dX5_restore_8 : decode cX5_restore 8 = .ok (.getfield 11, 3) := by decide +kernel
theorem dX5_restore_11 : decode cX5_restore 11 = .ok (.iconst 0, 1) := by decide +kernel
theorem dX5_restore_12 : decode cX5_restore 12 = .ok (.aload_n 0, 1) := by decide +kernel
theorem dX5_restore_13 : decode cX5_restore 13 = .ok (.getfield 11, 3) := by decide +kernel
theorem dX5_restore_16 : decode cX5_restore 16 = .ok (.arraylength, 1) := by decide +kernel
theorem dX5_restore_17 : decode cX5_restore 17 = .ok (.invokestatic 28, 3) := by decide +kernel
theorem dX5_restore_20 : decode cX5_restore 20 = .ok (.return_, 1) := by decide +kernel
theorem dX5_changed_0 : decode cX5_changed 0 = .ok (.iconst 0, 1) := by decide +kernel
theorem dX5_changed_1 : decode cX5_changed 1 = .ok (.istore_n 2, 1) := by decide +kernel
theorem dX5_changed_2 : decode cX5_changed 2 = .ok (.iconst 0, 1) := by decide +kernel
theorem dX5_changed_3 : decode cX5_changed 3 = .ok (.istore_n 3, 1) := by decide +kernel
theorem dX5_changed_4 : decode cX5_changed 4 = .ok (.iload_n 3, 1) := by decide +kernel
theorem dX5_changed_5 : decode cX5_changed 5 = .ok (.aload_n 0, 1) := by decide +kernel
theorem dX5_changed_6 : decode cX5_changed 6 = .ok (.getfield 11, 3) := by decide +kernel
theorem dX5_changed_9 : decode cX5_changed 9 = .ok (.arraylength, 1) := by decide +kernel
theorem dX5_changed_10 : decode cX5_changed 10 = .ok (.if_icmp .ge 34, 3) := by decide +kernel
theorem dX5_changed_13 : decode cX5_changed 13 = .ok (.aload_n 0, 1) := by decide +kernel
theorem dX5_changed_14 : decode cX5_changed 14 = .ok (.getfield 11, 3) := by decide +kernel
theorem dX5_changed_17 : decode cX5_changed 17 = .ok (.iload_n 3, 1) := by decide +kernel
theorem dX5_changed_18 : decode cX5_changed 18 = .ok (.iaload, 1) := by decide +kernel
theorem dX5_changed_19 : decode cX5_changed 19 = .ok (.aload_n 0, 1) := by decide +kernel
theorem dX5_changed_20 : decode cX5_changed 20 = .ok (.getfield 17, 3) := by decide +kernel
theorem dX5_changed_23 : decode cX5_changed 23 = .ok (.iload_n 1, 1) := by decide +kernel
theorem dX5_changed_24 : decode cX5_changed 24 = .ok (.aaload, 1) := by decide +kernel
theorem dX5_changed_25 : decode cX5_changed 25 = .ok (.iload_n 3, 1) := by decide +kernel
theorem dX5_changed_26 : decode cX5_changed 26 = .ok (.iaload, 1) := by decide +kernel
theorem dX5_changed_27 : decode cX5_changed 27 = .ok (.if_icmp .eq 11, 3) := by decide +kernel
theorem dX5_changed_30 : decode cX5_changed 30 = .ok (.iload_n 2, 1) := by decide +kernel
theorem dX5_changed_31 : decode cX5_changed 31 = .ok (.iconst 1, 1) := by decide +kernel
theorem dX5_changed_32 : decode cX5_changed 32 = .ok (.iload_n 3, 1) := by decide +kernel
theorem dX5_changed_33 : decode cX5_changed 33 = .ok (.iconst 5, 1) := by decide +kernel
theorem dX5_changed_34 : decode cX5_changed 34 = .ok (.idiv, 1) := by decide +kernel
theorem dX5_changed_35 : decode cX5_changed 35 = .ok (.ishl, 1) := by decide +kernel
theorem dX5_changed_36 : decode cX5_changed 36 = .ok (.ior, 1) := by decide +kernel
theorem dX5_changed_37 : decode cX5_changed 37 = .ok (.istore_n 2, 1) := by decide +kernel
theorem dX5_changed_38 : decode cX5_changed 38 = .ok (.iinc 3 1, 3) := by decide +kernel
theorem dX5_changed_41 : decode cX5_changed 41 = .ok (.goto (-37), 3) := by decide +kernel
theorem dX5_changed_44 : decode cX5_changed 44 = .ok (.iload_n 2, 1) := by decide +kernel
theorem dX5_changed_45 : decode cX5_changed 45 = .ok (.ireturn, 1) := by decide +kernel
theorem dX5_mixInto_0 : decode cX5_mixInto 0 = .ok (.iconst 0, 1) := by decide +kernel
theorem dX5_mixInto_1 : decode cX5_mixInto 1 = .ok (.istore_n 3, 1) := by decide +kernel
theorem dX5_mixInto_2 : decode cX5_mixInto 2 = .ok (.iload_n 3, 1) := by decide +kernel
theorem dX5_mixInto_3 : decode cX5_mixInto 3 = .ok (.aload_n 0, 1) := by decide +kernel
theorem dX5_mixInto_4 : decode cX5_mixInto 4 = .ok (.getfield 11, 3) := by decide +kernel
theorem dX5_mixInto_7 : decode cX5_mixInto 7 = .ok (.arraylength, 1) := by decide +kernel
theorem dX5_mixInto_8 : decode cX5_mixInto 8 = .ok (.if_icmp .ge 23, 3) := by decide +kernel
theorem dX5_mixInto_11 : decode cX5_mixInto 11 = .ok (.ldc2_w 34, 3) := by decide +kernel
theorem dX5_mixInto_14 : decode cX5_mixInto 14 = .ok (.lload_n 1, 1) := by decide +kernel
theorem dX5_mixInto_15 : decode cX5_mixInto 15 = .ok (.lmul, 1) := by decide +kernel
theorem dX5_mixInto_16 : decode cX5_mixInto 16 = .ok (.aload_n 0, 1) := by decide +kernel
theorem dX5_mixInto_17 : decode cX5_mixInto 17 = .ok (.getfield 11, 3) := by decide +kernel
theorem dX5_mixInto_20 : decode cX5_mixInto 20 = .ok (.iload_n 3, 1) := by decide +kernel
theorem dX5_mixInto_21 : decode cX5_mixInto 21 = .ok (.iaload, 1) := by decide +kernel
theorem dX5_mixInto_22 : decode cX5_mixInto 22 = .ok (.i2l, 1) := by decide +kernel
theorem dX5_mixInto_23 : decode cX5_mixInto 23 = .ok (.ladd, 1) := by decide +kernel
theorem dX5_mixInto_24 : decode cX5_mixInto 24 = .ok (.lstore_n 1, 1) := by decide +kernel
theorem dX5_mixInto_25 : decode cX5_mixInto 25 = .ok (.iinc 3 1, 3) := by decide +kernel
theorem dX5_mixInto_28 : decode cX5_mixInto 28 = .ok (.goto (-26), 3) := by decide +kernel
theorem dX5_mixInto_31 : decode cX5_mixInto 31 = .ok (.lload_n 1, 1) := by decide +kernel
theorem dX5_mixInto_32 : decode cX5_mixInto 32 = .ok (.lreturn, 1) := by decide +kernel
theorem dX6_append_0 : decode cX6_append 0 = .ok (.aload_n 0, 1) := by decide +kernel
theorem dX6_append_1 : decode cX6_append 1 = .ok (.getfield 15, 3) := by decide +kernel
theorem dX6_append_4 : decode cX6_append 4 = .ok (.bipush 80, 2) := by decide +kernel
theorem dX6_append_6 : decode cX6_append 6 = .ok (.if_icmp .lt 5, 3) := by decide +kernel
theorem dX6_append_9 : decode cX6_append 9 = .ok (.iconst 0, 1) := by decide +kernel
theorem dX6_append_10 : decode cX6_append 10 = .ok (.ireturn, 1) := by decide +kernel
theorem dX6_append_11 : decode cX6_append 11 = .ok (.aload_n 0, 1) := by decide +kernel
theorem dX6_append_12 : decode cX6_append 12 = .ok (.getfield 11, 3) := by decide +kernel
theorem dX6_append_15 : decode cX6_append 15 = .ok (.aload_n 0, 1) := by decide +kernel
theorem dX6_append_16 : decode cX6_append 16 = .ok (.getfield 15, 3) := by decide +kernel
theorem dX6_append_19 : decode cX6_append 19 = .ok (.iload_n 1, 1) := by decide +kernel
theorem dX6_append_20 : decode cX6_append 20 = .ok (.iastore, 1) := by decide +kernel
theorem dX6_append_21 : decode cX6_append 21 = .ok (.aload_n 0, 1) := by decide +kernel
theorem dX6_append_22 : decode cX6_append 22 = .ok (.dup, 1) := by decide +kernel
theorem dX6_append_23 : decode cX6_append 23 = .ok (.getfield 15, 3) := by decide +kernel
theorem dX6_append_26 : decode cX6_append 26 = .ok (.iconst 1, 1) := by decide +kernel
theorem dX6_append_27 : decode cX6_append 27 = .ok (.iadd, 1) := by decide +kernel
theorem dX6_append_28 : decode cX6_append 28 = .ok (.putfield 15, 3) := by decide +kernel
theorem dX6_append_31 : decode cX6_append 31 = .ok (.iconst 1, 1) := by decide +kernel
theorem dX6_append_32 : decode cX6_append 32 = .ok (.ireturn, 1) := by decide +kernel
theorem dX6_forget_0 : decode cX6_forget 0 = .ok (.aload_n 0, 1) := by decide +kernel
theorem dX6_forget_1 : decode cX6_forget 1 = .ok (.getfield 19, 3) := by decide +kernel
theorem dX6_forget_4 : decode cX6_forget 4 = .ok (.iconst (-1), 1) := by decide +kernel
theorem dX6_forget_5 : decode cX6_forget 5 = .ok (.invokestatic 58, 3) := by decide +kernel
theorem dX6_forget_8 : decode cX6_forget 8 = .ok (.aload_n 0, 1) := by decide +kernel
theorem dX6_forget_9 : decode cX6_forget 9 = .ok (.iconst 0, 1) := by decide +kernel
theorem dX6_forget_10 : decode cX6_forget 10 = .ok (.iconst 0, 1) := by decide +kernel
theorem dX6_forget_11 : decode cX6_forget 11 = .ok (.invokevirtual 64, 3) := by decide +kernel
theorem dX6_forget_14 : decode cX6_forget 14 = .ok (.return_, 1) := by decide +kernel
theorem dX6_shrinkTo_0 : decode cX6_shrinkTo 0 = .ok (.aload_n 0, 1) := by decide +kernel
theorem dX6_shrinkTo_1 : decode cX6_shrinkTo 1 = .ok (.iload_n 1, 1) := by decide +kernel
theorem dX6_shrinkTo_2 : decode cX6_shrinkTo 2 = .ok (.putfield 40, 3) := by decide +kernel
theorem dX6_shrinkTo_5 : decode cX6_shrinkTo 5 = .ok (.aload_n 0, 1) := by decide +kernel
theorem dX6_shrinkTo_6 : decode cX6_shrinkTo 6 = .ok (.iload_n 2, 1) := by decide +kernel
theorem dX6_shrinkTo_7 : decode cX6_shrinkTo 7 = .ok (.putfield 43, 3) := by decide +kernel
theorem dX6_shrinkTo_10 : decode cX6_shrinkTo 10 = .ok (.return_, 1) := by decide +kernel
theorem dX6_standing_0 : decode cX6_standing 0 = .ok (.iconst 0, 1) := by decide +kernel
theorem dX6_standing_1 : decode cX6_standing 1 = .ok (.istore_n 1, 1) := by decide +kernel
theorem dX6_standing_2 : decode cX6_standing 2 = .ok (.iconst 0, 1) := by decide +kernel
theorem dX6_standing_3 : decode cX6_standing 3 = .ok (.istore_n 2, 1) := by decide +kernel
theorem dX6_standing_4 : decode cX6_standing 4 = .ok (.iload_n 2, 1) := by decide +kernel
theorem dX6_standing_5 : decode cX6_standing 5 = .ok (.bipush 9, 2) := by decide +kernel
theorem dX6_standing_7 : decode cX6_standing 7 = .ok (.if_icmp .gt 21, 3) := by decide +kernel
theorem dX6_standing_10 : decode cX6_standing 10 = .ok (.aload_n 0, 1) := by decide +kernel
theorem dX6_standing_11 : decode cX6_standing 11 = .ok (.getfield 19, 3) := by decide +kernel
theorem dX6_standing_14 : decode cX6_standing 14 = .ok (.iload_n 2, 1) := by decide +kernel
theorem dX6_standing_15 : decode cX6_standing 15 = .ok (.iaload, 1) := by decide +kernel
theorem dX6_standing_16 : decode cX6_standing 16 = .ok (.ifCond .lt 6, 3) := by decide +kernel
theorem dX6_standing_19 : decode cX6_standing 19 = .ok (.iinc 1 1, 3) := by decide +kernel
theorem dX6_standing_22 : decode cX6_standing 22 = .ok (.iinc 2 1, 3) := by decide +kernel
theorem dX6_standing_25 : decode cX6_standing 25 = .ok (.goto (-21), 3) := by decide +kernel
theorem dX6_standing_28 : decode cX6_standing 28 = .ok (.iload_n 1, 1) := by decide +kernel
theorem dX6_standing_29 : decode cX6_standing 29 = .ok (.ireturn, 1) := by decide +kernel
theorem dX6_partOf_0 : decode cX6_partOf 0 = .ok (.aload_n 0, 1) := by decide +kernel
theorem dX6_partOf_1 : decode cX6_partOf 1 = .ok (.getfield 37, 3) := by decide +kernel
theorem dX6_partOf_4 : decode cX6_partOf 4 = .ok (.aload_n 0, 1) := by decide +kernel
theorem dX6_partOf_5 : decode cX6_partOf 5 = .ok (.getfield 31, 3) := by decide +kernel
theorem dX6_partOf_8 : decode cX6_partOf 8 = .ok (.iload_n 1, 1) := by decide +kernel
theorem dX6_partOf_9 : decode cX6_partOf 9 = .ok (.iaload, 1) := by decide +kernel
theorem dX6_partOf_10 : decode cX6_partOf 10 = .ok (.iload_n 2, 1) := by decide +kernel
theorem dX6_partOf_11 : decode cX6_partOf 11 = .ok (.iadd, 1) := by decide +kernel
theorem dX6_partOf_12 : decode cX6_partOf 12 = .ok (.iaload, 1) := by decide +kernel
theorem dX6_partOf_13 : decode cX6_partOf 13 = .ok (.ireturn, 1) := by decide +kernel
theorem dX6_addLetter_0 : decode cX6_addLetter 0 = .ok (.aload_n 0, 1) := by decide +kernel
theorem dX6_addLetter_1 : decode cX6_addLetter 1 = .ok (.iconst 0, 1) := by decide +kernel
theorem dX6_addLetter_2 : decode cX6_addLetter 2 = .ok (.iload_n 1, 1) := by decide +kernel
theorem dX6_addLetter_3 : decode cX6_addLetter 3 = .ok (.iconst 0, 1) := by decide +kernel
theorem dX6_addLetter_4 : decode cX6_addLetter 4 = .ok (.iconst 1, 1) := by decide +kernel
theorem dX6_addLetter_5 : decode cX6_addLetter 5 = .ok (.iload_n 1, 1) := by decide +kernel
theorem dX6_addLetter_6 : decode cX6_addLetter 6 = .ok (.ishl, 1) := by decide +kernel
theorem dX6_addLetter_7 : decode cX6_addLetter 7 = .ok (.invokevirtual 68, 3) := by decide +kernel
theorem dX6_addLetter_10 : decode cX6_addLetter 10 = .ok (.ireturn, 1) := by decide +kernel
theorem dX6_addKnot_0 : decode cX6_addKnot 0 = .ok (.aload_n 0, 1) := by decide +kernel
theorem dX6_addKnot_1 : decode cX6_addKnot 1 = .ok (.getfield 40, 3) := by decide +kernel
theorem dX6_addKnot_4 : decode cX6_addKnot 4 = .ok (.sipush 330, 3) := by decide +kernel
theorem dX6_addKnot_7 : decode cX6_addKnot 7 = .ok (.if_icmp .lt 7, 3) := by decide +kernel
theorem dX6_addKnot_10 : decode cX6_addKnot 10 = .ok (.sipush 329, 3) := by decide +kernel
theorem dX6_addKnot_13 : decode cX6_addKnot 13 = .ok (.ireturn, 1) := by decide +kernel
theorem dX6_addKnot_14 : decode cX6_addKnot 14 = .ok (.aload_n 0, 1) := by decide +kernel
theorem dX6_addKnot_15 : decode cX6_addKnot 15 = .ok (.getfield 22, 3) := by decide +kernel
theorem dX6_addKnot_18 : decode cX6_addKnot 18 = .ok (.aload_n 0, 1) := by decide +kernel
theorem dX6_addKnot_19 : decode cX6_addKnot 19 = .ok (.getfield 40, 3) := by decide +kernel
theorem dX6_addKnot_22 : decode cX6_addKnot 22 = .ok (.iload_n 1, 1) := by decide +kernel
theorem dX6_addKnot_23 : decode cX6_addKnot 23 = .ok (.iastore, 1) := by decide +kernel
theorem dX6_addKnot_24 : decode cX6_addKnot 24 = .ok (.aload_n 0, 1) := by decide +kernel
theorem dX6_addKnot_25 : decode cX6_addKnot 25 = .ok (.getfield 25, 3) := by decide +kernel
theorem dX6_addKnot_28 : decode cX6_addKnot 28 = .ok (.aload_n 0, 1) := by decide +kernel
theorem dX6_addKnot_29 : decode cX6_addKnot 29 = .ok (.getfield 40, 3) := by decide +kernel
theorem dX6_addKnot_32 : decode cX6_addKnot 32 = .ok (.iload_n 2, 1) := by decide +kernel
theorem dX6_addKnot_33 : decode cX6_addKnot 33 = .ok (.iastore, 1) := by decide +kernel
theorem dX6_addKnot_34 : decode cX6_addKnot 34 = .ok (.aload_n 0, 1) := by decide +kernel
theorem dX6_addKnot_35 : decode cX6_addKnot 35 = .ok (.getfield 28, 3) := by decide +kernel
theorem dX6_addKnot_38 : decode cX6_addKnot 38 = .ok (.aload_n 0, 1) := by decide +kernel
theorem dX6_addKnot_39 : decode cX6_addKnot 39 = .ok (.getfield 40, 3) := by decide +kernel
theorem dX6_addKnot_42 : decode cX6_addKnot 42 = .ok (.iload_n 3, 1) := by decide +kernel
theorem dX6_addKnot_43 : decode cX6_addKnot 43 = .ok (.iastore, 1) := by decide +kernel
theorem dX6_addKnot_44 : decode cX6_addKnot 44 = .ok (.aload_n 0, 1) := by decide +kernel
theorem dX6_addKnot_45 : decode cX6_addKnot 45 = .ok (.getfield 31, 3) := by decide +kernel
theorem dX6_addKnot_48 : decode cX6_addKnot 48 = .ok (.aload_n 0, 1) := by decide +kernel
theorem dX6_addKnot_49 : decode cX6_addKnot 49 = .ok (.getfield 40, 3) := by decide +kernel
theorem dX6_addKnot_52 : decode cX6_addKnot 52 = .ok (.aload_n 0, 1) := by decide +kernel
theorem dX6_addKnot_53 : decode cX6_addKnot 53 = .ok (.getfield 43, 3) := by decide +kernel
theorem dX6_addKnot_56 : decode cX6_addKnot 56 = .ok (.iastore, 1) := by decide +kernel
theorem dX6_addKnot_57 : decode cX6_addKnot 57 = .ok (.aload_n 0, 1) := by decide +kernel
theorem dX6_addKnot_58 : decode cX6_addKnot 58 = .ok (.getfield 34, 3) := by decide +kernel
theorem dX6_addKnot_61 : decode cX6_addKnot 61 = .ok (.aload_n 0, 1) := by decide +kernel
theorem dX6_addKnot_62 : decode cX6_addKnot 62 = .ok (.getfield 40, 3) := by decide +kernel
theorem dX6_addKnot_65 : decode cX6_addKnot 65 = .ok (.iload 4, 2) := by decide +kernel
theorem dX6_addKnot_67 : decode cX6_addKnot 67 = .ok (.iastore, 1) := by decide +kernel
theorem dX6_addKnot_68 : decode cX6_addKnot 68 = .ok (.aload_n 0, 1) := by decide +kernel
theorem dX6_addKnot_69 : decode cX6_addKnot 69 = .ok (.dup, 1) := by decide +kernel
theorem dX6_addKnot_70 : decode cX6_addKnot 70 = .ok (.getfield 40, 3) := by decide +kernel
theorem dX6_addKnot_73 : decode cX6_addKnot 73 = .ok (.iconst 1, 1) := by decide +kernel
theorem dX6_addKnot_74 : decode cX6_addKnot 74 = .ok (.iadd, 1) := by decide +kernel
theorem dX6_addKnot_75 : decode cX6_addKnot 75 = .ok (.putfield 40, 3) := by decide +kernel
theorem dX6_addKnot_78 : decode cX6_addKnot 78 = .ok (.aload_n 0, 1) := by decide +kernel
theorem dX6_addKnot_79 : decode cX6_addKnot 79 = .ok (.getfield 40, 3) := by decide +kernel
theorem dX6_addKnot_82 : decode cX6_addKnot 82 = .ok (.iconst 1, 1) := by decide +kernel
theorem dX6_addKnot_83 : decode cX6_addKnot 83 = .ok (.isub, 1) := by decide +kernel
theorem dX6_addKnot_84 : decode cX6_addKnot 84 = .ok (.ireturn, 1) := by decide +kernel
theorem dX6_enough_0 : decode cX6_enough 0 = .ok (.aload_n 0, 1) := by decide +kernel
theorem dX6_enough_1 : decode cX6_enough 1 = .ok (.getfield 22, 3) := by decide +kernel
theorem dX6_enough_4 : decode cX6_enough 4 = .ok (.iload_n 1, 1) := by decide +kernel
theorem dX6_enough_5 : decode cX6_enough 5 = .ok (.iaload, 1) := by decide +kernel
theorem dX6_enough_6 : decode cX6_enough 6 = .ok (.iconst 1, 1) := by decide +kernel
theorem dX6_enough_7 : decode cX6_enough 7 = .ok (.if_icmp .ne 5, 3) := by decide +kernel
theorem dX6_enough_10 : decode cX6_enough 10 = .ok (.iconst 1, 1) := by decide +kernel
theorem dX6_enough_11 : decode cX6_enough 11 = .ok (.ireturn, 1) := by decide +kernel
theorem dX6_enough_12 : decode cX6_enough 12 = .ok (.aload_n 0, 1) := by decide +kernel
theorem dX6_enough_13 : decode cX6_enough 13 = .ok (.getfield 22, 3) := by decide +kernel
theorem dX6_enough_16 : decode cX6_enough 16 = .ok (.iload_n 1, 1) := by decide +kernel
theorem dX6_enough_17 : decode cX6_enough 17 = .ok (.iaload, 1) := by decide +kernel
theorem dX6_enough_18 : decode cX6_enough 18 = .ok (.iconst 4, 1) := by decide +kernel
theorem dX6_enough_19 : decode cX6_enough 19 = .ok (.if_icmp .ne 12, 3) := by decide +kernel
theorem dX6_enough_22 : decode cX6_enough 22 = .ok (.aload_n 0, 1) := by decide +kernel
theorem dX6_enough_23 : decode cX6_enough 23 = .ok (.getfield 28, 3) := by decide +kernel
theorem dX6_enough_26 : decode cX6_enough 26 = .ok (.iload_n 1, 1) := by decide +kernel
theorem dX6_enough_27 : decode cX6_enough 27 = .ok (.iaload, 1) := by decide +kernel
theorem dX6_enough_28 : decode cX6_enough 28 = .ok (.goto 9, 3) := by decide +kernel
theorem dX6_enough_31 : decode cX6_enough 31 = .ok (.aload_n 0, 1) := by decide +kernel
theorem dX6_enough_32 : decode cX6_enough 32 = .ok (.getfield 25, 3) := by decide +kernel
theorem dX6_enough_35 : decode cX6_enough 35 = .ok (.iload_n 1, 1) := by decide +kernel
theorem dX6_enough_36 : decode cX6_enough 36 = .ok (.iaload, 1) := by decide +kernel
theorem dX6_enough_37 : decode cX6_enough 37 = .ok (.ireturn, 1) := by decide +kernel
theorem dX6_isReachedBy_0 : decode cX6_isReachedBy 0 = .ok (.iconst 0, 1) := by decide +kernel
theorem dX6_isReachedBy_1 : decode cX6_isReachedBy 1 = .ok (.istore_n 3, 1) := by decide +kernel
theorem dX6_isReachedBy_2 : decode cX6_isReachedBy 2 = .ok (.iload_n 3, 1) := by decide +kernel
theorem dX6_isReachedBy_3 : decode cX6_isReachedBy 3 = .ok (.iload_n 1, 1) := by decide +kernel
theorem dX6_isReachedBy_4 : decode cX6_isReachedBy 4 = .ok (.if_icmp .gt 21, 3) := by decide +kernel
theorem dX6_isReachedBy_7 : decode cX6_isReachedBy 7 = .ok (.aload_n 0, 1) := by decide +kernel
theorem dX6_isReachedBy_8 : decode cX6_isReachedBy 8 = .ok (.getfield 46, 3) := by decide +kernel
theorem dX6_isReachedBy_11 : decode cX6_isReachedBy 11 = .ok (.iload_n 3, 1) := by decide +kernel
theorem dX6_isReachedBy_12 : decode cX6_isReachedBy 12 = .ok (.aload_n 0, 1) := by decide +kernel
theorem dX6_isReachedBy_13 : decode cX6_isReachedBy 13 = .ok (.iload_n 3, 1) := by decide +kernel
theorem dX6_isReachedBy_14 : decode cX6_isReachedBy 14 = .ok (.iload_n 2, 1) := by decide +kernel
theorem dX6_isReachedBy_15 : decode cX6_isReachedBy 15 = .ok (.invokevirtual 82, 3) := by decide +kernel
theorem dX6_isReachedBy_18 : decode cX6_isReachedBy 18 = .ok (.bastore, 1) := by decide +kernel
theorem dX6_isReachedBy_19 : decode cX6_isReachedBy 19 = .ok (.iinc 3 1, 3) := by decide +kernel
theorem dX6_isReachedBy_22 : decode cX6_isReachedBy 22 = .ok (.goto (-20), 3) := by decide +kernel
theorem dX6_isReachedBy_25 : decode cX6_isReachedBy 25 = .ok (.aload_n 0, 1) := by decide +kernel
theorem dX6_isReachedBy_26 : decode cX6_isReachedBy 26 = .ok (.getfield 46, 3) := by decide +kernel
theorem dX6_isReachedBy_29 : decode cX6_isReachedBy 29 = .ok (.iload_n 1, 1) := by decide +kernel
theorem dX6_isReachedBy_30 : decode cX6_isReachedBy 30 = .ok (.baload, 1) := by decide +kernel
theorem dX6_isReachedBy_31 : decode cX6_isReachedBy 31 = .ok (.ireturn, 1) := by decide +kernel
theorem dX6_knotIsOn_0 : decode cX6_knotIsOn 0 = .ok (.aload_n 0, 1) := by decide +kernel
theorem dX6_knotIsOn_1 : decode cX6_knotIsOn 1 = .ok (.getfield 22, 3) := by decide +kernel
theorem dX6_knotIsOn_4 : decode cX6_knotIsOn 4 = .ok (.iload_n 1, 1) := by decide +kernel
theorem dX6_knotIsOn_5 : decode cX6_knotIsOn 5 = .ok (.iaload, 1) := by decide +kernel
theorem dX6_knotIsOn_6 : decode cX6_knotIsOn 6 = .ok (.ifCond .ne 23, 3) := by decide +kernel
theorem dX6_knotIsOn_9 : decode cX6_knotIsOn 9 = .ok (.iload_n 2, 1) := by decide +kernel
theorem dX6_knotIsOn_10 : decode cX6_knotIsOn 10 = .ok (.aload_n 0, 1) := by decide +kernel
theorem dX6_knotIsOn_11 : decode cX6_knotIsOn 11 = .ok (.getfield 25, 3) := by decide +kernel
theorem dX6_knotIsOn_14 : decode cX6_knotIsOn 14 = .ok (.iload_n 1, 1) := by decide +kernel
theorem dX6_knotIsOn_15 : decode cX6_knotIsOn 15 = .ok (.iaload, 1) := by decide +kernel
theorem dX6_knotIsOn_16 : decode cX6_knotIsOn 16 = .ok (.ishr, 1) := by decide +kernel
theorem dX6_knotIsOn_17 : decode cX6_knotIsOn 17 = .ok (.iconst 1, 1) := by decide +kernel
theorem dX6_knotIsOn_18 : decode cX6_knotIsOn 18 = .ok (.iand, 1) := by decide +kernel
theorem dX6_knotIsOn_19 : decode cX6_knotIsOn 19 = .ok (.iconst 1, 1) := by decide +kernel
theorem dX6_knotIsOn_20 : decode cX6_knotIsOn 20 = .ok (.if_icmp .ne 7, 3) := by decide +kernel
theorem dX6_knotIsOn_23 : decode cX6_knotIsOn 23 = .ok (.iconst 1, 1) := by decide +kernel
theorem dX6_knotIsOn_24 : decode cX6_knotIsOn 24 = .ok (.goto 4, 3) := by decide +kernel
theorem dX6_knotIsOn_27 : decode cX6_knotIsOn 27 = .ok (.iconst 0, 1) := by decide +kernel
theorem dX6_knotIsOn_28 : decode cX6_knotIsOn 28 = .ok (.ireturn, 1) := by decide +kernel
theorem dX6_knotIsOn_29 : decode cX6_knotIsOn 29 = .ok (.iconst 0, 1) := by decide +kernel
theorem dX6_knotIsOn_30 : decode cX6_knotIsOn 30 = .ok (.istore_n 3, 1) := by decide +kernel
theorem dX6_knotIsOn_31 : decode cX6_knotIsOn 31 = .ok (.iconst 0, 1) := by decide +kernel
theorem dX6_knotIsOn_32 : decode cX6_knotIsOn 32 = .ok (.istore 4, 2) := by decide +kernel
theorem dX6_knotIsOn_34 : decode cX6_knotIsOn 34 = .ok (.iload 4, 2) := by decide +kernel
theorem dX6_knotIsOn_36 : decode cX6_knotIsOn 36 = .ok (.aload_n 0, 1) := by decide +kernel
theorem dX6_knotIsOn_37 : decode cX6_knotIsOn 37 = .ok (.getfield 25, 3) := by decide +kernel
theorem dX6_knotIsOn_40 : decode cX6_knotIsOn 40 = .ok (.iload_n 1, 1) := by decide +kernel
theorem dX6_knotIsOn_41 : decode cX6_knotIsOn 41 = .ok (.iaload, 1) := by decide +kernel
theorem dX6_knotIsOn_42 : decode cX6_knotIsOn 42 = .ok (.if_icmp .ge 27, 3) := by decide +kernel
theorem dX6_knotIsOn_45 : decode cX6_knotIsOn 45 = .ok (.aload_n 0, 1) := by decide +kernel
theorem dX6_knotIsOn_46 : decode cX6_knotIsOn 46 = .ok (.getfield 46, 3) := by decide +kernel
theorem dX6_knotIsOn_49 : decode cX6_knotIsOn 49 = .ok (.aload_n 0, 1) := by decide +kernel
theorem dX6_knotIsOn_50 : decode cX6_knotIsOn 50 = .ok (.iload_n 1, 1) := by decide +kernel
theorem dX6_knotIsOn_51 : decode cX6_knotIsOn 51 = .ok (.iload 4, 2) := by decide +kernel
theorem dX6_knotIsOn_53 : decode cX6_knotIsOn 53 = .ok (.invokevirtual 86, 3) := by decide +kernel
theorem dX6_knotIsOn_56 : decode cX6_knotIsOn 56 = .ok (.baload, 1) := by decide +kernel
theorem dX6_knotIsOn_57 : decode cX6_knotIsOn 57 = .ok (.ifCond .eq 6, 3) := by decide +kernel
theorem dX6_knotIsOn_60 : decode cX6_knotIsOn 60 = .ok (.iinc 3 1, 3) := by decide +kernel
theorem dX6_knotIsOn_63 : decode cX6_knotIsOn 63 = .ok (.iinc 4 1, 3) := by decide +kernel
theorem dX6_knotIsOn_66 : decode cX6_knotIsOn 66 = .ok (.goto (-32), 3) := by decide +kernel
theorem dX6_knotIsOn_69 : decode cX6_knotIsOn 69 = .ok (.iload_n 3, 1) := by decide +kernel
theorem dX6_knotIsOn_70 : decode cX6_knotIsOn 70 = .ok (.aload_n 0, 1) := by decide +kernel
theorem dX6_knotIsOn_71 : decode cX6_knotIsOn 71 = .ok (.iload_n 1, 1) := by decide +kernel
theorem dX6_knotIsOn_72 : decode cX6_knotIsOn 72 = .ok (.invokevirtual 89, 3) := by decide +kernel
theorem dX6_knotIsOn_75 : decode cX6_knotIsOn 75 = .ok (.if_icmp .lt 7, 3) := by decide +kernel
theorem dX6_knotIsOn_78 : decode cX6_knotIsOn 78 = .ok (.iconst 1, 1) := by decide +kernel
theorem dX6_knotIsOn_79 : decode cX6_knotIsOn 79 = .ok (.goto 4, 3) := by decide +kernel
theorem dX6_knotIsOn_82 : decode cX6_knotIsOn 82 = .ok (.iconst 0, 1) := by decide +kernel
theorem dX6_knotIsOn_83 : decode cX6_knotIsOn 83 = .ok (.ireturn, 1) := by decide +kernel
theorem dX6_timeByMany_0 : decode cX6_timeByMany 0 = .ok (.iconst 0, 1) := by decide +kernel
theorem dX6_timeByMany_1 : decode cX6_timeByMany 1 = .ok (.istore_n 3, 1) := by decide +kernel
theorem dX6_timeByMany_2 : decode cX6_timeByMany 2 = .ok (.iload_n 3, 1) := by decide +kernel
theorem dX6_timeByMany_3 : decode cX6_timeByMany 3 = .ok (.iload_n 1, 1) := by decide +kernel
theorem dX6_timeByMany_4 : decode cX6_timeByMany 4 = .ok (.if_icmp .gt 43, 3) := by decide +kernel
theorem dX6_timeByMany_7 : decode cX6_timeByMany 7 = .ok (.aload_n 0, 1) := by decide +kernel
theorem dX6_timeByMany_8 : decode cX6_timeByMany 8 = .ok (.getfield 50, 3) := by decide +kernel
theorem dX6_timeByMany_11 : decode cX6_timeByMany 11 = .ok (.iload_n 3, 1) := by decide +kernel
theorem dX6_timeByMany_12 : decode cX6_timeByMany 12 = .ok (.aload_n 0, 1) := by decide +kernel
theorem dX6_timeByMany_13 : decode cX6_timeByMany 13 = .ok (.getfield 22, 3) := by decide +kernel
theorem dX6_timeByMany_16 : decode cX6_timeByMany 16 = .ok (.iload_n 3, 1) := by decide +kernel
theorem dX6_timeByMany_17 : decode cX6_timeByMany 17 = .ok (.iaload, 1) := by decide +kernel
theorem dX6_timeByMany_18 : decode cX6_timeByMany 18 = .ok (.ifCond .ne 17, 3) := by decide +kernel
theorem dX6_timeByMany_21 : decode cX6_timeByMany 21 = .ok (.aload_n 2, 1) := by decide +kernel
theorem dX6_timeByMany_22 : decode cX6_timeByMany 22 = .ok (.aload_n 0, 1) := by decide +kernel
theorem dX6_timeByMany_23 : decode cX6_timeByMany 23 = .ok (.getfield 25, 3) := by decide +kernel
theorem dX6_timeByMany_26 : decode cX6_timeByMany 26 = .ok (.iload_n 3, 1) := by decide +kernel
theorem dX6_timeByMany_27 : decode cX6_timeByMany 27 = .ok (.iaload, 1) := by decide +kernel
theorem dX6_timeByMany_28 : decode cX6_timeByMany 28 = .ok (.iconst 1, 1) := by decide +kernel
theorem dX6_timeByMany_29 : decode cX6_timeByMany 29 = .ok (.invokevirtual 95, 3) := by decide +kernel
theorem dX6_timeByMany_32 : decode cX6_timeByMany 32 = .ok (.goto 8, 3) := by decide +kernel
theorem dX6_timeByMany_35 : decode cX6_timeByMany 35 = .ok (.aload_n 0, 1) := by decide +kernel
theorem dX6_timeByMany_36 : decode cX6_timeByMany 36 = .ok (.iload_n 3, 1) := by decide +kernel
theorem dX6_timeByMany_37 : decode cX6_timeByMany 37 = .ok (.invokevirtual 98, 3) := by decide +kernel
theorem dX6_timeByMany_40 : decode cX6_timeByMany 40 = .ok (.iastore, 1) := by decide +kernel
theorem dX6_timeByMany_41 : decode cX6_timeByMany 41 = .ok (.iinc 3 1, 3) := by decide +kernel
theorem dX6_timeByMany_44 : decode cX6_timeByMany 44 = .ok (.goto (-42), 3) := by decide +kernel
theorem dX6_timeByMany_47 : decode cX6_timeByMany 47 = .ok (.aload_n 0, 1) := by decide +kernel
theorem dX6_timeByMany_48 : decode cX6_timeByMany 48 = .ok (.getfield 50, 3) := by decide +kernel
theorem dX6_timeByMany_51 : decode cX6_timeByMany 51 = .ok (.iload_n 1, 1) := by decide +kernel
theorem dX6_timeByMany_52 : decode cX6_timeByMany 52 = .ok (.iaload, 1) := by decide +kernel
theorem dX6_timeByMany_53 : decode cX6_timeByMany 53 = .ok (.ireturn, 1) := by decide +kernel
theorem dX6_rowTime_0 : decode cX6_rowTime 0 = .ok (.aload_n 0, 1) := by decide +kernel
theorem dX6_rowTime_1 : decode cX6_rowTime 1 = .ok (.getfield 22, 3) := by decide +kernel
theorem dX6_rowTime_4 : decode cX6_rowTime 4 = .ok (.iload_n 1, 1) := by decide +kernel
theorem dX6_rowTime_5 : decode cX6_rowTime 5 = .ok (.iaload, 1) := by decide +kernel
theorem dX6_rowTime_6 : decode cX6_rowTime 6 = .ok (.iconst 4, 1) := by decide +kernel
theorem dX6_rowTime_7 : decode cX6_rowTime 7 = .ok (.if_icmp .ne 9, 3) := by decide +kernel
theorem dX6_rowTime_10 : decode cX6_rowTime 10 = .ok (.aload_n 0, 1) := by decide +kernel
theorem dX6_rowTime_11 : decode cX6_rowTime 11 = .ok (.iload_n 1, 1) := by decide +kernel
theorem dX6_rowTime_12 : decode cX6_rowTime 12 = .ok (.invokevirtual 101, 3) := by decide +kernel
theorem dX6_rowTime_15 : decode cX6_rowTime 15 = .ok (.ireturn, 1) := by decide +kernel
theorem dX6_rowTime_16 : decode cX6_rowTime 16 = .ok (.aload_n 0, 1) := by decide +kernel
theorem dX6_rowTime_17 : decode cX6_rowTime 17 = .ok (.getfield 50, 3) := by decide +kernel
theorem dX6_rowTime_20 : decode cX6_rowTime 20 = .ok (.aload_n 0, 1) := by decide +kernel
theorem dX6_rowTime_21 : decode cX6_rowTime 21 = .ok (.iload_n 1, 1) := by decide +kernel
theorem dX6_rowTime_22 : decode cX6_rowTime 22 = .ok (.iconst 0, 1) := by decide +kernel
theorem dX6_rowTime_23 : decode cX6_rowTime 23 = .ok (.invokevirtual 86, 3) := by decide +kernel
theorem dX6_rowTime_26 : decode cX6_rowTime 26 = .ok (.iaload, 1) := by decide +kernel
theorem dX6_rowTime_27 : decode cX6_rowTime 27 = .ok (.istore_n 2, 1) := by decide +kernel
theorem dX6_rowTime_28 : decode cX6_rowTime 28 = .ok (.iconst 1, 1) := by decide +kernel
theorem dX6_rowTime_29 : decode cX6_rowTime 29 = .ok (.istore_n 3, 1) := by decide +kernel
theorem dX6_rowTime_30 : decode cX6_rowTime 30 = .ok (.iload_n 3, 1) := by decide +kernel
theorem dX6_rowTime_31 : decode cX6_rowTime 31 = .ok (.aload_n 0, 1) := by decide +kernel
theorem dX6_rowTime_32 : decode cX6_rowTime 32 = .ok (.getfield 25, 3) := by decide +kernel
theorem dX6_rowTime_35 : decode cX6_rowTime 35 = .ok (.iload_n 1, 1) := by decide +kernel
theorem dX6_rowTime_36 : decode cX6_rowTime 36 = .ok (.iaload, 1) := by decide +kernel
theorem dX6_rowTime_37 : decode cX6_rowTime 37 = .ok (.if_icmp .ge 66, 3) := by decide +kernel
theorem dX6_rowTime_40 : decode cX6_rowTime 40 = .ok (.aload_n 0, 1) := by decide +kernel
theorem dX6_rowTime_41 : decode cX6_rowTime 41 = .ok (.getfield 50, 3) := by decide +kernel
theorem dX6_rowTime_44 : decode cX6_rowTime 44 = .ok (.aload_n 0, 1) := by decide +kernel
theorem dX6_rowTime_45 : decode cX6_rowTime 45 = .ok (.iload_n 1, 1) := by decide +kernel
theorem dX6_rowTime_46 : decode cX6_rowTime 46 = .ok (.iload_n 3, 1) := by decide +kernel
theorem dX6_rowTime_47 : decode cX6_rowTime 47 = .ok (.invokevirtual 86, 3) := by decide +kernel
theorem dX6_rowTime_50 : decode cX6_rowTime 50 = .ok (.iaload, 1) := by decide +kernel
theorem dX6_rowTime_51 : decode cX6_rowTime 51 = .ok (.istore 4, 2) := by decide +kernel
theorem dX6_rowTime_53 : decode cX6_rowTime 53 = .ok (.aload_n 0, 1) := by decide +kernel
theorem dX6_rowTime_54 : decode cX6_rowTime 54 = .ok (.getfield 22, 3) := by decide +kernel
theorem dX6_rowTime_57 : decode cX6_rowTime 57 = .ok (.iload_n 1, 1) := by decide +kernel
theorem dX6_rowTime_58 : decode cX6_rowTime 58 = .ok (.iaload, 1) := by decide +kernel
theorem dX6_rowTime_59 : decode cX6_rowTime 59 = .ok (.iconst 2, 1) := by decide +kernel
theorem dX6_rowTime_60 : decode cX6_rowTime 60 = .ok (.if_icmp .ne 11, 3) := by decide +kernel
theorem dX6_rowTime_63 : decode cX6_rowTime 63 = .ok (.iload_n 2, 1) := by decide +kernel
theorem dX6_rowTime_64 : decode cX6_rowTime 64 = .ok (.iload 4, 2) := by decide +kernel
theorem dX6_rowTime_66 : decode cX6_rowTime 66 = .ok (.iadd, 1) := by decide +kernel
theorem dX6_rowTime_67 : decode cX6_rowTime 67 = .ok (.istore_n 2, 1) := by decide +kernel
theorem dX6_rowTime_68 : decode cX6_rowTime 68 = .ok (.goto 29, 3) := by decide +kernel
theorem dX6_rowTime_71 : decode cX6_rowTime 71 = .ok (.aload_n 0, 1) := by decide +kernel
theorem dX6_rowTime_72 : decode cX6_rowTime 72 = .ok (.getfield 22, 3) := by decide +kernel
theorem dX6_rowTime_75 : decode cX6_rowTime 75 = .ok (.iload_n 1, 1) := by decide +kernel
theorem dX6_rowTime_76 : decode cX6_rowTime 76 = .ok (.iaload, 1) := by decide +kernel
theorem dX6_rowTime_77 : decode cX6_rowTime 77 = .ok (.iconst 1, 1) := by decide +kernel
theorem dX6_rowTime_78 : decode cX6_rowTime 78 = .ok (.if_icmp .ne 12, 3) := by decide +kernel
theorem dX6_rowTime_81 : decode cX6_rowTime 81 = .ok (.iload_n 2, 1) := by decide +kernel
theorem dX6_rowTime_82 : decode cX6_rowTime 82 = .ok (.iload 4, 2) := by decide +kernel
theorem dX6_rowTime_84 : decode cX6_rowTime 84 = .ok (.invokestatic 104, 3) := by decide +kernel
theorem dX6_rowTime_87 : decode cX6_rowTime 87 = .ok (.goto 9, 3) := by decide +kernel
theorem dX6_rowTime_90 : decode cX6_rowTime 90 = .ok (.iload_n 2, 1) := by decide +kernel
theorem dX6_rowTime_91 : decode cX6_rowTime 91 = .ok (.iload 4, 2) := by decide +kernel
theorem dX6_rowTime_93 : decode cX6_rowTime 93 = .ok (.invokestatic 72, 3) := by decide +kernel
theorem dX6_rowTime_96 : decode cX6_rowTime 96 = .ok (.istore_n 2, 1) := by decide +kernel
theorem dX6_rowTime_97 : decode cX6_rowTime 97 = .ok (.iinc 3 1, 3) := by decide +kernel
theorem dX6_rowTime_100 : decode cX6_rowTime 100 = .ok (.goto (-70), 3) := by decide +kernel
theorem dX6_rowTime_103 : decode cX6_rowTime 103 = .ok (.iload_n 2, 1) := by decide +kernel
theorem dX6_rowTime_104 : decode cX6_rowTime 104 = .ok (.ireturn, 1) := by decide +kernel
theorem dX6_someTime_0 : decode cX6_someTime 0 = .ok (.aload_n 0, 1) := by decide +kernel
theorem dX6_someTime_1 : decode cX6_someTime 1 = .ok (.getfield 25, 3) := by decide +kernel
theorem dX6_someTime_4 : decode cX6_someTime 4 = .ok (.iload_n 1, 1) := by decide +kernel
theorem dX6_someTime_5 : decode cX6_someTime 5 = .ok (.iaload, 1) := by decide +kernel
theorem dX6_someTime_6 : decode cX6_someTime 6 = .ok (.aload_n 0, 1) := by decide +kernel
theorem dX6_someTime_7 : decode cX6_someTime 7 = .ok (.getfield 55, 3) := by decide +kernel
theorem dX6_someTime_10 : decode cX6_someTime 10 = .ok (.arraylength, 1) := by decide +kernel
theorem dX6_someTime_11 : decode cX6_someTime 11 = .ok (.invokestatic 104, 3) := by decide +kernel
theorem dX6_someTime_14 : decode cX6_someTime 14 = .ok (.istore_n 2, 1) := by decide +kernel
theorem dX6_someTime_15 : decode cX6_someTime 15 = .ok (.iconst 0, 1) := by decide +kernel
theorem dX6_someTime_16 : decode cX6_someTime 16 = .ok (.istore_n 3, 1) := by decide +kernel
theorem dX6_someTime_17 : decode cX6_someTime 17 = .ok (.iload_n 3, 1) := by decide +kernel
theorem dX6_someTime_18 : decode cX6_someTime 18 = .ok (.iload_n 2, 1) := by decide +kernel
theorem dX6_someTime_19 : decode cX6_someTime 19 = .ok (.if_icmp .ge 26, 3) := by decide +kernel
theorem dX6_someTime_22 : decode cX6_someTime 22 = .ok (.aload_n 0, 1) := by decide +kernel
theorem dX6_someTime_23 : decode cX6_someTime 23 = .ok (.getfield 55, 3) := by decide +kernel
theorem dX6_someTime_26 : decode cX6_someTime 26 = .ok (.iload_n 3, 1) := by decide +kernel
theorem dX6_someTime_27 : decode cX6_someTime 27 = .ok (.aload_n 0, 1) := by decide +kernel
theorem dX6_someTime_28 : decode cX6_someTime 28 = .ok (.getfield 50, 3) := by decide +kernel
theorem dX6_someTime_31 : decode cX6_someTime 31 = .ok (.aload_n 0, 1) := by decide +kernel
theorem dX6_someTime_32 : decode cX6_someTime 32 = .ok (.iload_n 1, 1) := by decide +kernel
theorem dX6_someTime_33 : decode cX6_someTime 33 = .ok (.iload_n 3, 1) := by decide +kernel
theorem dX6_someTime_34 : decode cX6_someTime 34 = .ok (.invokevirtual 86, 3) := by decide +kernel
theorem dX6_someTime_37 : decode cX6_someTime 37 = .ok (.iaload, 1) := by decide +kernel
theorem dX6_someTime_38 : decode cX6_someTime 38 = .ok (.iastore, 1) := by decide +kernel
theorem dX6_someTime_39 : decode cX6_someTime 39 = .ok (.iinc 3 1, 3) := by decide +kernel
theorem dX6_someTime_42 : decode cX6_someTime 42 = .ok (.goto (-25), 3) := by decide +kernel
theorem dX6_someTime_45 : decode cX6_someTime 45 = .ok (.aload_n 0, 1) := by decide +kernel
theorem dX6_someTime_46 : decode cX6_someTime 46 = .ok (.getfield 55, 3) := by decide +kernel
theorem dX6_someTime_49 : decode cX6_someTime 49 = .ok (.iload_n 2, 1) := by decide +kernel
theorem dX6_someTime_50 : decode cX6_someTime 50 = .ok (.aload_n 0, 1) := by decide +kernel
theorem dX6_someTime_51 : decode cX6_someTime 51 = .ok (.getfield 28, 3) := by decide +kernel
theorem dX6_someTime_54 : decode cX6_someTime 54 = .ok (.iload_n 1, 1) := by decide +kernel
theorem dX6_someTime_55 : decode cX6_someTime 55 = .ok (.iaload, 1) := by decide +kernel
theorem dX6_someTime_56 : decode cX6_someTime 56 = .ok (.invokestatic 107, 3) := by decide +kernel
theorem dX6_someTime_59 : decode cX6_someTime 59 = .ok (.ireturn, 1) := by decide +kernel
theorem dX6_risingAt_0 : decode cX6_risingAt 0 = .ok (.iconst 1, 1) := by decide +kernel
theorem dX6_risingAt_1 : decode cX6_risingAt 1 = .ok (.istore_n 3, 1) := by decide +kernel
theorem dX6_risingAt_2 : decode cX6_risingAt 2 = .ok (.iload_n 3, 1) := by decide +kernel
theorem dX6_risingAt_3 : decode cX6_risingAt 3 = .ok (.iload_n 1, 1) := by decide +kernel
theorem dX6_risingAt_4 : decode cX6_risingAt 4 = .ok (.if_icmp .ge 55, 3) := by decide +kernel
theorem dX6_risingAt_7 : decode cX6_risingAt 7 = .ok (.aload_n 0, 1) := by decide +kernel
theorem dX6_risingAt_8 : decode cX6_risingAt 8 = .ok (.iload_n 3, 1) := by decide +kernel
theorem dX6_risingAt_9 : decode cX6_risingAt 9 = .ok (.iaload, 1) := by decide +kernel
theorem dX6_risingAt_10 : decode cX6_risingAt 10 = .ok (.istore 4, 2) := by decide +kernel
theorem dX6_risingAt_12 : decode cX6_risingAt 12 = .ok (.iload_n 3, 1) := by decide +kernel
theorem dX6_risingAt_13 : decode cX6_risingAt 13 = .ok (.istore 5, 2) := by decide +kernel
theorem dX6_risingAt_15 : decode cX6_risingAt 15 = .ok (.iload 5, 2) := by decide +kernel
theorem dX6_risingAt_17 : decode cX6_risingAt 17 = .ok (.ifCond .le 30, 3) := by decide +kernel
theorem dX6_risingAt_20 : decode cX6_risingAt 20 = .ok (.aload_n 0, 1) := by decide +kernel
theorem dX6_risingAt_21 : decode cX6_risingAt 21 = .ok (.iload 5, 2) := by decide +kernel
theorem dX6_risingAt_23 : decode cX6_risingAt 23 = .ok (.iconst 1, 1) := by decide +kernel
theorem dX6_risingAt_24 : decode cX6_risingAt 24 = .ok (.isub, 1) := by decide +kernel
theorem dX6_risingAt_25 : decode cX6_risingAt 25 = .ok (.iaload, 1) := by decide +kernel
theorem dX6_risingAt_26 : decode cX6_risingAt 26 = .ok (.iload 4, 2) := by decide +kernel
theorem dX6_risingAt_28 : decode cX6_risingAt 28 = .ok (.if_icmp .le 19, 3) := by decide +kernel
theorem dX6_risingAt_31 : decode cX6_risingAt 31 = .ok (.aload_n 0, 1) := by decide +kernel
theorem dX6_risingAt_32 : decode cX6_risingAt 32 = .ok (.iload 5, 2) := by decide +kernel
theorem dX6_risingAt_34 : decode cX6_risingAt 34 = .ok (.aload_n 0, 1) := by decide +kernel
theorem dX6_risingAt_35 : decode cX6_risingAt 35 = .ok (.iload 5, 2) := by decide +kernel
theorem dX6_risingAt_37 : decode cX6_risingAt 37 = .ok (.iconst 1, 1) := by decide +kernel
theorem dX6_risingAt_38 : decode cX6_risingAt 38 = .ok (.isub, 1) := by decide +kernel
theorem dX6_risingAt_39 : decode cX6_risingAt 39 = .ok (.iaload, 1) := by decide +kernel
theorem dX6_risingAt_40 : decode cX6_risingAt 40 = .ok (.iastore, 1) := by decide +kernel
theorem dX6_risingAt_41 : decode cX6_risingAt 41 = .ok (.iinc 5 (-1), 3) := by decide +kernel
theorem dX6_risingAt_44 : decode cX6_risingAt 44 = .ok (.goto (-29), 3) := by decide +kernel
theorem dX6_risingAt_47 : decode cX6_risingAt 47 = .ok (.aload_n 0, 1) := by decide +kernel
theorem dX6_risingAt_48 : decode cX6_risingAt 48 = .ok (.iload 5, 2) := by decide +kernel
theorem dX6_risingAt_50 : decode cX6_risingAt 50 = .ok (.iload 4, 2) := by decide +kernel
theorem dX6_risingAt_52 : decode cX6_risingAt 52 = .ok (.iastore, 1) := by decide +kernel
theorem dX6_risingAt_53 : decode cX6_risingAt 53 = .ok (.iinc 3 1, 3) := by decide +kernel
theorem dX6_risingAt_56 : decode cX6_risingAt 56 = .ok (.goto (-54), 3) := by decide +kernel
theorem dX6_risingAt_59 : decode cX6_risingAt 59 = .ok (.aload_n 0, 1) := by decide +kernel
theorem dX6_risingAt_60 : decode cX6_risingAt 60 = .ok (.iload_n 2, 1) := by decide +kernel
theorem dX6_risingAt_61 : decode cX6_risingAt 61 = .ok (.iconst 1, 1) := by decide +kernel
theorem dX6_risingAt_62 : decode cX6_risingAt 62 = .ok (.isub, 1) := by decide +kernel
theorem dX6_risingAt_63 : decode cX6_risingAt 63 = .ok (.iaload, 1) := by decide +kernel
theorem dX6_risingAt_64 : decode cX6_risingAt 64 = .ok (.ireturn, 1) := by decide +kernel
theorem dX6_mixInto_0 : decode cX6_mixInto 0 = .ok (.iconst 0, 1) := by decide +kernel
theorem dX6_mixInto_1 : decode cX6_mixInto 1 = .ok (.istore_n 3, 1) := by decide +kernel
theorem dX6_mixInto_2 : decode cX6_mixInto 2 = .ok (.iload_n 3, 1) := by decide +kernel
theorem dX6_mixInto_3 : decode cX6_mixInto 3 = .ok (.aload_n 0, 1) := by decide +kernel
theorem dX6_mixInto_4 : decode cX6_mixInto 4 = .ok (.getfield 15, 3) := by decide +kernel
theorem dX6_mixInto_7 : decode cX6_mixInto 7 = .ok (.if_icmp .ge 23, 3) := by decide +kernel
theorem dX6_mixInto_10 : decode cX6_mixInto 10 = .ok (.ldc2_w 111, 3) := by decide +kernel
theorem dX6_mixInto_13 : decode cX6_mixInto 13 = .ok (.lload_n 1, 1) := by decide +kernel
theorem dX6_mixInto_14 : decode cX6_mixInto 14 = .ok (.lmul, 1) := by decide +kernel
theorem dX6_mixInto_15 : decode cX6_mixInto 15 = .ok (.aload_n 0, 1) := by decide +kernel
theorem dX6_mixInto_16 : decode cX6_mixInto 16 = .ok (.getfield 11, 3) := by decide +kernel
theorem dX6_mixInto_19 : decode cX6_mixInto 19 = .ok (.iload_n 3, 1) := by decide +kernel
theorem dX6_mixInto_20 : decode cX6_mixInto 20 = .ok (.iaload, 1) := by decide +kernel
theorem dX6_mixInto_21 : decode cX6_mixInto 21 = .ok (.i2l, 1) := by decide +kernel
theorem dX6_mixInto_22 : decode cX6_mixInto 22 = .ok (.ladd, 1) := by decide +kernel
theorem dX6_mixInto_23 : decode cX6_mixInto 23 = .ok (.lstore_n 1, 1) := by decide +kernel
theorem dX6_mixInto_24 : decode cX6_mixInto 24 = .ok (.iinc 3 1, 3) := by decide +kernel
theorem dX6_mixInto_27 : decode cX6_mixInto 27 = .ok (.goto (-25), 3) := by decide +kernel
theorem dX6_mixInto_30 : decode cX6_mixInto 30 = .ok (.iconst 0, 1) := by decide +kernel
theorem dX6_mixInto_31 : decode cX6_mixInto 31 = .ok (.istore_n 3, 1) := by decide +kernel
theorem dX6_mixInto_32 : decode cX6_mixInto 32 = .ok (.iload_n 3, 1) := by decide +kernel
theorem dX6_mixInto_33 : decode cX6_mixInto 33 = .ok (.bipush 9, 2) := by decide +kernel
theorem dX6_mixInto_35 : decode cX6_mixInto 35 = .ok (.if_icmp .gt 39, 3) := by decide +kernel
theorem dX6_mixInto_38 : decode cX6_mixInto 38 = .ok (.aload_n 0, 1) := by decide +kernel
theorem dX6_mixInto_39 : decode cX6_mixInto 39 = .ok (.getfield 19, 3) := by decide +kernel
theorem dX6_mixInto_42 : decode cX6_mixInto 42 = .ok (.iload_n 3, 1) := by decide +kernel
theorem dX6_mixInto_43 : decode cX6_mixInto 43 = .ok (.iaload, 1) := by decide +kernel
theorem dX6_mixInto_44 : decode cX6_mixInto 44 = .ok (.ifCond .lt 24, 3) := by decide +kernel
theorem dX6_mixInto_47 : decode cX6_mixInto 47 = .ok (.ldc2_w 111, 3) := by decide +kernel
theorem dX6_mixInto_50 : decode cX6_mixInto 50 = .ok (.ldc2_w 111, 3) := by decide +kernel
theorem dX6_mixInto_53 : decode cX6_mixInto 53 = .ok (.lload_n 1, 1) := by decide +kernel
theorem dX6_mixInto_54 : decode cX6_mixInto 54 = .ok (.lmul, 1) := by decide +kernel
theorem dX6_mixInto_55 : decode cX6_mixInto 55 = .ok (.iload_n 3, 1) := by decide +kernel
theorem dX6_mixInto_56 : decode cX6_mixInto 56 = .ok (.i2l, 1) := by decide +kernel
theorem dX6_mixInto_57 : decode cX6_mixInto 57 = .ok (.ladd, 1) := by decide +kernel
theorem dX6_mixInto_58 : decode cX6_mixInto 58 = .ok (.lmul, 1) := by decide +kernel
theorem dX6_mixInto_59 : decode cX6_mixInto 59 = .ok (.aload_n 0, 1) := by decide +kernel
theorem dX6_mixInto_60 : decode cX6_mixInto 60 = .ok (.getfield 19, 3) := by decide +kernel
theorem dX6_mixInto_63 : decode cX6_mixInto 63 = .ok (.iload_n 3, 1) := by decide +kernel
theorem dX6_mixInto_64 : decode cX6_mixInto 64 = .ok (.iaload, 1) := by decide +kernel
theorem dX6_mixInto_65 : decode cX6_mixInto 65 = .ok (.i2l, 1) := by decide +kernel
theorem dX6_mixInto_66 : decode cX6_mixInto 66 = .ok (.ladd, 1) := by decide +kernel
theorem dX6_mixInto_67 : decode cX6_mixInto 67 = .ok (.lstore_n 1, 1) := by decide +kernel
theorem dX6_mixInto_68 : decode cX6_mixInto 68 = .ok (.iinc 3 1, 3) := by decide +kernel
theorem dX6_mixInto_71 : decode cX6_mixInto 71 = .ok (.goto (-39), 3) := by decide +kernel
theorem dX6_mixInto_74 : decode cX6_mixInto 74 = .ok (.iconst 0, 1) := by decide +kernel
theorem dX6_mixInto_75 : decode cX6_mixInto 75 = .ok (.istore_n 3, 1) := by decide +kernel
theorem dX6_mixInto_76 : decode cX6_mixInto 76 = .ok (.iload_n 3, 1) := by decide +kernel
theorem dX6_mixInto_77 : decode cX6_mixInto 77 = .ok (.aload_n 0, 1) := by decide +kernel
theorem dX6_mixInto_78 : decode cX6_mixInto 78 = .ok (.getfield 40, 3) := by decide +kernel
theorem dX6_mixInto_81 : decode cX6_mixInto 81 = .ok (.if_icmp .ge 99, 3) := by decide +kernel
theorem dX6_mixInto_84 : decode cX6_mixInto 84 = .ok (.ldc2_w 111, 3) := by decide +kernel
theorem dX6_mixInto_87 : decode cX6_mixInto 87 = .ok (.ldc2_w 111, 3) := by decide +kernel
theorem dX6_mixInto_90 : decode cX6_mixInto 90 = .ok (.ldc2_w 111, 3) := by decide +kernel
theorem dX6_mixInto_93 : decode cX6_mixInto 93 = .ok (.lload_n 1, 1) := by decide +kernel
theorem dX6_mixInto_94 : decode cX6_mixInto 94 = .ok (.lmul, 1) := by decide +kernel
theorem dX6_mixInto_95 : decode cX6_mixInto 95 = .ok (.aload_n 0, 1) := by decide +kernel
theorem dX6_mixInto_96 : decode cX6_mixInto 96 = .ok (.getfield 22, 3) := by decide +kernel
theorem dX6_mixInto_99 : decode cX6_mixInto 99 = .ok (.iload_n 3, 1) := by decide +kernel
theorem dX6_mixInto_100 : decode cX6_mixInto 100 = .ok (.iaload, 1) := by decide +kernel
theorem dX6_mixInto_101 : decode cX6_mixInto 101 = .ok (.i2l, 1) := by decide +kernel
theorem dX6_mixInto_102 : decode cX6_mixInto 102 = .ok (.ladd, 1) := by decide +kernel
theorem dX6_mixInto_103 : decode cX6_mixInto 103 = .ok (.lmul, 1) := by decide +kernel
theorem dX6_mixInto_104 : decode cX6_mixInto 104 = .ok (.aload_n 0, 1) := by decide +kernel
theorem dX6_mixInto_105 : decode cX6_mixInto 105 = .ok (.getfield 25, 3) := by decide +kernel
theorem dX6_mixInto_108 : decode cX6_mixInto 108 = .ok (.iload_n 3, 1) := by decide +kernel
theorem dX6_mixInto_109 : decode cX6_mixInto 109 = .ok (.iaload, 1) := by decide +kernel
theorem dX6_mixInto_110 : decode cX6_mixInto 110 = .ok (.i2l, 1) := by decide +kernel
theorem dX6_mixInto_111 : decode cX6_mixInto 111 = .ok (.ladd, 1) := by decide +kernel
theorem dX6_mixInto_112 : decode cX6_mixInto 112 = .ok (.lmul, 1) := by decide +kernel
theorem dX6_mixInto_113 : decode cX6_mixInto 113 = .ok (.aload_n 0, 1) := by decide +kernel
theorem dX6_mixInto_114 : decode cX6_mixInto 114 = .ok (.getfield 28, 3) := by decide +kernel
theorem dX6_mixInto_117 : decode cX6_mixInto 117 = .ok (.iload_n 3, 1) := by decide +kernel
theorem dX6_mixInto_118 : decode cX6_mixInto 118 = .ok (.iaload, 1) := by decide +kernel
theorem dX6_mixInto_119 : decode cX6_mixInto 119 = .ok (.i2l, 1) := by decide +kernel
theorem dX6_mixInto_120 : decode cX6_mixInto 120 = .ok (.ladd, 1) := by decide +kernel
theorem dX6_mixInto_121 : decode cX6_mixInto 121 = .ok (.lstore_n 1, 1) := by decide +kernel
theorem dX6_mixInto_122 : decode cX6_mixInto 122 = .ok (.aload_n 0, 1) := by decide +kernel
theorem dX6_mixInto_123 : decode cX6_mixInto 123 = .ok (.getfield 22, 3) := by decide +kernel
theorem dX6_mixInto_126 : decode cX6_mixInto 126 = .ok (.iload_n 3, 1) := by decide +kernel
theorem dX6_mixInto_127 : decode cX6_mixInto 127 = .ok (.iaload, 1) := by decide +kernel
theorem dX6_mixInto_128 : decode cX6_mixInto 128 = .ok (.ifCond .ne 7, 3) := by decide +kernel
theorem dX6_mixInto_131 : decode cX6_mixInto 131 = .ok (.iconst 0, 1) := by decide +kernel
theorem dX6_mixInto_132 : decode cX6_mixInto 132 = .ok (.goto 9, 3) := by decide +kernel
theorem dX6_mixInto_135 : decode cX6_mixInto 135 = .ok (.aload_n 0, 1) := by decide +kernel
theorem dX6_mixInto_136 : decode cX6_mixInto 136 = .ok (.getfield 25, 3) := by decide +kernel
theorem dX6_mixInto_139 : decode cX6_mixInto 139 = .ok (.iload_n 3, 1) := by decide +kernel
theorem dX6_mixInto_140 : decode cX6_mixInto 140 = .ok (.iaload, 1) := by decide +kernel
theorem dX6_mixInto_141 : decode cX6_mixInto 141 = .ok (.istore 4, 2) := by decide +kernel
theorem dX6_mixInto_143 : decode cX6_mixInto 143 = .ok (.iconst 0, 1) := by decide +kernel
theorem dX6_mixInto_144 : decode cX6_mixInto 144 = .ok (.istore 5, 2) := by decide +kernel
theorem dX6_mixInto_146 : decode cX6_mixInto 146 = .ok (.iload 5, 2) := by decide +kernel
theorem dX6_mixInto_148 : decode cX6_mixInto 148 = .ok (.iload 4, 2) := by decide +kernel
theorem dX6_mixInto_150 : decode cX6_mixInto 150 = .ok (.if_icmp .ge 24, 3) := by decide +kernel
theorem dX6_mixInto_153 : decode cX6_mixInto 153 = .ok (.ldc2_w 111, 3) := by decide +kernel
theorem dX6_mixInto_156 : decode cX6_mixInto 156 = .ok (.lload_n 1, 1) := by decide +kernel
theorem dX6_mixInto_157 : decode cX6_mixInto 157 = .ok (.lmul, 1) := by decide +kernel
theorem dX6_mixInto_158 : decode cX6_mixInto 158 = .ok (.aload_n 0, 1) := by decide +kernel
theorem dX6_mixInto_159 : decode cX6_mixInto 159 = .ok (.iload_n 3, 1) := by decide +kernel
theorem dX6_mixInto_160 : decode cX6_mixInto 160 = .ok (.iload 5, 2) := by decide +kernel
theorem dX6_mixInto_162 : decode cX6_mixInto 162 = .ok (.invokevirtual 86, 3) := by decide +kernel
theorem dX6_mixInto_165 : decode cX6_mixInto 165 = .ok (.i2l, 1) := by decide +kernel
theorem dX6_mixInto_166 : decode cX6_mixInto 166 = .ok (.ladd, 1) := by decide +kernel
theorem dX6_mixInto_167 : decode cX6_mixInto 167 = .ok (.lstore_n 1, 1) := by decide +kernel
theorem dX6_mixInto_168 : decode cX6_mixInto 168 = .ok (.iinc 5 1, 3) := by decide +kernel
theorem dX6_mixInto_171 : decode cX6_mixInto 171 = .ok (.goto (-25), 3) := by decide +kernel
theorem dX6_mixInto_174 : decode cX6_mixInto 174 = .ok (.iinc 3 1, 3) := by decide +kernel
theorem dX6_mixInto_177 : decode cX6_mixInto 177 = .ok (.goto (-101), 3) := by decide +kernel
theorem dX6_mixInto_180 : decode cX6_mixInto 180 = .ok (.lload_n 1, 1) := by decide +kernel
theorem dX6_mixInto_181 : decode cX6_mixInto 181 = .ok (.lreturn, 1) := by decide +kernel
theorem dX7_next_0 : decode cX7_next 0 = .ok (.aload_n 0, 1) := by decide +kernel
theorem dX7_next_1 : decode cX7_next 1 = .ok (.getfield 19, 3) := by decide +kernel
theorem dX7_next_4 : decode cX7_next 4 = .ok (.aload_n 0, 1) := by decide +kernel
theorem dX7_next_5 : decode cX7_next 5 = .ok (.getfield 25, 3) := by decide +kernel
theorem dX7_next_8 : decode cX7_next 8 = .ok (.getfield 46, 3) := by decide +kernel
theorem dX7_next_11 : decode cX7_next 11 = .ok (.if_icmp .ge 33, 3) := by decide +kernel
theorem dX7_next_14 : decode cX7_next 14 = .ok (.aload_n 0, 1) := by decide +kernel
theorem dX7_next_15 : decode cX7_next 15 = .ok (.getfield 25, 3) := by decide +kernel
theorem dX7_next_18 : decode cX7_next 18 = .ok (.getfield 53, 3) := by decide +kernel
theorem dX7_next_21 : decode cX7_next 21 = .ok (.aload_n 0, 1) := by decide +kernel
theorem dX7_next_22 : decode cX7_next 22 = .ok (.getfield 19, 3) := by decide +kernel
theorem dX7_next_25 : decode cX7_next 25 = .ok (.iaload, 1) := by decide +kernel
theorem dX7_next_26 : decode cX7_next 26 = .ok (.bipush 32, 2) := by decide +kernel
theorem dX7_next_28 : decode cX7_next 28 = .ok (.if_icmp .ne 16, 3) := by decide +kernel
theorem dX7_next_31 : decode cX7_next 31 = .ok (.aload_n 0, 1) := by decide +kernel
theorem dX7_next_32 : decode cX7_next 32 = .ok (.dup, 1) := by decide +kernel
theorem dX7_next_33 : decode cX7_next 33 = .ok (.getfield 19, 3) := by decide +kernel
theorem dX7_next_36 : decode cX7_next 36 = .ok (.iconst 1, 1) := by decide +kernel
theorem dX7_next_37 : decode cX7_next 37 = .ok (.iadd, 1) := by decide +kernel
theorem dX7_next_38 : decode cX7_next 38 = .ok (.putfield 19, 3) := by decide +kernel
theorem dX7_next_41 : decode cX7_next 41 = .ok (.goto (-41), 3) := by decide +kernel
theorem dX7_next_44 : decode cX7_next 44 = .ok (.aload_n 0, 1) := by decide +kernel
theorem dX7_next_45 : decode cX7_next 45 = .ok (.getfield 19, 3) := by decide +kernel
theorem dX7_next_48 : decode cX7_next 48 = .ok (.aload_n 0, 1) := by decide +kernel
theorem dX7_next_49 : decode cX7_next 49 = .ok (.getfield 25, 3) := by decide +kernel
theorem dX7_next_52 : decode cX7_next 52 = .ok (.getfield 46, 3) := by decide +kernel
theorem dX7_next_55 : decode cX7_next 55 = .ok (.if_icmp .ge 18, 3) := by decide +kernel
theorem dX7_next_58 : decode cX7_next 58 = .ok (.aload_n 0, 1) := by decide +kernel
theorem dX7_next_59 : decode cX7_next 59 = .ok (.getfield 25, 3) := by decide +kernel
theorem dX7_next_62 : decode cX7_next 62 = .ok (.getfield 53, 3) := by decide +kernel
theorem dX7_next_65 : decode cX7_next 65 = .ok (.aload_n 0, 1) := by decide +kernel
theorem dX7_next_66 : decode cX7_next 66 = .ok (.getfield 19, 3) := by decide +kernel
theorem dX7_next_69 : decode cX7_next 69 = .ok (.iaload, 1) := by decide +kernel
theorem dX7_next_70 : decode cX7_next 70 = .ok (.goto 4, 3) := by decide +kernel
theorem dX7_next_73 : decode cX7_next 73 = .ok (.iconst (-1), 1) := by decide +kernel
theorem dX7_next_74 : decode cX7_next 74 = .ok (.ireturn, 1) := by decide +kernel
theorem dX7_refuse_0 : decode cX7_refuse 0 = .ok (.aload_n 0, 1) := by decide +kernel
theorem dX7_refuse_1 : decode cX7_refuse 1 = .ok (.bipush 10, 2) := by decide +kernel
theorem dX7_refuse_3 : decode cX7_refuse 3 = .ok (.iload_n 1, 1) := by decide +kernel
theorem dX7_refuse_4 : decode cX7_refuse 4 = .ok (.imul, 1) := by decide +kernel
theorem dX7_refuse_5 : decode cX7_refuse 5 = .ok (.iload_n 2, 1) := by decide +kernel
theorem dX7_refuse_6 : decode cX7_refuse 6 = .ok (.iadd, 1) := by decide +kernel
theorem dX7_refuse_7 : decode cX7_refuse 7 = .ok (.putfield 22, 3) := by decide +kernel
theorem dX7_refuse_10 : decode cX7_refuse 10 = .ok (.iconst (-1), 1) := by decide +kernel
theorem dX7_refuse_11 : decode cX7_refuse 11 = .ok (.ireturn, 1) := by decide +kernel
theorem dX7_refuseHere_0 : decode cX7_refuseHere 0 = .ok (.aload_n 0, 1) := by decide +kernel
theorem dX7_refuseHere_1 : decode cX7_refuseHere 1 = .ok (.aload_n 0, 1) := by decide +kernel
theorem dX7_refuseHere_2 : decode cX7_refuseHere 2 = .ok (.getfield 19, 3) := by decide +kernel
theorem dX7_refuseHere_5 : decode cX7_refuseHere 5 = .ok (.aload_n 0, 1) := by decide +kernel
theorem dX7_refuseHere_6 : decode cX7_refuseHere 6 = .ok (.invokevirtual 39, 3) := by decide +kernel
theorem dX7_refuseHere_9 : decode cX7_refuseHere 9 = .ok (.ifCond .ge 7, 3) := by decide +kernel
theorem dX7_refuseHere_12 : decode cX7_refuseHere 12 = .ok (.iconst 2, 1) := by decide +kernel
theorem dX7_refuseHere_13 : decode cX7_refuseHere 13 = .ok (.goto 4, 3) := by decide +kernel
theorem dX7_refuseHere_16 : decode cX7_refuseHere 16 = .ok (.iconst 1, 1) := by decide +kernel
theorem dX7_refuseHere_17 : decode cX7_refuseHere 17 = .ok (.invokevirtual 43, 3) := by decide +kernel
theorem dX7_refuseHere_20 : decode cX7_refuseHere 20 = .ok (.ireturn, 1) := by decide +kernel
theorem dX7_hold_0 : decode cX7_hold 0 = .ok (.aload_n 0, 1) := by decide +kernel
theorem dX7_hold_1 : decode cX7_hold 1 = .ok (.getfield 15, 3) := by decide +kernel
theorem dX7_hold_4 : decode cX7_hold 4 = .ok (.aload_n 0, 1) := by decide +kernel
theorem dX7_hold_5 : decode cX7_hold 5 = .ok (.getfield 9, 3) := by decide +kernel
theorem dX7_hold_8 : decode cX7_hold 8 = .ok (.arraylength, 1) := by decide +kernel
theorem dX7_hold_9 : decode cX7_hold 9 = .ok (.if_icmp .lt 4, 3) := by decide +kernel
theorem dX7_hold_12 : decode cX7_hold 12 = .ok (.return_, 1) := by decide +kernel
theorem dX7_hold_13 : decode cX7_hold 13 = .ok (.aload_n 0, 1) := by decide +kernel
theorem dX7_hold_14 : decode cX7_hold 14 = .ok (.getfield 9, 3) := by decide +kernel
theorem dX7_hold_17 : decode cX7_hold 17 = .ok (.aload_n 0, 1) := by decide +kernel
theorem dX7_hold_18 : decode cX7_hold 18 = .ok (.getfield 15, 3) := by decide +kernel
theorem dX7_hold_21 : decode cX7_hold 21 = .ok (.iload_n 1, 1) := by decide +kernel
theorem dX7_hold_22 : decode cX7_hold 22 = .ok (.iastore, 1) := by decide +kernel
theorem dX7_hold_23 : decode cX7_hold 23 = .ok (.aload_n 0, 1) := by decide +kernel
theorem dX7_hold_24 : decode cX7_hold 24 = .ok (.dup, 1) := by decide +kernel
theorem dX7_hold_25 : decode cX7_hold 25 = .ok (.getfield 15, 3) := by decide +kernel
theorem dX7_hold_28 : decode cX7_hold 28 = .ok (.iconst 1, 1) := by decide +kernel
theorem dX7_hold_29 : decode cX7_hold 29 = .ok (.iadd, 1) := by decide +kernel
theorem dX7_hold_30 : decode cX7_hold 30 = .ok (.putfield 15, 3) := by decide +kernel
theorem dX7_hold_33 : decode cX7_hold 33 = .ok (.return_, 1) := by decide +kernel
theorem dX7_separator_0 : decode cX7_separator 0 = .ok (.iload_n 0, 1) := by decide +kernel
theorem dX7_separator_1 : decode cX7_separator 1 = .ok (.iconst 1, 1) := by decide +kernel
theorem dX7_separator_2 : decode cX7_separator 2 = .ok (.if_icmp .ne 6, 3) := by decide +kernel
theorem dX7_separator_5 : decode cX7_separator 5 = .ok (.bipush 124, 2) := by decide +kernel
theorem dX7_separator_7 : decode cX7_separator 7 = .ok (.ireturn, 1) := by decide +kernel
theorem dX7_separator_8 : decode cX7_separator 8 = .ok (.iload_n 0, 1) := by decide +kernel
theorem dX7_separator_9 : decode cX7_separator 9 = .ok (.iconst 2, 1) := by decide +kernel
theorem dX7_separator_10 : decode cX7_separator 10 = .ok (.if_icmp .ne 8, 3) := by decide +kernel
theorem dX7_separator_13 : decode cX7_separator 13 = .ok (.bipush 62, 2) := by decide +kernel
theorem dX7_separator_15 : decode cX7_separator 15 = .ok (.goto 5, 3) := by decide +kernel
theorem dX7_separator_18 : decode cX7_separator 18 = .ok (.bipush 38, 2) := by decide +kernel
theorem dX7_separator_20 : decode cX7_separator 20 = .ok (.ireturn, 1) := by decide +kernel
theorem dX7_readDigit_0 : decode cX7_readDigit 0 = .ok (.aload_n 0, 1) := by decide +kernel
theorem dX7_readDigit_1 : decode cX7_readDigit 1 = .ok (.getfield 25, 3) := by decide +kernel
theorem dX7_readDigit_4 : decode cX7_readDigit 4 = .ok (.getfield 89, 3) := by decide +kernel
theorem dX7_readDigit_7 : decode cX7_readDigit 7 = .ok (.iload_n 1, 1) := by decide +kernel
theorem dX7_readDigit_8 : decode cX7_readDigit 8 = .ok (.iaload, 1) := by decide +kernel
theorem dX7_readDigit_9 : decode cX7_readDigit 9 = .ok (.ifCond .ge 13, 3) := by decide +kernel
theorem dX7_readDigit_12 : decode cX7_readDigit 12 = .ok (.aload_n 0, 1) := by decide +kernel
theorem dX7_readDigit_13 : decode cX7_readDigit 13 = .ok (.aload_n 0, 1) := by decide +kernel
theorem dX7_readDigit_14 : decode cX7_readDigit 14 = .ok (.getfield 19, 3) := by decide +kernel
theorem dX7_readDigit_17 : decode cX7_readDigit 17 = .ok (.iconst 3, 1) := by decide +kernel
theorem dX7_readDigit_18 : decode cX7_readDigit 18 = .ok (.invokevirtual 43, 3) := by decide +kernel
theorem dX7_readDigit_21 : decode cX7_readDigit 21 = .ok (.ireturn, 1) := by decide +kernel
theorem dX7_readDigit_22 : decode cX7_readDigit 22 = .ok (.aload_n 0, 1) := by decide +kernel
theorem dX7_readDigit_23 : decode cX7_readDigit 23 = .ok (.dup, 1) := by decide +kernel
theorem dX7_readDigit_24 : decode cX7_readDigit 24 = .ok (.getfield 19, 3) := by decide +kernel
theorem dX7_readDigit_27 : decode cX7_readDigit 27 = .ok (.iconst 1, 1) := by decide +kernel
theorem dX7_readDigit_28 : decode cX7_readDigit 28 = .ok (.iadd, 1) := by decide +kernel
theorem dX7_readDigit_29 : decode cX7_readDigit 29 = .ok (.putfield 19, 3) := by decide +kernel
theorem dX7_readDigit_32 : decode cX7_readDigit 32 = .ok (.aload_n 0, 1) := by decide +kernel
theorem dX7_readDigit_33 : decode cX7_readDigit 33 = .ok (.getfield 25, 3) := by decide +kernel
theorem dX7_readDigit_36 : decode cX7_readDigit 36 = .ok (.getfield 89, 3) := by decide +kernel
theorem dX7_readDigit_39 : decode cX7_readDigit 39 = .ok (.iload_n 1, 1) := by decide +kernel
theorem dX7_readDigit_40 : decode cX7_readDigit 40 = .ok (.iaload, 1) := by decide +kernel
theorem dX7_readDigit_41 : decode cX7_readDigit 41 = .ok (.ireturn, 1) := by decide +kernel
theorem dX7_closes_0 : decode cX7_closes 0 = .ok (.aload_n 0, 1) := by decide +kernel
theorem dX7_closes_1 : decode cX7_closes 1 = .ok (.invokevirtual 39, 3) := by decide +kernel
theorem dX7_closes_4 : decode cX7_closes 4 = .ok (.iload_n 1, 1) := by decide +kernel
theorem dX7_closes_5 : decode cX7_closes 5 = .ok (.if_icmp .ne 15, 3) := by decide +kernel
theorem dX7_closes_8 : decode cX7_closes 8 = .ok (.aload_n 0, 1) := by decide +kernel
theorem dX7_closes_9 : decode cX7_closes 9 = .ok (.dup, 1) := by decide +kernel
theorem dX7_closes_10 : decode cX7_closes 10 = .ok (.getfield 19, 3) := by decide +kernel
theorem dX7_closes_13 : decode cX7_closes 13 = .ok (.iconst 1, 1) := by decide +kernel
theorem dX7_closes_14 : decode cX7_closes 14 = .ok (.iadd, 1) := by decide +kernel
theorem dX7_closes_15 : decode cX7_closes 15 = .ok (.putfield 19, 3) := by decide +kernel
theorem dX7_closes_18 : decode cX7_closes 18 = .ok (.iconst 1, 1) := by decide +kernel
theorem dX7_closes_19 : decode cX7_closes 19 = .ok (.ireturn, 1) := by decide +kernel
theorem dX7_closes_20 : decode cX7_closes 20 = .ok (.aload_n 0, 1) := by decide +kernel
theorem dX7_closes_21 : decode cX7_closes 21 = .ok (.invokevirtual 80, 3) := by decide +kernel
theorem dX7_closes_24 : decode cX7_closes 24 = .ok (.pop, 1) := by decide +kernel
theorem dX7_closes_25 : decode cX7_closes 25 = .ok (.iconst 0, 1) := by decide +kernel
theorem dX7_closes_26 : decode cX7_closes 26 = .ok (.ireturn, 1) := by decide +kernel
theorem dX8_forget_0 : decode cX8_forget 0 = .ok (.aload_n 0, 1) := by decide +kernel
theorem dX8_forget_1 : decode cX8_forget 1 = .ok (.iconst (-1), 1) := by decide +kernel
theorem dX8_forget_2 : decode cX8_forget 2 = .ok (.putfield 25, 3) := by decide +kernel
theorem dX8_forget_5 : decode cX8_forget 5 = .ok (.aload_n 0, 1) := by decide +kernel
theorem dX8_forget_6 : decode cX8_forget 6 = .ok (.getfield 54, 3) := by decide +kernel
theorem dX8_forget_9 : decode cX8_forget 9 = .ok (.iconst 0, 1) := by decide +kernel
theorem dX8_forget_10 : decode cX8_forget 10 = .ok (.invokestatic 66, 3) := by decide +kernel
theorem dX8_forget_13 : decode cX8_forget 13 = .ok (.return_, 1) := by decide +kernel
theorem dX8_rankSteps_0 : decode cX8_rankSteps 0 = .ok (.aload_n 0, 1) := by decide +kernel
theorem dX8_rankSteps_1 : decode cX8_rankSteps 1 = .ok (.iconst 0, 1) := by decide +kernel
theorem dX8_rankSteps_2 : decode cX8_rankSteps 2 = .ok (.putfield 18, 3) := by decide +kernel
theorem dX8_rankSteps_5 : decode cX8_rankSteps 5 = .ok (.iconst 0, 1) := by decide +kernel
theorem dX8_rankSteps_6 : decode cX8_rankSteps 6 = .ok (.istore_n 2, 1) := by decide +kernel
theorem dX8_rankSteps_7 : decode cX8_rankSteps 7 = .ok (.iload_n 2, 1) := by decide +kernel
theorem dX8_rankSteps_8 : decode cX8_rankSteps 8 = .ok (.bipush 16, 2) := by decide +kernel
theorem dX8_rankSteps_10 : decode cX8_rankSteps 10 = .ok (.if_icmp .ge 48, 3) := by decide +kernel
theorem dX8_rankSteps_13 : decode cX8_rankSteps 13 = .ok (.iload_n 1, 1) := by decide +kernel
theorem dX8_rankSteps_14 : decode cX8_rankSteps 14 = .ok (.iload_n 2, 1) := by decide +kernel
theorem dX8_rankSteps_15 : decode cX8_rankSteps 15 = .ok (.ishr, 1) := by decide +kernel
theorem dX8_rankSteps_16 : decode cX8_rankSteps 16 = .ok (.iconst 1, 1) := by decide +kernel
theorem dX8_rankSteps_17 : decode cX8_rankSteps 17 = .ok (.iand, 1) := by decide +kernel
theorem dX8_rankSteps_18 : decode cX8_rankSteps 18 = .ok (.iconst 1, 1) := by decide +kernel
theorem dX8_rankSteps_19 : decode cX8_rankSteps 19 = .ok (.if_icmp .ne 33, 3) := by decide +kernel
theorem dX8_rankSteps_22 : decode cX8_rankSteps 22 = .ok (.aload_n 0, 1) := by decide +kernel
theorem dX8_rankSteps_23 : decode cX8_rankSteps 23 = .ok (.getfield 9, 3) := by decide +kernel
theorem dX8_rankSteps_26 : decode cX8_rankSteps 26 = .ok (.aload_n 0, 1) := by decide +kernel
theorem dX8_rankSteps_27 : decode cX8_rankSteps 27 = .ok (.getfield 18, 3) := by decide +kernel
theorem dX8_rankSteps_30 : decode cX8_rankSteps 30 = .ok (.iload_n 2, 1) := by decide +kernel
theorem dX8_rankSteps_31 : decode cX8_rankSteps 31 = .ok (.iastore, 1) := by decide +kernel
theorem dX8_rankSteps_32 : decode cX8_rankSteps 32 = .ok (.aload_n 0, 1) := by decide +kernel
theorem dX8_rankSteps_33 : decode cX8_rankSteps 33 = .ok (.getfield 15, 3) := by decide +kernel
theorem dX8_rankSteps_36 : decode cX8_rankSteps 36 = .ok (.iload_n 2, 1) := by decide +kernel
theorem dX8_rankSteps_37 : decode cX8_rankSteps 37 = .ok (.aload_n 0, 1) := by decide +kernel
theorem dX8_rankSteps_38 : decode cX8_rankSteps 38 = .ok (.getfield 18, 3) := by decide +kernel
theorem dX8_rankSteps_41 : decode cX8_rankSteps 41 = .ok (.iastore, 1) := by decide +kernel
theorem dX8_rankSteps_42 : decode cX8_rankSteps 42 = .ok (.aload_n 0, 1) := by decide +kernel
theorem dX8_rankSteps_43 : decode cX8_rankSteps 43 = .ok (.dup, 1) := by decide +kernel
theorem dX8_rankSteps_44 : decode cX8_rankSteps 44 = .ok (.getfield 18, 3) := by decide +kernel
theorem dX8_rankSteps_47 : decode cX8_rankSteps 47 = .ok (.iconst 1, 1) := by decide +kernel
theorem dX8_rankSteps_48 : decode cX8_rankSteps 48 = .ok (.iadd, 1) := by decide +kernel
