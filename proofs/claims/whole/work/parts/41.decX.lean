theorem dX4_sort_87 : decode cX4_sort 87 = .ok (.iconst 2, 1) := by decide +kernel
theorem dX4_sort_88 : decode cX4_sort 88 = .ok (.idiv, 1) := by decide +kernel
theorem dX4_sort_89 : decode cX4_sort 89 = .ok (.istore_n 2, 1) := by decide +kernel
theorem dX4_sort_90 : decode cX4_sort 90 = .ok (.goto (-86), 3) := by decide +kernel
theorem dX4_sort_93 : decode cX4_sort 93 = .ok (.return_, 1) := by decide +kernel
theorem dX4_pickFront_0 : decode cX4_pickFront 0 = .ok (.aload_n 0, 1) := by decide +kernel
theorem dX4_pickFront_1 : decode cX4_pickFront 1 = .ok (.aload_n 0, 1) := by decide +kernel
theorem dX4_pickFront_2 : decode cX4_pickFront 2 = .ok (.getfield 25, 3) := by decide +kernel
theorem dX4_pickFront_5 : decode cX4_pickFront 5 = .ok (.iload_n 1, 1) := by decide +kernel
theorem dX4_pickFront_6 : decode cX4_pickFront 6 = .ok (.invokestatic 107, 3) := by decide +kernel
theorem dX4_pickFront_9 : decode cX4_pickFront 9 = .ok (.putfield 25, 3) := by decide +kernel
theorem dX4_pickFront_12 : decode cX4_pickFront 12 = .ok (.aload_n 0, 1) := by decide +kernel
theorem dX4_pickFront_13 : decode cX4_pickFront 13 = .ok (.iconst 0, 1) := by decide +kernel
theorem dX4_pickFront_14 : decode cX4_pickFront 14 = .ok (.putfield 31, 3) := by decide +kernel
theorem dX4_pickFront_17 : decode cX4_pickFront 17 = .ok (.iconst 0, 1) := by decide +kernel
theorem dX4_pickFront_18 : decode cX4_pickFront 18 = .ok (.istore_n 2, 1) := by decide +kernel
theorem dX4_pickFront_19 : decode cX4_pickFront 19 = .ok (.iload_n 2, 1) := by decide +kernel
theorem dX4_pickFront_20 : decode cX4_pickFront 20 = .ok (.iload_n 1, 1) := by decide +kernel
theorem dX4_pickFront_21 : decode cX4_pickFront 21 = .ok (.if_icmp .ge 120, 3) := by decide +kernel
theorem dX4_pickFront_24 : decode cX4_pickFront 24 = .ok (.aload_n 0, 1) := by decide +kernel
theorem dX4_pickFront_25 : decode cX4_pickFront 25 = .ok (.getfield 28, 3) := by decide +kernel
theorem dX4_pickFront_28 : decode cX4_pickFront 28 = .ok (.iload_n 2, 1) := by decide +kernel
theorem dX4_pickFront_29 : decode cX4_pickFront 29 = .ok (.iaload, 1) := by decide +kernel
theorem dX4_pickFront_30 : decode cX4_pickFront 30 = .ok (.sipush 1023, 3) := by decide +kernel
theorem dX4_pickFront_33 : decode cX4_pickFront 33 = .ok (.iand, 1) := by decide +kernel
theorem dX4_pickFront_34 : decode cX4_pickFront 34 = .ok (.istore_n 3, 1) := by decide +kernel
theorem dX4_pickFront_35 : decode cX4_pickFront 35 = .ok (.aload_n 0, 1) := by decide +kernel
theorem dX4_pickFront_36 : decode cX4_pickFront 36 = .ok (.getfield 31, 3) := by decide +kernel
theorem dX4_pickFront_39 : decode cX4_pickFront 39 = .ok (.ifCond .le 76, 3) := by decide +kernel
theorem dX4_pickFront_42 : decode cX4_pickFront 42 = .ok (.aload_n 0, 1) := by decide +kernel
theorem dX4_pickFront_43 : decode cX4_pickFront 43 = .ok (.getfield 25, 3) := by decide +kernel
theorem dX4_pickFront_46 : decode cX4_pickFront 46 = .ok (.aload_n 0, 1) := by decide +kernel
theorem dX4_pickFront_47 : decode cX4_pickFront 47 = .ok (.getfield 31, 3) := by decide +kernel
theorem dX4_pickFront_50 : decode cX4_pickFront 50 = .ok (.iconst 1, 1) := by decide +kernel
theorem dX4_pickFront_51 : decode cX4_pickFront 51 = .ok (.isub, 1) := by decide +kernel
theorem dX4_pickFront_52 : decode cX4_pickFront 52 = .ok (.iaload, 1) := by decide +kernel
theorem dX4_pickFront_53 : decode cX4_pickFront 53 = .ok (.istore 4, 2) := by decide +kernel
theorem dX4_pickFront_55 : decode cX4_pickFront 55 = .ok (.iload_n 3, 1) := by decide +kernel
theorem dX4_pickFront_56 : decode cX4_pickFront 56 = .ok (.aload_n 0, 1) := by decide +kernel
theorem dX4_pickFront_57 : decode cX4_pickFront 57 = .ok (.getfield 37, 3) := by decide +kernel
theorem dX4_pickFront_60 : decode cX4_pickFront 60 = .ok (.imul, 1) := by decide +kernel
theorem dX4_pickFront_61 : decode cX4_pickFront 61 = .ok (.istore 5, 2) := by decide +kernel
theorem dX4_pickFront_63 : decode cX4_pickFront 63 = .ok (.aload_n 0, 1) := by decide +kernel
theorem dX4_pickFront_64 : decode cX4_pickFront 64 = .ok (.getfield 22, 3) := by decide +kernel
theorem dX4_pickFront_67 : decode cX4_pickFront 67 = .ok (.iload 5, 2) := by decide +kernel
theorem dX4_pickFront_69 : decode cX4_pickFront 69 = .ok (.iload 4, 2) := by decide +kernel
theorem dX4_pickFront_71 : decode cX4_pickFront 71 = .ok (.aload_n 0, 1) := by decide +kernel
theorem dX4_pickFront_72 : decode cX4_pickFront 72 = .ok (.getfield 37, 3) := by decide +kernel
theorem dX4_pickFront_75 : decode cX4_pickFront 75 = .ok (.imul, 1) := by decide +kernel
theorem dX4_pickFront_76 : decode cX4_pickFront 76 = .ok (.aload_n 0, 1) := by decide +kernel
theorem dX4_pickFront_77 : decode cX4_pickFront 77 = .ok (.getfield 37, 3) := by decide +kernel
theorem dX4_pickFront_80 : decode cX4_pickFront 80 = .ok (.invokestatic 131, 3) := by decide +kernel
theorem dX4_pickFront_83 : decode cX4_pickFront 83 = .ok (.ifCond .lt 6, 3) := by decide +kernel
theorem dX4_pickFront_86 : decode cX4_pickFront 86 = .ok (.goto 49, 3) := by decide +kernel
theorem dX4_pickFront_89 : decode cX4_pickFront 89 = .ok (.aload_n 0, 1) := by decide +kernel
theorem dX4_pickFront_90 : decode cX4_pickFront 90 = .ok (.getfield 19, 3) := by decide +kernel
theorem dX4_pickFront_93 : decode cX4_pickFront 93 = .ok (.iload 4, 2) := by decide +kernel
theorem dX4_pickFront_95 : decode cX4_pickFront 95 = .ok (.iaload, 1) := by decide +kernel
theorem dX4_pickFront_96 : decode cX4_pickFront 96 = .ok (.aload_n 0, 1) := by decide +kernel
theorem dX4_pickFront_97 : decode cX4_pickFront 97 = .ok (.getfield 19, 3) := by decide +kernel
theorem dX4_pickFront_100 : decode cX4_pickFront 100 = .ok (.iload_n 3, 1) := by decide +kernel
theorem dX4_pickFront_101 : decode cX4_pickFront 101 = .ok (.iaload, 1) := by decide +kernel
theorem dX4_pickFront_102 : decode cX4_pickFront 102 = .ok (.if_icmp .ne 13, 3) := by decide +kernel
theorem dX4_pickFront_105 : decode cX4_pickFront 105 = .ok (.aload_n 0, 1) := by decide +kernel
theorem dX4_pickFront_106 : decode cX4_pickFront 106 = .ok (.dup, 1) := by decide +kernel
theorem dX4_pickFront_107 : decode cX4_pickFront 107 = .ok (.getfield 31, 3) := by decide +kernel
theorem dX4_pickFront_110 : decode cX4_pickFront 110 = .ok (.iconst 1, 1) := by decide +kernel
theorem dX4_pickFront_111 : decode cX4_pickFront 111 = .ok (.isub, 1) := by decide +kernel
theorem dX4_pickFront_112 : decode cX4_pickFront 112 = .ok (.putfield 31, 3) := by decide +kernel
theorem dX4_pickFront_115 : decode cX4_pickFront 115 = .ok (.aload_n 0, 1) := by decide +kernel
theorem dX4_pickFront_116 : decode cX4_pickFront 116 = .ok (.getfield 25, 3) := by decide +kernel
theorem dX4_pickFront_119 : decode cX4_pickFront 119 = .ok (.aload_n 0, 1) := by decide +kernel
theorem dX4_pickFront_120 : decode cX4_pickFront 120 = .ok (.getfield 31, 3) := by decide +kernel
theorem dX4_pickFront_123 : decode cX4_pickFront 123 = .ok (.iload_n 3, 1) := by decide +kernel
theorem dX4_pickFront_124 : decode cX4_pickFront 124 = .ok (.iastore, 1) := by decide +kernel
theorem dX4_pickFront_125 : decode cX4_pickFront 125 = .ok (.aload_n 0, 1) := by decide +kernel
theorem dX4_pickFront_126 : decode cX4_pickFront 126 = .ok (.dup, 1) := by decide +kernel
theorem dX4_pickFront_127 : decode cX4_pickFront 127 = .ok (.getfield 31, 3) := by decide +kernel
theorem dX4_pickFront_130 : decode cX4_pickFront 130 = .ok (.iconst 1, 1) := by decide +kernel
theorem dX4_pickFront_131 : decode cX4_pickFront 131 = .ok (.iadd, 1) := by decide +kernel
theorem dX4_pickFront_132 : decode cX4_pickFront 132 = .ok (.putfield 31, 3) := by decide +kernel
theorem dX4_pickFront_135 : decode cX4_pickFront 135 = .ok (.iinc 2 1, 3) := by decide +kernel
theorem dX4_pickFront_138 : decode cX4_pickFront 138 = .ok (.goto (-119), 3) := by decide +kernel
theorem dX4_pickFront_141 : decode cX4_pickFront 141 = .ok (.return_, 1) := by decide +kernel
theorem dX4_mixInto_0 : decode cX4_mixInto 0 = .ok (.iconst 0, 1) := by decide +kernel
theorem dX4_mixInto_1 : decode cX4_mixInto 1 = .ok (.istore_n 3, 1) := by decide +kernel
theorem dX4_mixInto_2 : decode cX4_mixInto 2 = .ok (.iload_n 3, 1) := by decide +kernel
theorem dX4_mixInto_3 : decode cX4_mixInto 3 = .ok (.aload_n 0, 1) := by decide +kernel
theorem dX4_mixInto_4 : decode cX4_mixInto 4 = .ok (.getfield 9, 3) := by decide +kernel
theorem dX4_mixInto_7 : decode cX4_mixInto 7 = .ok (.if_icmp .ge 39, 3) := by decide +kernel
theorem dX4_mixInto_10 : decode cX4_mixInto 10 = .ok (.ldc2_w 135, 3) := by decide +kernel
theorem dX4_mixInto_13 : decode cX4_mixInto 13 = .ok (.ldc2_w 135, 3) := by decide +kernel
theorem dX4_mixInto_16 : decode cX4_mixInto 16 = .ok (.lload_n 1, 1) := by decide +kernel
theorem dX4_mixInto_17 : decode cX4_mixInto 17 = .ok (.lmul, 1) := by decide +kernel
theorem dX4_mixInto_18 : decode cX4_mixInto 18 = .ok (.aload_n 0, 1) := by decide +kernel
theorem dX4_mixInto_19 : decode cX4_mixInto 19 = .ok (.getfield 15, 3) := by decide +kernel
theorem dX4_mixInto_22 : decode cX4_mixInto 22 = .ok (.iconst 1, 1) := by decide +kernel
theorem dX4_mixInto_23 : decode cX4_mixInto 23 = .ok (.iload_n 3, 1) := by decide +kernel
theorem dX4_mixInto_24 : decode cX4_mixInto 24 = .ok (.ishl, 1) := by decide +kernel
theorem dX4_mixInto_25 : decode cX4_mixInto 25 = .ok (.iaload, 1) := by decide +kernel
theorem dX4_mixInto_26 : decode cX4_mixInto 26 = .ok (.i2l, 1) := by decide +kernel
theorem dX4_mixInto_27 : decode cX4_mixInto 27 = .ok (.ladd, 1) := by decide +kernel
theorem dX4_mixInto_28 : decode cX4_mixInto 28 = .ok (.lmul, 1) := by decide +kernel
theorem dX4_mixInto_29 : decode cX4_mixInto 29 = .ok (.aload_n 0, 1) := by decide +kernel
theorem dX4_mixInto_30 : decode cX4_mixInto 30 = .ok (.getfield 19, 3) := by decide +kernel
theorem dX4_mixInto_33 : decode cX4_mixInto 33 = .ok (.iconst 1, 1) := by decide +kernel
theorem dX4_mixInto_34 : decode cX4_mixInto 34 = .ok (.iload_n 3, 1) := by decide +kernel
theorem dX4_mixInto_35 : decode cX4_mixInto 35 = .ok (.ishl, 1) := by decide +kernel
theorem dX4_mixInto_36 : decode cX4_mixInto 36 = .ok (.iaload, 1) := by decide +kernel
theorem dX4_mixInto_37 : decode cX4_mixInto 37 = .ok (.i2l, 1) := by decide +kernel
theorem dX4_mixInto_38 : decode cX4_mixInto 38 = .ok (.ladd, 1) := by decide +kernel
theorem dX4_mixInto_39 : decode cX4_mixInto 39 = .ok (.lstore_n 1, 1) := by decide +kernel
theorem dX4_mixInto_40 : decode cX4_mixInto 40 = .ok (.iinc 3 1, 3) := by decide +kernel
theorem dX4_mixInto_43 : decode cX4_mixInto 43 = .ok (.goto (-41), 3) := by decide +kernel
theorem dX4_mixInto_46 : decode cX4_mixInto 46 = .ok (.lload_n 1, 1) := by decide +kernel
theorem dX4_mixInto_47 : decode cX4_mixInto 47 = .ok (.lreturn, 1) := by decide +kernel
theorem dX5_get_0 : decode cX5_get 0 = .ok (.aload_n 0, 1) := by decide +kernel
theorem dX5_get_1 : decode cX5_get 1 = .ok (.getfield 11, 3) := by decide +kernel
theorem dX5_get_4 : decode cX5_get 4 = .ok (.iload_n 1, 1) := by decide +kernel
theorem dX5_get_5 : decode cX5_get 5 = .ok (.iconst 5, 1) := by decide +kernel
theorem dX5_get_6 : decode cX5_get 6 = .ok (.imul, 1) := by decide +kernel
theorem dX5_get_7 : decode cX5_get 7 = .ok (.iload_n 2, 1) := by decide +kernel
theorem dX5_get_8 : decode cX5_get 8 = .ok (.iadd, 1) := by decide +kernel
theorem dX5_get_9 : decode cX5_get 9 = .ok (.iaload, 1) := by decide +kernel
theorem dX5_get_10 : decode cX5_get 10 = .ok (.ireturn, 1) := by decide +kernel
theorem dX5_put_0 : decode cX5_put 0 = .ok (.aload_n 0, 1) := by decide +kernel
theorem dX5_put_1 : decode cX5_put 1 = .ok (.getfield 11, 3) := by decide +kernel
theorem dX5_put_4 : decode cX5_put 4 = .ok (.iload_n 1, 1) := by decide +kernel
theorem dX5_put_5 : decode cX5_put 5 = .ok (.iconst 5, 1) := by decide +kernel
theorem dX5_put_6 : decode cX5_put 6 = .ok (.imul, 1) := by decide +kernel
theorem dX5_put_7 : decode cX5_put 7 = .ok (.iload_n 2, 1) := by decide +kernel
theorem dX5_put_8 : decode cX5_put 8 = .ok (.iadd, 1) := by decide +kernel
theorem dX5_put_9 : decode cX5_put 9 = .ok (.iload_n 3, 1) := by decide +kernel
theorem dX5_put_10 : decode cX5_put 10 = .ok (.iastore, 1) := by decide +kernel
theorem dX5_put_11 : decode cX5_put 11 = .ok (.return_, 1) := by decide +kernel
theorem dX5_sumOf_0 : decode cX5_sumOf 0 = .ok (.iconst 0, 1) := by decide +kernel
theorem dX5_sumOf_1 : decode cX5_sumOf 1 = .ok (.istore_n 3, 1) := by decide +kernel
theorem dX5_sumOf_2 : decode cX5_sumOf 2 = .ok (.iconst 0, 1) := by decide +kernel
theorem dX5_sumOf_3 : decode cX5_sumOf 3 = .ok (.istore 4, 2) := by decide +kernel
theorem dX5_sumOf_5 : decode cX5_sumOf 5 = .ok (.iload 4, 2) := by decide +kernel
theorem dX5_sumOf_7 : decode cX5_sumOf 7 = .ok (.bipush 16, 2) := by decide +kernel
theorem dX5_sumOf_9 : decode cX5_sumOf 9 = .ok (.if_icmp .ge 29, 3) := by decide +kernel
theorem dX5_sumOf_12 : decode cX5_sumOf 12 = .ok (.iload_n 1, 1) := by decide +kernel
theorem dX5_sumOf_13 : decode cX5_sumOf 13 = .ok (.iload 4, 2) := by decide +kernel
theorem dX5_sumOf_15 : decode cX5_sumOf 15 = .ok (.ishr, 1) := by decide +kernel
theorem dX5_sumOf_16 : decode cX5_sumOf 16 = .ok (.iconst 1, 1) := by decide +kernel
theorem dX5_sumOf_17 : decode cX5_sumOf 17 = .ok (.iand, 1) := by decide +kernel
theorem dX5_sumOf_18 : decode cX5_sumOf 18 = .ok (.iconst 1, 1) := by decide +kernel
theorem dX5_sumOf_19 : decode cX5_sumOf 19 = .ok (.if_icmp .ne 13, 3) := by decide +kernel
theorem dX5_sumOf_22 : decode cX5_sumOf 22 = .ok (.iload_n 3, 1) := by decide +kernel
theorem dX5_sumOf_23 : decode cX5_sumOf 23 = .ok (.aload_n 0, 1) := by decide +kernel
theorem dX5_sumOf_24 : decode cX5_sumOf 24 = .ok (.iload 4, 2) := by decide +kernel
theorem dX5_sumOf_26 : decode cX5_sumOf 26 = .ok (.iload_n 2, 1) := by decide +kernel
theorem dX5_sumOf_27 : decode cX5_sumOf 27 = .ok (.invokevirtual 24, 3) := by decide +kernel
theorem dX5_sumOf_30 : decode cX5_sumOf 30 = .ok (.iadd, 1) := by decide +kernel
theorem dX5_sumOf_31 : decode cX5_sumOf 31 = .ok (.istore_n 3, 1) := by decide +kernel
theorem dX5_sumOf_32 : decode cX5_sumOf 32 = .ok (.iinc 4 1, 3) := by decide +kernel
theorem dX5_sumOf_35 : decode cX5_sumOf 35 = .ok (.goto (-30), 3) := by decide +kernel
theorem dX5_sumOf_38 : decode cX5_sumOf 38 = .ok (.iload_n 3, 1) := by decide +kernel
theorem dX5_sumOf_39 : decode cX5_sumOf 39 = .ok (.ireturn, 1) := by decide +kernel
theorem dX5_marksOf_0 : decode cX5_marksOf 0 = .ok (.iconst 0, 1) := by decide +kernel
theorem dX5_marksOf_1 : decode cX5_marksOf 1 = .ok (.istore_n 2, 1) := by decide +kernel
theorem dX5_marksOf_2 : decode cX5_marksOf 2 = .ok (.iconst 0, 1) := by decide +kernel
theorem dX5_marksOf_3 : decode cX5_marksOf 3 = .ok (.istore_n 3, 1) := by decide +kernel
theorem dX5_marksOf_4 : decode cX5_marksOf 4 = .ok (.iload_n 3, 1) := by decide +kernel
theorem dX5_marksOf_5 : decode cX5_marksOf 5 = .ok (.bipush 16, 2) := by decide +kernel
theorem dX5_marksOf_7 : decode cX5_marksOf 7 = .ok (.if_icmp .ge 27, 3) := by decide +kernel
theorem dX5_marksOf_10 : decode cX5_marksOf 10 = .ok (.iload_n 1, 1) := by decide +kernel
theorem dX5_marksOf_11 : decode cX5_marksOf 11 = .ok (.iload_n 3, 1) := by decide +kernel
theorem dX5_marksOf_12 : decode cX5_marksOf 12 = .ok (.ishr, 1) := by decide +kernel
theorem dX5_marksOf_13 : decode cX5_marksOf 13 = .ok (.iconst 1, 1) := by decide +kernel
theorem dX5_marksOf_14 : decode cX5_marksOf 14 = .ok (.iand, 1) := by decide +kernel
theorem dX5_marksOf_15 : decode cX5_marksOf 15 = .ok (.iconst 1, 1) := by decide +kernel
theorem dX5_marksOf_16 : decode cX5_marksOf 16 = .ok (.if_icmp .ne 12, 3) := by decide +kernel
theorem dX5_marksOf_19 : decode cX5_marksOf 19 = .ok (.iload_n 2, 1) := by decide +kernel
theorem dX5_marksOf_20 : decode cX5_marksOf 20 = .ok (.aload_n 0, 1) := by decide +kernel
theorem dX5_marksOf_21 : decode cX5_marksOf 21 = .ok (.iload_n 3, 1) := by decide +kernel
theorem dX5_marksOf_22 : decode cX5_marksOf 22 = .ok (.iconst 3, 1) := by decide +kernel
theorem dX5_marksOf_23 : decode cX5_marksOf 23 = .ok (.invokevirtual 24, 3) := by decide +kernel
theorem dX5_marksOf_26 : decode cX5_marksOf 26 = .ok (.ior, 1) := by decide +kernel
theorem dX5_marksOf_27 : decode cX5_marksOf 27 = .ok (.istore_n 2, 1) := by decide +kernel
theorem dX5_marksOf_28 : decode cX5_marksOf 28 = .ok (.iinc 3 1, 3) := by decide +kernel
theorem dX5_marksOf_31 : decode cX5_marksOf 31 = .ok (.goto (-27), 3) := by decide +kernel
theorem dX5_marksOf_34 : decode cX5_marksOf 34 = .ok (.iload_n 2, 1) := by decide +kernel
theorem dX5_marksOf_35 : decode cX5_marksOf 35 = .ok (.ireturn, 1) := by decide +kernel
theorem dX5_keep_0 : decode cX5_keep 0 = .ok (.aload_n 0, 1) := by decide +kernel
theorem dX5_keep_1 : decode cX5_keep 1 = .ok (.getfield 11, 3) := by decide +kernel
theorem dX5_keep_4 : decode cX5_keep 4 = .ok (.iconst 0, 1) := by decide +kernel
theorem dX5_keep_5 : decode cX5_keep 5 = .ok (.aload_n 0, 1) := by decide +kernel
theorem dX5_keep_6 : decode cX5_keep 6 = .ok (.getfield 17, 3) := by decide +kernel
theorem dX5_keep_9 : decode cX5_keep 9 = .ok (.iload_n 1, 1) := by decide +kernel
theorem dX5_keep_10 : decode cX5_keep 10 = .ok (.aaload, 1) := by decide +kernel
theorem dX5_keep_11 : decode cX5_keep 11 = .ok (.iconst 0, 1) := by decide +kernel
theorem dX5_keep_12 : decode cX5_keep 12 = .ok (.aload_n 0, 1) := by decide +kernel
theorem dX5_keep_13 : decode cX5_keep 13 = .ok (.getfield 11, 3) := by decide +kernel
theorem dX5_keep_16 : decode cX5_keep 16 = .ok (.arraylength, 1) := by decide +kernel
theorem dX5_keep_17 : decode cX5_keep 17 = .ok (.invokestatic 28, 3) := by decide +kernel
theorem dX5_keep_20 : decode cX5_keep 20 = .ok (.aload_n 0, 1) := by decide +kernel
theorem dX5_keep_21 : decode cX5_keep 21 = .ok (.getfield 20, 3) := by decide +kernel
theorem dX5_keep_24 : decode cX5_keep 24 = .ok (.iload_n 1, 1) := by decide +kernel
theorem dX5_keep_25 : decode cX5_keep 25 = .ok (.iconst 1, 1) := by decide +kernel
theorem dX5_keep_26 : decode cX5_keep 26 = .ok (.bastore, 1) := by decide +kernel
theorem dX5_keep_27 : decode cX5_keep 27 = .ok (.return_, 1) := by decide +kernel
theorem dX5_restore_0 : decode cX5_restore 0 = .ok (.aload_n 0, 1) := by decide +kernel
theorem dX5_restore_1 : decode cX5_restore 1 = .ok (.getfield 17, 3) := by decide +kernel
theorem dX5_restore_4 : decode cX5_restore 4 = .ok (.iload_n 1, 1) := by decide +kernel
theorem dX5_restore_5 : decode cX5_restore 5 = .ok (.aaload, 1) := by decide +kernel
theorem dX5_restore_6 : decode cX5_restore 6 = .ok (.iconst 0, 1) := by decide +kernel
theorem dX5_restore_7 : decode cX5_restore 7 = .ok (.aload_n 0, 1) := by decide +kernel
theorem dX5_restore_8 : decode cX5_restore 8 = .ok (.getfield 11, 3) := by decide +kernel
theorem dX5_restore_11 : decode cX5_restore 11 = .ok (.iconst 0, 1) := by decide +kernel
theorem dX5_restore_12 : decode cX5_restore 12 = .ok (.aload_n 0, 1) := by decide +kernel
theorem dX5_restore_13 : decode cX5_restore 13 = .ok (.getfield 11, 3) := by decide +kernel
theorem dX5_restore_16 : decode cX5_restore 16 = .ok (.arraylength, 1) := by decide +kernel
theorem dX5_restore_17 : decode cX5_restore 17 = .ok (.invokestatic 28, 3) := by decide +kernel
theorem dX5_restore_20 : decode cX5_restore 20 = .ok (.return_, 1) := by decide +kernel
theorem dX5_changed_0 : decode cX5_changed 0 = .ok (.iconst 0, 1) := by decide +kernel
theorem dX5_changed_1 : decode cX5_changed 1 = .ok (.istore_n 2, 1) := by decide +kernel
theorem dX5_changed_2 : decode cX5_changed 2 = .ok (.iconst 0, 1) := by decide +kernel
theorem dX5_changed_3 : decode cX5_changed 3 = .ok (.istore_n 3, 1) := by decide +kernel
theorem dX5_changed_4 : decode cX5_changed 4 = .ok (.iload_n 3, 1) := by decide +kernel
theorem dX5_changed_5 : decode cX5_changed 5 = .ok (.aload_n 0, 1) := by decide +kernel
theorem dX5_changed_6 : decode cX5_changed 6 = .ok (.getfield 11, 3) := by decide +kernel
theorem dX5_changed_9 : decode cX5_changed 9 = .ok (.arraylength, 1) := by decide +kernel
theorem dX5_changed_10 : decode cX5_changed 10 = .ok (.if_icmp .ge 34, 3) := by decide +kernel
theorem dX5_changed_13 : decode cX5_changed 13 = .ok (.aload_n 0, 1) := by decide +kernel
theorem dX5_changed_14 : decode cX5_changed 14 = .ok (.getfield 11, 3) := by decide +kernel
theorem dX5_changed_17 : decode cX5_changed 17 = .ok (.iload_n 3, 1) := by decide +kernel
theorem dX5_changed_18 : decode cX5_changed 18 = .ok (.iaload, 1) := by decide +kernel
theorem dX5_changed_19 : decode cX5_changed 19 = .ok (.aload_n 0, 1) := by decide +kernel
theorem dX5_changed_20 : decode cX5_changed 20 = .ok (.getfield 17, 3) := by decide +kernel
theorem dX5_changed_23 : decode cX5_changed 23 = .ok (.iload_n 1, 1) := by decide +kernel
theorem dX5_changed_24 : decode cX5_changed 24 = .ok (.aaload, 1) := by decide +kernel
theorem dX5_changed_25 : decode cX5_changed 25 = .ok (.iload_n 3, 1) := by decide +kernel
theorem dX5_changed_26 : decode cX5_changed 26 = .ok (.iaload, 1) := by decide +kernel
theorem dX5_changed_27 : decode cX5_changed 27 = .ok (.if_icmp .eq 11, 3) := by decide +kernel
theorem dX5_changed_30 : decode cX5_changed 30 = .ok (.iload_n 2, 1) := by decide +kernel
theorem dX5_changed_31 : decode cX5_changed 31 = .ok (.iconst 1, 1) := by decide +kernel
theorem dX5_changed_32 : decode cX5_changed 32 = .ok (.iload_n 3, 1) := by decide +kernel
theorem dX5_changed_33 : decode cX5_changed 33 = .ok (.iconst 5, 1) := by decide +kernel
theorem dX5_changed_34 : decode cX5_changed 34 = .ok (.idiv, 1) := by decide +kernel
theorem dX5_changed_35 : decode cX5_changed 35 = .ok (.ishl, 1) := by decide +kernel
theorem dX5_changed_36 : decode cX5_changed 36 = .ok (.ior, 1) := by decide +kernel
theorem dX5_changed_37 : decode cX5_changed 37 = .ok (.istore_n 2, 1) := by decide +kernel
theorem dX5_changed_38 : decode cX5_changed 38 = .ok (.iinc 3 1, 3) := by decide +kernel
theorem dX5_changed_41 : decode cX5_changed 41 = .ok (.goto (-37), 3) := by decide +kernel
theorem dX5_changed_44 : decode cX5_changed 44 = .ok (.iload_n 2, 1) := by decide +kernel
theorem dX5_changed_45 : decode cX5_changed 45 = .ok (.ireturn, 1) := by decide +kernel
theorem dX5_mixInto_0 : decode cX5_mixInto 0 = .ok (.iconst 0, 1) := by decide +kernel
theorem dX5_mixInto_1 : decode cX5_mixInto 1 = .ok (.istore_n 3, 1) := by decide +kernel
theorem dX5_mixInto_2 : decode cX5_mixInto 2 = .ok (.iload_n 3, 1) := by decide +kernel
theorem dX5_mixInto_3 : decode cX5_mixInto 3 = .ok (.aload_n 0, 1) := by decide +kernel
theorem dX5_mixInto_4 : decode cX5_mixInto 4 = .ok (.getfield 11, 3) := by decide +kernel
theorem dX5_mixInto_7 : decode cX5_mixInto 7 = .ok (.arraylength, 1) := by decide +kernel
theorem dX5_mixInto_8 : decode cX5_mixInto 8 = .ok (.if_icmp .ge 23, 3) := by decide +kernel
theorem dX5_mixInto_11 : decode cX5_mixInto 11 = .ok (.ldc2_w 34, 3) := by decide +kernel
theorem dX5_mixInto_14 : decode cX5_mixInto 14 = .ok (.lload_n 1, 1) := by decide +kernel
theorem dX5_mixInto_15 : decode cX5_mixInto 15 = .ok (.lmul, 1) := by decide +kernel
theorem dX5_mixInto_16 : decode cX5_mixInto 16 = .ok (.aload_n 0, 1) := by decide +kernel
theorem dX5_mixInto_17 : decode cX5_mixInto 17 = .ok (.getfield 11, 3) := by decide +kernel
theorem dX5_mixInto_20 : decode cX5_mixInto 20 = .ok (.iload_n 3, 1) := by decide +kernel
theorem dX5_mixInto_21 : decode cX5_mixInto 21 = .ok (.iaload, 1) := by decide +kernel
theorem dX5_mixInto_22 : decode cX5_mixInto 22 = .ok (.i2l, 1) := by decide +kernel
theorem dX5_mixInto_23 : decode cX5_mixInto 23 = .ok (.ladd, 1) := by decide +kernel
theorem dX5_mixInto_24 : decode cX5_mixInto 24 = .ok (.lstore_n 1, 1) := by decide +kernel
theorem dX5_mixInto_25 : decode cX5_mixInto 25 = .ok (.iinc 3 1, 3) := by decide +kernel
theorem dX5_mixInto_28 : decode cX5_mixInto 28 = .ok (.goto (-26), 3) := by decide +kernel
theorem dX5_mixInto_31 : decode cX5_mixInto 31 = .ok (.lload_n 1, 1) := by decide +kernel
theorem dX5_mixInto_32 : decode cX5_mixInto 32 = .ok (.lreturn, 1) := by decide +kernel
theorem dX6_append_0 : decode cX6_append 0 = .ok (.aload_n 0, 1) := by decide +kernel
theorem dX6_append_1 : decode cX6_append 1 = .ok (.getfield 15, 3) := by decide +kernel
theorem dX6_append_4 : decode cX6_append 4 = .ok (.bipush 80, 2) := by decide +kernel
theorem dX6_append_6 : decode cX6_append 6 = .ok (.if_icmp .lt 5, 3) := by decide +kernel
theorem dX6_append_9 : decode cX6_append 9 = .ok (.iconst 0, 1) := by decide +kernel
theorem dX6_append_10 : decode cX6_append 10 = .ok (.ireturn, 1) := by decide +kernel
theorem dX6_append_11 : decode cX6_append 11 = .ok (.aload_n 0, 1) := by decide +kernel
theorem dX6_append_12 : decode cX6_append 12 = .ok (.getfield 11, 3) := by decide +kernel
theorem dX6_append_15 : decode cX6_append 15 = .ok (.aload_n 0, 1) := by decide +kernel
theorem dX6_append_16 : decode cX6_append 16 = .ok (.getfield 15, 3) := by decide +kernel
theorem dX6_append_19 : decode cX6_append 19 = .ok (.iload_n 1, 1) := by decide +kernel
theorem dX6_append_20 : decode cX6_append 20 = .ok (.iastore, 1) := by decide +kernel
theorem dX6_append_21 : decode cX6_append 21 = .ok (.aload_n 0, 1) := by decide +kernel
theorem dX6_append_22 : decode cX6_append 22 = .ok (.dup, 1) := by decide +kernel
theorem dX6_append_23 : decode cX6_append 23 = .ok (.getfield 15, 3) := by decide +kernel
theorem dX6_append_26 : decode cX6_append 26 = .ok (.iconst 1, 1) := by decide +kernel
theorem dX6_append_27 : decode cX6_append 27 = .ok (.iadd, 1) := by decide +kernel
theorem dX6_append_28 : decode cX6_append 28 = .ok (.putfield 15, 3) := by decide +kernel
theorem dX6_append_31 : decode cX6_append 31 = .ok (.iconst 1, 1) := by decide +kernel
theorem dX6_append_32 : decode cX6_append 32 = .ok (.ireturn, 1) := by decide +kernel
theorem dX6_forget_0 : decode cX6_forget 0 = .ok (.aload_n 0, 1) := by decide +kernel
theorem dX6_forget_1 : decode cX6_forget 1 = .ok (.getfield 19, 3) := by decide +kernel
theorem dX6_forget_4 : decode cX6_forget 4 = .ok (.iconst (-1), 1) := by decide +kernel
theorem dX6_forget_5 : decode cX6_forget 5 = .ok (.invokestatic 58, 3) := by decide +kernel
theorem dX6_forget_8 : decode cX6_forget 8 = .ok (.aload_n 0, 1) := by decide +kernel
theorem dX6_forget_9 : decode cX6_forget 9 = .ok (.iconst 0, 1) := by decide +kernel
theorem dX6_forget_10 : decode cX6_forget 10 = .ok (.iconst 0, 1) := by decide +kernel
theorem dX6_forget_11 : decode cX6_forget 11 = .ok (.invokevirtual 64, 3) := by decide +kernel
theorem dX6_forget_14 : decode cX6_forget 14 = .ok (.return_, 1) := by decide +kernel
theorem dX6_shrinkTo_0 : decode cX6_shrinkTo 0 = .ok (.aload_n 0, 1) := by decide +kernel
theorem dX6_shrinkTo_1 : decode cX6_shrinkTo 1 = .ok (.iload_n 1, 1) := by decide +kernel
theorem dX6_shrinkTo_2 : decode cX6_shrinkTo 2 = .ok (.putfield 40, 3) := by decide +kernel
theorem dX6_shrinkTo_5 : decode cX6_shrinkTo 5 = .ok (.aload_n 0, 1) := by decide +kernel
theorem dX6_shrinkTo_6 : decode cX6_shrinkTo 6 = .ok (.iload_n 2, 1) := by decide +kernel
theorem dX6_shrinkTo_7 : decode cX6_shrinkTo 7 = .ok (.putfield 43, 3) := by decide +kernel
theorem dX6_shrinkTo_10 : decode cX6_shrinkTo 10 = .ok (.return_, 1) := by decide +kernel
theorem dX6_standing_0 : decode cX6_standing 0 = .ok (.iconst 0, 1) := by decide +kernel
theorem dX6_standing_1 : decode cX6_standing 1 = .ok (.istore_n 1, 1) := by decide +kernel
theorem dX6_standing_2 : decode cX6_standing 2 = .ok (.iconst 0, 1) := by decide +kernel
theorem dX6_standing_3 : decode cX6_standing 3 = .ok (.istore_n 2, 1) := by decide +kernel
theorem dX6_standing_4 : decode cX6_standing 4 = .ok (.iload_n 2, 1) := by decide +kernel
theorem dX6_standing_5 : decode cX6_standing 5 = .ok (.bipush 9, 2) := by decide +kernel
theorem dX6_standing_7 : decode cX6_standing 7 = .ok (.if_icmp .gt 21, 3) := by decide +kernel
theorem dX6_standing_10 : decode cX6_standing 10 = .ok (.aload_n 0, 1) := by decide +kernel
theorem dX6_standing_11 : decode cX6_standing 11 = .ok (.getfield 19, 3) := by decide +kernel
theorem dX6_standing_14 : decode cX6_standing 14 = .ok (.iload_n 2, 1) := by decide +kernel
theorem dX6_standing_15 : decode cX6_standing 15 = .ok (.iaload, 1) := by decide +kernel
theorem dX6_standing_16 : decode cX6_standing 16 = .ok (.ifCond .lt 6, 3) := by decide +kernel
theorem dX6_standing_19 : decode cX6_standing 19 = .ok (.iinc 1 1, 3) := by decide +kernel
theorem dX6_standing_22 : decode cX6_standing 22 = .ok (.iinc 2 1, 3) := by decide +kernel
theorem dX6_standing_25 : decode cX6_standing 25 = .ok (.goto (-21), 3) := by decide +kernel
theorem dX6_standing_28 : decode cX6_standing 28 = .ok (.iload_n 1, 1) := by decide +kernel
theorem dX6_standing_29 : decode cX6_standing 29 = .ok (.ireturn, 1) := by decide +kernel
theorem dX6_partOf_0 : decode cX6_partOf 0 = .ok (.aload_n 0, 1) := by decide +kernel
theorem dX6_partOf_1 : decode cX6_partOf 1 = .ok (.getfield 37, 3) := by decide +kernel
theorem dX6_partOf_4 : decode cX6_partOf 4 = .ok (.aload_n 0, 1) := by decide +kernel
theorem dX6_partOf_5 : decode cX6_partOf 5 = .ok (.getfield 31, 3) := by decide +kernel
theorem dX6_partOf_8 : decode cX6_partOf 8 = .ok (.iload_n 1, 1) := by decide +kernel
theorem dX6_partOf_9 : decode cX6_partOf 9 = .ok (.iaload, 1) := by decide +kernel
theorem dX6_partOf_10 : decode cX6_partOf 10 = .ok (.iload_n 2, 1) := by decide +kernel
theorem dX6_partOf_11 : decode cX6_partOf 11 = .ok (.iadd, 1) := by decide +kernel
theorem dX6_partOf_12 : decode cX6_partOf 12 = .ok (.iaload, 1) := by decide +kernel
theorem dX6_partOf_13 : decode cX6_partOf 13 = .ok (.ireturn, 1) := by decide +kernel
theorem dX6_addLetter_0 : decode cX6_addLetter 0 = .ok (.aload_n 0, 1) := by decide +kernel
theorem dX6_addLetter_1 : decode cX6_addLetter 1 = .ok (.iconst 0, 1) := by decide +kernel
theorem dX6_addLetter_2 : decode cX6_addLetter 2 = .ok (.iload_n 1, 1) := by decide +kernel
theorem dX6_addLetter_3 : decode cX6_addLetter 3 = .ok (.iconst 0, 1) := by decide +kernel
theorem dX6_addLetter_4 : decode cX6_addLetter 4 = .ok (.iconst 1, 1) := by decide +kernel
theorem dX6_addLetter_5 : decode cX6_addLetter 5 = .ok (.iload_n 1, 1) := by decide +kernel
theorem dX6_addLetter_6 : decode cX6_addLetter 6 = .ok (.ishl, 1) := by decide +kernel
theorem dX6_addLetter_7 : decode cX6_addLetter 7 = .ok (.invokevirtual 68, 3) := by decide +kernel
theorem dX6_addLetter_10 : decode cX6_addLetter 10 = .ok (.ireturn, 1) := by decide +kernel
theorem dX6_addRow_0 : decode cX6_addRow 0 = .ok (.aload_n 0, 1) := by decide +kernel
theorem dX6_addRow_1 : decode cX6_addRow 1 = .ok (.getfield 43, 3) := by decide +kernel
theorem dX6_addRow_4 : decode cX6_addRow 4 = .ok (.iload 5, 2) := by decide +kernel
theorem dX6_addRow_6 : decode cX6_addRow 6 = .ok (.iadd, 1) := by decide +kernel
theorem dX6_addRow_7 : decode cX6_addRow 7 = .ok (.aload_n 0, 1) := by decide +kernel
theorem dX6_addRow_8 : decode cX6_addRow 8 = .ok (.getfield 37, 3) := by decide +kernel
theorem dX6_addRow_11 : decode cX6_addRow 11 = .ok (.arraylength, 1) := by decide +kernel
theorem dX6_addRow_12 : decode cX6_addRow 12 = .ok (.if_icmp .le 31, 3) := by decide +kernel
theorem dX6_addRow_15 : decode cX6_addRow 15 = .ok (.aload_n 0, 1) := by decide +kernel
theorem dX6_addRow_16 : decode cX6_addRow 16 = .ok (.aload_n 0, 1) := by decide +kernel
theorem dX6_addRow_17 : decode cX6_addRow 17 = .ok (.getfield 37, 3) := by decide +kernel
theorem dX6_addRow_20 : decode cX6_addRow 20 = .ok (.iconst 2, 1) := by decide +kernel
theorem dX6_addRow_21 : decode cX6_addRow 21 = .ok (.aload_n 0, 1) := by decide +kernel
theorem dX6_addRow_22 : decode cX6_addRow 22 = .ok (.getfield 37, 3) := by decide +kernel
theorem dX6_addRow_25 : decode cX6_addRow 25 = .ok (.arraylength, 1) := by decide +kernel
theorem dX6_addRow_26 : decode cX6_addRow 26 = .ok (.imul, 1) := by decide +kernel
theorem dX6_addRow_27 : decode cX6_addRow 27 = .ok (.aload_n 0, 1) := by decide +kernel
theorem dX6_addRow_28 : decode cX6_addRow 28 = .ok (.getfield 43, 3) := by decide +kernel
theorem dX6_addRow_31 : decode cX6_addRow 31 = .ok (.iload 5, 2) := by decide +kernel
theorem dX6_addRow_33 : decode cX6_addRow 33 = .ok (.iadd, 1) := by decide +kernel
theorem dX6_addRow_34 : decode cX6_addRow 34 = .ok (.invokestatic 72, 3) := by decide +kernel
theorem dX6_addRow_37 : decode cX6_addRow 37 = .ok (.invokestatic 78, 3) := by decide +kernel
theorem dX6_addRow_40 : decode cX6_addRow 40 = .ok (.putfield 37, 3) := by decide +kernel
theorem dX6_addRow_43 : decode cX6_addRow 43 = .ok (.iconst 0, 1) := by decide +kernel
theorem dX6_addRow_44 : decode cX6_addRow 44 = .ok (.istore 6, 2) := by decide +kernel
theorem dX6_addRow_46 : decode cX6_addRow 46 = .ok (.iconst 0, 1) := by decide +kernel
theorem dX6_addRow_47 : decode cX6_addRow 47 = .ok (.istore 7, 2) := by decide +kernel
theorem dX6_addRow_49 : decode cX6_addRow 49 = .ok (.iload 7, 2) := by decide +kernel
theorem dX6_addRow_51 : decode cX6_addRow 51 = .ok (.iload 5, 2) := by decide +kernel
theorem dX6_addRow_53 : decode cX6_addRow 53 = .ok (.if_icmp .ge 44, 3) := by decide +kernel
theorem dX6_addRow_56 : decode cX6_addRow 56 = .ok (.aload_n 3, 1) := by decide +kernel
theorem dX6_addRow_57 : decode cX6_addRow 57 = .ok (.iload 4, 2) := by decide +kernel
theorem dX6_addRow_59 : decode cX6_addRow 59 = .ok (.iload 7, 2) := by decide +kernel
theorem dX6_addRow_61 : decode cX6_addRow 61 = .ok (.iadd, 1) := by decide +kernel
theorem dX6_addRow_62 : decode cX6_addRow 62 = .ok (.iaload, 1) := by decide +kernel
theorem dX6_addRow_63 : decode cX6_addRow 63 = .ok (.istore 8, 2) := by decide +kernel
theorem dX6_addRow_65 : decode cX6_addRow 65 = .ok (.aload_n 0, 1) := by decide +kernel
theorem dX6_addRow_66 : decode cX6_addRow 66 = .ok (.getfield 37, 3) := by decide +kernel
theorem dX6_addRow_69 : decode cX6_addRow 69 = .ok (.aload_n 0, 1) := by decide +kernel
theorem dX6_addRow_70 : decode cX6_addRow 70 = .ok (.getfield 43, 3) := by decide +kernel
theorem dX6_addRow_73 : decode cX6_addRow 73 = .ok (.iload 7, 2) := by decide +kernel
theorem dX6_addRow_75 : decode cX6_addRow 75 = .ok (.iadd, 1) := by decide +kernel
theorem dX6_addRow_76 : decode cX6_addRow 76 = .ok (.iload 8, 2) := by decide +kernel
theorem dX6_addRow_78 : decode cX6_addRow 78 = .ok (.iastore, 1) := by decide +kernel
theorem dX6_addRow_79 : decode cX6_addRow 79 = .ok (.iload 6, 2) := by decide +kernel
theorem dX6_addRow_81 : decode cX6_addRow 81 = .ok (.aload_n 0, 1) := by decide +kernel
theorem dX6_addRow_82 : decode cX6_addRow 82 = .ok (.getfield 34, 3) := by decide +kernel
theorem dX6_addRow_85 : decode cX6_addRow 85 = .ok (.iload 8, 2) := by decide +kernel
theorem dX6_addRow_87 : decode cX6_addRow 87 = .ok (.iaload, 1) := by decide +kernel
theorem dX6_addRow_88 : decode cX6_addRow 88 = .ok (.ior, 1) := by decide +kernel
theorem dX6_addRow_89 : decode cX6_addRow 89 = .ok (.istore 6, 2) := by decide +kernel
theorem dX6_addRow_91 : decode cX6_addRow 91 = .ok (.iinc 7 1, 3) := by decide +kernel
theorem dX6_addRow_94 : decode cX6_addRow 94 = .ok (.goto (-45), 3) := by decide +kernel
theorem dX6_addRow_97 : decode cX6_addRow 97 = .ok (.aload_n 0, 1) := by decide +kernel
theorem dX6_addRow_98 : decode cX6_addRow 98 = .ok (.iload_n 1, 1) := by decide +kernel
theorem dX6_addRow_99 : decode cX6_addRow 99 = .ok (.iload 5, 2) := by decide +kernel
theorem dX6_addRow_101 : decode cX6_addRow 101 = .ok (.iload_n 2, 1) := by decide +kernel
theorem dX6_addRow_102 : decode cX6_addRow 102 = .ok (.iload 6, 2) := by decide +kernel
theorem dX6_addRow_104 : decode cX6_addRow 104 = .ok (.invokevirtual 68, 3) := by decide +kernel
theorem dX6_addRow_107 : decode cX6_addRow 107 = .ok (.istore 7, 2) := by decide +kernel
theorem dX6_addRow_109 : decode cX6_addRow 109 = .ok (.aload_n 0, 1) := by decide +kernel
theorem dX6_addRow_110 : decode cX6_addRow 110 = .ok (.dup, 1) := by decide +kernel
theorem dX6_addRow_111 : decode cX6_addRow 111 = .ok (.getfield 43, 3) := by decide +kernel
theorem dX6_addRow_114 : decode cX6_addRow 114 = .ok (.iload 5, 2) := by decide +kernel
theorem dX6_addRow_116 : decode cX6_addRow 116 = .ok (.iadd, 1) := by decide +kernel
theorem dX6_addRow_117 : decode cX6_addRow 117 = .ok (.putfield 43, 3) := by decide +kernel
theorem dX6_addRow_120 : decode cX6_addRow 120 = .ok (.iload 7, 2) := by decide +kernel
theorem dX6_addRow_122 : decode cX6_addRow 122 = .ok (.ireturn, 1) := by decide +kernel
theorem dX6_addKnot_0 : decode cX6_addKnot 0 = .ok (.aload_n 0, 1) := by decide +kernel
theorem dX6_addKnot_1 : decode cX6_addKnot 1 = .ok (.getfield 40, 3) := by decide +kernel
theorem dX6_addKnot_4 : decode cX6_addKnot 4 = .ok (.sipush 330, 3) := by decide +kernel
theorem dX6_addKnot_7 : decode cX6_addKnot 7 = .ok (.if_icmp .lt 7, 3) := by decide +kernel
theorem dX6_addKnot_10 : decode cX6_addKnot 10 = .ok (.sipush 329, 3) := by decide +kernel
theorem dX6_addKnot_13 : decode cX6_addKnot 13 = .ok (.ireturn, 1) := by decide +kernel
theorem dX6_addKnot_14 : decode cX6_addKnot 14 = .ok (.aload_n 0, 1) := by decide +kernel
theorem dX6_addKnot_15 : decode cX6_addKnot 15 = .ok (.getfield 22, 3) := by decide +kernel
theorem dX6_addKnot_18 : decode cX6_addKnot 18 = .ok (.aload_n 0, 1) := by decide +kernel
theorem dX6_addKnot_19 : decode cX6_addKnot 19 = .ok (.getfield 40, 3) := by decide +kernel
theorem dX6_addKnot_22 : decode cX6_addKnot 22 = .ok (.iload_n 1, 1) := by decide +kernel
theorem dX6_addKnot_23 : decode cX6_addKnot 23 = .ok (.iastore, 1) := by decide +kernel
theorem dX6_addKnot_24 : decode cX6_addKnot 24 = .ok (.aload_n 0, 1) := by decide +kernel
theorem dX6_addKnot_25 : decode cX6_addKnot 25 = .ok (.getfield 25, 3) := by decide +kernel
theorem dX6_addKnot_28 : decode cX6_addKnot 28 = .ok (.aload_n 0, 1) := by decide +kernel
theorem dX6_addKnot_29 : decode cX6_addKnot 29 = .ok (.getfield 40, 3) := by decide +kernel
theorem dX6_addKnot_32 : decode cX6_addKnot 32 = .ok (.iload_n 2, 1) := by decide +kernel
theorem dX6_addKnot_33 : decode cX6_addKnot 33 = .ok (.iastore, 1) := by decide +kernel
theorem dX6_addKnot_34 : decode cX6_addKnot 34 = .ok (.aload_n 0, 1) := by decide +kernel
theorem dX6_addKnot_35 : decode cX6_addKnot 35 = .ok (.getfield 28, 3) := by decide +kernel
theorem dX6_addKnot_38 : decode cX6_addKnot 38 = .ok (.aload_n 0, 1) := by decide +kernel
theorem dX6_addKnot_39 : decode cX6_addKnot 39 = .ok (.getfield 40, 3) := by decide +kernel
theorem dX6_addKnot_42 : decode cX6_addKnot 42 = .ok (.iload_n 3, 1) := by decide +kernel
theorem dX6_addKnot_43 : decode cX6_addKnot 43 = .ok (.iastore, 1) := by decide +kernel
theorem dX6_addKnot_44 : decode cX6_addKnot 44 = .ok (.aload_n 0, 1) := by decide +kernel
theorem dX6_addKnot_45 : decode cX6_addKnot 45 = .ok (.getfield 31, 3) := by decide +kernel
theorem dX6_addKnot_48 : decode cX6_addKnot 48 = .ok (.aload_n 0, 1) := by decide +kernel
theorem dX6_addKnot_49 : decode cX6_addKnot 49 = .ok (.getfield 40, 3) := by decide +kernel
theorem dX6_addKnot_52 : decode cX6_addKnot 52 = .ok (.aload_n 0, 1) := by decide +kernel
theorem dX6_addKnot_53 : decode cX6_addKnot 53 = .ok (.getfield 43, 3) := by decide +kernel
theorem dX6_addKnot_56 : decode cX6_addKnot 56 = .ok (.iastore, 1) := by decide +kernel
theorem dX6_addKnot_57 : decode cX6_addKnot 57 = .ok (.aload_n 0, 1) := by decide +kernel
theorem dX6_addKnot_58 : decode cX6_addKnot 58 = .ok (.getfield 34, 3) := by decide +kernel
theorem dX6_addKnot_61 : decode cX6_addKnot 61 = .ok (.aload_n 0, 1) := by decide +kernel
theorem dX6_addKnot_62 : decode cX6_addKnot 62 = .ok (.getfield 40, 3) := by decide +kernel
theorem dX6_addKnot_65 : decode cX6_addKnot 65 = .ok (.iload 4, 2) := by decide +kernel
theorem dX6_addKnot_67 : decode cX6_addKnot 67 = .ok (.iastore, 1) := by decide +kernel
theorem dX6_addKnot_68 : decode cX6_addKnot 68 = .ok (.aload_n 0, 1) := by decide +kernel
theorem dX6_addKnot_69 : decode cX6_addKnot 69 = .ok (.dup, 1) := by decide +kernel
theorem dX6_addKnot_70 : decode cX6_addKnot 70 = .ok (.getfield 40, 3) := by decide +kernel
theorem dX6_addKnot_73 : decode cX6_addKnot 73 = .ok (.iconst 1, 1) := by decide +kernel
theorem dX6_addKnot_74 : decode cX6_addKnot 74 = .ok (.iadd, 1) := by decide +kernel
theorem dX6_addKnot_75 : decode cX6_addKnot 75 = .ok (.putfield 40, 3) := by decide +kernel
theorem dX6_addKnot_78 : decode cX6_addKnot 78 = .ok (.aload_n 0, 1) := by decide +kernel
theorem dX6_addKnot_79 : decode cX6_addKnot 79 = .ok (.getfield 40, 3) := by decide +kernel
theorem dX6_addKnot_82 : decode cX6_addKnot 82 = .ok (.iconst 1, 1) := by decide +kernel
theorem dX6_addKnot_83 : decode cX6_addKnot 83 = .ok (.isub, 1) := by decide +kernel
theorem dX6_addKnot_84 : decode cX6_addKnot 84 = .ok (.ireturn, 1) := by decide +kernel
theorem dX6_enough_0 : decode cX6_enough 0 = .ok (.aload_n 0, 1) := by decide +kernel
theorem dX6_enough_1 : decode cX6_enough 1 = .ok (.getfield 22, 3) := by decide +kernel
theorem dX6_enough_4 : decode cX6_enough 4 = .ok (.iload_n 1, 1) := by decide +kernel
theorem dX6_enough_5 : decode cX6_enough 5 = .ok (.iaload, 1) := by decide +kernel
theorem dX6_enough_6 : decode cX6_enough 6 = .ok (.iconst 1, 1) := by decide +kernel
theorem dX6_enough_7 : decode cX6_enough 7 = .ok (.if_icmp .ne 5, 3) := by decide +kernel
theorem dX6_enough_10 : decode cX6_enough 10 = .ok (.iconst 1, 1) := by decide +kernel
theorem dX6_enough_11 : decode cX6_enough 11 = .ok (.ireturn, 1) := by decide +kernel
theorem dX6_enough_12 : decode cX6_enough 12 = .ok (.aload_n 0, 1) := by decide +kernel
theorem dX6_enough_13 : decode cX6_enough 13 = .ok (.getfield 22, 3) := by decide +kernel
theorem dX6_enough_16 : decode cX6_enough 16 = .ok (.iload_n 1, 1) := by decide +kernel
theorem dX6_enough_17 : decode cX6_enough 17 = .ok (.iaload, 1) := by decide +kernel
theorem dX6_enough_18 : decode cX6_enough 18 = .ok (.iconst 4, 1) := by decide +kernel
theorem dX6_enough_19 : decode cX6_enough 19 = .ok (.if_icmp .ne 12, 3) := by decide +kernel
theorem dX6_enough_22 : decode cX6_enough 22 = .ok (.aload_n 0, 1) := by decide +kernel
theorem dX6_enough_23 : decode cX6_enough 23 = .ok (.getfield 28, 3) := by decide +kernel
theorem dX6_enough_26 : decode cX6_enough 26 = .ok (.iload_n 1, 1) := by decide +kernel
theorem dX6_enough_27 : decode cX6_enough 27 = .ok (.iaload, 1) := by decide +kernel
theorem dX6_enough_28 : decode cX6_enough 28 = .ok (.goto 9, 3) := by decide +kernel
theorem dX6_enough_31 : decode cX6_enough 31 = .ok (.aload_n 0, 1) := by decide +kernel
theorem dX6_enough_32 : decode cX6_enough 32 = .ok (.getfield 25, 3) := by decide +kernel
theorem dX6_enough_35 : decode cX6_enough 35 = .ok (.iload_n 1, 1) := by decide +kernel
theorem dX6_enough_36 : decode cX6_enough 36 = .ok (.iaload, 1) := by decide +kernel
theorem dX6_enough_37 : decode cX6_enough 37 = .ok (.ireturn, 1) := by decide +kernel
theorem dX6_isReachedBy_0 : decode cX6_isReachedBy 0 = .ok (.iconst 0, 1) := by decide +kernel
theorem dX6_isReachedBy_1 : decode cX6_isReachedBy 1 = .ok (.istore_n 3, 1) := by decide +kernel
theorem dX6_isReachedBy_2 : decode cX6_isReachedBy 2 = .ok (.iload_n 3, 1) := by decide +kernel
theorem dX6_isReachedBy_3 : decode cX6_isReachedBy 3 = .ok (.iload_n 1, 1) := by decide +kernel
theorem dX6_isReachedBy_4 : decode cX6_isReachedBy 4 = .ok (.if_icmp .gt 21, 3) := by decide +kernel
theorem dX6_isReachedBy_7 : decode cX6_isReachedBy 7 = .ok (.aload_n 0, 1) := by decide +kernel
theorem dX6_isReachedBy_8 : decode cX6_isReachedBy 8 = .ok (.getfield 46, 3) := by decide +kernel
theorem dX6_isReachedBy_11 : decode cX6_isReachedBy 11 = .ok (.iload_n 3, 1) := by decide +kernel
theorem dX6_isReachedBy_12 : decode cX6_isReachedBy 12 = .ok (.aload_n 0, 1) := by decide +kernel
theorem dX6_isReachedBy_13 : decode cX6_isReachedBy 13 = .ok (.iload_n 3, 1) := by decide +kernel
theorem dX6_isReachedBy_14 : decode cX6_isReachedBy 14 = .ok (.iload_n 2, 1) := by decide +kernel
theorem dX6_isReachedBy_15 : decode cX6_isReachedBy 15 = .ok (.invokevirtual 82, 3) := by decide +kernel
theorem dX6_isReachedBy_18 : decode cX6_isReachedBy 18 = .ok (.bastore, 1) := by decide +kernel
theorem dX6_isReachedBy_19 : decode cX6_isReachedBy 19 = .ok (.iinc 3 1, 3) := by decide +kernel
theorem dX6_isReachedBy_22 : decode cX6_isReachedBy 22 = .ok (.goto (-20), 3) := by decide +kernel
theorem dX6_isReachedBy_25 : decode cX6_isReachedBy 25 = .ok (.aload_n 0, 1) := by decide +kernel
theorem dX6_isReachedBy_26 : decode cX6_isReachedBy 26 = .ok (.getfield 46, 3) := by decide +kernel
theorem dX6_isReachedBy_29 : decode cX6_isReachedBy 29 = .ok (.iload_n 1, 1) := by decide +kernel
theorem dX6_isReachedBy_30 : decode cX6_isReachedBy 30 = .ok (.baload, 1) := by decide +kernel
theorem dX6_isReachedBy_31 : decode cX6_isReachedBy 31 = .ok (.ireturn, 1) := by decide +kernel
theorem dX6_knotIsOn_0 : decode cX6_knotIsOn 0 = .ok (.aload_n 0, 1) := by decide +kernel
theorem dX6_knotIsOn_1 : decode cX6_knotIsOn 1 = .ok (.getfield 22, 3) := by decide +kernel
theorem dX6_knotIsOn_4 : decode cX6_knotIsOn 4 = .ok (.iload_n 1, 1) := by decide +kernel
theorem dX6_knotIsOn_5 : decode cX6_knotIsOn 5 = .ok (.iaload, 1) := by decide +kernel
theorem dX6_knotIsOn_6 : decode cX6_knotIsOn 6 = .ok (.ifCond .ne 23, 3) := by decide +kernel
theorem dX6_knotIsOn_9 : decode cX6_knotIsOn 9 = .ok (.iload_n 2, 1) := by decide +kernel
theorem dX6_knotIsOn_10 : decode cX6_knotIsOn 10 = .ok (.aload_n 0, 1) := by decide +kernel
theorem dX6_knotIsOn_11 : decode cX6_knotIsOn 11 = .ok (.getfield 25, 3) := by decide +kernel
theorem dX6_knotIsOn_14 : decode cX6_knotIsOn 14 = .ok (.iload_n 1, 1) := by decide +kernel
theorem dX6_knotIsOn_15 : decode cX6_knotIsOn 15 = .ok (.iaload, 1) := by decide +kernel
theorem dX6_knotIsOn_16 : decode cX6_knotIsOn 16 = .ok (.ishr, 1) := by decide +kernel
theorem dX6_knotIsOn_17 : decode cX6_knotIsOn 17 = .ok (.iconst 1, 1) := by decide +kernel
theorem dX6_knotIsOn_18 : decode cX6_knotIsOn 18 = .ok (.iand, 1) := by decide +kernel
theorem dX6_knotIsOn_19 : decode cX6_knotIsOn 19 = .ok (.iconst 1, 1) := by decide +kernel
theorem dX6_knotIsOn_20 : decode cX6_knotIsOn 20 = .ok (.if_icmp .ne 7, 3) := by decide +kernel
theorem dX6_knotIsOn_23 : decode cX6_knotIsOn 23 = .ok (.iconst 1, 1) := by decide +kernel
theorem dX6_knotIsOn_24 : decode cX6_knotIsOn 24 = .ok (.goto 4, 3) := by decide +kernel
theorem dX6_knotIsOn_27 : decode cX6_knotIsOn 27 = .ok (.iconst 0, 1) := by decide +kernel
theorem dX6_knotIsOn_28 : decode cX6_knotIsOn 28 = .ok (.ireturn, 1) := by decide +kernel
theorem dX6_knotIsOn_29 : decode cX6_knotIsOn 29 = .ok (.iconst 0, 1) := by decide +kernel
theorem dX6_knotIsOn_30 : decode cX6_knotIsOn 30 = .ok (.istore_n 3, 1) := by decide +kernel
theorem dX6_knotIsOn_31 : decode cX6_knotIsOn 31 = .ok (.iconst 0, 1) := by decide +kernel
theorem dX6_knotIsOn_32 : decode cX6_knotIsOn 32 = .ok (.istore 4, 2) := by decide +kernel
theorem dX6_knotIsOn_34 : decode cX6_knotIsOn 34 = .ok (.iload 4, 2) := by decide +kernel
theorem dX6_knotIsOn_36 : decode cX6_knotIsOn 36 = .ok (.aload_n 0, 1) := by decide +kernel
theorem dX6_knotIsOn_37 : decode cX6_knotIsOn 37 = .ok (.getfield 25, 3) := by decide +kernel
theorem dX6_knotIsOn_40 : decode cX6_knotIsOn 40 = .ok (.iload_n 1, 1) := by decide +kernel
theorem dX6_knotIsOn_41 : decode cX6_knotIsOn 41 = .ok (.iaload, 1) := by decide +kernel
theorem dX6_knotIsOn_42 : decode cX6_knotIsOn 42 = .ok (.if_icmp .ge 27, 3) := by decide +kernel
theorem dX6_knotIsOn_45 : decode cX6_knotIsOn 45 = .ok (.aload_n 0, 1) := by decide +kernel
theorem dX6_knotIsOn_46 : decode cX6_knotIsOn 46 = .ok (.getfield 46, 3) := by decide +kernel
theorem dX6_knotIsOn_49 : decode cX6_knotIsOn 49 = .ok (.aload_n 0, 1) := by decide +kernel
theorem dX6_knotIsOn_50 : decode cX6_knotIsOn 50 = .ok (.iload_n 1, 1) := by decide +kernel
theorem dX6_knotIsOn_51 : decode cX6_knotIsOn 51 = .ok (.iload 4, 2) := by decide +kernel
theorem dX6_knotIsOn_53 : decode cX6_knotIsOn 53 = .ok (.invokevirtual 86, 3) := by decide +kernel
theorem dX6_knotIsOn_56 : decode cX6_knotIsOn 56 = .ok (.baload, 1) := by decide +kernel
theorem dX6_knotIsOn_57 : decode cX6_knotIsOn 57 = .ok (.ifCond .eq 6, 3) := by decide +kernel
theorem dX6_knotIsOn_60 : decode cX6_knotIsOn 60 = .ok (.iinc 3 1, 3) := by decide +kernel
theorem dX6_knotIsOn_63 : decode cX6_knotIsOn 63 = .ok (.iinc 4 1, 3) := by decide +kernel
theorem dX6_knotIsOn_66 : decode cX6_knotIsOn 66 = .ok (.goto (-32), 3) := by decide +kernel
theorem dX6_knotIsOn_69 : decode cX6_knotIsOn 69 = .ok (.iload_n 3, 1) := by decide +kernel
theorem dX6_knotIsOn_70 : decode cX6_knotIsOn 70 = .ok (.aload_n 0, 1) := by decide +kernel
theorem dX6_knotIsOn_71 : decode cX6_knotIsOn 71 = .ok (.iload_n 1, 1) := by decide +kernel
theorem dX6_knotIsOn_72 : decode cX6_knotIsOn 72 = .ok (.invokevirtual 89, 3) := by decide +kernel
theorem dX6_knotIsOn_75 : decode cX6_knotIsOn 75 = .ok (.if_icmp .lt 7, 3) := by decide +kernel
theorem dX6_knotIsOn_78 : decode cX6_knotIsOn 78 = .ok (.iconst 1, 1) := by decide +kernel
theorem dX6_knotIsOn_79 : decode cX6_knotIsOn 79 = .ok (.goto 4, 3) := by decide +kernel
theorem dX6_knotIsOn_82 : decode cX6_knotIsOn 82 = .ok (.iconst 0, 1) := by decide +kernel
theorem dX6_knotIsOn_83 : decode cX6_knotIsOn 83 = .ok (.ireturn, 1) := by decide +kernel
theorem dX6_timeByMany_0 : decode cX6_timeByMany 0 = .ok (.iconst 0, 1) := by decide +kernel
theorem dX6_timeByMany_1 : decode cX6_timeByMany 1 = .ok (.istore_n 3, 1) := by decide +kernel
theorem dX6_timeByMany_2 : decode cX6_timeByMany 2 = .ok (.iload_n 3, 1) := by decide +kernel
theorem dX6_timeByMany_3 : decode cX6_timeByMany 3 = .ok (.iload_n 1, 1) := by decide +kernel
theorem dX6_timeByMany_4 : decode cX6_timeByMany 4 = .ok (.if_icmp .gt 43, 3) := by decide +kernel
theorem dX6_timeByMany_7 : decode cX6_timeByMany 7 = .ok (.aload_n 0, 1) := by decide +kernel
theorem dX6_timeByMany_8 : decode cX6_timeByMany 8 = .ok (.getfield 50, 3) := by decide +kernel
theorem dX6_timeByMany_11 : decode cX6_timeByMany 11 = .ok (.iload_n 3, 1) := by decide +kernel
theorem dX6_timeByMany_12 : decode cX6_timeByMany 12 = .ok (.aload_n 0, 1) := by decide +kernel
theorem dX6_timeByMany_13 : decode cX6_timeByMany 13 = .ok (.getfield 22, 3) := by decide +kernel
theorem dX6_timeByMany_16 : decode cX6_timeByMany 16 = .ok (.iload_n 3, 1) := by decide +kernel
theorem dX6_timeByMany_17 : decode cX6_timeByMany 17 = .ok (.iaload, 1) := by decide +kernel
theorem dX6_timeByMany_18 : decode cX6_timeByMany 18 = .ok (.ifCond .ne 17, 3) := by decide +kernel
theorem dX6_timeByMany_21 : decode cX6_timeByMany 21 = .ok (.aload_n 2, 1) := by decide +kernel
theorem dX6_timeByMany_22 : decode cX6_timeByMany 22 = .ok (.aload_n 0, 1) := by decide +kernel
theorem dX6_timeByMany_23 : decode cX6_timeByMany 23 = .ok (.getfield 25, 3) := by decide +kernel
theorem dX6_timeByMany_26 : decode cX6_timeByMany 26 = .ok (.iload_n 3, 1) := by decide +kernel
theorem dX6_timeByMany_27 : decode cX6_timeByMany 27 = .ok (.iaload, 1) := by decide +kernel
theorem dX6_timeByMany_28 : decode cX6_timeByMany 28 = .ok (.iconst 1, 1) := by decide +kernel
theorem dX6_timeByMany_29 : decode cX6_timeByMany 29 = .ok (.invokevirtual 95, 3) := by decide +kernel
theorem dX6_timeByMany_32 : decode cX6_timeByMany 32 = .ok (.goto 8, 3) := by decide +kernel
theorem dX6_timeByMany_35 : decode cX6_timeByMany 35 = .ok (.aload_n 0, 1) := by decide +kernel
theorem dX6_timeByMany_36 : decode cX6_timeByMany 36 = .ok (.iload_n 3, 1) := by decide +kernel
theorem dX6_timeByMany_37 : decode cX6_timeByMany 37 = .ok (.invokevirtual 98, 3) := by decide +kernel
theorem dX6_timeByMany_40 : decode cX6_timeByMany 40 = .ok (.iastore, 1) := by decide +kernel
theorem dX6_timeByMany_41 : decode cX6_timeByMany 41 = .ok (.iinc 3 1, 3) := by decide +kernel
theorem dX6_timeByMany_44 : decode cX6_timeByMany 44 = .ok (.goto (-42), 3) := by decide +kernel
theorem dX6_timeByMany_47 : decode cX6_timeByMany 47 = .ok (.aload_n 0, 1) := by decide +kernel
theorem dX6_timeByMany_48 : decode cX6_timeByMany 48 = .ok (.getfield 50, 3) := by decide +kernel
theorem dX6_timeByMany_51 : decode cX6_timeByMany 51 = .ok (.iload_n 1, 1) := by decide +kernel
theorem dX6_timeByMany_52 : decode cX6_timeByMany 52 = .ok (.iaload, 1) := by decide +kernel
theorem dX6_timeByMany_53 : decode cX6_timeByMany 53 = .ok (.ireturn, 1) := by decide +kernel
theorem dX6_rowTime_0 : decode cX6_rowTime 0 = .ok (.aload_n 0, 1) := by decide +kernel
theorem dX6_rowTime_1 : decode cX6_rowTime 1 = .ok (.getfield 22, 3) := by decide +kernel
theorem dX6_rowTime_4 : decode cX6_rowTime 4 = .ok (.iload_n 1, 1) := by decide +kernel
theorem dX6_rowTime_5 : decode cX6_rowTime 5 = .ok (.iaload, 1) := by decide +kernel
theorem dX6_rowTime_6 : decode cX6_rowTime 6 = .ok (.iconst 4, 1) := by decide +kernel
theorem dX6_rowTime_7 : decode cX6_rowTime 7 = .ok (.if_icmp .ne 9, 3) := by decide +kernel
theorem dX6_rowTime_10 : decode cX6_rowTime 10 = .ok (.aload_n 0, 1) := by decide +kernel
theorem dX6_rowTime_11 : decode cX6_rowTime 11 = .ok (.iload_n 1, 1) := by decide +kernel
theorem dX6_rowTime_12 : decode cX6_rowTime 12 = .ok (.invokevirtual 101, 3) := by decide +kernel
theorem dX6_rowTime_15 : decode cX6_rowTime 15 = .ok (.ireturn, 1) := by decide +kernel
theorem dX6_rowTime_16 : decode cX6_rowTime 16 = .ok (.aload_n 0, 1) := by decide +kernel
theorem dX6_rowTime_17 : decode cX6_rowTime 17 = .ok (.getfield 50, 3) := by decide +kernel
theorem dX6_rowTime_20 : decode cX6_rowTime 20 = .ok (.aload_n 0, 1) := by decide +kernel
theorem dX6_rowTime_21 : decode cX6_rowTime 21 = .ok (.iload_n 1, 1) := by decide +kernel
theorem dX6_rowTime_22 : decode cX6_rowTime 22 = .ok (.iconst 0, 1) := by decide +kernel
theorem dX6_rowTime_23 : decode cX6_rowTime 23 = .ok (.invokevirtual 86, 3) := by decide +kernel
theorem dX6_rowTime_26 : decode cX6_rowTime 26 = .ok (.iaload, 1) := by decide +kernel
theorem dX6_rowTime_27 : decode cX6_rowTime 27 = .ok (.istore_n 2, 1) := by decide +kernel
theorem dX6_rowTime_28 : decode cX6_rowTime 28 = .ok (.iconst 1, 1) := by decide +kernel
theorem dX6_rowTime_29 : decode cX6_rowTime 29 = .ok (.istore_n 3, 1) := by decide +kernel
theorem dX6_rowTime_30 : decode cX6_rowTime 30 = .ok (.iload_n 3, 1) := by decide +kernel
theorem dX6_rowTime_31 : decode cX6_rowTime 31 = .ok (.aload_n 0, 1) := by decide +kernel
theorem dX6_rowTime_32 : decode cX6_rowTime 32 = .ok (.getfield 25, 3) := by decide +kernel
theorem dX6_rowTime_35 : decode cX6_rowTime 35 = .ok (.iload_n 1, 1) := by decide +kernel
theorem dX6_rowTime_36 : decode cX6_rowTime 36 = .ok (.iaload, 1) := by decide +kernel
theorem dX6_rowTime_37 : decode cX6_rowTime 37 = .ok (.if_icmp .ge 66, 3) := by decide +kernel
theorem dX6_rowTime_40 : decode cX6_rowTime 40 = .ok (.aload_n 0, 1) := by decide +kernel
theorem dX6_rowTime_41 : decode cX6_rowTime 41 = .ok (.getfield 50, 3) := by decide +kernel
theorem dX6_rowTime_44 : decode cX6_rowTime 44 = .ok (.aload_n 0, 1) := by decide +kernel
theorem dX6_rowTime_45 : decode cX6_rowTime 45 = .ok (.iload_n 1, 1) := by decide +kernel
theorem dX6_rowTime_46 : decode cX6_rowTime 46 = .ok (.iload_n 3, 1) := by decide +kernel
theorem dX6_rowTime_47 : decode cX6_rowTime 47 = .ok (.invokevirtual 86, 3) := by decide +kernel
theorem dX6_rowTime_50 : decode cX6_rowTime 50 = .ok (.iaload, 1) := by decide +kernel
theorem dX6_rowTime_51 : decode cX6_rowTime 51 = .ok (.istore 4, 2) := by decide +kernel
theorem dX6_rowTime_53 : decode cX6_rowTime 53 = .ok (.aload_n 0, 1) := by decide +kernel
theorem dX6_rowTime_54 : decode cX6_rowTime 54 = .ok (.getfield 22, 3) := by decide +kernel
theorem dX6_rowTime_57 : decode cX6_rowTime 57 = .ok (.iload_n 1, 1) := by decide +kernel
theorem dX6_rowTime_58 : decode cX6_rowTime 58 = .ok (.iaload, 1) := by decide +kernel
theorem dX6_rowTime_59 : decode cX6_rowTime 59 = .ok (.iconst 2, 1) := by decide +kernel
theorem dX6_rowTime_60 : decode cX6_rowTime 60 = .ok (.if_icmp .ne 11, 3) := by decide +kernel
theorem dX6_rowTime_63 : decode cX6_rowTime 63 = .ok (.iload_n 2, 1) := by decide +kernel
theorem dX6_rowTime_64 : decode cX6_rowTime 64 = .ok (.iload 4, 2) := by decide +kernel
theorem dX6_rowTime_66 : decode cX6_rowTime 66 = .ok (.iadd, 1) := by decide +kernel
theorem dX6_rowTime_67 : decode cX6_rowTime 67 = .ok (.istore_n 2, 1) := by decide +kernel
theorem dX6_rowTime_68 : decode cX6_rowTime 68 = .ok (.goto 29, 3) := by decide +kernel
theorem dX6_rowTime_71 : decode cX6_rowTime 71 = .ok (.aload_n 0, 1) := by decide +kernel
theorem dX6_rowTime_72 : decode cX6_rowTime 72 = .ok (.getfield 22, 3) := by decide +kernel
theorem dX6_rowTime_75 : decode cX6_rowTime 75 = .ok (.iload_n 1, 1) := by decide +kernel
theorem dX6_rowTime_76 : decode cX6_rowTime 76 = .ok (.iaload, 1) := by decide +kernel
theorem dX6_rowTime_77 : decode cX6_rowTime 77 = .ok (.iconst 1, 1) := by decide +kernel
theorem dX6_rowTime_78 : decode cX6_rowTime 78 = .ok (.if_icmp .ne 12, 3) := by decide +kernel
theorem dX6_rowTime_81 : decode cX6_rowTime 81 = .ok (.iload_n 2, 1) := by decide +kernel
theorem dX6_rowTime_82 : decode cX6_rowTime 82 = .ok (.iload 4, 2) := by decide +kernel
theorem dX6_rowTime_84 : decode cX6_rowTime 84 = .ok (.invokestatic 104, 3) := by decide +kernel
theorem dX6_rowTime_87 : decode cX6_rowTime 87 = .ok (.goto 9, 3) := by decide +kernel
theorem dX6_rowTime_90 : decode cX6_rowTime 90 = .ok (.iload_n 2, 1) := by decide +kernel
theorem dX6_rowTime_91 : decode cX6_rowTime 91 = .ok (.iload 4, 2) := by decide +kernel
theorem dX6_rowTime_93 : decode cX6_rowTime 93 = .ok (.invokestatic 72, 3) := by decide +kernel
theorem dX6_rowTime_96 : decode cX6_rowTime 96 = .ok (.istore_n 2, 1) := by decide +kernel
theorem dX6_rowTime_97 : decode cX6_rowTime 97 = .ok (.iinc 3 1, 3) := by decide +kernel
theorem dX6_rowTime_100 : decode cX6_rowTime 100 = .ok (.goto (-70), 3) := by decide +kernel
theorem dX6_rowTime_103 : decode cX6_rowTime 103 = .ok (.iload_n 2, 1) := by decide +kernel
theorem dX6_rowTime_104 : decode cX6_rowTime 104 = .ok (.ireturn, 1) := by decide +kernel
theorem dX6_someTime_0 : decode cX6_someTime 0 = .ok (.aload_n 0, 1) := by decide +kernel
theorem dX6_someTime_1 : decode cX6_someTime 1 = .ok (.getfield 25, 3) := by decide +kernel
theorem dX6_someTime_4 : decode cX6_someTime 4 = .ok (.iload_n 1, 1) := by decide +kernel
theorem dX6_someTime_5 : decode cX6_someTime 5 = .ok (.iaload, 1) := by decide +kernel
theorem dX6_someTime_6 : decode cX6_someTime 6 = .ok (.aload_n 0, 1) := by decide +kernel
theorem dX6_someTime_7 : decode cX6_someTime 7 = .ok (.getfield 55, 3) := by decide +kernel
theorem dX6_someTime_10 : decode cX6_someTime 10 = .ok (.arraylength, 1) := by decide +kernel
theorem dX6_someTime_11 : decode cX6_someTime 11 = .ok (.invokestatic 104, 3) := by decide +kernel
theorem dX6_someTime_14 : decode cX6_someTime 14 = .ok (.istore_n 2, 1) := by decide +kernel
theorem dX6_someTime_15 : decode cX6_someTime 15 = .ok (.iconst 0, 1) := by decide +kernel
theorem dX6_someTime_16 : decode cX6_someTime 16 = .ok (.istore_n 3, 1) := by decide +kernel
theorem dX6_someTime_17 : decode cX6_someTime 17 = .ok (.iload_n 3, 1) := by decide +kernel
theorem dX6_someTime_18 : decode cX6_someTime 18 = .ok (.iload_n 2, 1) := by decide +kernel
theorem dX6_someTime_19 : decode cX6_someTime 19 = .ok (.if_icmp .ge 26, 3) := by decide +kernel
theorem dX6_someTime_22 : decode cX6_someTime 22 = .ok (.aload_n 0, 1) := by decide +kernel
theorem dX6_someTime_23 : decode cX6_someTime 23 = .ok (.getfield 55, 3) := by decide +kernel
theorem dX6_someTime_26 : decode cX6_someTime 26 = .ok (.iload_n 3, 1) := by decide +kernel
theorem dX6_someTime_27 : decode cX6_someTime 27 = .ok (.aload_n 0, 1) := by decide +kernel
theorem dX6_someTime_28 : decode cX6_someTime 28 = .ok (.getfield 50, 3) := by decide +kernel
theorem dX6_someTime_31 : decode cX6_someTime 31 = .ok (.aload_n 0, 1) := by decide +kernel
theorem dX6_someTime_32 : decode cX6_someTime 32 = .ok (.iload_n 1, 1) := by decide +kernel
theorem dX6_someTime_33 : decode cX6_someTime 33 = .ok (.iload_n 3, 1) := by decide +kernel
theorem dX6_someTime_34 : decode cX6_someTime 34 = .ok (.invokevirtual 86, 3) := by decide +kernel
theorem dX6_someTime_37 : decode cX6_someTime 37 = .ok (.iaload, 1) := by decide +kernel
theorem dX6_someTime_38 : decode cX6_someTime 38 = .ok (.iastore, 1) := by decide +kernel
theorem dX6_someTime_39 : decode cX6_someTime 39 = .ok (.iinc 3 1, 3) := by decide +kernel
theorem dX6_someTime_42 : decode cX6_someTime 42 = .ok (.goto (-25), 3) := by decide +kernel
theorem dX6_someTime_45 : decode cX6_someTime 45 = .ok (.aload_n 0, 1) := by decide +kernel
theorem dX6_someTime_46 : decode cX6_someTime 46 = .ok (.getfield 55, 3) := by decide +kernel
theorem dX6_someTime_49 : decode cX6_someTime 49 = .ok (.iload_n 2, 1) := by decide +kernel
theorem dX6_someTime_50 : decode cX6_someTime 50 = .ok (.aload_n 0, 1) := by decide +kernel
theorem dX6_someTime_51 : decode cX6_someTime 51 = .ok (.getfield 28, 3) := by decide +kernel
theorem dX6_someTime_54 : decode cX6_someTime 54 = .ok (.iload_n 1, 1) := by decide +kernel
theorem dX6_someTime_55 : decode cX6_someTime 55 = .ok (.iaload, 1) := by decide +kernel
theorem dX6_someTime_56 : decode cX6_someTime 56 = .ok (.invokestatic 107, 3) := by decide +kernel
theorem dX6_someTime_59 : decode cX6_someTime 59 = .ok (.ireturn, 1) := by decide +kernel
theorem dX6_risingAt_0 : decode cX6_risingAt 0 = .ok (.iconst 1, 1) := by decide +kernel
theorem dX6_risingAt_1 : decode cX6_risingAt 1 = .ok (.istore_n 3, 1) := by decide +kernel
theorem dX6_risingAt_2 : decode cX6_risingAt 2 = .ok (.iload_n 3, 1) := by decide +kernel
theorem dX6_risingAt_3 : decode cX6_risingAt 3 = .ok (.iload_n 1, 1) := by decide +kernel
theorem dX6_risingAt_4 : decode cX6_risingAt 4 = .ok (.if_icmp .ge 55, 3) := by decide +kernel
theorem dX6_risingAt_7 : decode cX6_risingAt 7 = .ok (.aload_n 0, 1) := by decide +kernel
theorem dX6_risingAt_8 : decode cX6_risingAt 8 = .ok (.iload_n 3, 1) := by decide +kernel
theorem dX6_risingAt_9 : decode cX6_risingAt 9 = .ok (.iaload, 1) := by decide +kernel
theorem dX6_risingAt_10 : decode cX6_risingAt 10 = .ok (.istore 4, 2) := by decide +kernel
theorem dX6_risingAt_12 : decode cX6_risingAt 12 = .ok (.iload_n 3, 1) := by decide +kernel
theorem dX6_risingAt_13 : decode cX6_risingAt 13 = .ok (.istore 5, 2) := by decide +kernel
theorem dX6_risingAt_15 : decode cX6_risingAt 15 = .ok (.iload 5, 2) := by decide +kernel
theorem dX6_risingAt_17 : decode cX6_risingAt 17 = .ok (.ifCond .le 30, 3) := by decide +kernel
theorem dX6_risingAt_20 : decode cX6_risingAt 20 = .ok (.aload_n 0, 1) := by decide +kernel
theorem dX6_risingAt_21 : decode cX6_risingAt 21 = .ok (.iload 5, 2) := by decide +kernel
theorem dX6_risingAt_23 : decode cX6_risingAt 23 = .ok (.iconst 1, 1) := by decide +kernel
theorem dX6_risingAt_24 : decode cX6_risingAt 24 = .ok (.isub, 1) := by decide +kernel
theorem dX6_risingAt_25 : decode cX6_risingAt 25 = .ok (.iaload, 1) := by decide +kernel
theorem dX6_risingAt_26 : decode cX6_risingAt 26 = .ok (.iload 4, 2) := by decide +kernel
theorem dX6_risingAt_28 : decode cX6_risingAt 28 = .ok (.if_icmp .le 19, 3) := by decide +kernel
theorem dX6_risingAt_31 : decode cX6_risingAt 31 = .ok (.aload_n 0, 1) := by decide +kernel
theorem dX6_risingAt_32 : decode cX6_risingAt 32 = .ok (.iload 5, 2) := by decide +kernel
theorem dX6_risingAt_34 : decode cX6_risingAt 34 = .ok (.aload_n 0, 1) := by decide +kernel
theorem dX6_risingAt_35 : decode cX6_risingAt 35 = .ok (.iload 5, 2) := by decide +kernel
theorem dX6_risingAt_37 : decode cX6_risingAt 37 = .ok (.iconst 1, 1) := by decide +kernel
theorem dX6_risingAt_38 : decode cX6_risingAt 38 = .ok (.isub, 1) := by decide +kernel
theorem dX6_risingAt_39 : decode cX6_risingAt 39 = .ok (.iaload, 1) := by decide +kernel
theorem dX6_risingAt_40 : decode cX6_risingAt 40 = .ok (.iastore, 1) := by decide +kernel
theorem dX6_risingAt_41 : decode cX6_risingAt 41 = .ok (.iinc 5 (-1), 3) := by decide +kernel
theorem dX6_risingAt_44 : decode cX6_risingAt 44 = .ok (.goto (-29), 3) := by decide +kernel
theorem dX6_risingAt_47 : decode cX6_risingAt 47 = .ok (.aload_n 0, 1) := by decide +kernel
theorem dX6_risingAt_48 : decode cX6_risingAt 48 = .ok (.iload 5, 2) := by decide +kernel
theorem dX6_risingAt_50 : decode cX6_risingAt 50 = .ok (.iload 4, 2) := by decide +kernel
theorem dX6_risingAt_52 : decode cX6_risingAt 52 = .ok (.iastore, 1) := by decide +kernel
theorem dX6_risingAt_53 : decode cX6_risingAt 53 = .ok (.iinc 3 1, 3) := by decide +kernel
theorem dX6_risingAt_56 : decode cX6_risingAt 56 = .ok (.goto (-54), 3) := by decide +kernel
theorem dX6_risingAt_59 : decode cX6_risingAt 59 = .ok (.aload_n 0, 1) := by decide +kernel
theorem dX6_risingAt_60 : decode cX6_risingAt 60 = .ok (.iload_n 2, 1) := by decide +kernel
theorem dX6_risingAt_61 : decode cX6_risingAt 61 = .ok (.iconst 1, 1) := by decide +kernel
theorem dX6_risingAt_62 : decode cX6_risingAt 62 = .ok (.isub, 1) := by decide +kernel
theorem dX6_risingAt_63 : decode cX6_risingAt 63 = .ok (.iaload, 1) := by decide +kernel
theorem dX6_risingAt_64 : decode cX6_risingAt 64 = .ok (.ireturn, 1) := by decide +kernel
theorem dX6_mixInto_0 : decode cX6_mixInto 0 = .ok (.iconst 0, 1) := by decide +kernel
theorem dX6_mixInto_1 : decode cX6_mixInto 1 = .ok (.istore_n 3, 1) := by decide +kernel
theorem dX6_mixInto_2 : decode cX6_mixInto 2 = .ok (.iload_n 3, 1) := by decide +kernel
theorem dX6_mixInto_3 : decode cX6_mixInto 3 = .ok (.aload_n 0, 1) := by decide +kernel
theorem dX6_mixInto_4 : decode cX6_mixInto 4 = .ok (.getfield 15, 3) := by decide +kernel
theorem dX6_mixInto_7 : decode cX6_mixInto 7 = .ok (.if_icmp .ge 23, 3) := by decide +kernel
theorem dX6_mixInto_10 : decode cX6_mixInto 10 = .ok (.ldc2_w 111, 3) := by decide +kernel
theorem dX6_mixInto_13 : decode cX6_mixInto 13 = .ok (.lload_n 1, 1) := by decide +kernel
theorem dX6_mixInto_14 : decode cX6_mixInto 14 = .ok (.lmul, 1) := by decide +kernel
theorem dX6_mixInto_15 : decode cX6_mixInto 15 = .ok (.aload_n 0, 1) := by decide +kernel
theorem dX6_mixInto_16 : decode cX6_mixInto 16 = .ok (.getfield 11, 3) := by decide +kernel
theorem dX6_mixInto_19 : decode cX6_mixInto 19 = .ok (.iload_n 3, 1) := by decide +kernel
theorem dX6_mixInto_20 : decode cX6_mixInto 20 = .ok (.iaload, 1) := by decide +kernel
theorem dX6_mixInto_21 : decode cX6_mixInto 21 = .ok (.i2l, 1) := by decide +kernel
theorem dX6_mixInto_22 : decode cX6_mixInto 22 = .ok (.ladd, 1) := by decide +kernel
theorem dX6_mixInto_23 : decode cX6_mixInto 23 = .ok (.lstore_n 1, 1) := by decide +kernel
theorem dX6_mixInto_24 : decode cX6_mixInto 24 = .ok (.iinc 3 1, 3) := by decide +kernel
theorem dX6_mixInto_27 : decode cX6_mixInto 27 = .ok (.goto (-25), 3) := by decide +kernel
theorem dX6_mixInto_30 : decode cX6_mixInto 30 = .ok (.iconst 0, 1) := by decide +kernel
theorem dX6_mixInto_31 : decode cX6_mixInto 31 = .ok (.istore_n 3, 1) := by decide +kernel
theorem dX6_mixInto_32 : decode cX6_mixInto 32 = .ok (.iload_n 3, 1) := by decide +kernel
theorem dX6_mixInto_33 : decode cX6_mixInto 33 = .ok (.bipush 9, 2) := by decide +kernel
theorem dX6_mixInto_35 : decode cX6_mixInto 35 = .ok (.if_icmp .gt 39, 3) := by decide +kernel
theorem dX6_mixInto_38 : decode cX6_mixInto 38 = .ok (.aload_n 0, 1) := by decide +kernel
theorem dX6_mixInto_39 : decode cX6_mixInto 39 = .ok (.getfield 19, 3) := by decide +kernel
theorem dX6_mixInto_42 : decode cX6_mixInto 42 = .ok (.iload_n 3, 1) := by decide +kernel
theorem dX6_mixInto_43 : decode cX6_mixInto 43 = .ok (.iaload, 1) := by decide +kernel
theorem dX6_mixInto_44 : decode cX6_mixInto 44 = .ok (.ifCond .lt 24, 3) := by decide +kernel
theorem dX6_mixInto_47 : decode cX6_mixInto 47 = .ok (.ldc2_w 111, 3) := by decide +kernel
theorem dX6_mixInto_50 : decode cX6_mixInto 50 = .ok (.ldc2_w 111, 3) := by decide +kernel
theorem dX6_mixInto_53 : decode cX6_mixInto 53 = .ok (.lload_n 1, 1) := by decide +kernel
theorem dX6_mixInto_54 : decode cX6_mixInto 54 = .ok (.lmul, 1) := by decide +kernel
theorem dX6_mixInto_55 : decode cX6_mixInto 55 = .ok (.iload_n 3, 1) := by decide +kernel
theorem dX6_mixInto_56 : decode cX6_mixInto 56 = .ok (.i2l, 1) := by decide +kernel
theorem dX6_mixInto_57 : decode cX6_mixInto 57 = .ok (.ladd, 1) := by decide +kernel
theorem dX6_mixInto_58 : decode cX6_mixInto 58 = .ok (.lmul, 1) := by decide +kernel
theorem dX6_mixInto_59 : decode cX6_mixInto 59 = .ok (.aload_n 0, 1) := by decide +kernel
theorem dX6_mixInto_60 : decode cX6_mixInto 60 = .ok (.getfield 19, 3) := by decide +kernel
theorem dX6_mixInto_63 : decode cX6_mixInto 63 = .ok (.iload_n 3, 1) := by decide +kernel
theorem dX6_mixInto_64 : decode cX6_mixInto 64 = .ok (.iaload, 1) := by decide +kernel
theorem dX6_mixInto_65 : decode cX6_mixInto 65 = .ok (.i2l, 1) := by decide +kernel
theorem dX6_mixInto_66 : decode cX6_mixInto 66 = .ok (.ladd, 1) := by decide +kernel
theorem dX6_mixInto_67 : decode cX6_mixInto 67 = .ok (.lstore_n 1, 1) := by decide +kernel
theorem dX6_mixInto_68 : decode cX6_mixInto 68 = .ok (.iinc 3 1, 3) := by decide +kernel
theorem dX6_mixInto_71 : decode cX6_mixInto 71 = .ok (.goto (-39), 3) := by decide +kernel
theorem dX6_mixInto_74 : decode cX6_mixInto 74 = .ok (.iconst 0, 1) := by decide +kernel
theorem dX6_mixInto_75 : decode cX6_mixInto 75 = .ok (.istore_n 3, 1) := by decide +kernel
theorem dX6_mixInto_76 : decode cX6_mixInto 76 = .ok (.iload_n 3, 1) := by decide +kernel
theorem dX6_mixInto_77 : decode cX6_mixInto 77 = .ok (.aload_n 0, 1) := by decide +kernel
theorem dX6_mixInto_78 : decode cX6_mixInto 78 = .ok (.getfield 40, 3) := by decide +kernel
theorem dX6_mixInto_81 : decode cX6_mixInto 81 = .ok (.if_icmp .ge 99, 3) := by decide +kernel
theorem dX6_mixInto_84 : decode cX6_mixInto 84 = .ok (.ldc2_w 111, 3) := by decide +kernel
theorem dX6_mixInto_87 : decode cX6_mixInto 87 = .ok (.ldc2_w 111, 3) := by decide +kernel
theorem dX6_mixInto_90 : decode cX6_mixInto 90 = .ok (.ldc2_w 111, 3) := by decide +kernel
theorem dX6_mixInto_93 : decode cX6_mixInto 93 = .ok (.lload_n 1, 1) := by decide +kernel
theorem dX6_mixInto_94 : decode cX6_mixInto 94 = .ok (.lmul, 1) := by decide +kernel
theorem dX6_mixInto_95 : decode cX6_mixInto 95 = .ok (.aload_n 0, 1) := by decide +kernel
theorem dX6_mixInto_96 : decode cX6_mixInto 96 = .ok (.getfield 22, 3) := by decide +kernel
theorem dX6_mixInto_99 : decode cX6_mixInto 99 = .ok (.iload_n 3, 1) := by decide +kernel
theorem dX6_mixInto_100 : decode cX6_mixInto 100 = .ok (.iaload, 1) := by decide +kernel
theorem dX6_mixInto_101 : decode cX6_mixInto 101 = .ok (.i2l, 1) := by decide +kernel
theorem dX6_mixInto_102 : decode cX6_mixInto 102 = .ok (.ladd, 1) := by decide +kernel
theorem dX6_mixInto_103 : decode cX6_mixInto 103 = .ok (.lmul, 1) := by decide +kernel
theorem dX6_mixInto_104 : decode cX6_mixInto 104 = .ok (.aload_n 0, 1) := by decide +kernel
theorem dX6_mixInto_105 : decode cX6_mixInto 105 = .ok (.getfield 25, 3) := by decide +kernel
theorem dX6_mixInto_108 : decode cX6_mixInto 108 = .ok (.iload_n 3, 1) := by decide +kernel
theorem dX6_mixInto_109 : decode cX6_mixInto 109 = .ok (.iaload, 1) := by decide +kernel
theorem dX6_mixInto_110 : decode cX6_mixInto 110 = .ok (.i2l, 1) := by decide +kernel
theorem dX6_mixInto_111 : decode cX6_mixInto 111 = .ok (.ladd, 1) := by decide +kernel
theorem dX6_mixInto_112 : decode cX6_mixInto 112 = .ok (.lmul, 1) := by decide +kernel
theorem dX6_mixInto_113 : decode cX6_mixInto 113 = .ok (.aload_n 0, 1) := by decide +kernel
theorem dX6_mixInto_114 : decode cX6_mixInto 114 = .ok (.getfield 28, 3) := by decide +kernel
theorem dX6_mixInto_117 : decode cX6_mixInto 117 = .ok (.iload_n 3, 1) := by decide +kernel
theorem dX6_mixInto_118 : decode cX6_mixInto 118 = .ok (.iaload, 1) := by decide +kernel
theorem dX6_mixInto_119 : decode cX6_mixInto 119 = .ok (.i2l, 1) := by decide +kernel
theorem dX6_mixInto_120 : decode cX6_mixInto 120 = .ok (.ladd, 1) := by decide +kernel
theorem dX6_mixInto_121 : decode cX6_mixInto 121 = .ok (.lstore_n 1, 1) := by decide +kernel
theorem dX6_mixInto_122 : decode cX6_mixInto 122 = .ok (.aload_n 0, 1) := by decide +kernel
theorem dX6_mixInto_123 : decode cX6_mixInto 123 = .ok (.getfield 22, 3) := by decide +kernel
theorem dX6_mixInto_126 : decode cX6_mixInto 126 = .ok (.iload_n 3, 1) := by decide +kernel
theorem dX6_mixInto_127 : decode cX6_mixInto 127 = .ok (.iaload, 1) := by decide +kernel
theorem dX6_mixInto_128 : decode cX6_mixInto 128 = .ok (.ifCond .ne 7, 3) := by decide +kernel
theorem dX6_mixInto_131 : decode cX6_mixInto 131 = .ok (.iconst 0, 1) := by decide +kernel
theorem dX6_mixInto_132 : decode cX6_mixInto 132 = .ok (.goto 9, 3) := by decide +kernel
theorem dX6_mixInto_135 : decode cX6_mixInto 135 = .ok (.aload_n 0, 1) := by decide +kernel
theorem dX6_mixInto_136 : decode cX6_mixInto 136 = .ok (.getfield 25, 3) := by decide +kernel
theorem dX6_mixInto_139 : decode cX6_mixInto 139 = .ok (.iload_n 3, 1) := by decide +kernel
theorem dX6_mixInto_140 : decode cX6_mixInto 140 = .ok (.iaload, 1) := by decide +kernel
theorem dX6_mixInto_141 : decode cX6_mixInto 141 = .ok (.istore 4, 2) := by decide +kernel
theorem dX6_mixInto_143 : decode cX6_mixInto 143 = .ok (.iconst 0, 1) := by decide +kernel
theorem dX6_mixInto_144 : decode cX6_mixInto 144 = .ok (.istore 5, 2) := by decide +kernel
theorem dX6_mixInto_146 : decode cX6_mixInto 146 = .ok (.iload 5, 2) := by decide +kernel
theorem dX6_mixInto_148 : decode cX6_mixInto 148 = .ok (.iload 4, 2) := by decide +kernel
theorem dX6_mixInto_150 : decode cX6_mixInto 150 = .ok (.if_icmp .ge 24, 3) := by decide +kernel
theorem dX6_mixInto_153 : decode cX6_mixInto 153 = .ok (.ldc2_w 111, 3) := by decide +kernel
theorem dX6_mixInto_156 : decode cX6_mixInto 156 = .ok (.lload_n 1, 1) := by decide +kernel
theorem dX6_mixInto_157 : decode cX6_mixInto 157 = .ok (.lmul, 1) := by decide +kernel
theorem dX6_mixInto_158 : decode cX6_mixInto 158 = .ok (.aload_n 0, 1) := by decide +kernel
theorem dX6_mixInto_159 : decode cX6_mixInto 159 = .ok (.iload_n 3, 1) := by decide +kernel
theorem dX6_mixInto_160 : decode cX6_mixInto 160 = .ok (.iload 5, 2) := by decide +kernel
theorem dX6_mixInto_162 : decode cX6_mixInto 162 = .ok (.invokevirtual 86, 3) := by decide +kernel
theorem dX6_mixInto_165 : decode cX6_mixInto 165 = .ok (.i2l, 1) := by decide +kernel
theorem dX6_mixInto_166 : decode cX6_mixInto 166 = .ok (.ladd, 1) := by decide +kernel
theorem dX6_mixInto_167 : decode cX6_mixInto 167 = .ok (.lstore_n 1, 1) := by decide +kernel
theorem dX6_mixInto_168 : decode cX6_mixInto 168 = .ok (.iinc 5 1, 3) := by decide +kernel
theorem dX6_mixInto_171 : decode cX6_mixInto 171 = .ok (.goto (-25), 3) := by decide +kernel
theorem dX6_mixInto_174 : decode cX6_mixInto 174 = .ok (.iinc 3 1, 3) := by decide +kernel
theorem dX6_mixInto_177 : decode cX6_mixInto 177 = .ok (.goto (-101), 3) := by decide +kernel
theorem dX6_mixInto_180 : decode cX6_mixInto 180 = .ok (.lload_n 1, 1) := by decide +kernel
theorem dX6_mixInto_181 : decode cX6_mixInto 181 = .ok (.lreturn, 1) := by decide +kernel
theorem dX7_readText_0 : decode cX7_readText 0 = .ok (.aload_n 0, 1) := by decide +kernel
theorem dX7_readText_1 : decode cX7_readText 1 = .ok (.getfield 25, 3) := by decide +kernel
theorem dX7_readText_4 : decode cX7_readText 4 = .ok (.getfield 29, 3) := by decide +kernel
theorem dX7_readText_7 : decode cX7_readText 7 = .ok (.istore_n 1, 1) := by decide +kernel
theorem dX7_readText_8 : decode cX7_readText 8 = .ok (.aload_n 0, 1) := by decide +kernel
theorem dX7_readText_9 : decode cX7_readText 9 = .ok (.getfield 25, 3) := by decide +kernel
theorem dX7_readText_12 : decode cX7_readText 12 = .ok (.getfield 32, 3) := by decide +kernel
theorem dX7_readText_15 : decode cX7_readText 15 = .ok (.istore_n 2, 1) := by decide +kernel
theorem dX7_readText_16 : decode cX7_readText 16 = .ok (.aload_n 0, 1) := by decide +kernel
theorem dX7_readText_17 : decode cX7_readText 17 = .ok (.iconst 0, 1) := by decide +kernel
theorem dX7_readText_18 : decode cX7_readText 18 = .ok (.putfield 15, 3) := by decide +kernel
theorem dX7_readText_21 : decode cX7_readText 21 = .ok (.aload_n 0, 1) := by decide +kernel
theorem dX7_readText_22 : decode cX7_readText 22 = .ok (.iconst 0, 1) := by decide +kernel
theorem dX7_readText_23 : decode cX7_readText 23 = .ok (.putfield 19, 3) := by decide +kernel
theorem dX7_readText_26 : decode cX7_readText 26 = .ok (.aload_n 0, 1) := by decide +kernel
theorem dX7_readText_27 : decode cX7_readText 27 = .ok (.iconst 0, 1) := by decide +kernel
theorem dX7_readText_28 : decode cX7_readText 28 = .ok (.putfield 22, 3) := by decide +kernel
theorem dX7_readText_31 : decode cX7_readText 31 = .ok (.aload_n 0, 1) := by decide +kernel
theorem dX7_readText_32 : decode cX7_readText 32 = .ok (.iconst 1, 1) := by decide +kernel
theorem dX7_readText_33 : decode cX7_readText 33 = .ok (.iconst 0, 1) := by decide +kernel
theorem dX7_readText_34 : decode cX7_readText 34 = .ok (.invokevirtual 35, 3) := by decide +kernel
theorem dX7_readText_37 : decode cX7_readText 37 = .ok (.istore_n 3, 1) := by decide +kernel
theorem dX7_readText_38 : decode cX7_readText 38 = .ok (.aload_n 0, 1) := by decide +kernel
theorem dX7_readText_39 : decode cX7_readText 39 = .ok (.getfield 22, 3) := by decide +kernel
theorem dX7_readText_42 : decode cX7_readText 42 = .ok (.ifCond .ne 20, 3) := by decide +kernel
theorem dX7_readText_45 : decode cX7_readText 45 = .ok (.aload_n 0, 1) := by decide +kernel
theorem dX7_readText_46 : decode cX7_readText 46 = .ok (.invokevirtual 39, 3) := by decide +kernel
theorem dX7_readText_49 : decode cX7_readText 49 = .ok (.ifCond .lt 13, 3) := by decide +kernel
theorem dX7_readText_52 : decode cX7_readText 52 = .ok (.aload_n 0, 1) := by decide +kernel
theorem dX7_readText_53 : decode cX7_readText 53 = .ok (.aload_n 0, 1) := by decide +kernel
theorem dX7_readText_54 : decode cX7_readText 54 = .ok (.getfield 19, 3) := by decide +kernel
theorem dX7_readText_57 : decode cX7_readText 57 = .ok (.iconst 1, 1) := by decide +kernel
theorem dX7_readText_58 : decode cX7_readText 58 = .ok (.invokevirtual 43, 3) := by decide +kernel
theorem dX7_readText_61 : decode cX7_readText 61 = .ok (.pop, 1) := by decide +kernel
theorem dX7_readText_62 : decode cX7_readText 62 = .ok (.aload_n 0, 1) := by decide +kernel
theorem dX7_readText_63 : decode cX7_readText 63 = .ok (.getfield 22, 3) := by decide +kernel
theorem dX7_readText_66 : decode cX7_readText 66 = .ok (.ifCond .ne 30, 3) := by decide +kernel
theorem dX7_readText_69 : decode cX7_readText 69 = .ok (.aload_n 0, 1) := by decide +kernel
theorem dX7_readText_70 : decode cX7_readText 70 = .ok (.getfield 25, 3) := by decide +kernel
theorem dX7_readText_73 : decode cX7_readText 73 = .ok (.getfield 29, 3) := by decide +kernel
theorem dX7_readText_76 : decode cX7_readText 76 = .ok (.sipush 250, 3) := by decide +kernel
theorem dX7_readText_79 : decode cX7_readText 79 = .ok (.if_icmp .le 17, 3) := by decide +kernel
theorem dX7_readText_82 : decode cX7_readText 82 = .ok (.aload_n 0, 1) := by decide +kernel
theorem dX7_readText_83 : decode cX7_readText 83 = .ok (.aload_n 0, 1) := by decide +kernel
theorem dX7_readText_84 : decode cX7_readText 84 = .ok (.getfield 25, 3) := by decide +kernel
theorem dX7_readText_87 : decode cX7_readText 87 = .ok (.getfield 46, 3) := by decide +kernel
theorem dX7_readText_90 : decode cX7_readText 90 = .ok (.bipush 6, 2) := by decide +kernel
theorem dX7_readText_92 : decode cX7_readText 92 = .ok (.invokevirtual 43, 3) := by decide +kernel
theorem dX7_readText_95 : decode cX7_readText 95 = .ok (.pop, 1) := by decide +kernel
theorem dX7_readText_96 : decode cX7_readText 96 = .ok (.aload_n 0, 1) := by decide +kernel
theorem dX7_readText_97 : decode cX7_readText 97 = .ok (.getfield 22, 3) := by decide +kernel
theorem dX7_readText_100 : decode cX7_readText 100 = .ok (.ifCond .eq 12, 3) := by decide +kernel
theorem dX7_readText_103 : decode cX7_readText 103 = .ok (.aload_n 0, 1) := by decide +kernel
theorem dX7_readText_104 : decode cX7_readText 104 = .ok (.getfield 25, 3) := by decide +kernel
theorem dX7_readText_107 : decode cX7_readText 107 = .ok (.iload_n 1, 1) := by decide +kernel
theorem dX7_readText_108 : decode cX7_readText 108 = .ok (.iload_n 2, 1) := by decide +kernel
theorem dX7_readText_109 : decode cX7_readText 109 = .ok (.invokevirtual 49, 3) := by decide +kernel
theorem dX7_readText_112 : decode cX7_readText 112 = .ok (.iload_n 3, 1) := by decide +kernel
theorem dX7_readText_113 : decode cX7_readText 113 = .ok (.ireturn, 1) := by decide +kernel
theorem dX7_next_0 : decode cX7_next 0 = .ok (.aload_n 0, 1) := by decide +kernel
theorem dX7_next_1 : decode cX7_next 1 = .ok (.getfield 19, 3) := by decide +kernel
theorem dX7_next_4 : decode cX7_next 4 = .ok (.aload_n 0, 1) := by decide +kernel
theorem dX7_next_5 : decode cX7_next 5 = .ok (.getfield 25, 3) := by decide +kernel
theorem dX7_next_8 : decode cX7_next 8 = .ok (.getfield 46, 3) := by decide +kernel
theorem dX7_next_11 : decode cX7_next 11 = .ok (.if_icmp .ge 33, 3) := by decide +kernel
theorem dX7_next_14 : decode cX7_next 14 = .ok (.aload_n 0, 1) := by decide +kernel
theorem dX7_next_15 : decode cX7_next 15 = .ok (.getfield 25, 3) := by decide +kernel
theorem dX7_next_18 : decode cX7_next 18 = .ok (.getfield 53, 3) := by decide +kernel
theorem dX7_next_21 : decode cX7_next 21 = .ok (.aload_n 0, 1) := by decide +kernel
theorem dX7_next_22 : decode cX7_next 22 = .ok (.getfield 19, 3) := by decide +kernel
theorem dX7_next_25 : decode cX7_next 25 = .ok (.iaload, 1) := by decide +kernel
theorem dX7_next_26 : decode cX7_next 26 = .ok (.bipush 32, 2) := by decide +kernel
theorem dX7_next_28 : decode cX7_next 28 = .ok (.if_icmp .ne 16, 3) := by decide +kernel
theorem dX7_next_31 : decode cX7_next 31 = .ok (.aload_n 0, 1) := by decide +kernel
theorem dX7_next_32 : decode cX7_next 32 = .ok (.dup, 1) := by decide +kernel
theorem dX7_next_33 : decode cX7_next 33 = .ok (.getfield 19, 3) := by decide +kernel
theorem dX7_next_36 : decode cX7_next 36 = .ok (.iconst 1, 1) := by decide +kernel
theorem dX7_next_37 : decode cX7_next 37 = .ok (.iadd, 1) := by decide +kernel
theorem dX7_next_38 : decode cX7_next 38 = .ok (.putfield 19, 3) := by decide +kernel
theorem dX7_next_41 : decode cX7_next 41 = .ok (.goto (-41), 3) := by decide +kernel
theorem dX7_next_44 : decode cX7_next 44 = .ok (.aload_n 0, 1) := by decide +kernel
theorem dX7_next_45 : decode cX7_next 45 = .ok (.getfield 19, 3) := by decide +kernel
theorem dX7_next_48 : decode cX7_next 48 = .ok (.aload_n 0, 1) := by decide +kernel
theorem dX7_next_49 : decode cX7_next 49 = .ok (.getfield 25, 3) := by decide +kernel
theorem dX7_next_52 : decode cX7_next 52 = .ok (.getfield 46, 3) := by decide +kernel
theorem dX7_next_55 : decode cX7_next 55 = .ok (.if_icmp .ge 18, 3) := by decide +kernel
theorem dX7_next_58 : decode cX7_next 58 = .ok (.aload_n 0, 1) := by decide +kernel
theorem dX7_next_59 : decode cX7_next 59 = .ok (.getfield 25, 3) := by decide +kernel
theorem dX7_next_62 : decode cX7_next 62 = .ok (.getfield 53, 3) := by decide +kernel
theorem dX7_next_65 : decode cX7_next 65 = .ok (.aload_n 0, 1) := by decide +kernel
theorem dX7_next_66 : decode cX7_next 66 = .ok (.getfield 19, 3) := by decide +kernel
theorem dX7_next_69 : decode cX7_next 69 = .ok (.iaload, 1) := by decide +kernel
theorem dX7_next_70 : decode cX7_next 70 = .ok (.goto 4, 3) := by decide +kernel
theorem dX7_next_73 : decode cX7_next 73 = .ok (.iconst (-1), 1) := by decide +kernel
theorem dX7_next_74 : decode cX7_next 74 = .ok (.ireturn, 1) := by decide +kernel
theorem dX7_refuse_0 : decode cX7_refuse 0 = .ok (.aload_n 0, 1) := by decide +kernel
theorem dX7_refuse_1 : decode cX7_refuse 1 = .ok (.bipush 10, 2) := by decide +kernel
theorem dX7_refuse_3 : decode cX7_refuse 3 = .ok (.iload_n 1, 1) := by decide +kernel
theorem dX7_refuse_4 : decode cX7_refuse 4 = .ok (.imul, 1) := by decide +kernel
theorem dX7_refuse_5 : decode cX7_refuse 5 = .ok (.iload_n 2, 1) := by decide +kernel
theorem dX7_refuse_6 : decode cX7_refuse 6 = .ok (.iadd, 1) := by decide +kernel
theorem dX7_refuse_7 : decode cX7_refuse 7 = .ok (.putfield 22, 3) := by decide +kernel
theorem dX7_refuse_10 : decode cX7_refuse 10 = .ok (.iconst (-1), 1) := by decide +kernel
theorem dX7_refuse_11 : decode cX7_refuse 11 = .ok (.ireturn, 1) := by decide +kernel
theorem dX7_refuseHere_0 : decode cX7_refuseHere 0 = .ok (.aload_n 0, 1) := by decide +kernel
theorem dX7_refuseHere_1 : decode cX7_refuseHere 1 = .ok (.aload_n 0, 1) := by decide +kernel
theorem dX7_refuseHere_2 : decode cX7_refuseHere 2 = .ok (.getfield 19, 3) := by decide +kernel
theorem dX7_refuseHere_5 : decode cX7_refuseHere 5 = .ok (.aload_n 0, 1) := by decide +kernel
theorem dX7_refuseHere_6 : decode cX7_refuseHere 6 = .ok (.invokevirtual 39, 3) := by decide +kernel
theorem dX7_refuseHere_9 : decode cX7_refuseHere 9 = .ok (.ifCond .ge 7, 3) := by decide +kernel
theorem dX7_refuseHere_12 : decode cX7_refuseHere 12 = .ok (.iconst 2, 1) := by decide +kernel
theorem dX7_refuseHere_13 : decode cX7_refuseHere 13 = .ok (.goto 4, 3) := by decide +kernel
theorem dX7_refuseHere_16 : decode cX7_refuseHere 16 = .ok (.iconst 1, 1) := by decide +kernel
theorem dX7_refuseHere_17 : decode cX7_refuseHere 17 = .ok (.invokevirtual 43, 3) := by decide +kernel
theorem dX7_refuseHere_20 : decode cX7_refuseHere 20 = .ok (.ireturn, 1) := by decide +kernel
theorem dX7_hold_0 : decode cX7_hold 0 = .ok (.aload_n 0, 1) := by decide +kernel
theorem dX7_hold_1 : decode cX7_hold 1 = .ok (.getfield 15, 3) := by decide +kernel
theorem dX7_hold_4 : decode cX7_hold 4 = .ok (.aload_n 0, 1) := by decide +kernel
theorem dX7_hold_5 : decode cX7_hold 5 = .ok (.getfield 9, 3) := by decide +kernel
theorem dX7_hold_8 : decode cX7_hold 8 = .ok (.arraylength, 1) := by decide +kernel
theorem dX7_hold_9 : decode cX7_hold 9 = .ok (.if_icmp .lt 4, 3) := by decide +kernel
theorem dX7_hold_12 : decode cX7_hold 12 = .ok (.return_, 1) := by decide +kernel
theorem dX7_hold_13 : decode cX7_hold 13 = .ok (.aload_n 0, 1) := by decide +kernel
theorem dX7_hold_14 : decode cX7_hold 14 = .ok (.getfield 9, 3) := by decide +kernel
theorem dX7_hold_17 : decode cX7_hold 17 = .ok (.aload_n 0, 1) := by decide +kernel
theorem dX7_hold_18 : decode cX7_hold 18 = .ok (.getfield 15, 3) := by decide +kernel
theorem dX7_hold_21 : decode cX7_hold 21 = .ok (.iload_n 1, 1) := by decide +kernel
theorem dX7_hold_22 : decode cX7_hold 22 = .ok (.iastore, 1) := by decide +kernel
theorem dX7_hold_23 : decode cX7_hold 23 = .ok (.aload_n 0, 1) := by decide +kernel
theorem dX7_hold_24 : decode cX7_hold 24 = .ok (.dup, 1) := by decide +kernel
theorem dX7_hold_25 : decode cX7_hold 25 = .ok (.getfield 15, 3) := by decide +kernel
theorem dX7_hold_28 : decode cX7_hold 28 = .ok (.iconst 1, 1) := by decide +kernel
theorem dX7_hold_29 : decode cX7_hold 29 = .ok (.iadd, 1) := by decide +kernel
theorem dX7_hold_30 : decode cX7_hold 30 = .ok (.putfield 15, 3) := by decide +kernel
theorem dX7_hold_33 : decode cX7_hold 33 = .ok (.return_, 1) := by decide +kernel
theorem dX7_separator_0 : decode cX7_separator 0 = .ok (.iload_n 0, 1) := by decide +kernel
theorem dX7_separator_1 : decode cX7_separator 1 = .ok (.iconst 1, 1) := by decide +kernel
theorem dX7_separator_2 : decode cX7_separator 2 = .ok (.if_icmp .ne 6, 3) := by decide +kernel
theorem dX7_separator_5 : decode cX7_separator 5 = .ok (.bipush 124, 2) := by decide +kernel
theorem dX7_separator_7 : decode cX7_separator 7 = .ok (.ireturn, 1) := by decide +kernel
theorem dX7_separator_8 : decode cX7_separator 8 = .ok (.iload_n 0, 1) := by decide +kernel
theorem dX7_separator_9 : decode cX7_separator 9 = .ok (.iconst 2, 1) := by decide +kernel
theorem dX7_separator_10 : decode cX7_separator 10 = .ok (.if_icmp .ne 8, 3) := by decide +kernel
theorem dX7_separator_13 : decode cX7_separator 13 = .ok (.bipush 62, 2) := by decide +kernel
theorem dX7_separator_15 : decode cX7_separator 15 = .ok (.goto 5, 3) := by decide +kernel
theorem dX7_separator_18 : decode cX7_separator 18 = .ok (.bipush 38, 2) := by decide +kernel
theorem dX7_separator_20 : decode cX7_separator 20 = .ok (.ireturn, 1) := by decide +kernel
theorem dX7_readRow_0 : decode cX7_readRow 0 = .ok (.aload_n 0, 1) := by decide +kernel
theorem dX7_readRow_1 : decode cX7_readRow 1 = .ok (.getfield 15, 3) := by decide +kernel
theorem dX7_readRow_4 : decode cX7_readRow 4 = .ok (.istore_n 3, 1) := by decide +kernel
theorem dX7_readRow_5 : decode cX7_readRow 5 = .ok (.aload_n 0, 1) := by decide +kernel
theorem dX7_readRow_6 : decode cX7_readRow 6 = .ok (.aload_n 0, 1) := by decide +kernel
theorem dX7_readRow_7 : decode cX7_readRow 7 = .ok (.iload_n 1, 1) := by decide +kernel
theorem dX7_readRow_8 : decode cX7_readRow 8 = .ok (.iload_n 2, 1) := by decide +kernel
theorem dX7_readRow_9 : decode cX7_readRow 9 = .ok (.invokevirtual 56, 3) := by decide +kernel
theorem dX7_readRow_12 : decode cX7_readRow 12 = .ok (.invokevirtual 59, 3) := by decide +kernel
theorem dX7_readRow_15 : decode cX7_readRow 15 = .ok (.iconst 1, 1) := by decide +kernel
theorem dX7_readRow_16 : decode cX7_readRow 16 = .ok (.istore 4, 2) := by decide +kernel
theorem dX7_readRow_18 : decode cX7_readRow 18 = .ok (.iload 4, 2) := by decide +kernel
theorem dX7_readRow_20 : decode cX7_readRow 20 = .ok (.bipush 80, 2) := by decide +kernel
theorem dX7_readRow_22 : decode cX7_readRow 22 = .ok (.if_icmp .gt 47, 3) := by decide +kernel
theorem dX7_readRow_25 : decode cX7_readRow 25 = .ok (.aload_n 0, 1) := by decide +kernel
theorem dX7_readRow_26 : decode cX7_readRow 26 = .ok (.getfield 22, 3) := by decide +kernel
theorem dX7_readRow_29 : decode cX7_readRow 29 = .ok (.ifCond .ne 40, 3) := by decide +kernel
theorem dX7_readRow_32 : decode cX7_readRow 32 = .ok (.aload_n 0, 1) := by decide +kernel
theorem dX7_readRow_33 : decode cX7_readRow 33 = .ok (.invokevirtual 39, 3) := by decide +kernel
theorem dX7_readRow_36 : decode cX7_readRow 36 = .ok (.iload_n 1, 1) := by decide +kernel
theorem dX7_readRow_37 : decode cX7_readRow 37 = .ok (.invokestatic 63, 3) := by decide +kernel
theorem dX7_readRow_40 : decode cX7_readRow 40 = .ok (.if_icmp .ne 29, 3) := by decide +kernel
theorem dX7_readRow_43 : decode cX7_readRow 43 = .ok (.aload_n 0, 1) := by decide +kernel
theorem dX7_readRow_44 : decode cX7_readRow 44 = .ok (.dup, 1) := by decide +kernel
theorem dX7_readRow_45 : decode cX7_readRow 45 = .ok (.getfield 19, 3) := by decide +kernel
theorem dX7_readRow_48 : decode cX7_readRow 48 = .ok (.iconst 1, 1) := by decide +kernel
theorem dX7_readRow_49 : decode cX7_readRow 49 = .ok (.iadd, 1) := by decide +kernel
theorem dX7_readRow_50 : decode cX7_readRow 50 = .ok (.putfield 19, 3) := by decide +kernel
theorem dX7_readRow_53 : decode cX7_readRow 53 = .ok (.aload_n 0, 1) := by decide +kernel
theorem dX7_readRow_54 : decode cX7_readRow 54 = .ok (.aload_n 0, 1) := by decide +kernel
theorem dX7_readRow_55 : decode cX7_readRow 55 = .ok (.iload_n 1, 1) := by decide +kernel
theorem dX7_readRow_56 : decode cX7_readRow 56 = .ok (.iload_n 2, 1) := by decide +kernel
theorem dX7_readRow_57 : decode cX7_readRow 57 = .ok (.invokevirtual 56, 3) := by decide +kernel
theorem dX7_readRow_60 : decode cX7_readRow 60 = .ok (.invokevirtual 59, 3) := by decide +kernel
theorem dX7_readRow_63 : decode cX7_readRow 63 = .ok (.iinc 4 1, 3) := by decide +kernel
theorem dX7_readRow_66 : decode cX7_readRow 66 = .ok (.goto (-48), 3) := by decide +kernel
theorem dX7_readRow_69 : decode cX7_readRow 69 = .ok (.aload_n 0, 1) := by decide +kernel
theorem dX7_readRow_70 : decode cX7_readRow 70 = .ok (.getfield 15, 3) := by decide +kernel
theorem dX7_readRow_73 : decode cX7_readRow 73 = .ok (.iload_n 3, 1) := by decide +kernel
theorem dX7_readRow_74 : decode cX7_readRow 74 = .ok (.isub, 1) := by decide +kernel
theorem dX7_readRow_75 : decode cX7_readRow 75 = .ok (.istore 4, 2) := by decide +kernel
theorem dX7_readRow_77 : decode cX7_readRow 77 = .ok (.aload_n 0, 1) := by decide +kernel
theorem dX7_readRow_78 : decode cX7_readRow 78 = .ok (.iload_n 3, 1) := by decide +kernel
theorem dX7_readRow_79 : decode cX7_readRow 79 = .ok (.putfield 15, 3) := by decide +kernel
theorem dX7_readRow_82 : decode cX7_readRow 82 = .ok (.aload_n 0, 1) := by decide +kernel
theorem dX7_readRow_83 : decode cX7_readRow 83 = .ok (.getfield 22, 3) := by decide +kernel
theorem dX7_readRow_86 : decode cX7_readRow 86 = .ok (.ifCond .eq 5, 3) := by decide +kernel
theorem dX7_readRow_89 : decode cX7_readRow 89 = .ok (.iconst (-1), 1) := by decide +kernel
theorem dX7_readRow_90 : decode cX7_readRow 90 = .ok (.ireturn, 1) := by decide +kernel
theorem dX7_readRow_91 : decode cX7_readRow 91 = .ok (.iload 4, 2) := by decide +kernel
theorem dX7_readRow_93 : decode cX7_readRow 93 = .ok (.iconst 1, 1) := by decide +kernel
theorem dX7_readRow_94 : decode cX7_readRow 94 = .ok (.if_icmp .ne 12, 3) := by decide +kernel
theorem dX7_readRow_97 : decode cX7_readRow 97 = .ok (.aload_n 0, 1) := by decide +kernel
theorem dX7_readRow_98 : decode cX7_readRow 98 = .ok (.getfield 9, 3) := by decide +kernel
theorem dX7_readRow_101 : decode cX7_readRow 101 = .ok (.iload_n 3, 1) := by decide +kernel
theorem dX7_readRow_102 : decode cX7_readRow 102 = .ok (.iaload, 1) := by decide +kernel
theorem dX7_readRow_103 : decode cX7_readRow 103 = .ok (.goto 19, 3) := by decide +kernel
theorem dX7_readRow_106 : decode cX7_readRow 106 = .ok (.aload_n 0, 1) := by decide +kernel
theorem dX7_readRow_107 : decode cX7_readRow 107 = .ok (.getfield 25, 3) := by decide +kernel
theorem dX7_readRow_110 : decode cX7_readRow 110 = .ok (.iload_n 1, 1) := by decide +kernel
theorem dX7_readRow_111 : decode cX7_readRow 111 = .ok (.iconst 0, 1) := by decide +kernel
theorem dX7_readRow_112 : decode cX7_readRow 112 = .ok (.aload_n 0, 1) := by decide +kernel
theorem dX7_readRow_113 : decode cX7_readRow 113 = .ok (.getfield 9, 3) := by decide +kernel
theorem dX7_readRow_116 : decode cX7_readRow 116 = .ok (.iload_n 3, 1) := by decide +kernel
theorem dX7_readRow_117 : decode cX7_readRow 117 = .ok (.iload 4, 2) := by decide +kernel
theorem dX7_readRow_119 : decode cX7_readRow 119 = .ok (.invokevirtual 67, 3) := by decide +kernel
theorem dX7_readRow_122 : decode cX7_readRow 122 = .ok (.ireturn, 1) := by decide +kernel
theorem dX7_readInRow_0 : decode cX7_readInRow 0 = .ok (.iload_n 1, 1) := by decide +kernel
theorem dX7_readInRow_1 : decode cX7_readInRow 1 = .ok (.iconst 3, 1) := by decide +kernel
theorem dX7_readInRow_2 : decode cX7_readInRow 2 = .ok (.if_icmp .ne 11, 3) := by decide +kernel
theorem dX7_readInRow_5 : decode cX7_readInRow 5 = .ok (.aload_n 0, 1) := by decide +kernel
theorem dX7_readInRow_6 : decode cX7_readInRow 6 = .ok (.iload_n 2, 1) := by decide +kernel
theorem dX7_readInRow_7 : decode cX7_readInRow 7 = .ok (.invokevirtual 71, 3) := by decide +kernel
theorem dX7_readInRow_10 : decode cX7_readInRow 10 = .ok (.goto 11, 3) := by decide +kernel
theorem dX7_readInRow_13 : decode cX7_readInRow 13 = .ok (.aload_n 0, 1) := by decide +kernel
theorem dX7_readInRow_14 : decode cX7_readInRow 14 = .ok (.iload_n 1, 1) := by decide +kernel
theorem dX7_readInRow_15 : decode cX7_readInRow 15 = .ok (.iconst 1, 1) := by decide +kernel
theorem dX7_readInRow_16 : decode cX7_readInRow 16 = .ok (.iadd, 1) := by decide +kernel
theorem dX7_readInRow_17 : decode cX7_readInRow 17 = .ok (.iload_n 2, 1) := by decide +kernel
theorem dX7_readInRow_18 : decode cX7_readInRow 18 = .ok (.invokevirtual 35, 3) := by decide +kernel
theorem dX7_readInRow_21 : decode cX7_readInRow 21 = .ok (.ireturn, 1) := by decide +kernel
theorem dX7_readPart_0 : decode cX7_readPart 0 = .ok (.aload_n 0, 1) := by decide +kernel
theorem dX7_readPart_1 : decode cX7_readPart 1 = .ok (.invokevirtual 39, 3) := by decide +kernel
theorem dX7_readPart_4 : decode cX7_readPart 4 = .ok (.istore_n 2, 1) := by decide +kernel
theorem dX7_readPart_5 : decode cX7_readPart 5 = .ok (.iload_n 2, 1) := by decide +kernel
theorem dX7_readPart_6 : decode cX7_readPart 6 = .ok (.bipush 97, 2) := by decide +kernel
theorem dX7_readPart_8 : decode cX7_readPart 8 = .ok (.if_icmp .lt 31, 3) := by decide +kernel
theorem dX7_readPart_11 : decode cX7_readPart 11 = .ok (.iload_n 2, 1) := by decide +kernel
theorem dX7_readPart_12 : decode cX7_readPart 12 = .ok (.bipush 112, 2) := by decide +kernel
theorem dX7_readPart_14 : decode cX7_readPart 14 = .ok (.if_icmp .gt 25, 3) := by decide +kernel
theorem dX7_readPart_17 : decode cX7_readPart 17 = .ok (.aload_n 0, 1) := by decide +kernel
theorem dX7_readPart_18 : decode cX7_readPart 18 = .ok (.dup, 1) := by decide +kernel
theorem dX7_readPart_19 : decode cX7_readPart 19 = .ok (.getfield 19, 3) := by decide +kernel
theorem dX7_readPart_22 : decode cX7_readPart 22 = .ok (.iconst 1, 1) := by decide +kernel
theorem dX7_readPart_23 : decode cX7_readPart 23 = .ok (.iadd, 1) := by decide +kernel
theorem dX7_readPart_24 : decode cX7_readPart 24 = .ok (.putfield 19, 3) := by decide +kernel
theorem dX7_readPart_27 : decode cX7_readPart 27 = .ok (.aload_n 0, 1) := by decide +kernel
theorem dX7_readPart_28 : decode cX7_readPart 28 = .ok (.getfield 25, 3) := by decide +kernel
theorem dX7_readPart_31 : decode cX7_readPart 31 = .ok (.iload_n 2, 1) := by decide +kernel
theorem dX7_readPart_32 : decode cX7_readPart 32 = .ok (.bipush 97, 2) := by decide +kernel
theorem dX7_readPart_34 : decode cX7_readPart 34 = .ok (.isub, 1) := by decide +kernel
theorem dX7_readPart_35 : decode cX7_readPart 35 = .ok (.invokevirtual 74, 3) := by decide +kernel
theorem dX7_readPart_38 : decode cX7_readPart 38 = .ok (.ireturn, 1) := by decide +kernel
theorem dX7_readPart_39 : decode cX7_readPart 39 = .ok (.iload_n 2, 1) := by decide +kernel
theorem dX7_readPart_40 : decode cX7_readPart 40 = .ok (.bipush 48, 2) := by decide +kernel
theorem dX7_readPart_42 : decode cX7_readPart 42 = .ok (.if_icmp .lt 18, 3) := by decide +kernel
theorem dX7_readPart_45 : decode cX7_readPart 45 = .ok (.iload_n 2, 1) := by decide +kernel
theorem dX7_readPart_46 : decode cX7_readPart 46 = .ok (.bipush 57, 2) := by decide +kernel
theorem dX7_readPart_48 : decode cX7_readPart 48 = .ok (.if_icmp .gt 12, 3) := by decide +kernel
theorem dX7_readPart_51 : decode cX7_readPart 51 = .ok (.aload_n 0, 1) := by decide +kernel
theorem dX7_readPart_52 : decode cX7_readPart 52 = .ok (.iload_n 2, 1) := by decide +kernel
theorem dX7_readPart_53 : decode cX7_readPart 53 = .ok (.bipush 48, 2) := by decide +kernel
theorem dX7_readPart_55 : decode cX7_readPart 55 = .ok (.isub, 1) := by decide +kernel
theorem dX7_readPart_56 : decode cX7_readPart 56 = .ok (.invokevirtual 77, 3) := by decide +kernel
theorem dX7_readPart_59 : decode cX7_readPart 59 = .ok (.ireturn, 1) := by decide +kernel
theorem dX7_readPart_60 : decode cX7_readPart 60 = .ok (.iload_n 2, 1) := by decide +kernel
theorem dX7_readPart_61 : decode cX7_readPart 61 = .ok (.bipush 40, 2) := by decide +kernel
theorem dX7_readPart_63 : decode cX7_readPart 63 = .ok (.if_icmp .eq 14, 3) := by decide +kernel
theorem dX7_readPart_66 : decode cX7_readPart 66 = .ok (.iload_n 2, 1) := by decide +kernel
theorem dX7_readPart_67 : decode cX7_readPart 67 = .ok (.bipush 91, 2) := by decide +kernel
theorem dX7_readPart_69 : decode cX7_readPart 69 = .ok (.if_icmp .eq 8, 3) := by decide +kernel
theorem dX7_readPart_72 : decode cX7_readPart 72 = .ok (.aload_n 0, 1) := by decide +kernel
theorem dX7_readPart_73 : decode cX7_readPart 73 = .ok (.invokevirtual 80, 3) := by decide +kernel
theorem dX7_readPart_76 : decode cX7_readPart 76 = .ok (.ireturn, 1) := by decide +kernel
theorem dX7_readPart_77 : decode cX7_readPart 77 = .ok (.iload_n 1, 1) := by decide +kernel
theorem dX7_readPart_78 : decode cX7_readPart 78 = .ok (.bipush 8, 2) := by decide +kernel
theorem dX7_readPart_80 : decode cX7_readPart 80 = .ok (.if_icmp .lt 13, 3) := by decide +kernel
theorem dX7_readPart_83 : decode cX7_readPart 83 = .ok (.aload_n 0, 1) := by decide +kernel
theorem dX7_readPart_84 : decode cX7_readPart 84 = .ok (.aload_n 0, 1) := by decide +kernel
theorem dX7_readPart_85 : decode cX7_readPart 85 = .ok (.getfield 19, 3) := by decide +kernel
theorem dX7_readPart_88 : decode cX7_readPart 88 = .ok (.iconst 5, 1) := by decide +kernel
theorem dX7_readPart_89 : decode cX7_readPart 89 = .ok (.invokevirtual 43, 3) := by decide +kernel
theorem dX7_readPart_92 : decode cX7_readPart 92 = .ok (.ireturn, 1) := by decide +kernel
theorem dX7_readPart_93 : decode cX7_readPart 93 = .ok (.aload_n 0, 1) := by decide +kernel
theorem dX7_readPart_94 : decode cX7_readPart 94 = .ok (.dup, 1) := by decide +kernel
theorem dX7_readPart_95 : decode cX7_readPart 95 = .ok (.getfield 19, 3) := by decide +kernel
theorem dX7_readPart_98 : decode cX7_readPart 98 = .ok (.iconst 1, 1) := by decide +kernel
theorem dX7_readPart_99 : decode cX7_readPart 99 = .ok (.iadd, 1) := by decide +kernel
theorem dX7_readPart_100 : decode cX7_readPart 100 = .ok (.putfield 19, 3) := by decide +kernel
theorem dX7_readPart_103 : decode cX7_readPart 103 = .ok (.iload_n 2, 1) := by decide +kernel
theorem dX7_readPart_104 : decode cX7_readPart 104 = .ok (.bipush 40, 2) := by decide +kernel
theorem dX7_readPart_106 : decode cX7_readPart 106 = .ok (.if_icmp .ne 13, 3) := by decide +kernel
theorem dX7_readPart_109 : decode cX7_readPart 109 = .ok (.aload_n 0, 1) := by decide +kernel
theorem dX7_readPart_110 : decode cX7_readPart 110 = .ok (.iload_n 1, 1) := by decide +kernel
theorem dX7_readPart_111 : decode cX7_readPart 111 = .ok (.iconst 1, 1) := by decide +kernel
theorem dX7_readPart_112 : decode cX7_readPart 112 = .ok (.iadd, 1) := by decide +kernel
theorem dX7_readPart_113 : decode cX7_readPart 113 = .ok (.invokevirtual 83, 3) := by decide +kernel
theorem dX7_readPart_116 : decode cX7_readPart 116 = .ok (.goto 10, 3) := by decide +kernel
theorem dX7_readPart_119 : decode cX7_readPart 119 = .ok (.aload_n 0, 1) := by decide +kernel
theorem dX7_readPart_120 : decode cX7_readPart 120 = .ok (.iload_n 1, 1) := by decide +kernel
theorem dX7_readPart_121 : decode cX7_readPart 121 = .ok (.iconst 1, 1) := by decide +kernel
theorem dX7_readPart_122 : decode cX7_readPart 122 = .ok (.iadd, 1) := by decide +kernel
theorem dX7_readPart_123 : decode cX7_readPart 123 = .ok (.invokevirtual 86, 3) := by decide +kernel
theorem dX7_readPart_126 : decode cX7_readPart 126 = .ok (.ireturn, 1) := by decide +kernel
theorem dX7_readDigit_0 : decode cX7_readDigit 0 = .ok (.aload_n 0, 1) := by decide +kernel
theorem dX7_readDigit_1 : decode cX7_readDigit 1 = .ok (.getfield 25, 3) := by decide +kernel
theorem dX7_readDigit_4 : decode cX7_readDigit 4 = .ok (.getfield 89, 3) := by decide +kernel
theorem dX7_readDigit_7 : decode cX7_readDigit 7 = .ok (.iload_n 1, 1) := by decide +kernel
theorem dX7_readDigit_8 : decode cX7_readDigit 8 = .ok (.iaload, 1) := by decide +kernel
theorem dX7_readDigit_9 : decode cX7_readDigit 9 = .ok (.ifCond .ge 13, 3) := by decide +kernel
theorem dX7_readDigit_12 : decode cX7_readDigit 12 = .ok (.aload_n 0, 1) := by decide +kernel
theorem dX7_readDigit_13 : decode cX7_readDigit 13 = .ok (.aload_n 0, 1) := by decide +kernel
theorem dX7_readDigit_14 : decode cX7_readDigit 14 = .ok (.getfield 19, 3) := by decide +kernel
theorem dX7_readDigit_17 : decode cX7_readDigit 17 = .ok (.iconst 3, 1) := by decide +kernel
theorem dX7_readDigit_18 : decode cX7_readDigit 18 = .ok (.invokevirtual 43, 3) := by decide +kernel
theorem dX7_readDigit_21 : decode cX7_readDigit 21 = .ok (.ireturn, 1) := by decide +kernel
theorem dX7_readDigit_22 : decode cX7_readDigit 22 = .ok (.aload_n 0, 1) := by decide +kernel
theorem dX7_readDigit_23 : decode cX7_readDigit 23 = .ok (.dup, 1) := by decide +kernel
theorem dX7_readDigit_24 : decode cX7_readDigit 24 = .ok (.getfield 19, 3) := by decide +kernel
theorem dX7_readDigit_27 : decode cX7_readDigit 27 = .ok (.iconst 1, 1) := by decide +kernel
theorem dX7_readDigit_28 : decode cX7_readDigit 28 = .ok (.iadd, 1) := by decide +kernel
theorem dX7_readDigit_29 : decode cX7_readDigit 29 = .ok (.putfield 19, 3) := by decide +kernel
theorem dX7_readDigit_32 : decode cX7_readDigit 32 = .ok (.aload_n 0, 1) := by decide +kernel
theorem dX7_readDigit_33 : decode cX7_readDigit 33 = .ok (.getfield 25, 3) := by decide +kernel
theorem dX7_readDigit_36 : decode cX7_readDigit 36 = .ok (.getfield 89, 3) := by decide +kernel
theorem dX7_readDigit_39 : decode cX7_readDigit 39 = .ok (.iload_n 1, 1) := by decide +kernel
theorem dX7_readDigit_40 : decode cX7_readDigit 40 = .ok (.iaload, 1) := by decide +kernel
theorem dX7_readDigit_41 : decode cX7_readDigit 41 = .ok (.ireturn, 1) := by decide +kernel
theorem dX7_readInside_0 : decode cX7_readInside 0 = .ok (.aload_n 0, 1) := by decide +kernel
theorem dX7_readInside_1 : decode cX7_readInside 1 = .ok (.iconst 1, 1) := by decide +kernel
theorem dX7_readInside_2 : decode cX7_readInside 2 = .ok (.iload_n 1, 1) := by decide +kernel
theorem dX7_readInside_3 : decode cX7_readInside 3 = .ok (.invokevirtual 35, 3) := by decide +kernel
theorem dX7_readInside_6 : decode cX7_readInside 6 = .ok (.istore_n 2, 1) := by decide +kernel
theorem dX7_readInside_7 : decode cX7_readInside 7 = .ok (.aload_n 0, 1) := by decide +kernel
theorem dX7_readInside_8 : decode cX7_readInside 8 = .ok (.getfield 22, 3) := by decide +kernel
theorem dX7_readInside_11 : decode cX7_readInside 11 = .ok (.ifCond .ne 16, 3) := by decide +kernel
theorem dX7_readInside_14 : decode cX7_readInside 14 = .ok (.aload_n 0, 1) := by decide +kernel
theorem dX7_readInside_15 : decode cX7_readInside 15 = .ok (.bipush 41, 2) := by decide +kernel
theorem dX7_readInside_17 : decode cX7_readInside 17 = .ok (.invokevirtual 92, 3) := by decide +kernel
theorem dX7_readInside_20 : decode cX7_readInside 20 = .ok (.ifCond .eq 7, 3) := by decide +kernel
theorem dX7_readInside_23 : decode cX7_readInside 23 = .ok (.iload_n 2, 1) := by decide +kernel
theorem dX7_readInside_24 : decode cX7_readInside 24 = .ok (.goto 4, 3) := by decide +kernel
theorem dX7_readInside_27 : decode cX7_readInside 27 = .ok (.iconst (-1), 1) := by decide +kernel
theorem dX7_readInside_28 : decode cX7_readInside 28 = .ok (.ireturn, 1) := by decide +kernel
theorem dX7_closes_0 : decode cX7_closes 0 = .ok (.aload_n 0, 1) := by decide +kernel
theorem dX7_closes_1 : decode cX7_closes 1 = .ok (.invokevirtual 39, 3) := by decide +kernel
theorem dX7_closes_4 : decode cX7_closes 4 = .ok (.iload_n 1, 1) := by decide +kernel
theorem dX7_closes_5 : decode cX7_closes 5 = .ok (.if_icmp .ne 15, 3) := by decide +kernel
theorem dX7_closes_8 : decode cX7_closes 8 = .ok (.aload_n 0, 1) := by decide +kernel
theorem dX7_closes_9 : decode cX7_closes 9 = .ok (.dup, 1) := by decide +kernel
theorem dX7_closes_10 : decode cX7_closes 10 = .ok (.getfield 19, 3) := by decide +kernel
theorem dX7_closes_13 : decode cX7_closes 13 = .ok (.iconst 1, 1) := by decide +kernel
theorem dX7_closes_14 : decode cX7_closes 14 = .ok (.iadd, 1) := by decide +kernel
theorem dX7_closes_15 : decode cX7_closes 15 = .ok (.putfield 19, 3) := by decide +kernel
theorem dX7_closes_18 : decode cX7_closes 18 = .ok (.iconst 1, 1) := by decide +kernel
theorem dX7_closes_19 : decode cX7_closes 19 = .ok (.ireturn, 1) := by decide +kernel
theorem dX7_closes_20 : decode cX7_closes 20 = .ok (.aload_n 0, 1) := by decide +kernel
theorem dX7_closes_21 : decode cX7_closes 21 = .ok (.invokevirtual 80, 3) := by decide +kernel
theorem dX7_closes_24 : decode cX7_closes 24 = .ok (.pop, 1) := by decide +kernel
theorem dX7_closes_25 : decode cX7_closes 25 = .ok (.iconst 0, 1) := by decide +kernel
theorem dX7_closes_26 : decode cX7_closes 26 = .ok (.ireturn, 1) := by decide +kernel
theorem dX7_readSome_0 : decode cX7_readSome 0 = .ok (.aload_n 0, 1) := by decide +kernel
theorem dX7_readSome_1 : decode cX7_readSome 1 = .ok (.invokevirtual 39, 3) := by decide +kernel
theorem dX7_readSome_4 : decode cX7_readSome 4 = .ok (.istore_n 2, 1) := by decide +kernel
theorem dX7_readSome_5 : decode cX7_readSome 5 = .ok (.iload_n 2, 1) := by decide +kernel
theorem dX7_readSome_6 : decode cX7_readSome 6 = .ok (.bipush 48, 2) := by decide +kernel
theorem dX7_readSome_8 : decode cX7_readSome 8 = .ok (.if_icmp .lt 9, 3) := by decide +kernel
theorem dX7_readSome_11 : decode cX7_readSome 11 = .ok (.iload_n 2, 1) := by decide +kernel
theorem dX7_readSome_12 : decode cX7_readSome 12 = .ok (.bipush 57, 2) := by decide +kernel
theorem dX7_readSome_14 : decode cX7_readSome 14 = .ok (.if_icmp .le 8, 3) := by decide +kernel
theorem dX7_readSome_17 : decode cX7_readSome 17 = .ok (.aload_n 0, 1) := by decide +kernel
theorem dX7_readSome_18 : decode cX7_readSome 18 = .ok (.invokevirtual 80, 3) := by decide +kernel
theorem dX7_readSome_21 : decode cX7_readSome 21 = .ok (.ireturn, 1) := by decide +kernel
theorem dX7_readSome_22 : decode cX7_readSome 22 = .ok (.aload_n 0, 1) := by decide +kernel
theorem dX7_readSome_23 : decode cX7_readSome 23 = .ok (.getfield 19, 3) := by decide +kernel
theorem dX7_readSome_26 : decode cX7_readSome 26 = .ok (.istore_n 3, 1) := by decide +kernel
theorem dX7_readSome_27 : decode cX7_readSome 27 = .ok (.aload_n 0, 1) := by decide +kernel
theorem dX7_readSome_28 : decode cX7_readSome 28 = .ok (.dup, 1) := by decide +kernel
theorem dX7_readSome_29 : decode cX7_readSome 29 = .ok (.getfield 19, 3) := by decide +kernel
theorem dX7_readSome_32 : decode cX7_readSome 32 = .ok (.iconst 1, 1) := by decide +kernel
theorem dX7_readSome_33 : decode cX7_readSome 33 = .ok (.iadd, 1) := by decide +kernel
theorem dX7_readSome_34 : decode cX7_readSome 34 = .ok (.putfield 19, 3) := by decide +kernel
theorem dX7_readSome_37 : decode cX7_readSome 37 = .ok (.aload_n 0, 1) := by decide +kernel
theorem dX7_readSome_38 : decode cX7_readSome 38 = .ok (.getfield 15, 3) := by decide +kernel
theorem dX7_readSome_41 : decode cX7_readSome 41 = .ok (.istore 4, 2) := by decide +kernel
theorem dX7_readSome_43 : decode cX7_readSome 43 = .ok (.aload_n 0, 1) := by decide +kernel
theorem dX7_readSome_44 : decode cX7_readSome 44 = .ok (.aload_n 0, 1) := by decide +kernel
theorem dX7_readSome_45 : decode cX7_readSome 45 = .ok (.iconst 1, 1) := by decide +kernel
theorem dX7_readSome_46 : decode cX7_readSome 46 = .ok (.iload_n 1, 1) := by decide +kernel
theorem dX7_readSome_47 : decode cX7_readSome 47 = .ok (.invokevirtual 35, 3) := by decide +kernel
theorem dX7_readSome_50 : decode cX7_readSome 50 = .ok (.invokevirtual 59, 3) := by decide +kernel
theorem dX7_readSome_53 : decode cX7_readSome 53 = .ok (.iconst 1, 1) := by decide +kernel
theorem dX7_readSome_54 : decode cX7_readSome 54 = .ok (.istore 5, 2) := by decide +kernel
theorem dX7_readSome_56 : decode cX7_readSome 56 = .ok (.iload 5, 2) := by decide +kernel
theorem dX7_readSome_58 : decode cX7_readSome 58 = .ok (.bipush 8, 2) := by decide +kernel
theorem dX7_readSome_60 : decode cX7_readSome 60 = .ok (.if_icmp .gt 66, 3) := by decide +kernel
theorem dX7_readSome_63 : decode cX7_readSome 63 = .ok (.aload_n 0, 1) := by decide +kernel
theorem dX7_readSome_64 : decode cX7_readSome 64 = .ok (.getfield 22, 3) := by decide +kernel
theorem dX7_readSome_67 : decode cX7_readSome 67 = .ok (.ifCond .ne 59, 3) := by decide +kernel
theorem dX7_readSome_70 : decode cX7_readSome 70 = .ok (.aload_n 0, 1) := by decide +kernel
theorem dX7_readSome_71 : decode cX7_readSome 71 = .ok (.invokevirtual 39, 3) := by decide +kernel
theorem dX7_readSome_74 : decode cX7_readSome 74 = .ok (.bipush 44, 2) := by decide +kernel
theorem dX7_readSome_76 : decode cX7_readSome 76 = .ok (.if_icmp .ne 50, 3) := by decide +kernel
theorem dX7_readSome_79 : decode cX7_readSome 79 = .ok (.iload 5, 2) := by decide +kernel
theorem dX7_readSome_81 : decode cX7_readSome 81 = .ok (.bipush 8, 2) := by decide +kernel
theorem dX7_readSome_83 : decode cX7_readSome 83 = .ok (.if_icmp .ne 17, 3) := by decide +kernel
theorem dX7_readSome_86 : decode cX7_readSome 86 = .ok (.aload_n 0, 1) := by decide +kernel
theorem dX7_readSome_87 : decode cX7_readSome 87 = .ok (.aload_n 0, 1) := by decide +kernel
theorem dX7_readSome_88 : decode cX7_readSome 88 = .ok (.getfield 19, 3) := by decide +kernel
theorem dX7_readSome_91 : decode cX7_readSome 91 = .ok (.bipush 7, 2) := by decide +kernel
theorem dX7_readSome_93 : decode cX7_readSome 93 = .ok (.invokevirtual 43, 3) := by decide +kernel
theorem dX7_readSome_96 : decode cX7_readSome 96 = .ok (.pop, 1) := by decide +kernel
theorem dX7_readSome_97 : decode cX7_readSome 97 = .ok (.goto 23, 3) := by decide +kernel
theorem dX7_readSome_100 : decode cX7_readSome 100 = .ok (.aload_n 0, 1) := by decide +kernel
theorem dX7_readSome_101 : decode cX7_readSome 101 = .ok (.dup, 1) := by decide +kernel
theorem dX7_readSome_102 : decode cX7_readSome 102 = .ok (.getfield 19, 3) := by decide +kernel
theorem dX7_readSome_105 : decode cX7_readSome 105 = .ok (.iconst 1, 1) := by decide +kernel
theorem dX7_readSome_106 : decode cX7_readSome 106 = .ok (.iadd, 1) := by decide +kernel
theorem dX7_readSome_107 : decode cX7_readSome 107 = .ok (.putfield 19, 3) := by decide +kernel
theorem dX7_readSome_110 : decode cX7_readSome 110 = .ok (.aload_n 0, 1) := by decide +kernel
theorem dX7_readSome_111 : decode cX7_readSome 111 = .ok (.aload_n 0, 1) := by decide +kernel
theorem dX7_readSome_112 : decode cX7_readSome 112 = .ok (.iconst 1, 1) := by decide +kernel
theorem dX7_readSome_113 : decode cX7_readSome 113 = .ok (.iload_n 1, 1) := by decide +kernel
theorem dX7_readSome_114 : decode cX7_readSome 114 = .ok (.invokevirtual 35, 3) := by decide +kernel
theorem dX7_readSome_117 : decode cX7_readSome 117 = .ok (.invokevirtual 59, 3) := by decide +kernel
theorem dX7_readSome_120 : decode cX7_readSome 120 = .ok (.iinc 5 1, 3) := by decide +kernel
theorem dX7_readSome_123 : decode cX7_readSome 123 = .ok (.goto (-67), 3) := by decide +kernel
theorem dX7_readSome_126 : decode cX7_readSome 126 = .ok (.aload_n 0, 1) := by decide +kernel
theorem dX7_readSome_127 : decode cX7_readSome 127 = .ok (.getfield 15, 3) := by decide +kernel
theorem dX7_readSome_130 : decode cX7_readSome 130 = .ok (.iload 4, 2) := by decide +kernel
theorem dX7_readSome_132 : decode cX7_readSome 132 = .ok (.isub, 1) := by decide +kernel
theorem dX7_readSome_133 : decode cX7_readSome 133 = .ok (.istore 5, 2) := by decide +kernel
theorem dX7_readSome_135 : decode cX7_readSome 135 = .ok (.aload_n 0, 1) := by decide +kernel
theorem dX7_readSome_136 : decode cX7_readSome 136 = .ok (.iload 4, 2) := by decide +kernel
theorem dX7_readSome_138 : decode cX7_readSome 138 = .ok (.putfield 15, 3) := by decide +kernel
theorem dX7_readSome_141 : decode cX7_readSome 141 = .ok (.aload_n 0, 1) := by decide +kernel
theorem dX7_readSome_142 : decode cX7_readSome 142 = .ok (.getfield 22, 3) := by decide +kernel
theorem dX7_readSome_145 : decode cX7_readSome 145 = .ok (.ifCond .ne 12, 3) := by decide +kernel
theorem dX7_readSome_148 : decode cX7_readSome 148 = .ok (.aload_n 0, 1) := by decide +kernel
theorem dX7_readSome_149 : decode cX7_readSome 149 = .ok (.bipush 93, 2) := by decide +kernel
theorem dX7_readSome_151 : decode cX7_readSome 151 = .ok (.invokevirtual 92, 3) := by decide +kernel
theorem dX7_readSome_154 : decode cX7_readSome 154 = .ok (.ifCond .ne 5, 3) := by decide +kernel
theorem dX7_readSome_157 : decode cX7_readSome 157 = .ok (.iconst (-1), 1) := by decide +kernel
theorem dX7_readSome_158 : decode cX7_readSome 158 = .ok (.ireturn, 1) := by decide +kernel
theorem dX7_readSome_159 : decode cX7_readSome 159 = .ok (.iload_n 2, 1) := by decide +kernel
theorem dX7_readSome_160 : decode cX7_readSome 160 = .ok (.bipush 48, 2) := by decide +kernel
theorem dX7_readSome_162 : decode cX7_readSome 162 = .ok (.isub, 1) := by decide +kernel
theorem dX7_readSome_163 : decode cX7_readSome 163 = .ok (.istore 6, 2) := by decide +kernel
theorem dX7_readSome_165 : decode cX7_readSome 165 = .ok (.iload 6, 2) := by decide +kernel
theorem dX7_readSome_167 : decode cX7_readSome 167 = .ok (.ifCond .eq 10, 3) := by decide +kernel
theorem dX7_readSome_170 : decode cX7_readSome 170 = .ok (.iload 6, 2) := by decide +kernel
theorem dX7_readSome_172 : decode cX7_readSome 172 = .ok (.iload 5, 2) := by decide +kernel
theorem dX7_readSome_174 : decode cX7_readSome 174 = .ok (.if_icmp .le 10, 3) := by decide +kernel
theorem dX7_readSome_177 : decode cX7_readSome 177 = .ok (.aload_n 0, 1) := by decide +kernel
theorem dX7_readSome_178 : decode cX7_readSome 178 = .ok (.iload_n 3, 1) := by decide +kernel
theorem dX7_readSome_179 : decode cX7_readSome 179 = .ok (.iconst 4, 1) := by decide +kernel
theorem dX7_readSome_180 : decode cX7_readSome 180 = .ok (.invokevirtual 43, 3) := by decide +kernel
theorem dX7_readSome_183 : decode cX7_readSome 183 = .ok (.ireturn, 1) := by decide +kernel
theorem dX7_readSome_184 : decode cX7_readSome 184 = .ok (.aload_n 0, 1) := by decide +kernel
theorem dX7_readSome_185 : decode cX7_readSome 185 = .ok (.getfield 25, 3) := by decide +kernel
theorem dX7_readSome_188 : decode cX7_readSome 188 = .ok (.iconst 4, 1) := by decide +kernel
theorem dX7_readSome_189 : decode cX7_readSome 189 = .ok (.iload 6, 2) := by decide +kernel
theorem dX7_readSome_191 : decode cX7_readSome 191 = .ok (.aload_n 0, 1) := by decide +kernel
theorem dX7_readSome_192 : decode cX7_readSome 192 = .ok (.getfield 9, 3) := by decide +kernel
theorem dX7_readSome_195 : decode cX7_readSome 195 = .ok (.iload 4, 2) := by decide +kernel
theorem dX7_readSome_197 : decode cX7_readSome 197 = .ok (.iload 5, 2) := by decide +kernel
theorem dX7_readSome_199 : decode cX7_readSome 199 = .ok (.invokevirtual 67, 3) := by decide +kernel
theorem dX7_readSome_202 : decode cX7_readSome 202 = .ok (.ireturn, 1) := by decide +kernel
theorem dX8_forget_0 : decode cX8_forget 0 = .ok (.aload_n 0, 1) := by decide +kernel
theorem dX8_forget_1 : decode cX8_forget 1 = .ok (.iconst (-1), 1) := by decide +kernel
theorem dX8_forget_2 : decode cX8_forget 2 = .ok (.putfield 25, 3) := by decide +kernel
theorem dX8_forget_5 : decode cX8_forget 5 = .ok (.aload_n 0, 1) := by decide +kernel
theorem dX8_forget_6 : decode cX8_forget 6 = .ok (.getfield 54, 3) := by decide +kernel
theorem dX8_forget_9 : decode cX8_forget 9 = .ok (.iconst 0, 1) := by decide +kernel
theorem dX8_forget_10 : decode cX8_forget 10 = .ok (.invokestatic 66, 3) := by decide +kernel
theorem dX8_forget_13 : decode cX8_forget 13 = .ok (.return_, 1) := by decide +kernel
theorem dX8_fillFor_0 : decode cX8_fillFor 0 = .ok (.iload_n 1, 1) := by decide +kernel
theorem dX8_fillFor_1 : decode cX8_fillFor 1 = .ok (.aload_n 0, 1) := by decide +kernel
theorem dX8_fillFor_2 : decode cX8_fillFor 2 = .ok (.getfield 25, 3) := by decide +kernel
theorem dX8_fillFor_5 : decode cX8_fillFor 5 = .ok (.if_icmp .ne 4, 3) := by decide +kernel
theorem dX8_fillFor_8 : decode cX8_fillFor 8 = .ok (.return_, 1) := by decide +kernel
theorem dX8_fillFor_9 : decode cX8_fillFor 9 = .ok (.aload_n 0, 1) := by decide +kernel
theorem dX8_fillFor_10 : decode cX8_fillFor 10 = .ok (.iload_n 1, 1) := by decide +kernel
theorem dX8_fillFor_11 : decode cX8_fillFor 11 = .ok (.putfield 25, 3) := by decide +kernel
theorem dX8_fillFor_14 : decode cX8_fillFor 14 = .ok (.aload_n 0, 1) := by decide +kernel
theorem dX8_fillFor_15 : decode cX8_fillFor 15 = .ok (.aload_n 0, 1) := by decide +kernel
theorem dX8_fillFor_16 : decode cX8_fillFor 16 = .ok (.getfield 62, 3) := by decide +kernel
theorem dX8_fillFor_19 : decode cX8_fillFor 19 = .ok (.getfield 72, 3) := by decide +kernel
theorem dX8_fillFor_22 : decode cX8_fillFor 22 = .ok (.iload_n 1, 1) := by decide +kernel
theorem dX8_fillFor_23 : decode cX8_fillFor 23 = .ok (.iaload, 1) := by decide +kernel
theorem dX8_fillFor_24 : decode cX8_fillFor 24 = .ok (.invokevirtual 75, 3) := by decide +kernel
theorem dX8_fillFor_27 : decode cX8_fillFor 27 = .ok (.aload_n 0, 1) := by decide +kernel
theorem dX8_fillFor_28 : decode cX8_fillFor 28 = .ok (.aload_n 0, 1) := by decide +kernel
theorem dX8_fillFor_29 : decode cX8_fillFor 29 = .ok (.getfield 18, 3) := by decide +kernel
theorem dX8_fillFor_32 : decode cX8_fillFor 32 = .ok (.bipush 6, 2) := by decide +kernel
theorem dX8_fillFor_34 : decode cX8_fillFor 34 = .ok (.if_icmp .gt 7, 3) := by decide +kernel
theorem dX8_fillFor_37 : decode cX8_fillFor 37 = .ok (.iconst 1, 1) := by decide +kernel
theorem dX8_fillFor_38 : decode cX8_fillFor 38 = .ok (.goto 12, 3) := by decide +kernel
theorem dX8_fillFor_41 : decode cX8_fillFor 41 = .ok (.iconst 1, 1) := by decide +kernel
theorem dX8_fillFor_42 : decode cX8_fillFor 42 = .ok (.aload_n 0, 1) := by decide +kernel
theorem dX8_fillFor_43 : decode cX8_fillFor 43 = .ok (.getfield 18, 3) := by decide +kernel
theorem dX8_fillFor_46 : decode cX8_fillFor 46 = .ok (.bipush 6, 2) := by decide +kernel
theorem dX8_fillFor_48 : decode cX8_fillFor 48 = .ok (.isub, 1) := by decide +kernel
theorem dX8_fillFor_49 : decode cX8_fillFor 49 = .ok (.ishl, 1) := by decide +kernel
theorem dX8_fillFor_50 : decode cX8_fillFor 50 = .ok (.putfield 22, 3) := by decide +kernel
theorem dX8_fillFor_53 : decode cX8_fillFor 53 = .ok (.aload_n 0, 1) := by decide +kernel
theorem dX8_fillFor_54 : decode cX8_fillFor 54 = .ok (.getfield 35, 3) := by decide +kernel
theorem dX8_fillFor_57 : decode cX8_fillFor 57 = .ok (.arraylength, 1) := by decide +kernel
theorem dX8_fillFor_58 : decode cX8_fillFor 58 = .ok (.bipush 56, 2) := by decide +kernel
theorem dX8_fillFor_60 : decode cX8_fillFor 60 = .ok (.aload_n 0, 1) := by decide +kernel
theorem dX8_fillFor_61 : decode cX8_fillFor 61 = .ok (.getfield 22, 3) := by decide +kernel
theorem dX8_fillFor_64 : decode cX8_fillFor 64 = .ok (.imul, 1) := by decide +kernel
theorem dX8_fillFor_65 : decode cX8_fillFor 65 = .ok (.if_icmp .ge 16, 3) := by decide +kernel
theorem dX8_fillFor_68 : decode cX8_fillFor 68 = .ok (.aload_n 0, 1) := by decide +kernel
theorem dX8_fillFor_69 : decode cX8_fillFor 69 = .ok (.bipush 56, 2) := by decide +kernel
theorem dX8_fillFor_71 : decode cX8_fillFor 71 = .ok (.aload_n 0, 1) := by decide +kernel
theorem dX8_fillFor_72 : decode cX8_fillFor 72 = .ok (.getfield 22, 3) := by decide +kernel
theorem dX8_fillFor_75 : decode cX8_fillFor 75 = .ok (.imul, 1) := by decide +kernel
theorem dX8_fillFor_76 : decode cX8_fillFor 76 = .ok (.newarray .long, 2) := by decide +kernel
theorem dX8_fillFor_78 : decode cX8_fillFor 78 = .ok (.putfield 35, 3) := by decide +kernel
theorem dX8_fillFor_81 : decode cX8_fillFor 81 = .ok (.iconst 0, 1) := by decide +kernel
theorem dX8_fillFor_82 : decode cX8_fillFor 82 = .ok (.istore_n 2, 1) := by decide +kernel
theorem dX8_fillFor_83 : decode cX8_fillFor 83 = .ok (.iload_n 2, 1) := by decide +kernel
theorem dX8_fillFor_84 : decode cX8_fillFor 84 = .ok (.aload_n 0, 1) := by decide +kernel
theorem dX8_fillFor_85 : decode cX8_fillFor 85 = .ok (.getfield 18, 3) := by decide +kernel
theorem dX8_fillFor_88 : decode cX8_fillFor 88 = .ok (.if_icmp .ge 14, 3) := by decide +kernel
theorem dX8_fillFor_91 : decode cX8_fillFor 91 = .ok (.aload_n 0, 1) := by decide +kernel
theorem dX8_fillFor_92 : decode cX8_fillFor 92 = .ok (.iload_n 2, 1) := by decide +kernel
theorem dX8_fillFor_93 : decode cX8_fillFor 93 = .ok (.invokevirtual 79, 3) := by decide +kernel
theorem dX8_fillFor_96 : decode cX8_fillFor 96 = .ok (.iinc 2 1, 3) := by decide +kernel
theorem dX8_fillFor_99 : decode cX8_fillFor 99 = .ok (.goto (-16), 3) := by decide +kernel
theorem dX8_fillFor_102 : decode cX8_fillFor 102 = .ok (.iconst 0, 1) := by decide +kernel
theorem dX8_fillFor_103 : decode cX8_fillFor 103 = .ok (.istore_n 2, 1) := by decide +kernel
theorem dX8_fillFor_104 : decode cX8_fillFor 104 = .ok (.iload_n 2, 1) := by decide +kernel
theorem dX8_fillFor_105 : decode cX8_fillFor 105 = .ok (.bipush 56, 2) := by decide +kernel
theorem dX8_fillFor_107 : decode cX8_fillFor 107 = .ok (.if_icmp .ge 26, 3) := by decide +kernel
theorem dX8_fillFor_110 : decode cX8_fillFor 110 = .ok (.aload_n 0, 1) := by decide +kernel
theorem dX8_fillFor_111 : decode cX8_fillFor 111 = .ok (.getfield 39, 3) := by decide +kernel
theorem dX8_fillFor_114 : decode cX8_fillFor 114 = .ok (.iload_n 2, 1) := by decide +kernel
theorem dX8_fillFor_115 : decode cX8_fillFor 115 = .ok (.iload_n 2, 1) := by decide +kernel
theorem dX8_fillFor_116 : decode cX8_fillFor 116 = .ok (.bipush 16, 2) := by decide +kernel
theorem dX8_fillFor_118 : decode cX8_fillFor 118 = .ok (.if_icmp .ge 7, 3) := by decide +kernel
theorem dX8_fillFor_121 : decode cX8_fillFor 121 = .ok (.iconst 1, 1) := by decide +kernel
theorem dX8_fillFor_122 : decode cX8_fillFor 122 = .ok (.goto 4, 3) := by decide +kernel
theorem dX8_fillFor_125 : decode cX8_fillFor 125 = .ok (.iconst 0, 1) := by decide +kernel
theorem dX8_fillFor_126 : decode cX8_fillFor 126 = .ok (.bastore, 1) := by decide +kernel
theorem dX8_fillFor_127 : decode cX8_fillFor 127 = .ok (.iinc 2 1, 3) := by decide +kernel
theorem dX8_fillFor_130 : decode cX8_fillFor 130 = .ok (.goto (-26), 3) := by decide +kernel
theorem dX8_fillFor_133 : decode cX8_fillFor 133 = .ok (.aload_n 0, 1) := by decide +kernel
theorem dX8_fillFor_134 : decode cX8_fillFor 134 = .ok (.invokevirtual 82, 3) := by decide +kernel
theorem dX8_fillFor_137 : decode cX8_fillFor 137 = .ok (.aload_n 0, 1) := by decide +kernel
theorem dX8_fillFor_138 : decode cX8_fillFor 138 = .ok (.iconst 0, 1) := by decide +kernel
theorem dX8_fillFor_139 : decode cX8_fillFor 139 = .ok (.putfield 31, 3) := by decide +kernel
theorem dX8_fillFor_142 : decode cX8_fillFor 142 = .ok (.iconst 0, 1) := by decide +kernel
theorem dX8_fillFor_143 : decode cX8_fillFor 143 = .ok (.istore_n 2, 1) := by decide +kernel
theorem dX8_fillFor_144 : decode cX8_fillFor 144 = .ok (.iload_n 2, 1) := by decide +kernel
theorem dX8_fillFor_145 : decode cX8_fillFor 145 = .ok (.aload_n 0, 1) := by decide +kernel
theorem dX8_fillFor_146 : decode cX8_fillFor 146 = .ok (.getfield 25, 3) := by decide +kernel
theorem dX8_fillFor_149 : decode cX8_fillFor 149 = .ok (.if_icmp .gt 108, 3) := by decide +kernel
theorem dX8_fillFor_152 : decode cX8_fillFor 152 = .ok (.aload_n 0, 1) := by decide +kernel
theorem dX8_fillFor_153 : decode cX8_fillFor 153 = .ok (.getfield 45, 3) := by decide +kernel
theorem dX8_fillFor_156 : decode cX8_fillFor 156 = .ok (.iload_n 2, 1) := by decide +kernel
theorem dX8_fillFor_157 : decode cX8_fillFor 157 = .ok (.baload, 1) := by decide +kernel
theorem dX8_fillFor_158 : decode cX8_fillFor 158 = .ok (.ifCond .ne 6, 3) := by decide +kernel
theorem dX8_fillFor_161 : decode cX8_fillFor 161 = .ok (.goto 90, 3) := by decide +kernel
theorem dX8_fillFor_164 : decode cX8_fillFor 164 = .ok (.aload_n 0, 1) := by decide +kernel
theorem dX8_fillFor_165 : decode cX8_fillFor 165 = .ok (.getfield 62, 3) := by decide +kernel
theorem dX8_fillFor_168 : decode cX8_fillFor 168 = .ok (.getfield 85, 3) := by decide +kernel
theorem dX8_fillFor_171 : decode cX8_fillFor 171 = .ok (.iload_n 2, 1) := by decide +kernel
theorem dX8_fillFor_172 : decode cX8_fillFor 172 = .ok (.iaload, 1) := by decide +kernel
theorem dX8_fillFor_173 : decode cX8_fillFor 173 = .ok (.ifCond .ne 26, 3) := by decide +kernel
theorem dX8_fillFor_176 : decode cX8_fillFor 176 = .ok (.aload_n 0, 1) := by decide +kernel
theorem dX8_fillFor_177 : decode cX8_fillFor 177 = .ok (.getfield 51, 3) := by decide +kernel
theorem dX8_fillFor_180 : decode cX8_fillFor 180 = .ok (.iload_n 2, 1) := by decide +kernel
theorem dX8_fillFor_181 : decode cX8_fillFor 181 = .ok (.aload_n 0, 1) := by decide +kernel
theorem dX8_fillFor_182 : decode cX8_fillFor 182 = .ok (.getfield 15, 3) := by decide +kernel
theorem dX8_fillFor_185 : decode cX8_fillFor 185 = .ok (.aload_n 0, 1) := by decide +kernel
theorem dX8_fillFor_186 : decode cX8_fillFor 186 = .ok (.getfield 62, 3) := by decide +kernel
theorem dX8_fillFor_189 : decode cX8_fillFor 189 = .ok (.getfield 88, 3) := by decide +kernel
theorem dX8_fillFor_192 : decode cX8_fillFor 192 = .ok (.iload_n 2, 1) := by decide +kernel
theorem dX8_fillFor_193 : decode cX8_fillFor 193 = .ok (.iaload, 1) := by decide +kernel
theorem dX8_fillFor_194 : decode cX8_fillFor 194 = .ok (.iaload, 1) := by decide +kernel
theorem dX8_fillFor_195 : decode cX8_fillFor 195 = .ok (.iastore, 1) := by decide +kernel
theorem dX8_fillFor_196 : decode cX8_fillFor 196 = .ok (.goto 55, 3) := by decide +kernel
theorem dX8_fillFor_199 : decode cX8_fillFor 199 = .ok (.aload_n 0, 1) := by decide +kernel
theorem dX8_fillFor_200 : decode cX8_fillFor 200 = .ok (.iload_n 2, 1) := by decide +kernel
theorem dX8_fillFor_201 : decode cX8_fillFor 201 = .ok (.invokevirtual 91, 3) := by decide +kernel
theorem dX8_fillFor_204 : decode cX8_fillFor 204 = .ok (.aload_n 0, 1) := by decide +kernel
theorem dX8_fillFor_205 : decode cX8_fillFor 205 = .ok (.getfield 54, 3) := by decide +kernel
theorem dX8_fillFor_208 : decode cX8_fillFor 208 = .ok (.iload_n 2, 1) := by decide +kernel
theorem dX8_fillFor_209 : decode cX8_fillFor 209 = .ok (.iaload, 1) := by decide +kernel
theorem dX8_fillFor_210 : decode cX8_fillFor 210 = .ok (.ifCond .ne 24, 3) := by decide +kernel
theorem dX8_fillFor_213 : decode cX8_fillFor 213 = .ok (.aload_n 0, 1) := by decide +kernel
theorem dX8_fillFor_214 : decode cX8_fillFor 214 = .ok (.getfield 54, 3) := by decide +kernel
theorem dX8_fillFor_217 : decode cX8_fillFor 217 = .ok (.iload_n 2, 1) := by decide +kernel
theorem dX8_fillFor_218 : decode cX8_fillFor 218 = .ok (.aload_n 0, 1) := by decide +kernel
theorem dX8_fillFor_219 : decode cX8_fillFor 219 = .ok (.aload_n 0, 1) := by decide +kernel
theorem dX8_fillFor_220 : decode cX8_fillFor 220 = .ok (.getfield 51, 3) := by decide +kernel
theorem dX8_fillFor_223 : decode cX8_fillFor 223 = .ok (.iload_n 2, 1) := by decide +kernel
theorem dX8_fillFor_224 : decode cX8_fillFor 224 = .ok (.iaload, 1) := by decide +kernel
theorem dX8_fillFor_225 : decode cX8_fillFor 225 = .ok (.aload_n 0, 1) := by decide +kernel
theorem dX8_fillFor_226 : decode cX8_fillFor 226 = .ok (.getfield 22, 3) := by decide +kernel
theorem dX8_fillFor_229 : decode cX8_fillFor 229 = .ok (.imul, 1) := by decide +kernel
theorem dX8_fillFor_230 : decode cX8_fillFor 230 = .ok (.invokevirtual 94, 3) := by decide +kernel
theorem dX8_fillFor_233 : decode cX8_fillFor 233 = .ok (.iastore, 1) := by decide +kernel
theorem dX8_fillFor_234 : decode cX8_fillFor 234 = .ok (.aload_n 0, 1) := by decide +kernel
theorem dX8_fillFor_235 : decode cX8_fillFor 235 = .ok (.getfield 54, 3) := by decide +kernel
theorem dX8_fillFor_238 : decode cX8_fillFor 238 = .ok (.iload_n 2, 1) := by decide +kernel
theorem dX8_fillFor_239 : decode cX8_fillFor 239 = .ok (.iaload, 1) := by decide +kernel
theorem dX8_fillFor_240 : decode cX8_fillFor 240 = .ok (.sipush 200, 3) := by decide +kernel
theorem dX8_fillFor_243 : decode cX8_fillFor 243 = .ok (.if_icmp .le 8, 3) := by decide +kernel
theorem dX8_fillFor_246 : decode cX8_fillFor 246 = .ok (.aload_n 0, 1) := by decide +kernel
theorem dX8_fillFor_247 : decode cX8_fillFor 247 = .ok (.iconst 1, 1) := by decide +kernel
theorem dX8_fillFor_248 : decode cX8_fillFor 248 = .ok (.putfield 31, 3) := by decide +kernel
theorem dX8_fillFor_251 : decode cX8_fillFor 251 = .ok (.iinc 2 1, 3) := by decide +kernel
theorem dX8_fillFor_254 : decode cX8_fillFor 254 = .ok (.goto (-110), 3) := by decide +kernel
theorem dX8_fillFor_257 : decode cX8_fillFor 257 = .ok (.aload_n 0, 1) := by decide +kernel
theorem dX8_fillFor_258 : decode cX8_fillFor 258 = .ok (.aload_n 0, 1) := by decide +kernel
theorem dX8_fillFor_259 : decode cX8_fillFor 259 = .ok (.getfield 51, 3) := by decide +kernel
theorem dX8_fillFor_262 : decode cX8_fillFor 262 = .ok (.aload_n 0, 1) := by decide +kernel
theorem dX8_fillFor_263 : decode cX8_fillFor 263 = .ok (.getfield 25, 3) := by decide +kernel
theorem dX8_fillFor_266 : decode cX8_fillFor 266 = .ok (.iaload, 1) := by decide +kernel
theorem dX8_fillFor_267 : decode cX8_fillFor 267 = .ok (.aload_n 0, 1) := by decide +kernel
theorem dX8_fillFor_268 : decode cX8_fillFor 268 = .ok (.getfield 22, 3) := by decide +kernel
theorem dX8_fillFor_271 : decode cX8_fillFor 271 = .ok (.imul, 1) := by decide +kernel
theorem dX8_fillFor_272 : decode cX8_fillFor 272 = .ok (.putfield 28, 3) := by decide +kernel
theorem dX8_fillFor_275 : decode cX8_fillFor 275 = .ok (.return_, 1) := by decide +kernel
theorem dX8_rankSteps_0 : decode cX8_rankSteps 0 = .ok (.aload_n 0, 1) := by decide +kernel
theorem dX8_rankSteps_1 : decode cX8_rankSteps 1 = .ok (.iconst 0, 1) := by decide +kernel
theorem dX8_rankSteps_2 : decode cX8_rankSteps 2 = .ok (.putfield 18, 3) := by decide +kernel
theorem dX8_rankSteps_5 : decode cX8_rankSteps 5 = .ok (.iconst 0, 1) := by decide +kernel
theorem dX8_rankSteps_6 : decode cX8_rankSteps 6 = .ok (.istore_n 2, 1) := by decide +kernel
theorem dX8_rankSteps_7 : decode cX8_rankSteps 7 = .ok (.iload_n 2, 1) := by decide +kernel
theorem dX8_rankSteps_8 : decode cX8_rankSteps 8 = .ok (.bipush 16, 2) := by decide +kernel
theorem dX8_rankSteps_10 : decode cX8_rankSteps 10 = .ok (.if_icmp .ge 48, 3) := by decide +kernel
theorem dX8_rankSteps_13 : decode cX8_rankSteps 13 = .ok (.iload_n 1, 1) := by decide +kernel
theorem dX8_rankSteps_14 : decode cX8_rankSteps 14 = .ok (.iload_n 2, 1) := by decide +kernel
theorem dX8_rankSteps_15 : decode cX8_rankSteps 15 = .ok (.ishr, 1) := by decide +kernel
theorem dX8_rankSteps_16 : decode cX8_rankSteps 16 = .ok (.iconst 1, 1) := by decide +kernel
theorem dX8_rankSteps_17 : decode cX8_rankSteps 17 = .ok (.iand, 1) := by decide +kernel
theorem dX8_rankSteps_18 : decode cX8_rankSteps 18 = .ok (.iconst 1, 1) := by decide +kernel
theorem dX8_rankSteps_19 : decode cX8_rankSteps 19 = .ok (.if_icmp .ne 33, 3) := by decide +kernel
theorem dX8_rankSteps_22 : decode cX8_rankSteps 22 = .ok (.aload_n 0, 1) := by decide +kernel
theorem dX8_rankSteps_23 : decode cX8_rankSteps 23 = .ok (.getfield 9, 3) := by decide +kernel
theorem dX8_rankSteps_26 : decode cX8_rankSteps 26 = .ok (.aload_n 0, 1) := by decide +kernel
theorem dX8_rankSteps_27 : decode cX8_rankSteps 27 = .ok (.getfield 18, 3) := by decide +kernel
theorem dX8_rankSteps_30 : decode cX8_rankSteps 30 = .ok (.iload_n 2, 1) := by decide +kernel
theorem dX8_rankSteps_31 : decode cX8_rankSteps 31 = .ok (.iastore, 1) := by decide +kernel
theorem dX8_rankSteps_32 : decode cX8_rankSteps 32 = .ok (.aload_n 0, 1) := by decide +kernel
theorem dX8_rankSteps_33 : decode cX8_rankSteps 33 = .ok (.getfield 15, 3) := by decide +kernel
theorem dX8_rankSteps_36 : decode cX8_rankSteps 36 = .ok (.iload_n 2, 1) := by decide +kernel
theorem dX8_rankSteps_37 : decode cX8_rankSteps 37 = .ok (.aload_n 0, 1) := by decide +kernel
theorem dX8_rankSteps_38 : decode cX8_rankSteps 38 = .ok (.getfield 18, 3) := by decide +kernel
theorem dX8_rankSteps_41 : decode cX8_rankSteps 41 = .ok (.iastore, 1) := by decide +kernel
theorem dX8_rankSteps_42 : decode cX8_rankSteps 42 = .ok (.aload_n 0, 1) := by decide +kernel
theorem dX8_rankSteps_43 : decode cX8_rankSteps 43 = .ok (.dup, 1) := by decide +kernel
theorem dX8_rankSteps_44 : decode cX8_rankSteps 44 = .ok (.getfield 18, 3) := by decide +kernel
theorem dX8_rankSteps_47 : decode cX8_rankSteps 47 = .ok (.iconst 1, 1) := by decide +kernel
theorem dX8_rankSteps_48 : decode cX8_rankSteps 48 = .ok (.iadd, 1) := by decide +kernel
theorem dX8_rankSteps_49 : decode cX8_rankSteps 49 = .ok (.putfield 18, 3) := by decide +kernel
theorem dX8_rankSteps_52 : decode cX8_rankSteps 52 = .ok (.iinc 2 1, 3) := by decide +kernel
theorem dX8_rankSteps_55 : decode cX8_rankSteps 55 = .ok (.goto (-48), 3) := by decide +kernel
theorem dX8_rankSteps_58 : decode cX8_rankSteps 58 = .ok (.return_, 1) := by decide +kernel
theorem dX8_fillStep_0 : decode cX8_fillStep 0 = .ok (.iconst 0, 1) := by decide +kernel
theorem dX8_fillStep_1 : decode cX8_fillStep 1 = .ok (.istore_n 2, 1) := by decide +kernel
theorem dX8_fillStep_2 : decode cX8_fillStep 2 = .ok (.iload_n 2, 1) := by decide +kernel
theorem dX8_fillStep_3 : decode cX8_fillStep 3 = .ok (.aload_n 0, 1) := by decide +kernel
theorem dX8_fillStep_4 : decode cX8_fillStep 4 = .ok (.getfield 22, 3) := by decide +kernel
theorem dX8_fillStep_7 : decode cX8_fillStep 7 = .ok (.if_icmp .ge 66, 3) := by decide +kernel
theorem dX8_fillStep_10 : decode cX8_fillStep 10 = .ok (.iload_n 1, 1) := by decide +kernel
theorem dX8_fillStep_11 : decode cX8_fillStep 11 = .ok (.getstatic 98, 3) := by decide +kernel
theorem dX8_fillStep_14 : decode cX8_fillStep 14 = .ok (.arraylength, 1) := by decide +kernel
theorem dX8_fillStep_15 : decode cX8_fillStep 15 = .ok (.if_icmp .ge 24, 3) := by decide +kernel
theorem dX8_fillStep_18 : decode cX8_fillStep 18 = .ok (.aload_n 0, 1) := by decide +kernel
theorem dX8_fillStep_19 : decode cX8_fillStep 19 = .ok (.getfield 35, 3) := by decide +kernel
theorem dX8_fillStep_22 : decode cX8_fillStep 22 = .ok (.iload_n 1, 1) := by decide +kernel
theorem dX8_fillStep_23 : decode cX8_fillStep 23 = .ok (.aload_n 0, 1) := by decide +kernel
theorem dX8_fillStep_24 : decode cX8_fillStep 24 = .ok (.getfield 22, 3) := by decide +kernel
theorem dX8_fillStep_27 : decode cX8_fillStep 27 = .ok (.imul, 1) := by decide +kernel
theorem dX8_fillStep_28 : decode cX8_fillStep 28 = .ok (.iload_n 2, 1) := by decide +kernel
theorem dX8_fillStep_29 : decode cX8_fillStep 29 = .ok (.iadd, 1) := by decide +kernel
theorem dX8_fillStep_30 : decode cX8_fillStep 30 = .ok (.getstatic 98, 3) := by decide +kernel
theorem dX8_fillStep_33 : decode cX8_fillStep 33 = .ok (.iload_n 1, 1) := by decide +kernel
theorem dX8_fillStep_34 : decode cX8_fillStep 34 = .ok (.laload, 1) := by decide +kernel
theorem dX8_fillStep_35 : decode cX8_fillStep 35 = .ok (.lastore, 1) := by decide +kernel
theorem dX8_fillStep_36 : decode cX8_fillStep 36 = .ok (.goto 31, 3) := by decide +kernel
theorem dX8_fillStep_39 : decode cX8_fillStep 39 = .ok (.aload_n 0, 1) := by decide +kernel
theorem dX8_fillStep_40 : decode cX8_fillStep 40 = .ok (.getfield 35, 3) := by decide +kernel
theorem dX8_fillStep_43 : decode cX8_fillStep 43 = .ok (.iload_n 1, 1) := by decide +kernel
theorem dX8_fillStep_44 : decode cX8_fillStep 44 = .ok (.aload_n 0, 1) := by decide +kernel
theorem dX8_fillStep_45 : decode cX8_fillStep 45 = .ok (.getfield 22, 3) := by decide +kernel
theorem dX8_fillStep_48 : decode cX8_fillStep 48 = .ok (.imul, 1) := by decide +kernel
theorem dX8_fillStep_49 : decode cX8_fillStep 49 = .ok (.iload_n 2, 1) := by decide +kernel
theorem dX8_fillStep_50 : decode cX8_fillStep 50 = .ok (.iadd, 1) := by decide +kernel
theorem dX8_fillStep_51 : decode cX8_fillStep 51 = .ok (.iload_n 2, 1) := by decide +kernel
theorem dX8_fillStep_52 : decode cX8_fillStep 52 = .ok (.iload_n 1, 1) := by decide +kernel
theorem dX8_fillStep_53 : decode cX8_fillStep 53 = .ok (.invokestatic 101, 3) := by decide +kernel
theorem dX8_fillStep_56 : decode cX8_fillStep 56 = .ok (.ifCond .eq 9, 3) := by decide +kernel
theorem dX8_fillStep_59 : decode cX8_fillStep 59 = .ok (.ldc2_w 105, 3) := by decide +kernel
theorem dX8_fillStep_62 : decode cX8_fillStep 62 = .ok (.goto 4, 3) := by decide +kernel
theorem dX8_fillStep_65 : decode cX8_fillStep 65 = .ok (.lconst 0, 1) := by decide +kernel
theorem dX8_fillStep_66 : decode cX8_fillStep 66 = .ok (.lastore, 1) := by decide +kernel
theorem dX8_fillStep_67 : decode cX8_fillStep 67 = .ok (.iinc 2 1, 3) := by decide +kernel
theorem dX8_fillStep_70 : decode cX8_fillStep 70 = .ok (.goto (-68), 3) := by decide +kernel
theorem dX8_fillStep_73 : decode cX8_fillStep 73 = .ok (.return_, 1) := by decide +kernel
theorem dX8_hasRank_0 : decode cX8_hasRank 0 = .ok (.iload_n 0, 1) := by decide +kernel
theorem dX8_hasRank_1 : decode cX8_hasRank 1 = .ok (.iload_n 1, 1) := by decide +kernel
theorem dX8_hasRank_2 : decode cX8_hasRank 2 = .ok (.getstatic 98, 3) := by decide +kernel
theorem dX8_hasRank_5 : decode cX8_hasRank 5 = .ok (.arraylength, 1) := by decide +kernel
theorem dX8_hasRank_6 : decode cX8_hasRank 6 = .ok (.isub, 1) := by decide +kernel
theorem dX8_hasRank_7 : decode cX8_hasRank 7 = .ok (.ishr, 1) := by decide +kernel
theorem dX8_hasRank_8 : decode cX8_hasRank 8 = .ok (.iconst 1, 1) := by decide +kernel
theorem dX8_hasRank_9 : decode cX8_hasRank 9 = .ok (.iand, 1) := by decide +kernel
theorem dX8_hasRank_10 : decode cX8_hasRank 10 = .ok (.iconst 1, 1) := by decide +kernel
theorem dX8_hasRank_11 : decode cX8_hasRank 11 = .ok (.if_icmp .ne 7, 3) := by decide +kernel
theorem dX8_hasRank_14 : decode cX8_hasRank 14 = .ok (.iconst 1, 1) := by decide +kernel
theorem dX8_hasRank_15 : decode cX8_hasRank 15 = .ok (.goto 4, 3) := by decide +kernel
theorem dX8_hasRank_18 : decode cX8_hasRank 18 = .ok (.iconst 0, 1) := by decide +kernel
theorem dX8_hasRank_19 : decode cX8_hasRank 19 = .ok (.ireturn, 1) := by decide +kernel
theorem dX8_markNeeded_0 : decode cX8_markNeeded 0 = .ok (.iconst 0, 1) := by decide +kernel
theorem dX8_markNeeded_1 : decode cX8_markNeeded 1 = .ok (.istore_n 1, 1) := by decide +kernel
theorem dX8_markNeeded_2 : decode cX8_markNeeded 2 = .ok (.iload_n 1, 1) := by decide +kernel
theorem dX8_markNeeded_3 : decode cX8_markNeeded 3 = .ok (.aload_n 0, 1) := by decide +kernel
theorem dX8_markNeeded_4 : decode cX8_markNeeded 4 = .ok (.getfield 25, 3) := by decide +kernel
theorem dX8_markNeeded_7 : decode cX8_markNeeded 7 = .ok (.if_icmp .ge 16, 3) := by decide +kernel
theorem dX8_markNeeded_10 : decode cX8_markNeeded 10 = .ok (.aload_n 0, 1) := by decide +kernel
theorem dX8_markNeeded_11 : decode cX8_markNeeded 11 = .ok (.getfield 45, 3) := by decide +kernel
theorem dX8_markNeeded_14 : decode cX8_markNeeded 14 = .ok (.iload_n 1, 1) := by decide +kernel
theorem dX8_markNeeded_15 : decode cX8_markNeeded 15 = .ok (.iconst 0, 1) := by decide +kernel
theorem dX8_markNeeded_16 : decode cX8_markNeeded 16 = .ok (.bastore, 1) := by decide +kernel
theorem dX8_markNeeded_17 : decode cX8_markNeeded 17 = .ok (.iinc 1 1, 3) := by decide +kernel
theorem dX8_markNeeded_20 : decode cX8_markNeeded 20 = .ok (.goto (-18), 3) := by decide +kernel
theorem dX8_markNeeded_23 : decode cX8_markNeeded 23 = .ok (.aload_n 0, 1) := by decide +kernel
theorem dX8_markNeeded_24 : decode cX8_markNeeded 24 = .ok (.getfield 45, 3) := by decide +kernel
theorem dX8_markNeeded_27 : decode cX8_markNeeded 27 = .ok (.aload_n 0, 1) := by decide +kernel
theorem dX8_markNeeded_28 : decode cX8_markNeeded 28 = .ok (.getfield 25, 3) := by decide +kernel
theorem dX8_markNeeded_31 : decode cX8_markNeeded 31 = .ok (.iconst 1, 1) := by decide +kernel
theorem dX8_markNeeded_32 : decode cX8_markNeeded 32 = .ok (.bastore, 1) := by decide +kernel
theorem dX8_markNeeded_33 : decode cX8_markNeeded 33 = .ok (.aload_n 0, 1) := by decide +kernel
theorem dX8_markNeeded_34 : decode cX8_markNeeded 34 = .ok (.getfield 25, 3) := by decide +kernel
theorem dX8_markNeeded_37 : decode cX8_markNeeded 37 = .ok (.istore_n 1, 1) := by decide +kernel
theorem dX8_markNeeded_38 : decode cX8_markNeeded 38 = .ok (.iload_n 1, 1) := by decide +kernel
theorem dX8_markNeeded_39 : decode cX8_markNeeded 39 = .ok (.ifCond .lt 94, 3) := by decide +kernel
theorem dX8_markNeeded_42 : decode cX8_markNeeded 42 = .ok (.aload_n 0, 1) := by decide +kernel
theorem dX8_markNeeded_43 : decode cX8_markNeeded 43 = .ok (.getfield 45, 3) := by decide +kernel
theorem dX8_markNeeded_46 : decode cX8_markNeeded 46 = .ok (.iload_n 1, 1) := by decide +kernel
theorem dX8_markNeeded_47 : decode cX8_markNeeded 47 = .ok (.baload, 1) := by decide +kernel
theorem dX8_markNeeded_48 : decode cX8_markNeeded 48 = .ok (.ifCond .eq 27, 3) := by decide +kernel
theorem dX8_markNeeded_51 : decode cX8_markNeeded 51 = .ok (.aload_n 0, 1) := by decide +kernel
theorem dX8_markNeeded_52 : decode cX8_markNeeded 52 = .ok (.getfield 62, 3) := by decide +kernel
theorem dX8_markNeeded_55 : decode cX8_markNeeded 55 = .ok (.getfield 85, 3) := by decide +kernel
theorem dX8_markNeeded_58 : decode cX8_markNeeded 58 = .ok (.iload_n 1, 1) := by decide +kernel
theorem dX8_markNeeded_59 : decode cX8_markNeeded 59 = .ok (.iaload, 1) := by decide +kernel
theorem dX8_markNeeded_60 : decode cX8_markNeeded 60 = .ok (.ifCond .eq 15, 3) := by decide +kernel
theorem dX8_markNeeded_63 : decode cX8_markNeeded 63 = .ok (.aload_n 0, 1) := by decide +kernel
theorem dX8_markNeeded_64 : decode cX8_markNeeded 64 = .ok (.getfield 62, 3) := by decide +kernel
theorem dX8_markNeeded_67 : decode cX8_markNeeded 67 = .ok (.getfield 88, 3) := by decide +kernel
theorem dX8_markNeeded_70 : decode cX8_markNeeded 70 = .ok (.iload_n 1, 1) := by decide +kernel
theorem dX8_markNeeded_71 : decode cX8_markNeeded 71 = .ok (.iaload, 1) := by decide +kernel
theorem dX8_markNeeded_72 : decode cX8_markNeeded 72 = .ok (.goto 4, 3) := by decide +kernel
theorem dX8_markNeeded_75 : decode cX8_markNeeded 75 = .ok (.iconst 0, 1) := by decide +kernel
theorem dX8_markNeeded_76 : decode cX8_markNeeded 76 = .ok (.istore_n 2, 1) := by decide +kernel
theorem dX8_markNeeded_77 : decode cX8_markNeeded 77 = .ok (.iconst 0, 1) := by decide +kernel
theorem dX8_markNeeded_78 : decode cX8_markNeeded 78 = .ok (.istore_n 3, 1) := by decide +kernel
theorem dX8_markNeeded_79 : decode cX8_markNeeded 79 = .ok (.iload_n 3, 1) := by decide +kernel
theorem dX8_markNeeded_80 : decode cX8_markNeeded 80 = .ok (.iload_n 2, 1) := by decide +kernel
theorem dX8_markNeeded_81 : decode cX8_markNeeded 81 = .ok (.if_icmp .ge 46, 3) := by decide +kernel
theorem dX8_markNeeded_84 : decode cX8_markNeeded 84 = .ok (.aload_n 0, 1) := by decide +kernel
theorem dX8_markNeeded_85 : decode cX8_markNeeded 85 = .ok (.getfield 62, 3) := by decide +kernel
theorem dX8_markNeeded_88 : decode cX8_markNeeded 88 = .ok (.iload_n 1, 1) := by decide +kernel
theorem dX8_markNeeded_89 : decode cX8_markNeeded 89 = .ok (.iload_n 3, 1) := by decide +kernel
theorem dX8_markNeeded_90 : decode cX8_markNeeded 90 = .ok (.invokevirtual 107, 3) := by decide +kernel
theorem dX8_markNeeded_93 : decode cX8_markNeeded 93 = .ok (.istore 4, 2) := by decide +kernel
theorem dX8_markNeeded_95 : decode cX8_markNeeded 95 = .ok (.aload_n 0, 1) := by decide +kernel
theorem dX8_markNeeded_96 : decode cX8_markNeeded 96 = .ok (.getfield 45, 3) := by decide +kernel
theorem dX8_markNeeded_99 : decode cX8_markNeeded 99 = .ok (.iload 4, 2) := by decide +kernel
theorem dX8_markNeeded_101 : decode cX8_markNeeded 101 = .ok (.baload, 1) := by decide +kernel
theorem dX8_markNeeded_102 : decode cX8_markNeeded 102 = .ok (.ifCond .ne 11, 3) := by decide +kernel
theorem dX8_markNeeded_105 : decode cX8_markNeeded 105 = .ok (.aload_n 0, 1) := by decide +kernel
theorem dX8_markNeeded_106 : decode cX8_markNeeded 106 = .ok (.getfield 48, 3) := by decide +kernel
theorem dX8_markNeeded_109 : decode cX8_markNeeded 109 = .ok (.iload 4, 2) := by decide +kernel
theorem dX8_markNeeded_111 : decode cX8_markNeeded 111 = .ok (.iload_n 1, 1) := by decide +kernel
theorem dX8_markNeeded_112 : decode cX8_markNeeded 112 = .ok (.iastore, 1) := by decide +kernel
theorem dX8_markNeeded_113 : decode cX8_markNeeded 113 = .ok (.aload_n 0, 1) := by decide +kernel
theorem dX8_markNeeded_114 : decode cX8_markNeeded 114 = .ok (.getfield 45, 3) := by decide +kernel
theorem dX8_markNeeded_117 : decode cX8_markNeeded 117 = .ok (.iload 4, 2) := by decide +kernel
theorem dX8_markNeeded_119 : decode cX8_markNeeded 119 = .ok (.iconst 1, 1) := by decide +kernel
theorem dX8_markNeeded_120 : decode cX8_markNeeded 120 = .ok (.bastore, 1) := by decide +kernel
theorem dX8_markNeeded_121 : decode cX8_markNeeded 121 = .ok (.iinc 3 1, 3) := by decide +kernel
theorem dX8_markNeeded_124 : decode cX8_markNeeded 124 = .ok (.goto (-45), 3) := by decide +kernel
theorem dX8_markNeeded_127 : decode cX8_markNeeded 127 = .ok (.iinc 1 (-1), 3) := by decide +kernel
theorem dX8_markNeeded_130 : decode cX8_markNeeded 130 = .ok (.goto (-92), 3) := by decide +kernel
theorem dX8_markNeeded_133 : decode cX8_markNeeded 133 = .ok (.return_, 1) := by decide +kernel
theorem dX8_fillKnot_0 : decode cX8_fillKnot 0 = .ok (.bipush 16, 2) := by decide +kernel
theorem dX8_fillKnot_2 : decode cX8_fillKnot 2 = .ok (.istore_n 2, 1) := by decide +kernel
theorem dX8_fillKnot_3 : decode cX8_fillKnot 3 = .ok (.iload_n 2, 1) := by decide +kernel
theorem dX8_fillKnot_4 : decode cX8_fillKnot 4 = .ok (.bipush 55, 2) := by decide +kernel
theorem dX8_fillKnot_6 : decode cX8_fillKnot 6 = .ok (.if_icmp .ge 18, 3) := by decide +kernel
theorem dX8_fillKnot_9 : decode cX8_fillKnot 9 = .ok (.aload_n 0, 1) := by decide +kernel
theorem dX8_fillKnot_10 : decode cX8_fillKnot 10 = .ok (.getfield 39, 3) := by decide +kernel
theorem dX8_fillKnot_13 : decode cX8_fillKnot 13 = .ok (.iload_n 2, 1) := by decide +kernel
theorem dX8_fillKnot_14 : decode cX8_fillKnot 14 = .ok (.baload, 1) := by decide +kernel
theorem dX8_fillKnot_15 : decode cX8_fillKnot 15 = .ok (.ifCond .eq 9, 3) := by decide +kernel
theorem dX8_fillKnot_18 : decode cX8_fillKnot 18 = .ok (.iinc 2 1, 3) := by decide +kernel
theorem dX8_fillKnot_21 : decode cX8_fillKnot 21 = .ok (.goto (-18), 3) := by decide +kernel
theorem dX8_fillKnot_24 : decode cX8_fillKnot 24 = .ok (.aload_n 0, 1) := by decide +kernel
theorem dX8_fillKnot_25 : decode cX8_fillKnot 25 = .ok (.getfield 39, 3) := by decide +kernel
theorem dX8_fillKnot_28 : decode cX8_fillKnot 28 = .ok (.iload_n 2, 1) := by decide +kernel
theorem dX8_fillKnot_29 : decode cX8_fillKnot 29 = .ok (.iconst 1, 1) := by decide +kernel
theorem dX8_fillKnot_30 : decode cX8_fillKnot 30 = .ok (.bastore, 1) := by decide +kernel
theorem dX8_fillKnot_31 : decode cX8_fillKnot 31 = .ok (.aload_n 0, 1) := by decide +kernel
theorem dX8_fillKnot_32 : decode cX8_fillKnot 32 = .ok (.getfield 51, 3) := by decide +kernel
theorem dX8_fillKnot_35 : decode cX8_fillKnot 35 = .ok (.iload_n 1, 1) := by decide +kernel
theorem dX8_fillKnot_36 : decode cX8_fillKnot 36 = .ok (.iload_n 2, 1) := by decide +kernel
theorem dX8_fillKnot_37 : decode cX8_fillKnot 37 = .ok (.iastore, 1) := by decide +kernel
theorem dX8_fillKnot_38 : decode cX8_fillKnot 38 = .ok (.aload_n 0, 1) := by decide +kernel
theorem dX8_fillKnot_39 : decode cX8_fillKnot 39 = .ok (.getfield 62, 3) := by decide +kernel
theorem dX8_fillKnot_42 : decode cX8_fillKnot 42 = .ok (.getfield 85, 3) := by decide +kernel
theorem dX8_fillKnot_45 : decode cX8_fillKnot 45 = .ok (.iload_n 1, 1) := by decide +kernel
theorem dX8_fillKnot_46 : decode cX8_fillKnot 46 = .ok (.iaload, 1) := by decide +kernel
theorem dX8_fillKnot_47 : decode cX8_fillKnot 47 = .ok (.iconst 4, 1) := by decide +kernel
theorem dX8_fillKnot_48 : decode cX8_fillKnot 48 = .ok (.if_icmp .ne 11, 3) := by decide +kernel
theorem dX8_fillKnot_51 : decode cX8_fillKnot 51 = .ok (.aload_n 0, 1) := by decide +kernel
theorem dX8_fillKnot_52 : decode cX8_fillKnot 52 = .ok (.iload_n 1, 1) := by decide +kernel
theorem dX8_fillKnot_53 : decode cX8_fillKnot 53 = .ok (.invokevirtual 111, 3) := by decide +kernel
theorem dX8_fillKnot_56 : decode cX8_fillKnot 56 = .ok (.goto 8, 3) := by decide +kernel
theorem dX8_fillKnot_59 : decode cX8_fillKnot 59 = .ok (.aload_n 0, 1) := by decide +kernel
theorem dX8_fillKnot_60 : decode cX8_fillKnot 60 = .ok (.iload_n 1, 1) := by decide +kernel
theorem dX8_fillKnot_61 : decode cX8_fillKnot 61 = .ok (.invokevirtual 114, 3) := by decide +kernel
theorem dX8_fillKnot_64 : decode cX8_fillKnot 64 = .ok (.iconst 0, 1) := by decide +kernel
theorem dX8_fillKnot_65 : decode cX8_fillKnot 65 = .ok (.istore_n 3, 1) := by decide +kernel
theorem dX8_fillKnot_66 : decode cX8_fillKnot 66 = .ok (.iload_n 3, 1) := by decide +kernel
theorem dX8_fillKnot_67 : decode cX8_fillKnot 67 = .ok (.aload_n 0, 1) := by decide +kernel
theorem dX8_fillKnot_68 : decode cX8_fillKnot 68 = .ok (.getfield 62, 3) := by decide +kernel
theorem dX8_fillKnot_71 : decode cX8_fillKnot 71 = .ok (.getfield 88, 3) := by decide +kernel
theorem dX8_fillKnot_74 : decode cX8_fillKnot 74 = .ok (.iload_n 1, 1) := by decide +kernel
theorem dX8_fillKnot_75 : decode cX8_fillKnot 75 = .ok (.iaload, 1) := by decide +kernel
theorem dX8_fillKnot_76 : decode cX8_fillKnot 76 = .ok (.if_icmp .ge 57, 3) := by decide +kernel
theorem dX8_fillKnot_79 : decode cX8_fillKnot 79 = .ok (.aload_n 0, 1) := by decide +kernel
theorem dX8_fillKnot_80 : decode cX8_fillKnot 80 = .ok (.getfield 62, 3) := by decide +kernel
theorem dX8_fillKnot_83 : decode cX8_fillKnot 83 = .ok (.iload_n 1, 1) := by decide +kernel
theorem dX8_fillKnot_84 : decode cX8_fillKnot 84 = .ok (.iload_n 3, 1) := by decide +kernel
theorem dX8_fillKnot_85 : decode cX8_fillKnot 85 = .ok (.invokevirtual 107, 3) := by decide +kernel
theorem dX8_fillKnot_88 : decode cX8_fillKnot 88 = .ok (.istore 4, 2) := by decide +kernel
theorem dX8_fillKnot_90 : decode cX8_fillKnot 90 = .ok (.aload_n 0, 1) := by decide +kernel
theorem dX8_fillKnot_91 : decode cX8_fillKnot 91 = .ok (.getfield 62, 3) := by decide +kernel
theorem dX8_fillKnot_94 : decode cX8_fillKnot 94 = .ok (.getfield 85, 3) := by decide +kernel
theorem dX8_fillKnot_97 : decode cX8_fillKnot 97 = .ok (.iload 4, 2) := by decide +kernel
theorem dX8_fillKnot_99 : decode cX8_fillKnot 99 = .ok (.iaload, 1) := by decide +kernel
theorem dX8_fillKnot_100 : decode cX8_fillKnot 100 = .ok (.ifCond .eq 27, 3) := by decide +kernel
theorem dX8_fillKnot_103 : decode cX8_fillKnot 103 = .ok (.aload_n 0, 1) := by decide +kernel
theorem dX8_fillKnot_104 : decode cX8_fillKnot 104 = .ok (.getfield 48, 3) := by decide +kernel
theorem dX8_fillKnot_107 : decode cX8_fillKnot 107 = .ok (.iload 4, 2) := by decide +kernel
theorem dX8_fillKnot_109 : decode cX8_fillKnot 109 = .ok (.iaload, 1) := by decide +kernel
theorem dX8_fillKnot_110 : decode cX8_fillKnot 110 = .ok (.iload_n 1, 1) := by decide +kernel
theorem dX8_fillKnot_111 : decode cX8_fillKnot 111 = .ok (.if_icmp .ne 16, 3) := by decide +kernel
theorem dX8_fillKnot_114 : decode cX8_fillKnot 114 = .ok (.aload_n 0, 1) := by decide +kernel
theorem dX8_fillKnot_115 : decode cX8_fillKnot 115 = .ok (.getfield 39, 3) := by decide +kernel
theorem dX8_fillKnot_118 : decode cX8_fillKnot 118 = .ok (.aload_n 0, 1) := by decide +kernel
theorem dX8_fillKnot_119 : decode cX8_fillKnot 119 = .ok (.getfield 51, 3) := by decide +kernel
theorem dX8_fillKnot_122 : decode cX8_fillKnot 122 = .ok (.iload 4, 2) := by decide +kernel
theorem dX8_fillKnot_124 : decode cX8_fillKnot 124 = .ok (.iaload, 1) := by decide +kernel
theorem dX8_fillKnot_125 : decode cX8_fillKnot 125 = .ok (.iconst 0, 1) := by decide +kernel
theorem dX8_fillKnot_126 : decode cX8_fillKnot 126 = .ok (.bastore, 1) := by decide +kernel
theorem dX8_fillKnot_127 : decode cX8_fillKnot 127 = .ok (.iinc 3 1, 3) := by decide +kernel
theorem dX8_fillKnot_130 : decode cX8_fillKnot 130 = .ok (.goto (-64), 3) := by decide +kernel
theorem dX8_fillKnot_133 : decode cX8_fillKnot 133 = .ok (.return_, 1) := by decide +kernel
theorem dX8_fillRow_0 : decode cX8_fillRow 0 = .ok (.aload_n 0, 1) := by decide +kernel
theorem dX8_fillRow_1 : decode cX8_fillRow 1 = .ok (.getfield 51, 3) := by decide +kernel
theorem dX8_fillRow_4 : decode cX8_fillRow 4 = .ok (.iload_n 1, 1) := by decide +kernel
theorem dX8_fillRow_5 : decode cX8_fillRow 5 = .ok (.iaload, 1) := by decide +kernel
theorem dX8_fillRow_6 : decode cX8_fillRow 6 = .ok (.aload_n 0, 1) := by decide +kernel
theorem dX8_fillRow_7 : decode cX8_fillRow 7 = .ok (.getfield 22, 3) := by decide +kernel
theorem dX8_fillRow_10 : decode cX8_fillRow 10 = .ok (.imul, 1) := by decide +kernel
theorem dX8_fillRow_11 : decode cX8_fillRow 11 = .ok (.istore_n 2, 1) := by decide +kernel
theorem dX8_fillRow_12 : decode cX8_fillRow 12 = .ok (.aload_n 0, 1) := by decide +kernel
theorem dX8_fillRow_13 : decode cX8_fillRow 13 = .ok (.getfield 62, 3) := by decide +kernel
theorem dX8_fillRow_16 : decode cX8_fillRow 16 = .ok (.getfield 85, 3) := by decide +kernel
theorem dX8_fillRow_19 : decode cX8_fillRow 19 = .ok (.iload_n 1, 1) := by decide +kernel
theorem dX8_fillRow_20 : decode cX8_fillRow 20 = .ok (.iaload, 1) := by decide +kernel
theorem dX8_fillRow_21 : decode cX8_fillRow 21 = .ok (.iconst 1, 1) := by decide +kernel
theorem dX8_fillRow_22 : decode cX8_fillRow 22 = .ok (.if_icmp .ne 7, 3) := by decide +kernel
theorem dX8_fillRow_25 : decode cX8_fillRow 25 = .ok (.iconst 1, 1) := by decide +kernel
theorem dX8_fillRow_26 : decode cX8_fillRow 26 = .ok (.goto 4, 3) := by decide +kernel
theorem dX8_fillRow_29 : decode cX8_fillRow 29 = .ok (.iconst 0, 1) := by decide +kernel
theorem dX8_fillRow_30 : decode cX8_fillRow 30 = .ok (.istore_n 3, 1) := by decide +kernel
theorem dX8_fillRow_31 : decode cX8_fillRow 31 = .ok (.iconst 0, 1) := by decide +kernel
theorem dX8_fillRow_32 : decode cX8_fillRow 32 = .ok (.istore 4, 2) := by decide +kernel
theorem dX8_fillRow_34 : decode cX8_fillRow 34 = .ok (.iload 4, 2) := by decide +kernel
theorem dX8_fillRow_36 : decode cX8_fillRow 36 = .ok (.aload_n 0, 1) := by decide +kernel
theorem dX8_fillRow_37 : decode cX8_fillRow 37 = .ok (.getfield 22, 3) := by decide +kernel
theorem dX8_fillRow_40 : decode cX8_fillRow 40 = .ok (.if_icmp .ge 29, 3) := by decide +kernel
theorem dX8_fillRow_43 : decode cX8_fillRow 43 = .ok (.aload_n 0, 1) := by decide +kernel
theorem dX8_fillRow_44 : decode cX8_fillRow 44 = .ok (.getfield 35, 3) := by decide +kernel
theorem dX8_fillRow_47 : decode cX8_fillRow 47 = .ok (.iload_n 2, 1) := by decide +kernel
theorem dX8_fillRow_48 : decode cX8_fillRow 48 = .ok (.iload 4, 2) := by decide +kernel
theorem dX8_fillRow_50 : decode cX8_fillRow 50 = .ok (.iadd, 1) := by decide +kernel
theorem dX8_fillRow_51 : decode cX8_fillRow 51 = .ok (.iload_n 3, 1) := by decide +kernel
theorem dX8_fillRow_52 : decode cX8_fillRow 52 = .ok (.ifCond .eq 7, 3) := by decide +kernel
theorem dX8_fillRow_55 : decode cX8_fillRow 55 = .ok (.lconst 0, 1) := by decide +kernel
theorem dX8_fillRow_56 : decode cX8_fillRow 56 = .ok (.goto 6, 3) := by decide +kernel
theorem dX8_fillRow_59 : decode cX8_fillRow 59 = .ok (.ldc2_w 105, 3) := by decide +kernel
theorem dX8_fillRow_62 : decode cX8_fillRow 62 = .ok (.lastore, 1) := by decide +kernel
theorem dX8_fillRow_63 : decode cX8_fillRow 63 = .ok (.iinc 4 1, 3) := by decide +kernel
theorem dX8_fillRow_66 : decode cX8_fillRow 66 = .ok (.goto (-32), 3) := by decide +kernel
theorem dX8_fillRow_69 : decode cX8_fillRow 69 = .ok (.iconst 0, 1) := by decide +kernel
theorem dX8_fillRow_70 : decode cX8_fillRow 70 = .ok (.istore 4, 2) := by decide +kernel
theorem dX8_fillRow_72 : decode cX8_fillRow 72 = .ok (.iload 4, 2) := by decide +kernel
theorem dX8_fillRow_74 : decode cX8_fillRow 74 = .ok (.aload_n 0, 1) := by decide +kernel
theorem dX8_fillRow_75 : decode cX8_fillRow 75 = .ok (.getfield 62, 3) := by decide +kernel
theorem dX8_fillRow_78 : decode cX8_fillRow 78 = .ok (.getfield 88, 3) := by decide +kernel
theorem dX8_fillRow_81 : decode cX8_fillRow 81 = .ok (.iload_n 1, 1) := by decide +kernel
theorem dX8_fillRow_82 : decode cX8_fillRow 82 = .ok (.iaload, 1) := by decide +kernel
theorem dX8_fillRow_83 : decode cX8_fillRow 83 = .ok (.if_icmp .ge 100, 3) := by decide +kernel
theorem dX8_fillRow_86 : decode cX8_fillRow 86 = .ok (.aload_n 0, 1) := by decide +kernel
theorem dX8_fillRow_87 : decode cX8_fillRow 87 = .ok (.getfield 51, 3) := by decide +kernel
theorem dX8_fillRow_90 : decode cX8_fillRow 90 = .ok (.aload_n 0, 1) := by decide +kernel
theorem dX8_fillRow_91 : decode cX8_fillRow 91 = .ok (.getfield 62, 3) := by decide +kernel
theorem dX8_fillRow_94 : decode cX8_fillRow 94 = .ok (.iload_n 1, 1) := by decide +kernel
theorem dX8_fillRow_95 : decode cX8_fillRow 95 = .ok (.iload 4, 2) := by decide +kernel
theorem dX8_fillRow_97 : decode cX8_fillRow 97 = .ok (.invokevirtual 107, 3) := by decide +kernel
theorem dX8_fillRow_100 : decode cX8_fillRow 100 = .ok (.iaload, 1) := by decide +kernel
theorem dX8_fillRow_101 : decode cX8_fillRow 101 = .ok (.aload_n 0, 1) := by decide +kernel
theorem dX8_fillRow_102 : decode cX8_fillRow 102 = .ok (.getfield 22, 3) := by decide +kernel
theorem dX8_fillRow_105 : decode cX8_fillRow 105 = .ok (.imul, 1) := by decide +kernel
theorem dX8_fillRow_106 : decode cX8_fillRow 106 = .ok (.istore 5, 2) := by decide +kernel
theorem dX8_fillRow_108 : decode cX8_fillRow 108 = .ok (.iconst 0, 1) := by decide +kernel
theorem dX8_fillRow_109 : decode cX8_fillRow 109 = .ok (.istore 6, 2) := by decide +kernel
theorem dX8_fillRow_111 : decode cX8_fillRow 111 = .ok (.iload 6, 2) := by decide +kernel
theorem dX8_fillRow_113 : decode cX8_fillRow 113 = .ok (.aload_n 0, 1) := by decide +kernel
theorem dX8_fillRow_114 : decode cX8_fillRow 114 = .ok (.getfield 22, 3) := by decide +kernel
theorem dX8_fillRow_117 : decode cX8_fillRow 117 = .ok (.if_icmp .ge 60, 3) := by decide +kernel
theorem dX8_fillRow_120 : decode cX8_fillRow 120 = .ok (.iload_n 3, 1) := by decide +kernel
theorem dX8_fillRow_121 : decode cX8_fillRow 121 = .ok (.ifCond .eq 28, 3) := by decide +kernel
theorem dX8_fillRow_124 : decode cX8_fillRow 124 = .ok (.aload_n 0, 1) := by decide +kernel
theorem dX8_fillRow_125 : decode cX8_fillRow 125 = .ok (.getfield 35, 3) := by decide +kernel
theorem dX8_fillRow_128 : decode cX8_fillRow 128 = .ok (.iload_n 2, 1) := by decide +kernel
theorem dX8_fillRow_129 : decode cX8_fillRow 129 = .ok (.iload 6, 2) := by decide +kernel
theorem dX8_fillRow_131 : decode cX8_fillRow 131 = .ok (.iadd, 1) := by decide +kernel
theorem dX8_fillRow_132 : decode cX8_fillRow 132 = .ok (.dup2, 1) := by decide +kernel
theorem dX8_fillRow_133 : decode cX8_fillRow 133 = .ok (.laload, 1) := by decide +kernel
theorem dX8_fillRow_134 : decode cX8_fillRow 134 = .ok (.aload_n 0, 1) := by decide +kernel
theorem dX8_fillRow_135 : decode cX8_fillRow 135 = .ok (.getfield 35, 3) := by decide +kernel
theorem dX8_fillRow_138 : decode cX8_fillRow 138 = .ok (.iload 5, 2) := by decide +kernel
theorem dX8_fillRow_140 : decode cX8_fillRow 140 = .ok (.iload 6, 2) := by decide +kernel
theorem dX8_fillRow_142 : decode cX8_fillRow 142 = .ok (.iadd, 1) := by decide +kernel
theorem dX8_fillRow_143 : decode cX8_fillRow 143 = .ok (.laload, 1) := by decide +kernel
theorem dX8_fillRow_144 : decode cX8_fillRow 144 = .ok (.lor, 1) := by decide +kernel
theorem dX8_fillRow_145 : decode cX8_fillRow 145 = .ok (.lastore, 1) := by decide +kernel
theorem dX8_fillRow_146 : decode cX8_fillRow 146 = .ok (.goto 25, 3) := by decide +kernel
theorem dX8_fillRow_149 : decode cX8_fillRow 149 = .ok (.aload_n 0, 1) := by decide +kernel
theorem dX8_fillRow_150 : decode cX8_fillRow 150 = .ok (.getfield 35, 3) := by decide +kernel
theorem dX8_fillRow_153 : decode cX8_fillRow 153 = .ok (.iload_n 2, 1) := by decide +kernel
theorem dX8_fillRow_154 : decode cX8_fillRow 154 = .ok (.iload 6, 2) := by decide +kernel
theorem dX8_fillRow_156 : decode cX8_fillRow 156 = .ok (.iadd, 1) := by decide +kernel
theorem dX8_fillRow_157 : decode cX8_fillRow 157 = .ok (.dup2, 1) := by decide +kernel
theorem dX8_fillRow_158 : decode cX8_fillRow 158 = .ok (.laload, 1) := by decide +kernel
theorem dX8_fillRow_159 : decode cX8_fillRow 159 = .ok (.aload_n 0, 1) := by decide +kernel
theorem dX8_fillRow_160 : decode cX8_fillRow 160 = .ok (.getfield 35, 3) := by decide +kernel
theorem dX8_fillRow_163 : decode cX8_fillRow 163 = .ok (.iload 5, 2) := by decide +kernel
theorem dX8_fillRow_165 : decode cX8_fillRow 165 = .ok (.iload 6, 2) := by decide +kernel
theorem dX8_fillRow_167 : decode cX8_fillRow 167 = .ok (.iadd, 1) := by decide +kernel
theorem dX8_fillRow_168 : decode cX8_fillRow 168 = .ok (.laload, 1) := by decide +kernel
theorem dX8_fillRow_169 : decode cX8_fillRow 169 = .ok (.land, 1) := by decide +kernel
theorem dX8_fillRow_170 : decode cX8_fillRow 170 = .ok (.lastore, 1) := by decide +kernel
theorem dX8_fillRow_171 : decode cX8_fillRow 171 = .ok (.iinc 6 1, 3) := by decide +kernel
theorem dX8_fillRow_174 : decode cX8_fillRow 174 = .ok (.goto (-63), 3) := by decide +kernel
theorem dX8_fillRow_177 : decode cX8_fillRow 177 = .ok (.iinc 4 1, 3) := by decide +kernel
theorem dX8_fillRow_180 : decode cX8_fillRow 180 = .ok (.goto (-108), 3) := by decide +kernel
theorem dX8_fillRow_183 : decode cX8_fillRow 183 = .ok (.return_, 1) := by decide +kernel
theorem dX8_fillSome_0 : decode cX8_fillSome 0 = .ok (.aload_n 0, 1) := by decide +kernel
theorem dX8_fillSome_1 : decode cX8_fillSome 1 = .ok (.getfield 62, 3) := by decide +kernel
theorem dX8_fillSome_4 : decode cX8_fillSome 4 = .ok (.getfield 117, 3) := by decide +kernel
theorem dX8_fillSome_7 : decode cX8_fillSome 7 = .ok (.iload_n 1, 1) := by decide +kernel
theorem dX8_fillSome_8 : decode cX8_fillSome 8 = .ok (.iaload, 1) := by decide +kernel
theorem dX8_fillSome_9 : decode cX8_fillSome 9 = .ok (.aload_n 0, 1) := by decide +kernel
theorem dX8_fillSome_10 : decode cX8_fillSome 10 = .ok (.getfield 59, 3) := by decide +kernel
theorem dX8_fillSome_13 : decode cX8_fillSome 13 = .ok (.arraylength, 1) := by decide +kernel
theorem dX8_fillSome_14 : decode cX8_fillSome 14 = .ok (.iconst 1, 1) := by decide +kernel
theorem dX8_fillSome_15 : decode cX8_fillSome 15 = .ok (.isub, 1) := by decide +kernel
theorem dX8_fillSome_16 : decode cX8_fillSome 16 = .ok (.invokestatic 120, 3) := by decide +kernel
theorem dX8_fillSome_19 : decode cX8_fillSome 19 = .ok (.istore_n 2, 1) := by decide +kernel
theorem dX8_fillSome_20 : decode cX8_fillSome 20 = .ok (.iconst 0, 1) := by decide +kernel
theorem dX8_fillSome_21 : decode cX8_fillSome 21 = .ok (.istore_n 3, 1) := by decide +kernel
theorem dX8_fillSome_22 : decode cX8_fillSome 22 = .ok (.iload_n 3, 1) := by decide +kernel
theorem dX8_fillSome_23 : decode cX8_fillSome 23 = .ok (.aload_n 0, 1) := by decide +kernel
theorem dX8_fillSome_24 : decode cX8_fillSome 24 = .ok (.getfield 22, 3) := by decide +kernel
theorem dX8_fillSome_27 : decode cX8_fillSome 27 = .ok (.if_icmp .ge 138, 3) := by decide +kernel
theorem dX8_fillSome_30 : decode cX8_fillSome 30 = .ok (.aload_n 0, 1) := by decide +kernel
theorem dX8_fillSome_31 : decode cX8_fillSome 31 = .ok (.getfield 59, 3) := by decide +kernel
theorem dX8_fillSome_34 : decode cX8_fillSome 34 = .ok (.lconst 0, 1) := by decide +kernel
theorem dX8_fillSome_35 : decode cX8_fillSome 35 = .ok (.invokestatic 125, 3) := by decide +kernel
theorem dX8_fillSome_38 : decode cX8_fillSome 38 = .ok (.aload_n 0, 1) := by decide +kernel
theorem dX8_fillSome_39 : decode cX8_fillSome 39 = .ok (.getfield 59, 3) := by decide +kernel
theorem dX8_fillSome_42 : decode cX8_fillSome 42 = .ok (.iconst 0, 1) := by decide +kernel
theorem dX8_fillSome_43 : decode cX8_fillSome 43 = .ok (.ldc2_w 105, 3) := by decide +kernel
theorem dX8_fillSome_46 : decode cX8_fillSome 46 = .ok (.lastore, 1) := by decide +kernel
theorem dX8_fillSome_47 : decode cX8_fillSome 47 = .ok (.iconst 0, 1) := by decide +kernel
theorem dX8_fillSome_48 : decode cX8_fillSome 48 = .ok (.istore 4, 2) := by decide +kernel
theorem dX8_fillSome_50 : decode cX8_fillSome 50 = .ok (.iload 4, 2) := by decide +kernel
theorem dX8_fillSome_52 : decode cX8_fillSome 52 = .ok (.aload_n 0, 1) := by decide +kernel
theorem dX8_fillSome_53 : decode cX8_fillSome 53 = .ok (.getfield 62, 3) := by decide +kernel
theorem dX8_fillSome_56 : decode cX8_fillSome 56 = .ok (.getfield 88, 3) := by decide +kernel
theorem dX8_fillSome_59 : decode cX8_fillSome 59 = .ok (.iload_n 1, 1) := by decide +kernel
theorem dX8_fillSome_60 : decode cX8_fillSome 60 = .ok (.iaload, 1) := by decide +kernel
theorem dX8_fillSome_61 : decode cX8_fillSome 61 = .ok (.if_icmp .ge 74, 3) := by decide +kernel
theorem dX8_fillSome_64 : decode cX8_fillSome 64 = .ok (.aload_n 0, 1) := by decide +kernel
theorem dX8_fillSome_65 : decode cX8_fillSome 65 = .ok (.getfield 35, 3) := by decide +kernel
theorem dX8_fillSome_68 : decode cX8_fillSome 68 = .ok (.aload_n 0, 1) := by decide +kernel
theorem dX8_fillSome_69 : decode cX8_fillSome 69 = .ok (.getfield 51, 3) := by decide +kernel
theorem dX8_fillSome_72 : decode cX8_fillSome 72 = .ok (.aload_n 0, 1) := by decide +kernel
theorem dX8_fillSome_73 : decode cX8_fillSome 73 = .ok (.getfield 62, 3) := by decide +kernel
theorem dX8_fillSome_76 : decode cX8_fillSome 76 = .ok (.iload_n 1, 1) := by decide +kernel
theorem dX8_fillSome_77 : decode cX8_fillSome 77 = .ok (.iload 4, 2) := by decide +kernel
theorem dX8_fillSome_79 : decode cX8_fillSome 79 = .ok (.invokevirtual 107, 3) := by decide +kernel
theorem dX8_fillSome_82 : decode cX8_fillSome 82 = .ok (.iaload, 1) := by decide +kernel
theorem dX8_fillSome_83 : decode cX8_fillSome 83 = .ok (.aload_n 0, 1) := by decide +kernel
theorem dX8_fillSome_84 : decode cX8_fillSome 84 = .ok (.getfield 22, 3) := by decide +kernel
theorem dX8_fillSome_87 : decode cX8_fillSome 87 = .ok (.imul, 1) := by decide +kernel
theorem dX8_fillSome_88 : decode cX8_fillSome 88 = .ok (.iload_n 3, 1) := by decide +kernel
theorem dX8_fillSome_89 : decode cX8_fillSome 89 = .ok (.iadd, 1) := by decide +kernel
theorem dX8_fillSome_90 : decode cX8_fillSome 90 = .ok (.laload, 1) := by decide +kernel
theorem dX8_fillSome_91 : decode cX8_fillSome 91 = .ok (.lstore 5, 2) := by decide +kernel
theorem dX8_fillSome_93 : decode cX8_fillSome 93 = .ok (.iload_n 2, 1) := by decide +kernel
theorem dX8_fillSome_94 : decode cX8_fillSome 94 = .ok (.istore 7, 2) := by decide +kernel
theorem dX8_fillSome_96 : decode cX8_fillSome 96 = .ok (.iload 7, 2) := by decide +kernel
theorem dX8_fillSome_98 : decode cX8_fillSome 98 = .ok (.ifCond .le 31, 3) := by decide +kernel
theorem dX8_fillSome_101 : decode cX8_fillSome 101 = .ok (.aload_n 0, 1) := by decide +kernel
theorem dX8_fillSome_102 : decode cX8_fillSome 102 = .ok (.getfield 59, 3) := by decide +kernel
theorem dX8_fillSome_105 : decode cX8_fillSome 105 = .ok (.iload 7, 2) := by decide +kernel
theorem dX8_fillSome_107 : decode cX8_fillSome 107 = .ok (.dup2, 1) := by decide +kernel
theorem dX8_fillSome_108 : decode cX8_fillSome 108 = .ok (.laload, 1) := by decide +kernel
theorem dX8_fillSome_109 : decode cX8_fillSome 109 = .ok (.aload_n 0, 1) := by decide +kernel
theorem dX8_fillSome_110 : decode cX8_fillSome 110 = .ok (.getfield 59, 3) := by decide +kernel
theorem dX8_fillSome_113 : decode cX8_fillSome 113 = .ok (.iload 7, 2) := by decide +kernel
theorem dX8_fillSome_115 : decode cX8_fillSome 115 = .ok (.iconst 1, 1) := by decide +kernel
theorem dX8_fillSome_116 : decode cX8_fillSome 116 = .ok (.isub, 1) := by decide +kernel
theorem dX8_fillSome_117 : decode cX8_fillSome 117 = .ok (.laload, 1) := by decide +kernel
theorem dX8_fillSome_118 : decode cX8_fillSome 118 = .ok (.lload 5, 2) := by decide +kernel
theorem dX8_fillSome_120 : decode cX8_fillSome 120 = .ok (.land, 1) := by decide +kernel
theorem dX8_fillSome_121 : decode cX8_fillSome 121 = .ok (.lor, 1) := by decide +kernel
theorem dX8_fillSome_122 : decode cX8_fillSome 122 = .ok (.lastore, 1) := by decide +kernel
theorem dX8_fillSome_123 : decode cX8_fillSome 123 = .ok (.iinc 7 (-1), 3) := by decide +kernel
theorem dX8_fillSome_126 : decode cX8_fillSome 126 = .ok (.goto (-30), 3) := by decide +kernel
theorem dX8_fillSome_129 : decode cX8_fillSome 129 = .ok (.iinc 4 1, 3) := by decide +kernel
theorem dX8_fillSome_132 : decode cX8_fillSome 132 = .ok (.goto (-82), 3) := by decide +kernel
theorem dX8_fillSome_135 : decode cX8_fillSome 135 = .ok (.aload_n 0, 1) := by decide +kernel
theorem dX8_fillSome_136 : decode cX8_fillSome 136 = .ok (.getfield 35, 3) := by decide +kernel
theorem dX8_fillSome_139 : decode cX8_fillSome 139 = .ok (.aload_n 0, 1) := by decide +kernel
theorem dX8_fillSome_140 : decode cX8_fillSome 140 = .ok (.getfield 51, 3) := by decide +kernel
theorem dX8_fillSome_143 : decode cX8_fillSome 143 = .ok (.iload_n 1, 1) := by decide +kernel
theorem dX8_fillSome_144 : decode cX8_fillSome 144 = .ok (.iaload, 1) := by decide +kernel
theorem dX8_fillSome_145 : decode cX8_fillSome 145 = .ok (.aload_n 0, 1) := by decide +kernel
theorem dX8_fillSome_146 : decode cX8_fillSome 146 = .ok (.getfield 22, 3) := by decide +kernel
theorem dX8_fillSome_149 : decode cX8_fillSome 149 = .ok (.imul, 1) := by decide +kernel
theorem dX8_fillSome_150 : decode cX8_fillSome 150 = .ok (.iload_n 3, 1) := by decide +kernel
theorem dX8_fillSome_151 : decode cX8_fillSome 151 = .ok (.iadd, 1) := by decide +kernel
theorem dX8_fillSome_152 : decode cX8_fillSome 152 = .ok (.aload_n 0, 1) := by decide +kernel
theorem dX8_fillSome_153 : decode cX8_fillSome 153 = .ok (.getfield 59, 3) := by decide +kernel
theorem dX8_fillSome_156 : decode cX8_fillSome 156 = .ok (.iload_n 2, 1) := by decide +kernel
theorem dX8_fillSome_157 : decode cX8_fillSome 157 = .ok (.laload, 1) := by decide +kernel
theorem dX8_fillSome_158 : decode cX8_fillSome 158 = .ok (.lastore, 1) := by decide +kernel
theorem dX8_fillSome_159 : decode cX8_fillSome 159 = .ok (.iinc 3 1, 3) := by decide +kernel
theorem dX8_fillSome_162 : decode cX8_fillSome 162 = .ok (.goto (-140), 3) := by decide +kernel
theorem dX8_fillSome_165 : decode cX8_fillSome 165 = .ok (.return_, 1) := by decide +kernel
theorem dX8_countLeast_0 : decode cX8_countLeast 0 = .ok (.iconst 0, 1) := by decide +kernel
theorem dX8_countLeast_1 : decode cX8_countLeast 1 = .ok (.istore_n 2, 1) := by decide +kernel
theorem dX8_countLeast_2 : decode cX8_countLeast 2 = .ok (.iconst 0, 1) := by decide +kernel
theorem dX8_countLeast_3 : decode cX8_countLeast 3 = .ok (.istore_n 3, 1) := by decide +kernel
theorem dX8_countLeast_4 : decode cX8_countLeast 4 = .ok (.iload_n 3, 1) := by decide +kernel
theorem dX8_countLeast_5 : decode cX8_countLeast 5 = .ok (.aload_n 0, 1) := by decide +kernel
theorem dX8_countLeast_6 : decode cX8_countLeast 6 = .ok (.getfield 22, 3) := by decide +kernel
theorem dX8_countLeast_9 : decode cX8_countLeast 9 = .ok (.if_icmp .ge 28, 3) := by decide +kernel
theorem dX8_countLeast_12 : decode cX8_countLeast 12 = .ok (.iload_n 2, 1) := by decide +kernel
theorem dX8_countLeast_13 : decode cX8_countLeast 13 = .ok (.sipush 200, 3) := by decide +kernel
theorem dX8_countLeast_16 : decode cX8_countLeast 16 = .ok (.if_icmp .gt 21, 3) := by decide +kernel
theorem dX8_countLeast_19 : decode cX8_countLeast 19 = .ok (.iload_n 2, 1) := by decide +kernel
theorem dX8_countLeast_20 : decode cX8_countLeast 20 = .ok (.aload_n 0, 1) := by decide +kernel
theorem dX8_countLeast_21 : decode cX8_countLeast 21 = .ok (.iload_n 1, 1) := by decide +kernel
theorem dX8_countLeast_22 : decode cX8_countLeast 22 = .ok (.iload_n 3, 1) := by decide +kernel
theorem dX8_countLeast_23 : decode cX8_countLeast 23 = .ok (.invokevirtual 128, 3) := by decide +kernel
theorem dX8_countLeast_26 : decode cX8_countLeast 26 = .ok (.invokestatic 132, 3) := by decide +kernel
theorem dX8_countLeast_29 : decode cX8_countLeast 29 = .ok (.iadd, 1) := by decide +kernel
theorem dX8_countLeast_30 : decode cX8_countLeast 30 = .ok (.istore_n 2, 1) := by decide +kernel
theorem dX8_countLeast_31 : decode cX8_countLeast 31 = .ok (.iinc 3 1, 3) := by decide +kernel
theorem dX8_countLeast_34 : decode cX8_countLeast 34 = .ok (.goto (-30), 3) := by decide +kernel
theorem dX8_countLeast_37 : decode cX8_countLeast 37 = .ok (.iload_n 2, 1) := by decide +kernel
theorem dX8_countLeast_38 : decode cX8_countLeast 38 = .ok (.ireturn, 1) := by decide +kernel
theorem dX8_leastWord_0 : decode cX8_leastWord 0 = .ok (.aload_n 0, 1) := by decide +kernel
theorem dX8_leastWord_1 : decode cX8_leastWord 1 = .ok (.getfield 35, 3) := by decide +kernel
theorem dX8_leastWord_4 : decode cX8_leastWord 4 = .ok (.iload_n 1, 1) := by decide +kernel
theorem dX8_leastWord_5 : decode cX8_leastWord 5 = .ok (.iload_n 2, 1) := by decide +kernel
theorem dX8_leastWord_6 : decode cX8_leastWord 6 = .ok (.iadd, 1) := by decide +kernel
theorem dX8_leastWord_7 : decode cX8_leastWord 7 = .ok (.laload, 1) := by decide +kernel
theorem dX8_leastWord_8 : decode cX8_leastWord 8 = .ok (.lstore_n 3, 1) := by decide +kernel
theorem dX8_leastWord_9 : decode cX8_leastWord 9 = .ok (.lconst 0, 1) := by decide +kernel
theorem dX8_leastWord_10 : decode cX8_leastWord 10 = .ok (.lstore 5, 2) := by decide +kernel
theorem dX8_leastWord_12 : decode cX8_leastWord 12 = .ok (.iconst 0, 1) := by decide +kernel
theorem dX8_leastWord_13 : decode cX8_leastWord 13 = .ok (.istore 7, 2) := by decide +kernel
theorem dX8_leastWord_15 : decode cX8_leastWord 15 = .ok (.iload 7, 2) := by decide +kernel
theorem dX8_leastWord_17 : decode cX8_leastWord 17 = .ok (.aload_n 0, 1) := by decide +kernel
theorem dX8_leastWord_18 : decode cX8_leastWord 18 = .ok (.getfield 18, 3) := by decide +kernel
theorem dX8_leastWord_21 : decode cX8_leastWord 21 = .ok (.if_icmp .ge 71, 3) := by decide +kernel
theorem dX8_leastWord_24 : decode cX8_leastWord 24 = .ok (.iload 7, 2) := by decide +kernel
theorem dX8_leastWord_26 : decode cX8_leastWord 26 = .ok (.getstatic 98, 3) := by decide +kernel
theorem dX8_leastWord_29 : decode cX8_leastWord 29 = .ok (.arraylength, 1) := by decide +kernel
theorem dX8_leastWord_30 : decode cX8_leastWord 30 = .ok (.if_icmp .ge 24, 3) := by decide +kernel
theorem dX8_leastWord_33 : decode cX8_leastWord 33 = .ok (.lload 5, 2) := by decide +kernel
theorem dX8_leastWord_35 : decode cX8_leastWord 35 = .ok (.lload_n 3, 1) := by decide +kernel
theorem dX8_leastWord_36 : decode cX8_leastWord 36 = .ok (.iconst 1, 1) := by decide +kernel
theorem dX8_leastWord_37 : decode cX8_leastWord 37 = .ok (.iload 7, 2) := by decide +kernel
theorem dX8_leastWord_39 : decode cX8_leastWord 39 = .ok (.ishl, 1) := by decide +kernel
theorem dX8_leastWord_40 : decode cX8_leastWord 40 = .ok (.lshl, 1) := by decide +kernel
theorem dX8_leastWord_41 : decode cX8_leastWord 41 = .ok (.getstatic 98, 3) := by decide +kernel
theorem dX8_leastWord_44 : decode cX8_leastWord 44 = .ok (.iload 7, 2) := by decide +kernel
theorem dX8_leastWord_46 : decode cX8_leastWord 46 = .ok (.laload, 1) := by decide +kernel
theorem dX8_leastWord_47 : decode cX8_leastWord 47 = .ok (.land, 1) := by decide +kernel
theorem dX8_leastWord_48 : decode cX8_leastWord 48 = .ok (.lor, 1) := by decide +kernel
theorem dX8_leastWord_49 : decode cX8_leastWord 49 = .ok (.lstore 5, 2) := by decide +kernel
theorem dX8_leastWord_51 : decode cX8_leastWord 51 = .ok (.goto 35, 3) := by decide +kernel
theorem dX8_leastWord_54 : decode cX8_leastWord 54 = .ok (.iload_n 2, 1) := by decide +kernel
theorem dX8_leastWord_55 : decode cX8_leastWord 55 = .ok (.iload 7, 2) := by decide +kernel
theorem dX8_leastWord_57 : decode cX8_leastWord 57 = .ok (.invokestatic 101, 3) := by decide +kernel
theorem dX8_leastWord_60 : decode cX8_leastWord 60 = .ok (.ifCond .eq 26, 3) := by decide +kernel
theorem dX8_leastWord_63 : decode cX8_leastWord 63 = .ok (.lload 5, 2) := by decide +kernel
theorem dX8_leastWord_65 : decode cX8_leastWord 65 = .ok (.aload_n 0, 1) := by decide +kernel
theorem dX8_leastWord_66 : decode cX8_leastWord 66 = .ok (.getfield 35, 3) := by decide +kernel
theorem dX8_leastWord_69 : decode cX8_leastWord 69 = .ok (.iload_n 1, 1) := by decide +kernel
theorem dX8_leastWord_70 : decode cX8_leastWord 70 = .ok (.iload_n 2, 1) := by decide +kernel
theorem dX8_leastWord_71 : decode cX8_leastWord 71 = .ok (.iadd, 1) := by decide +kernel
theorem dX8_leastWord_72 : decode cX8_leastWord 72 = .ok (.iconst 1, 1) := by decide +kernel
theorem dX8_leastWord_73 : decode cX8_leastWord 73 = .ok (.iload 7, 2) := by decide +kernel
theorem dX8_leastWord_75 : decode cX8_leastWord 75 = .ok (.getstatic 98, 3) := by decide +kernel
theorem dX8_leastWord_78 : decode cX8_leastWord 78 = .ok (.arraylength, 1) := by decide +kernel
theorem dX8_leastWord_79 : decode cX8_leastWord 79 = .ok (.isub, 1) := by decide +kernel
theorem dX8_leastWord_80 : decode cX8_leastWord 80 = .ok (.ishl, 1) := by decide +kernel
theorem dX8_leastWord_81 : decode cX8_leastWord 81 = .ok (.isub, 1) := by decide +kernel
theorem dX8_leastWord_82 : decode cX8_leastWord 82 = .ok (.laload, 1) := by decide +kernel
theorem dX8_leastWord_83 : decode cX8_leastWord 83 = .ok (.lor, 1) := by decide +kernel
theorem dX8_leastWord_84 : decode cX8_leastWord 84 = .ok (.lstore 5, 2) := by decide +kernel
theorem dX8_leastWord_86 : decode cX8_leastWord 86 = .ok (.iinc 7 1, 3) := by decide +kernel
theorem dX8_leastWord_89 : decode cX8_leastWord 89 = .ok (.goto (-74), 3) := by decide +kernel
theorem dX8_leastWord_92 : decode cX8_leastWord 92 = .ok (.aload_n 0, 1) := by decide +kernel
theorem dX8_leastWord_93 : decode cX8_leastWord 93 = .ok (.getfield 18, 3) := by decide +kernel
theorem dX8_leastWord_96 : decode cX8_leastWord 96 = .ok (.getstatic 98, 3) := by decide +kernel
theorem dX8_leastWord_99 : decode cX8_leastWord 99 = .ok (.arraylength, 1) := by decide +kernel
theorem dX8_leastWord_100 : decode cX8_leastWord 100 = .ok (.if_icmp .ge 16, 3) := by decide +kernel
theorem dX8_leastWord_103 : decode cX8_leastWord 103 = .ok (.lconst 1, 1) := by decide +kernel
theorem dX8_leastWord_104 : decode cX8_leastWord 104 = .ok (.iconst 1, 1) := by decide +kernel
theorem dX8_leastWord_105 : decode cX8_leastWord 105 = .ok (.aload_n 0, 1) := by decide +kernel
theorem dX8_leastWord_106 : decode cX8_leastWord 106 = .ok (.getfield 18, 3) := by decide +kernel
theorem dX8_leastWord_109 : decode cX8_leastWord 109 = .ok (.ishl, 1) := by decide +kernel
theorem dX8_leastWord_110 : decode cX8_leastWord 110 = .ok (.lshl, 1) := by decide +kernel
theorem dX8_leastWord_111 : decode cX8_leastWord 111 = .ok (.lconst 1, 1) := by decide +kernel
theorem dX8_leastWord_112 : decode cX8_leastWord 112 = .ok (.lsub, 1) := by decide +kernel
theorem dX8_leastWord_113 : decode cX8_leastWord 113 = .ok (.goto 6, 3) := by decide +kernel
theorem dX8_leastWord_116 : decode cX8_leastWord 116 = .ok (.ldc2_w 105, 3) := by decide +kernel
theorem dX8_leastWord_119 : decode cX8_leastWord 119 = .ok (.lstore 7, 2) := by decide +kernel
theorem dX8_leastWord_121 : decode cX8_leastWord 121 = .ok (.lload_n 3, 1) := by decide +kernel
theorem dX8_leastWord_122 : decode cX8_leastWord 122 = .ok (.lload 5, 2) := by decide +kernel
theorem dX8_leastWord_124 : decode cX8_leastWord 124 = .ok (.ldc2_w 105, 3) := by decide +kernel
theorem dX8_leastWord_127 : decode cX8_leastWord 127 = .ok (.lxor, 1) := by decide +kernel
theorem dX8_leastWord_128 : decode cX8_leastWord 128 = .ok (.land, 1) := by decide +kernel
theorem dX8_leastWord_129 : decode cX8_leastWord 129 = .ok (.lload 7, 2) := by decide +kernel
theorem dX8_leastWord_131 : decode cX8_leastWord 131 = .ok (.land, 1) := by decide +kernel
theorem dX8_leastWord_132 : decode cX8_leastWord 132 = .ok (.lreturn, 1) := by decide +kernel
theorem dX8_bit_0 : decode cX8_bit 0 = .ok (.aload_n 0, 1) := by decide +kernel
theorem dX8_bit_1 : decode cX8_bit 1 = .ok (.getfield 35, 3) := by decide +kernel
theorem dX8_bit_4 : decode cX8_bit 4 = .ok (.aload_n 0, 1) := by decide +kernel
theorem dX8_bit_5 : decode cX8_bit 5 = .ok (.getfield 28, 3) := by decide +kernel
theorem dX8_bit_8 : decode cX8_bit 8 = .ok (.iload_n 1, 1) := by decide +kernel
theorem dX8_bit_9 : decode cX8_bit 9 = .ok (.bipush 6, 2) := by decide +kernel
theorem dX8_bit_11 : decode cX8_bit 11 = .ok (.ishr, 1) := by decide +kernel
theorem dX8_bit_12 : decode cX8_bit 12 = .ok (.iadd, 1) := by decide +kernel
theorem dX8_bit_13 : decode cX8_bit 13 = .ok (.laload, 1) := by decide +kernel
theorem dX8_bit_14 : decode cX8_bit 14 = .ok (.iload_n 1, 1) := by decide +kernel
theorem dX8_bit_15 : decode cX8_bit 15 = .ok (.bipush 63, 2) := by decide +kernel
theorem dX8_bit_17 : decode cX8_bit 17 = .ok (.iand, 1) := by decide +kernel
theorem dX8_bit_18 : decode cX8_bit 18 = .ok (.lushr, 1) := by decide +kernel
theorem dX8_bit_19 : decode cX8_bit 19 = .ok (.lconst 1, 1) := by decide +kernel
theorem dX8_bit_20 : decode cX8_bit 20 = .ok (.land, 1) := by decide +kernel
theorem dX8_bit_21 : decode cX8_bit 21 = .ok (.l2i, 1) := by decide +kernel
theorem dX8_bit_22 : decode cX8_bit 22 = .ok (.ireturn, 1) := by decide +kernel
theorem dX8_narrowed_0 : decode cX8_narrowed 0 = .ok (.iconst 0, 1) := by decide +kernel
theorem dX8_narrowed_1 : decode cX8_narrowed 1 = .ok (.istore_n 2, 1) := by decide +kernel
theorem dX8_narrowed_2 : decode cX8_narrowed 2 = .ok (.iconst 0, 1) := by decide +kernel
theorem dX8_narrowed_3 : decode cX8_narrowed 3 = .ok (.istore_n 3, 1) := by decide +kernel
theorem dX8_narrowed_4 : decode cX8_narrowed 4 = .ok (.iload_n 3, 1) := by decide +kernel
theorem dX8_narrowed_5 : decode cX8_narrowed 5 = .ok (.aload_n 0, 1) := by decide +kernel
theorem dX8_narrowed_6 : decode cX8_narrowed 6 = .ok (.getfield 18, 3) := by decide +kernel
theorem dX8_narrowed_9 : decode cX8_narrowed 9 = .ok (.if_icmp .ge 24, 3) := by decide +kernel
theorem dX8_narrowed_12 : decode cX8_narrowed 12 = .ok (.iload_n 2, 1) := by decide +kernel
theorem dX8_narrowed_13 : decode cX8_narrowed 13 = .ok (.iload_n 1, 1) := by decide +kernel
theorem dX8_narrowed_14 : decode cX8_narrowed 14 = .ok (.aload_n 0, 1) := by decide +kernel
theorem dX8_narrowed_15 : decode cX8_narrowed 15 = .ok (.getfield 9, 3) := by decide +kernel
theorem dX8_narrowed_18 : decode cX8_narrowed 18 = .ok (.iload_n 3, 1) := by decide +kernel
theorem dX8_narrowed_19 : decode cX8_narrowed 19 = .ok (.iaload, 1) := by decide +kernel
theorem dX8_narrowed_20 : decode cX8_narrowed 20 = .ok (.ishr, 1) := by decide +kernel
theorem dX8_narrowed_21 : decode cX8_narrowed 21 = .ok (.iconst 1, 1) := by decide +kernel
theorem dX8_narrowed_22 : decode cX8_narrowed 22 = .ok (.iand, 1) := by decide +kernel
theorem dX8_narrowed_23 : decode cX8_narrowed 23 = .ok (.iload_n 3, 1) := by decide +kernel
theorem dX8_narrowed_24 : decode cX8_narrowed 24 = .ok (.ishl, 1) := by decide +kernel
theorem dX8_narrowed_25 : decode cX8_narrowed 25 = .ok (.ior, 1) := by decide +kernel
theorem dX8_narrowed_26 : decode cX8_narrowed 26 = .ok (.istore_n 2, 1) := by decide +kernel
theorem dX8_narrowed_27 : decode cX8_narrowed 27 = .ok (.iinc 3 1, 3) := by decide +kernel
theorem dX8_narrowed_30 : decode cX8_narrowed 30 = .ok (.goto (-26), 3) := by decide +kernel
theorem dX8_narrowed_33 : decode cX8_narrowed 33 = .ok (.iload_n 2, 1) := by decide +kernel
theorem dX8_narrowed_34 : decode cX8_narrowed 34 = .ok (.ireturn, 1) := by decide +kernel
theorem dX8_widened_0 : decode cX8_widened 0 = .ok (.iconst 0, 1) := by decide +kernel
theorem dX8_widened_1 : decode cX8_widened 1 = .ok (.istore_n 2, 1) := by decide +kernel
theorem dX8_widened_2 : decode cX8_widened 2 = .ok (.iconst 0, 1) := by decide +kernel
theorem dX8_widened_3 : decode cX8_widened 3 = .ok (.istore_n 3, 1) := by decide +kernel
theorem dX8_widened_4 : decode cX8_widened 4 = .ok (.iload_n 3, 1) := by decide +kernel
theorem dX8_widened_5 : decode cX8_widened 5 = .ok (.aload_n 0, 1) := by decide +kernel
theorem dX8_widened_6 : decode cX8_widened 6 = .ok (.getfield 18, 3) := by decide +kernel
theorem dX8_widened_9 : decode cX8_widened 9 = .ok (.if_icmp .ge 24, 3) := by decide +kernel
theorem dX8_widened_12 : decode cX8_widened 12 = .ok (.iload_n 2, 1) := by decide +kernel
theorem dX8_widened_13 : decode cX8_widened 13 = .ok (.iload_n 1, 1) := by decide +kernel
theorem dX8_widened_14 : decode cX8_widened 14 = .ok (.iload_n 3, 1) := by decide +kernel
theorem dX8_widened_15 : decode cX8_widened 15 = .ok (.ishr, 1) := by decide +kernel
theorem dX8_widened_16 : decode cX8_widened 16 = .ok (.iconst 1, 1) := by decide +kernel
theorem dX8_widened_17 : decode cX8_widened 17 = .ok (.iand, 1) := by decide +kernel
theorem dX8_widened_18 : decode cX8_widened 18 = .ok (.aload_n 0, 1) := by decide +kernel
theorem dX8_widened_19 : decode cX8_widened 19 = .ok (.getfield 9, 3) := by decide +kernel
theorem dX8_widened_22 : decode cX8_widened 22 = .ok (.iload_n 3, 1) := by decide +kernel
theorem dX8_widened_23 : decode cX8_widened 23 = .ok (.iaload, 1) := by decide +kernel
theorem dX8_widened_24 : decode cX8_widened 24 = .ok (.ishl, 1) := by decide +kernel
theorem dX8_widened_25 : decode cX8_widened 25 = .ok (.ior, 1) := by decide +kernel
theorem dX8_widened_26 : decode cX8_widened 26 = .ok (.istore_n 2, 1) := by decide +kernel
theorem dX8_widened_27 : decode cX8_widened 27 = .ok (.iinc 3 1, 3) := by decide +kernel
theorem dX8_widened_30 : decode cX8_widened 30 = .ok (.goto (-26), 3) := by decide +kernel
theorem dX8_widened_33 : decode cX8_widened 33 = .ok (.iload_n 2, 1) := by decide +kernel
theorem dX8_widened_34 : decode cX8_widened 34 = .ok (.ireturn, 1) := by decide +kernel
theorem dX9_addPlace_0 : decode cX9_addPlace 0 = .ok (.aload_n 0, 1) := by decide +kernel
theorem dX9_addPlace_1 : decode cX9_addPlace 1 = .ok (.getfield 15, 3) := by decide +kernel
theorem dX9_addPlace_4 : decode cX9_addPlace 4 = .ok (.iload_n 1, 1) := by decide +kernel
theorem dX9_addPlace_5 : decode cX9_addPlace 5 = .ok (.iaload, 1) := by decide +kernel
theorem dX9_addPlace_6 : decode cX9_addPlace 6 = .ok (.bipush 12, 2) := by decide +kernel
theorem dX9_addPlace_8 : decode cX9_addPlace 8 = .ok (.if_icmp .lt 5, 3) := by decide +kernel
theorem dX9_addPlace_11 : decode cX9_addPlace 11 = .ok (.iconst 0, 1) := by decide +kernel
theorem dX9_addPlace_12 : decode cX9_addPlace 12 = .ok (.ireturn, 1) := by decide +kernel
theorem dX9_addPlace_13 : decode cX9_addPlace 13 = .ok (.aload_n 0, 1) := by decide +kernel
theorem dX9_addPlace_14 : decode cX9_addPlace 14 = .ok (.getfield 11, 3) := by decide +kernel
theorem dX9_addPlace_17 : decode cX9_addPlace 17 = .ok (.iload_n 1, 1) := by decide +kernel
theorem dX9_addPlace_18 : decode cX9_addPlace 18 = .ok (.bipush 12, 2) := by decide +kernel
theorem dX9_addPlace_20 : decode cX9_addPlace 20 = .ok (.imul, 1) := by decide +kernel
theorem dX9_addPlace_21 : decode cX9_addPlace 21 = .ok (.aload_n 0, 1) := by decide +kernel
theorem dX9_addPlace_22 : decode cX9_addPlace 22 = .ok (.getfield 15, 3) := by decide +kernel
theorem dX9_addPlace_25 : decode cX9_addPlace 25 = .ok (.iload_n 1, 1) := by decide +kernel
theorem dX9_addPlace_26 : decode cX9_addPlace 26 = .ok (.iaload, 1) := by decide +kernel
theorem dX9_addPlace_27 : decode cX9_addPlace 27 = .ok (.iadd, 1) := by decide +kernel
theorem dX9_addPlace_28 : decode cX9_addPlace 28 = .ok (.iload_n 2, 1) := by decide +kernel
theorem dX9_addPlace_29 : decode cX9_addPlace 29 = .ok (.iastore, 1) := by decide +kernel
theorem dX9_addPlace_30 : decode cX9_addPlace 30 = .ok (.aload_n 0, 1) := by decide +kernel
theorem dX9_addPlace_31 : decode cX9_addPlace 31 = .ok (.getfield 15, 3) := by decide +kernel
theorem dX9_addPlace_34 : decode cX9_addPlace 34 = .ok (.iload_n 1, 1) := by decide +kernel
theorem dX9_addPlace_35 : decode cX9_addPlace 35 = .ok (.dup2, 1) := by decide +kernel
theorem dX9_addPlace_36 : decode cX9_addPlace 36 = .ok (.iaload, 1) := by decide +kernel
theorem dX9_addPlace_37 : decode cX9_addPlace 37 = .ok (.iconst 1, 1) := by decide +kernel
theorem dX9_addPlace_38 : decode cX9_addPlace 38 = .ok (.iadd, 1) := by decide +kernel
theorem dX9_addPlace_39 : decode cX9_addPlace 39 = .ok (.iastore, 1) := by decide +kernel
theorem dX9_addPlace_40 : decode cX9_addPlace 40 = .ok (.iconst 1, 1) := by decide +kernel
theorem dX9_addPlace_41 : decode cX9_addPlace 41 = .ok (.ireturn, 1) := by decide +kernel
theorem dX9_menAt_0 : decode cX9_menAt 0 = .ok (.iconst 0, 1) := by decide +kernel
theorem dX9_menAt_1 : decode cX9_menAt 1 = .ok (.istore_n 3, 1) := by decide +kernel
theorem dX9_menAt_2 : decode cX9_menAt 2 = .ok (.iconst 0, 1) := by decide +kernel
theorem dX9_menAt_3 : decode cX9_menAt 3 = .ok (.istore 4, 2) := by decide +kernel
theorem dX9_menAt_5 : decode cX9_menAt 5 = .ok (.iload 4, 2) := by decide +kernel
theorem dX9_menAt_7 : decode cX9_menAt 7 = .ok (.iconst 3, 1) := by decide +kernel
theorem dX9_menAt_8 : decode cX9_menAt 8 = .ok (.if_icmp .gt 23, 3) := by decide +kernel
theorem dX9_menAt_11 : decode cX9_menAt 11 = .ok (.aload_n 0, 1) := by decide +kernel
theorem dX9_menAt_12 : decode cX9_menAt 12 = .ok (.iload 4, 2) := by decide +kernel
theorem dX9_menAt_14 : decode cX9_menAt 14 = .ok (.iload_n 2, 1) := by decide +kernel
theorem dX9_menAt_15 : decode cX9_menAt 15 = .ok (.invokevirtual 38, 3) := by decide +kernel
theorem dX9_menAt_18 : decode cX9_menAt 18 = .ok (.iload_n 1, 1) := by decide +kernel
theorem dX9_menAt_19 : decode cX9_menAt 19 = .ok (.if_icmp .ne 6, 3) := by decide +kernel
theorem dX9_menAt_22 : decode cX9_menAt 22 = .ok (.iinc 3 1, 3) := by decide +kernel
theorem dX9_menAt_25 : decode cX9_menAt 25 = .ok (.iinc 4 1, 3) := by decide +kernel
theorem dX9_menAt_28 : decode cX9_menAt 28 = .ok (.goto (-23), 3) := by decide +kernel
theorem dX9_menAt_31 : decode cX9_menAt 31 = .ok (.iload_n 3, 1) := by decide +kernel
theorem dX9_menAt_32 : decode cX9_menAt 32 = .ok (.ireturn, 1) := by decide +kernel
theorem dX9_placeOf_0 : decode cX9_placeOf 0 = .ok (.aload_n 0, 1) := by decide +kernel
theorem dX9_placeOf_1 : decode cX9_placeOf 1 = .ok (.getfield 15, 3) := by decide +kernel
theorem dX9_placeOf_4 : decode cX9_placeOf 4 = .ok (.iload_n 1, 1) := by decide +kernel
theorem dX9_placeOf_5 : decode cX9_placeOf 5 = .ok (.iaload, 1) := by decide +kernel
theorem dX9_placeOf_6 : decode cX9_placeOf 6 = .ok (.ifCond .ne 5, 3) := by decide +kernel
theorem dX9_placeOf_9 : decode cX9_placeOf 9 = .ok (.iconst (-1), 1) := by decide +kernel
theorem dX9_placeOf_10 : decode cX9_placeOf 10 = .ok (.ireturn, 1) := by decide +kernel
theorem dX9_placeOf_11 : decode cX9_placeOf 11 = .ok (.aload_n 0, 1) := by decide +kernel
theorem dX9_placeOf_12 : decode cX9_placeOf 12 = .ok (.getfield 11, 3) := by decide +kernel
theorem dX9_placeOf_15 : decode cX9_placeOf 15 = .ok (.iload_n 1, 1) := by decide +kernel
theorem dX9_placeOf_16 : decode cX9_placeOf 16 = .ok (.bipush 12, 2) := by decide +kernel
theorem dX9_placeOf_18 : decode cX9_placeOf 18 = .ok (.imul, 1) := by decide +kernel
theorem dX9_placeOf_19 : decode cX9_placeOf 19 = .ok (.iload_n 2, 1) := by decide +kernel
theorem dX9_placeOf_20 : decode cX9_placeOf 20 = .ok (.aload_n 0, 1) := by decide +kernel
theorem dX9_placeOf_21 : decode cX9_placeOf 21 = .ok (.getfield 15, 3) := by decide +kernel
theorem dX9_placeOf_24 : decode cX9_placeOf 24 = .ok (.iload_n 1, 1) := by decide +kernel
theorem dX9_placeOf_25 : decode cX9_placeOf 25 = .ok (.iaload, 1) := by decide +kernel
theorem dX9_placeOf_26 : decode cX9_placeOf 26 = .ok (.irem, 1) := by decide +kernel
theorem dX9_placeOf_27 : decode cX9_placeOf 27 = .ok (.iadd, 1) := by decide +kernel
theorem dX9_placeOf_28 : decode cX9_placeOf 28 = .ok (.iaload, 1) := by decide +kernel
theorem dX9_placeOf_29 : decode cX9_placeOf 29 = .ok (.ireturn, 1) := by decide +kernel
theorem dX9_firstBegin_0 : decode cX9_firstBegin 0 = .ok (.aload_n 0, 1) := by decide +kernel
theorem dX9_firstBegin_1 : decode cX9_firstBegin 1 = .ok (.getfield 34, 3) := by decide +kernel
theorem dX9_firstBegin_4 : decode cX9_firstBegin 4 = .ok (.iload_n 1, 1) := by decide +kernel
theorem dX9_firstBegin_5 : decode cX9_firstBegin 5 = .ok (.iconst 4, 1) := by decide +kernel
theorem dX9_firstBegin_6 : decode cX9_firstBegin 6 = .ok (.invokevirtual 44, 3) := by decide +kernel
theorem dX9_firstBegin_9 : decode cX9_firstBegin 9 = .ok (.istore_n 3, 1) := by decide +kernel
theorem dX9_firstBegin_10 : decode cX9_firstBegin 10 = .ok (.aload_n 0, 1) := by decide +kernel
theorem dX9_firstBegin_11 : decode cX9_firstBegin 11 = .ok (.getfield 34, 3) := by decide +kernel
theorem dX9_firstBegin_14 : decode cX9_firstBegin 14 = .ok (.iload_n 1, 1) := by decide +kernel
theorem dX9_firstBegin_15 : decode cX9_firstBegin 15 = .ok (.iconst 1, 1) := by decide +kernel
theorem dX9_firstBegin_16 : decode cX9_firstBegin 16 = .ok (.invokevirtual 44, 3) := by decide +kernel
theorem dX9_firstBegin_19 : decode cX9_firstBegin 19 = .ok (.istore 4, 2) := by decide +kernel
theorem dX9_firstBegin_21 : decode cX9_firstBegin 21 = .ok (.iconst 0, 1) := by decide +kernel
theorem dX9_firstBegin_22 : decode cX9_firstBegin 22 = .ok (.istore 5, 2) := by decide +kernel
theorem dX9_firstBegin_24 : decode cX9_firstBegin 24 = .ok (.iload_n 2, 1) := by decide +kernel
theorem dX9_firstBegin_25 : decode cX9_firstBegin 25 = .ok (.istore 6, 2) := by decide +kernel
theorem dX9_firstBegin_27 : decode cX9_firstBegin 27 = .ok (.iload 6, 2) := by decide +kernel
theorem dX9_firstBegin_29 : decode cX9_firstBegin 29 = .ok (.sipush 600, 3) := by decide +kernel
theorem dX9_firstBegin_32 : decode cX9_firstBegin 32 = .ok (.if_icmp .ge 44, 3) := by decide +kernel
theorem dX9_firstBegin_35 : decode cX9_firstBegin 35 = .ok (.aload_n 0, 1) := by decide +kernel
theorem dX9_firstBegin_36 : decode cX9_firstBegin 36 = .ok (.iload_n 3, 1) := by decide +kernel
theorem dX9_firstBegin_37 : decode cX9_firstBegin 37 = .ok (.iload 6, 2) := by decide +kernel
theorem dX9_firstBegin_39 : decode cX9_firstBegin 39 = .ok (.invokevirtual 47, 3) := by decide +kernel
theorem dX9_firstBegin_42 : decode cX9_firstBegin 42 = .ok (.ifCond .ne 10, 3) := by decide +kernel
theorem dX9_firstBegin_45 : decode cX9_firstBegin 45 = .ok (.iload 5, 2) := by decide +kernel
theorem dX9_firstBegin_47 : decode cX9_firstBegin 47 = .ok (.iconst 1, 1) := by decide +kernel
theorem dX9_firstBegin_48 : decode cX9_firstBegin 48 = .ok (.iadd, 1) := by decide +kernel
theorem dX9_firstBegin_49 : decode cX9_firstBegin 49 = .ok (.goto 4, 3) := by decide +kernel
theorem dX9_firstBegin_52 : decode cX9_firstBegin 52 = .ok (.iconst 0, 1) := by decide +kernel
theorem dX9_firstBegin_53 : decode cX9_firstBegin 53 = .ok (.istore 5, 2) := by decide +kernel
theorem dX9_firstBegin_55 : decode cX9_firstBegin 55 = .ok (.iload 5, 2) := by decide +kernel
theorem dX9_firstBegin_57 : decode cX9_firstBegin 57 = .ok (.iload 4, 2) := by decide +kernel
theorem dX9_firstBegin_59 : decode cX9_firstBegin 59 = .ok (.if_icmp .ne 11, 3) := by decide +kernel
theorem dX9_firstBegin_62 : decode cX9_firstBegin 62 = .ok (.iload 6, 2) := by decide +kernel
theorem dX9_firstBegin_64 : decode cX9_firstBegin 64 = .ok (.iconst 1, 1) := by decide +kernel
theorem dX9_firstBegin_65 : decode cX9_firstBegin 65 = .ok (.iadd, 1) := by decide +kernel
theorem dX9_firstBegin_66 : decode cX9_firstBegin 66 = .ok (.iload 4, 2) := by decide +kernel
theorem dX9_firstBegin_68 : decode cX9_firstBegin 68 = .ok (.isub, 1) := by decide +kernel
theorem dX9_firstBegin_69 : decode cX9_firstBegin 69 = .ok (.ireturn, 1) := by decide +kernel
theorem dX9_firstBegin_70 : decode cX9_firstBegin 70 = .ok (.iinc 6 1, 3) := by decide +kernel
theorem dX9_firstBegin_73 : decode cX9_firstBegin 73 = .ok (.goto (-46), 3) := by decide +kernel
theorem dX9_firstBegin_76 : decode cX9_firstBegin 76 = .ok (.iconst (-1), 1) := by decide +kernel
theorem dX9_firstBegin_77 : decode cX9_firstBegin 77 = .ok (.ireturn, 1) := by decide +kernel
theorem dX9_bestEnd_0 : decode cX9_bestEnd 0 = .ok (.aload_n 0, 1) := by decide +kernel
theorem dX9_bestEnd_1 : decode cX9_bestEnd 1 = .ok (.iload_n 1, 1) := by decide +kernel
theorem dX9_bestEnd_2 : decode cX9_bestEnd 2 = .ok (.iload_n 2, 1) := by decide +kernel
theorem dX9_bestEnd_3 : decode cX9_bestEnd 3 = .ok (.invokevirtual 50, 3) := by decide +kernel
theorem dX9_bestEnd_6 : decode cX9_bestEnd 6 = .ok (.aload_n 0, 1) := by decide +kernel
theorem dX9_bestEnd_7 : decode cX9_bestEnd 7 = .ok (.iconst 1, 1) := by decide +kernel
theorem dX9_bestEnd_8 : decode cX9_bestEnd 8 = .ok (.aload_n 0, 1) := by decide +kernel
theorem dX9_bestEnd_9 : decode cX9_bestEnd 9 = .ok (.getfield 24, 3) := by decide +kernel
theorem dX9_bestEnd_12 : decode cX9_bestEnd 12 = .ok (.ishl, 1) := by decide +kernel
theorem dX9_bestEnd_13 : decode cX9_bestEnd 13 = .ok (.iconst 1, 1) := by decide +kernel
theorem dX9_bestEnd_14 : decode cX9_bestEnd 14 = .ok (.isub, 1) := by decide +kernel
theorem dX9_bestEnd_15 : decode cX9_bestEnd 15 = .ok (.iload_n 2, 1) := by decide +kernel
theorem dX9_bestEnd_16 : decode cX9_bestEnd 16 = .ok (.invokevirtual 54, 3) := by decide +kernel
theorem dX9_bestEnd_19 : decode cX9_bestEnd 19 = .ok (.istore_n 3, 1) := by decide +kernel
theorem dX9_bestEnd_20 : decode cX9_bestEnd 20 = .ok (.iload_n 3, 1) := by decide +kernel
theorem dX9_bestEnd_21 : decode cX9_bestEnd 21 = .ok (.sipush 601, 3) := by decide +kernel
theorem dX9_bestEnd_24 : decode cX9_bestEnd 24 = .ok (.if_icmp .ge 7, 3) := by decide +kernel
theorem dX9_bestEnd_27 : decode cX9_bestEnd 27 = .ok (.iload_n 3, 1) := by decide +kernel
theorem dX9_bestEnd_28 : decode cX9_bestEnd 28 = .ok (.goto 4, 3) := by decide +kernel
theorem dX9_bestEnd_31 : decode cX9_bestEnd 31 = .ok (.iconst (-1), 1) := by decide +kernel
theorem dX9_bestEnd_32 : decode cX9_bestEnd 32 = .ok (.ireturn, 1) := by decide +kernel
theorem dX9_stepInOrder_0 : decode cX9_stepInOrder 0 = .ok (.aload_n 0, 1) := by decide +kernel
theorem dX9_stepInOrder_1 : decode cX9_stepInOrder 1 = .ok (.iload_n 1, 1) := by decide +kernel
theorem dX9_stepInOrder_2 : decode cX9_stepInOrder 2 = .ok (.iload_n 2, 1) := by decide +kernel
theorem dX9_stepInOrder_3 : decode cX9_stepInOrder 3 = .ok (.invokevirtual 50, 3) := by decide +kernel
theorem dX9_stepInOrder_6 : decode cX9_stepInOrder 6 = .ok (.iconst 1, 1) := by decide +kernel
theorem dX9_stepInOrder_7 : decode cX9_stepInOrder 7 = .ok (.aload_n 0, 1) := by decide +kernel
theorem dX9_stepInOrder_8 : decode cX9_stepInOrder 8 = .ok (.getfield 24, 3) := by decide +kernel
theorem dX9_stepInOrder_11 : decode cX9_stepInOrder 11 = .ok (.ishl, 1) := by decide +kernel
theorem dX9_stepInOrder_12 : decode cX9_stepInOrder 12 = .ok (.iconst 1, 1) := by decide +kernel
theorem dX9_stepInOrder_13 : decode cX9_stepInOrder 13 = .ok (.isub, 1) := by decide +kernel
theorem dX9_stepInOrder_14 : decode cX9_stepInOrder 14 = .ok (.istore 4, 2) := by decide +kernel
theorem dX9_stepInOrder_16 : decode cX9_stepInOrder 16 = .ok (.aload_n 0, 1) := by decide +kernel
theorem dX9_stepInOrder_17 : decode cX9_stepInOrder 17 = .ok (.iload 4, 2) := by decide +kernel
theorem dX9_stepInOrder_19 : decode cX9_stepInOrder 19 = .ok (.iload_n 2, 1) := by decide +kernel
theorem dX9_stepInOrder_20 : decode cX9_stepInOrder 20 = .ok (.invokevirtual 54, 3) := by decide +kernel
theorem dX9_stepInOrder_23 : decode cX9_stepInOrder 23 = .ok (.istore 5, 2) := by decide +kernel
theorem dX9_stepInOrder_25 : decode cX9_stepInOrder 25 = .ok (.iload 5, 2) := by decide +kernel
theorem dX9_stepInOrder_27 : decode cX9_stepInOrder 27 = .ok (.sipush 601, 3) := by decide +kernel
theorem dX9_stepInOrder_30 : decode cX9_stepInOrder 30 = .ok (.if_icmp .ge 11, 3) := by decide +kernel
theorem dX9_stepInOrder_33 : decode cX9_stepInOrder 33 = .ok (.iload_n 3, 1) := by decide +kernel
theorem dX9_stepInOrder_34 : decode cX9_stepInOrder 34 = .ok (.aload_n 0, 1) := by decide +kernel
theorem dX9_stepInOrder_35 : decode cX9_stepInOrder 35 = .ok (.getfield 24, 3) := by decide +kernel
theorem dX9_stepInOrder_38 : decode cX9_stepInOrder 38 = .ok (.if_icmp .lt 5, 3) := by decide +kernel
theorem dX9_stepInOrder_41 : decode cX9_stepInOrder 41 = .ok (.iconst (-1), 1) := by decide +kernel
theorem dX9_stepInOrder_42 : decode cX9_stepInOrder 42 = .ok (.ireturn, 1) := by decide +kernel
theorem dX9_stepInOrder_43 : decode cX9_stepInOrder 43 = .ok (.iload_n 2, 1) := by decide +kernel
theorem dX9_stepInOrder_44 : decode cX9_stepInOrder 44 = .ok (.istore 6, 2) := by decide +kernel
theorem dX9_stepInOrder_46 : decode cX9_stepInOrder 46 = .ok (.iconst 0, 1) := by decide +kernel
theorem dX9_stepInOrder_47 : decode cX9_stepInOrder 47 = .ok (.istore 7, 2) := by decide +kernel
theorem dX9_stepInOrder_49 : decode cX9_stepInOrder 49 = .ok (.iload 7, 2) := by decide +kernel
theorem dX9_stepInOrder_51 : decode cX9_stepInOrder 51 = .ok (.iload_n 3, 1) := by decide +kernel
theorem dX9_stepInOrder_52 : decode cX9_stepInOrder 52 = .ok (.if_icmp .ge 55, 3) := by decide +kernel
theorem dX9_stepInOrder_55 : decode cX9_stepInOrder 55 = .ok (.aload_n 0, 1) := by decide +kernel
theorem dX9_stepInOrder_56 : decode cX9_stepInOrder 56 = .ok (.iload 4, 2) := by decide +kernel
theorem dX9_stepInOrder_58 : decode cX9_stepInOrder 58 = .ok (.iload 6, 2) := by decide +kernel
theorem dX9_stepInOrder_60 : decode cX9_stepInOrder 60 = .ok (.iload 5, 2) := by decide +kernel
theorem dX9_stepInOrder_62 : decode cX9_stepInOrder 62 = .ok (.invokevirtual 57, 3) := by decide +kernel
theorem dX9_stepInOrder_65 : decode cX9_stepInOrder 65 = .ok (.istore 8, 2) := by decide +kernel
theorem dX9_stepInOrder_67 : decode cX9_stepInOrder 67 = .ok (.iload 8, 2) := by decide +kernel
theorem dX9_stepInOrder_69 : decode cX9_stepInOrder 69 = .ok (.ifCond .ge 5, 3) := by decide +kernel
theorem dX9_stepInOrder_72 : decode cX9_stepInOrder 72 = .ok (.iconst (-1), 1) := by decide +kernel
theorem dX9_stepInOrder_73 : decode cX9_stepInOrder 73 = .ok (.ireturn, 1) := by decide +kernel
theorem dX9_stepInOrder_74 : decode cX9_stepInOrder 74 = .ok (.iload 4, 2) := by decide +kernel
theorem dX9_stepInOrder_76 : decode cX9_stepInOrder 76 = .ok (.iconst 1, 1) := by decide +kernel
theorem dX9_stepInOrder_77 : decode cX9_stepInOrder 77 = .ok (.iload 8, 2) := by decide +kernel
theorem dX9_stepInOrder_79 : decode cX9_stepInOrder 79 = .ok (.ishl, 1) := by decide +kernel
theorem dX9_stepInOrder_80 : decode cX9_stepInOrder 80 = .ok (.iconst (-1), 1) := by decide +kernel
theorem dX9_stepInOrder_81 : decode cX9_stepInOrder 81 = .ok (.ixor, 1) := by decide +kernel
theorem dX9_stepInOrder_82 : decode cX9_stepInOrder 82 = .ok (.iand, 1) := by decide +kernel
theorem dX9_stepInOrder_83 : decode cX9_stepInOrder 83 = .ok (.istore 4, 2) := by decide +kernel
theorem dX9_stepInOrder_85 : decode cX9_stepInOrder 85 = .ok (.aload_n 0, 1) := by decide +kernel
theorem dX9_stepInOrder_86 : decode cX9_stepInOrder 86 = .ok (.getfield 28, 3) := by decide +kernel
theorem dX9_stepInOrder_89 : decode cX9_stepInOrder 89 = .ok (.iload 8, 2) := by decide +kernel
theorem dX9_stepInOrder_91 : decode cX9_stepInOrder 91 = .ok (.sipush 601, 3) := by decide +kernel
theorem dX9_stepInOrder_94 : decode cX9_stepInOrder 94 = .ok (.imul, 1) := by decide +kernel
theorem dX9_stepInOrder_95 : decode cX9_stepInOrder 95 = .ok (.iload 6, 2) := by decide +kernel
theorem dX9_stepInOrder_97 : decode cX9_stepInOrder 97 = .ok (.iadd, 1) := by decide +kernel
theorem dX9_stepInOrder_98 : decode cX9_stepInOrder 98 = .ok (.iaload, 1) := by decide +kernel
theorem dX9_stepInOrder_99 : decode cX9_stepInOrder 99 = .ok (.istore 6, 2) := by decide +kernel
theorem dX9_stepInOrder_101 : decode cX9_stepInOrder 101 = .ok (.iinc 7 1, 3) := by decide +kernel
theorem dX9_stepInOrder_104 : decode cX9_stepInOrder 104 = .ok (.goto (-55), 3) := by decide +kernel
theorem dX9_stepInOrder_107 : decode cX9_stepInOrder 107 = .ok (.aload_n 0, 1) := by decide +kernel
theorem dX9_stepInOrder_108 : decode cX9_stepInOrder 108 = .ok (.iload 4, 2) := by decide +kernel
theorem dX9_stepInOrder_110 : decode cX9_stepInOrder 110 = .ok (.iload 6, 2) := by decide +kernel
theorem dX9_stepInOrder_112 : decode cX9_stepInOrder 112 = .ok (.iload 5, 2) := by decide +kernel
theorem dX9_stepInOrder_114 : decode cX9_stepInOrder 114 = .ok (.invokevirtual 57, 3) := by decide +kernel
theorem dX9_stepInOrder_117 : decode cX9_stepInOrder 117 = .ok (.istore 7, 2) := by decide +kernel
theorem dX9_stepInOrder_119 : decode cX9_stepInOrder 119 = .ok (.iload 7, 2) := by decide +kernel
theorem dX9_stepInOrder_121 : decode cX9_stepInOrder 121 = .ok (.ifCond .ge 7, 3) := by decide +kernel
theorem dX9_stepInOrder_124 : decode cX9_stepInOrder 124 = .ok (.iconst (-1), 1) := by decide +kernel
theorem dX9_stepInOrder_125 : decode cX9_stepInOrder 125 = .ok (.goto 10, 3) := by decide +kernel
theorem dX9_stepInOrder_128 : decode cX9_stepInOrder 128 = .ok (.aload_n 0, 1) := by decide +kernel
theorem dX9_stepInOrder_129 : decode cX9_stepInOrder 129 = .ok (.getfield 21, 3) := by decide +kernel
theorem dX9_stepInOrder_132 : decode cX9_stepInOrder 132 = .ok (.iload 7, 2) := by decide +kernel
theorem dX9_stepInOrder_134 : decode cX9_stepInOrder 134 = .ok (.iaload, 1) := by decide +kernel
theorem dX9_stepInOrder_135 : decode cX9_stepInOrder 135 = .ok (.ireturn, 1) := by decide +kernel
theorem dX9_firstToGo_0 : decode cX9_firstToGo 0 = .ok (.iconst 0, 1) := by decide +kernel
theorem dX9_firstToGo_1 : decode cX9_firstToGo 1 = .ok (.istore 4, 2) := by decide +kernel
theorem dX9_firstToGo_3 : decode cX9_firstToGo 3 = .ok (.iload 4, 2) := by decide +kernel
theorem dX9_firstToGo_5 : decode cX9_firstToGo 5 = .ok (.aload_n 0, 1) := by decide +kernel
theorem dX9_firstToGo_6 : decode cX9_firstToGo 6 = .ok (.getfield 24, 3) := by decide +kernel
theorem dX9_firstToGo_9 : decode cX9_firstToGo 9 = .ok (.if_icmp .ge 63, 3) := by decide +kernel
theorem dX9_firstToGo_12 : decode cX9_firstToGo 12 = .ok (.iload_n 1, 1) := by decide +kernel
theorem dX9_firstToGo_13 : decode cX9_firstToGo 13 = .ok (.iload 4, 2) := by decide +kernel
theorem dX9_firstToGo_15 : decode cX9_firstToGo 15 = .ok (.ishr, 1) := by decide +kernel
theorem dX9_firstToGo_16 : decode cX9_firstToGo 16 = .ok (.iconst 1, 1) := by decide +kernel
theorem dX9_firstToGo_17 : decode cX9_firstToGo 17 = .ok (.iand, 1) := by decide +kernel
theorem dX9_firstToGo_18 : decode cX9_firstToGo 18 = .ok (.ifCond .ne 6, 3) := by decide +kernel
theorem dX9_firstToGo_21 : decode cX9_firstToGo 21 = .ok (.goto 45, 3) := by decide +kernel
theorem dX9_firstToGo_24 : decode cX9_firstToGo 24 = .ok (.aload_n 0, 1) := by decide +kernel
theorem dX9_firstToGo_25 : decode cX9_firstToGo 25 = .ok (.getfield 28, 3) := by decide +kernel
theorem dX9_firstToGo_28 : decode cX9_firstToGo 28 = .ok (.iload 4, 2) := by decide +kernel
theorem dX9_firstToGo_30 : decode cX9_firstToGo 30 = .ok (.sipush 601, 3) := by decide +kernel
theorem dX9_firstToGo_33 : decode cX9_firstToGo 33 = .ok (.imul, 1) := by decide +kernel
theorem dX9_firstToGo_34 : decode cX9_firstToGo 34 = .ok (.iload_n 2, 1) := by decide +kernel
theorem dX9_firstToGo_35 : decode cX9_firstToGo 35 = .ok (.iadd, 1) := by decide +kernel
theorem dX9_firstToGo_36 : decode cX9_firstToGo 36 = .ok (.iaload, 1) := by decide +kernel
theorem dX9_firstToGo_37 : decode cX9_firstToGo 37 = .ok (.istore 5, 2) := by decide +kernel
theorem dX9_firstToGo_39 : decode cX9_firstToGo 39 = .ok (.iload 5, 2) := by decide +kernel
theorem dX9_firstToGo_41 : decode cX9_firstToGo 41 = .ok (.iload_n 3, 1) := by decide +kernel
theorem dX9_firstToGo_42 : decode cX9_firstToGo 42 = .ok (.if_icmp .gt 24, 3) := by decide +kernel
theorem dX9_firstToGo_45 : decode cX9_firstToGo 45 = .ok (.aload_n 0, 1) := by decide +kernel
theorem dX9_firstToGo_46 : decode cX9_firstToGo 46 = .ok (.iload_n 1, 1) := by decide +kernel
theorem dX9_firstToGo_47 : decode cX9_firstToGo 47 = .ok (.iconst 1, 1) := by decide +kernel
theorem dX9_firstToGo_48 : decode cX9_firstToGo 48 = .ok (.iload 4, 2) := by decide +kernel
theorem dX9_firstToGo_50 : decode cX9_firstToGo 50 = .ok (.ishl, 1) := by decide +kernel
theorem dX9_firstToGo_51 : decode cX9_firstToGo 51 = .ok (.iconst (-1), 1) := by decide +kernel
theorem dX9_firstToGo_52 : decode cX9_firstToGo 52 = .ok (.ixor, 1) := by decide +kernel
theorem dX9_firstToGo_53 : decode cX9_firstToGo 53 = .ok (.iand, 1) := by decide +kernel
theorem dX9_firstToGo_54 : decode cX9_firstToGo 54 = .ok (.iload 5, 2) := by decide +kernel
theorem dX9_firstToGo_56 : decode cX9_firstToGo 56 = .ok (.invokevirtual 54, 3) := by decide +kernel
theorem dX9_firstToGo_59 : decode cX9_firstToGo 59 = .ok (.iload_n 3, 1) := by decide +kernel
theorem dX9_firstToGo_60 : decode cX9_firstToGo 60 = .ok (.if_icmp .ne 6, 3) := by decide +kernel
theorem dX9_firstToGo_63 : decode cX9_firstToGo 63 = .ok (.iload 4, 2) := by decide +kernel
theorem dX9_firstToGo_65 : decode cX9_firstToGo 65 = .ok (.ireturn, 1) := by decide +kernel
theorem dX9_firstToGo_66 : decode cX9_firstToGo 66 = .ok (.iinc 4 1, 3) := by decide +kernel
theorem dX9_firstToGo_69 : decode cX9_firstToGo 69 = .ok (.goto (-66), 3) := by decide +kernel
theorem dX9_firstToGo_72 : decode cX9_firstToGo 72 = .ok (.iconst (-1), 1) := by decide +kernel
theorem dX9_firstToGo_73 : decode cX9_firstToGo 73 = .ok (.ireturn, 1) := by decide +kernel
theorem dX9_soonestEnd_0 : decode cX9_soonestEnd 0 = .ok (.aload_n 0, 1) := by decide +kernel
theorem dX9_soonestEnd_1 : decode cX9_soonestEnd 1 = .ok (.getfield 31, 3) := by decide +kernel
theorem dX9_soonestEnd_4 : decode cX9_soonestEnd 4 = .ok (.iconst 0, 1) := by decide +kernel
theorem dX9_soonestEnd_5 : decode cX9_soonestEnd 5 = .ok (.iload_n 2, 1) := by decide +kernel
theorem dX9_soonestEnd_6 : decode cX9_soonestEnd 6 = .ok (.iastore, 1) := by decide +kernel
theorem dX9_soonestEnd_7 : decode cX9_soonestEnd 7 = .ok (.iconst 1, 1) := by decide +kernel
theorem dX9_soonestEnd_8 : decode cX9_soonestEnd 8 = .ok (.istore_n 3, 1) := by decide +kernel
theorem dX9_soonestEnd_9 : decode cX9_soonestEnd 9 = .ok (.iload_n 3, 1) := by decide +kernel
theorem dX9_soonestEnd_10 : decode cX9_soonestEnd 10 = .ok (.iload_n 1, 1) := by decide +kernel
theorem dX9_soonestEnd_11 : decode cX9_soonestEnd 11 = .ok (.if_icmp .gt 107, 3) := by decide +kernel
theorem dX9_soonestEnd_14 : decode cX9_soonestEnd 14 = .ok (.iload_n 3, 1) := by decide +kernel
theorem dX9_soonestEnd_15 : decode cX9_soonestEnd 15 = .ok (.iload_n 1, 1) := by decide +kernel
theorem dX9_soonestEnd_16 : decode cX9_soonestEnd 16 = .ok (.iconst (-1), 1) := by decide +kernel
theorem dX9_soonestEnd_17 : decode cX9_soonestEnd 17 = .ok (.ixor, 1) := by decide +kernel
theorem dX9_soonestEnd_18 : decode cX9_soonestEnd 18 = .ok (.iand, 1) := by decide +kernel
theorem dX9_soonestEnd_19 : decode cX9_soonestEnd 19 = .ok (.ifCond .eq 6, 3) := by decide +kernel
theorem dX9_soonestEnd_22 : decode cX9_soonestEnd 22 = .ok (.goto 90, 3) := by decide +kernel
theorem dX9_soonestEnd_25 : decode cX9_soonestEnd 25 = .ok (.sipush 601, 3) := by decide +kernel
theorem dX9_soonestEnd_28 : decode cX9_soonestEnd 28 = .ok (.istore 4, 2) := by decide +kernel
theorem dX9_soonestEnd_30 : decode cX9_soonestEnd 30 = .ok (.iconst 0, 1) := by decide +kernel
theorem dX9_soonestEnd_31 : decode cX9_soonestEnd 31 = .ok (.istore 5, 2) := by decide +kernel
theorem dX9_soonestEnd_33 : decode cX9_soonestEnd 33 = .ok (.iload 5, 2) := by decide +kernel
theorem dX9_soonestEnd_35 : decode cX9_soonestEnd 35 = .ok (.aload_n 0, 1) := by decide +kernel
theorem dX9_soonestEnd_36 : decode cX9_soonestEnd 36 = .ok (.getfield 24, 3) := by decide +kernel
theorem dX9_soonestEnd_39 : decode cX9_soonestEnd 39 = .ok (.if_icmp .ge 65, 3) := by decide +kernel
theorem dX9_soonestEnd_42 : decode cX9_soonestEnd 42 = .ok (.iload_n 3, 1) := by decide +kernel
theorem dX9_soonestEnd_43 : decode cX9_soonestEnd 43 = .ok (.iload 5, 2) := by decide +kernel
theorem dX9_soonestEnd_45 : decode cX9_soonestEnd 45 = .ok (.ishr, 1) := by decide +kernel
theorem dX9_soonestEnd_46 : decode cX9_soonestEnd 46 = .ok (.iconst 1, 1) := by decide +kernel
theorem dX9_soonestEnd_47 : decode cX9_soonestEnd 47 = .ok (.iand, 1) := by decide +kernel
theorem dX9_soonestEnd_48 : decode cX9_soonestEnd 48 = .ok (.ifCond .ne 6, 3) := by decide +kernel
theorem dX9_soonestEnd_51 : decode cX9_soonestEnd 51 = .ok (.goto 47, 3) := by decide +kernel
theorem dX9_soonestEnd_54 : decode cX9_soonestEnd 54 = .ok (.aload_n 0, 1) := by decide +kernel
theorem dX9_soonestEnd_55 : decode cX9_soonestEnd 55 = .ok (.getfield 31, 3) := by decide +kernel
theorem dX9_soonestEnd_58 : decode cX9_soonestEnd 58 = .ok (.iload_n 3, 1) := by decide +kernel
theorem dX9_soonestEnd_59 : decode cX9_soonestEnd 59 = .ok (.iconst 1, 1) := by decide +kernel
theorem dX9_soonestEnd_60 : decode cX9_soonestEnd 60 = .ok (.iload 5, 2) := by decide +kernel
theorem dX9_soonestEnd_62 : decode cX9_soonestEnd 62 = .ok (.ishl, 1) := by decide +kernel
theorem dX9_soonestEnd_63 : decode cX9_soonestEnd 63 = .ok (.iconst (-1), 1) := by decide +kernel
theorem dX9_soonestEnd_64 : decode cX9_soonestEnd 64 = .ok (.ixor, 1) := by decide +kernel
theorem dX9_soonestEnd_65 : decode cX9_soonestEnd 65 = .ok (.iand, 1) := by decide +kernel
theorem dX9_soonestEnd_66 : decode cX9_soonestEnd 66 = .ok (.iaload, 1) := by decide +kernel
theorem dX9_soonestEnd_67 : decode cX9_soonestEnd 67 = .ok (.istore 6, 2) := by decide +kernel
theorem dX9_soonestEnd_69 : decode cX9_soonestEnd 69 = .ok (.iload 6, 2) := by decide +kernel
theorem dX9_soonestEnd_71 : decode cX9_soonestEnd 71 = .ok (.sipush 601, 3) := by decide +kernel
theorem dX9_soonestEnd_74 : decode cX9_soonestEnd 74 = .ok (.if_icmp .ge 24, 3) := by decide +kernel
theorem dX9_soonestEnd_77 : decode cX9_soonestEnd 77 = .ok (.iload 4, 2) := by decide +kernel
theorem dX9_soonestEnd_79 : decode cX9_soonestEnd 79 = .ok (.aload_n 0, 1) := by decide +kernel
theorem dX9_soonestEnd_80 : decode cX9_soonestEnd 80 = .ok (.getfield 28, 3) := by decide +kernel
theorem dX9_soonestEnd_83 : decode cX9_soonestEnd 83 = .ok (.iload 5, 2) := by decide +kernel
theorem dX9_soonestEnd_85 : decode cX9_soonestEnd 85 = .ok (.sipush 601, 3) := by decide +kernel
theorem dX9_soonestEnd_88 : decode cX9_soonestEnd 88 = .ok (.imul, 1) := by decide +kernel
theorem dX9_soonestEnd_89 : decode cX9_soonestEnd 89 = .ok (.iload 6, 2) := by decide +kernel
theorem dX9_soonestEnd_91 : decode cX9_soonestEnd 91 = .ok (.iadd, 1) := by decide +kernel
theorem dX9_soonestEnd_92 : decode cX9_soonestEnd 92 = .ok (.iaload, 1) := by decide +kernel
theorem dX9_soonestEnd_93 : decode cX9_soonestEnd 93 = .ok (.invokestatic 61, 3) := by decide +kernel
theorem dX9_soonestEnd_96 : decode cX9_soonestEnd 96 = .ok (.istore 4, 2) := by decide +kernel
theorem dX9_soonestEnd_98 : decode cX9_soonestEnd 98 = .ok (.iinc 5 1, 3) := by decide +kernel
theorem dX9_soonestEnd_101 : decode cX9_soonestEnd 101 = .ok (.goto (-68), 3) := by decide +kernel
theorem dX9_soonestEnd_104 : decode cX9_soonestEnd 104 = .ok (.aload_n 0, 1) := by decide +kernel
theorem dX9_soonestEnd_105 : decode cX9_soonestEnd 105 = .ok (.getfield 31, 3) := by decide +kernel
theorem dX9_soonestEnd_108 : decode cX9_soonestEnd 108 = .ok (.iload_n 3, 1) := by decide +kernel
theorem dX9_soonestEnd_109 : decode cX9_soonestEnd 109 = .ok (.iload 4, 2) := by decide +kernel
theorem dX9_soonestEnd_111 : decode cX9_soonestEnd 111 = .ok (.iastore, 1) := by decide +kernel
theorem dX9_soonestEnd_112 : decode cX9_soonestEnd 112 = .ok (.iinc 3 1, 3) := by decide +kernel
theorem dX9_soonestEnd_115 : decode cX9_soonestEnd 115 = .ok (.goto (-106), 3) := by decide +kernel
theorem dX9_soonestEnd_118 : decode cX9_soonestEnd 118 = .ok (.aload_n 0, 1) := by decide +kernel
theorem dX9_soonestEnd_119 : decode cX9_soonestEnd 119 = .ok (.getfield 31, 3) := by decide +kernel
theorem dX9_soonestEnd_122 : decode cX9_soonestEnd 122 = .ok (.iload_n 1, 1) := by decide +kernel
theorem dX9_soonestEnd_123 : decode cX9_soonestEnd 123 = .ok (.iaload, 1) := by decide +kernel
theorem dX9_soonestEnd_124 : decode cX9_soonestEnd 124 = .ok (.ireturn, 1) := by decide +kernel
theorem dX9_prepare_0 : decode cX9_prepare 0 = .ok (.aload_n 0, 1) := by decide +kernel
theorem dX9_prepare_1 : decode cX9_prepare 1 = .ok (.iconst 0, 1) := by decide +kernel
theorem dX9_prepare_2 : decode cX9_prepare 2 = .ok (.putfield 24, 3) := by decide +kernel
theorem dX9_prepare_5 : decode cX9_prepare 5 = .ok (.iconst 0, 1) := by decide +kernel
theorem dX9_prepare_6 : decode cX9_prepare 6 = .ok (.istore_n 3, 1) := by decide +kernel
theorem dX9_prepare_7 : decode cX9_prepare 7 = .ok (.iload_n 3, 1) := by decide +kernel
theorem dX9_prepare_8 : decode cX9_prepare 8 = .ok (.bipush 16, 2) := by decide +kernel
theorem dX9_prepare_10 : decode cX9_prepare 10 = .ok (.if_icmp .ge 47, 3) := by decide +kernel
theorem dX9_prepare_13 : decode cX9_prepare 13 = .ok (.aload_n 0, 1) := by decide +kernel
theorem dX9_prepare_14 : decode cX9_prepare 14 = .ok (.getfield 24, 3) := by decide +kernel
theorem dX9_prepare_17 : decode cX9_prepare 17 = .ok (.bipush 7, 2) := by decide +kernel
theorem dX9_prepare_19 : decode cX9_prepare 19 = .ok (.if_icmp .ge 38, 3) := by decide +kernel
theorem dX9_prepare_22 : decode cX9_prepare 22 = .ok (.iload_n 1, 1) := by decide +kernel
theorem dX9_prepare_23 : decode cX9_prepare 23 = .ok (.iload_n 3, 1) := by decide +kernel
theorem dX9_prepare_24 : decode cX9_prepare 24 = .ok (.ishr, 1) := by decide +kernel
theorem dX9_prepare_25 : decode cX9_prepare 25 = .ok (.iconst 1, 1) := by decide +kernel
theorem dX9_prepare_26 : decode cX9_prepare 26 = .ok (.iand, 1) := by decide +kernel
theorem dX9_prepare_27 : decode cX9_prepare 27 = .ok (.iconst 1, 1) := by decide +kernel
theorem dX9_prepare_28 : decode cX9_prepare 28 = .ok (.if_icmp .ne 23, 3) := by decide +kernel
theorem dX9_prepare_31 : decode cX9_prepare 31 = .ok (.aload_n 0, 1) := by decide +kernel
theorem dX9_prepare_32 : decode cX9_prepare 32 = .ok (.getfield 21, 3) := by decide +kernel
theorem dX9_prepare_35 : decode cX9_prepare 35 = .ok (.aload_n 0, 1) := by decide +kernel
theorem dX9_prepare_36 : decode cX9_prepare 36 = .ok (.getfield 24, 3) := by decide +kernel
theorem dX9_prepare_39 : decode cX9_prepare 39 = .ok (.iload_n 3, 1) := by decide +kernel
theorem dX9_prepare_40 : decode cX9_prepare 40 = .ok (.iastore, 1) := by decide +kernel
theorem dX9_prepare_41 : decode cX9_prepare 41 = .ok (.aload_n 0, 1) := by decide +kernel
theorem dX9_prepare_42 : decode cX9_prepare 42 = .ok (.dup, 1) := by decide +kernel
theorem dX9_prepare_43 : decode cX9_prepare 43 = .ok (.getfield 24, 3) := by decide +kernel
theorem dX9_prepare_46 : decode cX9_prepare 46 = .ok (.iconst 1, 1) := by decide +kernel
theorem dX9_prepare_47 : decode cX9_prepare 47 = .ok (.iadd, 1) := by decide +kernel
theorem dX9_prepare_48 : decode cX9_prepare 48 = .ok (.putfield 24, 3) := by decide +kernel
theorem dX9_prepare_51 : decode cX9_prepare 51 = .ok (.iinc 3 1, 3) := by decide +kernel
theorem dX9_prepare_54 : decode cX9_prepare 54 = .ok (.goto (-47), 3) := by decide +kernel
theorem dX9_prepare_57 : decode cX9_prepare 57 = .ok (.aload_n 0, 1) := by decide +kernel
theorem dX9_prepare_58 : decode cX9_prepare 58 = .ok (.aload_n 0, 1) := by decide +kernel
theorem dX9_prepare_59 : decode cX9_prepare 59 = .ok (.getfield 28, 3) := by decide +kernel
theorem dX9_prepare_62 : decode cX9_prepare 62 = .ok (.aload_n 0, 1) := by decide +kernel
theorem dX9_prepare_63 : decode cX9_prepare 63 = .ok (.getfield 24, 3) := by decide +kernel
theorem dX9_prepare_66 : decode cX9_prepare 66 = .ok (.sipush 601, 3) := by decide +kernel
theorem dX9_prepare_69 : decode cX9_prepare 69 = .ok (.imul, 1) := by decide +kernel
theorem dX9_prepare_70 : decode cX9_prepare 70 = .ok (.invokestatic 66, 3) := by decide +kernel
theorem dX9_prepare_73 : decode cX9_prepare 73 = .ok (.putfield 28, 3) := by decide +kernel
theorem dX9_prepare_76 : decode cX9_prepare 76 = .ok (.aload_n 0, 1) := by decide +kernel
theorem dX9_prepare_77 : decode cX9_prepare 77 = .ok (.getfield 24, 3) := by decide +kernel
theorem dX9_prepare_80 : decode cX9_prepare 80 = .ok (.ifCond .le 8, 3) := by decide +kernel
theorem dX9_prepare_83 : decode cX9_prepare 83 = .ok (.aload_n 0, 1) := by decide +kernel
theorem dX9_prepare_84 : decode cX9_prepare 84 = .ok (.iload_n 2, 1) := by decide +kernel
theorem dX9_prepare_85 : decode cX9_prepare 85 = .ok (.invokevirtual 72, 3) := by decide +kernel
theorem dX9_prepare_88 : decode cX9_prepare 88 = .ok (.iconst 0, 1) := by decide +kernel
theorem dX9_prepare_89 : decode cX9_prepare 89 = .ok (.istore_n 3, 1) := by decide +kernel
theorem dX9_prepare_90 : decode cX9_prepare 90 = .ok (.iload_n 3, 1) := by decide +kernel
theorem dX9_prepare_91 : decode cX9_prepare 91 = .ok (.aload_n 0, 1) := by decide +kernel
theorem dX9_prepare_92 : decode cX9_prepare 92 = .ok (.getfield 24, 3) := by decide +kernel
theorem dX9_prepare_95 : decode cX9_prepare 95 = .ok (.if_icmp .ge 15, 3) := by decide +kernel
theorem dX9_prepare_98 : decode cX9_prepare 98 = .ok (.aload_n 0, 1) := by decide +kernel
theorem dX9_prepare_99 : decode cX9_prepare 99 = .ok (.iload_n 3, 1) := by decide +kernel
theorem dX9_prepare_100 : decode cX9_prepare 100 = .ok (.iload_n 2, 1) := by decide +kernel
theorem dX9_prepare_101 : decode cX9_prepare 101 = .ok (.invokevirtual 76, 3) := by decide +kernel
theorem dX9_prepare_104 : decode cX9_prepare 104 = .ok (.iinc 3 1, 3) := by decide +kernel
theorem dX9_prepare_107 : decode cX9_prepare 107 = .ok (.goto (-17), 3) := by decide +kernel
theorem dX9_prepare_110 : decode cX9_prepare 110 = .ok (.return_, 1) := by decide +kernel
theorem dX9_lookRound_0 : decode cX9_lookRound 0 = .ok (.iload_n 1, 1) := by decide +kernel
theorem dX9_lookRound_1 : decode cX9_lookRound 1 = .ok (.istore_n 2, 1) := by decide +kernel
theorem dX9_lookRound_2 : decode cX9_lookRound 2 = .ok (.iload_n 2, 1) := by decide +kernel
theorem dX9_lookRound_3 : decode cX9_lookRound 3 = .ok (.sipush 600, 3) := by decide +kernel
theorem dX9_lookRound_6 : decode cX9_lookRound 6 = .ok (.if_icmp .ge 55, 3) := by decide +kernel
theorem dX9_lookRound_9 : decode cX9_lookRound 9 = .ok (.aload_n 0, 1) := by decide +kernel
theorem dX9_lookRound_10 : decode cX9_lookRound 10 = .ok (.getfield 18, 3) := by decide +kernel
theorem dX9_lookRound_13 : decode cX9_lookRound 13 = .ok (.iload_n 2, 1) := by decide +kernel
theorem dX9_lookRound_14 : decode cX9_lookRound 14 = .ok (.iconst 0, 1) := by decide +kernel
theorem dX9_lookRound_15 : decode cX9_lookRound 15 = .ok (.iastore, 1) := by decide +kernel
theorem dX9_lookRound_16 : decode cX9_lookRound 16 = .ok (.iconst 0, 1) := by decide +kernel
theorem dX9_lookRound_17 : decode cX9_lookRound 17 = .ok (.istore_n 3, 1) := by decide +kernel
theorem dX9_lookRound_18 : decode cX9_lookRound 18 = .ok (.iload_n 3, 1) := by decide +kernel
theorem dX9_lookRound_19 : decode cX9_lookRound 19 = .ok (.iconst 3, 1) := by decide +kernel
theorem dX9_lookRound_20 : decode cX9_lookRound 20 = .ok (.if_icmp .gt 35, 3) := by decide +kernel
theorem dX9_lookRound_23 : decode cX9_lookRound 23 = .ok (.aload_n 0, 1) := by decide +kernel
theorem dX9_lookRound_24 : decode cX9_lookRound 24 = .ok (.iload_n 3, 1) := by decide +kernel
theorem dX9_lookRound_25 : decode cX9_lookRound 25 = .ok (.iload_n 2, 1) := by decide +kernel
theorem dX9_lookRound_26 : decode cX9_lookRound 26 = .ok (.invokevirtual 38, 3) := by decide +kernel
theorem dX9_lookRound_29 : decode cX9_lookRound 29 = .ok (.istore 4, 2) := by decide +kernel
theorem dX9_lookRound_31 : decode cX9_lookRound 31 = .ok (.iload 4, 2) := by decide +kernel
theorem dX9_lookRound_33 : decode cX9_lookRound 33 = .ok (.ifCond .lt 16, 3) := by decide +kernel
theorem dX9_lookRound_36 : decode cX9_lookRound 36 = .ok (.aload_n 0, 1) := by decide +kernel
theorem dX9_lookRound_37 : decode cX9_lookRound 37 = .ok (.getfield 18, 3) := by decide +kernel
theorem dX9_lookRound_40 : decode cX9_lookRound 40 = .ok (.iload_n 2, 1) := by decide +kernel
theorem dX9_lookRound_41 : decode cX9_lookRound 41 = .ok (.dup2, 1) := by decide +kernel
theorem dX9_lookRound_42 : decode cX9_lookRound 42 = .ok (.iaload, 1) := by decide +kernel
theorem dX9_lookRound_43 : decode cX9_lookRound 43 = .ok (.iconst 1, 1) := by decide +kernel
theorem dX9_lookRound_44 : decode cX9_lookRound 44 = .ok (.iload 4, 2) := by decide +kernel
theorem dX9_lookRound_46 : decode cX9_lookRound 46 = .ok (.ishl, 1) := by decide +kernel
theorem dX9_lookRound_47 : decode cX9_lookRound 47 = .ok (.ior, 1) := by decide +kernel
theorem dX9_lookRound_48 : decode cX9_lookRound 48 = .ok (.iastore, 1) := by decide +kernel
theorem dX9_lookRound_49 : decode cX9_lookRound 49 = .ok (.iinc 3 1, 3) := by decide +kernel
theorem dX9_lookRound_52 : decode cX9_lookRound 52 = .ok (.goto (-34), 3) := by decide +kernel
theorem dX9_lookRound_55 : decode cX9_lookRound 55 = .ok (.iinc 2 1, 3) := by decide +kernel
theorem dX9_lookRound_58 : decode cX9_lookRound 58 = .ok (.goto (-56), 3) := by decide +kernel
theorem dX9_lookRound_61 : decode cX9_lookRound 61 = .ok (.return_, 1) := by decide +kernel
theorem dX9_findEnds_0 : decode cX9_findEnds 0 = .ok (.aload_n 0, 1) := by decide +kernel
theorem dX9_findEnds_1 : decode cX9_findEnds 1 = .ok (.getfield 34, 3) := by decide +kernel
theorem dX9_findEnds_4 : decode cX9_findEnds 4 = .ok (.aload_n 0, 1) := by decide +kernel
theorem dX9_findEnds_5 : decode cX9_findEnds 5 = .ok (.getfield 21, 3) := by decide +kernel
theorem dX9_findEnds_8 : decode cX9_findEnds 8 = .ok (.iload_n 1, 1) := by decide +kernel
theorem dX9_findEnds_9 : decode cX9_findEnds 9 = .ok (.iaload, 1) := by decide +kernel
theorem dX9_findEnds_10 : decode cX9_findEnds 10 = .ok (.iconst 4, 1) := by decide +kernel
theorem dX9_findEnds_11 : decode cX9_findEnds 11 = .ok (.invokevirtual 44, 3) := by decide +kernel
theorem dX9_findEnds_14 : decode cX9_findEnds 14 = .ok (.istore_n 3, 1) := by decide +kernel
theorem dX9_findEnds_15 : decode cX9_findEnds 15 = .ok (.aload_n 0, 1) := by decide +kernel
theorem dX9_findEnds_16 : decode cX9_findEnds 16 = .ok (.getfield 34, 3) := by decide +kernel
theorem dX9_findEnds_19 : decode cX9_findEnds 19 = .ok (.aload_n 0, 1) := by decide +kernel
theorem dX9_findEnds_20 : decode cX9_findEnds 20 = .ok (.getfield 21, 3) := by decide +kernel
theorem dX9_findEnds_23 : decode cX9_findEnds 23 = .ok (.iload_n 1, 1) := by decide +kernel
theorem dX9_findEnds_24 : decode cX9_findEnds 24 = .ok (.iaload, 1) := by decide +kernel
theorem dX9_findEnds_25 : decode cX9_findEnds 25 = .ok (.iconst 1, 1) := by decide +kernel
