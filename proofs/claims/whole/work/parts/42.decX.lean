theorem dX9_findEnds_26 : decode cX9_findEnds 26 = .ok (.invokevirtual 44, 3) := by decide +kernel
theorem dX9_findEnds_29 : decode cX9_findEnds 29 = .ok (.istore 4, 2) := by decide +kernel
theorem dX9_findEnds_31 : decode cX9_findEnds 31 = .ok (.iconst 0, 1) := by decide +kernel
theorem dX9_findEnds_32 : decode cX9_findEnds 32 = .ok (.istore 5, 2) := by decide +kernel
theorem dX9_findEnds_34 : decode cX9_findEnds 34 = .ok (.aload_n 0, 1) := by decide +kernel
theorem dX9_findEnds_35 : decode cX9_findEnds 35 = .ok (.getfield 28, 3) := by decide +kernel
theorem dX9_findEnds_38 : decode cX9_findEnds 38 = .ok (.iload_n 1, 1) := by decide +kernel
theorem dX9_findEnds_39 : decode cX9_findEnds 39 = .ok (.sipush 601, 3) := by decide +kernel
theorem dX9_findEnds_42 : decode cX9_findEnds 42 = .ok (.imul, 1) := by decide +kernel
theorem dX9_findEnds_43 : decode cX9_findEnds 43 = .ok (.sipush 600, 3) := by decide +kernel
theorem dX9_findEnds_46 : decode cX9_findEnds 46 = .ok (.iadd, 1) := by decide +kernel
theorem dX9_findEnds_47 : decode cX9_findEnds 47 = .ok (.sipush 601, 3) := by decide +kernel
theorem dX9_findEnds_50 : decode cX9_findEnds 50 = .ok (.iastore, 1) := by decide +kernel
theorem dX9_findEnds_51 : decode cX9_findEnds 51 = .ok (.sipush 599, 3) := by decide +kernel
theorem dX9_findEnds_54 : decode cX9_findEnds 54 = .ok (.istore 6, 2) := by decide +kernel
theorem dX9_findEnds_56 : decode cX9_findEnds 56 = .ok (.iload 6, 2) := by decide +kernel
theorem dX9_findEnds_58 : decode cX9_findEnds 58 = .ok (.iload_n 2, 1) := by decide +kernel
theorem dX9_findEnds_59 : decode cX9_findEnds 59 = .ok (.if_icmp .lt 76, 3) := by decide +kernel
theorem dX9_findEnds_62 : decode cX9_findEnds 62 = .ok (.aload_n 0, 1) := by decide +kernel
theorem dX9_findEnds_63 : decode cX9_findEnds 63 = .ok (.getfield 18, 3) := by decide +kernel
theorem dX9_findEnds_66 : decode cX9_findEnds 66 = .ok (.iload 6, 2) := by decide +kernel
theorem dX9_findEnds_68 : decode cX9_findEnds 68 = .ok (.iaload, 1) := by decide +kernel
theorem dX9_findEnds_69 : decode cX9_findEnds 69 = .ok (.iload_n 3, 1) := by decide +kernel
theorem dX9_findEnds_70 : decode cX9_findEnds 70 = .ok (.ishr, 1) := by decide +kernel
theorem dX9_findEnds_71 : decode cX9_findEnds 71 = .ok (.iconst 1, 1) := by decide +kernel
theorem dX9_findEnds_72 : decode cX9_findEnds 72 = .ok (.iand, 1) := by decide +kernel
theorem dX9_findEnds_73 : decode cX9_findEnds 73 = .ok (.ifCond .ne 10, 3) := by decide +kernel
theorem dX9_findEnds_76 : decode cX9_findEnds 76 = .ok (.iload 5, 2) := by decide +kernel
theorem dX9_findEnds_78 : decode cX9_findEnds 78 = .ok (.iconst 1, 1) := by decide +kernel
theorem dX9_findEnds_79 : decode cX9_findEnds 79 = .ok (.iadd, 1) := by decide +kernel
theorem dX9_findEnds_80 : decode cX9_findEnds 80 = .ok (.goto 4, 3) := by decide +kernel
theorem dX9_findEnds_83 : decode cX9_findEnds 83 = .ok (.iconst 0, 1) := by decide +kernel
theorem dX9_findEnds_84 : decode cX9_findEnds 84 = .ok (.istore 5, 2) := by decide +kernel
theorem dX9_findEnds_86 : decode cX9_findEnds 86 = .ok (.aload_n 0, 1) := by decide +kernel
theorem dX9_findEnds_87 : decode cX9_findEnds 87 = .ok (.getfield 28, 3) := by decide +kernel
theorem dX9_findEnds_90 : decode cX9_findEnds 90 = .ok (.iload_n 1, 1) := by decide +kernel
theorem dX9_findEnds_91 : decode cX9_findEnds 91 = .ok (.sipush 601, 3) := by decide +kernel
theorem dX9_findEnds_94 : decode cX9_findEnds 94 = .ok (.imul, 1) := by decide +kernel
theorem dX9_findEnds_95 : decode cX9_findEnds 95 = .ok (.iload 6, 2) := by decide +kernel
theorem dX9_findEnds_97 : decode cX9_findEnds 97 = .ok (.iadd, 1) := by decide +kernel
theorem dX9_findEnds_98 : decode cX9_findEnds 98 = .ok (.iload 5, 2) := by decide +kernel
theorem dX9_findEnds_100 : decode cX9_findEnds 100 = .ok (.iload 4, 2) := by decide +kernel
theorem dX9_findEnds_102 : decode cX9_findEnds 102 = .ok (.if_icmp .lt 11, 3) := by decide +kernel
theorem dX9_findEnds_105 : decode cX9_findEnds 105 = .ok (.iload 6, 2) := by decide +kernel
theorem dX9_findEnds_107 : decode cX9_findEnds 107 = .ok (.iload 4, 2) := by decide +kernel
theorem dX9_findEnds_109 : decode cX9_findEnds 109 = .ok (.iadd, 1) := by decide +kernel
theorem dX9_findEnds_110 : decode cX9_findEnds 110 = .ok (.goto 18, 3) := by decide +kernel
theorem dX9_findEnds_113 : decode cX9_findEnds 113 = .ok (.aload_n 0, 1) := by decide +kernel
theorem dX9_findEnds_114 : decode cX9_findEnds 114 = .ok (.getfield 28, 3) := by decide +kernel
theorem dX9_findEnds_117 : decode cX9_findEnds 117 = .ok (.iload_n 1, 1) := by decide +kernel
theorem dX9_findEnds_118 : decode cX9_findEnds 118 = .ok (.sipush 601, 3) := by decide +kernel
theorem dX9_findEnds_121 : decode cX9_findEnds 121 = .ok (.imul, 1) := by decide +kernel
theorem dX9_findEnds_122 : decode cX9_findEnds 122 = .ok (.iload 6, 2) := by decide +kernel
theorem dX9_findEnds_124 : decode cX9_findEnds 124 = .ok (.iadd, 1) := by decide +kernel
theorem dX9_findEnds_125 : decode cX9_findEnds 125 = .ok (.iconst 1, 1) := by decide +kernel
theorem dX9_findEnds_126 : decode cX9_findEnds 126 = .ok (.iadd, 1) := by decide +kernel
theorem dX9_findEnds_127 : decode cX9_findEnds 127 = .ok (.iaload, 1) := by decide +kernel
theorem dX9_findEnds_128 : decode cX9_findEnds 128 = .ok (.iastore, 1) := by decide +kernel
theorem dX9_findEnds_129 : decode cX9_findEnds 129 = .ok (.iinc 6 (-1), 3) := by decide +kernel
theorem dX9_findEnds_132 : decode cX9_findEnds 132 = .ok (.goto (-76), 3) := by decide +kernel
theorem dX9_findEnds_135 : decode cX9_findEnds 135 = .ok (.return_, 1) := by decide +kernel
theorem dX9_mixInto_0 : decode cX9_mixInto 0 = .ok (.iconst 0, 1) := by decide +kernel
theorem dX9_mixInto_1 : decode cX9_mixInto 1 = .ok (.istore_n 3, 1) := by decide +kernel
theorem dX9_mixInto_2 : decode cX9_mixInto 2 = .ok (.iload_n 3, 1) := by decide +kernel
theorem dX9_mixInto_3 : decode cX9_mixInto 3 = .ok (.iconst 3, 1) := by decide +kernel
theorem dX9_mixInto_4 : decode cX9_mixInto 4 = .ok (.if_icmp .gt 63, 3) := by decide +kernel
theorem dX9_mixInto_7 : decode cX9_mixInto 7 = .ok (.ldc2_w 79, 3) := by decide +kernel
theorem dX9_mixInto_10 : decode cX9_mixInto 10 = .ok (.lload_n 1, 1) := by decide +kernel
theorem dX9_mixInto_11 : decode cX9_mixInto 11 = .ok (.lmul, 1) := by decide +kernel
theorem dX9_mixInto_12 : decode cX9_mixInto 12 = .ok (.aload_n 0, 1) := by decide +kernel
theorem dX9_mixInto_13 : decode cX9_mixInto 13 = .ok (.getfield 15, 3) := by decide +kernel
theorem dX9_mixInto_16 : decode cX9_mixInto 16 = .ok (.iload_n 3, 1) := by decide +kernel
theorem dX9_mixInto_17 : decode cX9_mixInto 17 = .ok (.iaload, 1) := by decide +kernel
theorem dX9_mixInto_18 : decode cX9_mixInto 18 = .ok (.i2l, 1) := by decide +kernel
theorem dX9_mixInto_19 : decode cX9_mixInto 19 = .ok (.ladd, 1) := by decide +kernel
theorem dX9_mixInto_20 : decode cX9_mixInto 20 = .ok (.lstore_n 1, 1) := by decide +kernel
theorem dX9_mixInto_21 : decode cX9_mixInto 21 = .ok (.iconst 0, 1) := by decide +kernel
theorem dX9_mixInto_22 : decode cX9_mixInto 22 = .ok (.istore 4, 2) := by decide +kernel
theorem dX9_mixInto_24 : decode cX9_mixInto 24 = .ok (.iload 4, 2) := by decide +kernel
theorem dX9_mixInto_26 : decode cX9_mixInto 26 = .ok (.aload_n 0, 1) := by decide +kernel
theorem dX9_mixInto_27 : decode cX9_mixInto 27 = .ok (.getfield 15, 3) := by decide +kernel
theorem dX9_mixInto_30 : decode cX9_mixInto 30 = .ok (.iload_n 3, 1) := by decide +kernel
theorem dX9_mixInto_31 : decode cX9_mixInto 31 = .ok (.iaload, 1) := by decide +kernel
theorem dX9_mixInto_32 : decode cX9_mixInto 32 = .ok (.if_icmp .ge 29, 3) := by decide +kernel
theorem dX9_mixInto_35 : decode cX9_mixInto 35 = .ok (.ldc2_w 79, 3) := by decide +kernel
theorem dX9_mixInto_38 : decode cX9_mixInto 38 = .ok (.lload_n 1, 1) := by decide +kernel
theorem dX9_mixInto_39 : decode cX9_mixInto 39 = .ok (.lmul, 1) := by decide +kernel
theorem dX9_mixInto_40 : decode cX9_mixInto 40 = .ok (.aload_n 0, 1) := by decide +kernel
theorem dX9_mixInto_41 : decode cX9_mixInto 41 = .ok (.getfield 11, 3) := by decide +kernel
theorem dX9_mixInto_44 : decode cX9_mixInto 44 = .ok (.iload_n 3, 1) := by decide +kernel
theorem dX9_mixInto_45 : decode cX9_mixInto 45 = .ok (.bipush 12, 2) := by decide +kernel
theorem dX9_mixInto_47 : decode cX9_mixInto 47 = .ok (.imul, 1) := by decide +kernel
theorem dX9_mixInto_48 : decode cX9_mixInto 48 = .ok (.iload 4, 2) := by decide +kernel
theorem dX9_mixInto_50 : decode cX9_mixInto 50 = .ok (.iadd, 1) := by decide +kernel
theorem dX9_mixInto_51 : decode cX9_mixInto 51 = .ok (.iaload, 1) := by decide +kernel
theorem dX9_mixInto_52 : decode cX9_mixInto 52 = .ok (.i2l, 1) := by decide +kernel
theorem dX9_mixInto_53 : decode cX9_mixInto 53 = .ok (.ladd, 1) := by decide +kernel
theorem dX9_mixInto_54 : decode cX9_mixInto 54 = .ok (.lstore_n 1, 1) := by decide +kernel
theorem dX9_mixInto_55 : decode cX9_mixInto 55 = .ok (.iinc 4 1, 3) := by decide +kernel
theorem dX9_mixInto_58 : decode cX9_mixInto 58 = .ok (.goto (-34), 3) := by decide +kernel
theorem dX9_mixInto_61 : decode cX9_mixInto 61 = .ok (.iinc 3 1, 3) := by decide +kernel
theorem dX9_mixInto_64 : decode cX9_mixInto 64 = .ok (.goto (-62), 3) := by decide +kernel
theorem dX9_mixInto_67 : decode cX9_mixInto 67 = .ok (.lload_n 1, 1) := by decide +kernel
theorem dX9_mixInto_68 : decode cX9_mixInto 68 = .ok (.lreturn, 1) := by decide +kernel
theorem dX10_forget_0 : decode cX10_forget 0 = .ok (.aload_n 0, 1) := by decide +kernel
theorem dX10_forget_1 : decode cX10_forget 1 = .ok (.iconst (-1), 1) := by decide +kernel
theorem dX10_forget_2 : decode cX10_forget 2 = .ok (.putfield 24, 3) := by decide +kernel
theorem dX10_forget_5 : decode cX10_forget 5 = .ok (.return_, 1) := by decide +kernel
theorem dX10_listAll_0 : decode cX10_listAll 0 = .ok (.aload_n 0, 1) := by decide +kernel
theorem dX10_listAll_1 : decode cX10_listAll 1 = .ok (.getfield 40, 3) := by decide +kernel
theorem dX10_listAll_4 : decode cX10_listAll 4 = .ok (.iload_n 1, 1) := by decide +kernel
theorem dX10_listAll_5 : decode cX10_listAll 5 = .ok (.invokevirtual 44, 3) := by decide +kernel
theorem dX10_listAll_8 : decode cX10_listAll 8 = .ok (.aload_n 0, 1) := by decide +kernel
theorem dX10_listAll_9 : decode cX10_listAll 9 = .ok (.getfield 40, 3) := by decide +kernel
theorem dX10_listAll_12 : decode cX10_listAll 12 = .ok (.getfield 48, 3) := by decide +kernel
theorem dX10_listAll_15 : decode cX10_listAll 15 = .ok (.ifCond .eq 5, 3) := by decide +kernel
theorem dX10_listAll_18 : decode cX10_listAll 18 = .ok (.iconst 0, 1) := by decide +kernel
theorem dX10_listAll_19 : decode cX10_listAll 19 = .ok (.ireturn, 1) := by decide +kernel
theorem dX10_listAll_20 : decode cX10_listAll 20 = .ok (.aload_n 0, 1) := by decide +kernel
theorem dX10_listAll_21 : decode cX10_listAll 21 = .ok (.getfield 24, 3) := by decide +kernel
theorem dX10_listAll_24 : decode cX10_listAll 24 = .ok (.iload_n 1, 1) := by decide +kernel
theorem dX10_listAll_25 : decode cX10_listAll 25 = .ok (.if_icmp .eq 16, 3) := by decide +kernel
theorem dX10_listAll_28 : decode cX10_listAll 28 = .ok (.aload_n 0, 1) := by decide +kernel
theorem dX10_listAll_29 : decode cX10_listAll 29 = .ok (.iload_n 1, 1) := by decide +kernel
theorem dX10_listAll_30 : decode cX10_listAll 30 = .ok (.putfield 24, 3) := by decide +kernel
theorem dX10_listAll_33 : decode cX10_listAll 33 = .ok (.aload_n 0, 1) := by decide +kernel
theorem dX10_listAll_34 : decode cX10_listAll 34 = .ok (.aload_n 0, 1) := by decide +kernel
theorem dX10_listAll_35 : decode cX10_listAll 35 = .ok (.invokevirtual 52, 3) := by decide +kernel
theorem dX10_listAll_38 : decode cX10_listAll 38 = .ok (.invokevirtual 56, 3) := by decide +kernel
theorem dX10_listAll_41 : decode cX10_listAll 41 = .ok (.iconst 1, 1) := by decide +kernel
theorem dX10_listAll_42 : decode cX10_listAll 42 = .ok (.ireturn, 1) := by decide +kernel
theorem dX10_findAll_0 : decode cX10_findAll 0 = .ok (.iconst 0, 1) := by decide +kernel
theorem dX10_findAll_1 : decode cX10_findAll 1 = .ok (.istore_n 1, 1) := by decide +kernel
theorem dX10_findAll_2 : decode cX10_findAll 2 = .ok (.iconst 0, 1) := by decide +kernel
theorem dX10_findAll_3 : decode cX10_findAll 3 = .ok (.istore_n 2, 1) := by decide +kernel
theorem dX10_findAll_4 : decode cX10_findAll 4 = .ok (.iload_n 2, 1) := by decide +kernel
theorem dX10_findAll_5 : decode cX10_findAll 5 = .ok (.aload_n 0, 1) := by decide +kernel
theorem dX10_findAll_6 : decode cX10_findAll 6 = .ok (.getfield 40, 3) := by decide +kernel
theorem dX10_findAll_9 : decode cX10_findAll 9 = .ok (.getfield 59, 3) := by decide +kernel
theorem dX10_findAll_12 : decode cX10_findAll 12 = .ok (.if_icmp .ge 90, 3) := by decide +kernel
theorem dX10_findAll_15 : decode cX10_findAll 15 = .ok (.aload_n 0, 1) := by decide +kernel
theorem dX10_findAll_16 : decode cX10_findAll 16 = .ok (.getfield 40, 3) := by decide +kernel
theorem dX10_findAll_19 : decode cX10_findAll 19 = .ok (.aload_n 0, 1) := by decide +kernel
theorem dX10_findAll_20 : decode cX10_findAll 20 = .ok (.getfield 40, 3) := by decide +kernel
theorem dX10_findAll_23 : decode cX10_findAll 23 = .ok (.getfield 62, 3) := by decide +kernel
theorem dX10_findAll_26 : decode cX10_findAll 26 = .ok (.iload_n 2, 1) := by decide +kernel
theorem dX10_findAll_27 : decode cX10_findAll 27 = .ok (.invokevirtual 65, 3) := by decide +kernel
theorem dX10_findAll_30 : decode cX10_findAll 30 = .ok (.lstore_n 3, 1) := by decide +kernel
theorem dX10_findAll_31 : decode cX10_findAll 31 = .ok (.iconst 0, 1) := by decide +kernel
theorem dX10_findAll_32 : decode cX10_findAll 32 = .ok (.istore 5, 2) := by decide +kernel
theorem dX10_findAll_34 : decode cX10_findAll 34 = .ok (.iload 5, 2) := by decide +kernel
theorem dX10_findAll_36 : decode cX10_findAll 36 = .ok (.bipush 64, 2) := by decide +kernel
theorem dX10_findAll_38 : decode cX10_findAll 38 = .ok (.if_icmp .ge 58, 3) := by decide +kernel
theorem dX10_findAll_41 : decode cX10_findAll 41 = .ok (.lload_n 3, 1) := by decide +kernel
theorem dX10_findAll_42 : decode cX10_findAll 42 = .ok (.lconst 0, 1) := by decide +kernel
theorem dX10_findAll_43 : decode cX10_findAll 43 = .ok (.lcmp, 1) := by decide +kernel
theorem dX10_findAll_44 : decode cX10_findAll 44 = .ok (.ifCond .eq 52, 3) := by decide +kernel
theorem dX10_findAll_47 : decode cX10_findAll 47 = .ok (.lload_n 3, 1) := by decide +kernel
theorem dX10_findAll_48 : decode cX10_findAll 48 = .ok (.iload 5, 2) := by decide +kernel
theorem dX10_findAll_50 : decode cX10_findAll 50 = .ok (.lushr, 1) := by decide +kernel
theorem dX10_findAll_51 : decode cX10_findAll 51 = .ok (.lconst 1, 1) := by decide +kernel
theorem dX10_findAll_52 : decode cX10_findAll 52 = .ok (.land, 1) := by decide +kernel
theorem dX10_findAll_53 : decode cX10_findAll 53 = .ok (.lconst 1, 1) := by decide +kernel
theorem dX10_findAll_54 : decode cX10_findAll 54 = .ok (.lcmp, 1) := by decide +kernel
theorem dX10_findAll_55 : decode cX10_findAll 55 = .ok (.ifCond .ne 35, 3) := by decide +kernel
theorem dX10_findAll_58 : decode cX10_findAll 58 = .ok (.iload_n 1, 1) := by decide +kernel
theorem dX10_findAll_59 : decode cX10_findAll 59 = .ok (.aload_n 0, 1) := by decide +kernel
theorem dX10_findAll_60 : decode cX10_findAll 60 = .ok (.getfield 17, 3) := by decide +kernel
theorem dX10_findAll_63 : decode cX10_findAll 63 = .ok (.arraylength, 1) := by decide +kernel
theorem dX10_findAll_64 : decode cX10_findAll 64 = .ok (.if_icmp .ge 26, 3) := by decide +kernel
theorem dX10_findAll_67 : decode cX10_findAll 67 = .ok (.aload_n 0, 1) := by decide +kernel
theorem dX10_findAll_68 : decode cX10_findAll 68 = .ok (.getfield 17, 3) := by decide +kernel
theorem dX10_findAll_71 : decode cX10_findAll 71 = .ok (.iload_n 1, 1) := by decide +kernel
theorem dX10_findAll_72 : decode cX10_findAll 72 = .ok (.aload_n 0, 1) := by decide +kernel
theorem dX10_findAll_73 : decode cX10_findAll 73 = .ok (.getfield 40, 3) := by decide +kernel
theorem dX10_findAll_76 : decode cX10_findAll 76 = .ok (.iload_n 2, 1) := by decide +kernel
theorem dX10_findAll_77 : decode cX10_findAll 77 = .ok (.bipush 64, 2) := by decide +kernel
theorem dX10_findAll_79 : decode cX10_findAll 79 = .ok (.imul, 1) := by decide +kernel
theorem dX10_findAll_80 : decode cX10_findAll 80 = .ok (.iload 5, 2) := by decide +kernel
theorem dX10_findAll_82 : decode cX10_findAll 82 = .ok (.iadd, 1) := by decide +kernel
theorem dX10_findAll_83 : decode cX10_findAll 83 = .ok (.invokevirtual 69, 3) := by decide +kernel
theorem dX10_findAll_86 : decode cX10_findAll 86 = .ok (.iastore, 1) := by decide +kernel
theorem dX10_findAll_87 : decode cX10_findAll 87 = .ok (.iinc 1 1, 3) := by decide +kernel
theorem dX10_findAll_90 : decode cX10_findAll 90 = .ok (.iinc 5 1, 3) := by decide +kernel
theorem dX10_findAll_93 : decode cX10_findAll 93 = .ok (.goto (-59), 3) := by decide +kernel
theorem dX10_findAll_96 : decode cX10_findAll 96 = .ok (.iinc 2 1, 3) := by decide +kernel
theorem dX10_findAll_99 : decode cX10_findAll 99 = .ok (.goto (-95), 3) := by decide +kernel
theorem dX10_findAll_102 : decode cX10_findAll 102 = .ok (.iload_n 1, 1) := by decide +kernel
theorem dX10_findAll_103 : decode cX10_findAll 103 = .ok (.ireturn, 1) := by decide +kernel
theorem dX10_sortBySize_0 : decode cX10_sortBySize 0 = .ok (.aload_n 0, 1) := by decide +kernel
theorem dX10_sortBySize_1 : decode cX10_sortBySize 1 = .ok (.iconst 0, 1) := by decide +kernel
theorem dX10_sortBySize_2 : decode cX10_sortBySize 2 = .ok (.putfield 20, 3) := by decide +kernel
theorem dX10_sortBySize_5 : decode cX10_sortBySize 5 = .ok (.iconst 1, 1) := by decide +kernel
theorem dX10_sortBySize_6 : decode cX10_sortBySize 6 = .ok (.istore_n 2, 1) := by decide +kernel
theorem dX10_sortBySize_7 : decode cX10_sortBySize 7 = .ok (.iload_n 2, 1) := by decide +kernel
theorem dX10_sortBySize_8 : decode cX10_sortBySize 8 = .ok (.bipush 16, 2) := by decide +kernel
theorem dX10_sortBySize_10 : decode cX10_sortBySize 10 = .ok (.if_icmp .gt 60, 3) := by decide +kernel
theorem dX10_sortBySize_13 : decode cX10_sortBySize 13 = .ok (.iconst 0, 1) := by decide +kernel
theorem dX10_sortBySize_14 : decode cX10_sortBySize 14 = .ok (.istore_n 3, 1) := by decide +kernel
theorem dX10_sortBySize_15 : decode cX10_sortBySize 15 = .ok (.iload_n 3, 1) := by decide +kernel
theorem dX10_sortBySize_16 : decode cX10_sortBySize 16 = .ok (.iload_n 1, 1) := by decide +kernel
theorem dX10_sortBySize_17 : decode cX10_sortBySize 17 = .ok (.if_icmp .ge 47, 3) := by decide +kernel
theorem dX10_sortBySize_20 : decode cX10_sortBySize 20 = .ok (.aload_n 0, 1) := by decide +kernel
theorem dX10_sortBySize_21 : decode cX10_sortBySize 21 = .ok (.getfield 17, 3) := by decide +kernel
theorem dX10_sortBySize_24 : decode cX10_sortBySize 24 = .ok (.iload_n 3, 1) := by decide +kernel
theorem dX10_sortBySize_25 : decode cX10_sortBySize 25 = .ok (.iaload, 1) := by decide +kernel
theorem dX10_sortBySize_26 : decode cX10_sortBySize 26 = .ok (.invokestatic 73, 3) := by decide +kernel
theorem dX10_sortBySize_29 : decode cX10_sortBySize 29 = .ok (.iload_n 2, 1) := by decide +kernel
theorem dX10_sortBySize_30 : decode cX10_sortBySize 30 = .ok (.if_icmp .ne 28, 3) := by decide +kernel
theorem dX10_sortBySize_33 : decode cX10_sortBySize 33 = .ok (.aload_n 0, 1) := by decide +kernel
theorem dX10_sortBySize_34 : decode cX10_sortBySize 34 = .ok (.getfield 11, 3) := by decide +kernel
theorem dX10_sortBySize_37 : decode cX10_sortBySize 37 = .ok (.aload_n 0, 1) := by decide +kernel
theorem dX10_sortBySize_38 : decode cX10_sortBySize 38 = .ok (.getfield 20, 3) := by decide +kernel
theorem dX10_sortBySize_41 : decode cX10_sortBySize 41 = .ok (.aload_n 0, 1) := by decide +kernel
theorem dX10_sortBySize_42 : decode cX10_sortBySize 42 = .ok (.getfield 17, 3) := by decide +kernel
theorem dX10_sortBySize_45 : decode cX10_sortBySize 45 = .ok (.iload_n 3, 1) := by decide +kernel
theorem dX10_sortBySize_46 : decode cX10_sortBySize 46 = .ok (.iaload, 1) := by decide +kernel
theorem dX10_sortBySize_47 : decode cX10_sortBySize 47 = .ok (.iastore, 1) := by decide +kernel
theorem dX10_sortBySize_48 : decode cX10_sortBySize 48 = .ok (.aload_n 0, 1) := by decide +kernel
theorem dX10_sortBySize_49 : decode cX10_sortBySize 49 = .ok (.dup, 1) := by decide +kernel
theorem dX10_sortBySize_50 : decode cX10_sortBySize 50 = .ok (.getfield 20, 3) := by decide +kernel
theorem dX10_sortBySize_53 : decode cX10_sortBySize 53 = .ok (.iconst 1, 1) := by decide +kernel
theorem dX10_sortBySize_54 : decode cX10_sortBySize 54 = .ok (.iadd, 1) := by decide +kernel
theorem dX10_sortBySize_55 : decode cX10_sortBySize 55 = .ok (.putfield 20, 3) := by decide +kernel
theorem dX10_sortBySize_58 : decode cX10_sortBySize 58 = .ok (.iinc 3 1, 3) := by decide +kernel
theorem dX10_sortBySize_61 : decode cX10_sortBySize 61 = .ok (.goto (-46), 3) := by decide +kernel
theorem dX10_sortBySize_64 : decode cX10_sortBySize 64 = .ok (.iinc 2 1, 3) := by decide +kernel
theorem dX10_sortBySize_67 : decode cX10_sortBySize 67 = .ok (.goto (-60), 3) := by decide +kernel
theorem dX10_sortBySize_70 : decode cX10_sortBySize 70 = .ok (.return_, 1) := by decide +kernel
theorem dX10_firstLeast_0 : decode cX10_firstLeast 0 = .ok (.iconst 0, 1) := by decide +kernel
theorem dX10_firstLeast_1 : decode cX10_firstLeast 1 = .ok (.istore_n 2, 1) := by decide +kernel
theorem dX10_firstLeast_2 : decode cX10_firstLeast 2 = .ok (.sipush 16001, 3) := by decide +kernel
theorem dX10_firstLeast_5 : decode cX10_firstLeast 5 = .ok (.istore_n 3, 1) := by decide +kernel
theorem dX10_firstLeast_6 : decode cX10_firstLeast 6 = .ok (.iconst 0, 1) := by decide +kernel
theorem dX10_firstLeast_7 : decode cX10_firstLeast 7 = .ok (.istore 4, 2) := by decide +kernel
theorem dX10_firstLeast_9 : decode cX10_firstLeast 9 = .ok (.iload 4, 2) := by decide +kernel
theorem dX10_firstLeast_11 : decode cX10_firstLeast 11 = .ok (.aload_n 0, 1) := by decide +kernel
theorem dX10_firstLeast_12 : decode cX10_firstLeast 12 = .ok (.getfield 20, 3) := by decide +kernel
theorem dX10_firstLeast_15 : decode cX10_firstLeast 15 = .ok (.if_icmp .ge 43, 3) := by decide +kernel
theorem dX10_firstLeast_18 : decode cX10_firstLeast 18 = .ok (.aload_n 0, 1) := by decide +kernel
theorem dX10_firstLeast_19 : decode cX10_firstLeast 19 = .ok (.getfield 36, 3) := by decide +kernel
theorem dX10_firstLeast_22 : decode cX10_firstLeast 22 = .ok (.aload_n 0, 1) := by decide +kernel
theorem dX10_firstLeast_23 : decode cX10_firstLeast 23 = .ok (.getfield 11, 3) := by decide +kernel
theorem dX10_firstLeast_26 : decode cX10_firstLeast 26 = .ok (.iload 4, 2) := by decide +kernel
theorem dX10_firstLeast_28 : decode cX10_firstLeast 28 = .ok (.iaload, 1) := by decide +kernel
theorem dX10_firstLeast_29 : decode cX10_firstLeast 29 = .ok (.iload_n 1, 1) := by decide +kernel
theorem dX10_firstLeast_30 : decode cX10_firstLeast 30 = .ok (.invokevirtual 80, 3) := by decide +kernel
theorem dX10_firstLeast_33 : decode cX10_firstLeast 33 = .ok (.istore 5, 2) := by decide +kernel
theorem dX10_firstLeast_35 : decode cX10_firstLeast 35 = .ok (.iload 5, 2) := by decide +kernel
theorem dX10_firstLeast_37 : decode cX10_firstLeast 37 = .ok (.iload_n 3, 1) := by decide +kernel
theorem dX10_firstLeast_38 : decode cX10_firstLeast 38 = .ok (.if_icmp .ge 14, 3) := by decide +kernel
theorem dX10_firstLeast_41 : decode cX10_firstLeast 41 = .ok (.iload 5, 2) := by decide +kernel
theorem dX10_firstLeast_43 : decode cX10_firstLeast 43 = .ok (.istore_n 3, 1) := by decide +kernel
theorem dX10_firstLeast_44 : decode cX10_firstLeast 44 = .ok (.aload_n 0, 1) := by decide +kernel
theorem dX10_firstLeast_45 : decode cX10_firstLeast 45 = .ok (.getfield 11, 3) := by decide +kernel
theorem dX10_firstLeast_48 : decode cX10_firstLeast 48 = .ok (.iload 4, 2) := by decide +kernel
theorem dX10_firstLeast_50 : decode cX10_firstLeast 50 = .ok (.iaload, 1) := by decide +kernel
theorem dX10_firstLeast_51 : decode cX10_firstLeast 51 = .ok (.istore_n 2, 1) := by decide +kernel
theorem dX10_firstLeast_52 : decode cX10_firstLeast 52 = .ok (.iinc 4 1, 3) := by decide +kernel
theorem dX10_firstLeast_55 : decode cX10_firstLeast 55 = .ok (.goto (-46), 3) := by decide +kernel
theorem dX10_firstLeast_58 : decode cX10_firstLeast 58 = .ok (.iload_n 2, 1) := by decide +kernel
theorem dX10_firstLeast_59 : decode cX10_firstLeast 59 = .ok (.ireturn, 1) := by decide +kernel
theorem dX10_bribe_0 : decode cX10_bribe 0 = .ok (.aload_n 0, 1) := by decide +kernel
theorem dX10_bribe_1 : decode cX10_bribe 1 = .ok (.getfield 30, 3) := by decide +kernel
theorem dX10_bribe_4 : decode cX10_bribe 4 = .ok (.bipush 6, 2) := by decide +kernel
theorem dX10_bribe_6 : decode cX10_bribe 6 = .ok (.if_icmp .lt 5, 3) := by decide +kernel
theorem dX10_bribe_9 : decode cX10_bribe 9 = .ok (.iconst 0, 1) := by decide +kernel
theorem dX10_bribe_10 : decode cX10_bribe 10 = .ok (.ireturn, 1) := by decide +kernel
theorem dX10_bribe_11 : decode cX10_bribe 11 = .ok (.aload_n 0, 1) := by decide +kernel
theorem dX10_bribe_12 : decode cX10_bribe 12 = .ok (.getfield 27, 3) := by decide +kernel
theorem dX10_bribe_15 : decode cX10_bribe 15 = .ok (.aload_n 0, 1) := by decide +kernel
theorem dX10_bribe_16 : decode cX10_bribe 16 = .ok (.getfield 30, 3) := by decide +kernel
theorem dX10_bribe_19 : decode cX10_bribe 19 = .ok (.iload_n 1, 1) := by decide +kernel
theorem dX10_bribe_20 : decode cX10_bribe 20 = .ok (.iastore, 1) := by decide +kernel
theorem dX10_bribe_21 : decode cX10_bribe 21 = .ok (.aload_n 0, 1) := by decide +kernel
theorem dX10_bribe_22 : decode cX10_bribe 22 = .ok (.dup, 1) := by decide +kernel
theorem dX10_bribe_23 : decode cX10_bribe 23 = .ok (.getfield 30, 3) := by decide +kernel
theorem dX10_bribe_26 : decode cX10_bribe 26 = .ok (.iconst 1, 1) := by decide +kernel
theorem dX10_bribe_27 : decode cX10_bribe 27 = .ok (.iadd, 1) := by decide +kernel
theorem dX10_bribe_28 : decode cX10_bribe 28 = .ok (.putfield 30, 3) := by decide +kernel
theorem dX10_bribe_31 : decode cX10_bribe 31 = .ok (.iconst 1, 1) := by decide +kernel
theorem dX10_bribe_32 : decode cX10_bribe 32 = .ok (.ireturn, 1) := by decide +kernel
theorem dX10_givenBy_0 : decode cX10_givenBy 0 = .ok (.iconst 0, 1) := by decide +kernel
theorem dX10_givenBy_1 : decode cX10_givenBy 1 = .ok (.istore_n 2, 1) := by decide +kernel
theorem dX10_givenBy_2 : decode cX10_givenBy 2 = .ok (.iconst 0, 1) := by decide +kernel
theorem dX10_givenBy_3 : decode cX10_givenBy 3 = .ok (.istore_n 3, 1) := by decide +kernel
theorem dX10_givenBy_4 : decode cX10_givenBy 4 = .ok (.iload_n 3, 1) := by decide +kernel
theorem dX10_givenBy_5 : decode cX10_givenBy 5 = .ok (.aload_n 0, 1) := by decide +kernel
theorem dX10_givenBy_6 : decode cX10_givenBy 6 = .ok (.getfield 30, 3) := by decide +kernel
theorem dX10_givenBy_9 : decode cX10_givenBy 9 = .ok (.if_icmp .ge 27, 3) := by decide +kernel
theorem dX10_givenBy_12 : decode cX10_givenBy 12 = .ok (.iload_n 1, 1) := by decide +kernel
theorem dX10_givenBy_13 : decode cX10_givenBy 13 = .ok (.iload_n 3, 1) := by decide +kernel
theorem dX10_givenBy_14 : decode cX10_givenBy 14 = .ok (.ishr, 1) := by decide +kernel
theorem dX10_givenBy_15 : decode cX10_givenBy 15 = .ok (.iconst 1, 1) := by decide +kernel
theorem dX10_givenBy_16 : decode cX10_givenBy 16 = .ok (.iand, 1) := by decide +kernel
theorem dX10_givenBy_17 : decode cX10_givenBy 17 = .ok (.iconst 1, 1) := by decide +kernel
theorem dX10_givenBy_18 : decode cX10_givenBy 18 = .ok (.if_icmp .ne 12, 3) := by decide +kernel
theorem dX10_givenBy_21 : decode cX10_givenBy 21 = .ok (.iload_n 2, 1) := by decide +kernel
theorem dX10_givenBy_22 : decode cX10_givenBy 22 = .ok (.aload_n 0, 1) := by decide +kernel
theorem dX10_givenBy_23 : decode cX10_givenBy 23 = .ok (.getfield 27, 3) := by decide +kernel
theorem dX10_givenBy_26 : decode cX10_givenBy 26 = .ok (.iload_n 3, 1) := by decide +kernel
theorem dX10_givenBy_27 : decode cX10_givenBy 27 = .ok (.iaload, 1) := by decide +kernel
theorem dX10_givenBy_28 : decode cX10_givenBy 28 = .ok (.ior, 1) := by decide +kernel
theorem dX10_givenBy_29 : decode cX10_givenBy 29 = .ok (.istore_n 2, 1) := by decide +kernel
theorem dX10_givenBy_30 : decode cX10_givenBy 30 = .ok (.iinc 3 1, 3) := by decide +kernel
theorem dX10_givenBy_33 : decode cX10_givenBy 33 = .ok (.goto (-29), 3) := by decide +kernel
theorem dX10_givenBy_36 : decode cX10_givenBy 36 = .ok (.iload_n 2, 1) := by decide +kernel
theorem dX10_givenBy_37 : decode cX10_givenBy 37 = .ok (.ireturn, 1) := by decide +kernel
theorem dX10_leastPriceWith_0 : decode cX10_leastPriceWith 0 = .ok (.sipush 16001, 3) := by decide +kernel
theorem dX10_leastPriceWith_3 : decode cX10_leastPriceWith 3 = .ok (.istore_n 2, 1) := by decide +kernel
theorem dX10_leastPriceWith_4 : decode cX10_leastPriceWith 4 = .ok (.iconst 0, 1) := by decide +kernel
theorem dX10_leastPriceWith_5 : decode cX10_leastPriceWith 5 = .ok (.istore_n 3, 1) := by decide +kernel
theorem dX10_leastPriceWith_6 : decode cX10_leastPriceWith 6 = .ok (.iload_n 3, 1) := by decide +kernel
theorem dX10_leastPriceWith_7 : decode cX10_leastPriceWith 7 = .ok (.aload_n 0, 1) := by decide +kernel
theorem dX10_leastPriceWith_8 : decode cX10_leastPriceWith 8 = .ok (.getfield 20, 3) := by decide +kernel
theorem dX10_leastPriceWith_11 : decode cX10_leastPriceWith 11 = .ok (.if_icmp .ge 32, 3) := by decide +kernel
theorem dX10_leastPriceWith_14 : decode cX10_leastPriceWith 14 = .ok (.iload_n 2, 1) := by decide +kernel
theorem dX10_leastPriceWith_15 : decode cX10_leastPriceWith 15 = .ok (.aload_n 0, 1) := by decide +kernel
theorem dX10_leastPriceWith_16 : decode cX10_leastPriceWith 16 = .ok (.getfield 36, 3) := by decide +kernel
theorem dX10_leastPriceWith_19 : decode cX10_leastPriceWith 19 = .ok (.aload_n 0, 1) := by decide +kernel
theorem dX10_leastPriceWith_20 : decode cX10_leastPriceWith 20 = .ok (.getfield 11, 3) := by decide +kernel
theorem dX10_leastPriceWith_23 : decode cX10_leastPriceWith 23 = .ok (.iload_n 3, 1) := by decide +kernel
theorem dX10_leastPriceWith_24 : decode cX10_leastPriceWith 24 = .ok (.iaload, 1) := by decide +kernel
theorem dX10_leastPriceWith_25 : decode cX10_leastPriceWith 25 = .ok (.iload_n 1, 1) := by decide +kernel
theorem dX10_leastPriceWith_26 : decode cX10_leastPriceWith 26 = .ok (.iconst (-1), 1) := by decide +kernel
theorem dX10_leastPriceWith_27 : decode cX10_leastPriceWith 27 = .ok (.ixor, 1) := by decide +kernel
theorem dX10_leastPriceWith_28 : decode cX10_leastPriceWith 28 = .ok (.iand, 1) := by decide +kernel
theorem dX10_leastPriceWith_29 : decode cX10_leastPriceWith 29 = .ok (.iconst 0, 1) := by decide +kernel
theorem dX10_leastPriceWith_30 : decode cX10_leastPriceWith 30 = .ok (.invokevirtual 80, 3) := by decide +kernel
theorem dX10_leastPriceWith_33 : decode cX10_leastPriceWith 33 = .ok (.invokestatic 84, 3) := by decide +kernel
theorem dX10_leastPriceWith_36 : decode cX10_leastPriceWith 36 = .ok (.istore_n 2, 1) := by decide +kernel
theorem dX10_leastPriceWith_37 : decode cX10_leastPriceWith 37 = .ok (.iinc 3 1, 3) := by decide +kernel
theorem dX10_leastPriceWith_40 : decode cX10_leastPriceWith 40 = .ok (.goto (-34), 3) := by decide +kernel
theorem dX10_leastPriceWith_43 : decode cX10_leastPriceWith 43 = .ok (.iload_n 2, 1) := by decide +kernel
theorem dX10_leastPriceWith_44 : decode cX10_leastPriceWith 44 = .ok (.ireturn, 1) := by decide +kernel
theorem dX10_worstSet_0 : decode cX10_worstSet 0 = .ok (.iconst 0, 1) := by decide +kernel
theorem dX10_worstSet_1 : decode cX10_worstSet 1 = .ok (.istore_n 2, 1) := by decide +kernel
theorem dX10_worstSet_2 : decode cX10_worstSet 2 = .ok (.sipush 16001, 3) := by decide +kernel
theorem dX10_worstSet_5 : decode cX10_worstSet 5 = .ok (.istore_n 3, 1) := by decide +kernel
theorem dX10_worstSet_6 : decode cX10_worstSet 6 = .ok (.iconst 0, 1) := by decide +kernel
theorem dX10_worstSet_7 : decode cX10_worstSet 7 = .ok (.istore 4, 2) := by decide +kernel
theorem dX10_worstSet_9 : decode cX10_worstSet 9 = .ok (.iload 4, 2) := by decide +kernel
theorem dX10_worstSet_11 : decode cX10_worstSet 11 = .ok (.iconst 1, 1) := by decide +kernel
theorem dX10_worstSet_12 : decode cX10_worstSet 12 = .ok (.aload_n 0, 1) := by decide +kernel
theorem dX10_worstSet_13 : decode cX10_worstSet 13 = .ok (.getfield 30, 3) := by decide +kernel
theorem dX10_worstSet_16 : decode cX10_worstSet 16 = .ok (.ishl, 1) := by decide +kernel
theorem dX10_worstSet_17 : decode cX10_worstSet 17 = .ok (.if_icmp .ge 45, 3) := by decide +kernel
theorem dX10_worstSet_20 : decode cX10_worstSet 20 = .ok (.iload 4, 2) := by decide +kernel
theorem dX10_worstSet_22 : decode cX10_worstSet 22 = .ok (.invokestatic 73, 3) := by decide +kernel
theorem dX10_worstSet_25 : decode cX10_worstSet 25 = .ok (.iload_n 1, 1) := by decide +kernel
theorem dX10_worstSet_26 : decode cX10_worstSet 26 = .ok (.if_icmp .eq 6, 3) := by decide +kernel
theorem dX10_worstSet_29 : decode cX10_worstSet 29 = .ok (.goto 27, 3) := by decide +kernel
theorem dX10_worstSet_32 : decode cX10_worstSet 32 = .ok (.aload_n 0, 1) := by decide +kernel
theorem dX10_worstSet_33 : decode cX10_worstSet 33 = .ok (.aload_n 0, 1) := by decide +kernel
theorem dX10_worstSet_34 : decode cX10_worstSet 34 = .ok (.iload 4, 2) := by decide +kernel
theorem dX10_worstSet_36 : decode cX10_worstSet 36 = .ok (.invokevirtual 89, 3) := by decide +kernel
theorem dX10_worstSet_39 : decode cX10_worstSet 39 = .ok (.invokevirtual 92, 3) := by decide +kernel
theorem dX10_worstSet_42 : decode cX10_worstSet 42 = .ok (.istore 5, 2) := by decide +kernel
theorem dX10_worstSet_44 : decode cX10_worstSet 44 = .ok (.iload 5, 2) := by decide +kernel
theorem dX10_worstSet_46 : decode cX10_worstSet 46 = .ok (.iload_n 3, 1) := by decide +kernel
theorem dX10_worstSet_47 : decode cX10_worstSet 47 = .ok (.if_icmp .ge 9, 3) := by decide +kernel
theorem dX10_worstSet_50 : decode cX10_worstSet 50 = .ok (.iload 5, 2) := by decide +kernel
theorem dX10_worstSet_52 : decode cX10_worstSet 52 = .ok (.istore_n 3, 1) := by decide +kernel
theorem dX10_worstSet_53 : decode cX10_worstSet 53 = .ok (.iload 4, 2) := by decide +kernel
theorem dX10_worstSet_55 : decode cX10_worstSet 55 = .ok (.istore_n 2, 1) := by decide +kernel
theorem dX10_worstSet_56 : decode cX10_worstSet 56 = .ok (.iinc 4 1, 3) := by decide +kernel
theorem dX10_worstSet_59 : decode cX10_worstSet 59 = .ok (.goto (-50), 3) := by decide +kernel
theorem dX10_worstSet_62 : decode cX10_worstSet 62 = .ok (.iload_n 2, 1) := by decide +kernel
theorem dX10_worstSet_63 : decode cX10_worstSet 63 = .ok (.ireturn, 1) := by decide +kernel
theorem dX10_sift_0 : decode cX10_sift 0 = .ok (.iconst 0, 1) := by decide +kernel
theorem dX10_sift_1 : decode cX10_sift 1 = .ok (.istore_n 3, 1) := by decide +kernel
theorem dX10_sift_2 : decode cX10_sift 2 = .ok (.iconst 0, 1) := by decide +kernel
theorem dX10_sift_3 : decode cX10_sift 3 = .ok (.istore 4, 2) := by decide +kernel
theorem dX10_sift_5 : decode cX10_sift 5 = .ok (.iload 4, 2) := by decide +kernel
theorem dX10_sift_7 : decode cX10_sift 7 = .ok (.aload_n 0, 1) := by decide +kernel
theorem dX10_sift_8 : decode cX10_sift 8 = .ok (.getfield 20, 3) := by decide +kernel
theorem dX10_sift_11 : decode cX10_sift 11 = .ok (.if_icmp .ge 52, 3) := by decide +kernel
theorem dX10_sift_14 : decode cX10_sift 14 = .ok (.aload_n 0, 1) := by decide +kernel
theorem dX10_sift_15 : decode cX10_sift 15 = .ok (.getfield 36, 3) := by decide +kernel
theorem dX10_sift_18 : decode cX10_sift 18 = .ok (.aload_n 0, 1) := by decide +kernel
theorem dX10_sift_19 : decode cX10_sift 19 = .ok (.getfield 11, 3) := by decide +kernel
theorem dX10_sift_22 : decode cX10_sift 22 = .ok (.iload 4, 2) := by decide +kernel
theorem dX10_sift_24 : decode cX10_sift 24 = .ok (.iaload, 1) := by decide +kernel
theorem dX10_sift_25 : decode cX10_sift 25 = .ok (.invokevirtual 95, 3) := by decide +kernel
theorem dX10_sift_28 : decode cX10_sift 28 = .ok (.istore 5, 2) := by decide +kernel
theorem dX10_sift_30 : decode cX10_sift 30 = .ok (.iload_n 1, 1) := by decide +kernel
theorem dX10_sift_31 : decode cX10_sift 31 = .ok (.iload 5, 2) := by decide +kernel
theorem dX10_sift_33 : decode cX10_sift 33 = .ok (.iconst (-1), 1) := by decide +kernel
theorem dX10_sift_34 : decode cX10_sift 34 = .ok (.ixor, 1) := by decide +kernel
theorem dX10_sift_35 : decode cX10_sift 35 = .ok (.iand, 1) := by decide +kernel
theorem dX10_sift_36 : decode cX10_sift 36 = .ok (.ifCond .ne 21, 3) := by decide +kernel
theorem dX10_sift_39 : decode cX10_sift 39 = .ok (.iload_n 2, 1) := by decide +kernel
theorem dX10_sift_40 : decode cX10_sift 40 = .ok (.iload 5, 2) := by decide +kernel
theorem dX10_sift_42 : decode cX10_sift 42 = .ok (.iand, 1) := by decide +kernel
theorem dX10_sift_43 : decode cX10_sift 43 = .ok (.ifCond .ne 14, 3) := by decide +kernel
theorem dX10_sift_46 : decode cX10_sift 46 = .ok (.aload_n 0, 1) := by decide +kernel
theorem dX10_sift_47 : decode cX10_sift 47 = .ok (.getfield 33, 3) := by decide +kernel
theorem dX10_sift_50 : decode cX10_sift 50 = .ok (.iload_n 3, 1) := by decide +kernel
theorem dX10_sift_51 : decode cX10_sift 51 = .ok (.iload 5, 2) := by decide +kernel
theorem dX10_sift_53 : decode cX10_sift 53 = .ok (.iastore, 1) := by decide +kernel
theorem dX10_sift_54 : decode cX10_sift 54 = .ok (.iinc 3 1, 3) := by decide +kernel
theorem dX10_sift_57 : decode cX10_sift 57 = .ok (.iinc 4 1, 3) := by decide +kernel
theorem dX10_sift_60 : decode cX10_sift 60 = .ok (.goto (-55), 3) := by decide +kernel
theorem dX10_sift_63 : decode cX10_sift 63 = .ok (.iload_n 3, 1) := by decide +kernel
theorem dX10_sift_64 : decode cX10_sift 64 = .ok (.ireturn, 1) := by decide +kernel
theorem dX10_markToAsk_0 : decode cX10_markToAsk 0 = .ok (.aload_n 0, 1) := by decide +kernel
theorem dX10_markToAsk_1 : decode cX10_markToAsk 1 = .ok (.iload_n 1, 1) := by decide +kernel
theorem dX10_markToAsk_2 : decode cX10_markToAsk 2 = .ok (.iload_n 2, 1) := by decide +kernel
theorem dX10_markToAsk_3 : decode cX10_markToAsk 3 = .ok (.invokevirtual 98, 3) := by decide +kernel
theorem dX10_markToAsk_6 : decode cX10_markToAsk 6 = .ok (.istore_n 3, 1) := by decide +kernel
theorem dX10_markToAsk_7 : decode cX10_markToAsk 7 = .ok (.iconst (-1), 1) := by decide +kernel
theorem dX10_markToAsk_8 : decode cX10_markToAsk 8 = .ok (.istore 4, 2) := by decide +kernel
theorem dX10_markToAsk_10 : decode cX10_markToAsk 10 = .ok (.iload_n 3, 1) := by decide +kernel
theorem dX10_markToAsk_11 : decode cX10_markToAsk 11 = .ok (.istore 5, 2) := by decide +kernel
theorem dX10_markToAsk_13 : decode cX10_markToAsk 13 = .ok (.iconst 0, 1) := by decide +kernel
theorem dX10_markToAsk_14 : decode cX10_markToAsk 14 = .ok (.istore 6, 2) := by decide +kernel
theorem dX10_markToAsk_16 : decode cX10_markToAsk 16 = .ok (.iload 6, 2) := by decide +kernel
theorem dX10_markToAsk_18 : decode cX10_markToAsk 18 = .ok (.bipush 8, 2) := by decide +kernel
theorem dX10_markToAsk_20 : decode cX10_markToAsk 20 = .ok (.if_icmp .ge 85, 3) := by decide +kernel
theorem dX10_markToAsk_23 : decode cX10_markToAsk 23 = .ok (.iload_n 1, 1) := by decide +kernel
theorem dX10_markToAsk_24 : decode cX10_markToAsk 24 = .ok (.iload_n 2, 1) := by decide +kernel
theorem dX10_markToAsk_25 : decode cX10_markToAsk 25 = .ok (.ior, 1) := by decide +kernel
theorem dX10_markToAsk_26 : decode cX10_markToAsk 26 = .ok (.iload 6, 2) := by decide +kernel
theorem dX10_markToAsk_28 : decode cX10_markToAsk 28 = .ok (.ishr, 1) := by decide +kernel
theorem dX10_markToAsk_29 : decode cX10_markToAsk 29 = .ok (.iconst 1, 1) := by decide +kernel
theorem dX10_markToAsk_30 : decode cX10_markToAsk 30 = .ok (.iand, 1) := by decide +kernel
theorem dX10_markToAsk_31 : decode cX10_markToAsk 31 = .ok (.iconst 1, 1) := by decide +kernel
theorem dX10_markToAsk_32 : decode cX10_markToAsk 32 = .ok (.if_icmp .ne 6, 3) := by decide +kernel
theorem dX10_markToAsk_35 : decode cX10_markToAsk 35 = .ok (.goto 64, 3) := by decide +kernel
theorem dX10_markToAsk_38 : decode cX10_markToAsk 38 = .ok (.iconst 0, 1) := by decide +kernel
theorem dX10_markToAsk_39 : decode cX10_markToAsk 39 = .ok (.istore 7, 2) := by decide +kernel
theorem dX10_markToAsk_41 : decode cX10_markToAsk 41 = .ok (.iconst 0, 1) := by decide +kernel
theorem dX10_markToAsk_42 : decode cX10_markToAsk 42 = .ok (.istore 8, 2) := by decide +kernel
theorem dX10_markToAsk_44 : decode cX10_markToAsk 44 = .ok (.iload 8, 2) := by decide +kernel
theorem dX10_markToAsk_46 : decode cX10_markToAsk 46 = .ok (.iload_n 3, 1) := by decide +kernel
theorem dX10_markToAsk_47 : decode cX10_markToAsk 47 = .ok (.if_icmp .ge 26, 3) := by decide +kernel
theorem dX10_markToAsk_50 : decode cX10_markToAsk 50 = .ok (.iload 7, 2) := by decide +kernel
theorem dX10_markToAsk_52 : decode cX10_markToAsk 52 = .ok (.aload_n 0, 1) := by decide +kernel
theorem dX10_markToAsk_53 : decode cX10_markToAsk 53 = .ok (.getfield 33, 3) := by decide +kernel
theorem dX10_markToAsk_56 : decode cX10_markToAsk 56 = .ok (.iload 8, 2) := by decide +kernel
theorem dX10_markToAsk_58 : decode cX10_markToAsk 58 = .ok (.iaload, 1) := by decide +kernel
theorem dX10_markToAsk_59 : decode cX10_markToAsk 59 = .ok (.iload 6, 2) := by decide +kernel
theorem dX10_markToAsk_61 : decode cX10_markToAsk 61 = .ok (.ishr, 1) := by decide +kernel
theorem dX10_markToAsk_62 : decode cX10_markToAsk 62 = .ok (.iconst 1, 1) := by decide +kernel
theorem dX10_markToAsk_63 : decode cX10_markToAsk 63 = .ok (.iand, 1) := by decide +kernel
theorem dX10_markToAsk_64 : decode cX10_markToAsk 64 = .ok (.iadd, 1) := by decide +kernel
theorem dX10_markToAsk_65 : decode cX10_markToAsk 65 = .ok (.istore 7, 2) := by decide +kernel
theorem dX10_markToAsk_67 : decode cX10_markToAsk 67 = .ok (.iinc 8 1, 3) := by decide +kernel
theorem dX10_markToAsk_70 : decode cX10_markToAsk 70 = .ok (.goto (-26), 3) := by decide +kernel
theorem dX10_markToAsk_73 : decode cX10_markToAsk 73 = .ok (.iload 7, 2) := by decide +kernel
theorem dX10_markToAsk_75 : decode cX10_markToAsk 75 = .ok (.iload_n 3, 1) := by decide +kernel
theorem dX10_markToAsk_76 : decode cX10_markToAsk 76 = .ok (.iload 7, 2) := by decide +kernel
theorem dX10_markToAsk_78 : decode cX10_markToAsk 78 = .ok (.isub, 1) := by decide +kernel
theorem dX10_markToAsk_79 : decode cX10_markToAsk 79 = .ok (.invokestatic 101, 3) := by decide +kernel
theorem dX10_markToAsk_82 : decode cX10_markToAsk 82 = .ok (.istore 8, 2) := by decide +kernel
theorem dX10_markToAsk_84 : decode cX10_markToAsk 84 = .ok (.iload 8, 2) := by decide +kernel
theorem dX10_markToAsk_86 : decode cX10_markToAsk 86 = .ok (.iload 5, 2) := by decide +kernel
theorem dX10_markToAsk_88 : decode cX10_markToAsk 88 = .ok (.if_icmp .ge 11, 3) := by decide +kernel
theorem dX10_markToAsk_91 : decode cX10_markToAsk 91 = .ok (.iload 8, 2) := by decide +kernel
theorem dX10_markToAsk_93 : decode cX10_markToAsk 93 = .ok (.istore 5, 2) := by decide +kernel
theorem dX10_markToAsk_95 : decode cX10_markToAsk 95 = .ok (.iload 6, 2) := by decide +kernel
theorem dX10_markToAsk_97 : decode cX10_markToAsk 97 = .ok (.istore 4, 2) := by decide +kernel
theorem dX10_markToAsk_99 : decode cX10_markToAsk 99 = .ok (.iinc 6 1, 3) := by decide +kernel
theorem dX10_markToAsk_102 : decode cX10_markToAsk 102 = .ok (.goto (-86), 3) := by decide +kernel
theorem dX10_markToAsk_105 : decode cX10_markToAsk 105 = .ok (.iload 4, 2) := by decide +kernel
theorem dX10_markToAsk_107 : decode cX10_markToAsk 107 = .ok (.ireturn, 1) := by decide +kernel
theorem dX10_mixInto_0 : decode cX10_mixInto 0 = .ok (.iconst 0, 1) := by decide +kernel
theorem dX10_mixInto_1 : decode cX10_mixInto 1 = .ok (.istore_n 3, 1) := by decide +kernel
theorem dX10_mixInto_2 : decode cX10_mixInto 2 = .ok (.iload_n 3, 1) := by decide +kernel
theorem dX10_mixInto_3 : decode cX10_mixInto 3 = .ok (.aload_n 0, 1) := by decide +kernel
theorem dX10_mixInto_4 : decode cX10_mixInto 4 = .ok (.getfield 30, 3) := by decide +kernel
theorem dX10_mixInto_7 : decode cX10_mixInto 7 = .ok (.if_icmp .ge 23, 3) := by decide +kernel
theorem dX10_mixInto_10 : decode cX10_mixInto 10 = .ok (.ldc2_w 104, 3) := by decide +kernel
theorem dX10_mixInto_13 : decode cX10_mixInto 13 = .ok (.lload_n 1, 1) := by decide +kernel
theorem dX10_mixInto_14 : decode cX10_mixInto 14 = .ok (.lmul, 1) := by decide +kernel
theorem dX10_mixInto_15 : decode cX10_mixInto 15 = .ok (.aload_n 0, 1) := by decide +kernel
theorem dX10_mixInto_16 : decode cX10_mixInto 16 = .ok (.getfield 27, 3) := by decide +kernel
theorem dX10_mixInto_19 : decode cX10_mixInto 19 = .ok (.iload_n 3, 1) := by decide +kernel
theorem dX10_mixInto_20 : decode cX10_mixInto 20 = .ok (.iaload, 1) := by decide +kernel
theorem dX10_mixInto_21 : decode cX10_mixInto 21 = .ok (.i2l, 1) := by decide +kernel
theorem dX10_mixInto_22 : decode cX10_mixInto 22 = .ok (.ladd, 1) := by decide +kernel
theorem dX10_mixInto_23 : decode cX10_mixInto 23 = .ok (.lstore_n 1, 1) := by decide +kernel
theorem dX10_mixInto_24 : decode cX10_mixInto 24 = .ok (.iinc 3 1, 3) := by decide +kernel
theorem dX10_mixInto_27 : decode cX10_mixInto 27 = .ok (.goto (-25), 3) := by decide +kernel
theorem dX10_mixInto_30 : decode cX10_mixInto 30 = .ok (.lload_n 1, 1) := by decide +kernel
theorem dX10_mixInto_31 : decode cX10_mixInto 31 = .ok (.lreturn, 1) := by decide +kernel
theorem dX11_step_0 : decode cX11_step 0 = .ok (.iload_n 1, 1) := by decide +kernel
theorem dX11_step_1 : decode cX11_step 1 = .ok (.invokestatic 98, 3) := by decide +kernel
theorem dX11_step_4 : decode cX11_step 4 = .ok (.ifCond .ne 14, 3) := by decide +kernel
theorem dX11_step_7 : decode cX11_step 7 = .ok (.iload_n 2, 1) := by decide +kernel
theorem dX11_step_8 : decode cX11_step 8 = .ok (.iconst 0, 1) := by decide +kernel
theorem dX11_step_9 : decode cX11_step 9 = .ok (.sipush 1000, 3) := by decide +kernel
theorem dX11_step_12 : decode cX11_step 12 = .ok (.invokestatic 102, 3) := by decide +kernel
theorem dX11_step_15 : decode cX11_step 15 = .ok (.ifCond .eq 6, 3) := by decide +kernel
theorem dX11_step_18 : decode cX11_step 18 = .ok (.bipush (-2), 2) := by decide +kernel
theorem dX11_step_20 : decode cX11_step 20 = .ok (.ireturn, 1) := by decide +kernel
theorem dX11_step_21 : decode cX11_step 21 = .ok (.iload_n 3, 1) := by decide +kernel
theorem dX11_step_22 : decode cX11_step 22 = .ok (.iconst 1, 1) := by decide +kernel
theorem dX11_step_23 : decode cX11_step 23 = .ok (.bipush 50, 2) := by decide +kernel
theorem dX11_step_25 : decode cX11_step 25 = .ok (.invokestatic 102, 3) := by decide +kernel
theorem dX11_step_28 : decode cX11_step 28 = .ok (.ifCond .ne 15, 3) := by decide +kernel
theorem dX11_step_31 : decode cX11_step 31 = .ok (.iload 4, 2) := by decide +kernel
theorem dX11_step_33 : decode cX11_step 33 = .ok (.iconst 0, 1) := by decide +kernel
theorem dX11_step_34 : decode cX11_step 34 = .ok (.sipush 1000, 3) := by decide +kernel
theorem dX11_step_37 : decode cX11_step 37 = .ok (.invokestatic 102, 3) := by decide +kernel
theorem dX11_step_40 : decode cX11_step 40 = .ok (.ifCond .eq 6, 3) := by decide +kernel
theorem dX11_step_43 : decode cX11_step 43 = .ok (.bipush (-2), 2) := by decide +kernel
theorem dX11_step_45 : decode cX11_step 45 = .ok (.ireturn, 1) := by decide +kernel
theorem dX11_step_46 : decode cX11_step 46 = .ok (.aload_n 0, 1) := by decide +kernel
theorem dX11_step_47 : decode cX11_step 47 = .ok (.getfield 10, 3) := by decide +kernel
theorem dX11_step_50 : decode cX11_step 50 = .ok (.iload_n 1, 1) := by decide +kernel
theorem dX11_step_51 : decode cX11_step 51 = .ok (.iconst 0, 1) := by decide +kernel
theorem dX11_step_52 : decode cX11_step 52 = .ok (.iload_n 2, 1) := by decide +kernel
theorem dX11_step_53 : decode cX11_step 53 = .ok (.invokevirtual 106, 3) := by decide +kernel
theorem dX11_step_56 : decode cX11_step 56 = .ok (.aload_n 0, 1) := by decide +kernel
theorem dX11_step_57 : decode cX11_step 57 = .ok (.getfield 10, 3) := by decide +kernel
theorem dX11_step_60 : decode cX11_step 60 = .ok (.iload_n 1, 1) := by decide +kernel
theorem dX11_step_61 : decode cX11_step 61 = .ok (.iconst 1, 1) := by decide +kernel
theorem dX11_step_62 : decode cX11_step 62 = .ok (.iload_n 3, 1) := by decide +kernel
theorem dX11_step_63 : decode cX11_step 63 = .ok (.invokevirtual 106, 3) := by decide +kernel
theorem dX11_step_66 : decode cX11_step 66 = .ok (.aload_n 0, 1) := by decide +kernel
theorem dX11_step_67 : decode cX11_step 67 = .ok (.getfield 10, 3) := by decide +kernel
theorem dX11_step_70 : decode cX11_step 70 = .ok (.iload_n 1, 1) := by decide +kernel
theorem dX11_step_71 : decode cX11_step 71 = .ok (.iconst 2, 1) := by decide +kernel
theorem dX11_step_72 : decode cX11_step 72 = .ok (.iload 4, 2) := by decide +kernel
theorem dX11_step_74 : decode cX11_step 74 = .ok (.invokevirtual 106, 3) := by decide +kernel
theorem dX11_step_77 : decode cX11_step 77 = .ok (.aload_n 0, 1) := by decide +kernel
theorem dX11_step_78 : decode cX11_step 78 = .ok (.getfield 67, 3) := by decide +kernel
theorem dX11_step_81 : decode cX11_step 81 = .ok (.invokevirtual 110, 3) := by decide +kernel
theorem dX11_step_84 : decode cX11_step 84 = .ok (.iconst 1, 1) := by decide +kernel
theorem dX11_step_85 : decode cX11_step 85 = .ok (.ireturn, 1) := by decide +kernel
theorem dX11_trace_0 : decode cX11_trace 0 = .ok (.iload_n 1, 1) := by decide +kernel
theorem dX11_trace_1 : decode cX11_trace 1 = .ok (.invokestatic 98, 3) := by decide +kernel
theorem dX11_trace_4 : decode cX11_trace 4 = .ok (.ifCond .ne 24, 3) := by decide +kernel
theorem dX11_trace_7 : decode cX11_trace 7 = .ok (.iload_n 2, 1) := by decide +kernel
theorem dX11_trace_8 : decode cX11_trace 8 = .ok (.iconst 0, 1) := by decide +kernel
theorem dX11_trace_9 : decode cX11_trace 9 = .ok (.sipush 255, 3) := by decide +kernel
theorem dX11_trace_12 : decode cX11_trace 12 = .ok (.invokestatic 102, 3) := by decide +kernel
theorem dX11_trace_15 : decode cX11_trace 15 = .ok (.ifCond .ne 13, 3) := by decide +kernel
theorem dX11_trace_18 : decode cX11_trace 18 = .ok (.iload_n 3, 1) := by decide +kernel
theorem dX11_trace_19 : decode cX11_trace 19 = .ok (.iconst 0, 1) := by decide +kernel
theorem dX11_trace_20 : decode cX11_trace 20 = .ok (.bipush 7, 2) := by decide +kernel
theorem dX11_trace_22 : decode cX11_trace 22 = .ok (.invokestatic 102, 3) := by decide +kernel
theorem dX11_trace_25 : decode cX11_trace 25 = .ok (.ifCond .eq 6, 3) := by decide +kernel
theorem dX11_trace_28 : decode cX11_trace 28 = .ok (.bipush (-2), 2) := by decide +kernel
theorem dX11_trace_30 : decode cX11_trace 30 = .ok (.ireturn, 1) := by decide +kernel
theorem dX11_trace_31 : decode cX11_trace 31 = .ok (.aload_n 0, 1) := by decide +kernel
theorem dX11_trace_32 : decode cX11_trace 32 = .ok (.getfield 10, 3) := by decide +kernel
theorem dX11_trace_35 : decode cX11_trace 35 = .ok (.iload_n 1, 1) := by decide +kernel
theorem dX11_trace_36 : decode cX11_trace 36 = .ok (.iconst 3, 1) := by decide +kernel
theorem dX11_trace_37 : decode cX11_trace 37 = .ok (.iload_n 2, 1) := by decide +kernel
theorem dX11_trace_38 : decode cX11_trace 38 = .ok (.invokevirtual 106, 3) := by decide +kernel
theorem dX11_trace_41 : decode cX11_trace 41 = .ok (.aload_n 0, 1) := by decide +kernel
theorem dX11_trace_42 : decode cX11_trace 42 = .ok (.getfield 10, 3) := by decide +kernel
theorem dX11_trace_45 : decode cX11_trace 45 = .ok (.iload_n 1, 1) := by decide +kernel
theorem dX11_trace_46 : decode cX11_trace 46 = .ok (.iconst 4, 1) := by decide +kernel
theorem dX11_trace_47 : decode cX11_trace 47 = .ok (.iload_n 3, 1) := by decide +kernel
theorem dX11_trace_48 : decode cX11_trace 48 = .ok (.invokevirtual 106, 3) := by decide +kernel
theorem dX11_trace_51 : decode cX11_trace 51 = .ok (.iconst 1, 1) := by decide +kernel
theorem dX11_trace_52 : decode cX11_trace 52 = .ok (.ireturn, 1) := by decide +kernel
theorem dX11_about_0 : decode cX11_about 0 = .ok (.iload_n 1, 1) := by decide +kernel
theorem dX11_about_1 : decode cX11_about 1 = .ok (.invokestatic 98, 3) := by decide +kernel
theorem dX11_about_4 : decode cX11_about 4 = .ok (.ifCond .ne 12, 3) := by decide +kernel
theorem dX11_about_7 : decode cX11_about 7 = .ok (.iload_n 2, 1) := by decide +kernel
theorem dX11_about_8 : decode cX11_about 8 = .ok (.iconst 0, 1) := by decide +kernel
theorem dX11_about_9 : decode cX11_about 9 = .ok (.iconst 4, 1) := by decide +kernel
theorem dX11_about_10 : decode cX11_about 10 = .ok (.invokestatic 102, 3) := by decide +kernel
theorem dX11_about_13 : decode cX11_about 13 = .ok (.ifCond .eq 6, 3) := by decide +kernel
theorem dX11_about_16 : decode cX11_about 16 = .ok (.bipush (-2), 2) := by decide +kernel
theorem dX11_about_18 : decode cX11_about 18 = .ok (.ireturn, 1) := by decide +kernel
theorem dX11_about_19 : decode cX11_about 19 = .ok (.aload_n 0, 1) := by decide +kernel
theorem dX11_about_20 : decode cX11_about 20 = .ok (.getfield 10, 3) := by decide +kernel
theorem dX11_about_23 : decode cX11_about 23 = .ok (.iload_n 1, 1) := by decide +kernel
theorem dX11_about_24 : decode cX11_about 24 = .ok (.iload_n 2, 1) := by decide +kernel
theorem dX11_about_25 : decode cX11_about 25 = .ok (.invokevirtual 113, 3) := by decide +kernel
theorem dX11_about_28 : decode cX11_about 28 = .ok (.ireturn, 1) := by decide +kernel
theorem dX11_write_0 : decode cX11_write 0 = .ok (.iload_n 1, 1) := by decide +kernel
theorem dX11_write_1 : decode cX11_write 1 = .ok (.iconst 0, 1) := by decide +kernel
theorem dX11_write_2 : decode cX11_write 2 = .ok (.bipush 127, 2) := by decide +kernel
theorem dX11_write_4 : decode cX11_write 4 = .ok (.invokestatic 102, 3) := by decide +kernel
theorem dX11_write_7 : decode cX11_write 7 = .ok (.ifCond .eq 6, 3) := by decide +kernel
theorem dX11_write_10 : decode cX11_write 10 = .ok (.bipush (-2), 2) := by decide +kernel
theorem dX11_write_12 : decode cX11_write 12 = .ok (.ireturn, 1) := by decide +kernel
theorem dX11_write_13 : decode cX11_write 13 = .ok (.aload_n 0, 1) := by decide +kernel
theorem dX11_write_14 : decode cX11_write 14 = .ok (.getfield 19, 3) := by decide +kernel
theorem dX11_write_17 : decode cX11_write 17 = .ok (.iload_n 1, 1) := by decide +kernel
theorem dX11_write_18 : decode cX11_write 18 = .ok (.invokevirtual 117, 3) := by decide +kernel
theorem dX11_write_21 : decode cX11_write 21 = .ok (.ifCond .eq 13, 3) := by decide +kernel
theorem dX11_write_24 : decode cX11_write 24 = .ok (.aload_n 0, 1) := by decide +kernel
theorem dX11_write_25 : decode cX11_write 25 = .ok (.getfield 19, 3) := by decide +kernel
theorem dX11_write_28 : decode cX11_write 28 = .ok (.getfield 120, 3) := by decide +kernel
theorem dX11_write_31 : decode cX11_write 31 = .ok (.goto 5, 3) := by decide +kernel
theorem dX11_write_34 : decode cX11_write 34 = .ok (.bipush (-4), 2) := by decide +kernel
theorem dX11_write_36 : decode cX11_write 36 = .ok (.ireturn, 1) := by decide +kernel
theorem dX11_erase_0 : decode cX11_erase 0 = .ok (.aload_n 0, 1) := by decide +kernel
theorem dX11_erase_1 : decode cX11_erase 1 = .ok (.getfield 19, 3) := by decide +kernel
theorem dX11_erase_4 : decode cX11_erase 4 = .ok (.getfield 120, 3) := by decide +kernel
theorem dX11_erase_7 : decode cX11_erase 7 = .ok (.istore_n 1, 1) := by decide +kernel
theorem dX11_erase_8 : decode cX11_erase 8 = .ok (.aload_n 0, 1) := by decide +kernel
theorem dX11_erase_9 : decode cX11_erase 9 = .ok (.getfield 19, 3) := by decide +kernel
theorem dX11_erase_12 : decode cX11_erase 12 = .ok (.iconst 0, 1) := by decide +kernel
theorem dX11_erase_13 : decode cX11_erase 13 = .ok (.putfield 120, 3) := by decide +kernel
theorem dX11_erase_16 : decode cX11_erase 16 = .ok (.iload_n 1, 1) := by decide +kernel
theorem dX11_erase_17 : decode cX11_erase 17 = .ok (.ireturn, 1) := by decide +kernel
theorem dX11_make_0 : decode cX11_make 0 = .ok (.iload_n 1, 1) := by decide +kernel
theorem dX11_make_1 : decode cX11_make 1 = .ok (.invokestatic 124, 3) := by decide +kernel
theorem dX11_make_4 : decode cX11_make 4 = .ok (.ifCond .eq 6, 3) := by decide +kernel
theorem dX11_make_7 : decode cX11_make 7 = .ok (.bipush (-2), 2) := by decide +kernel
theorem dX11_make_9 : decode cX11_make 9 = .ok (.ireturn, 1) := by decide +kernel
theorem dX11_make_10 : decode cX11_make 10 = .ok (.aload_n 0, 1) := by decide +kernel
theorem dX11_make_11 : decode cX11_make 11 = .ok (.getfield 28, 3) := by decide +kernel
theorem dX11_make_14 : decode cX11_make 14 = .ok (.invokevirtual 127, 3) := by decide +kernel
theorem dX11_make_17 : decode cX11_make 17 = .ok (.istore_n 2, 1) := by decide +kernel
theorem dX11_make_18 : decode cX11_make 18 = .ok (.aload_n 0, 1) := by decide +kernel
theorem dX11_make_19 : decode cX11_make 19 = .ok (.getfield 28, 3) := by decide +kernel
theorem dX11_make_22 : decode cX11_make 22 = .ok (.getfield 131, 3) := by decide +kernel
theorem dX11_make_25 : decode cX11_make 25 = .ok (.ifCond .eq 11, 3) := by decide +kernel
theorem dX11_make_28 : decode cX11_make 28 = .ok (.aload_n 0, 1) := by decide +kernel
theorem dX11_make_29 : decode cX11_make 29 = .ok (.getfield 28, 3) := by decide +kernel
theorem dX11_make_32 : decode cX11_make 32 = .ok (.getfield 131, 3) := by decide +kernel
theorem dX11_make_35 : decode cX11_make 35 = .ok (.ireturn, 1) := by decide +kernel
theorem dX11_make_36 : decode cX11_make 36 = .ok (.aload_n 0, 1) := by decide +kernel
theorem dX11_make_37 : decode cX11_make 37 = .ok (.getfield 19, 3) := by decide +kernel
theorem dX11_make_40 : decode cX11_make 40 = .ok (.getfield 134, 3) := by decide +kernel
theorem dX11_make_43 : decode cX11_make 43 = .ok (.iload_n 1, 1) := by decide +kernel
theorem dX11_make_44 : decode cX11_make 44 = .ok (.iload_n 2, 1) := by decide +kernel
theorem dX11_make_45 : decode cX11_make 45 = .ok (.iastore, 1) := by decide +kernel
theorem dX11_make_46 : decode cX11_make 46 = .ok (.iconst 0, 1) := by decide +kernel
theorem dX11_make_47 : decode cX11_make 47 = .ok (.ireturn, 1) := by decide +kernel
theorem dX11_clear_0 : decode cX11_clear 0 = .ok (.aload_n 0, 1) := by decide +kernel
theorem dX11_clear_1 : decode cX11_clear 1 = .ok (.getfield 19, 3) := by decide +kernel
theorem dX11_clear_4 : decode cX11_clear 4 = .ok (.getfield 138, 3) := by decide +kernel
theorem dX11_clear_7 : decode cX11_clear 7 = .ok (.istore_n 1, 1) := by decide +kernel
theorem dX11_clear_8 : decode cX11_clear 8 = .ok (.aload_n 0, 1) := by decide +kernel
theorem dX11_clear_9 : decode cX11_clear 9 = .ok (.getfield 19, 3) := by decide +kernel
theorem dX11_clear_12 : decode cX11_clear 12 = .ok (.invokevirtual 141, 3) := by decide +kernel
theorem dX11_clear_15 : decode cX11_clear 15 = .ok (.aload_n 0, 1) := by decide +kernel
theorem dX11_clear_16 : decode cX11_clear 16 = .ok (.getfield 35, 3) := by decide +kernel
theorem dX11_clear_19 : decode cX11_clear 19 = .ok (.invokevirtual 144, 3) := by decide +kernel
theorem dX11_clear_22 : decode cX11_clear 22 = .ok (.aload_n 0, 1) := by decide +kernel
theorem dX11_clear_23 : decode cX11_clear 23 = .ok (.getfield 44, 3) := by decide +kernel
theorem dX11_clear_26 : decode cX11_clear 26 = .ok (.invokevirtual 145, 3) := by decide +kernel
theorem dX11_clear_29 : decode cX11_clear 29 = .ok (.aload_n 0, 1) := by decide +kernel
theorem dX11_clear_30 : decode cX11_clear 30 = .ok (.getfield 58, 3) := by decide +kernel
theorem dX11_clear_33 : decode cX11_clear 33 = .ok (.invokevirtual 146, 3) := by decide +kernel
theorem dX11_clear_36 : decode cX11_clear 36 = .ok (.aload_n 0, 1) := by decide +kernel
theorem dX11_clear_37 : decode cX11_clear 37 = .ok (.getfield 67, 3) := by decide +kernel
theorem dX11_clear_40 : decode cX11_clear 40 = .ok (.invokevirtual 110, 3) := by decide +kernel
theorem dX11_clear_43 : decode cX11_clear 43 = .ok (.iload_n 1, 1) := by decide +kernel
theorem dX11_clear_44 : decode cX11_clear 44 = .ok (.ireturn, 1) := by decide +kernel
theorem dX11_knot_0 : decode cX11_knot 0 = .ok (.iload_n 1, 1) := by decide +kernel
theorem dX11_knot_1 : decode cX11_knot 1 = .ok (.invokestatic 124, 3) := by decide +kernel
theorem dX11_knot_4 : decode cX11_knot 4 = .ok (.ifCond .ne 12, 3) := by decide +kernel
theorem dX11_knot_7 : decode cX11_knot 7 = .ok (.iload_n 2, 1) := by decide +kernel
theorem dX11_knot_8 : decode cX11_knot 8 = .ok (.iconst 0, 1) := by decide +kernel
theorem dX11_knot_9 : decode cX11_knot 9 = .ok (.iconst 4, 1) := by decide +kernel
theorem dX11_knot_10 : decode cX11_knot 10 = .ok (.invokestatic 102, 3) := by decide +kernel
theorem dX11_knot_13 : decode cX11_knot 13 = .ok (.ifCond .eq 6, 3) := by decide +kernel
theorem dX11_knot_16 : decode cX11_knot 16 = .ok (.bipush (-2), 2) := by decide +kernel
theorem dX11_knot_18 : decode cX11_knot 18 = .ok (.ireturn, 1) := by decide +kernel
theorem dX11_knot_19 : decode cX11_knot 19 = .ok (.aload_n 0, 1) := by decide +kernel
theorem dX11_knot_20 : decode cX11_knot 20 = .ok (.getfield 19, 3) := by decide +kernel
theorem dX11_knot_23 : decode cX11_knot 23 = .ok (.getfield 134, 3) := by decide +kernel
theorem dX11_knot_26 : decode cX11_knot 26 = .ok (.iload_n 1, 1) := by decide +kernel
theorem dX11_knot_27 : decode cX11_knot 27 = .ok (.iaload, 1) := by decide +kernel
theorem dX11_knot_28 : decode cX11_knot 28 = .ok (.istore_n 3, 1) := by decide +kernel
theorem dX11_knot_29 : decode cX11_knot 29 = .ok (.iload_n 3, 1) := by decide +kernel
theorem dX11_knot_30 : decode cX11_knot 30 = .ok (.ifCond .ge 6, 3) := by decide +kernel
theorem dX11_knot_33 : decode cX11_knot 33 = .ok (.bipush (-3), 2) := by decide +kernel
theorem dX11_knot_35 : decode cX11_knot 35 = .ok (.ireturn, 1) := by decide +kernel
theorem dX11_knot_36 : decode cX11_knot 36 = .ok (.iload_n 2, 1) := by decide +kernel
theorem dX11_knot_37 : decode cX11_knot 37 = .ok (.tableswitch 63 0 3 #[31, 33, 43, 53], 31) := by decide +kernel
theorem dX11_knot_68 : decode cX11_knot 68 = .ok (.iload_n 3, 1) := by decide +kernel
theorem dX11_knot_69 : decode cX11_knot 69 = .ok (.ireturn, 1) := by decide +kernel
theorem dX11_knot_70 : decode cX11_knot 70 = .ok (.aload_n 0, 1) := by decide +kernel
theorem dX11_knot_71 : decode cX11_knot 71 = .ok (.getfield 19, 3) := by decide +kernel
theorem dX11_knot_74 : decode cX11_knot 74 = .ok (.getfield 147, 3) := by decide +kernel
theorem dX11_knot_77 : decode cX11_knot 77 = .ok (.iload_n 3, 1) := by decide +kernel
theorem dX11_knot_78 : decode cX11_knot 78 = .ok (.iaload, 1) := by decide +kernel
theorem dX11_knot_79 : decode cX11_knot 79 = .ok (.ireturn, 1) := by decide +kernel
theorem dX11_knot_80 : decode cX11_knot 80 = .ok (.aload_n 0, 1) := by decide +kernel
theorem dX11_knot_81 : decode cX11_knot 81 = .ok (.getfield 19, 3) := by decide +kernel
theorem dX11_knot_84 : decode cX11_knot 84 = .ok (.getfield 150, 3) := by decide +kernel
theorem dX11_knot_87 : decode cX11_knot 87 = .ok (.iload_n 3, 1) := by decide +kernel
theorem dX11_knot_88 : decode cX11_knot 88 = .ok (.iaload, 1) := by decide +kernel
theorem dX11_knot_89 : decode cX11_knot 89 = .ok (.ireturn, 1) := by decide +kernel
theorem dX11_knot_90 : decode cX11_knot 90 = .ok (.aload_n 0, 1) := by decide +kernel
theorem dX11_knot_91 : decode cX11_knot 91 = .ok (.getfield 19, 3) := by decide +kernel
theorem dX11_knot_94 : decode cX11_knot 94 = .ok (.getfield 153, 3) := by decide +kernel
theorem dX11_knot_97 : decode cX11_knot 97 = .ok (.iload_n 3, 1) := by decide +kernel
theorem dX11_knot_98 : decode cX11_knot 98 = .ok (.iaload, 1) := by decide +kernel
theorem dX11_knot_99 : decode cX11_knot 99 = .ok (.ireturn, 1) := by decide +kernel
theorem dX11_knot_100 : decode cX11_knot 100 = .ok (.aload_n 0, 1) := by decide +kernel
theorem dX11_knot_101 : decode cX11_knot 101 = .ok (.getfield 19, 3) := by decide +kernel
theorem dX11_knot_104 : decode cX11_knot 104 = .ok (.getfield 156, 3) := by decide +kernel
theorem dX11_knot_107 : decode cX11_knot 107 = .ok (.iload_n 3, 1) := by decide +kernel
theorem dX11_knot_108 : decode cX11_knot 108 = .ok (.iaload, 1) := by decide +kernel
theorem dX11_knot_109 : decode cX11_knot 109 = .ok (.ireturn, 1) := by decide +kernel
theorem dX11_part_0 : decode cX11_part 0 = .ok (.iload_n 1, 1) := by decide +kernel
theorem dX11_part_1 : decode cX11_part 1 = .ok (.iconst 0, 1) := by decide +kernel
theorem dX11_part_2 : decode cX11_part 2 = .ok (.aload_n 0, 1) := by decide +kernel
theorem dX11_part_3 : decode cX11_part 3 = .ok (.getfield 19, 3) := by decide +kernel
theorem dX11_part_6 : decode cX11_part 6 = .ok (.getfield 138, 3) := by decide +kernel
theorem dX11_part_9 : decode cX11_part 9 = .ok (.iconst 1, 1) := by decide +kernel
theorem dX11_part_10 : decode cX11_part 10 = .ok (.isub, 1) := by decide +kernel
theorem dX11_part_11 : decode cX11_part 11 = .ok (.invokestatic 102, 3) := by decide +kernel
theorem dX11_part_14 : decode cX11_part 14 = .ok (.ifCond .ne 7, 3) := by decide +kernel
theorem dX11_part_17 : decode cX11_part 17 = .ok (.iload_n 2, 1) := by decide +kernel
theorem dX11_part_18 : decode cX11_part 18 = .ok (.ifCond .ge 6, 3) := by decide +kernel
theorem dX11_part_21 : decode cX11_part 21 = .ok (.bipush (-2), 2) := by decide +kernel
theorem dX11_part_23 : decode cX11_part 23 = .ok (.ireturn, 1) := by decide +kernel
theorem dX11_part_24 : decode cX11_part 24 = .ok (.aload_n 0, 1) := by decide +kernel
theorem dX11_part_25 : decode cX11_part 25 = .ok (.getfield 19, 3) := by decide +kernel
theorem dX11_part_28 : decode cX11_part 28 = .ok (.getfield 147, 3) := by decide +kernel
theorem dX11_part_31 : decode cX11_part 31 = .ok (.iload_n 1, 1) := by decide +kernel
theorem dX11_part_32 : decode cX11_part 32 = .ok (.iaload, 1) := by decide +kernel
theorem dX11_part_33 : decode cX11_part 33 = .ok (.ifCond .eq 16, 3) := by decide +kernel
theorem dX11_part_36 : decode cX11_part 36 = .ok (.iload_n 2, 1) := by decide +kernel
theorem dX11_part_37 : decode cX11_part 37 = .ok (.aload_n 0, 1) := by decide +kernel
theorem dX11_part_38 : decode cX11_part 38 = .ok (.getfield 19, 3) := by decide +kernel
theorem dX11_part_41 : decode cX11_part 41 = .ok (.getfield 150, 3) := by decide +kernel
theorem dX11_part_44 : decode cX11_part 44 = .ok (.iload_n 1, 1) := by decide +kernel
theorem dX11_part_45 : decode cX11_part 45 = .ok (.iaload, 1) := by decide +kernel
theorem dX11_part_46 : decode cX11_part 46 = .ok (.if_icmp .lt 5, 3) := by decide +kernel
theorem dX11_part_49 : decode cX11_part 49 = .ok (.iconst (-1), 1) := by decide +kernel
theorem dX11_part_50 : decode cX11_part 50 = .ok (.ireturn, 1) := by decide +kernel
theorem dX11_part_51 : decode cX11_part 51 = .ok (.aload_n 0, 1) := by decide +kernel
theorem dX11_part_52 : decode cX11_part 52 = .ok (.getfield 19, 3) := by decide +kernel
theorem dX11_part_55 : decode cX11_part 55 = .ok (.iload_n 1, 1) := by decide +kernel
theorem dX11_part_56 : decode cX11_part 56 = .ok (.iload_n 2, 1) := by decide +kernel
theorem dX11_part_57 : decode cX11_part 57 = .ok (.invokevirtual 159, 3) := by decide +kernel
theorem dX11_part_60 : decode cX11_part 60 = .ok (.ireturn, 1) := by decide +kernel
theorem dX11_reaches_0 : decode cX11_reaches 0 = .ok (.iload_n 1, 1) := by decide +kernel
theorem dX11_reaches_1 : decode cX11_reaches 1 = .ok (.invokestatic 124, 3) := by decide +kernel
theorem dX11_reaches_4 : decode cX11_reaches 4 = .ok (.ifCond .ne 13, 3) := by decide +kernel
theorem dX11_reaches_7 : decode cX11_reaches 7 = .ok (.iload_n 2, 1) := by decide +kernel
theorem dX11_reaches_8 : decode cX11_reaches 8 = .ok (.iconst 0, 1) := by decide +kernel
theorem dX11_reaches_9 : decode cX11_reaches 9 = .ok (.ldc 162, 2) := by decide +kernel
theorem dX11_reaches_11 : decode cX11_reaches 11 = .ok (.invokestatic 102, 3) := by decide +kernel
theorem dX11_reaches_14 : decode cX11_reaches 14 = .ok (.ifCond .eq 6, 3) := by decide +kernel
theorem dX11_reaches_17 : decode cX11_reaches 17 = .ok (.bipush (-2), 2) := by decide +kernel
theorem dX11_reaches_19 : decode cX11_reaches 19 = .ok (.ireturn, 1) := by decide +kernel
theorem dX11_reaches_20 : decode cX11_reaches 20 = .ok (.aload_n 0, 1) := by decide +kernel
theorem dX11_reaches_21 : decode cX11_reaches 21 = .ok (.getfield 19, 3) := by decide +kernel
theorem dX11_reaches_24 : decode cX11_reaches 24 = .ok (.getfield 134, 3) := by decide +kernel
theorem dX11_reaches_27 : decode cX11_reaches 27 = .ok (.iload_n 1, 1) := by decide +kernel
theorem dX11_reaches_28 : decode cX11_reaches 28 = .ok (.iaload, 1) := by decide +kernel
theorem dX11_reaches_29 : decode cX11_reaches 29 = .ok (.istore_n 3, 1) := by decide +kernel
theorem dX11_reaches_30 : decode cX11_reaches 30 = .ok (.iload_n 3, 1) := by decide +kernel
theorem dX11_reaches_31 : decode cX11_reaches 31 = .ok (.ifCond .ge 6, 3) := by decide +kernel
theorem dX11_reaches_34 : decode cX11_reaches 34 = .ok (.bipush (-3), 2) := by decide +kernel
theorem dX11_reaches_36 : decode cX11_reaches 36 = .ok (.ireturn, 1) := by decide +kernel
theorem dX11_reaches_37 : decode cX11_reaches 37 = .ok (.aload_n 0, 1) := by decide +kernel
theorem dX11_reaches_38 : decode cX11_reaches 38 = .ok (.getfield 19, 3) := by decide +kernel
theorem dX11_reaches_41 : decode cX11_reaches 41 = .ok (.iload_n 3, 1) := by decide +kernel
theorem dX11_reaches_42 : decode cX11_reaches 42 = .ok (.iload_n 2, 1) := by decide +kernel
theorem dX11_reaches_43 : decode cX11_reaches 43 = .ok (.invokevirtual 163, 3) := by decide +kernel
theorem dX11_reaches_46 : decode cX11_reaches 46 = .ok (.ifCond .eq 7, 3) := by decide +kernel
theorem dX11_reaches_49 : decode cX11_reaches 49 = .ok (.iconst 1, 1) := by decide +kernel
theorem dX11_reaches_50 : decode cX11_reaches 50 = .ok (.goto 4, 3) := by decide +kernel
theorem dX11_reaches_53 : decode cX11_reaches 53 = .ok (.iconst 0, 1) := by decide +kernel
theorem dX11_reaches_54 : decode cX11_reaches 54 = .ok (.ireturn, 1) := by decide +kernel
theorem dX11_ways_0 : decode cX11_ways 0 = .ok (.iload_n 1, 1) := by decide +kernel
theorem dX11_ways_1 : decode cX11_ways 1 = .ok (.invokestatic 124, 3) := by decide +kernel
theorem dX11_ways_4 : decode cX11_ways 4 = .ok (.ifCond .eq 6, 3) := by decide +kernel
theorem dX11_ways_7 : decode cX11_ways 7 = .ok (.bipush (-2), 2) := by decide +kernel
theorem dX11_ways_9 : decode cX11_ways 9 = .ok (.ireturn, 1) := by decide +kernel
theorem dX11_ways_10 : decode cX11_ways 10 = .ok (.aload_n 0, 1) := by decide +kernel
theorem dX11_ways_11 : decode cX11_ways 11 = .ok (.getfield 19, 3) := by decide +kernel
theorem dX11_ways_14 : decode cX11_ways 14 = .ok (.getfield 134, 3) := by decide +kernel
theorem dX11_ways_17 : decode cX11_ways 17 = .ok (.iload_n 1, 1) := by decide +kernel
theorem dX11_ways_18 : decode cX11_ways 18 = .ok (.iaload, 1) := by decide +kernel
theorem dX11_ways_19 : decode cX11_ways 19 = .ok (.istore_n 2, 1) := by decide +kernel
theorem dX11_ways_20 : decode cX11_ways 20 = .ok (.iload_n 2, 1) := by decide +kernel
theorem dX11_ways_21 : decode cX11_ways 21 = .ok (.ifCond .ge 6, 3) := by decide +kernel
theorem dX11_ways_24 : decode cX11_ways 24 = .ok (.bipush (-3), 2) := by decide +kernel
theorem dX11_ways_26 : decode cX11_ways 26 = .ok (.ireturn, 1) := by decide +kernel
theorem dX11_ways_27 : decode cX11_ways 27 = .ok (.aload_n 0, 1) := by decide +kernel
theorem dX11_ways_28 : decode cX11_ways 28 = .ok (.getfield 44, 3) := by decide +kernel
theorem dX11_ways_31 : decode cX11_ways 31 = .ok (.iload_n 2, 1) := by decide +kernel
theorem dX11_ways_32 : decode cX11_ways 32 = .ok (.invokevirtual 167, 3) := by decide +kernel
theorem dX11_ways_35 : decode cX11_ways 35 = .ok (.ifCond .eq 13, 3) := by decide +kernel
theorem dX11_ways_38 : decode cX11_ways 38 = .ok (.aload_n 0, 1) := by decide +kernel
theorem dX11_ways_39 : decode cX11_ways 39 = .ok (.getfield 44, 3) := by decide +kernel
theorem dX11_ways_42 : decode cX11_ways 42 = .ok (.getfield 170, 3) := by decide +kernel
theorem dX11_ways_45 : decode cX11_ways 45 = .ok (.goto 5, 3) := by decide +kernel
theorem dX11_ways_48 : decode cX11_ways 48 = .ok (.bipush (-5), 2) := by decide +kernel
theorem dX11_ways_50 : decode cX11_ways 50 = .ok (.ireturn, 1) := by decide +kernel
theorem dX11_wayAt_0 : decode cX11_wayAt 0 = .ok (.iload_n 1, 1) := by decide +kernel
theorem dX11_wayAt_1 : decode cX11_wayAt 1 = .ok (.invokestatic 124, 3) := by decide +kernel
theorem dX11_wayAt_4 : decode cX11_wayAt 4 = .ok (.ifCond .ne 7, 3) := by decide +kernel
theorem dX11_wayAt_7 : decode cX11_wayAt 7 = .ok (.iload_n 2, 1) := by decide +kernel
theorem dX11_wayAt_8 : decode cX11_wayAt 8 = .ok (.ifCond .ge 6, 3) := by decide +kernel
theorem dX11_wayAt_11 : decode cX11_wayAt 11 = .ok (.bipush (-2), 2) := by decide +kernel
theorem dX11_wayAt_13 : decode cX11_wayAt 13 = .ok (.ireturn, 1) := by decide +kernel
theorem dX11_wayAt_14 : decode cX11_wayAt 14 = .ok (.aload_n 0, 1) := by decide +kernel
theorem dX11_wayAt_15 : decode cX11_wayAt 15 = .ok (.getfield 19, 3) := by decide +kernel
theorem dX11_wayAt_18 : decode cX11_wayAt 18 = .ok (.getfield 134, 3) := by decide +kernel
theorem dX11_wayAt_21 : decode cX11_wayAt 21 = .ok (.iload_n 1, 1) := by decide +kernel
theorem dX11_wayAt_22 : decode cX11_wayAt 22 = .ok (.iaload, 1) := by decide +kernel
theorem dX11_wayAt_23 : decode cX11_wayAt 23 = .ok (.istore_n 3, 1) := by decide +kernel
theorem dX11_wayAt_24 : decode cX11_wayAt 24 = .ok (.iload_n 3, 1) := by decide +kernel
theorem dX11_wayAt_25 : decode cX11_wayAt 25 = .ok (.ifCond .ge 6, 3) := by decide +kernel
theorem dX11_wayAt_28 : decode cX11_wayAt 28 = .ok (.bipush (-3), 2) := by decide +kernel
theorem dX11_wayAt_30 : decode cX11_wayAt 30 = .ok (.ireturn, 1) := by decide +kernel
theorem dX11_wayAt_31 : decode cX11_wayAt 31 = .ok (.aload_n 0, 1) := by decide +kernel
theorem dX11_wayAt_32 : decode cX11_wayAt 32 = .ok (.getfield 44, 3) := by decide +kernel
theorem dX11_wayAt_35 : decode cX11_wayAt 35 = .ok (.iload_n 3, 1) := by decide +kernel
theorem dX11_wayAt_36 : decode cX11_wayAt 36 = .ok (.invokevirtual 167, 3) := by decide +kernel
theorem dX11_wayAt_39 : decode cX11_wayAt 39 = .ok (.ifCond .ne 6, 3) := by decide +kernel
theorem dX11_wayAt_42 : decode cX11_wayAt 42 = .ok (.bipush (-5), 2) := by decide +kernel
theorem dX11_wayAt_44 : decode cX11_wayAt 44 = .ok (.ireturn, 1) := by decide +kernel
theorem dX11_wayAt_45 : decode cX11_wayAt 45 = .ok (.iload_n 2, 1) := by decide +kernel
theorem dX11_wayAt_46 : decode cX11_wayAt 46 = .ok (.aload_n 0, 1) := by decide +kernel
theorem dX11_wayAt_47 : decode cX11_wayAt 47 = .ok (.getfield 44, 3) := by decide +kernel
theorem dX11_wayAt_50 : decode cX11_wayAt 50 = .ok (.getfield 170, 3) := by decide +kernel
theorem dX11_wayAt_53 : decode cX11_wayAt 53 = .ok (.if_icmp .ge 15, 3) := by decide +kernel
theorem dX11_wayAt_56 : decode cX11_wayAt 56 = .ok (.aload_n 0, 1) := by decide +kernel
theorem dX11_wayAt_57 : decode cX11_wayAt 57 = .ok (.getfield 44, 3) := by decide +kernel
theorem dX11_wayAt_60 : decode cX11_wayAt 60 = .ok (.getfield 173, 3) := by decide +kernel
theorem dX11_wayAt_63 : decode cX11_wayAt 63 = .ok (.iload_n 2, 1) := by decide +kernel
theorem dX11_wayAt_64 : decode cX11_wayAt 64 = .ok (.iaload, 1) := by decide +kernel
theorem dX11_wayAt_65 : decode cX11_wayAt 65 = .ok (.goto 4, 3) := by decide +kernel
theorem dX11_wayAt_68 : decode cX11_wayAt 68 = .ok (.iconst (-1), 1) := by decide +kernel
theorem dX11_wayAt_69 : decode cX11_wayAt 69 = .ok (.ireturn, 1) := by decide +kernel
theorem dX11_least_0 : decode cX11_least 0 = .ok (.aload_n 0, 1) := by decide +kernel
theorem dX11_least_1 : decode cX11_least 1 = .ok (.iload_n 1, 1) := by decide +kernel
theorem dX11_least_2 : decode cX11_least 2 = .ok (.iload_n 2, 1) := by decide +kernel
theorem dX11_least_3 : decode cX11_least 3 = .ok (.invokevirtual 176, 3) := by decide +kernel
theorem dX11_least_6 : decode cX11_least 6 = .ok (.istore_n 3, 1) := by decide +kernel
theorem dX11_least_7 : decode cX11_least 7 = .ok (.iload_n 3, 1) := by decide +kernel
theorem dX11_least_8 : decode cX11_least 8 = .ok (.ifCond .ge 7, 3) := by decide +kernel
theorem dX11_least_11 : decode cX11_least 11 = .ok (.iload_n 3, 1) := by decide +kernel
theorem dX11_least_12 : decode cX11_least 12 = .ok (.goto 12, 3) := by decide +kernel
theorem dX11_least_15 : decode cX11_least 15 = .ok (.aload_n 0, 1) := by decide +kernel
theorem dX11_least_16 : decode cX11_least 16 = .ok (.getfield 10, 3) := by decide +kernel
theorem dX11_least_19 : decode cX11_least 19 = .ok (.iload_n 3, 1) := by decide +kernel
theorem dX11_least_20 : decode cX11_least 20 = .ok (.iload_n 2, 1) := by decide +kernel
theorem dX11_least_21 : decode cX11_least 21 = .ok (.invokevirtual 179, 3) := by decide +kernel
theorem dX11_least_24 : decode cX11_least 24 = .ok (.ireturn, 1) := by decide +kernel
theorem dX11_leastWay_0 : decode cX11_leastWay 0 = .ok (.iload_n 1, 1) := by decide +kernel
theorem dX11_leastWay_1 : decode cX11_leastWay 1 = .ok (.invokestatic 124, 3) := by decide +kernel
theorem dX11_leastWay_4 : decode cX11_leastWay 4 = .ok (.ifCond .ne 12, 3) := by decide +kernel
theorem dX11_leastWay_7 : decode cX11_leastWay 7 = .ok (.iload_n 2, 1) := by decide +kernel
theorem dX11_leastWay_8 : decode cX11_leastWay 8 = .ok (.iconst 0, 1) := by decide +kernel
theorem dX11_leastWay_9 : decode cX11_leastWay 9 = .ok (.iconst 1, 1) := by decide +kernel
theorem dX11_leastWay_10 : decode cX11_leastWay 10 = .ok (.invokestatic 102, 3) := by decide +kernel
theorem dX11_leastWay_13 : decode cX11_leastWay 13 = .ok (.ifCond .eq 6, 3) := by decide +kernel
theorem dX11_leastWay_16 : decode cX11_leastWay 16 = .ok (.bipush (-2), 2) := by decide +kernel
theorem dX11_leastWay_18 : decode cX11_leastWay 18 = .ok (.ireturn, 1) := by decide +kernel
theorem dX11_leastWay_19 : decode cX11_leastWay 19 = .ok (.aload_n 0, 1) := by decide +kernel
theorem dX11_leastWay_20 : decode cX11_leastWay 20 = .ok (.getfield 19, 3) := by decide +kernel
theorem dX11_leastWay_23 : decode cX11_leastWay 23 = .ok (.getfield 134, 3) := by decide +kernel
theorem dX11_leastWay_26 : decode cX11_leastWay 26 = .ok (.iload_n 1, 1) := by decide +kernel
theorem dX11_leastWay_27 : decode cX11_leastWay 27 = .ok (.iaload, 1) := by decide +kernel
theorem dX11_leastWay_28 : decode cX11_leastWay 28 = .ok (.istore_n 3, 1) := by decide +kernel
theorem dX11_leastWay_29 : decode cX11_leastWay 29 = .ok (.iload_n 3, 1) := by decide +kernel
theorem dX11_leastWay_30 : decode cX11_leastWay 30 = .ok (.ifCond .ge 6, 3) := by decide +kernel
theorem dX11_leastWay_33 : decode cX11_leastWay 33 = .ok (.bipush (-3), 2) := by decide +kernel
theorem dX11_leastWay_35 : decode cX11_leastWay 35 = .ok (.ireturn, 1) := by decide +kernel
theorem dX11_leastWay_36 : decode cX11_leastWay 36 = .ok (.aload_n 0, 1) := by decide +kernel
theorem dX11_leastWay_37 : decode cX11_leastWay 37 = .ok (.getfield 44, 3) := by decide +kernel
theorem dX11_leastWay_40 : decode cX11_leastWay 40 = .ok (.iload_n 3, 1) := by decide +kernel
theorem dX11_leastWay_41 : decode cX11_leastWay 41 = .ok (.invokevirtual 167, 3) := by decide +kernel
theorem dX11_leastWay_44 : decode cX11_leastWay 44 = .ok (.ifCond .eq 14, 3) := by decide +kernel
theorem dX11_leastWay_47 : decode cX11_leastWay 47 = .ok (.aload_n 0, 1) := by decide +kernel
theorem dX11_leastWay_48 : decode cX11_leastWay 48 = .ok (.getfield 44, 3) := by decide +kernel
theorem dX11_leastWay_51 : decode cX11_leastWay 51 = .ok (.iload_n 2, 1) := by decide +kernel
theorem dX11_leastWay_52 : decode cX11_leastWay 52 = .ok (.invokevirtual 182, 3) := by decide +kernel
theorem dX11_leastWay_55 : decode cX11_leastWay 55 = .ok (.goto 5, 3) := by decide +kernel
theorem dX11_leastWay_58 : decode cX11_leastWay 58 = .ok (.bipush (-5), 2) := by decide +kernel
theorem dX11_leastWay_60 : decode cX11_leastWay 60 = .ok (.ireturn, 1) := by decide +kernel
theorem dX11_many_0 : decode cX11_many 0 = .ok (.iload_n 1, 1) := by decide +kernel
theorem dX11_many_1 : decode cX11_many 1 = .ok (.invokestatic 124, 3) := by decide +kernel
theorem dX11_many_4 : decode cX11_many 4 = .ok (.ifCond .eq 6, 3) := by decide +kernel
theorem dX11_many_7 : decode cX11_many 7 = .ok (.bipush (-2), 2) := by decide +kernel
theorem dX11_many_9 : decode cX11_many 9 = .ok (.ireturn, 1) := by decide +kernel
theorem dX11_many_10 : decode cX11_many 10 = .ok (.aload_n 0, 1) := by decide +kernel
theorem dX11_many_11 : decode cX11_many 11 = .ok (.getfield 19, 3) := by decide +kernel
theorem dX11_many_14 : decode cX11_many 14 = .ok (.getfield 134, 3) := by decide +kernel
theorem dX11_many_17 : decode cX11_many 17 = .ok (.iload_n 1, 1) := by decide +kernel
theorem dX11_many_18 : decode cX11_many 18 = .ok (.iaload, 1) := by decide +kernel
theorem dX11_many_19 : decode cX11_many 19 = .ok (.istore_n 2, 1) := by decide +kernel
theorem dX11_many_20 : decode cX11_many 20 = .ok (.iload_n 2, 1) := by decide +kernel
theorem dX11_many_21 : decode cX11_many 21 = .ok (.ifCond .ge 8, 3) := by decide +kernel
theorem dX11_many_24 : decode cX11_many 24 = .ok (.bipush (-3), 2) := by decide +kernel
theorem dX11_many_26 : decode cX11_many 26 = .ok (.goto 15, 3) := by decide +kernel
theorem dX11_many_29 : decode cX11_many 29 = .ok (.aload_n 0, 1) := by decide +kernel
theorem dX11_many_30 : decode cX11_many 30 = .ok (.getfield 19, 3) := by decide +kernel
theorem dX11_many_33 : decode cX11_many 33 = .ok (.iload_n 2, 1) := by decide +kernel
theorem dX11_many_34 : decode cX11_many 34 = .ok (.aload_n 0, 1) := by decide +kernel
theorem dX11_many_35 : decode cX11_many 35 = .ok (.getfield 10, 3) := by decide +kernel
theorem dX11_many_38 : decode cX11_many 38 = .ok (.invokevirtual 186, 3) := by decide +kernel
theorem dX11_many_41 : decode cX11_many 41 = .ok (.ireturn, 1) := by decide +kernel
theorem dX11_size_0 : decode cX11_size 0 = .ok (.iload_n 1, 1) := by decide +kernel
theorem dX11_size_1 : decode cX11_size 1 = .ok (.invokestatic 124, 3) := by decide +kernel
theorem dX11_size_4 : decode cX11_size 4 = .ok (.ifCond .eq 6, 3) := by decide +kernel
theorem dX11_size_7 : decode cX11_size 7 = .ok (.bipush (-2), 2) := by decide +kernel
theorem dX11_size_9 : decode cX11_size 9 = .ok (.ireturn, 1) := by decide +kernel
theorem dX11_size_10 : decode cX11_size 10 = .ok (.aload_n 0, 1) := by decide +kernel
theorem dX11_size_11 : decode cX11_size 11 = .ok (.getfield 19, 3) := by decide +kernel
theorem dX11_size_14 : decode cX11_size 14 = .ok (.getfield 134, 3) := by decide +kernel
theorem dX11_size_17 : decode cX11_size 17 = .ok (.iload_n 1, 1) := by decide +kernel
theorem dX11_size_18 : decode cX11_size 18 = .ok (.iaload, 1) := by decide +kernel
theorem dX11_size_19 : decode cX11_size 19 = .ok (.istore_n 2, 1) := by decide +kernel
theorem dX11_size_20 : decode cX11_size 20 = .ok (.iload_n 2, 1) := by decide +kernel
theorem dX11_size_21 : decode cX11_size 21 = .ok (.ifCond .ge 6, 3) := by decide +kernel
theorem dX11_size_24 : decode cX11_size 24 = .ok (.bipush (-3), 2) := by decide +kernel
theorem dX11_size_26 : decode cX11_size 26 = .ok (.ireturn, 1) := by decide +kernel
theorem dX11_size_27 : decode cX11_size 27 = .ok (.aload_n 0, 1) := by decide +kernel
theorem dX11_size_28 : decode cX11_size 28 = .ok (.getfield 58, 3) := by decide +kernel
theorem dX11_size_31 : decode cX11_size 31 = .ok (.iload_n 2, 1) := by decide +kernel
theorem dX11_size_32 : decode cX11_size 32 = .ok (.invokevirtual 190, 3) := by decide +kernel
theorem dX11_size_35 : decode cX11_size 35 = .ok (.aload_n 0, 1) := by decide +kernel
theorem dX11_size_36 : decode cX11_size 36 = .ok (.getfield 58, 3) := by decide +kernel
theorem dX11_size_39 : decode cX11_size 39 = .ok (.invokevirtual 194, 3) := by decide +kernel
theorem dX11_size_42 : decode cX11_size 42 = .ok (.ireturn, 1) := by decide +kernel
theorem dX11_chance_0 : decode cX11_chance 0 = .ok (.iload_n 1, 1) := by decide +kernel
theorem dX11_chance_1 : decode cX11_chance 1 = .ok (.invokestatic 124, 3) := by decide +kernel
theorem dX11_chance_4 : decode cX11_chance 4 = .ok (.ifCond .eq 6, 3) := by decide +kernel
theorem dX11_chance_7 : decode cX11_chance 7 = .ok (.bipush (-2), 2) := by decide +kernel
theorem dX11_chance_9 : decode cX11_chance 9 = .ok (.ireturn, 1) := by decide +kernel
theorem dX11_chance_10 : decode cX11_chance 10 = .ok (.aload_n 0, 1) := by decide +kernel
theorem dX11_chance_11 : decode cX11_chance 11 = .ok (.getfield 19, 3) := by decide +kernel
theorem dX11_chance_14 : decode cX11_chance 14 = .ok (.getfield 134, 3) := by decide +kernel
theorem dX11_chance_17 : decode cX11_chance 17 = .ok (.iload_n 1, 1) := by decide +kernel
theorem dX11_chance_18 : decode cX11_chance 18 = .ok (.iaload, 1) := by decide +kernel
theorem dX11_chance_19 : decode cX11_chance 19 = .ok (.istore_n 2, 1) := by decide +kernel
theorem dX11_chance_20 : decode cX11_chance 20 = .ok (.iload_n 2, 1) := by decide +kernel
theorem dX11_chance_21 : decode cX11_chance 21 = .ok (.ifCond .ge 6, 3) := by decide +kernel
theorem dX11_chance_24 : decode cX11_chance 24 = .ok (.bipush (-3), 2) := by decide +kernel
theorem dX11_chance_26 : decode cX11_chance 26 = .ok (.ireturn, 1) := by decide +kernel
theorem dX11_chance_27 : decode cX11_chance 27 = .ok (.aload_n 0, 1) := by decide +kernel
theorem dX11_chance_28 : decode cX11_chance 28 = .ok (.getfield 58, 3) := by decide +kernel
theorem dX11_chance_31 : decode cX11_chance 31 = .ok (.iload_n 2, 1) := by decide +kernel
theorem dX11_chance_32 : decode cX11_chance 32 = .ok (.invokevirtual 197, 3) := by decide +kernel
theorem dX11_chance_35 : decode cX11_chance 35 = .ok (.ifCond .ne 6, 3) := by decide +kernel
theorem dX11_chance_38 : decode cX11_chance 38 = .ok (.bipush (-5), 2) := by decide +kernel
theorem dX11_chance_40 : decode cX11_chance 40 = .ok (.ireturn, 1) := by decide +kernel
theorem dX11_chance_41 : decode cX11_chance 41 = .ok (.aload_n 0, 1) := by decide +kernel
theorem dX11_chance_42 : decode cX11_chance 42 = .ok (.getfield 58, 3) := by decide +kernel
theorem dX11_chance_45 : decode cX11_chance 45 = .ok (.iconst 0, 1) := by decide +kernel
theorem dX11_chance_46 : decode cX11_chance 46 = .ok (.invokevirtual 200, 3) := by decide +kernel
theorem dX11_chance_49 : decode cX11_chance 49 = .ok (.aload_n 0, 1) := by decide +kernel
theorem dX11_chance_50 : decode cX11_chance 50 = .ok (.getfield 58, 3) := by decide +kernel
theorem dX11_chance_53 : decode cX11_chance 53 = .ok (.invokevirtual 203, 3) := by decide +kernel
theorem dX11_chance_56 : decode cX11_chance 56 = .ok (.istore_n 3, 1) := by decide +kernel
theorem dX11_chance_57 : decode cX11_chance 57 = .ok (.aload_n 0, 1) := by decide +kernel
theorem dX11_chance_58 : decode cX11_chance 58 = .ok (.getfield 51, 3) := by decide +kernel
theorem dX11_chance_61 : decode cX11_chance 61 = .ok (.aload_n 0, 1) := by decide +kernel
theorem dX11_chance_62 : decode cX11_chance 62 = .ok (.getfield 58, 3) := by decide +kernel
theorem dX11_chance_65 : decode cX11_chance 65 = .ok (.getfield 206, 3) := by decide +kernel
theorem dX11_chance_68 : decode cX11_chance 68 = .ok (.iload_n 3, 1) := by decide +kernel
theorem dX11_chance_69 : decode cX11_chance 69 = .ok (.aload_n 0, 1) := by decide +kernel
theorem dX11_chance_70 : decode cX11_chance 70 = .ok (.getfield 58, 3) := by decide +kernel
theorem dX11_chance_73 : decode cX11_chance 73 = .ok (.getfield 209, 3) := by decide +kernel
theorem dX11_chance_76 : decode cX11_chance 76 = .ok (.aload_n 0, 1) := by decide +kernel
theorem dX11_chance_77 : decode cX11_chance 77 = .ok (.getfield 35, 3) := by decide +kernel
theorem dX11_chance_80 : decode cX11_chance 80 = .ok (.getfield 212, 3) := by decide +kernel
theorem dX11_chance_83 : decode cX11_chance 83 = .ok (.invokevirtual 215, 3) := by decide +kernel
theorem dX11_chance_86 : decode cX11_chance 86 = .ok (.iconst 1, 1) := by decide +kernel
theorem dX11_chance_87 : decode cX11_chance 87 = .ok (.ireturn, 1) := by decide +kernel
theorem dX11_weight_0 : decode cX11_weight 0 = .ok (.iload_n 1, 1) := by decide +kernel
theorem dX11_weight_1 : decode cX11_weight 1 = .ok (.invokestatic 124, 3) := by decide +kernel
theorem dX11_weight_4 : decode cX11_weight 4 = .ok (.ifCond .ne 10, 3) := by decide +kernel
theorem dX11_weight_7 : decode cX11_weight 7 = .ok (.iload_n 2, 1) := by decide +kernel
theorem dX11_weight_8 : decode cX11_weight 8 = .ok (.invokestatic 98, 3) := by decide +kernel
theorem dX11_weight_11 : decode cX11_weight 11 = .ok (.ifCond .eq 6, 3) := by decide +kernel
theorem dX11_weight_14 : decode cX11_weight 14 = .ok (.bipush (-2), 2) := by decide +kernel
theorem dX11_weight_16 : decode cX11_weight 16 = .ok (.ireturn, 1) := by decide +kernel
theorem dX11_weight_17 : decode cX11_weight 17 = .ok (.aload_n 0, 1) := by decide +kernel
theorem dX11_weight_18 : decode cX11_weight 18 = .ok (.getfield 19, 3) := by decide +kernel
theorem dX11_weight_21 : decode cX11_weight 21 = .ok (.getfield 134, 3) := by decide +kernel
theorem dX11_weight_24 : decode cX11_weight 24 = .ok (.iload_n 1, 1) := by decide +kernel
theorem dX11_weight_25 : decode cX11_weight 25 = .ok (.iaload, 1) := by decide +kernel
theorem dX11_weight_26 : decode cX11_weight 26 = .ok (.istore_n 3, 1) := by decide +kernel
theorem dX11_weight_27 : decode cX11_weight 27 = .ok (.iload_n 3, 1) := by decide +kernel
theorem dX11_weight_28 : decode cX11_weight 28 = .ok (.ifCond .ge 6, 3) := by decide +kernel
theorem dX11_weight_31 : decode cX11_weight 31 = .ok (.bipush (-3), 2) := by decide +kernel
theorem dX11_weight_33 : decode cX11_weight 33 = .ok (.ireturn, 1) := by decide +kernel
theorem dX11_weight_34 : decode cX11_weight 34 = .ok (.aload_n 0, 1) := by decide +kernel
theorem dX11_weight_35 : decode cX11_weight 35 = .ok (.getfield 58, 3) := by decide +kernel
theorem dX11_weight_38 : decode cX11_weight 38 = .ok (.iload_n 3, 1) := by decide +kernel
theorem dX11_weight_39 : decode cX11_weight 39 = .ok (.invokevirtual 197, 3) := by decide +kernel
theorem dX11_weight_42 : decode cX11_weight 42 = .ok (.ifCond .ne 6, 3) := by decide +kernel
theorem dX11_weight_45 : decode cX11_weight 45 = .ok (.bipush (-5), 2) := by decide +kernel
theorem dX11_weight_47 : decode cX11_weight 47 = .ok (.ireturn, 1) := by decide +kernel
theorem dX11_weight_48 : decode cX11_weight 48 = .ok (.aload_n 0, 1) := by decide +kernel
theorem dX11_weight_49 : decode cX11_weight 49 = .ok (.getfield 58, 3) := by decide +kernel
theorem dX11_weight_52 : decode cX11_weight 52 = .ok (.iload_n 2, 1) := by decide +kernel
theorem dX11_weight_53 : decode cX11_weight 53 = .ok (.invokevirtual 219, 3) := by decide +kernel
theorem dX11_weight_56 : decode cX11_weight 56 = .ok (.aload_n 0, 1) := by decide +kernel
theorem dX11_weight_57 : decode cX11_weight 57 = .ok (.getfield 51, 3) := by decide +kernel
theorem dX11_weight_60 : decode cX11_weight 60 = .ok (.aload_n 0, 1) := by decide +kernel
theorem dX11_weight_61 : decode cX11_weight 61 = .ok (.getfield 58, 3) := by decide +kernel
theorem dX11_weight_64 : decode cX11_weight 64 = .ok (.getfield 222, 3) := by decide +kernel
theorem dX11_weight_67 : decode cX11_weight 67 = .ok (.iconst 0, 1) := by decide +kernel
theorem dX11_weight_68 : decode cX11_weight 68 = .ok (.aload_n 0, 1) := by decide +kernel
theorem dX11_weight_69 : decode cX11_weight 69 = .ok (.getfield 58, 3) := by decide +kernel
theorem dX11_weight_72 : decode cX11_weight 72 = .ok (.getfield 209, 3) := by decide +kernel
theorem dX11_weight_75 : decode cX11_weight 75 = .ok (.aload_n 0, 1) := by decide +kernel
theorem dX11_weight_76 : decode cX11_weight 76 = .ok (.getfield 35, 3) := by decide +kernel
theorem dX11_weight_79 : decode cX11_weight 79 = .ok (.getfield 212, 3) := by decide +kernel
theorem dX11_weight_82 : decode cX11_weight 82 = .ok (.invokevirtual 215, 3) := by decide +kernel
theorem dX11_weight_85 : decode cX11_weight 85 = .ok (.aload_n 0, 1) := by decide +kernel
theorem dX11_weight_86 : decode cX11_weight 86 = .ok (.getfield 51, 3) := by decide +kernel
theorem dX11_weight_89 : decode cX11_weight 89 = .ok (.invokevirtual 225, 3) := by decide +kernel
theorem dX11_weight_92 : decode cX11_weight 92 = .ok (.ifCond .eq 7, 3) := by decide +kernel
theorem dX11_weight_95 : decode cX11_weight 95 = .ok (.iconst 0, 1) := by decide +kernel
theorem dX11_weight_96 : decode cX11_weight 96 = .ok (.goto 4, 3) := by decide +kernel
theorem dX11_weight_99 : decode cX11_weight 99 = .ok (.iconst 1, 1) := by decide +kernel
theorem dX11_weight_100 : decode cX11_weight 100 = .ok (.ireturn, 1) := by decide +kernel
theorem dX11_best_0 : decode cX11_best 0 = .ok (.iload_n 1, 1) := by decide +kernel
theorem dX11_best_1 : decode cX11_best 1 = .ok (.invokestatic 124, 3) := by decide +kernel
theorem dX11_best_4 : decode cX11_best 4 = .ok (.ifCond .ne 14, 3) := by decide +kernel
theorem dX11_best_7 : decode cX11_best 7 = .ok (.iload_n 2, 1) := by decide +kernel
theorem dX11_best_8 : decode cX11_best 8 = .ok (.iconst 0, 1) := by decide +kernel
theorem dX11_best_9 : decode cX11_best 9 = .ok (.sipush 16000, 3) := by decide +kernel
theorem dX11_best_12 : decode cX11_best 12 = .ok (.invokestatic 102, 3) := by decide +kernel
theorem dX11_best_15 : decode cX11_best 15 = .ok (.ifCond .eq 6, 3) := by decide +kernel
theorem dX11_best_18 : decode cX11_best 18 = .ok (.bipush (-2), 2) := by decide +kernel
theorem dX11_best_20 : decode cX11_best 20 = .ok (.ireturn, 1) := by decide +kernel
theorem dX11_best_21 : decode cX11_best 21 = .ok (.aload_n 0, 1) := by decide +kernel
theorem dX11_best_22 : decode cX11_best 22 = .ok (.getfield 19, 3) := by decide +kernel
theorem dX11_best_25 : decode cX11_best 25 = .ok (.getfield 134, 3) := by decide +kernel
theorem dX11_best_28 : decode cX11_best 28 = .ok (.iload_n 1, 1) := by decide +kernel
theorem dX11_best_29 : decode cX11_best 29 = .ok (.iaload, 1) := by decide +kernel
theorem dX11_best_30 : decode cX11_best 30 = .ok (.istore_n 3, 1) := by decide +kernel
theorem dX11_best_31 : decode cX11_best 31 = .ok (.iload_n 3, 1) := by decide +kernel
theorem dX11_best_32 : decode cX11_best 32 = .ok (.ifCond .lt 20, 3) := by decide +kernel
theorem dX11_best_35 : decode cX11_best 35 = .ok (.aload_n 0, 1) := by decide +kernel
theorem dX11_best_36 : decode cX11_best 36 = .ok (.getfield 19, 3) := by decide +kernel
theorem dX11_best_39 : decode cX11_best 39 = .ok (.getfield 156, 3) := by decide +kernel
theorem dX11_best_42 : decode cX11_best 42 = .ok (.iload_n 3, 1) := by decide +kernel
theorem dX11_best_43 : decode cX11_best 43 = .ok (.iaload, 1) := by decide +kernel
theorem dX11_best_44 : decode cX11_best 44 = .ok (.invokestatic 229, 3) := by decide +kernel
theorem dX11_best_47 : decode cX11_best 47 = .ok (.bipush 12, 2) := by decide +kernel
theorem dX11_best_49 : decode cX11_best 49 = .ok (.if_icmp .le 6, 3) := by decide +kernel
theorem dX11_best_52 : decode cX11_best 52 = .ok (.bipush (-3), 2) := by decide +kernel
theorem dX11_best_54 : decode cX11_best 54 = .ok (.ireturn, 1) := by decide +kernel
theorem dX11_best_55 : decode cX11_best 55 = .ok (.aload_n 0, 1) := by decide +kernel
theorem dX11_best_56 : decode cX11_best 56 = .ok (.getfield 58, 3) := by decide +kernel
theorem dX11_best_59 : decode cX11_best 59 = .ok (.iload_n 3, 1) := by decide +kernel
theorem dX11_best_60 : decode cX11_best 60 = .ok (.invokevirtual 197, 3) := by decide +kernel
theorem dX11_best_63 : decode cX11_best 63 = .ok (.ifCond .ne 6, 3) := by decide +kernel
theorem dX11_best_66 : decode cX11_best 66 = .ok (.bipush (-5), 2) := by decide +kernel
theorem dX11_best_68 : decode cX11_best 68 = .ok (.ireturn, 1) := by decide +kernel
theorem dX11_best_69 : decode cX11_best 69 = .ok (.aload_n 0, 1) := by decide +kernel
theorem dX11_best_70 : decode cX11_best 70 = .ok (.getfield 58, 3) := by decide +kernel
theorem dX11_best_73 : decode cX11_best 73 = .ok (.iload_n 2, 1) := by decide +kernel
theorem dX11_best_74 : decode cX11_best 74 = .ok (.invokevirtual 234, 3) := by decide +kernel
theorem dX11_best_77 : decode cX11_best 77 = .ok (.istore 4, 2) := by decide +kernel
theorem dX11_best_79 : decode cX11_best 79 = .ok (.aload_n 0, 1) := by decide +kernel
theorem dX11_best_80 : decode cX11_best 80 = .ok (.getfield 51, 3) := by decide +kernel
theorem dX11_best_83 : decode cX11_best 83 = .ok (.aload_n 0, 1) := by decide +kernel
theorem dX11_best_84 : decode cX11_best 84 = .ok (.getfield 58, 3) := by decide +kernel
theorem dX11_best_87 : decode cX11_best 87 = .ok (.getfield 206, 3) := by decide +kernel
theorem dX11_best_90 : decode cX11_best 90 = .ok (.iload 4, 2) := by decide +kernel
theorem dX11_best_92 : decode cX11_best 92 = .ok (.aload_n 0, 1) := by decide +kernel
theorem dX11_best_93 : decode cX11_best 93 = .ok (.getfield 58, 3) := by decide +kernel
theorem dX11_best_96 : decode cX11_best 96 = .ok (.getfield 209, 3) := by decide +kernel
theorem dX11_best_99 : decode cX11_best 99 = .ok (.imul, 1) := by decide +kernel
theorem dX11_best_100 : decode cX11_best 100 = .ok (.aload_n 0, 1) := by decide +kernel
theorem dX11_best_101 : decode cX11_best 101 = .ok (.getfield 58, 3) := by decide +kernel
theorem dX11_best_104 : decode cX11_best 104 = .ok (.getfield 209, 3) := by decide +kernel
theorem dX11_best_107 : decode cX11_best 107 = .ok (.aload_n 0, 1) := by decide +kernel
theorem dX11_best_108 : decode cX11_best 108 = .ok (.getfield 35, 3) := by decide +kernel
theorem dX11_best_111 : decode cX11_best 111 = .ok (.getfield 212, 3) := by decide +kernel
theorem dX11_best_114 : decode cX11_best 114 = .ok (.invokevirtual 215, 3) := by decide +kernel
theorem dX11_best_117 : decode cX11_best 117 = .ok (.aload_n 0, 1) := by decide +kernel
theorem dX11_best_118 : decode cX11_best 118 = .ok (.getfield 35, 3) := by decide +kernel
theorem dX11_best_121 : decode cX11_best 121 = .ok (.iload 4, 2) := by decide +kernel
theorem dX11_best_123 : decode cX11_best 123 = .ok (.invokevirtual 237, 3) := by decide +kernel
theorem dX11_best_126 : decode cX11_best 126 = .ok (.ireturn, 1) := by decide +kernel
theorem dX11_limbs_0 : decode cX11_limbs 0 = .ok (.iload_n 1, 1) := by decide +kernel
theorem dX11_limbs_1 : decode cX11_limbs 1 = .ok (.iconst 0, 1) := by decide +kernel
theorem dX11_limbs_2 : decode cX11_limbs 2 = .ok (.iconst 1, 1) := by decide +kernel
theorem dX11_limbs_3 : decode cX11_limbs 3 = .ok (.invokestatic 102, 3) := by decide +kernel
theorem dX11_limbs_6 : decode cX11_limbs 6 = .ok (.ifCond .eq 6, 3) := by decide +kernel
theorem dX11_limbs_9 : decode cX11_limbs 9 = .ok (.bipush (-2), 2) := by decide +kernel
theorem dX11_limbs_11 : decode cX11_limbs 11 = .ok (.ireturn, 1) := by decide +kernel
theorem dX11_limbs_12 : decode cX11_limbs 12 = .ok (.aload_n 0, 1) := by decide +kernel
theorem dX11_limbs_13 : decode cX11_limbs 13 = .ok (.getfield 51, 3) := by decide +kernel
theorem dX11_limbs_16 : decode cX11_limbs 16 = .ok (.iload_n 1, 1) := by decide +kernel
theorem dX11_limbs_17 : decode cX11_limbs 17 = .ok (.invokevirtual 240, 3) := by decide +kernel
theorem dX11_limbs_20 : decode cX11_limbs 20 = .ok (.ireturn, 1) := by decide +kernel
theorem dX11_limb_0 : decode cX11_limb 0 = .ok (.iload_n 1, 1) := by decide +kernel
theorem dX11_limb_1 : decode cX11_limb 1 = .ok (.iconst 0, 1) := by decide +kernel
theorem dX11_limb_2 : decode cX11_limb 2 = .ok (.iconst 1, 1) := by decide +kernel
theorem dX11_limb_3 : decode cX11_limb 3 = .ok (.invokestatic 102, 3) := by decide +kernel
theorem dX11_limb_6 : decode cX11_limb 6 = .ok (.ifCond .ne 7, 3) := by decide +kernel
theorem dX11_limb_9 : decode cX11_limb 9 = .ok (.iload_n 2, 1) := by decide +kernel
theorem dX11_limb_10 : decode cX11_limb 10 = .ok (.ifCond .ge 6, 3) := by decide +kernel
theorem dX11_limb_13 : decode cX11_limb 13 = .ok (.bipush (-2), 2) := by decide +kernel
theorem dX11_limb_15 : decode cX11_limb 15 = .ok (.ireturn, 1) := by decide +kernel
theorem dX11_limb_16 : decode cX11_limb 16 = .ok (.iload_n 2, 1) := by decide +kernel
theorem dX11_limb_17 : decode cX11_limb 17 = .ok (.aload_n 0, 1) := by decide +kernel
theorem dX11_limb_18 : decode cX11_limb 18 = .ok (.getfield 51, 3) := by decide +kernel
theorem dX11_limb_21 : decode cX11_limb 21 = .ok (.iload_n 1, 1) := by decide +kernel
theorem dX11_limb_22 : decode cX11_limb 22 = .ok (.invokevirtual 240, 3) := by decide +kernel
theorem dX11_limb_25 : decode cX11_limb 25 = .ok (.if_icmp .ge 15, 3) := by decide +kernel
theorem dX11_limb_28 : decode cX11_limb 28 = .ok (.aload_n 0, 1) := by decide +kernel
theorem dX11_limb_29 : decode cX11_limb 29 = .ok (.getfield 51, 3) := by decide +kernel
theorem dX11_limb_32 : decode cX11_limb 32 = .ok (.iload_n 1, 1) := by decide +kernel
theorem dX11_limb_33 : decode cX11_limb 33 = .ok (.iload_n 2, 1) := by decide +kernel
theorem dX11_limb_34 : decode cX11_limb 34 = .ok (.invokevirtual 243, 3) := by decide +kernel
theorem dX11_limb_37 : decode cX11_limb 37 = .ok (.goto 4, 3) := by decide +kernel
theorem dX11_limb_40 : decode cX11_limb 40 = .ok (.iconst (-1), 1) := by decide +kernel
theorem dX11_limb_41 : decode cX11_limb 41 = .ok (.ireturn, 1) := by decide +kernel
theorem dX11_guard_0 : decode cX11_guard 0 = .ok (.iload_n 1, 1) := by decide +kernel
theorem dX11_guard_1 : decode cX11_guard 1 = .ok (.iconst 0, 1) := by decide +kernel
theorem dX11_guard_2 : decode cX11_guard 2 = .ok (.ldc 162, 2) := by decide +kernel
theorem dX11_guard_4 : decode cX11_guard 4 = .ok (.invokestatic 102, 3) := by decide +kernel
theorem dX11_guard_7 : decode cX11_guard 7 = .ok (.ifCond .ne 14, 3) := by decide +kernel
theorem dX11_guard_10 : decode cX11_guard 10 = .ok (.iload_n 2, 1) := by decide +kernel
theorem dX11_guard_11 : decode cX11_guard 11 = .ok (.iconst 0, 1) := by decide +kernel
theorem dX11_guard_12 : decode cX11_guard 12 = .ok (.sipush 1000, 3) := by decide +kernel
theorem dX11_guard_15 : decode cX11_guard 15 = .ok (.invokestatic 102, 3) := by decide +kernel
theorem dX11_guard_18 : decode cX11_guard 18 = .ok (.ifCond .eq 6, 3) := by decide +kernel
theorem dX11_guard_21 : decode cX11_guard 21 = .ok (.bipush (-2), 2) := by decide +kernel
theorem dX11_guard_23 : decode cX11_guard 23 = .ok (.ireturn, 1) := by decide +kernel
theorem dX11_guard_24 : decode cX11_guard 24 = .ok (.aload_n 0, 1) := by decide +kernel
theorem dX11_guard_25 : decode cX11_guard 25 = .ok (.getfield 67, 3) := by decide +kernel
theorem dX11_guard_28 : decode cX11_guard 28 = .ok (.iload_n 1, 1) := by decide +kernel
theorem dX11_guard_29 : decode cX11_guard 29 = .ok (.iload_n 2, 1) := by decide +kernel
theorem dX11_guard_30 : decode cX11_guard 30 = .ok (.invokevirtual 246, 3) := by decide +kernel
theorem dX11_guard_33 : decode cX11_guard 33 = .ok (.ifCond .eq 15, 3) := by decide +kernel
theorem dX11_guard_36 : decode cX11_guard 36 = .ok (.aload_n 0, 1) := by decide +kernel
theorem dX11_guard_37 : decode cX11_guard 37 = .ok (.getfield 67, 3) := by decide +kernel
theorem dX11_guard_40 : decode cX11_guard 40 = .ok (.getfield 249, 3) := by decide +kernel
theorem dX11_guard_43 : decode cX11_guard 43 = .ok (.iconst 1, 1) := by decide +kernel
theorem dX11_guard_44 : decode cX11_guard 44 = .ok (.isub, 1) := by decide +kernel
theorem dX11_guard_45 : decode cX11_guard 45 = .ok (.goto 5, 3) := by decide +kernel
theorem dX11_guard_48 : decode cX11_guard 48 = .ok (.bipush (-4), 2) := by decide +kernel
theorem dX11_guard_50 : decode cX11_guard 50 = .ok (.ireturn, 1) := by decide +kernel
theorem dX11_holds_0 : decode cX11_holds 0 = .ok (.iload_n 1, 1) := by decide +kernel
theorem dX11_holds_1 : decode cX11_holds 1 = .ok (.invokestatic 124, 3) := by decide +kernel
theorem dX11_holds_4 : decode cX11_holds 4 = .ok (.ifCond .ne 22, 3) := by decide +kernel
theorem dX11_holds_7 : decode cX11_holds 7 = .ok (.iload_n 2, 1) := by decide +kernel
theorem dX11_holds_8 : decode cX11_holds 8 = .ok (.iconst 0, 1) := by decide +kernel
theorem dX11_holds_9 : decode cX11_holds 9 = .ok (.iconst 1, 1) := by decide +kernel
theorem dX11_holds_10 : decode cX11_holds 10 = .ok (.aload_n 0, 1) := by decide +kernel
theorem dX11_holds_11 : decode cX11_holds 11 = .ok (.getfield 67, 3) := by decide +kernel
theorem dX11_holds_14 : decode cX11_holds 14 = .ok (.getfield 249, 3) := by decide +kernel
theorem dX11_holds_17 : decode cX11_holds 17 = .ok (.ishl, 1) := by decide +kernel
theorem dX11_holds_18 : decode cX11_holds 18 = .ok (.iconst 1, 1) := by decide +kernel
theorem dX11_holds_19 : decode cX11_holds 19 = .ok (.isub, 1) := by decide +kernel
theorem dX11_holds_20 : decode cX11_holds 20 = .ok (.invokestatic 102, 3) := by decide +kernel
theorem dX11_holds_23 : decode cX11_holds 23 = .ok (.ifCond .eq 6, 3) := by decide +kernel
theorem dX11_holds_26 : decode cX11_holds 26 = .ok (.bipush (-2), 2) := by decide +kernel
theorem dX11_holds_28 : decode cX11_holds 28 = .ok (.ireturn, 1) := by decide +kernel
theorem dX11_holds_29 : decode cX11_holds 29 = .ok (.aload_n 0, 1) := by decide +kernel
theorem dX11_holds_30 : decode cX11_holds 30 = .ok (.getfield 19, 3) := by decide +kernel
theorem dX11_holds_33 : decode cX11_holds 33 = .ok (.getfield 134, 3) := by decide +kernel
theorem dX11_holds_36 : decode cX11_holds 36 = .ok (.iload_n 1, 1) := by decide +kernel
theorem dX11_holds_37 : decode cX11_holds 37 = .ok (.iaload, 1) := by decide +kernel
theorem dX11_holds_38 : decode cX11_holds 38 = .ok (.istore_n 3, 1) := by decide +kernel
theorem dX11_holds_39 : decode cX11_holds 39 = .ok (.iload_n 3, 1) := by decide +kernel
theorem dX11_holds_40 : decode cX11_holds 40 = .ok (.ifCond .ge 6, 3) := by decide +kernel
theorem dX11_holds_43 : decode cX11_holds 43 = .ok (.bipush (-3), 2) := by decide +kernel
theorem dX11_holds_45 : decode cX11_holds 45 = .ok (.ireturn, 1) := by decide +kernel
theorem dX11_holds_46 : decode cX11_holds 46 = .ok (.aload_n 0, 1) := by decide +kernel
theorem dX11_holds_47 : decode cX11_holds 47 = .ok (.getfield 19, 3) := by decide +kernel
theorem dX11_holds_50 : decode cX11_holds 50 = .ok (.iload_n 3, 1) := by decide +kernel
theorem dX11_holds_51 : decode cX11_holds 51 = .ok (.ldc 162, 2) := by decide +kernel
theorem dX11_holds_53 : decode cX11_holds 53 = .ok (.aload_n 0, 1) := by decide +kernel
theorem dX11_holds_54 : decode cX11_holds 54 = .ok (.getfield 67, 3) := by decide +kernel
theorem dX11_holds_57 : decode cX11_holds 57 = .ok (.getfield 250, 3) := by decide +kernel
theorem dX11_holds_60 : decode cX11_holds 60 = .ok (.iload_n 2, 1) := by decide +kernel
theorem dX11_holds_61 : decode cX11_holds 61 = .ok (.iaload, 1) := by decide +kernel
theorem dX11_holds_62 : decode cX11_holds 62 = .ok (.iconst (-1), 1) := by decide +kernel
theorem dX11_holds_63 : decode cX11_holds 63 = .ok (.ixor, 1) := by decide +kernel
theorem dX11_holds_64 : decode cX11_holds 64 = .ok (.iand, 1) := by decide +kernel
theorem dX11_holds_65 : decode cX11_holds 65 = .ok (.invokevirtual 163, 3) := by decide +kernel
theorem dX11_holds_68 : decode cX11_holds 68 = .ok (.ifCond .eq 7, 3) := by decide +kernel
theorem dX11_holds_71 : decode cX11_holds 71 = .ok (.iconst 0, 1) := by decide +kernel
theorem dX11_holds_72 : decode cX11_holds 72 = .ok (.goto 4, 3) := by decide +kernel
theorem dX11_holds_75 : decode cX11_holds 75 = .ok (.iconst 1, 1) := by decide +kernel
theorem dX11_holds_76 : decode cX11_holds 76 = .ok (.ireturn, 1) := by decide +kernel
theorem dX11_leastGuards_0 : decode cX11_leastGuards 0 = .ok (.iload_n 1, 1) := by decide +kernel
theorem dX11_leastGuards_1 : decode cX11_leastGuards 1 = .ok (.invokestatic 124, 3) := by decide +kernel
theorem dX11_leastGuards_4 : decode cX11_leastGuards 4 = .ok (.ifCond .eq 6, 3) := by decide +kernel
theorem dX11_leastGuards_7 : decode cX11_leastGuards 7 = .ok (.bipush (-2), 2) := by decide +kernel
theorem dX11_leastGuards_9 : decode cX11_leastGuards 9 = .ok (.ireturn, 1) := by decide +kernel
theorem dX11_leastGuards_10 : decode cX11_leastGuards 10 = .ok (.aload_n 0, 1) := by decide +kernel
theorem dX11_leastGuards_11 : decode cX11_leastGuards 11 = .ok (.getfield 19, 3) := by decide +kernel
theorem dX11_leastGuards_14 : decode cX11_leastGuards 14 = .ok (.getfield 134, 3) := by decide +kernel
theorem dX11_leastGuards_17 : decode cX11_leastGuards 17 = .ok (.iload_n 1, 1) := by decide +kernel
theorem dX11_leastGuards_18 : decode cX11_leastGuards 18 = .ok (.iaload, 1) := by decide +kernel
theorem dX11_leastGuards_19 : decode cX11_leastGuards 19 = .ok (.istore_n 2, 1) := by decide +kernel
theorem dX11_leastGuards_20 : decode cX11_leastGuards 20 = .ok (.iload_n 2, 1) := by decide +kernel
theorem dX11_leastGuards_21 : decode cX11_leastGuards 21 = .ok (.ifCond .ge 8, 3) := by decide +kernel
theorem dX11_leastGuards_24 : decode cX11_leastGuards 24 = .ok (.bipush (-3), 2) := by decide +kernel
theorem dX11_leastGuards_26 : decode cX11_leastGuards 26 = .ok (.goto 11, 3) := by decide +kernel
theorem dX11_leastGuards_29 : decode cX11_leastGuards 29 = .ok (.aload_n 0, 1) := by decide +kernel
theorem dX11_leastGuards_30 : decode cX11_leastGuards 30 = .ok (.getfield 67, 3) := by decide +kernel
theorem dX11_leastGuards_33 : decode cX11_leastGuards 33 = .ok (.iload_n 2, 1) := by decide +kernel
theorem dX11_leastGuards_34 : decode cX11_leastGuards 34 = .ok (.invokevirtual 253, 3) := by decide +kernel
theorem dX11_leastGuards_37 : decode cX11_leastGuards 37 = .ok (.ireturn, 1) := by decide +kernel
theorem dX11_front_0 : decode cX11_front 0 = .ok (.iload_n 1, 1) := by decide +kernel
theorem dX11_front_1 : decode cX11_front 1 = .ok (.invokestatic 124, 3) := by decide +kernel
theorem dX11_front_4 : decode cX11_front 4 = .ok (.ifCond .eq 6, 3) := by decide +kernel
theorem dX11_front_7 : decode cX11_front 7 = .ok (.bipush (-2), 2) := by decide +kernel
theorem dX11_front_9 : decode cX11_front 9 = .ok (.ireturn, 1) := by decide +kernel
theorem dX11_front_10 : decode cX11_front 10 = .ok (.aload_n 0, 1) := by decide +kernel
theorem dX11_front_11 : decode cX11_front 11 = .ok (.getfield 19, 3) := by decide +kernel
theorem dX11_front_14 : decode cX11_front 14 = .ok (.getfield 134, 3) := by decide +kernel
theorem dX11_front_17 : decode cX11_front 17 = .ok (.iload_n 1, 1) := by decide +kernel
theorem dX11_front_18 : decode cX11_front 18 = .ok (.iaload, 1) := by decide +kernel
theorem dX11_front_19 : decode cX11_front 19 = .ok (.istore_n 2, 1) := by decide +kernel
theorem dX11_front_20 : decode cX11_front 20 = .ok (.iload_n 2, 1) := by decide +kernel
theorem dX11_front_21 : decode cX11_front 21 = .ok (.ifCond .ge 6, 3) := by decide +kernel
theorem dX11_front_24 : decode cX11_front 24 = .ok (.bipush (-3), 2) := by decide +kernel
theorem dX11_front_26 : decode cX11_front 26 = .ok (.ireturn, 1) := by decide +kernel
theorem dX11_front_27 : decode cX11_front 27 = .ok (.aload_n 0, 1) := by decide +kernel
theorem dX11_front_28 : decode cX11_front 28 = .ok (.getfield 67, 3) := by decide +kernel
theorem dX11_front_31 : decode cX11_front 31 = .ok (.iload_n 2, 1) := by decide +kernel
theorem dX11_front_32 : decode cX11_front 32 = .ok (.invokevirtual 256, 3) := by decide +kernel
theorem dX11_front_35 : decode cX11_front 35 = .ok (.ifCond .eq 13, 3) := by decide +kernel
theorem dX11_front_38 : decode cX11_front 38 = .ok (.aload_n 0, 1) := by decide +kernel
theorem dX11_front_39 : decode cX11_front 39 = .ok (.getfield 67, 3) := by decide +kernel
theorem dX11_front_42 : decode cX11_front 42 = .ok (.getfield 259, 3) := by decide +kernel
theorem dX11_front_45 : decode cX11_front 45 = .ok (.goto 5, 3) := by decide +kernel
theorem dX11_front_48 : decode cX11_front 48 = .ok (.bipush (-5), 2) := by decide +kernel
theorem dX11_front_50 : decode cX11_front 50 = .ok (.ireturn, 1) := by decide +kernel
theorem dX11_frontAt_0 : decode cX11_frontAt 0 = .ok (.iload_n 1, 1) := by decide +kernel
theorem dX11_frontAt_1 : decode cX11_frontAt 1 = .ok (.invokestatic 124, 3) := by decide +kernel
theorem dX11_frontAt_4 : decode cX11_frontAt 4 = .ok (.ifCond .ne 16, 3) := by decide +kernel
theorem dX11_frontAt_7 : decode cX11_frontAt 7 = .ok (.iload_n 2, 1) := by decide +kernel
theorem dX11_frontAt_8 : decode cX11_frontAt 8 = .ok (.ifCond .lt 12, 3) := by decide +kernel
theorem dX11_frontAt_11 : decode cX11_frontAt 11 = .ok (.iload_n 3, 1) := by decide +kernel
theorem dX11_frontAt_12 : decode cX11_frontAt 12 = .ok (.iconst 0, 1) := by decide +kernel
theorem dX11_frontAt_13 : decode cX11_frontAt 13 = .ok (.iconst 1, 1) := by decide +kernel
theorem dX11_frontAt_14 : decode cX11_frontAt 14 = .ok (.invokestatic 102, 3) := by decide +kernel
theorem dX11_frontAt_17 : decode cX11_frontAt 17 = .ok (.ifCond .eq 6, 3) := by decide +kernel
theorem dX11_frontAt_20 : decode cX11_frontAt 20 = .ok (.bipush (-2), 2) := by decide +kernel
theorem dX11_frontAt_22 : decode cX11_frontAt 22 = .ok (.ireturn, 1) := by decide +kernel
theorem dX11_frontAt_23 : decode cX11_frontAt 23 = .ok (.aload_n 0, 1) := by decide +kernel
theorem dX11_frontAt_24 : decode cX11_frontAt 24 = .ok (.getfield 19, 3) := by decide +kernel
theorem dX11_frontAt_27 : decode cX11_frontAt 27 = .ok (.getfield 134, 3) := by decide +kernel
theorem dX11_frontAt_30 : decode cX11_frontAt 30 = .ok (.iload_n 1, 1) := by decide +kernel
theorem dX11_frontAt_31 : decode cX11_frontAt 31 = .ok (.iaload, 1) := by decide +kernel
theorem dX11_frontAt_32 : decode cX11_frontAt 32 = .ok (.istore 4, 2) := by decide +kernel
theorem dX11_frontAt_34 : decode cX11_frontAt 34 = .ok (.iload 4, 2) := by decide +kernel
theorem dX11_frontAt_36 : decode cX11_frontAt 36 = .ok (.ifCond .ge 6, 3) := by decide +kernel
theorem dX11_frontAt_39 : decode cX11_frontAt 39 = .ok (.bipush (-3), 2) := by decide +kernel
theorem dX11_frontAt_41 : decode cX11_frontAt 41 = .ok (.ireturn, 1) := by decide +kernel
theorem dX11_frontAt_42 : decode cX11_frontAt 42 = .ok (.aload_n 0, 1) := by decide +kernel
theorem dX11_frontAt_43 : decode cX11_frontAt 43 = .ok (.getfield 67, 3) := by decide +kernel
theorem dX11_frontAt_46 : decode cX11_frontAt 46 = .ok (.iload 4, 2) := by decide +kernel
theorem dX11_frontAt_48 : decode cX11_frontAt 48 = .ok (.invokevirtual 256, 3) := by decide +kernel
theorem dX11_frontAt_51 : decode cX11_frontAt 51 = .ok (.ifCond .ne 6, 3) := by decide +kernel
theorem dX11_frontAt_54 : decode cX11_frontAt 54 = .ok (.bipush (-5), 2) := by decide +kernel
theorem dX11_frontAt_56 : decode cX11_frontAt 56 = .ok (.ireturn, 1) := by decide +kernel
theorem dX11_frontAt_57 : decode cX11_frontAt 57 = .ok (.iload_n 2, 1) := by decide +kernel
theorem dX11_frontAt_58 : decode cX11_frontAt 58 = .ok (.aload_n 0, 1) := by decide +kernel
theorem dX11_frontAt_59 : decode cX11_frontAt 59 = .ok (.getfield 67, 3) := by decide +kernel
theorem dX11_frontAt_62 : decode cX11_frontAt 62 = .ok (.getfield 259, 3) := by decide +kernel
theorem dX11_frontAt_65 : decode cX11_frontAt 65 = .ok (.if_icmp .lt 5, 3) := by decide +kernel
theorem dX11_frontAt_68 : decode cX11_frontAt 68 = .ok (.iconst (-1), 1) := by decide +kernel
theorem dX11_frontAt_69 : decode cX11_frontAt 69 = .ok (.ireturn, 1) := by decide +kernel
theorem dX11_frontAt_70 : decode cX11_frontAt 70 = .ok (.aload_n 0, 1) := by decide +kernel
theorem dX11_frontAt_71 : decode cX11_frontAt 71 = .ok (.getfield 67, 3) := by decide +kernel
theorem dX11_frontAt_74 : decode cX11_frontAt 74 = .ok (.getfield 262, 3) := by decide +kernel
theorem dX11_frontAt_77 : decode cX11_frontAt 77 = .ok (.iload_n 2, 1) := by decide +kernel
theorem dX11_frontAt_78 : decode cX11_frontAt 78 = .ok (.iaload, 1) := by decide +kernel
theorem dX11_frontAt_79 : decode cX11_frontAt 79 = .ok (.istore 5, 2) := by decide +kernel
theorem dX11_frontAt_81 : decode cX11_frontAt 81 = .ok (.aload_n 0, 1) := by decide +kernel
theorem dX11_frontAt_82 : decode cX11_frontAt 82 = .ok (.getfield 67, 3) := by decide +kernel
theorem dX11_frontAt_85 : decode cX11_frontAt 85 = .ok (.getfield 265, 3) := by decide +kernel
theorem dX11_frontAt_88 : decode cX11_frontAt 88 = .ok (.istore 6, 2) := by decide +kernel
theorem dX11_frontAt_90 : decode cX11_frontAt 90 = .ok (.aload_n 0, 1) := by decide +kernel
theorem dX11_frontAt_91 : decode cX11_frontAt 91 = .ok (.getfield 51, 3) := by decide +kernel
theorem dX11_frontAt_94 : decode cX11_frontAt 94 = .ok (.aload_n 0, 1) := by decide +kernel
theorem dX11_frontAt_95 : decode cX11_frontAt 95 = .ok (.getfield 67, 3) := by decide +kernel
theorem dX11_frontAt_98 : decode cX11_frontAt 98 = .ok (.getfield 268, 3) := by decide +kernel
theorem dX11_frontAt_101 : decode cX11_frontAt 101 = .ok (.iload 5, 2) := by decide +kernel
theorem dX11_frontAt_103 : decode cX11_frontAt 103 = .ok (.iload 6, 2) := by decide +kernel
theorem dX11_frontAt_105 : decode cX11_frontAt 105 = .ok (.imul, 1) := by decide +kernel
theorem dX11_frontAt_106 : decode cX11_frontAt 106 = .ok (.iload 6, 2) := by decide +kernel
theorem dX11_frontAt_108 : decode cX11_frontAt 108 = .ok (.aload_n 0, 1) := by decide +kernel
theorem dX11_frontAt_109 : decode cX11_frontAt 109 = .ok (.getfield 67, 3) := by decide +kernel
theorem dX11_frontAt_112 : decode cX11_frontAt 112 = .ok (.getfield 271, 3) := by decide +kernel
theorem dX11_frontAt_115 : decode cX11_frontAt 115 = .ok (.invokevirtual 215, 3) := by decide +kernel
theorem dX11_frontAt_118 : decode cX11_frontAt 118 = .ok (.iload_n 3, 1) := by decide +kernel
theorem dX11_frontAt_119 : decode cX11_frontAt 119 = .ok (.ifCond .ne 8, 3) := by decide +kernel
theorem dX11_frontAt_122 : decode cX11_frontAt 122 = .ok (.iload 5, 2) := by decide +kernel
theorem dX11_frontAt_124 : decode cX11_frontAt 124 = .ok (.goto 13, 3) := by decide +kernel
theorem dX11_frontAt_127 : decode cX11_frontAt 127 = .ok (.aload_n 0, 1) := by decide +kernel
theorem dX11_frontAt_128 : decode cX11_frontAt 128 = .ok (.getfield 67, 3) := by decide +kernel
theorem dX11_frontAt_131 : decode cX11_frontAt 131 = .ok (.getfield 274, 3) := by decide +kernel
theorem dX11_frontAt_134 : decode cX11_frontAt 134 = .ok (.iload 5, 2) := by decide +kernel
theorem dX11_frontAt_136 : decode cX11_frontAt 136 = .ok (.iaload, 1) := by decide +kernel
theorem dX11_frontAt_137 : decode cX11_frontAt 137 = .ok (.ireturn, 1) := by decide +kernel
theorem dX11_patrol_0 : decode cX11_patrol 0 = .ok (.aload_n 0, 1) := by decide +kernel
theorem dX11_patrol_1 : decode cX11_patrol 1 = .ok (.getfield 76, 3) := by decide +kernel
theorem dX11_patrol_4 : decode cX11_patrol 4 = .ok (.invokevirtual 277, 3) := by decide +kernel
theorem dX11_patrol_7 : decode cX11_patrol 7 = .ok (.ifCond .eq 15, 3) := by decide +kernel
theorem dX11_patrol_10 : decode cX11_patrol 10 = .ok (.aload_n 0, 1) := by decide +kernel
theorem dX11_patrol_11 : decode cX11_patrol 11 = .ok (.getfield 76, 3) := by decide +kernel
theorem dX11_patrol_14 : decode cX11_patrol 14 = .ok (.getfield 279, 3) := by decide +kernel
theorem dX11_patrol_17 : decode cX11_patrol 17 = .ok (.iconst 1, 1) := by decide +kernel
theorem dX11_patrol_18 : decode cX11_patrol 18 = .ok (.isub, 1) := by decide +kernel
theorem dX11_patrol_19 : decode cX11_patrol 19 = .ok (.goto 5, 3) := by decide +kernel
theorem dX11_patrol_22 : decode cX11_patrol 22 = .ok (.bipush (-4), 2) := by decide +kernel
theorem dX11_patrol_24 : decode cX11_patrol 24 = .ok (.ireturn, 1) := by decide +kernel
theorem dX11_catches_0 : decode cX11_catches 0 = .ok (.iload_n 1, 1) := by decide +kernel
theorem dX11_catches_1 : decode cX11_catches 1 = .ok (.iconst 0, 1) := by decide +kernel
theorem dX11_catches_2 : decode cX11_catches 2 = .ok (.aload_n 0, 1) := by decide +kernel
theorem dX11_catches_3 : decode cX11_catches 3 = .ok (.getfield 76, 3) := by decide +kernel
theorem dX11_catches_6 : decode cX11_catches 6 = .ok (.getfield 279, 3) := by decide +kernel
theorem dX11_catches_9 : decode cX11_catches 9 = .ok (.iconst 1, 1) := by decide +kernel
theorem dX11_catches_10 : decode cX11_catches 10 = .ok (.isub, 1) := by decide +kernel
theorem dX11_catches_11 : decode cX11_catches 11 = .ok (.invokestatic 102, 3) := by decide +kernel
theorem dX11_catches_14 : decode cX11_catches 14 = .ok (.ifCond .ne 21, 3) := by decide +kernel
theorem dX11_catches_17 : decode cX11_catches 17 = .ok (.iload_n 2, 1) := by decide +kernel
theorem dX11_catches_18 : decode cX11_catches 18 = .ok (.invokestatic 98, 3) := by decide +kernel
theorem dX11_catches_21 : decode cX11_catches 21 = .ok (.ifCond .ne 14, 3) := by decide +kernel
theorem dX11_catches_24 : decode cX11_catches 24 = .ok (.iload_n 3, 1) := by decide +kernel
theorem dX11_catches_25 : decode cX11_catches 25 = .ok (.iconst 0, 1) := by decide +kernel
theorem dX11_catches_26 : decode cX11_catches 26 = .ok (.sipush 1000, 3) := by decide +kernel
theorem dX11_catches_29 : decode cX11_catches 29 = .ok (.invokestatic 102, 3) := by decide +kernel
theorem dX11_catches_32 : decode cX11_catches 32 = .ok (.ifCond .eq 6, 3) := by decide +kernel
theorem dX11_catches_35 : decode cX11_catches 35 = .ok (.bipush (-2), 2) := by decide +kernel
theorem dX11_catches_37 : decode cX11_catches 37 = .ok (.ireturn, 1) := by decide +kernel
theorem dX11_catches_38 : decode cX11_catches 38 = .ok (.aload_n 0, 1) := by decide +kernel
theorem dX11_catches_39 : decode cX11_catches 39 = .ok (.getfield 76, 3) := by decide +kernel
theorem dX11_catches_42 : decode cX11_catches 42 = .ok (.iload_n 1, 1) := by decide +kernel
theorem dX11_catches_43 : decode cX11_catches 43 = .ok (.iload_n 2, 1) := by decide +kernel
theorem dX11_catches_44 : decode cX11_catches 44 = .ok (.invokevirtual 280, 3) := by decide +kernel
theorem dX11_catches_47 : decode cX11_catches 47 = .ok (.istore 4, 2) := by decide +kernel
theorem dX11_catches_49 : decode cX11_catches 49 = .ok (.aload_n 0, 1) := by decide +kernel
theorem dX11_catches_50 : decode cX11_catches 50 = .ok (.getfield 76, 3) := by decide +kernel
theorem dX11_catches_53 : decode cX11_catches 53 = .ok (.iload_n 1, 1) := by decide +kernel
theorem dX11_catches_54 : decode cX11_catches 54 = .ok (.iload_n 2, 1) := by decide +kernel
theorem dX11_catches_55 : decode cX11_catches 55 = .ok (.iload_n 3, 1) := by decide +kernel
theorem dX11_catches_56 : decode cX11_catches 56 = .ok (.invokevirtual 283, 3) := by decide +kernel
theorem dX11_catches_59 : decode cX11_catches 59 = .ok (.iload 4, 2) := by decide +kernel
theorem dX11_catches_61 : decode cX11_catches 61 = .ok (.ireturn, 1) := by decide +kernel
theorem dX11_game_0 : decode cX11_game 0 = .ok (.iload_n 1, 1) := by decide +kernel
theorem dX11_game_1 : decode cX11_game 1 = .ok (.invokestatic 124, 3) := by decide +kernel
theorem dX11_game_4 : decode cX11_game 4 = .ok (.ifCond .eq 6, 3) := by decide +kernel
theorem dX11_game_7 : decode cX11_game 7 = .ok (.bipush (-2), 2) := by decide +kernel
theorem dX11_game_9 : decode cX11_game 9 = .ok (.ireturn, 1) := by decide +kernel
theorem dX11_game_10 : decode cX11_game 10 = .ok (.aload_n 0, 1) := by decide +kernel
theorem dX11_game_11 : decode cX11_game 11 = .ok (.getfield 19, 3) := by decide +kernel
theorem dX11_game_14 : decode cX11_game 14 = .ok (.getfield 134, 3) := by decide +kernel
theorem dX11_game_17 : decode cX11_game 17 = .ok (.iload_n 1, 1) := by decide +kernel
theorem dX11_game_18 : decode cX11_game 18 = .ok (.iaload, 1) := by decide +kernel
theorem dX11_game_19 : decode cX11_game 19 = .ok (.istore_n 2, 1) := by decide +kernel
theorem dX11_game_20 : decode cX11_game 20 = .ok (.iload_n 2, 1) := by decide +kernel
theorem dX11_game_21 : decode cX11_game 21 = .ok (.ifCond .lt 13, 3) := by decide +kernel
theorem dX11_game_24 : decode cX11_game 24 = .ok (.aload_n 0, 1) := by decide +kernel
theorem dX11_game_25 : decode cX11_game 25 = .ok (.getfield 76, 3) := by decide +kernel
theorem dX11_game_28 : decode cX11_game 28 = .ok (.getfield 279, 3) := by decide +kernel
theorem dX11_game_31 : decode cX11_game 31 = .ok (.ifCond .ne 6, 3) := by decide +kernel
theorem dX11_game_34 : decode cX11_game 34 = .ok (.bipush (-3), 2) := by decide +kernel
theorem dX11_game_36 : decode cX11_game 36 = .ok (.ireturn, 1) := by decide +kernel
theorem dX11_game_37 : decode cX11_game 37 = .ok (.aload_n 0, 1) := by decide +kernel
theorem dX11_game_38 : decode cX11_game 38 = .ok (.getfield 44, 3) := by decide +kernel
theorem dX11_game_41 : decode cX11_game 41 = .ok (.iload_n 2, 1) := by decide +kernel
theorem dX11_game_42 : decode cX11_game 42 = .ok (.invokevirtual 167, 3) := by decide +kernel
theorem dX11_game_45 : decode cX11_game 45 = .ok (.ifCond .eq 15, 3) := by decide +kernel
theorem dX11_game_48 : decode cX11_game 48 = .ok (.aload_n 0, 1) := by decide +kernel
theorem dX11_game_49 : decode cX11_game 49 = .ok (.getfield 44, 3) := by decide +kernel
theorem dX11_game_52 : decode cX11_game 52 = .ok (.getfield 170, 3) := by decide +kernel
theorem dX11_game_55 : decode cX11_game 55 = .ok (.bipush 24, 2) := by decide +kernel
theorem dX11_game_57 : decode cX11_game 57 = .ok (.if_icmp .le 6, 3) := by decide +kernel
theorem dX11_game_60 : decode cX11_game 60 = .ok (.bipush (-5), 2) := by decide +kernel
theorem dX11_game_62 : decode cX11_game 62 = .ok (.ireturn, 1) := by decide +kernel
theorem dX11_game_63 : decode cX11_game 63 = .ok (.aload_n 0, 1) := by decide +kernel
theorem dX11_game_64 : decode cX11_game 64 = .ok (.getfield 76, 3) := by decide +kernel
theorem dX11_game_67 : decode cX11_game 67 = .ok (.invokevirtual 286, 3) := by decide +kernel
theorem dX11_game_70 : decode cX11_game 70 = .ok (.aload_n 0, 1) := by decide +kernel
theorem dX11_game_71 : decode cX11_game 71 = .ok (.getfield 51, 3) := by decide +kernel
theorem dX11_game_74 : decode cX11_game 74 = .ok (.aload_n 0, 1) := by decide +kernel
theorem dX11_game_75 : decode cX11_game 75 = .ok (.getfield 76, 3) := by decide +kernel
theorem dX11_game_78 : decode cX11_game 78 = .ok (.getfield 289, 3) := by decide +kernel
theorem dX11_game_81 : decode cX11_game 81 = .ok (.aload_n 0, 1) := by decide +kernel
theorem dX11_game_82 : decode cX11_game 82 = .ok (.getfield 76, 3) := by decide +kernel
theorem dX11_game_85 : decode cX11_game 85 = .ok (.getfield 293, 3) := by decide +kernel
theorem dX11_game_88 : decode cX11_game 88 = .ok (.invokevirtual 296, 3) := by decide +kernel
theorem dX11_game_91 : decode cX11_game 91 = .ok (.iconst 1, 1) := by decide +kernel
theorem dX11_game_92 : decode cX11_game 92 = .ok (.ireturn, 1) := by decide +kernel
theorem dX11_insider_0 : decode cX11_insider 0 = .ok (.iload_n 1, 1) := by decide +kernel
theorem dX11_insider_1 : decode cX11_insider 1 = .ok (.iconst 0, 1) := by decide +kernel
theorem dX11_insider_2 : decode cX11_insider 2 = .ok (.ldc 162, 2) := by decide +kernel
theorem dX11_insider_4 : decode cX11_insider 4 = .ok (.invokestatic 102, 3) := by decide +kernel
theorem dX11_insider_7 : decode cX11_insider 7 = .ok (.ifCond .eq 6, 3) := by decide +kernel
theorem dX11_insider_10 : decode cX11_insider 10 = .ok (.bipush (-2), 2) := by decide +kernel
theorem dX11_insider_12 : decode cX11_insider 12 = .ok (.ireturn, 1) := by decide +kernel
theorem dX11_insider_13 : decode cX11_insider 13 = .ok (.aload_n 0, 1) := by decide +kernel
theorem dX11_insider_14 : decode cX11_insider 14 = .ok (.getfield 44, 3) := by decide +kernel
theorem dX11_insider_17 : decode cX11_insider 17 = .ok (.iload_n 1, 1) := by decide +kernel
theorem dX11_insider_18 : decode cX11_insider 18 = .ok (.invokevirtual 300, 3) := by decide +kernel
theorem dX11_insider_21 : decode cX11_insider 21 = .ok (.ifCond .eq 15, 3) := by decide +kernel
theorem dX11_insider_24 : decode cX11_insider 24 = .ok (.aload_n 0, 1) := by decide +kernel
theorem dX11_insider_25 : decode cX11_insider 25 = .ok (.getfield 44, 3) := by decide +kernel
theorem dX11_insider_28 : decode cX11_insider 28 = .ok (.getfield 303, 3) := by decide +kernel
theorem dX11_insider_31 : decode cX11_insider 31 = .ok (.iconst 1, 1) := by decide +kernel
theorem dX11_insider_32 : decode cX11_insider 32 = .ok (.isub, 1) := by decide +kernel
theorem dX11_insider_33 : decode cX11_insider 33 = .ok (.goto 5, 3) := by decide +kernel
theorem dX11_insider_36 : decode cX11_insider 36 = .ok (.bipush (-4), 2) := by decide +kernel
theorem dX11_insider_38 : decode cX11_insider 38 = .ok (.ireturn, 1) := by decide +kernel
theorem dX11_worst_0 : decode cX11_worst 0 = .ok (.iload_n 1, 1) := by decide +kernel
theorem dX11_worst_1 : decode cX11_worst 1 = .ok (.invokestatic 124, 3) := by decide +kernel
theorem dX11_worst_4 : decode cX11_worst 4 = .ok (.ifCond .ne 27, 3) := by decide +kernel
theorem dX11_worst_7 : decode cX11_worst 7 = .ok (.iload_n 2, 1) := by decide +kernel
theorem dX11_worst_8 : decode cX11_worst 8 = .ok (.iconst 0, 1) := by decide +kernel
theorem dX11_worst_9 : decode cX11_worst 9 = .ok (.aload_n 0, 1) := by decide +kernel
theorem dX11_worst_10 : decode cX11_worst 10 = .ok (.getfield 44, 3) := by decide +kernel
theorem dX11_worst_13 : decode cX11_worst 13 = .ok (.getfield 303, 3) := by decide +kernel
theorem dX11_worst_16 : decode cX11_worst 16 = .ok (.invokestatic 102, 3) := by decide +kernel
theorem dX11_worst_19 : decode cX11_worst 19 = .ok (.ifCond .ne 12, 3) := by decide +kernel
theorem dX11_worst_22 : decode cX11_worst 22 = .ok (.iload_n 3, 1) := by decide +kernel
theorem dX11_worst_23 : decode cX11_worst 23 = .ok (.iconst 0, 1) := by decide +kernel
theorem dX11_worst_24 : decode cX11_worst 24 = .ok (.iconst 1, 1) := by decide +kernel
theorem dX11_worst_25 : decode cX11_worst 25 = .ok (.invokestatic 102, 3) := by decide +kernel
theorem dX11_worst_28 : decode cX11_worst 28 = .ok (.ifCond .eq 6, 3) := by decide +kernel
theorem dX11_worst_31 : decode cX11_worst 31 = .ok (.bipush (-2), 2) := by decide +kernel
theorem dX11_worst_33 : decode cX11_worst 33 = .ok (.ireturn, 1) := by decide +kernel
theorem dX11_worst_34 : decode cX11_worst 34 = .ok (.aload_n 0, 1) := by decide +kernel
theorem dX11_worst_35 : decode cX11_worst 35 = .ok (.getfield 19, 3) := by decide +kernel
theorem dX11_worst_38 : decode cX11_worst 38 = .ok (.getfield 134, 3) := by decide +kernel
theorem dX11_worst_41 : decode cX11_worst 41 = .ok (.iload_n 1, 1) := by decide +kernel
theorem dX11_worst_42 : decode cX11_worst 42 = .ok (.iaload, 1) := by decide +kernel
theorem dX11_worst_43 : decode cX11_worst 43 = .ok (.istore 4, 2) := by decide +kernel
theorem dX11_worst_45 : decode cX11_worst 45 = .ok (.iload 4, 2) := by decide +kernel
theorem dX11_worst_47 : decode cX11_worst 47 = .ok (.ifCond .ge 6, 3) := by decide +kernel
theorem dX11_worst_50 : decode cX11_worst 50 = .ok (.bipush (-3), 2) := by decide +kernel
theorem dX11_worst_52 : decode cX11_worst 52 = .ok (.ireturn, 1) := by decide +kernel
theorem dX11_worst_53 : decode cX11_worst 53 = .ok (.aload_n 0, 1) := by decide +kernel
theorem dX11_worst_54 : decode cX11_worst 54 = .ok (.getfield 44, 3) := by decide +kernel
theorem dX11_worst_57 : decode cX11_worst 57 = .ok (.iload 4, 2) := by decide +kernel
theorem dX11_worst_59 : decode cX11_worst 59 = .ok (.invokevirtual 167, 3) := by decide +kernel
theorem dX11_worst_62 : decode cX11_worst 62 = .ok (.ifCond .ne 6, 3) := by decide +kernel
theorem dX11_worst_65 : decode cX11_worst 65 = .ok (.bipush (-5), 2) := by decide +kernel
theorem dX11_worst_67 : decode cX11_worst 67 = .ok (.ireturn, 1) := by decide +kernel
theorem dX11_worst_68 : decode cX11_worst 68 = .ok (.aload_n 0, 1) := by decide +kernel
theorem dX11_worst_69 : decode cX11_worst 69 = .ok (.getfield 44, 3) := by decide +kernel
theorem dX11_worst_72 : decode cX11_worst 72 = .ok (.iload_n 2, 1) := by decide +kernel
theorem dX11_worst_73 : decode cX11_worst 73 = .ok (.invokevirtual 306, 3) := by decide +kernel
theorem dX11_worst_76 : decode cX11_worst 76 = .ok (.istore 5, 2) := by decide +kernel
theorem dX11_worst_78 : decode cX11_worst 78 = .ok (.iload_n 3, 1) := by decide +kernel
theorem dX11_worst_79 : decode cX11_worst 79 = .ok (.ifCond .ne 22, 3) := by decide +kernel
theorem dX11_worst_82 : decode cX11_worst 82 = .ok (.aload_n 0, 1) := by decide +kernel
theorem dX11_worst_83 : decode cX11_worst 83 = .ok (.getfield 44, 3) := by decide +kernel
theorem dX11_worst_86 : decode cX11_worst 86 = .ok (.aload_n 0, 1) := by decide +kernel
theorem dX11_worst_87 : decode cX11_worst 87 = .ok (.getfield 44, 3) := by decide +kernel
theorem dX11_worst_90 : decode cX11_worst 90 = .ok (.iload 5, 2) := by decide +kernel
theorem dX11_worst_92 : decode cX11_worst 92 = .ok (.invokevirtual 309, 3) := by decide +kernel
theorem dX11_worst_95 : decode cX11_worst 95 = .ok (.invokevirtual 312, 3) := by decide +kernel
theorem dX11_worst_98 : decode cX11_worst 98 = .ok (.goto 5, 3) := by decide +kernel
theorem dX11_worst_101 : decode cX11_worst 101 = .ok (.iload 5, 2) := by decide +kernel
theorem dX11_worst_103 : decode cX11_worst 103 = .ok (.ireturn, 1) := by decide +kernel
theorem dX11_may_0 : decode cX11_may 0 = .ok (.iload_n 1, 1) := by decide +kernel
theorem dX11_may_1 : decode cX11_may 1 = .ok (.invokestatic 124, 3) := by decide +kernel
theorem dX11_may_4 : decode cX11_may 4 = .ok (.ifCond .ne 11, 3) := by decide +kernel
theorem dX11_may_7 : decode cX11_may 7 = .ok (.iload_n 2, 1) := by decide +kernel
theorem dX11_may_8 : decode cX11_may 8 = .ok (.iload_n 3, 1) := by decide +kernel
theorem dX11_may_9 : decode cX11_may 9 = .ok (.invokestatic 315, 3) := by decide +kernel
theorem dX11_may_12 : decode cX11_may 12 = .ok (.ifCond .eq 6, 3) := by decide +kernel
theorem dX11_may_15 : decode cX11_may 15 = .ok (.bipush (-2), 2) := by decide +kernel
theorem dX11_may_17 : decode cX11_may 17 = .ok (.ireturn, 1) := by decide +kernel
theorem dX11_may_18 : decode cX11_may 18 = .ok (.aload_n 0, 1) := by decide +kernel
theorem dX11_may_19 : decode cX11_may 19 = .ok (.getfield 19, 3) := by decide +kernel
theorem dX11_may_22 : decode cX11_may 22 = .ok (.getfield 134, 3) := by decide +kernel
theorem dX11_may_25 : decode cX11_may 25 = .ok (.iload_n 1, 1) := by decide +kernel
theorem dX11_may_26 : decode cX11_may 26 = .ok (.iaload, 1) := by decide +kernel
theorem dX11_may_27 : decode cX11_may 27 = .ok (.istore 4, 2) := by decide +kernel
theorem dX11_may_29 : decode cX11_may 29 = .ok (.iload 4, 2) := by decide +kernel
theorem dX11_may_31 : decode cX11_may 31 = .ok (.ifCond .ge 6, 3) := by decide +kernel
theorem dX11_may_34 : decode cX11_may 34 = .ok (.bipush (-3), 2) := by decide +kernel
theorem dX11_may_36 : decode cX11_may 36 = .ok (.ireturn, 1) := by decide +kernel
theorem dX11_may_37 : decode cX11_may 37 = .ok (.aload_n 0, 1) := by decide +kernel
theorem dX11_may_38 : decode cX11_may 38 = .ok (.getfield 44, 3) := by decide +kernel
theorem dX11_may_41 : decode cX11_may 41 = .ok (.iload 4, 2) := by decide +kernel
theorem dX11_may_43 : decode cX11_may 43 = .ok (.invokevirtual 167, 3) := by decide +kernel
theorem dX11_may_46 : decode cX11_may 46 = .ok (.ifCond .eq 15, 3) := by decide +kernel
theorem dX11_may_49 : decode cX11_may 49 = .ok (.aload_n 0, 1) := by decide +kernel
theorem dX11_may_50 : decode cX11_may 50 = .ok (.getfield 44, 3) := by decide +kernel
theorem dX11_may_53 : decode cX11_may 53 = .ok (.iload_n 2, 1) := by decide +kernel
theorem dX11_may_54 : decode cX11_may 54 = .ok (.iload_n 3, 1) := by decide +kernel
theorem dX11_may_55 : decode cX11_may 55 = .ok (.invokevirtual 318, 3) := by decide +kernel
theorem dX11_may_58 : decode cX11_may 58 = .ok (.goto 5, 3) := by decide +kernel
theorem dX11_may_61 : decode cX11_may 61 = .ok (.bipush (-5), 2) := by decide +kernel
theorem dX11_may_63 : decode cX11_may 63 = .ok (.ireturn, 1) := by decide +kernel
theorem dX11_ask_0 : decode cX11_ask 0 = .ok (.iload_n 1, 1) := by decide +kernel
theorem dX11_ask_1 : decode cX11_ask 1 = .ok (.invokestatic 124, 3) := by decide +kernel
theorem dX11_ask_4 : decode cX11_ask 4 = .ok (.ifCond .ne 11, 3) := by decide +kernel
theorem dX11_ask_7 : decode cX11_ask 7 = .ok (.iload_n 2, 1) := by decide +kernel
theorem dX11_ask_8 : decode cX11_ask 8 = .ok (.iload_n 3, 1) := by decide +kernel
theorem dX11_ask_9 : decode cX11_ask 9 = .ok (.invokestatic 315, 3) := by decide +kernel
theorem dX11_ask_12 : decode cX11_ask 12 = .ok (.ifCond .eq 6, 3) := by decide +kernel
theorem dX11_ask_15 : decode cX11_ask 15 = .ok (.bipush (-2), 2) := by decide +kernel
theorem dX11_ask_17 : decode cX11_ask 17 = .ok (.ireturn, 1) := by decide +kernel
theorem dX11_ask_18 : decode cX11_ask 18 = .ok (.aload_n 0, 1) := by decide +kernel
theorem dX11_ask_19 : decode cX11_ask 19 = .ok (.getfield 19, 3) := by decide +kernel
theorem dX11_ask_22 : decode cX11_ask 22 = .ok (.getfield 134, 3) := by decide +kernel
theorem dX11_ask_25 : decode cX11_ask 25 = .ok (.iload_n 1, 1) := by decide +kernel
theorem dX11_ask_26 : decode cX11_ask 26 = .ok (.iaload, 1) := by decide +kernel
theorem dX11_ask_27 : decode cX11_ask 27 = .ok (.istore 4, 2) := by decide +kernel
theorem dX11_ask_29 : decode cX11_ask 29 = .ok (.iload 4, 2) := by decide +kernel
theorem dX11_ask_31 : decode cX11_ask 31 = .ok (.ifCond .ge 6, 3) := by decide +kernel
theorem dX11_ask_34 : decode cX11_ask 34 = .ok (.bipush (-3), 2) := by decide +kernel
theorem dX11_ask_36 : decode cX11_ask 36 = .ok (.ireturn, 1) := by decide +kernel
theorem dX11_ask_37 : decode cX11_ask 37 = .ok (.aload_n 0, 1) := by decide +kernel
theorem dX11_ask_38 : decode cX11_ask 38 = .ok (.getfield 44, 3) := by decide +kernel
theorem dX11_ask_41 : decode cX11_ask 41 = .ok (.iload 4, 2) := by decide +kernel
theorem dX11_ask_43 : decode cX11_ask 43 = .ok (.invokevirtual 167, 3) := by decide +kernel
theorem dX11_ask_46 : decode cX11_ask 46 = .ok (.ifCond .eq 15, 3) := by decide +kernel
theorem dX11_ask_49 : decode cX11_ask 49 = .ok (.aload_n 0, 1) := by decide +kernel
theorem dX11_ask_50 : decode cX11_ask 50 = .ok (.getfield 44, 3) := by decide +kernel
theorem dX11_ask_53 : decode cX11_ask 53 = .ok (.iload_n 2, 1) := by decide +kernel
theorem dX11_ask_54 : decode cX11_ask 54 = .ok (.iload_n 3, 1) := by decide +kernel
theorem dX11_ask_55 : decode cX11_ask 55 = .ok (.invokevirtual 321, 3) := by decide +kernel
theorem dX11_ask_58 : decode cX11_ask 58 = .ok (.goto 5, 3) := by decide +kernel
theorem dX11_ask_61 : decode cX11_ask 61 = .ok (.bipush (-5), 2) := by decide +kernel
theorem dX11_ask_63 : decode cX11_ask 63 = .ok (.ireturn, 1) := by decide +kernel
theorem dX11_event_0 : decode cX11_event 0 = .ok (.iload_n 1, 1) := by decide +kernel
theorem dX11_event_1 : decode cX11_event 1 = .ok (.invokestatic 98, 3) := by decide +kernel
theorem dX11_event_4 : decode cX11_event 4 = .ok (.ifCond .ne 20, 3) := by decide +kernel
theorem dX11_event_7 : decode cX11_event 7 = .ok (.iload_n 2, 1) := by decide +kernel
theorem dX11_event_8 : decode cX11_event 8 = .ok (.aload_n 0, 1) := by decide +kernel
theorem dX11_event_9 : decode cX11_event 9 = .ok (.getfield 85, 3) := by decide +kernel
theorem dX11_event_12 : decode cX11_event 12 = .ok (.invokevirtual 324, 3) := by decide +kernel
theorem dX11_event_15 : decode cX11_event 15 = .ok (.sipush 10000, 3) := by decide +kernel
theorem dX11_event_18 : decode cX11_event 18 = .ok (.invokestatic 102, 3) := by decide +kernel
theorem dX11_event_21 : decode cX11_event 21 = .ok (.ifCond .eq 6, 3) := by decide +kernel
theorem dX11_event_24 : decode cX11_event 24 = .ok (.bipush (-2), 2) := by decide +kernel
theorem dX11_event_26 : decode cX11_event 26 = .ok (.ireturn, 1) := by decide +kernel
theorem dX11_event_27 : decode cX11_event 27 = .ok (.aload_n 0, 1) := by decide +kernel
theorem dX11_event_28 : decode cX11_event 28 = .ok (.getfield 85, 3) := by decide +kernel
theorem dX11_event_31 : decode cX11_event 31 = .ok (.iload_n 1, 1) := by decide +kernel
theorem dX11_event_32 : decode cX11_event 32 = .ok (.iload_n 2, 1) := by decide +kernel
theorem dX11_event_33 : decode cX11_event 33 = .ok (.invokevirtual 327, 3) := by decide +kernel
theorem dX11_event_36 : decode cX11_event 36 = .ok (.ifCond .eq 13, 3) := by decide +kernel
theorem dX11_event_39 : decode cX11_event 39 = .ok (.aload_n 0, 1) := by decide +kernel
theorem dX11_event_40 : decode cX11_event 40 = .ok (.getfield 85, 3) := by decide +kernel
theorem dX11_event_43 : decode cX11_event 43 = .ok (.getfield 329, 3) := by decide +kernel
theorem dX11_event_46 : decode cX11_event 46 = .ok (.goto 5, 3) := by decide +kernel
theorem dX11_event_49 : decode cX11_event 49 = .ok (.bipush (-4), 2) := by decide +kernel
theorem dX11_event_51 : decode cX11_event 51 = .ok (.ireturn, 1) := by decide +kernel
theorem dX11_rest_0 : decode cX11_rest 0 = .ok (.aload_n 0, 1) := by decide +kernel
theorem dX11_rest_1 : decode cX11_rest 1 = .ok (.getfield 85, 3) := by decide +kernel
theorem dX11_rest_4 : decode cX11_rest 4 = .ok (.getfield 329, 3) := by decide +kernel
theorem dX11_rest_7 : decode cX11_rest 7 = .ok (.istore_n 1, 1) := by decide +kernel
theorem dX11_rest_8 : decode cX11_rest 8 = .ok (.aload_n 0, 1) := by decide +kernel
theorem dX11_rest_9 : decode cX11_rest 9 = .ok (.getfield 85, 3) := by decide +kernel
theorem dX11_rest_12 : decode cX11_rest 12 = .ok (.iconst 0, 1) := by decide +kernel
theorem dX11_rest_13 : decode cX11_rest 13 = .ok (.putfield 329, 3) := by decide +kernel
theorem dX11_rest_16 : decode cX11_rest 16 = .ok (.iload_n 1, 1) := by decide +kernel
theorem dX11_rest_17 : decode cX11_rest 17 = .ok (.ireturn, 1) := by decide +kernel
theorem dX11_soon_0 : decode cX11_soon 0 = .ok (.aload_n 0, 1) := by decide +kernel
theorem dX11_soon_1 : decode cX11_soon 1 = .ok (.getfield 85, 3) := by decide +kernel
theorem dX11_soon_4 : decode cX11_soon 4 = .ok (.invokevirtual 330, 3) := by decide +kernel
theorem dX11_soon_7 : decode cX11_soon 7 = .ok (.ireturn, 1) := by decide +kernel
theorem dX11_reached_0 : decode cX11_reached 0 = .ok (.iload_n 1, 1) := by decide +kernel
theorem dX11_reached_1 : decode cX11_reached 1 = .ok (.invokestatic 124, 3) := by decide +kernel
theorem dX11_reached_4 : decode cX11_reached 4 = .ok (.ifCond .ne 18, 3) := by decide +kernel
theorem dX11_reached_7 : decode cX11_reached 7 = .ok (.iload_n 2, 1) := by decide +kernel
theorem dX11_reached_8 : decode cX11_reached 8 = .ok (.iconst 0, 1) := by decide +kernel
theorem dX11_reached_9 : decode cX11_reached 9 = .ok (.aload_n 0, 1) := by decide +kernel
theorem dX11_reached_10 : decode cX11_reached 10 = .ok (.getfield 85, 3) := by decide +kernel
theorem dX11_reached_13 : decode cX11_reached 13 = .ok (.getfield 329, 3) := by decide +kernel
theorem dX11_reached_16 : decode cX11_reached 16 = .ok (.invokestatic 102, 3) := by decide +kernel
theorem dX11_reached_19 : decode cX11_reached 19 = .ok (.ifCond .eq 6, 3) := by decide +kernel
theorem dX11_reached_22 : decode cX11_reached 22 = .ok (.bipush (-2), 2) := by decide +kernel
theorem dX11_reached_24 : decode cX11_reached 24 = .ok (.ireturn, 1) := by decide +kernel
theorem dX11_reached_25 : decode cX11_reached 25 = .ok (.aload_n 0, 1) := by decide +kernel
theorem dX11_reached_26 : decode cX11_reached 26 = .ok (.getfield 19, 3) := by decide +kernel
theorem dX11_reached_29 : decode cX11_reached 29 = .ok (.getfield 134, 3) := by decide +kernel
theorem dX11_reached_32 : decode cX11_reached 32 = .ok (.iload_n 1, 1) := by decide +kernel
theorem dX11_reached_33 : decode cX11_reached 33 = .ok (.iaload, 1) := by decide +kernel
theorem dX11_reached_34 : decode cX11_reached 34 = .ok (.istore_n 3, 1) := by decide +kernel
theorem dX11_reached_35 : decode cX11_reached 35 = .ok (.iload_n 3, 1) := by decide +kernel
theorem dX11_reached_36 : decode cX11_reached 36 = .ok (.ifCond .ge 8, 3) := by decide +kernel
theorem dX11_reached_39 : decode cX11_reached 39 = .ok (.bipush (-3), 2) := by decide +kernel
theorem dX11_reached_41 : decode cX11_reached 41 = .ok (.goto 12, 3) := by decide +kernel
theorem dX11_reached_44 : decode cX11_reached 44 = .ok (.aload_n 0, 1) := by decide +kernel
theorem dX11_reached_45 : decode cX11_reached 45 = .ok (.getfield 85, 3) := by decide +kernel
theorem dX11_reached_48 : decode cX11_reached 48 = .ok (.iload_n 3, 1) := by decide +kernel
theorem dX11_reached_49 : decode cX11_reached 49 = .ok (.iload_n 2, 1) := by decide +kernel
theorem dX11_reached_50 : decode cX11_reached 50 = .ok (.invokevirtual 333, 3) := by decide +kernel
theorem dX11_reached_53 : decode cX11_reached 53 = .ok (.ireturn, 1) := by decide +kernel
theorem dX11_walk_0 : decode cX11_walk 0 = .ok (.iload_n 1, 1) := by decide +kernel
theorem dX11_walk_1 : decode cX11_walk 1 = .ok (.iconst 0, 1) := by decide +kernel
theorem dX11_walk_2 : decode cX11_walk 2 = .ok (.iconst 3, 1) := by decide +kernel
theorem dX11_walk_3 : decode cX11_walk 3 = .ok (.invokestatic 102, 3) := by decide +kernel
theorem dX11_walk_6 : decode cX11_walk 6 = .ok (.ifCond .ne 13, 3) := by decide +kernel
theorem dX11_walk_9 : decode cX11_walk 9 = .ok (.iload_n 2, 1) := by decide +kernel
theorem dX11_walk_10 : decode cX11_walk 10 = .ok (.iconst 0, 1) := by decide +kernel
theorem dX11_walk_11 : decode cX11_walk 11 = .ok (.bipush 7, 2) := by decide +kernel
theorem dX11_walk_13 : decode cX11_walk 13 = .ok (.invokestatic 102, 3) := by decide +kernel
theorem dX11_walk_16 : decode cX11_walk 16 = .ok (.ifCond .eq 6, 3) := by decide +kernel
theorem dX11_walk_19 : decode cX11_walk 19 = .ok (.bipush (-2), 2) := by decide +kernel
theorem dX11_walk_21 : decode cX11_walk 21 = .ok (.ireturn, 1) := by decide +kernel
theorem dX11_walk_22 : decode cX11_walk 22 = .ok (.aload_n 0, 1) := by decide +kernel
theorem dX11_walk_23 : decode cX11_walk 23 = .ok (.getfield 94, 3) := by decide +kernel
theorem dX11_walk_26 : decode cX11_walk 26 = .ok (.iload_n 1, 1) := by decide +kernel
theorem dX11_walk_27 : decode cX11_walk 27 = .ok (.iload_n 2, 1) := by decide +kernel
theorem dX11_walk_28 : decode cX11_walk 28 = .ok (.invokevirtual 336, 3) := by decide +kernel
theorem dX11_walk_31 : decode cX11_walk 31 = .ok (.ifCond .eq 15, 3) := by decide +kernel
theorem dX11_walk_34 : decode cX11_walk 34 = .ok (.aload_n 0, 1) := by decide +kernel
theorem dX11_walk_35 : decode cX11_walk 35 = .ok (.getfield 94, 3) := by decide +kernel
theorem dX11_walk_38 : decode cX11_walk 38 = .ok (.getfield 339, 3) := by decide +kernel
theorem dX11_walk_41 : decode cX11_walk 41 = .ok (.iload_n 1, 1) := by decide +kernel
theorem dX11_walk_42 : decode cX11_walk 42 = .ok (.iaload, 1) := by decide +kernel
theorem dX11_walk_43 : decode cX11_walk 43 = .ok (.goto 5, 3) := by decide +kernel
theorem dX11_walk_46 : decode cX11_walk 46 = .ok (.bipush (-4), 2) := by decide +kernel
theorem dX11_walk_48 : decode cX11_walk 48 = .ok (.ireturn, 1) := by decide +kernel
theorem dX11_home_0 : decode cX11_home 0 = .ok (.iload_n 1, 1) := by decide +kernel
theorem dX11_home_1 : decode cX11_home 1 = .ok (.iconst 0, 1) := by decide +kernel
theorem dX11_home_2 : decode cX11_home 2 = .ok (.iconst 3, 1) := by decide +kernel
theorem dX11_home_3 : decode cX11_home 3 = .ok (.invokestatic 102, 3) := by decide +kernel
theorem dX11_home_6 : decode cX11_home 6 = .ok (.ifCond .eq 6, 3) := by decide +kernel
theorem dX11_home_9 : decode cX11_home 9 = .ok (.bipush (-2), 2) := by decide +kernel
theorem dX11_home_11 : decode cX11_home 11 = .ok (.ireturn, 1) := by decide +kernel
theorem dX11_home_12 : decode cX11_home 12 = .ok (.aload_n 0, 1) := by decide +kernel
theorem dX11_home_13 : decode cX11_home 13 = .ok (.getfield 94, 3) := by decide +kernel
theorem dX11_home_16 : decode cX11_home 16 = .ok (.getfield 339, 3) := by decide +kernel
theorem dX11_home_19 : decode cX11_home 19 = .ok (.iload_n 1, 1) := by decide +kernel
theorem dX11_home_20 : decode cX11_home 20 = .ok (.iaload, 1) := by decide +kernel
theorem dX11_home_21 : decode cX11_home 21 = .ok (.istore_n 2, 1) := by decide +kernel
theorem dX11_home_22 : decode cX11_home 22 = .ok (.aload_n 0, 1) := by decide +kernel
theorem dX11_home_23 : decode cX11_home 23 = .ok (.getfield 94, 3) := by decide +kernel
theorem dX11_home_26 : decode cX11_home 26 = .ok (.getfield 339, 3) := by decide +kernel
theorem dX11_home_29 : decode cX11_home 29 = .ok (.iload_n 1, 1) := by decide +kernel
theorem dX11_home_30 : decode cX11_home 30 = .ok (.iconst 0, 1) := by decide +kernel
theorem dX11_home_31 : decode cX11_home 31 = .ok (.iastore, 1) := by decide +kernel
theorem dX11_home_32 : decode cX11_home 32 = .ok (.iload_n 2, 1) := by decide +kernel
theorem dX11_home_33 : decode cX11_home 33 = .ok (.ireturn, 1) := by decide +kernel
theorem dX11_stands_0 : decode cX11_stands 0 = .ok (.iload_n 1, 1) := by decide +kernel
theorem dX11_stands_1 : decode cX11_stands 1 = .ok (.iconst 0, 1) := by decide +kernel
theorem dX11_stands_2 : decode cX11_stands 2 = .ok (.bipush 7, 2) := by decide +kernel
theorem dX11_stands_4 : decode cX11_stands 4 = .ok (.invokestatic 102, 3) := by decide +kernel
theorem dX11_stands_7 : decode cX11_stands 7 = .ok (.ifCond .ne 14, 3) := by decide +kernel
theorem dX11_stands_10 : decode cX11_stands 10 = .ok (.iload_n 2, 1) := by decide +kernel
theorem dX11_stands_11 : decode cX11_stands 11 = .ok (.iconst 0, 1) := by decide +kernel
theorem dX11_stands_12 : decode cX11_stands 12 = .ok (.sipush 10000, 3) := by decide +kernel
theorem dX11_stands_15 : decode cX11_stands 15 = .ok (.invokestatic 102, 3) := by decide +kernel
theorem dX11_stands_18 : decode cX11_stands 18 = .ok (.ifCond .eq 6, 3) := by decide +kernel
theorem dX11_stands_21 : decode cX11_stands 21 = .ok (.bipush (-2), 2) := by decide +kernel
theorem dX11_stands_23 : decode cX11_stands 23 = .ok (.ireturn, 1) := by decide +kernel
theorem dX11_stands_24 : decode cX11_stands 24 = .ok (.aload_n 0, 1) := by decide +kernel
theorem dX11_stands_25 : decode cX11_stands 25 = .ok (.getfield 94, 3) := by decide +kernel
theorem dX11_stands_28 : decode cX11_stands 28 = .ok (.iload_n 1, 1) := by decide +kernel
theorem dX11_stands_29 : decode cX11_stands 29 = .ok (.iload_n 2, 1) := by decide +kernel
theorem dX11_stands_30 : decode cX11_stands 30 = .ok (.invokevirtual 342, 3) := by decide +kernel
theorem dX11_stands_33 : decode cX11_stands 33 = .ok (.ireturn, 1) := by decide +kernel
theorem dX11_begins_0 : decode cX11_begins 0 = .ok (.iload_n 1, 1) := by decide +kernel
theorem dX11_begins_1 : decode cX11_begins 1 = .ok (.invokestatic 98, 3) := by decide +kernel
theorem dX11_begins_4 : decode cX11_begins 4 = .ok (.ifCond .ne 14, 3) := by decide +kernel
theorem dX11_begins_7 : decode cX11_begins 7 = .ok (.iload_n 2, 1) := by decide +kernel
theorem dX11_begins_8 : decode cX11_begins 8 = .ok (.iconst 0, 1) := by decide +kernel
theorem dX11_begins_9 : decode cX11_begins 9 = .ok (.sipush 600, 3) := by decide +kernel
theorem dX11_begins_12 : decode cX11_begins 12 = .ok (.invokestatic 102, 3) := by decide +kernel
theorem dX11_begins_15 : decode cX11_begins 15 = .ok (.ifCond .eq 6, 3) := by decide +kernel
theorem dX11_begins_18 : decode cX11_begins 18 = .ok (.bipush (-2), 2) := by decide +kernel
theorem dX11_begins_20 : decode cX11_begins 20 = .ok (.ireturn, 1) := by decide +kernel
theorem dX11_begins_21 : decode cX11_begins 21 = .ok (.aload_n 0, 1) := by decide +kernel
theorem dX11_begins_22 : decode cX11_begins 22 = .ok (.getfield 94, 3) := by decide +kernel
theorem dX11_begins_25 : decode cX11_begins 25 = .ok (.iload_n 1, 1) := by decide +kernel
theorem dX11_begins_26 : decode cX11_begins 26 = .ok (.iload_n 2, 1) := by decide +kernel
theorem dX11_begins_27 : decode cX11_begins 27 = .ok (.invokevirtual 345, 3) := by decide +kernel
theorem dX11_begins_30 : decode cX11_begins 30 = .ok (.ireturn, 1) := by decide +kernel
theorem dX11_end_0 : decode cX11_end 0 = .ok (.iload_n 1, 1) := by decide +kernel
theorem dX11_end_1 : decode cX11_end 1 = .ok (.iconst 0, 1) := by decide +kernel
theorem dX11_end_2 : decode cX11_end 2 = .ok (.ldc 162, 2) := by decide +kernel
theorem dX11_end_4 : decode cX11_end 4 = .ok (.invokestatic 102, 3) := by decide +kernel
theorem dX11_end_7 : decode cX11_end 7 = .ok (.ifCond .ne 14, 3) := by decide +kernel
theorem dX11_end_10 : decode cX11_end 10 = .ok (.iload_n 2, 1) := by decide +kernel
theorem dX11_end_11 : decode cX11_end 11 = .ok (.iconst 0, 1) := by decide +kernel
theorem dX11_end_12 : decode cX11_end 12 = .ok (.sipush 600, 3) := by decide +kernel
theorem dX11_end_15 : decode cX11_end 15 = .ok (.invokestatic 102, 3) := by decide +kernel
theorem dX11_end_18 : decode cX11_end 18 = .ok (.ifCond .eq 6, 3) := by decide +kernel
theorem dX11_end_21 : decode cX11_end 21 = .ok (.bipush (-2), 2) := by decide +kernel
theorem dX11_end_23 : decode cX11_end 23 = .ok (.ireturn, 1) := by decide +kernel
theorem dX11_end_24 : decode cX11_end 24 = .ok (.iload_n 1, 1) := by decide +kernel
theorem dX11_end_25 : decode cX11_end 25 = .ok (.invokestatic 229, 3) := by decide +kernel
theorem dX11_end_28 : decode cX11_end 28 = .ok (.bipush 7, 2) := by decide +kernel
theorem dX11_end_30 : decode cX11_end 30 = .ok (.if_icmp .le 6, 3) := by decide +kernel
theorem dX11_end_33 : decode cX11_end 33 = .ok (.bipush (-3), 2) := by decide +kernel
theorem dX11_end_35 : decode cX11_end 35 = .ok (.ireturn, 1) := by decide +kernel
theorem dX11_end_36 : decode cX11_end 36 = .ok (.aload_n 0, 1) := by decide +kernel
theorem dX11_end_37 : decode cX11_end 37 = .ok (.getfield 94, 3) := by decide +kernel
theorem dX11_end_40 : decode cX11_end 40 = .ok (.iload_n 1, 1) := by decide +kernel
theorem dX11_end_41 : decode cX11_end 41 = .ok (.iload_n 2, 1) := by decide +kernel
theorem dX11_end_42 : decode cX11_end 42 = .ok (.invokevirtual 348, 3) := by decide +kernel
theorem dX11_end_45 : decode cX11_end 45 = .ok (.ireturn, 1) := by decide +kernel
theorem dX11_orderAt_0 : decode cX11_orderAt 0 = .ok (.iload_n 1, 1) := by decide +kernel
theorem dX11_orderAt_1 : decode cX11_orderAt 1 = .ok (.iconst 0, 1) := by decide +kernel
theorem dX11_orderAt_2 : decode cX11_orderAt 2 = .ok (.ldc 162, 2) := by decide +kernel
theorem dX11_orderAt_4 : decode cX11_orderAt 4 = .ok (.invokestatic 102, 3) := by decide +kernel
theorem dX11_orderAt_7 : decode cX11_orderAt 7 = .ok (.ifCond .ne 18, 3) := by decide +kernel
theorem dX11_orderAt_10 : decode cX11_orderAt 10 = .ok (.iload_n 2, 1) := by decide +kernel
theorem dX11_orderAt_11 : decode cX11_orderAt 11 = .ok (.iconst 0, 1) := by decide +kernel
theorem dX11_orderAt_12 : decode cX11_orderAt 12 = .ok (.sipush 600, 3) := by decide +kernel
theorem dX11_orderAt_15 : decode cX11_orderAt 15 = .ok (.invokestatic 102, 3) := by decide +kernel
theorem dX11_orderAt_18 : decode cX11_orderAt 18 = .ok (.ifCond .ne 7, 3) := by decide +kernel
theorem dX11_orderAt_21 : decode cX11_orderAt 21 = .ok (.iload_n 3, 1) := by decide +kernel
theorem dX11_orderAt_22 : decode cX11_orderAt 22 = .ok (.ifCond .ge 6, 3) := by decide +kernel
theorem dX11_orderAt_25 : decode cX11_orderAt 25 = .ok (.bipush (-2), 2) := by decide +kernel
theorem dX11_orderAt_27 : decode cX11_orderAt 27 = .ok (.ireturn, 1) := by decide +kernel
theorem dX11_orderAt_28 : decode cX11_orderAt 28 = .ok (.iload_n 1, 1) := by decide +kernel
theorem dX11_orderAt_29 : decode cX11_orderAt 29 = .ok (.invokestatic 229, 3) := by decide +kernel
theorem dX11_orderAt_32 : decode cX11_orderAt 32 = .ok (.bipush 7, 2) := by decide +kernel
theorem dX11_orderAt_34 : decode cX11_orderAt 34 = .ok (.if_icmp .le 6, 3) := by decide +kernel
theorem dX11_orderAt_37 : decode cX11_orderAt 37 = .ok (.bipush (-3), 2) := by decide +kernel
theorem dX11_orderAt_39 : decode cX11_orderAt 39 = .ok (.ireturn, 1) := by decide +kernel
theorem dX11_orderAt_40 : decode cX11_orderAt 40 = .ok (.aload_n 0, 1) := by decide +kernel
theorem dX11_orderAt_41 : decode cX11_orderAt 41 = .ok (.getfield 94, 3) := by decide +kernel
theorem dX11_orderAt_44 : decode cX11_orderAt 44 = .ok (.iload_n 1, 1) := by decide +kernel
theorem dX11_orderAt_45 : decode cX11_orderAt 45 = .ok (.iload_n 2, 1) := by decide +kernel
theorem dX11_orderAt_46 : decode cX11_orderAt 46 = .ok (.iload_n 3, 1) := by decide +kernel
theorem dX11_orderAt_47 : decode cX11_orderAt 47 = .ok (.invokevirtual 351, 3) := by decide +kernel
theorem dX11_orderAt_50 : decode cX11_orderAt 50 = .ok (.ireturn, 1) := by decide +kernel
theorem dX11_image_0 : decode cX11_image 0 = .ok (.iload_n 1, 1) := by decide +kernel
theorem dX11_image_1 : decode cX11_image 1 = .ok (.iconst 0, 1) := by decide +kernel
theorem dX11_image_2 : decode cX11_image 2 = .ok (.iconst 1, 1) := by decide +kernel
theorem dX11_image_3 : decode cX11_image 3 = .ok (.invokestatic 102, 3) := by decide +kernel
theorem dX11_image_6 : decode cX11_image 6 = .ok (.ifCond .eq 6, 3) := by decide +kernel
theorem dX11_image_9 : decode cX11_image 9 = .ok (.bipush (-2), 2) := by decide +kernel
theorem dX11_image_11 : decode cX11_image 11 = .ok (.ireturn, 1) := by decide +kernel
theorem dX11_image_12 : decode cX11_image 12 = .ok (.aload_n 0, 1) := by decide +kernel
theorem dX11_image_13 : decode cX11_image 13 = .ok (.getfield 10, 3) := by decide +kernel
theorem dX11_image_16 : decode cX11_image 16 = .ok (.iload_n 1, 1) := by decide +kernel
theorem dX11_image_17 : decode cX11_image 17 = .ok (.invokevirtual 355, 3) := by decide +kernel
theorem dX11_image_20 : decode cX11_image 20 = .ok (.iconst 1, 1) := by decide +kernel
theorem dX11_image_21 : decode cX11_image 21 = .ok (.ireturn, 1) := by decide +kernel
theorem dX11_differ_0 : decode cX11_differ 0 = .ok (.iload_n 1, 1) := by decide +kernel
theorem dX11_differ_1 : decode cX11_differ 1 = .ok (.iconst 0, 1) := by decide +kernel
theorem dX11_differ_2 : decode cX11_differ 2 = .ok (.iconst 1, 1) := by decide +kernel
theorem dX11_differ_3 : decode cX11_differ 3 = .ok (.invokestatic 102, 3) := by decide +kernel
theorem dX11_differ_6 : decode cX11_differ 6 = .ok (.ifCond .eq 6, 3) := by decide +kernel
theorem dX11_differ_9 : decode cX11_differ 9 = .ok (.bipush (-2), 2) := by decide +kernel
theorem dX11_differ_11 : decode cX11_differ 11 = .ok (.ireturn, 1) := by decide +kernel
theorem dX11_differ_12 : decode cX11_differ 12 = .ok (.aload_n 0, 1) := by decide +kernel
theorem dX11_differ_13 : decode cX11_differ 13 = .ok (.getfield 10, 3) := by decide +kernel
theorem dX11_differ_16 : decode cX11_differ 16 = .ok (.getfield 358, 3) := by decide +kernel
theorem dX11_differ_19 : decode cX11_differ 19 = .ok (.iload_n 1, 1) := by decide +kernel
theorem dX11_differ_20 : decode cX11_differ 20 = .ok (.baload, 1) := by decide +kernel
theorem dX11_differ_21 : decode cX11_differ 21 = .ok (.ifCond .eq 14, 3) := by decide +kernel
theorem dX11_differ_24 : decode cX11_differ 24 = .ok (.aload_n 0, 1) := by decide +kernel
theorem dX11_differ_25 : decode cX11_differ 25 = .ok (.getfield 10, 3) := by decide +kernel
theorem dX11_differ_28 : decode cX11_differ 28 = .ok (.iload_n 1, 1) := by decide +kernel
theorem dX11_differ_29 : decode cX11_differ 29 = .ok (.invokevirtual 362, 3) := by decide +kernel
theorem dX11_differ_32 : decode cX11_differ 32 = .ok (.goto 5, 3) := by decide +kernel
theorem dX11_differ_35 : decode cX11_differ 35 = .ok (.bipush (-3), 2) := by decide +kernel
theorem dX11_differ_37 : decode cX11_differ 37 = .ok (.ireturn, 1) := by decide +kernel
theorem dX11_from_0 : decode cX11_from 0 = .ok (.iload_n 1, 1) := by decide +kernel
theorem dX11_from_1 : decode cX11_from 1 = .ok (.iconst 0, 1) := by decide +kernel
theorem dX11_from_2 : decode cX11_from 2 = .ok (.iconst 1, 1) := by decide +kernel
theorem dX11_from_3 : decode cX11_from 3 = .ok (.invokestatic 102, 3) := by decide +kernel
theorem dX11_from_6 : decode cX11_from 6 = .ok (.ifCond .eq 6, 3) := by decide +kernel
theorem dX11_from_9 : decode cX11_from 9 = .ok (.bipush (-2), 2) := by decide +kernel
theorem dX11_from_11 : decode cX11_from 11 = .ok (.ireturn, 1) := by decide +kernel
theorem dX11_from_12 : decode cX11_from 12 = .ok (.aload_n 0, 1) := by decide +kernel
theorem dX11_from_13 : decode cX11_from 13 = .ok (.getfield 10, 3) := by decide +kernel
theorem dX11_from_16 : decode cX11_from 16 = .ok (.getfield 358, 3) := by decide +kernel
theorem dX11_from_19 : decode cX11_from 19 = .ok (.iload_n 1, 1) := by decide +kernel
theorem dX11_from_20 : decode cX11_from 20 = .ok (.baload, 1) := by decide +kernel
theorem dX11_from_21 : decode cX11_from 21 = .ok (.ifCond .ne 6, 3) := by decide +kernel
theorem dX11_from_24 : decode cX11_from 24 = .ok (.bipush (-3), 2) := by decide +kernel
theorem dX11_from_26 : decode cX11_from 26 = .ok (.ireturn, 1) := by decide +kernel
theorem dX11_from_27 : decode cX11_from 27 = .ok (.aload_n 0, 1) := by decide +kernel
theorem dX11_from_28 : decode cX11_from 28 = .ok (.getfield 10, 3) := by decide +kernel
theorem dX11_from_31 : decode cX11_from 31 = .ok (.iload_n 1, 1) := by decide +kernel
theorem dX11_from_32 : decode cX11_from 32 = .ok (.invokevirtual 365, 3) := by decide +kernel
theorem dX11_from_35 : decode cX11_from 35 = .ok (.aload_n 0, 1) := by decide +kernel
theorem dX11_from_36 : decode cX11_from 36 = .ok (.getfield 67, 3) := by decide +kernel
theorem dX11_from_39 : decode cX11_from 39 = .ok (.invokevirtual 110, 3) := by decide +kernel
theorem dX11_from_42 : decode cX11_from 42 = .ok (.iconst 1, 1) := by decide +kernel
theorem dX11_from_43 : decode cX11_from 43 = .ok (.ireturn, 1) := by decide +kernel
theorem dX11_count_0 : decode cX11_count 0 = .ok (.iload_n 1, 1) := by decide +kernel
theorem dX11_count_1 : decode cX11_count 1 = .ok (.tableswitch 99 0 6 #[43, 51, 59, 67, 75, 83, 91], 43) := by decide +kernel
theorem dX11_count_44 : decode cX11_count 44 = .ok (.aload_n 0, 1) := by decide +kernel
theorem dX11_count_45 : decode cX11_count 45 = .ok (.getfield 19, 3) := by decide +kernel
theorem dX11_count_48 : decode cX11_count 48 = .ok (.getfield 120, 3) := by decide +kernel
theorem dX11_count_51 : decode cX11_count 51 = .ok (.ireturn, 1) := by decide +kernel
theorem dX11_count_52 : decode cX11_count 52 = .ok (.aload_n 0, 1) := by decide +kernel
theorem dX11_count_53 : decode cX11_count 53 = .ok (.getfield 19, 3) := by decide +kernel
theorem dX11_count_56 : decode cX11_count 56 = .ok (.getfield 138, 3) := by decide +kernel
theorem dX11_count_59 : decode cX11_count 59 = .ok (.ireturn, 1) := by decide +kernel
theorem dX11_count_60 : decode cX11_count 60 = .ok (.aload_n 0, 1) := by decide +kernel
theorem dX11_count_61 : decode cX11_count 61 = .ok (.getfield 19, 3) := by decide +kernel
theorem dX11_count_64 : decode cX11_count 64 = .ok (.invokevirtual 368, 3) := by decide +kernel
theorem dX11_count_67 : decode cX11_count 67 = .ok (.ireturn, 1) := by decide +kernel
theorem dX11_count_68 : decode cX11_count 68 = .ok (.aload_n 0, 1) := by decide +kernel
theorem dX11_count_69 : decode cX11_count 69 = .ok (.getfield 67, 3) := by decide +kernel
theorem dX11_count_72 : decode cX11_count 72 = .ok (.getfield 249, 3) := by decide +kernel
theorem dX11_count_75 : decode cX11_count 75 = .ok (.ireturn, 1) := by decide +kernel
theorem dX11_count_76 : decode cX11_count 76 = .ok (.aload_n 0, 1) := by decide +kernel
theorem dX11_count_77 : decode cX11_count 77 = .ok (.getfield 76, 3) := by decide +kernel
theorem dX11_count_80 : decode cX11_count 80 = .ok (.getfield 279, 3) := by decide +kernel
theorem dX11_count_83 : decode cX11_count 83 = .ok (.ireturn, 1) := by decide +kernel
theorem dX11_count_84 : decode cX11_count 84 = .ok (.aload_n 0, 1) := by decide +kernel
theorem dX11_count_85 : decode cX11_count 85 = .ok (.getfield 44, 3) := by decide +kernel
theorem dX11_count_88 : decode cX11_count 88 = .ok (.getfield 303, 3) := by decide +kernel
theorem dX11_count_91 : decode cX11_count 91 = .ok (.ireturn, 1) := by decide +kernel
theorem dX11_count_92 : decode cX11_count 92 = .ok (.aload_n 0, 1) := by decide +kernel
theorem dX11_count_93 : decode cX11_count 93 = .ok (.getfield 85, 3) := by decide +kernel
theorem dX11_count_96 : decode cX11_count 96 = .ok (.getfield 329, 3) := by decide +kernel
theorem dX11_count_99 : decode cX11_count 99 = .ok (.ireturn, 1) := by decide +kernel
theorem dX11_count_100 : decode cX11_count 100 = .ok (.bipush (-2), 2) := by decide +kernel
theorem dX11_count_102 : decode cX11_count 102 = .ok (.ireturn, 1) := by decide +kernel
theorem dX11_digest_0 : decode cX11_digest 0 = .ok (.ldc2_w 371, 3) := by decide +kernel
theorem dX11_digest_3 : decode cX11_digest 3 = .ok (.lstore_n 1, 1) := by decide +kernel
theorem dX11_digest_4 : decode cX11_digest 4 = .ok (.iconst 0, 1) := by decide +kernel
theorem dX11_digest_5 : decode cX11_digest 5 = .ok (.istore_n 3, 1) := by decide +kernel
theorem dX11_digest_6 : decode cX11_digest 6 = .ok (.iload_n 3, 1) := by decide +kernel
theorem dX11_digest_7 : decode cX11_digest 7 = .ok (.bipush 6, 2) := by decide +kernel
theorem dX11_digest_9 : decode cX11_digest 9 = .ok (.if_icmp .gt 22, 3) := by decide +kernel
theorem dX11_digest_12 : decode cX11_digest 12 = .ok (.ldc2_w 373, 3) := by decide +kernel
theorem dX11_digest_15 : decode cX11_digest 15 = .ok (.lload_n 1, 1) := by decide +kernel
theorem dX11_digest_16 : decode cX11_digest 16 = .ok (.lmul, 1) := by decide +kernel
theorem dX11_digest_17 : decode cX11_digest 17 = .ok (.aload_n 0, 1) := by decide +kernel
theorem dX11_digest_18 : decode cX11_digest 18 = .ok (.iload_n 3, 1) := by decide +kernel
theorem dX11_digest_19 : decode cX11_digest 19 = .ok (.invokevirtual 375, 3) := by decide +kernel
theorem dX11_digest_22 : decode cX11_digest 22 = .ok (.i2l, 1) := by decide +kernel
theorem dX11_digest_23 : decode cX11_digest 23 = .ok (.ladd, 1) := by decide +kernel
theorem dX11_digest_24 : decode cX11_digest 24 = .ok (.lstore_n 1, 1) := by decide +kernel
theorem dX11_digest_25 : decode cX11_digest 25 = .ok (.iinc 3 1, 3) := by decide +kernel
theorem dX11_digest_28 : decode cX11_digest 28 = .ok (.goto (-22), 3) := by decide +kernel
theorem dX11_digest_31 : decode cX11_digest 31 = .ok (.aload_n 0, 1) := by decide +kernel
theorem dX11_digest_32 : decode cX11_digest 32 = .ok (.getfield 10, 3) := by decide +kernel
theorem dX11_digest_35 : decode cX11_digest 35 = .ok (.lload_n 1, 1) := by decide +kernel
theorem dX11_digest_36 : decode cX11_digest 36 = .ok (.invokevirtual 378, 3) := by decide +kernel
theorem dX11_digest_39 : decode cX11_digest 39 = .ok (.lstore_n 1, 1) := by decide +kernel
theorem dX11_digest_40 : decode cX11_digest 40 = .ok (.aload_n 0, 1) := by decide +kernel
theorem dX11_digest_41 : decode cX11_digest 41 = .ok (.getfield 19, 3) := by decide +kernel
theorem dX11_digest_44 : decode cX11_digest 44 = .ok (.lload_n 1, 1) := by decide +kernel
theorem dX11_digest_45 : decode cX11_digest 45 = .ok (.invokevirtual 382, 3) := by decide +kernel
theorem dX11_digest_48 : decode cX11_digest 48 = .ok (.lstore_n 1, 1) := by decide +kernel
theorem dX11_digest_49 : decode cX11_digest 49 = .ok (.aload_n 0, 1) := by decide +kernel
theorem dX11_digest_50 : decode cX11_digest 50 = .ok (.getfield 67, 3) := by decide +kernel
theorem dX11_digest_53 : decode cX11_digest 53 = .ok (.lload_n 1, 1) := by decide +kernel
theorem dX11_digest_54 : decode cX11_digest 54 = .ok (.invokevirtual 383, 3) := by decide +kernel
theorem dX11_digest_57 : decode cX11_digest 57 = .ok (.lstore_n 1, 1) := by decide +kernel
theorem dX11_digest_58 : decode cX11_digest 58 = .ok (.aload_n 0, 1) := by decide +kernel
theorem dX11_digest_59 : decode cX11_digest 59 = .ok (.getfield 76, 3) := by decide +kernel
theorem dX11_digest_62 : decode cX11_digest 62 = .ok (.lload_n 1, 1) := by decide +kernel
theorem dX11_digest_63 : decode cX11_digest 63 = .ok (.invokevirtual 384, 3) := by decide +kernel
theorem dX11_digest_66 : decode cX11_digest 66 = .ok (.lstore_n 1, 1) := by decide +kernel
theorem dX11_digest_67 : decode cX11_digest 67 = .ok (.aload_n 0, 1) := by decide +kernel
theorem dX11_digest_68 : decode cX11_digest 68 = .ok (.getfield 44, 3) := by decide +kernel
theorem dX11_digest_71 : decode cX11_digest 71 = .ok (.lload_n 1, 1) := by decide +kernel
theorem dX11_digest_72 : decode cX11_digest 72 = .ok (.invokevirtual 385, 3) := by decide +kernel
theorem dX11_digest_75 : decode cX11_digest 75 = .ok (.lstore_n 1, 1) := by decide +kernel
theorem dX11_digest_76 : decode cX11_digest 76 = .ok (.aload_n 0, 1) := by decide +kernel
theorem dX11_digest_77 : decode cX11_digest 77 = .ok (.getfield 85, 3) := by decide +kernel
theorem dX11_digest_80 : decode cX11_digest 80 = .ok (.lload_n 1, 1) := by decide +kernel
theorem dX11_digest_81 : decode cX11_digest 81 = .ok (.invokevirtual 386, 3) := by decide +kernel
theorem dX11_digest_84 : decode cX11_digest 84 = .ok (.lstore_n 1, 1) := by decide +kernel
theorem dX11_digest_85 : decode cX11_digest 85 = .ok (.aload_n 0, 1) := by decide +kernel
theorem dX11_digest_86 : decode cX11_digest 86 = .ok (.getfield 94, 3) := by decide +kernel
theorem dX11_digest_89 : decode cX11_digest 89 = .ok (.lload_n 1, 1) := by decide +kernel
theorem dX11_digest_90 : decode cX11_digest 90 = .ok (.invokevirtual 387, 3) := by decide +kernel
theorem dX11_digest_93 : decode cX11_digest 93 = .ok (.lreturn, 1) := by decide +kernel
theorem dX11_outside_0 : decode cX11_outside 0 = .ok (.iload_n 0, 1) := by decide +kernel
theorem dX11_outside_1 : decode cX11_outside 1 = .ok (.iload_n 1, 1) := by decide +kernel
theorem dX11_outside_2 : decode cX11_outside 2 = .ok (.if_icmp .lt 8, 3) := by decide +kernel
theorem dX11_outside_5 : decode cX11_outside 5 = .ok (.iload_n 0, 1) := by decide +kernel
theorem dX11_outside_6 : decode cX11_outside 6 = .ok (.iload_n 2, 1) := by decide +kernel
theorem dX11_outside_7 : decode cX11_outside 7 = .ok (.if_icmp .le 7, 3) := by decide +kernel
theorem dX11_outside_10 : decode cX11_outside 10 = .ok (.iconst 1, 1) := by decide +kernel
theorem dX11_outside_11 : decode cX11_outside 11 = .ok (.goto 4, 3) := by decide +kernel
theorem dX11_outside_14 : decode cX11_outside 14 = .ok (.iconst 0, 1) := by decide +kernel
theorem dX11_outside_15 : decode cX11_outside 15 = .ok (.ireturn, 1) := by decide +kernel
theorem dX11_noStep_0 : decode cX11_noStep 0 = .ok (.iload_n 0, 1) := by decide +kernel
theorem dX11_noStep_1 : decode cX11_noStep 1 = .ok (.iconst 0, 1) := by decide +kernel
theorem dX11_noStep_2 : decode cX11_noStep 2 = .ok (.bipush 15, 2) := by decide +kernel
theorem dX11_noStep_4 : decode cX11_noStep 4 = .ok (.invokestatic 102, 3) := by decide +kernel
theorem dX11_noStep_7 : decode cX11_noStep 7 = .ok (.ireturn, 1) := by decide +kernel
theorem dX11_noNet_0 : decode cX11_noNet 0 = .ok (.iload_n 0, 1) := by decide +kernel
theorem dX11_noNet_1 : decode cX11_noNet 1 = .ok (.iconst 0, 1) := by decide +kernel
theorem dX11_noNet_2 : decode cX11_noNet 2 = .ok (.bipush 9, 2) := by decide +kernel
theorem dX11_noNet_4 : decode cX11_noNet 4 = .ok (.invokestatic 102, 3) := by decide +kernel
theorem dX11_noNet_7 : decode cX11_noNet 7 = .ok (.ireturn, 1) := by decide +kernel
theorem dX11_noMarks_0 : decode cX11_noMarks 0 = .ok (.iload_n 0, 1) := by decide +kernel
theorem dX11_noMarks_1 : decode cX11_noMarks 1 = .ok (.iconst 0, 1) := by decide +kernel
theorem dX11_noMarks_2 : decode cX11_noMarks 2 = .ok (.sipush 255, 3) := by decide +kernel
theorem dX11_noMarks_5 : decode cX11_noMarks 5 = .ok (.invokestatic 102, 3) := by decide +kernel
theorem dX11_noMarks_8 : decode cX11_noMarks 8 = .ok (.ifCond .ne 20, 3) := by decide +kernel
theorem dX11_noMarks_11 : decode cX11_noMarks 11 = .ok (.iload_n 1, 1) := by decide +kernel
theorem dX11_noMarks_12 : decode cX11_noMarks 12 = .ok (.iconst 0, 1) := by decide +kernel
theorem dX11_noMarks_13 : decode cX11_noMarks 13 = .ok (.sipush 255, 3) := by decide +kernel
theorem dX11_noMarks_16 : decode cX11_noMarks 16 = .ok (.invokestatic 102, 3) := by decide +kernel
theorem dX11_noMarks_19 : decode cX11_noMarks 19 = .ok (.ifCond .ne 9, 3) := by decide +kernel
theorem dX11_noMarks_22 : decode cX11_noMarks 22 = .ok (.iload_n 0, 1) := by decide +kernel
theorem dX11_noMarks_23 : decode cX11_noMarks 23 = .ok (.iload_n 1, 1) := by decide +kernel
theorem dX11_noMarks_24 : decode cX11_noMarks 24 = .ok (.iand, 1) := by decide +kernel
theorem dX11_noMarks_25 : decode cX11_noMarks 25 = .ok (.ifCond .eq 7, 3) := by decide +kernel
theorem dX11_noMarks_28 : decode cX11_noMarks 28 = .ok (.iconst 1, 1) := by decide +kernel
theorem dX11_noMarks_29 : decode cX11_noMarks 29 = .ok (.goto 4, 3) := by decide +kernel
theorem dX11_noMarks_32 : decode cX11_noMarks 32 = .ok (.iconst 0, 1) := by decide +kernel
theorem dX11_noMarks_33 : decode cX11_noMarks 33 = .ok (.ireturn, 1) := by decide +kernel
theorem dJ6_bitCount_0f7a4_0 : decode cJ6_bitCount_0f7a4 0 = .ok (.iload_n 0, 1) := by decide +kernel
theorem dJ6_bitCount_0f7a4_1 : decode cJ6_bitCount_0f7a4 1 = .ok (.iload_n 0, 1) := by decide +kernel
theorem dJ6_bitCount_0f7a4_2 : decode cJ6_bitCount_0f7a4 2 = .ok (.iconst 1, 1) := by decide +kernel
theorem dJ6_bitCount_0f7a4_3 : decode cJ6_bitCount_0f7a4 3 = .ok (.iushr, 1) := by decide +kernel
theorem dJ6_bitCount_0f7a4_4 : decode cJ6_bitCount_0f7a4 4 = .ok (.ldc_w 265, 3) := by decide +kernel
theorem dJ6_bitCount_0f7a4_7 : decode cJ6_bitCount_0f7a4 7 = .ok (.iand, 1) := by decide +kernel
theorem dJ6_bitCount_0f7a4_8 : decode cJ6_bitCount_0f7a4 8 = .ok (.isub, 1) := by decide +kernel
theorem dJ6_bitCount_0f7a4_9 : decode cJ6_bitCount_0f7a4 9 = .ok (.istore_n 0, 1) := by decide +kernel
theorem dJ6_bitCount_0f7a4_10 : decode cJ6_bitCount_0f7a4 10 = .ok (.iload_n 0, 1) := by decide +kernel
theorem dJ6_bitCount_0f7a4_11 : decode cJ6_bitCount_0f7a4 11 = .ok (.ldc_w 266, 3) := by decide +kernel
theorem dJ6_bitCount_0f7a4_14 : decode cJ6_bitCount_0f7a4 14 = .ok (.iand, 1) := by decide +kernel
theorem dJ6_bitCount_0f7a4_15 : decode cJ6_bitCount_0f7a4 15 = .ok (.iload_n 0, 1) := by decide +kernel
theorem dJ6_bitCount_0f7a4_16 : decode cJ6_bitCount_0f7a4 16 = .ok (.iconst 2, 1) := by decide +kernel
theorem dJ6_bitCount_0f7a4_17 : decode cJ6_bitCount_0f7a4 17 = .ok (.iushr, 1) := by decide +kernel
theorem dJ6_bitCount_0f7a4_18 : decode cJ6_bitCount_0f7a4 18 = .ok (.ldc_w 266, 3) := by decide +kernel
theorem dJ6_bitCount_0f7a4_21 : decode cJ6_bitCount_0f7a4 21 = .ok (.iand, 1) := by decide +kernel
theorem dJ6_bitCount_0f7a4_22 : decode cJ6_bitCount_0f7a4 22 = .ok (.iadd, 1) := by decide +kernel
theorem dJ6_bitCount_0f7a4_23 : decode cJ6_bitCount_0f7a4 23 = .ok (.istore_n 0, 1) := by decide +kernel
theorem dJ6_bitCount_0f7a4_24 : decode cJ6_bitCount_0f7a4 24 = .ok (.iload_n 0, 1) := by decide +kernel
theorem dJ6_bitCount_0f7a4_25 : decode cJ6_bitCount_0f7a4 25 = .ok (.iload_n 0, 1) := by decide +kernel
theorem dJ6_bitCount_0f7a4_26 : decode cJ6_bitCount_0f7a4 26 = .ok (.iconst 4, 1) := by decide +kernel
theorem dJ6_bitCount_0f7a4_27 : decode cJ6_bitCount_0f7a4 27 = .ok (.iushr, 1) := by decide +kernel
theorem dJ6_bitCount_0f7a4_28 : decode cJ6_bitCount_0f7a4 28 = .ok (.iadd, 1) := by decide +kernel
theorem dJ6_bitCount_0f7a4_29 : decode cJ6_bitCount_0f7a4 29 = .ok (.ldc_w 267, 3) := by decide +kernel
theorem dJ6_bitCount_0f7a4_32 : decode cJ6_bitCount_0f7a4 32 = .ok (.iand, 1) := by decide +kernel
theorem dJ6_bitCount_0f7a4_33 : decode cJ6_bitCount_0f7a4 33 = .ok (.istore_n 0, 1) := by decide +kernel
theorem dJ6_bitCount_0f7a4_34 : decode cJ6_bitCount_0f7a4 34 = .ok (.iload_n 0, 1) := by decide +kernel
theorem dJ6_bitCount_0f7a4_35 : decode cJ6_bitCount_0f7a4 35 = .ok (.iload_n 0, 1) := by decide +kernel
theorem dJ6_bitCount_0f7a4_36 : decode cJ6_bitCount_0f7a4 36 = .ok (.bipush 8, 2) := by decide +kernel
theorem dJ6_bitCount_0f7a4_38 : decode cJ6_bitCount_0f7a4 38 = .ok (.iushr, 1) := by decide +kernel
theorem dJ6_bitCount_0f7a4_39 : decode cJ6_bitCount_0f7a4 39 = .ok (.iadd, 1) := by decide +kernel
theorem dJ6_bitCount_0f7a4_40 : decode cJ6_bitCount_0f7a4 40 = .ok (.istore_n 0, 1) := by decide +kernel
theorem dJ6_bitCount_0f7a4_41 : decode cJ6_bitCount_0f7a4 41 = .ok (.iload_n 0, 1) := by decide +kernel
theorem dJ6_bitCount_0f7a4_42 : decode cJ6_bitCount_0f7a4 42 = .ok (.iload_n 0, 1) := by decide +kernel
theorem dJ6_bitCount_0f7a4_43 : decode cJ6_bitCount_0f7a4 43 = .ok (.bipush 16, 2) := by decide +kernel
theorem dJ6_bitCount_0f7a4_45 : decode cJ6_bitCount_0f7a4 45 = .ok (.iushr, 1) := by decide +kernel
theorem dJ6_bitCount_0f7a4_46 : decode cJ6_bitCount_0f7a4 46 = .ok (.iadd, 1) := by decide +kernel
theorem dJ6_bitCount_0f7a4_47 : decode cJ6_bitCount_0f7a4 47 = .ok (.istore_n 0, 1) := by decide +kernel
theorem dJ6_bitCount_0f7a4_48 : decode cJ6_bitCount_0f7a4 48 = .ok (.iload_n 0, 1) := by decide +kernel
theorem dJ6_bitCount_0f7a4_49 : decode cJ6_bitCount_0f7a4 49 = .ok (.bipush 63, 2) := by decide +kernel
theorem dJ6_bitCount_0f7a4_51 : decode cJ6_bitCount_0f7a4 51 = .ok (.iand, 1) := by decide +kernel
theorem dJ6_bitCount_0f7a4_52 : decode cJ6_bitCount_0f7a4 52 = .ok (.ireturn, 1) := by decide +kernel
theorem dJ13_bitCount_95d88_0 : decode cJ13_bitCount_95d88 0 = .ok (.lload_n 0, 1) := by decide +kernel
theorem dJ13_bitCount_95d88_1 : decode cJ13_bitCount_95d88 1 = .ok (.lload_n 0, 1) := by decide +kernel
theorem dJ13_bitCount_95d88_2 : decode cJ13_bitCount_95d88 2 = .ok (.iconst 1, 1) := by decide +kernel
theorem dJ13_bitCount_95d88_3 : decode cJ13_bitCount_95d88 3 = .ok (.lushr, 1) := by decide +kernel
theorem dJ13_bitCount_95d88_4 : decode cJ13_bitCount_95d88 4 = .ok (.ldc2_w 314, 3) := by decide +kernel
theorem dJ13_bitCount_95d88_7 : decode cJ13_bitCount_95d88 7 = .ok (.land, 1) := by decide +kernel
theorem dJ13_bitCount_95d88_8 : decode cJ13_bitCount_95d88 8 = .ok (.lsub, 1) := by decide +kernel
theorem dJ13_bitCount_95d88_9 : decode cJ13_bitCount_95d88 9 = .ok (.lstore_n 0, 1) := by decide +kernel
theorem dJ13_bitCount_95d88_10 : decode cJ13_bitCount_95d88 10 = .ok (.lload_n 0, 1) := by decide +kernel
theorem dJ13_bitCount_95d88_11 : decode cJ13_bitCount_95d88 11 = .ok (.ldc2_w 316, 3) := by decide +kernel
theorem dJ13_bitCount_95d88_14 : decode cJ13_bitCount_95d88 14 = .ok (.land, 1) := by decide +kernel
theorem dJ13_bitCount_95d88_15 : decode cJ13_bitCount_95d88 15 = .ok (.lload_n 0, 1) := by decide +kernel
theorem dJ13_bitCount_95d88_16 : decode cJ13_bitCount_95d88 16 = .ok (.iconst 2, 1) := by decide +kernel
theorem dJ13_bitCount_95d88_17 : decode cJ13_bitCount_95d88 17 = .ok (.lushr, 1) := by decide +kernel
theorem dJ13_bitCount_95d88_18 : decode cJ13_bitCount_95d88 18 = .ok (.ldc2_w 316, 3) := by decide +kernel
theorem dJ13_bitCount_95d88_21 : decode cJ13_bitCount_95d88 21 = .ok (.land, 1) := by decide +kernel
theorem dJ13_bitCount_95d88_22 : decode cJ13_bitCount_95d88 22 = .ok (.ladd, 1) := by decide +kernel
theorem dJ13_bitCount_95d88_23 : decode cJ13_bitCount_95d88 23 = .ok (.lstore_n 0, 1) := by decide +kernel
theorem dJ13_bitCount_95d88_24 : decode cJ13_bitCount_95d88 24 = .ok (.lload_n 0, 1) := by decide +kernel
theorem dJ13_bitCount_95d88_25 : decode cJ13_bitCount_95d88 25 = .ok (.lload_n 0, 1) := by decide +kernel
theorem dJ13_bitCount_95d88_26 : decode cJ13_bitCount_95d88 26 = .ok (.iconst 4, 1) := by decide +kernel
theorem dJ13_bitCount_95d88_27 : decode cJ13_bitCount_95d88 27 = .ok (.lushr, 1) := by decide +kernel
theorem dJ13_bitCount_95d88_28 : decode cJ13_bitCount_95d88 28 = .ok (.ladd, 1) := by decide +kernel
theorem dJ13_bitCount_95d88_29 : decode cJ13_bitCount_95d88 29 = .ok (.ldc2_w 318, 3) := by decide +kernel
theorem dJ13_bitCount_95d88_32 : decode cJ13_bitCount_95d88 32 = .ok (.land, 1) := by decide +kernel
theorem dJ13_bitCount_95d88_33 : decode cJ13_bitCount_95d88 33 = .ok (.lstore_n 0, 1) := by decide +kernel
theorem dJ13_bitCount_95d88_34 : decode cJ13_bitCount_95d88 34 = .ok (.lload_n 0, 1) := by decide +kernel
theorem dJ13_bitCount_95d88_35 : decode cJ13_bitCount_95d88 35 = .ok (.lload_n 0, 1) := by decide +kernel
theorem dJ13_bitCount_95d88_36 : decode cJ13_bitCount_95d88 36 = .ok (.bipush 8, 2) := by decide +kernel
theorem dJ13_bitCount_95d88_38 : decode cJ13_bitCount_95d88 38 = .ok (.lushr, 1) := by decide +kernel
theorem dJ13_bitCount_95d88_39 : decode cJ13_bitCount_95d88 39 = .ok (.ladd, 1) := by decide +kernel
theorem dJ13_bitCount_95d88_40 : decode cJ13_bitCount_95d88 40 = .ok (.lstore_n 0, 1) := by decide +kernel
theorem dJ13_bitCount_95d88_41 : decode cJ13_bitCount_95d88 41 = .ok (.lload_n 0, 1) := by decide +kernel
theorem dJ13_bitCount_95d88_42 : decode cJ13_bitCount_95d88 42 = .ok (.lload_n 0, 1) := by decide +kernel
theorem dJ13_bitCount_95d88_43 : decode cJ13_bitCount_95d88 43 = .ok (.bipush 16, 2) := by decide +kernel
theorem dJ13_bitCount_95d88_45 : decode cJ13_bitCount_95d88 45 = .ok (.lushr, 1) := by decide +kernel
theorem dJ13_bitCount_95d88_46 : decode cJ13_bitCount_95d88 46 = .ok (.ladd, 1) := by decide +kernel
theorem dJ13_bitCount_95d88_47 : decode cJ13_bitCount_95d88 47 = .ok (.lstore_n 0, 1) := by decide +kernel
theorem dJ13_bitCount_95d88_48 : decode cJ13_bitCount_95d88 48 = .ok (.lload_n 0, 1) := by decide +kernel
theorem dJ13_bitCount_95d88_49 : decode cJ13_bitCount_95d88 49 = .ok (.lload_n 0, 1) := by decide +kernel
theorem dJ13_bitCount_95d88_50 : decode cJ13_bitCount_95d88 50 = .ok (.bipush 32, 2) := by decide +kernel
theorem dJ13_bitCount_95d88_52 : decode cJ13_bitCount_95d88 52 = .ok (.lushr, 1) := by decide +kernel
theorem dJ13_bitCount_95d88_53 : decode cJ13_bitCount_95d88 53 = .ok (.ladd, 1) := by decide +kernel
theorem dJ13_bitCount_95d88_54 : decode cJ13_bitCount_95d88 54 = .ok (.lstore_n 0, 1) := by decide +kernel
theorem dJ13_bitCount_95d88_55 : decode cJ13_bitCount_95d88 55 = .ok (.lload_n 0, 1) := by decide +kernel
theorem dJ13_bitCount_95d88_56 : decode cJ13_bitCount_95d88 56 = .ok (.l2i, 1) := by decide +kernel
theorem dJ13_bitCount_95d88_57 : decode cJ13_bitCount_95d88 57 = .ok (.bipush 127, 2) := by decide +kernel
theorem dJ13_bitCount_95d88_59 : decode cJ13_bitCount_95d88 59 = .ok (.iand, 1) := by decide +kernel
theorem dJ13_bitCount_95d88_60 : decode cJ13_bitCount_95d88 60 = .ok (.ireturn, 1) := by decide +kernel
theorem dJ7_fill_d0a16_0 : decode cJ7_fill_d0a16 0 = .ok (.iconst 0, 1) := by decide +kernel
theorem dJ7_fill_d0a16_1 : decode cJ7_fill_d0a16 1 = .ok (.istore_n 3, 1) := by decide +kernel
theorem dJ7_fill_d0a16_2 : decode cJ7_fill_d0a16 2 = .ok (.aload_n 0, 1) := by decide +kernel
theorem dJ7_fill_d0a16_3 : decode cJ7_fill_d0a16 3 = .ok (.arraylength, 1) := by decide +kernel
theorem dJ7_fill_d0a16_4 : decode cJ7_fill_d0a16 4 = .ok (.istore 4, 2) := by decide +kernel
theorem dJ7_fill_d0a16_6 : decode cJ7_fill_d0a16 6 = .ok (.iload_n 3, 1) := by decide +kernel
theorem dJ7_fill_d0a16_7 : decode cJ7_fill_d0a16 7 = .ok (.iload 4, 2) := by decide +kernel
theorem dJ7_fill_d0a16_9 : decode cJ7_fill_d0a16 9 = .ok (.if_icmp .ge 13, 3) := by decide +kernel
theorem dJ7_fill_d0a16_12 : decode cJ7_fill_d0a16 12 = .ok (.aload_n 0, 1) := by decide +kernel
theorem dJ7_fill_d0a16_13 : decode cJ7_fill_d0a16 13 = .ok (.iload_n 3, 1) := by decide +kernel
theorem dJ7_fill_d0a16_14 : decode cJ7_fill_d0a16 14 = .ok (.lload_n 1, 1) := by decide +kernel
theorem dJ7_fill_d0a16_15 : decode cJ7_fill_d0a16 15 = .ok (.lastore, 1) := by decide +kernel
theorem dJ7_fill_d0a16_16 : decode cJ7_fill_d0a16 16 = .ok (.iinc 3 1, 3) := by decide +kernel
theorem dJ7_fill_d0a16_19 : decode cJ7_fill_d0a16 19 = .ok (.goto (-13), 3) := by decide +kernel
theorem dJ7_fill_d0a16_22 : decode cJ7_fill_d0a16 22 = .ok (.return_, 1) := by decide +kernel
theorem dJ7_fill_53178_0 : decode cJ7_fill_53178 0 = .ok (.iconst 0, 1) := by decide +kernel
theorem dJ7_fill_53178_1 : decode cJ7_fill_53178 1 = .ok (.istore_n 2, 1) := by decide +kernel
theorem dJ7_fill_53178_2 : decode cJ7_fill_53178 2 = .ok (.aload_n 0, 1) := by decide +kernel
theorem dJ7_fill_53178_3 : decode cJ7_fill_53178 3 = .ok (.arraylength, 1) := by decide +kernel
theorem dJ7_fill_53178_4 : decode cJ7_fill_53178 4 = .ok (.istore_n 3, 1) := by decide +kernel
theorem dJ7_fill_53178_5 : decode cJ7_fill_53178 5 = .ok (.iload_n 2, 1) := by decide +kernel
theorem dJ7_fill_53178_6 : decode cJ7_fill_53178 6 = .ok (.iload_n 3, 1) := by decide +kernel
theorem dJ7_fill_53178_7 : decode cJ7_fill_53178 7 = .ok (.if_icmp .ge 13, 3) := by decide +kernel
theorem dJ7_fill_53178_10 : decode cJ7_fill_53178 10 = .ok (.aload_n 0, 1) := by decide +kernel
theorem dJ7_fill_53178_11 : decode cJ7_fill_53178 11 = .ok (.iload_n 2, 1) := by decide +kernel
theorem dJ7_fill_53178_12 : decode cJ7_fill_53178 12 = .ok (.iload_n 1, 1) := by decide +kernel
theorem dJ7_fill_53178_13 : decode cJ7_fill_53178 13 = .ok (.iastore, 1) := by decide +kernel
theorem dJ7_fill_53178_14 : decode cJ7_fill_53178 14 = .ok (.iinc 2 1, 3) := by decide +kernel
theorem dJ7_fill_53178_17 : decode cJ7_fill_53178 17 = .ok (.goto (-12), 3) := by decide +kernel
theorem dJ7_fill_53178_20 : decode cJ7_fill_53178 20 = .ok (.return_, 1) := by decide +kernel
theorem dJ7_copyOf_59c91_0 : decode cJ7_copyOf_59c91 0 = .ok (.iload_n 1, 1) := by decide +kernel
theorem dJ7_copyOf_59c91_1 : decode cJ7_copyOf_59c91 1 = .ok (.aload_n 0, 1) := by decide +kernel
theorem dJ7_copyOf_59c91_2 : decode cJ7_copyOf_59c91 2 = .ok (.arraylength, 1) := by decide +kernel
theorem dJ7_copyOf_59c91_3 : decode cJ7_copyOf_59c91 3 = .ok (.if_icmp .ne 11, 3) := by decide +kernel
theorem dJ7_copyOf_59c91_6 : decode cJ7_copyOf_59c91 6 = .ok (.aload_n 0, 1) := by decide +kernel
theorem dJ7_copyOf_59c91_7 : decode cJ7_copyOf_59c91 7 = .ok (.invokevirtual 316, 3) := by decide +kernel
theorem dJ7_copyOf_59c91_10 : decode cJ7_copyOf_59c91 10 = .ok (.checkcast 317, 3) := by decide +kernel
theorem dJ7_copyOf_59c91_13 : decode cJ7_copyOf_59c91 13 = .ok (.areturn, 1) := by decide +kernel
theorem dJ7_copyOf_59c91_14 : decode cJ7_copyOf_59c91 14 = .ok (.iload_n 1, 1) := by decide +kernel
theorem dJ7_copyOf_59c91_15 : decode cJ7_copyOf_59c91 15 = .ok (.newarray .int, 2) := by decide +kernel
theorem dJ7_copyOf_59c91_17 : decode cJ7_copyOf_59c91 17 = .ok (.astore_n 2, 1) := by decide +kernel
theorem dJ7_copyOf_59c91_18 : decode cJ7_copyOf_59c91 18 = .ok (.aload_n 0, 1) := by decide +kernel
theorem dJ7_copyOf_59c91_19 : decode cJ7_copyOf_59c91 19 = .ok (.iconst 0, 1) := by decide +kernel
theorem dJ7_copyOf_59c91_20 : decode cJ7_copyOf_59c91 20 = .ok (.aload_n 2, 1) := by decide +kernel
theorem dJ7_copyOf_59c91_21 : decode cJ7_copyOf_59c91 21 = .ok (.iconst 0, 1) := by decide +kernel
theorem dJ7_copyOf_59c91_22 : decode cJ7_copyOf_59c91 22 = .ok (.aload_n 0, 1) := by decide +kernel
theorem dJ7_copyOf_59c91_23 : decode cJ7_copyOf_59c91 23 = .ok (.arraylength, 1) := by decide +kernel
theorem dJ7_copyOf_59c91_24 : decode cJ7_copyOf_59c91 24 = .ok (.iload_n 1, 1) := by decide +kernel
theorem dJ7_copyOf_59c91_25 : decode cJ7_copyOf_59c91 25 = .ok (.invokestatic 304, 3) := by decide +kernel
theorem dJ7_copyOf_59c91_28 : decode cJ7_copyOf_59c91 28 = .ok (.invokestatic 150, 3) := by decide +kernel
theorem dJ7_copyOf_59c91_31 : decode cJ7_copyOf_59c91 31 = .ok (.aload_n 2, 1) := by decide +kernel
theorem dJ7_copyOf_59c91_32 : decode cJ7_copyOf_59c91 32 = .ok (.areturn, 1) := by decide +kernel
