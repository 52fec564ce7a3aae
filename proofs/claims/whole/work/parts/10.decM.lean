theorem dX12_in_0 : decode cX12_in 0 = .ok (.iload_n 0, 1) := by decide +kernel
theorem dX12_in_1 : decode cX12_in 1 = .ok (.iload_n 1, 1) := by decide +kernel
theorem dX12_in_2 : decode cX12_in 2 = .ok (.if_icmp .lt 12, 3) := by decide +kernel
theorem dX12_in_5 : decode cX12_in 5 = .ok (.iload_n 0, 1) := by decide +kernel
theorem dX12_in_6 : decode cX12_in 6 = .ok (.iload_n 2, 1) := by decide +kernel
theorem dX12_in_7 : decode cX12_in 7 = .ok (.if_icmp .gt 7, 3) := by decide +kernel
theorem dX12_in_10 : decode cX12_in 10 = .ok (.iconst 1, 1) := by decide +kernel
theorem dX12_in_11 : decode cX12_in 11 = .ok (.goto 4, 3) := by decide +kernel
theorem dX12_in_14 : decode cX12_in 14 = .ok (.iconst 0, 1) := by decide +kernel
theorem dX12_in_15 : decode cX12_in 15 = .ok (.ireturn, 1) := by decide +kernel
theorem dX12_isStep_0 : decode cX12_isStep 0 = .ok (.iload_n 0, 1) := by decide +kernel
theorem dX12_isStep_1 : decode cX12_isStep 1 = .ok (.iconst 0, 1) := by decide +kernel
theorem dX12_isStep_2 : decode cX12_isStep 2 = .ok (.bipush 15, 2) := by decide +kernel
theorem dX12_isStep_4 : decode cX12_isStep 4 = .ok (.invokestatic 179, 3) := by decide +kernel
theorem dX12_isStep_7 : decode cX12_isStep 7 = .ok (.ireturn, 1) := by decide +kernel
theorem dX12_step_0 : decode cX12_step 0 = .ok (.iload_n 1, 1) := by decide +kernel
theorem dX12_step_1 : decode cX12_step 1 = .ok (.invokestatic 183, 3) := by decide +kernel
theorem dX12_step_4 : decode cX12_step 4 = .ok (.ifCond .eq 36, 3) := by decide +kernel
theorem dX12_step_7 : decode cX12_step 7 = .ok (.iload_n 2, 1) := by decide +kernel
theorem dX12_step_8 : decode cX12_step 8 = .ok (.iconst 0, 1) := by decide +kernel
theorem dX12_step_9 : decode cX12_step 9 = .ok (.sipush 1000, 3) := by decide +kernel
theorem dX12_step_12 : decode cX12_step 12 = .ok (.invokestatic 179, 3) := by decide +kernel
theorem dX12_step_15 : decode cX12_step 15 = .ok (.ifCond .eq 25, 3) := by decide +kernel
theorem dX12_step_18 : decode cX12_step 18 = .ok (.iload_n 3, 1) := by decide +kernel
theorem dX12_step_19 : decode cX12_step 19 = .ok (.iconst 1, 1) := by decide +kernel
theorem dX12_step_20 : decode cX12_step 20 = .ok (.bipush 50, 2) := by decide +kernel
theorem dX12_step_22 : decode cX12_step 22 = .ok (.invokestatic 179, 3) := by decide +kernel
theorem dX12_step_25 : decode cX12_step 25 = .ok (.ifCond .eq 15, 3) := by decide +kernel
theorem dX12_step_28 : decode cX12_step 28 = .ok (.iload 4, 2) := by decide +kernel
theorem dX12_step_30 : decode cX12_step 30 = .ok (.iconst 0, 1) := by decide +kernel
theorem dX12_step_31 : decode cX12_step 31 = .ok (.sipush 1000, 3) := by decide +kernel
theorem dX12_step_34 : decode cX12_step 34 = .ok (.invokestatic 179, 3) := by decide +kernel
theorem dX12_step_37 : decode cX12_step 37 = .ok (.ifCond .ne 6, 3) := by decide +kernel
theorem dX12_step_40 : decode cX12_step 40 = .ok (.bipush (-2), 2) := by decide +kernel
theorem dX12_step_42 : decode cX12_step 42 = .ok (.ireturn, 1) := by decide +kernel
theorem dX12_step_43 : decode cX12_step 43 = .ok (.aload_n 0, 1) := by decide +kernel
theorem dX12_step_44 : decode cX12_step 44 = .ok (.getfield 7, 3) := by decide +kernel
theorem dX12_step_47 : decode cX12_step 47 = .ok (.iload_n 1, 1) := by decide +kernel
theorem dX12_step_48 : decode cX12_step 48 = .ok (.iload_n 2, 1) := by decide +kernel
theorem dX12_step_49 : decode cX12_step 49 = .ok (.iastore, 1) := by decide +kernel
theorem dX12_step_50 : decode cX12_step 50 = .ok (.aload_n 0, 1) := by decide +kernel
theorem dX12_step_51 : decode cX12_step 51 = .ok (.getfield 13, 3) := by decide +kernel
theorem dX12_step_54 : decode cX12_step 54 = .ok (.iload_n 1, 1) := by decide +kernel
theorem dX12_step_55 : decode cX12_step 55 = .ok (.iload_n 3, 1) := by decide +kernel
theorem dX12_step_56 : decode cX12_step 56 = .ok (.iastore, 1) := by decide +kernel
theorem dX12_step_57 : decode cX12_step 57 = .ok (.aload_n 0, 1) := by decide +kernel
theorem dX12_step_58 : decode cX12_step 58 = .ok (.getfield 16, 3) := by decide +kernel
theorem dX12_step_61 : decode cX12_step 61 = .ok (.iload_n 1, 1) := by decide +kernel
theorem dX12_step_62 : decode cX12_step 62 = .ok (.iload 4, 2) := by decide +kernel
theorem dX12_step_64 : decode cX12_step 64 = .ok (.iastore, 1) := by decide +kernel
theorem dX12_step_65 : decode cX12_step 65 = .ok (.iconst 1, 1) := by decide +kernel
theorem dX12_step_66 : decode cX12_step 66 = .ok (.ireturn, 1) := by decide +kernel
theorem dX12_trace_0 : decode cX12_trace 0 = .ok (.iload_n 1, 1) := by decide +kernel
theorem dX12_trace_1 : decode cX12_trace 1 = .ok (.invokestatic 183, 3) := by decide +kernel
theorem dX12_trace_4 : decode cX12_trace 4 = .ok (.ifCond .eq 24, 3) := by decide +kernel
theorem dX12_trace_7 : decode cX12_trace 7 = .ok (.iload_n 2, 1) := by decide +kernel
theorem dX12_trace_8 : decode cX12_trace 8 = .ok (.iconst 0, 1) := by decide +kernel
theorem dX12_trace_9 : decode cX12_trace 9 = .ok (.sipush 255, 3) := by decide +kernel
theorem dX12_trace_12 : decode cX12_trace 12 = .ok (.invokestatic 179, 3) := by decide +kernel
theorem dX12_trace_15 : decode cX12_trace 15 = .ok (.ifCond .eq 13, 3) := by decide +kernel
theorem dX12_trace_18 : decode cX12_trace 18 = .ok (.iload_n 3, 1) := by decide +kernel
theorem dX12_trace_19 : decode cX12_trace 19 = .ok (.iconst 0, 1) := by decide +kernel
theorem dX12_trace_20 : decode cX12_trace 20 = .ok (.bipush 7, 2) := by decide +kernel
theorem dX12_trace_22 : decode cX12_trace 22 = .ok (.invokestatic 179, 3) := by decide +kernel
theorem dX12_trace_25 : decode cX12_trace 25 = .ok (.ifCond .ne 6, 3) := by decide +kernel
theorem dX12_trace_28 : decode cX12_trace 28 = .ok (.bipush (-2), 2) := by decide +kernel
theorem dX12_trace_30 : decode cX12_trace 30 = .ok (.ireturn, 1) := by decide +kernel
theorem dX12_trace_31 : decode cX12_trace 31 = .ok (.aload_n 0, 1) := by decide +kernel
theorem dX12_trace_32 : decode cX12_trace 32 = .ok (.getfield 19, 3) := by decide +kernel
theorem dX12_trace_35 : decode cX12_trace 35 = .ok (.iload_n 1, 1) := by decide +kernel
theorem dX12_trace_36 : decode cX12_trace 36 = .ok (.iload_n 2, 1) := by decide +kernel
theorem dX12_trace_37 : decode cX12_trace 37 = .ok (.iastore, 1) := by decide +kernel
theorem dX12_trace_38 : decode cX12_trace 38 = .ok (.aload_n 0, 1) := by decide +kernel
theorem dX12_trace_39 : decode cX12_trace 39 = .ok (.getfield 22, 3) := by decide +kernel
theorem dX12_trace_42 : decode cX12_trace 42 = .ok (.iload_n 1, 1) := by decide +kernel
theorem dX12_trace_43 : decode cX12_trace 43 = .ok (.iload_n 3, 1) := by decide +kernel
theorem dX12_trace_44 : decode cX12_trace 44 = .ok (.iastore, 1) := by decide +kernel
theorem dX12_trace_45 : decode cX12_trace 45 = .ok (.iconst 1, 1) := by decide +kernel
theorem dX12_trace_46 : decode cX12_trace 46 = .ok (.ireturn, 1) := by decide +kernel
theorem dX12_stepOf_0 : decode cX12_stepOf 0 = .ok (.iload_n 2, 1) := by decide +kernel
theorem dX12_stepOf_1 : decode cX12_stepOf 1 = .ok (.ifCond .ne 12, 3) := by decide +kernel
theorem dX12_stepOf_4 : decode cX12_stepOf 4 = .ok (.aload_n 0, 1) := by decide +kernel
theorem dX12_stepOf_5 : decode cX12_stepOf 5 = .ok (.getfield 7, 3) := by decide +kernel
theorem dX12_stepOf_8 : decode cX12_stepOf 8 = .ok (.iload_n 1, 1) := by decide +kernel
theorem dX12_stepOf_9 : decode cX12_stepOf 9 = .ok (.iaload, 1) := by decide +kernel
theorem dX12_stepOf_10 : decode cX12_stepOf 10 = .ok (.goto 51, 3) := by decide +kernel
theorem dX12_stepOf_13 : decode cX12_stepOf 13 = .ok (.iload_n 2, 1) := by decide +kernel
theorem dX12_stepOf_14 : decode cX12_stepOf 14 = .ok (.iconst 1, 1) := by decide +kernel
theorem dX12_stepOf_15 : decode cX12_stepOf 15 = .ok (.if_icmp .ne 12, 3) := by decide +kernel
theorem dX12_stepOf_18 : decode cX12_stepOf 18 = .ok (.aload_n 0, 1) := by decide +kernel
theorem dX12_stepOf_19 : decode cX12_stepOf 19 = .ok (.getfield 13, 3) := by decide +kernel
theorem dX12_stepOf_22 : decode cX12_stepOf 22 = .ok (.iload_n 1, 1) := by decide +kernel
theorem dX12_stepOf_23 : decode cX12_stepOf 23 = .ok (.iaload, 1) := by decide +kernel
theorem dX12_stepOf_24 : decode cX12_stepOf 24 = .ok (.goto 37, 3) := by decide +kernel
theorem dX12_stepOf_27 : decode cX12_stepOf 27 = .ok (.iload_n 2, 1) := by decide +kernel
theorem dX12_stepOf_28 : decode cX12_stepOf 28 = .ok (.iconst 2, 1) := by decide +kernel
theorem dX12_stepOf_29 : decode cX12_stepOf 29 = .ok (.if_icmp .ne 12, 3) := by decide +kernel
theorem dX12_stepOf_32 : decode cX12_stepOf 32 = .ok (.aload_n 0, 1) := by decide +kernel
theorem dX12_stepOf_33 : decode cX12_stepOf 33 = .ok (.getfield 16, 3) := by decide +kernel
theorem dX12_stepOf_36 : decode cX12_stepOf 36 = .ok (.iload_n 1, 1) := by decide +kernel
theorem dX12_stepOf_37 : decode cX12_stepOf 37 = .ok (.iaload, 1) := by decide +kernel
theorem dX12_stepOf_38 : decode cX12_stepOf 38 = .ok (.goto 23, 3) := by decide +kernel
theorem dX12_stepOf_41 : decode cX12_stepOf 41 = .ok (.iload_n 2, 1) := by decide +kernel
theorem dX12_stepOf_42 : decode cX12_stepOf 42 = .ok (.iconst 3, 1) := by decide +kernel
theorem dX12_stepOf_43 : decode cX12_stepOf 43 = .ok (.if_icmp .ne 12, 3) := by decide +kernel
theorem dX12_stepOf_46 : decode cX12_stepOf 46 = .ok (.aload_n 0, 1) := by decide +kernel
theorem dX12_stepOf_47 : decode cX12_stepOf 47 = .ok (.getfield 19, 3) := by decide +kernel
theorem dX12_stepOf_50 : decode cX12_stepOf 50 = .ok (.iload_n 1, 1) := by decide +kernel
theorem dX12_stepOf_51 : decode cX12_stepOf 51 = .ok (.iaload, 1) := by decide +kernel
theorem dX12_stepOf_52 : decode cX12_stepOf 52 = .ok (.goto 9, 3) := by decide +kernel
theorem dX12_stepOf_55 : decode cX12_stepOf 55 = .ok (.aload_n 0, 1) := by decide +kernel
theorem dX12_stepOf_56 : decode cX12_stepOf 56 = .ok (.getfield 22, 3) := by decide +kernel
theorem dX12_stepOf_59 : decode cX12_stepOf 59 = .ok (.iload_n 1, 1) := by decide +kernel
theorem dX12_stepOf_60 : decode cX12_stepOf 60 = .ok (.iaload, 1) := by decide +kernel
theorem dX12_stepOf_61 : decode cX12_stepOf 61 = .ok (.ireturn, 1) := by decide +kernel
theorem dX12_about_0 : decode cX12_about 0 = .ok (.iload_n 1, 1) := by decide +kernel
theorem dX12_about_1 : decode cX12_about 1 = .ok (.invokestatic 183, 3) := by decide +kernel
theorem dX12_about_4 : decode cX12_about 4 = .ok (.ifCond .eq 21, 3) := by decide +kernel
theorem dX12_about_7 : decode cX12_about 7 = .ok (.iload_n 2, 1) := by decide +kernel
theorem dX12_about_8 : decode cX12_about 8 = .ok (.iconst 0, 1) := by decide +kernel
theorem dX12_about_9 : decode cX12_about 9 = .ok (.iconst 4, 1) := by decide +kernel
theorem dX12_about_10 : decode cX12_about 10 = .ok (.invokestatic 179, 3) := by decide +kernel
theorem dX12_about_13 : decode cX12_about 13 = .ok (.ifCond .eq 12, 3) := by decide +kernel
theorem dX12_about_16 : decode cX12_about 16 = .ok (.aload_n 0, 1) := by decide +kernel
theorem dX12_about_17 : decode cX12_about 17 = .ok (.iload_n 1, 1) := by decide +kernel
theorem dX12_about_18 : decode cX12_about 18 = .ok (.iload_n 2, 1) := by decide +kernel
theorem dX12_about_19 : decode cX12_about 19 = .ok (.invokevirtual 187, 3) := by decide +kernel
theorem dX12_about_22 : decode cX12_about 22 = .ok (.goto 5, 3) := by decide +kernel
theorem dX12_about_25 : decode cX12_about 25 = .ok (.bipush (-2), 2) := by decide +kernel
theorem dX12_about_27 : decode cX12_about 27 = .ok (.ireturn, 1) := by decide +kernel
theorem dX12_write_0 : decode cX12_write 0 = .ok (.iload_n 1, 1) := by decide +kernel
theorem dX12_write_1 : decode cX12_write 1 = .ok (.iconst 0, 1) := by decide +kernel
theorem dX12_write_2 : decode cX12_write 2 = .ok (.bipush 127, 2) := by decide +kernel
theorem dX12_write_4 : decode cX12_write 4 = .ok (.invokestatic 179, 3) := by decide +kernel
theorem dX12_write_7 : decode cX12_write 7 = .ok (.ifCond .ne 6, 3) := by decide +kernel
theorem dX12_write_10 : decode cX12_write 10 = .ok (.bipush (-2), 2) := by decide +kernel
theorem dX12_write_12 : decode cX12_write 12 = .ok (.ireturn, 1) := by decide +kernel
theorem dX12_write_13 : decode cX12_write 13 = .ok (.aload_n 0, 1) := by decide +kernel
theorem dX12_write_14 : decode cX12_write 14 = .ok (.getfield 191, 3) := by decide +kernel
theorem dX12_write_17 : decode cX12_write 17 = .ok (.bipush 80, 2) := by decide +kernel
theorem dX12_write_19 : decode cX12_write 19 = .ok (.if_icmp .ne 6, 3) := by decide +kernel
theorem dX12_write_22 : decode cX12_write 22 = .ok (.bipush (-4), 2) := by decide +kernel
theorem dX12_write_24 : decode cX12_write 24 = .ok (.ireturn, 1) := by decide +kernel
theorem dX12_write_25 : decode cX12_write 25 = .ok (.aload_n 0, 1) := by decide +kernel
theorem dX12_write_26 : decode cX12_write 26 = .ok (.getfield 25, 3) := by decide +kernel
theorem dX12_write_29 : decode cX12_write 29 = .ok (.aload_n 0, 1) := by decide +kernel
theorem dX12_write_30 : decode cX12_write 30 = .ok (.getfield 191, 3) := by decide +kernel
theorem dX12_write_33 : decode cX12_write 33 = .ok (.iload_n 1, 1) := by decide +kernel
theorem dX12_write_34 : decode cX12_write 34 = .ok (.iastore, 1) := by decide +kernel
theorem dX12_write_35 : decode cX12_write 35 = .ok (.aload_n 0, 1) := by decide +kernel
theorem dX12_write_36 : decode cX12_write 36 = .ok (.dup, 1) := by decide +kernel
theorem dX12_write_37 : decode cX12_write 37 = .ok (.getfield 191, 3) := by decide +kernel
theorem dX12_write_40 : decode cX12_write 40 = .ok (.iconst 1, 1) := by decide +kernel
theorem dX12_write_41 : decode cX12_write 41 = .ok (.iadd, 1) := by decide +kernel
theorem dX12_write_42 : decode cX12_write 42 = .ok (.putfield 191, 3) := by decide +kernel
theorem dX12_write_45 : decode cX12_write 45 = .ok (.aload_n 0, 1) := by decide +kernel
theorem dX12_write_46 : decode cX12_write 46 = .ok (.getfield 191, 3) := by decide +kernel
theorem dX12_write_49 : decode cX12_write 49 = .ok (.ireturn, 1) := by decide +kernel
theorem dX12_erase_0 : decode cX12_erase 0 = .ok (.aload_n 0, 1) := by decide +kernel
theorem dX12_erase_1 : decode cX12_erase 1 = .ok (.getfield 191, 3) := by decide +kernel
theorem dX12_erase_4 : decode cX12_erase 4 = .ok (.istore_n 1, 1) := by decide +kernel
theorem dX12_erase_5 : decode cX12_erase 5 = .ok (.aload_n 0, 1) := by decide +kernel
theorem dX12_erase_6 : decode cX12_erase 6 = .ok (.iconst 0, 1) := by decide +kernel
theorem dX12_erase_7 : decode cX12_erase 7 = .ok (.putfield 191, 3) := by decide +kernel
theorem dX12_erase_10 : decode cX12_erase 10 = .ok (.iload_n 1, 1) := by decide +kernel
theorem dX12_erase_11 : decode cX12_erase 11 = .ok (.ireturn, 1) := by decide +kernel
theorem dX12_newKnot_0 : decode cX12_newKnot 0 = .ok (.aload_n 0, 1) := by decide +kernel
theorem dX12_newKnot_1 : decode cX12_newKnot 1 = .ok (.getfield 194, 3) := by decide +kernel
theorem dX12_newKnot_4 : decode cX12_newKnot 4 = .ok (.istore_n 2, 1) := by decide +kernel
theorem dX12_newKnot_5 : decode cX12_newKnot 5 = .ok (.aload_n 0, 1) := by decide +kernel
theorem dX12_newKnot_6 : decode cX12_newKnot 6 = .ok (.getfield 28, 3) := by decide +kernel
theorem dX12_newKnot_9 : decode cX12_newKnot 9 = .ok (.iload_n 2, 1) := by decide +kernel
theorem dX12_newKnot_10 : decode cX12_newKnot 10 = .ok (.iload_n 1, 1) := by decide +kernel
theorem dX12_newKnot_11 : decode cX12_newKnot 11 = .ok (.iastore, 1) := by decide +kernel
theorem dX12_newKnot_12 : decode cX12_newKnot 12 = .ok (.aload_n 0, 1) := by decide +kernel
theorem dX12_newKnot_13 : decode cX12_newKnot 13 = .ok (.getfield 31, 3) := by decide +kernel
theorem dX12_newKnot_16 : decode cX12_newKnot 16 = .ok (.iload_n 2, 1) := by decide +kernel
theorem dX12_newKnot_17 : decode cX12_newKnot 17 = .ok (.iconst 0, 1) := by decide +kernel
theorem dX12_newKnot_18 : decode cX12_newKnot 18 = .ok (.iastore, 1) := by decide +kernel
theorem dX12_newKnot_19 : decode cX12_newKnot 19 = .ok (.aload_n 0, 1) := by decide +kernel
theorem dX12_newKnot_20 : decode cX12_newKnot 20 = .ok (.getfield 34, 3) := by decide +kernel
theorem dX12_newKnot_23 : decode cX12_newKnot 23 = .ok (.iload_n 2, 1) := by decide +kernel
theorem dX12_newKnot_24 : decode cX12_newKnot 24 = .ok (.iconst (-1), 1) := by decide +kernel
theorem dX12_newKnot_25 : decode cX12_newKnot 25 = .ok (.iastore, 1) := by decide +kernel
theorem dX12_newKnot_26 : decode cX12_newKnot 26 = .ok (.aload_n 0, 1) := by decide +kernel
theorem dX12_newKnot_27 : decode cX12_newKnot 27 = .ok (.getfield 37, 3) := by decide +kernel
theorem dX12_newKnot_30 : decode cX12_newKnot 30 = .ok (.iload_n 2, 1) := by decide +kernel
theorem dX12_newKnot_31 : decode cX12_newKnot 31 = .ok (.aload_n 0, 1) := by decide +kernel
theorem dX12_newKnot_32 : decode cX12_newKnot 32 = .ok (.getfield 197, 3) := by decide +kernel
theorem dX12_newKnot_35 : decode cX12_newKnot 35 = .ok (.iastore, 1) := by decide +kernel
theorem dX12_newKnot_36 : decode cX12_newKnot 36 = .ok (.aload_n 0, 1) := by decide +kernel
theorem dX12_newKnot_37 : decode cX12_newKnot 37 = .ok (.getfield 40, 3) := by decide +kernel
theorem dX12_newKnot_40 : decode cX12_newKnot 40 = .ok (.iload_n 2, 1) := by decide +kernel
theorem dX12_newKnot_41 : decode cX12_newKnot 41 = .ok (.iconst 0, 1) := by decide +kernel
theorem dX12_newKnot_42 : decode cX12_newKnot 42 = .ok (.iastore, 1) := by decide +kernel
theorem dX12_newKnot_43 : decode cX12_newKnot 43 = .ok (.aload_n 0, 1) := by decide +kernel
theorem dX12_newKnot_44 : decode cX12_newKnot 44 = .ok (.getfield 46, 3) := by decide +kernel
theorem dX12_newKnot_47 : decode cX12_newKnot 47 = .ok (.iload_n 2, 1) := by decide +kernel
theorem dX12_newKnot_48 : decode cX12_newKnot 48 = .ok (.iconst 0, 1) := by decide +kernel
theorem dX12_newKnot_49 : decode cX12_newKnot 49 = .ok (.iastore, 1) := by decide +kernel
theorem dX12_newKnot_50 : decode cX12_newKnot 50 = .ok (.aload_n 0, 1) := by decide +kernel
theorem dX12_newKnot_51 : decode cX12_newKnot 51 = .ok (.dup, 1) := by decide +kernel
theorem dX12_newKnot_52 : decode cX12_newKnot 52 = .ok (.getfield 194, 3) := by decide +kernel
theorem dX12_newKnot_55 : decode cX12_newKnot 55 = .ok (.iconst 1, 1) := by decide +kernel
theorem dX12_newKnot_56 : decode cX12_newKnot 56 = .ok (.iadd, 1) := by decide +kernel
theorem dX12_newKnot_57 : decode cX12_newKnot 57 = .ok (.putfield 194, 3) := by decide +kernel
theorem dX12_newKnot_60 : decode cX12_newKnot 60 = .ok (.iload_n 2, 1) := by decide +kernel
theorem dX12_newKnot_61 : decode cX12_newKnot 61 = .ok (.ireturn, 1) := by decide +kernel
theorem dX12_comes_0 : decode cX12_comes 0 = .ok (.aload_n 0, 1) := by decide +kernel
theorem dX12_comes_1 : decode cX12_comes 1 = .ok (.getfield 43, 3) := by decide +kernel
theorem dX12_comes_4 : decode cX12_comes 4 = .ok (.aload_n 0, 1) := by decide +kernel
theorem dX12_comes_5 : decode cX12_comes 5 = .ok (.getfield 197, 3) := by decide +kernel
theorem dX12_comes_8 : decode cX12_comes 8 = .ok (.iload_n 2, 1) := by decide +kernel
theorem dX12_comes_9 : decode cX12_comes 9 = .ok (.iastore, 1) := by decide +kernel
theorem dX12_comes_10 : decode cX12_comes 10 = .ok (.aload_n 0, 1) := by decide +kernel
theorem dX12_comes_11 : decode cX12_comes 11 = .ok (.dup, 1) := by decide +kernel
theorem dX12_comes_12 : decode cX12_comes 12 = .ok (.getfield 197, 3) := by decide +kernel
theorem dX12_comes_15 : decode cX12_comes 15 = .ok (.iconst 1, 1) := by decide +kernel
theorem dX12_comes_16 : decode cX12_comes 16 = .ok (.iadd, 1) := by decide +kernel
theorem dX12_comes_17 : decode cX12_comes 17 = .ok (.putfield 197, 3) := by decide +kernel
theorem dX12_comes_20 : decode cX12_comes 20 = .ok (.aload_n 0, 1) := by decide +kernel
theorem dX12_comes_21 : decode cX12_comes 21 = .ok (.getfield 40, 3) := by decide +kernel
theorem dX12_comes_24 : decode cX12_comes 24 = .ok (.iload_n 1, 1) := by decide +kernel
theorem dX12_comes_25 : decode cX12_comes 25 = .ok (.dup2, 1) := by decide +kernel
theorem dX12_comes_26 : decode cX12_comes 26 = .ok (.iaload, 1) := by decide +kernel
theorem dX12_comes_27 : decode cX12_comes 27 = .ok (.iconst 1, 1) := by decide +kernel
theorem dX12_comes_28 : decode cX12_comes 28 = .ok (.iadd, 1) := by decide +kernel
theorem dX12_comes_29 : decode cX12_comes 29 = .ok (.iastore, 1) := by decide +kernel
theorem dX12_comes_30 : decode cX12_comes 30 = .ok (.aload_n 0, 1) := by decide +kernel
theorem dX12_comes_31 : decode cX12_comes 31 = .ok (.getfield 46, 3) := by decide +kernel
theorem dX12_comes_34 : decode cX12_comes 34 = .ok (.iload_n 1, 1) := by decide +kernel
theorem dX12_comes_35 : decode cX12_comes 35 = .ok (.dup2, 1) := by decide +kernel
theorem dX12_comes_36 : decode cX12_comes 36 = .ok (.iaload, 1) := by decide +kernel
theorem dX12_comes_37 : decode cX12_comes 37 = .ok (.aload_n 0, 1) := by decide +kernel
theorem dX12_comes_38 : decode cX12_comes 38 = .ok (.getfield 46, 3) := by decide +kernel
theorem dX12_comes_41 : decode cX12_comes 41 = .ok (.iload_n 2, 1) := by decide +kernel
theorem dX12_comes_42 : decode cX12_comes 42 = .ok (.iaload, 1) := by decide +kernel
theorem dX12_comes_43 : decode cX12_comes 43 = .ok (.ior, 1) := by decide +kernel
theorem dX12_comes_44 : decode cX12_comes 44 = .ok (.iastore, 1) := by decide +kernel
theorem dX12_comes_45 : decode cX12_comes 45 = .ok (.return_, 1) := by decide +kernel
theorem dX12_opens_0 : decode cX12_opens 0 = .ok (.aload_n 0, 1) := by decide +kernel
theorem dX12_opens_1 : decode cX12_opens 1 = .ok (.dup, 1) := by decide +kernel
theorem dX12_opens_2 : decode cX12_opens 2 = .ok (.getfield 200, 3) := by decide +kernel
theorem dX12_opens_5 : decode cX12_opens 5 = .ok (.iconst 1, 1) := by decide +kernel
theorem dX12_opens_6 : decode cX12_opens 6 = .ok (.iadd, 1) := by decide +kernel
theorem dX12_opens_7 : decode cX12_opens 7 = .ok (.putfield 200, 3) := by decide +kernel
theorem dX12_opens_10 : decode cX12_opens 10 = .ok (.aload_n 0, 1) := by decide +kernel
theorem dX12_opens_11 : decode cX12_opens 11 = .ok (.getfield 72, 3) := by decide +kernel
theorem dX12_opens_14 : decode cX12_opens 14 = .ok (.aload_n 0, 1) := by decide +kernel
theorem dX12_opens_15 : decode cX12_opens 15 = .ok (.getfield 200, 3) := by decide +kernel
theorem dX12_opens_18 : decode cX12_opens 18 = .ok (.iload_n 1, 1) := by decide +kernel
theorem dX12_opens_19 : decode cX12_opens 19 = .ok (.bastore, 1) := by decide +kernel
theorem dX12_opens_20 : decode cX12_opens 20 = .ok (.iconst 0, 1) := by decide +kernel
theorem dX12_opens_21 : decode cX12_opens 21 = .ok (.istore_n 2, 1) := by decide +kernel
theorem dX12_opens_22 : decode cX12_opens 22 = .ok (.iload_n 2, 1) := by decide +kernel
theorem dX12_opens_23 : decode cX12_opens 23 = .ok (.iconst 4, 1) := by decide +kernel
theorem dX12_opens_24 : decode cX12_opens 24 = .ok (.if_icmp .ge 23, 3) := by decide +kernel
theorem dX12_opens_27 : decode cX12_opens 27 = .ok (.aload_n 0, 1) := by decide +kernel
theorem dX12_opens_28 : decode cX12_opens 28 = .ok (.getfield 60, 3) := by decide +kernel
theorem dX12_opens_31 : decode cX12_opens 31 = .ok (.iconst 4, 1) := by decide +kernel
theorem dX12_opens_32 : decode cX12_opens 32 = .ok (.aload_n 0, 1) := by decide +kernel
theorem dX12_opens_33 : decode cX12_opens 33 = .ok (.getfield 200, 3) := by decide +kernel
theorem dX12_opens_36 : decode cX12_opens 36 = .ok (.imul, 1) := by decide +kernel
theorem dX12_opens_37 : decode cX12_opens 37 = .ok (.iload_n 2, 1) := by decide +kernel
theorem dX12_opens_38 : decode cX12_opens 38 = .ok (.iadd, 1) := by decide +kernel
theorem dX12_opens_39 : decode cX12_opens 39 = .ok (.iconst 0, 1) := by decide +kernel
theorem dX12_opens_40 : decode cX12_opens 40 = .ok (.iastore, 1) := by decide +kernel
theorem dX12_opens_41 : decode cX12_opens 41 = .ok (.iinc 2 1, 3) := by decide +kernel
theorem dX12_opens_44 : decode cX12_opens 44 = .ok (.goto (-22), 3) := by decide +kernel
theorem dX12_opens_47 : decode cX12_opens 47 = .ok (.return_, 1) := by decide +kernel
theorem dX12_toRow_0 : decode cX12_toRow 0 = .ok (.iconst 4, 1) := by decide +kernel
theorem dX12_toRow_1 : decode cX12_toRow 1 = .ok (.aload_n 0, 1) := by decide +kernel
theorem dX12_toRow_2 : decode cX12_toRow 2 = .ok (.getfield 200, 3) := by decide +kernel
theorem dX12_toRow_5 : decode cX12_toRow 5 = .ok (.imul, 1) := by decide +kernel
theorem dX12_toRow_6 : decode cX12_toRow 6 = .ok (.iload_n 1, 1) := by decide +kernel
theorem dX12_toRow_7 : decode cX12_toRow 7 = .ok (.iadd, 1) := by decide +kernel
theorem dX12_toRow_8 : decode cX12_toRow 8 = .ok (.istore_n 3, 1) := by decide +kernel
theorem dX12_toRow_9 : decode cX12_toRow 9 = .ok (.aload_n 0, 1) := by decide +kernel
theorem dX12_toRow_10 : decode cX12_toRow 10 = .ok (.getfield 63, 3) := by decide +kernel
theorem dX12_toRow_13 : decode cX12_toRow 13 = .ok (.bipush 50, 2) := by decide +kernel
theorem dX12_toRow_15 : decode cX12_toRow 15 = .ok (.iload_n 3, 1) := by decide +kernel
theorem dX12_toRow_16 : decode cX12_toRow 16 = .ok (.imul, 1) := by decide +kernel
theorem dX12_toRow_17 : decode cX12_toRow 17 = .ok (.aload_n 0, 1) := by decide +kernel
theorem dX12_toRow_18 : decode cX12_toRow 18 = .ok (.getfield 60, 3) := by decide +kernel
theorem dX12_toRow_21 : decode cX12_toRow 21 = .ok (.iload_n 3, 1) := by decide +kernel
theorem dX12_toRow_22 : decode cX12_toRow 22 = .ok (.iaload, 1) := by decide +kernel
theorem dX12_toRow_23 : decode cX12_toRow 23 = .ok (.iadd, 1) := by decide +kernel
theorem dX12_toRow_24 : decode cX12_toRow 24 = .ok (.iload_n 2, 1) := by decide +kernel
theorem dX12_toRow_25 : decode cX12_toRow 25 = .ok (.iastore, 1) := by decide +kernel
theorem dX12_toRow_26 : decode cX12_toRow 26 = .ok (.aload_n 0, 1) := by decide +kernel
theorem dX12_toRow_27 : decode cX12_toRow 27 = .ok (.getfield 60, 3) := by decide +kernel
theorem dX12_toRow_30 : decode cX12_toRow 30 = .ok (.iload_n 3, 1) := by decide +kernel
theorem dX12_toRow_31 : decode cX12_toRow 31 = .ok (.dup2, 1) := by decide +kernel
theorem dX12_toRow_32 : decode cX12_toRow 32 = .ok (.iaload, 1) := by decide +kernel
theorem dX12_toRow_33 : decode cX12_toRow 33 = .ok (.iconst 1, 1) := by decide +kernel
theorem dX12_toRow_34 : decode cX12_toRow 34 = .ok (.iadd, 1) := by decide +kernel
theorem dX12_toRow_35 : decode cX12_toRow 35 = .ok (.iastore, 1) := by decide +kernel
theorem dX12_toRow_36 : decode cX12_toRow 36 = .ok (.return_, 1) := by decide +kernel
theorem dX12_ends_0 : decode cX12_ends 0 = .ok (.iconst 4, 1) := by decide +kernel
theorem dX12_ends_1 : decode cX12_ends 1 = .ok (.aload_n 0, 1) := by decide +kernel
theorem dX12_ends_2 : decode cX12_ends 2 = .ok (.getfield 200, 3) := by decide +kernel
theorem dX12_ends_5 : decode cX12_ends 5 = .ok (.imul, 1) := by decide +kernel
theorem dX12_ends_6 : decode cX12_ends 6 = .ok (.iload_n 1, 1) := by decide +kernel
theorem dX12_ends_7 : decode cX12_ends 7 = .ok (.iadd, 1) := by decide +kernel
theorem dX12_ends_8 : decode cX12_ends 8 = .ok (.istore_n 3, 1) := by decide +kernel
theorem dX12_ends_9 : decode cX12_ends 9 = .ok (.aload_n 0, 1) := by decide +kernel
theorem dX12_ends_10 : decode cX12_ends 10 = .ok (.getfield 63, 3) := by decide +kernel
theorem dX12_ends_13 : decode cX12_ends 13 = .ok (.bipush 50, 2) := by decide +kernel
theorem dX12_ends_15 : decode cX12_ends 15 = .ok (.iload_n 3, 1) := by decide +kernel
theorem dX12_ends_16 : decode cX12_ends 16 = .ok (.imul, 1) := by decide +kernel
theorem dX12_ends_17 : decode cX12_ends 17 = .ok (.iaload, 1) := by decide +kernel
theorem dX12_ends_18 : decode cX12_ends 18 = .ok (.istore 4, 2) := by decide +kernel
theorem dX12_ends_20 : decode cX12_ends 20 = .ok (.aload_n 0, 1) := by decide +kernel
theorem dX12_ends_21 : decode cX12_ends 21 = .ok (.getfield 60, 3) := by decide +kernel
theorem dX12_ends_24 : decode cX12_ends 24 = .ok (.iload_n 3, 1) := by decide +kernel
theorem dX12_ends_25 : decode cX12_ends 25 = .ok (.iaload, 1) := by decide +kernel
theorem dX12_ends_26 : decode cX12_ends 26 = .ok (.iconst 1, 1) := by decide +kernel
theorem dX12_ends_27 : decode cX12_ends 27 = .ok (.if_icmp .le 48, 3) := by decide +kernel
theorem dX12_ends_30 : decode cX12_ends 30 = .ok (.aload_n 0, 1) := by decide +kernel
theorem dX12_ends_31 : decode cX12_ends 31 = .ok (.iload_n 2, 1) := by decide +kernel
theorem dX12_ends_32 : decode cX12_ends 32 = .ok (.invokevirtual 203, 3) := by decide +kernel
theorem dX12_ends_35 : decode cX12_ends 35 = .ok (.istore 4, 2) := by decide +kernel
theorem dX12_ends_37 : decode cX12_ends 37 = .ok (.iconst 0, 1) := by decide +kernel
theorem dX12_ends_38 : decode cX12_ends 38 = .ok (.istore 5, 2) := by decide +kernel
theorem dX12_ends_40 : decode cX12_ends 40 = .ok (.iload 5, 2) := by decide +kernel
theorem dX12_ends_42 : decode cX12_ends 42 = .ok (.aload_n 0, 1) := by decide +kernel
theorem dX12_ends_43 : decode cX12_ends 43 = .ok (.getfield 60, 3) := by decide +kernel
theorem dX12_ends_46 : decode cX12_ends 46 = .ok (.iload_n 3, 1) := by decide +kernel
theorem dX12_ends_47 : decode cX12_ends 47 = .ok (.iaload, 1) := by decide +kernel
theorem dX12_ends_48 : decode cX12_ends 48 = .ok (.if_icmp .ge 27, 3) := by decide +kernel
theorem dX12_ends_51 : decode cX12_ends 51 = .ok (.aload_n 0, 1) := by decide +kernel
theorem dX12_ends_52 : decode cX12_ends 52 = .ok (.iload 4, 2) := by decide +kernel
theorem dX12_ends_54 : decode cX12_ends 54 = .ok (.aload_n 0, 1) := by decide +kernel
theorem dX12_ends_55 : decode cX12_ends 55 = .ok (.getfield 63, 3) := by decide +kernel
theorem dX12_ends_58 : decode cX12_ends 58 = .ok (.bipush 50, 2) := by decide +kernel
theorem dX12_ends_60 : decode cX12_ends 60 = .ok (.iload_n 3, 1) := by decide +kernel
theorem dX12_ends_61 : decode cX12_ends 61 = .ok (.imul, 1) := by decide +kernel
theorem dX12_ends_62 : decode cX12_ends 62 = .ok (.iload 5, 2) := by decide +kernel
theorem dX12_ends_64 : decode cX12_ends 64 = .ok (.iadd, 1) := by decide +kernel
theorem dX12_ends_65 : decode cX12_ends 65 = .ok (.iaload, 1) := by decide +kernel
theorem dX12_ends_66 : decode cX12_ends 66 = .ok (.invokevirtual 207, 3) := by decide +kernel
theorem dX12_ends_69 : decode cX12_ends 69 = .ok (.iinc 5 1, 3) := by decide +kernel
theorem dX12_ends_72 : decode cX12_ends 72 = .ok (.goto (-32), 3) := by decide +kernel
theorem dX12_ends_75 : decode cX12_ends 75 = .ok (.aload_n 0, 1) := by decide +kernel
theorem dX12_ends_76 : decode cX12_ends 76 = .ok (.getfield 60, 3) := by decide +kernel
theorem dX12_ends_79 : decode cX12_ends 79 = .ok (.iload_n 3, 1) := by decide +kernel
theorem dX12_ends_80 : decode cX12_ends 80 = .ok (.iconst 0, 1) := by decide +kernel
theorem dX12_ends_81 : decode cX12_ends 81 = .ok (.iastore, 1) := by decide +kernel
theorem dX12_ends_82 : decode cX12_ends 82 = .ok (.iload 4, 2) := by decide +kernel
theorem dX12_ends_84 : decode cX12_ends 84 = .ok (.ireturn, 1) := by decide +kernel
theorem dX12_endsBoth_0 : decode cX12_endsBoth 0 = .ok (.aload_n 0, 1) := by decide +kernel
theorem dX12_endsBoth_1 : decode cX12_endsBoth 1 = .ok (.iconst 1, 1) := by decide +kernel
theorem dX12_endsBoth_2 : decode cX12_endsBoth 2 = .ok (.aload_n 0, 1) := by decide +kernel
theorem dX12_endsBoth_3 : decode cX12_endsBoth 3 = .ok (.iconst 0, 1) := by decide +kernel
theorem dX12_endsBoth_4 : decode cX12_endsBoth 4 = .ok (.iconst 3, 1) := by decide +kernel
theorem dX12_endsBoth_5 : decode cX12_endsBoth 5 = .ok (.invokevirtual 210, 3) := by decide +kernel
theorem dX12_endsBoth_8 : decode cX12_endsBoth 8 = .ok (.invokevirtual 213, 3) := by decide +kernel
theorem dX12_endsBoth_11 : decode cX12_endsBoth 11 = .ok (.return_, 1) := by decide +kernel
theorem dX12_endsChain_0 : decode cX12_endsChain 0 = .ok (.aload_n 0, 1) := by decide +kernel
theorem dX12_endsChain_1 : decode cX12_endsChain 1 = .ok (.invokevirtual 216, 3) := by decide +kernel
theorem dX12_endsChain_4 : decode cX12_endsChain 4 = .ok (.aload_n 0, 1) := by decide +kernel
theorem dX12_endsChain_5 : decode cX12_endsChain 5 = .ok (.iconst 2, 1) := by decide +kernel
theorem dX12_endsChain_6 : decode cX12_endsChain 6 = .ok (.aload_n 0, 1) := by decide +kernel
theorem dX12_endsChain_7 : decode cX12_endsChain 7 = .ok (.iconst 1, 1) := by decide +kernel
theorem dX12_endsChain_8 : decode cX12_endsChain 8 = .ok (.iconst 2, 1) := by decide +kernel
theorem dX12_endsChain_9 : decode cX12_endsChain 9 = .ok (.invokevirtual 210, 3) := by decide +kernel
theorem dX12_endsChain_12 : decode cX12_endsChain 12 = .ok (.invokevirtual 213, 3) := by decide +kernel
theorem dX12_endsChain_15 : decode cX12_endsChain 15 = .ok (.return_, 1) := by decide +kernel
theorem dX12_endsNet_0 : decode cX12_endsNet 0 = .ok (.aload_n 0, 1) := by decide +kernel
theorem dX12_endsNet_1 : decode cX12_endsNet 1 = .ok (.invokevirtual 219, 3) := by decide +kernel
theorem dX12_endsNet_4 : decode cX12_endsNet 4 = .ok (.aload_n 0, 1) := by decide +kernel
theorem dX12_endsNet_5 : decode cX12_endsNet 5 = .ok (.iconst 2, 1) := by decide +kernel
theorem dX12_endsNet_6 : decode cX12_endsNet 6 = .ok (.iconst 1, 1) := by decide +kernel
theorem dX12_endsNet_7 : decode cX12_endsNet 7 = .ok (.invokevirtual 210, 3) := by decide +kernel
theorem dX12_endsNet_10 : decode cX12_endsNet 10 = .ok (.ireturn, 1) := by decide +kernel
theorem dX12_opensPart_0 : decode cX12_opensPart 0 = .ok (.iload_n 1, 1) := by decide +kernel
theorem dX12_opensPart_1 : decode cX12_opensPart 1 = .ok (.bipush 97, 2) := by decide +kernel
theorem dX12_opensPart_3 : decode cX12_opensPart 3 = .ok (.bipush 112, 2) := by decide +kernel
theorem dX12_opensPart_5 : decode cX12_opensPart 5 = .ok (.invokestatic 179, 3) := by decide +kernel
theorem dX12_opensPart_8 : decode cX12_opensPart 8 = .ok (.ifCond .eq 39, 3) := by decide +kernel
theorem dX12_opensPart_11 : decode cX12_opensPart 11 = .ok (.aload_n 0, 1) := by decide +kernel
theorem dX12_opensPart_12 : decode cX12_opensPart 12 = .ok (.iconst 0, 1) := by decide +kernel
theorem dX12_opensPart_13 : decode cX12_opensPart 13 = .ok (.invokevirtual 203, 3) := by decide +kernel
theorem dX12_opensPart_16 : decode cX12_opensPart 16 = .ok (.istore_n 3, 1) := by decide +kernel
theorem dX12_opensPart_17 : decode cX12_opensPart 17 = .ok (.aload_n 0, 1) := by decide +kernel
theorem dX12_opensPart_18 : decode cX12_opensPart 18 = .ok (.getfield 34, 3) := by decide +kernel
theorem dX12_opensPart_21 : decode cX12_opensPart 21 = .ok (.iload_n 3, 1) := by decide +kernel
theorem dX12_opensPart_22 : decode cX12_opensPart 22 = .ok (.iload_n 1, 1) := by decide +kernel
theorem dX12_opensPart_23 : decode cX12_opensPart 23 = .ok (.bipush 97, 2) := by decide +kernel
theorem dX12_opensPart_25 : decode cX12_opensPart 25 = .ok (.isub, 1) := by decide +kernel
theorem dX12_opensPart_26 : decode cX12_opensPart 26 = .ok (.iastore, 1) := by decide +kernel
theorem dX12_opensPart_27 : decode cX12_opensPart 27 = .ok (.aload_n 0, 1) := by decide +kernel
theorem dX12_opensPart_28 : decode cX12_opensPart 28 = .ok (.getfield 46, 3) := by decide +kernel
theorem dX12_opensPart_31 : decode cX12_opensPart 31 = .ok (.iload_n 3, 1) := by decide +kernel
theorem dX12_opensPart_32 : decode cX12_opensPart 32 = .ok (.iconst 1, 1) := by decide +kernel
theorem dX12_opensPart_33 : decode cX12_opensPart 33 = .ok (.iload_n 1, 1) := by decide +kernel
theorem dX12_opensPart_34 : decode cX12_opensPart 34 = .ok (.bipush 97, 2) := by decide +kernel
theorem dX12_opensPart_36 : decode cX12_opensPart 36 = .ok (.isub, 1) := by decide +kernel
theorem dX12_opensPart_37 : decode cX12_opensPart 37 = .ok (.ishl, 1) := by decide +kernel
theorem dX12_opensPart_38 : decode cX12_opensPart 38 = .ok (.iastore, 1) := by decide +kernel
theorem dX12_opensPart_39 : decode cX12_opensPart 39 = .ok (.aload_n 0, 1) := by decide +kernel
theorem dX12_opensPart_40 : decode cX12_opensPart 40 = .ok (.iconst 0, 1) := by decide +kernel
theorem dX12_opensPart_41 : decode cX12_opensPart 41 = .ok (.iload_n 3, 1) := by decide +kernel
theorem dX12_opensPart_42 : decode cX12_opensPart 42 = .ok (.invokevirtual 213, 3) := by decide +kernel
theorem dX12_opensPart_45 : decode cX12_opensPart 45 = .ok (.iconst 0, 1) := by decide +kernel
theorem dX12_opensPart_46 : decode cX12_opensPart 46 = .ok (.ireturn, 1) := by decide +kernel
theorem dX12_opensPart_47 : decode cX12_opensPart 47 = .ok (.iload_n 1, 1) := by decide +kernel
theorem dX12_opensPart_48 : decode cX12_opensPart 48 = .ok (.bipush 48, 2) := by decide +kernel
theorem dX12_opensPart_50 : decode cX12_opensPart 50 = .ok (.bipush 57, 2) := by decide +kernel
theorem dX12_opensPart_52 : decode cX12_opensPart 52 = .ok (.invokestatic 179, 3) := by decide +kernel
theorem dX12_opensPart_55 : decode cX12_opensPart 55 = .ok (.ifCond .eq 34, 3) := by decide +kernel
theorem dX12_opensPart_58 : decode cX12_opensPart 58 = .ok (.aload_n 0, 1) := by decide +kernel
theorem dX12_opensPart_59 : decode cX12_opensPart 59 = .ok (.getfield 49, 3) := by decide +kernel
theorem dX12_opensPart_62 : decode cX12_opensPart 62 = .ok (.iload_n 1, 1) := by decide +kernel
theorem dX12_opensPart_63 : decode cX12_opensPart 63 = .ok (.bipush 48, 2) := by decide +kernel
theorem dX12_opensPart_65 : decode cX12_opensPart 65 = .ok (.isub, 1) := by decide +kernel
theorem dX12_opensPart_66 : decode cX12_opensPart 66 = .ok (.iaload, 1) := by decide +kernel
theorem dX12_opensPart_67 : decode cX12_opensPart 67 = .ok (.iconst (-1), 1) := by decide +kernel
theorem dX12_opensPart_68 : decode cX12_opensPart 68 = .ok (.if_icmp .ne 5, 3) := by decide +kernel
theorem dX12_opensPart_71 : decode cX12_opensPart 71 = .ok (.iconst 3, 1) := by decide +kernel
theorem dX12_opensPart_72 : decode cX12_opensPart 72 = .ok (.ireturn, 1) := by decide +kernel
theorem dX12_opensPart_73 : decode cX12_opensPart 73 = .ok (.aload_n 0, 1) := by decide +kernel
theorem dX12_opensPart_74 : decode cX12_opensPart 74 = .ok (.iconst 0, 1) := by decide +kernel
theorem dX12_opensPart_75 : decode cX12_opensPart 75 = .ok (.aload_n 0, 1) := by decide +kernel
theorem dX12_opensPart_76 : decode cX12_opensPart 76 = .ok (.getfield 49, 3) := by decide +kernel
theorem dX12_opensPart_79 : decode cX12_opensPart 79 = .ok (.iload_n 1, 1) := by decide +kernel
theorem dX12_opensPart_80 : decode cX12_opensPart 80 = .ok (.bipush 48, 2) := by decide +kernel
theorem dX12_opensPart_82 : decode cX12_opensPart 82 = .ok (.isub, 1) := by decide +kernel
theorem dX12_opensPart_83 : decode cX12_opensPart 83 = .ok (.iaload, 1) := by decide +kernel
theorem dX12_opensPart_84 : decode cX12_opensPart 84 = .ok (.invokevirtual 213, 3) := by decide +kernel
theorem dX12_opensPart_87 : decode cX12_opensPart 87 = .ok (.iconst 0, 1) := by decide +kernel
theorem dX12_opensPart_88 : decode cX12_opensPart 88 = .ok (.ireturn, 1) := by decide +kernel
theorem dX12_opensPart_89 : decode cX12_opensPart 89 = .ok (.iload_n 1, 1) := by decide +kernel
theorem dX12_opensPart_90 : decode cX12_opensPart 90 = .ok (.bipush 40, 2) := by decide +kernel
theorem dX12_opensPart_92 : decode cX12_opensPart 92 = .ok (.if_icmp .eq 11, 3) := by decide +kernel
theorem dX12_opensPart_95 : decode cX12_opensPart 95 = .ok (.iload_n 1, 1) := by decide +kernel
theorem dX12_opensPart_96 : decode cX12_opensPart 96 = .ok (.bipush 91, 2) := by decide +kernel
theorem dX12_opensPart_98 : decode cX12_opensPart 98 = .ok (.if_icmp .eq 5, 3) := by decide +kernel
theorem dX12_opensPart_101 : decode cX12_opensPart 101 = .ok (.iconst 1, 1) := by decide +kernel
theorem dX12_opensPart_102 : decode cX12_opensPart 102 = .ok (.ireturn, 1) := by decide +kernel
theorem dX12_opensPart_103 : decode cX12_opensPart 103 = .ok (.aload_n 0, 1) := by decide +kernel
theorem dX12_opensPart_104 : decode cX12_opensPart 104 = .ok (.getfield 200, 3) := by decide +kernel
theorem dX12_opensPart_107 : decode cX12_opensPart 107 = .ok (.bipush 8, 2) := by decide +kernel
theorem dX12_opensPart_109 : decode cX12_opensPart 109 = .ok (.if_icmp .ne 5, 3) := by decide +kernel
theorem dX12_opensPart_112 : decode cX12_opensPart 112 = .ok (.iconst 5, 1) := by decide +kernel
theorem dX12_opensPart_113 : decode cX12_opensPart 113 = .ok (.ireturn, 1) := by decide +kernel
theorem dX12_opensPart_114 : decode cX12_opensPart 114 = .ok (.aload_n 0, 1) := by decide +kernel
theorem dX12_opensPart_115 : decode cX12_opensPart 115 = .ok (.iload_n 1, 1) := by decide +kernel
theorem dX12_opensPart_116 : decode cX12_opensPart 116 = .ok (.bipush 91, 2) := by decide +kernel
theorem dX12_opensPart_118 : decode cX12_opensPart 118 = .ok (.if_icmp .ne 7, 3) := by decide +kernel
theorem dX12_opensPart_121 : decode cX12_opensPart 121 = .ok (.iconst 1, 1) := by decide +kernel
theorem dX12_opensPart_122 : decode cX12_opensPart 122 = .ok (.goto 4, 3) := by decide +kernel
theorem dX12_opensPart_125 : decode cX12_opensPart 125 = .ok (.iconst 0, 1) := by decide +kernel
theorem dX12_opensPart_126 : decode cX12_opensPart 126 = .ok (.invokevirtual 222, 3) := by decide +kernel
theorem dX12_opensPart_129 : decode cX12_opensPart 129 = .ok (.aload_n 0, 1) := by decide +kernel
theorem dX12_opensPart_130 : decode cX12_opensPart 130 = .ok (.getfield 66, 3) := by decide +kernel
theorem dX12_opensPart_133 : decode cX12_opensPart 133 = .ok (.aload_n 0, 1) := by decide +kernel
theorem dX12_opensPart_134 : decode cX12_opensPart 134 = .ok (.getfield 200, 3) := by decide +kernel
theorem dX12_opensPart_137 : decode cX12_opensPart 137 = .ok (.iload_n 2, 1) := by decide +kernel
theorem dX12_opensPart_138 : decode cX12_opensPart 138 = .ok (.iastore, 1) := by decide +kernel
theorem dX12_opensPart_139 : decode cX12_opensPart 139 = .ok (.iconst 0, 1) := by decide +kernel
theorem dX12_opensPart_140 : decode cX12_opensPart 140 = .ok (.ireturn, 1) := by decide +kernel
theorem dX12_closes_0 : decode cX12_closes 0 = .ok (.aload_n 0, 1) := by decide +kernel
theorem dX12_closes_1 : decode cX12_closes 1 = .ok (.dup, 1) := by decide +kernel
theorem dX12_closes_2 : decode cX12_closes 2 = .ok (.getfield 200, 3) := by decide +kernel
theorem dX12_closes_5 : decode cX12_closes 5 = .ok (.iconst 1, 1) := by decide +kernel
theorem dX12_closes_6 : decode cX12_closes 6 = .ok (.isub, 1) := by decide +kernel
theorem dX12_closes_7 : decode cX12_closes 7 = .ok (.putfield 200, 3) := by decide +kernel
theorem dX12_closes_10 : decode cX12_closes 10 = .ok (.aload_n 0, 1) := by decide +kernel
theorem dX12_closes_11 : decode cX12_closes 11 = .ok (.iconst 0, 1) := by decide +kernel
theorem dX12_closes_12 : decode cX12_closes 12 = .ok (.iload_n 1, 1) := by decide +kernel
theorem dX12_closes_13 : decode cX12_closes 13 = .ok (.invokevirtual 213, 3) := by decide +kernel
theorem dX12_closes_16 : decode cX12_closes 16 = .ok (.return_, 1) := by decide +kernel
theorem dX12_goesOn_0 : decode cX12_goesOn 0 = .ok (.aload_n 0, 1) := by decide +kernel
theorem dX12_goesOn_1 : decode cX12_goesOn 1 = .ok (.iload_n 2, 1) := by decide +kernel
theorem dX12_goesOn_2 : decode cX12_goesOn 2 = .ok (.putfield 226, 3) := by decide +kernel
theorem dX12_goesOn_5 : decode cX12_goesOn 5 = .ok (.iload_n 1, 1) := by decide +kernel
theorem dX12_goesOn_6 : decode cX12_goesOn 6 = .ok (.bipush 38, 2) := by decide +kernel
theorem dX12_goesOn_8 : decode cX12_goesOn 8 = .ok (.if_icmp .ne 5, 3) := by decide +kernel
theorem dX12_goesOn_11 : decode cX12_goesOn 11 = .ok (.iconst 0, 1) := by decide +kernel
theorem dX12_goesOn_12 : decode cX12_goesOn 12 = .ok (.ireturn, 1) := by decide +kernel
theorem dX12_goesOn_13 : decode cX12_goesOn 13 = .ok (.iload_n 1, 1) := by decide +kernel
theorem dX12_goesOn_14 : decode cX12_goesOn 14 = .ok (.bipush 62, 2) := by decide +kernel
theorem dX12_goesOn_16 : decode cX12_goesOn 16 = .ok (.if_icmp .ne 9, 3) := by decide +kernel
theorem dX12_goesOn_19 : decode cX12_goesOn 19 = .ok (.aload_n 0, 1) := by decide +kernel
theorem dX12_goesOn_20 : decode cX12_goesOn 20 = .ok (.invokevirtual 216, 3) := by decide +kernel
theorem dX12_goesOn_23 : decode cX12_goesOn 23 = .ok (.iconst 0, 1) := by decide +kernel
theorem dX12_goesOn_24 : decode cX12_goesOn 24 = .ok (.ireturn, 1) := by decide +kernel
theorem dX12_goesOn_25 : decode cX12_goesOn 25 = .ok (.iload_n 1, 1) := by decide +kernel
theorem dX12_goesOn_26 : decode cX12_goesOn 26 = .ok (.bipush 124, 2) := by decide +kernel
theorem dX12_goesOn_28 : decode cX12_goesOn 28 = .ok (.if_icmp .ne 9, 3) := by decide +kernel
theorem dX12_goesOn_31 : decode cX12_goesOn 31 = .ok (.aload_n 0, 1) := by decide +kernel
theorem dX12_goesOn_32 : decode cX12_goesOn 32 = .ok (.invokevirtual 219, 3) := by decide +kernel
theorem dX12_goesOn_35 : decode cX12_goesOn 35 = .ok (.iconst 0, 1) := by decide +kernel
theorem dX12_goesOn_36 : decode cX12_goesOn 36 = .ok (.ireturn, 1) := by decide +kernel
theorem dX12_goesOn_37 : decode cX12_goesOn 37 = .ok (.iload_n 1, 1) := by decide +kernel
theorem dX12_goesOn_38 : decode cX12_goesOn 38 = .ok (.bipush 41, 2) := by decide +kernel
theorem dX12_goesOn_40 : decode cX12_goesOn 40 = .ok (.if_icmp .ne 32, 3) := by decide +kernel
theorem dX12_goesOn_43 : decode cX12_goesOn 43 = .ok (.aload_n 0, 1) := by decide +kernel
theorem dX12_goesOn_44 : decode cX12_goesOn 44 = .ok (.getfield 200, 3) := by decide +kernel
theorem dX12_goesOn_47 : decode cX12_goesOn 47 = .ok (.ifCond .le 25, 3) := by decide +kernel
theorem dX12_goesOn_50 : decode cX12_goesOn 50 = .ok (.aload_n 0, 1) := by decide +kernel
theorem dX12_goesOn_51 : decode cX12_goesOn 51 = .ok (.getfield 72, 3) := by decide +kernel
theorem dX12_goesOn_54 : decode cX12_goesOn 54 = .ok (.aload_n 0, 1) := by decide +kernel
theorem dX12_goesOn_55 : decode cX12_goesOn 55 = .ok (.getfield 200, 3) := by decide +kernel
theorem dX12_goesOn_58 : decode cX12_goesOn 58 = .ok (.baload, 1) := by decide +kernel
theorem dX12_goesOn_59 : decode cX12_goesOn 59 = .ok (.ifCond .ne 13, 3) := by decide +kernel
theorem dX12_goesOn_62 : decode cX12_goesOn 62 = .ok (.aload_n 0, 1) := by decide +kernel
theorem dX12_goesOn_63 : decode cX12_goesOn 63 = .ok (.aload_n 0, 1) := by decide +kernel
theorem dX12_goesOn_64 : decode cX12_goesOn 64 = .ok (.invokevirtual 229, 3) := by decide +kernel
theorem dX12_goesOn_67 : decode cX12_goesOn 67 = .ok (.invokevirtual 233, 3) := by decide +kernel
theorem dX12_goesOn_70 : decode cX12_goesOn 70 = .ok (.iconst 0, 1) := by decide +kernel
theorem dX12_goesOn_71 : decode cX12_goesOn 71 = .ok (.ireturn, 1) := by decide +kernel
theorem dX12_goesOn_72 : decode cX12_goesOn 72 = .ok (.iload_n 1, 1) := by decide +kernel
theorem dX12_goesOn_73 : decode cX12_goesOn 73 = .ok (.bipush 44, 2) := by decide +kernel
theorem dX12_goesOn_75 : decode cX12_goesOn 75 = .ok (.if_icmp .eq 9, 3) := by decide +kernel
theorem dX12_goesOn_78 : decode cX12_goesOn 78 = .ok (.iload_n 1, 1) := by decide +kernel
theorem dX12_goesOn_79 : decode cX12_goesOn 79 = .ok (.bipush 93, 2) := by decide +kernel
theorem dX12_goesOn_81 : decode cX12_goesOn 81 = .ok (.if_icmp .ne 69, 3) := by decide +kernel
theorem dX12_goesOn_84 : decode cX12_goesOn 84 = .ok (.aload_n 0, 1) := by decide +kernel
theorem dX12_goesOn_85 : decode cX12_goesOn 85 = .ok (.getfield 200, 3) := by decide +kernel
theorem dX12_goesOn_88 : decode cX12_goesOn 88 = .ok (.ifCond .le 62, 3) := by decide +kernel
theorem dX12_goesOn_91 : decode cX12_goesOn 91 = .ok (.aload_n 0, 1) := by decide +kernel
theorem dX12_goesOn_92 : decode cX12_goesOn 92 = .ok (.getfield 72, 3) := by decide +kernel
theorem dX12_goesOn_95 : decode cX12_goesOn 95 = .ok (.aload_n 0, 1) := by decide +kernel
theorem dX12_goesOn_96 : decode cX12_goesOn 96 = .ok (.getfield 200, 3) := by decide +kernel
theorem dX12_goesOn_99 : decode cX12_goesOn 99 = .ok (.baload, 1) := by decide +kernel
theorem dX12_goesOn_100 : decode cX12_goesOn 100 = .ok (.ifCond .eq 50, 3) := by decide +kernel
theorem dX12_goesOn_103 : decode cX12_goesOn 103 = .ok (.aload_n 0, 1) := by decide +kernel
theorem dX12_goesOn_104 : decode cX12_goesOn 104 = .ok (.iconst 3, 1) := by decide +kernel
theorem dX12_goesOn_105 : decode cX12_goesOn 105 = .ok (.aload_n 0, 1) := by decide +kernel
theorem dX12_goesOn_106 : decode cX12_goesOn 106 = .ok (.invokevirtual 229, 3) := by decide +kernel
theorem dX12_goesOn_109 : decode cX12_goesOn 109 = .ok (.invokevirtual 213, 3) := by decide +kernel
theorem dX12_goesOn_112 : decode cX12_goesOn 112 = .ok (.iload_n 1, 1) := by decide +kernel
theorem dX12_goesOn_113 : decode cX12_goesOn 113 = .ok (.bipush 44, 2) := by decide +kernel
theorem dX12_goesOn_115 : decode cX12_goesOn 115 = .ok (.if_icmp .ne 30, 3) := by decide +kernel
theorem dX12_goesOn_118 : decode cX12_goesOn 118 = .ok (.aload_n 0, 1) := by decide +kernel
theorem dX12_goesOn_119 : decode cX12_goesOn 119 = .ok (.getfield 60, 3) := by decide +kernel
theorem dX12_goesOn_122 : decode cX12_goesOn 122 = .ok (.iconst 4, 1) := by decide +kernel
theorem dX12_goesOn_123 : decode cX12_goesOn 123 = .ok (.aload_n 0, 1) := by decide +kernel
theorem dX12_goesOn_124 : decode cX12_goesOn 124 = .ok (.getfield 200, 3) := by decide +kernel
theorem dX12_goesOn_127 : decode cX12_goesOn 127 = .ok (.imul, 1) := by decide +kernel
theorem dX12_goesOn_128 : decode cX12_goesOn 128 = .ok (.iconst 3, 1) := by decide +kernel
theorem dX12_goesOn_129 : decode cX12_goesOn 129 = .ok (.iadd, 1) := by decide +kernel
theorem dX12_goesOn_130 : decode cX12_goesOn 130 = .ok (.iaload, 1) := by decide +kernel
theorem dX12_goesOn_131 : decode cX12_goesOn 131 = .ok (.bipush 8, 2) := by decide +kernel
theorem dX12_goesOn_133 : decode cX12_goesOn 133 = .ok (.if_icmp .ne 8, 3) := by decide +kernel
theorem dX12_goesOn_136 : decode cX12_goesOn 136 = .ok (.bipush 7, 2) := by decide +kernel
theorem dX12_goesOn_138 : decode cX12_goesOn 138 = .ok (.goto 11, 3) := by decide +kernel
theorem dX12_goesOn_141 : decode cX12_goesOn 141 = .ok (.iconst 0, 1) := by decide +kernel
theorem dX12_goesOn_142 : decode cX12_goesOn 142 = .ok (.goto 7, 3) := by decide +kernel
theorem dX12_goesOn_145 : decode cX12_goesOn 145 = .ok (.aload_n 0, 1) := by decide +kernel
theorem dX12_goesOn_146 : decode cX12_goesOn 146 = .ok (.invokevirtual 237, 3) := by decide +kernel
theorem dX12_goesOn_149 : decode cX12_goesOn 149 = .ok (.ireturn, 1) := by decide +kernel
theorem dX12_goesOn_150 : decode cX12_goesOn 150 = .ok (.iconst 1, 1) := by decide +kernel
theorem dX12_goesOn_151 : decode cX12_goesOn 151 = .ok (.ireturn, 1) := by decide +kernel
theorem dX12_squares_0 : decode cX12_squares 0 = .ok (.iconst 4, 1) := by decide +kernel
theorem dX12_squares_1 : decode cX12_squares 1 = .ok (.aload_n 0, 1) := by decide +kernel
theorem dX12_squares_2 : decode cX12_squares 2 = .ok (.getfield 200, 3) := by decide +kernel
theorem dX12_squares_5 : decode cX12_squares 5 = .ok (.imul, 1) := by decide +kernel
theorem dX12_squares_6 : decode cX12_squares 6 = .ok (.iconst 3, 1) := by decide +kernel
theorem dX12_squares_7 : decode cX12_squares 7 = .ok (.iadd, 1) := by decide +kernel
theorem dX12_squares_8 : decode cX12_squares 8 = .ok (.istore_n 1, 1) := by decide +kernel
theorem dX12_squares_9 : decode cX12_squares 9 = .ok (.aload_n 0, 1) := by decide +kernel
theorem dX12_squares_10 : decode cX12_squares 10 = .ok (.getfield 25, 3) := by decide +kernel
theorem dX12_squares_13 : decode cX12_squares 13 = .ok (.aload_n 0, 1) := by decide +kernel
theorem dX12_squares_14 : decode cX12_squares 14 = .ok (.getfield 69, 3) := by decide +kernel
theorem dX12_squares_17 : decode cX12_squares 17 = .ok (.aload_n 0, 1) := by decide +kernel
theorem dX12_squares_18 : decode cX12_squares 18 = .ok (.getfield 200, 3) := by decide +kernel
theorem dX12_squares_21 : decode cX12_squares 21 = .ok (.iaload, 1) := by decide +kernel
theorem dX12_squares_22 : decode cX12_squares 22 = .ok (.iaload, 1) := by decide +kernel
theorem dX12_squares_23 : decode cX12_squares 23 = .ok (.bipush 48, 2) := by decide +kernel
theorem dX12_squares_25 : decode cX12_squares 25 = .ok (.isub, 1) := by decide +kernel
theorem dX12_squares_26 : decode cX12_squares 26 = .ok (.istore_n 2, 1) := by decide +kernel
theorem dX12_squares_27 : decode cX12_squares 27 = .ok (.iload_n 2, 1) := by decide +kernel
theorem dX12_squares_28 : decode cX12_squares 28 = .ok (.ifCond .eq 13, 3) := by decide +kernel
theorem dX12_squares_31 : decode cX12_squares 31 = .ok (.iload_n 2, 1) := by decide +kernel
theorem dX12_squares_32 : decode cX12_squares 32 = .ok (.aload_n 0, 1) := by decide +kernel
theorem dX12_squares_33 : decode cX12_squares 33 = .ok (.getfield 60, 3) := by decide +kernel
theorem dX12_squares_36 : decode cX12_squares 36 = .ok (.iload_n 1, 1) := by decide +kernel
theorem dX12_squares_37 : decode cX12_squares 37 = .ok (.iaload, 1) := by decide +kernel
theorem dX12_squares_38 : decode cX12_squares 38 = .ok (.if_icmp .le 18, 3) := by decide +kernel
theorem dX12_squares_41 : decode cX12_squares 41 = .ok (.aload_n 0, 1) := by decide +kernel
theorem dX12_squares_42 : decode cX12_squares 42 = .ok (.aload_n 0, 1) := by decide +kernel
theorem dX12_squares_43 : decode cX12_squares 43 = .ok (.getfield 69, 3) := by decide +kernel
theorem dX12_squares_46 : decode cX12_squares 46 = .ok (.aload_n 0, 1) := by decide +kernel
theorem dX12_squares_47 : decode cX12_squares 47 = .ok (.getfield 200, 3) := by decide +kernel
theorem dX12_squares_50 : decode cX12_squares 50 = .ok (.iaload, 1) := by decide +kernel
theorem dX12_squares_51 : decode cX12_squares 51 = .ok (.putfield 226, 3) := by decide +kernel
theorem dX12_squares_54 : decode cX12_squares 54 = .ok (.iconst 4, 1) := by decide +kernel
theorem dX12_squares_55 : decode cX12_squares 55 = .ok (.ireturn, 1) := by decide +kernel
theorem dX12_squares_56 : decode cX12_squares 56 = .ok (.aload_n 0, 1) := by decide +kernel
theorem dX12_squares_57 : decode cX12_squares 57 = .ok (.iconst 4, 1) := by decide +kernel
theorem dX12_squares_58 : decode cX12_squares 58 = .ok (.invokevirtual 203, 3) := by decide +kernel
theorem dX12_squares_61 : decode cX12_squares 61 = .ok (.istore_n 3, 1) := by decide +kernel
theorem dX12_squares_62 : decode cX12_squares 62 = .ok (.aload_n 0, 1) := by decide +kernel
theorem dX12_squares_63 : decode cX12_squares 63 = .ok (.getfield 31, 3) := by decide +kernel
theorem dX12_squares_66 : decode cX12_squares 66 = .ok (.iload_n 3, 1) := by decide +kernel
theorem dX12_squares_67 : decode cX12_squares 67 = .ok (.iload_n 2, 1) := by decide +kernel
theorem dX12_squares_68 : decode cX12_squares 68 = .ok (.iastore, 1) := by decide +kernel
theorem dX12_squares_69 : decode cX12_squares 69 = .ok (.iconst 0, 1) := by decide +kernel
theorem dX12_squares_70 : decode cX12_squares 70 = .ok (.istore 4, 2) := by decide +kernel
theorem dX12_squares_72 : decode cX12_squares 72 = .ok (.iload 4, 2) := by decide +kernel
theorem dX12_squares_74 : decode cX12_squares 74 = .ok (.aload_n 0, 1) := by decide +kernel
theorem dX12_squares_75 : decode cX12_squares 75 = .ok (.getfield 60, 3) := by decide +kernel
theorem dX12_squares_78 : decode cX12_squares 78 = .ok (.iload_n 1, 1) := by decide +kernel
theorem dX12_squares_79 : decode cX12_squares 79 = .ok (.iaload, 1) := by decide +kernel
theorem dX12_squares_80 : decode cX12_squares 80 = .ok (.if_icmp .ge 26, 3) := by decide +kernel
theorem dX12_squares_83 : decode cX12_squares 83 = .ok (.aload_n 0, 1) := by decide +kernel
theorem dX12_squares_84 : decode cX12_squares 84 = .ok (.iload_n 3, 1) := by decide +kernel
theorem dX12_squares_85 : decode cX12_squares 85 = .ok (.aload_n 0, 1) := by decide +kernel
theorem dX12_squares_86 : decode cX12_squares 86 = .ok (.getfield 63, 3) := by decide +kernel
theorem dX12_squares_89 : decode cX12_squares 89 = .ok (.bipush 50, 2) := by decide +kernel
theorem dX12_squares_91 : decode cX12_squares 91 = .ok (.iload_n 1, 1) := by decide +kernel
theorem dX12_squares_92 : decode cX12_squares 92 = .ok (.imul, 1) := by decide +kernel
theorem dX12_squares_93 : decode cX12_squares 93 = .ok (.iload 4, 2) := by decide +kernel
theorem dX12_squares_95 : decode cX12_squares 95 = .ok (.iadd, 1) := by decide +kernel
theorem dX12_squares_96 : decode cX12_squares 96 = .ok (.iaload, 1) := by decide +kernel
theorem dX12_squares_97 : decode cX12_squares 97 = .ok (.invokevirtual 207, 3) := by decide +kernel
theorem dX12_squares_100 : decode cX12_squares 100 = .ok (.iinc 4 1, 3) := by decide +kernel
theorem dX12_squares_103 : decode cX12_squares 103 = .ok (.goto (-31), 3) := by decide +kernel
theorem dX12_squares_106 : decode cX12_squares 106 = .ok (.aload_n 0, 1) := by decide +kernel
theorem dX12_squares_107 : decode cX12_squares 107 = .ok (.iload_n 3, 1) := by decide +kernel
theorem dX12_squares_108 : decode cX12_squares 108 = .ok (.invokevirtual 233, 3) := by decide +kernel
theorem dX12_squares_111 : decode cX12_squares 111 = .ok (.iconst 0, 1) := by decide +kernel
theorem dX12_squares_112 : decode cX12_squares 112 = .ok (.ireturn, 1) := by decide +kernel
theorem dX12_reads_0 : decode cX12_reads 0 = .ok (.aload_n 0, 1) := by decide +kernel
theorem dX12_reads_1 : decode cX12_reads 1 = .ok (.iconst (-1), 1) := by decide +kernel
theorem dX12_reads_2 : decode cX12_reads 2 = .ok (.putfield 200, 3) := by decide +kernel
theorem dX12_reads_5 : decode cX12_reads 5 = .ok (.aload_n 0, 1) := by decide +kernel
theorem dX12_reads_6 : decode cX12_reads 6 = .ok (.iconst 0, 1) := by decide +kernel
theorem dX12_reads_7 : decode cX12_reads 7 = .ok (.invokevirtual 222, 3) := by decide +kernel
theorem dX12_reads_10 : decode cX12_reads 10 = .ok (.iconst 0, 1) := by decide +kernel
theorem dX12_reads_11 : decode cX12_reads 11 = .ok (.istore_n 1, 1) := by decide +kernel
theorem dX12_reads_12 : decode cX12_reads 12 = .ok (.iconst 0, 1) := by decide +kernel
theorem dX12_reads_13 : decode cX12_reads 13 = .ok (.istore_n 2, 1) := by decide +kernel
theorem dX12_reads_14 : decode cX12_reads 14 = .ok (.iload_n 2, 1) := by decide +kernel
theorem dX12_reads_15 : decode cX12_reads 15 = .ok (.aload_n 0, 1) := by decide +kernel
theorem dX12_reads_16 : decode cX12_reads 16 = .ok (.getfield 191, 3) := by decide +kernel
theorem dX12_reads_19 : decode cX12_reads 19 = .ok (.if_icmp .ge 139, 3) := by decide +kernel
theorem dX12_reads_22 : decode cX12_reads 22 = .ok (.aload_n 0, 1) := by decide +kernel
theorem dX12_reads_23 : decode cX12_reads 23 = .ok (.getfield 25, 3) := by decide +kernel
theorem dX12_reads_26 : decode cX12_reads 26 = .ok (.iload_n 2, 1) := by decide +kernel
theorem dX12_reads_27 : decode cX12_reads 27 = .ok (.iaload, 1) := by decide +kernel
theorem dX12_reads_28 : decode cX12_reads 28 = .ok (.istore_n 3, 1) := by decide +kernel
theorem dX12_reads_29 : decode cX12_reads 29 = .ok (.iload_n 3, 1) := by decide +kernel
theorem dX12_reads_30 : decode cX12_reads 30 = .ok (.bipush 32, 2) := by decide +kernel
theorem dX12_reads_32 : decode cX12_reads 32 = .ok (.if_icmp .eq 120, 3) := by decide +kernel
theorem dX12_reads_35 : decode cX12_reads 35 = .ok (.aload_n 0, 1) := by decide +kernel
theorem dX12_reads_36 : decode cX12_reads 36 = .ok (.iload_n 2, 1) := by decide +kernel
theorem dX12_reads_37 : decode cX12_reads 37 = .ok (.putfield 226, 3) := by decide +kernel
theorem dX12_reads_40 : decode cX12_reads 40 = .ok (.iconst 0, 1) := by decide +kernel
theorem dX12_reads_41 : decode cX12_reads 41 = .ok (.istore 4, 2) := by decide +kernel
theorem dX12_reads_43 : decode cX12_reads 43 = .ok (.iload_n 1, 1) := by decide +kernel
theorem dX12_reads_44 : decode cX12_reads 44 = .ok (.iconst 2, 1) := by decide +kernel
theorem dX12_reads_45 : decode cX12_reads 45 = .ok (.if_icmp .ne 36, 3) := by decide +kernel
theorem dX12_reads_48 : decode cX12_reads 48 = .ok (.iload_n 3, 1) := by decide +kernel
theorem dX12_reads_49 : decode cX12_reads 49 = .ok (.bipush 48, 2) := by decide +kernel
theorem dX12_reads_51 : decode cX12_reads 51 = .ok (.bipush 57, 2) := by decide +kernel
theorem dX12_reads_53 : decode cX12_reads 53 = .ok (.invokestatic 179, 3) := by decide +kernel
theorem dX12_reads_56 : decode cX12_reads 56 = .ok (.ifCond .eq 7, 3) := by decide +kernel
theorem dX12_reads_59 : decode cX12_reads 59 = .ok (.iconst 0, 1) := by decide +kernel
theorem dX12_reads_60 : decode cX12_reads 60 = .ok (.goto 4, 3) := by decide +kernel
theorem dX12_reads_63 : decode cX12_reads 63 = .ok (.iconst 1, 1) := by decide +kernel
theorem dX12_reads_64 : decode cX12_reads 64 = .ok (.istore 4, 2) := by decide +kernel
theorem dX12_reads_66 : decode cX12_reads 66 = .ok (.aload_n 0, 1) := by decide +kernel
theorem dX12_reads_67 : decode cX12_reads 67 = .ok (.getfield 69, 3) := by decide +kernel
theorem dX12_reads_70 : decode cX12_reads 70 = .ok (.aload_n 0, 1) := by decide +kernel
theorem dX12_reads_71 : decode cX12_reads 71 = .ok (.getfield 200, 3) := by decide +kernel
theorem dX12_reads_74 : decode cX12_reads 74 = .ok (.iload_n 2, 1) := by decide +kernel
theorem dX12_reads_75 : decode cX12_reads 75 = .ok (.iastore, 1) := by decide +kernel
theorem dX12_reads_76 : decode cX12_reads 76 = .ok (.iconst 0, 1) := by decide +kernel
theorem dX12_reads_77 : decode cX12_reads 77 = .ok (.istore_n 1, 1) := by decide +kernel
theorem dX12_reads_78 : decode cX12_reads 78 = .ok (.goto 66, 3) := by decide +kernel
theorem dX12_reads_81 : decode cX12_reads 81 = .ok (.iload_n 1, 1) := by decide +kernel
theorem dX12_reads_82 : decode cX12_reads 82 = .ok (.ifCond .ne 36, 3) := by decide +kernel
theorem dX12_reads_85 : decode cX12_reads 85 = .ok (.aload_n 0, 1) := by decide +kernel
theorem dX12_reads_86 : decode cX12_reads 86 = .ok (.iload_n 3, 1) := by decide +kernel
theorem dX12_reads_87 : decode cX12_reads 87 = .ok (.iload_n 2, 1) := by decide +kernel
theorem dX12_reads_88 : decode cX12_reads 88 = .ok (.invokevirtual 240, 3) := by decide +kernel
theorem dX12_reads_91 : decode cX12_reads 91 = .ok (.istore 4, 2) := by decide +kernel
theorem dX12_reads_93 : decode cX12_reads 93 = .ok (.iload_n 3, 1) := by decide +kernel
theorem dX12_reads_94 : decode cX12_reads 94 = .ok (.bipush 91, 2) := by decide +kernel
theorem dX12_reads_96 : decode cX12_reads 96 = .ok (.if_icmp .ne 7, 3) := by decide +kernel
theorem dX12_reads_99 : decode cX12_reads 99 = .ok (.iconst 2, 1) := by decide +kernel
theorem dX12_reads_100 : decode cX12_reads 100 = .ok (.goto 14, 3) := by decide +kernel
theorem dX12_reads_103 : decode cX12_reads 103 = .ok (.iload_n 3, 1) := by decide +kernel
theorem dX12_reads_104 : decode cX12_reads 104 = .ok (.bipush 40, 2) := by decide +kernel
theorem dX12_reads_106 : decode cX12_reads 106 = .ok (.if_icmp .ne 7, 3) := by decide +kernel
theorem dX12_reads_109 : decode cX12_reads 109 = .ok (.iconst 0, 1) := by decide +kernel
theorem dX12_reads_110 : decode cX12_reads 110 = .ok (.goto 4, 3) := by decide +kernel
theorem dX12_reads_113 : decode cX12_reads 113 = .ok (.iconst 1, 1) := by decide +kernel
theorem dX12_reads_114 : decode cX12_reads 114 = .ok (.istore_n 1, 1) := by decide +kernel
theorem dX12_reads_115 : decode cX12_reads 115 = .ok (.goto 29, 3) := by decide +kernel
theorem dX12_reads_118 : decode cX12_reads 118 = .ok (.aload_n 0, 1) := by decide +kernel
theorem dX12_reads_119 : decode cX12_reads 119 = .ok (.iload_n 3, 1) := by decide +kernel
theorem dX12_reads_120 : decode cX12_reads 120 = .ok (.iload_n 2, 1) := by decide +kernel
theorem dX12_reads_121 : decode cX12_reads 121 = .ok (.invokevirtual 243, 3) := by decide +kernel
theorem dX12_reads_124 : decode cX12_reads 124 = .ok (.istore 4, 2) := by decide +kernel
theorem dX12_reads_126 : decode cX12_reads 126 = .ok (.iload_n 3, 1) := by decide +kernel
theorem dX12_reads_127 : decode cX12_reads 127 = .ok (.bipush 41, 2) := by decide +kernel
theorem dX12_reads_129 : decode cX12_reads 129 = .ok (.if_icmp .eq 9, 3) := by decide +kernel
theorem dX12_reads_132 : decode cX12_reads 132 = .ok (.iload_n 3, 1) := by decide +kernel
theorem dX12_reads_133 : decode cX12_reads 133 = .ok (.bipush 93, 2) := by decide +kernel
theorem dX12_reads_135 : decode cX12_reads 135 = .ok (.if_icmp .ne 7, 3) := by decide +kernel
theorem dX12_reads_138 : decode cX12_reads 138 = .ok (.iconst 1, 1) := by decide +kernel
theorem dX12_reads_139 : decode cX12_reads 139 = .ok (.goto 4, 3) := by decide +kernel
theorem dX12_reads_142 : decode cX12_reads 142 = .ok (.iconst 0, 1) := by decide +kernel
theorem dX12_reads_143 : decode cX12_reads 143 = .ok (.istore_n 1, 1) := by decide +kernel
theorem dX12_reads_144 : decode cX12_reads 144 = .ok (.iload 4, 2) := by decide +kernel
theorem dX12_reads_146 : decode cX12_reads 146 = .ok (.ifCond .eq 6, 3) := by decide +kernel
theorem dX12_reads_149 : decode cX12_reads 149 = .ok (.iload 4, 2) := by decide +kernel
theorem dX12_reads_151 : decode cX12_reads 151 = .ok (.ireturn, 1) := by decide +kernel
theorem dX12_reads_152 : decode cX12_reads 152 = .ok (.iinc 2 1, 3) := by decide +kernel
theorem dX12_reads_155 : decode cX12_reads 155 = .ok (.goto (-141), 3) := by decide +kernel
theorem dX12_reads_158 : decode cX12_reads 158 = .ok (.aload_n 0, 1) := by decide +kernel
theorem dX12_reads_159 : decode cX12_reads 159 = .ok (.aload_n 0, 1) := by decide +kernel
theorem dX12_reads_160 : decode cX12_reads 160 = .ok (.getfield 191, 3) := by decide +kernel
theorem dX12_reads_163 : decode cX12_reads 163 = .ok (.putfield 226, 3) := by decide +kernel
theorem dX12_reads_166 : decode cX12_reads 166 = .ok (.iload_n 1, 1) := by decide +kernel
theorem dX12_reads_167 : decode cX12_reads 167 = .ok (.iconst 1, 1) := by decide +kernel
theorem dX12_reads_168 : decode cX12_reads 168 = .ok (.if_icmp .ne 10, 3) := by decide +kernel
theorem dX12_reads_171 : decode cX12_reads 171 = .ok (.aload_n 0, 1) := by decide +kernel
theorem dX12_reads_172 : decode cX12_reads 172 = .ok (.getfield 200, 3) := by decide +kernel
theorem dX12_reads_175 : decode cX12_reads 175 = .ok (.ifCond .le 5, 3) := by decide +kernel
theorem dX12_reads_178 : decode cX12_reads 178 = .ok (.iconst 2, 1) := by decide +kernel
theorem dX12_reads_179 : decode cX12_reads 179 = .ok (.ireturn, 1) := by decide +kernel
theorem dX12_reads_180 : decode cX12_reads 180 = .ok (.aload_n 0, 1) := by decide +kernel
theorem dX12_reads_181 : decode cX12_reads 181 = .ok (.aload_n 0, 1) := by decide +kernel
theorem dX12_reads_182 : decode cX12_reads 182 = .ok (.invokevirtual 229, 3) := by decide +kernel
theorem dX12_reads_185 : decode cX12_reads 185 = .ok (.putfield 246, 3) := by decide +kernel
theorem dX12_reads_188 : decode cX12_reads 188 = .ok (.aload_n 0, 1) := by decide +kernel
theorem dX12_reads_189 : decode cX12_reads 189 = .ok (.getfield 194, 3) := by decide +kernel
theorem dX12_reads_192 : decode cX12_reads 192 = .ok (.sipush 250, 3) := by decide +kernel
theorem dX12_reads_195 : decode cX12_reads 195 = .ok (.if_icmp .le 8, 3) := by decide +kernel
theorem dX12_reads_198 : decode cX12_reads 198 = .ok (.bipush 6, 2) := by decide +kernel
theorem dX12_reads_200 : decode cX12_reads 200 = .ok (.goto 4, 3) := by decide +kernel
theorem dX12_reads_203 : decode cX12_reads 203 = .ok (.iconst 0, 1) := by decide +kernel
theorem dX12_reads_204 : decode cX12_reads 204 = .ok (.ireturn, 1) := by decide +kernel
theorem dX12_isNet_0 : decode cX12_isNet 0 = .ok (.iload_n 0, 1) := by decide +kernel
theorem dX12_isNet_1 : decode cX12_isNet 1 = .ok (.iconst 0, 1) := by decide +kernel
theorem dX12_isNet_2 : decode cX12_isNet 2 = .ok (.bipush 9, 2) := by decide +kernel
theorem dX12_isNet_4 : decode cX12_isNet 4 = .ok (.invokestatic 179, 3) := by decide +kernel
theorem dX12_isNet_7 : decode cX12_isNet 7 = .ok (.ireturn, 1) := by decide +kernel
theorem dX12_make_0 : decode cX12_make 0 = .ok (.iload_n 1, 1) := by decide +kernel
theorem dX12_make_1 : decode cX12_make 1 = .ok (.invokestatic 249, 3) := by decide +kernel
theorem dX12_make_4 : decode cX12_make 4 = .ok (.ifCond .ne 6, 3) := by decide +kernel
theorem dX12_make_7 : decode cX12_make 7 = .ok (.bipush (-2), 2) := by decide +kernel
theorem dX12_make_9 : decode cX12_make 9 = .ok (.ireturn, 1) := by decide +kernel
theorem dX12_make_10 : decode cX12_make 10 = .ok (.aload_n 0, 1) := by decide +kernel
theorem dX12_make_11 : decode cX12_make 11 = .ok (.getfield 194, 3) := by decide +kernel
theorem dX12_make_14 : decode cX12_make 14 = .ok (.istore_n 2, 1) := by decide +kernel
theorem dX12_make_15 : decode cX12_make 15 = .ok (.aload_n 0, 1) := by decide +kernel
theorem dX12_make_16 : decode cX12_make 16 = .ok (.getfield 197, 3) := by decide +kernel
theorem dX12_make_19 : decode cX12_make 19 = .ok (.istore_n 3, 1) := by decide +kernel
theorem dX12_make_20 : decode cX12_make 20 = .ok (.aload_n 0, 1) := by decide +kernel
theorem dX12_make_21 : decode cX12_make 21 = .ok (.invokevirtual 252, 3) := by decide +kernel
theorem dX12_make_24 : decode cX12_make 24 = .ok (.istore 4, 2) := by decide +kernel
theorem dX12_make_26 : decode cX12_make 26 = .ok (.iload 4, 2) := by decide +kernel
theorem dX12_make_28 : decode cX12_make 28 = .ok (.ifCond .eq 24, 3) := by decide +kernel
theorem dX12_make_31 : decode cX12_make 31 = .ok (.aload_n 0, 1) := by decide +kernel
theorem dX12_make_32 : decode cX12_make 32 = .ok (.iload_n 2, 1) := by decide +kernel
theorem dX12_make_33 : decode cX12_make 33 = .ok (.putfield 194, 3) := by decide +kernel
theorem dX12_make_36 : decode cX12_make 36 = .ok (.aload_n 0, 1) := by decide +kernel
theorem dX12_make_37 : decode cX12_make 37 = .ok (.iload_n 3, 1) := by decide +kernel
theorem dX12_make_38 : decode cX12_make 38 = .ok (.putfield 197, 3) := by decide +kernel
theorem dX12_make_41 : decode cX12_make 41 = .ok (.bipush 10, 2) := by decide +kernel
theorem dX12_make_43 : decode cX12_make 43 = .ok (.aload_n 0, 1) := by decide +kernel
theorem dX12_make_44 : decode cX12_make 44 = .ok (.getfield 226, 3) := by decide +kernel
theorem dX12_make_47 : decode cX12_make 47 = .ok (.imul, 1) := by decide +kernel
theorem dX12_make_48 : decode cX12_make 48 = .ok (.iload 4, 2) := by decide +kernel
theorem dX12_make_50 : decode cX12_make 50 = .ok (.iadd, 1) := by decide +kernel
theorem dX12_make_51 : decode cX12_make 51 = .ok (.ireturn, 1) := by decide +kernel
theorem dX12_make_52 : decode cX12_make 52 = .ok (.iload_n 2, 1) := by decide +kernel
theorem dX12_make_53 : decode cX12_make 53 = .ok (.istore 5, 2) := by decide +kernel
theorem dX12_make_55 : decode cX12_make 55 = .ok (.iload 5, 2) := by decide +kernel
theorem dX12_make_57 : decode cX12_make 57 = .ok (.aload_n 0, 1) := by decide +kernel
theorem dX12_make_58 : decode cX12_make 58 = .ok (.getfield 194, 3) := by decide +kernel
theorem dX12_make_61 : decode cX12_make 61 = .ok (.if_icmp .ge 15, 3) := by decide +kernel
theorem dX12_make_64 : decode cX12_make 64 = .ok (.aload_n 0, 1) := by decide +kernel
theorem dX12_make_65 : decode cX12_make 65 = .ok (.iload 5, 2) := by decide +kernel
theorem dX12_make_67 : decode cX12_make 67 = .ok (.invokevirtual 255, 3) := by decide +kernel
theorem dX12_make_70 : decode cX12_make 70 = .ok (.iinc 5 1, 3) := by decide +kernel
theorem dX12_make_73 : decode cX12_make 73 = .ok (.goto (-18), 3) := by decide +kernel
theorem dX12_make_76 : decode cX12_make 76 = .ok (.aload_n 0, 1) := by decide +kernel
theorem dX12_make_77 : decode cX12_make 77 = .ok (.getfield 49, 3) := by decide +kernel
theorem dX12_make_80 : decode cX12_make 80 = .ok (.iload_n 1, 1) := by decide +kernel
theorem dX12_make_81 : decode cX12_make 81 = .ok (.aload_n 0, 1) := by decide +kernel
theorem dX12_make_82 : decode cX12_make 82 = .ok (.getfield 246, 3) := by decide +kernel
theorem dX12_make_85 : decode cX12_make 85 = .ok (.iastore, 1) := by decide +kernel
theorem dX12_make_86 : decode cX12_make 86 = .ok (.iconst 0, 1) := by decide +kernel
theorem dX12_make_87 : decode cX12_make 87 = .ok (.ireturn, 1) := by decide +kernel
theorem dX12_clear_0 : decode cX12_clear 0 = .ok (.aload_n 0, 1) := by decide +kernel
theorem dX12_clear_1 : decode cX12_clear 1 = .ok (.getfield 194, 3) := by decide +kernel
theorem dX12_clear_4 : decode cX12_clear 4 = .ok (.istore_n 1, 1) := by decide +kernel
theorem dX12_clear_5 : decode cX12_clear 5 = .ok (.aload_n 0, 1) := by decide +kernel
theorem dX12_clear_6 : decode cX12_clear 6 = .ok (.iconst 0, 1) := by decide +kernel
theorem dX12_clear_7 : decode cX12_clear 7 = .ok (.putfield 194, 3) := by decide +kernel
theorem dX12_clear_10 : decode cX12_clear 10 = .ok (.aload_n 0, 1) := by decide +kernel
theorem dX12_clear_11 : decode cX12_clear 11 = .ok (.iconst 0, 1) := by decide +kernel
theorem dX12_clear_12 : decode cX12_clear 12 = .ok (.putfield 197, 3) := by decide +kernel
theorem dX12_clear_15 : decode cX12_clear 15 = .ok (.iconst 0, 1) := by decide +kernel
theorem dX12_clear_16 : decode cX12_clear 16 = .ok (.istore_n 2, 1) := by decide +kernel
theorem dX12_clear_17 : decode cX12_clear 17 = .ok (.iload_n 2, 1) := by decide +kernel
theorem dX12_clear_18 : decode cX12_clear 18 = .ok (.bipush 10, 2) := by decide +kernel
theorem dX12_clear_20 : decode cX12_clear 20 = .ok (.if_icmp .ge 16, 3) := by decide +kernel
theorem dX12_clear_23 : decode cX12_clear 23 = .ok (.aload_n 0, 1) := by decide +kernel
theorem dX12_clear_24 : decode cX12_clear 24 = .ok (.getfield 49, 3) := by decide +kernel
theorem dX12_clear_27 : decode cX12_clear 27 = .ok (.iload_n 2, 1) := by decide +kernel
theorem dX12_clear_28 : decode cX12_clear 28 = .ok (.iconst (-1), 1) := by decide +kernel
theorem dX12_clear_29 : decode cX12_clear 29 = .ok (.iastore, 1) := by decide +kernel
theorem dX12_clear_30 : decode cX12_clear 30 = .ok (.iinc 2 1, 3) := by decide +kernel
theorem dX12_clear_33 : decode cX12_clear 33 = .ok (.goto (-16), 3) := by decide +kernel
theorem dX12_clear_36 : decode cX12_clear 36 = .ok (.aload_n 0, 1) := by decide +kernel
theorem dX12_clear_37 : decode cX12_clear 37 = .ok (.iconst (-1), 1) := by decide +kernel
theorem dX12_clear_38 : decode cX12_clear 38 = .ok (.putfield 97, 3) := by decide +kernel
theorem dX12_clear_41 : decode cX12_clear 41 = .ok (.iload_n 1, 1) := by decide +kernel
theorem dX12_clear_42 : decode cX12_clear 42 = .ok (.ireturn, 1) := by decide +kernel
theorem dX12_isIn_0 : decode cX12_isIn 0 = .ok (.iload_n 2, 1) := by decide +kernel
theorem dX12_isIn_1 : decode cX12_isIn 1 = .ok (.bipush 6, 2) := by decide +kernel
theorem dX12_isIn_3 : decode cX12_isIn 3 = .ok (.if_icmp .ge 20, 3) := by decide +kernel
theorem dX12_isIn_6 : decode cX12_isIn 6 = .ok (.iload_n 1, 1) := by decide +kernel
theorem dX12_isIn_7 : decode cX12_isIn 7 = .ok (.iload_n 2, 1) := by decide +kernel
theorem dX12_isIn_8 : decode cX12_isIn 8 = .ok (.ishr, 1) := by decide +kernel
theorem dX12_isIn_9 : decode cX12_isIn 9 = .ok (.iconst 1, 1) := by decide +kernel
theorem dX12_isIn_10 : decode cX12_isIn 10 = .ok (.iand, 1) := by decide +kernel
theorem dX12_isIn_11 : decode cX12_isIn 11 = .ok (.iconst 1, 1) := by decide +kernel
theorem dX12_isIn_12 : decode cX12_isIn 12 = .ok (.if_icmp .ne 7, 3) := by decide +kernel
theorem dX12_isIn_15 : decode cX12_isIn 15 = .ok (.iconst 1, 1) := by decide +kernel
theorem dX12_isIn_16 : decode cX12_isIn 16 = .ok (.goto 24, 3) := by decide +kernel
theorem dX12_isIn_19 : decode cX12_isIn 19 = .ok (.iconst 0, 1) := by decide +kernel
theorem dX12_isIn_20 : decode cX12_isIn 20 = .ok (.goto 20, 3) := by decide +kernel
theorem dX12_isIn_23 : decode cX12_isIn 23 = .ok (.iload_n 0, 1) := by decide +kernel
theorem dX12_isIn_24 : decode cX12_isIn 24 = .ok (.iload_n 2, 1) := by decide +kernel
theorem dX12_isIn_25 : decode cX12_isIn 25 = .ok (.bipush 6, 2) := by decide +kernel
theorem dX12_isIn_27 : decode cX12_isIn 27 = .ok (.isub, 1) := by decide +kernel
theorem dX12_isIn_28 : decode cX12_isIn 28 = .ok (.ishr, 1) := by decide +kernel
theorem dX12_isIn_29 : decode cX12_isIn 29 = .ok (.iconst 1, 1) := by decide +kernel
theorem dX12_isIn_30 : decode cX12_isIn 30 = .ok (.iand, 1) := by decide +kernel
theorem dX12_isIn_31 : decode cX12_isIn 31 = .ok (.iconst 1, 1) := by decide +kernel
theorem dX12_isIn_32 : decode cX12_isIn 32 = .ok (.if_icmp .ne 7, 3) := by decide +kernel
theorem dX12_isIn_35 : decode cX12_isIn 35 = .ok (.iconst 1, 1) := by decide +kernel
theorem dX12_isIn_36 : decode cX12_isIn 36 = .ok (.goto 4, 3) := by decide +kernel
theorem dX12_isIn_39 : decode cX12_isIn 39 = .ok (.iconst 0, 1) := by decide +kernel
theorem dX12_isIn_40 : decode cX12_isIn 40 = .ok (.ireturn, 1) := by decide +kernel
theorem dX12_patternOf_0 : decode cX12_patternOf 0 = .ok (.lconst 0, 1) := by decide +kernel
theorem dX12_patternOf_1 : decode cX12_patternOf 1 = .ok (.lstore_n 1, 1) := by decide +kernel
theorem dX12_patternOf_2 : decode cX12_patternOf 2 = .ok (.iconst 0, 1) := by decide +kernel
theorem dX12_patternOf_3 : decode cX12_patternOf 3 = .ok (.istore_n 3, 1) := by decide +kernel
theorem dX12_patternOf_4 : decode cX12_patternOf 4 = .ok (.iload_n 3, 1) := by decide +kernel
theorem dX12_patternOf_5 : decode cX12_patternOf 5 = .ok (.bipush 64, 2) := by decide +kernel
theorem dX12_patternOf_7 : decode cX12_patternOf 7 = .ok (.if_icmp .ge 28, 3) := by decide +kernel
theorem dX12_patternOf_10 : decode cX12_patternOf 10 = .ok (.lload_n 1, 1) := by decide +kernel
theorem dX12_patternOf_11 : decode cX12_patternOf 11 = .ok (.iload_n 3, 1) := by decide +kernel
theorem dX12_patternOf_12 : decode cX12_patternOf 12 = .ok (.iload_n 0, 1) := by decide +kernel
theorem dX12_patternOf_13 : decode cX12_patternOf 13 = .ok (.ishr, 1) := by decide +kernel
theorem dX12_patternOf_14 : decode cX12_patternOf 14 = .ok (.iconst 1, 1) := by decide +kernel
theorem dX12_patternOf_15 : decode cX12_patternOf 15 = .ok (.iand, 1) := by decide +kernel
theorem dX12_patternOf_16 : decode cX12_patternOf 16 = .ok (.iconst 1, 1) := by decide +kernel
theorem dX12_patternOf_17 : decode cX12_patternOf 17 = .ok (.if_icmp .ne 9, 3) := by decide +kernel
theorem dX12_patternOf_20 : decode cX12_patternOf 20 = .ok (.lconst 1, 1) := by decide +kernel
theorem dX12_patternOf_21 : decode cX12_patternOf 21 = .ok (.iload_n 3, 1) := by decide +kernel
theorem dX12_patternOf_22 : decode cX12_patternOf 22 = .ok (.lshl, 1) := by decide +kernel
theorem dX12_patternOf_23 : decode cX12_patternOf 23 = .ok (.goto 4, 3) := by decide +kernel
theorem dX12_patternOf_26 : decode cX12_patternOf 26 = .ok (.lconst 0, 1) := by decide +kernel
theorem dX12_patternOf_27 : decode cX12_patternOf 27 = .ok (.lor, 1) := by decide +kernel
theorem dX12_patternOf_28 : decode cX12_patternOf 28 = .ok (.lstore_n 1, 1) := by decide +kernel
theorem dX12_patternOf_29 : decode cX12_patternOf 29 = .ok (.iinc 3 1, 3) := by decide +kernel
theorem dX12_patternOf_32 : decode cX12_patternOf 32 = .ok (.goto (-28), 3) := by decide +kernel
theorem dX12_patternOf_35 : decode cX12_patternOf 35 = .ok (.lload_n 1, 1) := by decide +kernel
theorem dX12_patternOf_36 : decode cX12_patternOf 36 = .ok (.lreturn, 1) := by decide +kernel
theorem dX12_lays_0 : decode cX12_lays 0 = .ok (.aload_n 0, 1) := by decide +kernel
theorem dX12_lays_1 : decode cX12_lays 1 = .ok (.getfield 57, 3) := by decide +kernel
theorem dX12_lays_4 : decode cX12_lays 4 = .ok (.iload_n 1, 1) := by decide +kernel
theorem dX12_lays_5 : decode cX12_lays 5 = .ok (.iconst (-1), 1) := by decide +kernel
theorem dX12_lays_6 : decode cX12_lays 6 = .ok (.iastore, 1) := by decide +kernel
theorem dX12_lays_7 : decode cX12_lays 7 = .ok (.aload_n 0, 1) := by decide +kernel
theorem dX12_lays_8 : decode cX12_lays 8 = .ok (.getfield 28, 3) := by decide +kernel
theorem dX12_lays_11 : decode cX12_lays 11 = .ok (.iload_n 1, 1) := by decide +kernel
theorem dX12_lays_12 : decode cX12_lays 12 = .ok (.iaload, 1) := by decide +kernel
theorem dX12_lays_13 : decode cX12_lays 13 = .ok (.ifCond .ne 26, 3) := by decide +kernel
theorem dX12_lays_16 : decode cX12_lays 16 = .ok (.aload_n 0, 1) := by decide +kernel
theorem dX12_lays_17 : decode cX12_lays 17 = .ok (.getfield 34, 3) := by decide +kernel
theorem dX12_lays_20 : decode cX12_lays 20 = .ok (.iload_n 1, 1) := by decide +kernel
theorem dX12_lays_21 : decode cX12_lays 21 = .ok (.iaload, 1) := by decide +kernel
theorem dX12_lays_22 : decode cX12_lays 22 = .ok (.bipush 6, 2) := by decide +kernel
theorem dX12_lays_24 : decode cX12_lays 24 = .ok (.if_icmp .ge 15, 3) := by decide +kernel
theorem dX12_lays_27 : decode cX12_lays 27 = .ok (.aload_n 0, 1) := by decide +kernel
theorem dX12_lays_28 : decode cX12_lays 28 = .ok (.getfield 34, 3) := by decide +kernel
theorem dX12_lays_31 : decode cX12_lays 31 = .ok (.iload_n 1, 1) := by decide +kernel
theorem dX12_lays_32 : decode cX12_lays 32 = .ok (.iaload, 1) := by decide +kernel
theorem dX12_lays_33 : decode cX12_lays 33 = .ok (.invokestatic 258, 3) := by decide +kernel
theorem dX12_lays_36 : decode cX12_lays 36 = .ok (.goto 4, 3) := by decide +kernel
theorem dX12_lays_39 : decode cX12_lays 39 = .ok (.lconst 0, 1) := by decide +kernel
theorem dX12_lays_40 : decode cX12_lays 40 = .ok (.lstore_n 2, 1) := by decide +kernel
theorem dX12_lays_41 : decode cX12_lays 41 = .ok (.iconst 0, 1) := by decide +kernel
theorem dX12_lays_42 : decode cX12_lays 42 = .ok (.istore 4, 2) := by decide +kernel
theorem dX12_lays_44 : decode cX12_lays 44 = .ok (.iload 4, 2) := by decide +kernel
theorem dX12_lays_46 : decode cX12_lays 46 = .ok (.sipush 1024, 3) := by decide +kernel
theorem dX12_lays_49 : decode cX12_lays 49 = .ok (.if_icmp .ge 78, 3) := by decide +kernel
theorem dX12_lays_52 : decode cX12_lays 52 = .ok (.aload_n 0, 1) := by decide +kernel
theorem dX12_lays_53 : decode cX12_lays 53 = .ok (.getfield 53, 3) := by decide +kernel
theorem dX12_lays_56 : decode cX12_lays 56 = .ok (.sipush 1024, 3) := by decide +kernel
theorem dX12_lays_59 : decode cX12_lays 59 = .ok (.iload_n 1, 1) := by decide +kernel
theorem dX12_lays_60 : decode cX12_lays 60 = .ok (.imul, 1) := by decide +kernel
theorem dX12_lays_61 : decode cX12_lays 61 = .ok (.iload 4, 2) := by decide +kernel
theorem dX12_lays_63 : decode cX12_lays 63 = .ok (.iadd, 1) := by decide +kernel
theorem dX12_lays_64 : decode cX12_lays 64 = .ok (.aload_n 0, 1) := by decide +kernel
theorem dX12_lays_65 : decode cX12_lays 65 = .ok (.getfield 28, 3) := by decide +kernel
theorem dX12_lays_68 : decode cX12_lays 68 = .ok (.iload_n 1, 1) := by decide +kernel
theorem dX12_lays_69 : decode cX12_lays 69 = .ok (.iaload, 1) := by decide +kernel
theorem dX12_lays_70 : decode cX12_lays 70 = .ok (.ifCond .ne 43, 3) := by decide +kernel
theorem dX12_lays_73 : decode cX12_lays 73 = .ok (.aload_n 0, 1) := by decide +kernel
theorem dX12_lays_74 : decode cX12_lays 74 = .ok (.getfield 34, 3) := by decide +kernel
theorem dX12_lays_77 : decode cX12_lays 77 = .ok (.iload_n 1, 1) := by decide +kernel
theorem dX12_lays_78 : decode cX12_lays 78 = .ok (.iaload, 1) := by decide +kernel
theorem dX12_lays_79 : decode cX12_lays 79 = .ok (.bipush 6, 2) := by decide +kernel
theorem dX12_lays_81 : decode cX12_lays 81 = .ok (.if_icmp .ge 7, 3) := by decide +kernel
theorem dX12_lays_84 : decode cX12_lays 84 = .ok (.lload_n 2, 1) := by decide +kernel
theorem dX12_lays_85 : decode cX12_lays 85 = .ok (.goto 35, 3) := by decide +kernel
theorem dX12_lays_88 : decode cX12_lays 88 = .ok (.iload 4, 2) := by decide +kernel
theorem dX12_lays_90 : decode cX12_lays 90 = .ok (.iconst 0, 1) := by decide +kernel
theorem dX12_lays_91 : decode cX12_lays 91 = .ok (.aload_n 0, 1) := by decide +kernel
theorem dX12_lays_92 : decode cX12_lays 92 = .ok (.getfield 34, 3) := by decide +kernel
theorem dX12_lays_95 : decode cX12_lays 95 = .ok (.iload_n 1, 1) := by decide +kernel
theorem dX12_lays_96 : decode cX12_lays 96 = .ok (.iaload, 1) := by decide +kernel
theorem dX12_lays_97 : decode cX12_lays 97 = .ok (.invokestatic 262, 3) := by decide +kernel
theorem dX12_lays_100 : decode cX12_lays 100 = .ok (.ifCond .eq 9, 3) := by decide +kernel
theorem dX12_lays_103 : decode cX12_lays 103 = .ok (.ldc2_w 265, 3) := by decide +kernel
theorem dX12_lays_106 : decode cX12_lays 106 = .ok (.goto 14, 3) := by decide +kernel
theorem dX12_lays_109 : decode cX12_lays 109 = .ok (.lconst 0, 1) := by decide +kernel
theorem dX12_lays_110 : decode cX12_lays 110 = .ok (.goto 10, 3) := by decide +kernel
theorem dX12_lays_113 : decode cX12_lays 113 = .ok (.aload_n 0, 1) := by decide +kernel
theorem dX12_lays_114 : decode cX12_lays 114 = .ok (.iload_n 1, 1) := by decide +kernel
theorem dX12_lays_115 : decode cX12_lays 115 = .ok (.iload 4, 2) := by decide +kernel
theorem dX12_lays_117 : decode cX12_lays 117 = .ok (.invokevirtual 267, 3) := by decide +kernel
theorem dX12_lays_120 : decode cX12_lays 120 = .ok (.lastore, 1) := by decide +kernel
theorem dX12_lays_121 : decode cX12_lays 121 = .ok (.iinc 4 1, 3) := by decide +kernel
theorem dX12_lays_124 : decode cX12_lays 124 = .ok (.goto (-80), 3) := by decide +kernel
theorem dX12_lays_127 : decode cX12_lays 127 = .ok (.return_, 1) := by decide +kernel
theorem dX12_wordOf_0 : decode cX12_wordOf 0 = .ok (.aload_n 0, 1) := by decide +kernel
theorem dX12_wordOf_1 : decode cX12_wordOf 1 = .ok (.getfield 37, 3) := by decide +kernel
theorem dX12_wordOf_4 : decode cX12_wordOf 4 = .ok (.iload_n 1, 1) := by decide +kernel
theorem dX12_wordOf_5 : decode cX12_wordOf 5 = .ok (.iaload, 1) := by decide +kernel
theorem dX12_wordOf_6 : decode cX12_wordOf 6 = .ok (.istore_n 3, 1) := by decide +kernel
theorem dX12_wordOf_7 : decode cX12_wordOf 7 = .ok (.iload_n 3, 1) := by decide +kernel
theorem dX12_wordOf_8 : decode cX12_wordOf 8 = .ok (.aload_n 0, 1) := by decide +kernel
theorem dX12_wordOf_9 : decode cX12_wordOf 9 = .ok (.getfield 40, 3) := by decide +kernel
theorem dX12_wordOf_12 : decode cX12_wordOf 12 = .ok (.iload_n 1, 1) := by decide +kernel
theorem dX12_wordOf_13 : decode cX12_wordOf 13 = .ok (.iaload, 1) := by decide +kernel
theorem dX12_wordOf_14 : decode cX12_wordOf 14 = .ok (.iadd, 1) := by decide +kernel
theorem dX12_wordOf_15 : decode cX12_wordOf 15 = .ok (.istore 4, 2) := by decide +kernel
theorem dX12_wordOf_17 : decode cX12_wordOf 17 = .ok (.aload_n 0, 1) := by decide +kernel
theorem dX12_wordOf_18 : decode cX12_wordOf 18 = .ok (.getfield 28, 3) := by decide +kernel
theorem dX12_wordOf_21 : decode cX12_wordOf 21 = .ok (.iload_n 1, 1) := by decide +kernel
theorem dX12_wordOf_22 : decode cX12_wordOf 22 = .ok (.iaload, 1) := by decide +kernel
theorem dX12_wordOf_23 : decode cX12_wordOf 23 = .ok (.iconst 4, 1) := by decide +kernel
theorem dX12_wordOf_24 : decode cX12_wordOf 24 = .ok (.if_icmp .ne 123, 3) := by decide +kernel
theorem dX12_wordOf_27 : decode cX12_wordOf 27 = .ok (.iconst 0, 1) := by decide +kernel
theorem dX12_wordOf_28 : decode cX12_wordOf 28 = .ok (.istore 5, 2) := by decide +kernel
theorem dX12_wordOf_30 : decode cX12_wordOf 30 = .ok (.iload 5, 2) := by decide +kernel
theorem dX12_wordOf_32 : decode cX12_wordOf 32 = .ok (.bipush 9, 2) := by decide +kernel
theorem dX12_wordOf_34 : decode cX12_wordOf 34 = .ok (.if_icmp .ge 28, 3) := by decide +kernel
theorem dX12_wordOf_37 : decode cX12_wordOf 37 = .ok (.aload_n 0, 1) := by decide +kernel
theorem dX12_wordOf_38 : decode cX12_wordOf 38 = .ok (.getfield 76, 3) := by decide +kernel
theorem dX12_wordOf_41 : decode cX12_wordOf 41 = .ok (.iload 5, 2) := by decide +kernel
theorem dX12_wordOf_43 : decode cX12_wordOf 43 = .ok (.iload 5, 2) := by decide +kernel
theorem dX12_wordOf_45 : decode cX12_wordOf 45 = .ok (.ifCond .ne 9, 3) := by decide +kernel
theorem dX12_wordOf_48 : decode cX12_wordOf 48 = .ok (.ldc2_w 265, 3) := by decide +kernel
theorem dX12_wordOf_51 : decode cX12_wordOf 51 = .ok (.goto 4, 3) := by decide +kernel
theorem dX12_wordOf_54 : decode cX12_wordOf 54 = .ok (.lconst 0, 1) := by decide +kernel
theorem dX12_wordOf_55 : decode cX12_wordOf 55 = .ok (.lastore, 1) := by decide +kernel
theorem dX12_wordOf_56 : decode cX12_wordOf 56 = .ok (.iinc 5 1, 3) := by decide +kernel
theorem dX12_wordOf_59 : decode cX12_wordOf 59 = .ok (.goto (-29), 3) := by decide +kernel
theorem dX12_wordOf_62 : decode cX12_wordOf 62 = .ok (.iload_n 3, 1) := by decide +kernel
theorem dX12_wordOf_63 : decode cX12_wordOf 63 = .ok (.istore 5, 2) := by decide +kernel
theorem dX12_wordOf_65 : decode cX12_wordOf 65 = .ok (.iload 5, 2) := by decide +kernel
theorem dX12_wordOf_67 : decode cX12_wordOf 67 = .ok (.iload 4, 2) := by decide +kernel
theorem dX12_wordOf_69 : decode cX12_wordOf 69 = .ok (.if_icmp .ge 66, 3) := by decide +kernel
theorem dX12_wordOf_72 : decode cX12_wordOf 72 = .ok (.aload_n 0, 1) := by decide +kernel
theorem dX12_wordOf_73 : decode cX12_wordOf 73 = .ok (.getfield 53, 3) := by decide +kernel
theorem dX12_wordOf_76 : decode cX12_wordOf 76 = .ok (.sipush 1024, 3) := by decide +kernel
theorem dX12_wordOf_79 : decode cX12_wordOf 79 = .ok (.aload_n 0, 1) := by decide +kernel
theorem dX12_wordOf_80 : decode cX12_wordOf 80 = .ok (.getfield 43, 3) := by decide +kernel
theorem dX12_wordOf_83 : decode cX12_wordOf 83 = .ok (.iload 5, 2) := by decide +kernel
theorem dX12_wordOf_85 : decode cX12_wordOf 85 = .ok (.iaload, 1) := by decide +kernel
theorem dX12_wordOf_86 : decode cX12_wordOf 86 = .ok (.imul, 1) := by decide +kernel
theorem dX12_wordOf_87 : decode cX12_wordOf 87 = .ok (.iload_n 2, 1) := by decide +kernel
theorem dX12_wordOf_88 : decode cX12_wordOf 88 = .ok (.iadd, 1) := by decide +kernel
theorem dX12_wordOf_89 : decode cX12_wordOf 89 = .ok (.laload, 1) := by decide +kernel
theorem dX12_wordOf_90 : decode cX12_wordOf 90 = .ok (.lstore 6, 2) := by decide +kernel
theorem dX12_wordOf_92 : decode cX12_wordOf 92 = .ok (.bipush 8, 2) := by decide +kernel
theorem dX12_wordOf_94 : decode cX12_wordOf 94 = .ok (.istore 8, 2) := by decide +kernel
theorem dX12_wordOf_96 : decode cX12_wordOf 96 = .ok (.iload 8, 2) := by decide +kernel
theorem dX12_wordOf_98 : decode cX12_wordOf 98 = .ok (.ifCond .le 31, 3) := by decide +kernel
theorem dX12_wordOf_101 : decode cX12_wordOf 101 = .ok (.aload_n 0, 1) := by decide +kernel
theorem dX12_wordOf_102 : decode cX12_wordOf 102 = .ok (.getfield 76, 3) := by decide +kernel
theorem dX12_wordOf_105 : decode cX12_wordOf 105 = .ok (.iload 8, 2) := by decide +kernel
theorem dX12_wordOf_107 : decode cX12_wordOf 107 = .ok (.dup2, 1) := by decide +kernel
theorem dX12_wordOf_108 : decode cX12_wordOf 108 = .ok (.laload, 1) := by decide +kernel
theorem dX12_wordOf_109 : decode cX12_wordOf 109 = .ok (.aload_n 0, 1) := by decide +kernel
theorem dX12_wordOf_110 : decode cX12_wordOf 110 = .ok (.getfield 76, 3) := by decide +kernel
theorem dX12_wordOf_113 : decode cX12_wordOf 113 = .ok (.iload 8, 2) := by decide +kernel
theorem dX12_wordOf_115 : decode cX12_wordOf 115 = .ok (.iconst 1, 1) := by decide +kernel
theorem dX12_wordOf_116 : decode cX12_wordOf 116 = .ok (.isub, 1) := by decide +kernel
theorem dX12_wordOf_117 : decode cX12_wordOf 117 = .ok (.laload, 1) := by decide +kernel
theorem dX12_wordOf_118 : decode cX12_wordOf 118 = .ok (.lload 6, 2) := by decide +kernel
theorem dX12_wordOf_120 : decode cX12_wordOf 120 = .ok (.land, 1) := by decide +kernel
theorem dX12_wordOf_121 : decode cX12_wordOf 121 = .ok (.lor, 1) := by decide +kernel
theorem dX12_wordOf_122 : decode cX12_wordOf 122 = .ok (.lastore, 1) := by decide +kernel
theorem dX12_wordOf_123 : decode cX12_wordOf 123 = .ok (.iinc 8 (-1), 3) := by decide +kernel
theorem dX12_wordOf_126 : decode cX12_wordOf 126 = .ok (.goto (-30), 3) := by decide +kernel
theorem dX12_wordOf_129 : decode cX12_wordOf 129 = .ok (.iinc 5 1, 3) := by decide +kernel
theorem dX12_wordOf_132 : decode cX12_wordOf 132 = .ok (.goto (-67), 3) := by decide +kernel
theorem dX12_wordOf_135 : decode cX12_wordOf 135 = .ok (.aload_n 0, 1) := by decide +kernel
theorem dX12_wordOf_136 : decode cX12_wordOf 136 = .ok (.getfield 76, 3) := by decide +kernel
theorem dX12_wordOf_139 : decode cX12_wordOf 139 = .ok (.aload_n 0, 1) := by decide +kernel
theorem dX12_wordOf_140 : decode cX12_wordOf 140 = .ok (.getfield 31, 3) := by decide +kernel
theorem dX12_wordOf_143 : decode cX12_wordOf 143 = .ok (.iload_n 1, 1) := by decide +kernel
theorem dX12_wordOf_144 : decode cX12_wordOf 144 = .ok (.iaload, 1) := by decide +kernel
theorem dX12_wordOf_145 : decode cX12_wordOf 145 = .ok (.laload, 1) := by decide +kernel
theorem dX12_wordOf_146 : decode cX12_wordOf 146 = .ok (.lreturn, 1) := by decide +kernel
theorem dX12_wordOf_147 : decode cX12_wordOf 147 = .ok (.aload_n 0, 1) := by decide +kernel
theorem dX12_wordOf_148 : decode cX12_wordOf 148 = .ok (.getfield 28, 3) := by decide +kernel
theorem dX12_wordOf_151 : decode cX12_wordOf 151 = .ok (.iload_n 1, 1) := by decide +kernel
theorem dX12_wordOf_152 : decode cX12_wordOf 152 = .ok (.iaload, 1) := by decide +kernel
theorem dX12_wordOf_153 : decode cX12_wordOf 153 = .ok (.iconst 1, 1) := by decide +kernel
theorem dX12_wordOf_154 : decode cX12_wordOf 154 = .ok (.if_icmp .ne 7, 3) := by decide +kernel
theorem dX12_wordOf_157 : decode cX12_wordOf 157 = .ok (.lconst 0, 1) := by decide +kernel
theorem dX12_wordOf_158 : decode cX12_wordOf 158 = .ok (.goto 6, 3) := by decide +kernel
theorem dX12_wordOf_161 : decode cX12_wordOf 161 = .ok (.ldc2_w 265, 3) := by decide +kernel
theorem dX12_wordOf_164 : decode cX12_wordOf 164 = .ok (.lstore 5, 2) := by decide +kernel
theorem dX12_wordOf_166 : decode cX12_wordOf 166 = .ok (.iload_n 3, 1) := by decide +kernel
theorem dX12_wordOf_167 : decode cX12_wordOf 167 = .ok (.istore 7, 2) := by decide +kernel
theorem dX12_wordOf_169 : decode cX12_wordOf 169 = .ok (.iload 7, 2) := by decide +kernel
theorem dX12_wordOf_171 : decode cX12_wordOf 171 = .ok (.iload 4, 2) := by decide +kernel
theorem dX12_wordOf_173 : decode cX12_wordOf 173 = .ok (.if_icmp .ge 54, 3) := by decide +kernel
theorem dX12_wordOf_176 : decode cX12_wordOf 176 = .ok (.aload_n 0, 1) := by decide +kernel
theorem dX12_wordOf_177 : decode cX12_wordOf 177 = .ok (.getfield 53, 3) := by decide +kernel
theorem dX12_wordOf_180 : decode cX12_wordOf 180 = .ok (.sipush 1024, 3) := by decide +kernel
theorem dX12_wordOf_183 : decode cX12_wordOf 183 = .ok (.aload_n 0, 1) := by decide +kernel
theorem dX12_wordOf_184 : decode cX12_wordOf 184 = .ok (.getfield 43, 3) := by decide +kernel
theorem dX12_wordOf_187 : decode cX12_wordOf 187 = .ok (.iload 7, 2) := by decide +kernel
theorem dX12_wordOf_189 : decode cX12_wordOf 189 = .ok (.iaload, 1) := by decide +kernel
theorem dX12_wordOf_190 : decode cX12_wordOf 190 = .ok (.imul, 1) := by decide +kernel
theorem dX12_wordOf_191 : decode cX12_wordOf 191 = .ok (.iload_n 2, 1) := by decide +kernel
theorem dX12_wordOf_192 : decode cX12_wordOf 192 = .ok (.iadd, 1) := by decide +kernel
theorem dX12_wordOf_193 : decode cX12_wordOf 193 = .ok (.laload, 1) := by decide +kernel
theorem dX12_wordOf_194 : decode cX12_wordOf 194 = .ok (.lstore 8, 2) := by decide +kernel
theorem dX12_wordOf_196 : decode cX12_wordOf 196 = .ok (.aload_n 0, 1) := by decide +kernel
theorem dX12_wordOf_197 : decode cX12_wordOf 197 = .ok (.getfield 28, 3) := by decide +kernel
theorem dX12_wordOf_200 : decode cX12_wordOf 200 = .ok (.iload_n 1, 1) := by decide +kernel
theorem dX12_wordOf_201 : decode cX12_wordOf 201 = .ok (.iaload, 1) := by decide +kernel
theorem dX12_wordOf_202 : decode cX12_wordOf 202 = .ok (.iconst 1, 1) := by decide +kernel
theorem dX12_wordOf_203 : decode cX12_wordOf 203 = .ok (.if_icmp .ne 11, 3) := by decide +kernel
theorem dX12_wordOf_206 : decode cX12_wordOf 206 = .ok (.lload 5, 2) := by decide +kernel
theorem dX12_wordOf_208 : decode cX12_wordOf 208 = .ok (.lload 8, 2) := by decide +kernel
theorem dX12_wordOf_210 : decode cX12_wordOf 210 = .ok (.lor, 1) := by decide +kernel
theorem dX12_wordOf_211 : decode cX12_wordOf 211 = .ok (.goto 8, 3) := by decide +kernel
theorem dX12_wordOf_214 : decode cX12_wordOf 214 = .ok (.lload 5, 2) := by decide +kernel
theorem dX12_wordOf_216 : decode cX12_wordOf 216 = .ok (.lload 8, 2) := by decide +kernel
theorem dX12_wordOf_218 : decode cX12_wordOf 218 = .ok (.land, 1) := by decide +kernel
theorem dX12_wordOf_219 : decode cX12_wordOf 219 = .ok (.lstore 5, 2) := by decide +kernel
theorem dX12_wordOf_221 : decode cX12_wordOf 221 = .ok (.iinc 7 1, 3) := by decide +kernel
theorem dX12_wordOf_224 : decode cX12_wordOf 224 = .ok (.goto (-55), 3) := by decide +kernel
theorem dX12_wordOf_227 : decode cX12_wordOf 227 = .ok (.lload 5, 2) := by decide +kernel
theorem dX12_wordOf_229 : decode cX12_wordOf 229 = .ok (.lreturn, 1) := by decide +kernel
theorem dX12_isReached_0 : decode cX12_isReached 0 = .ok (.aload_n 0, 1) := by decide +kernel
theorem dX12_isReached_1 : decode cX12_isReached 1 = .ok (.getfield 53, 3) := by decide +kernel
theorem dX12_isReached_4 : decode cX12_isReached 4 = .ok (.sipush 1024, 3) := by decide +kernel
theorem dX12_isReached_7 : decode cX12_isReached 7 = .ok (.iload_n 1, 1) := by decide +kernel
theorem dX12_isReached_8 : decode cX12_isReached 8 = .ok (.imul, 1) := by decide +kernel
theorem dX12_isReached_9 : decode cX12_isReached 9 = .ok (.iload_n 2, 1) := by decide +kernel
theorem dX12_isReached_10 : decode cX12_isReached 10 = .ok (.bipush 6, 2) := by decide +kernel
theorem dX12_isReached_12 : decode cX12_isReached 12 = .ok (.ishr, 1) := by decide +kernel
theorem dX12_isReached_13 : decode cX12_isReached 13 = .ok (.iadd, 1) := by decide +kernel
theorem dX12_isReached_14 : decode cX12_isReached 14 = .ok (.laload, 1) := by decide +kernel
theorem dX12_isReached_15 : decode cX12_isReached 15 = .ok (.iload_n 2, 1) := by decide +kernel
theorem dX12_isReached_16 : decode cX12_isReached 16 = .ok (.bipush 63, 2) := by decide +kernel
theorem dX12_isReached_18 : decode cX12_isReached 18 = .ok (.iand, 1) := by decide +kernel
theorem dX12_isReached_19 : decode cX12_isReached 19 = .ok (.lshr, 1) := by decide +kernel
theorem dX12_isReached_20 : decode cX12_isReached 20 = .ok (.lconst 1, 1) := by decide +kernel
theorem dX12_isReached_21 : decode cX12_isReached 21 = .ok (.land, 1) := by decide +kernel
theorem dX12_isReached_22 : decode cX12_isReached 22 = .ok (.lconst 1, 1) := by decide +kernel
theorem dX12_isReached_23 : decode cX12_isReached 23 = .ok (.lcmp, 1) := by decide +kernel
theorem dX12_isReached_24 : decode cX12_isReached 24 = .ok (.ifCond .ne 7, 3) := by decide +kernel
theorem dX12_isReached_27 : decode cX12_isReached 27 = .ok (.iconst 1, 1) := by decide +kernel
theorem dX12_isReached_28 : decode cX12_isReached 28 = .ok (.goto 4, 3) := by decide +kernel
theorem dX12_isReached_31 : decode cX12_isReached 31 = .ok (.iconst 0, 1) := by decide +kernel
theorem dX12_isReached_32 : decode cX12_isReached 32 = .ok (.ireturn, 1) := by decide +kernel
theorem dX12_why_0 : decode cX12_why 0 = .ok (.iload_n 1, 1) := by decide +kernel
theorem dX12_why_1 : decode cX12_why 1 = .ok (.invokestatic 249, 3) := by decide +kernel
theorem dX12_why_4 : decode cX12_why 4 = .ok (.ifCond .eq 7, 3) := by decide +kernel
theorem dX12_why_7 : decode cX12_why 7 = .ok (.iload_n 2, 1) := by decide +kernel
theorem dX12_why_8 : decode cX12_why 8 = .ok (.ifCond .ne 8, 3) := by decide +kernel
theorem dX12_why_11 : decode cX12_why 11 = .ok (.bipush (-2), 2) := by decide +kernel
theorem dX12_why_13 : decode cX12_why 13 = .ok (.goto 19, 3) := by decide +kernel
theorem dX12_why_16 : decode cX12_why 16 = .ok (.aload_n 0, 1) := by decide +kernel
theorem dX12_why_17 : decode cX12_why 17 = .ok (.getfield 49, 3) := by decide +kernel
theorem dX12_why_20 : decode cX12_why 20 = .ok (.iload_n 1, 1) := by decide +kernel
theorem dX12_why_21 : decode cX12_why 21 = .ok (.iaload, 1) := by decide +kernel
theorem dX12_why_22 : decode cX12_why 22 = .ok (.iconst (-1), 1) := by decide +kernel
theorem dX12_why_23 : decode cX12_why 23 = .ok (.if_icmp .ne 8, 3) := by decide +kernel
theorem dX12_why_26 : decode cX12_why 26 = .ok (.bipush (-3), 2) := by decide +kernel
theorem dX12_why_28 : decode cX12_why 28 = .ok (.goto 4, 3) := by decide +kernel
theorem dX12_why_31 : decode cX12_why 31 = .ok (.iconst 1, 1) := by decide +kernel
theorem dX12_why_32 : decode cX12_why 32 = .ok (.ireturn, 1) := by decide +kernel
theorem dX12_knotOf_0 : decode cX12_knotOf 0 = .ok (.iload_n 2, 1) := by decide +kernel
theorem dX12_knotOf_1 : decode cX12_knotOf 1 = .ok (.tableswitch 72 0 3 #[31, 33, 40, 65], 31) := by decide +kernel
theorem dX12_knotOf_32 : decode cX12_knotOf 32 = .ok (.iload_n 1, 1) := by decide +kernel
theorem dX12_knotOf_33 : decode cX12_knotOf 33 = .ok (.ireturn, 1) := by decide +kernel
theorem dX12_knotOf_34 : decode cX12_knotOf 34 = .ok (.aload_n 0, 1) := by decide +kernel
theorem dX12_knotOf_35 : decode cX12_knotOf 35 = .ok (.getfield 28, 3) := by decide +kernel
theorem dX12_knotOf_38 : decode cX12_knotOf 38 = .ok (.iload_n 1, 1) := by decide +kernel
theorem dX12_knotOf_39 : decode cX12_knotOf 39 = .ok (.iaload, 1) := by decide +kernel
theorem dX12_knotOf_40 : decode cX12_knotOf 40 = .ok (.ireturn, 1) := by decide +kernel
theorem dX12_knotOf_41 : decode cX12_knotOf 41 = .ok (.aload_n 0, 1) := by decide +kernel
theorem dX12_knotOf_42 : decode cX12_knotOf 42 = .ok (.getfield 28, 3) := by decide +kernel
theorem dX12_knotOf_45 : decode cX12_knotOf 45 = .ok (.iload_n 1, 1) := by decide +kernel
theorem dX12_knotOf_46 : decode cX12_knotOf 46 = .ok (.iaload, 1) := by decide +kernel
theorem dX12_knotOf_47 : decode cX12_knotOf 47 = .ok (.ifCond .ne 12, 3) := by decide +kernel
theorem dX12_knotOf_50 : decode cX12_knotOf 50 = .ok (.aload_n 0, 1) := by decide +kernel
theorem dX12_knotOf_51 : decode cX12_knotOf 51 = .ok (.getfield 34, 3) := by decide +kernel
theorem dX12_knotOf_54 : decode cX12_knotOf 54 = .ok (.iload_n 1, 1) := by decide +kernel
theorem dX12_knotOf_55 : decode cX12_knotOf 55 = .ok (.iaload, 1) := by decide +kernel
theorem dX12_knotOf_56 : decode cX12_knotOf 56 = .ok (.goto 9, 3) := by decide +kernel
theorem dX12_knotOf_59 : decode cX12_knotOf 59 = .ok (.aload_n 0, 1) := by decide +kernel
theorem dX12_knotOf_60 : decode cX12_knotOf 60 = .ok (.getfield 40, 3) := by decide +kernel
theorem dX12_knotOf_63 : decode cX12_knotOf 63 = .ok (.iload_n 1, 1) := by decide +kernel
theorem dX12_knotOf_64 : decode cX12_knotOf 64 = .ok (.iaload, 1) := by decide +kernel
theorem dX12_knotOf_65 : decode cX12_knotOf 65 = .ok (.ireturn, 1) := by decide +kernel
theorem dX12_knotOf_66 : decode cX12_knotOf 66 = .ok (.aload_n 0, 1) := by decide +kernel
theorem dX12_knotOf_67 : decode cX12_knotOf 67 = .ok (.getfield 31, 3) := by decide +kernel
theorem dX12_knotOf_70 : decode cX12_knotOf 70 = .ok (.iload_n 1, 1) := by decide +kernel
theorem dX12_knotOf_71 : decode cX12_knotOf 71 = .ok (.iaload, 1) := by decide +kernel
theorem dX12_knotOf_72 : decode cX12_knotOf 72 = .ok (.ireturn, 1) := by decide +kernel
theorem dX12_knotOf_73 : decode cX12_knotOf 73 = .ok (.aload_n 0, 1) := by decide +kernel
theorem dX12_knotOf_74 : decode cX12_knotOf 74 = .ok (.getfield 46, 3) := by decide +kernel
theorem dX12_knotOf_77 : decode cX12_knotOf 77 = .ok (.iload_n 1, 1) := by decide +kernel
theorem dX12_knotOf_78 : decode cX12_knotOf 78 = .ok (.iaload, 1) := by decide +kernel
theorem dX12_knotOf_79 : decode cX12_knotOf 79 = .ok (.ireturn, 1) := by decide +kernel
theorem dX12_knot_0 : decode cX12_knot 0 = .ok (.aload_n 0, 1) := by decide +kernel
theorem dX12_knot_1 : decode cX12_knot 1 = .ok (.iload_n 1, 1) := by decide +kernel
theorem dX12_knot_2 : decode cX12_knot 2 = .ok (.iload_n 2, 1) := by decide +kernel
theorem dX12_knot_3 : decode cX12_knot 3 = .ok (.iconst 0, 1) := by decide +kernel
theorem dX12_knot_4 : decode cX12_knot 4 = .ok (.iconst 4, 1) := by decide +kernel
theorem dX12_knot_5 : decode cX12_knot 5 = .ok (.invokestatic 179, 3) := by decide +kernel
theorem dX12_knot_8 : decode cX12_knot 8 = .ok (.invokevirtual 271, 3) := by decide +kernel
theorem dX12_knot_11 : decode cX12_knot 11 = .ok (.istore_n 3, 1) := by decide +kernel
theorem dX12_knot_12 : decode cX12_knot 12 = .ok (.iload_n 3, 1) := by decide +kernel
theorem dX12_knot_13 : decode cX12_knot 13 = .ok (.iconst 1, 1) := by decide +kernel
theorem dX12_knot_14 : decode cX12_knot 14 = .ok (.if_icmp .eq 7, 3) := by decide +kernel
theorem dX12_knot_17 : decode cX12_knot 17 = .ok (.iload_n 3, 1) := by decide +kernel
theorem dX12_knot_18 : decode cX12_knot 18 = .ok (.goto 14, 3) := by decide +kernel
theorem dX12_knot_21 : decode cX12_knot 21 = .ok (.aload_n 0, 1) := by decide +kernel
theorem dX12_knot_22 : decode cX12_knot 22 = .ok (.aload_n 0, 1) := by decide +kernel
theorem dX12_knot_23 : decode cX12_knot 23 = .ok (.getfield 49, 3) := by decide +kernel
theorem dX12_knot_26 : decode cX12_knot 26 = .ok (.iload_n 1, 1) := by decide +kernel
theorem dX12_knot_27 : decode cX12_knot 27 = .ok (.iaload, 1) := by decide +kernel
theorem dX12_knot_28 : decode cX12_knot 28 = .ok (.iload_n 2, 1) := by decide +kernel
theorem dX12_knot_29 : decode cX12_knot 29 = .ok (.invokevirtual 275, 3) := by decide +kernel
theorem dX12_knot_32 : decode cX12_knot 32 = .ok (.ireturn, 1) := by decide +kernel
theorem dX12_part_0 : decode cX12_part 0 = .ok (.iload_n 1, 1) := by decide +kernel
theorem dX12_part_1 : decode cX12_part 1 = .ok (.iconst 0, 1) := by decide +kernel
theorem dX12_part_2 : decode cX12_part 2 = .ok (.aload_n 0, 1) := by decide +kernel
theorem dX12_part_3 : decode cX12_part 3 = .ok (.getfield 194, 3) := by decide +kernel
theorem dX12_part_6 : decode cX12_part 6 = .ok (.iconst 1, 1) := by decide +kernel
theorem dX12_part_7 : decode cX12_part 7 = .ok (.isub, 1) := by decide +kernel
theorem dX12_part_8 : decode cX12_part 8 = .ok (.invokestatic 179, 3) := by decide +kernel
theorem dX12_part_11 : decode cX12_part 11 = .ok (.ifCond .eq 7, 3) := by decide +kernel
theorem dX12_part_14 : decode cX12_part 14 = .ok (.iload_n 2, 1) := by decide +kernel
theorem dX12_part_15 : decode cX12_part 15 = .ok (.ifCond .ge 6, 3) := by decide +kernel
theorem dX12_part_18 : decode cX12_part 18 = .ok (.bipush (-2), 2) := by decide +kernel
theorem dX12_part_20 : decode cX12_part 20 = .ok (.ireturn, 1) := by decide +kernel
theorem dX12_part_21 : decode cX12_part 21 = .ok (.iload_n 2, 1) := by decide +kernel
theorem dX12_part_22 : decode cX12_part 22 = .ok (.aload_n 0, 1) := by decide +kernel
theorem dX12_part_23 : decode cX12_part 23 = .ok (.getfield 40, 3) := by decide +kernel
theorem dX12_part_26 : decode cX12_part 26 = .ok (.iload_n 1, 1) := by decide +kernel
theorem dX12_part_27 : decode cX12_part 27 = .ok (.iaload, 1) := by decide +kernel
theorem dX12_part_28 : decode cX12_part 28 = .ok (.if_icmp .ge 19, 3) := by decide +kernel
theorem dX12_part_31 : decode cX12_part 31 = .ok (.aload_n 0, 1) := by decide +kernel
theorem dX12_part_32 : decode cX12_part 32 = .ok (.getfield 43, 3) := by decide +kernel
theorem dX12_part_35 : decode cX12_part 35 = .ok (.aload_n 0, 1) := by decide +kernel
theorem dX12_part_36 : decode cX12_part 36 = .ok (.getfield 37, 3) := by decide +kernel
theorem dX12_part_39 : decode cX12_part 39 = .ok (.iload_n 1, 1) := by decide +kernel
theorem dX12_part_40 : decode cX12_part 40 = .ok (.iaload, 1) := by decide +kernel
theorem dX12_part_41 : decode cX12_part 41 = .ok (.iload_n 2, 1) := by decide +kernel
theorem dX12_part_42 : decode cX12_part 42 = .ok (.iadd, 1) := by decide +kernel
theorem dX12_part_43 : decode cX12_part 43 = .ok (.iaload, 1) := by decide +kernel
theorem dX12_part_44 : decode cX12_part 44 = .ok (.goto 4, 3) := by decide +kernel
theorem dX12_part_47 : decode cX12_part 47 = .ok (.iconst (-1), 1) := by decide +kernel
theorem dX12_part_48 : decode cX12_part 48 = .ok (.ireturn, 1) := by decide +kernel
theorem dX12_isSet_0 : decode cX12_isSet 0 = .ok (.iload_n 0, 1) := by decide +kernel
theorem dX12_isSet_1 : decode cX12_isSet 1 = .ok (.iconst 0, 1) := by decide +kernel
theorem dX12_isSet_2 : decode cX12_isSet 2 = .ok (.ldc_w 278, 3) := by decide +kernel
theorem dX12_isSet_5 : decode cX12_isSet 5 = .ok (.invokestatic 179, 3) := by decide +kernel
theorem dX12_isSet_8 : decode cX12_isSet 8 = .ok (.ireturn, 1) := by decide +kernel
theorem dX12_reaches_0 : decode cX12_reaches 0 = .ok (.aload_n 0, 1) := by decide +kernel
theorem dX12_reaches_1 : decode cX12_reaches 1 = .ok (.iload_n 1, 1) := by decide +kernel
theorem dX12_reaches_2 : decode cX12_reaches 2 = .ok (.iload_n 2, 1) := by decide +kernel
theorem dX12_reaches_3 : decode cX12_reaches 3 = .ok (.invokestatic 279, 3) := by decide +kernel
theorem dX12_reaches_6 : decode cX12_reaches 6 = .ok (.invokevirtual 271, 3) := by decide +kernel
theorem dX12_reaches_9 : decode cX12_reaches 9 = .ok (.istore_n 3, 1) := by decide +kernel
theorem dX12_reaches_10 : decode cX12_reaches 10 = .ok (.iload_n 3, 1) := by decide +kernel
theorem dX12_reaches_11 : decode cX12_reaches 11 = .ok (.iconst 1, 1) := by decide +kernel
theorem dX12_reaches_12 : decode cX12_reaches 12 = .ok (.if_icmp .eq 7, 3) := by decide +kernel
theorem dX12_reaches_15 : decode cX12_reaches 15 = .ok (.iload_n 3, 1) := by decide +kernel
theorem dX12_reaches_16 : decode cX12_reaches 16 = .ok (.goto 22, 3) := by decide +kernel
theorem dX12_reaches_19 : decode cX12_reaches 19 = .ok (.aload_n 0, 1) := by decide +kernel
theorem dX12_reaches_20 : decode cX12_reaches 20 = .ok (.aload_n 0, 1) := by decide +kernel
theorem dX12_reaches_21 : decode cX12_reaches 21 = .ok (.getfield 49, 3) := by decide +kernel
theorem dX12_reaches_24 : decode cX12_reaches 24 = .ok (.iload_n 1, 1) := by decide +kernel
theorem dX12_reaches_25 : decode cX12_reaches 25 = .ok (.iaload, 1) := by decide +kernel
theorem dX12_reaches_26 : decode cX12_reaches 26 = .ok (.iload_n 2, 1) := by decide +kernel
theorem dX12_reaches_27 : decode cX12_reaches 27 = .ok (.invokevirtual 282, 3) := by decide +kernel
theorem dX12_reaches_30 : decode cX12_reaches 30 = .ok (.ifCond .eq 7, 3) := by decide +kernel
theorem dX12_reaches_33 : decode cX12_reaches 33 = .ok (.iconst 1, 1) := by decide +kernel
theorem dX12_reaches_34 : decode cX12_reaches 34 = .ok (.goto 4, 3) := by decide +kernel
theorem dX12_reaches_37 : decode cX12_reaches 37 = .ok (.iconst 0, 1) := by decide +kernel
theorem dX12_reaches_38 : decode cX12_reaches 38 = .ok (.ireturn, 1) := by decide +kernel
theorem dX12_sizeOf_0 : decode cX12_sizeOf 0 = .ok (.iconst 0, 1) := by decide +kernel
theorem dX12_sizeOf_1 : decode cX12_sizeOf 1 = .ok (.istore_n 1, 1) := by decide +kernel
theorem dX12_sizeOf_2 : decode cX12_sizeOf 2 = .ok (.iload_n 0, 1) := by decide +kernel
theorem dX12_sizeOf_3 : decode cX12_sizeOf 3 = .ok (.istore_n 2, 1) := by decide +kernel
theorem dX12_sizeOf_4 : decode cX12_sizeOf 4 = .ok (.iload_n 2, 1) := by decide +kernel
theorem dX12_sizeOf_5 : decode cX12_sizeOf 5 = .ok (.ifCond .le 16, 3) := by decide +kernel
theorem dX12_sizeOf_8 : decode cX12_sizeOf 8 = .ok (.iload_n 1, 1) := by decide +kernel
theorem dX12_sizeOf_9 : decode cX12_sizeOf 9 = .ok (.iload_n 2, 1) := by decide +kernel
theorem dX12_sizeOf_10 : decode cX12_sizeOf 10 = .ok (.iconst 1, 1) := by decide +kernel
theorem dX12_sizeOf_11 : decode cX12_sizeOf 11 = .ok (.iand, 1) := by decide +kernel
theorem dX12_sizeOf_12 : decode cX12_sizeOf 12 = .ok (.iadd, 1) := by decide +kernel
theorem dX12_sizeOf_13 : decode cX12_sizeOf 13 = .ok (.istore_n 1, 1) := by decide +kernel
theorem dX12_sizeOf_14 : decode cX12_sizeOf 14 = .ok (.iload_n 2, 1) := by decide +kernel
theorem dX12_sizeOf_15 : decode cX12_sizeOf 15 = .ok (.iconst 1, 1) := by decide +kernel
theorem dX12_sizeOf_16 : decode cX12_sizeOf 16 = .ok (.ishr, 1) := by decide +kernel
theorem dX12_sizeOf_17 : decode cX12_sizeOf 17 = .ok (.istore_n 2, 1) := by decide +kernel
theorem dX12_sizeOf_18 : decode cX12_sizeOf 18 = .ok (.goto (-14), 3) := by decide +kernel
theorem dX12_sizeOf_21 : decode cX12_sizeOf 21 = .ok (.iload_n 1, 1) := by decide +kernel
theorem dX12_sizeOf_22 : decode cX12_sizeOf 22 = .ok (.ireturn, 1) := by decide +kernel
theorem dX12_findLesser_0 : decode cX12_findLesser 0 = .ok (.iconst 0, 1) := by decide +kernel
theorem dX12_findLesser_1 : decode cX12_findLesser 1 = .ok (.istore_n 2, 1) := by decide +kernel
theorem dX12_findLesser_2 : decode cX12_findLesser 2 = .ok (.iload_n 2, 1) := by decide +kernel
theorem dX12_findLesser_3 : decode cX12_findLesser 3 = .ok (.sipush 1024, 3) := by decide +kernel
theorem dX12_findLesser_6 : decode cX12_findLesser 6 = .ok (.if_icmp .ge 16, 3) := by decide +kernel
theorem dX12_findLesser_9 : decode cX12_findLesser 9 = .ok (.aload_n 0, 1) := by decide +kernel
theorem dX12_findLesser_10 : decode cX12_findLesser 10 = .ok (.getfield 79, 3) := by decide +kernel
theorem dX12_findLesser_13 : decode cX12_findLesser 13 = .ok (.iload_n 2, 1) := by decide +kernel
theorem dX12_findLesser_14 : decode cX12_findLesser 14 = .ok (.lconst 0, 1) := by decide +kernel
theorem dX12_findLesser_15 : decode cX12_findLesser 15 = .ok (.lastore, 1) := by decide +kernel
theorem dX12_findLesser_16 : decode cX12_findLesser 16 = .ok (.iinc 2 1, 3) := by decide +kernel
theorem dX12_findLesser_19 : decode cX12_findLesser 19 = .ok (.goto (-17), 3) := by decide +kernel
theorem dX12_findLesser_22 : decode cX12_findLesser 22 = .ok (.iconst 0, 1) := by decide +kernel
theorem dX12_findLesser_23 : decode cX12_findLesser 23 = .ok (.istore_n 2, 1) := by decide +kernel
theorem dX12_findLesser_24 : decode cX12_findLesser 24 = .ok (.iload_n 2, 1) := by decide +kernel
theorem dX12_findLesser_25 : decode cX12_findLesser 25 = .ok (.bipush 16, 2) := by decide +kernel
theorem dX12_findLesser_27 : decode cX12_findLesser 27 = .ok (.if_icmp .ge 125, 3) := by decide +kernel
theorem dX12_findLesser_30 : decode cX12_findLesser 30 = .ok (.iload_n 2, 1) := by decide +kernel
theorem dX12_findLesser_31 : decode cX12_findLesser 31 = .ok (.bipush 6, 2) := by decide +kernel
theorem dX12_findLesser_33 : decode cX12_findLesser 33 = .ok (.if_icmp .ge 14, 3) := by decide +kernel
theorem dX12_findLesser_36 : decode cX12_findLesser 36 = .ok (.iload_n 2, 1) := by decide +kernel
theorem dX12_findLesser_37 : decode cX12_findLesser 37 = .ok (.invokestatic 258, 3) := by decide +kernel
theorem dX12_findLesser_40 : decode cX12_findLesser 40 = .ok (.ldc2_w 265, 3) := by decide +kernel
theorem dX12_findLesser_43 : decode cX12_findLesser 43 = .ok (.lxor, 1) := by decide +kernel
theorem dX12_findLesser_44 : decode cX12_findLesser 44 = .ok (.goto 4, 3) := by decide +kernel
theorem dX12_findLesser_47 : decode cX12_findLesser 47 = .ok (.lconst 0, 1) := by decide +kernel
theorem dX12_findLesser_48 : decode cX12_findLesser 48 = .ok (.lstore_n 3, 1) := by decide +kernel
theorem dX12_findLesser_49 : decode cX12_findLesser 49 = .ok (.iconst 0, 1) := by decide +kernel
theorem dX12_findLesser_50 : decode cX12_findLesser 50 = .ok (.istore 5, 2) := by decide +kernel
theorem dX12_findLesser_52 : decode cX12_findLesser 52 = .ok (.iload 5, 2) := by decide +kernel
theorem dX12_findLesser_54 : decode cX12_findLesser 54 = .ok (.sipush 1024, 3) := by decide +kernel
theorem dX12_findLesser_57 : decode cX12_findLesser 57 = .ok (.if_icmp .ge 89, 3) := by decide +kernel
theorem dX12_findLesser_60 : decode cX12_findLesser 60 = .ok (.iload_n 2, 1) := by decide +kernel
theorem dX12_findLesser_61 : decode cX12_findLesser 61 = .ok (.bipush 6, 2) := by decide +kernel
theorem dX12_findLesser_63 : decode cX12_findLesser 63 = .ok (.if_icmp .ge 35, 3) := by decide +kernel
theorem dX12_findLesser_66 : decode cX12_findLesser 66 = .ok (.aload_n 0, 1) := by decide +kernel
theorem dX12_findLesser_67 : decode cX12_findLesser 67 = .ok (.getfield 79, 3) := by decide +kernel
theorem dX12_findLesser_70 : decode cX12_findLesser 70 = .ok (.iload 5, 2) := by decide +kernel
theorem dX12_findLesser_72 : decode cX12_findLesser 72 = .ok (.dup2, 1) := by decide +kernel
theorem dX12_findLesser_73 : decode cX12_findLesser 73 = .ok (.laload, 1) := by decide +kernel
theorem dX12_findLesser_74 : decode cX12_findLesser 74 = .ok (.aload_n 0, 1) := by decide +kernel
theorem dX12_findLesser_75 : decode cX12_findLesser 75 = .ok (.getfield 53, 3) := by decide +kernel
theorem dX12_findLesser_78 : decode cX12_findLesser 78 = .ok (.sipush 1024, 3) := by decide +kernel
theorem dX12_findLesser_81 : decode cX12_findLesser 81 = .ok (.iload_n 1, 1) := by decide +kernel
theorem dX12_findLesser_82 : decode cX12_findLesser 82 = .ok (.imul, 1) := by decide +kernel
theorem dX12_findLesser_83 : decode cX12_findLesser 83 = .ok (.iload 5, 2) := by decide +kernel
theorem dX12_findLesser_85 : decode cX12_findLesser 85 = .ok (.iadd, 1) := by decide +kernel
theorem dX12_findLesser_86 : decode cX12_findLesser 86 = .ok (.laload, 1) := by decide +kernel
theorem dX12_findLesser_87 : decode cX12_findLesser 87 = .ok (.lload_n 3, 1) := by decide +kernel
theorem dX12_findLesser_88 : decode cX12_findLesser 88 = .ok (.land, 1) := by decide +kernel
theorem dX12_findLesser_89 : decode cX12_findLesser 89 = .ok (.iconst 1, 1) := by decide +kernel
theorem dX12_findLesser_90 : decode cX12_findLesser 90 = .ok (.iload_n 2, 1) := by decide +kernel
theorem dX12_findLesser_91 : decode cX12_findLesser 91 = .ok (.ishl, 1) := by decide +kernel
theorem dX12_findLesser_92 : decode cX12_findLesser 92 = .ok (.lshl, 1) := by decide +kernel
theorem dX12_findLesser_93 : decode cX12_findLesser 93 = .ok (.lor, 1) := by decide +kernel
theorem dX12_findLesser_94 : decode cX12_findLesser 94 = .ok (.lastore, 1) := by decide +kernel
theorem dX12_findLesser_95 : decode cX12_findLesser 95 = .ok (.goto 45, 3) := by decide +kernel
theorem dX12_findLesser_98 : decode cX12_findLesser 98 = .ok (.iload 5, 2) := by decide +kernel
theorem dX12_findLesser_100 : decode cX12_findLesser 100 = .ok (.iconst 0, 1) := by decide +kernel
theorem dX12_findLesser_101 : decode cX12_findLesser 101 = .ok (.iload_n 2, 1) := by decide +kernel
theorem dX12_findLesser_102 : decode cX12_findLesser 102 = .ok (.invokestatic 262, 3) := by decide +kernel
theorem dX12_findLesser_105 : decode cX12_findLesser 105 = .ok (.ifCond .eq 35, 3) := by decide +kernel
theorem dX12_findLesser_108 : decode cX12_findLesser 108 = .ok (.aload_n 0, 1) := by decide +kernel
theorem dX12_findLesser_109 : decode cX12_findLesser 109 = .ok (.getfield 79, 3) := by decide +kernel
theorem dX12_findLesser_112 : decode cX12_findLesser 112 = .ok (.iload 5, 2) := by decide +kernel
theorem dX12_findLesser_114 : decode cX12_findLesser 114 = .ok (.dup2, 1) := by decide +kernel
theorem dX12_findLesser_115 : decode cX12_findLesser 115 = .ok (.laload, 1) := by decide +kernel
theorem dX12_findLesser_116 : decode cX12_findLesser 116 = .ok (.aload_n 0, 1) := by decide +kernel
theorem dX12_findLesser_117 : decode cX12_findLesser 117 = .ok (.getfield 53, 3) := by decide +kernel
theorem dX12_findLesser_120 : decode cX12_findLesser 120 = .ok (.sipush 1024, 3) := by decide +kernel
theorem dX12_findLesser_123 : decode cX12_findLesser 123 = .ok (.iload_n 1, 1) := by decide +kernel
theorem dX12_findLesser_124 : decode cX12_findLesser 124 = .ok (.imul, 1) := by decide +kernel
theorem dX12_findLesser_125 : decode cX12_findLesser 125 = .ok (.iload 5, 2) := by decide +kernel
theorem dX12_findLesser_127 : decode cX12_findLesser 127 = .ok (.iconst 1, 1) := by decide +kernel
theorem dX12_findLesser_128 : decode cX12_findLesser 128 = .ok (.iload_n 2, 1) := by decide +kernel
theorem dX12_findLesser_129 : decode cX12_findLesser 129 = .ok (.bipush 6, 2) := by decide +kernel
theorem dX12_findLesser_131 : decode cX12_findLesser 131 = .ok (.isub, 1) := by decide +kernel
theorem dX12_findLesser_132 : decode cX12_findLesser 132 = .ok (.ishl, 1) := by decide +kernel
theorem dX12_findLesser_133 : decode cX12_findLesser 133 = .ok (.iconst (-1), 1) := by decide +kernel
theorem dX12_findLesser_134 : decode cX12_findLesser 134 = .ok (.ixor, 1) := by decide +kernel
theorem dX12_findLesser_135 : decode cX12_findLesser 135 = .ok (.iand, 1) := by decide +kernel
theorem dX12_findLesser_136 : decode cX12_findLesser 136 = .ok (.iadd, 1) := by decide +kernel
theorem dX12_findLesser_137 : decode cX12_findLesser 137 = .ok (.laload, 1) := by decide +kernel
theorem dX12_findLesser_138 : decode cX12_findLesser 138 = .ok (.lor, 1) := by decide +kernel
theorem dX12_findLesser_139 : decode cX12_findLesser 139 = .ok (.lastore, 1) := by decide +kernel
theorem dX12_findLesser_140 : decode cX12_findLesser 140 = .ok (.iinc 5 1, 3) := by decide +kernel
theorem dX12_findLesser_143 : decode cX12_findLesser 143 = .ok (.goto (-91), 3) := by decide +kernel
theorem dX12_findLesser_146 : decode cX12_findLesser 146 = .ok (.iinc 2 1, 3) := by decide +kernel
theorem dX12_findLesser_149 : decode cX12_findLesser 149 = .ok (.goto (-125), 3) := by decide +kernel
theorem dX12_findLesser_152 : decode cX12_findLesser 152 = .ok (.return_, 1) := by decide +kernel
theorem dX12_countWays_0 : decode cX12_countWays 0 = .ok (.aload_n 0, 1) := by decide +kernel
theorem dX12_countWays_1 : decode cX12_countWays 1 = .ok (.getfield 57, 3) := by decide +kernel
theorem dX12_countWays_4 : decode cX12_countWays 4 = .ok (.iload_n 1, 1) := by decide +kernel
theorem dX12_countWays_5 : decode cX12_countWays 5 = .ok (.iaload, 1) := by decide +kernel
theorem dX12_countWays_6 : decode cX12_countWays 6 = .ok (.iconst (-1), 1) := by decide +kernel
theorem dX12_countWays_7 : decode cX12_countWays 7 = .ok (.if_icmp .ne 79, 3) := by decide +kernel
theorem dX12_countWays_10 : decode cX12_countWays 10 = .ok (.aload_n 0, 1) := by decide +kernel
theorem dX12_countWays_11 : decode cX12_countWays 11 = .ok (.iload_n 1, 1) := by decide +kernel
theorem dX12_countWays_12 : decode cX12_countWays 12 = .ok (.invokevirtual 286, 3) := by decide +kernel
theorem dX12_countWays_15 : decode cX12_countWays 15 = .ok (.iconst 0, 1) := by decide +kernel
theorem dX12_countWays_16 : decode cX12_countWays 16 = .ok (.istore_n 2, 1) := by decide +kernel
theorem dX12_countWays_17 : decode cX12_countWays 17 = .ok (.iconst 0, 1) := by decide +kernel
theorem dX12_countWays_18 : decode cX12_countWays 18 = .ok (.istore_n 3, 1) := by decide +kernel
theorem dX12_countWays_19 : decode cX12_countWays 19 = .ok (.iload_n 3, 1) := by decide +kernel
theorem dX12_countWays_20 : decode cX12_countWays 20 = .ok (.sipush 1024, 3) := by decide +kernel
theorem dX12_countWays_23 : decode cX12_countWays 23 = .ok (.if_icmp .ge 56, 3) := by decide +kernel
theorem dX12_countWays_26 : decode cX12_countWays 26 = .ok (.aload_n 0, 1) := by decide +kernel
theorem dX12_countWays_27 : decode cX12_countWays 27 = .ok (.getfield 53, 3) := by decide +kernel
theorem dX12_countWays_30 : decode cX12_countWays 30 = .ok (.sipush 1024, 3) := by decide +kernel
theorem dX12_countWays_33 : decode cX12_countWays 33 = .ok (.iload_n 1, 1) := by decide +kernel
theorem dX12_countWays_34 : decode cX12_countWays 34 = .ok (.imul, 1) := by decide +kernel
theorem dX12_countWays_35 : decode cX12_countWays 35 = .ok (.iload_n 3, 1) := by decide +kernel
theorem dX12_countWays_36 : decode cX12_countWays 36 = .ok (.iadd, 1) := by decide +kernel
theorem dX12_countWays_37 : decode cX12_countWays 37 = .ok (.laload, 1) := by decide +kernel
theorem dX12_countWays_38 : decode cX12_countWays 38 = .ok (.aload_n 0, 1) := by decide +kernel
theorem dX12_countWays_39 : decode cX12_countWays 39 = .ok (.getfield 79, 3) := by decide +kernel
theorem dX12_countWays_42 : decode cX12_countWays 42 = .ok (.iload_n 3, 1) := by decide +kernel
theorem dX12_countWays_43 : decode cX12_countWays 43 = .ok (.laload, 1) := by decide +kernel
theorem dX12_countWays_44 : decode cX12_countWays 44 = .ok (.ldc2_w 265, 3) := by decide +kernel
theorem dX12_countWays_47 : decode cX12_countWays 47 = .ok (.lxor, 1) := by decide +kernel
theorem dX12_countWays_48 : decode cX12_countWays 48 = .ok (.land, 1) := by decide +kernel
theorem dX12_countWays_49 : decode cX12_countWays 49 = .ok (.lstore 4, 2) := by decide +kernel
theorem dX12_countWays_51 : decode cX12_countWays 51 = .ok (.lload 4, 2) := by decide +kernel
theorem dX12_countWays_53 : decode cX12_countWays 53 = .ok (.lconst 0, 1) := by decide +kernel
theorem dX12_countWays_54 : decode cX12_countWays 54 = .ok (.lcmp, 1) := by decide +kernel
theorem dX12_countWays_55 : decode cX12_countWays 55 = .ok (.ifCond .eq 18, 3) := by decide +kernel
theorem dX12_countWays_58 : decode cX12_countWays 58 = .ok (.iinc 2 1, 3) := by decide +kernel
theorem dX12_countWays_61 : decode cX12_countWays 61 = .ok (.lload 4, 2) := by decide +kernel
theorem dX12_countWays_63 : decode cX12_countWays 63 = .ok (.lload 4, 2) := by decide +kernel
theorem dX12_countWays_65 : decode cX12_countWays 65 = .ok (.lconst 1, 1) := by decide +kernel
theorem dX12_countWays_66 : decode cX12_countWays 66 = .ok (.lsub, 1) := by decide +kernel
theorem dX12_countWays_67 : decode cX12_countWays 67 = .ok (.land, 1) := by decide +kernel
theorem dX12_countWays_68 : decode cX12_countWays 68 = .ok (.lstore 4, 2) := by decide +kernel
theorem dX12_countWays_70 : decode cX12_countWays 70 = .ok (.goto (-19), 3) := by decide +kernel
theorem dX12_countWays_73 : decode cX12_countWays 73 = .ok (.iinc 3 1, 3) := by decide +kernel
theorem dX12_countWays_76 : decode cX12_countWays 76 = .ok (.goto (-57), 3) := by decide +kernel
theorem dX12_countWays_79 : decode cX12_countWays 79 = .ok (.aload_n 0, 1) := by decide +kernel
theorem dX12_countWays_80 : decode cX12_countWays 80 = .ok (.getfield 57, 3) := by decide +kernel
theorem dX12_countWays_83 : decode cX12_countWays 83 = .ok (.iload_n 1, 1) := by decide +kernel
theorem dX12_countWays_84 : decode cX12_countWays 84 = .ok (.iload_n 2, 1) := by decide +kernel
theorem dX12_countWays_85 : decode cX12_countWays 85 = .ok (.iastore, 1) := by decide +kernel
theorem dX12_countWays_86 : decode cX12_countWays 86 = .ok (.aload_n 0, 1) := by decide +kernel
theorem dX12_countWays_87 : decode cX12_countWays 87 = .ok (.getfield 57, 3) := by decide +kernel
theorem dX12_countWays_90 : decode cX12_countWays 90 = .ok (.iload_n 1, 1) := by decide +kernel
theorem dX12_countWays_91 : decode cX12_countWays 91 = .ok (.iaload, 1) := by decide +kernel
theorem dX12_countWays_92 : decode cX12_countWays 92 = .ok (.ireturn, 1) := by decide +kernel
theorem dX12_findWays_0 : decode cX12_findWays 0 = .ok (.iconst 0, 1) := by decide +kernel
theorem dX12_findWays_1 : decode cX12_findWays 1 = .ok (.istore_n 2, 1) := by decide +kernel
theorem dX12_findWays_2 : decode cX12_findWays 2 = .ok (.iload_n 2, 1) := by decide +kernel
theorem dX12_findWays_3 : decode cX12_findWays 3 = .ok (.iload_n 1, 1) := by decide +kernel
theorem dX12_findWays_4 : decode cX12_findWays 4 = .ok (.if_icmp .gt 25, 3) := by decide +kernel
theorem dX12_findWays_7 : decode cX12_findWays 7 = .ok (.aload_n 0, 1) := by decide +kernel
theorem dX12_findWays_8 : decode cX12_findWays 8 = .ok (.getfield 82, 3) := by decide +kernel
theorem dX12_findWays_11 : decode cX12_findWays 11 = .ok (.iload_n 2, 1) := by decide +kernel
theorem dX12_findWays_12 : decode cX12_findWays 12 = .ok (.iload_n 2, 1) := by decide +kernel
theorem dX12_findWays_13 : decode cX12_findWays 13 = .ok (.iload_n 1, 1) := by decide +kernel
theorem dX12_findWays_14 : decode cX12_findWays 14 = .ok (.if_icmp .ne 7, 3) := by decide +kernel
theorem dX12_findWays_17 : decode cX12_findWays 17 = .ok (.iconst 1, 1) := by decide +kernel
theorem dX12_findWays_18 : decode cX12_findWays 18 = .ok (.goto 4, 3) := by decide +kernel
theorem dX12_findWays_21 : decode cX12_findWays 21 = .ok (.iconst 0, 1) := by decide +kernel
theorem dX12_findWays_22 : decode cX12_findWays 22 = .ok (.bastore, 1) := by decide +kernel
theorem dX12_findWays_23 : decode cX12_findWays 23 = .ok (.iinc 2 1, 3) := by decide +kernel
theorem dX12_findWays_26 : decode cX12_findWays 26 = .ok (.goto (-24), 3) := by decide +kernel
theorem dX12_findWays_29 : decode cX12_findWays 29 = .ok (.iload_n 1, 1) := by decide +kernel
theorem dX12_findWays_30 : decode cX12_findWays 30 = .ok (.istore_n 2, 1) := by decide +kernel
theorem dX12_findWays_31 : decode cX12_findWays 31 = .ok (.iload_n 2, 1) := by decide +kernel
theorem dX12_findWays_32 : decode cX12_findWays 32 = .ok (.ifCond .lt 68, 3) := by decide +kernel
theorem dX12_findWays_35 : decode cX12_findWays 35 = .ok (.aload_n 0, 1) := by decide +kernel
theorem dX12_findWays_36 : decode cX12_findWays 36 = .ok (.getfield 82, 3) := by decide +kernel
theorem dX12_findWays_39 : decode cX12_findWays 39 = .ok (.iload_n 2, 1) := by decide +kernel
theorem dX12_findWays_40 : decode cX12_findWays 40 = .ok (.baload, 1) := by decide +kernel
theorem dX12_findWays_41 : decode cX12_findWays 41 = .ok (.ifCond .eq 53, 3) := by decide +kernel
theorem dX12_findWays_44 : decode cX12_findWays 44 = .ok (.aload_n 0, 1) := by decide +kernel
theorem dX12_findWays_45 : decode cX12_findWays 45 = .ok (.iload_n 2, 1) := by decide +kernel
theorem dX12_findWays_46 : decode cX12_findWays 46 = .ok (.invokevirtual 289, 3) := by decide +kernel
theorem dX12_findWays_49 : decode cX12_findWays 49 = .ok (.sipush 200, 3) := by decide +kernel
theorem dX12_findWays_52 : decode cX12_findWays 52 = .ok (.if_icmp .le 5, 3) := by decide +kernel
theorem dX12_findWays_55 : decode cX12_findWays 55 = .ok (.iconst 0, 1) := by decide +kernel
theorem dX12_findWays_56 : decode cX12_findWays 56 = .ok (.ireturn, 1) := by decide +kernel
theorem dX12_findWays_57 : decode cX12_findWays 57 = .ok (.iconst 0, 1) := by decide +kernel
theorem dX12_findWays_58 : decode cX12_findWays 58 = .ok (.istore_n 3, 1) := by decide +kernel
theorem dX12_findWays_59 : decode cX12_findWays 59 = .ok (.iload_n 3, 1) := by decide +kernel
theorem dX12_findWays_60 : decode cX12_findWays 60 = .ok (.aload_n 0, 1) := by decide +kernel
theorem dX12_findWays_61 : decode cX12_findWays 61 = .ok (.getfield 40, 3) := by decide +kernel
theorem dX12_findWays_64 : decode cX12_findWays 64 = .ok (.iload_n 2, 1) := by decide +kernel
theorem dX12_findWays_65 : decode cX12_findWays 65 = .ok (.iaload, 1) := by decide +kernel
theorem dX12_findWays_66 : decode cX12_findWays 66 = .ok (.if_icmp .ge 28, 3) := by decide +kernel
theorem dX12_findWays_69 : decode cX12_findWays 69 = .ok (.aload_n 0, 1) := by decide +kernel
theorem dX12_findWays_70 : decode cX12_findWays 70 = .ok (.getfield 82, 3) := by decide +kernel
theorem dX12_findWays_73 : decode cX12_findWays 73 = .ok (.aload_n 0, 1) := by decide +kernel
theorem dX12_findWays_74 : decode cX12_findWays 74 = .ok (.getfield 43, 3) := by decide +kernel
theorem dX12_findWays_77 : decode cX12_findWays 77 = .ok (.aload_n 0, 1) := by decide +kernel
theorem dX12_findWays_78 : decode cX12_findWays 78 = .ok (.getfield 37, 3) := by decide +kernel
theorem dX12_findWays_81 : decode cX12_findWays 81 = .ok (.iload_n 2, 1) := by decide +kernel
theorem dX12_findWays_82 : decode cX12_findWays 82 = .ok (.iaload, 1) := by decide +kernel
theorem dX12_findWays_83 : decode cX12_findWays 83 = .ok (.iload_n 3, 1) := by decide +kernel
theorem dX12_findWays_84 : decode cX12_findWays 84 = .ok (.iadd, 1) := by decide +kernel
theorem dX12_findWays_85 : decode cX12_findWays 85 = .ok (.iaload, 1) := by decide +kernel
theorem dX12_findWays_86 : decode cX12_findWays 86 = .ok (.iconst 1, 1) := by decide +kernel
theorem dX12_findWays_87 : decode cX12_findWays 87 = .ok (.bastore, 1) := by decide +kernel
theorem dX12_findWays_88 : decode cX12_findWays 88 = .ok (.iinc 3 1, 3) := by decide +kernel
theorem dX12_findWays_91 : decode cX12_findWays 91 = .ok (.goto (-32), 3) := by decide +kernel
theorem dX12_findWays_94 : decode cX12_findWays 94 = .ok (.iinc 2 (-1), 3) := by decide +kernel
theorem dX12_findWays_97 : decode cX12_findWays 97 = .ok (.goto (-66), 3) := by decide +kernel
theorem dX12_findWays_100 : decode cX12_findWays 100 = .ok (.aload_n 0, 1) := by decide +kernel
theorem dX12_findWays_101 : decode cX12_findWays 101 = .ok (.iload_n 1, 1) := by decide +kernel
theorem dX12_findWays_102 : decode cX12_findWays 102 = .ok (.invokevirtual 286, 3) := by decide +kernel
theorem dX12_findWays_105 : decode cX12_findWays 105 = .ok (.aload_n 0, 1) := by decide +kernel
theorem dX12_findWays_106 : decode cX12_findWays 106 = .ok (.iconst 0, 1) := by decide +kernel
theorem dX12_findWays_107 : decode cX12_findWays 107 = .ok (.putfield 292, 3) := by decide +kernel
theorem dX12_findWays_110 : decode cX12_findWays 110 = .ok (.iconst 0, 1) := by decide +kernel
theorem dX12_findWays_111 : decode cX12_findWays 111 = .ok (.istore_n 2, 1) := by decide +kernel
theorem dX12_findWays_112 : decode cX12_findWays 112 = .ok (.iload_n 2, 1) := by decide +kernel
theorem dX12_findWays_113 : decode cX12_findWays 113 = .ok (.bipush 16, 2) := by decide +kernel
theorem dX12_findWays_115 : decode cX12_findWays 115 = .ok (.if_icmp .gt 142, 3) := by decide +kernel
theorem dX12_findWays_118 : decode cX12_findWays 118 = .ok (.iconst 0, 1) := by decide +kernel
theorem dX12_findWays_119 : decode cX12_findWays 119 = .ok (.istore_n 3, 1) := by decide +kernel
theorem dX12_findWays_120 : decode cX12_findWays 120 = .ok (.iload_n 3, 1) := by decide +kernel
theorem dX12_findWays_121 : decode cX12_findWays 121 = .ok (.sipush 1024, 3) := by decide +kernel
theorem dX12_findWays_124 : decode cX12_findWays 124 = .ok (.if_icmp .ge 127, 3) := by decide +kernel
theorem dX12_findWays_127 : decode cX12_findWays 127 = .ok (.aload_n 0, 1) := by decide +kernel
theorem dX12_findWays_128 : decode cX12_findWays 128 = .ok (.getfield 292, 3) := by decide +kernel
theorem dX12_findWays_131 : decode cX12_findWays 131 = .ok (.aload_n 0, 1) := by decide +kernel
theorem dX12_findWays_132 : decode cX12_findWays 132 = .ok (.getfield 57, 3) := by decide +kernel
theorem dX12_findWays_135 : decode cX12_findWays 135 = .ok (.iload_n 1, 1) := by decide +kernel
theorem dX12_findWays_136 : decode cX12_findWays 136 = .ok (.iaload, 1) := by decide +kernel
theorem dX12_findWays_137 : decode cX12_findWays 137 = .ok (.if_icmp .ge 114, 3) := by decide +kernel
theorem dX12_findWays_140 : decode cX12_findWays 140 = .ok (.aload_n 0, 1) := by decide +kernel
theorem dX12_findWays_141 : decode cX12_findWays 141 = .ok (.getfield 53, 3) := by decide +kernel
theorem dX12_findWays_144 : decode cX12_findWays 144 = .ok (.sipush 1024, 3) := by decide +kernel
theorem dX12_findWays_147 : decode cX12_findWays 147 = .ok (.iload_n 1, 1) := by decide +kernel
theorem dX12_findWays_148 : decode cX12_findWays 148 = .ok (.imul, 1) := by decide +kernel
theorem dX12_findWays_149 : decode cX12_findWays 149 = .ok (.iload_n 3, 1) := by decide +kernel
theorem dX12_findWays_150 : decode cX12_findWays 150 = .ok (.iadd, 1) := by decide +kernel
theorem dX12_findWays_151 : decode cX12_findWays 151 = .ok (.laload, 1) := by decide +kernel
theorem dX12_findWays_152 : decode cX12_findWays 152 = .ok (.aload_n 0, 1) := by decide +kernel
theorem dX12_findWays_153 : decode cX12_findWays 153 = .ok (.getfield 79, 3) := by decide +kernel
theorem dX12_findWays_156 : decode cX12_findWays 156 = .ok (.iload_n 3, 1) := by decide +kernel
theorem dX12_findWays_157 : decode cX12_findWays 157 = .ok (.laload, 1) := by decide +kernel
theorem dX12_findWays_158 : decode cX12_findWays 158 = .ok (.ldc2_w 265, 3) := by decide +kernel
theorem dX12_findWays_161 : decode cX12_findWays 161 = .ok (.lxor, 1) := by decide +kernel
theorem dX12_findWays_162 : decode cX12_findWays 162 = .ok (.land, 1) := by decide +kernel
theorem dX12_findWays_163 : decode cX12_findWays 163 = .ok (.lstore 4, 2) := by decide +kernel
theorem dX12_findWays_165 : decode cX12_findWays 165 = .ok (.lload 4, 2) := by decide +kernel
theorem dX12_findWays_167 : decode cX12_findWays 167 = .ok (.lconst 0, 1) := by decide +kernel
theorem dX12_findWays_168 : decode cX12_findWays 168 = .ok (.lcmp, 1) := by decide +kernel
theorem dX12_findWays_169 : decode cX12_findWays 169 = .ok (.ifCond .eq 76, 3) := by decide +kernel
theorem dX12_findWays_172 : decode cX12_findWays 172 = .ok (.iconst 0, 1) := by decide +kernel
theorem dX12_findWays_173 : decode cX12_findWays 173 = .ok (.istore 6, 2) := by decide +kernel
theorem dX12_findWays_175 : decode cX12_findWays 175 = .ok (.lload 4, 2) := by decide +kernel
theorem dX12_findWays_177 : decode cX12_findWays 177 = .ok (.iload 6, 2) := by decide +kernel
theorem dX12_findWays_179 : decode cX12_findWays 179 = .ok (.lshr, 1) := by decide +kernel
theorem dX12_findWays_180 : decode cX12_findWays 180 = .ok (.lconst 1, 1) := by decide +kernel
theorem dX12_findWays_181 : decode cX12_findWays 181 = .ok (.land, 1) := by decide +kernel
theorem dX12_findWays_182 : decode cX12_findWays 182 = .ok (.lconst 0, 1) := by decide +kernel
theorem dX12_findWays_183 : decode cX12_findWays 183 = .ok (.lcmp, 1) := by decide +kernel
theorem dX12_findWays_184 : decode cX12_findWays 184 = .ok (.ifCond .ne 9, 3) := by decide +kernel
theorem dX12_findWays_187 : decode cX12_findWays 187 = .ok (.iinc 6 1, 3) := by decide +kernel
theorem dX12_findWays_190 : decode cX12_findWays 190 = .ok (.goto (-15), 3) := by decide +kernel
theorem dX12_findWays_193 : decode cX12_findWays 193 = .ok (.bipush 64, 2) := by decide +kernel
theorem dX12_findWays_195 : decode cX12_findWays 195 = .ok (.iload_n 3, 1) := by decide +kernel
theorem dX12_findWays_196 : decode cX12_findWays 196 = .ok (.imul, 1) := by decide +kernel
theorem dX12_findWays_197 : decode cX12_findWays 197 = .ok (.iload 6, 2) := by decide +kernel
theorem dX12_findWays_199 : decode cX12_findWays 199 = .ok (.iadd, 1) := by decide +kernel
theorem dX12_findWays_200 : decode cX12_findWays 200 = .ok (.invokestatic 295, 3) := by decide +kernel
theorem dX12_findWays_203 : decode cX12_findWays 203 = .ok (.iload_n 2, 1) := by decide +kernel
theorem dX12_findWays_204 : decode cX12_findWays 204 = .ok (.if_icmp .ne 29, 3) := by decide +kernel
theorem dX12_findWays_207 : decode cX12_findWays 207 = .ok (.aload_n 0, 1) := by decide +kernel
theorem dX12_findWays_208 : decode cX12_findWays 208 = .ok (.getfield 85, 3) := by decide +kernel
theorem dX12_findWays_211 : decode cX12_findWays 211 = .ok (.aload_n 0, 1) := by decide +kernel
theorem dX12_findWays_212 : decode cX12_findWays 212 = .ok (.getfield 292, 3) := by decide +kernel
theorem dX12_findWays_215 : decode cX12_findWays 215 = .ok (.bipush 64, 2) := by decide +kernel
theorem dX12_findWays_217 : decode cX12_findWays 217 = .ok (.iload_n 3, 1) := by decide +kernel
theorem dX12_findWays_218 : decode cX12_findWays 218 = .ok (.imul, 1) := by decide +kernel
theorem dX12_findWays_219 : decode cX12_findWays 219 = .ok (.iload 6, 2) := by decide +kernel
theorem dX12_findWays_221 : decode cX12_findWays 221 = .ok (.iadd, 1) := by decide +kernel
theorem dX12_findWays_222 : decode cX12_findWays 222 = .ok (.iastore, 1) := by decide +kernel
theorem dX12_findWays_223 : decode cX12_findWays 223 = .ok (.aload_n 0, 1) := by decide +kernel
theorem dX12_findWays_224 : decode cX12_findWays 224 = .ok (.dup, 1) := by decide +kernel
theorem dX12_findWays_225 : decode cX12_findWays 225 = .ok (.getfield 292, 3) := by decide +kernel
theorem dX12_findWays_228 : decode cX12_findWays 228 = .ok (.iconst 1, 1) := by decide +kernel
theorem dX12_findWays_229 : decode cX12_findWays 229 = .ok (.iadd, 1) := by decide +kernel
theorem dX12_findWays_230 : decode cX12_findWays 230 = .ok (.putfield 292, 3) := by decide +kernel
theorem dX12_findWays_233 : decode cX12_findWays 233 = .ok (.lload 4, 2) := by decide +kernel
theorem dX12_findWays_235 : decode cX12_findWays 235 = .ok (.lload 4, 2) := by decide +kernel
theorem dX12_findWays_237 : decode cX12_findWays 237 = .ok (.lconst 1, 1) := by decide +kernel
theorem dX12_findWays_238 : decode cX12_findWays 238 = .ok (.lsub, 1) := by decide +kernel
theorem dX12_findWays_239 : decode cX12_findWays 239 = .ok (.land, 1) := by decide +kernel
theorem dX12_findWays_240 : decode cX12_findWays 240 = .ok (.lstore 4, 2) := by decide +kernel
theorem dX12_findWays_242 : decode cX12_findWays 242 = .ok (.goto (-77), 3) := by decide +kernel
theorem dX12_findWays_245 : decode cX12_findWays 245 = .ok (.iinc 3 1, 3) := by decide +kernel
theorem dX12_findWays_248 : decode cX12_findWays 248 = .ok (.goto (-128), 3) := by decide +kernel
theorem dX12_findWays_251 : decode cX12_findWays 251 = .ok (.iinc 2 1, 3) := by decide +kernel
theorem dX12_findWays_254 : decode cX12_findWays 254 = .ok (.goto (-142), 3) := by decide +kernel
theorem dX12_findWays_257 : decode cX12_findWays 257 = .ok (.iconst 1, 1) := by decide +kernel
theorem dX12_findWays_258 : decode cX12_findWays 258 = .ok (.ireturn, 1) := by decide +kernel
theorem dX12_whyWays_0 : decode cX12_whyWays 0 = .ok (.aload_n 0, 1) := by decide +kernel
theorem dX12_whyWays_1 : decode cX12_whyWays 1 = .ok (.iload_n 1, 1) := by decide +kernel
theorem dX12_whyWays_2 : decode cX12_whyWays 2 = .ok (.iload_n 2, 1) := by decide +kernel
theorem dX12_whyWays_3 : decode cX12_whyWays 3 = .ok (.invokevirtual 271, 3) := by decide +kernel
theorem dX12_whyWays_6 : decode cX12_whyWays 6 = .ok (.istore_n 3, 1) := by decide +kernel
theorem dX12_whyWays_7 : decode cX12_whyWays 7 = .ok (.iload_n 3, 1) := by decide +kernel
theorem dX12_whyWays_8 : decode cX12_whyWays 8 = .ok (.iconst 1, 1) := by decide +kernel
theorem dX12_whyWays_9 : decode cX12_whyWays 9 = .ok (.if_icmp .eq 7, 3) := by decide +kernel
theorem dX12_whyWays_12 : decode cX12_whyWays 12 = .ok (.iload_n 3, 1) := by decide +kernel
theorem dX12_whyWays_13 : decode cX12_whyWays 13 = .ok (.goto 22, 3) := by decide +kernel
theorem dX12_whyWays_16 : decode cX12_whyWays 16 = .ok (.aload_n 0, 1) := by decide +kernel
theorem dX12_whyWays_17 : decode cX12_whyWays 17 = .ok (.aload_n 0, 1) := by decide +kernel
theorem dX12_whyWays_18 : decode cX12_whyWays 18 = .ok (.getfield 49, 3) := by decide +kernel
theorem dX12_whyWays_21 : decode cX12_whyWays 21 = .ok (.iload_n 1, 1) := by decide +kernel
theorem dX12_whyWays_22 : decode cX12_whyWays 22 = .ok (.iaload, 1) := by decide +kernel
theorem dX12_whyWays_23 : decode cX12_whyWays 23 = .ok (.invokevirtual 298, 3) := by decide +kernel
theorem dX12_whyWays_26 : decode cX12_whyWays 26 = .ok (.ifCond .eq 7, 3) := by decide +kernel
theorem dX12_whyWays_29 : decode cX12_whyWays 29 = .ok (.iconst 1, 1) := by decide +kernel
theorem dX12_whyWays_30 : decode cX12_whyWays 30 = .ok (.goto 5, 3) := by decide +kernel
theorem dX12_whyWays_33 : decode cX12_whyWays 33 = .ok (.bipush (-5), 2) := by decide +kernel
theorem dX12_whyWays_35 : decode cX12_whyWays 35 = .ok (.ireturn, 1) := by decide +kernel
theorem dX12_ways_0 : decode cX12_ways 0 = .ok (.aload_n 0, 1) := by decide +kernel
theorem dX12_ways_1 : decode cX12_ways 1 = .ok (.iload_n 1, 1) := by decide +kernel
theorem dX12_ways_2 : decode cX12_ways 2 = .ok (.iconst 1, 1) := by decide +kernel
theorem dX12_ways_3 : decode cX12_ways 3 = .ok (.invokevirtual 301, 3) := by decide +kernel
theorem dX12_ways_6 : decode cX12_ways 6 = .ok (.istore_n 2, 1) := by decide +kernel
theorem dX12_ways_7 : decode cX12_ways 7 = .ok (.iload_n 2, 1) := by decide +kernel
theorem dX12_ways_8 : decode cX12_ways 8 = .ok (.iconst 1, 1) := by decide +kernel
theorem dX12_ways_9 : decode cX12_ways 9 = .ok (.if_icmp .eq 7, 3) := by decide +kernel
theorem dX12_ways_12 : decode cX12_ways 12 = .ok (.iload_n 2, 1) := by decide +kernel
theorem dX12_ways_13 : decode cX12_ways 13 = .ok (.goto 7, 3) := by decide +kernel
theorem dX12_ways_16 : decode cX12_ways 16 = .ok (.aload_n 0, 1) := by decide +kernel
theorem dX12_ways_17 : decode cX12_ways 17 = .ok (.getfield 292, 3) := by decide +kernel
theorem dX12_ways_20 : decode cX12_ways 20 = .ok (.ireturn, 1) := by decide +kernel
theorem dX12_wayAt_0 : decode cX12_wayAt 0 = .ok (.aload_n 0, 1) := by decide +kernel
theorem dX12_wayAt_1 : decode cX12_wayAt 1 = .ok (.iload_n 1, 1) := by decide +kernel
theorem dX12_wayAt_2 : decode cX12_wayAt 2 = .ok (.iload_n 2, 1) := by decide +kernel
theorem dX12_wayAt_3 : decode cX12_wayAt 3 = .ok (.ifCond .lt 7, 3) := by decide +kernel
theorem dX12_wayAt_6 : decode cX12_wayAt 6 = .ok (.iconst 1, 1) := by decide +kernel
theorem dX12_wayAt_7 : decode cX12_wayAt 7 = .ok (.goto 4, 3) := by decide +kernel
theorem dX12_wayAt_10 : decode cX12_wayAt 10 = .ok (.iconst 0, 1) := by decide +kernel
theorem dX12_wayAt_11 : decode cX12_wayAt 11 = .ok (.invokevirtual 301, 3) := by decide +kernel
theorem dX12_wayAt_14 : decode cX12_wayAt 14 = .ok (.istore_n 3, 1) := by decide +kernel
theorem dX12_wayAt_15 : decode cX12_wayAt 15 = .ok (.iload_n 3, 1) := by decide +kernel
theorem dX12_wayAt_16 : decode cX12_wayAt 16 = .ok (.iconst 1, 1) := by decide +kernel
theorem dX12_wayAt_17 : decode cX12_wayAt 17 = .ok (.if_icmp .eq 7, 3) := by decide +kernel
theorem dX12_wayAt_20 : decode cX12_wayAt 20 = .ok (.iload_n 3, 1) := by decide +kernel
theorem dX12_wayAt_21 : decode cX12_wayAt 21 = .ok (.goto 21, 3) := by decide +kernel
theorem dX12_wayAt_24 : decode cX12_wayAt 24 = .ok (.iload_n 2, 1) := by decide +kernel
theorem dX12_wayAt_25 : decode cX12_wayAt 25 = .ok (.aload_n 0, 1) := by decide +kernel
theorem dX12_wayAt_26 : decode cX12_wayAt 26 = .ok (.getfield 292, 3) := by decide +kernel
theorem dX12_wayAt_29 : decode cX12_wayAt 29 = .ok (.if_icmp .ge 12, 3) := by decide +kernel
theorem dX12_wayAt_32 : decode cX12_wayAt 32 = .ok (.aload_n 0, 1) := by decide +kernel
theorem dX12_wayAt_33 : decode cX12_wayAt 33 = .ok (.getfield 85, 3) := by decide +kernel
theorem dX12_wayAt_36 : decode cX12_wayAt 36 = .ok (.iload_n 2, 1) := by decide +kernel
theorem dX12_wayAt_37 : decode cX12_wayAt 37 = .ok (.iaload, 1) := by decide +kernel
theorem dX12_wayAt_38 : decode cX12_wayAt 38 = .ok (.goto 4, 3) := by decide +kernel
theorem dX12_wayAt_41 : decode cX12_wayAt 41 = .ok (.iconst (-1), 1) := by decide +kernel
theorem dX12_wayAt_42 : decode cX12_wayAt 42 = .ok (.ireturn, 1) := by decide +kernel
theorem dX12_sumOf_0 : decode cX12_sumOf 0 = .ok (.iconst 0, 1) := by decide +kernel
theorem dX12_sumOf_1 : decode cX12_sumOf 1 = .ok (.istore 4, 2) := by decide +kernel
theorem dX12_sumOf_3 : decode cX12_sumOf 3 = .ok (.iconst 0, 1) := by decide +kernel
theorem dX12_sumOf_4 : decode cX12_sumOf 4 = .ok (.istore 5, 2) := by decide +kernel
theorem dX12_sumOf_6 : decode cX12_sumOf 6 = .ok (.iload 5, 2) := by decide +kernel
theorem dX12_sumOf_8 : decode cX12_sumOf 8 = .ok (.bipush 16, 2) := by decide +kernel
theorem dX12_sumOf_10 : decode cX12_sumOf 10 = .ok (.if_icmp .ge 60, 3) := by decide +kernel
theorem dX12_sumOf_13 : decode cX12_sumOf 13 = .ok (.iload_n 1, 1) := by decide +kernel
theorem dX12_sumOf_14 : decode cX12_sumOf 14 = .ok (.iload 5, 2) := by decide +kernel
theorem dX12_sumOf_16 : decode cX12_sumOf 16 = .ok (.ishr, 1) := by decide +kernel
theorem dX12_sumOf_17 : decode cX12_sumOf 17 = .ok (.iconst 1, 1) := by decide +kernel
theorem dX12_sumOf_18 : decode cX12_sumOf 18 = .ok (.iand, 1) := by decide +kernel
theorem dX12_sumOf_19 : decode cX12_sumOf 19 = .ok (.iconst 1, 1) := by decide +kernel
theorem dX12_sumOf_20 : decode cX12_sumOf 20 = .ok (.if_icmp .ne 44, 3) := by decide +kernel
theorem dX12_sumOf_23 : decode cX12_sumOf 23 = .ok (.iload 4, 2) := by decide +kernel
theorem dX12_sumOf_25 : decode cX12_sumOf 25 = .ok (.iload_n 2, 1) := by decide +kernel
theorem dX12_sumOf_26 : decode cX12_sumOf 26 = .ok (.iconst 1, 1) := by decide +kernel
theorem dX12_sumOf_27 : decode cX12_sumOf 27 = .ok (.if_icmp .ne 13, 3) := by decide +kernel
theorem dX12_sumOf_30 : decode cX12_sumOf 30 = .ok (.aload_n 0, 1) := by decide +kernel
theorem dX12_sumOf_31 : decode cX12_sumOf 31 = .ok (.getfield 13, 3) := by decide +kernel
theorem dX12_sumOf_34 : decode cX12_sumOf 34 = .ok (.iload 5, 2) := by decide +kernel
theorem dX12_sumOf_36 : decode cX12_sumOf 36 = .ok (.iaload, 1) := by decide +kernel
theorem dX12_sumOf_37 : decode cX12_sumOf 37 = .ok (.goto 24, 3) := by decide +kernel
theorem dX12_sumOf_40 : decode cX12_sumOf 40 = .ok (.iload_n 3, 1) := by decide +kernel
theorem dX12_sumOf_41 : decode cX12_sumOf 41 = .ok (.iload 5, 2) := by decide +kernel
theorem dX12_sumOf_43 : decode cX12_sumOf 43 = .ok (.ishr, 1) := by decide +kernel
theorem dX12_sumOf_44 : decode cX12_sumOf 44 = .ok (.iconst 1, 1) := by decide +kernel
theorem dX12_sumOf_45 : decode cX12_sumOf 45 = .ok (.iand, 1) := by decide +kernel
theorem dX12_sumOf_46 : decode cX12_sumOf 46 = .ok (.iconst 1, 1) := by decide +kernel
theorem dX12_sumOf_47 : decode cX12_sumOf 47 = .ok (.if_icmp .ne 7, 3) := by decide +kernel
theorem dX12_sumOf_50 : decode cX12_sumOf 50 = .ok (.iconst 0, 1) := by decide +kernel
theorem dX12_sumOf_51 : decode cX12_sumOf 51 = .ok (.goto 10, 3) := by decide +kernel
theorem dX12_sumOf_54 : decode cX12_sumOf 54 = .ok (.aload_n 0, 1) := by decide +kernel
theorem dX12_sumOf_55 : decode cX12_sumOf 55 = .ok (.getfield 7, 3) := by decide +kernel
theorem dX12_sumOf_58 : decode cX12_sumOf 58 = .ok (.iload 5, 2) := by decide +kernel
theorem dX12_sumOf_60 : decode cX12_sumOf 60 = .ok (.iaload, 1) := by decide +kernel
theorem dX12_sumOf_61 : decode cX12_sumOf 61 = .ok (.iadd, 1) := by decide +kernel
theorem dX12_sumOf_62 : decode cX12_sumOf 62 = .ok (.istore 4, 2) := by decide +kernel
theorem dX12_sumOf_64 : decode cX12_sumOf 64 = .ok (.iinc 5 1, 3) := by decide +kernel
theorem dX12_sumOf_67 : decode cX12_sumOf 67 = .ok (.goto (-61), 3) := by decide +kernel
theorem dX12_sumOf_70 : decode cX12_sumOf 70 = .ok (.iload 4, 2) := by decide +kernel
theorem dX12_sumOf_72 : decode cX12_sumOf 72 = .ok (.ireturn, 1) := by decide +kernel
theorem dX12_leastAt_0 : decode cX12_leastAt 0 = .ok (.iconst 0, 1) := by decide +kernel
theorem dX12_leastAt_1 : decode cX12_leastAt 1 = .ok (.istore_n 3, 1) := by decide +kernel
theorem dX12_leastAt_2 : decode cX12_leastAt 2 = .ok (.iconst 1, 1) := by decide +kernel
theorem dX12_leastAt_3 : decode cX12_leastAt 3 = .ok (.istore 4, 2) := by decide +kernel
theorem dX12_leastAt_5 : decode cX12_leastAt 5 = .ok (.iload 4, 2) := by decide +kernel
theorem dX12_leastAt_7 : decode cX12_leastAt 7 = .ok (.aload_n 0, 1) := by decide +kernel
theorem dX12_leastAt_8 : decode cX12_leastAt 8 = .ok (.getfield 292, 3) := by decide +kernel
theorem dX12_leastAt_11 : decode cX12_leastAt 11 = .ok (.if_icmp .ge 44, 3) := by decide +kernel
theorem dX12_leastAt_14 : decode cX12_leastAt 14 = .ok (.aload_n 0, 1) := by decide +kernel
theorem dX12_leastAt_15 : decode cX12_leastAt 15 = .ok (.aload_n 0, 1) := by decide +kernel
theorem dX12_leastAt_16 : decode cX12_leastAt 16 = .ok (.getfield 85, 3) := by decide +kernel
theorem dX12_leastAt_19 : decode cX12_leastAt 19 = .ok (.iload 4, 2) := by decide +kernel
theorem dX12_leastAt_21 : decode cX12_leastAt 21 = .ok (.iaload, 1) := by decide +kernel
theorem dX12_leastAt_22 : decode cX12_leastAt 22 = .ok (.iload_n 1, 1) := by decide +kernel
theorem dX12_leastAt_23 : decode cX12_leastAt 23 = .ok (.iload_n 2, 1) := by decide +kernel
theorem dX12_leastAt_24 : decode cX12_leastAt 24 = .ok (.invokevirtual 304, 3) := by decide +kernel
theorem dX12_leastAt_27 : decode cX12_leastAt 27 = .ok (.aload_n 0, 1) := by decide +kernel
theorem dX12_leastAt_28 : decode cX12_leastAt 28 = .ok (.aload_n 0, 1) := by decide +kernel
theorem dX12_leastAt_29 : decode cX12_leastAt 29 = .ok (.getfield 85, 3) := by decide +kernel
theorem dX12_leastAt_32 : decode cX12_leastAt 32 = .ok (.iload_n 3, 1) := by decide +kernel
theorem dX12_leastAt_33 : decode cX12_leastAt 33 = .ok (.iaload, 1) := by decide +kernel
theorem dX12_leastAt_34 : decode cX12_leastAt 34 = .ok (.iload_n 1, 1) := by decide +kernel
theorem dX12_leastAt_35 : decode cX12_leastAt 35 = .ok (.iload_n 2, 1) := by decide +kernel
theorem dX12_leastAt_36 : decode cX12_leastAt 36 = .ok (.invokevirtual 304, 3) := by decide +kernel
theorem dX12_leastAt_39 : decode cX12_leastAt 39 = .ok (.if_icmp .ge 8, 3) := by decide +kernel
theorem dX12_leastAt_42 : decode cX12_leastAt 42 = .ok (.iload 4, 2) := by decide +kernel
theorem dX12_leastAt_44 : decode cX12_leastAt 44 = .ok (.goto 4, 3) := by decide +kernel
theorem dX12_leastAt_47 : decode cX12_leastAt 47 = .ok (.iload_n 3, 1) := by decide +kernel
theorem dX12_leastAt_48 : decode cX12_leastAt 48 = .ok (.istore_n 3, 1) := by decide +kernel
theorem dX12_leastAt_49 : decode cX12_leastAt 49 = .ok (.iinc 4 1, 3) := by decide +kernel
theorem dX12_leastAt_52 : decode cX12_leastAt 52 = .ok (.goto (-47), 3) := by decide +kernel
theorem dX12_leastAt_55 : decode cX12_leastAt 55 = .ok (.iload_n 3, 1) := by decide +kernel
theorem dX12_leastAt_56 : decode cX12_leastAt 56 = .ok (.ireturn, 1) := by decide +kernel
theorem dX12_least_0 : decode cX12_least 0 = .ok (.aload_n 0, 1) := by decide +kernel
theorem dX12_least_1 : decode cX12_least 1 = .ok (.iload_n 1, 1) := by decide +kernel
theorem dX12_least_2 : decode cX12_least 2 = .ok (.iload_n 2, 1) := by decide +kernel
theorem dX12_least_3 : decode cX12_least 3 = .ok (.iconst 0, 1) := by decide +kernel
theorem dX12_least_4 : decode cX12_least 4 = .ok (.iconst 1, 1) := by decide +kernel
theorem dX12_least_5 : decode cX12_least 5 = .ok (.invokestatic 179, 3) := by decide +kernel
theorem dX12_least_8 : decode cX12_least 8 = .ok (.invokevirtual 301, 3) := by decide +kernel
theorem dX12_least_11 : decode cX12_least 11 = .ok (.istore_n 3, 1) := by decide +kernel
theorem dX12_least_12 : decode cX12_least 12 = .ok (.iload_n 3, 1) := by decide +kernel
theorem dX12_least_13 : decode cX12_least 13 = .ok (.iconst 1, 1) := by decide +kernel
theorem dX12_least_14 : decode cX12_least 14 = .ok (.if_icmp .eq 7, 3) := by decide +kernel
theorem dX12_least_17 : decode cX12_least 17 = .ok (.iload_n 3, 1) := by decide +kernel
theorem dX12_least_18 : decode cX12_least 18 = .ok (.goto 20, 3) := by decide +kernel
theorem dX12_least_21 : decode cX12_least 21 = .ok (.aload_n 0, 1) := by decide +kernel
theorem dX12_least_22 : decode cX12_least 22 = .ok (.aload_n 0, 1) := by decide +kernel
theorem dX12_least_23 : decode cX12_least 23 = .ok (.getfield 85, 3) := by decide +kernel
theorem dX12_least_26 : decode cX12_least 26 = .ok (.aload_n 0, 1) := by decide +kernel
theorem dX12_least_27 : decode cX12_least 27 = .ok (.iload_n 2, 1) := by decide +kernel
theorem dX12_least_28 : decode cX12_least 28 = .ok (.iconst 0, 1) := by decide +kernel
theorem dX12_least_29 : decode cX12_least 29 = .ok (.invokevirtual 308, 3) := by decide +kernel
theorem dX12_least_32 : decode cX12_least 32 = .ok (.iaload, 1) := by decide +kernel
theorem dX12_least_33 : decode cX12_least 33 = .ok (.iload_n 2, 1) := by decide +kernel
theorem dX12_least_34 : decode cX12_least 34 = .ok (.iconst 0, 1) := by decide +kernel
theorem dX12_least_35 : decode cX12_least 35 = .ok (.invokevirtual 304, 3) := by decide +kernel
theorem dX12_least_38 : decode cX12_least 38 = .ok (.ireturn, 1) := by decide +kernel
theorem dX12_leastWay_0 : decode cX12_leastWay 0 = .ok (.aload_n 0, 1) := by decide +kernel
theorem dX12_leastWay_1 : decode cX12_leastWay 1 = .ok (.iload_n 1, 1) := by decide +kernel
theorem dX12_leastWay_2 : decode cX12_leastWay 2 = .ok (.iload_n 2, 1) := by decide +kernel
theorem dX12_leastWay_3 : decode cX12_leastWay 3 = .ok (.iconst 0, 1) := by decide +kernel
theorem dX12_leastWay_4 : decode cX12_leastWay 4 = .ok (.iconst 1, 1) := by decide +kernel
theorem dX12_leastWay_5 : decode cX12_leastWay 5 = .ok (.invokestatic 179, 3) := by decide +kernel
theorem dX12_leastWay_8 : decode cX12_leastWay 8 = .ok (.invokevirtual 301, 3) := by decide +kernel
theorem dX12_leastWay_11 : decode cX12_leastWay 11 = .ok (.istore_n 3, 1) := by decide +kernel
theorem dX12_leastWay_12 : decode cX12_leastWay 12 = .ok (.iload_n 3, 1) := by decide +kernel
theorem dX12_leastWay_13 : decode cX12_leastWay 13 = .ok (.iconst 1, 1) := by decide +kernel
theorem dX12_leastWay_14 : decode cX12_leastWay 14 = .ok (.if_icmp .eq 7, 3) := by decide +kernel
theorem dX12_leastWay_17 : decode cX12_leastWay 17 = .ok (.iload_n 3, 1) := by decide +kernel
theorem dX12_leastWay_18 : decode cX12_leastWay 18 = .ok (.goto 14, 3) := by decide +kernel
theorem dX12_leastWay_21 : decode cX12_leastWay 21 = .ok (.aload_n 0, 1) := by decide +kernel
theorem dX12_leastWay_22 : decode cX12_leastWay 22 = .ok (.getfield 85, 3) := by decide +kernel
theorem dX12_leastWay_25 : decode cX12_leastWay 25 = .ok (.aload_n 0, 1) := by decide +kernel
theorem dX12_leastWay_26 : decode cX12_leastWay 26 = .ok (.iload_n 2, 1) := by decide +kernel
theorem dX12_leastWay_27 : decode cX12_leastWay 27 = .ok (.iconst 0, 1) := by decide +kernel
theorem dX12_leastWay_28 : decode cX12_leastWay 28 = .ok (.invokevirtual 308, 3) := by decide +kernel
theorem dX12_leastWay_31 : decode cX12_leastWay 31 = .ok (.iaload, 1) := by decide +kernel
theorem dX12_leastWay_32 : decode cX12_leastWay 32 = .ok (.ireturn, 1) := by decide +kernel
theorem dX12_sorted_0 : decode cX12_sorted 0 = .ok (.iconst 1, 1) := by decide +kernel
theorem dX12_sorted_1 : decode cX12_sorted 1 = .ok (.istore_n 3, 1) := by decide +kernel
theorem dX12_sorted_2 : decode cX12_sorted 2 = .ok (.iload_n 3, 1) := by decide +kernel
theorem dX12_sorted_3 : decode cX12_sorted 3 = .ok (.iload_n 1, 1) := by decide +kernel
theorem dX12_sorted_4 : decode cX12_sorted 4 = .ok (.if_icmp .ge 70, 3) := by decide +kernel
theorem dX12_sorted_7 : decode cX12_sorted 7 = .ok (.aload_n 0, 1) := by decide +kernel
theorem dX12_sorted_8 : decode cX12_sorted 8 = .ok (.getfield 91, 3) := by decide +kernel
theorem dX12_sorted_11 : decode cX12_sorted 11 = .ok (.iload_n 3, 1) := by decide +kernel
theorem dX12_sorted_12 : decode cX12_sorted 12 = .ok (.iaload, 1) := by decide +kernel
theorem dX12_sorted_13 : decode cX12_sorted 13 = .ok (.istore 4, 2) := by decide +kernel
theorem dX12_sorted_15 : decode cX12_sorted 15 = .ok (.iload_n 3, 1) := by decide +kernel
theorem dX12_sorted_16 : decode cX12_sorted 16 = .ok (.istore 5, 2) := by decide +kernel
theorem dX12_sorted_18 : decode cX12_sorted 18 = .ok (.iload 5, 2) := by decide +kernel
theorem dX12_sorted_20 : decode cX12_sorted 20 = .ok (.ifCond .le 39, 3) := by decide +kernel
theorem dX12_sorted_23 : decode cX12_sorted 23 = .ok (.aload_n 0, 1) := by decide +kernel
theorem dX12_sorted_24 : decode cX12_sorted 24 = .ok (.getfield 91, 3) := by decide +kernel
theorem dX12_sorted_27 : decode cX12_sorted 27 = .ok (.iload 5, 2) := by decide +kernel
theorem dX12_sorted_29 : decode cX12_sorted 29 = .ok (.iconst 1, 1) := by decide +kernel
theorem dX12_sorted_30 : decode cX12_sorted 30 = .ok (.isub, 1) := by decide +kernel
theorem dX12_sorted_31 : decode cX12_sorted 31 = .ok (.iaload, 1) := by decide +kernel
theorem dX12_sorted_32 : decode cX12_sorted 32 = .ok (.iload 4, 2) := by decide +kernel
theorem dX12_sorted_34 : decode cX12_sorted 34 = .ok (.if_icmp .le 25, 3) := by decide +kernel
theorem dX12_sorted_37 : decode cX12_sorted 37 = .ok (.aload_n 0, 1) := by decide +kernel
theorem dX12_sorted_38 : decode cX12_sorted 38 = .ok (.getfield 91, 3) := by decide +kernel
theorem dX12_sorted_41 : decode cX12_sorted 41 = .ok (.iload 5, 2) := by decide +kernel
theorem dX12_sorted_43 : decode cX12_sorted 43 = .ok (.aload_n 0, 1) := by decide +kernel
theorem dX12_sorted_44 : decode cX12_sorted 44 = .ok (.getfield 91, 3) := by decide +kernel
theorem dX12_sorted_47 : decode cX12_sorted 47 = .ok (.iload 5, 2) := by decide +kernel
theorem dX12_sorted_49 : decode cX12_sorted 49 = .ok (.iconst 1, 1) := by decide +kernel
theorem dX12_sorted_50 : decode cX12_sorted 50 = .ok (.isub, 1) := by decide +kernel
theorem dX12_sorted_51 : decode cX12_sorted 51 = .ok (.iaload, 1) := by decide +kernel
theorem dX12_sorted_52 : decode cX12_sorted 52 = .ok (.iastore, 1) := by decide +kernel
theorem dX12_sorted_53 : decode cX12_sorted 53 = .ok (.iinc 5 (-1), 3) := by decide +kernel
theorem dX12_sorted_56 : decode cX12_sorted 56 = .ok (.goto (-38), 3) := by decide +kernel
theorem dX12_sorted_59 : decode cX12_sorted 59 = .ok (.aload_n 0, 1) := by decide +kernel
theorem dX12_sorted_60 : decode cX12_sorted 60 = .ok (.getfield 91, 3) := by decide +kernel
theorem dX12_sorted_63 : decode cX12_sorted 63 = .ok (.iload 5, 2) := by decide +kernel
theorem dX12_sorted_65 : decode cX12_sorted 65 = .ok (.iload 4, 2) := by decide +kernel
theorem dX12_sorted_67 : decode cX12_sorted 67 = .ok (.iastore, 1) := by decide +kernel
theorem dX12_sorted_68 : decode cX12_sorted 68 = .ok (.iinc 3 1, 3) := by decide +kernel
theorem dX12_sorted_71 : decode cX12_sorted 71 = .ok (.goto (-69), 3) := by decide +kernel
theorem dX12_sorted_74 : decode cX12_sorted 74 = .ok (.aload_n 0, 1) := by decide +kernel
theorem dX12_sorted_75 : decode cX12_sorted 75 = .ok (.getfield 91, 3) := by decide +kernel
theorem dX12_sorted_78 : decode cX12_sorted 78 = .ok (.iload_n 2, 1) := by decide +kernel
theorem dX12_sorted_79 : decode cX12_sorted 79 = .ok (.iaload, 1) := by decide +kernel
theorem dX12_sorted_80 : decode cX12_sorted 80 = .ok (.ireturn, 1) := by decide +kernel
theorem dX12_many_0 : decode cX12_many 0 = .ok (.aload_n 0, 1) := by decide +kernel
theorem dX12_many_1 : decode cX12_many 1 = .ok (.iload_n 1, 1) := by decide +kernel
theorem dX12_many_2 : decode cX12_many 2 = .ok (.iconst 1, 1) := by decide +kernel
theorem dX12_many_3 : decode cX12_many 3 = .ok (.invokevirtual 271, 3) := by decide +kernel
theorem dX12_many_6 : decode cX12_many 6 = .ok (.istore_n 2, 1) := by decide +kernel
theorem dX12_many_7 : decode cX12_many 7 = .ok (.iload_n 2, 1) := by decide +kernel
theorem dX12_many_8 : decode cX12_many 8 = .ok (.iconst 1, 1) := by decide +kernel
theorem dX12_many_9 : decode cX12_many 9 = .ok (.if_icmp .eq 5, 3) := by decide +kernel
theorem dX12_many_12 : decode cX12_many 12 = .ok (.iload_n 2, 1) := by decide +kernel
theorem dX12_many_13 : decode cX12_many 13 = .ok (.ireturn, 1) := by decide +kernel
theorem dX12_many_14 : decode cX12_many 14 = .ok (.iconst 0, 1) := by decide +kernel
theorem dX12_many_15 : decode cX12_many 15 = .ok (.istore_n 3, 1) := by decide +kernel
theorem dX12_many_16 : decode cX12_many 16 = .ok (.iload_n 3, 1) := by decide +kernel
theorem dX12_many_17 : decode cX12_many 17 = .ok (.aload_n 0, 1) := by decide +kernel
theorem dX12_many_18 : decode cX12_many 18 = .ok (.getfield 49, 3) := by decide +kernel
theorem dX12_many_21 : decode cX12_many 21 = .ok (.iload_n 1, 1) := by decide +kernel
theorem dX12_many_22 : decode cX12_many 22 = .ok (.iaload, 1) := by decide +kernel
theorem dX12_many_23 : decode cX12_many 23 = .ok (.if_icmp .gt 195, 3) := by decide +kernel
theorem dX12_many_26 : decode cX12_many 26 = .ok (.aload_n 0, 1) := by decide +kernel
theorem dX12_many_27 : decode cX12_many 27 = .ok (.getfield 28, 3) := by decide +kernel
theorem dX12_many_30 : decode cX12_many 30 = .ok (.iload_n 3, 1) := by decide +kernel
theorem dX12_many_31 : decode cX12_many 31 = .ok (.iaload, 1) := by decide +kernel
theorem dX12_many_32 : decode cX12_many 32 = .ok (.ifCond .ne 17, 3) := by decide +kernel
theorem dX12_many_35 : decode cX12_many 35 = .ok (.aload_n 0, 1) := by decide +kernel
theorem dX12_many_36 : decode cX12_many 36 = .ok (.getfield 13, 3) := by decide +kernel
theorem dX12_many_39 : decode cX12_many 39 = .ok (.aload_n 0, 1) := by decide +kernel
theorem dX12_many_40 : decode cX12_many 40 = .ok (.getfield 34, 3) := by decide +kernel
theorem dX12_many_43 : decode cX12_many 43 = .ok (.iload_n 3, 1) := by decide +kernel
theorem dX12_many_44 : decode cX12_many 44 = .ok (.iaload, 1) := by decide +kernel
theorem dX12_many_45 : decode cX12_many 45 = .ok (.iaload, 1) := by decide +kernel
theorem dX12_many_46 : decode cX12_many 46 = .ok (.goto 4, 3) := by decide +kernel
theorem dX12_many_49 : decode cX12_many 49 = .ok (.iconst 0, 1) := by decide +kernel
theorem dX12_many_50 : decode cX12_many 50 = .ok (.istore 4, 2) := by decide +kernel
theorem dX12_many_52 : decode cX12_many 52 = .ok (.iconst 0, 1) := by decide +kernel
theorem dX12_many_53 : decode cX12_many 53 = .ok (.istore 5, 2) := by decide +kernel
theorem dX12_many_55 : decode cX12_many 55 = .ok (.iload 5, 2) := by decide +kernel
theorem dX12_many_57 : decode cX12_many 57 = .ok (.aload_n 0, 1) := by decide +kernel
theorem dX12_many_58 : decode cX12_many 58 = .ok (.getfield 40, 3) := by decide +kernel
theorem dX12_many_61 : decode cX12_many 61 = .ok (.iload_n 3, 1) := by decide +kernel
theorem dX12_many_62 : decode cX12_many 62 = .ok (.iaload, 1) := by decide +kernel
theorem dX12_many_63 : decode cX12_many 63 = .ok (.if_icmp .ge 110, 3) := by decide +kernel
theorem dX12_many_66 : decode cX12_many 66 = .ok (.aload_n 0, 1) := by decide +kernel
theorem dX12_many_67 : decode cX12_many 67 = .ok (.getfield 88, 3) := by decide +kernel
theorem dX12_many_70 : decode cX12_many 70 = .ok (.aload_n 0, 1) := by decide +kernel
theorem dX12_many_71 : decode cX12_many 71 = .ok (.getfield 43, 3) := by decide +kernel
theorem dX12_many_74 : decode cX12_many 74 = .ok (.aload_n 0, 1) := by decide +kernel
theorem dX12_many_75 : decode cX12_many 75 = .ok (.getfield 37, 3) := by decide +kernel
theorem dX12_many_78 : decode cX12_many 78 = .ok (.iload_n 3, 1) := by decide +kernel
theorem dX12_many_79 : decode cX12_many 79 = .ok (.iaload, 1) := by decide +kernel
theorem dX12_many_80 : decode cX12_many 80 = .ok (.iload 5, 2) := by decide +kernel
theorem dX12_many_82 : decode cX12_many 82 = .ok (.iadd, 1) := by decide +kernel
theorem dX12_many_83 : decode cX12_many 83 = .ok (.iaload, 1) := by decide +kernel
theorem dX12_many_84 : decode cX12_many 84 = .ok (.iaload, 1) := by decide +kernel
theorem dX12_many_85 : decode cX12_many 85 = .ok (.istore 6, 2) := by decide +kernel
theorem dX12_many_87 : decode cX12_many 87 = .ok (.aload_n 0, 1) := by decide +kernel
theorem dX12_many_88 : decode cX12_many 88 = .ok (.getfield 91, 3) := by decide +kernel
theorem dX12_many_91 : decode cX12_many 91 = .ok (.iload 5, 2) := by decide +kernel
theorem dX12_many_93 : decode cX12_many 93 = .ok (.iload 6, 2) := by decide +kernel
theorem dX12_many_95 : decode cX12_many 95 = .ok (.iastore, 1) := by decide +kernel
theorem dX12_many_96 : decode cX12_many 96 = .ok (.aload_n 0, 1) := by decide +kernel
theorem dX12_many_97 : decode cX12_many 97 = .ok (.getfield 28, 3) := by decide +kernel
theorem dX12_many_100 : decode cX12_many 100 = .ok (.iload_n 3, 1) := by decide +kernel
theorem dX12_many_101 : decode cX12_many 101 = .ok (.iaload, 1) := by decide +kernel
theorem dX12_many_102 : decode cX12_many 102 = .ok (.iconst 2, 1) := by decide +kernel
theorem dX12_many_103 : decode cX12_many 103 = .ok (.if_icmp .ne 11, 3) := by decide +kernel
theorem dX12_many_106 : decode cX12_many 106 = .ok (.iload 4, 2) := by decide +kernel
theorem dX12_many_108 : decode cX12_many 108 = .ok (.iload 6, 2) := by decide +kernel
theorem dX12_many_110 : decode cX12_many 110 = .ok (.iadd, 1) := by decide +kernel
theorem dX12_many_111 : decode cX12_many 111 = .ok (.goto 54, 3) := by decide +kernel
theorem dX12_many_114 : decode cX12_many 114 = .ok (.iload 5, 2) := by decide +kernel
theorem dX12_many_116 : decode cX12_many 116 = .ok (.ifCond .ne 8, 3) := by decide +kernel
theorem dX12_many_119 : decode cX12_many 119 = .ok (.iload 6, 2) := by decide +kernel
theorem dX12_many_121 : decode cX12_many 121 = .ok (.goto 44, 3) := by decide +kernel
theorem dX12_many_124 : decode cX12_many 124 = .ok (.aload_n 0, 1) := by decide +kernel
theorem dX12_many_125 : decode cX12_many 125 = .ok (.getfield 28, 3) := by decide +kernel
theorem dX12_many_128 : decode cX12_many 128 = .ok (.iload_n 3, 1) := by decide +kernel
theorem dX12_many_129 : decode cX12_many 129 = .ok (.iaload, 1) := by decide +kernel
theorem dX12_many_130 : decode cX12_many 130 = .ok (.iconst 1, 1) := by decide +kernel
theorem dX12_many_131 : decode cX12_many 131 = .ok (.if_icmp .ne 20, 3) := by decide +kernel
theorem dX12_many_134 : decode cX12_many 134 = .ok (.iload 6, 2) := by decide +kernel
theorem dX12_many_136 : decode cX12_many 136 = .ok (.iload 4, 2) := by decide +kernel
theorem dX12_many_138 : decode cX12_many 138 = .ok (.if_icmp .ge 8, 3) := by decide +kernel
theorem dX12_many_141 : decode cX12_many 141 = .ok (.iload 6, 2) := by decide +kernel
theorem dX12_many_143 : decode cX12_many 143 = .ok (.goto 22, 3) := by decide +kernel
theorem dX12_many_146 : decode cX12_many 146 = .ok (.iload 4, 2) := by decide +kernel
theorem dX12_many_148 : decode cX12_many 148 = .ok (.goto 17, 3) := by decide +kernel
theorem dX12_many_151 : decode cX12_many 151 = .ok (.iload 6, 2) := by decide +kernel
theorem dX12_many_153 : decode cX12_many 153 = .ok (.iload 4, 2) := by decide +kernel
theorem dX12_many_155 : decode cX12_many 155 = .ok (.if_icmp .le 8, 3) := by decide +kernel
theorem dX12_many_158 : decode cX12_many 158 = .ok (.iload 6, 2) := by decide +kernel
theorem dX12_many_160 : decode cX12_many 160 = .ok (.goto 5, 3) := by decide +kernel
theorem dX12_many_163 : decode cX12_many 163 = .ok (.iload 4, 2) := by decide +kernel
theorem dX12_many_165 : decode cX12_many 165 = .ok (.istore 4, 2) := by decide +kernel
theorem dX12_many_167 : decode cX12_many 167 = .ok (.iinc 5 1, 3) := by decide +kernel
theorem dX12_many_170 : decode cX12_many 170 = .ok (.goto (-115), 3) := by decide +kernel
theorem dX12_many_173 : decode cX12_many 173 = .ok (.aload_n 0, 1) := by decide +kernel
theorem dX12_many_174 : decode cX12_many 174 = .ok (.getfield 88, 3) := by decide +kernel
theorem dX12_many_177 : decode cX12_many 177 = .ok (.iload_n 3, 1) := by decide +kernel
theorem dX12_many_178 : decode cX12_many 178 = .ok (.aload_n 0, 1) := by decide +kernel
theorem dX12_many_179 : decode cX12_many 179 = .ok (.getfield 28, 3) := by decide +kernel
theorem dX12_many_182 : decode cX12_many 182 = .ok (.iload_n 3, 1) := by decide +kernel
theorem dX12_many_183 : decode cX12_many 183 = .ok (.iaload, 1) := by decide +kernel
theorem dX12_many_184 : decode cX12_many 184 = .ok (.iconst 4, 1) := by decide +kernel
theorem dX12_many_185 : decode cX12_many 185 = .ok (.if_icmp .ne 24, 3) := by decide +kernel
theorem dX12_many_188 : decode cX12_many 188 = .ok (.aload_n 0, 1) := by decide +kernel
theorem dX12_many_189 : decode cX12_many 189 = .ok (.aload_n 0, 1) := by decide +kernel
theorem dX12_many_190 : decode cX12_many 190 = .ok (.getfield 40, 3) := by decide +kernel
theorem dX12_many_193 : decode cX12_many 193 = .ok (.iload_n 3, 1) := by decide +kernel
theorem dX12_many_194 : decode cX12_many 194 = .ok (.iaload, 1) := by decide +kernel
theorem dX12_many_195 : decode cX12_many 195 = .ok (.aload_n 0, 1) := by decide +kernel
theorem dX12_many_196 : decode cX12_many 196 = .ok (.getfield 31, 3) := by decide +kernel
theorem dX12_many_199 : decode cX12_many 199 = .ok (.iload_n 3, 1) := by decide +kernel
theorem dX12_many_200 : decode cX12_many 200 = .ok (.iaload, 1) := by decide +kernel
theorem dX12_many_201 : decode cX12_many 201 = .ok (.iconst 1, 1) := by decide +kernel
theorem dX12_many_202 : decode cX12_many 202 = .ok (.isub, 1) := by decide +kernel
theorem dX12_many_203 : decode cX12_many 203 = .ok (.invokevirtual 311, 3) := by decide +kernel
theorem dX12_many_206 : decode cX12_many 206 = .ok (.goto 5, 3) := by decide +kernel
theorem dX12_many_209 : decode cX12_many 209 = .ok (.iload 4, 2) := by decide +kernel
theorem dX12_many_211 : decode cX12_many 211 = .ok (.iastore, 1) := by decide +kernel
theorem dX12_many_212 : decode cX12_many 212 = .ok (.iinc 3 1, 3) := by decide +kernel
theorem dX12_many_215 : decode cX12_many 215 = .ok (.goto (-199), 3) := by decide +kernel
theorem dX12_many_218 : decode cX12_many 218 = .ok (.aload_n 0, 1) := by decide +kernel
theorem dX12_many_219 : decode cX12_many 219 = .ok (.getfield 88, 3) := by decide +kernel
theorem dX12_many_222 : decode cX12_many 222 = .ok (.aload_n 0, 1) := by decide +kernel
theorem dX12_many_223 : decode cX12_many 223 = .ok (.getfield 49, 3) := by decide +kernel
theorem dX12_many_226 : decode cX12_many 226 = .ok (.iload_n 1, 1) := by decide +kernel
theorem dX12_many_227 : decode cX12_many 227 = .ok (.iaload, 1) := by decide +kernel
theorem dX12_many_228 : decode cX12_many 228 = .ok (.iaload, 1) := by decide +kernel
theorem dX12_many_229 : decode cX12_many 229 = .ok (.ireturn, 1) := by decide +kernel
theorem dX12_puts_0 : decode cX12_puts 0 = .ok (.iconst 0, 1) := by decide +kernel
theorem dX12_puts_1 : decode cX12_puts 1 = .ok (.istore_n 3, 1) := by decide +kernel
theorem dX12_puts_2 : decode cX12_puts 2 = .ok (.iload_n 3, 1) := by decide +kernel
theorem dX12_puts_3 : decode cX12_puts 3 = .ok (.bipush 7, 2) := by decide +kernel
theorem dX12_puts_5 : decode cX12_puts 5 = .ok (.if_icmp .ge 29, 3) := by decide +kernel
theorem dX12_puts_8 : decode cX12_puts 8 = .ok (.aload_n 0, 1) := by decide +kernel
theorem dX12_puts_9 : decode cX12_puts 9 = .ok (.getfield 94, 3) := by decide +kernel
theorem dX12_puts_12 : decode cX12_puts 12 = .ok (.bipush 7, 2) := by decide +kernel
theorem dX12_puts_14 : decode cX12_puts 14 = .ok (.iload_n 1, 1) := by decide +kernel
theorem dX12_puts_15 : decode cX12_puts 15 = .ok (.imul, 1) := by decide +kernel
theorem dX12_puts_16 : decode cX12_puts 16 = .ok (.iload_n 3, 1) := by decide +kernel
theorem dX12_puts_17 : decode cX12_puts 17 = .ok (.iadd, 1) := by decide +kernel
theorem dX12_puts_18 : decode cX12_puts 18 = .ok (.iload_n 3, 1) := by decide +kernel
theorem dX12_puts_19 : decode cX12_puts 19 = .ok (.ifCond .ne 7, 3) := by decide +kernel
theorem dX12_puts_22 : decode cX12_puts 22 = .ok (.iload_n 2, 1) := by decide +kernel
theorem dX12_puts_23 : decode cX12_puts 23 = .ok (.goto 4, 3) := by decide +kernel
theorem dX12_puts_26 : decode cX12_puts 26 = .ok (.iconst 0, 1) := by decide +kernel
theorem dX12_puts_27 : decode cX12_puts 27 = .ok (.iastore, 1) := by decide +kernel
theorem dX12_puts_28 : decode cX12_puts 28 = .ok (.iinc 3 1, 3) := by decide +kernel
theorem dX12_puts_31 : decode cX12_puts 31 = .ok (.goto (-29), 3) := by decide +kernel
theorem dX12_puts_34 : decode cX12_puts 34 = .ok (.return_, 1) := by decide +kernel
theorem dX12_takes_0 : decode cX12_takes 0 = .ok (.iconst 0, 1) := by decide +kernel
theorem dX12_takes_1 : decode cX12_takes 1 = .ok (.istore_n 3, 1) := by decide +kernel
theorem dX12_takes_2 : decode cX12_takes 2 = .ok (.iload_n 3, 1) := by decide +kernel
theorem dX12_takes_3 : decode cX12_takes 3 = .ok (.bipush 7, 2) := by decide +kernel
theorem dX12_takes_5 : decode cX12_takes 5 = .ok (.if_icmp .ge 31, 3) := by decide +kernel
theorem dX12_takes_8 : decode cX12_takes 8 = .ok (.aload_n 0, 1) := by decide +kernel
theorem dX12_takes_9 : decode cX12_takes 9 = .ok (.getfield 94, 3) := by decide +kernel
theorem dX12_takes_12 : decode cX12_takes 12 = .ok (.bipush 7, 2) := by decide +kernel
theorem dX12_takes_14 : decode cX12_takes 14 = .ok (.iload_n 1, 1) := by decide +kernel
theorem dX12_takes_15 : decode cX12_takes 15 = .ok (.imul, 1) := by decide +kernel
theorem dX12_takes_16 : decode cX12_takes 16 = .ok (.iload_n 3, 1) := by decide +kernel
theorem dX12_takes_17 : decode cX12_takes 17 = .ok (.iadd, 1) := by decide +kernel
theorem dX12_takes_18 : decode cX12_takes 18 = .ok (.aload_n 0, 1) := by decide +kernel
theorem dX12_takes_19 : decode cX12_takes 19 = .ok (.getfield 94, 3) := by decide +kernel
theorem dX12_takes_22 : decode cX12_takes 22 = .ok (.bipush 7, 2) := by decide +kernel
theorem dX12_takes_24 : decode cX12_takes 24 = .ok (.iload_n 2, 1) := by decide +kernel
theorem dX12_takes_25 : decode cX12_takes 25 = .ok (.imul, 1) := by decide +kernel
theorem dX12_takes_26 : decode cX12_takes 26 = .ok (.iload_n 3, 1) := by decide +kernel
theorem dX12_takes_27 : decode cX12_takes 27 = .ok (.iadd, 1) := by decide +kernel
theorem dX12_takes_28 : decode cX12_takes 28 = .ok (.iaload, 1) := by decide +kernel
theorem dX12_takes_29 : decode cX12_takes 29 = .ok (.iastore, 1) := by decide +kernel
theorem dX12_takes_30 : decode cX12_takes 30 = .ok (.iinc 3 1, 3) := by decide +kernel
theorem dX12_takes_33 : decode cX12_takes 33 = .ok (.goto (-31), 3) := by decide +kernel
theorem dX12_takes_36 : decode cX12_takes 36 = .ok (.return_, 1) := by decide +kernel
theorem dX12_adds_0 : decode cX12_adds 0 = .ok (.iconst 0, 1) := by decide +kernel
theorem dX12_adds_1 : decode cX12_adds 1 = .ok (.istore_n 3, 1) := by decide +kernel
theorem dX12_adds_2 : decode cX12_adds 2 = .ok (.iconst 0, 1) := by decide +kernel
theorem dX12_adds_3 : decode cX12_adds 3 = .ok (.istore 4, 2) := by decide +kernel
theorem dX12_adds_5 : decode cX12_adds 5 = .ok (.iload 4, 2) := by decide +kernel
theorem dX12_adds_7 : decode cX12_adds 7 = .ok (.bipush 7, 2) := by decide +kernel
theorem dX12_adds_9 : decode cX12_adds 9 = .ok (.if_icmp .ge 68, 3) := by decide +kernel
theorem dX12_adds_12 : decode cX12_adds 12 = .ok (.aload_n 0, 1) := by decide +kernel
theorem dX12_adds_13 : decode cX12_adds 13 = .ok (.getfield 94, 3) := by decide +kernel
theorem dX12_adds_16 : decode cX12_adds 16 = .ok (.bipush 7, 2) := by decide +kernel
theorem dX12_adds_18 : decode cX12_adds 18 = .ok (.iload_n 1, 1) := by decide +kernel
theorem dX12_adds_19 : decode cX12_adds 19 = .ok (.imul, 1) := by decide +kernel
theorem dX12_adds_20 : decode cX12_adds 20 = .ok (.iload 4, 2) := by decide +kernel
theorem dX12_adds_22 : decode cX12_adds 22 = .ok (.iadd, 1) := by decide +kernel
theorem dX12_adds_23 : decode cX12_adds 23 = .ok (.iaload, 1) := by decide +kernel
theorem dX12_adds_24 : decode cX12_adds 24 = .ok (.i2l, 1) := by decide +kernel
theorem dX12_adds_25 : decode cX12_adds 25 = .ok (.aload_n 0, 1) := by decide +kernel
theorem dX12_adds_26 : decode cX12_adds 26 = .ok (.getfield 94, 3) := by decide +kernel
theorem dX12_adds_29 : decode cX12_adds 29 = .ok (.bipush 7, 2) := by decide +kernel
theorem dX12_adds_31 : decode cX12_adds 31 = .ok (.iload_n 2, 1) := by decide +kernel
theorem dX12_adds_32 : decode cX12_adds 32 = .ok (.imul, 1) := by decide +kernel
theorem dX12_adds_33 : decode cX12_adds 33 = .ok (.iload 4, 2) := by decide +kernel
theorem dX12_adds_35 : decode cX12_adds 35 = .ok (.iadd, 1) := by decide +kernel
theorem dX12_adds_36 : decode cX12_adds 36 = .ok (.iaload, 1) := by decide +kernel
theorem dX12_adds_37 : decode cX12_adds 37 = .ok (.i2l, 1) := by decide +kernel
theorem dX12_adds_38 : decode cX12_adds 38 = .ok (.ladd, 1) := by decide +kernel
theorem dX12_adds_39 : decode cX12_adds 39 = .ok (.iload_n 3, 1) := by decide +kernel
theorem dX12_adds_40 : decode cX12_adds 40 = .ok (.i2l, 1) := by decide +kernel
theorem dX12_adds_41 : decode cX12_adds 41 = .ok (.ladd, 1) := by decide +kernel
theorem dX12_adds_42 : decode cX12_adds 42 = .ok (.lstore 5, 2) := by decide +kernel
theorem dX12_adds_44 : decode cX12_adds 44 = .ok (.aload_n 0, 1) := by decide +kernel
theorem dX12_adds_45 : decode cX12_adds 45 = .ok (.getfield 94, 3) := by decide +kernel
theorem dX12_adds_48 : decode cX12_adds 48 = .ok (.bipush 7, 2) := by decide +kernel
theorem dX12_adds_50 : decode cX12_adds 50 = .ok (.iload_n 1, 1) := by decide +kernel
theorem dX12_adds_51 : decode cX12_adds 51 = .ok (.imul, 1) := by decide +kernel
theorem dX12_adds_52 : decode cX12_adds 52 = .ok (.iload 4, 2) := by decide +kernel
theorem dX12_adds_54 : decode cX12_adds 54 = .ok (.iadd, 1) := by decide +kernel
theorem dX12_adds_55 : decode cX12_adds 55 = .ok (.lload 5, 2) := by decide +kernel
theorem dX12_adds_57 : decode cX12_adds 57 = .ok (.ldc2_w 314, 3) := by decide +kernel
theorem dX12_adds_60 : decode cX12_adds 60 = .ok (.lrem, 1) := by decide +kernel
theorem dX12_adds_61 : decode cX12_adds 61 = .ok (.l2i, 1) := by decide +kernel
theorem dX12_adds_62 : decode cX12_adds 62 = .ok (.iastore, 1) := by decide +kernel
theorem dX12_adds_63 : decode cX12_adds 63 = .ok (.lload 5, 2) := by decide +kernel
theorem dX12_adds_65 : decode cX12_adds 65 = .ok (.ldc2_w 314, 3) := by decide +kernel
theorem dX12_adds_68 : decode cX12_adds 68 = .ok (.ldiv, 1) := by decide +kernel
theorem dX12_adds_69 : decode cX12_adds 69 = .ok (.l2i, 1) := by decide +kernel
theorem dX12_adds_70 : decode cX12_adds 70 = .ok (.istore_n 3, 1) := by decide +kernel
theorem dX12_adds_71 : decode cX12_adds 71 = .ok (.iinc 4 1, 3) := by decide +kernel
theorem dX12_adds_74 : decode cX12_adds 74 = .ok (.goto (-69), 3) := by decide +kernel
theorem dX12_adds_77 : decode cX12_adds 77 = .ok (.return_, 1) := by decide +kernel
theorem dX12_lessens_0 : decode cX12_lessens 0 = .ok (.iconst 0, 1) := by decide +kernel
theorem dX12_lessens_1 : decode cX12_lessens 1 = .ok (.istore_n 3, 1) := by decide +kernel
theorem dX12_lessens_2 : decode cX12_lessens 2 = .ok (.iconst 0, 1) := by decide +kernel
theorem dX12_lessens_3 : decode cX12_lessens 3 = .ok (.istore 4, 2) := by decide +kernel
theorem dX12_lessens_5 : decode cX12_lessens 5 = .ok (.iload 4, 2) := by decide +kernel
theorem dX12_lessens_7 : decode cX12_lessens 7 = .ok (.bipush 7, 2) := by decide +kernel
theorem dX12_lessens_9 : decode cX12_lessens 9 = .ok (.if_icmp .ge 77, 3) := by decide +kernel
theorem dX12_lessens_12 : decode cX12_lessens 12 = .ok (.aload_n 0, 1) := by decide +kernel
theorem dX12_lessens_13 : decode cX12_lessens 13 = .ok (.getfield 94, 3) := by decide +kernel
theorem dX12_lessens_16 : decode cX12_lessens 16 = .ok (.bipush 7, 2) := by decide +kernel
theorem dX12_lessens_18 : decode cX12_lessens 18 = .ok (.iload_n 1, 1) := by decide +kernel
theorem dX12_lessens_19 : decode cX12_lessens 19 = .ok (.imul, 1) := by decide +kernel
theorem dX12_lessens_20 : decode cX12_lessens 20 = .ok (.iload 4, 2) := by decide +kernel
theorem dX12_lessens_22 : decode cX12_lessens 22 = .ok (.iadd, 1) := by decide +kernel
theorem dX12_lessens_23 : decode cX12_lessens 23 = .ok (.iaload, 1) := by decide +kernel
theorem dX12_lessens_24 : decode cX12_lessens 24 = .ok (.aload_n 0, 1) := by decide +kernel
theorem dX12_lessens_25 : decode cX12_lessens 25 = .ok (.getfield 94, 3) := by decide +kernel
theorem dX12_lessens_28 : decode cX12_lessens 28 = .ok (.bipush 7, 2) := by decide +kernel
theorem dX12_lessens_30 : decode cX12_lessens 30 = .ok (.iload_n 2, 1) := by decide +kernel
theorem dX12_lessens_31 : decode cX12_lessens 31 = .ok (.imul, 1) := by decide +kernel
theorem dX12_lessens_32 : decode cX12_lessens 32 = .ok (.iload 4, 2) := by decide +kernel
theorem dX12_lessens_34 : decode cX12_lessens 34 = .ok (.iadd, 1) := by decide +kernel
theorem dX12_lessens_35 : decode cX12_lessens 35 = .ok (.iaload, 1) := by decide +kernel
theorem dX12_lessens_36 : decode cX12_lessens 36 = .ok (.isub, 1) := by decide +kernel
theorem dX12_lessens_37 : decode cX12_lessens 37 = .ok (.iload_n 3, 1) := by decide +kernel
theorem dX12_lessens_38 : decode cX12_lessens 38 = .ok (.isub, 1) := by decide +kernel
theorem dX12_lessens_39 : decode cX12_lessens 39 = .ok (.istore 5, 2) := by decide +kernel
theorem dX12_lessens_41 : decode cX12_lessens 41 = .ok (.iload 5, 2) := by decide +kernel
theorem dX12_lessens_43 : decode cX12_lessens 43 = .ok (.ifCond .ge 7, 3) := by decide +kernel
theorem dX12_lessens_46 : decode cX12_lessens 46 = .ok (.iconst 1, 1) := by decide +kernel
theorem dX12_lessens_47 : decode cX12_lessens 47 = .ok (.goto 4, 3) := by decide +kernel
theorem dX12_lessens_50 : decode cX12_lessens 50 = .ok (.iconst 0, 1) := by decide +kernel
theorem dX12_lessens_51 : decode cX12_lessens 51 = .ok (.istore_n 3, 1) := by decide +kernel
theorem dX12_lessens_52 : decode cX12_lessens 52 = .ok (.aload_n 0, 1) := by decide +kernel
theorem dX12_lessens_53 : decode cX12_lessens 53 = .ok (.getfield 94, 3) := by decide +kernel
theorem dX12_lessens_56 : decode cX12_lessens 56 = .ok (.bipush 7, 2) := by decide +kernel
theorem dX12_lessens_58 : decode cX12_lessens 58 = .ok (.iload_n 1, 1) := by decide +kernel
theorem dX12_lessens_59 : decode cX12_lessens 59 = .ok (.imul, 1) := by decide +kernel
theorem dX12_lessens_60 : decode cX12_lessens 60 = .ok (.iload 4, 2) := by decide +kernel
theorem dX12_lessens_62 : decode cX12_lessens 62 = .ok (.iadd, 1) := by decide +kernel
theorem dX12_lessens_63 : decode cX12_lessens 63 = .ok (.iload 5, 2) := by decide +kernel
theorem dX12_lessens_65 : decode cX12_lessens 65 = .ok (.ifCond .ge 12, 3) := by decide +kernel
theorem dX12_lessens_68 : decode cX12_lessens 68 = .ok (.iload 5, 2) := by decide +kernel
theorem dX12_lessens_70 : decode cX12_lessens 70 = .ok (.ldc_w 316, 3) := by decide +kernel
theorem dX12_lessens_73 : decode cX12_lessens 73 = .ok (.iadd, 1) := by decide +kernel
theorem dX12_lessens_74 : decode cX12_lessens 74 = .ok (.goto 5, 3) := by decide +kernel
theorem dX12_lessens_77 : decode cX12_lessens 77 = .ok (.iload 5, 2) := by decide +kernel
theorem dX12_lessens_79 : decode cX12_lessens 79 = .ok (.iastore, 1) := by decide +kernel
theorem dX12_lessens_80 : decode cX12_lessens 80 = .ok (.iinc 4 1, 3) := by decide +kernel
theorem dX12_lessens_83 : decode cX12_lessens 83 = .ok (.goto (-78), 3) := by decide +kernel
theorem dX12_lessens_86 : decode cX12_lessens 86 = .ok (.return_, 1) := by decide +kernel
theorem dX12_times_0 : decode cX12_times 0 = .ok (.lconst 0, 1) := by decide +kernel
theorem dX12_times_1 : decode cX12_times 1 = .ok (.lstore_n 3, 1) := by decide +kernel
theorem dX12_times_2 : decode cX12_times 2 = .ok (.iconst 0, 1) := by decide +kernel
theorem dX12_times_3 : decode cX12_times 3 = .ok (.istore 5, 2) := by decide +kernel
theorem dX12_times_5 : decode cX12_times 5 = .ok (.iload 5, 2) := by decide +kernel
theorem dX12_times_7 : decode cX12_times 7 = .ok (.bipush 7, 2) := by decide +kernel
theorem dX12_times_9 : decode cX12_times 9 = .ok (.if_icmp .ge 55, 3) := by decide +kernel
theorem dX12_times_12 : decode cX12_times 12 = .ok (.aload_n 0, 1) := by decide +kernel
theorem dX12_times_13 : decode cX12_times 13 = .ok (.getfield 94, 3) := by decide +kernel
theorem dX12_times_16 : decode cX12_times 16 = .ok (.bipush 7, 2) := by decide +kernel
theorem dX12_times_18 : decode cX12_times 18 = .ok (.iload_n 1, 1) := by decide +kernel
theorem dX12_times_19 : decode cX12_times 19 = .ok (.imul, 1) := by decide +kernel
theorem dX12_times_20 : decode cX12_times 20 = .ok (.iload 5, 2) := by decide +kernel
theorem dX12_times_22 : decode cX12_times 22 = .ok (.iadd, 1) := by decide +kernel
theorem dX12_times_23 : decode cX12_times 23 = .ok (.iaload, 1) := by decide +kernel
theorem dX12_times_24 : decode cX12_times 24 = .ok (.i2l, 1) := by decide +kernel
theorem dX12_times_25 : decode cX12_times 25 = .ok (.iload_n 2, 1) := by decide +kernel
theorem dX12_times_26 : decode cX12_times 26 = .ok (.i2l, 1) := by decide +kernel
theorem dX12_times_27 : decode cX12_times 27 = .ok (.lmul, 1) := by decide +kernel
theorem dX12_times_28 : decode cX12_times 28 = .ok (.lload_n 3, 1) := by decide +kernel
theorem dX12_times_29 : decode cX12_times 29 = .ok (.ladd, 1) := by decide +kernel
theorem dX12_times_30 : decode cX12_times 30 = .ok (.lstore 6, 2) := by decide +kernel
theorem dX12_times_32 : decode cX12_times 32 = .ok (.aload_n 0, 1) := by decide +kernel
theorem dX12_times_33 : decode cX12_times 33 = .ok (.getfield 94, 3) := by decide +kernel
theorem dX12_times_36 : decode cX12_times 36 = .ok (.bipush 7, 2) := by decide +kernel
theorem dX12_times_38 : decode cX12_times 38 = .ok (.iload_n 1, 1) := by decide +kernel
theorem dX12_times_39 : decode cX12_times 39 = .ok (.imul, 1) := by decide +kernel
theorem dX12_times_40 : decode cX12_times 40 = .ok (.iload 5, 2) := by decide +kernel
theorem dX12_times_42 : decode cX12_times 42 = .ok (.iadd, 1) := by decide +kernel
theorem dX12_times_43 : decode cX12_times 43 = .ok (.lload 6, 2) := by decide +kernel
theorem dX12_times_45 : decode cX12_times 45 = .ok (.ldc2_w 314, 3) := by decide +kernel
theorem dX12_times_48 : decode cX12_times 48 = .ok (.lrem, 1) := by decide +kernel
theorem dX12_times_49 : decode cX12_times 49 = .ok (.l2i, 1) := by decide +kernel
theorem dX12_times_50 : decode cX12_times 50 = .ok (.iastore, 1) := by decide +kernel
theorem dX12_times_51 : decode cX12_times 51 = .ok (.lload 6, 2) := by decide +kernel
theorem dX12_times_53 : decode cX12_times 53 = .ok (.ldc2_w 314, 3) := by decide +kernel
theorem dX12_times_56 : decode cX12_times 56 = .ok (.ldiv, 1) := by decide +kernel
theorem dX12_times_57 : decode cX12_times 57 = .ok (.lstore_n 3, 1) := by decide +kernel
theorem dX12_times_58 : decode cX12_times 58 = .ok (.iinc 5 1, 3) := by decide +kernel
theorem dX12_times_61 : decode cX12_times 61 = .ok (.goto (-56), 3) := by decide +kernel
theorem dX12_times_64 : decode cX12_times 64 = .ok (.return_, 1) := by decide +kernel
theorem dX12_multiplies_0 : decode cX12_multiplies 0 = .ok (.aload_n 0, 1) := by decide +kernel
theorem dX12_multiplies_1 : decode cX12_multiplies 1 = .ok (.iload_n 1, 1) := by decide +kernel
theorem dX12_multiplies_2 : decode cX12_multiplies 2 = .ok (.iconst 0, 1) := by decide +kernel
theorem dX12_multiplies_3 : decode cX12_multiplies 3 = .ok (.invokevirtual 175, 3) := by decide +kernel
theorem dX12_multiplies_6 : decode cX12_multiplies 6 = .ok (.iconst 0, 1) := by decide +kernel
theorem dX12_multiplies_7 : decode cX12_multiplies 7 = .ok (.istore 4, 2) := by decide +kernel
theorem dX12_multiplies_9 : decode cX12_multiplies 9 = .ok (.iload 4, 2) := by decide +kernel
theorem dX12_multiplies_11 : decode cX12_multiplies 11 = .ok (.bipush 7, 2) := by decide +kernel
theorem dX12_multiplies_13 : decode cX12_multiplies 13 = .ok (.if_icmp .ge 110, 3) := by decide +kernel
theorem dX12_multiplies_16 : decode cX12_multiplies 16 = .ok (.lconst 0, 1) := by decide +kernel
theorem dX12_multiplies_17 : decode cX12_multiplies 17 = .ok (.lstore 5, 2) := by decide +kernel
theorem dX12_multiplies_19 : decode cX12_multiplies 19 = .ok (.iconst 0, 1) := by decide +kernel
theorem dX12_multiplies_20 : decode cX12_multiplies 20 = .ok (.istore 7, 2) := by decide +kernel
theorem dX12_multiplies_22 : decode cX12_multiplies 22 = .ok (.iload 4, 2) := by decide +kernel
theorem dX12_multiplies_24 : decode cX12_multiplies 24 = .ok (.iload 7, 2) := by decide +kernel
theorem dX12_multiplies_26 : decode cX12_multiplies 26 = .ok (.iadd, 1) := by decide +kernel
theorem dX12_multiplies_27 : decode cX12_multiplies 27 = .ok (.bipush 7, 2) := by decide +kernel
theorem dX12_multiplies_29 : decode cX12_multiplies 29 = .ok (.if_icmp .ge 88, 3) := by decide +kernel
theorem dX12_multiplies_32 : decode cX12_multiplies 32 = .ok (.aload_n 0, 1) := by decide +kernel
theorem dX12_multiplies_33 : decode cX12_multiplies 33 = .ok (.getfield 94, 3) := by decide +kernel
theorem dX12_multiplies_36 : decode cX12_multiplies 36 = .ok (.bipush 7, 2) := by decide +kernel
theorem dX12_multiplies_38 : decode cX12_multiplies 38 = .ok (.iload_n 2, 1) := by decide +kernel
theorem dX12_multiplies_39 : decode cX12_multiplies 39 = .ok (.imul, 1) := by decide +kernel
theorem dX12_multiplies_40 : decode cX12_multiplies 40 = .ok (.iload 4, 2) := by decide +kernel
theorem dX12_multiplies_42 : decode cX12_multiplies 42 = .ok (.iadd, 1) := by decide +kernel
theorem dX12_multiplies_43 : decode cX12_multiplies 43 = .ok (.iaload, 1) := by decide +kernel
theorem dX12_multiplies_44 : decode cX12_multiplies 44 = .ok (.i2l, 1) := by decide +kernel
theorem dX12_multiplies_45 : decode cX12_multiplies 45 = .ok (.aload_n 0, 1) := by decide +kernel
theorem dX12_multiplies_46 : decode cX12_multiplies 46 = .ok (.getfield 94, 3) := by decide +kernel
theorem dX12_multiplies_49 : decode cX12_multiplies 49 = .ok (.bipush 7, 2) := by decide +kernel
theorem dX12_multiplies_51 : decode cX12_multiplies 51 = .ok (.iload_n 3, 1) := by decide +kernel
theorem dX12_multiplies_52 : decode cX12_multiplies 52 = .ok (.imul, 1) := by decide +kernel
theorem dX12_multiplies_53 : decode cX12_multiplies 53 = .ok (.iload 7, 2) := by decide +kernel
theorem dX12_multiplies_55 : decode cX12_multiplies 55 = .ok (.iadd, 1) := by decide +kernel
theorem dX12_multiplies_56 : decode cX12_multiplies 56 = .ok (.iaload, 1) := by decide +kernel
theorem dX12_multiplies_57 : decode cX12_multiplies 57 = .ok (.i2l, 1) := by decide +kernel
theorem dX12_multiplies_58 : decode cX12_multiplies 58 = .ok (.lmul, 1) := by decide +kernel
theorem dX12_multiplies_59 : decode cX12_multiplies 59 = .ok (.aload_n 0, 1) := by decide +kernel
theorem dX12_multiplies_60 : decode cX12_multiplies 60 = .ok (.getfield 94, 3) := by decide +kernel
theorem dX12_multiplies_63 : decode cX12_multiplies 63 = .ok (.bipush 7, 2) := by decide +kernel
theorem dX12_multiplies_65 : decode cX12_multiplies 65 = .ok (.iload_n 1, 1) := by decide +kernel
theorem dX12_multiplies_66 : decode cX12_multiplies 66 = .ok (.imul, 1) := by decide +kernel
theorem dX12_multiplies_67 : decode cX12_multiplies 67 = .ok (.iload 4, 2) := by decide +kernel
theorem dX12_multiplies_69 : decode cX12_multiplies 69 = .ok (.iadd, 1) := by decide +kernel
theorem dX12_multiplies_70 : decode cX12_multiplies 70 = .ok (.iload 7, 2) := by decide +kernel
theorem dX12_multiplies_72 : decode cX12_multiplies 72 = .ok (.iadd, 1) := by decide +kernel
theorem dX12_multiplies_73 : decode cX12_multiplies 73 = .ok (.iaload, 1) := by decide +kernel
theorem dX12_multiplies_74 : decode cX12_multiplies 74 = .ok (.i2l, 1) := by decide +kernel
theorem dX12_multiplies_75 : decode cX12_multiplies 75 = .ok (.ladd, 1) := by decide +kernel
theorem dX12_multiplies_76 : decode cX12_multiplies 76 = .ok (.lload 5, 2) := by decide +kernel
theorem dX12_multiplies_78 : decode cX12_multiplies 78 = .ok (.ladd, 1) := by decide +kernel
theorem dX12_multiplies_79 : decode cX12_multiplies 79 = .ok (.lstore 8, 2) := by decide +kernel
theorem dX12_multiplies_81 : decode cX12_multiplies 81 = .ok (.aload_n 0, 1) := by decide +kernel
theorem dX12_multiplies_82 : decode cX12_multiplies 82 = .ok (.getfield 94, 3) := by decide +kernel
theorem dX12_multiplies_85 : decode cX12_multiplies 85 = .ok (.bipush 7, 2) := by decide +kernel
theorem dX12_multiplies_87 : decode cX12_multiplies 87 = .ok (.iload_n 1, 1) := by decide +kernel
theorem dX12_multiplies_88 : decode cX12_multiplies 88 = .ok (.imul, 1) := by decide +kernel
theorem dX12_multiplies_89 : decode cX12_multiplies 89 = .ok (.iload 4, 2) := by decide +kernel
theorem dX12_multiplies_91 : decode cX12_multiplies 91 = .ok (.iadd, 1) := by decide +kernel
theorem dX12_multiplies_92 : decode cX12_multiplies 92 = .ok (.iload 7, 2) := by decide +kernel
theorem dX12_multiplies_94 : decode cX12_multiplies 94 = .ok (.iadd, 1) := by decide +kernel
theorem dX12_multiplies_95 : decode cX12_multiplies 95 = .ok (.lload 8, 2) := by decide +kernel
theorem dX12_multiplies_97 : decode cX12_multiplies 97 = .ok (.ldc2_w 314, 3) := by decide +kernel
theorem dX12_multiplies_100 : decode cX12_multiplies 100 = .ok (.lrem, 1) := by decide +kernel
theorem dX12_multiplies_101 : decode cX12_multiplies 101 = .ok (.l2i, 1) := by decide +kernel
theorem dX12_multiplies_102 : decode cX12_multiplies 102 = .ok (.iastore, 1) := by decide +kernel
theorem dX12_multiplies_103 : decode cX12_multiplies 103 = .ok (.lload 8, 2) := by decide +kernel
theorem dX12_multiplies_105 : decode cX12_multiplies 105 = .ok (.ldc2_w 314, 3) := by decide +kernel
theorem dX12_multiplies_108 : decode cX12_multiplies 108 = .ok (.ldiv, 1) := by decide +kernel
theorem dX12_multiplies_109 : decode cX12_multiplies 109 = .ok (.lstore 5, 2) := by decide +kernel
theorem dX12_multiplies_111 : decode cX12_multiplies 111 = .ok (.iinc 7 1, 3) := by decide +kernel
theorem dX12_multiplies_114 : decode cX12_multiplies 114 = .ok (.goto (-92), 3) := by decide +kernel
theorem dX12_multiplies_117 : decode cX12_multiplies 117 = .ok (.iinc 4 1, 3) := by decide +kernel
theorem dX12_multiplies_120 : decode cX12_multiplies 120 = .ok (.goto (-111), 3) := by decide +kernel
theorem dX12_multiplies_123 : decode cX12_multiplies 123 = .ok (.return_, 1) := by decide +kernel
theorem dX12_against_0 : decode cX12_against 0 = .ok (.bipush 6, 2) := by decide +kernel
theorem dX12_against_2 : decode cX12_against 2 = .ok (.istore_n 3, 1) := by decide +kernel
theorem dX12_against_3 : decode cX12_against 3 = .ok (.iload_n 3, 1) := by decide +kernel
theorem dX12_against_4 : decode cX12_against 4 = .ok (.ifCond .lt 55, 3) := by decide +kernel
theorem dX12_against_7 : decode cX12_against 7 = .ok (.aload_n 0, 1) := by decide +kernel
theorem dX12_against_8 : decode cX12_against 8 = .ok (.getfield 94, 3) := by decide +kernel
theorem dX12_against_11 : decode cX12_against 11 = .ok (.bipush 7, 2) := by decide +kernel
theorem dX12_against_13 : decode cX12_against 13 = .ok (.iload_n 1, 1) := by decide +kernel
theorem dX12_against_14 : decode cX12_against 14 = .ok (.imul, 1) := by decide +kernel
theorem dX12_against_15 : decode cX12_against 15 = .ok (.iload_n 3, 1) := by decide +kernel
theorem dX12_against_16 : decode cX12_against 16 = .ok (.iadd, 1) := by decide +kernel
theorem dX12_against_17 : decode cX12_against 17 = .ok (.iaload, 1) := by decide +kernel
theorem dX12_against_18 : decode cX12_against 18 = .ok (.istore 4, 2) := by decide +kernel
theorem dX12_against_20 : decode cX12_against 20 = .ok (.aload_n 0, 1) := by decide +kernel
theorem dX12_against_21 : decode cX12_against 21 = .ok (.getfield 94, 3) := by decide +kernel
theorem dX12_against_24 : decode cX12_against 24 = .ok (.bipush 7, 2) := by decide +kernel
theorem dX12_against_26 : decode cX12_against 26 = .ok (.iload_n 2, 1) := by decide +kernel
theorem dX12_against_27 : decode cX12_against 27 = .ok (.imul, 1) := by decide +kernel
theorem dX12_against_28 : decode cX12_against 28 = .ok (.iload_n 3, 1) := by decide +kernel
theorem dX12_against_29 : decode cX12_against 29 = .ok (.iadd, 1) := by decide +kernel
theorem dX12_against_30 : decode cX12_against 30 = .ok (.iaload, 1) := by decide +kernel
theorem dX12_against_31 : decode cX12_against 31 = .ok (.istore 5, 2) := by decide +kernel
theorem dX12_against_33 : decode cX12_against 33 = .ok (.iload 4, 2) := by decide +kernel
theorem dX12_against_35 : decode cX12_against 35 = .ok (.iload 5, 2) := by decide +kernel
theorem dX12_against_37 : decode cX12_against 37 = .ok (.if_icmp .eq 16, 3) := by decide +kernel
theorem dX12_against_40 : decode cX12_against 40 = .ok (.iload 4, 2) := by decide +kernel
theorem dX12_against_42 : decode cX12_against 42 = .ok (.iload 5, 2) := by decide +kernel
theorem dX12_against_44 : decode cX12_against 44 = .ok (.if_icmp .ge 7, 3) := by decide +kernel
theorem dX12_against_47 : decode cX12_against 47 = .ok (.iconst (-1), 1) := by decide +kernel
theorem dX12_against_48 : decode cX12_against 48 = .ok (.goto 4, 3) := by decide +kernel
theorem dX12_against_51 : decode cX12_against 51 = .ok (.iconst 1, 1) := by decide +kernel
theorem dX12_against_52 : decode cX12_against 52 = .ok (.ireturn, 1) := by decide +kernel
theorem dX12_against_53 : decode cX12_against 53 = .ok (.iinc 3 (-1), 3) := by decide +kernel
theorem dX12_against_56 : decode cX12_against 56 = .ok (.goto (-53), 3) := by decide +kernel
theorem dX12_against_59 : decode cX12_against 59 = .ok (.iconst 0, 1) := by decide +kernel
theorem dX12_against_60 : decode cX12_against 60 = .ok (.ireturn, 1) := by decide +kernel
theorem dX12_isNothing_0 : decode cX12_isNothing 0 = .ok (.iconst 0, 1) := by decide +kernel
theorem dX12_isNothing_1 : decode cX12_isNothing 1 = .ok (.istore_n 2, 1) := by decide +kernel
theorem dX12_isNothing_2 : decode cX12_isNothing 2 = .ok (.iload_n 2, 1) := by decide +kernel
theorem dX12_isNothing_3 : decode cX12_isNothing 3 = .ok (.bipush 7, 2) := by decide +kernel
theorem dX12_isNothing_5 : decode cX12_isNothing 5 = .ok (.if_icmp .ge 25, 3) := by decide +kernel
theorem dX12_isNothing_8 : decode cX12_isNothing 8 = .ok (.aload_n 0, 1) := by decide +kernel
theorem dX12_isNothing_9 : decode cX12_isNothing 9 = .ok (.getfield 94, 3) := by decide +kernel
theorem dX12_isNothing_12 : decode cX12_isNothing 12 = .ok (.bipush 7, 2) := by decide +kernel
theorem dX12_isNothing_14 : decode cX12_isNothing 14 = .ok (.iload_n 1, 1) := by decide +kernel
theorem dX12_isNothing_15 : decode cX12_isNothing 15 = .ok (.imul, 1) := by decide +kernel
theorem dX12_isNothing_16 : decode cX12_isNothing 16 = .ok (.iload_n 2, 1) := by decide +kernel
theorem dX12_isNothing_17 : decode cX12_isNothing 17 = .ok (.iadd, 1) := by decide +kernel
theorem dX12_isNothing_18 : decode cX12_isNothing 18 = .ok (.iaload, 1) := by decide +kernel
theorem dX12_isNothing_19 : decode cX12_isNothing 19 = .ok (.ifCond .eq 5, 3) := by decide +kernel
theorem dX12_isNothing_22 : decode cX12_isNothing 22 = .ok (.iconst 0, 1) := by decide +kernel
theorem dX12_isNothing_23 : decode cX12_isNothing 23 = .ok (.ireturn, 1) := by decide +kernel
theorem dX12_isNothing_24 : decode cX12_isNothing 24 = .ok (.iinc 2 1, 3) := by decide +kernel
theorem dX12_isNothing_27 : decode cX12_isNothing 27 = .ok (.goto (-25), 3) := by decide +kernel
theorem dX12_isNothing_30 : decode cX12_isNothing 30 = .ok (.iconst 1, 1) := by decide +kernel
theorem dX12_isNothing_31 : decode cX12_isNothing 31 = .ok (.ireturn, 1) := by decide +kernel
theorem dX12_halves_0 : decode cX12_halves 0 = .ok (.iconst 0, 1) := by decide +kernel
theorem dX12_halves_1 : decode cX12_halves 1 = .ok (.istore_n 2, 1) := by decide +kernel
theorem dX12_halves_2 : decode cX12_halves 2 = .ok (.bipush 6, 2) := by decide +kernel
theorem dX12_halves_4 : decode cX12_halves 4 = .ok (.istore_n 3, 1) := by decide +kernel
theorem dX12_halves_5 : decode cX12_halves 5 = .ok (.iload_n 3, 1) := by decide +kernel
theorem dX12_halves_6 : decode cX12_halves 6 = .ok (.ifCond .lt 55, 3) := by decide +kernel
theorem dX12_halves_9 : decode cX12_halves 9 = .ok (.aload_n 0, 1) := by decide +kernel
theorem dX12_halves_10 : decode cX12_halves 10 = .ok (.getfield 94, 3) := by decide +kernel
theorem dX12_halves_13 : decode cX12_halves 13 = .ok (.bipush 7, 2) := by decide +kernel
theorem dX12_halves_15 : decode cX12_halves 15 = .ok (.iload_n 1, 1) := by decide +kernel
theorem dX12_halves_16 : decode cX12_halves 16 = .ok (.imul, 1) := by decide +kernel
theorem dX12_halves_17 : decode cX12_halves 17 = .ok (.iload_n 3, 1) := by decide +kernel
theorem dX12_halves_18 : decode cX12_halves 18 = .ok (.iadd, 1) := by decide +kernel
theorem dX12_halves_19 : decode cX12_halves 19 = .ok (.iaload, 1) := by decide +kernel
theorem dX12_halves_20 : decode cX12_halves 20 = .ok (.istore 4, 2) := by decide +kernel
theorem dX12_halves_22 : decode cX12_halves 22 = .ok (.aload_n 0, 1) := by decide +kernel
theorem dX12_halves_23 : decode cX12_halves 23 = .ok (.getfield 94, 3) := by decide +kernel
theorem dX12_halves_26 : decode cX12_halves 26 = .ok (.bipush 7, 2) := by decide +kernel
theorem dX12_halves_28 : decode cX12_halves 28 = .ok (.iload_n 1, 1) := by decide +kernel
theorem dX12_halves_29 : decode cX12_halves 29 = .ok (.imul, 1) := by decide +kernel
theorem dX12_halves_30 : decode cX12_halves 30 = .ok (.iload_n 3, 1) := by decide +kernel
theorem dX12_halves_31 : decode cX12_halves 31 = .ok (.iadd, 1) := by decide +kernel
theorem dX12_halves_32 : decode cX12_halves 32 = .ok (.iload 4, 2) := by decide +kernel
theorem dX12_halves_34 : decode cX12_halves 34 = .ok (.iconst 1, 1) := by decide +kernel
theorem dX12_halves_35 : decode cX12_halves 35 = .ok (.ishr, 1) := by decide +kernel
theorem dX12_halves_36 : decode cX12_halves 36 = .ok (.iload_n 2, 1) := by decide +kernel
theorem dX12_halves_37 : decode cX12_halves 37 = .ok (.iconst 1, 1) := by decide +kernel
theorem dX12_halves_38 : decode cX12_halves 38 = .ok (.if_icmp .ne 9, 3) := by decide +kernel
theorem dX12_halves_41 : decode cX12_halves 41 = .ok (.ldc_w 317, 3) := by decide +kernel
theorem dX12_halves_44 : decode cX12_halves 44 = .ok (.goto 4, 3) := by decide +kernel
theorem dX12_halves_47 : decode cX12_halves 47 = .ok (.iconst 0, 1) := by decide +kernel
theorem dX12_halves_48 : decode cX12_halves 48 = .ok (.iadd, 1) := by decide +kernel
theorem dX12_halves_49 : decode cX12_halves 49 = .ok (.iastore, 1) := by decide +kernel
theorem dX12_halves_50 : decode cX12_halves 50 = .ok (.iload 4, 2) := by decide +kernel
theorem dX12_halves_52 : decode cX12_halves 52 = .ok (.iconst 1, 1) := by decide +kernel
theorem dX12_halves_53 : decode cX12_halves 53 = .ok (.iand, 1) := by decide +kernel
theorem dX12_halves_54 : decode cX12_halves 54 = .ok (.istore_n 2, 1) := by decide +kernel
theorem dX12_halves_55 : decode cX12_halves 55 = .ok (.iinc 3 (-1), 3) := by decide +kernel
theorem dX12_halves_58 : decode cX12_halves 58 = .ok (.goto (-53), 3) := by decide +kernel
theorem dX12_halves_61 : decode cX12_halves 61 = .ok (.return_, 1) := by decide +kernel
theorem dX12_isEven_0 : decode cX12_isEven 0 = .ok (.aload_n 0, 1) := by decide +kernel
theorem dX12_isEven_1 : decode cX12_isEven 1 = .ok (.getfield 94, 3) := by decide +kernel
theorem dX12_isEven_4 : decode cX12_isEven 4 = .ok (.bipush 7, 2) := by decide +kernel
theorem dX12_isEven_6 : decode cX12_isEven 6 = .ok (.iload_n 1, 1) := by decide +kernel
theorem dX12_isEven_7 : decode cX12_isEven 7 = .ok (.imul, 1) := by decide +kernel
theorem dX12_isEven_8 : decode cX12_isEven 8 = .ok (.iaload, 1) := by decide +kernel
theorem dX12_isEven_9 : decode cX12_isEven 9 = .ok (.iconst 1, 1) := by decide +kernel
theorem dX12_isEven_10 : decode cX12_isEven 10 = .ok (.iand, 1) := by decide +kernel
theorem dX12_isEven_11 : decode cX12_isEven 11 = .ok (.ifCond .ne 7, 3) := by decide +kernel
theorem dX12_isEven_14 : decode cX12_isEven 14 = .ok (.iconst 1, 1) := by decide +kernel
theorem dX12_isEven_15 : decode cX12_isEven 15 = .ok (.goto 4, 3) := by decide +kernel
theorem dX12_isEven_18 : decode cX12_isEven 18 = .ok (.iconst 0, 1) := by decide +kernel
theorem dX12_isEven_19 : decode cX12_isEven 19 = .ok (.ireturn, 1) := by decide +kernel
theorem dX12_divisor_0 : decode cX12_divisor 0 = .ok (.iconst 0, 1) := by decide +kernel
theorem dX12_divisor_1 : decode cX12_divisor 1 = .ok (.istore_n 3, 1) := by decide +kernel
theorem dX12_divisor_2 : decode cX12_divisor 2 = .ok (.aload_n 0, 1) := by decide +kernel
theorem dX12_divisor_3 : decode cX12_divisor 3 = .ok (.iload_n 1, 1) := by decide +kernel
theorem dX12_divisor_4 : decode cX12_divisor 4 = .ok (.invokevirtual 318, 3) := by decide +kernel
theorem dX12_divisor_7 : decode cX12_divisor 7 = .ok (.ifCond .eq 27, 3) := by decide +kernel
theorem dX12_divisor_10 : decode cX12_divisor 10 = .ok (.aload_n 0, 1) := by decide +kernel
theorem dX12_divisor_11 : decode cX12_divisor 11 = .ok (.iload_n 2, 1) := by decide +kernel
theorem dX12_divisor_12 : decode cX12_divisor 12 = .ok (.invokevirtual 318, 3) := by decide +kernel
theorem dX12_divisor_15 : decode cX12_divisor 15 = .ok (.ifCond .eq 19, 3) := by decide +kernel
theorem dX12_divisor_18 : decode cX12_divisor 18 = .ok (.aload_n 0, 1) := by decide +kernel
theorem dX12_divisor_19 : decode cX12_divisor 19 = .ok (.iload_n 1, 1) := by decide +kernel
theorem dX12_divisor_20 : decode cX12_divisor 20 = .ok (.invokevirtual 321, 3) := by decide +kernel
theorem dX12_divisor_23 : decode cX12_divisor 23 = .ok (.aload_n 0, 1) := by decide +kernel
theorem dX12_divisor_24 : decode cX12_divisor 24 = .ok (.iload_n 2, 1) := by decide +kernel
theorem dX12_divisor_25 : decode cX12_divisor 25 = .ok (.invokevirtual 321, 3) := by decide +kernel
theorem dX12_divisor_28 : decode cX12_divisor 28 = .ok (.iinc 3 1, 3) := by decide +kernel
theorem dX12_divisor_31 : decode cX12_divisor 31 = .ok (.goto (-29), 3) := by decide +kernel
theorem dX12_divisor_34 : decode cX12_divisor 34 = .ok (.aload_n 0, 1) := by decide +kernel
theorem dX12_divisor_35 : decode cX12_divisor 35 = .ok (.iload_n 2, 1) := by decide +kernel
theorem dX12_divisor_36 : decode cX12_divisor 36 = .ok (.invokevirtual 324, 3) := by decide +kernel
theorem dX12_divisor_39 : decode cX12_divisor 39 = .ok (.ifCond .ne 84, 3) := by decide +kernel
theorem dX12_divisor_42 : decode cX12_divisor 42 = .ok (.aload_n 0, 1) := by decide +kernel
theorem dX12_divisor_43 : decode cX12_divisor 43 = .ok (.iload_n 1, 1) := by decide +kernel
theorem dX12_divisor_44 : decode cX12_divisor 44 = .ok (.invokevirtual 318, 3) := by decide +kernel
theorem dX12_divisor_47 : decode cX12_divisor 47 = .ok (.ifCond .eq 11, 3) := by decide +kernel
theorem dX12_divisor_50 : decode cX12_divisor 50 = .ok (.aload_n 0, 1) := by decide +kernel
theorem dX12_divisor_51 : decode cX12_divisor 51 = .ok (.iload_n 1, 1) := by decide +kernel
theorem dX12_divisor_52 : decode cX12_divisor 52 = .ok (.invokevirtual 321, 3) := by decide +kernel
theorem dX12_divisor_55 : decode cX12_divisor 55 = .ok (.goto (-13), 3) := by decide +kernel
theorem dX12_divisor_58 : decode cX12_divisor 58 = .ok (.aload_n 0, 1) := by decide +kernel
theorem dX12_divisor_59 : decode cX12_divisor 59 = .ok (.iload_n 2, 1) := by decide +kernel
theorem dX12_divisor_60 : decode cX12_divisor 60 = .ok (.invokevirtual 318, 3) := by decide +kernel
theorem dX12_divisor_63 : decode cX12_divisor 63 = .ok (.ifCond .eq 11, 3) := by decide +kernel
theorem dX12_divisor_66 : decode cX12_divisor 66 = .ok (.aload_n 0, 1) := by decide +kernel
theorem dX12_divisor_67 : decode cX12_divisor 67 = .ok (.iload_n 2, 1) := by decide +kernel
theorem dX12_divisor_68 : decode cX12_divisor 68 = .ok (.invokevirtual 321, 3) := by decide +kernel
theorem dX12_divisor_71 : decode cX12_divisor 71 = .ok (.goto (-13), 3) := by decide +kernel
theorem dX12_divisor_74 : decode cX12_divisor 74 = .ok (.aload_n 0, 1) := by decide +kernel
theorem dX12_divisor_75 : decode cX12_divisor 75 = .ok (.iload_n 1, 1) := by decide +kernel
theorem dX12_divisor_76 : decode cX12_divisor 76 = .ok (.iload_n 2, 1) := by decide +kernel
theorem dX12_divisor_77 : decode cX12_divisor 77 = .ok (.invokevirtual 327, 3) := by decide +kernel
theorem dX12_divisor_80 : decode cX12_divisor 80 = .ok (.ifCond .le 34, 3) := by decide +kernel
theorem dX12_divisor_83 : decode cX12_divisor 83 = .ok (.aload_n 0, 1) := by decide +kernel
theorem dX12_divisor_84 : decode cX12_divisor 84 = .ok (.iload_n 1, 1) := by decide +kernel
theorem dX12_divisor_85 : decode cX12_divisor 85 = .ok (.iload_n 2, 1) := by decide +kernel
theorem dX12_divisor_86 : decode cX12_divisor 86 = .ok (.invokevirtual 330, 3) := by decide +kernel
theorem dX12_divisor_89 : decode cX12_divisor 89 = .ok (.aload_n 0, 1) := by decide +kernel
theorem dX12_divisor_90 : decode cX12_divisor 90 = .ok (.sipush 4506, 3) := by decide +kernel
theorem dX12_divisor_93 : decode cX12_divisor 93 = .ok (.iload_n 1, 1) := by decide +kernel
theorem dX12_divisor_94 : decode cX12_divisor 94 = .ok (.invokevirtual 333, 3) := by decide +kernel
theorem dX12_divisor_97 : decode cX12_divisor 97 = .ok (.aload_n 0, 1) := by decide +kernel
theorem dX12_divisor_98 : decode cX12_divisor 98 = .ok (.iload_n 1, 1) := by decide +kernel
theorem dX12_divisor_99 : decode cX12_divisor 99 = .ok (.iload_n 2, 1) := by decide +kernel
theorem dX12_divisor_100 : decode cX12_divisor 100 = .ok (.invokevirtual 333, 3) := by decide +kernel
theorem dX12_divisor_103 : decode cX12_divisor 103 = .ok (.aload_n 0, 1) := by decide +kernel
theorem dX12_divisor_104 : decode cX12_divisor 104 = .ok (.iload_n 2, 1) := by decide +kernel
theorem dX12_divisor_105 : decode cX12_divisor 105 = .ok (.sipush 4506, 3) := by decide +kernel
theorem dX12_divisor_108 : decode cX12_divisor 108 = .ok (.invokevirtual 333, 3) := by decide +kernel
theorem dX12_divisor_111 : decode cX12_divisor 111 = .ok (.goto (-77), 3) := by decide +kernel
theorem dX12_divisor_114 : decode cX12_divisor 114 = .ok (.aload_n 0, 1) := by decide +kernel
theorem dX12_divisor_115 : decode cX12_divisor 115 = .ok (.iload_n 2, 1) := by decide +kernel
theorem dX12_divisor_116 : decode cX12_divisor 116 = .ok (.iload_n 1, 1) := by decide +kernel
theorem dX12_divisor_117 : decode cX12_divisor 117 = .ok (.invokevirtual 330, 3) := by decide +kernel
theorem dX12_divisor_120 : decode cX12_divisor 120 = .ok (.goto (-86), 3) := by decide +kernel
theorem dX12_divisor_123 : decode cX12_divisor 123 = .ok (.iconst 0, 1) := by decide +kernel
theorem dX12_divisor_124 : decode cX12_divisor 124 = .ok (.istore 4, 2) := by decide +kernel
theorem dX12_divisor_126 : decode cX12_divisor 126 = .ok (.iload 4, 2) := by decide +kernel
theorem dX12_divisor_128 : decode cX12_divisor 128 = .ok (.iload_n 3, 1) := by decide +kernel
theorem dX12_divisor_129 : decode cX12_divisor 129 = .ok (.if_icmp .ge 15, 3) := by decide +kernel
theorem dX12_divisor_132 : decode cX12_divisor 132 = .ok (.aload_n 0, 1) := by decide +kernel
theorem dX12_divisor_133 : decode cX12_divisor 133 = .ok (.iload_n 1, 1) := by decide +kernel
theorem dX12_divisor_134 : decode cX12_divisor 134 = .ok (.iconst 2, 1) := by decide +kernel
theorem dX12_divisor_135 : decode cX12_divisor 135 = .ok (.invokevirtual 336, 3) := by decide +kernel
theorem dX12_divisor_138 : decode cX12_divisor 138 = .ok (.iinc 4 1, 3) := by decide +kernel
theorem dX12_divisor_141 : decode cX12_divisor 141 = .ok (.goto (-15), 3) := by decide +kernel
theorem dX12_divisor_144 : decode cX12_divisor 144 = .ok (.return_, 1) := by decide +kernel
theorem dX12_bitOf_0 : decode cX12_bitOf 0 = .ok (.aload_n 0, 1) := by decide +kernel
theorem dX12_bitOf_1 : decode cX12_bitOf 1 = .ok (.getfield 94, 3) := by decide +kernel
theorem dX12_bitOf_4 : decode cX12_bitOf 4 = .ok (.bipush 7, 2) := by decide +kernel
theorem dX12_bitOf_6 : decode cX12_bitOf 6 = .ok (.iload_n 1, 1) := by decide +kernel
theorem dX12_bitOf_7 : decode cX12_bitOf 7 = .ok (.imul, 1) := by decide +kernel
theorem dX12_bitOf_8 : decode cX12_bitOf 8 = .ok (.iload_n 2, 1) := by decide +kernel
theorem dX12_bitOf_9 : decode cX12_bitOf 9 = .ok (.bipush 30, 2) := by decide +kernel
theorem dX12_bitOf_11 : decode cX12_bitOf 11 = .ok (.idiv, 1) := by decide +kernel
theorem dX12_bitOf_12 : decode cX12_bitOf 12 = .ok (.iadd, 1) := by decide +kernel
theorem dX12_bitOf_13 : decode cX12_bitOf 13 = .ok (.iaload, 1) := by decide +kernel
theorem dX12_bitOf_14 : decode cX12_bitOf 14 = .ok (.iload_n 2, 1) := by decide +kernel
theorem dX12_bitOf_15 : decode cX12_bitOf 15 = .ok (.bipush 30, 2) := by decide +kernel
theorem dX12_bitOf_17 : decode cX12_bitOf 17 = .ok (.irem, 1) := by decide +kernel
theorem dX12_bitOf_18 : decode cX12_bitOf 18 = .ok (.ishr, 1) := by decide +kernel
theorem dX12_bitOf_19 : decode cX12_bitOf 19 = .ok (.iconst 1, 1) := by decide +kernel
theorem dX12_bitOf_20 : decode cX12_bitOf 20 = .ok (.iand, 1) := by decide +kernel
theorem dX12_bitOf_21 : decode cX12_bitOf 21 = .ok (.iconst 1, 1) := by decide +kernel
theorem dX12_bitOf_22 : decode cX12_bitOf 22 = .ok (.if_icmp .ne 7, 3) := by decide +kernel
theorem dX12_bitOf_25 : decode cX12_bitOf 25 = .ok (.iconst 1, 1) := by decide +kernel
theorem dX12_bitOf_26 : decode cX12_bitOf 26 = .ok (.goto 4, 3) := by decide +kernel
theorem dX12_bitOf_29 : decode cX12_bitOf 29 = .ok (.iconst 0, 1) := by decide +kernel
theorem dX12_bitOf_30 : decode cX12_bitOf 30 = .ok (.ireturn, 1) := by decide +kernel
theorem dX12_divides_0 : decode cX12_divides 0 = .ok (.aload_n 0, 1) := by decide +kernel
theorem dX12_divides_1 : decode cX12_divides 1 = .ok (.iload_n 3, 1) := by decide +kernel
theorem dX12_divides_2 : decode cX12_divides 2 = .ok (.iconst 0, 1) := by decide +kernel
theorem dX12_divides_3 : decode cX12_divides 3 = .ok (.invokevirtual 175, 3) := by decide +kernel
theorem dX12_divides_6 : decode cX12_divides 6 = .ok (.aload_n 0, 1) := by decide +kernel
theorem dX12_divides_7 : decode cX12_divides 7 = .ok (.sipush 4506, 3) := by decide +kernel
theorem dX12_divides_10 : decode cX12_divides 10 = .ok (.iconst 0, 1) := by decide +kernel
theorem dX12_divides_11 : decode cX12_divides 11 = .ok (.invokevirtual 175, 3) := by decide +kernel
theorem dX12_divides_14 : decode cX12_divides 14 = .ok (.sipush 209, 3) := by decide +kernel
theorem dX12_divides_17 : decode cX12_divides 17 = .ok (.istore 4, 2) := by decide +kernel
theorem dX12_divides_19 : decode cX12_divides 19 = .ok (.iload 4, 2) := by decide +kernel
theorem dX12_divides_21 : decode cX12_divides 21 = .ok (.ifCond .lt 87, 3) := by decide +kernel
theorem dX12_divides_24 : decode cX12_divides 24 = .ok (.aload_n 0, 1) := by decide +kernel
theorem dX12_divides_25 : decode cX12_divides 25 = .ok (.sipush 4506, 3) := by decide +kernel
theorem dX12_divides_28 : decode cX12_divides 28 = .ok (.iconst 2, 1) := by decide +kernel
theorem dX12_divides_29 : decode cX12_divides 29 = .ok (.invokevirtual 336, 3) := by decide +kernel
theorem dX12_divides_32 : decode cX12_divides 32 = .ok (.aload_n 0, 1) := by decide +kernel
theorem dX12_divides_33 : decode cX12_divides 33 = .ok (.getfield 94, 3) := by decide +kernel
theorem dX12_divides_36 : decode cX12_divides 36 = .ok (.sipush 31542, 3) := by decide +kernel
theorem dX12_divides_39 : decode cX12_divides 39 = .ok (.dup2, 1) := by decide +kernel
theorem dX12_divides_40 : decode cX12_divides 40 = .ok (.iaload, 1) := by decide +kernel
theorem dX12_divides_41 : decode cX12_divides 41 = .ok (.aload_n 0, 1) := by decide +kernel
theorem dX12_divides_42 : decode cX12_divides 42 = .ok (.iload_n 1, 1) := by decide +kernel
theorem dX12_divides_43 : decode cX12_divides 43 = .ok (.iload 4, 2) := by decide +kernel
theorem dX12_divides_45 : decode cX12_divides 45 = .ok (.invokevirtual 339, 3) := by decide +kernel
theorem dX12_divides_48 : decode cX12_divides 48 = .ok (.ifCond .eq 7, 3) := by decide +kernel
theorem dX12_divides_51 : decode cX12_divides 51 = .ok (.iconst 1, 1) := by decide +kernel
theorem dX12_divides_52 : decode cX12_divides 52 = .ok (.goto 4, 3) := by decide +kernel
theorem dX12_divides_55 : decode cX12_divides 55 = .ok (.iconst 0, 1) := by decide +kernel
theorem dX12_divides_56 : decode cX12_divides 56 = .ok (.ior, 1) := by decide +kernel
theorem dX12_divides_57 : decode cX12_divides 57 = .ok (.iastore, 1) := by decide +kernel
theorem dX12_divides_58 : decode cX12_divides 58 = .ok (.aload_n 0, 1) := by decide +kernel
theorem dX12_divides_59 : decode cX12_divides 59 = .ok (.sipush 4506, 3) := by decide +kernel
theorem dX12_divides_62 : decode cX12_divides 62 = .ok (.iload_n 2, 1) := by decide +kernel
theorem dX12_divides_63 : decode cX12_divides 63 = .ok (.invokevirtual 327, 3) := by decide +kernel
theorem dX12_divides_66 : decode cX12_divides 66 = .ok (.ifCond .lt 36, 3) := by decide +kernel
theorem dX12_divides_69 : decode cX12_divides 69 = .ok (.aload_n 0, 1) := by decide +kernel
theorem dX12_divides_70 : decode cX12_divides 70 = .ok (.sipush 4506, 3) := by decide +kernel
theorem dX12_divides_73 : decode cX12_divides 73 = .ok (.iload_n 2, 1) := by decide +kernel
theorem dX12_divides_74 : decode cX12_divides 74 = .ok (.invokevirtual 330, 3) := by decide +kernel
theorem dX12_divides_77 : decode cX12_divides 77 = .ok (.aload_n 0, 1) := by decide +kernel
theorem dX12_divides_78 : decode cX12_divides 78 = .ok (.getfield 94, 3) := by decide +kernel
theorem dX12_divides_81 : decode cX12_divides 81 = .ok (.bipush 7, 2) := by decide +kernel
theorem dX12_divides_83 : decode cX12_divides 83 = .ok (.iload_n 3, 1) := by decide +kernel
theorem dX12_divides_84 : decode cX12_divides 84 = .ok (.imul, 1) := by decide +kernel
theorem dX12_divides_85 : decode cX12_divides 85 = .ok (.iload 4, 2) := by decide +kernel
theorem dX12_divides_87 : decode cX12_divides 87 = .ok (.bipush 30, 2) := by decide +kernel
theorem dX12_divides_89 : decode cX12_divides 89 = .ok (.idiv, 1) := by decide +kernel
theorem dX12_divides_90 : decode cX12_divides 90 = .ok (.iadd, 1) := by decide +kernel
theorem dX12_divides_91 : decode cX12_divides 91 = .ok (.dup2, 1) := by decide +kernel
theorem dX12_divides_92 : decode cX12_divides 92 = .ok (.iaload, 1) := by decide +kernel
theorem dX12_divides_93 : decode cX12_divides 93 = .ok (.iconst 1, 1) := by decide +kernel
theorem dX12_divides_94 : decode cX12_divides 94 = .ok (.iload 4, 2) := by decide +kernel
theorem dX12_divides_96 : decode cX12_divides 96 = .ok (.bipush 30, 2) := by decide +kernel
theorem dX12_divides_98 : decode cX12_divides 98 = .ok (.irem, 1) := by decide +kernel
theorem dX12_divides_99 : decode cX12_divides 99 = .ok (.ishl, 1) := by decide +kernel
theorem dX12_divides_100 : decode cX12_divides 100 = .ok (.ior, 1) := by decide +kernel
theorem dX12_divides_101 : decode cX12_divides 101 = .ok (.iastore, 1) := by decide +kernel
theorem dX12_divides_102 : decode cX12_divides 102 = .ok (.iinc 4 (-1), 3) := by decide +kernel
theorem dX12_divides_105 : decode cX12_divides 105 = .ok (.goto (-86), 3) := by decide +kernel
theorem dX12_divides_108 : decode cX12_divides 108 = .ok (.return_, 1) := by decide +kernel
theorem dX12_tells_0 : decode cX12_tells 0 = .ok (.aload_n 0, 1) := by decide +kernel
theorem dX12_tells_1 : decode cX12_tells 1 = .ok (.iload_n 1, 1) := by decide +kernel
theorem dX12_tells_2 : decode cX12_tells 2 = .ok (.invokevirtual 324, 3) := by decide +kernel
theorem dX12_tells_5 : decode cX12_tells 5 = .ok (.ifCond .eq 20, 3) := by decide +kernel
theorem dX12_tells_8 : decode cX12_tells 8 = .ok (.aload_n 0, 1) := by decide +kernel
theorem dX12_tells_9 : decode cX12_tells 9 = .ok (.sipush 4500, 3) := by decide +kernel
theorem dX12_tells_12 : decode cX12_tells 12 = .ok (.iconst 0, 1) := by decide +kernel
theorem dX12_tells_13 : decode cX12_tells 13 = .ok (.invokevirtual 175, 3) := by decide +kernel
theorem dX12_tells_16 : decode cX12_tells 16 = .ok (.aload_n 0, 1) := by decide +kernel
theorem dX12_tells_17 : decode cX12_tells 17 = .ok (.sipush 4501, 3) := by decide +kernel
theorem dX12_tells_20 : decode cX12_tells 20 = .ok (.iconst 1, 1) := by decide +kernel
theorem dX12_tells_21 : decode cX12_tells 21 = .ok (.invokevirtual 175, 3) := by decide +kernel
theorem dX12_tells_24 : decode cX12_tells 24 = .ok (.return_, 1) := by decide +kernel
theorem dX12_tells_25 : decode cX12_tells 25 = .ok (.aload_n 0, 1) := by decide +kernel
theorem dX12_tells_26 : decode cX12_tells 26 = .ok (.sipush 4502, 3) := by decide +kernel
theorem dX12_tells_29 : decode cX12_tells 29 = .ok (.iload_n 1, 1) := by decide +kernel
theorem dX12_tells_30 : decode cX12_tells 30 = .ok (.invokevirtual 333, 3) := by decide +kernel
theorem dX12_tells_33 : decode cX12_tells 33 = .ok (.aload_n 0, 1) := by decide +kernel
theorem dX12_tells_34 : decode cX12_tells 34 = .ok (.sipush 4503, 3) := by decide +kernel
theorem dX12_tells_37 : decode cX12_tells 37 = .ok (.iload_n 2, 1) := by decide +kernel
theorem dX12_tells_38 : decode cX12_tells 38 = .ok (.invokevirtual 333, 3) := by decide +kernel
theorem dX12_tells_41 : decode cX12_tells 41 = .ok (.aload_n 0, 1) := by decide +kernel
theorem dX12_tells_42 : decode cX12_tells 42 = .ok (.sipush 4502, 3) := by decide +kernel
theorem dX12_tells_45 : decode cX12_tells 45 = .ok (.sipush 4503, 3) := by decide +kernel
theorem dX12_tells_48 : decode cX12_tells 48 = .ok (.invokevirtual 342, 3) := by decide +kernel
theorem dX12_tells_51 : decode cX12_tells 51 = .ok (.aload_n 0, 1) := by decide +kernel
theorem dX12_tells_52 : decode cX12_tells 52 = .ok (.iload_n 1, 1) := by decide +kernel
theorem dX12_tells_53 : decode cX12_tells 53 = .ok (.sipush 4502, 3) := by decide +kernel
theorem dX12_tells_56 : decode cX12_tells 56 = .ok (.sipush 4504, 3) := by decide +kernel
theorem dX12_tells_59 : decode cX12_tells 59 = .ok (.invokevirtual 345, 3) := by decide +kernel
theorem dX12_tells_62 : decode cX12_tells 62 = .ok (.aload_n 0, 1) := by decide +kernel
theorem dX12_tells_63 : decode cX12_tells 63 = .ok (.iload_n 2, 1) := by decide +kernel
theorem dX12_tells_64 : decode cX12_tells 64 = .ok (.sipush 4502, 3) := by decide +kernel
theorem dX12_tells_67 : decode cX12_tells 67 = .ok (.sipush 4503, 3) := by decide +kernel
theorem dX12_tells_70 : decode cX12_tells 70 = .ok (.invokevirtual 345, 3) := by decide +kernel
theorem dX12_tells_73 : decode cX12_tells 73 = .ok (.aload_n 0, 1) := by decide +kernel
theorem dX12_tells_74 : decode cX12_tells 74 = .ok (.sipush 4500, 3) := by decide +kernel
theorem dX12_tells_77 : decode cX12_tells 77 = .ok (.sipush 4504, 3) := by decide +kernel
theorem dX12_tells_80 : decode cX12_tells 80 = .ok (.invokevirtual 333, 3) := by decide +kernel
theorem dX12_tells_83 : decode cX12_tells 83 = .ok (.aload_n 0, 1) := by decide +kernel
theorem dX12_tells_84 : decode cX12_tells 84 = .ok (.sipush 4501, 3) := by decide +kernel
theorem dX12_tells_87 : decode cX12_tells 87 = .ok (.sipush 4503, 3) := by decide +kernel
theorem dX12_tells_90 : decode cX12_tells 90 = .ok (.invokevirtual 333, 3) := by decide +kernel
theorem dX12_tells_93 : decode cX12_tells 93 = .ok (.return_, 1) := by decide +kernel
theorem dX12_limbsOf_0 : decode cX12_limbsOf 0 = .ok (.bipush 7, 2) := by decide +kernel
theorem dX12_limbsOf_2 : decode cX12_limbsOf 2 = .ok (.istore_n 2, 1) := by decide +kernel
theorem dX12_limbsOf_3 : decode cX12_limbsOf 3 = .ok (.iload_n 2, 1) := by decide +kernel
theorem dX12_limbsOf_4 : decode cX12_limbsOf 4 = .ok (.ifCond .le 25, 3) := by decide +kernel
theorem dX12_limbsOf_7 : decode cX12_limbsOf 7 = .ok (.aload_n 0, 1) := by decide +kernel
theorem dX12_limbsOf_8 : decode cX12_limbsOf 8 = .ok (.getfield 94, 3) := by decide +kernel
theorem dX12_limbsOf_11 : decode cX12_limbsOf 11 = .ok (.bipush 7, 2) := by decide +kernel
theorem dX12_limbsOf_13 : decode cX12_limbsOf 13 = .ok (.iload_n 1, 1) := by decide +kernel
theorem dX12_limbsOf_14 : decode cX12_limbsOf 14 = .ok (.imul, 1) := by decide +kernel
theorem dX12_limbsOf_15 : decode cX12_limbsOf 15 = .ok (.iload_n 2, 1) := by decide +kernel
theorem dX12_limbsOf_16 : decode cX12_limbsOf 16 = .ok (.iadd, 1) := by decide +kernel
theorem dX12_limbsOf_17 : decode cX12_limbsOf 17 = .ok (.iconst 1, 1) := by decide +kernel
theorem dX12_limbsOf_18 : decode cX12_limbsOf 18 = .ok (.isub, 1) := by decide +kernel
theorem dX12_limbsOf_19 : decode cX12_limbsOf 19 = .ok (.iaload, 1) := by decide +kernel
theorem dX12_limbsOf_20 : decode cX12_limbsOf 20 = .ok (.ifCond .ne 9, 3) := by decide +kernel
theorem dX12_limbsOf_23 : decode cX12_limbsOf 23 = .ok (.iinc 2 (-1), 3) := by decide +kernel
theorem dX12_limbsOf_26 : decode cX12_limbsOf 26 = .ok (.goto (-23), 3) := by decide +kernel
theorem dX12_limbsOf_29 : decode cX12_limbsOf 29 = .ok (.iload_n 2, 1) := by decide +kernel
theorem dX12_limbsOf_30 : decode cX12_limbsOf 30 = .ok (.ireturn, 1) := by decide +kernel
theorem dX12_limbs_0 : decode cX12_limbs 0 = .ok (.iload_n 1, 1) := by decide +kernel
theorem dX12_limbs_1 : decode cX12_limbs 1 = .ok (.iconst 0, 1) := by decide +kernel
theorem dX12_limbs_2 : decode cX12_limbs 2 = .ok (.iconst 1, 1) := by decide +kernel
theorem dX12_limbs_3 : decode cX12_limbs 3 = .ok (.invokestatic 179, 3) := by decide +kernel
theorem dX12_limbs_6 : decode cX12_limbs 6 = .ok (.ifCond .ne 8, 3) := by decide +kernel
theorem dX12_limbs_9 : decode cX12_limbs 9 = .ok (.bipush (-2), 2) := by decide +kernel
theorem dX12_limbs_11 : decode cX12_limbs 11 = .ok (.goto 12, 3) := by decide +kernel
theorem dX12_limbs_14 : decode cX12_limbs 14 = .ok (.aload_n 0, 1) := by decide +kernel
theorem dX12_limbs_15 : decode cX12_limbs 15 = .ok (.sipush 4500, 3) := by decide +kernel
theorem dX12_limbs_18 : decode cX12_limbs 18 = .ok (.iload_n 1, 1) := by decide +kernel
theorem dX12_limbs_19 : decode cX12_limbs 19 = .ok (.iadd, 1) := by decide +kernel
theorem dX12_limbs_20 : decode cX12_limbs 20 = .ok (.invokevirtual 349, 3) := by decide +kernel
theorem dX12_limbs_23 : decode cX12_limbs 23 = .ok (.ireturn, 1) := by decide +kernel
theorem dX12_limb_0 : decode cX12_limb 0 = .ok (.iload_n 1, 1) := by decide +kernel
theorem dX12_limb_1 : decode cX12_limb 1 = .ok (.iconst 0, 1) := by decide +kernel
theorem dX12_limb_2 : decode cX12_limb 2 = .ok (.iconst 1, 1) := by decide +kernel
