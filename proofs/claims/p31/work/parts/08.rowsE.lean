theorem dL_cell_0 : decode cL_cell 0 = .ok (.iload_n 1, 1) := by decide +kernel
theorem dL_cell_1 : decode cL_cell 1 = .ok (.aload_n 0, 1) := by decide +kernel
theorem dL_cell_2 : decode cL_cell 2 = .ok (.arraylength, 1) := by decide +kernel
theorem dL_cell_3 : decode cL_cell 3 = .ok (.if_icmp .ge 9, 3) := by decide +kernel
theorem dL_cell_6 : decode cL_cell 6 = .ok (.aload_n 0, 1) := by decide +kernel
theorem dL_cell_7 : decode cL_cell 7 = .ok (.iload_n 1, 1) := by decide +kernel
theorem dL_cell_8 : decode cL_cell 8 = .ok (.iaload, 1) := by decide +kernel
theorem dL_cell_9 : decode cL_cell 9 = .ok (.goto 9, 3) := by decide +kernel
theorem dL_cell_12 : decode cL_cell 12 = .ok (.ldc 7, 2) := by decide +kernel
theorem dL_cell_14 : decode cL_cell 14 = .ok (.iload_n 1, 1) := by decide +kernel
theorem dL_cell_15 : decode cL_cell 15 = .ok (.iconst 3, 1) := by decide +kernel
theorem dL_cell_16 : decode cL_cell 16 = .ok (.iadd, 1) := by decide +kernel
theorem dL_cell_17 : decode cL_cell 17 = .ok (.imul, 1) := by decide +kernel
theorem dL_cell_18 : decode cL_cell 18 = .ok (.istore_n 2, 1) := by decide +kernel
theorem dL_cell_19 : decode cL_cell 19 = .ok (.iload_n 2, 1) := by decide +kernel
theorem dL_cell_20 : decode cL_cell 20 = .ok (.iload_n 2, 1) := by decide +kernel
theorem dL_cell_21 : decode cL_cell 21 = .ok (.bipush 15, 2) := by decide +kernel
theorem dL_cell_23 : decode cL_cell 23 = .ok (.iushr, 1) := by decide +kernel
theorem dL_cell_24 : decode cL_cell 24 = .ok (.ixor, 1) := by decide +kernel
theorem dL_cell_25 : decode cL_cell 25 = .ok (.ireturn, 1) := by decide +kernel
theorem dL_low_0 : decode cL_low 0 = .ok (.iload_n 0, 1) := by decide +kernel
theorem dL_low_1 : decode cL_low 1 = .ok (.ldc 8, 2) := by decide +kernel
theorem dL_low_3 : decode cL_low 3 = .ok (.iand, 1) := by decide +kernel
theorem dL_low_4 : decode cL_low 4 = .ok (.iload_n 1, 1) := by decide +kernel
theorem dL_low_5 : decode cL_low 5 = .ok (.irem, 1) := by decide +kernel
theorem dL_low_6 : decode cL_low 6 = .ok (.ireturn, 1) := by decide +kernel
theorem dL_join_0 : decode cL_join 0 = .ok (.aload_n 0, 1) := by decide +kernel
theorem dL_join_1 : decode cL_join 1 = .ok (.iload_n 1, 1) := by decide +kernel
theorem dL_join_2 : decode cL_join 2 = .ok (.invokevirtual 9, 3) := by decide +kernel
theorem dL_join_5 : decode cL_join 5 = .ok (.istore_n 2, 1) := by decide +kernel
theorem dL_join_6 : decode cL_join 6 = .ok (.goto 11, 3) := by decide +kernel
theorem dL_join_9 : decode cL_join 9 = .ok (.astore_n 3, 1) := by decide +kernel
theorem dL_join_10 : decode cL_join 10 = .ok (.ldc 17, 2) := by decide +kernel
theorem dL_join_12 : decode cL_join 12 = .ok (.ireturn, 1) := by decide +kernel
theorem dL_join_13 : decode cL_join 13 = .ok (.astore_n 3, 1) := by decide +kernel
theorem dL_join_14 : decode cL_join 14 = .ok (.ldc 20, 2) := by decide +kernel
theorem dL_join_16 : decode cL_join 16 = .ok (.ireturn, 1) := by decide +kernel
theorem dL_join_17 : decode cL_join 17 = .ok (.iload_n 2, 1) := by decide +kernel
theorem dL_join_18 : decode cL_join 18 = .ok (.ireturn, 1) := by decide +kernel
theorem dL_remark_0 : decode cL_remark 0 = .ok (.aload_n 0, 1) := by decide +kernel
theorem dL_remark_1 : decode cL_remark 1 = .ok (.iload_n 1, 1) := by decide +kernel
theorem dL_remark_2 : decode cL_remark 2 = .ok (.iload_n 2, 1) := by decide +kernel
theorem dL_remark_3 : decode cL_remark 3 = .ok (.invokevirtual 21, 3) := by decide +kernel
theorem dL_remark_6 : decode cL_remark 6 = .ok (.istore_n 3, 1) := by decide +kernel
theorem dL_remark_7 : decode cL_remark 7 = .ok (.goto 18, 3) := by decide +kernel
theorem dL_remark_10 : decode cL_remark 10 = .ok (.astore 4, 2) := by decide +kernel
theorem dL_remark_12 : decode cL_remark 12 = .ok (.ldc 27, 2) := by decide +kernel
theorem dL_remark_14 : decode cL_remark 14 = .ok (.ireturn, 1) := by decide +kernel
theorem dL_remark_15 : decode cL_remark 15 = .ok (.astore 4, 2) := by decide +kernel
theorem dL_remark_17 : decode cL_remark 17 = .ok (.ldc 17, 2) := by decide +kernel
theorem dL_remark_19 : decode cL_remark 19 = .ok (.ireturn, 1) := by decide +kernel
theorem dL_remark_20 : decode cL_remark 20 = .ok (.astore 4, 2) := by decide +kernel
theorem dL_remark_22 : decode cL_remark 22 = .ok (.ldc 20, 2) := by decide +kernel
theorem dL_remark_24 : decode cL_remark 24 = .ok (.ireturn, 1) := by decide +kernel
theorem dL_remark_25 : decode cL_remark 25 = .ok (.iload_n 3, 1) := by decide +kernel
theorem dL_remark_26 : decode cL_remark 26 = .ok (.ireturn, 1) := by decide +kernel
theorem dL_excuse_0 : decode cL_excuse 0 = .ok (.aload_n 0, 1) := by decide +kernel
theorem dL_excuse_1 : decode cL_excuse 1 = .ok (.iload_n 1, 1) := by decide +kernel
theorem dL_excuse_2 : decode cL_excuse 2 = .ok (.invokevirtual 28, 3) := by decide +kernel
theorem dL_excuse_5 : decode cL_excuse 5 = .ok (.istore_n 2, 1) := by decide +kernel
theorem dL_excuse_6 : decode cL_excuse 6 = .ok (.goto 7, 3) := by decide +kernel
theorem dL_excuse_9 : decode cL_excuse 9 = .ok (.astore_n 3, 1) := by decide +kernel
theorem dL_excuse_10 : decode cL_excuse 10 = .ok (.ldc 27, 2) := by decide +kernel
theorem dL_excuse_12 : decode cL_excuse 12 = .ok (.ireturn, 1) := by decide +kernel
theorem dL_excuse_13 : decode cL_excuse 13 = .ok (.iload_n 2, 1) := by decide +kernel
theorem dL_excuse_14 : decode cL_excuse 14 = .ok (.ireturn, 1) := by decide +kernel
theorem dL_bring_0 : decode cL_bring 0 = .ok (.aload_n 0, 1) := by decide +kernel
theorem dL_bring_1 : decode cL_bring 1 = .ok (.iload_n 1, 1) := by decide +kernel
theorem dL_bring_2 : decode cL_bring 2 = .ok (.iload_n 2, 1) := by decide +kernel
theorem dL_bring_3 : decode cL_bring 3 = .ok (.iload_n 3, 1) := by decide +kernel
theorem dL_bring_4 : decode cL_bring 4 = .ok (.invokevirtual 31, 3) := by decide +kernel
theorem dL_bring_7 : decode cL_bring 7 = .ok (.istore 4, 2) := by decide +kernel
theorem dL_bring_9 : decode cL_bring 9 = .ok (.goto 18, 3) := by decide +kernel
theorem dL_bring_12 : decode cL_bring 12 = .ok (.astore 5, 2) := by decide +kernel
theorem dL_bring_14 : decode cL_bring 14 = .ok (.ldc 27, 2) := by decide +kernel
theorem dL_bring_16 : decode cL_bring 16 = .ok (.ireturn, 1) := by decide +kernel
theorem dL_bring_17 : decode cL_bring 17 = .ok (.astore 5, 2) := by decide +kernel
theorem dL_bring_19 : decode cL_bring 19 = .ok (.ldc 17, 2) := by decide +kernel
theorem dL_bring_21 : decode cL_bring 21 = .ok (.ireturn, 1) := by decide +kernel
theorem dL_bring_22 : decode cL_bring 22 = .ok (.astore 5, 2) := by decide +kernel
theorem dL_bring_24 : decode cL_bring 24 = .ok (.ldc 20, 2) := by decide +kernel
theorem dL_bring_26 : decode cL_bring 26 = .ok (.ireturn, 1) := by decide +kernel
theorem dL_bring_27 : decode cL_bring 27 = .ok (.iload 4, 2) := by decide +kernel
theorem dL_bring_29 : decode cL_bring 29 = .ok (.ireturn, 1) := by decide +kernel
theorem dL_takeBack_0 : decode cL_takeBack 0 = .ok (.aload_n 0, 1) := by decide +kernel
theorem dL_takeBack_1 : decode cL_takeBack 1 = .ok (.iload_n 1, 1) := by decide +kernel
theorem dL_takeBack_2 : decode cL_takeBack 2 = .ok (.invokevirtual 35, 3) := by decide +kernel
theorem dL_takeBack_5 : decode cL_takeBack 5 = .ok (.istore_n 2, 1) := by decide +kernel
theorem dL_takeBack_6 : decode cL_takeBack 6 = .ok (.goto 7, 3) := by decide +kernel
theorem dL_takeBack_9 : decode cL_takeBack 9 = .ok (.astore_n 3, 1) := by decide +kernel
theorem dL_takeBack_10 : decode cL_takeBack 10 = .ok (.ldc 27, 2) := by decide +kernel
theorem dL_takeBack_12 : decode cL_takeBack 12 = .ok (.ireturn, 1) := by decide +kernel
theorem dL_takeBack_13 : decode cL_takeBack 13 = .ok (.iload_n 2, 1) := by decide +kernel
theorem dL_takeBack_14 : decode cL_takeBack 14 = .ok (.ireturn, 1) := by decide +kernel
theorem dL_setS_0 : decode cL_setS 0 = .ok (.aload_n 0, 1) := by decide +kernel
theorem dL_setS_1 : decode cL_setS 1 = .ok (.iload_n 1, 1) := by decide +kernel
theorem dL_setS_2 : decode cL_setS 2 = .ok (.invokevirtual 38, 3) := by decide +kernel
theorem dL_setS_5 : decode cL_setS 5 = .ok (.istore_n 2, 1) := by decide +kernel
theorem dL_setS_6 : decode cL_setS 6 = .ok (.goto 7, 3) := by decide +kernel
theorem dL_setS_9 : decode cL_setS 9 = .ok (.astore_n 3, 1) := by decide +kernel
theorem dL_setS_10 : decode cL_setS 10 = .ok (.ldc 17, 2) := by decide +kernel
theorem dL_setS_12 : decode cL_setS 12 = .ok (.ireturn, 1) := by decide +kernel
theorem dL_setS_13 : decode cL_setS 13 = .ok (.iload_n 2, 1) := by decide +kernel
theorem dL_setS_14 : decode cL_setS 14 = .ok (.ireturn, 1) := by decide +kernel
theorem dL_bake_0 : decode cL_bake 0 = .ok (.aload_n 0, 1) := by decide +kernel
theorem dL_bake_1 : decode cL_bake 1 = .ok (.iload_n 1, 1) := by decide +kernel
theorem dL_bake_2 : decode cL_bake 2 = .ok (.invokevirtual 41, 3) := by decide +kernel
theorem dL_bake_5 : decode cL_bake 5 = .ok (.istore_n 2, 1) := by decide +kernel
theorem dL_bake_6 : decode cL_bake 6 = .ok (.goto 11, 3) := by decide +kernel
theorem dL_bake_9 : decode cL_bake 9 = .ok (.astore_n 3, 1) := by decide +kernel
theorem dL_bake_10 : decode cL_bake 10 = .ok (.ldc 17, 2) := by decide +kernel
theorem dL_bake_12 : decode cL_bake 12 = .ok (.ireturn, 1) := by decide +kernel
theorem dL_bake_13 : decode cL_bake 13 = .ok (.astore_n 3, 1) := by decide +kernel
theorem dL_bake_14 : decode cL_bake 14 = .ok (.ldc 20, 2) := by decide +kernel
theorem dL_bake_16 : decode cL_bake 16 = .ok (.ireturn, 1) := by decide +kernel
theorem dL_bake_17 : decode cL_bake 17 = .ok (.iload_n 2, 1) := by decide +kernel
theorem dL_bake_18 : decode cL_bake 18 = .ok (.ireturn, 1) := by decide +kernel
theorem dL_claim_0 : decode cL_claim 0 = .ok (.aload_n 0, 1) := by decide +kernel
theorem dL_claim_1 : decode cL_claim 1 = .ok (.iload_n 1, 1) := by decide +kernel
theorem dL_claim_2 : decode cL_claim 2 = .ok (.invokevirtual 44, 3) := by decide +kernel
theorem dL_claim_5 : decode cL_claim 5 = .ok (.istore_n 2, 1) := by decide +kernel
theorem dL_claim_6 : decode cL_claim 6 = .ok (.goto 7, 3) := by decide +kernel
theorem dL_claim_9 : decode cL_claim 9 = .ok (.astore_n 3, 1) := by decide +kernel
theorem dL_claim_10 : decode cL_claim 10 = .ok (.ldc 27, 2) := by decide +kernel
theorem dL_claim_12 : decode cL_claim 12 = .ok (.ireturn, 1) := by decide +kernel
theorem dL_claim_13 : decode cL_claim 13 = .ok (.iload_n 2, 1) := by decide +kernel
theorem dL_claim_14 : decode cL_claim 14 = .ok (.ireturn, 1) := by decide +kernel
theorem dL_returnLoaves_0 : decode cL_returnLoaves 0 = .ok (.aload_n 0, 1) := by decide +kernel
theorem dL_returnLoaves_1 : decode cL_returnLoaves 1 = .ok (.iload_n 1, 1) := by decide +kernel
theorem dL_returnLoaves_2 : decode cL_returnLoaves 2 = .ok (.invokevirtual 47, 3) := by decide +kernel
theorem dL_returnLoaves_5 : decode cL_returnLoaves 5 = .ok (.istore_n 2, 1) := by decide +kernel
theorem dL_returnLoaves_6 : decode cL_returnLoaves 6 = .ok (.goto 7, 3) := by decide +kernel
theorem dL_returnLoaves_9 : decode cL_returnLoaves 9 = .ok (.astore_n 3, 1) := by decide +kernel
theorem dL_returnLoaves_10 : decode cL_returnLoaves 10 = .ok (.ldc 27, 2) := by decide +kernel
theorem dL_returnLoaves_12 : decode cL_returnLoaves 12 = .ok (.ireturn, 1) := by decide +kernel
theorem dL_returnLoaves_13 : decode cL_returnLoaves 13 = .ok (.iload_n 2, 1) := by decide +kernel
theorem dL_returnLoaves_14 : decode cL_returnLoaves 14 = .ok (.ireturn, 1) := by decide +kernel
theorem dL_household_0 : decode cL_household 0 = .ok (.aload_n 0, 1) := by decide +kernel
theorem dL_household_1 : decode cL_household 1 = .ok (.iload_n 1, 1) := by decide +kernel
theorem dL_household_2 : decode cL_household 2 = .ok (.iload_n 2, 1) := by decide +kernel
theorem dL_household_3 : decode cL_household 3 = .ok (.invokevirtual 50, 3) := by decide +kernel
theorem dL_household_6 : decode cL_household 6 = .ok (.istore_n 3, 1) := by decide +kernel
theorem dL_household_7 : decode cL_household 7 = .ok (.goto 13, 3) := by decide +kernel
theorem dL_household_10 : decode cL_household 10 = .ok (.astore 4, 2) := by decide +kernel
theorem dL_household_12 : decode cL_household 12 = .ok (.ldc 27, 2) := by decide +kernel
theorem dL_household_14 : decode cL_household 14 = .ok (.ireturn, 1) := by decide +kernel
theorem dL_household_15 : decode cL_household 15 = .ok (.astore 4, 2) := by decide +kernel
theorem dL_household_17 : decode cL_household 17 = .ok (.ldc 17, 2) := by decide +kernel
theorem dL_household_19 : decode cL_household 19 = .ok (.ireturn, 1) := by decide +kernel
theorem dL_household_20 : decode cL_household 20 = .ok (.iload_n 3, 1) := by decide +kernel
theorem dL_household_21 : decode cL_household 21 = .ok (.ireturn, 1) := by decide +kernel
theorem dL_due_0 : decode cL_due 0 = .ok (.aload_n 0, 1) := by decide +kernel
theorem dL_due_1 : decode cL_due 1 = .ok (.iload_n 1, 1) := by decide +kernel
theorem dL_due_2 : decode cL_due 2 = .ok (.invokevirtual 53, 3) := by decide +kernel
theorem dL_due_5 : decode cL_due 5 = .ok (.lstore_n 2, 1) := by decide +kernel
theorem dL_due_6 : decode cL_due 6 = .ok (.goto 9, 3) := by decide +kernel
theorem dL_due_9 : decode cL_due 9 = .ok (.astore 4, 2) := by decide +kernel
theorem dL_due_11 : decode cL_due 11 = .ok (.ldc2_w 57, 3) := by decide +kernel
theorem dL_due_14 : decode cL_due 14 = .ok (.lreturn, 1) := by decide +kernel
theorem dL_due_15 : decode cL_due 15 = .ok (.lload_n 2, 1) := by decide +kernel
theorem dL_due_16 : decode cL_due 16 = .ok (.lreturn, 1) := by decide +kernel
theorem dL_balance_0 : decode cL_balance 0 = .ok (.aload_n 0, 1) := by decide +kernel
theorem dL_balance_1 : decode cL_balance 1 = .ok (.iload_n 1, 1) := by decide +kernel
theorem dL_balance_2 : decode cL_balance 2 = .ok (.iload_n 2, 1) := by decide +kernel
theorem dL_balance_3 : decode cL_balance 3 = .ok (.invokevirtual 59, 3) := by decide +kernel
theorem dL_balance_6 : decode cL_balance 6 = .ok (.istore_n 3, 1) := by decide +kernel
theorem dL_balance_7 : decode cL_balance 7 = .ok (.goto 13, 3) := by decide +kernel
theorem dL_balance_10 : decode cL_balance 10 = .ok (.astore 4, 2) := by decide +kernel
theorem dL_balance_12 : decode cL_balance 12 = .ok (.ldc 27, 2) := by decide +kernel
theorem dL_balance_14 : decode cL_balance 14 = .ok (.ireturn, 1) := by decide +kernel
theorem dL_balance_15 : decode cL_balance 15 = .ok (.astore 4, 2) := by decide +kernel
theorem dL_balance_17 : decode cL_balance 17 = .ok (.ldc 17, 2) := by decide +kernel
theorem dL_balance_19 : decode cL_balance 19 = .ok (.ireturn, 1) := by decide +kernel
theorem dL_balance_20 : decode cL_balance 20 = .ok (.iload_n 3, 1) := by decide +kernel
theorem dL_balance_21 : decode cL_balance 21 = .ok (.ireturn, 1) := by decide +kernel
theorem dL_batch_0 : decode cL_batch 0 = .ok (.aload_n 0, 1) := by decide +kernel
theorem dL_batch_1 : decode cL_batch 1 = .ok (.iload_n 1, 1) := by decide +kernel
theorem dL_batch_2 : decode cL_batch 2 = .ok (.iload_n 2, 1) := by decide +kernel
theorem dL_batch_3 : decode cL_batch 3 = .ok (.invokevirtual 62, 3) := by decide +kernel
theorem dL_batch_6 : decode cL_batch 6 = .ok (.istore_n 3, 1) := by decide +kernel
theorem dL_batch_7 : decode cL_batch 7 = .ok (.goto 8, 3) := by decide +kernel
theorem dL_batch_10 : decode cL_batch 10 = .ok (.astore 4, 2) := by decide +kernel
theorem dL_batch_12 : decode cL_batch 12 = .ok (.ldc 17, 2) := by decide +kernel
theorem dL_batch_14 : decode cL_batch 14 = .ok (.ireturn, 1) := by decide +kernel
theorem dL_batch_15 : decode cL_batch 15 = .ok (.iload_n 3, 1) := by decide +kernel
theorem dL_batch_16 : decode cL_batch 16 = .ok (.ireturn, 1) := by decide +kernel
theorem dL_loaf_0 : decode cL_loaf 0 = .ok (.aload_n 0, 1) := by decide +kernel
theorem dL_loaf_1 : decode cL_loaf 1 = .ok (.iload_n 1, 1) := by decide +kernel
theorem dL_loaf_2 : decode cL_loaf 2 = .ok (.iload_n 2, 1) := by decide +kernel
theorem dL_loaf_3 : decode cL_loaf 3 = .ok (.invokevirtual 65, 3) := by decide +kernel
theorem dL_loaf_6 : decode cL_loaf 6 = .ok (.istore_n 3, 1) := by decide +kernel
theorem dL_loaf_7 : decode cL_loaf 7 = .ok (.goto 13, 3) := by decide +kernel
theorem dL_loaf_10 : decode cL_loaf 10 = .ok (.astore 4, 2) := by decide +kernel
theorem dL_loaf_12 : decode cL_loaf 12 = .ok (.ldc 27, 2) := by decide +kernel
theorem dL_loaf_14 : decode cL_loaf 14 = .ok (.ireturn, 1) := by decide +kernel
theorem dL_loaf_15 : decode cL_loaf 15 = .ok (.astore 4, 2) := by decide +kernel
theorem dL_loaf_17 : decode cL_loaf 17 = .ok (.ldc 17, 2) := by decide +kernel
theorem dL_loaf_19 : decode cL_loaf 19 = .ok (.ireturn, 1) := by decide +kernel
theorem dL_loaf_20 : decode cL_loaf 20 = .ok (.iload_n 3, 1) := by decide +kernel
theorem dL_loaf_21 : decode cL_loaf 21 = .ok (.ireturn, 1) := by decide +kernel
theorem dL_load_0 : decode cL_load 0 = .ok (.aload_n 0, 1) := by decide +kernel
theorem dL_load_1 : decode cL_load 1 = .ok (.iload_n 1, 1) := by decide +kernel
theorem dL_load_2 : decode cL_load 2 = .ok (.iload_n 2, 1) := by decide +kernel
theorem dL_load_3 : decode cL_load 3 = .ok (.invokevirtual 68, 3) := by decide +kernel
theorem dL_load_6 : decode cL_load 6 = .ok (.istore_n 3, 1) := by decide +kernel
theorem dL_load_7 : decode cL_load 7 = .ok (.goto 8, 3) := by decide +kernel
theorem dL_load_10 : decode cL_load 10 = .ok (.astore 4, 2) := by decide +kernel
theorem dL_load_12 : decode cL_load 12 = .ok (.ldc 17, 2) := by decide +kernel
theorem dL_load_14 : decode cL_load 14 = .ok (.ireturn, 1) := by decide +kernel
theorem dL_load_15 : decode cL_load 15 = .ok (.iload_n 3, 1) := by decide +kernel
theorem dL_load_16 : decode cL_load 16 = .ok (.ireturn, 1) := by decide +kernel
theorem dL_whole_0 : decode cL_whole 0 = .ok (.aload_n 0, 1) := by decide +kernel
theorem dL_whole_1 : decode cL_whole 1 = .ok (.iload_n 1, 1) := by decide +kernel
theorem dL_whole_2 : decode cL_whole 2 = .ok (.invokevirtual 71, 3) := by decide +kernel
theorem dL_whole_5 : decode cL_whole 5 = .ok (.istore_n 2, 1) := by decide +kernel
theorem dL_whole_6 : decode cL_whole 6 = .ok (.goto 7, 3) := by decide +kernel
theorem dL_whole_9 : decode cL_whole 9 = .ok (.astore_n 3, 1) := by decide +kernel
theorem dL_whole_10 : decode cL_whole 10 = .ok (.ldc 17, 2) := by decide +kernel
theorem dL_whole_12 : decode cL_whole 12 = .ok (.ireturn, 1) := by decide +kernel
theorem dL_whole_13 : decode cL_whole 13 = .ok (.iload_n 2, 1) := by decide +kernel
theorem dL_whole_14 : decode cL_whole 14 = .ok (.ireturn, 1) := by decide +kernel
theorem dL_doughWith_0 : decode cL_doughWith 0 = .ok (.aload_n 0, 1) := by decide +kernel
theorem dL_doughWith_1 : decode cL_doughWith 1 = .ok (.iload_n 1, 1) := by decide +kernel
theorem dL_doughWith_2 : decode cL_doughWith 2 = .ok (.invokevirtual 74, 3) := by decide +kernel
theorem dL_doughWith_5 : decode cL_doughWith 5 = .ok (.istore_n 2, 1) := by decide +kernel
theorem dL_doughWith_6 : decode cL_doughWith 6 = .ok (.goto 7, 3) := by decide +kernel
theorem dL_doughWith_9 : decode cL_doughWith 9 = .ok (.astore_n 3, 1) := by decide +kernel
theorem dL_doughWith_10 : decode cL_doughWith 10 = .ok (.ldc 17, 2) := by decide +kernel
theorem dL_doughWith_12 : decode cL_doughWith 12 = .ok (.ireturn, 1) := by decide +kernel
theorem dL_doughWith_13 : decode cL_doughWith 13 = .ok (.iload_n 2, 1) := by decide +kernel
theorem dL_doughWith_14 : decode cL_doughWith 14 = .ok (.ireturn, 1) := by decide +kernel
theorem dL_freeMark_0 : decode cL_freeMark 0 = .ok (.aload_n 0, 1) := by decide +kernel
theorem dL_freeMark_1 : decode cL_freeMark 1 = .ok (.iload_n 1, 1) := by decide +kernel
theorem dL_freeMark_2 : decode cL_freeMark 2 = .ok (.invokevirtual 77, 3) := by decide +kernel
theorem dL_freeMark_5 : decode cL_freeMark 5 = .ok (.istore_n 2, 1) := by decide +kernel
theorem dL_freeMark_6 : decode cL_freeMark 6 = .ok (.goto 7, 3) := by decide +kernel
theorem dL_freeMark_9 : decode cL_freeMark 9 = .ok (.astore_n 3, 1) := by decide +kernel
theorem dL_freeMark_10 : decode cL_freeMark 10 = .ok (.ldc 17, 2) := by decide +kernel
theorem dL_freeMark_12 : decode cL_freeMark 12 = .ok (.ireturn, 1) := by decide +kernel
theorem dL_freeMark_13 : decode cL_freeMark 13 = .ok (.iload_n 2, 1) := by decide +kernel
theorem dL_freeMark_14 : decode cL_freeMark 14 = .ok (.ireturn, 1) := by decide +kernel
theorem dL_type_0 : decode cL_type 0 = .ok (.aload_n 0, 1) := by decide +kernel
theorem dL_type_1 : decode cL_type 1 = .ok (.iload_n 1, 1) := by decide +kernel
theorem dL_type_2 : decode cL_type 2 = .ok (.invokevirtual 80, 3) := by decide +kernel
theorem dL_type_5 : decode cL_type 5 = .ok (.istore_n 2, 1) := by decide +kernel
theorem dL_type_6 : decode cL_type 6 = .ok (.goto 11, 3) := by decide +kernel
theorem dL_type_9 : decode cL_type 9 = .ok (.astore_n 3, 1) := by decide +kernel
theorem dL_type_10 : decode cL_type 10 = .ok (.ldc 17, 2) := by decide +kernel
theorem dL_type_12 : decode cL_type 12 = .ok (.ireturn, 1) := by decide +kernel
theorem dL_type_13 : decode cL_type 13 = .ok (.astore_n 3, 1) := by decide +kernel
theorem dL_type_14 : decode cL_type 14 = .ok (.ldc 20, 2) := by decide +kernel
theorem dL_type_16 : decode cL_type 16 = .ok (.ireturn, 1) := by decide +kernel
theorem dL_type_17 : decode cL_type 17 = .ok (.iload_n 2, 1) := by decide +kernel
theorem dL_type_18 : decode cL_type 18 = .ok (.ireturn, 1) := by decide +kernel
theorem dL_undo_0 : decode cL_undo 0 = .ok (.aload_n 0, 1) := by decide +kernel
theorem dL_undo_1 : decode cL_undo 1 = .ok (.invokevirtual 83, 3) := by decide +kernel
theorem dL_undo_4 : decode cL_undo 4 = .ok (.istore_n 1, 1) := by decide +kernel
theorem dL_undo_5 : decode cL_undo 5 = .ok (.goto 7, 3) := by decide +kernel
theorem dL_undo_8 : decode cL_undo 8 = .ok (.astore_n 2, 1) := by decide +kernel
theorem dL_undo_9 : decode cL_undo 9 = .ok (.ldc 20, 2) := by decide +kernel
theorem dL_undo_11 : decode cL_undo 11 = .ok (.ireturn, 1) := by decide +kernel
theorem dL_undo_12 : decode cL_undo 12 = .ok (.iload_n 1, 1) := by decide +kernel
theorem dL_undo_13 : decode cL_undo 13 = .ok (.ireturn, 1) := by decide +kernel
theorem dL_print_0 : decode cL_print 0 = .ok (.ldc2_w 87, 3) := by decide +kernel
theorem dL_print_3 : decode cL_print 3 = .ok (.lstore_n 1, 1) := by decide +kernel
theorem dL_print_4 : decode cL_print 4 = .ok (.iconst 0, 1) := by decide +kernel
theorem dL_print_5 : decode cL_print 5 = .ok (.istore_n 3, 1) := by decide +kernel
theorem dL_print_6 : decode cL_print 6 = .ok (.iload_n 3, 1) := by decide +kernel
theorem dL_print_7 : decode cL_print 7 = .ok (.bipush 14, 2) := by decide +kernel
theorem dL_print_9 : decode cL_print 9 = .ok (.if_icmp .ge 22, 3) := by decide +kernel
theorem dL_print_12 : decode cL_print 12 = .ok (.ldc2_w 89, 3) := by decide +kernel
theorem dL_print_15 : decode cL_print 15 = .ok (.lload_n 1, 1) := by decide +kernel
theorem dL_print_16 : decode cL_print 16 = .ok (.lmul, 1) := by decide +kernel
theorem dL_print_17 : decode cL_print 17 = .ok (.aload_n 0, 1) := by decide +kernel
theorem dL_print_18 : decode cL_print 18 = .ok (.iload_n 3, 1) := by decide +kernel
theorem dL_print_19 : decode cL_print 19 = .ok (.invokestatic 91, 3) := by decide +kernel
theorem dL_print_22 : decode cL_print 22 = .ok (.i2l, 1) := by decide +kernel
theorem dL_print_23 : decode cL_print 23 = .ok (.ladd, 1) := by decide +kernel
theorem dL_print_24 : decode cL_print 24 = .ok (.lstore_n 1, 1) := by decide +kernel
theorem dL_print_25 : decode cL_print 25 = .ok (.iinc 3 1, 3) := by decide +kernel
theorem dL_print_28 : decode cL_print 28 = .ok (.goto (-22), 3) := by decide +kernel
theorem dL_print_31 : decode cL_print 31 = .ok (.iconst 0, 1) := by decide +kernel
theorem dL_print_32 : decode cL_print 32 = .ok (.istore_n 3, 1) := by decide +kernel
theorem dL_print_33 : decode cL_print 33 = .ok (.iload_n 3, 1) := by decide +kernel
theorem dL_print_34 : decode cL_print 34 = .ok (.bipush 8, 2) := by decide +kernel
theorem dL_print_36 : decode cL_print 36 = .ok (.if_icmp .ge 40, 3) := by decide +kernel
theorem dL_print_39 : decode cL_print 39 = .ok (.iconst 0, 1) := by decide +kernel
theorem dL_print_40 : decode cL_print 40 = .ok (.istore 4, 2) := by decide +kernel
theorem dL_print_42 : decode cL_print 42 = .ok (.iload 4, 2) := by decide +kernel
theorem dL_print_44 : decode cL_print 44 = .ok (.bipush 8, 2) := by decide +kernel
theorem dL_print_46 : decode cL_print 46 = .ok (.if_icmp .ge 24, 3) := by decide +kernel
theorem dL_print_49 : decode cL_print 49 = .ok (.ldc2_w 89, 3) := by decide +kernel
theorem dL_print_52 : decode cL_print 52 = .ok (.lload_n 1, 1) := by decide +kernel
theorem dL_print_53 : decode cL_print 53 = .ok (.lmul, 1) := by decide +kernel
theorem dL_print_54 : decode cL_print 54 = .ok (.aload_n 0, 1) := by decide +kernel
theorem dL_print_55 : decode cL_print 55 = .ok (.iload_n 3, 1) := by decide +kernel
theorem dL_print_56 : decode cL_print 56 = .ok (.iload 4, 2) := by decide +kernel
theorem dL_print_58 : decode cL_print 58 = .ok (.invokestatic 96, 3) := by decide +kernel
theorem dL_print_61 : decode cL_print 61 = .ok (.i2l, 1) := by decide +kernel
theorem dL_print_62 : decode cL_print 62 = .ok (.ladd, 1) := by decide +kernel
theorem dL_print_63 : decode cL_print 63 = .ok (.lstore_n 1, 1) := by decide +kernel
theorem dL_print_64 : decode cL_print 64 = .ok (.iinc 4 1, 3) := by decide +kernel
theorem dL_print_67 : decode cL_print 67 = .ok (.goto (-25), 3) := by decide +kernel
theorem dL_print_70 : decode cL_print 70 = .ok (.iinc 3 1, 3) := by decide +kernel
theorem dL_print_73 : decode cL_print 73 = .ok (.goto (-40), 3) := by decide +kernel
theorem dL_print_76 : decode cL_print 76 = .ok (.iconst 0, 1) := by decide +kernel
theorem dL_print_77 : decode cL_print 77 = .ok (.istore_n 3, 1) := by decide +kernel
theorem dL_print_78 : decode cL_print 78 = .ok (.iload_n 3, 1) := by decide +kernel
theorem dL_print_79 : decode cL_print 79 = .ok (.bipush 20, 2) := by decide +kernel
theorem dL_print_81 : decode cL_print 81 = .ok (.if_icmp .ge 54, 3) := by decide +kernel
theorem dL_print_84 : decode cL_print 84 = .ok (.iconst 0, 1) := by decide +kernel
theorem dL_print_85 : decode cL_print 85 = .ok (.istore 4, 2) := by decide +kernel
theorem dL_print_87 : decode cL_print 87 = .ok (.iload 4, 2) := by decide +kernel
theorem dL_print_89 : decode cL_print 89 = .ok (.iconst 4, 1) := by decide +kernel
theorem dL_print_90 : decode cL_print 90 = .ok (.if_icmp .ge 39, 3) := by decide +kernel
theorem dL_print_93 : decode cL_print 93 = .ok (.ldc2_w 89, 3) := by decide +kernel
theorem dL_print_96 : decode cL_print 96 = .ok (.ldc2_w 89, 3) := by decide +kernel
theorem dL_print_99 : decode cL_print 99 = .ok (.lload_n 1, 1) := by decide +kernel
theorem dL_print_100 : decode cL_print 100 = .ok (.lmul, 1) := by decide +kernel
theorem dL_print_101 : decode cL_print 101 = .ok (.aload_n 0, 1) := by decide +kernel
theorem dL_print_102 : decode cL_print 102 = .ok (.iload_n 3, 1) := by decide +kernel
theorem dL_print_103 : decode cL_print 103 = .ok (.iload 4, 2) := by decide +kernel
theorem dL_print_105 : decode cL_print 105 = .ok (.invokestatic 99, 3) := by decide +kernel
theorem dL_print_108 : decode cL_print 108 = .ok (.i2l, 1) := by decide +kernel
theorem dL_print_109 : decode cL_print 109 = .ok (.ladd, 1) := by decide +kernel
theorem dL_print_110 : decode cL_print 110 = .ok (.lmul, 1) := by decide +kernel
theorem dL_print_111 : decode cL_print 111 = .ok (.aload_n 0, 1) := by decide +kernel
theorem dL_print_112 : decode cL_print 112 = .ok (.iload_n 3, 1) := by decide +kernel
theorem dL_print_113 : decode cL_print 113 = .ok (.iload 4, 2) := by decide +kernel
theorem dL_print_115 : decode cL_print 115 = .ok (.iconst 1, 1) := by decide +kernel
theorem dL_print_116 : decode cL_print 116 = .ok (.iadd, 1) := by decide +kernel
theorem dL_print_117 : decode cL_print 117 = .ok (.invokestatic 101, 3) := by decide +kernel
theorem dL_print_120 : decode cL_print 120 = .ok (.i2l, 1) := by decide +kernel
theorem dL_print_121 : decode cL_print 121 = .ok (.ladd, 1) := by decide +kernel
theorem dL_print_122 : decode cL_print 122 = .ok (.lstore_n 1, 1) := by decide +kernel
theorem dL_print_123 : decode cL_print 123 = .ok (.iinc 4 1, 3) := by decide +kernel
theorem dL_print_126 : decode cL_print 126 = .ok (.goto (-39), 3) := by decide +kernel
theorem dL_print_129 : decode cL_print 129 = .ok (.iinc 3 1, 3) := by decide +kernel
theorem dL_print_132 : decode cL_print 132 = .ok (.goto (-54), 3) := by decide +kernel
theorem dL_print_135 : decode cL_print 135 = .ok (.aload_n 0, 1) := by decide +kernel
theorem dL_print_136 : decode cL_print 136 = .ok (.bipush 7, 2) := by decide +kernel
theorem dL_print_138 : decode cL_print 138 = .ok (.invokestatic 91, 3) := by decide +kernel
theorem dL_print_141 : decode cL_print 141 = .ok (.aload_n 0, 1) := by decide +kernel
theorem dL_print_142 : decode cL_print 142 = .ok (.bipush 9, 2) := by decide +kernel
theorem dL_print_144 : decode cL_print 144 = .ok (.invokestatic 91, 3) := by decide +kernel
theorem dL_print_147 : decode cL_print 147 = .ok (.isub, 1) := by decide +kernel
theorem dL_print_148 : decode cL_print 148 = .ok (.istore_n 3, 1) := by decide +kernel
theorem dL_print_149 : decode cL_print 149 = .ok (.iload_n 3, 1) := by decide +kernel
theorem dL_print_150 : decode cL_print 150 = .ok (.aload_n 0, 1) := by decide +kernel
theorem dL_print_151 : decode cL_print 151 = .ok (.bipush 7, 2) := by decide +kernel
theorem dL_print_153 : decode cL_print 153 = .ok (.invokestatic 91, 3) := by decide +kernel
theorem dL_print_156 : decode cL_print 156 = .ok (.if_icmp .ge 47, 3) := by decide +kernel
theorem dL_print_159 : decode cL_print 159 = .ok (.ldc2_w 89, 3) := by decide +kernel
theorem dL_print_162 : decode cL_print 162 = .ok (.ldc2_w 89, 3) := by decide +kernel
theorem dL_print_165 : decode cL_print 165 = .ok (.ldc2_w 89, 3) := by decide +kernel
theorem dL_print_168 : decode cL_print 168 = .ok (.lload_n 1, 1) := by decide +kernel
theorem dL_print_169 : decode cL_print 169 = .ok (.lmul, 1) := by decide +kernel
theorem dL_print_170 : decode cL_print 170 = .ok (.aload_n 0, 1) := by decide +kernel
theorem dL_print_171 : decode cL_print 171 = .ok (.iload_n 3, 1) := by decide +kernel
theorem dL_print_172 : decode cL_print 172 = .ok (.iconst 4, 1) := by decide +kernel
theorem dL_print_173 : decode cL_print 173 = .ok (.invokestatic 103, 3) := by decide +kernel
theorem dL_print_176 : decode cL_print 176 = .ok (.i2l, 1) := by decide +kernel
theorem dL_print_177 : decode cL_print 177 = .ok (.ladd, 1) := by decide +kernel
theorem dL_print_178 : decode cL_print 178 = .ok (.lmul, 1) := by decide +kernel
theorem dL_print_179 : decode cL_print 179 = .ok (.aload_n 0, 1) := by decide +kernel
theorem dL_print_180 : decode cL_print 180 = .ok (.iload_n 3, 1) := by decide +kernel
theorem dL_print_181 : decode cL_print 181 = .ok (.iconst 5, 1) := by decide +kernel
theorem dL_print_182 : decode cL_print 182 = .ok (.invokestatic 103, 3) := by decide +kernel
theorem dL_print_185 : decode cL_print 185 = .ok (.i2l, 1) := by decide +kernel
theorem dL_print_186 : decode cL_print 186 = .ok (.ladd, 1) := by decide +kernel
theorem dL_print_187 : decode cL_print 187 = .ok (.lmul, 1) := by decide +kernel
theorem dL_print_188 : decode cL_print 188 = .ok (.aload_n 0, 1) := by decide +kernel
theorem dL_print_189 : decode cL_print 189 = .ok (.iload_n 3, 1) := by decide +kernel
theorem dL_print_190 : decode cL_print 190 = .ok (.iconst 1, 1) := by decide +kernel
theorem dL_print_191 : decode cL_print 191 = .ok (.invokestatic 103, 3) := by decide +kernel
theorem dL_print_194 : decode cL_print 194 = .ok (.i2l, 1) := by decide +kernel
theorem dL_print_195 : decode cL_print 195 = .ok (.ladd, 1) := by decide +kernel
theorem dL_print_196 : decode cL_print 196 = .ok (.lstore_n 1, 1) := by decide +kernel
theorem dL_print_197 : decode cL_print 197 = .ok (.iinc 3 1, 3) := by decide +kernel
theorem dL_print_200 : decode cL_print 200 = .ok (.goto (-51), 3) := by decide +kernel
theorem dL_print_203 : decode cL_print 203 = .ok (.lload_n 1, 1) := by decide +kernel
theorem dL_print_204 : decode cL_print 204 = .ok (.lreturn, 1) := by decide +kernel
theorem dL_refused_0 : decode cL_refused 0 = .ok (.aload_n 0, 1) := by decide +kernel
theorem dL_refused_1 : decode cL_refused 1 = .ok (.invokestatic 105, 3) := by decide +kernel
theorem dL_refused_4 : decode cL_refused 4 = .ok (.lstore_n 1, 1) := by decide +kernel
theorem dL_refused_5 : decode cL_refused 5 = .ok (.aload_n 0, 1) := by decide +kernel
theorem dL_refused_6 : decode cL_refused 6 = .ok (.iconst 0, 1) := by decide +kernel
theorem dL_refused_7 : decode cL_refused 7 = .ok (.invokestatic 91, 3) := by decide +kernel
theorem dL_refused_10 : decode cL_refused 10 = .ok (.istore_n 3, 1) := by decide +kernel
theorem dL_refused_11 : decode cL_refused 11 = .ok (.aload_n 0, 1) := by decide +kernel
theorem dL_refused_12 : decode cL_refused 12 = .ok (.iconst (-1), 1) := by decide +kernel
theorem dL_refused_13 : decode cL_refused 13 = .ok (.invokestatic 109, 3) := by decide +kernel
theorem dL_refused_16 : decode cL_refused 16 = .ok (.ldc 17, 2) := by decide +kernel
theorem dL_refused_18 : decode cL_refused 18 = .ok (.if_icmp .ne 175, 3) := by decide +kernel
theorem dL_refused_21 : decode cL_refused 21 = .ok (.aload_n 0, 1) := by decide +kernel
theorem dL_refused_22 : decode cL_refused 22 = .ok (.iload_n 3, 1) := by decide +kernel
theorem dL_refused_23 : decode cL_refused 23 = .ok (.iconst 0, 1) := by decide +kernel
theorem dL_refused_24 : decode cL_refused 24 = .ok (.invokestatic 111, 3) := by decide +kernel
theorem dL_refused_27 : decode cL_refused 27 = .ok (.ldc 27, 2) := by decide +kernel
theorem dL_refused_29 : decode cL_refused 29 = .ok (.if_icmp .ne 164, 3) := by decide +kernel
theorem dL_refused_32 : decode cL_refused 32 = .ok (.aload_n 0, 1) := by decide +kernel
theorem dL_refused_33 : decode cL_refused 33 = .ok (.iconst (-1), 1) := by decide +kernel
theorem dL_refused_34 : decode cL_refused 34 = .ok (.invokestatic 113, 3) := by decide +kernel
theorem dL_refused_37 : decode cL_refused 37 = .ok (.ldc 27, 2) := by decide +kernel
theorem dL_refused_39 : decode cL_refused 39 = .ok (.if_icmp .ne 154, 3) := by decide +kernel
theorem dL_refused_42 : decode cL_refused 42 = .ok (.aload_n 0, 1) := by decide +kernel
theorem dL_refused_43 : decode cL_refused 43 = .ok (.iload_n 3, 1) := by decide +kernel
theorem dL_refused_44 : decode cL_refused 44 = .ok (.iconst 0, 1) := by decide +kernel
theorem dL_refused_45 : decode cL_refused 45 = .ok (.iconst 1, 1) := by decide +kernel
theorem dL_refused_46 : decode cL_refused 46 = .ok (.invokestatic 115, 3) := by decide +kernel
theorem dL_refused_49 : decode cL_refused 49 = .ok (.ldc 27, 2) := by decide +kernel
theorem dL_refused_51 : decode cL_refused 51 = .ok (.if_icmp .ne 142, 3) := by decide +kernel
theorem dL_refused_54 : decode cL_refused 54 = .ok (.aload_n 0, 1) := by decide +kernel
theorem dL_refused_55 : decode cL_refused 55 = .ok (.bipush 20, 2) := by decide +kernel
theorem dL_refused_57 : decode cL_refused 57 = .ok (.invokestatic 118, 3) := by decide +kernel
theorem dL_refused_60 : decode cL_refused 60 = .ok (.ldc 27, 2) := by decide +kernel
theorem dL_refused_62 : decode cL_refused 62 = .ok (.if_icmp .ne 131, 3) := by decide +kernel
theorem dL_refused_65 : decode cL_refused 65 = .ok (.aload_n 0, 1) := by decide +kernel
theorem dL_refused_66 : decode cL_refused 66 = .ok (.bipush (-5), 2) := by decide +kernel
theorem dL_refused_68 : decode cL_refused 68 = .ok (.invokestatic 120, 3) := by decide +kernel
theorem dL_refused_71 : decode cL_refused 71 = .ok (.ldc 17, 2) := by decide +kernel
theorem dL_refused_73 : decode cL_refused 73 = .ok (.if_icmp .ne 120, 3) := by decide +kernel
theorem dL_refused_76 : decode cL_refused 76 = .ok (.aload_n 0, 1) := by decide +kernel
theorem dL_refused_77 : decode cL_refused 77 = .ok (.bipush 41, 2) := by decide +kernel
theorem dL_refused_79 : decode cL_refused 79 = .ok (.invokestatic 122, 3) := by decide +kernel
theorem dL_refused_82 : decode cL_refused 82 = .ok (.ldc 17, 2) := by decide +kernel
theorem dL_refused_84 : decode cL_refused 84 = .ok (.if_icmp .ne 109, 3) := by decide +kernel
theorem dL_refused_87 : decode cL_refused 87 = .ok (.aload_n 0, 1) := by decide +kernel
theorem dL_refused_88 : decode cL_refused 88 = .ok (.iload_n 3, 1) := by decide +kernel
theorem dL_refused_89 : decode cL_refused 89 = .ok (.invokestatic 124, 3) := by decide +kernel
theorem dL_refused_92 : decode cL_refused 92 = .ok (.ldc 27, 2) := by decide +kernel
theorem dL_refused_94 : decode cL_refused 94 = .ok (.if_icmp .ne 99, 3) := by decide +kernel
theorem dL_refused_97 : decode cL_refused 97 = .ok (.aload_n 0, 1) := by decide +kernel
theorem dL_refused_98 : decode cL_refused 98 = .ok (.iload_n 3, 1) := by decide +kernel
theorem dL_refused_99 : decode cL_refused 99 = .ok (.invokestatic 126, 3) := by decide +kernel
theorem dL_refused_102 : decode cL_refused 102 = .ok (.ldc 27, 2) := by decide +kernel
theorem dL_refused_104 : decode cL_refused 104 = .ok (.if_icmp .ne 89, 3) := by decide +kernel
theorem dL_refused_107 : decode cL_refused 107 = .ok (.aload_n 0, 1) := by decide +kernel
theorem dL_refused_108 : decode cL_refused 108 = .ok (.iload_n 3, 1) := by decide +kernel
theorem dL_refused_109 : decode cL_refused 109 = .ok (.iconst 0, 1) := by decide +kernel
theorem dL_refused_110 : decode cL_refused 110 = .ok (.invokestatic 96, 3) := by decide +kernel
theorem dL_refused_113 : decode cL_refused 113 = .ok (.ldc 27, 2) := by decide +kernel
theorem dL_refused_115 : decode cL_refused 115 = .ok (.if_icmp .ne 78, 3) := by decide +kernel
theorem dL_refused_118 : decode cL_refused 118 = .ok (.aload_n 0, 1) := by decide +kernel
theorem dL_refused_119 : decode cL_refused 119 = .ok (.iload_n 3, 1) := by decide +kernel
theorem dL_refused_120 : decode cL_refused 120 = .ok (.invokestatic 128, 3) := by decide +kernel
theorem dL_refused_123 : decode cL_refused 123 = .ok (.ldc2_w 57, 3) := by decide +kernel
theorem dL_refused_126 : decode cL_refused 126 = .ok (.lcmp, 1) := by decide +kernel
theorem dL_refused_127 : decode cL_refused 127 = .ok (.ifCond .ne 66, 3) := by decide +kernel
theorem dL_refused_130 : decode cL_refused 130 = .ok (.aload_n 0, 1) := by decide +kernel
theorem dL_refused_131 : decode cL_refused 131 = .ok (.iload_n 3, 1) := by decide +kernel
theorem dL_refused_132 : decode cL_refused 132 = .ok (.iconst 0, 1) := by decide +kernel
theorem dL_refused_133 : decode cL_refused 133 = .ok (.invokestatic 131, 3) := by decide +kernel
theorem dL_refused_136 : decode cL_refused 136 = .ok (.ldc 27, 2) := by decide +kernel
theorem dL_refused_138 : decode cL_refused 138 = .ok (.if_icmp .ne 55, 3) := by decide +kernel
theorem dL_refused_141 : decode cL_refused 141 = .ok (.aload_n 0, 1) := by decide +kernel
theorem dL_refused_142 : decode cL_refused 142 = .ok (.iconst (-1), 1) := by decide +kernel
theorem dL_refused_143 : decode cL_refused 143 = .ok (.iconst 0, 1) := by decide +kernel
theorem dL_refused_144 : decode cL_refused 144 = .ok (.invokestatic 99, 3) := by decide +kernel
theorem dL_refused_147 : decode cL_refused 147 = .ok (.ldc 17, 2) := by decide +kernel
theorem dL_refused_149 : decode cL_refused 149 = .ok (.if_icmp .ne 44, 3) := by decide +kernel
theorem dL_refused_152 : decode cL_refused 152 = .ok (.aload_n 0, 1) := by decide +kernel
theorem dL_refused_153 : decode cL_refused 153 = .ok (.aload_n 0, 1) := by decide +kernel
theorem dL_refused_154 : decode cL_refused 154 = .ok (.bipush 7, 2) := by decide +kernel
theorem dL_refused_156 : decode cL_refused 156 = .ok (.invokestatic 91, 3) := by decide +kernel
theorem dL_refused_159 : decode cL_refused 159 = .ok (.iconst 0, 1) := by decide +kernel
theorem dL_refused_160 : decode cL_refused 160 = .ok (.invokestatic 103, 3) := by decide +kernel
theorem dL_refused_163 : decode cL_refused 163 = .ok (.ldc 27, 2) := by decide +kernel
theorem dL_refused_165 : decode cL_refused 165 = .ok (.if_icmp .ne 28, 3) := by decide +kernel
theorem dL_refused_168 : decode cL_refused 168 = .ok (.aload_n 0, 1) := by decide +kernel
theorem dL_refused_169 : decode cL_refused 169 = .ok (.iconst 0, 1) := by decide +kernel
theorem dL_refused_170 : decode cL_refused 170 = .ok (.iconst (-1), 1) := by decide +kernel
theorem dL_refused_171 : decode cL_refused 171 = .ok (.invokestatic 101, 3) := by decide +kernel
theorem dL_refused_174 : decode cL_refused 174 = .ok (.ldc 17, 2) := by decide +kernel
theorem dL_refused_176 : decode cL_refused 176 = .ok (.if_icmp .ne 17, 3) := by decide +kernel
theorem dL_refused_179 : decode cL_refused 179 = .ok (.aload_n 0, 1) := by decide +kernel
theorem dL_refused_180 : decode cL_refused 180 = .ok (.iconst (-1), 1) := by decide +kernel
theorem dL_refused_181 : decode cL_refused 181 = .ok (.invokestatic 91, 3) := by decide +kernel
theorem dL_refused_184 : decode cL_refused 184 = .ok (.ldc 17, 2) := by decide +kernel
theorem dL_refused_186 : decode cL_refused 186 = .ok (.if_icmp .ne 7, 3) := by decide +kernel
theorem dL_refused_189 : decode cL_refused 189 = .ok (.iconst 1, 1) := by decide +kernel
theorem dL_refused_190 : decode cL_refused 190 = .ok (.goto 4, 3) := by decide +kernel
theorem dL_refused_193 : decode cL_refused 193 = .ok (.iconst 0, 1) := by decide +kernel
theorem dL_refused_194 : decode cL_refused 194 = .ok (.istore 4, 2) := by decide +kernel
theorem dL_refused_196 : decode cL_refused 196 = .ok (.iload 4, 2) := by decide +kernel
theorem dL_refused_198 : decode cL_refused 198 = .ok (.ifCond .eq 87, 3) := by decide +kernel
theorem dL_refused_201 : decode cL_refused 201 = .ok (.aload_n 0, 1) := by decide +kernel
theorem dL_refused_202 : decode cL_refused 202 = .ok (.iconst 0, 1) := by decide +kernel
theorem dL_refused_203 : decode cL_refused 203 = .ok (.invokestatic 133, 3) := by decide +kernel
theorem dL_refused_206 : decode cL_refused 206 = .ok (.ldc 17, 2) := by decide +kernel
theorem dL_refused_208 : decode cL_refused 208 = .ok (.if_icmp .ne 77, 3) := by decide +kernel
theorem dL_refused_211 : decode cL_refused 211 = .ok (.aload_n 0, 1) := by decide +kernel
theorem dL_refused_212 : decode cL_refused 212 = .ok (.bipush 17, 2) := by decide +kernel
theorem dL_refused_214 : decode cL_refused 214 = .ok (.invokestatic 135, 3) := by decide +kernel
theorem dL_refused_217 : decode cL_refused 217 = .ok (.ldc 17, 2) := by decide +kernel
theorem dL_refused_219 : decode cL_refused 219 = .ok (.if_icmp .ne 66, 3) := by decide +kernel
theorem dL_refused_222 : decode cL_refused 222 = .ok (.aload_n 0, 1) := by decide +kernel
theorem dL_refused_223 : decode cL_refused 223 = .ok (.sipush 128, 3) := by decide +kernel
theorem dL_refused_226 : decode cL_refused 226 = .ok (.invokestatic 137, 3) := by decide +kernel
theorem dL_refused_229 : decode cL_refused 229 = .ok (.ldc 17, 2) := by decide +kernel
theorem dL_refused_231 : decode cL_refused 231 = .ok (.if_icmp .ne 54, 3) := by decide +kernel
theorem dL_refused_234 : decode cL_refused 234 = .ok (.aload_n 0, 1) := by decide +kernel
theorem dL_refused_235 : decode cL_refused 235 = .ok (.iconst 3, 1) := by decide +kernel
theorem dL_refused_236 : decode cL_refused 236 = .ok (.invokestatic 91, 3) := by decide +kernel
theorem dL_refused_239 : decode cL_refused 239 = .ok (.ifCond .gt 30, 3) := by decide +kernel
theorem dL_refused_242 : decode cL_refused 242 = .ok (.aload_n 0, 1) := by decide +kernel
theorem dL_refused_243 : decode cL_refused 243 = .ok (.iconst 1, 1) := by decide +kernel
theorem dL_refused_244 : decode cL_refused 244 = .ok (.invokestatic 122, 3) := by decide +kernel
theorem dL_refused_247 : decode cL_refused 247 = .ok (.ldc 20, 2) := by decide +kernel
theorem dL_refused_249 : decode cL_refused 249 = .ok (.if_icmp .ne 36, 3) := by decide +kernel
theorem dL_refused_252 : decode cL_refused 252 = .ok (.aload_n 0, 1) := by decide +kernel
theorem dL_refused_253 : decode cL_refused 253 = .ok (.invokevirtual 139, 3) := by decide +kernel
theorem dL_refused_256 : decode cL_refused 256 = .ok (.iconst (-1), 1) := by decide +kernel
theorem dL_refused_257 : decode cL_refused 257 = .ok (.if_icmp .ne 28, 3) := by decide +kernel
theorem dL_refused_260 : decode cL_refused 260 = .ok (.aload_n 0, 1) := by decide +kernel
theorem dL_refused_261 : decode cL_refused 261 = .ok (.bipush 40, 2) := by decide +kernel
theorem dL_refused_263 : decode cL_refused 263 = .ok (.invokestatic 133, 3) := by decide +kernel
theorem dL_refused_266 : decode cL_refused 266 = .ok (.ifCond .ne 19, 3) := by decide +kernel
theorem dL_refused_269 : decode cL_refused 269 = .ok (.iload_n 3, 1) := by decide +kernel
theorem dL_refused_270 : decode cL_refused 270 = .ok (.ifCond .gt 11, 3) := by decide +kernel
theorem dL_refused_273 : decode cL_refused 273 = .ok (.aload_n 0, 1) := by decide +kernel
theorem dL_refused_274 : decode cL_refused 274 = .ok (.invokevirtual 142, 3) := by decide +kernel
theorem dL_refused_277 : decode cL_refused 277 = .ok (.iconst (-1), 1) := by decide +kernel
theorem dL_refused_278 : decode cL_refused 278 = .ok (.if_icmp .ne 7, 3) := by decide +kernel
theorem dL_refused_281 : decode cL_refused 281 = .ok (.iconst 1, 1) := by decide +kernel
theorem dL_refused_282 : decode cL_refused 282 = .ok (.goto 4, 3) := by decide +kernel
theorem dL_refused_285 : decode cL_refused 285 = .ok (.iconst 0, 1) := by decide +kernel
theorem dL_refused_286 : decode cL_refused 286 = .ok (.istore 4, 2) := by decide +kernel
theorem dL_refused_288 : decode cL_refused 288 = .ok (.iload 4, 2) := by decide +kernel
theorem dL_refused_290 : decode cL_refused 290 = .ok (.ifCond .eq 69, 3) := by decide +kernel
theorem dL_refused_293 : decode cL_refused 293 = .ok (.iload_n 3, 1) := by decide +kernel
theorem dL_refused_294 : decode cL_refused 294 = .ok (.ifCond .eq 52, 3) := by decide +kernel
theorem dL_refused_297 : decode cL_refused 297 = .ok (.aload_n 0, 1) := by decide +kernel
theorem dL_refused_298 : decode cL_refused 298 = .ok (.aload_n 0, 1) := by decide +kernel
theorem dL_refused_299 : decode cL_refused 299 = .ok (.iconst 0, 1) := by decide +kernel
theorem dL_refused_300 : decode cL_refused 300 = .ok (.iconst 0, 1) := by decide +kernel
theorem dL_refused_301 : decode cL_refused 301 = .ok (.invokestatic 96, 3) := by decide +kernel
theorem dL_refused_304 : decode cL_refused 304 = .ok (.invokestatic 109, 3) := by decide +kernel
theorem dL_refused_307 : decode cL_refused 307 = .ok (.ldc 20, 2) := by decide +kernel
theorem dL_refused_309 : decode cL_refused 309 = .ok (.if_icmp .ne 50, 3) := by decide +kernel
theorem dL_refused_312 : decode cL_refused 312 = .ok (.aload_n 0, 1) := by decide +kernel
theorem dL_refused_313 : decode cL_refused 313 = .ok (.iconst 0, 1) := by decide +kernel
theorem dL_refused_314 : decode cL_refused 314 = .ok (.iconst 0, 1) := by decide +kernel
theorem dL_refused_315 : decode cL_refused 315 = .ok (.invokestatic 111, 3) := by decide +kernel
theorem dL_refused_318 : decode cL_refused 318 = .ok (.ldc 17, 2) := by decide +kernel
theorem dL_refused_320 : decode cL_refused 320 = .ok (.if_icmp .ne 39, 3) := by decide +kernel
theorem dL_refused_323 : decode cL_refused 323 = .ok (.aload_n 0, 1) := by decide +kernel
theorem dL_refused_324 : decode cL_refused 324 = .ok (.iconst 0, 1) := by decide +kernel
theorem dL_refused_325 : decode cL_refused 325 = .ok (.iconst 3, 1) := by decide +kernel
theorem dL_refused_326 : decode cL_refused 326 = .ok (.iconst 1, 1) := by decide +kernel
theorem dL_refused_327 : decode cL_refused 327 = .ok (.invokestatic 115, 3) := by decide +kernel
theorem dL_refused_330 : decode cL_refused 330 = .ok (.ldc 17, 2) := by decide +kernel
theorem dL_refused_332 : decode cL_refused 332 = .ok (.if_icmp .ne 27, 3) := by decide +kernel
theorem dL_refused_335 : decode cL_refused 335 = .ok (.aload_n 0, 1) := by decide +kernel
theorem dL_refused_336 : decode cL_refused 336 = .ok (.iconst 0, 1) := by decide +kernel
theorem dL_refused_337 : decode cL_refused 337 = .ok (.iconst 3, 1) := by decide +kernel
theorem dL_refused_338 : decode cL_refused 338 = .ok (.invokestatic 131, 3) := by decide +kernel
theorem dL_refused_341 : decode cL_refused 341 = .ok (.ldc 17, 2) := by decide +kernel
theorem dL_refused_343 : decode cL_refused 343 = .ok (.if_icmp .ne 16, 3) := by decide +kernel
theorem dL_refused_346 : decode cL_refused 346 = .ok (.aload_n 0, 1) := by decide +kernel
theorem dL_refused_347 : decode cL_refused 347 = .ok (.invokestatic 105, 3) := by decide +kernel
theorem dL_refused_350 : decode cL_refused 350 = .ok (.lload_n 1, 1) := by decide +kernel
theorem dL_refused_351 : decode cL_refused 351 = .ok (.lcmp, 1) := by decide +kernel
theorem dL_refused_352 : decode cL_refused 352 = .ok (.ifCond .ne 7, 3) := by decide +kernel
theorem dL_refused_355 : decode cL_refused 355 = .ok (.iconst 1, 1) := by decide +kernel
theorem dL_refused_356 : decode cL_refused 356 = .ok (.goto 4, 3) := by decide +kernel
theorem dL_refused_359 : decode cL_refused 359 = .ok (.iconst 0, 1) := by decide +kernel
theorem dL_refused_360 : decode cL_refused 360 = .ok (.ireturn, 1) := by decide +kernel
theorem dL_ones_0 : decode cL_ones 0 = .ok (.iconst 0, 1) := by decide +kernel
theorem dL_ones_1 : decode cL_ones 1 = .ok (.istore_n 1, 1) := by decide +kernel
theorem dL_ones_2 : decode cL_ones 2 = .ok (.iload_n 0, 1) := by decide +kernel
theorem dL_ones_3 : decode cL_ones 3 = .ok (.istore_n 2, 1) := by decide +kernel
theorem dL_ones_4 : decode cL_ones 4 = .ok (.iload_n 2, 1) := by decide +kernel
theorem dL_ones_5 : decode cL_ones 5 = .ok (.ifCond .le 16, 3) := by decide +kernel
theorem dL_ones_8 : decode cL_ones 8 = .ok (.iload_n 1, 1) := by decide +kernel
theorem dL_ones_9 : decode cL_ones 9 = .ok (.iload_n 2, 1) := by decide +kernel
theorem dL_ones_10 : decode cL_ones 10 = .ok (.iconst 2, 1) := by decide +kernel
theorem dL_ones_11 : decode cL_ones 11 = .ok (.irem, 1) := by decide +kernel
theorem dL_ones_12 : decode cL_ones 12 = .ok (.iadd, 1) := by decide +kernel
theorem dL_ones_13 : decode cL_ones 13 = .ok (.istore_n 1, 1) := by decide +kernel
theorem dL_ones_14 : decode cL_ones 14 = .ok (.iload_n 2, 1) := by decide +kernel
theorem dL_ones_15 : decode cL_ones 15 = .ok (.iconst 2, 1) := by decide +kernel
theorem dL_ones_16 : decode cL_ones 16 = .ok (.idiv, 1) := by decide +kernel
theorem dL_ones_17 : decode cL_ones 17 = .ok (.istore_n 2, 1) := by decide +kernel
theorem dL_ones_18 : decode cL_ones 18 = .ok (.goto (-14), 3) := by decide +kernel
theorem dL_ones_21 : decode cL_ones 21 = .ok (.iload_n 1, 1) := by decide +kernel
theorem dL_ones_22 : decode cL_ones 22 = .ok (.ireturn, 1) := by decide +kernel
theorem dL_areHouses_0 : decode cL_areHouses 0 = .ok (.aload_n 0, 1) := by decide +kernel
theorem dL_areHouses_1 : decode cL_areHouses 1 = .ok (.iconst 0, 1) := by decide +kernel
theorem dL_areHouses_2 : decode cL_areHouses 2 = .ok (.invokestatic 91, 3) := by decide +kernel
theorem dL_areHouses_5 : decode cL_areHouses 5 = .ok (.istore_n 1, 1) := by decide +kernel
theorem dL_areHouses_6 : decode cL_areHouses 6 = .ok (.iconst 0, 1) := by decide +kernel
theorem dL_areHouses_7 : decode cL_areHouses 7 = .ok (.istore_n 2, 1) := by decide +kernel
theorem dL_areHouses_8 : decode cL_areHouses 8 = .ok (.iconst 0, 1) := by decide +kernel
theorem dL_areHouses_9 : decode cL_areHouses 9 = .ok (.istore_n 3, 1) := by decide +kernel
theorem dL_areHouses_10 : decode cL_areHouses 10 = .ok (.iconst 0, 1) := by decide +kernel
theorem dL_areHouses_11 : decode cL_areHouses 11 = .ok (.istore 4, 2) := by decide +kernel
theorem dL_areHouses_13 : decode cL_areHouses 13 = .ok (.iconst 0, 1) := by decide +kernel
theorem dL_areHouses_14 : decode cL_areHouses 14 = .ok (.istore 5, 2) := by decide +kernel
theorem dL_areHouses_16 : decode cL_areHouses 16 = .ok (.iconst 0, 1) := by decide +kernel
theorem dL_areHouses_17 : decode cL_areHouses 17 = .ok (.istore 6, 2) := by decide +kernel
theorem dL_areHouses_19 : decode cL_areHouses 19 = .ok (.iconst 0, 1) := by decide +kernel
theorem dL_areHouses_20 : decode cL_areHouses 20 = .ok (.istore 7, 2) := by decide +kernel
theorem dL_areHouses_22 : decode cL_areHouses 22 = .ok (.iconst 0, 1) := by decide +kernel
theorem dL_areHouses_23 : decode cL_areHouses 23 = .ok (.istore 8, 2) := by decide +kernel
theorem dL_areHouses_25 : decode cL_areHouses 25 = .ok (.iconst 0, 1) := by decide +kernel
theorem dL_areHouses_26 : decode cL_areHouses 26 = .ok (.istore 9, 2) := by decide +kernel
theorem dL_areHouses_28 : decode cL_areHouses 28 = .ok (.lconst 0, 1) := by decide +kernel
theorem dL_areHouses_29 : decode cL_areHouses 29 = .ok (.lstore 10, 2) := by decide +kernel
theorem dL_areHouses_31 : decode cL_areHouses 31 = .ok (.iconst 1, 1) := by decide +kernel
theorem dL_areHouses_32 : decode cL_areHouses 32 = .ok (.istore 12, 2) := by decide +kernel
theorem dL_areHouses_34 : decode cL_areHouses 34 = .ok (.iconst 0, 1) := by decide +kernel
theorem dL_areHouses_35 : decode cL_areHouses 35 = .ok (.istore 13, 2) := by decide +kernel
theorem dL_areHouses_37 : decode cL_areHouses 37 = .ok (.iload 13, 2) := by decide +kernel
theorem dL_areHouses_39 : decode cL_areHouses 39 = .ok (.iload_n 1, 1) := by decide +kernel
theorem dL_areHouses_40 : decode cL_areHouses 40 = .ok (.if_icmp .ge 296, 3) := by decide +kernel
theorem dL_areHouses_43 : decode cL_areHouses 43 = .ok (.iload 12, 2) := by decide +kernel
theorem dL_areHouses_45 : decode cL_areHouses 45 = .ok (.ifCond .eq 291, 3) := by decide +kernel
theorem dL_areHouses_48 : decode cL_areHouses 48 = .ok (.iload_n 2, 1) := by decide +kernel
theorem dL_areHouses_49 : decode cL_areHouses 49 = .ok (.aload_n 0, 1) := by decide +kernel
theorem dL_areHouses_50 : decode cL_areHouses 50 = .ok (.iload 13, 2) := by decide +kernel
theorem dL_areHouses_52 : decode cL_areHouses 52 = .ok (.iconst 1, 1) := by decide +kernel
theorem dL_areHouses_53 : decode cL_areHouses 53 = .ok (.invokestatic 96, 3) := by decide +kernel
theorem dL_areHouses_56 : decode cL_areHouses 56 = .ok (.iadd, 1) := by decide +kernel
theorem dL_areHouses_57 : decode cL_areHouses 57 = .ok (.istore_n 2, 1) := by decide +kernel
theorem dL_areHouses_58 : decode cL_areHouses 58 = .ok (.iload_n 3, 1) := by decide +kernel
theorem dL_areHouses_59 : decode cL_areHouses 59 = .ok (.aload_n 0, 1) := by decide +kernel
theorem dL_areHouses_60 : decode cL_areHouses 60 = .ok (.iload 13, 2) := by decide +kernel
theorem dL_areHouses_62 : decode cL_areHouses 62 = .ok (.iconst 2, 1) := by decide +kernel
theorem dL_areHouses_63 : decode cL_areHouses 63 = .ok (.invokestatic 96, 3) := by decide +kernel
theorem dL_areHouses_66 : decode cL_areHouses 66 = .ok (.iadd, 1) := by decide +kernel
theorem dL_areHouses_67 : decode cL_areHouses 67 = .ok (.istore_n 3, 1) := by decide +kernel
theorem dL_areHouses_68 : decode cL_areHouses 68 = .ok (.iload 9, 2) := by decide +kernel
theorem dL_areHouses_70 : decode cL_areHouses 70 = .ok (.aload_n 0, 1) := by decide +kernel
theorem dL_areHouses_71 : decode cL_areHouses 71 = .ok (.iload 13, 2) := by decide +kernel
theorem dL_areHouses_73 : decode cL_areHouses 73 = .ok (.iconst 3, 1) := by decide +kernel
theorem dL_areHouses_74 : decode cL_areHouses 74 = .ok (.invokestatic 96, 3) := by decide +kernel
theorem dL_areHouses_77 : decode cL_areHouses 77 = .ok (.iadd, 1) := by decide +kernel
theorem dL_areHouses_78 : decode cL_areHouses 78 = .ok (.istore 9, 2) := by decide +kernel
theorem dL_areHouses_80 : decode cL_areHouses 80 = .ok (.iload 4, 2) := by decide +kernel
theorem dL_areHouses_82 : decode cL_areHouses 82 = .ok (.aload_n 0, 1) := by decide +kernel
theorem dL_areHouses_83 : decode cL_areHouses 83 = .ok (.iload 13, 2) := by decide +kernel
theorem dL_areHouses_85 : decode cL_areHouses 85 = .ok (.iconst 4, 1) := by decide +kernel
theorem dL_areHouses_86 : decode cL_areHouses 86 = .ok (.invokestatic 96, 3) := by decide +kernel
theorem dL_areHouses_89 : decode cL_areHouses 89 = .ok (.iadd, 1) := by decide +kernel
theorem dL_areHouses_90 : decode cL_areHouses 90 = .ok (.istore 4, 2) := by decide +kernel
theorem dL_areHouses_92 : decode cL_areHouses 92 = .ok (.iload 5, 2) := by decide +kernel
theorem dL_areHouses_94 : decode cL_areHouses 94 = .ok (.aload_n 0, 1) := by decide +kernel
theorem dL_areHouses_95 : decode cL_areHouses 95 = .ok (.iload 13, 2) := by decide +kernel
theorem dL_areHouses_97 : decode cL_areHouses 97 = .ok (.iconst 5, 1) := by decide +kernel
theorem dL_areHouses_98 : decode cL_areHouses 98 = .ok (.invokestatic 96, 3) := by decide +kernel
theorem dL_areHouses_101 : decode cL_areHouses 101 = .ok (.iadd, 1) := by decide +kernel
theorem dL_areHouses_102 : decode cL_areHouses 102 = .ok (.istore 5, 2) := by decide +kernel
theorem dL_areHouses_104 : decode cL_areHouses 104 = .ok (.iload 6, 2) := by decide +kernel
theorem dL_areHouses_106 : decode cL_areHouses 106 = .ok (.aload_n 0, 1) := by decide +kernel
theorem dL_areHouses_107 : decode cL_areHouses 107 = .ok (.iload 13, 2) := by decide +kernel
theorem dL_areHouses_109 : decode cL_areHouses 109 = .ok (.bipush 6, 2) := by decide +kernel
theorem dL_areHouses_111 : decode cL_areHouses 111 = .ok (.invokestatic 96, 3) := by decide +kernel
theorem dL_areHouses_114 : decode cL_areHouses 114 = .ok (.iadd, 1) := by decide +kernel
theorem dL_areHouses_115 : decode cL_areHouses 115 = .ok (.istore 6, 2) := by decide +kernel
theorem dL_areHouses_117 : decode cL_areHouses 117 = .ok (.iload 7, 2) := by decide +kernel
theorem dL_areHouses_119 : decode cL_areHouses 119 = .ok (.aload_n 0, 1) := by decide +kernel
theorem dL_areHouses_120 : decode cL_areHouses 120 = .ok (.iload 13, 2) := by decide +kernel
theorem dL_areHouses_122 : decode cL_areHouses 122 = .ok (.bipush 7, 2) := by decide +kernel
theorem dL_areHouses_124 : decode cL_areHouses 124 = .ok (.invokestatic 96, 3) := by decide +kernel
theorem dL_areHouses_127 : decode cL_areHouses 127 = .ok (.iadd, 1) := by decide +kernel
theorem dL_areHouses_128 : decode cL_areHouses 128 = .ok (.istore 7, 2) := by decide +kernel
theorem dL_areHouses_130 : decode cL_areHouses 130 = .ok (.lload 10, 2) := by decide +kernel
theorem dL_areHouses_132 : decode cL_areHouses 132 = .ok (.aload_n 0, 1) := by decide +kernel
theorem dL_areHouses_133 : decode cL_areHouses 133 = .ok (.iload 13, 2) := by decide +kernel
theorem dL_areHouses_135 : decode cL_areHouses 135 = .ok (.invokestatic 128, 3) := by decide +kernel
theorem dL_areHouses_138 : decode cL_areHouses 138 = .ok (.ladd, 1) := by decide +kernel
theorem dL_areHouses_139 : decode cL_areHouses 139 = .ok (.lstore 10, 2) := by decide +kernel
theorem dL_areHouses_141 : decode cL_areHouses 141 = .ok (.aload_n 0, 1) := by decide +kernel
theorem dL_areHouses_142 : decode cL_areHouses 142 = .ok (.iload 13, 2) := by decide +kernel
theorem dL_areHouses_144 : decode cL_areHouses 144 = .ok (.iconst 0, 1) := by decide +kernel
theorem dL_areHouses_145 : decode cL_areHouses 145 = .ok (.invokestatic 96, 3) := by decide +kernel
theorem dL_areHouses_148 : decode cL_areHouses 148 = .ok (.ifCond .le 96, 3) := by decide +kernel
theorem dL_areHouses_151 : decode cL_areHouses 151 = .ok (.aload_n 0, 1) := by decide +kernel
theorem dL_areHouses_152 : decode cL_areHouses 152 = .ok (.iload 13, 2) := by decide +kernel
theorem dL_areHouses_154 : decode cL_areHouses 154 = .ok (.iconst 0, 1) := by decide +kernel
theorem dL_areHouses_155 : decode cL_areHouses 155 = .ok (.invokestatic 96, 3) := by decide +kernel
theorem dL_areHouses_158 : decode cL_areHouses 158 = .ok (.ldc 145, 2) := by decide +kernel
theorem dL_areHouses_160 : decode cL_areHouses 160 = .ok (.if_icmp .ge 84, 3) := by decide +kernel
theorem dL_areHouses_163 : decode cL_areHouses 163 = .ok (.aload_n 0, 1) := by decide +kernel
theorem dL_areHouses_164 : decode cL_areHouses 164 = .ok (.iload 13, 2) := by decide +kernel
theorem dL_areHouses_166 : decode cL_areHouses 166 = .ok (.bipush 6, 2) := by decide +kernel
theorem dL_areHouses_168 : decode cL_areHouses 168 = .ok (.invokestatic 96, 3) := by decide +kernel
theorem dL_areHouses_171 : decode cL_areHouses 171 = .ok (.aload_n 0, 1) := by decide +kernel
theorem dL_areHouses_172 : decode cL_areHouses 172 = .ok (.iload 13, 2) := by decide +kernel
theorem dL_areHouses_174 : decode cL_areHouses 174 = .ok (.iconst 4, 1) := by decide +kernel
theorem dL_areHouses_175 : decode cL_areHouses 175 = .ok (.invokestatic 96, 3) := by decide +kernel
theorem dL_areHouses_178 : decode cL_areHouses 178 = .ok (.if_icmp .gt 66, 3) := by decide +kernel
theorem dL_areHouses_181 : decode cL_areHouses 181 = .ok (.aload_n 0, 1) := by decide +kernel
theorem dL_areHouses_182 : decode cL_areHouses 182 = .ok (.iload 13, 2) := by decide +kernel
theorem dL_areHouses_184 : decode cL_areHouses 184 = .ok (.bipush 6, 2) := by decide +kernel
theorem dL_areHouses_186 : decode cL_areHouses 186 = .ok (.invokestatic 96, 3) := by decide +kernel
theorem dL_areHouses_189 : decode cL_areHouses 189 = .ok (.aload_n 0, 1) := by decide +kernel
theorem dL_areHouses_190 : decode cL_areHouses 190 = .ok (.iload 13, 2) := by decide +kernel
theorem dL_areHouses_192 : decode cL_areHouses 192 = .ok (.iconst 5, 1) := by decide +kernel
theorem dL_areHouses_193 : decode cL_areHouses 193 = .ok (.invokestatic 96, 3) := by decide +kernel
theorem dL_areHouses_196 : decode cL_areHouses 196 = .ok (.if_icmp .gt 48, 3) := by decide +kernel
theorem dL_areHouses_199 : decode cL_areHouses 199 = .ok (.aload_n 0, 1) := by decide +kernel
theorem dL_areHouses_200 : decode cL_areHouses 200 = .ok (.iload 13, 2) := by decide +kernel
theorem dL_areHouses_202 : decode cL_areHouses 202 = .ok (.iconst 0, 1) := by decide +kernel
theorem dL_areHouses_203 : decode cL_areHouses 203 = .ok (.invokestatic 131, 3) := by decide +kernel
theorem dL_areHouses_206 : decode cL_areHouses 206 = .ok (.aload_n 0, 1) := by decide +kernel
theorem dL_areHouses_207 : decode cL_areHouses 207 = .ok (.iload 13, 2) := by decide +kernel
theorem dL_areHouses_209 : decode cL_areHouses 209 = .ok (.iconst 1, 1) := by decide +kernel
theorem dL_areHouses_210 : decode cL_areHouses 210 = .ok (.invokestatic 131, 3) := by decide +kernel
theorem dL_areHouses_213 : decode cL_areHouses 213 = .ok (.iadd, 1) := by decide +kernel
theorem dL_areHouses_214 : decode cL_areHouses 214 = .ok (.aload_n 0, 1) := by decide +kernel
theorem dL_areHouses_215 : decode cL_areHouses 215 = .ok (.iload 13, 2) := by decide +kernel
theorem dL_areHouses_217 : decode cL_areHouses 217 = .ok (.iconst 2, 1) := by decide +kernel
theorem dL_areHouses_218 : decode cL_areHouses 218 = .ok (.invokestatic 131, 3) := by decide +kernel
theorem dL_areHouses_221 : decode cL_areHouses 221 = .ok (.iadd, 1) := by decide +kernel
theorem dL_areHouses_222 : decode cL_areHouses 222 = .ok (.aload_n 0, 1) := by decide +kernel
theorem dL_areHouses_223 : decode cL_areHouses 223 = .ok (.iload 13, 2) := by decide +kernel
theorem dL_areHouses_225 : decode cL_areHouses 225 = .ok (.iconst 4, 1) := by decide +kernel
theorem dL_areHouses_226 : decode cL_areHouses 226 = .ok (.invokestatic 96, 3) := by decide +kernel
theorem dL_areHouses_229 : decode cL_areHouses 229 = .ok (.aload_n 0, 1) := by decide +kernel
theorem dL_areHouses_230 : decode cL_areHouses 230 = .ok (.iload 13, 2) := by decide +kernel
theorem dL_areHouses_232 : decode cL_areHouses 232 = .ok (.iconst 5, 1) := by decide +kernel
theorem dL_areHouses_233 : decode cL_areHouses 233 = .ok (.invokestatic 96, 3) := by decide +kernel
theorem dL_areHouses_236 : decode cL_areHouses 236 = .ok (.isub, 1) := by decide +kernel
theorem dL_areHouses_237 : decode cL_areHouses 237 = .ok (.if_icmp .ne 7, 3) := by decide +kernel
theorem dL_areHouses_240 : decode cL_areHouses 240 = .ok (.iconst 1, 1) := by decide +kernel
theorem dL_areHouses_241 : decode cL_areHouses 241 = .ok (.goto 4, 3) := by decide +kernel
theorem dL_areHouses_244 : decode cL_areHouses 244 = .ok (.iconst 0, 1) := by decide +kernel
theorem dL_areHouses_245 : decode cL_areHouses 245 = .ok (.istore 12, 2) := by decide +kernel
theorem dL_areHouses_247 : decode cL_areHouses 247 = .ok (.iconst 0, 1) := by decide +kernel
theorem dL_areHouses_248 : decode cL_areHouses 248 = .ok (.istore 14, 2) := by decide +kernel
theorem dL_areHouses_250 : decode cL_areHouses 250 = .ok (.iload 14, 2) := by decide +kernel
theorem dL_areHouses_252 : decode cL_areHouses 252 = .ok (.iload 13, 2) := by decide +kernel
theorem dL_areHouses_254 : decode cL_areHouses 254 = .ok (.if_icmp .ge 76, 3) := by decide +kernel
theorem dL_areHouses_257 : decode cL_areHouses 257 = .ok (.iload 12, 2) := by decide +kernel
theorem dL_areHouses_259 : decode cL_areHouses 259 = .ok (.ifCond .eq 71, 3) := by decide +kernel
theorem dL_areHouses_262 : decode cL_areHouses 262 = .ok (.aload_n 0, 1) := by decide +kernel
theorem dL_areHouses_263 : decode cL_areHouses 263 = .ok (.iload 13, 2) := by decide +kernel
theorem dL_areHouses_265 : decode cL_areHouses 265 = .ok (.iconst 0, 1) := by decide +kernel
theorem dL_areHouses_266 : decode cL_areHouses 266 = .ok (.invokestatic 96, 3) := by decide +kernel
theorem dL_areHouses_269 : decode cL_areHouses 269 = .ok (.istore 15, 2) := by decide +kernel
theorem dL_areHouses_271 : decode cL_areHouses 271 = .ok (.aload_n 0, 1) := by decide +kernel
theorem dL_areHouses_272 : decode cL_areHouses 272 = .ok (.iload 14, 2) := by decide +kernel
theorem dL_areHouses_274 : decode cL_areHouses 274 = .ok (.iconst 0, 1) := by decide +kernel
theorem dL_areHouses_275 : decode cL_areHouses 275 = .ok (.invokestatic 96, 3) := by decide +kernel
theorem dL_areHouses_278 : decode cL_areHouses 278 = .ok (.istore 16, 2) := by decide +kernel
theorem dL_areHouses_280 : decode cL_areHouses 280 = .ok (.iload 15, 2) := by decide +kernel
theorem dL_areHouses_282 : decode cL_areHouses 282 = .ok (.iload 16, 2) := by decide +kernel
theorem dL_areHouses_284 : decode cL_areHouses 284 = .ok (.if_icmp .eq 7, 3) := by decide +kernel
theorem dL_areHouses_287 : decode cL_areHouses 287 = .ok (.iconst 1, 1) := by decide +kernel
theorem dL_areHouses_288 : decode cL_areHouses 288 = .ok (.goto 4, 3) := by decide +kernel
theorem dL_areHouses_291 : decode cL_areHouses 291 = .ok (.iconst 0, 1) := by decide +kernel
theorem dL_areHouses_292 : decode cL_areHouses 292 = .ok (.istore 12, 2) := by decide +kernel
theorem dL_areHouses_294 : decode cL_areHouses 294 = .ok (.iload 8, 2) := by decide +kernel
theorem dL_areHouses_296 : decode cL_areHouses 296 = .ok (.iload 15, 2) := by decide +kernel
theorem dL_areHouses_298 : decode cL_areHouses 298 = .ok (.iload 16, 2) := by decide +kernel
theorem dL_areHouses_300 : decode cL_areHouses 300 = .ok (.ior, 1) := by decide +kernel
theorem dL_areHouses_301 : decode cL_areHouses 301 = .ok (.iload 15, 2) := by decide +kernel
theorem dL_areHouses_303 : decode cL_areHouses 303 = .ok (.if_icmp .eq 13, 3) := by decide +kernel
theorem dL_areHouses_306 : decode cL_areHouses 306 = .ok (.iload 15, 2) := by decide +kernel
theorem dL_areHouses_308 : decode cL_areHouses 308 = .ok (.iload 16, 2) := by decide +kernel
theorem dL_areHouses_310 : decode cL_areHouses 310 = .ok (.ior, 1) := by decide +kernel
theorem dL_areHouses_311 : decode cL_areHouses 311 = .ok (.iload 16, 2) := by decide +kernel
theorem dL_areHouses_313 : decode cL_areHouses 313 = .ok (.if_icmp .ne 7, 3) := by decide +kernel
theorem dL_areHouses_316 : decode cL_areHouses 316 = .ok (.iconst 1, 1) := by decide +kernel
theorem dL_areHouses_317 : decode cL_areHouses 317 = .ok (.goto 4, 3) := by decide +kernel
theorem dL_areHouses_320 : decode cL_areHouses 320 = .ok (.iconst 0, 1) := by decide +kernel
theorem dL_areHouses_321 : decode cL_areHouses 321 = .ok (.iadd, 1) := by decide +kernel
theorem dL_areHouses_322 : decode cL_areHouses 322 = .ok (.istore 8, 2) := by decide +kernel
theorem dL_areHouses_324 : decode cL_areHouses 324 = .ok (.iinc 14 1, 3) := by decide +kernel
theorem dL_areHouses_327 : decode cL_areHouses 327 = .ok (.goto (-77), 3) := by decide +kernel
theorem dL_areHouses_330 : decode cL_areHouses 330 = .ok (.iinc 13 1, 3) := by decide +kernel
theorem dL_areHouses_333 : decode cL_areHouses 333 = .ok (.goto (-296), 3) := by decide +kernel
theorem dL_areHouses_336 : decode cL_areHouses 336 = .ok (.aload_n 0, 1) := by decide +kernel
theorem dL_areHouses_337 : decode cL_areHouses 337 = .ok (.invokevirtual 142, 3) := by decide +kernel
theorem dL_areHouses_340 : decode cL_areHouses 340 = .ok (.istore 13, 2) := by decide +kernel
theorem dL_areHouses_342 : decode cL_areHouses 342 = .ok (.iconst 0, 1) := by decide +kernel
theorem dL_areHouses_343 : decode cL_areHouses 343 = .ok (.istore 14, 2) := by decide +kernel
theorem dL_areHouses_345 : decode cL_areHouses 345 = .ok (.iload 14, 2) := by decide +kernel
theorem dL_areHouses_347 : decode cL_areHouses 347 = .ok (.iload_n 1, 1) := by decide +kernel
theorem dL_areHouses_348 : decode cL_areHouses 348 = .ok (.if_icmp .ge 88, 3) := by decide +kernel
theorem dL_areHouses_351 : decode cL_areHouses 351 = .ok (.iload 12, 2) := by decide +kernel
theorem dL_areHouses_353 : decode cL_areHouses 353 = .ok (.ifCond .eq 83, 3) := by decide +kernel
theorem dL_areHouses_356 : decode cL_areHouses 356 = .ok (.iload 9, 2) := by decide +kernel
theorem dL_areHouses_358 : decode cL_areHouses 358 = .ok (.iload_n 1, 1) := by decide +kernel
theorem dL_areHouses_359 : decode cL_areHouses 359 = .ok (.if_icmp .eq 13, 3) := by decide +kernel
theorem dL_areHouses_362 : decode cL_areHouses 362 = .ok (.aload_n 0, 1) := by decide +kernel
theorem dL_areHouses_363 : decode cL_areHouses 363 = .ok (.iload 14, 2) := by decide +kernel
theorem dL_areHouses_365 : decode cL_areHouses 365 = .ok (.iconst 3, 1) := by decide +kernel
theorem dL_areHouses_366 : decode cL_areHouses 366 = .ok (.invokestatic 96, 3) := by decide +kernel
theorem dL_areHouses_369 : decode cL_areHouses 369 = .ok (.ifCond .ne 7, 3) := by decide +kernel
theorem dL_areHouses_372 : decode cL_areHouses 372 = .ok (.iconst 1, 1) := by decide +kernel
theorem dL_areHouses_373 : decode cL_areHouses 373 = .ok (.goto 4, 3) := by decide +kernel
theorem dL_areHouses_376 : decode cL_areHouses 376 = .ok (.iconst 0, 1) := by decide +kernel
theorem dL_areHouses_377 : decode cL_areHouses 377 = .ok (.istore 15, 2) := by decide +kernel
theorem dL_areHouses_379 : decode cL_areHouses 379 = .ok (.iload 15, 2) := by decide +kernel
theorem dL_areHouses_381 : decode cL_areHouses 381 = .ok (.ifCond .eq 42, 3) := by decide +kernel
theorem dL_areHouses_384 : decode cL_areHouses 384 = .ok (.aload_n 0, 1) := by decide +kernel
theorem dL_areHouses_385 : decode cL_areHouses 385 = .ok (.iload 14, 2) := by decide +kernel
theorem dL_areHouses_387 : decode cL_areHouses 387 = .ok (.invokestatic 128, 3) := by decide +kernel
theorem dL_areHouses_390 : decode cL_areHouses 390 = .ok (.aload_n 0, 1) := by decide +kernel
theorem dL_areHouses_391 : decode cL_areHouses 391 = .ok (.iload 13, 2) := by decide +kernel
theorem dL_areHouses_393 : decode cL_areHouses 393 = .ok (.invokestatic 128, 3) := by decide +kernel
theorem dL_areHouses_396 : decode cL_areHouses 396 = .ok (.lcmp, 1) := by decide +kernel
theorem dL_areHouses_397 : decode cL_areHouses 397 = .ok (.ifCond .lt 26, 3) := by decide +kernel
theorem dL_areHouses_400 : decode cL_areHouses 400 = .ok (.aload_n 0, 1) := by decide +kernel
theorem dL_areHouses_401 : decode cL_areHouses 401 = .ok (.iload 14, 2) := by decide +kernel
theorem dL_areHouses_403 : decode cL_areHouses 403 = .ok (.invokestatic 128, 3) := by decide +kernel
theorem dL_areHouses_406 : decode cL_areHouses 406 = .ok (.aload_n 0, 1) := by decide +kernel
theorem dL_areHouses_407 : decode cL_areHouses 407 = .ok (.iload 13, 2) := by decide +kernel
theorem dL_areHouses_409 : decode cL_areHouses 409 = .ok (.invokestatic 128, 3) := by decide +kernel
theorem dL_areHouses_412 : decode cL_areHouses 412 = .ok (.lcmp, 1) := by decide +kernel
theorem dL_areHouses_413 : decode cL_areHouses 413 = .ok (.ifCond .ne 14, 3) := by decide +kernel
theorem dL_areHouses_416 : decode cL_areHouses 416 = .ok (.iload 14, 2) := by decide +kernel
theorem dL_areHouses_418 : decode cL_areHouses 418 = .ok (.iload 13, 2) := by decide +kernel
theorem dL_areHouses_420 : decode cL_areHouses 420 = .ok (.if_icmp .lt 7, 3) := by decide +kernel
theorem dL_areHouses_423 : decode cL_areHouses 423 = .ok (.iconst 1, 1) := by decide +kernel
theorem dL_areHouses_424 : decode cL_areHouses 424 = .ok (.goto 4, 3) := by decide +kernel
theorem dL_areHouses_427 : decode cL_areHouses 427 = .ok (.iconst 0, 1) := by decide +kernel
theorem dL_areHouses_428 : decode cL_areHouses 428 = .ok (.istore 12, 2) := by decide +kernel
theorem dL_areHouses_430 : decode cL_areHouses 430 = .ok (.iinc 14 1, 3) := by decide +kernel
theorem dL_areHouses_433 : decode cL_areHouses 433 = .ok (.goto (-88), 3) := by decide +kernel
theorem dL_areHouses_436 : decode cL_areHouses 436 = .ok (.iload 12, 2) := by decide +kernel
theorem dL_areHouses_438 : decode cL_areHouses 438 = .ok (.ifCond .eq 36, 3) := by decide +kernel
theorem dL_areHouses_441 : decode cL_areHouses 441 = .ok (.iload_n 1, 1) := by decide +kernel
theorem dL_areHouses_442 : decode cL_areHouses 442 = .ok (.ifCond .ne 12, 3) := by decide +kernel
theorem dL_areHouses_445 : decode cL_areHouses 445 = .ok (.iload 13, 2) := by decide +kernel
theorem dL_areHouses_447 : decode cL_areHouses 447 = .ok (.iconst (-1), 1) := by decide +kernel
theorem dL_areHouses_448 : decode cL_areHouses 448 = .ok (.if_icmp .ne 26, 3) := by decide +kernel
theorem dL_areHouses_451 : decode cL_areHouses 451 = .ok (.goto 19, 3) := by decide +kernel
theorem dL_areHouses_454 : decode cL_areHouses 454 = .ok (.iload 9, 2) := by decide +kernel
theorem dL_areHouses_456 : decode cL_areHouses 456 = .ok (.iload_n 1, 1) := by decide +kernel
theorem dL_areHouses_457 : decode cL_areHouses 457 = .ok (.if_icmp .eq 13, 3) := by decide +kernel
theorem dL_areHouses_460 : decode cL_areHouses 460 = .ok (.aload_n 0, 1) := by decide +kernel
theorem dL_areHouses_461 : decode cL_areHouses 461 = .ok (.iload 13, 2) := by decide +kernel
theorem dL_areHouses_463 : decode cL_areHouses 463 = .ok (.iconst 3, 1) := by decide +kernel
theorem dL_areHouses_464 : decode cL_areHouses 464 = .ok (.invokestatic 96, 3) := by decide +kernel
theorem dL_areHouses_467 : decode cL_areHouses 467 = .ok (.ifCond .ne 7, 3) := by decide +kernel
theorem dL_areHouses_470 : decode cL_areHouses 470 = .ok (.iconst 1, 1) := by decide +kernel
theorem dL_areHouses_471 : decode cL_areHouses 471 = .ok (.goto 4, 3) := by decide +kernel
theorem dL_areHouses_474 : decode cL_areHouses 474 = .ok (.iconst 0, 1) := by decide +kernel
theorem dL_areHouses_475 : decode cL_areHouses 475 = .ok (.istore 12, 2) := by decide +kernel
theorem dL_areHouses_477 : decode cL_areHouses 477 = .ok (.iload 12, 2) := by decide +kernel
theorem dL_areHouses_479 : decode cL_areHouses 479 = .ok (.ifCond .eq 94, 3) := by decide +kernel
theorem dL_areHouses_482 : decode cL_areHouses 482 = .ok (.iload_n 2, 1) := by decide +kernel
theorem dL_areHouses_483 : decode cL_areHouses 483 = .ok (.aload_n 0, 1) := by decide +kernel
theorem dL_areHouses_484 : decode cL_areHouses 484 = .ok (.iconst 4, 1) := by decide +kernel
theorem dL_areHouses_485 : decode cL_areHouses 485 = .ok (.invokestatic 91, 3) := by decide +kernel
theorem dL_areHouses_488 : decode cL_areHouses 488 = .ok (.if_icmp .ne 85, 3) := by decide +kernel
theorem dL_areHouses_491 : decode cL_areHouses 491 = .ok (.iload_n 3, 1) := by decide +kernel
theorem dL_areHouses_492 : decode cL_areHouses 492 = .ok (.aload_n 0, 1) := by decide +kernel
theorem dL_areHouses_493 : decode cL_areHouses 493 = .ok (.iconst 5, 1) := by decide +kernel
theorem dL_areHouses_494 : decode cL_areHouses 494 = .ok (.invokestatic 91, 3) := by decide +kernel
theorem dL_areHouses_497 : decode cL_areHouses 497 = .ok (.if_icmp .ne 76, 3) := by decide +kernel
theorem dL_areHouses_500 : decode cL_areHouses 500 = .ok (.lload 10, 2) := by decide +kernel
theorem dL_areHouses_502 : decode cL_areHouses 502 = .ok (.lconst 0, 1) := by decide +kernel
theorem dL_areHouses_503 : decode cL_areHouses 503 = .ok (.lcmp, 1) := by decide +kernel
theorem dL_areHouses_504 : decode cL_areHouses 504 = .ok (.ifCond .ne 69, 3) := by decide +kernel
theorem dL_areHouses_507 : decode cL_areHouses 507 = .ok (.iload 4, 2) := by decide +kernel
theorem dL_areHouses_509 : decode cL_areHouses 509 = .ok (.aload_n 0, 1) := by decide +kernel
theorem dL_areHouses_510 : decode cL_areHouses 510 = .ok (.bipush 9, 2) := by decide +kernel
theorem dL_areHouses_512 : decode cL_areHouses 512 = .ok (.invokestatic 91, 3) := by decide +kernel
theorem dL_areHouses_515 : decode cL_areHouses 515 = .ok (.if_icmp .ne 58, 3) := by decide +kernel
theorem dL_areHouses_518 : decode cL_areHouses 518 = .ok (.iload 5, 2) := by decide +kernel
theorem dL_areHouses_520 : decode cL_areHouses 520 = .ok (.aload_n 0, 1) := by decide +kernel
theorem dL_areHouses_521 : decode cL_areHouses 521 = .ok (.bipush 9, 2) := by decide +kernel
theorem dL_areHouses_523 : decode cL_areHouses 523 = .ok (.invokestatic 91, 3) := by decide +kernel
theorem dL_areHouses_526 : decode cL_areHouses 526 = .ok (.aload_n 0, 1) := by decide +kernel
theorem dL_areHouses_527 : decode cL_areHouses 527 = .ok (.bipush 10, 2) := by decide +kernel
theorem dL_areHouses_529 : decode cL_areHouses 529 = .ok (.invokestatic 91, 3) := by decide +kernel
theorem dL_areHouses_532 : decode cL_areHouses 532 = .ok (.isub, 1) := by decide +kernel
theorem dL_areHouses_533 : decode cL_areHouses 533 = .ok (.if_icmp .gt 40, 3) := by decide +kernel
theorem dL_areHouses_536 : decode cL_areHouses 536 = .ok (.iload 6, 2) := by decide +kernel
theorem dL_areHouses_538 : decode cL_areHouses 538 = .ok (.aload_n 0, 1) := by decide +kernel
theorem dL_areHouses_539 : decode cL_areHouses 539 = .ok (.bipush 11, 2) := by decide +kernel
theorem dL_areHouses_541 : decode cL_areHouses 541 = .ok (.invokestatic 91, 3) := by decide +kernel
theorem dL_areHouses_544 : decode cL_areHouses 544 = .ok (.iadd, 1) := by decide +kernel
theorem dL_areHouses_545 : decode cL_areHouses 545 = .ok (.iload 5, 2) := by decide +kernel
theorem dL_areHouses_547 : decode cL_areHouses 547 = .ok (.if_icmp .ne 26, 3) := by decide +kernel
theorem dL_areHouses_550 : decode cL_areHouses 550 = .ok (.iload 7, 2) := by decide +kernel
theorem dL_areHouses_552 : decode cL_areHouses 552 = .ok (.aload_n 0, 1) := by decide +kernel
theorem dL_areHouses_553 : decode cL_areHouses 553 = .ok (.iconst 3, 1) := by decide +kernel
theorem dL_areHouses_554 : decode cL_areHouses 554 = .ok (.invokestatic 91, 3) := by decide +kernel
theorem dL_areHouses_557 : decode cL_areHouses 557 = .ok (.if_icmp .ne 16, 3) := by decide +kernel
theorem dL_areHouses_560 : decode cL_areHouses 560 = .ok (.aload_n 0, 1) := by decide +kernel
theorem dL_areHouses_561 : decode cL_areHouses 561 = .ok (.invokevirtual 146, 3) := by decide +kernel
theorem dL_areHouses_564 : decode cL_areHouses 564 = .ok (.iload 8, 2) := by decide +kernel
theorem dL_areHouses_566 : decode cL_areHouses 566 = .ok (.if_icmp .ne 7, 3) := by decide +kernel
theorem dL_areHouses_569 : decode cL_areHouses 569 = .ok (.iconst 1, 1) := by decide +kernel
theorem dL_areHouses_570 : decode cL_areHouses 570 = .ok (.goto 4, 3) := by decide +kernel
theorem dL_areHouses_573 : decode cL_areHouses 573 = .ok (.iconst 0, 1) := by decide +kernel
theorem dL_areHouses_574 : decode cL_areHouses 574 = .ok (.ireturn, 1) := by decide +kernel
theorem dL_areLoaves_0 : decode cL_areLoaves 0 = .ok (.aload_n 0, 1) := by decide +kernel
theorem dL_areLoaves_1 : decode cL_areLoaves 1 = .ok (.bipush 7, 2) := by decide +kernel
theorem dL_areLoaves_3 : decode cL_areLoaves 3 = .ok (.invokestatic 91, 3) := by decide +kernel
theorem dL_areLoaves_6 : decode cL_areLoaves 6 = .ok (.aload_n 0, 1) := by decide +kernel
theorem dL_areLoaves_7 : decode cL_areLoaves 7 = .ok (.bipush 9, 2) := by decide +kernel
theorem dL_areLoaves_9 : decode cL_areLoaves 9 = .ok (.invokestatic 91, 3) := by decide +kernel
theorem dL_areLoaves_12 : decode cL_areLoaves 12 = .ok (.isub, 1) := by decide +kernel
theorem dL_areLoaves_13 : decode cL_areLoaves 13 = .ok (.istore_n 1, 1) := by decide +kernel
theorem dL_areLoaves_14 : decode cL_areLoaves 14 = .ok (.iconst 0, 1) := by decide +kernel
theorem dL_areLoaves_15 : decode cL_areLoaves 15 = .ok (.istore_n 2, 1) := by decide +kernel
theorem dL_areLoaves_16 : decode cL_areLoaves 16 = .ok (.iconst 0, 1) := by decide +kernel
theorem dL_areLoaves_17 : decode cL_areLoaves 17 = .ok (.istore_n 3, 1) := by decide +kernel
theorem dL_areLoaves_18 : decode cL_areLoaves 18 = .ok (.iconst 0, 1) := by decide +kernel
theorem dL_areLoaves_19 : decode cL_areLoaves 19 = .ok (.istore 4, 2) := by decide +kernel
theorem dL_areLoaves_21 : decode cL_areLoaves 21 = .ok (.aload_n 0, 1) := by decide +kernel
theorem dL_areLoaves_22 : decode cL_areLoaves 22 = .ok (.bipush 9, 2) := by decide +kernel
theorem dL_areLoaves_24 : decode cL_areLoaves 24 = .ok (.invokestatic 91, 3) := by decide +kernel
theorem dL_areLoaves_27 : decode cL_areLoaves 27 = .ok (.sipush 200, 3) := by decide +kernel
theorem dL_areLoaves_30 : decode cL_areLoaves 30 = .ok (.if_icmp .gt 57, 3) := by decide +kernel
theorem dL_areLoaves_33 : decode cL_areLoaves 33 = .ok (.iload_n 1, 1) := by decide +kernel
theorem dL_areLoaves_34 : decode cL_areLoaves 34 = .ok (.ifCond .lt 53, 3) := by decide +kernel
theorem dL_areLoaves_37 : decode cL_areLoaves 37 = .ok (.aload_n 0, 1) := by decide +kernel
theorem dL_areLoaves_38 : decode cL_areLoaves 38 = .ok (.bipush 8, 2) := by decide +kernel
theorem dL_areLoaves_40 : decode cL_areLoaves 40 = .ok (.invokestatic 91, 3) := by decide +kernel
theorem dL_areLoaves_43 : decode cL_areLoaves 43 = .ok (.aload_n 0, 1) := by decide +kernel
theorem dL_areLoaves_44 : decode cL_areLoaves 44 = .ok (.bipush 7, 2) := by decide +kernel
theorem dL_areLoaves_46 : decode cL_areLoaves 46 = .ok (.invokestatic 91, 3) := by decide +kernel
theorem dL_areLoaves_49 : decode cL_areLoaves 49 = .ok (.if_icmp .gt 38, 3) := by decide +kernel
theorem dL_areLoaves_52 : decode cL_areLoaves 52 = .ok (.aload_n 0, 1) := by decide +kernel
theorem dL_areLoaves_53 : decode cL_areLoaves 53 = .ok (.bipush 7, 2) := by decide +kernel
theorem dL_areLoaves_55 : decode cL_areLoaves 55 = .ok (.invokestatic 91, 3) := by decide +kernel
theorem dL_areLoaves_58 : decode cL_areLoaves 58 = .ok (.aload_n 0, 1) := by decide +kernel
theorem dL_areLoaves_59 : decode cL_areLoaves 59 = .ok (.iconst 5, 1) := by decide +kernel
theorem dL_areLoaves_60 : decode cL_areLoaves 60 = .ok (.invokestatic 91, 3) := by decide +kernel
theorem dL_areLoaves_63 : decode cL_areLoaves 63 = .ok (.if_icmp .ne 24, 3) := by decide +kernel
theorem dL_areLoaves_66 : decode cL_areLoaves 66 = .ok (.iload_n 1, 1) := by decide +kernel
theorem dL_areLoaves_67 : decode cL_areLoaves 67 = .ok (.ifCond .eq 16, 3) := by decide +kernel
theorem dL_areLoaves_70 : decode cL_areLoaves 70 = .ok (.aload_n 0, 1) := by decide +kernel
theorem dL_areLoaves_71 : decode cL_areLoaves 71 = .ok (.iload_n 1, 1) := by decide +kernel
theorem dL_areLoaves_72 : decode cL_areLoaves 72 = .ok (.iconst 1, 1) := by decide +kernel
theorem dL_areLoaves_73 : decode cL_areLoaves 73 = .ok (.isub, 1) := by decide +kernel
theorem dL_areLoaves_74 : decode cL_areLoaves 74 = .ok (.iconst 0, 1) := by decide +kernel
theorem dL_areLoaves_75 : decode cL_areLoaves 75 = .ok (.invokestatic 103, 3) := by decide +kernel
theorem dL_areLoaves_78 : decode cL_areLoaves 78 = .ok (.ldc 27, 2) := by decide +kernel
theorem dL_areLoaves_80 : decode cL_areLoaves 80 = .ok (.if_icmp .ne 7, 3) := by decide +kernel
theorem dL_areLoaves_83 : decode cL_areLoaves 83 = .ok (.iconst 1, 1) := by decide +kernel
theorem dL_areLoaves_84 : decode cL_areLoaves 84 = .ok (.goto 4, 3) := by decide +kernel
theorem dL_areLoaves_87 : decode cL_areLoaves 87 = .ok (.iconst 0, 1) := by decide +kernel
theorem dL_areLoaves_88 : decode cL_areLoaves 88 = .ok (.istore 5, 2) := by decide +kernel
theorem dL_areLoaves_90 : decode cL_areLoaves 90 = .ok (.iload_n 1, 1) := by decide +kernel
theorem dL_areLoaves_91 : decode cL_areLoaves 91 = .ok (.istore 6, 2) := by decide +kernel
theorem dL_areLoaves_93 : decode cL_areLoaves 93 = .ok (.iload 6, 2) := by decide +kernel
theorem dL_areLoaves_95 : decode cL_areLoaves 95 = .ok (.aload_n 0, 1) := by decide +kernel
theorem dL_areLoaves_96 : decode cL_areLoaves 96 = .ok (.bipush 7, 2) := by decide +kernel
theorem dL_areLoaves_98 : decode cL_areLoaves 98 = .ok (.invokestatic 91, 3) := by decide +kernel
theorem dL_areLoaves_101 : decode cL_areLoaves 101 = .ok (.if_icmp .ge 222, 3) := by decide +kernel
theorem dL_areLoaves_104 : decode cL_areLoaves 104 = .ok (.iload 5, 2) := by decide +kernel
theorem dL_areLoaves_106 : decode cL_areLoaves 106 = .ok (.ifCond .eq 217, 3) := by decide +kernel
theorem dL_areLoaves_109 : decode cL_areLoaves 109 = .ok (.aload_n 0, 1) := by decide +kernel
theorem dL_areLoaves_110 : decode cL_areLoaves 110 = .ok (.iload 6, 2) := by decide +kernel
theorem dL_areLoaves_112 : decode cL_areLoaves 112 = .ok (.iconst 4, 1) := by decide +kernel
theorem dL_areLoaves_113 : decode cL_areLoaves 113 = .ok (.invokestatic 103, 3) := by decide +kernel
theorem dL_areLoaves_116 : decode cL_areLoaves 116 = .ok (.istore 7, 2) := by decide +kernel
theorem dL_areLoaves_118 : decode cL_areLoaves 118 = .ok (.aload_n 0, 1) := by decide +kernel
theorem dL_areLoaves_119 : decode cL_areLoaves 119 = .ok (.iload 6, 2) := by decide +kernel
theorem dL_areLoaves_121 : decode cL_areLoaves 121 = .ok (.iconst 5, 1) := by decide +kernel
theorem dL_areLoaves_122 : decode cL_areLoaves 122 = .ok (.invokestatic 103, 3) := by decide +kernel
theorem dL_areLoaves_125 : decode cL_areLoaves 125 = .ok (.istore 8, 2) := by decide +kernel
theorem dL_areLoaves_127 : decode cL_areLoaves 127 = .ok (.aload_n 0, 1) := by decide +kernel
theorem dL_areLoaves_128 : decode cL_areLoaves 128 = .ok (.iload 6, 2) := by decide +kernel
theorem dL_areLoaves_130 : decode cL_areLoaves 130 = .ok (.iconst 0, 1) := by decide +kernel
theorem dL_areLoaves_131 : decode cL_areLoaves 131 = .ok (.invokestatic 103, 3) := by decide +kernel
theorem dL_areLoaves_134 : decode cL_areLoaves 134 = .ok (.istore 9, 2) := by decide +kernel
theorem dL_areLoaves_136 : decode cL_areLoaves 136 = .ok (.iload_n 2, 1) := by decide +kernel
theorem dL_areLoaves_137 : decode cL_areLoaves 137 = .ok (.iload 8, 2) := by decide +kernel
theorem dL_areLoaves_139 : decode cL_areLoaves 139 = .ok (.bipush 8, 2) := by decide +kernel
theorem dL_areLoaves_141 : decode cL_areLoaves 141 = .ok (.if_icmp .ne 7, 3) := by decide +kernel
theorem dL_areLoaves_144 : decode cL_areLoaves 144 = .ok (.iconst 1, 1) := by decide +kernel
theorem dL_areLoaves_145 : decode cL_areLoaves 145 = .ok (.goto 4, 3) := by decide +kernel
theorem dL_areLoaves_148 : decode cL_areLoaves 148 = .ok (.iconst 0, 1) := by decide +kernel
theorem dL_areLoaves_149 : decode cL_areLoaves 149 = .ok (.iadd, 1) := by decide +kernel
theorem dL_areLoaves_150 : decode cL_areLoaves 150 = .ok (.istore_n 2, 1) := by decide +kernel
theorem dL_areLoaves_151 : decode cL_areLoaves 151 = .ok (.iload 4, 2) := by decide +kernel
theorem dL_areLoaves_153 : decode cL_areLoaves 153 = .ok (.aload_n 0, 1) := by decide +kernel
theorem dL_areLoaves_154 : decode cL_areLoaves 154 = .ok (.iload 6, 2) := by decide +kernel
theorem dL_areLoaves_156 : decode cL_areLoaves 156 = .ok (.iconst 3, 1) := by decide +kernel
theorem dL_areLoaves_157 : decode cL_areLoaves 157 = .ok (.invokestatic 103, 3) := by decide +kernel
theorem dL_areLoaves_160 : decode cL_areLoaves 160 = .ok (.iadd, 1) := by decide +kernel
theorem dL_areLoaves_161 : decode cL_areLoaves 161 = .ok (.istore 4, 2) := by decide +kernel
theorem dL_areLoaves_163 : decode cL_areLoaves 163 = .ok (.iload 9, 2) := by decide +kernel
theorem dL_areLoaves_165 : decode cL_areLoaves 165 = .ok (.ifCond .lt 141, 3) := by decide +kernel
theorem dL_areLoaves_168 : decode cL_areLoaves 168 = .ok (.iload 9, 2) := by decide +kernel
theorem dL_areLoaves_170 : decode cL_areLoaves 170 = .ok (.aload_n 0, 1) := by decide +kernel
theorem dL_areLoaves_171 : decode cL_areLoaves 171 = .ok (.iconst 0, 1) := by decide +kernel
theorem dL_areLoaves_172 : decode cL_areLoaves 172 = .ok (.invokestatic 91, 3) := by decide +kernel
theorem dL_areLoaves_175 : decode cL_areLoaves 175 = .ok (.if_icmp .ge 131, 3) := by decide +kernel
theorem dL_areLoaves_178 : decode cL_areLoaves 178 = .ok (.aload_n 0, 1) := by decide +kernel
theorem dL_areLoaves_179 : decode cL_areLoaves 179 = .ok (.iload 6, 2) := by decide +kernel
theorem dL_areLoaves_181 : decode cL_areLoaves 181 = .ok (.iconst 1, 1) := by decide +kernel
theorem dL_areLoaves_182 : decode cL_areLoaves 182 = .ok (.invokestatic 103, 3) := by decide +kernel
theorem dL_areLoaves_185 : decode cL_areLoaves 185 = .ok (.ifCond .lt 121, 3) := by decide +kernel
theorem dL_areLoaves_188 : decode cL_areLoaves 188 = .ok (.aload_n 0, 1) := by decide +kernel
theorem dL_areLoaves_189 : decode cL_areLoaves 189 = .ok (.iload 6, 2) := by decide +kernel
theorem dL_areLoaves_191 : decode cL_areLoaves 191 = .ok (.iconst 1, 1) := by decide +kernel
theorem dL_areLoaves_192 : decode cL_areLoaves 192 = .ok (.invokestatic 103, 3) := by decide +kernel
theorem dL_areLoaves_195 : decode cL_areLoaves 195 = .ok (.iconst 3, 1) := by decide +kernel
theorem dL_areLoaves_196 : decode cL_areLoaves 196 = .ok (.if_icmp .ge 110, 3) := by decide +kernel
theorem dL_areLoaves_199 : decode cL_areLoaves 199 = .ok (.aload_n 0, 1) := by decide +kernel
theorem dL_areLoaves_200 : decode cL_areLoaves 200 = .ok (.iload 6, 2) := by decide +kernel
theorem dL_areLoaves_202 : decode cL_areLoaves 202 = .ok (.iconst 2, 1) := by decide +kernel
theorem dL_areLoaves_203 : decode cL_areLoaves 203 = .ok (.invokestatic 103, 3) := by decide +kernel
theorem dL_areLoaves_206 : decode cL_areLoaves 206 = .ok (.iload_n 3, 1) := by decide +kernel
theorem dL_areLoaves_207 : decode cL_areLoaves 207 = .ok (.if_icmp .lt 99, 3) := by decide +kernel
theorem dL_areLoaves_210 : decode cL_areLoaves 210 = .ok (.aload_n 0, 1) := by decide +kernel
theorem dL_areLoaves_211 : decode cL_areLoaves 211 = .ok (.iload 6, 2) := by decide +kernel
theorem dL_areLoaves_213 : decode cL_areLoaves 213 = .ok (.iconst 2, 1) := by decide +kernel
theorem dL_areLoaves_214 : decode cL_areLoaves 214 = .ok (.invokestatic 103, 3) := by decide +kernel
theorem dL_areLoaves_217 : decode cL_areLoaves 217 = .ok (.aload_n 0, 1) := by decide +kernel
theorem dL_areLoaves_218 : decode cL_areLoaves 218 = .ok (.iconst 1, 1) := by decide +kernel
theorem dL_areLoaves_219 : decode cL_areLoaves 219 = .ok (.invokestatic 91, 3) := by decide +kernel
theorem dL_areLoaves_222 : decode cL_areLoaves 222 = .ok (.if_icmp .ge 84, 3) := by decide +kernel
theorem dL_areLoaves_225 : decode cL_areLoaves 225 = .ok (.iload 7, 2) := by decide +kernel
theorem dL_areLoaves_227 : decode cL_areLoaves 227 = .ok (.ifCond .lt 79, 3) := by decide +kernel
theorem dL_areLoaves_230 : decode cL_areLoaves 230 = .ok (.iload 7, 2) := by decide +kernel
theorem dL_areLoaves_232 : decode cL_areLoaves 232 = .ok (.ldc 145, 2) := by decide +kernel
theorem dL_areLoaves_234 : decode cL_areLoaves 234 = .ok (.if_icmp .ge 72, 3) := by decide +kernel
theorem dL_areLoaves_237 : decode cL_areLoaves 237 = .ok (.aload_n 0, 1) := by decide +kernel
theorem dL_areLoaves_238 : decode cL_areLoaves 238 = .ok (.iload 6, 2) := by decide +kernel
theorem dL_areLoaves_240 : decode cL_areLoaves 240 = .ok (.bipush 6, 2) := by decide +kernel
theorem dL_areLoaves_242 : decode cL_areLoaves 242 = .ok (.invokestatic 103, 3) := by decide +kernel
theorem dL_areLoaves_245 : decode cL_areLoaves 245 = .ok (.ifCond .lt 61, 3) := by decide +kernel
theorem dL_areLoaves_248 : decode cL_areLoaves 248 = .ok (.aload_n 0, 1) := by decide +kernel
theorem dL_areLoaves_249 : decode cL_areLoaves 249 = .ok (.iload 6, 2) := by decide +kernel
theorem dL_areLoaves_251 : decode cL_areLoaves 251 = .ok (.bipush 6, 2) := by decide +kernel
theorem dL_areLoaves_253 : decode cL_areLoaves 253 = .ok (.invokestatic 103, 3) := by decide +kernel
theorem dL_areLoaves_256 : decode cL_areLoaves 256 = .ok (.iconst 3, 1) := by decide +kernel
theorem dL_areLoaves_257 : decode cL_areLoaves 257 = .ok (.if_icmp .gt 49, 3) := by decide +kernel
theorem dL_areLoaves_260 : decode cL_areLoaves 260 = .ok (.iload 7, 2) := by decide +kernel
theorem dL_areLoaves_262 : decode cL_areLoaves 262 = .ok (.invokestatic 149, 3) := by decide +kernel
theorem dL_areLoaves_265 : decode cL_areLoaves 265 = .ok (.aload_n 0, 1) := by decide +kernel
theorem dL_areLoaves_266 : decode cL_areLoaves 266 = .ok (.iload 6, 2) := by decide +kernel
theorem dL_areLoaves_268 : decode cL_areLoaves 268 = .ok (.bipush 6, 2) := by decide +kernel
theorem dL_areLoaves_270 : decode cL_areLoaves 270 = .ok (.invokestatic 103, 3) := by decide +kernel
theorem dL_areLoaves_273 : decode cL_areLoaves 273 = .ok (.iadd, 1) := by decide +kernel
theorem dL_areLoaves_274 : decode cL_areLoaves 274 = .ok (.bipush 16, 2) := by decide +kernel
theorem dL_areLoaves_276 : decode cL_areLoaves 276 = .ok (.if_icmp .gt 30, 3) := by decide +kernel
theorem dL_areLoaves_279 : decode cL_areLoaves 279 = .ok (.iload 8, 2) := by decide +kernel
theorem dL_areLoaves_281 : decode cL_areLoaves 281 = .ok (.iconst (-1), 1) := by decide +kernel
theorem dL_areLoaves_282 : decode cL_areLoaves 282 = .ok (.if_icmp .lt 13, 3) := by decide +kernel
theorem dL_areLoaves_285 : decode cL_areLoaves 285 = .ok (.iload 8, 2) := by decide +kernel
theorem dL_areLoaves_287 : decode cL_areLoaves 287 = .ok (.aload_n 0, 1) := by decide +kernel
theorem dL_areLoaves_288 : decode cL_areLoaves 288 = .ok (.iconst 0, 1) := by decide +kernel
theorem dL_areLoaves_289 : decode cL_areLoaves 289 = .ok (.invokestatic 91, 3) := by decide +kernel
theorem dL_areLoaves_292 : decode cL_areLoaves 292 = .ok (.if_icmp .lt 10, 3) := by decide +kernel
theorem dL_areLoaves_295 : decode cL_areLoaves 295 = .ok (.iload 8, 2) := by decide +kernel
theorem dL_areLoaves_297 : decode cL_areLoaves 297 = .ok (.bipush 8, 2) := by decide +kernel
theorem dL_areLoaves_299 : decode cL_areLoaves 299 = .ok (.if_icmp .ne 7, 3) := by decide +kernel
theorem dL_areLoaves_302 : decode cL_areLoaves 302 = .ok (.iconst 1, 1) := by decide +kernel
theorem dL_areLoaves_303 : decode cL_areLoaves 303 = .ok (.goto 4, 3) := by decide +kernel
theorem dL_areLoaves_306 : decode cL_areLoaves 306 = .ok (.iconst 0, 1) := by decide +kernel
theorem dL_areLoaves_307 : decode cL_areLoaves 307 = .ok (.istore 5, 2) := by decide +kernel
theorem dL_areLoaves_309 : decode cL_areLoaves 309 = .ok (.aload_n 0, 1) := by decide +kernel
theorem dL_areLoaves_310 : decode cL_areLoaves 310 = .ok (.iload 6, 2) := by decide +kernel
theorem dL_areLoaves_312 : decode cL_areLoaves 312 = .ok (.iconst 2, 1) := by decide +kernel
theorem dL_areLoaves_313 : decode cL_areLoaves 313 = .ok (.invokestatic 103, 3) := by decide +kernel
theorem dL_areLoaves_316 : decode cL_areLoaves 316 = .ok (.istore_n 3, 1) := by decide +kernel
theorem dL_areLoaves_317 : decode cL_areLoaves 317 = .ok (.iinc 6 1, 3) := by decide +kernel
theorem dL_areLoaves_320 : decode cL_areLoaves 320 = .ok (.goto (-227), 3) := by decide +kernel
theorem dL_areLoaves_323 : decode cL_areLoaves 323 = .ok (.iload 5, 2) := by decide +kernel
theorem dL_areLoaves_325 : decode cL_areLoaves 325 = .ok (.ifCond .eq 28, 3) := by decide +kernel
theorem dL_areLoaves_328 : decode cL_areLoaves 328 = .ok (.iload_n 2, 1) := by decide +kernel
theorem dL_areLoaves_329 : decode cL_areLoaves 329 = .ok (.aload_n 0, 1) := by decide +kernel
theorem dL_areLoaves_330 : decode cL_areLoaves 330 = .ok (.bipush 10, 2) := by decide +kernel
theorem dL_areLoaves_332 : decode cL_areLoaves 332 = .ok (.invokestatic 91, 3) := by decide +kernel
theorem dL_areLoaves_335 : decode cL_areLoaves 335 = .ok (.if_icmp .ne 18, 3) := by decide +kernel
theorem dL_areLoaves_338 : decode cL_areLoaves 338 = .ok (.iload 4, 2) := by decide +kernel
theorem dL_areLoaves_340 : decode cL_areLoaves 340 = .ok (.aload_n 0, 1) := by decide +kernel
theorem dL_areLoaves_341 : decode cL_areLoaves 341 = .ok (.bipush 8, 2) := by decide +kernel
theorem dL_areLoaves_343 : decode cL_areLoaves 343 = .ok (.invokestatic 91, 3) := by decide +kernel
theorem dL_areLoaves_346 : decode cL_areLoaves 346 = .ok (.if_icmp .gt 7, 3) := by decide +kernel
theorem dL_areLoaves_349 : decode cL_areLoaves 349 = .ok (.iconst 1, 1) := by decide +kernel
theorem dL_areLoaves_350 : decode cL_areLoaves 350 = .ok (.goto 4, 3) := by decide +kernel
theorem dL_areLoaves_353 : decode cL_areLoaves 353 = .ok (.iconst 0, 1) := by decide +kernel
theorem dL_areLoaves_354 : decode cL_areLoaves 354 = .ok (.ireturn, 1) := by decide +kernel
theorem dL_areLoads_0 : decode cL_areLoads 0 = .ok (.sipush 401, 3) := by decide +kernel
theorem dL_areLoads_3 : decode cL_areLoads 3 = .ok (.istore_n 1, 1) := by decide +kernel
theorem dL_areLoads_4 : decode cL_areLoads 4 = .ok (.iconst 0, 1) := by decide +kernel
theorem dL_areLoads_5 : decode cL_areLoads 5 = .ok (.istore_n 2, 1) := by decide +kernel
theorem dL_areLoads_6 : decode cL_areLoads 6 = .ok (.aload_n 0, 1) := by decide +kernel
theorem dL_areLoads_7 : decode cL_areLoads 7 = .ok (.iconst 2, 1) := by decide +kernel
theorem dL_areLoads_8 : decode cL_areLoads 8 = .ok (.invokestatic 91, 3) := by decide +kernel
theorem dL_areLoads_11 : decode cL_areLoads 11 = .ok (.bipush 20, 2) := by decide +kernel
theorem dL_areLoads_13 : decode cL_areLoads 13 = .ok (.if_icmp .lt 18, 3) := by decide +kernel
theorem dL_areLoads_16 : decode cL_areLoads 16 = .ok (.aload_n 0, 1) := by decide +kernel
theorem dL_areLoads_17 : decode cL_areLoads 17 = .ok (.iconst 2, 1) := by decide +kernel
theorem dL_areLoads_18 : decode cL_areLoads 18 = .ok (.invokestatic 91, 3) := by decide +kernel
theorem dL_areLoads_21 : decode cL_areLoads 21 = .ok (.sipush 400, 3) := by decide +kernel
theorem dL_areLoads_24 : decode cL_areLoads 24 = .ok (.if_icmp .gt 7, 3) := by decide +kernel
theorem dL_areLoads_27 : decode cL_areLoads 27 = .ok (.iconst 1, 1) := by decide +kernel
theorem dL_areLoads_28 : decode cL_areLoads 28 = .ok (.goto 4, 3) := by decide +kernel
theorem dL_areLoads_31 : decode cL_areLoads 31 = .ok (.iconst 0, 1) := by decide +kernel
theorem dL_areLoads_32 : decode cL_areLoads 32 = .ok (.istore_n 3, 1) := by decide +kernel
theorem dL_areLoads_33 : decode cL_areLoads 33 = .ok (.iconst 0, 1) := by decide +kernel
theorem dL_areLoads_34 : decode cL_areLoads 34 = .ok (.istore 4, 2) := by decide +kernel
theorem dL_areLoads_36 : decode cL_areLoads 36 = .ok (.iload 4, 2) := by decide +kernel
theorem dL_areLoads_38 : decode cL_areLoads 38 = .ok (.aload_n 0, 1) := by decide +kernel
theorem dL_areLoads_39 : decode cL_areLoads 39 = .ok (.bipush 12, 2) := by decide +kernel
theorem dL_areLoads_41 : decode cL_areLoads 41 = .ok (.invokestatic 91, 3) := by decide +kernel
theorem dL_areLoads_44 : decode cL_areLoads 44 = .ok (.if_icmp .ge 226, 3) := by decide +kernel
theorem dL_areLoads_47 : decode cL_areLoads 47 = .ok (.iload_n 3, 1) := by decide +kernel
theorem dL_areLoads_48 : decode cL_areLoads 48 = .ok (.ifCond .eq 222, 3) := by decide +kernel
theorem dL_areLoads_51 : decode cL_areLoads 51 = .ok (.aload_n 0, 1) := by decide +kernel
theorem dL_areLoads_52 : decode cL_areLoads 52 = .ok (.iload 4, 2) := by decide +kernel
theorem dL_areLoads_54 : decode cL_areLoads 54 = .ok (.iconst 0, 1) := by decide +kernel
theorem dL_areLoads_55 : decode cL_areLoads 55 = .ok (.invokestatic 101, 3) := by decide +kernel
theorem dL_areLoads_58 : decode cL_areLoads 58 = .ok (.istore 5, 2) := by decide +kernel
theorem dL_areLoads_60 : decode cL_areLoads 60 = .ok (.aload_n 0, 1) := by decide +kernel
theorem dL_areLoads_61 : decode cL_areLoads 61 = .ok (.iload 4, 2) := by decide +kernel
theorem dL_areLoads_63 : decode cL_areLoads 63 = .ok (.iconst 2, 1) := by decide +kernel
theorem dL_areLoads_64 : decode cL_areLoads 64 = .ok (.invokestatic 101, 3) := by decide +kernel
theorem dL_areLoads_67 : decode cL_areLoads 67 = .ok (.istore 6, 2) := by decide +kernel
theorem dL_areLoads_69 : decode cL_areLoads 69 = .ok (.aload_n 0, 1) := by decide +kernel
theorem dL_areLoads_70 : decode cL_areLoads 70 = .ok (.iload 4, 2) := by decide +kernel
theorem dL_areLoads_72 : decode cL_areLoads 72 = .ok (.iconst 3, 1) := by decide +kernel
theorem dL_areLoads_73 : decode cL_areLoads 73 = .ok (.invokestatic 101, 3) := by decide +kernel
theorem dL_areLoads_76 : decode cL_areLoads 76 = .ok (.istore 7, 2) := by decide +kernel
theorem dL_areLoads_78 : decode cL_areLoads 78 = .ok (.aload_n 0, 1) := by decide +kernel
theorem dL_areLoads_79 : decode cL_areLoads 79 = .ok (.iload 4, 2) := by decide +kernel
theorem dL_areLoads_81 : decode cL_areLoads 81 = .ok (.iconst 4, 1) := by decide +kernel
theorem dL_areLoads_82 : decode cL_areLoads 82 = .ok (.invokestatic 101, 3) := by decide +kernel
theorem dL_areLoads_85 : decode cL_areLoads 85 = .ok (.istore 8, 2) := by decide +kernel
theorem dL_areLoads_87 : decode cL_areLoads 87 = .ok (.iload 5, 2) := by decide +kernel
theorem dL_areLoads_89 : decode cL_areLoads 89 = .ok (.ifCond .ne 9, 3) := by decide +kernel
theorem dL_areLoads_92 : decode cL_areLoads 92 = .ok (.sipush 260, 3) := by decide +kernel
theorem dL_areLoads_95 : decode cL_areLoads 95 = .ok (.goto 17, 3) := by decide +kernel
theorem dL_areLoads_98 : decode cL_areLoads 98 = .ok (.iload 5, 2) := by decide +kernel
theorem dL_areLoads_100 : decode cL_areLoads 100 = .ok (.iconst 1, 1) := by decide +kernel
theorem dL_areLoads_101 : decode cL_areLoads 101 = .ok (.if_icmp .ne 9, 3) := by decide +kernel
theorem dL_areLoads_104 : decode cL_areLoads 104 = .ok (.sipush 180, 3) := by decide +kernel
theorem dL_areLoads_107 : decode cL_areLoads 107 = .ok (.goto 5, 3) := by decide +kernel
theorem dL_areLoads_110 : decode cL_areLoads 110 = .ok (.bipush 90, 2) := by decide +kernel
theorem dL_areLoads_112 : decode cL_areLoads 112 = .ok (.istore 9, 2) := by decide +kernel
theorem dL_areLoads_114 : decode cL_areLoads 114 = .ok (.iload 5, 2) := by decide +kernel
theorem dL_areLoads_116 : decode cL_areLoads 116 = .ok (.ifCond .ne 9, 3) := by decide +kernel
theorem dL_areLoads_119 : decode cL_areLoads 119 = .ok (.sipush 400, 3) := by decide +kernel
theorem dL_areLoads_122 : decode cL_areLoads 122 = .ok (.goto 18, 3) := by decide +kernel
theorem dL_areLoads_125 : decode cL_areLoads 125 = .ok (.iload 5, 2) := by decide +kernel
theorem dL_areLoads_127 : decode cL_areLoads 127 = .ok (.iconst 1, 1) := by decide +kernel
theorem dL_areLoads_128 : decode cL_areLoads 128 = .ok (.if_icmp .ne 9, 3) := by decide +kernel
theorem dL_areLoads_131 : decode cL_areLoads 131 = .ok (.sipush 300, 3) := by decide +kernel
theorem dL_areLoads_134 : decode cL_areLoads 134 = .ok (.goto 6, 3) := by decide +kernel
theorem dL_areLoads_137 : decode cL_areLoads 137 = .ok (.sipush 200, 3) := by decide +kernel
theorem dL_areLoads_140 : decode cL_areLoads 140 = .ok (.istore 10, 2) := by decide +kernel
theorem dL_areLoads_142 : decode cL_areLoads 142 = .ok (.iload 7, 2) := by decide +kernel
theorem dL_areLoads_144 : decode cL_areLoads 144 = .ok (.iload 5, 2) := by decide +kernel
theorem dL_areLoads_146 : decode cL_areLoads 146 = .ok (.ifCond .ne 7, 3) := by decide +kernel
theorem dL_areLoads_149 : decode cL_areLoads 149 = .ok (.iconst 2, 1) := by decide +kernel
theorem dL_areLoads_150 : decode cL_areLoads 150 = .ok (.goto 15, 3) := by decide +kernel
theorem dL_areLoads_153 : decode cL_areLoads 153 = .ok (.iload 5, 2) := by decide +kernel
theorem dL_areLoads_155 : decode cL_areLoads 155 = .ok (.iconst 1, 1) := by decide +kernel
theorem dL_areLoads_156 : decode cL_areLoads 156 = .ok (.if_icmp .ne 7, 3) := by decide +kernel
theorem dL_areLoads_159 : decode cL_areLoads 159 = .ok (.iconst 5, 1) := by decide +kernel
theorem dL_areLoads_160 : decode cL_areLoads 160 = .ok (.goto 5, 3) := by decide +kernel
theorem dL_areLoads_163 : decode cL_areLoads 163 = .ok (.bipush 8, 2) := by decide +kernel
theorem dL_areLoads_165 : decode cL_areLoads 165 = .ok (.iconst 5, 1) := by decide +kernel
theorem dL_areLoads_166 : decode cL_areLoads 166 = .ok (.iload 6, 2) := by decide +kernel
theorem dL_areLoads_168 : decode cL_areLoads 168 = .ok (.bipush 8, 2) := by decide +kernel
theorem dL_areLoads_170 : decode cL_areLoads 170 = .ok (.idiv, 1) := by decide +kernel
theorem dL_areLoads_171 : decode cL_areLoads 171 = .ok (.iadd, 1) := by decide +kernel
theorem dL_areLoads_172 : decode cL_areLoads 172 = .ok (.imul, 1) := by decide +kernel
theorem dL_areLoads_173 : decode cL_areLoads 173 = .ok (.isub, 1) := by decide +kernel
theorem dL_areLoads_174 : decode cL_areLoads 174 = .ok (.istore 11, 2) := by decide +kernel
theorem dL_areLoads_176 : decode cL_areLoads 176 = .ok (.iload 7, 2) := by decide +kernel
theorem dL_areLoads_178 : decode cL_areLoads 178 = .ok (.iload 9, 2) := by decide +kernel
theorem dL_areLoads_180 : decode cL_areLoads 180 = .ok (.if_icmp .lt 74, 3) := by decide +kernel
theorem dL_areLoads_183 : decode cL_areLoads 183 = .ok (.iload 7, 2) := by decide +kernel
theorem dL_areLoads_185 : decode cL_areLoads 185 = .ok (.iload 10, 2) := by decide +kernel
theorem dL_areLoads_187 : decode cL_areLoads 187 = .ok (.if_icmp .gt 67, 3) := by decide +kernel
theorem dL_areLoads_190 : decode cL_areLoads 190 = .ok (.iload 7, 2) := by decide +kernel
theorem dL_areLoads_192 : decode cL_areLoads 192 = .ok (.iload_n 1, 1) := by decide +kernel
theorem dL_areLoads_193 : decode cL_areLoads 193 = .ok (.if_icmp .gt 61, 3) := by decide +kernel
theorem dL_areLoads_196 : decode cL_areLoads 196 = .ok (.iload 6, 2) := by decide +kernel
theorem dL_areLoads_198 : decode cL_areLoads 198 = .ok (.ifCond .le 56, 3) := by decide +kernel
theorem dL_areLoads_201 : decode cL_areLoads 201 = .ok (.iload 6, 2) := by decide +kernel
theorem dL_areLoads_203 : decode cL_areLoads 203 = .ok (.bipush 24, 2) := by decide +kernel
theorem dL_areLoads_205 : decode cL_areLoads 205 = .ok (.if_icmp .gt 49, 3) := by decide +kernel
theorem dL_areLoads_208 : decode cL_areLoads 208 = .ok (.aload_n 0, 1) := by decide +kernel
theorem dL_areLoads_209 : decode cL_areLoads 209 = .ok (.iload 4, 2) := by decide +kernel
theorem dL_areLoads_211 : decode cL_areLoads 211 = .ok (.iconst 1, 1) := by decide +kernel
theorem dL_areLoads_212 : decode cL_areLoads 212 = .ok (.invokestatic 101, 3) := by decide +kernel
theorem dL_areLoads_215 : decode cL_areLoads 215 = .ok (.iconst 1, 1) := by decide +kernel
theorem dL_areLoads_216 : decode cL_areLoads 216 = .ok (.if_icmp .lt 38, 3) := by decide +kernel
theorem dL_areLoads_219 : decode cL_areLoads 219 = .ok (.aload_n 0, 1) := by decide +kernel
theorem dL_areLoads_220 : decode cL_areLoads 220 = .ok (.iload 4, 2) := by decide +kernel
theorem dL_areLoads_222 : decode cL_areLoads 222 = .ok (.iconst 1, 1) := by decide +kernel
theorem dL_areLoads_223 : decode cL_areLoads 223 = .ok (.invokestatic 101, 3) := by decide +kernel
theorem dL_areLoads_226 : decode cL_areLoads 226 = .ok (.iload 6, 2) := by decide +kernel
theorem dL_areLoads_228 : decode cL_areLoads 228 = .ok (.if_icmp .gt 26, 3) := by decide +kernel
theorem dL_areLoads_231 : decode cL_areLoads 231 = .ok (.iload 8, 2) := by decide +kernel
theorem dL_areLoads_233 : decode cL_areLoads 233 = .ok (.iload 11, 2) := by decide +kernel
theorem dL_areLoads_235 : decode cL_areLoads 235 = .ok (.bipush 20, 2) := by decide +kernel
theorem dL_areLoads_237 : decode cL_areLoads 237 = .ok (.if_icmp .ge 8, 3) := by decide +kernel
theorem dL_areLoads_240 : decode cL_areLoads 240 = .ok (.bipush 20, 2) := by decide +kernel
theorem dL_areLoads_242 : decode cL_areLoads 242 = .ok (.goto 5, 3) := by decide +kernel
theorem dL_areLoads_245 : decode cL_areLoads 245 = .ok (.iload 11, 2) := by decide +kernel
theorem dL_areLoads_247 : decode cL_areLoads 247 = .ok (.if_icmp .ne 7, 3) := by decide +kernel
theorem dL_areLoads_250 : decode cL_areLoads 250 = .ok (.iconst 1, 1) := by decide +kernel
theorem dL_areLoads_251 : decode cL_areLoads 251 = .ok (.goto 4, 3) := by decide +kernel
theorem dL_areLoads_254 : decode cL_areLoads 254 = .ok (.iconst 0, 1) := by decide +kernel
theorem dL_areLoads_255 : decode cL_areLoads 255 = .ok (.istore_n 3, 1) := by decide +kernel
theorem dL_areLoads_256 : decode cL_areLoads 256 = .ok (.iload 8, 2) := by decide +kernel
theorem dL_areLoads_258 : decode cL_areLoads 258 = .ok (.istore_n 1, 1) := by decide +kernel
theorem dL_areLoads_259 : decode cL_areLoads 259 = .ok (.iload_n 2, 1) := by decide +kernel
theorem dL_areLoads_260 : decode cL_areLoads 260 = .ok (.iload 6, 2) := by decide +kernel
theorem dL_areLoads_262 : decode cL_areLoads 262 = .ok (.iadd, 1) := by decide +kernel
theorem dL_areLoads_263 : decode cL_areLoads 263 = .ok (.istore_n 2, 1) := by decide +kernel
theorem dL_areLoads_264 : decode cL_areLoads 264 = .ok (.iinc 4 1, 3) := by decide +kernel
theorem dL_areLoads_267 : decode cL_areLoads 267 = .ok (.goto (-231), 3) := by decide +kernel
theorem dL_areLoads_270 : decode cL_areLoads 270 = .ok (.iconst 0, 1) := by decide +kernel
theorem dL_areLoads_271 : decode cL_areLoads 271 = .ok (.istore 4, 2) := by decide +kernel
theorem dL_areLoads_273 : decode cL_areLoads 273 = .ok (.iconst 0, 1) := by decide +kernel
theorem dL_areLoads_274 : decode cL_areLoads 274 = .ok (.istore 5, 2) := by decide +kernel
theorem dL_areLoads_276 : decode cL_areLoads 276 = .ok (.iload 5, 2) := by decide +kernel
theorem dL_areLoads_278 : decode cL_areLoads 278 = .ok (.aload_n 0, 1) := by decide +kernel
theorem dL_areLoads_279 : decode cL_areLoads 279 = .ok (.iconst 3, 1) := by decide +kernel
theorem dL_areLoads_280 : decode cL_areLoads 280 = .ok (.invokestatic 91, 3) := by decide +kernel
theorem dL_areLoads_283 : decode cL_areLoads 283 = .ok (.if_icmp .ge 81, 3) := by decide +kernel
theorem dL_areLoads_286 : decode cL_areLoads 286 = .ok (.iload_n 3, 1) := by decide +kernel
theorem dL_areLoads_287 : decode cL_areLoads 287 = .ok (.ifCond .eq 77, 3) := by decide +kernel
theorem dL_areLoads_290 : decode cL_areLoads 290 = .ok (.iload 4, 2) := by decide +kernel
theorem dL_areLoads_292 : decode cL_areLoads 292 = .ok (.iconst 1, 1) := by decide +kernel
theorem dL_areLoads_293 : decode cL_areLoads 293 = .ok (.aload_n 0, 1) := by decide +kernel
theorem dL_areLoads_294 : decode cL_areLoads 294 = .ok (.iload 5, 2) := by decide +kernel
theorem dL_areLoads_296 : decode cL_areLoads 296 = .ok (.iconst 3, 1) := by decide +kernel
theorem dL_areLoads_297 : decode cL_areLoads 297 = .ok (.invokestatic 99, 3) := by decide +kernel
theorem dL_areLoads_300 : decode cL_areLoads 300 = .ok (.ishl, 1) := by decide +kernel
theorem dL_areLoads_301 : decode cL_areLoads 301 = .ok (.ior, 1) := by decide +kernel
theorem dL_areLoads_302 : decode cL_areLoads 302 = .ok (.istore 4, 2) := by decide +kernel
theorem dL_areLoads_304 : decode cL_areLoads 304 = .ok (.aload_n 0, 1) := by decide +kernel
theorem dL_areLoads_305 : decode cL_areLoads 305 = .ok (.iload 5, 2) := by decide +kernel
theorem dL_areLoads_307 : decode cL_areLoads 307 = .ok (.iconst 0, 1) := by decide +kernel
theorem dL_areLoads_308 : decode cL_areLoads 308 = .ok (.invokestatic 99, 3) := by decide +kernel
theorem dL_areLoads_311 : decode cL_areLoads 311 = .ok (.aload_n 0, 1) := by decide +kernel
theorem dL_areLoads_312 : decode cL_areLoads 312 = .ok (.iconst 0, 1) := by decide +kernel
theorem dL_areLoads_313 : decode cL_areLoads 313 = .ok (.invokestatic 91, 3) := by decide +kernel
theorem dL_areLoads_316 : decode cL_areLoads 316 = .ok (.if_icmp .ge 40, 3) := by decide +kernel
theorem dL_areLoads_319 : decode cL_areLoads 319 = .ok (.aload_n 0, 1) := by decide +kernel
theorem dL_areLoads_320 : decode cL_areLoads 320 = .ok (.iload 5, 2) := by decide +kernel
theorem dL_areLoads_322 : decode cL_areLoads 322 = .ok (.iconst 1, 1) := by decide +kernel
theorem dL_areLoads_323 : decode cL_areLoads 323 = .ok (.invokestatic 99, 3) := by decide +kernel
theorem dL_areLoads_326 : decode cL_areLoads 326 = .ok (.iconst 3, 1) := by decide +kernel
theorem dL_areLoads_327 : decode cL_areLoads 327 = .ok (.if_icmp .ge 29, 3) := by decide +kernel
theorem dL_areLoads_330 : decode cL_areLoads 330 = .ok (.aload_n 0, 1) := by decide +kernel
theorem dL_areLoads_331 : decode cL_areLoads 331 = .ok (.iload 5, 2) := by decide +kernel
theorem dL_areLoads_333 : decode cL_areLoads 333 = .ok (.iconst 2, 1) := by decide +kernel
theorem dL_areLoads_334 : decode cL_areLoads 334 = .ok (.invokestatic 99, 3) := by decide +kernel
theorem dL_areLoads_337 : decode cL_areLoads 337 = .ok (.ifCond .le 19, 3) := by decide +kernel
theorem dL_areLoads_340 : decode cL_areLoads 340 = .ok (.aload_n 0, 1) := by decide +kernel
theorem dL_areLoads_341 : decode cL_areLoads 341 = .ok (.iload 5, 2) := by decide +kernel
theorem dL_areLoads_343 : decode cL_areLoads 343 = .ok (.iconst 2, 1) := by decide +kernel
theorem dL_areLoads_344 : decode cL_areLoads 344 = .ok (.invokestatic 99, 3) := by decide +kernel
theorem dL_areLoads_347 : decode cL_areLoads 347 = .ok (.bipush 13, 2) := by decide +kernel
theorem dL_areLoads_349 : decode cL_areLoads 349 = .ok (.if_icmp .ge 7, 3) := by decide +kernel
theorem dL_areLoads_352 : decode cL_areLoads 352 = .ok (.iconst 1, 1) := by decide +kernel
theorem dL_areLoads_353 : decode cL_areLoads 353 = .ok (.goto 4, 3) := by decide +kernel
theorem dL_areLoads_356 : decode cL_areLoads 356 = .ok (.iconst 0, 1) := by decide +kernel
theorem dL_areLoads_357 : decode cL_areLoads 357 = .ok (.istore_n 3, 1) := by decide +kernel
theorem dL_areLoads_358 : decode cL_areLoads 358 = .ok (.iinc 5 1, 3) := by decide +kernel
theorem dL_areLoads_361 : decode cL_areLoads 361 = .ok (.goto (-85), 3) := by decide +kernel
theorem dL_areLoads_364 : decode cL_areLoads 364 = .ok (.iload_n 3, 1) := by decide +kernel
theorem dL_areLoads_365 : decode cL_areLoads 365 = .ok (.ifCond .eq 60, 3) := by decide +kernel
theorem dL_areLoads_368 : decode cL_areLoads 368 = .ok (.iload_n 2, 1) := by decide +kernel
theorem dL_areLoads_369 : decode cL_areLoads 369 = .ok (.aload_n 0, 1) := by decide +kernel
theorem dL_areLoads_370 : decode cL_areLoads 370 = .ok (.bipush 7, 2) := by decide +kernel
theorem dL_areLoads_372 : decode cL_areLoads 372 = .ok (.invokestatic 91, 3) := by decide +kernel
theorem dL_areLoads_375 : decode cL_areLoads 375 = .ok (.if_icmp .gt 50, 3) := by decide +kernel
theorem dL_areLoads_378 : decode cL_areLoads 378 = .ok (.iload 4, 2) := by decide +kernel
theorem dL_areLoads_380 : decode cL_areLoads 380 = .ok (.iconst 1, 1) := by decide +kernel
theorem dL_areLoads_381 : decode cL_areLoads 381 = .ok (.aload_n 0, 1) := by decide +kernel
theorem dL_areLoads_382 : decode cL_areLoads 382 = .ok (.iconst 3, 1) := by decide +kernel
theorem dL_areLoads_383 : decode cL_areLoads 383 = .ok (.invokestatic 91, 3) := by decide +kernel
theorem dL_areLoads_386 : decode cL_areLoads 386 = .ok (.ishl, 1) := by decide +kernel
theorem dL_areLoads_387 : decode cL_areLoads 387 = .ok (.iconst 1, 1) := by decide +kernel
theorem dL_areLoads_388 : decode cL_areLoads 388 = .ok (.isub, 1) := by decide +kernel
theorem dL_areLoads_389 : decode cL_areLoads 389 = .ok (.if_icmp .ne 36, 3) := by decide +kernel
theorem dL_areLoads_392 : decode cL_areLoads 392 = .ok (.aload_n 0, 1) := by decide +kernel
theorem dL_areLoads_393 : decode cL_areLoads 393 = .ok (.aload_n 0, 1) := by decide +kernel
theorem dL_areLoads_394 : decode cL_areLoads 394 = .ok (.bipush 12, 2) := by decide +kernel
theorem dL_areLoads_396 : decode cL_areLoads 396 = .ok (.invokestatic 91, 3) := by decide +kernel
theorem dL_areLoads_399 : decode cL_areLoads 399 = .ok (.iconst 0, 1) := by decide +kernel
theorem dL_areLoads_400 : decode cL_areLoads 400 = .ok (.invokestatic 101, 3) := by decide +kernel
theorem dL_areLoads_403 : decode cL_areLoads 403 = .ok (.iconst (-1), 1) := by decide +kernel
theorem dL_areLoads_404 : decode cL_areLoads 404 = .ok (.if_icmp .ne 21, 3) := by decide +kernel
theorem dL_areLoads_407 : decode cL_areLoads 407 = .ok (.aload_n 0, 1) := by decide +kernel
theorem dL_areLoads_408 : decode cL_areLoads 408 = .ok (.aload_n 0, 1) := by decide +kernel
theorem dL_areLoads_409 : decode cL_areLoads 409 = .ok (.iconst 3, 1) := by decide +kernel
theorem dL_areLoads_410 : decode cL_areLoads 410 = .ok (.invokestatic 91, 3) := by decide +kernel
theorem dL_areLoads_413 : decode cL_areLoads 413 = .ok (.iconst 0, 1) := by decide +kernel
theorem dL_areLoads_414 : decode cL_areLoads 414 = .ok (.invokestatic 99, 3) := by decide +kernel
theorem dL_areLoads_417 : decode cL_areLoads 417 = .ok (.iconst (-1), 1) := by decide +kernel
theorem dL_areLoads_418 : decode cL_areLoads 418 = .ok (.if_icmp .ne 7, 3) := by decide +kernel
theorem dL_areLoads_421 : decode cL_areLoads 421 = .ok (.iconst 1, 1) := by decide +kernel
theorem dL_areLoads_422 : decode cL_areLoads 422 = .ok (.goto 4, 3) := by decide +kernel
theorem dL_areLoads_425 : decode cL_areLoads 425 = .ok (.iconst 0, 1) := by decide +kernel
theorem dL_areLoads_426 : decode cL_areLoads 426 = .ok (.ireturn, 1) := by decide +kernel
theorem dL_isForetold_0 : decode cL_isForetold 0 = .ok (.aload_n 0, 1) := by decide +kernel
theorem dL_isForetold_1 : decode cL_isForetold 1 = .ok (.iconst 3, 1) := by decide +kernel
theorem dL_isForetold_2 : decode cL_isForetold 2 = .ok (.invokestatic 91, 3) := by decide +kernel
theorem dL_isForetold_5 : decode cL_isForetold 5 = .ok (.ifCond .ne 5, 3) := by decide +kernel
theorem dL_isForetold_8 : decode cL_isForetold 8 = .ok (.iconst 1, 1) := by decide +kernel
theorem dL_isForetold_9 : decode cL_isForetold 9 = .ok (.ireturn, 1) := by decide +kernel
theorem dL_isForetold_10 : decode cL_isForetold 10 = .ok (.aload_n 0, 1) := by decide +kernel
theorem dL_isForetold_11 : decode cL_isForetold 11 = .ok (.invokestatic 105, 3) := by decide +kernel
theorem dL_isForetold_14 : decode cL_isForetold 14 = .ok (.lstore_n 2, 1) := by decide +kernel
theorem dL_isForetold_15 : decode cL_isForetold 15 = .ok (.aload_n 0, 1) := by decide +kernel
theorem dL_isForetold_16 : decode cL_isForetold 16 = .ok (.iload_n 1, 1) := by decide +kernel
theorem dL_isForetold_17 : decode cL_isForetold 17 = .ok (.invokestatic 133, 3) := by decide +kernel
theorem dL_isForetold_20 : decode cL_isForetold 20 = .ok (.istore 4, 2) := by decide +kernel
theorem dL_isForetold_22 : decode cL_isForetold 22 = .ok (.aload_n 0, 1) := by decide +kernel
theorem dL_isForetold_23 : decode cL_isForetold 23 = .ok (.invokevirtual 139, 3) := by decide +kernel
theorem dL_isForetold_26 : decode cL_isForetold 26 = .ok (.istore 5, 2) := by decide +kernel
theorem dL_isForetold_28 : decode cL_isForetold 28 = .ok (.aload_n 0, 1) := by decide +kernel
theorem dL_isForetold_29 : decode cL_isForetold 29 = .ok (.iload 5, 2) := by decide +kernel
theorem dL_isForetold_31 : decode cL_isForetold 31 = .ok (.invokestatic 133, 3) := by decide +kernel
theorem dL_isForetold_34 : decode cL_isForetold 34 = .ok (.istore 6, 2) := by decide +kernel
theorem dL_isForetold_36 : decode cL_isForetold 36 = .ok (.aload_n 0, 1) := by decide +kernel
theorem dL_isForetold_37 : decode cL_isForetold 37 = .ok (.invokevirtual 142, 3) := by decide +kernel
theorem dL_isForetold_40 : decode cL_isForetold 40 = .ok (.istore 7, 2) := by decide +kernel
theorem dL_isForetold_42 : decode cL_isForetold 42 = .ok (.aload_n 0, 1) := by decide +kernel
theorem dL_isForetold_43 : decode cL_isForetold 43 = .ok (.bipush 6, 2) := by decide +kernel
theorem dL_isForetold_45 : decode cL_isForetold 45 = .ok (.invokestatic 91, 3) := by decide +kernel
theorem dL_isForetold_48 : decode cL_isForetold 48 = .ok (.istore 8, 2) := by decide +kernel
theorem dL_isForetold_50 : decode cL_isForetold 50 = .ok (.aload_n 0, 1) := by decide +kernel
theorem dL_isForetold_51 : decode cL_isForetold 51 = .ok (.bipush 7, 2) := by decide +kernel
theorem dL_isForetold_53 : decode cL_isForetold 53 = .ok (.invokestatic 91, 3) := by decide +kernel
theorem dL_isForetold_56 : decode cL_isForetold 56 = .ok (.istore 9, 2) := by decide +kernel
theorem dL_isForetold_58 : decode cL_isForetold 58 = .ok (.aload_n 0, 1) := by decide +kernel
theorem dL_isForetold_59 : decode cL_isForetold 59 = .ok (.iload 7, 2) := by decide +kernel
theorem dL_isForetold_61 : decode cL_isForetold 61 = .ok (.iconst 1, 1) := by decide +kernel
theorem dL_isForetold_62 : decode cL_isForetold 62 = .ok (.invokestatic 96, 3) := by decide +kernel
theorem dL_isForetold_65 : decode cL_isForetold 65 = .ok (.istore 10, 2) := by decide +kernel
theorem dL_isForetold_67 : decode cL_isForetold 67 = .ok (.iconst 0, 1) := by decide +kernel
theorem dL_isForetold_68 : decode cL_isForetold 68 = .ok (.istore 11, 2) := by decide +kernel
theorem dL_isForetold_70 : decode cL_isForetold 70 = .ok (.iconst 0, 1) := by decide +kernel
theorem dL_isForetold_71 : decode cL_isForetold 71 = .ok (.istore 12, 2) := by decide +kernel
theorem dL_isForetold_73 : decode cL_isForetold 73 = .ok (.iload 12, 2) := by decide +kernel
theorem dL_isForetold_75 : decode cL_isForetold 75 = .ok (.aload_n 0, 1) := by decide +kernel
theorem dL_isForetold_76 : decode cL_isForetold 76 = .ok (.iconst 3, 1) := by decide +kernel
theorem dL_isForetold_77 : decode cL_isForetold 77 = .ok (.invokestatic 91, 3) := by decide +kernel
theorem dL_isForetold_80 : decode cL_isForetold 80 = .ok (.if_icmp .ge 21, 3) := by decide +kernel
theorem dL_isForetold_83 : decode cL_isForetold 83 = .ok (.iload 11, 2) := by decide +kernel
theorem dL_isForetold_85 : decode cL_isForetold 85 = .ok (.aload_n 0, 1) := by decide +kernel
theorem dL_isForetold_86 : decode cL_isForetold 86 = .ok (.iload 12, 2) := by decide +kernel
theorem dL_isForetold_88 : decode cL_isForetold 88 = .ok (.iconst 2, 1) := by decide +kernel
theorem dL_isForetold_89 : decode cL_isForetold 89 = .ok (.invokestatic 99, 3) := by decide +kernel
theorem dL_isForetold_92 : decode cL_isForetold 92 = .ok (.iadd, 1) := by decide +kernel
theorem dL_isForetold_93 : decode cL_isForetold 93 = .ok (.istore 11, 2) := by decide +kernel
theorem dL_isForetold_95 : decode cL_isForetold 95 = .ok (.iinc 12 1, 3) := by decide +kernel
theorem dL_isForetold_98 : decode cL_isForetold 98 = .ok (.goto (-25), 3) := by decide +kernel
theorem dL_isForetold_101 : decode cL_isForetold 101 = .ok (.aload_n 0, 1) := by decide +kernel
theorem dL_isForetold_102 : decode cL_isForetold 102 = .ok (.invokestatic 105, 3) := by decide +kernel
theorem dL_isForetold_105 : decode cL_isForetold 105 = .ok (.lload_n 2, 1) := by decide +kernel
theorem dL_isForetold_106 : decode cL_isForetold 106 = .ok (.lcmp, 1) := by decide +kernel
theorem dL_isForetold_107 : decode cL_isForetold 107 = .ok (.ifCond .ne 124, 3) := by decide +kernel
theorem dL_isForetold_110 : decode cL_isForetold 110 = .ok (.iload 6, 2) := by decide +kernel
theorem dL_isForetold_112 : decode cL_isForetold 112 = .ok (.iload 4, 2) := by decide +kernel
theorem dL_isForetold_114 : decode cL_isForetold 114 = .ok (.if_icmp .gt 117, 3) := by decide +kernel
theorem dL_isForetold_117 : decode cL_isForetold 117 = .ok (.iload 4, 2) := by decide +kernel
theorem dL_isForetold_119 : decode cL_isForetold 119 = .ok (.iload 6, 2) := by decide +kernel
theorem dL_isForetold_121 : decode cL_isForetold 121 = .ok (.if_icmp .gt 9, 3) := by decide +kernel
theorem dL_isForetold_124 : decode cL_isForetold 124 = .ok (.iload 5, 2) := by decide +kernel
theorem dL_isForetold_126 : decode cL_isForetold 126 = .ok (.iload_n 1, 1) := by decide +kernel
theorem dL_isForetold_127 : decode cL_isForetold 127 = .ok (.if_icmp .gt 104, 3) := by decide +kernel
theorem dL_isForetold_130 : decode cL_isForetold 130 = .ok (.aload_n 0, 1) := by decide +kernel
theorem dL_isForetold_131 : decode cL_isForetold 131 = .ok (.iload_n 1, 1) := by decide +kernel
theorem dL_isForetold_132 : decode cL_isForetold 132 = .ok (.invokestatic 122, 3) := by decide +kernel
theorem dL_isForetold_135 : decode cL_isForetold 135 = .ok (.iload 11, 2) := by decide +kernel
theorem dL_isForetold_137 : decode cL_isForetold 137 = .ok (.iload 4, 2) := by decide +kernel
theorem dL_isForetold_139 : decode cL_isForetold 139 = .ok (.isub, 1) := by decide +kernel
theorem dL_isForetold_140 : decode cL_isForetold 140 = .ok (.if_icmp .ne 91, 3) := by decide +kernel
theorem dL_isForetold_143 : decode cL_isForetold 143 = .ok (.aload_n 0, 1) := by decide +kernel
theorem dL_isForetold_144 : decode cL_isForetold 144 = .ok (.bipush 6, 2) := by decide +kernel
theorem dL_isForetold_146 : decode cL_isForetold 146 = .ok (.invokestatic 91, 3) := by decide +kernel
theorem dL_isForetold_149 : decode cL_isForetold 149 = .ok (.iload 8, 2) := by decide +kernel
theorem dL_isForetold_151 : decode cL_isForetold 151 = .ok (.iload 4, 2) := by decide +kernel
theorem dL_isForetold_153 : decode cL_isForetold 153 = .ok (.iadd, 1) := by decide +kernel
theorem dL_isForetold_154 : decode cL_isForetold 154 = .ok (.if_icmp .ne 77, 3) := by decide +kernel
theorem dL_isForetold_157 : decode cL_isForetold 157 = .ok (.aload_n 0, 1) := by decide +kernel
theorem dL_isForetold_158 : decode cL_isForetold 158 = .ok (.bipush 7, 2) := by decide +kernel
theorem dL_isForetold_160 : decode cL_isForetold 160 = .ok (.invokestatic 91, 3) := by decide +kernel
theorem dL_isForetold_163 : decode cL_isForetold 163 = .ok (.iload 9, 2) := by decide +kernel
theorem dL_isForetold_165 : decode cL_isForetold 165 = .ok (.iload 11, 2) := by decide +kernel
theorem dL_isForetold_167 : decode cL_isForetold 167 = .ok (.iadd, 1) := by decide +kernel
theorem dL_isForetold_168 : decode cL_isForetold 168 = .ok (.iload 4, 2) := by decide +kernel
theorem dL_isForetold_170 : decode cL_isForetold 170 = .ok (.isub, 1) := by decide +kernel
theorem dL_isForetold_171 : decode cL_isForetold 171 = .ok (.if_icmp .ne 60, 3) := by decide +kernel
theorem dL_isForetold_174 : decode cL_isForetold 174 = .ok (.aload_n 0, 1) := by decide +kernel
theorem dL_isForetold_175 : decode cL_isForetold 175 = .ok (.iconst 3, 1) := by decide +kernel
theorem dL_isForetold_176 : decode cL_isForetold 176 = .ok (.invokestatic 91, 3) := by decide +kernel
theorem dL_isForetold_179 : decode cL_isForetold 179 = .ok (.ifCond .ne 52, 3) := by decide +kernel
theorem dL_isForetold_182 : decode cL_isForetold 182 = .ok (.aload_n 0, 1) := by decide +kernel
theorem dL_isForetold_183 : decode cL_isForetold 183 = .ok (.iload 7, 2) := by decide +kernel
theorem dL_isForetold_185 : decode cL_isForetold 185 = .ok (.iconst 1, 1) := by decide +kernel
theorem dL_isForetold_186 : decode cL_isForetold 186 = .ok (.invokestatic 96, 3) := by decide +kernel
theorem dL_isForetold_189 : decode cL_isForetold 189 = .ok (.iload 10, 2) := by decide +kernel
theorem dL_isForetold_191 : decode cL_isForetold 191 = .ok (.iload_n 1, 1) := by decide +kernel
theorem dL_isForetold_192 : decode cL_isForetold 192 = .ok (.iadd, 1) := by decide +kernel
theorem dL_isForetold_193 : decode cL_isForetold 193 = .ok (.if_icmp .ne 38, 3) := by decide +kernel
theorem dL_isForetold_196 : decode cL_isForetold 196 = .ok (.aload_n 0, 1) := by decide +kernel
theorem dL_isForetold_197 : decode cL_isForetold 197 = .ok (.iload 7, 2) := by decide +kernel
theorem dL_isForetold_199 : decode cL_isForetold 199 = .ok (.iconst 3, 1) := by decide +kernel
theorem dL_isForetold_200 : decode cL_isForetold 200 = .ok (.invokestatic 96, 3) := by decide +kernel
theorem dL_isForetold_203 : decode cL_isForetold 203 = .ok (.ifCond .ne 28, 3) := by decide +kernel
theorem dL_isForetold_206 : decode cL_isForetold 206 = .ok (.aload_n 0, 1) := by decide +kernel
theorem dL_isForetold_207 : decode cL_isForetold 207 = .ok (.invokestatic 152, 3) := by decide +kernel
theorem dL_isForetold_210 : decode cL_isForetold 210 = .ok (.ifCond .eq 21, 3) := by decide +kernel
theorem dL_isForetold_213 : decode cL_isForetold 213 = .ok (.aload_n 0, 1) := by decide +kernel
theorem dL_isForetold_214 : decode cL_isForetold 214 = .ok (.invokestatic 156, 3) := by decide +kernel
theorem dL_isForetold_217 : decode cL_isForetold 217 = .ok (.ifCond .eq 14, 3) := by decide +kernel
theorem dL_isForetold_220 : decode cL_isForetold 220 = .ok (.aload_n 0, 1) := by decide +kernel
theorem dL_isForetold_221 : decode cL_isForetold 221 = .ok (.invokestatic 159, 3) := by decide +kernel
theorem dL_isForetold_224 : decode cL_isForetold 224 = .ok (.ifCond .eq 7, 3) := by decide +kernel
theorem dL_isForetold_227 : decode cL_isForetold 227 = .ok (.iconst 1, 1) := by decide +kernel
theorem dL_isForetold_228 : decode cL_isForetold 228 = .ok (.goto 4, 3) := by decide +kernel
theorem dL_isForetold_231 : decode cL_isForetold 231 = .ok (.iconst 0, 1) := by decide +kernel
theorem dL_isForetold_232 : decode cL_isForetold 232 = .ok (.istore 12, 2) := by decide +kernel
theorem dL_isForetold_234 : decode cL_isForetold 234 = .ok (.iload 12, 2) := by decide +kernel
theorem dL_isForetold_236 : decode cL_isForetold 236 = .ok (.ifCond .eq 23, 3) := by decide +kernel
theorem dL_isForetold_239 : decode cL_isForetold 239 = .ok (.aload_n 0, 1) := by decide +kernel
theorem dL_isForetold_240 : decode cL_isForetold 240 = .ok (.invokestatic 162, 3) := by decide +kernel
theorem dL_isForetold_243 : decode cL_isForetold 243 = .ok (.ifCond .lt 16, 3) := by decide +kernel
theorem dL_isForetold_246 : decode cL_isForetold 246 = .ok (.aload_n 0, 1) := by decide +kernel
theorem dL_isForetold_247 : decode cL_isForetold 247 = .ok (.invokestatic 105, 3) := by decide +kernel
theorem dL_isForetold_250 : decode cL_isForetold 250 = .ok (.lload_n 2, 1) := by decide +kernel
theorem dL_isForetold_251 : decode cL_isForetold 251 = .ok (.lcmp, 1) := by decide +kernel
theorem dL_isForetold_252 : decode cL_isForetold 252 = .ok (.ifCond .ne 7, 3) := by decide +kernel
theorem dL_isForetold_255 : decode cL_isForetold 255 = .ok (.iconst 1, 1) := by decide +kernel
theorem dL_isForetold_256 : decode cL_isForetold 256 = .ok (.goto 4, 3) := by decide +kernel
theorem dL_isForetold_259 : decode cL_isForetold 259 = .ok (.iconst 0, 1) := by decide +kernel
theorem dL_isForetold_260 : decode cL_isForetold 260 = .ok (.ireturn, 1) := by decide +kernel
theorem dL_areClaims_0 : decode cL_areClaims 0 = .ok (.aload_n 0, 1) := by decide +kernel
theorem dL_areClaims_1 : decode cL_areClaims 1 = .ok (.invokestatic 105, 3) := by decide +kernel
theorem dL_areClaims_4 : decode cL_areClaims 4 = .ok (.lstore_n 2, 1) := by decide +kernel
theorem dL_areClaims_5 : decode cL_areClaims 5 = .ok (.iconst 0, 1) := by decide +kernel
theorem dL_areClaims_6 : decode cL_areClaims 6 = .ok (.istore 4, 2) := by decide +kernel
theorem dL_areClaims_8 : decode cL_areClaims 8 = .ok (.iconst 0, 1) := by decide +kernel
theorem dL_areClaims_9 : decode cL_areClaims 9 = .ok (.istore 5, 2) := by decide +kernel
theorem dL_areClaims_11 : decode cL_areClaims 11 = .ok (.iconst 0, 1) := by decide +kernel
theorem dL_areClaims_12 : decode cL_areClaims 12 = .ok (.istore 6, 2) := by decide +kernel
theorem dL_areClaims_14 : decode cL_areClaims 14 = .ok (.iload 6, 2) := by decide +kernel
theorem dL_areClaims_16 : decode cL_areClaims 16 = .ok (.iconst 3, 1) := by decide +kernel
theorem dL_areClaims_17 : decode cL_areClaims 17 = .ok (.if_icmp .ge 51, 3) := by decide +kernel
theorem dL_areClaims_20 : decode cL_areClaims 20 = .ok (.aload_n 0, 1) := by decide +kernel
theorem dL_areClaims_21 : decode cL_areClaims 21 = .ok (.iload_n 1, 1) := by decide +kernel
theorem dL_areClaims_22 : decode cL_areClaims 22 = .ok (.iload 6, 2) := by decide +kernel
theorem dL_areClaims_24 : decode cL_areClaims 24 = .ok (.invokestatic 131, 3) := by decide +kernel
theorem dL_areClaims_27 : decode cL_areClaims 27 = .ok (.istore 7, 2) := by decide +kernel
theorem dL_areClaims_29 : decode cL_areClaims 29 = .ok (.iload 4, 2) := by decide +kernel
theorem dL_areClaims_31 : decode cL_areClaims 31 = .ok (.iload 7, 2) := by decide +kernel
theorem dL_areClaims_33 : decode cL_areClaims 33 = .ok (.ifCond .le 8, 3) := by decide +kernel
theorem dL_areClaims_36 : decode cL_areClaims 36 = .ok (.iload 7, 2) := by decide +kernel
theorem dL_areClaims_38 : decode cL_areClaims 38 = .ok (.goto 4, 3) := by decide +kernel
theorem dL_areClaims_41 : decode cL_areClaims 41 = .ok (.iconst 0, 1) := by decide +kernel
theorem dL_areClaims_42 : decode cL_areClaims 42 = .ok (.iadd, 1) := by decide +kernel
theorem dL_areClaims_43 : decode cL_areClaims 43 = .ok (.istore 4, 2) := by decide +kernel
theorem dL_areClaims_45 : decode cL_areClaims 45 = .ok (.iload 5, 2) := by decide +kernel
theorem dL_areClaims_47 : decode cL_areClaims 47 = .ok (.iload 7, 2) := by decide +kernel
theorem dL_areClaims_49 : decode cL_areClaims 49 = .ok (.ifCond .ge 9, 3) := by decide +kernel
theorem dL_areClaims_52 : decode cL_areClaims 52 = .ok (.iload 7, 2) := by decide +kernel
theorem dL_areClaims_54 : decode cL_areClaims 54 = .ok (.ineg, 1) := by decide +kernel
theorem dL_areClaims_55 : decode cL_areClaims 55 = .ok (.goto 4, 3) := by decide +kernel
theorem dL_areClaims_58 : decode cL_areClaims 58 = .ok (.iconst 0, 1) := by decide +kernel
theorem dL_areClaims_59 : decode cL_areClaims 59 = .ok (.iadd, 1) := by decide +kernel
theorem dL_areClaims_60 : decode cL_areClaims 60 = .ok (.istore 5, 2) := by decide +kernel
theorem dL_areClaims_62 : decode cL_areClaims 62 = .ok (.iinc 6 1, 3) := by decide +kernel
theorem dL_areClaims_65 : decode cL_areClaims 65 = .ok (.goto (-51), 3) := by decide +kernel
theorem dL_areClaims_68 : decode cL_areClaims 68 = .ok (.aload_n 0, 1) := by decide +kernel
theorem dL_areClaims_69 : decode cL_areClaims 69 = .ok (.bipush 10, 2) := by decide +kernel
theorem dL_areClaims_71 : decode cL_areClaims 71 = .ok (.invokestatic 91, 3) := by decide +kernel
theorem dL_areClaims_74 : decode cL_areClaims 74 = .ok (.istore 6, 2) := by decide +kernel
theorem dL_areClaims_76 : decode cL_areClaims 76 = .ok (.aload_n 0, 1) := by decide +kernel
theorem dL_areClaims_77 : decode cL_areClaims 77 = .ok (.iload_n 1, 1) := by decide +kernel
theorem dL_areClaims_78 : decode cL_areClaims 78 = .ok (.invokestatic 124, 3) := by decide +kernel
theorem dL_areClaims_81 : decode cL_areClaims 81 = .ok (.istore 7, 2) := by decide +kernel
theorem dL_areClaims_83 : decode cL_areClaims 83 = .ok (.iload 7, 2) := by decide +kernel
theorem dL_areClaims_85 : decode cL_areClaims 85 = .ok (.ifCond .lt 28, 3) := by decide +kernel
theorem dL_areClaims_88 : decode cL_areClaims 88 = .ok (.iload 7, 2) := by decide +kernel
theorem dL_areClaims_90 : decode cL_areClaims 90 = .ok (.iload 4, 2) := by decide +kernel
theorem dL_areClaims_92 : decode cL_areClaims 92 = .ok (.if_icmp .gt 21, 3) := by decide +kernel
theorem dL_areClaims_95 : decode cL_areClaims 95 = .ok (.aload_n 0, 1) := by decide +kernel
theorem dL_areClaims_96 : decode cL_areClaims 96 = .ok (.bipush 10, 2) := by decide +kernel
theorem dL_areClaims_98 : decode cL_areClaims 98 = .ok (.invokestatic 91, 3) := by decide +kernel
theorem dL_areClaims_101 : decode cL_areClaims 101 = .ok (.iload 6, 2) := by decide +kernel
theorem dL_areClaims_103 : decode cL_areClaims 103 = .ok (.iload 7, 2) := by decide +kernel
theorem dL_areClaims_105 : decode cL_areClaims 105 = .ok (.isub, 1) := by decide +kernel
theorem dL_areClaims_106 : decode cL_areClaims 106 = .ok (.if_icmp .ne 7, 3) := by decide +kernel
theorem dL_areClaims_109 : decode cL_areClaims 109 = .ok (.iconst 1, 1) := by decide +kernel
theorem dL_areClaims_110 : decode cL_areClaims 110 = .ok (.goto 4, 3) := by decide +kernel
theorem dL_areClaims_113 : decode cL_areClaims 113 = .ok (.iconst 0, 1) := by decide +kernel
theorem dL_areClaims_114 : decode cL_areClaims 114 = .ok (.istore 8, 2) := by decide +kernel
theorem dL_areClaims_116 : decode cL_areClaims 116 = .ok (.aload_n 0, 1) := by decide +kernel
theorem dL_areClaims_117 : decode cL_areClaims 117 = .ok (.bipush 7, 2) := by decide +kernel
theorem dL_areClaims_119 : decode cL_areClaims 119 = .ok (.invokestatic 91, 3) := by decide +kernel
theorem dL_areClaims_122 : decode cL_areClaims 122 = .ok (.aload_n 0, 1) := by decide +kernel
theorem dL_areClaims_123 : decode cL_areClaims 123 = .ok (.bipush 9, 2) := by decide +kernel
theorem dL_areClaims_125 : decode cL_areClaims 125 = .ok (.invokestatic 91, 3) := by decide +kernel
theorem dL_areClaims_128 : decode cL_areClaims 128 = .ok (.isub, 1) := by decide +kernel
theorem dL_areClaims_129 : decode cL_areClaims 129 = .ok (.istore 9, 2) := by decide +kernel
theorem dL_areClaims_131 : decode cL_areClaims 131 = .ok (.iload 9, 2) := by decide +kernel
theorem dL_areClaims_133 : decode cL_areClaims 133 = .ok (.aload_n 0, 1) := by decide +kernel
theorem dL_areClaims_134 : decode cL_areClaims 134 = .ok (.bipush 7, 2) := by decide +kernel
theorem dL_areClaims_136 : decode cL_areClaims 136 = .ok (.invokestatic 91, 3) := by decide +kernel
theorem dL_areClaims_139 : decode cL_areClaims 139 = .ok (.if_icmp .ge 83, 3) := by decide +kernel
theorem dL_areClaims_142 : decode cL_areClaims 142 = .ok (.iload 8, 2) := by decide +kernel
theorem dL_areClaims_144 : decode cL_areClaims 144 = .ok (.ifCond .eq 78, 3) := by decide +kernel
theorem dL_areClaims_147 : decode cL_areClaims 147 = .ok (.aload_n 0, 1) := by decide +kernel
theorem dL_areClaims_148 : decode cL_areClaims 148 = .ok (.iload 9, 2) := by decide +kernel
theorem dL_areClaims_150 : decode cL_areClaims 150 = .ok (.iconst 5, 1) := by decide +kernel
theorem dL_areClaims_151 : decode cL_areClaims 151 = .ok (.invokestatic 103, 3) := by decide +kernel
theorem dL_areClaims_154 : decode cL_areClaims 154 = .ok (.bipush 8, 2) := by decide +kernel
theorem dL_areClaims_156 : decode cL_areClaims 156 = .ok (.if_icmp .ne 30, 3) := by decide +kernel
theorem dL_areClaims_159 : decode cL_areClaims 159 = .ok (.aload_n 0, 1) := by decide +kernel
theorem dL_areClaims_160 : decode cL_areClaims 160 = .ok (.iload 9, 2) := by decide +kernel
theorem dL_areClaims_162 : decode cL_areClaims 162 = .ok (.iconst 4, 1) := by decide +kernel
theorem dL_areClaims_163 : decode cL_areClaims 163 = .ok (.invokestatic 103, 3) := by decide +kernel
theorem dL_areClaims_166 : decode cL_areClaims 166 = .ok (.aload_n 0, 1) := by decide +kernel
theorem dL_areClaims_167 : decode cL_areClaims 167 = .ok (.iload_n 1, 1) := by decide +kernel
theorem dL_areClaims_168 : decode cL_areClaims 168 = .ok (.iconst 0, 1) := by decide +kernel
theorem dL_areClaims_169 : decode cL_areClaims 169 = .ok (.invokestatic 96, 3) := by decide +kernel
theorem dL_areClaims_172 : decode cL_areClaims 172 = .ok (.ior, 1) := by decide +kernel
theorem dL_areClaims_173 : decode cL_areClaims 173 = .ok (.aload_n 0, 1) := by decide +kernel
theorem dL_areClaims_174 : decode cL_areClaims 174 = .ok (.iload_n 1, 1) := by decide +kernel
theorem dL_areClaims_175 : decode cL_areClaims 175 = .ok (.iconst 0, 1) := by decide +kernel
theorem dL_areClaims_176 : decode cL_areClaims 176 = .ok (.invokestatic 96, 3) := by decide +kernel
theorem dL_areClaims_179 : decode cL_areClaims 179 = .ok (.if_icmp .ne 7, 3) := by decide +kernel
theorem dL_areClaims_182 : decode cL_areClaims 182 = .ok (.iconst 1, 1) := by decide +kernel
theorem dL_areClaims_183 : decode cL_areClaims 183 = .ok (.goto 4, 3) := by decide +kernel
theorem dL_areClaims_186 : decode cL_areClaims 186 = .ok (.iconst 0, 1) := by decide +kernel
theorem dL_areClaims_187 : decode cL_areClaims 187 = .ok (.istore 10, 2) := by decide +kernel
theorem dL_areClaims_189 : decode cL_areClaims 189 = .ok (.iload 10, 2) := by decide +kernel
theorem dL_areClaims_191 : decode cL_areClaims 191 = .ok (.ifCond .eq 18, 3) := by decide +kernel
theorem dL_areClaims_194 : decode cL_areClaims 194 = .ok (.aload_n 0, 1) := by decide +kernel
theorem dL_areClaims_195 : decode cL_areClaims 195 = .ok (.iload_n 1, 1) := by decide +kernel
theorem dL_areClaims_196 : decode cL_areClaims 196 = .ok (.aload_n 0, 1) := by decide +kernel
theorem dL_areClaims_197 : decode cL_areClaims 197 = .ok (.iload 9, 2) := by decide +kernel
theorem dL_areClaims_199 : decode cL_areClaims 199 = .ok (.iconst 1, 1) := by decide +kernel
theorem dL_areClaims_200 : decode cL_areClaims 200 = .ok (.invokestatic 103, 3) := by decide +kernel
theorem dL_areClaims_203 : decode cL_areClaims 203 = .ok (.invokestatic 131, 3) := by decide +kernel
theorem dL_areClaims_206 : decode cL_areClaims 206 = .ok (.ifCond .gt 7, 3) := by decide +kernel
theorem dL_areClaims_209 : decode cL_areClaims 209 = .ok (.iconst 1, 1) := by decide +kernel
theorem dL_areClaims_210 : decode cL_areClaims 210 = .ok (.goto 4, 3) := by decide +kernel
theorem dL_areClaims_213 : decode cL_areClaims 213 = .ok (.iconst 0, 1) := by decide +kernel
theorem dL_areClaims_214 : decode cL_areClaims 214 = .ok (.istore 8, 2) := by decide +kernel
theorem dL_areClaims_216 : decode cL_areClaims 216 = .ok (.iinc 9 1, 3) := by decide +kernel
theorem dL_areClaims_219 : decode cL_areClaims 219 = .ok (.goto (-88), 3) := by decide +kernel
theorem dL_areClaims_222 : decode cL_areClaims 222 = .ok (.iload 8, 2) := by decide +kernel
theorem dL_areClaims_224 : decode cL_areClaims 224 = .ok (.ifCond .eq 34, 3) := by decide +kernel
theorem dL_areClaims_227 : decode cL_areClaims 227 = .ok (.aload_n 0, 1) := by decide +kernel
theorem dL_areClaims_228 : decode cL_areClaims 228 = .ok (.iload_n 1, 1) := by decide +kernel
theorem dL_areClaims_229 : decode cL_areClaims 229 = .ok (.invokestatic 126, 3) := by decide +kernel
theorem dL_areClaims_232 : decode cL_areClaims 232 = .ok (.iload 5, 2) := by decide +kernel
theorem dL_areClaims_234 : decode cL_areClaims 234 = .ok (.if_icmp .ne 24, 3) := by decide +kernel
theorem dL_areClaims_237 : decode cL_areClaims 237 = .ok (.aload_n 0, 1) := by decide +kernel
theorem dL_areClaims_238 : decode cL_areClaims 238 = .ok (.bipush 10, 2) := by decide +kernel
theorem dL_areClaims_240 : decode cL_areClaims 240 = .ok (.invokestatic 91, 3) := by decide +kernel
theorem dL_areClaims_243 : decode cL_areClaims 243 = .ok (.iload 6, 2) := by decide +kernel
theorem dL_areClaims_245 : decode cL_areClaims 245 = .ok (.iload 7, 2) := by decide +kernel
theorem dL_areClaims_247 : decode cL_areClaims 247 = .ok (.isub, 1) := by decide +kernel
theorem dL_areClaims_248 : decode cL_areClaims 248 = .ok (.iload 5, 2) := by decide +kernel
theorem dL_areClaims_250 : decode cL_areClaims 250 = .ok (.iadd, 1) := by decide +kernel
theorem dL_areClaims_251 : decode cL_areClaims 251 = .ok (.if_icmp .ne 7, 3) := by decide +kernel
theorem dL_areClaims_254 : decode cL_areClaims 254 = .ok (.iconst 1, 1) := by decide +kernel
theorem dL_areClaims_255 : decode cL_areClaims 255 = .ok (.goto 4, 3) := by decide +kernel
theorem dL_areClaims_258 : decode cL_areClaims 258 = .ok (.iconst 0, 1) := by decide +kernel
theorem dL_areClaims_259 : decode cL_areClaims 259 = .ok (.istore 8, 2) := by decide +kernel
theorem dL_areClaims_261 : decode cL_areClaims 261 = .ok (.iconst 0, 1) := by decide +kernel
theorem dL_areClaims_262 : decode cL_areClaims 262 = .ok (.istore 9, 2) := by decide +kernel
theorem dL_areClaims_264 : decode cL_areClaims 264 = .ok (.iload 9, 2) := by decide +kernel
theorem dL_areClaims_266 : decode cL_areClaims 266 = .ok (.iconst 3, 1) := by decide +kernel
theorem dL_areClaims_267 : decode cL_areClaims 267 = .ok (.if_icmp .ge 31, 3) := by decide +kernel
theorem dL_areClaims_270 : decode cL_areClaims 270 = .ok (.iload 8, 2) := by decide +kernel
theorem dL_areClaims_272 : decode cL_areClaims 272 = .ok (.ifCond .eq 26, 3) := by decide +kernel
theorem dL_areClaims_275 : decode cL_areClaims 275 = .ok (.aload_n 0, 1) := by decide +kernel
theorem dL_areClaims_276 : decode cL_areClaims 276 = .ok (.iload_n 1, 1) := by decide +kernel
theorem dL_areClaims_277 : decode cL_areClaims 277 = .ok (.iload 9, 2) := by decide +kernel
theorem dL_areClaims_279 : decode cL_areClaims 279 = .ok (.invokestatic 131, 3) := by decide +kernel
theorem dL_areClaims_282 : decode cL_areClaims 282 = .ok (.ifCond .lt 7, 3) := by decide +kernel
theorem dL_areClaims_285 : decode cL_areClaims 285 = .ok (.iconst 1, 1) := by decide +kernel
theorem dL_areClaims_286 : decode cL_areClaims 286 = .ok (.goto 4, 3) := by decide +kernel
theorem dL_areClaims_289 : decode cL_areClaims 289 = .ok (.iconst 0, 1) := by decide +kernel
theorem dL_areClaims_290 : decode cL_areClaims 290 = .ok (.istore 8, 2) := by decide +kernel
theorem dL_areClaims_292 : decode cL_areClaims 292 = .ok (.iinc 9 1, 3) := by decide +kernel
theorem dL_areClaims_295 : decode cL_areClaims 295 = .ok (.goto (-31), 3) := by decide +kernel
theorem dL_areClaims_298 : decode cL_areClaims 298 = .ok (.iload 8, 2) := by decide +kernel
theorem dL_areClaims_300 : decode cL_areClaims 300 = .ok (.ifCond .eq 30, 3) := by decide +kernel
theorem dL_areClaims_303 : decode cL_areClaims 303 = .ok (.aload_n 0, 1) := by decide +kernel
theorem dL_areClaims_304 : decode cL_areClaims 304 = .ok (.invokestatic 162, 3) := by decide +kernel
theorem dL_areClaims_307 : decode cL_areClaims 307 = .ok (.ifCond .lt 23, 3) := by decide +kernel
theorem dL_areClaims_310 : decode cL_areClaims 310 = .ok (.aload_n 0, 1) := by decide +kernel
theorem dL_areClaims_311 : decode cL_areClaims 311 = .ok (.invokestatic 162, 3) := by decide +kernel
theorem dL_areClaims_314 : decode cL_areClaims 314 = .ok (.ifCond .lt 16, 3) := by decide +kernel
theorem dL_areClaims_317 : decode cL_areClaims 317 = .ok (.aload_n 0, 1) := by decide +kernel
theorem dL_areClaims_318 : decode cL_areClaims 318 = .ok (.invokestatic 105, 3) := by decide +kernel
theorem dL_areClaims_321 : decode cL_areClaims 321 = .ok (.lload_n 2, 1) := by decide +kernel
theorem dL_areClaims_322 : decode cL_areClaims 322 = .ok (.lcmp, 1) := by decide +kernel
theorem dL_areClaims_323 : decode cL_areClaims 323 = .ok (.ifCond .ne 7, 3) := by decide +kernel
theorem dL_areClaims_326 : decode cL_areClaims 326 = .ok (.iconst 1, 1) := by decide +kernel
theorem dL_areClaims_327 : decode cL_areClaims 327 = .ok (.goto 4, 3) := by decide +kernel
theorem dL_areClaims_330 : decode cL_areClaims 330 = .ok (.iconst 0, 1) := by decide +kernel
theorem dL_areClaims_331 : decode cL_areClaims 331 = .ok (.ireturn, 1) := by decide +kernel
theorem dL_acts_0 : decode cL_acts 0 = .ok (.aload_n 0, 1) := by decide +kernel
theorem dL_acts_1 : decode cL_acts 1 = .ok (.iconst 0, 1) := by decide +kernel
theorem dL_acts_2 : decode cL_acts 2 = .ok (.invokestatic 91, 3) := by decide +kernel
theorem dL_acts_5 : decode cL_acts 5 = .ok (.istore_n 3, 1) := by decide +kernel
theorem dL_acts_6 : decode cL_acts 6 = .ok (.iload_n 3, 1) := by decide +kernel
theorem dL_acts_7 : decode cL_acts 7 = .ok (.ifCond .ne 7, 3) := by decide +kernel
theorem dL_acts_10 : decode cL_acts 10 = .ok (.iconst 0, 1) := by decide +kernel
theorem dL_acts_11 : decode cL_acts 11 = .ok (.goto 6, 3) := by decide +kernel
theorem dL_acts_14 : decode cL_acts 14 = .ok (.iload_n 2, 1) := by decide +kernel
theorem dL_acts_15 : decode cL_acts 15 = .ok (.iload_n 3, 1) := by decide +kernel
theorem dL_acts_16 : decode cL_acts 16 = .ok (.irem, 1) := by decide +kernel
theorem dL_acts_17 : decode cL_acts 17 = .ok (.istore 4, 2) := by decide +kernel
theorem dL_acts_19 : decode cL_acts 19 = .ok (.iload_n 1, 1) := by decide +kernel
theorem dL_acts_20 : decode cL_acts 20 = .ok (.bipush 16, 2) := by decide +kernel
theorem dL_acts_22 : decode cL_acts 22 = .ok (.invokestatic 165, 3) := by decide +kernel
theorem dL_acts_25 : decode cL_acts 25 = .ok (.tableswitch 226 0 14 #[75, 75, 106, 129, 136, 136, 136, 136, 136, 158, 182, 201, 201, 212, 219], 75) := by decide +kernel
theorem dL_acts_100 : decode cL_acts 100 = .ok (.aload_n 0, 1) := by decide +kernel
theorem dL_acts_101 : decode cL_acts 101 = .ok (.iconst 1, 1) := by decide +kernel
theorem dL_acts_102 : decode cL_acts 102 = .ok (.iload_n 2, 1) := by decide +kernel
theorem dL_acts_103 : decode cL_acts 103 = .ok (.bipush 6, 2) := by decide +kernel
theorem dL_acts_105 : decode cL_acts 105 = .ok (.irem, 1) := by decide +kernel
theorem dL_acts_106 : decode cL_acts 106 = .ok (.ishl, 1) := by decide +kernel
theorem dL_acts_107 : decode cL_acts 107 = .ok (.iconst 1, 1) := by decide +kernel
theorem dL_acts_108 : decode cL_acts 108 = .ok (.iload_n 2, 1) := by decide +kernel
theorem dL_acts_109 : decode cL_acts 109 = .ok (.bipush 6, 2) := by decide +kernel
theorem dL_acts_111 : decode cL_acts 111 = .ok (.idiv, 1) := by decide +kernel
theorem dL_acts_112 : decode cL_acts 112 = .ok (.bipush 6, 2) := by decide +kernel
theorem dL_acts_114 : decode cL_acts 114 = .ok (.irem, 1) := by decide +kernel
theorem dL_acts_115 : decode cL_acts 115 = .ok (.ishl, 1) := by decide +kernel
theorem dL_acts_116 : decode cL_acts 116 = .ok (.ior, 1) := by decide +kernel
theorem dL_acts_117 : decode cL_acts 117 = .ok (.iconst 1, 1) := by decide +kernel
theorem dL_acts_118 : decode cL_acts 118 = .ok (.iload_n 2, 1) := by decide +kernel
theorem dL_acts_119 : decode cL_acts 119 = .ok (.bipush 36, 2) := by decide +kernel
theorem dL_acts_121 : decode cL_acts 121 = .ok (.idiv, 1) := by decide +kernel
theorem dL_acts_122 : decode cL_acts 122 = .ok (.bipush 16, 2) := by decide +kernel
theorem dL_acts_124 : decode cL_acts 124 = .ok (.irem, 1) := by decide +kernel
theorem dL_acts_125 : decode cL_acts 125 = .ok (.ishl, 1) := by decide +kernel
theorem dL_acts_126 : decode cL_acts 126 = .ok (.ior, 1) := by decide +kernel
theorem dL_acts_127 : decode cL_acts 127 = .ok (.invokestatic 109, 3) := by decide +kernel
theorem dL_acts_130 : decode cL_acts 130 = .ok (.ireturn, 1) := by decide +kernel
theorem dL_acts_131 : decode cL_acts 131 = .ok (.aload_n 0, 1) := by decide +kernel
theorem dL_acts_132 : decode cL_acts 132 = .ok (.iload 4, 2) := by decide +kernel
theorem dL_acts_134 : decode cL_acts 134 = .ok (.iconst 1, 1) := by decide +kernel
theorem dL_acts_135 : decode cL_acts 135 = .ok (.iload_n 2, 1) := by decide +kernel
theorem dL_acts_136 : decode cL_acts 136 = .ok (.bipush 7, 2) := by decide +kernel
theorem dL_acts_138 : decode cL_acts 138 = .ok (.irem, 1) := by decide +kernel
theorem dL_acts_139 : decode cL_acts 139 = .ok (.ishl, 1) := by decide +kernel
theorem dL_acts_140 : decode cL_acts 140 = .ok (.iconst 1, 1) := by decide +kernel
theorem dL_acts_141 : decode cL_acts 141 = .ok (.iload_n 2, 1) := by decide +kernel
theorem dL_acts_142 : decode cL_acts 142 = .ok (.bipush 7, 2) := by decide +kernel
theorem dL_acts_144 : decode cL_acts 144 = .ok (.idiv, 1) := by decide +kernel
theorem dL_acts_145 : decode cL_acts 145 = .ok (.bipush 16, 2) := by decide +kernel
theorem dL_acts_147 : decode cL_acts 147 = .ok (.irem, 1) := by decide +kernel
theorem dL_acts_148 : decode cL_acts 148 = .ok (.ishl, 1) := by decide +kernel
theorem dL_acts_149 : decode cL_acts 149 = .ok (.ior, 1) := by decide +kernel
theorem dL_acts_150 : decode cL_acts 150 = .ok (.invokestatic 111, 3) := by decide +kernel
theorem dL_acts_153 : decode cL_acts 153 = .ok (.ireturn, 1) := by decide +kernel
theorem dL_acts_154 : decode cL_acts 154 = .ok (.aload_n 0, 1) := by decide +kernel
theorem dL_acts_155 : decode cL_acts 155 = .ok (.iload 4, 2) := by decide +kernel
theorem dL_acts_157 : decode cL_acts 157 = .ok (.invokestatic 113, 3) := by decide +kernel
theorem dL_acts_160 : decode cL_acts 160 = .ok (.ireturn, 1) := by decide +kernel
theorem dL_acts_161 : decode cL_acts 161 = .ok (.aload_n 0, 1) := by decide +kernel
theorem dL_acts_162 : decode cL_acts 162 = .ok (.iload 4, 2) := by decide +kernel
theorem dL_acts_164 : decode cL_acts 164 = .ok (.iload_n 2, 1) := by decide +kernel
theorem dL_acts_165 : decode cL_acts 165 = .ok (.bipush 8, 2) := by decide +kernel
theorem dL_acts_167 : decode cL_acts 167 = .ok (.idiv, 1) := by decide +kernel
theorem dL_acts_168 : decode cL_acts 168 = .ok (.iconst 3, 1) := by decide +kernel
theorem dL_acts_169 : decode cL_acts 169 = .ok (.irem, 1) := by decide +kernel
theorem dL_acts_170 : decode cL_acts 170 = .ok (.iconst 1, 1) := by decide +kernel
theorem dL_acts_171 : decode cL_acts 171 = .ok (.iload_n 2, 1) := by decide +kernel
theorem dL_acts_172 : decode cL_acts 172 = .ok (.bipush 24, 2) := by decide +kernel
theorem dL_acts_174 : decode cL_acts 174 = .ok (.idiv, 1) := by decide +kernel
theorem dL_acts_175 : decode cL_acts 175 = .ok (.bipush 12, 2) := by decide +kernel
theorem dL_acts_177 : decode cL_acts 177 = .ok (.irem, 1) := by decide +kernel
theorem dL_acts_178 : decode cL_acts 178 = .ok (.iadd, 1) := by decide +kernel
theorem dL_acts_179 : decode cL_acts 179 = .ok (.invokestatic 115, 3) := by decide +kernel
theorem dL_acts_182 : decode cL_acts 182 = .ok (.ireturn, 1) := by decide +kernel
theorem dL_acts_183 : decode cL_acts 183 = .ok (.aload_n 0, 1) := by decide +kernel
theorem dL_acts_184 : decode cL_acts 184 = .ok (.aload_n 0, 1) := by decide +kernel
theorem dL_acts_185 : decode cL_acts 185 = .ok (.iconst 3, 1) := by decide +kernel
theorem dL_acts_186 : decode cL_acts 186 = .ok (.invokestatic 91, 3) := by decide +kernel
theorem dL_acts_189 : decode cL_acts 189 = .ok (.ifCond .ne 7, 3) := by decide +kernel
theorem dL_acts_192 : decode cL_acts 192 = .ok (.iconst 0, 1) := by decide +kernel
theorem dL_acts_193 : decode cL_acts 193 = .ok (.goto 10, 3) := by decide +kernel
theorem dL_acts_196 : decode cL_acts 196 = .ok (.iload_n 2, 1) := by decide +kernel
theorem dL_acts_197 : decode cL_acts 197 = .ok (.aload_n 0, 1) := by decide +kernel
theorem dL_acts_198 : decode cL_acts 198 = .ok (.iconst 3, 1) := by decide +kernel
theorem dL_acts_199 : decode cL_acts 199 = .ok (.invokestatic 91, 3) := by decide +kernel
theorem dL_acts_202 : decode cL_acts 202 = .ok (.irem, 1) := by decide +kernel
theorem dL_acts_203 : decode cL_acts 203 = .ok (.invokestatic 118, 3) := by decide +kernel
theorem dL_acts_206 : decode cL_acts 206 = .ok (.ireturn, 1) := by decide +kernel
theorem dL_acts_207 : decode cL_acts 207 = .ok (.aload_n 0, 1) := by decide +kernel
theorem dL_acts_208 : decode cL_acts 208 = .ok (.sipush 2000, 3) := by decide +kernel
theorem dL_acts_211 : decode cL_acts 211 = .ok (.iload_n 2, 1) := by decide +kernel
theorem dL_acts_212 : decode cL_acts 212 = .ok (.ldc 168, 2) := by decide +kernel
theorem dL_acts_214 : decode cL_acts 214 = .ok (.irem, 1) := by decide +kernel
theorem dL_acts_215 : decode cL_acts 215 = .ok (.imul, 1) := by decide +kernel
theorem dL_acts_216 : decode cL_acts 216 = .ok (.iload_n 1, 1) := by decide +kernel
theorem dL_acts_217 : decode cL_acts 217 = .ok (.sipush 1000, 3) := by decide +kernel
theorem dL_acts_220 : decode cL_acts 220 = .ok (.irem, 1) := by decide +kernel
theorem dL_acts_221 : decode cL_acts 221 = .ok (.iadd, 1) := by decide +kernel
theorem dL_acts_222 : decode cL_acts 222 = .ok (.invokestatic 120, 3) := by decide +kernel
theorem dL_acts_225 : decode cL_acts 225 = .ok (.ireturn, 1) := by decide +kernel
theorem dL_acts_226 : decode cL_acts 226 = .ok (.aload_n 0, 1) := by decide +kernel
theorem dL_acts_227 : decode cL_acts 227 = .ok (.iconst 1, 1) := by decide +kernel
theorem dL_acts_228 : decode cL_acts 228 = .ok (.iload_n 2, 1) := by decide +kernel
theorem dL_acts_229 : decode cL_acts 229 = .ok (.bipush 40, 2) := by decide +kernel
theorem dL_acts_231 : decode cL_acts 231 = .ok (.irem, 1) := by decide +kernel
theorem dL_acts_232 : decode cL_acts 232 = .ok (.iadd, 1) := by decide +kernel
theorem dL_acts_233 : decode cL_acts 233 = .ok (.invokestatic 122, 3) := by decide +kernel
theorem dL_acts_236 : decode cL_acts 236 = .ok (.ireturn, 1) := by decide +kernel
theorem dL_acts_237 : decode cL_acts 237 = .ok (.aload_n 0, 1) := by decide +kernel
theorem dL_acts_238 : decode cL_acts 238 = .ok (.iload 4, 2) := by decide +kernel
theorem dL_acts_240 : decode cL_acts 240 = .ok (.invokestatic 124, 3) := by decide +kernel
theorem dL_acts_243 : decode cL_acts 243 = .ok (.ireturn, 1) := by decide +kernel
theorem dL_acts_244 : decode cL_acts 244 = .ok (.aload_n 0, 1) := by decide +kernel
theorem dL_acts_245 : decode cL_acts 245 = .ok (.iload 4, 2) := by decide +kernel
theorem dL_acts_247 : decode cL_acts 247 = .ok (.invokestatic 126, 3) := by decide +kernel
theorem dL_acts_250 : decode cL_acts 250 = .ok (.ireturn, 1) := by decide +kernel
theorem dL_acts_251 : decode cL_acts 251 = .ok (.iload_n 2, 1) := by decide +kernel
theorem dL_acts_252 : decode cL_acts 252 = .ok (.iconst 3, 1) := by decide +kernel
theorem dL_acts_253 : decode cL_acts 253 = .ok (.irem, 1) := by decide +kernel
theorem dL_acts_254 : decode cL_acts 254 = .ok (.ifCond .ne 10, 3) := by decide +kernel
theorem dL_acts_257 : decode cL_acts 257 = .ok (.aload_n 0, 1) := by decide +kernel
theorem dL_acts_258 : decode cL_acts 258 = .ok (.invokevirtual 169, 3) := by decide +kernel
theorem dL_acts_261 : decode cL_acts 261 = .ok (.goto 9, 3) := by decide +kernel
theorem dL_acts_264 : decode cL_acts 264 = .ok (.aload_n 0, 1) := by decide +kernel
theorem dL_acts_265 : decode cL_acts 265 = .ok (.iload 4, 2) := by decide +kernel
theorem dL_acts_267 : decode cL_acts 267 = .ok (.invokestatic 124, 3) := by decide +kernel
theorem dL_acts_270 : decode cL_acts 270 = .ok (.ireturn, 1) := by decide +kernel
theorem dL_law_0 : decode cL_law 0 = .ok (.new 10, 3) := by decide +kernel
theorem dL_law_3 : decode cL_law 3 = .ok (.dup, 1) := by decide +kernel
theorem dL_law_4 : decode cL_law 4 = .ok (.invokespecial 172, 3) := by decide +kernel
theorem dL_law_7 : decode cL_law 7 = .ok (.astore_n 1, 1) := by decide +kernel
theorem dL_law_8 : decode cL_law 8 = .ok (.aload_n 1, 1) := by decide +kernel
theorem dL_law_9 : decode cL_law 9 = .ok (.invokestatic 162, 3) := by decide +kernel
theorem dL_law_12 : decode cL_law 12 = .ok (.ldc 20, 2) := by decide +kernel
theorem dL_law_14 : decode cL_law 14 = .ok (.if_icmp .ne 35, 3) := by decide +kernel
theorem dL_law_17 : decode cL_law 17 = .ok (.aload_n 1, 1) := by decide +kernel
theorem dL_law_18 : decode cL_law 18 = .ok (.invokestatic 173, 3) := by decide +kernel
theorem dL_law_21 : decode cL_law 21 = .ok (.ifCond .eq 28, 3) := by decide +kernel
theorem dL_law_24 : decode cL_law 24 = .ok (.aload_n 1, 1) := by decide +kernel
theorem dL_law_25 : decode cL_law 25 = .ok (.invokestatic 159, 3) := by decide +kernel
theorem dL_law_28 : decode cL_law 28 = .ok (.ifCond .eq 21, 3) := by decide +kernel
theorem dL_law_31 : decode cL_law 31 = .ok (.aload_n 1, 1) := by decide +kernel
theorem dL_law_32 : decode cL_law 32 = .ok (.invokestatic 152, 3) := by decide +kernel
theorem dL_law_35 : decode cL_law 35 = .ok (.ifCond .eq 14, 3) := by decide +kernel
theorem dL_law_38 : decode cL_law 38 = .ok (.aload_n 1, 1) := by decide +kernel
theorem dL_law_39 : decode cL_law 39 = .ok (.invokestatic 156, 3) := by decide +kernel
theorem dL_law_42 : decode cL_law 42 = .ok (.ifCond .eq 7, 3) := by decide +kernel
theorem dL_law_45 : decode cL_law 45 = .ok (.iconst 1, 1) := by decide +kernel
theorem dL_law_46 : decode cL_law 46 = .ok (.goto 4, 3) := by decide +kernel
theorem dL_law_49 : decode cL_law 49 = .ok (.iconst 0, 1) := by decide +kernel
theorem dL_law_50 : decode cL_law 50 = .ok (.istore_n 2, 1) := by decide +kernel
theorem dL_law_51 : decode cL_law 51 = .ok (.iconst 0, 1) := by decide +kernel
theorem dL_law_52 : decode cL_law 52 = .ok (.istore_n 3, 1) := by decide +kernel
theorem dL_law_53 : decode cL_law 53 = .ok (.iload_n 3, 1) := by decide +kernel
theorem dL_law_54 : decode cL_law 54 = .ok (.bipush 52, 2) := by decide +kernel
theorem dL_law_56 : decode cL_law 56 = .ok (.if_icmp .ge 295, 3) := by decide +kernel
theorem dL_law_59 : decode cL_law 59 = .ok (.iload_n 2, 1) := by decide +kernel
theorem dL_law_60 : decode cL_law 60 = .ok (.ifCond .eq 291, 3) := by decide +kernel
theorem dL_law_63 : decode cL_law 63 = .ok (.aload_n 0, 1) := by decide +kernel
theorem dL_law_64 : decode cL_law 64 = .ok (.iconst 2, 1) := by decide +kernel
theorem dL_law_65 : decode cL_law 65 = .ok (.iload_n 3, 1) := by decide +kernel
theorem dL_law_66 : decode cL_law 66 = .ok (.imul, 1) := by decide +kernel
theorem dL_law_67 : decode cL_law 67 = .ok (.invokestatic 176, 3) := by decide +kernel
theorem dL_law_70 : decode cL_law 70 = .ok (.istore 4, 2) := by decide +kernel
theorem dL_law_72 : decode cL_law 72 = .ok (.aload_n 0, 1) := by decide +kernel
theorem dL_law_73 : decode cL_law 73 = .ok (.iconst 2, 1) := by decide +kernel
theorem dL_law_74 : decode cL_law 74 = .ok (.iload_n 3, 1) := by decide +kernel
theorem dL_law_75 : decode cL_law 75 = .ok (.imul, 1) := by decide +kernel
theorem dL_law_76 : decode cL_law 76 = .ok (.iconst 1, 1) := by decide +kernel
theorem dL_law_77 : decode cL_law 77 = .ok (.iadd, 1) := by decide +kernel
theorem dL_law_78 : decode cL_law 78 = .ok (.invokestatic 176, 3) := by decide +kernel
theorem dL_law_81 : decode cL_law 81 = .ok (.ldc 168, 2) := by decide +kernel
theorem dL_law_83 : decode cL_law 83 = .ok (.invokestatic 165, 3) := by decide +kernel
theorem dL_law_86 : decode cL_law 86 = .ok (.istore 5, 2) := by decide +kernel
theorem dL_law_88 : decode cL_law 88 = .ok (.aload_n 1, 1) := by decide +kernel
theorem dL_law_89 : decode cL_law 89 = .ok (.invokestatic 105, 3) := by decide +kernel
theorem dL_law_92 : decode cL_law 92 = .ok (.lstore 6, 2) := by decide +kernel
theorem dL_law_94 : decode cL_law 94 = .ok (.iload_n 3, 1) := by decide +kernel
theorem dL_law_95 : decode cL_law 95 = .ok (.iconst 5, 1) := by decide +kernel
theorem dL_law_96 : decode cL_law 96 = .ok (.if_icmp .ge 7, 3) := by decide +kernel
theorem dL_law_99 : decode cL_law 99 = .ok (.iconst 0, 1) := by decide +kernel
theorem dL_law_100 : decode cL_law 100 = .ok (.goto 34, 3) := by decide +kernel
theorem dL_law_103 : decode cL_law 103 = .ok (.iload_n 3, 1) := by decide +kernel
theorem dL_law_104 : decode cL_law 104 = .ok (.bipush 12, 2) := by decide +kernel
theorem dL_law_106 : decode cL_law 106 = .ok (.if_icmp .ge 7, 3) := by decide +kernel
theorem dL_law_109 : decode cL_law 109 = .ok (.iconst 4, 1) := by decide +kernel
theorem dL_law_110 : decode cL_law 110 = .ok (.goto 24, 3) := by decide +kernel
theorem dL_law_113 : decode cL_law 113 = .ok (.iload_n 3, 1) := by decide +kernel
theorem dL_law_114 : decode cL_law 114 = .ok (.bipush 8, 2) := by decide +kernel
theorem dL_law_116 : decode cL_law 116 = .ok (.irem, 1) := by decide +kernel
theorem dL_law_117 : decode cL_law 117 = .ok (.bipush 7, 2) := by decide +kernel
theorem dL_law_119 : decode cL_law 119 = .ok (.if_icmp .ne 8, 3) := by decide +kernel
theorem dL_law_122 : decode cL_law 122 = .ok (.bipush 11, 2) := by decide +kernel
theorem dL_law_124 : decode cL_law 124 = .ok (.goto 10, 3) := by decide +kernel
theorem dL_law_127 : decode cL_law 127 = .ok (.iload 4, 2) := by decide +kernel
theorem dL_law_129 : decode cL_law 129 = .ok (.bipush 16, 2) := by decide +kernel
theorem dL_law_131 : decode cL_law 131 = .ok (.invokestatic 165, 3) := by decide +kernel
theorem dL_law_134 : decode cL_law 134 = .ok (.istore 8, 2) := by decide +kernel
theorem dL_law_136 : decode cL_law 136 = .ok (.aload_n 1, 1) := by decide +kernel
theorem dL_law_137 : decode cL_law 137 = .ok (.bipush 16, 2) := by decide +kernel
theorem dL_law_139 : decode cL_law 139 = .ok (.iload 4, 2) := by decide +kernel
theorem dL_law_141 : decode cL_law 141 = .ok (.iconst 4, 1) := by decide +kernel
theorem dL_law_142 : decode cL_law 142 = .ok (.ishr, 1) := by decide +kernel
theorem dL_law_143 : decode cL_law 143 = .ok (.ldc 180, 2) := by decide +kernel
theorem dL_law_145 : decode cL_law 145 = .ok (.invokestatic 165, 3) := by decide +kernel
theorem dL_law_148 : decode cL_law 148 = .ok (.imul, 1) := by decide +kernel
theorem dL_law_149 : decode cL_law 149 = .ok (.iload 8, 2) := by decide +kernel
theorem dL_law_151 : decode cL_law 151 = .ok (.iadd, 1) := by decide +kernel
theorem dL_law_152 : decode cL_law 152 = .ok (.iload 5, 2) := by decide +kernel
theorem dL_law_154 : decode cL_law 154 = .ok (.invokestatic 181, 3) := by decide +kernel
theorem dL_law_157 : decode cL_law 157 = .ok (.istore 9, 2) := by decide +kernel
theorem dL_law_159 : decode cL_law 159 = .ok (.iload 9, 2) := by decide +kernel
theorem dL_law_161 : decode cL_law 161 = .ok (.ifCond .ge 17, 3) := by decide +kernel
theorem dL_law_164 : decode cL_law 164 = .ok (.iload 9, 2) := by decide +kernel
theorem dL_law_166 : decode cL_law 166 = .ok (.ldc 20, 2) := by decide +kernel
theorem dL_law_168 : decode cL_law 168 = .ok (.if_icmp .eq 10, 3) := by decide +kernel
theorem dL_law_171 : decode cL_law 171 = .ok (.iload 9, 2) := by decide +kernel
theorem dL_law_173 : decode cL_law 173 = .ok (.ldc 27, 2) := by decide +kernel
theorem dL_law_175 : decode cL_law 175 = .ok (.if_icmp .ne 7, 3) := by decide +kernel
theorem dL_law_178 : decode cL_law 178 = .ok (.iconst 1, 1) := by decide +kernel
theorem dL_law_179 : decode cL_law 179 = .ok (.goto 4, 3) := by decide +kernel
theorem dL_law_182 : decode cL_law 182 = .ok (.iconst 0, 1) := by decide +kernel
theorem dL_law_183 : decode cL_law 183 = .ok (.istore_n 2, 1) := by decide +kernel
theorem dL_law_184 : decode cL_law 184 = .ok (.iload_n 2, 1) := by decide +kernel
theorem dL_law_185 : decode cL_law 185 = .ok (.ifCond .eq 41, 3) := by decide +kernel
theorem dL_law_188 : decode cL_law 188 = .ok (.iload 9, 2) := by decide +kernel
theorem dL_law_190 : decode cL_law 190 = .ok (.ifCond .lt 36, 3) := by decide +kernel
theorem dL_law_193 : decode cL_law 193 = .ok (.iload 4, 2) := by decide +kernel
theorem dL_law_195 : decode cL_law 195 = .ok (.bipush 25, 2) := by decide +kernel
theorem dL_law_197 : decode cL_law 197 = .ok (.ishr, 1) := by decide +kernel
theorem dL_law_198 : decode cL_law 198 = .ok (.iconst 3, 1) := by decide +kernel
theorem dL_law_199 : decode cL_law 199 = .ok (.iand, 1) := by decide +kernel
theorem dL_law_200 : decode cL_law 200 = .ok (.ifCond .ne 26, 3) := by decide +kernel
theorem dL_law_203 : decode cL_law 203 = .ok (.aload_n 1, 1) := by decide +kernel
theorem dL_law_204 : decode cL_law 204 = .ok (.invokestatic 162, 3) := by decide +kernel
theorem dL_law_207 : decode cL_law 207 = .ok (.ifCond .lt 17, 3) := by decide +kernel
theorem dL_law_210 : decode cL_law 210 = .ok (.aload_n 1, 1) := by decide +kernel
theorem dL_law_211 : decode cL_law 211 = .ok (.invokestatic 105, 3) := by decide +kernel
theorem dL_law_214 : decode cL_law 214 = .ok (.lload 6, 2) := by decide +kernel
theorem dL_law_216 : decode cL_law 216 = .ok (.lcmp, 1) := by decide +kernel
theorem dL_law_217 : decode cL_law 217 = .ok (.ifCond .ne 7, 3) := by decide +kernel
theorem dL_law_220 : decode cL_law 220 = .ok (.iconst 1, 1) := by decide +kernel
theorem dL_law_221 : decode cL_law 221 = .ok (.goto 4, 3) := by decide +kernel
theorem dL_law_224 : decode cL_law 224 = .ok (.iconst 0, 1) := by decide +kernel
theorem dL_law_225 : decode cL_law 225 = .ok (.istore_n 2, 1) := by decide +kernel
theorem dL_law_226 : decode cL_law 226 = .ok (.iload_n 2, 1) := by decide +kernel
theorem dL_law_227 : decode cL_law 227 = .ok (.ifCond .eq 116, 3) := by decide +kernel
theorem dL_law_230 : decode cL_law 230 = .ok (.iload_n 3, 1) := by decide +kernel
theorem dL_law_231 : decode cL_law 231 = .ok (.iconst 3, 1) := by decide +kernel
theorem dL_law_232 : decode cL_law 232 = .ok (.irem, 1) := by decide +kernel
theorem dL_law_233 : decode cL_law 233 = .ok (.iconst 2, 1) := by decide +kernel
theorem dL_law_234 : decode cL_law 234 = .ok (.if_icmp .ne 10, 3) := by decide +kernel
theorem dL_law_237 : decode cL_law 237 = .ok (.aload_n 1, 1) := by decide +kernel
theorem dL_law_238 : decode cL_law 238 = .ok (.invokestatic 159, 3) := by decide +kernel
theorem dL_law_241 : decode cL_law 241 = .ok (.ifCond .eq 102, 3) := by decide +kernel
theorem dL_law_244 : decode cL_law 244 = .ok (.iload_n 3, 1) := by decide +kernel
theorem dL_law_245 : decode cL_law 245 = .ok (.iconst 3, 1) := by decide +kernel
theorem dL_law_246 : decode cL_law 246 = .ok (.irem, 1) := by decide +kernel
theorem dL_law_247 : decode cL_law 247 = .ok (.iconst 1, 1) := by decide +kernel
theorem dL_law_248 : decode cL_law 248 = .ok (.if_icmp .ne 10, 3) := by decide +kernel
theorem dL_law_251 : decode cL_law 251 = .ok (.aload_n 1, 1) := by decide +kernel
theorem dL_law_252 : decode cL_law 252 = .ok (.invokestatic 156, 3) := by decide +kernel
theorem dL_law_255 : decode cL_law 255 = .ok (.ifCond .eq 88, 3) := by decide +kernel
theorem dL_law_258 : decode cL_law 258 = .ok (.iload_n 3, 1) := by decide +kernel
theorem dL_law_259 : decode cL_law 259 = .ok (.iconst 4, 1) := by decide +kernel
theorem dL_law_260 : decode cL_law 260 = .ok (.irem, 1) := by decide +kernel
theorem dL_law_261 : decode cL_law 261 = .ok (.iconst 3, 1) := by decide +kernel
theorem dL_law_262 : decode cL_law 262 = .ok (.if_icmp .ne 10, 3) := by decide +kernel
theorem dL_law_265 : decode cL_law 265 = .ok (.aload_n 1, 1) := by decide +kernel
theorem dL_law_266 : decode cL_law 266 = .ok (.invokestatic 152, 3) := by decide +kernel
theorem dL_law_269 : decode cL_law 269 = .ok (.ifCond .eq 74, 3) := by decide +kernel
theorem dL_law_272 : decode cL_law 272 = .ok (.iload_n 3, 1) := by decide +kernel
theorem dL_law_273 : decode cL_law 273 = .ok (.bipush 6, 2) := by decide +kernel
theorem dL_law_275 : decode cL_law 275 = .ok (.irem, 1) := by decide +kernel
theorem dL_law_276 : decode cL_law 276 = .ok (.iconst 5, 1) := by decide +kernel
theorem dL_law_277 : decode cL_law 277 = .ok (.if_icmp .ne 17, 3) := by decide +kernel
theorem dL_law_280 : decode cL_law 280 = .ok (.aload_n 1, 1) := by decide +kernel
theorem dL_law_281 : decode cL_law 281 = .ok (.iconst 1, 1) := by decide +kernel
theorem dL_law_282 : decode cL_law 282 = .ok (.iload 5, 2) := by decide +kernel
theorem dL_law_284 : decode cL_law 284 = .ok (.bipush 40, 2) := by decide +kernel
theorem dL_law_286 : decode cL_law 286 = .ok (.irem, 1) := by decide +kernel
theorem dL_law_287 : decode cL_law 287 = .ok (.iadd, 1) := by decide +kernel
theorem dL_law_288 : decode cL_law 288 = .ok (.invokestatic 184, 3) := by decide +kernel
theorem dL_law_291 : decode cL_law 291 = .ok (.ifCond .eq 52, 3) := by decide +kernel
theorem dL_law_294 : decode cL_law 294 = .ok (.iload_n 3, 1) := by decide +kernel
theorem dL_law_295 : decode cL_law 295 = .ok (.iconst 5, 1) := by decide +kernel
theorem dL_law_296 : decode cL_law 296 = .ok (.irem, 1) := by decide +kernel
theorem dL_law_297 : decode cL_law 297 = .ok (.iconst 4, 1) := by decide +kernel
theorem dL_law_298 : decode cL_law 298 = .ok (.if_icmp .ne 26, 3) := by decide +kernel
theorem dL_law_301 : decode cL_law 301 = .ok (.aload_n 1, 1) := by decide +kernel
theorem dL_law_302 : decode cL_law 302 = .ok (.iconst 0, 1) := by decide +kernel
theorem dL_law_303 : decode cL_law 303 = .ok (.invokestatic 91, 3) := by decide +kernel
theorem dL_law_306 : decode cL_law 306 = .ok (.ifCond .eq 18, 3) := by decide +kernel
theorem dL_law_309 : decode cL_law 309 = .ok (.aload_n 1, 1) := by decide +kernel
theorem dL_law_310 : decode cL_law 310 = .ok (.iload 5, 2) := by decide +kernel
theorem dL_law_312 : decode cL_law 312 = .ok (.aload_n 1, 1) := by decide +kernel
theorem dL_law_313 : decode cL_law 313 = .ok (.iconst 0, 1) := by decide +kernel
theorem dL_law_314 : decode cL_law 314 = .ok (.invokestatic 91, 3) := by decide +kernel
theorem dL_law_317 : decode cL_law 317 = .ok (.irem, 1) := by decide +kernel
theorem dL_law_318 : decode cL_law 318 = .ok (.invokestatic 188, 3) := by decide +kernel
theorem dL_law_321 : decode cL_law 321 = .ok (.ifCond .eq 22, 3) := by decide +kernel
theorem dL_law_324 : decode cL_law 324 = .ok (.iload_n 3, 1) := by decide +kernel
theorem dL_law_325 : decode cL_law 325 = .ok (.bipush 9, 2) := by decide +kernel
theorem dL_law_327 : decode cL_law 327 = .ok (.irem, 1) := by decide +kernel
theorem dL_law_328 : decode cL_law 328 = .ok (.iconst 4, 1) := by decide +kernel
theorem dL_law_329 : decode cL_law 329 = .ok (.if_icmp .ne 10, 3) := by decide +kernel
theorem dL_law_332 : decode cL_law 332 = .ok (.aload_n 1, 1) := by decide +kernel
theorem dL_law_333 : decode cL_law 333 = .ok (.invokestatic 173, 3) := by decide +kernel
theorem dL_law_336 : decode cL_law 336 = .ok (.ifCond .eq 7, 3) := by decide +kernel
theorem dL_law_339 : decode cL_law 339 = .ok (.iconst 1, 1) := by decide +kernel
theorem dL_law_340 : decode cL_law 340 = .ok (.goto 4, 3) := by decide +kernel
theorem dL_law_343 : decode cL_law 343 = .ok (.iconst 0, 1) := by decide +kernel
theorem dL_law_344 : decode cL_law 344 = .ok (.istore_n 2, 1) := by decide +kernel
theorem dL_law_345 : decode cL_law 345 = .ok (.iinc 3 1, 3) := by decide +kernel
theorem dL_law_348 : decode cL_law 348 = .ok (.goto (-295), 3) := by decide +kernel
theorem dL_law_351 : decode cL_law 351 = .ok (.iload_n 2, 1) := by decide +kernel
theorem dL_law_352 : decode cL_law 352 = .ok (.ifCond .eq 35, 3) := by decide +kernel
theorem dL_law_355 : decode cL_law 355 = .ok (.aload_n 1, 1) := by decide +kernel
theorem dL_law_356 : decode cL_law 356 = .ok (.invokestatic 173, 3) := by decide +kernel
theorem dL_law_359 : decode cL_law 359 = .ok (.ifCond .eq 28, 3) := by decide +kernel
theorem dL_law_362 : decode cL_law 362 = .ok (.aload_n 1, 1) := by decide +kernel
theorem dL_law_363 : decode cL_law 363 = .ok (.invokestatic 159, 3) := by decide +kernel
theorem dL_law_366 : decode cL_law 366 = .ok (.ifCond .eq 21, 3) := by decide +kernel
theorem dL_law_369 : decode cL_law 369 = .ok (.aload_n 1, 1) := by decide +kernel
theorem dL_law_370 : decode cL_law 370 = .ok (.invokestatic 156, 3) := by decide +kernel
theorem dL_law_373 : decode cL_law 373 = .ok (.ifCond .eq 14, 3) := by decide +kernel
theorem dL_law_376 : decode cL_law 376 = .ok (.aload_n 1, 1) := by decide +kernel
theorem dL_law_377 : decode cL_law 377 = .ok (.invokestatic 152, 3) := by decide +kernel
theorem dL_law_380 : decode cL_law 380 = .ok (.ifCond .eq 7, 3) := by decide +kernel
theorem dL_law_383 : decode cL_law 383 = .ok (.iconst 1, 1) := by decide +kernel
theorem dL_law_384 : decode cL_law 384 = .ok (.goto 4, 3) := by decide +kernel
theorem dL_law_387 : decode cL_law 387 = .ok (.iconst 0, 1) := by decide +kernel
theorem dL_law_388 : decode cL_law 388 = .ok (.ireturn, 1) := by decide +kernel
