theorem dX11_init_0 : decode cX11_init 0 = .ok (.aload_n 0, 1) := by decide +kernel
theorem dX11_init_1 : decode cX11_init 1 = .ok (.invokespecial 1, 3) := by decide +kernel
theorem dX11_init_4 : decode cX11_init 4 = .ok (.aload_n 0, 1) := by decide +kernel
theorem dX11_init_5 : decode cX11_init 5 = .ok (.new 7, 3) := by decide +kernel
theorem dX11_init_8 : decode cX11_init 8 = .ok (.dup, 1) := by decide +kernel
theorem dX11_init_9 : decode cX11_init 9 = .ok (.invokespecial 9, 3) := by decide +kernel
theorem dX11_init_12 : decode cX11_init 12 = .ok (.putfield 10, 3) := by decide +kernel
theorem dX11_init_15 : decode cX11_init 15 = .ok (.aload_n 0, 1) := by decide +kernel
theorem dX11_init_16 : decode cX11_init 16 = .ok (.new 16, 3) := by decide +kernel
theorem dX11_init_19 : decode cX11_init 19 = .ok (.dup, 1) := by decide +kernel
theorem dX11_init_20 : decode cX11_init 20 = .ok (.invokespecial 18, 3) := by decide +kernel
theorem dX11_init_23 : decode cX11_init 23 = .ok (.putfield 19, 3) := by decide +kernel
theorem dX11_init_26 : decode cX11_init 26 = .ok (.aload_n 0, 1) := by decide +kernel
theorem dX11_init_27 : decode cX11_init 27 = .ok (.new 23, 3) := by decide +kernel
theorem dX11_init_30 : decode cX11_init 30 = .ok (.dup, 1) := by decide +kernel
theorem dX11_init_31 : decode cX11_init 31 = .ok (.invokespecial 25, 3) := by decide +kernel
theorem dX11_init_34 : decode cX11_init 34 = .ok (.putfield 26, 3) := by decide +kernel
theorem dX11_init_37 : decode cX11_init 37 = .ok (.aload_n 0, 1) := by decide +kernel
theorem dX11_init_38 : decode cX11_init 38 = .ok (.new 30, 3) := by decide +kernel
theorem dX11_init_41 : decode cX11_init 41 = .ok (.dup, 1) := by decide +kernel
theorem dX11_init_42 : decode cX11_init 42 = .ok (.invokespecial 32, 3) := by decide +kernel
theorem dX11_init_45 : decode cX11_init 45 = .ok (.putfield 33, 3) := by decide +kernel
theorem dX11_init_48 : decode cX11_init 48 = .ok (.aload_n 0, 1) := by decide +kernel
theorem dX11_init_49 : decode cX11_init 49 = .ok (.iconst 0, 1) := by decide +kernel
theorem dX11_init_50 : decode cX11_init 50 = .ok (.putfield 37, 3) := by decide +kernel
theorem dX11_init_53 : decode cX11_init 53 = .ok (.return_, 1) := by decide +kernel
theorem dX11_join_0 : decode cX11_join 0 = .ok (.aload_n 0, 1) := by decide +kernel
theorem dX11_join_1 : decode cX11_join 1 = .ok (.getfield 10, 3) := by decide +kernel
theorem dX11_join_4 : decode cX11_join 4 = .ok (.iload_n 1, 1) := by decide +kernel
theorem dX11_join_5 : decode cX11_join 5 = .ok (.invokevirtual 41, 3) := by decide +kernel
theorem dX11_join_8 : decode cX11_join 8 = .ok (.invokestatic 45, 3) := by decide +kernel
theorem dX11_join_11 : decode cX11_join 11 = .ok (.aload_n 0, 1) := by decide +kernel
theorem dX11_join_12 : decode cX11_join 12 = .ok (.getfield 26, 3) := by decide +kernel
theorem dX11_join_15 : decode cX11_join 15 = .ok (.aload_n 0, 1) := by decide +kernel
theorem dX11_join_16 : decode cX11_join 16 = .ok (.getfield 10, 3) := by decide +kernel
theorem dX11_join_19 : decode cX11_join 19 = .ok (.invokevirtual 49, 3) := by decide +kernel
theorem dX11_join_22 : decode cX11_join 22 = .ok (.aload_n 0, 1) := by decide +kernel
theorem dX11_join_23 : decode cX11_join 23 = .ok (.getfield 10, 3) := by decide +kernel
theorem dX11_join_26 : decode cX11_join 26 = .ok (.getfield 53, 3) := by decide +kernel
theorem dX11_join_29 : decode cX11_join 29 = .ok (.iload_n 1, 1) := by decide +kernel
theorem dX11_join_30 : decode cX11_join 30 = .ok (.invokevirtual 57, 3) := by decide +kernel
theorem dX11_join_33 : decode cX11_join 33 = .ok (.ireturn, 1) := by decide +kernel
theorem dX11_remark_0 : decode cX11_remark 0 = .ok (.aload_n 0, 1) := by decide +kernel
theorem dX11_remark_1 : decode cX11_remark 1 = .ok (.getfield 10, 3) := by decide +kernel
theorem dX11_remark_4 : decode cX11_remark 4 = .ok (.iload_n 1, 1) := by decide +kernel
theorem dX11_remark_5 : decode cX11_remark 5 = .ok (.iload_n 2, 1) := by decide +kernel
theorem dX11_remark_6 : decode cX11_remark 6 = .ok (.invokevirtual 62, 3) := by decide +kernel
theorem dX11_remark_9 : decode cX11_remark 9 = .ok (.invokestatic 45, 3) := by decide +kernel
theorem dX11_remark_12 : decode cX11_remark 12 = .ok (.aload_n 0, 1) := by decide +kernel
theorem dX11_remark_13 : decode cX11_remark 13 = .ok (.getfield 26, 3) := by decide +kernel
theorem dX11_remark_16 : decode cX11_remark 16 = .ok (.aload_n 0, 1) := by decide +kernel
theorem dX11_remark_17 : decode cX11_remark 17 = .ok (.getfield 10, 3) := by decide +kernel
theorem dX11_remark_20 : decode cX11_remark 20 = .ok (.invokevirtual 49, 3) := by decide +kernel
theorem dX11_remark_23 : decode cX11_remark 23 = .ok (.aload_n 0, 1) := by decide +kernel
theorem dX11_remark_24 : decode cX11_remark 24 = .ok (.getfield 10, 3) := by decide +kernel
theorem dX11_remark_27 : decode cX11_remark 27 = .ok (.getfield 53, 3) := by decide +kernel
theorem dX11_remark_30 : decode cX11_remark 30 = .ok (.iload_n 1, 1) := by decide +kernel
theorem dX11_remark_31 : decode cX11_remark 31 = .ok (.iload_n 2, 1) := by decide +kernel
theorem dX11_remark_32 : decode cX11_remark 32 = .ok (.invokevirtual 66, 3) := by decide +kernel
theorem dX11_remark_35 : decode cX11_remark 35 = .ok (.ireturn, 1) := by decide +kernel
theorem dX11_excuse_0 : decode cX11_excuse 0 = .ok (.aload_n 0, 1) := by decide +kernel
theorem dX11_excuse_1 : decode cX11_excuse 1 = .ok (.getfield 10, 3) := by decide +kernel
theorem dX11_excuse_4 : decode cX11_excuse 4 = .ok (.iload_n 1, 1) := by decide +kernel
theorem dX11_excuse_5 : decode cX11_excuse 5 = .ok (.invokevirtual 69, 3) := by decide +kernel
theorem dX11_excuse_8 : decode cX11_excuse 8 = .ok (.invokestatic 45, 3) := by decide +kernel
theorem dX11_excuse_11 : decode cX11_excuse 11 = .ok (.aload_n 0, 1) := by decide +kernel
theorem dX11_excuse_12 : decode cX11_excuse 12 = .ok (.getfield 26, 3) := by decide +kernel
theorem dX11_excuse_15 : decode cX11_excuse 15 = .ok (.aload_n 0, 1) := by decide +kernel
theorem dX11_excuse_16 : decode cX11_excuse 16 = .ok (.getfield 10, 3) := by decide +kernel
theorem dX11_excuse_19 : decode cX11_excuse 19 = .ok (.invokevirtual 49, 3) := by decide +kernel
theorem dX11_excuse_22 : decode cX11_excuse 22 = .ok (.aload_n 0, 1) := by decide +kernel
theorem dX11_excuse_23 : decode cX11_excuse 23 = .ok (.getfield 10, 3) := by decide +kernel
theorem dX11_excuse_26 : decode cX11_excuse 26 = .ok (.getfield 53, 3) := by decide +kernel
theorem dX11_excuse_29 : decode cX11_excuse 29 = .ok (.iload_n 1, 1) := by decide +kernel
theorem dX11_excuse_30 : decode cX11_excuse 30 = .ok (.invokevirtual 72, 3) := by decide +kernel
theorem dX11_excuse_33 : decode cX11_excuse 33 = .ok (.ireturn, 1) := by decide +kernel
theorem dX11_bring_0 : decode cX11_bring 0 = .ok (.aload_n 0, 1) := by decide +kernel
theorem dX11_bring_1 : decode cX11_bring 1 = .ok (.getfield 10, 3) := by decide +kernel
theorem dX11_bring_4 : decode cX11_bring 4 = .ok (.iload_n 1, 1) := by decide +kernel
theorem dX11_bring_5 : decode cX11_bring 5 = .ok (.iload_n 2, 1) := by decide +kernel
theorem dX11_bring_6 : decode cX11_bring 6 = .ok (.iload_n 3, 1) := by decide +kernel
theorem dX11_bring_7 : decode cX11_bring 7 = .ok (.invokevirtual 75, 3) := by decide +kernel
theorem dX11_bring_10 : decode cX11_bring 10 = .ok (.invokestatic 45, 3) := by decide +kernel
theorem dX11_bring_13 : decode cX11_bring 13 = .ok (.aload_n 0, 1) := by decide +kernel
theorem dX11_bring_14 : decode cX11_bring 14 = .ok (.getfield 26, 3) := by decide +kernel
theorem dX11_bring_17 : decode cX11_bring 17 = .ok (.aload_n 0, 1) := by decide +kernel
theorem dX11_bring_18 : decode cX11_bring 18 = .ok (.getfield 10, 3) := by decide +kernel
theorem dX11_bring_21 : decode cX11_bring 21 = .ok (.invokevirtual 49, 3) := by decide +kernel
theorem dX11_bring_24 : decode cX11_bring 24 = .ok (.aload_n 0, 1) := by decide +kernel
theorem dX11_bring_25 : decode cX11_bring 25 = .ok (.getfield 10, 3) := by decide +kernel
theorem dX11_bring_28 : decode cX11_bring 28 = .ok (.getfield 79, 3) := by decide +kernel
theorem dX11_bring_31 : decode cX11_bring 31 = .ok (.iload_n 1, 1) := by decide +kernel
theorem dX11_bring_32 : decode cX11_bring 32 = .ok (.iload_n 2, 1) := by decide +kernel
theorem dX11_bring_33 : decode cX11_bring 33 = .ok (.iload_n 3, 1) := by decide +kernel
theorem dX11_bring_34 : decode cX11_bring 34 = .ok (.invokevirtual 83, 3) := by decide +kernel
theorem dX11_bring_37 : decode cX11_bring 37 = .ok (.ireturn, 1) := by decide +kernel
theorem dX11_takeBack_0 : decode cX11_takeBack 0 = .ok (.aload_n 0, 1) := by decide +kernel
theorem dX11_takeBack_1 : decode cX11_takeBack 1 = .ok (.getfield 10, 3) := by decide +kernel
theorem dX11_takeBack_4 : decode cX11_takeBack 4 = .ok (.getfield 79, 3) := by decide +kernel
theorem dX11_takeBack_7 : decode cX11_takeBack 7 = .ok (.iload_n 1, 1) := by decide +kernel
theorem dX11_takeBack_8 : decode cX11_takeBack 8 = .ok (.invokevirtual 87, 3) := by decide +kernel
theorem dX11_takeBack_11 : decode cX11_takeBack 11 = .ok (.ifCond .eq 7, 3) := by decide +kernel
theorem dX11_takeBack_14 : decode cX11_takeBack 14 = .ok (.iconst 0, 1) := by decide +kernel
theorem dX11_takeBack_15 : decode cX11_takeBack 15 = .ok (.goto 4, 3) := by decide +kernel
theorem dX11_takeBack_18 : decode cX11_takeBack 18 = .ok (.iconst 1, 1) := by decide +kernel
theorem dX11_takeBack_19 : decode cX11_takeBack 19 = .ok (.invokestatic 45, 3) := by decide +kernel
theorem dX11_takeBack_22 : decode cX11_takeBack 22 = .ok (.aload_n 0, 1) := by decide +kernel
theorem dX11_takeBack_23 : decode cX11_takeBack 23 = .ok (.getfield 26, 3) := by decide +kernel
theorem dX11_takeBack_26 : decode cX11_takeBack 26 = .ok (.aload_n 0, 1) := by decide +kernel
theorem dX11_takeBack_27 : decode cX11_takeBack 27 = .ok (.getfield 10, 3) := by decide +kernel
theorem dX11_takeBack_30 : decode cX11_takeBack 30 = .ok (.invokevirtual 49, 3) := by decide +kernel
theorem dX11_takeBack_33 : decode cX11_takeBack 33 = .ok (.aload_n 0, 1) := by decide +kernel
theorem dX11_takeBack_34 : decode cX11_takeBack 34 = .ok (.getfield 10, 3) := by decide +kernel
theorem dX11_takeBack_37 : decode cX11_takeBack 37 = .ok (.getfield 79, 3) := by decide +kernel
theorem dX11_takeBack_40 : decode cX11_takeBack 40 = .ok (.iload_n 1, 1) := by decide +kernel
theorem dX11_takeBack_41 : decode cX11_takeBack 41 = .ok (.invokevirtual 91, 3) := by decide +kernel
theorem dX11_takeBack_44 : decode cX11_takeBack 44 = .ok (.ireturn, 1) := by decide +kernel
theorem dX11_setS_0 : decode cX11_setS 0 = .ok (.iload_n 1, 1) := by decide +kernel
theorem dX11_setS_1 : decode cX11_setS 1 = .ok (.ifCond .ge 7, 3) := by decide +kernel
theorem dX11_setS_4 : decode cX11_setS 4 = .ok (.iconst 2, 1) := by decide +kernel
theorem dX11_setS_5 : decode cX11_setS 5 = .ok (.goto 4, 3) := by decide +kernel
theorem dX11_setS_8 : decode cX11_setS 8 = .ok (.iconst 0, 1) := by decide +kernel
theorem dX11_setS_9 : decode cX11_setS 9 = .ok (.invokestatic 45, 3) := by decide +kernel
theorem dX11_setS_12 : decode cX11_setS 12 = .ok (.aload_n 0, 1) := by decide +kernel
theorem dX11_setS_13 : decode cX11_setS 13 = .ok (.getfield 26, 3) := by decide +kernel
theorem dX11_setS_16 : decode cX11_setS 16 = .ok (.aload_n 0, 1) := by decide +kernel
theorem dX11_setS_17 : decode cX11_setS 17 = .ok (.getfield 10, 3) := by decide +kernel
theorem dX11_setS_20 : decode cX11_setS 20 = .ok (.invokevirtual 49, 3) := by decide +kernel
theorem dX11_setS_23 : decode cX11_setS 23 = .ok (.aload_n 0, 1) := by decide +kernel
theorem dX11_setS_24 : decode cX11_setS 24 = .ok (.getfield 10, 3) := by decide +kernel
theorem dX11_setS_27 : decode cX11_setS 27 = .ok (.iload_n 1, 1) := by decide +kernel
theorem dX11_setS_28 : decode cX11_setS 28 = .ok (.invokevirtual 94, 3) := by decide +kernel
theorem dX11_setS_31 : decode cX11_setS 31 = .ok (.ireturn, 1) := by decide +kernel
theorem dX11_bake_0 : decode cX11_bake 0 = .ok (.aload_n 0, 1) := by decide +kernel
theorem dX11_bake_1 : decode cX11_bake 1 = .ok (.getfield 10, 3) := by decide +kernel
theorem dX11_bake_4 : decode cX11_bake 4 = .ok (.iload_n 1, 1) := by decide +kernel
theorem dX11_bake_5 : decode cX11_bake 5 = .ok (.invokevirtual 97, 3) := by decide +kernel
theorem dX11_bake_8 : decode cX11_bake 8 = .ok (.invokestatic 45, 3) := by decide +kernel
theorem dX11_bake_11 : decode cX11_bake 11 = .ok (.aload_n 0, 1) := by decide +kernel
theorem dX11_bake_12 : decode cX11_bake 12 = .ok (.getfield 26, 3) := by decide +kernel
theorem dX11_bake_15 : decode cX11_bake 15 = .ok (.aload_n 0, 1) := by decide +kernel
theorem dX11_bake_16 : decode cX11_bake 16 = .ok (.getfield 10, 3) := by decide +kernel
theorem dX11_bake_19 : decode cX11_bake 19 = .ok (.invokevirtual 49, 3) := by decide +kernel
theorem dX11_bake_22 : decode cX11_bake 22 = .ok (.aload_n 0, 1) := by decide +kernel
theorem dX11_bake_23 : decode cX11_bake 23 = .ok (.getfield 10, 3) := by decide +kernel
theorem dX11_bake_26 : decode cX11_bake 26 = .ok (.iload_n 1, 1) := by decide +kernel
theorem dX11_bake_27 : decode cX11_bake 27 = .ok (.aload_n 0, 1) := by decide +kernel
theorem dX11_bake_28 : decode cX11_bake 28 = .ok (.getfield 19, 3) := by decide +kernel
theorem dX11_bake_31 : decode cX11_bake 31 = .ok (.invokevirtual 100, 3) := by decide +kernel
theorem dX11_bake_34 : decode cX11_bake 34 = .ok (.ireturn, 1) := by decide +kernel
theorem dX11_claim_0 : decode cX11_claim 0 = .ok (.aload_n 0, 1) := by decide +kernel
theorem dX11_claim_1 : decode cX11_claim 1 = .ok (.getfield 10, 3) := by decide +kernel
theorem dX11_claim_4 : decode cX11_claim 4 = .ok (.iload_n 1, 1) := by decide +kernel
theorem dX11_claim_5 : decode cX11_claim 5 = .ok (.invokevirtual 69, 3) := by decide +kernel
theorem dX11_claim_8 : decode cX11_claim 8 = .ok (.invokestatic 45, 3) := by decide +kernel
theorem dX11_claim_11 : decode cX11_claim 11 = .ok (.aload_n 0, 1) := by decide +kernel
theorem dX11_claim_12 : decode cX11_claim 12 = .ok (.getfield 26, 3) := by decide +kernel
theorem dX11_claim_15 : decode cX11_claim 15 = .ok (.aload_n 0, 1) := by decide +kernel
theorem dX11_claim_16 : decode cX11_claim 16 = .ok (.getfield 10, 3) := by decide +kernel
theorem dX11_claim_19 : decode cX11_claim 19 = .ok (.invokevirtual 49, 3) := by decide +kernel
theorem dX11_claim_22 : decode cX11_claim 22 = .ok (.aload_n 0, 1) := by decide +kernel
theorem dX11_claim_23 : decode cX11_claim 23 = .ok (.getfield 10, 3) := by decide +kernel
theorem dX11_claim_26 : decode cX11_claim 26 = .ok (.iload_n 1, 1) := by decide +kernel
theorem dX11_claim_27 : decode cX11_claim 27 = .ok (.invokevirtual 104, 3) := by decide +kernel
theorem dX11_claim_30 : decode cX11_claim 30 = .ok (.ireturn, 1) := by decide +kernel
theorem dX11_returnLoaves_0 : decode cX11_returnLoaves 0 = .ok (.aload_n 0, 1) := by decide +kernel
theorem dX11_returnLoaves_1 : decode cX11_returnLoaves 1 = .ok (.getfield 10, 3) := by decide +kernel
theorem dX11_returnLoaves_4 : decode cX11_returnLoaves 4 = .ok (.iload_n 1, 1) := by decide +kernel
theorem dX11_returnLoaves_5 : decode cX11_returnLoaves 5 = .ok (.invokevirtual 69, 3) := by decide +kernel
theorem dX11_returnLoaves_8 : decode cX11_returnLoaves 8 = .ok (.invokestatic 45, 3) := by decide +kernel
theorem dX11_returnLoaves_11 : decode cX11_returnLoaves 11 = .ok (.aload_n 0, 1) := by decide +kernel
theorem dX11_returnLoaves_12 : decode cX11_returnLoaves 12 = .ok (.getfield 26, 3) := by decide +kernel
theorem dX11_returnLoaves_15 : decode cX11_returnLoaves 15 = .ok (.aload_n 0, 1) := by decide +kernel
theorem dX11_returnLoaves_16 : decode cX11_returnLoaves 16 = .ok (.getfield 10, 3) := by decide +kernel
theorem dX11_returnLoaves_19 : decode cX11_returnLoaves 19 = .ok (.invokevirtual 49, 3) := by decide +kernel
theorem dX11_returnLoaves_22 : decode cX11_returnLoaves 22 = .ok (.aload_n 0, 1) := by decide +kernel
theorem dX11_returnLoaves_23 : decode cX11_returnLoaves 23 = .ok (.getfield 10, 3) := by decide +kernel
theorem dX11_returnLoaves_26 : decode cX11_returnLoaves 26 = .ok (.getfield 107, 3) := by decide +kernel
theorem dX11_returnLoaves_29 : decode cX11_returnLoaves 29 = .ok (.iload_n 1, 1) := by decide +kernel
theorem dX11_returnLoaves_30 : decode cX11_returnLoaves 30 = .ok (.invokevirtual 111, 3) := by decide +kernel
theorem dX11_returnLoaves_33 : decode cX11_returnLoaves 33 = .ok (.ireturn, 1) := by decide +kernel
theorem dX11_giveAway_0 : decode cX11_giveAway 0 = .ok (.aload_n 0, 1) := by decide +kernel
theorem dX11_giveAway_1 : decode cX11_giveAway 1 = .ok (.getfield 26, 3) := by decide +kernel
theorem dX11_giveAway_4 : decode cX11_giveAway 4 = .ok (.aload_n 0, 1) := by decide +kernel
theorem dX11_giveAway_5 : decode cX11_giveAway 5 = .ok (.getfield 10, 3) := by decide +kernel
theorem dX11_giveAway_8 : decode cX11_giveAway 8 = .ok (.invokevirtual 49, 3) := by decide +kernel
theorem dX11_giveAway_11 : decode cX11_giveAway 11 = .ok (.aload_n 0, 1) := by decide +kernel
theorem dX11_giveAway_12 : decode cX11_giveAway 12 = .ok (.getfield 10, 3) := by decide +kernel
theorem dX11_giveAway_15 : decode cX11_giveAway 15 = .ok (.getfield 107, 3) := by decide +kernel
theorem dX11_giveAway_18 : decode cX11_giveAway 18 = .ok (.invokevirtual 116, 3) := by decide +kernel
theorem dX11_giveAway_21 : decode cX11_giveAway 21 = .ok (.ireturn, 1) := by decide +kernel
theorem dX11_household_0 : decode cX11_household 0 = .ok (.aload_n 0, 1) := by decide +kernel
theorem dX11_household_1 : decode cX11_household 1 = .ok (.getfield 10, 3) := by decide +kernel
theorem dX11_household_4 : decode cX11_household 4 = .ok (.iload_n 1, 1) := by decide +kernel
theorem dX11_household_5 : decode cX11_household 5 = .ok (.invokevirtual 69, 3) := by decide +kernel
theorem dX11_household_8 : decode cX11_household 8 = .ok (.invokestatic 45, 3) := by decide +kernel
theorem dX11_household_11 : decode cX11_household 11 = .ok (.iload_n 2, 1) := by decide +kernel
theorem dX11_household_12 : decode cX11_household 12 = .ok (.bipush 8, 2) := by decide +kernel
theorem dX11_household_14 : decode cX11_household 14 = .ok (.invokestatic 120, 3) := by decide +kernel
theorem dX11_household_17 : decode cX11_household 17 = .ok (.invokestatic 45, 3) := by decide +kernel
theorem dX11_household_20 : decode cX11_household 20 = .ok (.iload_n 2, 1) := by decide +kernel
theorem dX11_household_21 : decode cX11_household 21 = .ok (.tableswitch 84 4 7 #[31, 44, 57, 72], 31) := by decide +kernel
theorem dX11_household_52 : decode cX11_household 52 = .ok (.aload_n 0, 1) := by decide +kernel
theorem dX11_household_53 : decode cX11_household 53 = .ok (.getfield 10, 3) := by decide +kernel
theorem dX11_household_56 : decode cX11_household 56 = .ok (.getfield 107, 3) := by decide +kernel
theorem dX11_household_59 : decode cX11_household 59 = .ok (.iconst 0, 1) := by decide +kernel
theorem dX11_household_60 : decode cX11_household 60 = .ok (.iload_n 1, 1) := by decide +kernel
theorem dX11_household_61 : decode cX11_household 61 = .ok (.invokevirtual 123, 3) := by decide +kernel
theorem dX11_household_64 : decode cX11_household 64 = .ok (.ireturn, 1) := by decide +kernel
theorem dX11_household_65 : decode cX11_household 65 = .ok (.aload_n 0, 1) := by decide +kernel
theorem dX11_household_66 : decode cX11_household 66 = .ok (.getfield 10, 3) := by decide +kernel
theorem dX11_household_69 : decode cX11_household 69 = .ok (.getfield 107, 3) := by decide +kernel
theorem dX11_household_72 : decode cX11_household 72 = .ok (.iconst 5, 1) := by decide +kernel
theorem dX11_household_73 : decode cX11_household 73 = .ok (.iload_n 1, 1) := by decide +kernel
theorem dX11_household_74 : decode cX11_household 74 = .ok (.invokevirtual 123, 3) := by decide +kernel
theorem dX11_household_77 : decode cX11_household 77 = .ok (.ireturn, 1) := by decide +kernel
theorem dX11_household_78 : decode cX11_household 78 = .ok (.aload_n 0, 1) := by decide +kernel
theorem dX11_household_79 : decode cX11_household 79 = .ok (.getfield 10, 3) := by decide +kernel
theorem dX11_household_82 : decode cX11_household 82 = .ok (.getfield 107, 3) := by decide +kernel
theorem dX11_household_85 : decode cX11_household 85 = .ok (.iconst 0, 1) := by decide +kernel
theorem dX11_household_86 : decode cX11_household 86 = .ok (.iload_n 1, 1) := by decide +kernel
theorem dX11_household_87 : decode cX11_household 87 = .ok (.iconst 5, 1) := by decide +kernel
theorem dX11_household_88 : decode cX11_household 88 = .ok (.iload_n 1, 1) := by decide +kernel
theorem dX11_household_89 : decode cX11_household 89 = .ok (.invokevirtual 126, 3) := by decide +kernel
theorem dX11_household_92 : decode cX11_household 92 = .ok (.ireturn, 1) := by decide +kernel
theorem dX11_household_93 : decode cX11_household 93 = .ok (.aload_n 0, 1) := by decide +kernel
theorem dX11_household_94 : decode cX11_household 94 = .ok (.getfield 10, 3) := by decide +kernel
theorem dX11_household_97 : decode cX11_household 97 = .ok (.getfield 79, 3) := by decide +kernel
theorem dX11_household_100 : decode cX11_household 100 = .ok (.iload_n 1, 1) := by decide +kernel
theorem dX11_household_101 : decode cX11_household 101 = .ok (.invokevirtual 130, 3) := by decide +kernel
theorem dX11_household_104 : decode cX11_household 104 = .ok (.ireturn, 1) := by decide +kernel
theorem dX11_household_105 : decode cX11_household 105 = .ok (.aload_n 0, 1) := by decide +kernel
theorem dX11_household_106 : decode cX11_household 106 = .ok (.getfield 10, 3) := by decide +kernel
theorem dX11_household_109 : decode cX11_household 109 = .ok (.getfield 53, 3) := by decide +kernel
theorem dX11_household_112 : decode cX11_household 112 = .ok (.iload_n 1, 1) := by decide +kernel
theorem dX11_household_113 : decode cX11_household 113 = .ok (.iload_n 2, 1) := by decide +kernel
theorem dX11_household_114 : decode cX11_household 114 = .ok (.invokevirtual 133, 3) := by decide +kernel
theorem dX11_household_117 : decode cX11_household 117 = .ok (.ireturn, 1) := by decide +kernel
theorem dX11_due_0 : decode cX11_due 0 = .ok (.aload_n 0, 1) := by decide +kernel
theorem dX11_due_1 : decode cX11_due 1 = .ok (.getfield 10, 3) := by decide +kernel
theorem dX11_due_4 : decode cX11_due 4 = .ok (.iload_n 1, 1) := by decide +kernel
theorem dX11_due_5 : decode cX11_due 5 = .ok (.invokevirtual 69, 3) := by decide +kernel
theorem dX11_due_8 : decode cX11_due 8 = .ok (.invokestatic 45, 3) := by decide +kernel
theorem dX11_due_11 : decode cX11_due 11 = .ok (.aload_n 0, 1) := by decide +kernel
theorem dX11_due_12 : decode cX11_due 12 = .ok (.getfield 10, 3) := by decide +kernel
theorem dX11_due_15 : decode cX11_due 15 = .ok (.getfield 53, 3) := by decide +kernel
theorem dX11_due_18 : decode cX11_due 18 = .ok (.iload_n 1, 1) := by decide +kernel
theorem dX11_due_19 : decode cX11_due 19 = .ok (.invokevirtual 136, 3) := by decide +kernel
theorem dX11_due_22 : decode cX11_due 22 = .ok (.lreturn, 1) := by decide +kernel
theorem dX11_nextForWood_0 : decode cX11_nextForWood 0 = .ok (.aload_n 0, 1) := by decide +kernel
theorem dX11_nextForWood_1 : decode cX11_nextForWood 1 = .ok (.getfield 10, 3) := by decide +kernel
theorem dX11_nextForWood_4 : decode cX11_nextForWood 4 = .ok (.getfield 53, 3) := by decide +kernel
theorem dX11_nextForWood_7 : decode cX11_nextForWood 7 = .ok (.invokevirtual 140, 3) := by decide +kernel
theorem dX11_nextForWood_10 : decode cX11_nextForWood 10 = .ok (.ireturn, 1) := by decide +kernel
theorem dX11_balance_0 : decode cX11_balance 0 = .ok (.aload_n 0, 1) := by decide +kernel
theorem dX11_balance_1 : decode cX11_balance 1 = .ok (.getfield 10, 3) := by decide +kernel
theorem dX11_balance_4 : decode cX11_balance 4 = .ok (.iload_n 1, 1) := by decide +kernel
theorem dX11_balance_5 : decode cX11_balance 5 = .ok (.invokevirtual 69, 3) := by decide +kernel
theorem dX11_balance_8 : decode cX11_balance 8 = .ok (.invokestatic 45, 3) := by decide +kernel
theorem dX11_balance_11 : decode cX11_balance 11 = .ok (.iload_n 2, 1) := by decide +kernel
theorem dX11_balance_12 : decode cX11_balance 12 = .ok (.iconst 3, 1) := by decide +kernel
theorem dX11_balance_13 : decode cX11_balance 13 = .ok (.invokestatic 120, 3) := by decide +kernel
theorem dX11_balance_16 : decode cX11_balance 16 = .ok (.invokestatic 45, 3) := by decide +kernel
theorem dX11_balance_19 : decode cX11_balance 19 = .ok (.aload_n 0, 1) := by decide +kernel
theorem dX11_balance_20 : decode cX11_balance 20 = .ok (.getfield 10, 3) := by decide +kernel
theorem dX11_balance_23 : decode cX11_balance 23 = .ok (.getfield 107, 3) := by decide +kernel
theorem dX11_balance_26 : decode cX11_balance 26 = .ok (.iload_n 1, 1) := by decide +kernel
theorem dX11_balance_27 : decode cX11_balance 27 = .ok (.iload_n 2, 1) := by decide +kernel
theorem dX11_balance_28 : decode cX11_balance 28 = .ok (.invokevirtual 143, 3) := by decide +kernel
theorem dX11_balance_31 : decode cX11_balance 31 = .ok (.ireturn, 1) := by decide +kernel
theorem dX11_batch_0 : decode cX11_batch 0 = .ok (.iload_n 1, 1) := by decide +kernel
theorem dX11_batch_1 : decode cX11_batch 1 = .ok (.ifCond .ge 7, 3) := by decide +kernel
theorem dX11_batch_4 : decode cX11_batch 4 = .ok (.iconst 2, 1) := by decide +kernel
theorem dX11_batch_5 : decode cX11_batch 5 = .ok (.goto 8, 3) := by decide +kernel
theorem dX11_batch_8 : decode cX11_batch 8 = .ok (.iload_n 2, 1) := by decide +kernel
theorem dX11_batch_9 : decode cX11_batch 9 = .ok (.iconst 4, 1) := by decide +kernel
theorem dX11_batch_10 : decode cX11_batch 10 = .ok (.invokestatic 120, 3) := by decide +kernel
theorem dX11_batch_13 : decode cX11_batch 13 = .ok (.invokestatic 45, 3) := by decide +kernel
theorem dX11_batch_16 : decode cX11_batch 16 = .ok (.aload_n 0, 1) := by decide +kernel
theorem dX11_batch_17 : decode cX11_batch 17 = .ok (.getfield 10, 3) := by decide +kernel
theorem dX11_batch_20 : decode cX11_batch 20 = .ok (.getfield 79, 3) := by decide +kernel
theorem dX11_batch_23 : decode cX11_batch 23 = .ok (.iload_n 1, 1) := by decide +kernel
theorem dX11_batch_24 : decode cX11_batch 24 = .ok (.invokevirtual 87, 3) := by decide +kernel
theorem dX11_batch_27 : decode cX11_batch 27 = .ok (.ifCond .ne 5, 3) := by decide +kernel
theorem dX11_batch_30 : decode cX11_batch 30 = .ok (.iconst (-1), 1) := by decide +kernel
theorem dX11_batch_31 : decode cX11_batch 31 = .ok (.ireturn, 1) := by decide +kernel
theorem dX11_batch_32 : decode cX11_batch 32 = .ok (.iload_n 2, 1) := by decide +kernel
theorem dX11_batch_33 : decode cX11_batch 33 = .ok (.iconst 3, 1) := by decide +kernel
theorem dX11_batch_34 : decode cX11_batch 34 = .ok (.if_icmp .ge 16, 3) := by decide +kernel
theorem dX11_batch_37 : decode cX11_batch 37 = .ok (.aload_n 0, 1) := by decide +kernel
theorem dX11_batch_38 : decode cX11_batch 38 = .ok (.getfield 10, 3) := by decide +kernel
theorem dX11_batch_41 : decode cX11_batch 41 = .ok (.getfield 79, 3) := by decide +kernel
theorem dX11_batch_44 : decode cX11_batch 44 = .ok (.iload_n 1, 1) := by decide +kernel
theorem dX11_batch_45 : decode cX11_batch 45 = .ok (.iload_n 2, 1) := by decide +kernel
theorem dX11_batch_46 : decode cX11_batch 46 = .ok (.invokevirtual 146, 3) := by decide +kernel
theorem dX11_batch_49 : decode cX11_batch 49 = .ok (.ireturn, 1) := by decide +kernel
theorem dX11_batch_50 : decode cX11_batch 50 = .ok (.aload_n 0, 1) := by decide +kernel
theorem dX11_batch_51 : decode cX11_batch 51 = .ok (.getfield 10, 3) := by decide +kernel
theorem dX11_batch_54 : decode cX11_batch 54 = .ok (.aload_n 0, 1) := by decide +kernel
theorem dX11_batch_55 : decode cX11_batch 55 = .ok (.getfield 19, 3) := by decide +kernel
theorem dX11_batch_58 : decode cX11_batch 58 = .ok (.invokevirtual 147, 3) := by decide +kernel
theorem dX11_batch_61 : decode cX11_batch 61 = .ok (.aload_n 0, 1) := by decide +kernel
theorem dX11_batch_62 : decode cX11_batch 62 = .ok (.getfield 19, 3) := by decide +kernel
theorem dX11_batch_65 : decode cX11_batch 65 = .ok (.iload_n 1, 1) := by decide +kernel
theorem dX11_batch_66 : decode cX11_batch 66 = .ok (.invokevirtual 151, 3) := by decide +kernel
theorem dX11_batch_69 : decode cX11_batch 69 = .ok (.ireturn, 1) := by decide +kernel
theorem dX11_loaf_0 : decode cX11_loaf 0 = .ok (.aload_n 0, 1) := by decide +kernel
theorem dX11_loaf_1 : decode cX11_loaf 1 = .ok (.getfield 10, 3) := by decide +kernel
theorem dX11_loaf_4 : decode cX11_loaf 4 = .ok (.getfield 107, 3) := by decide +kernel
theorem dX11_loaf_7 : decode cX11_loaf 7 = .ok (.iload_n 1, 1) := by decide +kernel
theorem dX11_loaf_8 : decode cX11_loaf 8 = .ok (.invokevirtual 154, 3) := by decide +kernel
theorem dX11_loaf_11 : decode cX11_loaf 11 = .ok (.ifCond .eq 7, 3) := by decide +kernel
theorem dX11_loaf_14 : decode cX11_loaf 14 = .ok (.iconst 0, 1) := by decide +kernel
theorem dX11_loaf_15 : decode cX11_loaf 15 = .ok (.goto 4, 3) := by decide +kernel
theorem dX11_loaf_18 : decode cX11_loaf 18 = .ok (.iconst 1, 1) := by decide +kernel
theorem dX11_loaf_19 : decode cX11_loaf 19 = .ok (.invokestatic 45, 3) := by decide +kernel
theorem dX11_loaf_22 : decode cX11_loaf 22 = .ok (.iload_n 2, 1) := by decide +kernel
theorem dX11_loaf_23 : decode cX11_loaf 23 = .ok (.bipush 7, 2) := by decide +kernel
theorem dX11_loaf_25 : decode cX11_loaf 25 = .ok (.invokestatic 120, 3) := by decide +kernel
theorem dX11_loaf_28 : decode cX11_loaf 28 = .ok (.invokestatic 45, 3) := by decide +kernel
theorem dX11_loaf_31 : decode cX11_loaf 31 = .ok (.aload_n 0, 1) := by decide +kernel
theorem dX11_loaf_32 : decode cX11_loaf 32 = .ok (.getfield 10, 3) := by decide +kernel
theorem dX11_loaf_35 : decode cX11_loaf 35 = .ok (.getfield 107, 3) := by decide +kernel
theorem dX11_loaf_38 : decode cX11_loaf 38 = .ok (.iload_n 1, 1) := by decide +kernel
theorem dX11_loaf_39 : decode cX11_loaf 39 = .ok (.iload_n 2, 1) := by decide +kernel
theorem dX11_loaf_40 : decode cX11_loaf 40 = .ok (.invokevirtual 157, 3) := by decide +kernel
theorem dX11_loaf_43 : decode cX11_loaf 43 = .ok (.ireturn, 1) := by decide +kernel
theorem dX11_load_0 : decode cX11_load 0 = .ok (.iload_n 1, 1) := by decide +kernel
theorem dX11_load_1 : decode cX11_load 1 = .ok (.ifCond .ge 7, 3) := by decide +kernel
theorem dX11_load_4 : decode cX11_load 4 = .ok (.iconst 2, 1) := by decide +kernel
theorem dX11_load_5 : decode cX11_load 5 = .ok (.goto 8, 3) := by decide +kernel
theorem dX11_load_8 : decode cX11_load 8 = .ok (.iload_n 2, 1) := by decide +kernel
theorem dX11_load_9 : decode cX11_load 9 = .ok (.iconst 5, 1) := by decide +kernel
theorem dX11_load_10 : decode cX11_load 10 = .ok (.invokestatic 120, 3) := by decide +kernel
theorem dX11_load_13 : decode cX11_load 13 = .ok (.invokestatic 45, 3) := by decide +kernel
theorem dX11_load_16 : decode cX11_load 16 = .ok (.iload_n 1, 1) := by decide +kernel
theorem dX11_load_17 : decode cX11_load 17 = .ok (.aload_n 0, 1) := by decide +kernel
theorem dX11_load_18 : decode cX11_load 18 = .ok (.getfield 10, 3) := by decide +kernel
theorem dX11_load_21 : decode cX11_load 21 = .ok (.getfield 158, 3) := by decide +kernel
theorem dX11_load_24 : decode cX11_load 24 = .ok (.invokevirtual 162, 3) := by decide +kernel
theorem dX11_load_27 : decode cX11_load 27 = .ok (.if_icmp .ge 18, 3) := by decide +kernel
theorem dX11_load_30 : decode cX11_load 30 = .ok (.aload_n 0, 1) := by decide +kernel
theorem dX11_load_31 : decode cX11_load 31 = .ok (.getfield 10, 3) := by decide +kernel
theorem dX11_load_34 : decode cX11_load 34 = .ok (.getfield 158, 3) := by decide +kernel
theorem dX11_load_37 : decode cX11_load 37 = .ok (.iload_n 1, 1) := by decide +kernel
theorem dX11_load_38 : decode cX11_load 38 = .ok (.iload_n 2, 1) := by decide +kernel
theorem dX11_load_39 : decode cX11_load 39 = .ok (.invokevirtual 167, 3) := by decide +kernel
theorem dX11_load_42 : decode cX11_load 42 = .ok (.goto 4, 3) := by decide +kernel
theorem dX11_load_45 : decode cX11_load 45 = .ok (.iconst (-1), 1) := by decide +kernel
theorem dX11_load_46 : decode cX11_load 46 = .ok (.ireturn, 1) := by decide +kernel
theorem dX11_whole_0 : decode cX11_whole 0 = .ok (.iload_n 1, 1) := by decide +kernel
theorem dX11_whole_1 : decode cX11_whole 1 = .ok (.bipush 14, 2) := by decide +kernel
theorem dX11_whole_3 : decode cX11_whole 3 = .ok (.invokestatic 120, 3) := by decide +kernel
theorem dX11_whole_6 : decode cX11_whole 6 = .ok (.invokestatic 45, 3) := by decide +kernel
theorem dX11_whole_9 : decode cX11_whole 9 = .ok (.iload_n 1, 1) := by decide +kernel
theorem dX11_whole_10 : decode cX11_whole 10 = .ok (.tableswitch 205 0 12 #[66, 77, 85, 93, 104, 116, 128, 136, 147, 158, 169, 183, 194], 66) := by decide +kernel
theorem dX11_whole_76 : decode cX11_whole 76 = .ok (.aload_n 0, 1) := by decide +kernel
theorem dX11_whole_77 : decode cX11_whole 77 = .ok (.getfield 10, 3) := by decide +kernel
theorem dX11_whole_80 : decode cX11_whole 80 = .ok (.getfield 53, 3) := by decide +kernel
theorem dX11_whole_83 : decode cX11_whole 83 = .ok (.invokevirtual 168, 3) := by decide +kernel
theorem dX11_whole_86 : decode cX11_whole 86 = .ok (.ireturn, 1) := by decide +kernel
theorem dX11_whole_87 : decode cX11_whole 87 = .ok (.aload_n 0, 1) := by decide +kernel
theorem dX11_whole_88 : decode cX11_whole 88 = .ok (.getfield 10, 3) := by decide +kernel
theorem dX11_whole_91 : decode cX11_whole 91 = .ok (.getfield 169, 3) := by decide +kernel
theorem dX11_whole_94 : decode cX11_whole 94 = .ok (.ireturn, 1) := by decide +kernel
theorem dX11_whole_95 : decode cX11_whole 95 = .ok (.aload_n 0, 1) := by decide +kernel
theorem dX11_whole_96 : decode cX11_whole 96 = .ok (.getfield 10, 3) := by decide +kernel
theorem dX11_whole_99 : decode cX11_whole 99 = .ok (.getfield 172, 3) := by decide +kernel
theorem dX11_whole_102 : decode cX11_whole 102 = .ok (.ireturn, 1) := by decide +kernel
theorem dX11_whole_103 : decode cX11_whole 103 = .ok (.aload_n 0, 1) := by decide +kernel
theorem dX11_whole_104 : decode cX11_whole 104 = .ok (.getfield 10, 3) := by decide +kernel
theorem dX11_whole_107 : decode cX11_whole 107 = .ok (.getfield 79, 3) := by decide +kernel
theorem dX11_whole_110 : decode cX11_whole 110 = .ok (.invokevirtual 175, 3) := by decide +kernel
theorem dX11_whole_113 : decode cX11_whole 113 = .ok (.ireturn, 1) := by decide +kernel
theorem dX11_whole_114 : decode cX11_whole 114 = .ok (.aload_n 0, 1) := by decide +kernel
theorem dX11_whole_115 : decode cX11_whole 115 = .ok (.getfield 10, 3) := by decide +kernel
theorem dX11_whole_118 : decode cX11_whole 118 = .ok (.getfield 53, 3) := by decide +kernel
theorem dX11_whole_121 : decode cX11_whole 121 = .ok (.iconst 1, 1) := by decide +kernel
theorem dX11_whole_122 : decode cX11_whole 122 = .ok (.invokevirtual 176, 3) := by decide +kernel
theorem dX11_whole_125 : decode cX11_whole 125 = .ok (.ireturn, 1) := by decide +kernel
theorem dX11_whole_126 : decode cX11_whole 126 = .ok (.aload_n 0, 1) := by decide +kernel
theorem dX11_whole_127 : decode cX11_whole 127 = .ok (.getfield 10, 3) := by decide +kernel
theorem dX11_whole_130 : decode cX11_whole 130 = .ok (.getfield 53, 3) := by decide +kernel
theorem dX11_whole_133 : decode cX11_whole 133 = .ok (.iconst 2, 1) := by decide +kernel
theorem dX11_whole_134 : decode cX11_whole 134 = .ok (.invokevirtual 176, 3) := by decide +kernel
theorem dX11_whole_137 : decode cX11_whole 137 = .ok (.ireturn, 1) := by decide +kernel
theorem dX11_whole_138 : decode cX11_whole 138 = .ok (.aload_n 0, 1) := by decide +kernel
theorem dX11_whole_139 : decode cX11_whole 139 = .ok (.getfield 10, 3) := by decide +kernel
theorem dX11_whole_142 : decode cX11_whole 142 = .ok (.getfield 179, 3) := by decide +kernel
theorem dX11_whole_145 : decode cX11_whole 145 = .ok (.ireturn, 1) := by decide +kernel
theorem dX11_whole_146 : decode cX11_whole 146 = .ok (.aload_n 0, 1) := by decide +kernel
theorem dX11_whole_147 : decode cX11_whole 147 = .ok (.getfield 10, 3) := by decide +kernel
theorem dX11_whole_150 : decode cX11_whole 150 = .ok (.getfield 107, 3) := by decide +kernel
theorem dX11_whole_153 : decode cX11_whole 153 = .ok (.invokevirtual 182, 3) := by decide +kernel
theorem dX11_whole_156 : decode cX11_whole 156 = .ok (.ireturn, 1) := by decide +kernel
theorem dX11_whole_157 : decode cX11_whole 157 = .ok (.aload_n 0, 1) := by decide +kernel
theorem dX11_whole_158 : decode cX11_whole 158 = .ok (.getfield 10, 3) := by decide +kernel
theorem dX11_whole_161 : decode cX11_whole 161 = .ok (.getfield 107, 3) := by decide +kernel
theorem dX11_whole_164 : decode cX11_whole 164 = .ok (.invokevirtual 185, 3) := by decide +kernel
theorem dX11_whole_167 : decode cX11_whole 167 = .ok (.ireturn, 1) := by decide +kernel
theorem dX11_whole_168 : decode cX11_whole 168 = .ok (.aload_n 0, 1) := by decide +kernel
theorem dX11_whole_169 : decode cX11_whole 169 = .ok (.getfield 10, 3) := by decide +kernel
theorem dX11_whole_172 : decode cX11_whole 172 = .ok (.getfield 107, 3) := by decide +kernel
theorem dX11_whole_175 : decode cX11_whole 175 = .ok (.invokevirtual 188, 3) := by decide +kernel
theorem dX11_whole_178 : decode cX11_whole 178 = .ok (.ireturn, 1) := by decide +kernel
theorem dX11_whole_179 : decode cX11_whole 179 = .ok (.aload_n 0, 1) := by decide +kernel
theorem dX11_whole_180 : decode cX11_whole 180 = .ok (.getfield 10, 3) := by decide +kernel
theorem dX11_whole_183 : decode cX11_whole 183 = .ok (.getfield 107, 3) := by decide +kernel
theorem dX11_whole_186 : decode cX11_whole 186 = .ok (.iconst 5, 1) := by decide +kernel
theorem dX11_whole_187 : decode cX11_whole 187 = .ok (.bipush 8, 2) := by decide +kernel
theorem dX11_whole_189 : decode cX11_whole 189 = .ok (.invokevirtual 123, 3) := by decide +kernel
theorem dX11_whole_192 : decode cX11_whole 192 = .ok (.ireturn, 1) := by decide +kernel
theorem dX11_whole_193 : decode cX11_whole 193 = .ok (.aload_n 0, 1) := by decide +kernel
theorem dX11_whole_194 : decode cX11_whole 194 = .ok (.getfield 10, 3) := by decide +kernel
theorem dX11_whole_197 : decode cX11_whole 197 = .ok (.getfield 107, 3) := by decide +kernel
theorem dX11_whole_200 : decode cX11_whole 200 = .ok (.invokevirtual 191, 3) := by decide +kernel
theorem dX11_whole_203 : decode cX11_whole 203 = .ok (.ireturn, 1) := by decide +kernel
theorem dX11_whole_204 : decode cX11_whole 204 = .ok (.aload_n 0, 1) := by decide +kernel
theorem dX11_whole_205 : decode cX11_whole 205 = .ok (.getfield 10, 3) := by decide +kernel
theorem dX11_whole_208 : decode cX11_whole 208 = .ok (.getfield 158, 3) := by decide +kernel
theorem dX11_whole_211 : decode cX11_whole 211 = .ok (.invokevirtual 162, 3) := by decide +kernel
theorem dX11_whole_214 : decode cX11_whole 214 = .ok (.ireturn, 1) := by decide +kernel
theorem dX11_whole_215 : decode cX11_whole 215 = .ok (.aload_n 0, 1) := by decide +kernel
theorem dX11_whole_216 : decode cX11_whole 216 = .ok (.getfield 10, 3) := by decide +kernel
theorem dX11_whole_219 : decode cX11_whole 219 = .ok (.getfield 194, 3) := by decide +kernel
theorem dX11_whole_222 : decode cX11_whole 222 = .ok (.ireturn, 1) := by decide +kernel
theorem dX11_doughWith_0 : decode cX11_doughWith 0 = .ok (.iload_n 1, 1) := by decide +kernel
theorem dX11_doughWith_1 : decode cX11_doughWith 1 = .ok (.iconst 1, 1) := by decide +kernel
theorem dX11_doughWith_2 : decode cX11_doughWith 2 = .ok (.bipush 40, 2) := by decide +kernel
theorem dX11_doughWith_4 : decode cX11_doughWith 4 = .ok (.invokestatic 197, 3) := by decide +kernel
theorem dX11_doughWith_7 : decode cX11_doughWith 7 = .ok (.invokestatic 45, 3) := by decide +kernel
theorem dX11_doughWith_10 : decode cX11_doughWith 10 = .ok (.aload_n 0, 1) := by decide +kernel
theorem dX11_doughWith_11 : decode cX11_doughWith 11 = .ok (.getfield 10, 3) := by decide +kernel
theorem dX11_doughWith_14 : decode cX11_doughWith 14 = .ok (.aload_n 0, 1) := by decide +kernel
theorem dX11_doughWith_15 : decode cX11_doughWith 15 = .ok (.getfield 19, 3) := by decide +kernel
theorem dX11_doughWith_18 : decode cX11_doughWith 18 = .ok (.invokevirtual 147, 3) := by decide +kernel
theorem dX11_doughWith_21 : decode cX11_doughWith 21 = .ok (.aload_n 0, 1) := by decide +kernel
theorem dX11_doughWith_22 : decode cX11_doughWith 22 = .ok (.iload_n 1, 1) := by decide +kernel
theorem dX11_doughWith_23 : decode cX11_doughWith 23 = .ok (.invokevirtual 200, 3) := by decide +kernel
theorem dX11_doughWith_26 : decode cX11_doughWith 26 = .ok (.ireturn, 1) := by decide +kernel
theorem dX11_bestWood_0 : decode cX11_bestWood 0 = .ok (.aload_n 0, 1) := by decide +kernel
theorem dX11_bestWood_1 : decode cX11_bestWood 1 = .ok (.getfield 10, 3) := by decide +kernel
theorem dX11_bestWood_4 : decode cX11_bestWood 4 = .ok (.getfield 79, 3) := by decide +kernel
theorem dX11_bestWood_7 : decode cX11_bestWood 7 = .ok (.invokevirtual 175, 3) := by decide +kernel
theorem dX11_bestWood_10 : decode cX11_bestWood 10 = .ok (.ifCond .ne 5, 3) := by decide +kernel
theorem dX11_bestWood_13 : decode cX11_bestWood 13 = .ok (.iconst (-1), 1) := by decide +kernel
theorem dX11_bestWood_14 : decode cX11_bestWood 14 = .ok (.ireturn, 1) := by decide +kernel
theorem dX11_bestWood_15 : decode cX11_bestWood 15 = .ok (.aload_n 0, 1) := by decide +kernel
theorem dX11_bestWood_16 : decode cX11_bestWood 16 = .ok (.getfield 10, 3) := by decide +kernel
theorem dX11_bestWood_19 : decode cX11_bestWood 19 = .ok (.aload_n 0, 1) := by decide +kernel
theorem dX11_bestWood_20 : decode cX11_bestWood 20 = .ok (.getfield 19, 3) := by decide +kernel
theorem dX11_bestWood_23 : decode cX11_bestWood 23 = .ok (.invokevirtual 147, 3) := by decide +kernel
theorem dX11_bestWood_26 : decode cX11_bestWood 26 = .ok (.iconst 1, 1) := by decide +kernel
theorem dX11_bestWood_27 : decode cX11_bestWood 27 = .ok (.istore_n 1, 1) := by decide +kernel
theorem dX11_bestWood_28 : decode cX11_bestWood 28 = .ok (.aload_n 0, 1) := by decide +kernel
theorem dX11_bestWood_29 : decode cX11_bestWood 29 = .ok (.iconst 1, 1) := by decide +kernel
theorem dX11_bestWood_30 : decode cX11_bestWood 30 = .ok (.invokevirtual 200, 3) := by decide +kernel
theorem dX11_bestWood_33 : decode cX11_bestWood 33 = .ok (.istore_n 2, 1) := by decide +kernel
theorem dX11_bestWood_34 : decode cX11_bestWood 34 = .ok (.iconst 2, 1) := by decide +kernel
theorem dX11_bestWood_35 : decode cX11_bestWood 35 = .ok (.istore_n 3, 1) := by decide +kernel
theorem dX11_bestWood_36 : decode cX11_bestWood 36 = .ok (.iload_n 3, 1) := by decide +kernel
theorem dX11_bestWood_37 : decode cX11_bestWood 37 = .ok (.bipush 40, 2) := by decide +kernel
theorem dX11_bestWood_39 : decode cX11_bestWood 39 = .ok (.if_icmp .gt 27, 3) := by decide +kernel
theorem dX11_bestWood_42 : decode cX11_bestWood 42 = .ok (.aload_n 0, 1) := by decide +kernel
theorem dX11_bestWood_43 : decode cX11_bestWood 43 = .ok (.iload_n 3, 1) := by decide +kernel
theorem dX11_bestWood_44 : decode cX11_bestWood 44 = .ok (.invokevirtual 200, 3) := by decide +kernel
theorem dX11_bestWood_47 : decode cX11_bestWood 47 = .ok (.istore 4, 2) := by decide +kernel
theorem dX11_bestWood_49 : decode cX11_bestWood 49 = .ok (.iload 4, 2) := by decide +kernel
theorem dX11_bestWood_51 : decode cX11_bestWood 51 = .ok (.iload_n 2, 1) := by decide +kernel
theorem dX11_bestWood_52 : decode cX11_bestWood 52 = .ok (.if_icmp .ge 8, 3) := by decide +kernel
theorem dX11_bestWood_55 : decode cX11_bestWood 55 = .ok (.iload 4, 2) := by decide +kernel
theorem dX11_bestWood_57 : decode cX11_bestWood 57 = .ok (.istore_n 2, 1) := by decide +kernel
theorem dX11_bestWood_58 : decode cX11_bestWood 58 = .ok (.iload_n 3, 1) := by decide +kernel
theorem dX11_bestWood_59 : decode cX11_bestWood 59 = .ok (.istore_n 1, 1) := by decide +kernel
theorem dX11_bestWood_60 : decode cX11_bestWood 60 = .ok (.iinc 3 1, 3) := by decide +kernel
theorem dX11_bestWood_63 : decode cX11_bestWood 63 = .ok (.goto (-27), 3) := by decide +kernel
theorem dX11_bestWood_66 : decode cX11_bestWood 66 = .ok (.iload_n 1, 1) := by decide +kernel
theorem dX11_bestWood_67 : decode cX11_bestWood 67 = .ok (.ireturn, 1) := by decide +kernel
theorem dX11_likeMarks_0 : decode cX11_likeMarks 0 = .ok (.aload_n 0, 1) := by decide +kernel
theorem dX11_likeMarks_1 : decode cX11_likeMarks 1 = .ok (.getfield 10, 3) := by decide +kernel
theorem dX11_likeMarks_4 : decode cX11_likeMarks 4 = .ok (.getfield 53, 3) := by decide +kernel
theorem dX11_likeMarks_7 : decode cX11_likeMarks 7 = .ok (.invokevirtual 203, 3) := by decide +kernel
theorem dX11_likeMarks_10 : decode cX11_likeMarks 10 = .ok (.ireturn, 1) := by decide +kernel
theorem dX11_freeMark_0 : decode cX11_freeMark 0 = .ok (.iload_n 1, 1) := by decide +kernel
theorem dX11_freeMark_1 : decode cX11_freeMark 1 = .ok (.iconst 1, 1) := by decide +kernel
theorem dX11_freeMark_2 : decode cX11_freeMark 2 = .ok (.bipush 16, 2) := by decide +kernel
theorem dX11_freeMark_4 : decode cX11_freeMark 4 = .ok (.invokestatic 197, 3) := by decide +kernel
theorem dX11_freeMark_7 : decode cX11_freeMark 7 = .ok (.invokestatic 45, 3) := by decide +kernel
theorem dX11_freeMark_10 : decode cX11_freeMark 10 = .ok (.iconst 1, 1) := by decide +kernel
theorem dX11_freeMark_11 : decode cX11_freeMark 11 = .ok (.iload_n 1, 1) := by decide +kernel
theorem dX11_freeMark_12 : decode cX11_freeMark 12 = .ok (.ishl, 1) := by decide +kernel
theorem dX11_freeMark_13 : decode cX11_freeMark 13 = .ok (.iconst 1, 1) := by decide +kernel
theorem dX11_freeMark_14 : decode cX11_freeMark 14 = .ok (.isub, 1) := by decide +kernel
theorem dX11_freeMark_15 : decode cX11_freeMark 15 = .ok (.istore_n 2, 1) := by decide +kernel
theorem dX11_freeMark_16 : decode cX11_freeMark 16 = .ok (.iconst 0, 1) := by decide +kernel
theorem dX11_freeMark_17 : decode cX11_freeMark 17 = .ok (.istore_n 3, 1) := by decide +kernel
theorem dX11_freeMark_18 : decode cX11_freeMark 18 = .ok (.iload_n 3, 1) := by decide +kernel
theorem dX11_freeMark_19 : decode cX11_freeMark 19 = .ok (.ldc 206, 2) := by decide +kernel
theorem dX11_freeMark_21 : decode cX11_freeMark 21 = .ok (.if_icmp .ge 36, 3) := by decide +kernel
theorem dX11_freeMark_24 : decode cX11_freeMark 24 = .ok (.iload_n 2, 1) := by decide +kernel
theorem dX11_freeMark_25 : decode cX11_freeMark 25 = .ok (.ldc 206, 2) := by decide +kernel
theorem dX11_freeMark_27 : decode cX11_freeMark 27 = .ok (.if_icmp .gt 30, 3) := by decide +kernel
theorem dX11_freeMark_30 : decode cX11_freeMark 30 = .ok (.aload_n 0, 1) := by decide +kernel
theorem dX11_freeMark_31 : decode cX11_freeMark 31 = .ok (.getfield 10, 3) := by decide +kernel
theorem dX11_freeMark_34 : decode cX11_freeMark 34 = .ok (.getfield 53, 3) := by decide +kernel
theorem dX11_freeMark_37 : decode cX11_freeMark 37 = .ok (.iload_n 2, 1) := by decide +kernel
theorem dX11_freeMark_38 : decode cX11_freeMark 38 = .ok (.invokevirtual 207, 3) := by decide +kernel
theorem dX11_freeMark_41 : decode cX11_freeMark 41 = .ok (.ifCond .ne 5, 3) := by decide +kernel
theorem dX11_freeMark_44 : decode cX11_freeMark 44 = .ok (.iload_n 2, 1) := by decide +kernel
theorem dX11_freeMark_45 : decode cX11_freeMark 45 = .ok (.ireturn, 1) := by decide +kernel
theorem dX11_freeMark_46 : decode cX11_freeMark 46 = .ok (.iload_n 2, 1) := by decide +kernel
theorem dX11_freeMark_47 : decode cX11_freeMark 47 = .ok (.invokestatic 210, 3) := by decide +kernel
theorem dX11_freeMark_50 : decode cX11_freeMark 50 = .ok (.istore_n 2, 1) := by decide +kernel
theorem dX11_freeMark_51 : decode cX11_freeMark 51 = .ok (.iinc 3 1, 3) := by decide +kernel
theorem dX11_freeMark_54 : decode cX11_freeMark 54 = .ok (.goto (-36), 3) := by decide +kernel
theorem dX11_freeMark_57 : decode cX11_freeMark 57 = .ok (.iconst (-1), 1) := by decide +kernel
theorem dX11_freeMark_58 : decode cX11_freeMark 58 = .ok (.ireturn, 1) := by decide +kernel
theorem dX11_type_0 : decode cX11_type 0 = .ok (.iload_n 1, 1) := by decide +kernel
theorem dX11_type_1 : decode cX11_type 1 = .ok (.iconst 0, 1) := by decide +kernel
theorem dX11_type_2 : decode cX11_type 2 = .ok (.bipush 127, 2) := by decide +kernel
theorem dX11_type_4 : decode cX11_type 4 = .ok (.invokestatic 197, 3) := by decide +kernel
theorem dX11_type_7 : decode cX11_type 7 = .ok (.invokestatic 45, 3) := by decide +kernel
theorem dX11_type_10 : decode cX11_type 10 = .ok (.aload_n 0, 1) := by decide +kernel
theorem dX11_type_11 : decode cX11_type 11 = .ok (.getfield 33, 3) := by decide +kernel
theorem dX11_type_14 : decode cX11_type 14 = .ok (.invokevirtual 213, 3) := by decide +kernel
theorem dX11_type_17 : decode cX11_type 17 = .ok (.ifCond .eq 7, 3) := by decide +kernel
theorem dX11_type_20 : decode cX11_type 20 = .ok (.iconst 3, 1) := by decide +kernel
theorem dX11_type_21 : decode cX11_type 21 = .ok (.goto 4, 3) := by decide +kernel
theorem dX11_type_24 : decode cX11_type 24 = .ok (.iconst 0, 1) := by decide +kernel
theorem dX11_type_25 : decode cX11_type 25 = .ok (.invokestatic 45, 3) := by decide +kernel
theorem dX11_type_28 : decode cX11_type 28 = .ok (.aload_n 0, 1) := by decide +kernel
theorem dX11_type_29 : decode cX11_type 29 = .ok (.getfield 33, 3) := by decide +kernel
theorem dX11_type_32 : decode cX11_type 32 = .ok (.iload_n 1, 1) := by decide +kernel
theorem dX11_type_33 : decode cX11_type 33 = .ok (.invokevirtual 217, 3) := by decide +kernel
theorem dX11_type_36 : decode cX11_type 36 = .ok (.ireturn, 1) := by decide +kernel
theorem dX11_undo_0 : decode cX11_undo 0 = .ok (.aload_n 0, 1) := by decide +kernel
theorem dX11_undo_1 : decode cX11_undo 1 = .ok (.getfield 26, 3) := by decide +kernel
theorem dX11_undo_4 : decode cX11_undo 4 = .ok (.invokevirtual 243, 3) := by decide +kernel
theorem dX11_undo_7 : decode cX11_undo 7 = .ok (.ifCond .ne 7, 3) := by decide +kernel
theorem dX11_undo_10 : decode cX11_undo 10 = .ok (.iconst 3, 1) := by decide +kernel
theorem dX11_undo_11 : decode cX11_undo 11 = .ok (.goto 4, 3) := by decide +kernel
theorem dX11_undo_14 : decode cX11_undo 14 = .ok (.iconst 0, 1) := by decide +kernel
theorem dX11_undo_15 : decode cX11_undo 15 = .ok (.invokestatic 45, 3) := by decide +kernel
theorem dX11_undo_18 : decode cX11_undo 18 = .ok (.aload_n 0, 1) := by decide +kernel
theorem dX11_undo_19 : decode cX11_undo 19 = .ok (.getfield 26, 3) := by decide +kernel
theorem dX11_undo_22 : decode cX11_undo 22 = .ok (.aload_n 0, 1) := by decide +kernel
theorem dX11_undo_23 : decode cX11_undo 23 = .ok (.getfield 10, 3) := by decide +kernel
theorem dX11_undo_26 : decode cX11_undo 26 = .ok (.invokevirtual 244, 3) := by decide +kernel
theorem dX11_undo_29 : decode cX11_undo 29 = .ok (.ireturn, 1) := by decide +kernel
theorem dX11_refuse_0 : decode cX11_refuse 0 = .ok (.iload_n 0, 1) := by decide +kernel
theorem dX11_refuse_1 : decode cX11_refuse 1 = .ok (.iconst 1, 1) := by decide +kernel
theorem dX11_refuse_2 : decode cX11_refuse 2 = .ok (.if_icmp .ne 14, 3) := by decide +kernel
theorem dX11_refuse_5 : decode cX11_refuse 5 = .ok (.new 281, 3) := by decide +kernel
theorem dX11_refuse_8 : decode cX11_refuse 8 = .ok (.dup, 1) := by decide +kernel
theorem dX11_refuse_9 : decode cX11_refuse 9 = .ok (.ldc_w 283, 3) := by decide +kernel
theorem dX11_refuse_12 : decode cX11_refuse 12 = .ok (.invokespecial 285, 3) := by decide +kernel
theorem dX11_refuse_15 : decode cX11_refuse 15 = .ok (.athrow, 1) := by decide +kernel
theorem dX11_refuse_16 : decode cX11_refuse 16 = .ok (.iload_n 0, 1) := by decide +kernel
theorem dX11_refuse_17 : decode cX11_refuse 17 = .ok (.iconst 2, 1) := by decide +kernel
theorem dX11_refuse_18 : decode cX11_refuse 18 = .ok (.if_icmp .ne 14, 3) := by decide +kernel
theorem dX11_refuse_21 : decode cX11_refuse 21 = .ok (.new 288, 3) := by decide +kernel
theorem dX11_refuse_24 : decode cX11_refuse 24 = .ok (.dup, 1) := by decide +kernel
theorem dX11_refuse_25 : decode cX11_refuse 25 = .ok (.ldc_w 290, 3) := by decide +kernel
theorem dX11_refuse_28 : decode cX11_refuse 28 = .ok (.invokespecial 292, 3) := by decide +kernel
theorem dX11_refuse_31 : decode cX11_refuse 31 = .ok (.athrow, 1) := by decide +kernel
theorem dX11_refuse_32 : decode cX11_refuse 32 = .ok (.iload_n 0, 1) := by decide +kernel
theorem dX11_refuse_33 : decode cX11_refuse 33 = .ok (.iconst 3, 1) := by decide +kernel
theorem dX11_refuse_34 : decode cX11_refuse 34 = .ok (.if_icmp .ne 14, 3) := by decide +kernel
theorem dX11_refuse_37 : decode cX11_refuse 37 = .ok (.new 293, 3) := by decide +kernel
theorem dX11_refuse_40 : decode cX11_refuse 40 = .ok (.dup, 1) := by decide +kernel
theorem dX11_refuse_41 : decode cX11_refuse 41 = .ok (.ldc_w 295, 3) := by decide +kernel
theorem dX11_refuse_44 : decode cX11_refuse 44 = .ok (.invokespecial 297, 3) := by decide +kernel
theorem dX11_refuse_47 : decode cX11_refuse 47 = .ok (.athrow, 1) := by decide +kernel
theorem dX11_refuse_48 : decode cX11_refuse 48 = .ok (.return_, 1) := by decide +kernel
theorem dX11_whyNotWithin_0 : decode cX11_whyNotWithin 0 = .ok (.iload_n 0, 1) := by decide +kernel
theorem dX11_whyNotWithin_1 : decode cX11_whyNotWithin 1 = .ok (.iload_n 1, 1) := by decide +kernel
theorem dX11_whyNotWithin_2 : decode cX11_whyNotWithin 2 = .ok (.if_icmp .lt 8, 3) := by decide +kernel
theorem dX11_whyNotWithin_5 : decode cX11_whyNotWithin 5 = .ok (.iload_n 0, 1) := by decide +kernel
theorem dX11_whyNotWithin_6 : decode cX11_whyNotWithin 6 = .ok (.iload_n 2, 1) := by decide +kernel
theorem dX11_whyNotWithin_7 : decode cX11_whyNotWithin 7 = .ok (.if_icmp .le 7, 3) := by decide +kernel
theorem dX11_whyNotWithin_10 : decode cX11_whyNotWithin 10 = .ok (.iconst 2, 1) := by decide +kernel
theorem dX11_whyNotWithin_11 : decode cX11_whyNotWithin 11 = .ok (.goto 4, 3) := by decide +kernel
theorem dX11_whyNotWithin_14 : decode cX11_whyNotWithin 14 = .ok (.iconst 0, 1) := by decide +kernel
theorem dX11_whyNotWithin_15 : decode cX11_whyNotWithin 15 = .ok (.ireturn, 1) := by decide +kernel
theorem dX11_whyNotBelow_0 : decode cX11_whyNotBelow 0 = .ok (.iload_n 0, 1) := by decide +kernel
theorem dX11_whyNotBelow_1 : decode cX11_whyNotBelow 1 = .ok (.iconst 0, 1) := by decide +kernel
theorem dX11_whyNotBelow_2 : decode cX11_whyNotBelow 2 = .ok (.iload_n 1, 1) := by decide +kernel
theorem dX11_whyNotBelow_3 : decode cX11_whyNotBelow 3 = .ok (.iconst 1, 1) := by decide +kernel
theorem dX11_whyNotBelow_4 : decode cX11_whyNotBelow 4 = .ok (.isub, 1) := by decide +kernel
theorem dX11_whyNotBelow_5 : decode cX11_whyNotBelow 5 = .ok (.invokestatic 197, 3) := by decide +kernel
theorem dX11_whyNotBelow_8 : decode cX11_whyNotBelow 8 = .ok (.ireturn, 1) := by decide +kernel
theorem dX11_doughOfArrangedDay_0 : decode cX11_doughOfArrangedDay 0 = .ok (.aload_n 0, 1) := by decide +kernel
theorem dX11_doughOfArrangedDay_1 : decode cX11_doughOfArrangedDay 1 = .ok (.getfield 19, 3) := by decide +kernel
theorem dX11_doughOfArrangedDay_4 : decode cX11_doughOfArrangedDay 4 = .ok (.aload_n 0, 1) := by decide +kernel
theorem dX11_doughOfArrangedDay_5 : decode cX11_doughOfArrangedDay 5 = .ok (.getfield 10, 3) := by decide +kernel
theorem dX11_doughOfArrangedDay_8 : decode cX11_doughOfArrangedDay 8 = .ok (.getfield 79, 3) := by decide +kernel
theorem dX11_doughOfArrangedDay_11 : decode cX11_doughOfArrangedDay 11 = .ok (.aload_n 0, 1) := by decide +kernel
theorem dX11_doughOfArrangedDay_12 : decode cX11_doughOfArrangedDay 12 = .ok (.getfield 10, 3) := by decide +kernel
theorem dX11_doughOfArrangedDay_15 : decode cX11_doughOfArrangedDay 15 = .ok (.iload_n 1, 1) := by decide +kernel
theorem dX11_doughOfArrangedDay_16 : decode cX11_doughOfArrangedDay 16 = .ok (.invokevirtual 298, 3) := by decide +kernel
theorem dX11_doughOfArrangedDay_19 : decode cX11_doughOfArrangedDay 19 = .ok (.invokevirtual 301, 3) := by decide +kernel
theorem dX11_doughOfArrangedDay_22 : decode cX11_doughOfArrangedDay 22 = .ok (.aload_n 0, 1) := by decide +kernel
theorem dX11_doughOfArrangedDay_23 : decode cX11_doughOfArrangedDay 23 = .ok (.getfield 19, 3) := by decide +kernel
theorem dX11_doughOfArrangedDay_26 : decode cX11_doughOfArrangedDay 26 = .ok (.aload_n 0, 1) := by decide +kernel
theorem dX11_doughOfArrangedDay_27 : decode cX11_doughOfArrangedDay 27 = .ok (.getfield 10, 3) := by decide +kernel
theorem dX11_doughOfArrangedDay_30 : decode cX11_doughOfArrangedDay 30 = .ok (.getfield 79, 3) := by decide +kernel
theorem dX11_doughOfArrangedDay_33 : decode cX11_doughOfArrangedDay 33 = .ok (.invokevirtual 305, 3) := by decide +kernel
theorem dX11_doughOfArrangedDay_36 : decode cX11_doughOfArrangedDay 36 = .ok (.ireturn, 1) := by decide +kernel
theorem dX11_nextWithAsMany_0 : decode cX11_nextWithAsMany 0 = .ok (.iload_n 0, 1) := by decide +kernel
theorem dX11_nextWithAsMany_1 : decode cX11_nextWithAsMany 1 = .ok (.iload_n 0, 1) := by decide +kernel
theorem dX11_nextWithAsMany_2 : decode cX11_nextWithAsMany 2 = .ok (.ineg, 1) := by decide +kernel
theorem dX11_nextWithAsMany_3 : decode cX11_nextWithAsMany 3 = .ok (.iand, 1) := by decide +kernel
theorem dX11_nextWithAsMany_4 : decode cX11_nextWithAsMany 4 = .ok (.istore_n 1, 1) := by decide +kernel
theorem dX11_nextWithAsMany_5 : decode cX11_nextWithAsMany 5 = .ok (.iload_n 1, 1) := by decide +kernel
theorem dX11_nextWithAsMany_6 : decode cX11_nextWithAsMany 6 = .ok (.ifCond .ne 7, 3) := by decide +kernel
theorem dX11_nextWithAsMany_9 : decode cX11_nextWithAsMany 9 = .ok (.ldc_w 308, 3) := by decide +kernel
theorem dX11_nextWithAsMany_12 : decode cX11_nextWithAsMany 12 = .ok (.ireturn, 1) := by decide +kernel
theorem dX11_nextWithAsMany_13 : decode cX11_nextWithAsMany 13 = .ok (.iload_n 0, 1) := by decide +kernel
theorem dX11_nextWithAsMany_14 : decode cX11_nextWithAsMany 14 = .ok (.iload_n 1, 1) := by decide +kernel
theorem dX11_nextWithAsMany_15 : decode cX11_nextWithAsMany 15 = .ok (.iadd, 1) := by decide +kernel
theorem dX11_nextWithAsMany_16 : decode cX11_nextWithAsMany 16 = .ok (.istore_n 2, 1) := by decide +kernel
theorem dX11_nextWithAsMany_17 : decode cX11_nextWithAsMany 17 = .ok (.iload_n 2, 1) := by decide +kernel
theorem dX11_nextWithAsMany_18 : decode cX11_nextWithAsMany 18 = .ok (.iload_n 2, 1) := by decide +kernel
theorem dX11_nextWithAsMany_19 : decode cX11_nextWithAsMany 19 = .ok (.iload_n 0, 1) := by decide +kernel
theorem dX11_nextWithAsMany_20 : decode cX11_nextWithAsMany 20 = .ok (.ixor, 1) := by decide +kernel
theorem dX11_nextWithAsMany_21 : decode cX11_nextWithAsMany 21 = .ok (.iload_n 1, 1) := by decide +kernel
theorem dX11_nextWithAsMany_22 : decode cX11_nextWithAsMany 22 = .ok (.idiv, 1) := by decide +kernel
theorem dX11_nextWithAsMany_23 : decode cX11_nextWithAsMany 23 = .ok (.iconst 2, 1) := by decide +kernel
theorem dX11_nextWithAsMany_24 : decode cX11_nextWithAsMany 24 = .ok (.ishr, 1) := by decide +kernel
theorem dX11_nextWithAsMany_25 : decode cX11_nextWithAsMany 25 = .ok (.ior, 1) := by decide +kernel
theorem dX11_nextWithAsMany_26 : decode cX11_nextWithAsMany 26 = .ok (.ireturn, 1) := by decide +kernel
theorem dX11_contains_0 : decode cX11_contains 0 = .ok (.iload_n 1, 1) := by decide +kernel
theorem dX11_contains_1 : decode cX11_contains 1 = .ok (.iload_n 0, 1) := by decide +kernel
theorem dX11_contains_2 : decode cX11_contains 2 = .ok (.iconst (-1), 1) := by decide +kernel
theorem dX11_contains_3 : decode cX11_contains 3 = .ok (.ixor, 1) := by decide +kernel
theorem dX11_contains_4 : decode cX11_contains 4 = .ok (.iand, 1) := by decide +kernel
theorem dX11_contains_5 : decode cX11_contains 5 = .ok (.ifCond .ne 7, 3) := by decide +kernel
theorem dX11_contains_8 : decode cX11_contains 8 = .ok (.iconst 1, 1) := by decide +kernel
theorem dX11_contains_9 : decode cX11_contains 9 = .ok (.goto 4, 3) := by decide +kernel
theorem dX11_contains_12 : decode cX11_contains 12 = .ok (.iconst 0, 1) := by decide +kernel
theorem dX11_contains_13 : decode cX11_contains 13 = .ok (.ireturn, 1) := by decide +kernel
