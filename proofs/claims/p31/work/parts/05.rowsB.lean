theorem dX2_init_0 : decode cX2_init 0 = .ok (.aload_n 0, 1) := by decide +kernel
theorem dX2_init_1 : decode cX2_init 1 = .ok (.invokespecial 3, 3) := by decide +kernel
theorem dX2_init_4 : decode cX2_init 4 = .ok (.aload_n 0, 1) := by decide +kernel
theorem dX2_init_5 : decode cX2_init 5 = .ok (.sipush 150, 3) := by decide +kernel
theorem dX2_init_8 : decode cX2_init 8 = .ok (.newarray .byte, 2) := by decide +kernel
theorem dX2_init_10 : decode cX2_init 10 = .ok (.putfield 11, 3) := by decide +kernel
theorem dX2_init_13 : decode cX2_init 13 = .ok (.aload_n 0, 1) := by decide +kernel
theorem dX2_init_14 : decode cX2_init 14 = .ok (.iconst 3, 1) := by decide +kernel
theorem dX2_init_15 : decode cX2_init 15 = .ok (.newarray .int, 2) := by decide +kernel
theorem dX2_init_17 : decode cX2_init 17 = .ok (.putfield 15, 3) := by decide +kernel
theorem dX2_init_20 : decode cX2_init 20 = .ok (.aload_n 0, 1) := by decide +kernel
theorem dX2_init_21 : decode cX2_init 21 = .ok (.iconst (-1), 1) := by decide +kernel
theorem dX2_init_22 : decode cX2_init 22 = .ok (.putfield 19, 3) := by decide +kernel
theorem dX2_init_25 : decode cX2_init 25 = .ok (.return_, 1) := by decide +kernel
theorem dX2_isFull_0 : decode cX2_isFull 0 = .ok (.aload_n 0, 1) := by decide +kernel
theorem dX2_isFull_1 : decode cX2_isFull 1 = .ok (.getfield 23, 3) := by decide +kernel
theorem dX2_isFull_4 : decode cX2_isFull 4 = .ok (.sipush 150, 3) := by decide +kernel
theorem dX2_isFull_7 : decode cX2_isFull 7 = .ok (.if_icmp .lt 7, 3) := by decide +kernel
theorem dX2_isFull_10 : decode cX2_isFull 10 = .ok (.iconst 1, 1) := by decide +kernel
theorem dX2_isFull_11 : decode cX2_isFull 11 = .ok (.goto 4, 3) := by decide +kernel
theorem dX2_isFull_14 : decode cX2_isFull 14 = .ok (.iconst 0, 1) := by decide +kernel
theorem dX2_isFull_15 : decode cX2_isFull 15 = .ok (.ireturn, 1) := by decide +kernel
theorem dX2_append_0 : decode cX2_append 0 = .ok (.aload_n 0, 1) := by decide +kernel
theorem dX2_append_1 : decode cX2_append 1 = .ok (.invokevirtual 26, 3) := by decide +kernel
theorem dX2_append_4 : decode cX2_append 4 = .ok (.ifCond .ne 24, 3) := by decide +kernel
theorem dX2_append_7 : decode cX2_append 7 = .ok (.aload_n 0, 1) := by decide +kernel
theorem dX2_append_8 : decode cX2_append 8 = .ok (.getfield 11, 3) := by decide +kernel
theorem dX2_append_11 : decode cX2_append 11 = .ok (.aload_n 0, 1) := by decide +kernel
theorem dX2_append_12 : decode cX2_append 12 = .ok (.getfield 23, 3) := by decide +kernel
theorem dX2_append_15 : decode cX2_append 15 = .ok (.iload_n 1, 1) := by decide +kernel
theorem dX2_append_16 : decode cX2_append 16 = .ok (.i2b, 1) := by decide +kernel
theorem dX2_append_17 : decode cX2_append 17 = .ok (.bastore, 1) := by decide +kernel
theorem dX2_append_18 : decode cX2_append 18 = .ok (.aload_n 0, 1) := by decide +kernel
theorem dX2_append_19 : decode cX2_append 19 = .ok (.dup, 1) := by decide +kernel
theorem dX2_append_20 : decode cX2_append 20 = .ok (.getfield 23, 3) := by decide +kernel
theorem dX2_append_23 : decode cX2_append 23 = .ok (.iconst 1, 1) := by decide +kernel
theorem dX2_append_24 : decode cX2_append 24 = .ok (.iadd, 1) := by decide +kernel
theorem dX2_append_25 : decode cX2_append 25 = .ok (.putfield 23, 3) := by decide +kernel
theorem dX2_append_28 : decode cX2_append 28 = .ok (.aload_n 0, 1) := by decide +kernel
theorem dX2_append_29 : decode cX2_append 29 = .ok (.getfield 23, 3) := by decide +kernel
theorem dX2_append_32 : decode cX2_append 32 = .ok (.ireturn, 1) := by decide +kernel
theorem dX3_init_0 : decode cX3_init 0 = .ok (.aload_n 0, 1) := by decide +kernel
theorem dX3_init_1 : decode cX3_init 1 = .ok (.invokespecial 3, 3) := by decide +kernel
theorem dX3_init_4 : decode cX3_init 4 = .ok (.aload_n 0, 1) := by decide +kernel
theorem dX3_init_5 : decode cX3_init 5 = .ok (.bipush 20, 2) := by decide +kernel
theorem dX3_init_7 : decode cX3_init 7 = .ok (.newarray .int, 2) := by decide +kernel
theorem dX3_init_9 : decode cX3_init 9 = .ok (.putfield 9, 3) := by decide +kernel
theorem dX3_init_12 : decode cX3_init 12 = .ok (.aload_n 0, 1) := by decide +kernel
theorem dX3_init_13 : decode cX3_init 13 = .ok (.bipush 20, 2) := by decide +kernel
theorem dX3_init_15 : decode cX3_init 15 = .ok (.newarray .int, 2) := by decide +kernel
theorem dX3_init_17 : decode cX3_init 17 = .ok (.putfield 15, 3) := by decide +kernel
theorem dX3_init_20 : decode cX3_init 20 = .ok (.aload_n 0, 1) := by decide +kernel
theorem dX3_init_21 : decode cX3_init 21 = .ok (.iconst 3, 1) := by decide +kernel
theorem dX3_init_22 : decode cX3_init 22 = .ok (.newarray .int, 2) := by decide +kernel
theorem dX3_init_24 : decode cX3_init 24 = .ok (.putfield 18, 3) := by decide +kernel
theorem dX3_init_27 : decode cX3_init 27 = .ok (.aload_n 0, 1) := by decide +kernel
theorem dX3_init_28 : decode cX3_init 28 = .ok (.new 21, 3) := by decide +kernel
theorem dX3_init_31 : decode cX3_init 31 = .ok (.dup, 1) := by decide +kernel
theorem dX3_init_32 : decode cX3_init 32 = .ok (.invokespecial 23, 3) := by decide +kernel
theorem dX3_init_35 : decode cX3_init 35 = .ok (.putfield 24, 3) := by decide +kernel
theorem dX3_init_38 : decode cX3_init 38 = .ok (.return_, 1) := by decide +kernel
theorem dX3_paleBelow_0 : decode cX3_paleBelow 0 = .ok (.iload_n 0, 1) := by decide +kernel
theorem dX3_paleBelow_1 : decode cX3_paleBelow 1 = .ok (.ifCond .lt 19, 3) := by decide +kernel
theorem dX3_paleBelow_4 : decode cX3_paleBelow 4 = .ok (.iload_n 0, 1) := by decide +kernel
theorem dX3_paleBelow_5 : decode cX3_paleBelow 5 = .ok (.iconst 3, 1) := by decide +kernel
theorem dX3_paleBelow_6 : decode cX3_paleBelow 6 = .ok (.if_icmp .ge 14, 3) := by decide +kernel
theorem dX3_paleBelow_9 : decode cX3_paleBelow 9 = .ok (.getstatic 28, 3) := by decide +kernel
theorem dX3_paleBelow_12 : decode cX3_paleBelow 12 = .ok (.iload_n 0, 1) := by decide +kernel
theorem dX3_paleBelow_13 : decode cX3_paleBelow 13 = .ok (.iaload, 1) := by decide +kernel
theorem dX3_paleBelow_14 : decode cX3_paleBelow 14 = .ok (.bipush 30, 2) := by decide +kernel
theorem dX3_paleBelow_16 : decode cX3_paleBelow 16 = .ok (.isub, 1) := by decide +kernel
theorem dX3_paleBelow_17 : decode cX3_paleBelow 17 = .ok (.goto 4, 3) := by decide +kernel
theorem dX3_paleBelow_20 : decode cX3_paleBelow 20 = .ok (.iconst 0, 1) := by decide +kernel
theorem dX3_paleBelow_21 : decode cX3_paleBelow 21 = .ok (.ireturn, 1) := by decide +kernel
theorem dX3_arrange_0 : decode cX3_arrange 0 = .ok (.aload_n 0, 1) := by decide +kernel
theorem dX3_arrange_1 : decode cX3_arrange 1 = .ok (.iconst 0, 1) := by decide +kernel
theorem dX3_arrange_2 : decode cX3_arrange 2 = .ok (.putfield 31, 3) := by decide +kernel
theorem dX3_arrange_5 : decode cX3_arrange 5 = .ok (.iconst 0, 1) := by decide +kernel
theorem dX3_arrange_6 : decode cX3_arrange 6 = .ok (.istore 4, 2) := by decide +kernel
theorem dX3_arrange_8 : decode cX3_arrange 8 = .ok (.iload 4, 2) := by decide +kernel
theorem dX3_arrange_10 : decode cX3_arrange 10 = .ok (.iload_n 2, 1) := by decide +kernel
theorem dX3_arrange_11 : decode cX3_arrange 11 = .ok (.if_icmp .ge 92, 3) := by decide +kernel
theorem dX3_arrange_14 : decode cX3_arrange 14 = .ok (.iload_n 3, 1) := by decide +kernel
theorem dX3_arrange_15 : decode cX3_arrange 15 = .ok (.iload 4, 2) := by decide +kernel
theorem dX3_arrange_17 : decode cX3_arrange 17 = .ok (.iadd, 1) := by decide +kernel
theorem dX3_arrange_18 : decode cX3_arrange 18 = .ok (.iload_n 2, 1) := by decide +kernel
theorem dX3_arrange_19 : decode cX3_arrange 19 = .ok (.if_icmp .ge 10, 3) := by decide +kernel
theorem dX3_arrange_22 : decode cX3_arrange 22 = .ok (.iload_n 3, 1) := by decide +kernel
theorem dX3_arrange_23 : decode cX3_arrange 23 = .ok (.iload 4, 2) := by decide +kernel
theorem dX3_arrange_25 : decode cX3_arrange 25 = .ok (.iadd, 1) := by decide +kernel
theorem dX3_arrange_26 : decode cX3_arrange 26 = .ok (.goto 9, 3) := by decide +kernel
theorem dX3_arrange_29 : decode cX3_arrange 29 = .ok (.iload_n 3, 1) := by decide +kernel
theorem dX3_arrange_30 : decode cX3_arrange 30 = .ok (.iload 4, 2) := by decide +kernel
theorem dX3_arrange_32 : decode cX3_arrange 32 = .ok (.iadd, 1) := by decide +kernel
theorem dX3_arrange_33 : decode cX3_arrange 33 = .ok (.iload_n 2, 1) := by decide +kernel
theorem dX3_arrange_34 : decode cX3_arrange 34 = .ok (.isub, 1) := by decide +kernel
theorem dX3_arrange_35 : decode cX3_arrange 35 = .ok (.istore 5, 2) := by decide +kernel
theorem dX3_arrange_37 : decode cX3_arrange 37 = .ok (.iconst 0, 1) := by decide +kernel
theorem dX3_arrange_38 : decode cX3_arrange 38 = .ok (.istore 6, 2) := by decide +kernel
theorem dX3_arrange_40 : decode cX3_arrange 40 = .ok (.iload 6, 2) := by decide +kernel
theorem dX3_arrange_42 : decode cX3_arrange 42 = .ok (.aload_n 1, 1) := by decide +kernel
theorem dX3_arrange_43 : decode cX3_arrange 43 = .ok (.invokevirtual 35, 3) := by decide +kernel
theorem dX3_arrange_46 : decode cX3_arrange 46 = .ok (.if_icmp .ge 51, 3) := by decide +kernel
theorem dX3_arrange_49 : decode cX3_arrange 49 = .ok (.aload_n 0, 1) := by decide +kernel
theorem dX3_arrange_50 : decode cX3_arrange 50 = .ok (.getfield 31, 3) := by decide +kernel
theorem dX3_arrange_53 : decode cX3_arrange 53 = .ok (.bipush 20, 2) := by decide +kernel
theorem dX3_arrange_55 : decode cX3_arrange 55 = .ok (.if_icmp .ge 42, 3) := by decide +kernel
theorem dX3_arrange_58 : decode cX3_arrange 58 = .ok (.aload_n 1, 1) := by decide +kernel
theorem dX3_arrange_59 : decode cX3_arrange 59 = .ok (.iload 6, 2) := by decide +kernel
theorem dX3_arrange_61 : decode cX3_arrange 61 = .ok (.iconst 0, 1) := by decide +kernel
theorem dX3_arrange_62 : decode cX3_arrange 62 = .ok (.invokevirtual 41, 3) := by decide +kernel
theorem dX3_arrange_65 : decode cX3_arrange 65 = .ok (.iload 5, 2) := by decide +kernel
theorem dX3_arrange_67 : decode cX3_arrange 67 = .ok (.if_icmp .ne 24, 3) := by decide +kernel
theorem dX3_arrange_70 : decode cX3_arrange 70 = .ok (.aload_n 0, 1) := by decide +kernel
theorem dX3_arrange_71 : decode cX3_arrange 71 = .ok (.getfield 9, 3) := by decide +kernel
theorem dX3_arrange_74 : decode cX3_arrange 74 = .ok (.aload_n 0, 1) := by decide +kernel
theorem dX3_arrange_75 : decode cX3_arrange 75 = .ok (.getfield 31, 3) := by decide +kernel
theorem dX3_arrange_78 : decode cX3_arrange 78 = .ok (.iload 6, 2) := by decide +kernel
theorem dX3_arrange_80 : decode cX3_arrange 80 = .ok (.iastore, 1) := by decide +kernel
theorem dX3_arrange_81 : decode cX3_arrange 81 = .ok (.aload_n 0, 1) := by decide +kernel
theorem dX3_arrange_82 : decode cX3_arrange 82 = .ok (.dup, 1) := by decide +kernel
theorem dX3_arrange_83 : decode cX3_arrange 83 = .ok (.getfield 31, 3) := by decide +kernel
theorem dX3_arrange_86 : decode cX3_arrange 86 = .ok (.iconst 1, 1) := by decide +kernel
theorem dX3_arrange_87 : decode cX3_arrange 87 = .ok (.iadd, 1) := by decide +kernel
theorem dX3_arrange_88 : decode cX3_arrange 88 = .ok (.putfield 31, 3) := by decide +kernel
theorem dX3_arrange_91 : decode cX3_arrange 91 = .ok (.iinc 6 1, 3) := by decide +kernel
theorem dX3_arrange_94 : decode cX3_arrange 94 = .ok (.goto (-54), 3) := by decide +kernel
theorem dX3_arrange_97 : decode cX3_arrange 97 = .ok (.iinc 4 1, 3) := by decide +kernel
theorem dX3_arrange_100 : decode cX3_arrange 100 = .ok (.goto (-92), 3) := by decide +kernel
theorem dX3_arrange_103 : decode cX3_arrange 103 = .ok (.return_, 1) := by decide +kernel
theorem dX3_fire_0 : decode cX3_fire 0 = .ok (.aload_n 0, 1) := by decide +kernel
theorem dX3_fire_1 : decode cX3_fire 1 = .ok (.iload_n 2, 1) := by decide +kernel
theorem dX3_fire_2 : decode cX3_fire 2 = .ok (.putfield 45, 3) := by decide +kernel
theorem dX3_fire_5 : decode cX3_fire 5 = .ok (.aload_n 0, 1) := by decide +kernel
theorem dX3_fire_6 : decode cX3_fire 6 = .ok (.aload_n 1, 1) := by decide +kernel
theorem dX3_fire_7 : decode cX3_fire 7 = .ok (.invokevirtual 48, 3) := by decide +kernel
theorem dX3_fire_10 : decode cX3_fire 10 = .ok (.iconst 0, 1) := by decide +kernel
theorem dX3_fire_11 : decode cX3_fire 11 = .ok (.istore_n 3, 1) := by decide +kernel
theorem dX3_fire_12 : decode cX3_fire 12 = .ok (.iload_n 3, 1) := by decide +kernel
theorem dX3_fire_13 : decode cX3_fire 13 = .ok (.sipush 1000, 3) := by decide +kernel
theorem dX3_fire_16 : decode cX3_fire 16 = .ok (.if_icmp .ge 64, 3) := by decide +kernel
theorem dX3_fire_19 : decode cX3_fire 19 = .ok (.aload_n 0, 1) := by decide +kernel
theorem dX3_fire_20 : decode cX3_fire 20 = .ok (.getfield 52, 3) := by decide +kernel
theorem dX3_fire_23 : decode cX3_fire 23 = .ok (.ifCond .le 57, 3) := by decide +kernel
theorem dX3_fire_26 : decode cX3_fire 26 = .ok (.aload_n 0, 1) := by decide +kernel
theorem dX3_fire_27 : decode cX3_fire 27 = .ok (.invokevirtual 55, 3) := by decide +kernel
theorem dX3_fire_30 : decode cX3_fire 30 = .ok (.istore 4, 2) := by decide +kernel
theorem dX3_fire_32 : decode cX3_fire 32 = .ok (.iload 4, 2) := by decide +kernel
theorem dX3_fire_34 : decode cX3_fire 34 = .ok (.iconst (-1), 1) := by decide +kernel
theorem dX3_fire_35 : decode cX3_fire 35 = .ok (.if_icmp .eq 13, 3) := by decide +kernel
theorem dX3_fire_38 : decode cX3_fire 38 = .ok (.aload_n 0, 1) := by decide +kernel
theorem dX3_fire_39 : decode cX3_fire 39 = .ok (.aload_n 1, 1) := by decide +kernel
theorem dX3_fire_40 : decode cX3_fire 40 = .ok (.iload 4, 2) := by decide +kernel
theorem dX3_fire_42 : decode cX3_fire 42 = .ok (.invokevirtual 58, 3) := by decide +kernel
theorem dX3_fire_45 : decode cX3_fire 45 = .ok (.goto 29, 3) := by decide +kernel
theorem dX3_fire_48 : decode cX3_fire 48 = .ok (.aload_n 0, 1) := by decide +kernel
theorem dX3_fire_49 : decode cX3_fire 49 = .ok (.invokevirtual 62, 3) := by decide +kernel
theorem dX3_fire_52 : decode cX3_fire 52 = .ok (.ifCond .eq 21, 3) := by decide +kernel
theorem dX3_fire_55 : decode cX3_fire 55 = .ok (.aload_n 0, 1) := by decide +kernel
theorem dX3_fire_56 : decode cX3_fire 56 = .ok (.bipush 20, 2) := by decide +kernel
theorem dX3_fire_58 : decode cX3_fire 58 = .ok (.aload_n 0, 1) := by decide +kernel
theorem dX3_fire_59 : decode cX3_fire 59 = .ok (.getfield 45, 3) := by decide +kernel
theorem dX3_fire_62 : decode cX3_fire 62 = .ok (.iconst 5, 1) := by decide +kernel
theorem dX3_fire_63 : decode cX3_fire 63 = .ok (.isub, 1) := by decide +kernel
theorem dX3_fire_64 : decode cX3_fire 64 = .ok (.invokestatic 66, 3) := by decide +kernel
theorem dX3_fire_67 : decode cX3_fire 67 = .ok (.putfield 45, 3) := by decide +kernel
theorem dX3_fire_70 : decode cX3_fire 70 = .ok (.goto 4, 3) := by decide +kernel
theorem dX3_fire_73 : decode cX3_fire 73 = .ok (.return_, 1) := by decide +kernel
theorem dX3_fire_74 : decode cX3_fire 74 = .ok (.iinc 3 1, 3) := by decide +kernel
theorem dX3_fire_77 : decode cX3_fire 77 = .ok (.goto (-65), 3) := by decide +kernel
theorem dX3_fire_80 : decode cX3_fire 80 = .ok (.return_, 1) := by decide +kernel
theorem dX3_startWaiting_0 : decode cX3_startWaiting 0 = .ok (.aload_n 0, 1) := by decide +kernel
theorem dX3_startWaiting_1 : decode cX3_startWaiting 1 = .ok (.getfield 24, 3) := by decide +kernel
theorem dX3_startWaiting_4 : decode cX3_startWaiting 4 = .ok (.invokevirtual 71, 3) := by decide +kernel
theorem dX3_startWaiting_7 : decode cX3_startWaiting 7 = .ok (.aload_n 0, 1) := by decide +kernel
theorem dX3_startWaiting_8 : decode cX3_startWaiting 8 = .ok (.aload_n 0, 1) := by decide +kernel
theorem dX3_startWaiting_9 : decode cX3_startWaiting 9 = .ok (.getfield 31, 3) := by decide +kernel
theorem dX3_startWaiting_12 : decode cX3_startWaiting 12 = .ok (.putfield 52, 3) := by decide +kernel
theorem dX3_startWaiting_15 : decode cX3_startWaiting 15 = .ok (.iconst 0, 1) := by decide +kernel
theorem dX3_startWaiting_16 : decode cX3_startWaiting 16 = .ok (.istore_n 2, 1) := by decide +kernel
theorem dX3_startWaiting_17 : decode cX3_startWaiting 17 = .ok (.iload_n 2, 1) := by decide +kernel
theorem dX3_startWaiting_18 : decode cX3_startWaiting 18 = .ok (.iconst 3, 1) := by decide +kernel
theorem dX3_startWaiting_19 : decode cX3_startWaiting 19 = .ok (.if_icmp .ge 16, 3) := by decide +kernel
theorem dX3_startWaiting_22 : decode cX3_startWaiting 22 = .ok (.aload_n 0, 1) := by decide +kernel
theorem dX3_startWaiting_23 : decode cX3_startWaiting 23 = .ok (.getfield 18, 3) := by decide +kernel
theorem dX3_startWaiting_26 : decode cX3_startWaiting 26 = .ok (.iload_n 2, 1) := by decide +kernel
theorem dX3_startWaiting_27 : decode cX3_startWaiting 27 = .ok (.iconst 0, 1) := by decide +kernel
theorem dX3_startWaiting_28 : decode cX3_startWaiting 28 = .ok (.iastore, 1) := by decide +kernel
theorem dX3_startWaiting_29 : decode cX3_startWaiting 29 = .ok (.iinc 2 1, 3) := by decide +kernel
theorem dX3_startWaiting_32 : decode cX3_startWaiting 32 = .ok (.goto (-15), 3) := by decide +kernel
theorem dX3_startWaiting_35 : decode cX3_startWaiting 35 = .ok (.iconst 0, 1) := by decide +kernel
theorem dX3_startWaiting_36 : decode cX3_startWaiting 36 = .ok (.istore_n 2, 1) := by decide +kernel
theorem dX3_startWaiting_37 : decode cX3_startWaiting 37 = .ok (.iload_n 2, 1) := by decide +kernel
theorem dX3_startWaiting_38 : decode cX3_startWaiting 38 = .ok (.aload_n 0, 1) := by decide +kernel
theorem dX3_startWaiting_39 : decode cX3_startWaiting 39 = .ok (.getfield 31, 3) := by decide +kernel
theorem dX3_startWaiting_42 : decode cX3_startWaiting 42 = .ok (.if_icmp .ge 53, 3) := by decide +kernel
theorem dX3_startWaiting_45 : decode cX3_startWaiting 45 = .ok (.iload_n 2, 1) := by decide +kernel
theorem dX3_startWaiting_46 : decode cX3_startWaiting 46 = .ok (.bipush 20, 2) := by decide +kernel
theorem dX3_startWaiting_48 : decode cX3_startWaiting 48 = .ok (.if_icmp .ge 47, 3) := by decide +kernel
theorem dX3_startWaiting_51 : decode cX3_startWaiting 51 = .ok (.aload_n 0, 1) := by decide +kernel
theorem dX3_startWaiting_52 : decode cX3_startWaiting 52 = .ok (.getfield 15, 3) := by decide +kernel
theorem dX3_startWaiting_55 : decode cX3_startWaiting 55 = .ok (.iload_n 2, 1) := by decide +kernel
theorem dX3_startWaiting_56 : decode cX3_startWaiting 56 = .ok (.iconst (-1), 1) := by decide +kernel
theorem dX3_startWaiting_57 : decode cX3_startWaiting 57 = .ok (.iastore, 1) := by decide +kernel
theorem dX3_startWaiting_58 : decode cX3_startWaiting 58 = .ok (.aload_n 1, 1) := by decide +kernel
theorem dX3_startWaiting_59 : decode cX3_startWaiting 59 = .ok (.aload_n 0, 1) := by decide +kernel
theorem dX3_startWaiting_60 : decode cX3_startWaiting 60 = .ok (.getfield 9, 3) := by decide +kernel
theorem dX3_startWaiting_63 : decode cX3_startWaiting 63 = .ok (.iload_n 2, 1) := by decide +kernel
theorem dX3_startWaiting_64 : decode cX3_startWaiting 64 = .ok (.iaload, 1) := by decide +kernel
theorem dX3_startWaiting_65 : decode cX3_startWaiting 65 = .ok (.iconst 1, 1) := by decide +kernel
theorem dX3_startWaiting_66 : decode cX3_startWaiting 66 = .ok (.invokevirtual 41, 3) := by decide +kernel
theorem dX3_startWaiting_69 : decode cX3_startWaiting 69 = .ok (.istore_n 3, 1) := by decide +kernel
theorem dX3_startWaiting_70 : decode cX3_startWaiting 70 = .ok (.iload_n 3, 1) := by decide +kernel
theorem dX3_startWaiting_71 : decode cX3_startWaiting 71 = .ok (.ifCond .lt 18, 3) := by decide +kernel
theorem dX3_startWaiting_74 : decode cX3_startWaiting 74 = .ok (.iload_n 3, 1) := by decide +kernel
theorem dX3_startWaiting_75 : decode cX3_startWaiting 75 = .ok (.iconst 3, 1) := by decide +kernel
theorem dX3_startWaiting_76 : decode cX3_startWaiting 76 = .ok (.if_icmp .ge 13, 3) := by decide +kernel
theorem dX3_startWaiting_79 : decode cX3_startWaiting 79 = .ok (.aload_n 0, 1) := by decide +kernel
theorem dX3_startWaiting_80 : decode cX3_startWaiting 80 = .ok (.getfield 18, 3) := by decide +kernel
theorem dX3_startWaiting_83 : decode cX3_startWaiting 83 = .ok (.iload_n 3, 1) := by decide +kernel
theorem dX3_startWaiting_84 : decode cX3_startWaiting 84 = .ok (.dup2, 1) := by decide +kernel
theorem dX3_startWaiting_85 : decode cX3_startWaiting 85 = .ok (.iaload, 1) := by decide +kernel
theorem dX3_startWaiting_86 : decode cX3_startWaiting 86 = .ok (.iconst 1, 1) := by decide +kernel
theorem dX3_startWaiting_87 : decode cX3_startWaiting 87 = .ok (.iadd, 1) := by decide +kernel
theorem dX3_startWaiting_88 : decode cX3_startWaiting 88 = .ok (.iastore, 1) := by decide +kernel
theorem dX3_startWaiting_89 : decode cX3_startWaiting 89 = .ok (.iinc 2 1, 3) := by decide +kernel
theorem dX3_startWaiting_92 : decode cX3_startWaiting 92 = .ok (.goto (-55), 3) := by decide +kernel
theorem dX3_startWaiting_95 : decode cX3_startWaiting 95 = .ok (.return_, 1) := by decide +kernel
theorem dX3_kindForHeat_0 : decode cX3_kindForHeat 0 = .ok (.iconst 0, 1) := by decide +kernel
theorem dX3_kindForHeat_1 : decode cX3_kindForHeat 1 = .ok (.istore_n 1, 1) := by decide +kernel
theorem dX3_kindForHeat_2 : decode cX3_kindForHeat 2 = .ok (.iload_n 1, 1) := by decide +kernel
theorem dX3_kindForHeat_3 : decode cX3_kindForHeat 3 = .ok (.iconst 3, 1) := by decide +kernel
theorem dX3_kindForHeat_4 : decode cX3_kindForHeat 4 = .ok (.if_icmp .ge 44, 3) := by decide +kernel
theorem dX3_kindForHeat_7 : decode cX3_kindForHeat 7 = .ok (.aload_n 0, 1) := by decide +kernel
theorem dX3_kindForHeat_8 : decode cX3_kindForHeat 8 = .ok (.getfield 18, 3) := by decide +kernel
theorem dX3_kindForHeat_11 : decode cX3_kindForHeat 11 = .ok (.iload_n 1, 1) := by decide +kernel
theorem dX3_kindForHeat_12 : decode cX3_kindForHeat 12 = .ok (.iaload, 1) := by decide +kernel
theorem dX3_kindForHeat_13 : decode cX3_kindForHeat 13 = .ok (.ifCond .le 29, 3) := by decide +kernel
theorem dX3_kindForHeat_16 : decode cX3_kindForHeat 16 = .ok (.aload_n 0, 1) := by decide +kernel
theorem dX3_kindForHeat_17 : decode cX3_kindForHeat 17 = .ok (.getfield 45, 3) := by decide +kernel
theorem dX3_kindForHeat_20 : decode cX3_kindForHeat 20 = .ok (.getstatic 28, 3) := by decide +kernel
theorem dX3_kindForHeat_23 : decode cX3_kindForHeat 23 = .ok (.iload_n 1, 1) := by decide +kernel
theorem dX3_kindForHeat_24 : decode cX3_kindForHeat 24 = .ok (.iaload, 1) := by decide +kernel
theorem dX3_kindForHeat_25 : decode cX3_kindForHeat 25 = .ok (.if_icmp .lt 17, 3) := by decide +kernel
theorem dX3_kindForHeat_28 : decode cX3_kindForHeat 28 = .ok (.aload_n 0, 1) := by decide +kernel
theorem dX3_kindForHeat_29 : decode cX3_kindForHeat 29 = .ok (.getfield 45, 3) := by decide +kernel
theorem dX3_kindForHeat_32 : decode cX3_kindForHeat 32 = .ok (.getstatic 74, 3) := by decide +kernel
theorem dX3_kindForHeat_35 : decode cX3_kindForHeat 35 = .ok (.iload_n 1, 1) := by decide +kernel
theorem dX3_kindForHeat_36 : decode cX3_kindForHeat 36 = .ok (.iaload, 1) := by decide +kernel
theorem dX3_kindForHeat_37 : decode cX3_kindForHeat 37 = .ok (.if_icmp .gt 5, 3) := by decide +kernel
theorem dX3_kindForHeat_40 : decode cX3_kindForHeat 40 = .ok (.iload_n 1, 1) := by decide +kernel
theorem dX3_kindForHeat_41 : decode cX3_kindForHeat 41 = .ok (.ireturn, 1) := by decide +kernel
theorem dX3_kindForHeat_42 : decode cX3_kindForHeat 42 = .ok (.iinc 1 1, 3) := by decide +kernel
theorem dX3_kindForHeat_45 : decode cX3_kindForHeat 45 = .ok (.goto (-43), 3) := by decide +kernel
theorem dX3_kindForHeat_48 : decode cX3_kindForHeat 48 = .ok (.iconst (-1), 1) := by decide +kernel
theorem dX3_kindForHeat_49 : decode cX3_kindForHeat 49 = .ok (.ireturn, 1) := by decide +kernel
theorem dX3_isTooHotForSome_0 : decode cX3_isTooHotForSome 0 = .ok (.iconst 0, 1) := by decide +kernel
theorem dX3_isTooHotForSome_1 : decode cX3_isTooHotForSome 1 = .ok (.istore_n 1, 1) := by decide +kernel
theorem dX3_isTooHotForSome_2 : decode cX3_isTooHotForSome 2 = .ok (.iload_n 1, 1) := by decide +kernel
theorem dX3_isTooHotForSome_3 : decode cX3_isTooHotForSome 3 = .ok (.iconst 3, 1) := by decide +kernel
theorem dX3_isTooHotForSome_4 : decode cX3_isTooHotForSome 4 = .ok (.if_icmp .ge 32, 3) := by decide +kernel
theorem dX3_isTooHotForSome_7 : decode cX3_isTooHotForSome 7 = .ok (.aload_n 0, 1) := by decide +kernel
theorem dX3_isTooHotForSome_8 : decode cX3_isTooHotForSome 8 = .ok (.getfield 18, 3) := by decide +kernel
theorem dX3_isTooHotForSome_11 : decode cX3_isTooHotForSome 11 = .ok (.iload_n 1, 1) := by decide +kernel
theorem dX3_isTooHotForSome_12 : decode cX3_isTooHotForSome 12 = .ok (.iaload, 1) := by decide +kernel
theorem dX3_isTooHotForSome_13 : decode cX3_isTooHotForSome 13 = .ok (.ifCond .le 17, 3) := by decide +kernel
theorem dX3_isTooHotForSome_16 : decode cX3_isTooHotForSome 16 = .ok (.aload_n 0, 1) := by decide +kernel
theorem dX3_isTooHotForSome_17 : decode cX3_isTooHotForSome 17 = .ok (.getfield 45, 3) := by decide +kernel
theorem dX3_isTooHotForSome_20 : decode cX3_isTooHotForSome 20 = .ok (.getstatic 74, 3) := by decide +kernel
theorem dX3_isTooHotForSome_23 : decode cX3_isTooHotForSome 23 = .ok (.iload_n 1, 1) := by decide +kernel
theorem dX3_isTooHotForSome_24 : decode cX3_isTooHotForSome 24 = .ok (.iaload, 1) := by decide +kernel
theorem dX3_isTooHotForSome_25 : decode cX3_isTooHotForSome 25 = .ok (.if_icmp .le 5, 3) := by decide +kernel
theorem dX3_isTooHotForSome_28 : decode cX3_isTooHotForSome 28 = .ok (.iconst 1, 1) := by decide +kernel
theorem dX3_isTooHotForSome_29 : decode cX3_isTooHotForSome 29 = .ok (.ireturn, 1) := by decide +kernel
theorem dX3_isTooHotForSome_30 : decode cX3_isTooHotForSome 30 = .ok (.iinc 1 1, 3) := by decide +kernel
theorem dX3_isTooHotForSome_33 : decode cX3_isTooHotForSome 33 = .ok (.goto (-31), 3) := by decide +kernel
theorem dX3_isTooHotForSome_36 : decode cX3_isTooHotForSome 36 = .ok (.iconst 0, 1) := by decide +kernel
theorem dX3_isTooHotForSome_37 : decode cX3_isTooHotForSome 37 = .ok (.ireturn, 1) := by decide +kernel
theorem dX3_bakeLoad_0 : decode cX3_bakeLoad 0 = .ok (.iload_n 2, 1) := by decide +kernel
theorem dX3_bakeLoad_1 : decode cX3_bakeLoad 1 = .ok (.ifCond .lt 8, 3) := by decide +kernel
theorem dX3_bakeLoad_4 : decode cX3_bakeLoad 4 = .ok (.iload_n 2, 1) := by decide +kernel
theorem dX3_bakeLoad_5 : decode cX3_bakeLoad 5 = .ok (.iconst 3, 1) := by decide +kernel
theorem dX3_bakeLoad_6 : decode cX3_bakeLoad 6 = .ok (.if_icmp .lt 4, 3) := by decide +kernel
theorem dX3_bakeLoad_9 : decode cX3_bakeLoad 9 = .ok (.return_, 1) := by decide +kernel
theorem dX3_bakeLoad_10 : decode cX3_bakeLoad 10 = .ok (.aload_n 0, 1) := by decide +kernel
theorem dX3_bakeLoad_11 : decode cX3_bakeLoad 11 = .ok (.getfield 45, 3) := by decide +kernel
theorem dX3_bakeLoad_14 : decode cX3_bakeLoad 14 = .ok (.istore_n 3, 1) := by decide +kernel
theorem dX3_bakeLoad_15 : decode cX3_bakeLoad 15 = .ok (.iconst 0, 1) := by decide +kernel
theorem dX3_bakeLoad_16 : decode cX3_bakeLoad 16 = .ok (.istore 4, 2) := by decide +kernel
theorem dX3_bakeLoad_18 : decode cX3_bakeLoad 18 = .ok (.iconst 0, 1) := by decide +kernel
theorem dX3_bakeLoad_19 : decode cX3_bakeLoad 19 = .ok (.istore 5, 2) := by decide +kernel
theorem dX3_bakeLoad_21 : decode cX3_bakeLoad 21 = .ok (.iconst 0, 1) := by decide +kernel
theorem dX3_bakeLoad_22 : decode cX3_bakeLoad 22 = .ok (.istore 6, 2) := by decide +kernel
theorem dX3_bakeLoad_24 : decode cX3_bakeLoad 24 = .ok (.iload 6, 2) := by decide +kernel
theorem dX3_bakeLoad_26 : decode cX3_bakeLoad 26 = .ok (.aload_n 0, 1) := by decide +kernel
theorem dX3_bakeLoad_27 : decode cX3_bakeLoad 27 = .ok (.getfield 31, 3) := by decide +kernel
theorem dX3_bakeLoad_30 : decode cX3_bakeLoad 30 = .ok (.if_icmp .ge 90, 3) := by decide +kernel
theorem dX3_bakeLoad_33 : decode cX3_bakeLoad 33 = .ok (.iload 6, 2) := by decide +kernel
theorem dX3_bakeLoad_35 : decode cX3_bakeLoad 35 = .ok (.bipush 20, 2) := by decide +kernel
theorem dX3_bakeLoad_37 : decode cX3_bakeLoad 37 = .ok (.if_icmp .ge 83, 3) := by decide +kernel
theorem dX3_bakeLoad_40 : decode cX3_bakeLoad 40 = .ok (.aload_n 0, 1) := by decide +kernel
theorem dX3_bakeLoad_41 : decode cX3_bakeLoad 41 = .ok (.getfield 9, 3) := by decide +kernel
theorem dX3_bakeLoad_44 : decode cX3_bakeLoad 44 = .ok (.iload 6, 2) := by decide +kernel
theorem dX3_bakeLoad_46 : decode cX3_bakeLoad 46 = .ok (.iaload, 1) := by decide +kernel
theorem dX3_bakeLoad_47 : decode cX3_bakeLoad 47 = .ok (.istore 7, 2) := by decide +kernel
theorem dX3_bakeLoad_49 : decode cX3_bakeLoad 49 = .ok (.aload_n 1, 1) := by decide +kernel
theorem dX3_bakeLoad_50 : decode cX3_bakeLoad 50 = .ok (.iload 7, 2) := by decide +kernel
theorem dX3_bakeLoad_52 : decode cX3_bakeLoad 52 = .ok (.iconst 2, 1) := by decide +kernel
theorem dX3_bakeLoad_53 : decode cX3_bakeLoad 53 = .ok (.invokevirtual 41, 3) := by decide +kernel
theorem dX3_bakeLoad_56 : decode cX3_bakeLoad 56 = .ok (.istore 8, 2) := by decide +kernel
theorem dX3_bakeLoad_58 : decode cX3_bakeLoad 58 = .ok (.aload_n 0, 1) := by decide +kernel
theorem dX3_bakeLoad_59 : decode cX3_bakeLoad 59 = .ok (.getfield 15, 3) := by decide +kernel
theorem dX3_bakeLoad_62 : decode cX3_bakeLoad 62 = .ok (.iload 6, 2) := by decide +kernel
theorem dX3_bakeLoad_64 : decode cX3_bakeLoad 64 = .ok (.iaload, 1) := by decide +kernel
theorem dX3_bakeLoad_65 : decode cX3_bakeLoad 65 = .ok (.iconst (-1), 1) := by decide +kernel
theorem dX3_bakeLoad_66 : decode cX3_bakeLoad 66 = .ok (.if_icmp .ne 48, 3) := by decide +kernel
theorem dX3_bakeLoad_69 : decode cX3_bakeLoad 69 = .ok (.aload_n 1, 1) := by decide +kernel
theorem dX3_bakeLoad_70 : decode cX3_bakeLoad 70 = .ok (.iload 7, 2) := by decide +kernel
theorem dX3_bakeLoad_72 : decode cX3_bakeLoad 72 = .ok (.iconst 1, 1) := by decide +kernel
theorem dX3_bakeLoad_73 : decode cX3_bakeLoad 73 = .ok (.invokevirtual 41, 3) := by decide +kernel
theorem dX3_bakeLoad_76 : decode cX3_bakeLoad 76 = .ok (.iload_n 2, 1) := by decide +kernel
theorem dX3_bakeLoad_77 : decode cX3_bakeLoad 77 = .ok (.if_icmp .ne 37, 3) := by decide +kernel
theorem dX3_bakeLoad_80 : decode cX3_bakeLoad 80 = .ok (.iload 4, 2) := by decide +kernel
theorem dX3_bakeLoad_82 : decode cX3_bakeLoad 82 = .ok (.iload 8, 2) := by decide +kernel
theorem dX3_bakeLoad_84 : decode cX3_bakeLoad 84 = .ok (.iadd, 1) := by decide +kernel
theorem dX3_bakeLoad_85 : decode cX3_bakeLoad 85 = .ok (.bipush 24, 2) := by decide +kernel
theorem dX3_bakeLoad_87 : decode cX3_bakeLoad 87 = .ok (.if_icmp .gt 27, 3) := by decide +kernel
theorem dX3_bakeLoad_90 : decode cX3_bakeLoad 90 = .ok (.aload_n 0, 1) := by decide +kernel
theorem dX3_bakeLoad_91 : decode cX3_bakeLoad 91 = .ok (.getfield 15, 3) := by decide +kernel
theorem dX3_bakeLoad_94 : decode cX3_bakeLoad 94 = .ok (.iload 6, 2) := by decide +kernel
theorem dX3_bakeLoad_96 : decode cX3_bakeLoad 96 = .ok (.aload_n 0, 1) := by decide +kernel
theorem dX3_bakeLoad_97 : decode cX3_bakeLoad 97 = .ok (.getfield 24, 3) := by decide +kernel
theorem dX3_bakeLoad_100 : decode cX3_bakeLoad 100 = .ok (.invokevirtual 77, 3) := by decide +kernel
theorem dX3_bakeLoad_103 : decode cX3_bakeLoad 103 = .ok (.iastore, 1) := by decide +kernel
theorem dX3_bakeLoad_104 : decode cX3_bakeLoad 104 = .ok (.iload 4, 2) := by decide +kernel
theorem dX3_bakeLoad_106 : decode cX3_bakeLoad 106 = .ok (.iload 8, 2) := by decide +kernel
theorem dX3_bakeLoad_108 : decode cX3_bakeLoad 108 = .ok (.iadd, 1) := by decide +kernel
theorem dX3_bakeLoad_109 : decode cX3_bakeLoad 109 = .ok (.istore 4, 2) := by decide +kernel
theorem dX3_bakeLoad_111 : decode cX3_bakeLoad 111 = .ok (.iinc 5 1, 3) := by decide +kernel
theorem dX3_bakeLoad_114 : decode cX3_bakeLoad 114 = .ok (.iinc 6 1, 3) := by decide +kernel
theorem dX3_bakeLoad_117 : decode cX3_bakeLoad 117 = .ok (.goto (-93), 3) := by decide +kernel
theorem dX3_bakeLoad_120 : decode cX3_bakeLoad 120 = .ok (.aload_n 0, 1) := by decide +kernel
theorem dX3_bakeLoad_121 : decode cX3_bakeLoad 121 = .ok (.dup, 1) := by decide +kernel
theorem dX3_bakeLoad_122 : decode cX3_bakeLoad 122 = .ok (.getfield 52, 3) := by decide +kernel
theorem dX3_bakeLoad_125 : decode cX3_bakeLoad 125 = .ok (.iload 5, 2) := by decide +kernel
theorem dX3_bakeLoad_127 : decode cX3_bakeLoad 127 = .ok (.isub, 1) := by decide +kernel
theorem dX3_bakeLoad_128 : decode cX3_bakeLoad 128 = .ok (.putfield 52, 3) := by decide +kernel
theorem dX3_bakeLoad_131 : decode cX3_bakeLoad 131 = .ok (.aload_n 0, 1) := by decide +kernel
theorem dX3_bakeLoad_132 : decode cX3_bakeLoad 132 = .ok (.getfield 18, 3) := by decide +kernel
theorem dX3_bakeLoad_135 : decode cX3_bakeLoad 135 = .ok (.iload_n 2, 1) := by decide +kernel
theorem dX3_bakeLoad_136 : decode cX3_bakeLoad 136 = .ok (.dup2, 1) := by decide +kernel
theorem dX3_bakeLoad_137 : decode cX3_bakeLoad 137 = .ok (.iaload, 1) := by decide +kernel
theorem dX3_bakeLoad_138 : decode cX3_bakeLoad 138 = .ok (.iload 5, 2) := by decide +kernel
theorem dX3_bakeLoad_140 : decode cX3_bakeLoad 140 = .ok (.isub, 1) := by decide +kernel
theorem dX3_bakeLoad_141 : decode cX3_bakeLoad 141 = .ok (.iastore, 1) := by decide +kernel
theorem dX3_bakeLoad_142 : decode cX3_bakeLoad 142 = .ok (.aload_n 0, 1) := by decide +kernel
theorem dX3_bakeLoad_143 : decode cX3_bakeLoad 143 = .ok (.bipush 20, 2) := by decide +kernel
theorem dX3_bakeLoad_145 : decode cX3_bakeLoad 145 = .ok (.aload_n 0, 1) := by decide +kernel
theorem dX3_bakeLoad_146 : decode cX3_bakeLoad 146 = .ok (.getfield 45, 3) := by decide +kernel
theorem dX3_bakeLoad_149 : decode cX3_bakeLoad 149 = .ok (.getstatic 78, 3) := by decide +kernel
theorem dX3_bakeLoad_152 : decode cX3_bakeLoad 152 = .ok (.iload_n 2, 1) := by decide +kernel
theorem dX3_bakeLoad_153 : decode cX3_bakeLoad 153 = .ok (.iaload, 1) := by decide +kernel
theorem dX3_bakeLoad_154 : decode cX3_bakeLoad 154 = .ok (.iconst 5, 1) := by decide +kernel
theorem dX3_bakeLoad_155 : decode cX3_bakeLoad 155 = .ok (.iload 4, 2) := by decide +kernel
theorem dX3_bakeLoad_157 : decode cX3_bakeLoad 157 = .ok (.bipush 8, 2) := by decide +kernel
theorem dX3_bakeLoad_159 : decode cX3_bakeLoad 159 = .ok (.idiv, 1) := by decide +kernel
theorem dX3_bakeLoad_160 : decode cX3_bakeLoad 160 = .ok (.iadd, 1) := by decide +kernel
theorem dX3_bakeLoad_161 : decode cX3_bakeLoad 161 = .ok (.imul, 1) := by decide +kernel
theorem dX3_bakeLoad_162 : decode cX3_bakeLoad 162 = .ok (.isub, 1) := by decide +kernel
theorem dX3_bakeLoad_163 : decode cX3_bakeLoad 163 = .ok (.invokestatic 66, 3) := by decide +kernel
theorem dX3_bakeLoad_166 : decode cX3_bakeLoad 166 = .ok (.putfield 45, 3) := by decide +kernel
theorem dX3_bakeLoad_169 : decode cX3_bakeLoad 169 = .ok (.aload_n 0, 1) := by decide +kernel
theorem dX3_bakeLoad_170 : decode cX3_bakeLoad 170 = .ok (.getfield 24, 3) := by decide +kernel
theorem dX3_bakeLoad_173 : decode cX3_bakeLoad 173 = .ok (.iload_n 2, 1) := by decide +kernel
theorem dX3_bakeLoad_174 : decode cX3_bakeLoad 174 = .ok (.iload 5, 2) := by decide +kernel
theorem dX3_bakeLoad_176 : decode cX3_bakeLoad 176 = .ok (.iload 4, 2) := by decide +kernel
theorem dX3_bakeLoad_178 : decode cX3_bakeLoad 178 = .ok (.iload_n 3, 1) := by decide +kernel
theorem dX3_bakeLoad_179 : decode cX3_bakeLoad 179 = .ok (.aload_n 0, 1) := by decide +kernel
theorem dX3_bakeLoad_180 : decode cX3_bakeLoad 180 = .ok (.getfield 45, 3) := by decide +kernel
theorem dX3_bakeLoad_183 : decode cX3_bakeLoad 183 = .ok (.invokevirtual 81, 3) := by decide +kernel
theorem dX3_bakeLoad_186 : decode cX3_bakeLoad 186 = .ok (.return_, 1) := by decide +kernel
theorem dX3_size_0 : decode cX3_size 0 = .ok (.aload_n 0, 1) := by decide +kernel
theorem dX3_size_1 : decode cX3_size 1 = .ok (.getfield 31, 3) := by decide +kernel
theorem dX3_size_4 : decode cX3_size 4 = .ok (.ireturn, 1) := by decide +kernel
theorem dX3_loads_0 : decode cX3_loads 0 = .ok (.aload_n 0, 1) := by decide +kernel
theorem dX3_loads_1 : decode cX3_loads 1 = .ok (.getfield 24, 3) := by decide +kernel
theorem dX3_loads_4 : decode cX3_loads 4 = .ok (.areturn, 1) := by decide +kernel
theorem dX3_heat_0 : decode cX3_heat 0 = .ok (.aload_n 0, 1) := by decide +kernel
theorem dX3_heat_1 : decode cX3_heat 1 = .ok (.getfield 45, 3) := by decide +kernel
theorem dX3_heat_4 : decode cX3_heat 4 = .ok (.ireturn, 1) := by decide +kernel
theorem dX3_batchAt_0 : decode cX3_batchAt 0 = .ok (.iload_n 1, 1) := by decide +kernel
theorem dX3_batchAt_1 : decode cX3_batchAt 1 = .ok (.ifCond .lt 26, 3) := by decide +kernel
theorem dX3_batchAt_4 : decode cX3_batchAt 4 = .ok (.iload_n 1, 1) := by decide +kernel
theorem dX3_batchAt_5 : decode cX3_batchAt 5 = .ok (.aload_n 0, 1) := by decide +kernel
theorem dX3_batchAt_6 : decode cX3_batchAt 6 = .ok (.getfield 31, 3) := by decide +kernel
theorem dX3_batchAt_9 : decode cX3_batchAt 9 = .ok (.if_icmp .ge 18, 3) := by decide +kernel
theorem dX3_batchAt_12 : decode cX3_batchAt 12 = .ok (.iload_n 1, 1) := by decide +kernel
theorem dX3_batchAt_13 : decode cX3_batchAt 13 = .ok (.bipush 20, 2) := by decide +kernel
theorem dX3_batchAt_15 : decode cX3_batchAt 15 = .ok (.if_icmp .ge 12, 3) := by decide +kernel
theorem dX3_batchAt_18 : decode cX3_batchAt 18 = .ok (.aload_n 0, 1) := by decide +kernel
theorem dX3_batchAt_19 : decode cX3_batchAt 19 = .ok (.getfield 9, 3) := by decide +kernel
theorem dX3_batchAt_22 : decode cX3_batchAt 22 = .ok (.iload_n 1, 1) := by decide +kernel
theorem dX3_batchAt_23 : decode cX3_batchAt 23 = .ok (.iaload, 1) := by decide +kernel
theorem dX3_batchAt_24 : decode cX3_batchAt 24 = .ok (.goto 4, 3) := by decide +kernel
theorem dX3_batchAt_27 : decode cX3_batchAt 27 = .ok (.iconst (-1), 1) := by decide +kernel
theorem dX3_batchAt_28 : decode cX3_batchAt 28 = .ok (.ireturn, 1) := by decide +kernel
theorem dX3_loadAt_0 : decode cX3_loadAt 0 = .ok (.iload_n 1, 1) := by decide +kernel
theorem dX3_loadAt_1 : decode cX3_loadAt 1 = .ok (.ifCond .lt 26, 3) := by decide +kernel
theorem dX3_loadAt_4 : decode cX3_loadAt 4 = .ok (.iload_n 1, 1) := by decide +kernel
theorem dX3_loadAt_5 : decode cX3_loadAt 5 = .ok (.aload_n 0, 1) := by decide +kernel
theorem dX3_loadAt_6 : decode cX3_loadAt 6 = .ok (.getfield 31, 3) := by decide +kernel
theorem dX3_loadAt_9 : decode cX3_loadAt 9 = .ok (.if_icmp .ge 18, 3) := by decide +kernel
theorem dX3_loadAt_12 : decode cX3_loadAt 12 = .ok (.iload_n 1, 1) := by decide +kernel
theorem dX3_loadAt_13 : decode cX3_loadAt 13 = .ok (.bipush 20, 2) := by decide +kernel
theorem dX3_loadAt_15 : decode cX3_loadAt 15 = .ok (.if_icmp .ge 12, 3) := by decide +kernel
theorem dX3_loadAt_18 : decode cX3_loadAt 18 = .ok (.aload_n 0, 1) := by decide +kernel
theorem dX3_loadAt_19 : decode cX3_loadAt 19 = .ok (.getfield 15, 3) := by decide +kernel
theorem dX3_loadAt_22 : decode cX3_loadAt 22 = .ok (.iload_n 1, 1) := by decide +kernel
theorem dX3_loadAt_23 : decode cX3_loadAt 23 = .ok (.iaload, 1) := by decide +kernel
theorem dX3_loadAt_24 : decode cX3_loadAt 24 = .ok (.goto 4, 3) := by decide +kernel
theorem dX3_loadAt_27 : decode cX3_loadAt 27 = .ok (.iconst (-1), 1) := by decide +kernel
theorem dX3_loadAt_28 : decode cX3_loadAt 28 = .ok (.ireturn, 1) := by decide +kernel
theorem dX3_placeOf_0 : decode cX3_placeOf 0 = .ok (.iconst 0, 1) := by decide +kernel
theorem dX3_placeOf_1 : decode cX3_placeOf 1 = .ok (.istore_n 2, 1) := by decide +kernel
theorem dX3_placeOf_2 : decode cX3_placeOf 2 = .ok (.iload_n 2, 1) := by decide +kernel
theorem dX3_placeOf_3 : decode cX3_placeOf 3 = .ok (.aload_n 0, 1) := by decide +kernel
theorem dX3_placeOf_4 : decode cX3_placeOf 4 = .ok (.getfield 31, 3) := by decide +kernel
theorem dX3_placeOf_7 : decode cX3_placeOf 7 = .ok (.if_icmp .ge 20, 3) := by decide +kernel
theorem dX3_placeOf_10 : decode cX3_placeOf 10 = .ok (.aload_n 0, 1) := by decide +kernel
theorem dX3_placeOf_11 : decode cX3_placeOf 11 = .ok (.iload_n 2, 1) := by decide +kernel
theorem dX3_placeOf_12 : decode cX3_placeOf 12 = .ok (.invokevirtual 85, 3) := by decide +kernel
theorem dX3_placeOf_15 : decode cX3_placeOf 15 = .ok (.iload_n 1, 1) := by decide +kernel
theorem dX3_placeOf_16 : decode cX3_placeOf 16 = .ok (.if_icmp .ne 5, 3) := by decide +kernel
theorem dX3_placeOf_19 : decode cX3_placeOf 19 = .ok (.iload_n 2, 1) := by decide +kernel
theorem dX3_placeOf_20 : decode cX3_placeOf 20 = .ok (.ireturn, 1) := by decide +kernel
theorem dX3_placeOf_21 : decode cX3_placeOf 21 = .ok (.iinc 2 1, 3) := by decide +kernel
theorem dX3_placeOf_24 : decode cX3_placeOf 24 = .ok (.goto (-22), 3) := by decide +kernel
theorem dX3_placeOf_27 : decode cX3_placeOf 27 = .ok (.iconst (-1), 1) := by decide +kernel
theorem dX3_placeOf_28 : decode cX3_placeOf 28 = .ok (.ireturn, 1) := by decide +kernel
theorem dX3_dough_0 : decode cX3_dough 0 = .ok (.iconst 0, 1) := by decide +kernel
theorem dX3_dough_1 : decode cX3_dough 1 = .ok (.istore_n 2, 1) := by decide +kernel
theorem dX3_dough_2 : decode cX3_dough 2 = .ok (.iconst 0, 1) := by decide +kernel
theorem dX3_dough_3 : decode cX3_dough 3 = .ok (.istore_n 3, 1) := by decide +kernel
theorem dX3_dough_4 : decode cX3_dough 4 = .ok (.iload_n 3, 1) := by decide +kernel
theorem dX3_dough_5 : decode cX3_dough 5 = .ok (.aload_n 0, 1) := by decide +kernel
theorem dX3_dough_6 : decode cX3_dough 6 = .ok (.getfield 31, 3) := by decide +kernel
theorem dX3_dough_9 : decode cX3_dough 9 = .ok (.if_icmp .ge 31, 3) := by decide +kernel
theorem dX3_dough_12 : decode cX3_dough 12 = .ok (.aload_n 0, 1) := by decide +kernel
theorem dX3_dough_13 : decode cX3_dough 13 = .ok (.iload_n 3, 1) := by decide +kernel
theorem dX3_dough_14 : decode cX3_dough 14 = .ok (.invokevirtual 89, 3) := by decide +kernel
theorem dX3_dough_17 : decode cX3_dough 17 = .ok (.iconst (-1), 1) := by decide +kernel
theorem dX3_dough_18 : decode cX3_dough 18 = .ok (.if_icmp .ne 16, 3) := by decide +kernel
theorem dX3_dough_21 : decode cX3_dough 21 = .ok (.iload_n 2, 1) := by decide +kernel
theorem dX3_dough_22 : decode cX3_dough 22 = .ok (.aload_n 1, 1) := by decide +kernel
theorem dX3_dough_23 : decode cX3_dough 23 = .ok (.aload_n 0, 1) := by decide +kernel
theorem dX3_dough_24 : decode cX3_dough 24 = .ok (.iload_n 3, 1) := by decide +kernel
theorem dX3_dough_25 : decode cX3_dough 25 = .ok (.invokevirtual 85, 3) := by decide +kernel
theorem dX3_dough_28 : decode cX3_dough 28 = .ok (.iconst 2, 1) := by decide +kernel
theorem dX3_dough_29 : decode cX3_dough 29 = .ok (.invokevirtual 41, 3) := by decide +kernel
theorem dX3_dough_32 : decode cX3_dough 32 = .ok (.iadd, 1) := by decide +kernel
theorem dX3_dough_33 : decode cX3_dough 33 = .ok (.istore_n 2, 1) := by decide +kernel
theorem dX3_dough_34 : decode cX3_dough 34 = .ok (.iinc 3 1, 3) := by decide +kernel
theorem dX3_dough_37 : decode cX3_dough 37 = .ok (.goto (-33), 3) := by decide +kernel
theorem dX3_dough_40 : decode cX3_dough 40 = .ok (.iload_n 2, 1) := by decide +kernel
theorem dX3_dough_41 : decode cX3_dough 41 = .ok (.ireturn, 1) := by decide +kernel
theorem dX8_init_0 : decode cX8_init 0 = .ok (.aload_n 0, 1) := by decide +kernel
theorem dX8_init_1 : decode cX8_init 1 = .ok (.invokespecial 1, 3) := by decide +kernel
theorem dX8_init_4 : decode cX8_init 4 = .ok (.aload_n 0, 1) := by decide +kernel
theorem dX8_init_5 : decode cX8_init 5 = .ok (.iconst 4, 1) := by decide +kernel
theorem dX8_init_6 : decode cX8_init 6 = .ok (.anewarray 9, 3) := by decide +kernel
theorem dX8_init_9 : decode cX8_init 9 = .ok (.putfield 11, 3) := by decide +kernel
theorem dX8_init_12 : decode cX8_init 12 = .ok (.iconst 0, 1) := by decide +kernel
theorem dX8_init_13 : decode cX8_init 13 = .ok (.istore_n 1, 1) := by decide +kernel
theorem dX8_init_14 : decode cX8_init 14 = .ok (.iload_n 1, 1) := by decide +kernel
theorem dX8_init_15 : decode cX8_init 15 = .ok (.iconst 4, 1) := by decide +kernel
theorem dX8_init_16 : decode cX8_init 16 = .ok (.if_icmp .ge 22, 3) := by decide +kernel
theorem dX8_init_19 : decode cX8_init 19 = .ok (.aload_n 0, 1) := by decide +kernel
theorem dX8_init_20 : decode cX8_init 20 = .ok (.getfield 11, 3) := by decide +kernel
theorem dX8_init_23 : decode cX8_init 23 = .ok (.iload_n 1, 1) := by decide +kernel
theorem dX8_init_24 : decode cX8_init 24 = .ok (.new 9, 3) := by decide +kernel
theorem dX8_init_27 : decode cX8_init 27 = .ok (.dup, 1) := by decide +kernel
theorem dX8_init_28 : decode cX8_init 28 = .ok (.invokespecial 15, 3) := by decide +kernel
theorem dX8_init_31 : decode cX8_init 31 = .ok (.aastore, 1) := by decide +kernel
theorem dX8_init_32 : decode cX8_init 32 = .ok (.iinc 1 1, 3) := by decide +kernel
theorem dX8_init_35 : decode cX8_init 35 = .ok (.goto (-21), 3) := by decide +kernel
theorem dX8_init_38 : decode cX8_init 38 = .ok (.return_, 1) := by decide +kernel
theorem dX8_size_0 : decode cX8_size 0 = .ok (.aload_n 0, 1) := by decide +kernel
theorem dX8_size_1 : decode cX8_size 1 = .ok (.getfield 16, 3) := by decide +kernel
theorem dX8_size_4 : decode cX8_size 4 = .ok (.ireturn, 1) := by decide +kernel
theorem dX8_push_0 : decode cX8_push 0 = .ok (.aload_n 0, 1) := by decide +kernel
theorem dX8_push_1 : decode cX8_push 1 = .ok (.aload_n 0, 1) := by decide +kernel
theorem dX8_push_2 : decode cX8_push 2 = .ok (.getfield 20, 3) := by decide +kernel
theorem dX8_push_5 : decode cX8_push 5 = .ok (.iconst 1, 1) := by decide +kernel
theorem dX8_push_6 : decode cX8_push 6 = .ok (.iadd, 1) := by decide +kernel
theorem dX8_push_7 : decode cX8_push 7 = .ok (.iconst 4, 1) := by decide +kernel
theorem dX8_push_8 : decode cX8_push 8 = .ok (.if_icmp .ge 12, 3) := by decide +kernel
theorem dX8_push_11 : decode cX8_push 11 = .ok (.aload_n 0, 1) := by decide +kernel
theorem dX8_push_12 : decode cX8_push 12 = .ok (.getfield 20, 3) := by decide +kernel
theorem dX8_push_15 : decode cX8_push 15 = .ok (.iconst 1, 1) := by decide +kernel
theorem dX8_push_16 : decode cX8_push 16 = .ok (.iadd, 1) := by decide +kernel
theorem dX8_push_17 : decode cX8_push 17 = .ok (.goto 4, 3) := by decide +kernel
theorem dX8_push_20 : decode cX8_push 20 = .ok (.iconst 0, 1) := by decide +kernel
theorem dX8_push_21 : decode cX8_push 21 = .ok (.putfield 20, 3) := by decide +kernel
theorem dX8_push_24 : decode cX8_push 24 = .ok (.aload_n 0, 1) := by decide +kernel
theorem dX8_push_25 : decode cX8_push 25 = .ok (.aload_n 0, 1) := by decide +kernel
theorem dX8_push_26 : decode cX8_push 26 = .ok (.getfield 20, 3) := by decide +kernel
theorem dX8_push_29 : decode cX8_push 29 = .ok (.invokevirtual 23, 3) := by decide +kernel
theorem dX8_push_32 : decode cX8_push 32 = .ok (.astore_n 2, 1) := by decide +kernel
theorem dX8_push_33 : decode cX8_push 33 = .ok (.aload_n 2, 1) := by decide +kernel
theorem dX8_push_34 : decode cX8_push 34 = .ok (.ifnull 22, 3) := by decide +kernel
theorem dX8_push_37 : decode cX8_push 37 = .ok (.aload_n 2, 1) := by decide +kernel
theorem dX8_push_38 : decode cX8_push 38 = .ok (.aload_n 1, 1) := by decide +kernel
theorem dX8_push_39 : decode cX8_push 39 = .ok (.invokevirtual 27, 3) := by decide +kernel
theorem dX8_push_42 : decode cX8_push 42 = .ok (.aload_n 0, 1) := by decide +kernel
theorem dX8_push_43 : decode cX8_push 43 = .ok (.iconst 4, 1) := by decide +kernel
theorem dX8_push_44 : decode cX8_push 44 = .ok (.aload_n 0, 1) := by decide +kernel
theorem dX8_push_45 : decode cX8_push 45 = .ok (.getfield 16, 3) := by decide +kernel
theorem dX8_push_48 : decode cX8_push 48 = .ok (.iconst 1, 1) := by decide +kernel
theorem dX8_push_49 : decode cX8_push 49 = .ok (.iadd, 1) := by decide +kernel
theorem dX8_push_50 : decode cX8_push 50 = .ok (.invokestatic 31, 3) := by decide +kernel
theorem dX8_push_53 : decode cX8_push 53 = .ok (.putfield 16, 3) := by decide +kernel
theorem dX8_push_56 : decode cX8_push 56 = .ok (.return_, 1) := by decide +kernel
theorem dX8_popInto_0 : decode cX8_popInto 0 = .ok (.aload_n 0, 1) := by decide +kernel
theorem dX8_popInto_1 : decode cX8_popInto 1 = .ok (.aload_n 0, 1) := by decide +kernel
theorem dX8_popInto_2 : decode cX8_popInto 2 = .ok (.getfield 20, 3) := by decide +kernel
theorem dX8_popInto_5 : decode cX8_popInto 5 = .ok (.invokevirtual 23, 3) := by decide +kernel
theorem dX8_popInto_8 : decode cX8_popInto 8 = .ok (.astore_n 2, 1) := by decide +kernel
theorem dX8_popInto_9 : decode cX8_popInto 9 = .ok (.aload_n 2, 1) := by decide +kernel
theorem dX8_popInto_10 : decode cX8_popInto 10 = .ok (.ifnull 46, 3) := by decide +kernel
theorem dX8_popInto_13 : decode cX8_popInto 13 = .ok (.aload_n 0, 1) := by decide +kernel
theorem dX8_popInto_14 : decode cX8_popInto 14 = .ok (.getfield 16, 3) := by decide +kernel
theorem dX8_popInto_17 : decode cX8_popInto 17 = .ok (.ifCond .le 39, 3) := by decide +kernel
theorem dX8_popInto_20 : decode cX8_popInto 20 = .ok (.aload_n 1, 1) := by decide +kernel
theorem dX8_popInto_21 : decode cX8_popInto 21 = .ok (.aload_n 2, 1) := by decide +kernel
theorem dX8_popInto_22 : decode cX8_popInto 22 = .ok (.invokevirtual 27, 3) := by decide +kernel
theorem dX8_popInto_25 : decode cX8_popInto 25 = .ok (.aload_n 0, 1) := by decide +kernel
theorem dX8_popInto_26 : decode cX8_popInto 26 = .ok (.aload_n 0, 1) := by decide +kernel
theorem dX8_popInto_27 : decode cX8_popInto 27 = .ok (.getfield 20, 3) := by decide +kernel
theorem dX8_popInto_30 : decode cX8_popInto 30 = .ok (.ifCond .le 12, 3) := by decide +kernel
theorem dX8_popInto_33 : decode cX8_popInto 33 = .ok (.aload_n 0, 1) := by decide +kernel
theorem dX8_popInto_34 : decode cX8_popInto 34 = .ok (.getfield 20, 3) := by decide +kernel
theorem dX8_popInto_37 : decode cX8_popInto 37 = .ok (.iconst 1, 1) := by decide +kernel
theorem dX8_popInto_38 : decode cX8_popInto 38 = .ok (.isub, 1) := by decide +kernel
theorem dX8_popInto_39 : decode cX8_popInto 39 = .ok (.goto 4, 3) := by decide +kernel
theorem dX8_popInto_42 : decode cX8_popInto 42 = .ok (.iconst 3, 1) := by decide +kernel
theorem dX8_popInto_43 : decode cX8_popInto 43 = .ok (.putfield 20, 3) := by decide +kernel
theorem dX8_popInto_46 : decode cX8_popInto 46 = .ok (.aload_n 0, 1) := by decide +kernel
theorem dX8_popInto_47 : decode cX8_popInto 47 = .ok (.dup, 1) := by decide +kernel
theorem dX8_popInto_48 : decode cX8_popInto 48 = .ok (.getfield 16, 3) := by decide +kernel
theorem dX8_popInto_51 : decode cX8_popInto 51 = .ok (.iconst 1, 1) := by decide +kernel
theorem dX8_popInto_52 : decode cX8_popInto 52 = .ok (.isub, 1) := by decide +kernel
theorem dX8_popInto_53 : decode cX8_popInto 53 = .ok (.putfield 16, 3) := by decide +kernel
theorem dX8_popInto_56 : decode cX8_popInto 56 = .ok (.aload_n 0, 1) := by decide +kernel
theorem dX8_popInto_57 : decode cX8_popInto 57 = .ok (.getfield 16, 3) := by decide +kernel
theorem dX8_popInto_60 : decode cX8_popInto 60 = .ok (.ireturn, 1) := by decide +kernel
theorem dX8_stateAt_0 : decode cX8_stateAt 0 = .ok (.iload_n 1, 1) := by decide +kernel
theorem dX8_stateAt_1 : decode cX8_stateAt 1 = .ok (.ifCond .lt 17, 3) := by decide +kernel
theorem dX8_stateAt_4 : decode cX8_stateAt 4 = .ok (.iload_n 1, 1) := by decide +kernel
theorem dX8_stateAt_5 : decode cX8_stateAt 5 = .ok (.iconst 4, 1) := by decide +kernel
theorem dX8_stateAt_6 : decode cX8_stateAt 6 = .ok (.if_icmp .ge 12, 3) := by decide +kernel
theorem dX8_stateAt_9 : decode cX8_stateAt 9 = .ok (.aload_n 0, 1) := by decide +kernel
theorem dX8_stateAt_10 : decode cX8_stateAt 10 = .ok (.getfield 11, 3) := by decide +kernel
theorem dX8_stateAt_13 : decode cX8_stateAt 13 = .ok (.iload_n 1, 1) := by decide +kernel
theorem dX8_stateAt_14 : decode cX8_stateAt 14 = .ok (.aaload, 1) := by decide +kernel
theorem dX8_stateAt_15 : decode cX8_stateAt 15 = .ok (.goto 4, 3) := by decide +kernel
theorem dX8_stateAt_18 : decode cX8_stateAt 18 = .ok (.aconst_null, 1) := by decide +kernel
theorem dX8_stateAt_19 : decode cX8_stateAt 19 = .ok (.areturn, 1) := by decide +kernel
theorem dX9_init_0 : decode cX9_init 0 = .ok (.aload_n 0, 1) := by decide +kernel
theorem dX9_init_1 : decode cX9_init 1 = .ok (.invokespecial 3, 3) := by decide +kernel
theorem dX9_init_4 : decode cX9_init 4 = .ok (.aload_n 0, 1) := by decide +kernel
theorem dX9_init_5 : decode cX9_init 5 = .ok (.new 9, 3) := by decide +kernel
theorem dX9_init_8 : decode cX9_init 8 = .ok (.dup, 1) := by decide +kernel
theorem dX9_init_9 : decode cX9_init 9 = .ok (.invokespecial 11, 3) := by decide +kernel
theorem dX9_init_12 : decode cX9_init 12 = .ok (.putfield 12, 3) := by decide +kernel
theorem dX9_init_15 : decode cX9_init 15 = .ok (.aload_n 0, 1) := by decide +kernel
theorem dX9_init_16 : decode cX9_init 16 = .ok (.new 18, 3) := by decide +kernel
theorem dX9_init_19 : decode cX9_init 19 = .ok (.dup, 1) := by decide +kernel
theorem dX9_init_20 : decode cX9_init 20 = .ok (.invokespecial 20, 3) := by decide +kernel
theorem dX9_init_23 : decode cX9_init 23 = .ok (.putfield 21, 3) := by decide +kernel
theorem dX9_init_26 : decode cX9_init 26 = .ok (.aload_n 0, 1) := by decide +kernel
theorem dX9_init_27 : decode cX9_init 27 = .ok (.new 25, 3) := by decide +kernel
theorem dX9_init_30 : decode cX9_init 30 = .ok (.dup, 1) := by decide +kernel
theorem dX9_init_31 : decode cX9_init 31 = .ok (.invokespecial 27, 3) := by decide +kernel
theorem dX9_init_34 : decode cX9_init 34 = .ok (.putfield 28, 3) := by decide +kernel
theorem dX9_init_37 : decode cX9_init 37 = .ok (.aload_n 0, 1) := by decide +kernel
theorem dX9_init_38 : decode cX9_init 38 = .ok (.new 32, 3) := by decide +kernel
theorem dX9_init_41 : decode cX9_init 41 = .ok (.dup, 1) := by decide +kernel
theorem dX9_init_42 : decode cX9_init 42 = .ok (.invokespecial 34, 3) := by decide +kernel
theorem dX9_init_45 : decode cX9_init 45 = .ok (.putfield 35, 3) := by decide +kernel
theorem dX9_init_48 : decode cX9_init 48 = .ok (.aload_n 0, 1) := by decide +kernel
theorem dX9_init_49 : decode cX9_init 49 = .ok (.bipush 20, 2) := by decide +kernel
theorem dX9_init_51 : decode cX9_init 51 = .ok (.putfield 39, 3) := by decide +kernel
theorem dX9_init_54 : decode cX9_init 54 = .ok (.aload_n 0, 1) := by decide +kernel
theorem dX9_init_55 : decode cX9_init 55 = .ok (.iconst 1, 1) := by decide +kernel
theorem dX9_init_56 : decode cX9_init 56 = .ok (.putfield 43, 3) := by decide +kernel
theorem dX9_init_59 : decode cX9_init 59 = .ok (.return_, 1) := by decide +kernel
theorem dX9_copyFrom_0 : decode cX9_copyFrom 0 = .ok (.aload_n 0, 1) := by decide +kernel
theorem dX9_copyFrom_1 : decode cX9_copyFrom 1 = .ok (.getfield 12, 3) := by decide +kernel
theorem dX9_copyFrom_4 : decode cX9_copyFrom 4 = .ok (.aload_n 1, 1) := by decide +kernel
theorem dX9_copyFrom_5 : decode cX9_copyFrom 5 = .ok (.getfield 12, 3) := by decide +kernel
theorem dX9_copyFrom_8 : decode cX9_copyFrom 8 = .ok (.invokevirtual 46, 3) := by decide +kernel
theorem dX9_copyFrom_11 : decode cX9_copyFrom 11 = .ok (.aload_n 0, 1) := by decide +kernel
theorem dX9_copyFrom_12 : decode cX9_copyFrom 12 = .ok (.getfield 21, 3) := by decide +kernel
theorem dX9_copyFrom_15 : decode cX9_copyFrom 15 = .ok (.aload_n 1, 1) := by decide +kernel
theorem dX9_copyFrom_16 : decode cX9_copyFrom 16 = .ok (.getfield 21, 3) := by decide +kernel
theorem dX9_copyFrom_19 : decode cX9_copyFrom 19 = .ok (.invokevirtual 50, 3) := by decide +kernel
theorem dX9_copyFrom_22 : decode cX9_copyFrom 22 = .ok (.aload_n 0, 1) := by decide +kernel
theorem dX9_copyFrom_23 : decode cX9_copyFrom 23 = .ok (.getfield 28, 3) := by decide +kernel
theorem dX9_copyFrom_26 : decode cX9_copyFrom 26 = .ok (.aload_n 1, 1) := by decide +kernel
theorem dX9_copyFrom_27 : decode cX9_copyFrom 27 = .ok (.getfield 28, 3) := by decide +kernel
theorem dX9_copyFrom_30 : decode cX9_copyFrom 30 = .ok (.invokevirtual 53, 3) := by decide +kernel
theorem dX9_copyFrom_33 : decode cX9_copyFrom 33 = .ok (.aload_n 0, 1) := by decide +kernel
theorem dX9_copyFrom_34 : decode cX9_copyFrom 34 = .ok (.getfield 35, 3) := by decide +kernel
theorem dX9_copyFrom_37 : decode cX9_copyFrom 37 = .ok (.aload_n 1, 1) := by decide +kernel
theorem dX9_copyFrom_38 : decode cX9_copyFrom 38 = .ok (.getfield 35, 3) := by decide +kernel
theorem dX9_copyFrom_41 : decode cX9_copyFrom 41 = .ok (.invokevirtual 56, 3) := by decide +kernel
theorem dX9_copyFrom_44 : decode cX9_copyFrom 44 = .ok (.aload_n 0, 1) := by decide +kernel
theorem dX9_copyFrom_45 : decode cX9_copyFrom 45 = .ok (.aload_n 1, 1) := by decide +kernel
theorem dX9_copyFrom_46 : decode cX9_copyFrom 46 = .ok (.getfield 39, 3) := by decide +kernel
theorem dX9_copyFrom_49 : decode cX9_copyFrom 49 = .ok (.putfield 39, 3) := by decide +kernel
theorem dX9_copyFrom_52 : decode cX9_copyFrom 52 = .ok (.aload_n 0, 1) := by decide +kernel
theorem dX9_copyFrom_53 : decode cX9_copyFrom 53 = .ok (.aload_n 1, 1) := by decide +kernel
theorem dX9_copyFrom_54 : decode cX9_copyFrom 54 = .ok (.getfield 43, 3) := by decide +kernel
theorem dX9_copyFrom_57 : decode cX9_copyFrom 57 = .ok (.putfield 43, 3) := by decide +kernel
theorem dX9_copyFrom_60 : decode cX9_copyFrom 60 = .ok (.aload_n 0, 1) := by decide +kernel
theorem dX9_copyFrom_61 : decode cX9_copyFrom 61 = .ok (.aload_n 1, 1) := by decide +kernel
theorem dX9_copyFrom_62 : decode cX9_copyFrom 62 = .ok (.getfield 59, 3) := by decide +kernel
theorem dX9_copyFrom_65 : decode cX9_copyFrom 65 = .ok (.putfield 59, 3) := by decide +kernel
theorem dX9_copyFrom_68 : decode cX9_copyFrom 68 = .ok (.aload_n 0, 1) := by decide +kernel
theorem dX9_copyFrom_69 : decode cX9_copyFrom 69 = .ok (.aload_n 1, 1) := by decide +kernel
theorem dX9_copyFrom_70 : decode cX9_copyFrom 70 = .ok (.getfield 62, 3) := by decide +kernel
theorem dX9_copyFrom_73 : decode cX9_copyFrom 73 = .ok (.putfield 62, 3) := by decide +kernel
theorem dX9_copyFrom_76 : decode cX9_copyFrom 76 = .ok (.return_, 1) := by decide +kernel
theorem dX9_whyNoHousehold_0 : decode cX9_whyNoHousehold 0 = .ok (.aload_n 0, 1) := by decide +kernel
theorem dX9_whyNoHousehold_1 : decode cX9_whyNoHousehold 1 = .ok (.getfield 12, 3) := by decide +kernel
theorem dX9_whyNoHousehold_4 : decode cX9_whyNoHousehold 4 = .ok (.iload_n 1, 1) := by decide +kernel
theorem dX9_whyNoHousehold_5 : decode cX9_whyNoHousehold 5 = .ok (.invokevirtual 65, 3) := by decide +kernel
theorem dX9_whyNoHousehold_8 : decode cX9_whyNoHousehold 8 = .ok (.ifCond .eq 7, 3) := by decide +kernel
theorem dX9_whyNoHousehold_11 : decode cX9_whyNoHousehold 11 = .ok (.iconst 0, 1) := by decide +kernel
theorem dX9_whyNoHousehold_12 : decode cX9_whyNoHousehold 12 = .ok (.goto 4, 3) := by decide +kernel
theorem dX9_whyNoHousehold_15 : decode cX9_whyNoHousehold 15 = .ok (.iconst 1, 1) := by decide +kernel
theorem dX9_whyNoHousehold_16 : decode cX9_whyNoHousehold 16 = .ok (.ireturn, 1) := by decide +kernel
theorem dX9_whyNoJoining_0 : decode cX9_whyNoJoining 0 = .ok (.iload_n 1, 1) := by decide +kernel
theorem dX9_whyNoJoining_1 : decode cX9_whyNoJoining 1 = .ok (.iconst 1, 1) := by decide +kernel
theorem dX9_whyNoJoining_2 : decode cX9_whyNoJoining 2 = .ok (.ldc 69, 2) := by decide +kernel
theorem dX9_whyNoJoining_4 : decode cX9_whyNoJoining 4 = .ok (.invokestatic 70, 3) := by decide +kernel
theorem dX9_whyNoJoining_7 : decode cX9_whyNoJoining 7 = .ok (.ifCond .eq 5, 3) := by decide +kernel
theorem dX9_whyNoJoining_10 : decode cX9_whyNoJoining 10 = .ok (.iconst 2, 1) := by decide +kernel
theorem dX9_whyNoJoining_11 : decode cX9_whyNoJoining 11 = .ok (.ireturn, 1) := by decide +kernel
theorem dX9_whyNoJoining_12 : decode cX9_whyNoJoining 12 = .ok (.aload_n 0, 1) := by decide +kernel
theorem dX9_whyNoJoining_13 : decode cX9_whyNoJoining 13 = .ok (.getfield 12, 3) := by decide +kernel
theorem dX9_whyNoJoining_16 : decode cX9_whyNoJoining 16 = .ok (.invokevirtual 74, 3) := by decide +kernel
theorem dX9_whyNoJoining_19 : decode cX9_whyNoJoining 19 = .ok (.ifCond .ne 15, 3) := by decide +kernel
theorem dX9_whyNoJoining_22 : decode cX9_whyNoJoining 22 = .ok (.aload_n 0, 1) := by decide +kernel
theorem dX9_whyNoJoining_23 : decode cX9_whyNoJoining 23 = .ok (.getfield 12, 3) := by decide +kernel
theorem dX9_whyNoJoining_26 : decode cX9_whyNoJoining 26 = .ok (.iload_n 1, 1) := by decide +kernel
theorem dX9_whyNoJoining_27 : decode cX9_whyNoJoining 27 = .ok (.invokevirtual 78, 3) := by decide +kernel
theorem dX9_whyNoJoining_30 : decode cX9_whyNoJoining 30 = .ok (.iconst (-1), 1) := by decide +kernel
theorem dX9_whyNoJoining_31 : decode cX9_whyNoJoining 31 = .ok (.if_icmp .eq 7, 3) := by decide +kernel
theorem dX9_whyNoJoining_34 : decode cX9_whyNoJoining 34 = .ok (.iconst 3, 1) := by decide +kernel
theorem dX9_whyNoJoining_35 : decode cX9_whyNoJoining 35 = .ok (.goto 4, 3) := by decide +kernel
theorem dX9_whyNoJoining_38 : decode cX9_whyNoJoining 38 = .ok (.iconst 0, 1) := by decide +kernel
theorem dX9_whyNoJoining_39 : decode cX9_whyNoJoining 39 = .ok (.ireturn, 1) := by decide +kernel
theorem dX9_whyNoOtherMark_0 : decode cX9_whyNoOtherMark 0 = .ok (.aload_n 0, 1) := by decide +kernel
theorem dX9_whyNoOtherMark_1 : decode cX9_whyNoOtherMark 1 = .ok (.getfield 12, 3) := by decide +kernel
theorem dX9_whyNoOtherMark_4 : decode cX9_whyNoOtherMark 4 = .ok (.iload_n 1, 1) := by decide +kernel
theorem dX9_whyNoOtherMark_5 : decode cX9_whyNoOtherMark 5 = .ok (.invokevirtual 65, 3) := by decide +kernel
theorem dX9_whyNoOtherMark_8 : decode cX9_whyNoOtherMark 8 = .ok (.ifCond .ne 5, 3) := by decide +kernel
theorem dX9_whyNoOtherMark_11 : decode cX9_whyNoOtherMark 11 = .ok (.iconst 1, 1) := by decide +kernel
theorem dX9_whyNoOtherMark_12 : decode cX9_whyNoOtherMark 12 = .ok (.ireturn, 1) := by decide +kernel
theorem dX9_whyNoOtherMark_13 : decode cX9_whyNoOtherMark 13 = .ok (.iload_n 2, 1) := by decide +kernel
theorem dX9_whyNoOtherMark_14 : decode cX9_whyNoOtherMark 14 = .ok (.iconst 1, 1) := by decide +kernel
theorem dX9_whyNoOtherMark_15 : decode cX9_whyNoOtherMark 15 = .ok (.ldc 69, 2) := by decide +kernel
theorem dX9_whyNoOtherMark_17 : decode cX9_whyNoOtherMark 17 = .ok (.invokestatic 70, 3) := by decide +kernel
theorem dX9_whyNoOtherMark_20 : decode cX9_whyNoOtherMark 20 = .ok (.ifCond .eq 5, 3) := by decide +kernel
theorem dX9_whyNoOtherMark_23 : decode cX9_whyNoOtherMark 23 = .ok (.iconst 2, 1) := by decide +kernel
theorem dX9_whyNoOtherMark_24 : decode cX9_whyNoOtherMark 24 = .ok (.ireturn, 1) := by decide +kernel
theorem dX9_whyNoOtherMark_25 : decode cX9_whyNoOtherMark 25 = .ok (.aload_n 0, 1) := by decide +kernel
theorem dX9_whyNoOtherMark_26 : decode cX9_whyNoOtherMark 26 = .ok (.getfield 12, 3) := by decide +kernel
theorem dX9_whyNoOtherMark_29 : decode cX9_whyNoOtherMark 29 = .ok (.iload_n 2, 1) := by decide +kernel
theorem dX9_whyNoOtherMark_30 : decode cX9_whyNoOtherMark 30 = .ok (.invokevirtual 78, 3) := by decide +kernel
theorem dX9_whyNoOtherMark_33 : decode cX9_whyNoOtherMark 33 = .ok (.istore_n 3, 1) := by decide +kernel
theorem dX9_whyNoOtherMark_34 : decode cX9_whyNoOtherMark 34 = .ok (.iload_n 3, 1) := by decide +kernel
theorem dX9_whyNoOtherMark_35 : decode cX9_whyNoOtherMark 35 = .ok (.iconst (-1), 1) := by decide +kernel
theorem dX9_whyNoOtherMark_36 : decode cX9_whyNoOtherMark 36 = .ok (.if_icmp .eq 12, 3) := by decide +kernel
theorem dX9_whyNoOtherMark_39 : decode cX9_whyNoOtherMark 39 = .ok (.iload_n 3, 1) := by decide +kernel
theorem dX9_whyNoOtherMark_40 : decode cX9_whyNoOtherMark 40 = .ok (.iload_n 1, 1) := by decide +kernel
theorem dX9_whyNoOtherMark_41 : decode cX9_whyNoOtherMark 41 = .ok (.if_icmp .eq 7, 3) := by decide +kernel
theorem dX9_whyNoOtherMark_44 : decode cX9_whyNoOtherMark 44 = .ok (.iconst 3, 1) := by decide +kernel
theorem dX9_whyNoOtherMark_45 : decode cX9_whyNoOtherMark 45 = .ok (.goto 4, 3) := by decide +kernel
theorem dX9_whyNoOtherMark_48 : decode cX9_whyNoOtherMark 48 = .ok (.iconst 0, 1) := by decide +kernel
theorem dX9_whyNoOtherMark_49 : decode cX9_whyNoOtherMark 49 = .ok (.ireturn, 1) := by decide +kernel
theorem dX9_whyNoBatch_0 : decode cX9_whyNoBatch 0 = .ok (.aload_n 0, 1) := by decide +kernel
theorem dX9_whyNoBatch_1 : decode cX9_whyNoBatch 1 = .ok (.getfield 12, 3) := by decide +kernel
theorem dX9_whyNoBatch_4 : decode cX9_whyNoBatch 4 = .ok (.iload_n 1, 1) := by decide +kernel
theorem dX9_whyNoBatch_5 : decode cX9_whyNoBatch 5 = .ok (.invokevirtual 65, 3) := by decide +kernel
theorem dX9_whyNoBatch_8 : decode cX9_whyNoBatch 8 = .ok (.ifCond .ne 5, 3) := by decide +kernel
theorem dX9_whyNoBatch_11 : decode cX9_whyNoBatch 11 = .ok (.iconst 1, 1) := by decide +kernel
theorem dX9_whyNoBatch_12 : decode cX9_whyNoBatch 12 = .ok (.ireturn, 1) := by decide +kernel
theorem dX9_whyNoBatch_13 : decode cX9_whyNoBatch 13 = .ok (.iload_n 2, 1) := by decide +kernel
theorem dX9_whyNoBatch_14 : decode cX9_whyNoBatch 14 = .ok (.iconst 3, 1) := by decide +kernel
theorem dX9_whyNoBatch_15 : decode cX9_whyNoBatch 15 = .ok (.invokestatic 82, 3) := by decide +kernel
theorem dX9_whyNoBatch_18 : decode cX9_whyNoBatch 18 = .ok (.ifCond .ne 13, 3) := by decide +kernel
theorem dX9_whyNoBatch_21 : decode cX9_whyNoBatch 21 = .ok (.iload_n 3, 1) := by decide +kernel
theorem dX9_whyNoBatch_22 : decode cX9_whyNoBatch 22 = .ok (.iconst 1, 1) := by decide +kernel
theorem dX9_whyNoBatch_23 : decode cX9_whyNoBatch 23 = .ok (.bipush 12, 2) := by decide +kernel
theorem dX9_whyNoBatch_25 : decode cX9_whyNoBatch 25 = .ok (.invokestatic 70, 3) := by decide +kernel
theorem dX9_whyNoBatch_28 : decode cX9_whyNoBatch 28 = .ok (.ifCond .eq 5, 3) := by decide +kernel
theorem dX9_whyNoBatch_31 : decode cX9_whyNoBatch 31 = .ok (.iconst 2, 1) := by decide +kernel
theorem dX9_whyNoBatch_32 : decode cX9_whyNoBatch 32 = .ok (.ireturn, 1) := by decide +kernel
theorem dX9_whyNoBatch_33 : decode cX9_whyNoBatch 33 = .ok (.aload_n 0, 1) := by decide +kernel
theorem dX9_whyNoBatch_34 : decode cX9_whyNoBatch 34 = .ok (.getfield 21, 3) := by decide +kernel
theorem dX9_whyNoBatch_37 : decode cX9_whyNoBatch 37 = .ok (.invokevirtual 86, 3) := by decide +kernel
theorem dX9_whyNoBatch_40 : decode cX9_whyNoBatch 40 = .ok (.ifCond .eq 7, 3) := by decide +kernel
theorem dX9_whyNoBatch_43 : decode cX9_whyNoBatch 43 = .ok (.iconst 3, 1) := by decide +kernel
theorem dX9_whyNoBatch_44 : decode cX9_whyNoBatch 44 = .ok (.goto 4, 3) := by decide +kernel
theorem dX9_whyNoBatch_47 : decode cX9_whyNoBatch 47 = .ok (.iconst 0, 1) := by decide +kernel
theorem dX9_whyNoBatch_48 : decode cX9_whyNoBatch 48 = .ok (.ireturn, 1) := by decide +kernel
theorem dX9_whyNoDay_0 : decode cX9_whyNoDay 0 = .ok (.iload_n 1, 1) := by decide +kernel
theorem dX9_whyNoDay_1 : decode cX9_whyNoDay 1 = .ok (.iconst 1, 1) := by decide +kernel
theorem dX9_whyNoDay_2 : decode cX9_whyNoDay 2 = .ok (.bipush 40, 2) := by decide +kernel
theorem dX9_whyNoDay_4 : decode cX9_whyNoDay 4 = .ok (.invokestatic 70, 3) := by decide +kernel
theorem dX9_whyNoDay_7 : decode cX9_whyNoDay 7 = .ok (.ifCond .eq 5, 3) := by decide +kernel
theorem dX9_whyNoDay_10 : decode cX9_whyNoDay 10 = .ok (.iconst 2, 1) := by decide +kernel
theorem dX9_whyNoDay_11 : decode cX9_whyNoDay 11 = .ok (.ireturn, 1) := by decide +kernel
theorem dX9_whyNoDay_12 : decode cX9_whyNoDay 12 = .ok (.aload_n 0, 1) := by decide +kernel
theorem dX9_whyNoDay_13 : decode cX9_whyNoDay 13 = .ok (.getfield 21, 3) := by decide +kernel
theorem dX9_whyNoDay_16 : decode cX9_whyNoDay 16 = .ok (.invokevirtual 87, 3) := by decide +kernel
theorem dX9_whyNoDay_19 : decode cX9_whyNoDay 19 = .ok (.ifCond .ne 7, 3) := by decide +kernel
theorem dX9_whyNoDay_22 : decode cX9_whyNoDay 22 = .ok (.iconst 3, 1) := by decide +kernel
theorem dX9_whyNoDay_23 : decode cX9_whyNoDay 23 = .ok (.goto 4, 3) := by decide +kernel
theorem dX9_whyNoDay_26 : decode cX9_whyNoDay 26 = .ok (.iconst 0, 1) := by decide +kernel
theorem dX9_whyNoDay_27 : decode cX9_whyNoDay 27 = .ok (.ireturn, 1) := by decide +kernel
theorem dX9_changeS_0 : decode cX9_changeS 0 = .ok (.aload_n 0, 1) := by decide +kernel
theorem dX9_changeS_1 : decode cX9_changeS 1 = .ok (.getfield 43, 3) := by decide +kernel
theorem dX9_changeS_4 : decode cX9_changeS 4 = .ok (.istore_n 2, 1) := by decide +kernel
theorem dX9_changeS_5 : decode cX9_changeS 5 = .ok (.aload_n 0, 1) := by decide +kernel
theorem dX9_changeS_6 : decode cX9_changeS 6 = .ok (.iload_n 1, 1) := by decide +kernel
theorem dX9_changeS_7 : decode cX9_changeS 7 = .ok (.putfield 43, 3) := by decide +kernel
theorem dX9_changeS_10 : decode cX9_changeS 10 = .ok (.iload_n 2, 1) := by decide +kernel
theorem dX9_changeS_11 : decode cX9_changeS 11 = .ok (.ireturn, 1) := by decide +kernel
theorem dX9_letClaim_0 : decode cX9_letClaim 0 = .ok (.aload_n 0, 1) := by decide +kernel
theorem dX9_letClaim_1 : decode cX9_letClaim 1 = .ok (.getfield 35, 3) := by decide +kernel
theorem dX9_letClaim_4 : decode cX9_letClaim 4 = .ok (.iload_n 1, 1) := by decide +kernel
theorem dX9_letClaim_5 : decode cX9_letClaim 5 = .ok (.aload_n 0, 1) := by decide +kernel
theorem dX9_letClaim_6 : decode cX9_letClaim 6 = .ok (.getfield 12, 3) := by decide +kernel
theorem dX9_letClaim_9 : decode cX9_letClaim 9 = .ok (.iload_n 1, 1) := by decide +kernel
theorem dX9_letClaim_10 : decode cX9_letClaim 10 = .ok (.iconst 0, 1) := by decide +kernel
theorem dX9_letClaim_11 : decode cX9_letClaim 11 = .ok (.invokevirtual 91, 3) := by decide +kernel
theorem dX9_letClaim_14 : decode cX9_letClaim 14 = .ok (.invokevirtual 94, 3) := by decide +kernel
theorem dX9_letClaim_17 : decode cX9_letClaim 17 = .ok (.ireturn, 1) := by decide +kernel
theorem dX9_heatWith_0 : decode cX9_heatWith 0 = .ok (.sipush 400, 3) := by decide +kernel
theorem dX9_heatWith_3 : decode cX9_heatWith 3 = .ok (.aload_n 0, 1) := by decide +kernel
theorem dX9_heatWith_4 : decode cX9_heatWith 4 = .ok (.getfield 39, 3) := by decide +kernel
theorem dX9_heatWith_7 : decode cX9_heatWith 7 = .ok (.bipush 10, 2) := by decide +kernel
theorem dX9_heatWith_9 : decode cX9_heatWith 9 = .ok (.iload_n 1, 1) := by decide +kernel
theorem dX9_heatWith_10 : decode cX9_heatWith 10 = .ok (.imul, 1) := by decide +kernel
theorem dX9_heatWith_11 : decode cX9_heatWith 11 = .ok (.iadd, 1) := by decide +kernel
theorem dX9_heatWith_12 : decode cX9_heatWith 12 = .ok (.invokestatic 97, 3) := by decide +kernel
theorem dX9_heatWith_15 : decode cX9_heatWith 15 = .ok (.ireturn, 1) := by decide +kernel
theorem dX9_arrangeNextDay_0 : decode cX9_arrangeNextDay 0 = .ok (.aload_n 1, 1) := by decide +kernel
theorem dX9_arrangeNextDay_1 : decode cX9_arrangeNextDay 1 = .ok (.aload_n 0, 1) := by decide +kernel
theorem dX9_arrangeNextDay_2 : decode cX9_arrangeNextDay 2 = .ok (.getfield 21, 3) := by decide +kernel
theorem dX9_arrangeNextDay_5 : decode cX9_arrangeNextDay 5 = .ok (.aload_n 0, 1) := by decide +kernel
theorem dX9_arrangeNextDay_6 : decode cX9_arrangeNextDay 6 = .ok (.getfield 12, 3) := by decide +kernel
theorem dX9_arrangeNextDay_9 : decode cX9_arrangeNextDay 9 = .ok (.invokevirtual 102, 3) := by decide +kernel
theorem dX9_arrangeNextDay_12 : decode cX9_arrangeNextDay 12 = .ok (.aload_n 0, 1) := by decide +kernel
theorem dX9_arrangeNextDay_13 : decode cX9_arrangeNextDay 13 = .ok (.getfield 12, 3) := by decide +kernel
theorem dX9_arrangeNextDay_16 : decode cX9_arrangeNextDay 16 = .ok (.invokevirtual 103, 3) := by decide +kernel
theorem dX9_arrangeNextDay_19 : decode cX9_arrangeNextDay 19 = .ok (.invokevirtual 106, 3) := by decide +kernel
theorem dX9_arrangeNextDay_22 : decode cX9_arrangeNextDay 22 = .ok (.return_, 1) := by decide +kernel
theorem dX9_haveDay_0 : decode cX9_haveDay 0 = .ok (.aload_n 0, 1) := by decide +kernel
theorem dX9_haveDay_1 : decode cX9_haveDay 1 = .ok (.getfield 35, 3) := by decide +kernel
theorem dX9_haveDay_4 : decode cX9_haveDay 4 = .ok (.invokevirtual 112, 3) := by decide +kernel
theorem dX9_haveDay_7 : decode cX9_haveDay 7 = .ok (.istore_n 3, 1) := by decide +kernel
theorem dX9_haveDay_8 : decode cX9_haveDay 8 = .ok (.aload_n 0, 1) := by decide +kernel
theorem dX9_haveDay_9 : decode cX9_haveDay 9 = .ok (.aload_n 2, 1) := by decide +kernel
theorem dX9_haveDay_10 : decode cX9_haveDay 10 = .ok (.invokevirtual 115, 3) := by decide +kernel
theorem dX9_haveDay_13 : decode cX9_haveDay 13 = .ok (.aload_n 0, 1) := by decide +kernel
theorem dX9_haveDay_14 : decode cX9_haveDay 14 = .ok (.getfield 12, 3) := by decide +kernel
theorem dX9_haveDay_17 : decode cX9_haveDay 17 = .ok (.iload_n 1, 1) := by decide +kernel
theorem dX9_haveDay_18 : decode cX9_haveDay 18 = .ok (.invokevirtual 119, 3) := by decide +kernel
theorem dX9_haveDay_21 : decode cX9_haveDay 21 = .ok (.aload_n 2, 1) := by decide +kernel
theorem dX9_haveDay_22 : decode cX9_haveDay 22 = .ok (.aload_n 0, 1) := by decide +kernel
theorem dX9_haveDay_23 : decode cX9_haveDay 23 = .ok (.getfield 21, 3) := by decide +kernel
theorem dX9_haveDay_26 : decode cX9_haveDay 26 = .ok (.aload_n 0, 1) := by decide +kernel
theorem dX9_haveDay_27 : decode cX9_haveDay 27 = .ok (.iload_n 1, 1) := by decide +kernel
theorem dX9_haveDay_28 : decode cX9_haveDay 28 = .ok (.invokevirtual 123, 3) := by decide +kernel
theorem dX9_haveDay_31 : decode cX9_haveDay 31 = .ok (.invokevirtual 126, 3) := by decide +kernel
theorem dX9_haveDay_34 : decode cX9_haveDay 34 = .ok (.aload_n 0, 1) := by decide +kernel
theorem dX9_haveDay_35 : decode cX9_haveDay 35 = .ok (.getfield 28, 3) := by decide +kernel
theorem dX9_haveDay_38 : decode cX9_haveDay 38 = .ok (.aload_n 2, 1) := by decide +kernel
theorem dX9_haveDay_39 : decode cX9_haveDay 39 = .ok (.invokevirtual 130, 3) := by decide +kernel
theorem dX9_haveDay_42 : decode cX9_haveDay 42 = .ok (.invokevirtual 53, 3) := by decide +kernel
theorem dX9_haveDay_45 : decode cX9_haveDay 45 = .ok (.aload_n 0, 1) := by decide +kernel
theorem dX9_haveDay_46 : decode cX9_haveDay 46 = .ok (.aload_n 2, 1) := by decide +kernel
theorem dX9_haveDay_47 : decode cX9_haveDay 47 = .ok (.invokevirtual 133, 3) := by decide +kernel
theorem dX9_haveDay_50 : decode cX9_haveDay 50 = .ok (.istore 4, 2) := by decide +kernel
theorem dX9_haveDay_52 : decode cX9_haveDay 52 = .ok (.aload_n 0, 1) := by decide +kernel
theorem dX9_haveDay_53 : decode cX9_haveDay 53 = .ok (.getfield 35, 3) := by decide +kernel
theorem dX9_haveDay_56 : decode cX9_haveDay 56 = .ok (.iload_n 3, 1) := by decide +kernel
theorem dX9_haveDay_57 : decode cX9_haveDay 57 = .ok (.aload_n 0, 1) := by decide +kernel
theorem dX9_haveDay_58 : decode cX9_haveDay 58 = .ok (.getfield 12, 3) := by decide +kernel
theorem dX9_haveDay_61 : decode cX9_haveDay 61 = .ok (.iload 4, 2) := by decide +kernel
theorem dX9_haveDay_63 : decode cX9_haveDay 63 = .ok (.invokevirtual 137, 3) := by decide +kernel
theorem dX9_haveDay_66 : decode cX9_haveDay 66 = .ok (.aload_n 0, 1) := by decide +kernel
theorem dX9_haveDay_67 : decode cX9_haveDay 67 = .ok (.dup, 1) := by decide +kernel
theorem dX9_haveDay_68 : decode cX9_haveDay 68 = .ok (.getfield 62, 3) := by decide +kernel
theorem dX9_haveDay_71 : decode cX9_haveDay 71 = .ok (.aload_n 2, 1) := by decide +kernel
theorem dX9_haveDay_72 : decode cX9_haveDay 72 = .ok (.aload_n 0, 1) := by decide +kernel
theorem dX9_haveDay_73 : decode cX9_haveDay 73 = .ok (.getfield 21, 3) := by decide +kernel
theorem dX9_haveDay_76 : decode cX9_haveDay 76 = .ok (.invokevirtual 141, 3) := by decide +kernel
theorem dX9_haveDay_79 : decode cX9_haveDay 79 = .ok (.iadd, 1) := by decide +kernel
theorem dX9_haveDay_80 : decode cX9_haveDay 80 = .ok (.putfield 62, 3) := by decide +kernel
theorem dX9_haveDay_83 : decode cX9_haveDay 83 = .ok (.aload_n 0, 1) := by decide +kernel
theorem dX9_haveDay_84 : decode cX9_haveDay 84 = .ok (.bipush 20, 2) := by decide +kernel
theorem dX9_haveDay_86 : decode cX9_haveDay 86 = .ok (.aload_n 2, 1) := by decide +kernel
theorem dX9_haveDay_87 : decode cX9_haveDay 87 = .ok (.invokevirtual 144, 3) := by decide +kernel
theorem dX9_haveDay_90 : decode cX9_haveDay 90 = .ok (.iconst 2, 1) := by decide +kernel
theorem dX9_haveDay_91 : decode cX9_haveDay 91 = .ok (.idiv, 1) := by decide +kernel
theorem dX9_haveDay_92 : decode cX9_haveDay 92 = .ok (.invokestatic 146, 3) := by decide +kernel
theorem dX9_haveDay_95 : decode cX9_haveDay 95 = .ok (.putfield 39, 3) := by decide +kernel
theorem dX9_haveDay_98 : decode cX9_haveDay 98 = .ok (.aload_n 0, 1) := by decide +kernel
theorem dX9_haveDay_99 : decode cX9_haveDay 99 = .ok (.getfield 21, 3) := by decide +kernel
theorem dX9_haveDay_102 : decode cX9_haveDay 102 = .ok (.invokevirtual 149, 3) := by decide +kernel
theorem dX9_haveDay_105 : decode cX9_haveDay 105 = .ok (.aload_n 0, 1) := by decide +kernel
theorem dX9_haveDay_106 : decode cX9_haveDay 106 = .ok (.dup, 1) := by decide +kernel
theorem dX9_haveDay_107 : decode cX9_haveDay 107 = .ok (.getfield 59, 3) := by decide +kernel
theorem dX9_haveDay_110 : decode cX9_haveDay 110 = .ok (.iconst 1, 1) := by decide +kernel
theorem dX9_haveDay_111 : decode cX9_haveDay 111 = .ok (.iadd, 1) := by decide +kernel
theorem dX9_haveDay_112 : decode cX9_haveDay 112 = .ok (.putfield 59, 3) := by decide +kernel
theorem dX9_haveDay_115 : decode cX9_haveDay 115 = .ok (.aload_n 0, 1) := by decide +kernel
theorem dX9_haveDay_116 : decode cX9_haveDay 116 = .ok (.getfield 35, 3) := by decide +kernel
theorem dX9_haveDay_119 : decode cX9_haveDay 119 = .ok (.invokevirtual 112, 3) := by decide +kernel
theorem dX9_haveDay_122 : decode cX9_haveDay 122 = .ok (.iload_n 3, 1) := by decide +kernel
theorem dX9_haveDay_123 : decode cX9_haveDay 123 = .ok (.isub, 1) := by decide +kernel
theorem dX9_haveDay_124 : decode cX9_haveDay 124 = .ok (.ireturn, 1) := by decide +kernel
theorem dX9_bakeLoads_0 : decode cX9_bakeLoads 0 = .ok (.iconst 0, 1) := by decide +kernel
theorem dX9_bakeLoads_1 : decode cX9_bakeLoads 1 = .ok (.istore_n 2, 1) := by decide +kernel
theorem dX9_bakeLoads_2 : decode cX9_bakeLoads 2 = .ok (.iconst 0, 1) := by decide +kernel
theorem dX9_bakeLoads_3 : decode cX9_bakeLoads 3 = .ok (.istore_n 3, 1) := by decide +kernel
theorem dX9_bakeLoads_4 : decode cX9_bakeLoads 4 = .ok (.iload_n 3, 1) := by decide +kernel
theorem dX9_bakeLoads_5 : decode cX9_bakeLoads 5 = .ok (.aload_n 0, 1) := by decide +kernel
theorem dX9_bakeLoads_6 : decode cX9_bakeLoads 6 = .ok (.getfield 28, 3) := by decide +kernel
theorem dX9_bakeLoads_9 : decode cX9_bakeLoads 9 = .ok (.invokevirtual 152, 3) := by decide +kernel
theorem dX9_bakeLoads_12 : decode cX9_bakeLoads 12 = .ok (.if_icmp .ge 75, 3) := by decide +kernel
theorem dX9_bakeLoads_15 : decode cX9_bakeLoads 15 = .ok (.iconst 0, 1) := by decide +kernel
theorem dX9_bakeLoads_16 : decode cX9_bakeLoads 16 = .ok (.istore 4, 2) := by decide +kernel
theorem dX9_bakeLoads_18 : decode cX9_bakeLoads 18 = .ok (.iload 4, 2) := by decide +kernel
theorem dX9_bakeLoads_20 : decode cX9_bakeLoads 20 = .ok (.aload_n 1, 1) := by decide +kernel
theorem dX9_bakeLoads_21 : decode cX9_bakeLoads 21 = .ok (.invokevirtual 153, 3) := by decide +kernel
theorem dX9_bakeLoads_24 : decode cX9_bakeLoads 24 = .ok (.if_icmp .ge 57, 3) := by decide +kernel
theorem dX9_bakeLoads_27 : decode cX9_bakeLoads 27 = .ok (.aload_n 1, 1) := by decide +kernel
theorem dX9_bakeLoads_28 : decode cX9_bakeLoads 28 = .ok (.iload 4, 2) := by decide +kernel
theorem dX9_bakeLoads_30 : decode cX9_bakeLoads 30 = .ok (.invokevirtual 154, 3) := by decide +kernel
theorem dX9_bakeLoads_33 : decode cX9_bakeLoads 33 = .ok (.iload_n 3, 1) := by decide +kernel
theorem dX9_bakeLoads_34 : decode cX9_bakeLoads 34 = .ok (.if_icmp .ne 41, 3) := by decide +kernel
theorem dX9_bakeLoads_37 : decode cX9_bakeLoads 37 = .ok (.aload_n 1, 1) := by decide +kernel
theorem dX9_bakeLoads_38 : decode cX9_bakeLoads 38 = .ok (.iload 4, 2) := by decide +kernel
theorem dX9_bakeLoads_40 : decode cX9_bakeLoads 40 = .ok (.invokevirtual 157, 3) := by decide +kernel
theorem dX9_bakeLoads_43 : decode cX9_bakeLoads 43 = .ok (.istore 5, 2) := by decide +kernel
theorem dX9_bakeLoads_45 : decode cX9_bakeLoads 45 = .ok (.aload_n 0, 1) := by decide +kernel
theorem dX9_bakeLoads_46 : decode cX9_bakeLoads 46 = .ok (.iload 5, 2) := by decide +kernel
theorem dX9_bakeLoads_48 : decode cX9_bakeLoads 48 = .ok (.aload_n 0, 1) := by decide +kernel
theorem dX9_bakeLoads_49 : decode cX9_bakeLoads 49 = .ok (.getfield 28, 3) := by decide +kernel
theorem dX9_bakeLoads_52 : decode cX9_bakeLoads 52 = .ok (.iload_n 3, 1) := by decide +kernel
theorem dX9_bakeLoads_53 : decode cX9_bakeLoads 53 = .ok (.iconst 4, 1) := by decide +kernel
theorem dX9_bakeLoads_54 : decode cX9_bakeLoads 54 = .ok (.invokevirtual 160, 3) := by decide +kernel
theorem dX9_bakeLoads_57 : decode cX9_bakeLoads 57 = .ok (.invokevirtual 161, 3) := by decide +kernel
theorem dX9_bakeLoads_60 : decode cX9_bakeLoads 60 = .ok (.iload_n 2, 1) := by decide +kernel
theorem dX9_bakeLoads_61 : decode cX9_bakeLoads 61 = .ok (.iconst 1, 1) := by decide +kernel
theorem dX9_bakeLoads_62 : decode cX9_bakeLoads 62 = .ok (.aload_n 0, 1) := by decide +kernel
theorem dX9_bakeLoads_63 : decode cX9_bakeLoads 63 = .ok (.getfield 21, 3) := by decide +kernel
theorem dX9_bakeLoads_66 : decode cX9_bakeLoads 66 = .ok (.iload 5, 2) := by decide +kernel
theorem dX9_bakeLoads_68 : decode cX9_bakeLoads 68 = .ok (.iconst 0, 1) := by decide +kernel
theorem dX9_bakeLoads_69 : decode cX9_bakeLoads 69 = .ok (.invokevirtual 165, 3) := by decide +kernel
theorem dX9_bakeLoads_72 : decode cX9_bakeLoads 72 = .ok (.ishl, 1) := by decide +kernel
theorem dX9_bakeLoads_73 : decode cX9_bakeLoads 73 = .ok (.ior, 1) := by decide +kernel
theorem dX9_bakeLoads_74 : decode cX9_bakeLoads 74 = .ok (.istore_n 2, 1) := by decide +kernel
theorem dX9_bakeLoads_75 : decode cX9_bakeLoads 75 = .ok (.iinc 4 1, 3) := by decide +kernel
theorem dX9_bakeLoads_78 : decode cX9_bakeLoads 78 = .ok (.goto (-60), 3) := by decide +kernel
theorem dX9_bakeLoads_81 : decode cX9_bakeLoads 81 = .ok (.iinc 3 1, 3) := by decide +kernel
theorem dX9_bakeLoads_84 : decode cX9_bakeLoads 84 = .ok (.goto (-80), 3) := by decide +kernel
theorem dX9_bakeLoads_87 : decode cX9_bakeLoads 87 = .ok (.iload_n 2, 1) := by decide +kernel
theorem dX9_bakeLoads_88 : decode cX9_bakeLoads 88 = .ok (.ireturn, 1) := by decide +kernel
theorem dX9_bakeBatch_0 : decode cX9_bakeBatch 0 = .ok (.aload_n 0, 1) := by decide +kernel
theorem dX9_bakeBatch_1 : decode cX9_bakeBatch 1 = .ok (.getfield 21, 3) := by decide +kernel
theorem dX9_bakeBatch_4 : decode cX9_bakeBatch 4 = .ok (.iload_n 1, 1) := by decide +kernel
theorem dX9_bakeBatch_5 : decode cX9_bakeBatch 5 = .ok (.iconst 0, 1) := by decide +kernel
theorem dX9_bakeBatch_6 : decode cX9_bakeBatch 6 = .ok (.invokevirtual 165, 3) := by decide +kernel
theorem dX9_bakeBatch_9 : decode cX9_bakeBatch 9 = .ok (.istore_n 3, 1) := by decide +kernel
theorem dX9_bakeBatch_10 : decode cX9_bakeBatch 10 = .ok (.aload_n 0, 1) := by decide +kernel
theorem dX9_bakeBatch_11 : decode cX9_bakeBatch 11 = .ok (.getfield 21, 3) := by decide +kernel
theorem dX9_bakeBatch_14 : decode cX9_bakeBatch 14 = .ok (.iload_n 1, 1) := by decide +kernel
theorem dX9_bakeBatch_15 : decode cX9_bakeBatch 15 = .ok (.iconst 1, 1) := by decide +kernel
theorem dX9_bakeBatch_16 : decode cX9_bakeBatch 16 = .ok (.invokevirtual 165, 3) := by decide +kernel
theorem dX9_bakeBatch_19 : decode cX9_bakeBatch 19 = .ok (.istore 4, 2) := by decide +kernel
theorem dX9_bakeBatch_21 : decode cX9_bakeBatch 21 = .ok (.aload_n 0, 1) := by decide +kernel
theorem dX9_bakeBatch_22 : decode cX9_bakeBatch 22 = .ok (.getfield 21, 3) := by decide +kernel
theorem dX9_bakeBatch_25 : decode cX9_bakeBatch 25 = .ok (.iload_n 1, 1) := by decide +kernel
theorem dX9_bakeBatch_26 : decode cX9_bakeBatch 26 = .ok (.iconst 2, 1) := by decide +kernel
theorem dX9_bakeBatch_27 : decode cX9_bakeBatch 27 = .ok (.invokevirtual 165, 3) := by decide +kernel
theorem dX9_bakeBatch_30 : decode cX9_bakeBatch 30 = .ok (.istore 5, 2) := by decide +kernel
theorem dX9_bakeBatch_32 : decode cX9_bakeBatch 32 = .ok (.aload_n 0, 1) := by decide +kernel
theorem dX9_bakeBatch_33 : decode cX9_bakeBatch 33 = .ok (.getfield 12, 3) := by decide +kernel
theorem dX9_bakeBatch_36 : decode cX9_bakeBatch 36 = .ok (.iload_n 3, 1) := by decide +kernel
theorem dX9_bakeBatch_37 : decode cX9_bakeBatch 37 = .ok (.iconst 0, 1) := by decide +kernel
theorem dX9_bakeBatch_38 : decode cX9_bakeBatch 38 = .ok (.invokevirtual 91, 3) := by decide +kernel
theorem dX9_bakeBatch_41 : decode cX9_bakeBatch 41 = .ok (.istore 6, 2) := by decide +kernel
theorem dX9_bakeBatch_43 : decode cX9_bakeBatch 43 = .ok (.iload_n 2, 1) := by decide +kernel
theorem dX9_bakeBatch_44 : decode cX9_bakeBatch 44 = .ok (.iload 4, 2) := by decide +kernel
theorem dX9_bakeBatch_46 : decode cX9_bakeBatch 46 = .ok (.invokestatic 166, 3) := by decide +kernel
theorem dX9_bakeBatch_49 : decode cX9_bakeBatch 49 = .ok (.if_icmp .ge 7, 3) := by decide +kernel
theorem dX9_bakeBatch_52 : decode cX9_bakeBatch 52 = .ok (.iconst 1, 1) := by decide +kernel
theorem dX9_bakeBatch_53 : decode cX9_bakeBatch 53 = .ok (.goto 4, 3) := by decide +kernel
theorem dX9_bakeBatch_56 : decode cX9_bakeBatch 56 = .ok (.iconst 0, 1) := by decide +kernel
theorem dX9_bakeBatch_57 : decode cX9_bakeBatch 57 = .ok (.istore 7, 2) := by decide +kernel
theorem dX9_bakeBatch_59 : decode cX9_bakeBatch 59 = .ok (.aload_n 0, 1) := by decide +kernel
theorem dX9_bakeBatch_60 : decode cX9_bakeBatch 60 = .ok (.getfield 12, 3) := by decide +kernel
theorem dX9_bakeBatch_63 : decode cX9_bakeBatch 63 = .ok (.iload_n 3, 1) := by decide +kernel
theorem dX9_bakeBatch_64 : decode cX9_bakeBatch 64 = .ok (.iload 5, 2) := by decide +kernel
theorem dX9_bakeBatch_66 : decode cX9_bakeBatch 66 = .ok (.invokevirtual 169, 3) := by decide +kernel
theorem dX9_bakeBatch_69 : decode cX9_bakeBatch 69 = .ok (.iconst 0, 1) := by decide +kernel
theorem dX9_bakeBatch_70 : decode cX9_bakeBatch 70 = .ok (.istore 8, 2) := by decide +kernel
theorem dX9_bakeBatch_72 : decode cX9_bakeBatch 72 = .ok (.iload 8, 2) := by decide +kernel
theorem dX9_bakeBatch_74 : decode cX9_bakeBatch 74 = .ok (.iload 5, 2) := by decide +kernel
theorem dX9_bakeBatch_76 : decode cX9_bakeBatch 76 = .ok (.if_icmp .ge 33, 3) := by decide +kernel
theorem dX9_bakeBatch_79 : decode cX9_bakeBatch 79 = .ok (.aload_n 0, 1) := by decide +kernel
theorem dX9_bakeBatch_80 : decode cX9_bakeBatch 80 = .ok (.getfield 35, 3) := by decide +kernel
theorem dX9_bakeBatch_83 : decode cX9_bakeBatch 83 = .ok (.iload_n 3, 1) := by decide +kernel
theorem dX9_bakeBatch_84 : decode cX9_bakeBatch 84 = .ok (.iload 4, 2) := by decide +kernel
theorem dX9_bakeBatch_86 : decode cX9_bakeBatch 86 = .ok (.aload_n 0, 1) := by decide +kernel
theorem dX9_bakeBatch_87 : decode cX9_bakeBatch 87 = .ok (.getfield 59, 3) := by decide +kernel
theorem dX9_bakeBatch_90 : decode cX9_bakeBatch 90 = .ok (.iload 7, 2) := by decide +kernel
theorem dX9_bakeBatch_92 : decode cX9_bakeBatch 92 = .ok (.iload 6, 2) := by decide +kernel
theorem dX9_bakeBatch_94 : decode cX9_bakeBatch 94 = .ok (.aload_n 0, 1) := by decide +kernel
theorem dX9_bakeBatch_95 : decode cX9_bakeBatch 95 = .ok (.iload 6, 2) := by decide +kernel
theorem dX9_bakeBatch_97 : decode cX9_bakeBatch 97 = .ok (.invokevirtual 172, 3) := by decide +kernel
theorem dX9_bakeBatch_100 : decode cX9_bakeBatch 100 = .ok (.invokevirtual 175, 3) := by decide +kernel
theorem dX9_bakeBatch_103 : decode cX9_bakeBatch 103 = .ok (.iinc 8 1, 3) := by decide +kernel
theorem dX9_bakeBatch_106 : decode cX9_bakeBatch 106 = .ok (.goto (-34), 3) := by decide +kernel
theorem dX9_bakeBatch_109 : decode cX9_bakeBatch 109 = .ok (.return_, 1) := by decide +kernel
theorem dX9_blur_0 : decode cX9_blur 0 = .ok (.iload_n 1, 1) := by decide +kernel
theorem dX9_blur_1 : decode cX9_blur 1 = .ok (.istore_n 2, 1) := by decide +kernel
theorem dX9_blur_2 : decode cX9_blur 2 = .ok (.aload_n 0, 1) := by decide +kernel
theorem dX9_blur_3 : decode cX9_blur 3 = .ok (.iconst 4, 1) := by decide +kernel
theorem dX9_blur_4 : decode cX9_blur 4 = .ok (.invokevirtual 179, 3) := by decide +kernel
theorem dX9_blur_7 : decode cX9_blur 7 = .ok (.istore_n 3, 1) := by decide +kernel
theorem dX9_blur_8 : decode cX9_blur 8 = .ok (.iconst 0, 1) := by decide +kernel
theorem dX9_blur_9 : decode cX9_blur 9 = .ok (.istore 4, 2) := by decide +kernel
theorem dX9_blur_11 : decode cX9_blur 11 = .ok (.iload 4, 2) := by decide +kernel
theorem dX9_blur_13 : decode cX9_blur 13 = .ok (.iload_n 3, 1) := by decide +kernel
theorem dX9_blur_14 : decode cX9_blur 14 = .ok (.if_icmp .ge 22, 3) := by decide +kernel
theorem dX9_blur_17 : decode cX9_blur 17 = .ok (.iload_n 2, 1) := by decide +kernel
theorem dX9_blur_18 : decode cX9_blur 18 = .ok (.iconst 1, 1) := by decide +kernel
theorem dX9_blur_19 : decode cX9_blur 19 = .ok (.aload_n 0, 1) := by decide +kernel
theorem dX9_blur_20 : decode cX9_blur 20 = .ok (.bipush 16, 2) := by decide +kernel
theorem dX9_blur_22 : decode cX9_blur 22 = .ok (.invokevirtual 179, 3) := by decide +kernel
theorem dX9_blur_25 : decode cX9_blur 25 = .ok (.ishl, 1) := by decide +kernel
theorem dX9_blur_26 : decode cX9_blur 26 = .ok (.iconst (-1), 1) := by decide +kernel
theorem dX9_blur_27 : decode cX9_blur 27 = .ok (.ixor, 1) := by decide +kernel
theorem dX9_blur_28 : decode cX9_blur 28 = .ok (.iand, 1) := by decide +kernel
theorem dX9_blur_29 : decode cX9_blur 29 = .ok (.istore_n 2, 1) := by decide +kernel
theorem dX9_blur_30 : decode cX9_blur 30 = .ok (.iinc 4 1, 3) := by decide +kernel
theorem dX9_blur_33 : decode cX9_blur 33 = .ok (.goto (-22), 3) := by decide +kernel
theorem dX9_blur_36 : decode cX9_blur 36 = .ok (.iload_n 2, 1) := by decide +kernel
theorem dX9_blur_37 : decode cX9_blur 37 = .ok (.ireturn, 1) := by decide +kernel
theorem dX9_draw_0 : decode cX9_draw 0 = .ok (.aload_n 0, 1) := by decide +kernel
theorem dX9_draw_1 : decode cX9_draw 1 = .ok (.ldc2_w 182, 3) := by decide +kernel
theorem dX9_draw_4 : decode cX9_draw 4 = .ok (.aload_n 0, 1) := by decide +kernel
theorem dX9_draw_5 : decode cX9_draw 5 = .ok (.getfield 43, 3) := by decide +kernel
theorem dX9_draw_8 : decode cX9_draw 8 = .ok (.i2l, 1) := by decide +kernel
theorem dX9_draw_9 : decode cX9_draw 9 = .ok (.lmul, 1) := by decide +kernel
theorem dX9_draw_10 : decode cX9_draw 10 = .ok (.ldc2_w 184, 3) := by decide +kernel
theorem dX9_draw_13 : decode cX9_draw 13 = .ok (.ladd, 1) := by decide +kernel
theorem dX9_draw_14 : decode cX9_draw 14 = .ok (.ldc2_w 186, 3) := by decide +kernel
theorem dX9_draw_17 : decode cX9_draw 17 = .ok (.land, 1) := by decide +kernel
theorem dX9_draw_18 : decode cX9_draw 18 = .ok (.l2i, 1) := by decide +kernel
theorem dX9_draw_19 : decode cX9_draw 19 = .ok (.putfield 43, 3) := by decide +kernel
theorem dX9_draw_22 : decode cX9_draw 22 = .ok (.iload_n 1, 1) := by decide +kernel
theorem dX9_draw_23 : decode cX9_draw 23 = .ok (.ifCond .le 15, 3) := by decide +kernel
theorem dX9_draw_26 : decode cX9_draw 26 = .ok (.aload_n 0, 1) := by decide +kernel
theorem dX9_draw_27 : decode cX9_draw 27 = .ok (.getfield 43, 3) := by decide +kernel
theorem dX9_draw_30 : decode cX9_draw 30 = .ok (.bipush 16, 2) := by decide +kernel
theorem dX9_draw_32 : decode cX9_draw 32 = .ok (.ishr, 1) := by decide +kernel
theorem dX9_draw_33 : decode cX9_draw 33 = .ok (.iload_n 1, 1) := by decide +kernel
theorem dX9_draw_34 : decode cX9_draw 34 = .ok (.irem, 1) := by decide +kernel
theorem dX9_draw_35 : decode cX9_draw 35 = .ok (.goto 4, 3) := by decide +kernel
theorem dX9_draw_38 : decode cX9_draw 38 = .ok (.iconst 0, 1) := by decide +kernel
theorem dX9_draw_39 : decode cX9_draw 39 = .ok (.ireturn, 1) := by decide +kernel
theorem dJ6_bitCount_0f7a4_0 : decode cJ6_bitCount_0f7a4 0 = .ok (.iload_n 0, 1) := by decide +kernel
theorem dJ6_bitCount_0f7a4_1 : decode cJ6_bitCount_0f7a4 1 = .ok (.iload_n 0, 1) := by decide +kernel
theorem dJ6_bitCount_0f7a4_2 : decode cJ6_bitCount_0f7a4 2 = .ok (.iconst 1, 1) := by decide +kernel
theorem dJ6_bitCount_0f7a4_3 : decode cJ6_bitCount_0f7a4 3 = .ok (.iushr, 1) := by decide +kernel
theorem dJ6_bitCount_0f7a4_4 : decode cJ6_bitCount_0f7a4 4 = .ok (.ldc_w 265, 3) := by decide +kernel
theorem dJ6_bitCount_0f7a4_7 : decode cJ6_bitCount_0f7a4 7 = .ok (.iand, 1) := by decide +kernel
theorem dJ6_bitCount_0f7a4_8 : decode cJ6_bitCount_0f7a4 8 = .ok (.isub, 1) := by decide +kernel
theorem dJ6_bitCount_0f7a4_9 : decode cJ6_bitCount_0f7a4 9 = .ok (.istore_n 0, 1) := by decide +kernel
theorem dJ6_bitCount_0f7a4_10 : decode cJ6_bitCount_0f7a4 10 = .ok (.iload_n 0, 1) := by decide +kernel
theorem dJ6_bitCount_0f7a4_11 : decode cJ6_bitCount_0f7a4 11 = .ok (.ldc_w 266, 3) := by decide +kernel
theorem dJ6_bitCount_0f7a4_14 : decode cJ6_bitCount_0f7a4 14 = .ok (.iand, 1) := by decide +kernel
theorem dJ6_bitCount_0f7a4_15 : decode cJ6_bitCount_0f7a4 15 = .ok (.iload_n 0, 1) := by decide +kernel
theorem dJ6_bitCount_0f7a4_16 : decode cJ6_bitCount_0f7a4 16 = .ok (.iconst 2, 1) := by decide +kernel
theorem dJ6_bitCount_0f7a4_17 : decode cJ6_bitCount_0f7a4 17 = .ok (.iushr, 1) := by decide +kernel
theorem dJ6_bitCount_0f7a4_18 : decode cJ6_bitCount_0f7a4 18 = .ok (.ldc_w 266, 3) := by decide +kernel
theorem dJ6_bitCount_0f7a4_21 : decode cJ6_bitCount_0f7a4 21 = .ok (.iand, 1) := by decide +kernel
theorem dJ6_bitCount_0f7a4_22 : decode cJ6_bitCount_0f7a4 22 = .ok (.iadd, 1) := by decide +kernel
theorem dJ6_bitCount_0f7a4_23 : decode cJ6_bitCount_0f7a4 23 = .ok (.istore_n 0, 1) := by decide +kernel
theorem dJ6_bitCount_0f7a4_24 : decode cJ6_bitCount_0f7a4 24 = .ok (.iload_n 0, 1) := by decide +kernel
theorem dJ6_bitCount_0f7a4_25 : decode cJ6_bitCount_0f7a4 25 = .ok (.iload_n 0, 1) := by decide +kernel
theorem dJ6_bitCount_0f7a4_26 : decode cJ6_bitCount_0f7a4 26 = .ok (.iconst 4, 1) := by decide +kernel
theorem dJ6_bitCount_0f7a4_27 : decode cJ6_bitCount_0f7a4 27 = .ok (.iushr, 1) := by decide +kernel
theorem dJ6_bitCount_0f7a4_28 : decode cJ6_bitCount_0f7a4 28 = .ok (.iadd, 1) := by decide +kernel
theorem dJ6_bitCount_0f7a4_29 : decode cJ6_bitCount_0f7a4 29 = .ok (.ldc_w 267, 3) := by decide +kernel
theorem dJ6_bitCount_0f7a4_32 : decode cJ6_bitCount_0f7a4 32 = .ok (.iand, 1) := by decide +kernel
theorem dJ6_bitCount_0f7a4_33 : decode cJ6_bitCount_0f7a4 33 = .ok (.istore_n 0, 1) := by decide +kernel
theorem dJ6_bitCount_0f7a4_34 : decode cJ6_bitCount_0f7a4 34 = .ok (.iload_n 0, 1) := by decide +kernel
theorem dJ6_bitCount_0f7a4_35 : decode cJ6_bitCount_0f7a4 35 = .ok (.iload_n 0, 1) := by decide +kernel
theorem dJ6_bitCount_0f7a4_36 : decode cJ6_bitCount_0f7a4 36 = .ok (.bipush 8, 2) := by decide +kernel
theorem dJ6_bitCount_0f7a4_38 : decode cJ6_bitCount_0f7a4 38 = .ok (.iushr, 1) := by decide +kernel
theorem dJ6_bitCount_0f7a4_39 : decode cJ6_bitCount_0f7a4 39 = .ok (.iadd, 1) := by decide +kernel
theorem dJ6_bitCount_0f7a4_40 : decode cJ6_bitCount_0f7a4 40 = .ok (.istore_n 0, 1) := by decide +kernel
theorem dJ6_bitCount_0f7a4_41 : decode cJ6_bitCount_0f7a4 41 = .ok (.iload_n 0, 1) := by decide +kernel
theorem dJ6_bitCount_0f7a4_42 : decode cJ6_bitCount_0f7a4 42 = .ok (.iload_n 0, 1) := by decide +kernel
theorem dJ6_bitCount_0f7a4_43 : decode cJ6_bitCount_0f7a4 43 = .ok (.bipush 16, 2) := by decide +kernel
theorem dJ6_bitCount_0f7a4_45 : decode cJ6_bitCount_0f7a4 45 = .ok (.iushr, 1) := by decide +kernel
theorem dJ6_bitCount_0f7a4_46 : decode cJ6_bitCount_0f7a4 46 = .ok (.iadd, 1) := by decide +kernel
theorem dJ6_bitCount_0f7a4_47 : decode cJ6_bitCount_0f7a4 47 = .ok (.istore_n 0, 1) := by decide +kernel
theorem dJ6_bitCount_0f7a4_48 : decode cJ6_bitCount_0f7a4 48 = .ok (.iload_n 0, 1) := by decide +kernel
theorem dJ6_bitCount_0f7a4_49 : decode cJ6_bitCount_0f7a4 49 = .ok (.bipush 63, 2) := by decide +kernel
theorem dJ6_bitCount_0f7a4_51 : decode cJ6_bitCount_0f7a4 51 = .ok (.iand, 1) := by decide +kernel
theorem dJ6_bitCount_0f7a4_52 : decode cJ6_bitCount_0f7a4 52 = .ok (.ireturn, 1) := by decide +kernel
theorem dJ9_max_7cf53_0 : decode cJ9_max_7cf53 0 = .ok (.iload_n 0, 1) := by decide +kernel
theorem dJ9_max_7cf53_1 : decode cJ9_max_7cf53 1 = .ok (.iload_n 1, 1) := by decide +kernel
theorem dJ9_max_7cf53_2 : decode cJ9_max_7cf53 2 = .ok (.if_icmp .lt 7, 3) := by decide +kernel
theorem dJ9_max_7cf53_5 : decode cJ9_max_7cf53 5 = .ok (.iload_n 0, 1) := by decide +kernel
theorem dJ9_max_7cf53_6 : decode cJ9_max_7cf53 6 = .ok (.goto 4, 3) := by decide +kernel
theorem dJ9_max_7cf53_9 : decode cJ9_max_7cf53 9 = .ok (.iload_n 1, 1) := by decide +kernel
theorem dJ9_max_7cf53_10 : decode cJ9_max_7cf53 10 = .ok (.ireturn, 1) := by decide +kernel
theorem dJ9_min_7cf53_0 : decode cJ9_min_7cf53 0 = .ok (.iload_n 0, 1) := by decide +kernel
theorem dJ9_min_7cf53_1 : decode cJ9_min_7cf53 1 = .ok (.iload_n 1, 1) := by decide +kernel
theorem dJ9_min_7cf53_2 : decode cJ9_min_7cf53 2 = .ok (.if_icmp .gt 7, 3) := by decide +kernel
theorem dJ9_min_7cf53_5 : decode cJ9_min_7cf53 5 = .ok (.iload_n 0, 1) := by decide +kernel
theorem dJ9_min_7cf53_6 : decode cJ9_min_7cf53 6 = .ok (.goto 4, 3) := by decide +kernel
theorem dJ9_min_7cf53_9 : decode cJ9_min_7cf53 9 = .ok (.iload_n 1, 1) := by decide +kernel
theorem dJ9_min_7cf53_10 : decode cJ9_min_7cf53 10 = .ok (.ireturn, 1) := by decide +kernel
