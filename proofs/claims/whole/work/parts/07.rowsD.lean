theorem dX12_init_0 : decode cX12_init 0 = .ok (.aload_n 0, 1) := by decide +kernel
theorem dX12_init_1 : decode cX12_init 1 = .ok (.invokespecial 1, 3) := by decide +kernel
theorem dX12_init_4 : decode cX12_init 4 = .ok (.aload_n 0, 1) := by decide +kernel
theorem dX12_init_5 : decode cX12_init 5 = .ok (.sipush 1601, 3) := by decide +kernel
theorem dX12_init_8 : decode cX12_init 8 = .ok (.newarray .int, 2) := by decide +kernel
theorem dX12_init_10 : decode cX12_init 10 = .ok (.putfield 7, 3) := by decide +kernel
theorem dX12_init_13 : decode cX12_init 13 = .ok (.aload_n 0, 1) := by decide +kernel
theorem dX12_init_14 : decode cX12_init 14 = .ok (.sipush 6404, 3) := by decide +kernel
theorem dX12_init_17 : decode cX12_init 17 = .ok (.newarray .int, 2) := by decide +kernel
theorem dX12_init_19 : decode cX12_init 19 = .ok (.putfield 13, 3) := by decide +kernel
theorem dX12_init_22 : decode cX12_init 22 = .ok (.aload_n 0, 1) := by decide +kernel
theorem dX12_init_23 : decode cX12_init 23 = .ok (.sipush 1601, 3) := by decide +kernel
theorem dX12_init_26 : decode cX12_init 26 = .ok (.newarray .int, 2) := by decide +kernel
theorem dX12_init_28 : decode cX12_init 28 = .ok (.putfield 16, 3) := by decide +kernel
theorem dX12_init_31 : decode cX12_init 31 = .ok (.aload_n 0, 1) := by decide +kernel
theorem dX12_init_32 : decode cX12_init 32 = .ok (.sipush 150, 3) := by decide +kernel
theorem dX12_init_35 : decode cX12_init 35 = .ok (.newarray .int, 2) := by decide +kernel
theorem dX12_init_37 : decode cX12_init 37 = .ok (.putfield 19, 3) := by decide +kernel
theorem dX12_init_40 : decode cX12_init 40 = .ok (.aload_n 0, 1) := by decide +kernel
theorem dX12_init_41 : decode cX12_init 41 = .ok (.bipush 40, 2) := by decide +kernel
theorem dX12_init_43 : decode cX12_init 43 = .ok (.newarray .int, 2) := by decide +kernel
theorem dX12_init_45 : decode cX12_init 45 = .ok (.putfield 22, 3) := by decide +kernel
theorem dX12_init_48 : decode cX12_init 48 = .ok (.aload_n 0, 1) := by decide +kernel
theorem dX12_init_49 : decode cX12_init 49 = .ok (.iconst 3, 1) := by decide +kernel
theorem dX12_init_50 : decode cX12_init 50 = .ok (.newarray .int, 2) := by decide +kernel
theorem dX12_init_52 : decode cX12_init 52 = .ok (.putfield 25, 3) := by decide +kernel
theorem dX12_init_55 : decode cX12_init 55 = .ok (.aload_n 0, 1) := by decide +kernel
theorem dX12_init_56 : decode cX12_init 56 = .ok (.getfield 7, 3) := by decide +kernel
theorem dX12_init_59 : decode cX12_init 59 = .ok (.iconst 1, 1) := by decide +kernel
theorem dX12_init_60 : decode cX12_init 60 = .ok (.iconst 1, 1) := by decide +kernel
theorem dX12_init_61 : decode cX12_init 61 = .ok (.iastore, 1) := by decide +kernel
theorem dX12_init_62 : decode cX12_init 62 = .ok (.aload_n 0, 1) := by decide +kernel
theorem dX12_init_63 : decode cX12_init 63 = .ok (.getfield 7, 3) := by decide +kernel
theorem dX12_init_66 : decode cX12_init 66 = .ok (.iconst 2, 1) := by decide +kernel
theorem dX12_init_67 : decode cX12_init 67 = .ok (.bipush 20, 2) := by decide +kernel
theorem dX12_init_69 : decode cX12_init 69 = .ok (.iastore, 1) := by decide +kernel
theorem dX12_init_70 : decode cX12_init 70 = .ok (.return_, 1) := by decide +kernel
theorem dX12_thrown_0 : decode cX12_thrown 0 = .ok (.aload_n 0, 1) := by decide +kernel
theorem dX12_thrown_1 : decode cX12_thrown 1 = .ok (.getfield 28, 3) := by decide +kernel
theorem dX12_thrown_4 : decode cX12_thrown 4 = .ok (.ireturn, 1) := by decide +kernel
theorem dX12_refused_0 : decode cX12_refused 0 = .ok (.aload_n 0, 1) := by decide +kernel
theorem dX12_refused_1 : decode cX12_refused 1 = .ok (.iload_n 1, 1) := by decide +kernel
theorem dX12_refused_2 : decode cX12_refused 2 = .ok (.putfield 28, 3) := by decide +kernel
theorem dX12_refused_5 : decode cX12_refused 5 = .ok (.iload_n 1, 1) := by decide +kernel
theorem dX12_refused_6 : decode cX12_refused 6 = .ok (.ifCond .le 7, 3) := by decide +kernel
theorem dX12_refused_9 : decode cX12_refused 9 = .ok (.iconst 1, 1) := by decide +kernel
theorem dX12_refused_10 : decode cX12_refused 10 = .ok (.goto 4, 3) := by decide +kernel
theorem dX12_refused_13 : decode cX12_refused 13 = .ok (.iconst 0, 1) := by decide +kernel
theorem dX12_refused_14 : decode cX12_refused 14 = .ok (.ireturn, 1) := by decide +kernel
theorem dX12_in_0 : decode cX12_in 0 = .ok (.iload_n 0, 1) := by decide +kernel
theorem dX12_in_1 : decode cX12_in 1 = .ok (.iload_n 1, 1) := by decide +kernel
theorem dX12_in_2 : decode cX12_in 2 = .ok (.if_icmp .lt 12, 3) := by decide +kernel
theorem dX12_in_5 : decode cX12_in 5 = .ok (.iload_n 0, 1) := by decide +kernel
theorem dX12_in_6 : decode cX12_in 6 = .ok (.iload_n 2, 1) := by decide +kernel
theorem dX12_in_7 : decode cX12_in 7 = .ok (.if_icmp .gt 7, 3) := by decide +kernel
theorem dX12_in_10 : decode cX12_in 10 = .ok (.iconst 1, 1) := by decide +kernel
theorem dX12_in_11 : decode cX12_in 11 = .ok (.goto 4, 3) := by decide +kernel
theorem dX12_in_14 : decode cX12_in 14 = .ok (.iconst 0, 1) := by decide +kernel
theorem dX12_in_15 : decode cX12_in 15 = .ok (.ireturn, 1) := by decide +kernel
theorem dX12_bits_0 : decode cX12_bits 0 = .ok (.iconst 0, 1) := by decide +kernel
theorem dX12_bits_1 : decode cX12_bits 1 = .ok (.istore_n 1, 1) := by decide +kernel
theorem dX12_bits_2 : decode cX12_bits 2 = .ok (.iload_n 0, 1) := by decide +kernel
theorem dX12_bits_3 : decode cX12_bits 3 = .ok (.istore_n 2, 1) := by decide +kernel
theorem dX12_bits_4 : decode cX12_bits 4 = .ok (.iload_n 2, 1) := by decide +kernel
theorem dX12_bits_5 : decode cX12_bits 5 = .ok (.ifCond .le 16, 3) := by decide +kernel
theorem dX12_bits_8 : decode cX12_bits 8 = .ok (.iload_n 1, 1) := by decide +kernel
theorem dX12_bits_9 : decode cX12_bits 9 = .ok (.iload_n 2, 1) := by decide +kernel
theorem dX12_bits_10 : decode cX12_bits 10 = .ok (.iconst 1, 1) := by decide +kernel
theorem dX12_bits_11 : decode cX12_bits 11 = .ok (.iand, 1) := by decide +kernel
theorem dX12_bits_12 : decode cX12_bits 12 = .ok (.iadd, 1) := by decide +kernel
theorem dX12_bits_13 : decode cX12_bits 13 = .ok (.istore_n 1, 1) := by decide +kernel
theorem dX12_bits_14 : decode cX12_bits 14 = .ok (.iload_n 2, 1) := by decide +kernel
theorem dX12_bits_15 : decode cX12_bits 15 = .ok (.iconst 1, 1) := by decide +kernel
theorem dX12_bits_16 : decode cX12_bits 16 = .ok (.ishr, 1) := by decide +kernel
theorem dX12_bits_17 : decode cX12_bits 17 = .ok (.istore_n 2, 1) := by decide +kernel
theorem dX12_bits_18 : decode cX12_bits 18 = .ok (.goto (-14), 3) := by decide +kernel
theorem dX12_bits_21 : decode cX12_bits 21 = .ok (.iload_n 1, 1) := by decide +kernel
theorem dX12_bits_22 : decode cX12_bits 22 = .ok (.ireturn, 1) := by decide +kernel
theorem dX12_saves_0 : decode cX12_saves 0 = .ok (.aload_n 0, 1) := by decide +kernel
theorem dX12_saves_1 : decode cX12_saves 1 = .ok (.getfield 32, 3) := by decide +kernel
theorem dX12_saves_4 : decode cX12_saves 4 = .ok (.iconst 4, 1) := by decide +kernel
theorem dX12_saves_5 : decode cX12_saves 5 = .ok (.if_icmp .ne 44, 3) := by decide +kernel
theorem dX12_saves_8 : decode cX12_saves 8 = .ok (.iconst 0, 1) := by decide +kernel
theorem dX12_saves_9 : decode cX12_saves 9 = .ok (.istore_n 1, 1) := by decide +kernel
theorem dX12_saves_10 : decode cX12_saves 10 = .ok (.iload_n 1, 1) := by decide +kernel
theorem dX12_saves_11 : decode cX12_saves 11 = .ok (.sipush 4803, 3) := by decide +kernel
theorem dX12_saves_14 : decode cX12_saves 14 = .ok (.if_icmp .ge 25, 3) := by decide +kernel
theorem dX12_saves_17 : decode cX12_saves 17 = .ok (.aload_n 0, 1) := by decide +kernel
theorem dX12_saves_18 : decode cX12_saves 18 = .ok (.getfield 13, 3) := by decide +kernel
theorem dX12_saves_21 : decode cX12_saves 21 = .ok (.iload_n 1, 1) := by decide +kernel
theorem dX12_saves_22 : decode cX12_saves 22 = .ok (.aload_n 0, 1) := by decide +kernel
theorem dX12_saves_23 : decode cX12_saves 23 = .ok (.getfield 13, 3) := by decide +kernel
theorem dX12_saves_26 : decode cX12_saves 26 = .ok (.iload_n 1, 1) := by decide +kernel
theorem dX12_saves_27 : decode cX12_saves 27 = .ok (.sipush 1601, 3) := by decide +kernel
theorem dX12_saves_30 : decode cX12_saves 30 = .ok (.iadd, 1) := by decide +kernel
theorem dX12_saves_31 : decode cX12_saves 31 = .ok (.iaload, 1) := by decide +kernel
theorem dX12_saves_32 : decode cX12_saves 32 = .ok (.iastore, 1) := by decide +kernel
theorem dX12_saves_33 : decode cX12_saves 33 = .ok (.iinc 1 1, 3) := by decide +kernel
theorem dX12_saves_36 : decode cX12_saves 36 = .ok (.goto (-26), 3) := by decide +kernel
theorem dX12_saves_39 : decode cX12_saves 39 = .ok (.aload_n 0, 1) := by decide +kernel
theorem dX12_saves_40 : decode cX12_saves 40 = .ok (.dup, 1) := by decide +kernel
theorem dX12_saves_41 : decode cX12_saves 41 = .ok (.getfield 32, 3) := by decide +kernel
theorem dX12_saves_44 : decode cX12_saves 44 = .ok (.iconst 1, 1) := by decide +kernel
theorem dX12_saves_45 : decode cX12_saves 45 = .ok (.isub, 1) := by decide +kernel
theorem dX12_saves_46 : decode cX12_saves 46 = .ok (.putfield 32, 3) := by decide +kernel
theorem dX12_saves_49 : decode cX12_saves 49 = .ok (.iconst 0, 1) := by decide +kernel
theorem dX12_saves_50 : decode cX12_saves 50 = .ok (.istore_n 1, 1) := by decide +kernel
theorem dX12_saves_51 : decode cX12_saves 51 = .ok (.iload_n 1, 1) := by decide +kernel
theorem dX12_saves_52 : decode cX12_saves 52 = .ok (.sipush 1601, 3) := by decide +kernel
theorem dX12_saves_55 : decode cX12_saves 55 = .ok (.if_icmp .ge 30, 3) := by decide +kernel
theorem dX12_saves_58 : decode cX12_saves 58 = .ok (.aload_n 0, 1) := by decide +kernel
theorem dX12_saves_59 : decode cX12_saves 59 = .ok (.getfield 13, 3) := by decide +kernel
theorem dX12_saves_62 : decode cX12_saves 62 = .ok (.sipush 1601, 3) := by decide +kernel
theorem dX12_saves_65 : decode cX12_saves 65 = .ok (.aload_n 0, 1) := by decide +kernel
theorem dX12_saves_66 : decode cX12_saves 66 = .ok (.getfield 32, 3) := by decide +kernel
theorem dX12_saves_69 : decode cX12_saves 69 = .ok (.imul, 1) := by decide +kernel
theorem dX12_saves_70 : decode cX12_saves 70 = .ok (.iload_n 1, 1) := by decide +kernel
theorem dX12_saves_71 : decode cX12_saves 71 = .ok (.iadd, 1) := by decide +kernel
theorem dX12_saves_72 : decode cX12_saves 72 = .ok (.aload_n 0, 1) := by decide +kernel
theorem dX12_saves_73 : decode cX12_saves 73 = .ok (.getfield 7, 3) := by decide +kernel
theorem dX12_saves_76 : decode cX12_saves 76 = .ok (.iload_n 1, 1) := by decide +kernel
theorem dX12_saves_77 : decode cX12_saves 77 = .ok (.iaload, 1) := by decide +kernel
theorem dX12_saves_78 : decode cX12_saves 78 = .ok (.iastore, 1) := by decide +kernel
theorem dX12_saves_79 : decode cX12_saves 79 = .ok (.iinc 1 1, 3) := by decide +kernel
theorem dX12_saves_82 : decode cX12_saves 82 = .ok (.goto (-31), 3) := by decide +kernel
theorem dX12_saves_85 : decode cX12_saves 85 = .ok (.aload_n 0, 1) := by decide +kernel
theorem dX12_saves_86 : decode cX12_saves 86 = .ok (.dup, 1) := by decide +kernel
theorem dX12_saves_87 : decode cX12_saves 87 = .ok (.getfield 32, 3) := by decide +kernel
theorem dX12_saves_90 : decode cX12_saves 90 = .ok (.iconst 1, 1) := by decide +kernel
theorem dX12_saves_91 : decode cX12_saves 91 = .ok (.iadd, 1) := by decide +kernel
theorem dX12_saves_92 : decode cX12_saves 92 = .ok (.putfield 32, 3) := by decide +kernel
theorem dX12_saves_95 : decode cX12_saves 95 = .ok (.return_, 1) := by decide +kernel
theorem dX12_undo_0 : decode cX12_undo 0 = .ok (.aload_n 0, 1) := by decide +kernel
theorem dX12_undo_1 : decode cX12_undo 1 = .ok (.aload_n 0, 1) := by decide +kernel
theorem dX12_undo_2 : decode cX12_undo 2 = .ok (.getfield 32, 3) := by decide +kernel
theorem dX12_undo_5 : decode cX12_undo 5 = .ok (.ifCond .ne 7, 3) := by decide +kernel
theorem dX12_undo_8 : decode cX12_undo 8 = .ok (.iconst 1, 1) := by decide +kernel
theorem dX12_undo_9 : decode cX12_undo 9 = .ok (.goto 4, 3) := by decide +kernel
theorem dX12_undo_12 : decode cX12_undo 12 = .ok (.iconst 0, 1) := by decide +kernel
theorem dX12_undo_13 : decode cX12_undo 13 = .ok (.invokevirtual 35, 3) := by decide +kernel
theorem dX12_undo_16 : decode cX12_undo 16 = .ok (.ifCond .eq 5, 3) := by decide +kernel
theorem dX12_undo_19 : decode cX12_undo 19 = .ok (.iconst 0, 1) := by decide +kernel
theorem dX12_undo_20 : decode cX12_undo 20 = .ok (.ireturn, 1) := by decide +kernel
theorem dX12_undo_21 : decode cX12_undo 21 = .ok (.aload_n 0, 1) := by decide +kernel
theorem dX12_undo_22 : decode cX12_undo 22 = .ok (.dup, 1) := by decide +kernel
theorem dX12_undo_23 : decode cX12_undo 23 = .ok (.getfield 32, 3) := by decide +kernel
theorem dX12_undo_26 : decode cX12_undo 26 = .ok (.iconst 1, 1) := by decide +kernel
theorem dX12_undo_27 : decode cX12_undo 27 = .ok (.isub, 1) := by decide +kernel
theorem dX12_undo_28 : decode cX12_undo 28 = .ok (.putfield 32, 3) := by decide +kernel
theorem dX12_undo_31 : decode cX12_undo 31 = .ok (.iconst 0, 1) := by decide +kernel
theorem dX12_undo_32 : decode cX12_undo 32 = .ok (.istore_n 1, 1) := by decide +kernel
theorem dX12_undo_33 : decode cX12_undo 33 = .ok (.iload_n 1, 1) := by decide +kernel
theorem dX12_undo_34 : decode cX12_undo 34 = .ok (.sipush 1601, 3) := by decide +kernel
theorem dX12_undo_37 : decode cX12_undo 37 = .ok (.if_icmp .ge 30, 3) := by decide +kernel
theorem dX12_undo_40 : decode cX12_undo 40 = .ok (.aload_n 0, 1) := by decide +kernel
theorem dX12_undo_41 : decode cX12_undo 41 = .ok (.getfield 7, 3) := by decide +kernel
theorem dX12_undo_44 : decode cX12_undo 44 = .ok (.iload_n 1, 1) := by decide +kernel
theorem dX12_undo_45 : decode cX12_undo 45 = .ok (.aload_n 0, 1) := by decide +kernel
theorem dX12_undo_46 : decode cX12_undo 46 = .ok (.getfield 13, 3) := by decide +kernel
theorem dX12_undo_49 : decode cX12_undo 49 = .ok (.sipush 1601, 3) := by decide +kernel
theorem dX12_undo_52 : decode cX12_undo 52 = .ok (.aload_n 0, 1) := by decide +kernel
theorem dX12_undo_53 : decode cX12_undo 53 = .ok (.getfield 32, 3) := by decide +kernel
theorem dX12_undo_56 : decode cX12_undo 56 = .ok (.imul, 1) := by decide +kernel
theorem dX12_undo_57 : decode cX12_undo 57 = .ok (.iload_n 1, 1) := by decide +kernel
theorem dX12_undo_58 : decode cX12_undo 58 = .ok (.iadd, 1) := by decide +kernel
theorem dX12_undo_59 : decode cX12_undo 59 = .ok (.iaload, 1) := by decide +kernel
theorem dX12_undo_60 : decode cX12_undo 60 = .ok (.iastore, 1) := by decide +kernel
theorem dX12_undo_61 : decode cX12_undo 61 = .ok (.iinc 1 1, 3) := by decide +kernel
theorem dX12_undo_64 : decode cX12_undo 64 = .ok (.goto (-31), 3) := by decide +kernel
theorem dX12_undo_67 : decode cX12_undo 67 = .ok (.aload_n 0, 1) := by decide +kernel
theorem dX12_undo_68 : decode cX12_undo 68 = .ok (.getfield 32, 3) := by decide +kernel
theorem dX12_undo_71 : decode cX12_undo 71 = .ok (.ireturn, 1) := by decide +kernel
theorem dX12_keeps_0 : decode cX12_keeps 0 = .ok (.iconst 0, 1) := by decide +kernel
theorem dX12_keeps_1 : decode cX12_keeps 1 = .ok (.istore_n 1, 1) := by decide +kernel
theorem dX12_keeps_2 : decode cX12_keeps 2 = .ok (.iload_n 1, 1) := by decide +kernel
theorem dX12_keeps_3 : decode cX12_keeps 3 = .ok (.sipush 1601, 3) := by decide +kernel
theorem dX12_keeps_6 : decode cX12_keeps 6 = .ok (.if_icmp .ge 21, 3) := by decide +kernel
theorem dX12_keeps_9 : decode cX12_keeps 9 = .ok (.aload_n 0, 1) := by decide +kernel
theorem dX12_keeps_10 : decode cX12_keeps 10 = .ok (.getfield 16, 3) := by decide +kernel
theorem dX12_keeps_13 : decode cX12_keeps 13 = .ok (.iload_n 1, 1) := by decide +kernel
theorem dX12_keeps_14 : decode cX12_keeps 14 = .ok (.aload_n 0, 1) := by decide +kernel
theorem dX12_keeps_15 : decode cX12_keeps 15 = .ok (.getfield 7, 3) := by decide +kernel
theorem dX12_keeps_18 : decode cX12_keeps 18 = .ok (.iload_n 1, 1) := by decide +kernel
theorem dX12_keeps_19 : decode cX12_keeps 19 = .ok (.iaload, 1) := by decide +kernel
theorem dX12_keeps_20 : decode cX12_keeps 20 = .ok (.iastore, 1) := by decide +kernel
theorem dX12_keeps_21 : decode cX12_keeps 21 = .ok (.iinc 1 1, 3) := by decide +kernel
theorem dX12_keeps_24 : decode cX12_keeps 24 = .ok (.goto (-22), 3) := by decide +kernel
theorem dX12_keeps_27 : decode cX12_keeps 27 = .ok (.return_, 1) := by decide +kernel
theorem dX12_takesBack_0 : decode cX12_takesBack 0 = .ok (.iconst 0, 1) := by decide +kernel
theorem dX12_takesBack_1 : decode cX12_takesBack 1 = .ok (.istore_n 1, 1) := by decide +kernel
theorem dX12_takesBack_2 : decode cX12_takesBack 2 = .ok (.iload_n 1, 1) := by decide +kernel
theorem dX12_takesBack_3 : decode cX12_takesBack 3 = .ok (.sipush 1601, 3) := by decide +kernel
theorem dX12_takesBack_6 : decode cX12_takesBack 6 = .ok (.if_icmp .ge 21, 3) := by decide +kernel
theorem dX12_takesBack_9 : decode cX12_takesBack 9 = .ok (.aload_n 0, 1) := by decide +kernel
theorem dX12_takesBack_10 : decode cX12_takesBack 10 = .ok (.getfield 7, 3) := by decide +kernel
theorem dX12_takesBack_13 : decode cX12_takesBack 13 = .ok (.iload_n 1, 1) := by decide +kernel
theorem dX12_takesBack_14 : decode cX12_takesBack 14 = .ok (.aload_n 0, 1) := by decide +kernel
theorem dX12_takesBack_15 : decode cX12_takesBack 15 = .ok (.getfield 16, 3) := by decide +kernel
theorem dX12_takesBack_18 : decode cX12_takesBack 18 = .ok (.iload_n 1, 1) := by decide +kernel
theorem dX12_takesBack_19 : decode cX12_takesBack 19 = .ok (.iaload, 1) := by decide +kernel
theorem dX12_takesBack_20 : decode cX12_takesBack 20 = .ok (.iastore, 1) := by decide +kernel
theorem dX12_takesBack_21 : decode cX12_takesBack 21 = .ok (.iinc 1 1, 3) := by decide +kernel
theorem dX12_takesBack_24 : decode cX12_takesBack 24 = .ok (.goto (-22), 3) := by decide +kernel
theorem dX12_takesBack_27 : decode cX12_takesBack 27 = .ok (.return_, 1) := by decide +kernel
theorem dX12_isHouse_0 : decode cX12_isHouse 0 = .ok (.iload_n 1, 1) := by decide +kernel
theorem dX12_isHouse_1 : decode cX12_isHouse 1 = .ok (.iconst 0, 1) := by decide +kernel
theorem dX12_isHouse_2 : decode cX12_isHouse 2 = .ok (.aload_n 0, 1) := by decide +kernel
theorem dX12_isHouse_3 : decode cX12_isHouse 3 = .ok (.getfield 7, 3) := by decide +kernel
theorem dX12_isHouse_6 : decode cX12_isHouse 6 = .ok (.iconst 0, 1) := by decide +kernel
theorem dX12_isHouse_7 : decode cX12_isHouse 7 = .ok (.iaload, 1) := by decide +kernel
theorem dX12_isHouse_8 : decode cX12_isHouse 8 = .ok (.iconst 1, 1) := by decide +kernel
theorem dX12_isHouse_9 : decode cX12_isHouse 9 = .ok (.isub, 1) := by decide +kernel
theorem dX12_isHouse_10 : decode cX12_isHouse 10 = .ok (.invokestatic 39, 3) := by decide +kernel
theorem dX12_isHouse_13 : decode cX12_isHouse 13 = .ok (.ireturn, 1) := by decide +kernel
theorem dX12_of_0 : decode cX12_of 0 = .ok (.aload_n 0, 1) := by decide +kernel
theorem dX12_of_1 : decode cX12_of 1 = .ok (.getfield 7, 3) := by decide +kernel
theorem dX12_of_4 : decode cX12_of 4 = .ok (.bipush 9, 2) := by decide +kernel
theorem dX12_of_6 : decode cX12_of 6 = .ok (.iconst 4, 1) := by decide +kernel
theorem dX12_of_7 : decode cX12_of 7 = .ok (.iload_n 1, 1) := by decide +kernel
theorem dX12_of_8 : decode cX12_of 8 = .ok (.imul, 1) := by decide +kernel
theorem dX12_of_9 : decode cX12_of 9 = .ok (.iadd, 1) := by decide +kernel
theorem dX12_of_10 : decode cX12_of 10 = .ok (.iload_n 2, 1) := by decide +kernel
theorem dX12_of_11 : decode cX12_of 11 = .ok (.iadd, 1) := by decide +kernel
theorem dX12_of_12 : decode cX12_of 12 = .ok (.iaload, 1) := by decide +kernel
theorem dX12_of_13 : decode cX12_of 13 = .ok (.ireturn, 1) := by decide +kernel
theorem dX12_lays_0 : decode cX12_lays 0 = .ok (.aload_n 0, 1) := by decide +kernel
theorem dX12_lays_1 : decode cX12_lays 1 = .ok (.getfield 7, 3) := by decide +kernel
theorem dX12_lays_4 : decode cX12_lays 4 = .ok (.bipush 9, 2) := by decide +kernel
theorem dX12_lays_6 : decode cX12_lays 6 = .ok (.iconst 4, 1) := by decide +kernel
theorem dX12_lays_7 : decode cX12_lays 7 = .ok (.iload_n 1, 1) := by decide +kernel
theorem dX12_lays_8 : decode cX12_lays 8 = .ok (.imul, 1) := by decide +kernel
theorem dX12_lays_9 : decode cX12_lays 9 = .ok (.iadd, 1) := by decide +kernel
theorem dX12_lays_10 : decode cX12_lays 10 = .ok (.iload_n 2, 1) := by decide +kernel
theorem dX12_lays_11 : decode cX12_lays 11 = .ok (.iadd, 1) := by decide +kernel
theorem dX12_lays_12 : decode cX12_lays 12 = .ok (.iload_n 3, 1) := by decide +kernel
theorem dX12_lays_13 : decode cX12_lays 13 = .ok (.iastore, 1) := by decide +kernel
theorem dX12_lays_14 : decode cX12_lays 14 = .ok (.return_, 1) := by decide +kernel
theorem dX12_isMark_0 : decode cX12_isMark 0 = .ok (.iload_n 0, 1) := by decide +kernel
theorem dX12_isMark_1 : decode cX12_isMark 1 = .ok (.iconst 1, 1) := by decide +kernel
theorem dX12_isMark_2 : decode cX12_isMark 2 = .ok (.ldc 43, 2) := by decide +kernel
theorem dX12_isMark_4 : decode cX12_isMark 4 = .ok (.invokestatic 39, 3) := by decide +kernel
theorem dX12_isMark_7 : decode cX12_isMark 7 = .ok (.ireturn, 1) := by decide +kernel
theorem dX12_isTaken_0 : decode cX12_isTaken 0 = .ok (.iconst 0, 1) := by decide +kernel
theorem dX12_isTaken_1 : decode cX12_isTaken 1 = .ok (.istore_n 3, 1) := by decide +kernel
theorem dX12_isTaken_2 : decode cX12_isTaken 2 = .ok (.iconst 0, 1) := by decide +kernel
theorem dX12_isTaken_3 : decode cX12_isTaken 3 = .ok (.istore 4, 2) := by decide +kernel
theorem dX12_isTaken_5 : decode cX12_isTaken 5 = .ok (.iload 4, 2) := by decide +kernel
theorem dX12_isTaken_7 : decode cX12_isTaken 7 = .ok (.aload_n 0, 1) := by decide +kernel
theorem dX12_isTaken_8 : decode cX12_isTaken 8 = .ok (.getfield 7, 3) := by decide +kernel
theorem dX12_isTaken_11 : decode cX12_isTaken 11 = .ok (.iconst 0, 1) := by decide +kernel
theorem dX12_isTaken_12 : decode cX12_isTaken 12 = .ok (.iaload, 1) := by decide +kernel
theorem dX12_isTaken_13 : decode cX12_isTaken 13 = .ok (.if_icmp .ge 36, 3) := by decide +kernel
theorem dX12_isTaken_16 : decode cX12_isTaken 16 = .ok (.iload_n 3, 1) := by decide +kernel
theorem dX12_isTaken_17 : decode cX12_isTaken 17 = .ok (.ifCond .ne 20, 3) := by decide +kernel
theorem dX12_isTaken_20 : decode cX12_isTaken 20 = .ok (.iload 4, 2) := by decide +kernel
theorem dX12_isTaken_22 : decode cX12_isTaken 22 = .ok (.iload_n 2, 1) := by decide +kernel
theorem dX12_isTaken_23 : decode cX12_isTaken 23 = .ok (.if_icmp .eq 18, 3) := by decide +kernel
theorem dX12_isTaken_26 : decode cX12_isTaken 26 = .ok (.aload_n 0, 1) := by decide +kernel
theorem dX12_isTaken_27 : decode cX12_isTaken 27 = .ok (.iload 4, 2) := by decide +kernel
theorem dX12_isTaken_29 : decode cX12_isTaken 29 = .ok (.iconst 0, 1) := by decide +kernel
theorem dX12_isTaken_30 : decode cX12_isTaken 30 = .ok (.invokevirtual 44, 3) := by decide +kernel
theorem dX12_isTaken_33 : decode cX12_isTaken 33 = .ok (.iload_n 1, 1) := by decide +kernel
theorem dX12_isTaken_34 : decode cX12_isTaken 34 = .ok (.if_icmp .ne 7, 3) := by decide +kernel
theorem dX12_isTaken_37 : decode cX12_isTaken 37 = .ok (.iconst 1, 1) := by decide +kernel
theorem dX12_isTaken_38 : decode cX12_isTaken 38 = .ok (.goto 4, 3) := by decide +kernel
theorem dX12_isTaken_41 : decode cX12_isTaken 41 = .ok (.iconst 0, 1) := by decide +kernel
theorem dX12_isTaken_42 : decode cX12_isTaken 42 = .ok (.istore_n 3, 1) := by decide +kernel
theorem dX12_isTaken_43 : decode cX12_isTaken 43 = .ok (.iinc 4 1, 3) := by decide +kernel
theorem dX12_isTaken_46 : decode cX12_isTaken 46 = .ok (.goto (-41), 3) := by decide +kernel
theorem dX12_isTaken_49 : decode cX12_isTaken 49 = .ok (.iload_n 3, 1) := by decide +kernel
theorem dX12_isTaken_50 : decode cX12_isTaken 50 = .ok (.ireturn, 1) := by decide +kernel
theorem dX12_badJoin_0 : decode cX12_badJoin 0 = .ok (.iload_n 1, 1) := by decide +kernel
theorem dX12_badJoin_1 : decode cX12_badJoin 1 = .ok (.invokestatic 48, 3) := by decide +kernel
theorem dX12_badJoin_4 : decode cX12_badJoin 4 = .ok (.ifCond .ne 7, 3) := by decide +kernel
theorem dX12_badJoin_7 : decode cX12_badJoin 7 = .ok (.iconst 1, 1) := by decide +kernel
theorem dX12_badJoin_8 : decode cX12_badJoin 8 = .ok (.goto 28, 3) := by decide +kernel
theorem dX12_badJoin_11 : decode cX12_badJoin 11 = .ok (.aload_n 0, 1) := by decide +kernel
theorem dX12_badJoin_12 : decode cX12_badJoin 12 = .ok (.getfield 7, 3) := by decide +kernel
theorem dX12_badJoin_15 : decode cX12_badJoin 15 = .ok (.iconst 0, 1) := by decide +kernel
theorem dX12_badJoin_16 : decode cX12_badJoin 16 = .ok (.iaload, 1) := by decide +kernel
theorem dX12_badJoin_17 : decode cX12_badJoin 17 = .ok (.bipush 8, 2) := by decide +kernel
theorem dX12_badJoin_19 : decode cX12_badJoin 19 = .ok (.if_icmp .eq 12, 3) := by decide +kernel
theorem dX12_badJoin_22 : decode cX12_badJoin 22 = .ok (.aload_n 0, 1) := by decide +kernel
theorem dX12_badJoin_23 : decode cX12_badJoin 23 = .ok (.iload_n 1, 1) := by decide +kernel
theorem dX12_badJoin_24 : decode cX12_badJoin 24 = .ok (.iconst (-1), 1) := by decide +kernel
theorem dX12_badJoin_25 : decode cX12_badJoin 25 = .ok (.invokevirtual 51, 3) := by decide +kernel
theorem dX12_badJoin_28 : decode cX12_badJoin 28 = .ok (.ifCond .eq 7, 3) := by decide +kernel
theorem dX12_badJoin_31 : decode cX12_badJoin 31 = .ok (.iconst 2, 1) := by decide +kernel
theorem dX12_badJoin_32 : decode cX12_badJoin 32 = .ok (.goto 4, 3) := by decide +kernel
theorem dX12_badJoin_35 : decode cX12_badJoin 35 = .ok (.iconst 0, 1) := by decide +kernel
theorem dX12_badJoin_36 : decode cX12_badJoin 36 = .ok (.ireturn, 1) := by decide +kernel
theorem dX12_joins_0 : decode cX12_joins 0 = .ok (.aload_n 0, 1) := by decide +kernel
theorem dX12_joins_1 : decode cX12_joins 1 = .ok (.getfield 7, 3) := by decide +kernel
theorem dX12_joins_4 : decode cX12_joins 4 = .ok (.iconst 0, 1) := by decide +kernel
theorem dX12_joins_5 : decode cX12_joins 5 = .ok (.iaload, 1) := by decide +kernel
theorem dX12_joins_6 : decode cX12_joins 6 = .ok (.istore_n 2, 1) := by decide +kernel
theorem dX12_joins_7 : decode cX12_joins 7 = .ok (.aload_n 0, 1) := by decide +kernel
theorem dX12_joins_8 : decode cX12_joins 8 = .ok (.iload_n 2, 1) := by decide +kernel
theorem dX12_joins_9 : decode cX12_joins 9 = .ok (.iconst 0, 1) := by decide +kernel
theorem dX12_joins_10 : decode cX12_joins 10 = .ok (.iload_n 1, 1) := by decide +kernel
theorem dX12_joins_11 : decode cX12_joins 11 = .ok (.invokevirtual 55, 3) := by decide +kernel
theorem dX12_joins_14 : decode cX12_joins 14 = .ok (.aload_n 0, 1) := by decide +kernel
theorem dX12_joins_15 : decode cX12_joins 15 = .ok (.iload_n 2, 1) := by decide +kernel
theorem dX12_joins_16 : decode cX12_joins 16 = .ok (.iconst 1, 1) := by decide +kernel
theorem dX12_joins_17 : decode cX12_joins 17 = .ok (.iconst 0, 1) := by decide +kernel
theorem dX12_joins_18 : decode cX12_joins 18 = .ok (.invokevirtual 55, 3) := by decide +kernel
theorem dX12_joins_21 : decode cX12_joins 21 = .ok (.aload_n 0, 1) := by decide +kernel
theorem dX12_joins_22 : decode cX12_joins 22 = .ok (.iload_n 2, 1) := by decide +kernel
theorem dX12_joins_23 : decode cX12_joins 23 = .ok (.iconst 2, 1) := by decide +kernel
theorem dX12_joins_24 : decode cX12_joins 24 = .ok (.iconst 0, 1) := by decide +kernel
theorem dX12_joins_25 : decode cX12_joins 25 = .ok (.invokevirtual 55, 3) := by decide +kernel
theorem dX12_joins_28 : decode cX12_joins 28 = .ok (.aload_n 0, 1) := by decide +kernel
theorem dX12_joins_29 : decode cX12_joins 29 = .ok (.iload_n 2, 1) := by decide +kernel
theorem dX12_joins_30 : decode cX12_joins 30 = .ok (.iconst 3, 1) := by decide +kernel
theorem dX12_joins_31 : decode cX12_joins 31 = .ok (.iconst 0, 1) := by decide +kernel
theorem dX12_joins_32 : decode cX12_joins 32 = .ok (.invokevirtual 55, 3) := by decide +kernel
theorem dX12_joins_35 : decode cX12_joins 35 = .ok (.aload_n 0, 1) := by decide +kernel
theorem dX12_joins_36 : decode cX12_joins 36 = .ok (.getfield 7, 3) := by decide +kernel
theorem dX12_joins_39 : decode cX12_joins 39 = .ok (.iconst 0, 1) := by decide +kernel
theorem dX12_joins_40 : decode cX12_joins 40 = .ok (.dup2, 1) := by decide +kernel
theorem dX12_joins_41 : decode cX12_joins 41 = .ok (.iaload, 1) := by decide +kernel
theorem dX12_joins_42 : decode cX12_joins 42 = .ok (.iconst 1, 1) := by decide +kernel
theorem dX12_joins_43 : decode cX12_joins 43 = .ok (.iadd, 1) := by decide +kernel
theorem dX12_joins_44 : decode cX12_joins 44 = .ok (.iastore, 1) := by decide +kernel
theorem dX12_joins_45 : decode cX12_joins 45 = .ok (.iload_n 2, 1) := by decide +kernel
theorem dX12_joins_46 : decode cX12_joins 46 = .ok (.ireturn, 1) := by decide +kernel
theorem dX12_join_0 : decode cX12_join 0 = .ok (.aload_n 0, 1) := by decide +kernel
theorem dX12_join_1 : decode cX12_join 1 = .ok (.aload_n 0, 1) := by decide +kernel
theorem dX12_join_2 : decode cX12_join 2 = .ok (.iload_n 1, 1) := by decide +kernel
theorem dX12_join_3 : decode cX12_join 3 = .ok (.invokevirtual 59, 3) := by decide +kernel
theorem dX12_join_6 : decode cX12_join 6 = .ok (.invokevirtual 35, 3) := by decide +kernel
theorem dX12_join_9 : decode cX12_join 9 = .ok (.ifCond .eq 5, 3) := by decide +kernel
theorem dX12_join_12 : decode cX12_join 12 = .ok (.iconst 0, 1) := by decide +kernel
theorem dX12_join_13 : decode cX12_join 13 = .ok (.ireturn, 1) := by decide +kernel
theorem dX12_join_14 : decode cX12_join 14 = .ok (.aload_n 0, 1) := by decide +kernel
theorem dX12_join_15 : decode cX12_join 15 = .ok (.invokevirtual 63, 3) := by decide +kernel
theorem dX12_join_18 : decode cX12_join 18 = .ok (.aload_n 0, 1) := by decide +kernel
theorem dX12_join_19 : decode cX12_join 19 = .ok (.iload_n 1, 1) := by decide +kernel
theorem dX12_join_20 : decode cX12_join 20 = .ok (.invokevirtual 66, 3) := by decide +kernel
theorem dX12_join_23 : decode cX12_join 23 = .ok (.ireturn, 1) := by decide +kernel
theorem dX12_remark_0 : decode cX12_remark 0 = .ok (.aload_n 0, 1) := by decide +kernel
theorem dX12_remark_1 : decode cX12_remark 1 = .ok (.aload_n 0, 1) := by decide +kernel
theorem dX12_remark_2 : decode cX12_remark 2 = .ok (.iload_n 1, 1) := by decide +kernel
theorem dX12_remark_3 : decode cX12_remark 3 = .ok (.invokevirtual 69, 3) := by decide +kernel
theorem dX12_remark_6 : decode cX12_remark 6 = .ok (.ifCond .ne 7, 3) := by decide +kernel
theorem dX12_remark_9 : decode cX12_remark 9 = .ok (.iconst 1, 1) := by decide +kernel
theorem dX12_remark_10 : decode cX12_remark 10 = .ok (.goto 28, 3) := by decide +kernel
theorem dX12_remark_13 : decode cX12_remark 13 = .ok (.iload_n 2, 1) := by decide +kernel
theorem dX12_remark_14 : decode cX12_remark 14 = .ok (.invokestatic 48, 3) := by decide +kernel
theorem dX12_remark_17 : decode cX12_remark 17 = .ok (.ifCond .ne 7, 3) := by decide +kernel
theorem dX12_remark_20 : decode cX12_remark 20 = .ok (.iconst 2, 1) := by decide +kernel
theorem dX12_remark_21 : decode cX12_remark 21 = .ok (.goto 17, 3) := by decide +kernel
theorem dX12_remark_24 : decode cX12_remark 24 = .ok (.aload_n 0, 1) := by decide +kernel
theorem dX12_remark_25 : decode cX12_remark 25 = .ok (.iload_n 2, 1) := by decide +kernel
theorem dX12_remark_26 : decode cX12_remark 26 = .ok (.iload_n 1, 1) := by decide +kernel
theorem dX12_remark_27 : decode cX12_remark 27 = .ok (.invokevirtual 51, 3) := by decide +kernel
theorem dX12_remark_30 : decode cX12_remark 30 = .ok (.ifCond .eq 7, 3) := by decide +kernel
theorem dX12_remark_33 : decode cX12_remark 33 = .ok (.iconst 3, 1) := by decide +kernel
theorem dX12_remark_34 : decode cX12_remark 34 = .ok (.goto 4, 3) := by decide +kernel
theorem dX12_remark_37 : decode cX12_remark 37 = .ok (.iconst 0, 1) := by decide +kernel
theorem dX12_remark_38 : decode cX12_remark 38 = .ok (.invokevirtual 35, 3) := by decide +kernel
theorem dX12_remark_41 : decode cX12_remark 41 = .ok (.ifCond .eq 5, 3) := by decide +kernel
theorem dX12_remark_44 : decode cX12_remark 44 = .ok (.iconst 0, 1) := by decide +kernel
theorem dX12_remark_45 : decode cX12_remark 45 = .ok (.ireturn, 1) := by decide +kernel
theorem dX12_remark_46 : decode cX12_remark 46 = .ok (.aload_n 0, 1) := by decide +kernel
theorem dX12_remark_47 : decode cX12_remark 47 = .ok (.invokevirtual 63, 3) := by decide +kernel
theorem dX12_remark_50 : decode cX12_remark 50 = .ok (.aload_n 0, 1) := by decide +kernel
theorem dX12_remark_51 : decode cX12_remark 51 = .ok (.iload_n 1, 1) := by decide +kernel
theorem dX12_remark_52 : decode cX12_remark 52 = .ok (.iconst 0, 1) := by decide +kernel
theorem dX12_remark_53 : decode cX12_remark 53 = .ok (.invokevirtual 44, 3) := by decide +kernel
theorem dX12_remark_56 : decode cX12_remark 56 = .ok (.istore_n 3, 1) := by decide +kernel
theorem dX12_remark_57 : decode cX12_remark 57 = .ok (.aload_n 0, 1) := by decide +kernel
theorem dX12_remark_58 : decode cX12_remark 58 = .ok (.iload_n 1, 1) := by decide +kernel
theorem dX12_remark_59 : decode cX12_remark 59 = .ok (.iconst 0, 1) := by decide +kernel
theorem dX12_remark_60 : decode cX12_remark 60 = .ok (.iload_n 2, 1) := by decide +kernel
theorem dX12_remark_61 : decode cX12_remark 61 = .ok (.invokevirtual 55, 3) := by decide +kernel
theorem dX12_remark_64 : decode cX12_remark 64 = .ok (.iload_n 3, 1) := by decide +kernel
theorem dX12_remark_65 : decode cX12_remark 65 = .ok (.ireturn, 1) := by decide +kernel
theorem dX12_excused_0 : decode cX12_excused 0 = .ok (.iconst 0, 1) := by decide +kernel
theorem dX12_excused_1 : decode cX12_excused 1 = .ok (.istore_n 1, 1) := by decide +kernel
theorem dX12_excused_2 : decode cX12_excused 2 = .ok (.iconst 0, 1) := by decide +kernel
theorem dX12_excused_3 : decode cX12_excused 3 = .ok (.istore_n 2, 1) := by decide +kernel
theorem dX12_excused_4 : decode cX12_excused 4 = .ok (.iload_n 2, 1) := by decide +kernel
theorem dX12_excused_5 : decode cX12_excused 5 = .ok (.aload_n 0, 1) := by decide +kernel
theorem dX12_excused_6 : decode cX12_excused 6 = .ok (.getfield 7, 3) := by decide +kernel
theorem dX12_excused_9 : decode cX12_excused 9 = .ok (.iconst 0, 1) := by decide +kernel
theorem dX12_excused_10 : decode cX12_excused 10 = .ok (.iaload, 1) := by decide +kernel
theorem dX12_excused_11 : decode cX12_excused 11 = .ok (.if_icmp .ge 18, 3) := by decide +kernel
theorem dX12_excused_14 : decode cX12_excused 14 = .ok (.iload_n 1, 1) := by decide +kernel
theorem dX12_excused_15 : decode cX12_excused 15 = .ok (.aload_n 0, 1) := by decide +kernel
theorem dX12_excused_16 : decode cX12_excused 16 = .ok (.iload_n 2, 1) := by decide +kernel
theorem dX12_excused_17 : decode cX12_excused 17 = .ok (.iconst 3, 1) := by decide +kernel
theorem dX12_excused_18 : decode cX12_excused 18 = .ok (.invokevirtual 44, 3) := by decide +kernel
theorem dX12_excused_21 : decode cX12_excused 21 = .ok (.iadd, 1) := by decide +kernel
theorem dX12_excused_22 : decode cX12_excused 22 = .ok (.istore_n 1, 1) := by decide +kernel
theorem dX12_excused_23 : decode cX12_excused 23 = .ok (.iinc 2 1, 3) := by decide +kernel
theorem dX12_excused_26 : decode cX12_excused 26 = .ok (.goto (-22), 3) := by decide +kernel
theorem dX12_excused_29 : decode cX12_excused 29 = .ok (.iload_n 1, 1) := by decide +kernel
theorem dX12_excused_30 : decode cX12_excused 30 = .ok (.ireturn, 1) := by decide +kernel
theorem dX12_excuse_0 : decode cX12_excuse 0 = .ok (.aload_n 0, 1) := by decide +kernel
theorem dX12_excuse_1 : decode cX12_excuse 1 = .ok (.aload_n 0, 1) := by decide +kernel
theorem dX12_excuse_2 : decode cX12_excuse 2 = .ok (.iload_n 1, 1) := by decide +kernel
theorem dX12_excuse_3 : decode cX12_excuse 3 = .ok (.invokevirtual 69, 3) := by decide +kernel
theorem dX12_excuse_6 : decode cX12_excuse 6 = .ok (.ifCond .eq 7, 3) := by decide +kernel
theorem dX12_excuse_9 : decode cX12_excuse 9 = .ok (.iconst 0, 1) := by decide +kernel
theorem dX12_excuse_10 : decode cX12_excuse 10 = .ok (.goto 4, 3) := by decide +kernel
theorem dX12_excuse_13 : decode cX12_excuse 13 = .ok (.iconst 1, 1) := by decide +kernel
theorem dX12_excuse_14 : decode cX12_excuse 14 = .ok (.invokevirtual 35, 3) := by decide +kernel
theorem dX12_excuse_17 : decode cX12_excuse 17 = .ok (.ifCond .eq 5, 3) := by decide +kernel
theorem dX12_excuse_20 : decode cX12_excuse 20 = .ok (.iconst 0, 1) := by decide +kernel
theorem dX12_excuse_21 : decode cX12_excuse 21 = .ok (.ireturn, 1) := by decide +kernel
theorem dX12_excuse_22 : decode cX12_excuse 22 = .ok (.aload_n 0, 1) := by decide +kernel
theorem dX12_excuse_23 : decode cX12_excuse 23 = .ok (.invokevirtual 63, 3) := by decide +kernel
theorem dX12_excuse_26 : decode cX12_excuse 26 = .ok (.aload_n 0, 1) := by decide +kernel
theorem dX12_excuse_27 : decode cX12_excuse 27 = .ok (.iload_n 1, 1) := by decide +kernel
theorem dX12_excuse_28 : decode cX12_excuse 28 = .ok (.iconst 3, 1) := by decide +kernel
theorem dX12_excuse_29 : decode cX12_excuse 29 = .ok (.iconst 1, 1) := by decide +kernel
theorem dX12_excuse_30 : decode cX12_excuse 30 = .ok (.invokevirtual 55, 3) := by decide +kernel
theorem dX12_excuse_33 : decode cX12_excuse 33 = .ok (.aload_n 0, 1) := by decide +kernel
theorem dX12_excuse_34 : decode cX12_excuse 34 = .ok (.invokevirtual 72, 3) := by decide +kernel
theorem dX12_excuse_37 : decode cX12_excuse 37 = .ok (.ireturn, 1) := by decide +kernel
theorem dX12_sum_0 : decode cX12_sum 0 = .ok (.iconst 0, 1) := by decide +kernel
theorem dX12_sum_1 : decode cX12_sum 1 = .ok (.istore_n 2, 1) := by decide +kernel
theorem dX12_sum_2 : decode cX12_sum 2 = .ok (.iconst 0, 1) := by decide +kernel
theorem dX12_sum_3 : decode cX12_sum 3 = .ok (.istore_n 3, 1) := by decide +kernel
theorem dX12_sum_4 : decode cX12_sum 4 = .ok (.iload_n 3, 1) := by decide +kernel
theorem dX12_sum_5 : decode cX12_sum 5 = .ok (.aload_n 0, 1) := by decide +kernel
theorem dX12_sum_6 : decode cX12_sum 6 = .ok (.getfield 7, 3) := by decide +kernel
theorem dX12_sum_9 : decode cX12_sum 9 = .ok (.iconst 0, 1) := by decide +kernel
theorem dX12_sum_10 : decode cX12_sum 10 = .ok (.iaload, 1) := by decide +kernel
theorem dX12_sum_11 : decode cX12_sum 11 = .ok (.if_icmp .ge 18, 3) := by decide +kernel
theorem dX12_sum_14 : decode cX12_sum 14 = .ok (.iload_n 2, 1) := by decide +kernel
theorem dX12_sum_15 : decode cX12_sum 15 = .ok (.aload_n 0, 1) := by decide +kernel
theorem dX12_sum_16 : decode cX12_sum 16 = .ok (.iload_n 3, 1) := by decide +kernel
theorem dX12_sum_17 : decode cX12_sum 17 = .ok (.iload_n 1, 1) := by decide +kernel
theorem dX12_sum_18 : decode cX12_sum 18 = .ok (.invokevirtual 44, 3) := by decide +kernel
theorem dX12_sum_21 : decode cX12_sum 21 = .ok (.iadd, 1) := by decide +kernel
theorem dX12_sum_22 : decode cX12_sum 22 = .ok (.istore_n 2, 1) := by decide +kernel
theorem dX12_sum_23 : decode cX12_sum 23 = .ok (.iinc 3 1, 3) := by decide +kernel
theorem dX12_sum_26 : decode cX12_sum 26 = .ok (.goto (-22), 3) := by decide +kernel
theorem dX12_sum_29 : decode cX12_sum 29 = .ok (.iload_n 2, 1) := by decide +kernel
theorem dX12_sum_30 : decode cX12_sum 30 = .ok (.ireturn, 1) := by decide +kernel
theorem dX12_dueOf_0 : decode cX12_dueOf 0 = .ok (.aload_n 0, 1) := by decide +kernel
theorem dX12_dueOf_1 : decode cX12_dueOf 1 = .ok (.iconst 1, 1) := by decide +kernel
theorem dX12_dueOf_2 : decode cX12_dueOf 2 = .ok (.invokevirtual 76, 3) := by decide +kernel
theorem dX12_dueOf_5 : decode cX12_dueOf 5 = .ok (.i2l, 1) := by decide +kernel
theorem dX12_dueOf_6 : decode cX12_dueOf 6 = .ok (.aload_n 0, 1) := by decide +kernel
theorem dX12_dueOf_7 : decode cX12_dueOf 7 = .ok (.iload_n 1, 1) := by decide +kernel
theorem dX12_dueOf_8 : decode cX12_dueOf 8 = .ok (.iconst 2, 1) := by decide +kernel
theorem dX12_dueOf_9 : decode cX12_dueOf 9 = .ok (.invokevirtual 44, 3) := by decide +kernel
theorem dX12_dueOf_12 : decode cX12_dueOf 12 = .ok (.i2l, 1) := by decide +kernel
theorem dX12_dueOf_13 : decode cX12_dueOf 13 = .ok (.lmul, 1) := by decide +kernel
theorem dX12_dueOf_14 : decode cX12_dueOf 14 = .ok (.aload_n 0, 1) := by decide +kernel
theorem dX12_dueOf_15 : decode cX12_dueOf 15 = .ok (.iconst 2, 1) := by decide +kernel
theorem dX12_dueOf_16 : decode cX12_dueOf 16 = .ok (.invokevirtual 76, 3) := by decide +kernel
theorem dX12_dueOf_19 : decode cX12_dueOf 19 = .ok (.i2l, 1) := by decide +kernel
theorem dX12_dueOf_20 : decode cX12_dueOf 20 = .ok (.aload_n 0, 1) := by decide +kernel
theorem dX12_dueOf_21 : decode cX12_dueOf 21 = .ok (.iload_n 1, 1) := by decide +kernel
theorem dX12_dueOf_22 : decode cX12_dueOf 22 = .ok (.iconst 1, 1) := by decide +kernel
theorem dX12_dueOf_23 : decode cX12_dueOf 23 = .ok (.invokevirtual 44, 3) := by decide +kernel
theorem dX12_dueOf_26 : decode cX12_dueOf 26 = .ok (.i2l, 1) := by decide +kernel
theorem dX12_dueOf_27 : decode cX12_dueOf 27 = .ok (.lmul, 1) := by decide +kernel
theorem dX12_dueOf_28 : decode cX12_dueOf 28 = .ok (.lsub, 1) := by decide +kernel
theorem dX12_dueOf_29 : decode cX12_dueOf 29 = .ok (.lreturn, 1) := by decide +kernel
theorem dX12_next_0 : decode cX12_next 0 = .ok (.aload_n 0, 1) := by decide +kernel
theorem dX12_next_1 : decode cX12_next 1 = .ok (.invokevirtual 72, 3) := by decide +kernel
theorem dX12_next_4 : decode cX12_next 4 = .ok (.aload_n 0, 1) := by decide +kernel
theorem dX12_next_5 : decode cX12_next 5 = .ok (.getfield 7, 3) := by decide +kernel
theorem dX12_next_8 : decode cX12_next 8 = .ok (.iconst 0, 1) := by decide +kernel
theorem dX12_next_9 : decode cX12_next 9 = .ok (.iaload, 1) := by decide +kernel
theorem dX12_next_10 : decode cX12_next 10 = .ok (.if_icmp .ne 7, 3) := by decide +kernel
theorem dX12_next_13 : decode cX12_next 13 = .ok (.iconst 1, 1) := by decide +kernel
theorem dX12_next_14 : decode cX12_next 14 = .ok (.goto 4, 3) := by decide +kernel
theorem dX12_next_17 : decode cX12_next 17 = .ok (.iconst 0, 1) := by decide +kernel
theorem dX12_next_18 : decode cX12_next 18 = .ok (.istore_n 1, 1) := by decide +kernel
theorem dX12_next_19 : decode cX12_next 19 = .ok (.iconst (-1), 1) := by decide +kernel
theorem dX12_next_20 : decode cX12_next 20 = .ok (.istore_n 2, 1) := by decide +kernel
theorem dX12_next_21 : decode cX12_next 21 = .ok (.iconst 0, 1) := by decide +kernel
theorem dX12_next_22 : decode cX12_next 22 = .ok (.istore_n 3, 1) := by decide +kernel
theorem dX12_next_23 : decode cX12_next 23 = .ok (.iload_n 3, 1) := by decide +kernel
theorem dX12_next_24 : decode cX12_next 24 = .ok (.aload_n 0, 1) := by decide +kernel
theorem dX12_next_25 : decode cX12_next 25 = .ok (.getfield 7, 3) := by decide +kernel
theorem dX12_next_28 : decode cX12_next 28 = .ok (.iconst 0, 1) := by decide +kernel
theorem dX12_next_29 : decode cX12_next 29 = .ok (.iaload, 1) := by decide +kernel
theorem dX12_next_30 : decode cX12_next 30 = .ok (.if_icmp .ge 43, 3) := by decide +kernel
theorem dX12_next_33 : decode cX12_next 33 = .ok (.iload_n 1, 1) := by decide +kernel
theorem dX12_next_34 : decode cX12_next 34 = .ok (.ifCond .ne 12, 3) := by decide +kernel
theorem dX12_next_37 : decode cX12_next 37 = .ok (.aload_n 0, 1) := by decide +kernel
theorem dX12_next_38 : decode cX12_next 38 = .ok (.iload_n 3, 1) := by decide +kernel
theorem dX12_next_39 : decode cX12_next 39 = .ok (.iconst 3, 1) := by decide +kernel
theorem dX12_next_40 : decode cX12_next 40 = .ok (.invokevirtual 44, 3) := by decide +kernel
theorem dX12_next_43 : decode cX12_next 43 = .ok (.ifCond .ne 24, 3) := by decide +kernel
theorem dX12_next_46 : decode cX12_next 46 = .ok (.iload_n 2, 1) := by decide +kernel
theorem dX12_next_47 : decode cX12_next 47 = .ok (.iconst (-1), 1) := by decide +kernel
theorem dX12_next_48 : decode cX12_next 48 = .ok (.if_icmp .eq 17, 3) := by decide +kernel
theorem dX12_next_51 : decode cX12_next 51 = .ok (.aload_n 0, 1) := by decide +kernel
theorem dX12_next_52 : decode cX12_next 52 = .ok (.iload_n 3, 1) := by decide +kernel
theorem dX12_next_53 : decode cX12_next 53 = .ok (.invokevirtual 79, 3) := by decide +kernel
theorem dX12_next_56 : decode cX12_next 56 = .ok (.aload_n 0, 1) := by decide +kernel
theorem dX12_next_57 : decode cX12_next 57 = .ok (.iload_n 2, 1) := by decide +kernel
theorem dX12_next_58 : decode cX12_next 58 = .ok (.invokevirtual 79, 3) := by decide +kernel
theorem dX12_next_61 : decode cX12_next 61 = .ok (.lcmp, 1) := by decide +kernel
theorem dX12_next_62 : decode cX12_next 62 = .ok (.ifCond .le 5, 3) := by decide +kernel
theorem dX12_next_65 : decode cX12_next 65 = .ok (.iload_n 3, 1) := by decide +kernel
theorem dX12_next_66 : decode cX12_next 66 = .ok (.istore_n 2, 1) := by decide +kernel
theorem dX12_next_67 : decode cX12_next 67 = .ok (.iinc 3 1, 3) := by decide +kernel
theorem dX12_next_70 : decode cX12_next 70 = .ok (.goto (-47), 3) := by decide +kernel
theorem dX12_next_73 : decode cX12_next 73 = .ok (.iload_n 2, 1) := by decide +kernel
theorem dX12_next_74 : decode cX12_next 74 = .ok (.ireturn, 1) := by decide +kernel
theorem dX12_badBatch_0 : decode cX12_badBatch 0 = .ok (.aload_n 0, 1) := by decide +kernel
theorem dX12_badBatch_1 : decode cX12_badBatch 1 = .ok (.iload_n 1, 1) := by decide +kernel
theorem dX12_badBatch_2 : decode cX12_badBatch 2 = .ok (.invokevirtual 69, 3) := by decide +kernel
theorem dX12_badBatch_5 : decode cX12_badBatch 5 = .ok (.ifCond .ne 7, 3) := by decide +kernel
theorem dX12_badBatch_8 : decode cX12_badBatch 8 = .ok (.iconst 1, 1) := by decide +kernel
theorem dX12_badBatch_9 : decode cX12_badBatch 9 = .ok (.goto 43, 3) := by decide +kernel
theorem dX12_badBatch_12 : decode cX12_badBatch 12 = .ok (.iload_n 2, 1) := by decide +kernel
theorem dX12_badBatch_13 : decode cX12_badBatch 13 = .ok (.iconst 0, 1) := by decide +kernel
theorem dX12_badBatch_14 : decode cX12_badBatch 14 = .ok (.iconst 2, 1) := by decide +kernel
theorem dX12_badBatch_15 : decode cX12_badBatch 15 = .ok (.invokestatic 39, 3) := by decide +kernel
theorem dX12_badBatch_18 : decode cX12_badBatch 18 = .ok (.ifCond .eq 13, 3) := by decide +kernel
theorem dX12_badBatch_21 : decode cX12_badBatch 21 = .ok (.iload_n 3, 1) := by decide +kernel
theorem dX12_badBatch_22 : decode cX12_badBatch 22 = .ok (.iconst 1, 1) := by decide +kernel
theorem dX12_badBatch_23 : decode cX12_badBatch 23 = .ok (.bipush 12, 2) := by decide +kernel
theorem dX12_badBatch_25 : decode cX12_badBatch 25 = .ok (.invokestatic 39, 3) := by decide +kernel
theorem dX12_badBatch_28 : decode cX12_badBatch 28 = .ok (.ifCond .ne 7, 3) := by decide +kernel
theorem dX12_badBatch_31 : decode cX12_badBatch 31 = .ok (.iconst 2, 1) := by decide +kernel
theorem dX12_badBatch_32 : decode cX12_badBatch 32 = .ok (.goto 20, 3) := by decide +kernel
theorem dX12_badBatch_35 : decode cX12_badBatch 35 = .ok (.aload_n 0, 1) := by decide +kernel
theorem dX12_badBatch_36 : decode cX12_badBatch 36 = .ok (.getfield 7, 3) := by decide +kernel
theorem dX12_badBatch_39 : decode cX12_badBatch 39 = .ok (.bipush 7, 2) := by decide +kernel
theorem dX12_badBatch_41 : decode cX12_badBatch 41 = .ok (.iaload, 1) := by decide +kernel
theorem dX12_badBatch_42 : decode cX12_badBatch 42 = .ok (.bipush 20, 2) := by decide +kernel
theorem dX12_badBatch_44 : decode cX12_badBatch 44 = .ok (.if_icmp .ne 7, 3) := by decide +kernel
theorem dX12_badBatch_47 : decode cX12_badBatch 47 = .ok (.iconst 3, 1) := by decide +kernel
theorem dX12_badBatch_48 : decode cX12_badBatch 48 = .ok (.goto 4, 3) := by decide +kernel
theorem dX12_badBatch_51 : decode cX12_badBatch 51 = .ok (.iconst 0, 1) := by decide +kernel
theorem dX12_badBatch_52 : decode cX12_badBatch 52 = .ok (.ireturn, 1) := by decide +kernel
theorem dX12_brings_0 : decode cX12_brings 0 = .ok (.bipush 41, 2) := by decide +kernel
theorem dX12_brings_2 : decode cX12_brings 2 = .ok (.iconst 3, 1) := by decide +kernel
theorem dX12_brings_3 : decode cX12_brings 3 = .ok (.aload_n 0, 1) := by decide +kernel
theorem dX12_brings_4 : decode cX12_brings 4 = .ok (.getfield 7, 3) := by decide +kernel
theorem dX12_brings_7 : decode cX12_brings 7 = .ok (.bipush 7, 2) := by decide +kernel
theorem dX12_brings_9 : decode cX12_brings 9 = .ok (.iaload, 1) := by decide +kernel
theorem dX12_brings_10 : decode cX12_brings 10 = .ok (.imul, 1) := by decide +kernel
theorem dX12_brings_11 : decode cX12_brings 11 = .ok (.iadd, 1) := by decide +kernel
theorem dX12_brings_12 : decode cX12_brings 12 = .ok (.istore 4, 2) := by decide +kernel
theorem dX12_brings_14 : decode cX12_brings 14 = .ok (.aload_n 0, 1) := by decide +kernel
theorem dX12_brings_15 : decode cX12_brings 15 = .ok (.getfield 7, 3) := by decide +kernel
theorem dX12_brings_18 : decode cX12_brings 18 = .ok (.iload 4, 2) := by decide +kernel
theorem dX12_brings_20 : decode cX12_brings 20 = .ok (.iload_n 1, 1) := by decide +kernel
theorem dX12_brings_21 : decode cX12_brings 21 = .ok (.iastore, 1) := by decide +kernel
theorem dX12_brings_22 : decode cX12_brings 22 = .ok (.aload_n 0, 1) := by decide +kernel
theorem dX12_brings_23 : decode cX12_brings 23 = .ok (.getfield 7, 3) := by decide +kernel
theorem dX12_brings_26 : decode cX12_brings 26 = .ok (.iload 4, 2) := by decide +kernel
theorem dX12_brings_28 : decode cX12_brings 28 = .ok (.iconst 1, 1) := by decide +kernel
theorem dX12_brings_29 : decode cX12_brings 29 = .ok (.iadd, 1) := by decide +kernel
theorem dX12_brings_30 : decode cX12_brings 30 = .ok (.iload_n 2, 1) := by decide +kernel
theorem dX12_brings_31 : decode cX12_brings 31 = .ok (.iastore, 1) := by decide +kernel
theorem dX12_brings_32 : decode cX12_brings 32 = .ok (.aload_n 0, 1) := by decide +kernel
theorem dX12_brings_33 : decode cX12_brings 33 = .ok (.getfield 7, 3) := by decide +kernel
theorem dX12_brings_36 : decode cX12_brings 36 = .ok (.iload 4, 2) := by decide +kernel
theorem dX12_brings_38 : decode cX12_brings 38 = .ok (.iconst 2, 1) := by decide +kernel
theorem dX12_brings_39 : decode cX12_brings 39 = .ok (.iadd, 1) := by decide +kernel
theorem dX12_brings_40 : decode cX12_brings 40 = .ok (.iload_n 3, 1) := by decide +kernel
theorem dX12_brings_41 : decode cX12_brings 41 = .ok (.iastore, 1) := by decide +kernel
theorem dX12_brings_42 : decode cX12_brings 42 = .ok (.aload_n 0, 1) := by decide +kernel
theorem dX12_brings_43 : decode cX12_brings 43 = .ok (.getfield 7, 3) := by decide +kernel
theorem dX12_brings_46 : decode cX12_brings 46 = .ok (.bipush 7, 2) := by decide +kernel
theorem dX12_brings_48 : decode cX12_brings 48 = .ok (.dup2, 1) := by decide +kernel
theorem dX12_brings_49 : decode cX12_brings 49 = .ok (.iaload, 1) := by decide +kernel
theorem dX12_brings_50 : decode cX12_brings 50 = .ok (.iconst 1, 1) := by decide +kernel
theorem dX12_brings_51 : decode cX12_brings 51 = .ok (.iadd, 1) := by decide +kernel
theorem dX12_brings_52 : decode cX12_brings 52 = .ok (.iastore, 1) := by decide +kernel
theorem dX12_brings_53 : decode cX12_brings 53 = .ok (.aload_n 0, 1) := by decide +kernel
theorem dX12_brings_54 : decode cX12_brings 54 = .ok (.getfield 7, 3) := by decide +kernel
theorem dX12_brings_57 : decode cX12_brings 57 = .ok (.bipush 7, 2) := by decide +kernel
theorem dX12_brings_59 : decode cX12_brings 59 = .ok (.iaload, 1) := by decide +kernel
theorem dX12_brings_60 : decode cX12_brings 60 = .ok (.iconst 1, 1) := by decide +kernel
theorem dX12_brings_61 : decode cX12_brings 61 = .ok (.isub, 1) := by decide +kernel
theorem dX12_brings_62 : decode cX12_brings 62 = .ok (.ireturn, 1) := by decide +kernel
theorem dX12_bring_0 : decode cX12_bring 0 = .ok (.aload_n 0, 1) := by decide +kernel
theorem dX12_bring_1 : decode cX12_bring 1 = .ok (.aload_n 0, 1) := by decide +kernel
theorem dX12_bring_2 : decode cX12_bring 2 = .ok (.iload_n 1, 1) := by decide +kernel
theorem dX12_bring_3 : decode cX12_bring 3 = .ok (.iload_n 2, 1) := by decide +kernel
theorem dX12_bring_4 : decode cX12_bring 4 = .ok (.iload_n 3, 1) := by decide +kernel
theorem dX12_bring_5 : decode cX12_bring 5 = .ok (.invokevirtual 83, 3) := by decide +kernel
theorem dX12_bring_8 : decode cX12_bring 8 = .ok (.invokevirtual 35, 3) := by decide +kernel
theorem dX12_bring_11 : decode cX12_bring 11 = .ok (.ifCond .eq 5, 3) := by decide +kernel
theorem dX12_bring_14 : decode cX12_bring 14 = .ok (.iconst 0, 1) := by decide +kernel
theorem dX12_bring_15 : decode cX12_bring 15 = .ok (.ireturn, 1) := by decide +kernel
theorem dX12_bring_16 : decode cX12_bring 16 = .ok (.aload_n 0, 1) := by decide +kernel
theorem dX12_bring_17 : decode cX12_bring 17 = .ok (.invokevirtual 63, 3) := by decide +kernel
theorem dX12_bring_20 : decode cX12_bring 20 = .ok (.aload_n 0, 1) := by decide +kernel
theorem dX12_bring_21 : decode cX12_bring 21 = .ok (.iload_n 1, 1) := by decide +kernel
theorem dX12_bring_22 : decode cX12_bring 22 = .ok (.iload_n 2, 1) := by decide +kernel
theorem dX12_bring_23 : decode cX12_bring 23 = .ok (.iload_n 3, 1) := by decide +kernel
theorem dX12_bring_24 : decode cX12_bring 24 = .ok (.invokevirtual 87, 3) := by decide +kernel
theorem dX12_bring_27 : decode cX12_bring 27 = .ok (.ireturn, 1) := by decide +kernel
theorem dX12_dropsBatch_0 : decode cX12_dropsBatch 0 = .ok (.aload_n 0, 1) := by decide +kernel
theorem dX12_dropsBatch_1 : decode cX12_dropsBatch 1 = .ok (.getfield 7, 3) := by decide +kernel
theorem dX12_dropsBatch_4 : decode cX12_dropsBatch 4 = .ok (.bipush 7, 2) := by decide +kernel
theorem dX12_dropsBatch_6 : decode cX12_dropsBatch 6 = .ok (.dup2, 1) := by decide +kernel
theorem dX12_dropsBatch_7 : decode cX12_dropsBatch 7 = .ok (.iaload, 1) := by decide +kernel
theorem dX12_dropsBatch_8 : decode cX12_dropsBatch 8 = .ok (.iconst 1, 1) := by decide +kernel
theorem dX12_dropsBatch_9 : decode cX12_dropsBatch 9 = .ok (.isub, 1) := by decide +kernel
theorem dX12_dropsBatch_10 : decode cX12_dropsBatch 10 = .ok (.iastore, 1) := by decide +kernel
theorem dX12_dropsBatch_11 : decode cX12_dropsBatch 11 = .ok (.bipush 41, 2) := by decide +kernel
theorem dX12_dropsBatch_13 : decode cX12_dropsBatch 13 = .ok (.iconst 3, 1) := by decide +kernel
theorem dX12_dropsBatch_14 : decode cX12_dropsBatch 14 = .ok (.iload_n 1, 1) := by decide +kernel
theorem dX12_dropsBatch_15 : decode cX12_dropsBatch 15 = .ok (.imul, 1) := by decide +kernel
theorem dX12_dropsBatch_16 : decode cX12_dropsBatch 16 = .ok (.iadd, 1) := by decide +kernel
theorem dX12_dropsBatch_17 : decode cX12_dropsBatch 17 = .ok (.istore_n 2, 1) := by decide +kernel
theorem dX12_dropsBatch_18 : decode cX12_dropsBatch 18 = .ok (.iload_n 2, 1) := by decide +kernel
theorem dX12_dropsBatch_19 : decode cX12_dropsBatch 19 = .ok (.bipush 41, 2) := by decide +kernel
theorem dX12_dropsBatch_21 : decode cX12_dropsBatch 21 = .ok (.iconst 3, 1) := by decide +kernel
theorem dX12_dropsBatch_22 : decode cX12_dropsBatch 22 = .ok (.aload_n 0, 1) := by decide +kernel
theorem dX12_dropsBatch_23 : decode cX12_dropsBatch 23 = .ok (.getfield 7, 3) := by decide +kernel
theorem dX12_dropsBatch_26 : decode cX12_dropsBatch 26 = .ok (.bipush 7, 2) := by decide +kernel
theorem dX12_dropsBatch_28 : decode cX12_dropsBatch 28 = .ok (.iaload, 1) := by decide +kernel
theorem dX12_dropsBatch_29 : decode cX12_dropsBatch 29 = .ok (.imul, 1) := by decide +kernel
theorem dX12_dropsBatch_30 : decode cX12_dropsBatch 30 = .ok (.iadd, 1) := by decide +kernel
theorem dX12_dropsBatch_31 : decode cX12_dropsBatch 31 = .ok (.if_icmp .ge 23, 3) := by decide +kernel
theorem dX12_dropsBatch_34 : decode cX12_dropsBatch 34 = .ok (.aload_n 0, 1) := by decide +kernel
theorem dX12_dropsBatch_35 : decode cX12_dropsBatch 35 = .ok (.getfield 7, 3) := by decide +kernel
theorem dX12_dropsBatch_38 : decode cX12_dropsBatch 38 = .ok (.iload_n 2, 1) := by decide +kernel
theorem dX12_dropsBatch_39 : decode cX12_dropsBatch 39 = .ok (.aload_n 0, 1) := by decide +kernel
theorem dX12_dropsBatch_40 : decode cX12_dropsBatch 40 = .ok (.getfield 7, 3) := by decide +kernel
theorem dX12_dropsBatch_43 : decode cX12_dropsBatch 43 = .ok (.iload_n 2, 1) := by decide +kernel
theorem dX12_dropsBatch_44 : decode cX12_dropsBatch 44 = .ok (.iconst 3, 1) := by decide +kernel
theorem dX12_dropsBatch_45 : decode cX12_dropsBatch 45 = .ok (.iadd, 1) := by decide +kernel
theorem dX12_dropsBatch_46 : decode cX12_dropsBatch 46 = .ok (.iaload, 1) := by decide +kernel
theorem dX12_dropsBatch_47 : decode cX12_dropsBatch 47 = .ok (.iastore, 1) := by decide +kernel
theorem dX12_dropsBatch_48 : decode cX12_dropsBatch 48 = .ok (.iinc 2 1, 3) := by decide +kernel
theorem dX12_dropsBatch_51 : decode cX12_dropsBatch 51 = .ok (.goto (-33), 3) := by decide +kernel
theorem dX12_dropsBatch_54 : decode cX12_dropsBatch 54 = .ok (.return_, 1) := by decide +kernel
theorem dX12_takeBack_0 : decode cX12_takeBack 0 = .ok (.aload_n 0, 1) := by decide +kernel
theorem dX12_takeBack_1 : decode cX12_takeBack 1 = .ok (.iload_n 1, 1) := by decide +kernel
theorem dX12_takeBack_2 : decode cX12_takeBack 2 = .ok (.iconst 0, 1) := by decide +kernel
theorem dX12_takeBack_3 : decode cX12_takeBack 3 = .ok (.aload_n 0, 1) := by decide +kernel
theorem dX12_takeBack_4 : decode cX12_takeBack 4 = .ok (.getfield 7, 3) := by decide +kernel
theorem dX12_takeBack_7 : decode cX12_takeBack 7 = .ok (.bipush 7, 2) := by decide +kernel
theorem dX12_takeBack_9 : decode cX12_takeBack 9 = .ok (.iaload, 1) := by decide +kernel
theorem dX12_takeBack_10 : decode cX12_takeBack 10 = .ok (.iconst 1, 1) := by decide +kernel
theorem dX12_takeBack_11 : decode cX12_takeBack 11 = .ok (.isub, 1) := by decide +kernel
theorem dX12_takeBack_12 : decode cX12_takeBack 12 = .ok (.invokestatic 39, 3) := by decide +kernel
theorem dX12_takeBack_15 : decode cX12_takeBack 15 = .ok (.ifCond .eq 7, 3) := by decide +kernel
theorem dX12_takeBack_18 : decode cX12_takeBack 18 = .ok (.iconst 0, 1) := by decide +kernel
theorem dX12_takeBack_19 : decode cX12_takeBack 19 = .ok (.goto 4, 3) := by decide +kernel
theorem dX12_takeBack_22 : decode cX12_takeBack 22 = .ok (.iconst 1, 1) := by decide +kernel
theorem dX12_takeBack_23 : decode cX12_takeBack 23 = .ok (.invokevirtual 35, 3) := by decide +kernel
theorem dX12_takeBack_26 : decode cX12_takeBack 26 = .ok (.ifCond .eq 5, 3) := by decide +kernel
theorem dX12_takeBack_29 : decode cX12_takeBack 29 = .ok (.iconst 0, 1) := by decide +kernel
theorem dX12_takeBack_30 : decode cX12_takeBack 30 = .ok (.ireturn, 1) := by decide +kernel
theorem dX12_takeBack_31 : decode cX12_takeBack 31 = .ok (.aload_n 0, 1) := by decide +kernel
theorem dX12_takeBack_32 : decode cX12_takeBack 32 = .ok (.invokevirtual 63, 3) := by decide +kernel
theorem dX12_takeBack_35 : decode cX12_takeBack 35 = .ok (.aload_n 0, 1) := by decide +kernel
theorem dX12_takeBack_36 : decode cX12_takeBack 36 = .ok (.getfield 7, 3) := by decide +kernel
theorem dX12_takeBack_39 : decode cX12_takeBack 39 = .ok (.bipush 41, 2) := by decide +kernel
theorem dX12_takeBack_41 : decode cX12_takeBack 41 = .ok (.iconst 3, 1) := by decide +kernel
theorem dX12_takeBack_42 : decode cX12_takeBack 42 = .ok (.iload_n 1, 1) := by decide +kernel
theorem dX12_takeBack_43 : decode cX12_takeBack 43 = .ok (.imul, 1) := by decide +kernel
theorem dX12_takeBack_44 : decode cX12_takeBack 44 = .ok (.iadd, 1) := by decide +kernel
theorem dX12_takeBack_45 : decode cX12_takeBack 45 = .ok (.iconst 2, 1) := by decide +kernel
theorem dX12_takeBack_46 : decode cX12_takeBack 46 = .ok (.iadd, 1) := by decide +kernel
theorem dX12_takeBack_47 : decode cX12_takeBack 47 = .ok (.iaload, 1) := by decide +kernel
theorem dX12_takeBack_48 : decode cX12_takeBack 48 = .ok (.istore_n 2, 1) := by decide +kernel
theorem dX12_takeBack_49 : decode cX12_takeBack 49 = .ok (.aload_n 0, 1) := by decide +kernel
theorem dX12_takeBack_50 : decode cX12_takeBack 50 = .ok (.iload_n 1, 1) := by decide +kernel
theorem dX12_takeBack_51 : decode cX12_takeBack 51 = .ok (.invokevirtual 90, 3) := by decide +kernel
theorem dX12_takeBack_54 : decode cX12_takeBack 54 = .ok (.iload_n 2, 1) := by decide +kernel
theorem dX12_takeBack_55 : decode cX12_takeBack 55 = .ok (.ireturn, 1) := by decide +kernel
theorem dX12_setS_0 : decode cX12_setS 0 = .ok (.aload_n 0, 1) := by decide +kernel
theorem dX12_setS_1 : decode cX12_setS 1 = .ok (.iload_n 1, 1) := by decide +kernel
theorem dX12_setS_2 : decode cX12_setS 2 = .ok (.ifCond .ge 7, 3) := by decide +kernel
theorem dX12_setS_5 : decode cX12_setS 5 = .ok (.iconst 1, 1) := by decide +kernel
theorem dX12_setS_6 : decode cX12_setS 6 = .ok (.goto 4, 3) := by decide +kernel
theorem dX12_setS_9 : decode cX12_setS 9 = .ok (.iconst 0, 1) := by decide +kernel
theorem dX12_setS_10 : decode cX12_setS 10 = .ok (.invokevirtual 35, 3) := by decide +kernel
theorem dX12_setS_13 : decode cX12_setS 13 = .ok (.ifCond .eq 5, 3) := by decide +kernel
theorem dX12_setS_16 : decode cX12_setS 16 = .ok (.iconst 0, 1) := by decide +kernel
theorem dX12_setS_17 : decode cX12_setS 17 = .ok (.ireturn, 1) := by decide +kernel
theorem dX12_setS_18 : decode cX12_setS 18 = .ok (.aload_n 0, 1) := by decide +kernel
theorem dX12_setS_19 : decode cX12_setS 19 = .ok (.invokevirtual 63, 3) := by decide +kernel
theorem dX12_setS_22 : decode cX12_setS 22 = .ok (.aload_n 0, 1) := by decide +kernel
theorem dX12_setS_23 : decode cX12_setS 23 = .ok (.getfield 7, 3) := by decide +kernel
theorem dX12_setS_26 : decode cX12_setS 26 = .ok (.iconst 1, 1) := by decide +kernel
theorem dX12_setS_27 : decode cX12_setS 27 = .ok (.iaload, 1) := by decide +kernel
theorem dX12_setS_28 : decode cX12_setS 28 = .ok (.istore_n 2, 1) := by decide +kernel
theorem dX12_setS_29 : decode cX12_setS 29 = .ok (.aload_n 0, 1) := by decide +kernel
theorem dX12_setS_30 : decode cX12_setS 30 = .ok (.getfield 7, 3) := by decide +kernel
theorem dX12_setS_33 : decode cX12_setS 33 = .ok (.iconst 1, 1) := by decide +kernel
theorem dX12_setS_34 : decode cX12_setS 34 = .ok (.iload_n 1, 1) := by decide +kernel
theorem dX12_setS_35 : decode cX12_setS 35 = .ok (.iastore, 1) := by decide +kernel
theorem dX12_setS_36 : decode cX12_setS 36 = .ok (.iload_n 2, 1) := by decide +kernel
theorem dX12_setS_37 : decode cX12_setS 37 = .ok (.ireturn, 1) := by decide +kernel
theorem dX12_draw_0 : decode cX12_draw 0 = .ok (.aload_n 0, 1) := by decide +kernel
theorem dX12_draw_1 : decode cX12_draw 1 = .ok (.getfield 7, 3) := by decide +kernel
theorem dX12_draw_4 : decode cX12_draw 4 = .ok (.iconst 1, 1) := by decide +kernel
theorem dX12_draw_5 : decode cX12_draw 5 = .ok (.ldc2_w 94, 3) := by decide +kernel
theorem dX12_draw_8 : decode cX12_draw 8 = .ok (.aload_n 0, 1) := by decide +kernel
theorem dX12_draw_9 : decode cX12_draw 9 = .ok (.getfield 7, 3) := by decide +kernel
theorem dX12_draw_12 : decode cX12_draw 12 = .ok (.iconst 1, 1) := by decide +kernel
theorem dX12_draw_13 : decode cX12_draw 13 = .ok (.iaload, 1) := by decide +kernel
theorem dX12_draw_14 : decode cX12_draw 14 = .ok (.i2l, 1) := by decide +kernel
theorem dX12_draw_15 : decode cX12_draw 15 = .ok (.lmul, 1) := by decide +kernel
theorem dX12_draw_16 : decode cX12_draw 16 = .ok (.ldc2_w 96, 3) := by decide +kernel
theorem dX12_draw_19 : decode cX12_draw 19 = .ok (.ladd, 1) := by decide +kernel
theorem dX12_draw_20 : decode cX12_draw 20 = .ok (.ldc2_w 98, 3) := by decide +kernel
theorem dX12_draw_23 : decode cX12_draw 23 = .ok (.lrem, 1) := by decide +kernel
theorem dX12_draw_24 : decode cX12_draw 24 = .ok (.l2i, 1) := by decide +kernel
theorem dX12_draw_25 : decode cX12_draw 25 = .ok (.iastore, 1) := by decide +kernel
theorem dX12_draw_26 : decode cX12_draw 26 = .ok (.aload_n 0, 1) := by decide +kernel
theorem dX12_draw_27 : decode cX12_draw 27 = .ok (.getfield 7, 3) := by decide +kernel
theorem dX12_draw_30 : decode cX12_draw 30 = .ok (.iconst 1, 1) := by decide +kernel
theorem dX12_draw_31 : decode cX12_draw 31 = .ok (.iaload, 1) := by decide +kernel
theorem dX12_draw_32 : decode cX12_draw 32 = .ok (.ldc 100, 2) := by decide +kernel
theorem dX12_draw_34 : decode cX12_draw 34 = .ok (.idiv, 1) := by decide +kernel
theorem dX12_draw_35 : decode cX12_draw 35 = .ok (.iload_n 1, 1) := by decide +kernel
theorem dX12_draw_36 : decode cX12_draw 36 = .ok (.irem, 1) := by decide +kernel
theorem dX12_draw_37 : decode cX12_draw 37 = .ok (.ireturn, 1) := by decide +kernel
theorem dX12_loafAt_0 : decode cX12_loafAt 0 = .ok (.sipush 201, 3) := by decide +kernel
theorem dX12_loafAt_3 : decode cX12_loafAt 3 = .ok (.bipush 7, 2) := by decide +kernel
theorem dX12_loafAt_5 : decode cX12_loafAt 5 = .ok (.iload_n 0, 1) := by decide +kernel
theorem dX12_loafAt_6 : decode cX12_loafAt 6 = .ok (.sipush 200, 3) := by decide +kernel
theorem dX12_loafAt_9 : decode cX12_loafAt 9 = .ok (.irem, 1) := by decide +kernel
theorem dX12_loafAt_10 : decode cX12_loafAt 10 = .ok (.imul, 1) := by decide +kernel
theorem dX12_loafAt_11 : decode cX12_loafAt 11 = .ok (.iadd, 1) := by decide +kernel
theorem dX12_loafAt_12 : decode cX12_loafAt 12 = .ok (.ireturn, 1) := by decide +kernel
theorem dX12_firstKept_0 : decode cX12_firstKept 0 = .ok (.aload_n 0, 1) := by decide +kernel
theorem dX12_firstKept_1 : decode cX12_firstKept 1 = .ok (.getfield 7, 3) := by decide +kernel
theorem dX12_firstKept_4 : decode cX12_firstKept 4 = .ok (.iconst 5, 1) := by decide +kernel
theorem dX12_firstKept_5 : decode cX12_firstKept 5 = .ok (.iaload, 1) := by decide +kernel
theorem dX12_firstKept_6 : decode cX12_firstKept 6 = .ok (.sipush 200, 3) := by decide +kernel
theorem dX12_firstKept_9 : decode cX12_firstKept 9 = .ok (.if_icmp .le 16, 3) := by decide +kernel
theorem dX12_firstKept_12 : decode cX12_firstKept 12 = .ok (.aload_n 0, 1) := by decide +kernel
theorem dX12_firstKept_13 : decode cX12_firstKept 13 = .ok (.getfield 7, 3) := by decide +kernel
theorem dX12_firstKept_16 : decode cX12_firstKept 16 = .ok (.iconst 5, 1) := by decide +kernel
theorem dX12_firstKept_17 : decode cX12_firstKept 17 = .ok (.iaload, 1) := by decide +kernel
theorem dX12_firstKept_18 : decode cX12_firstKept 18 = .ok (.sipush 200, 3) := by decide +kernel
theorem dX12_firstKept_21 : decode cX12_firstKept 21 = .ok (.isub, 1) := by decide +kernel
theorem dX12_firstKept_22 : decode cX12_firstKept 22 = .ok (.goto 4, 3) := by decide +kernel
theorem dX12_firstKept_25 : decode cX12_firstKept 25 = .ok (.iconst 0, 1) := by decide +kernel
theorem dX12_firstKept_26 : decode cX12_firstKept 26 = .ok (.ireturn, 1) := by decide +kernel
theorem dX12_loafOf_0 : decode cX12_loafOf 0 = .ok (.aload_n 0, 1) := by decide +kernel
theorem dX12_loafOf_1 : decode cX12_loafOf 1 = .ok (.getfield 7, 3) := by decide +kernel
theorem dX12_loafOf_4 : decode cX12_loafOf 4 = .ok (.iload_n 1, 1) := by decide +kernel
theorem dX12_loafOf_5 : decode cX12_loafOf 5 = .ok (.invokestatic 101, 3) := by decide +kernel
theorem dX12_loafOf_8 : decode cX12_loafOf 8 = .ok (.iload_n 2, 1) := by decide +kernel
theorem dX12_loafOf_9 : decode cX12_loafOf 9 = .ok (.iadd, 1) := by decide +kernel
theorem dX12_loafOf_10 : decode cX12_loafOf 10 = .ok (.iaload, 1) := by decide +kernel
theorem dX12_loafOf_11 : decode cX12_loafOf 11 = .ok (.ireturn, 1) := by decide +kernel
theorem dX12_comesOut_0 : decode cX12_comesOut 0 = .ok (.aload_n 0, 1) := by decide +kernel
theorem dX12_comesOut_1 : decode cX12_comesOut 1 = .ok (.getfield 7, 3) := by decide +kernel
theorem dX12_comesOut_4 : decode cX12_comesOut 4 = .ok (.iconst 5, 1) := by decide +kernel
theorem dX12_comesOut_5 : decode cX12_comesOut 5 = .ok (.iaload, 1) := by decide +kernel
theorem dX12_comesOut_6 : decode cX12_comesOut 6 = .ok (.invokestatic 101, 3) := by decide +kernel
theorem dX12_comesOut_9 : decode cX12_comesOut 9 = .ok (.istore 4, 2) := by decide +kernel
theorem dX12_comesOut_11 : decode cX12_comesOut 11 = .ok (.aload_n 0, 1) := by decide +kernel
theorem dX12_comesOut_12 : decode cX12_comesOut 12 = .ok (.iload_n 1, 1) := by decide +kernel
theorem dX12_comesOut_13 : decode cX12_comesOut 13 = .ok (.iconst 0, 1) := by decide +kernel
theorem dX12_comesOut_14 : decode cX12_comesOut 14 = .ok (.invokevirtual 44, 3) := by decide +kernel
theorem dX12_comesOut_17 : decode cX12_comesOut 17 = .ok (.istore 5, 2) := by decide +kernel
theorem dX12_comesOut_19 : decode cX12_comesOut 19 = .ok (.aload_n 0, 1) := by decide +kernel
theorem dX12_comesOut_20 : decode cX12_comesOut 20 = .ok (.iconst 4, 1) := by decide +kernel
theorem dX12_comesOut_21 : decode cX12_comesOut 21 = .ok (.invokevirtual 104, 3) := by decide +kernel
theorem dX12_comesOut_24 : decode cX12_comesOut 24 = .ok (.istore 6, 2) := by decide +kernel
theorem dX12_comesOut_26 : decode cX12_comesOut 26 = .ok (.iconst 0, 1) := by decide +kernel
theorem dX12_comesOut_27 : decode cX12_comesOut 27 = .ok (.istore 7, 2) := by decide +kernel
theorem dX12_comesOut_29 : decode cX12_comesOut 29 = .ok (.iload 7, 2) := by decide +kernel
theorem dX12_comesOut_31 : decode cX12_comesOut 31 = .ok (.iload 6, 2) := by decide +kernel
theorem dX12_comesOut_33 : decode cX12_comesOut 33 = .ok (.if_icmp .ge 24, 3) := by decide +kernel
theorem dX12_comesOut_36 : decode cX12_comesOut 36 = .ok (.iload 5, 2) := by decide +kernel
theorem dX12_comesOut_38 : decode cX12_comesOut 38 = .ok (.iconst 1, 1) := by decide +kernel
theorem dX12_comesOut_39 : decode cX12_comesOut 39 = .ok (.aload_n 0, 1) := by decide +kernel
theorem dX12_comesOut_40 : decode cX12_comesOut 40 = .ok (.bipush 16, 2) := by decide +kernel
theorem dX12_comesOut_42 : decode cX12_comesOut 42 = .ok (.invokevirtual 104, 3) := by decide +kernel
theorem dX12_comesOut_45 : decode cX12_comesOut 45 = .ok (.ishl, 1) := by decide +kernel
theorem dX12_comesOut_46 : decode cX12_comesOut 46 = .ok (.iconst (-1), 1) := by decide +kernel
theorem dX12_comesOut_47 : decode cX12_comesOut 47 = .ok (.ixor, 1) := by decide +kernel
theorem dX12_comesOut_48 : decode cX12_comesOut 48 = .ok (.iand, 1) := by decide +kernel
theorem dX12_comesOut_49 : decode cX12_comesOut 49 = .ok (.istore 5, 2) := by decide +kernel
theorem dX12_comesOut_51 : decode cX12_comesOut 51 = .ok (.iinc 7 1, 3) := by decide +kernel
theorem dX12_comesOut_54 : decode cX12_comesOut 54 = .ok (.goto (-25), 3) := by decide +kernel
theorem dX12_comesOut_57 : decode cX12_comesOut 57 = .ok (.aload_n 0, 1) := by decide +kernel
theorem dX12_comesOut_58 : decode cX12_comesOut 58 = .ok (.getfield 7, 3) := by decide +kernel
theorem dX12_comesOut_61 : decode cX12_comesOut 61 = .ok (.iload 4, 2) := by decide +kernel
theorem dX12_comesOut_63 : decode cX12_comesOut 63 = .ok (.iconst 0, 1) := by decide +kernel
theorem dX12_comesOut_64 : decode cX12_comesOut 64 = .ok (.iadd, 1) := by decide +kernel
theorem dX12_comesOut_65 : decode cX12_comesOut 65 = .ok (.iload_n 1, 1) := by decide +kernel
theorem dX12_comesOut_66 : decode cX12_comesOut 66 = .ok (.iastore, 1) := by decide +kernel
theorem dX12_comesOut_67 : decode cX12_comesOut 67 = .ok (.aload_n 0, 1) := by decide +kernel
theorem dX12_comesOut_68 : decode cX12_comesOut 68 = .ok (.getfield 7, 3) := by decide +kernel
theorem dX12_comesOut_71 : decode cX12_comesOut 71 = .ok (.iload 4, 2) := by decide +kernel
theorem dX12_comesOut_73 : decode cX12_comesOut 73 = .ok (.iconst 1, 1) := by decide +kernel
theorem dX12_comesOut_74 : decode cX12_comesOut 74 = .ok (.iadd, 1) := by decide +kernel
theorem dX12_comesOut_75 : decode cX12_comesOut 75 = .ok (.iload_n 2, 1) := by decide +kernel
theorem dX12_comesOut_76 : decode cX12_comesOut 76 = .ok (.iastore, 1) := by decide +kernel
theorem dX12_comesOut_77 : decode cX12_comesOut 77 = .ok (.aload_n 0, 1) := by decide +kernel
theorem dX12_comesOut_78 : decode cX12_comesOut 78 = .ok (.getfield 7, 3) := by decide +kernel
theorem dX12_comesOut_81 : decode cX12_comesOut 81 = .ok (.iload 4, 2) := by decide +kernel
theorem dX12_comesOut_83 : decode cX12_comesOut 83 = .ok (.iconst 2, 1) := by decide +kernel
theorem dX12_comesOut_84 : decode cX12_comesOut 84 = .ok (.iadd, 1) := by decide +kernel
theorem dX12_comesOut_85 : decode cX12_comesOut 85 = .ok (.aload_n 0, 1) := by decide +kernel
theorem dX12_comesOut_86 : decode cX12_comesOut 86 = .ok (.getfield 7, 3) := by decide +kernel
theorem dX12_comesOut_89 : decode cX12_comesOut 89 = .ok (.iconst 3, 1) := by decide +kernel
theorem dX12_comesOut_90 : decode cX12_comesOut 90 = .ok (.iaload, 1) := by decide +kernel
theorem dX12_comesOut_91 : decode cX12_comesOut 91 = .ok (.iastore, 1) := by decide +kernel
theorem dX12_comesOut_92 : decode cX12_comesOut 92 = .ok (.aload_n 0, 1) := by decide +kernel
theorem dX12_comesOut_93 : decode cX12_comesOut 93 = .ok (.getfield 7, 3) := by decide +kernel
theorem dX12_comesOut_96 : decode cX12_comesOut 96 = .ok (.iload 4, 2) := by decide +kernel
theorem dX12_comesOut_98 : decode cX12_comesOut 98 = .ok (.iconst 3, 1) := by decide +kernel
theorem dX12_comesOut_99 : decode cX12_comesOut 99 = .ok (.iadd, 1) := by decide +kernel
theorem dX12_comesOut_100 : decode cX12_comesOut 100 = .ok (.iload_n 3, 1) := by decide +kernel
theorem dX12_comesOut_101 : decode cX12_comesOut 101 = .ok (.ifCond .eq 7, 3) := by decide +kernel
theorem dX12_comesOut_104 : decode cX12_comesOut 104 = .ok (.iconst 1, 1) := by decide +kernel
theorem dX12_comesOut_105 : decode cX12_comesOut 105 = .ok (.goto 4, 3) := by decide +kernel
theorem dX12_comesOut_108 : decode cX12_comesOut 108 = .ok (.iconst 0, 1) := by decide +kernel
theorem dX12_comesOut_109 : decode cX12_comesOut 109 = .ok (.iastore, 1) := by decide +kernel
theorem dX12_comesOut_110 : decode cX12_comesOut 110 = .ok (.aload_n 0, 1) := by decide +kernel
theorem dX12_comesOut_111 : decode cX12_comesOut 111 = .ok (.getfield 7, 3) := by decide +kernel
theorem dX12_comesOut_114 : decode cX12_comesOut 114 = .ok (.iload 4, 2) := by decide +kernel
theorem dX12_comesOut_116 : decode cX12_comesOut 116 = .ok (.iconst 4, 1) := by decide +kernel
theorem dX12_comesOut_117 : decode cX12_comesOut 117 = .ok (.iadd, 1) := by decide +kernel
theorem dX12_comesOut_118 : decode cX12_comesOut 118 = .ok (.iload 5, 2) := by decide +kernel
theorem dX12_comesOut_120 : decode cX12_comesOut 120 = .ok (.iastore, 1) := by decide +kernel
theorem dX12_comesOut_121 : decode cX12_comesOut 121 = .ok (.aload_n 0, 1) := by decide +kernel
theorem dX12_comesOut_122 : decode cX12_comesOut 122 = .ok (.getfield 7, 3) := by decide +kernel
theorem dX12_comesOut_125 : decode cX12_comesOut 125 = .ok (.iload 4, 2) := by decide +kernel
theorem dX12_comesOut_127 : decode cX12_comesOut 127 = .ok (.iconst 5, 1) := by decide +kernel
theorem dX12_comesOut_128 : decode cX12_comesOut 128 = .ok (.iadd, 1) := by decide +kernel
theorem dX12_comesOut_129 : decode cX12_comesOut 129 = .ok (.iconst (-1), 1) := by decide +kernel
theorem dX12_comesOut_130 : decode cX12_comesOut 130 = .ok (.iastore, 1) := by decide +kernel
theorem dX12_comesOut_131 : decode cX12_comesOut 131 = .ok (.aload_n 0, 1) := by decide +kernel
theorem dX12_comesOut_132 : decode cX12_comesOut 132 = .ok (.getfield 7, 3) := by decide +kernel
theorem dX12_comesOut_135 : decode cX12_comesOut 135 = .ok (.iload 4, 2) := by decide +kernel
theorem dX12_comesOut_137 : decode cX12_comesOut 137 = .ok (.bipush 6, 2) := by decide +kernel
theorem dX12_comesOut_139 : decode cX12_comesOut 139 = .ok (.iadd, 1) := by decide +kernel
theorem dX12_comesOut_140 : decode cX12_comesOut 140 = .ok (.aload_n 0, 1) := by decide +kernel
theorem dX12_comesOut_141 : decode cX12_comesOut 141 = .ok (.iload_n 1, 1) := by decide +kernel
theorem dX12_comesOut_142 : decode cX12_comesOut 142 = .ok (.iconst 0, 1) := by decide +kernel
theorem dX12_comesOut_143 : decode cX12_comesOut 143 = .ok (.invokevirtual 44, 3) := by decide +kernel
theorem dX12_comesOut_146 : decode cX12_comesOut 146 = .ok (.invokestatic 107, 3) := by decide +kernel
theorem dX12_comesOut_149 : decode cX12_comesOut 149 = .ok (.iload 5, 2) := by decide +kernel
theorem dX12_comesOut_151 : decode cX12_comesOut 151 = .ok (.invokestatic 107, 3) := by decide +kernel
theorem dX12_comesOut_154 : decode cX12_comesOut 154 = .ok (.isub, 1) := by decide +kernel
theorem dX12_comesOut_155 : decode cX12_comesOut 155 = .ok (.iastore, 1) := by decide +kernel
theorem dX12_comesOut_156 : decode cX12_comesOut 156 = .ok (.aload_n 0, 1) := by decide +kernel
theorem dX12_comesOut_157 : decode cX12_comesOut 157 = .ok (.getfield 7, 3) := by decide +kernel
theorem dX12_comesOut_160 : decode cX12_comesOut 160 = .ok (.iconst 5, 1) := by decide +kernel
theorem dX12_comesOut_161 : decode cX12_comesOut 161 = .ok (.dup2, 1) := by decide +kernel
theorem dX12_comesOut_162 : decode cX12_comesOut 162 = .ok (.iaload, 1) := by decide +kernel
theorem dX12_comesOut_163 : decode cX12_comesOut 163 = .ok (.iconst 1, 1) := by decide +kernel
theorem dX12_comesOut_164 : decode cX12_comesOut 164 = .ok (.iadd, 1) := by decide +kernel
theorem dX12_comesOut_165 : decode cX12_comesOut 165 = .ok (.iastore, 1) := by decide +kernel
theorem dX12_comesOut_166 : decode cX12_comesOut 166 = .ok (.aload_n 0, 1) := by decide +kernel
theorem dX12_comesOut_167 : decode cX12_comesOut 167 = .ok (.getfield 7, 3) := by decide +kernel
theorem dX12_comesOut_170 : decode cX12_comesOut 170 = .ok (.bipush 6, 2) := by decide +kernel
theorem dX12_comesOut_172 : decode cX12_comesOut 172 = .ok (.dup2, 1) := by decide +kernel
theorem dX12_comesOut_173 : decode cX12_comesOut 173 = .ok (.iaload, 1) := by decide +kernel
theorem dX12_comesOut_174 : decode cX12_comesOut 174 = .ok (.iload_n 3, 1) := by decide +kernel
theorem dX12_comesOut_175 : decode cX12_comesOut 175 = .ok (.ifCond .eq 7, 3) := by decide +kernel
theorem dX12_comesOut_178 : decode cX12_comesOut 178 = .ok (.iconst 1, 1) := by decide +kernel
theorem dX12_comesOut_179 : decode cX12_comesOut 179 = .ok (.goto 4, 3) := by decide +kernel
theorem dX12_comesOut_182 : decode cX12_comesOut 182 = .ok (.iconst 0, 1) := by decide +kernel
theorem dX12_comesOut_183 : decode cX12_comesOut 183 = .ok (.iadd, 1) := by decide +kernel
theorem dX12_comesOut_184 : decode cX12_comesOut 184 = .ok (.iastore, 1) := by decide +kernel
theorem dX12_comesOut_185 : decode cX12_comesOut 185 = .ok (.return_, 1) := by decide +kernel
theorem dX12_meant_0 : decode cX12_meant 0 = .ok (.iconst (-1), 1) := by decide +kernel
theorem dX12_meant_1 : decode cX12_meant 1 = .ok (.istore_n 3, 1) := by decide +kernel
theorem dX12_meant_2 : decode cX12_meant 2 = .ok (.bipush 99, 2) := by decide +kernel
theorem dX12_meant_4 : decode cX12_meant 4 = .ok (.istore 4, 2) := by decide +kernel
theorem dX12_meant_6 : decode cX12_meant 6 = .ok (.iconst 0, 1) := by decide +kernel
theorem dX12_meant_7 : decode cX12_meant 7 = .ok (.istore 5, 2) := by decide +kernel
theorem dX12_meant_9 : decode cX12_meant 9 = .ok (.iconst 0, 1) := by decide +kernel
theorem dX12_meant_10 : decode cX12_meant 10 = .ok (.istore 6, 2) := by decide +kernel
theorem dX12_meant_12 : decode cX12_meant 12 = .ok (.iload 6, 2) := by decide +kernel
theorem dX12_meant_14 : decode cX12_meant 14 = .ok (.aload_n 0, 1) := by decide +kernel
theorem dX12_meant_15 : decode cX12_meant 15 = .ok (.getfield 7, 3) := by decide +kernel
theorem dX12_meant_18 : decode cX12_meant 18 = .ok (.iconst 0, 1) := by decide +kernel
theorem dX12_meant_19 : decode cX12_meant 19 = .ok (.iaload, 1) := by decide +kernel
theorem dX12_meant_20 : decode cX12_meant 20 = .ok (.if_icmp .ge 104, 3) := by decide +kernel
theorem dX12_meant_23 : decode cX12_meant 23 = .ok (.aload_n 0, 1) := by decide +kernel
theorem dX12_meant_24 : decode cX12_meant 24 = .ok (.iload 6, 2) := by decide +kernel
theorem dX12_meant_26 : decode cX12_meant 26 = .ok (.iconst 0, 1) := by decide +kernel
theorem dX12_meant_27 : decode cX12_meant 27 = .ok (.invokevirtual 44, 3) := by decide +kernel
theorem dX12_meant_30 : decode cX12_meant 30 = .ok (.istore 7, 2) := by decide +kernel
theorem dX12_meant_32 : decode cX12_meant 32 = .ok (.iload_n 2, 1) := by decide +kernel
theorem dX12_meant_33 : decode cX12_meant 33 = .ok (.iload 6, 2) := by decide +kernel
theorem dX12_meant_35 : decode cX12_meant 35 = .ok (.ishr, 1) := by decide +kernel
theorem dX12_meant_36 : decode cX12_meant 36 = .ok (.iconst 1, 1) := by decide +kernel
theorem dX12_meant_37 : decode cX12_meant 37 = .ok (.iand, 1) := by decide +kernel
theorem dX12_meant_38 : decode cX12_meant 38 = .ok (.iconst 1, 1) := by decide +kernel
theorem dX12_meant_39 : decode cX12_meant 39 = .ok (.if_icmp .ne 79, 3) := by decide +kernel
theorem dX12_meant_42 : decode cX12_meant 42 = .ok (.iload_n 1, 1) := by decide +kernel
theorem dX12_meant_43 : decode cX12_meant 43 = .ok (.iload 7, 2) := by decide +kernel
theorem dX12_meant_45 : decode cX12_meant 45 = .ok (.iconst (-1), 1) := by decide +kernel
theorem dX12_meant_46 : decode cX12_meant 46 = .ok (.ixor, 1) := by decide +kernel
theorem dX12_meant_47 : decode cX12_meant 47 = .ok (.iand, 1) := by decide +kernel
theorem dX12_meant_48 : decode cX12_meant 48 = .ok (.ifCond .ne 70, 3) := by decide +kernel
theorem dX12_meant_51 : decode cX12_meant 51 = .ok (.iload 7, 2) := by decide +kernel
theorem dX12_meant_53 : decode cX12_meant 53 = .ok (.iload_n 1, 1) := by decide +kernel
theorem dX12_meant_54 : decode cX12_meant 54 = .ok (.iconst (-1), 1) := by decide +kernel
theorem dX12_meant_55 : decode cX12_meant 55 = .ok (.ixor, 1) := by decide +kernel
theorem dX12_meant_56 : decode cX12_meant 56 = .ok (.iand, 1) := by decide +kernel
theorem dX12_meant_57 : decode cX12_meant 57 = .ok (.invokestatic 107, 3) := by decide +kernel
theorem dX12_meant_60 : decode cX12_meant 60 = .ok (.istore 8, 2) := by decide +kernel
theorem dX12_meant_62 : decode cX12_meant 62 = .ok (.iload 8, 2) := by decide +kernel
theorem dX12_meant_64 : decode cX12_meant 64 = .ok (.iload 4, 2) := by decide +kernel
theorem dX12_meant_66 : decode cX12_meant 66 = .ok (.if_icmp .lt 15, 3) := by decide +kernel
theorem dX12_meant_69 : decode cX12_meant 69 = .ok (.iload 5, 2) := by decide +kernel
theorem dX12_meant_71 : decode cX12_meant 71 = .ok (.ifCond .eq 14, 3) := by decide +kernel
theorem dX12_meant_74 : decode cX12_meant 74 = .ok (.iload 8, 2) := by decide +kernel
theorem dX12_meant_76 : decode cX12_meant 76 = .ok (.iload 4, 2) := by decide +kernel
theorem dX12_meant_78 : decode cX12_meant 78 = .ok (.if_icmp .le 7, 3) := by decide +kernel
theorem dX12_meant_81 : decode cX12_meant 81 = .ok (.iconst 1, 1) := by decide +kernel
theorem dX12_meant_82 : decode cX12_meant 82 = .ok (.goto 4, 3) := by decide +kernel
theorem dX12_meant_85 : decode cX12_meant 85 = .ok (.iconst 0, 1) := by decide +kernel
theorem dX12_meant_86 : decode cX12_meant 86 = .ok (.istore 5, 2) := by decide +kernel
theorem dX12_meant_88 : decode cX12_meant 88 = .ok (.iload 8, 2) := by decide +kernel
theorem dX12_meant_90 : decode cX12_meant 90 = .ok (.iload 4, 2) := by decide +kernel
theorem dX12_meant_92 : decode cX12_meant 92 = .ok (.if_icmp .ge 8, 3) := by decide +kernel
theorem dX12_meant_95 : decode cX12_meant 95 = .ok (.iload 6, 2) := by decide +kernel
theorem dX12_meant_97 : decode cX12_meant 97 = .ok (.goto 4, 3) := by decide +kernel
theorem dX12_meant_100 : decode cX12_meant 100 = .ok (.iload_n 3, 1) := by decide +kernel
theorem dX12_meant_101 : decode cX12_meant 101 = .ok (.istore_n 3, 1) := by decide +kernel
theorem dX12_meant_102 : decode cX12_meant 102 = .ok (.iload 8, 2) := by decide +kernel
theorem dX12_meant_104 : decode cX12_meant 104 = .ok (.iload 4, 2) := by decide +kernel
theorem dX12_meant_106 : decode cX12_meant 106 = .ok (.if_icmp .ge 8, 3) := by decide +kernel
theorem dX12_meant_109 : decode cX12_meant 109 = .ok (.iload 8, 2) := by decide +kernel
theorem dX12_meant_111 : decode cX12_meant 111 = .ok (.goto 5, 3) := by decide +kernel
theorem dX12_meant_114 : decode cX12_meant 114 = .ok (.iload 4, 2) := by decide +kernel
theorem dX12_meant_116 : decode cX12_meant 116 = .ok (.istore 4, 2) := by decide +kernel
theorem dX12_meant_118 : decode cX12_meant 118 = .ok (.iinc 6 1, 3) := by decide +kernel
theorem dX12_meant_121 : decode cX12_meant 121 = .ok (.goto (-109), 3) := by decide +kernel
theorem dX12_meant_124 : decode cX12_meant 124 = .ok (.iload 5, 2) := by decide +kernel
theorem dX12_meant_126 : decode cX12_meant 126 = .ok (.ifCond .eq 7, 3) := by decide +kernel
theorem dX12_meant_129 : decode cX12_meant 129 = .ok (.iload_n 3, 1) := by decide +kernel
theorem dX12_meant_130 : decode cX12_meant 130 = .ok (.goto 5, 3) := by decide +kernel
theorem dX12_meant_133 : decode cX12_meant 133 = .ok (.bipush 8, 2) := by decide +kernel
theorem dX12_meant_135 : decode cX12_meant 135 = .ok (.ireturn, 1) := by decide +kernel
theorem dX12_sorts_0 : decode cX12_sorts 0 = .ok (.iload_n 1, 1) := by decide +kernel
theorem dX12_sorts_1 : decode cX12_sorts 1 = .ok (.aload_n 0, 1) := by decide +kernel
theorem dX12_sorts_2 : decode cX12_sorts 2 = .ok (.invokevirtual 110, 3) := by decide +kernel
theorem dX12_sorts_5 : decode cX12_sorts 5 = .ok (.if_icmp .le 7, 3) := by decide +kernel
theorem dX12_sorts_8 : decode cX12_sorts 8 = .ok (.iload_n 1, 1) := by decide +kernel
theorem dX12_sorts_9 : decode cX12_sorts 9 = .ok (.goto 7, 3) := by decide +kernel
theorem dX12_sorts_12 : decode cX12_sorts 12 = .ok (.aload_n 0, 1) := by decide +kernel
theorem dX12_sorts_13 : decode cX12_sorts 13 = .ok (.invokevirtual 110, 3) := by decide +kernel
theorem dX12_sorts_16 : decode cX12_sorts 16 = .ok (.istore_n 3, 1) := by decide +kernel
theorem dX12_sorts_17 : decode cX12_sorts 17 = .ok (.iload_n 3, 1) := by decide +kernel
theorem dX12_sorts_18 : decode cX12_sorts 18 = .ok (.aload_n 0, 1) := by decide +kernel
theorem dX12_sorts_19 : decode cX12_sorts 19 = .ok (.getfield 7, 3) := by decide +kernel
theorem dX12_sorts_22 : decode cX12_sorts 22 = .ok (.iconst 5, 1) := by decide +kernel
theorem dX12_sorts_23 : decode cX12_sorts 23 = .ok (.iaload, 1) := by decide +kernel
theorem dX12_sorts_24 : decode cX12_sorts 24 = .ok (.if_icmp .ge 31, 3) := by decide +kernel
theorem dX12_sorts_27 : decode cX12_sorts 27 = .ok (.aload_n 0, 1) := by decide +kernel
theorem dX12_sorts_28 : decode cX12_sorts 28 = .ok (.getfield 7, 3) := by decide +kernel
theorem dX12_sorts_31 : decode cX12_sorts 31 = .ok (.iload_n 3, 1) := by decide +kernel
theorem dX12_sorts_32 : decode cX12_sorts 32 = .ok (.invokestatic 101, 3) := by decide +kernel
theorem dX12_sorts_35 : decode cX12_sorts 35 = .ok (.iconst 5, 1) := by decide +kernel
theorem dX12_sorts_36 : decode cX12_sorts 36 = .ok (.iadd, 1) := by decide +kernel
theorem dX12_sorts_37 : decode cX12_sorts 37 = .ok (.aload_n 0, 1) := by decide +kernel
theorem dX12_sorts_38 : decode cX12_sorts 38 = .ok (.aload_n 0, 1) := by decide +kernel
theorem dX12_sorts_39 : decode cX12_sorts 39 = .ok (.iload_n 3, 1) := by decide +kernel
theorem dX12_sorts_40 : decode cX12_sorts 40 = .ok (.iconst 4, 1) := by decide +kernel
theorem dX12_sorts_41 : decode cX12_sorts 41 = .ok (.invokevirtual 113, 3) := by decide +kernel
theorem dX12_sorts_44 : decode cX12_sorts 44 = .ok (.iload_n 2, 1) := by decide +kernel
theorem dX12_sorts_45 : decode cX12_sorts 45 = .ok (.invokevirtual 116, 3) := by decide +kernel
theorem dX12_sorts_48 : decode cX12_sorts 48 = .ok (.iastore, 1) := by decide +kernel
theorem dX12_sorts_49 : decode cX12_sorts 49 = .ok (.iinc 3 1, 3) := by decide +kernel
theorem dX12_sorts_52 : decode cX12_sorts 52 = .ok (.goto (-35), 3) := by decide +kernel
theorem dX12_sorts_55 : decode cX12_sorts 55 = .ok (.return_, 1) := by decide +kernel
theorem dX12_lowest_0 : decode cX12_lowest 0 = .ok (.iload_n 0, 1) := by decide +kernel
theorem dX12_lowest_1 : decode cX12_lowest 1 = .ok (.ifCond .ne 9, 3) := by decide +kernel
theorem dX12_lowest_4 : decode cX12_lowest 4 = .ok (.sipush 260, 3) := by decide +kernel
theorem dX12_lowest_7 : decode cX12_lowest 7 = .ok (.goto 16, 3) := by decide +kernel
theorem dX12_lowest_10 : decode cX12_lowest 10 = .ok (.iload_n 0, 1) := by decide +kernel
theorem dX12_lowest_11 : decode cX12_lowest 11 = .ok (.iconst 1, 1) := by decide +kernel
theorem dX12_lowest_12 : decode cX12_lowest 12 = .ok (.if_icmp .ne 9, 3) := by decide +kernel
theorem dX12_lowest_15 : decode cX12_lowest 15 = .ok (.sipush 180, 3) := by decide +kernel
theorem dX12_lowest_18 : decode cX12_lowest 18 = .ok (.goto 5, 3) := by decide +kernel
theorem dX12_lowest_21 : decode cX12_lowest 21 = .ok (.bipush 90, 2) := by decide +kernel
theorem dX12_lowest_23 : decode cX12_lowest 23 = .ok (.ireturn, 1) := by decide +kernel
theorem dX12_highest_0 : decode cX12_highest 0 = .ok (.iload_n 0, 1) := by decide +kernel
theorem dX12_highest_1 : decode cX12_highest 1 = .ok (.ifCond .ne 9, 3) := by decide +kernel
theorem dX12_highest_4 : decode cX12_highest 4 = .ok (.sipush 400, 3) := by decide +kernel
theorem dX12_highest_7 : decode cX12_highest 7 = .ok (.goto 17, 3) := by decide +kernel
theorem dX12_highest_10 : decode cX12_highest 10 = .ok (.iload_n 0, 1) := by decide +kernel
theorem dX12_highest_11 : decode cX12_highest 11 = .ok (.iconst 1, 1) := by decide +kernel
theorem dX12_highest_12 : decode cX12_highest 12 = .ok (.if_icmp .ne 9, 3) := by decide +kernel
theorem dX12_highest_15 : decode cX12_highest 15 = .ok (.sipush 300, 3) := by decide +kernel
theorem dX12_highest_18 : decode cX12_highest 18 = .ok (.goto 6, 3) := by decide +kernel
theorem dX12_highest_21 : decode cX12_highest 21 = .ok (.sipush 200, 3) := by decide +kernel
theorem dX12_highest_24 : decode cX12_highest 24 = .ok (.ireturn, 1) := by decide +kernel
theorem dX12_ticksOf_0 : decode cX12_ticksOf 0 = .ok (.iload_n 0, 1) := by decide +kernel
theorem dX12_ticksOf_1 : decode cX12_ticksOf 1 = .ok (.ifCond .ne 7, 3) := by decide +kernel
theorem dX12_ticksOf_4 : decode cX12_ticksOf 4 = .ok (.iconst 2, 1) := by decide +kernel
theorem dX12_ticksOf_5 : decode cX12_ticksOf 5 = .ok (.goto 14, 3) := by decide +kernel
theorem dX12_ticksOf_8 : decode cX12_ticksOf 8 = .ok (.iload_n 0, 1) := by decide +kernel
theorem dX12_ticksOf_9 : decode cX12_ticksOf 9 = .ok (.iconst 1, 1) := by decide +kernel
theorem dX12_ticksOf_10 : decode cX12_ticksOf 10 = .ok (.if_icmp .ne 7, 3) := by decide +kernel
theorem dX12_ticksOf_13 : decode cX12_ticksOf 13 = .ok (.iconst 5, 1) := by decide +kernel
theorem dX12_ticksOf_14 : decode cX12_ticksOf 14 = .ok (.goto 5, 3) := by decide +kernel
theorem dX12_ticksOf_17 : decode cX12_ticksOf 17 = .ok (.bipush 8, 2) := by decide +kernel
theorem dX12_ticksOf_19 : decode cX12_ticksOf 19 = .ok (.ireturn, 1) := by decide +kernel
theorem dX12_waits_0 : decode cX12_waits 0 = .ok (.iconst 0, 1) := by decide +kernel
theorem dX12_waits_1 : decode cX12_waits 1 = .ok (.istore_n 2, 1) := by decide +kernel
theorem dX12_waits_2 : decode cX12_waits 2 = .ok (.iconst 0, 1) := by decide +kernel
theorem dX12_waits_3 : decode cX12_waits 3 = .ok (.istore_n 3, 1) := by decide +kernel
theorem dX12_waits_4 : decode cX12_waits 4 = .ok (.iload_n 3, 1) := by decide +kernel
theorem dX12_waits_5 : decode cX12_waits 5 = .ok (.aload_n 0, 1) := by decide +kernel
theorem dX12_waits_6 : decode cX12_waits 6 = .ok (.getfield 7, 3) := by decide +kernel
theorem dX12_waits_9 : decode cX12_waits 9 = .ok (.bipush 7, 2) := by decide +kernel
theorem dX12_waits_11 : decode cX12_waits 11 = .ok (.iaload, 1) := by decide +kernel
theorem dX12_waits_12 : decode cX12_waits 12 = .ok (.if_icmp .ge 36, 3) := by decide +kernel
theorem dX12_waits_15 : decode cX12_waits 15 = .ok (.iload_n 2, 1) := by decide +kernel
theorem dX12_waits_16 : decode cX12_waits 16 = .ok (.ifCond .ne 20, 3) := by decide +kernel
theorem dX12_waits_19 : decode cX12_waits 19 = .ok (.aload_n 0, 1) := by decide +kernel
theorem dX12_waits_20 : decode cX12_waits 20 = .ok (.getfield 7, 3) := by decide +kernel
theorem dX12_waits_23 : decode cX12_waits 23 = .ok (.bipush 41, 2) := by decide +kernel
theorem dX12_waits_25 : decode cX12_waits 25 = .ok (.iconst 3, 1) := by decide +kernel
theorem dX12_waits_26 : decode cX12_waits 26 = .ok (.iload_n 3, 1) := by decide +kernel
theorem dX12_waits_27 : decode cX12_waits 27 = .ok (.imul, 1) := by decide +kernel
theorem dX12_waits_28 : decode cX12_waits 28 = .ok (.iadd, 1) := by decide +kernel
theorem dX12_waits_29 : decode cX12_waits 29 = .ok (.iconst 1, 1) := by decide +kernel
theorem dX12_waits_30 : decode cX12_waits 30 = .ok (.iadd, 1) := by decide +kernel
theorem dX12_waits_31 : decode cX12_waits 31 = .ok (.iaload, 1) := by decide +kernel
theorem dX12_waits_32 : decode cX12_waits 32 = .ok (.iload_n 1, 1) := by decide +kernel
theorem dX12_waits_33 : decode cX12_waits 33 = .ok (.if_icmp .ne 7, 3) := by decide +kernel
theorem dX12_waits_36 : decode cX12_waits 36 = .ok (.iconst 1, 1) := by decide +kernel
theorem dX12_waits_37 : decode cX12_waits 37 = .ok (.goto 4, 3) := by decide +kernel
theorem dX12_waits_40 : decode cX12_waits 40 = .ok (.iconst 0, 1) := by decide +kernel
theorem dX12_waits_41 : decode cX12_waits 41 = .ok (.istore_n 2, 1) := by decide +kernel
theorem dX12_waits_42 : decode cX12_waits 42 = .ok (.iinc 3 1, 3) := by decide +kernel
theorem dX12_waits_45 : decode cX12_waits 45 = .ok (.goto (-41), 3) := by decide +kernel
theorem dX12_waits_48 : decode cX12_waits 48 = .ok (.iload_n 2, 1) := by decide +kernel
theorem dX12_waits_49 : decode cX12_waits 49 = .ok (.ireturn, 1) := by decide +kernel
theorem dX12_falls_0 : decode cX12_falls 0 = .ok (.aload_n 0, 1) := by decide +kernel
theorem dX12_falls_1 : decode cX12_falls 1 = .ok (.getfield 7, 3) := by decide +kernel
theorem dX12_falls_4 : decode cX12_falls 4 = .ok (.iconst 2, 1) := by decide +kernel
theorem dX12_falls_5 : decode cX12_falls 5 = .ok (.aload_n 0, 1) := by decide +kernel
theorem dX12_falls_6 : decode cX12_falls 6 = .ok (.getfield 7, 3) := by decide +kernel
theorem dX12_falls_9 : decode cX12_falls 9 = .ok (.iconst 2, 1) := by decide +kernel
theorem dX12_falls_10 : decode cX12_falls 10 = .ok (.iaload, 1) := by decide +kernel
theorem dX12_falls_11 : decode cX12_falls 11 = .ok (.iload_n 1, 1) := by decide +kernel
theorem dX12_falls_12 : decode cX12_falls 12 = .ok (.isub, 1) := by decide +kernel
theorem dX12_falls_13 : decode cX12_falls 13 = .ok (.bipush 20, 2) := by decide +kernel
theorem dX12_falls_15 : decode cX12_falls 15 = .ok (.if_icmp .ge 8, 3) := by decide +kernel
theorem dX12_falls_18 : decode cX12_falls 18 = .ok (.bipush 20, 2) := by decide +kernel
theorem dX12_falls_20 : decode cX12_falls 20 = .ok (.goto 11, 3) := by decide +kernel
theorem dX12_falls_23 : decode cX12_falls 23 = .ok (.aload_n 0, 1) := by decide +kernel
theorem dX12_falls_24 : decode cX12_falls 24 = .ok (.getfield 7, 3) := by decide +kernel
theorem dX12_falls_27 : decode cX12_falls 27 = .ok (.iconst 2, 1) := by decide +kernel
theorem dX12_falls_28 : decode cX12_falls 28 = .ok (.iaload, 1) := by decide +kernel
theorem dX12_falls_29 : decode cX12_falls 29 = .ok (.iload_n 1, 1) := by decide +kernel
theorem dX12_falls_30 : decode cX12_falls 30 = .ok (.isub, 1) := by decide +kernel
theorem dX12_falls_31 : decode cX12_falls 31 = .ok (.iastore, 1) := by decide +kernel
theorem dX12_falls_32 : decode cX12_falls 32 = .ok (.return_, 1) := by decide +kernel
theorem dX12_fills_0 : decode cX12_fills 0 = .ok (.bipush 24, 2) := by decide +kernel
theorem dX12_fills_2 : decode cX12_fills 2 = .ok (.istore_n 3, 1) := by decide +kernel
theorem dX12_fills_3 : decode cX12_fills 3 = .ok (.aload_n 0, 1) := by decide +kernel
theorem dX12_fills_4 : decode cX12_fills 4 = .ok (.iconst 0, 1) := by decide +kernel
theorem dX12_fills_5 : decode cX12_fills 5 = .ok (.putfield 119, 3) := by decide +kernel
theorem dX12_fills_8 : decode cX12_fills 8 = .ok (.iconst 0, 1) := by decide +kernel
theorem dX12_fills_9 : decode cX12_fills 9 = .ok (.istore 4, 2) := by decide +kernel
theorem dX12_fills_11 : decode cX12_fills 11 = .ok (.iload 4, 2) := by decide +kernel
theorem dX12_fills_13 : decode cX12_fills 13 = .ok (.aload_n 0, 1) := by decide +kernel
theorem dX12_fills_14 : decode cX12_fills 14 = .ok (.getfield 7, 3) := by decide +kernel
theorem dX12_fills_17 : decode cX12_fills 17 = .ok (.iconst 0, 1) := by decide +kernel
theorem dX12_fills_18 : decode cX12_fills 18 = .ok (.iaload, 1) := by decide +kernel
theorem dX12_fills_19 : decode cX12_fills 19 = .ok (.if_icmp .ge 146, 3) := by decide +kernel
theorem dX12_fills_22 : decode cX12_fills 22 = .ok (.iload_n 2, 1) := by decide +kernel
theorem dX12_fills_23 : decode cX12_fills 23 = .ok (.iload 4, 2) := by decide +kernel
theorem dX12_fills_25 : decode cX12_fills 25 = .ok (.iadd, 1) := by decide +kernel
theorem dX12_fills_26 : decode cX12_fills 26 = .ok (.aload_n 0, 1) := by decide +kernel
theorem dX12_fills_27 : decode cX12_fills 27 = .ok (.getfield 7, 3) := by decide +kernel
theorem dX12_fills_30 : decode cX12_fills 30 = .ok (.iconst 0, 1) := by decide +kernel
theorem dX12_fills_31 : decode cX12_fills 31 = .ok (.iaload, 1) := by decide +kernel
theorem dX12_fills_32 : decode cX12_fills 32 = .ok (.irem, 1) := by decide +kernel
theorem dX12_fills_33 : decode cX12_fills 33 = .ok (.istore 5, 2) := by decide +kernel
theorem dX12_fills_35 : decode cX12_fills 35 = .ok (.iconst 0, 1) := by decide +kernel
theorem dX12_fills_36 : decode cX12_fills 36 = .ok (.istore 6, 2) := by decide +kernel
theorem dX12_fills_38 : decode cX12_fills 38 = .ok (.iload 6, 2) := by decide +kernel
theorem dX12_fills_40 : decode cX12_fills 40 = .ok (.aload_n 0, 1) := by decide +kernel
theorem dX12_fills_41 : decode cX12_fills 41 = .ok (.getfield 7, 3) := by decide +kernel
theorem dX12_fills_44 : decode cX12_fills 44 = .ok (.bipush 7, 2) := by decide +kernel
theorem dX12_fills_46 : decode cX12_fills 46 = .ok (.iaload, 1) := by decide +kernel
theorem dX12_fills_47 : decode cX12_fills 47 = .ok (.if_icmp .ge 112, 3) := by decide +kernel
theorem dX12_fills_50 : decode cX12_fills 50 = .ok (.bipush 41, 2) := by decide +kernel
theorem dX12_fills_52 : decode cX12_fills 52 = .ok (.iconst 3, 1) := by decide +kernel
theorem dX12_fills_53 : decode cX12_fills 53 = .ok (.iload 6, 2) := by decide +kernel
theorem dX12_fills_55 : decode cX12_fills 55 = .ok (.imul, 1) := by decide +kernel
theorem dX12_fills_56 : decode cX12_fills 56 = .ok (.iadd, 1) := by decide +kernel
theorem dX12_fills_57 : decode cX12_fills 57 = .ok (.istore 7, 2) := by decide +kernel
theorem dX12_fills_59 : decode cX12_fills 59 = .ok (.aload_n 0, 1) := by decide +kernel
theorem dX12_fills_60 : decode cX12_fills 60 = .ok (.getfield 7, 3) := by decide +kernel
theorem dX12_fills_63 : decode cX12_fills 63 = .ok (.iload 7, 2) := by decide +kernel
theorem dX12_fills_65 : decode cX12_fills 65 = .ok (.iconst 2, 1) := by decide +kernel
theorem dX12_fills_66 : decode cX12_fills 66 = .ok (.iadd, 1) := by decide +kernel
theorem dX12_fills_67 : decode cX12_fills 67 = .ok (.iaload, 1) := by decide +kernel
theorem dX12_fills_68 : decode cX12_fills 68 = .ok (.istore 8, 2) := by decide +kernel
theorem dX12_fills_70 : decode cX12_fills 70 = .ok (.aload_n 0, 1) := by decide +kernel
theorem dX12_fills_71 : decode cX12_fills 71 = .ok (.getfield 7, 3) := by decide +kernel
theorem dX12_fills_74 : decode cX12_fills 74 = .ok (.iload 7, 2) := by decide +kernel
theorem dX12_fills_76 : decode cX12_fills 76 = .ok (.iaload, 1) := by decide +kernel
theorem dX12_fills_77 : decode cX12_fills 77 = .ok (.iload 5, 2) := by decide +kernel
theorem dX12_fills_79 : decode cX12_fills 79 = .ok (.if_icmp .ne 74, 3) := by decide +kernel
theorem dX12_fills_82 : decode cX12_fills 82 = .ok (.aload_n 0, 1) := by decide +kernel
theorem dX12_fills_83 : decode cX12_fills 83 = .ok (.getfield 7, 3) := by decide +kernel
theorem dX12_fills_86 : decode cX12_fills 86 = .ok (.iload 7, 2) := by decide +kernel
theorem dX12_fills_88 : decode cX12_fills 88 = .ok (.iconst 1, 1) := by decide +kernel
theorem dX12_fills_89 : decode cX12_fills 89 = .ok (.iadd, 1) := by decide +kernel
theorem dX12_fills_90 : decode cX12_fills 90 = .ok (.iaload, 1) := by decide +kernel
theorem dX12_fills_91 : decode cX12_fills 91 = .ok (.iload_n 1, 1) := by decide +kernel
theorem dX12_fills_92 : decode cX12_fills 92 = .ok (.if_icmp .ne 61, 3) := by decide +kernel
theorem dX12_fills_95 : decode cX12_fills 95 = .ok (.iload 8, 2) := by decide +kernel
theorem dX12_fills_97 : decode cX12_fills 97 = .ok (.iload_n 3, 1) := by decide +kernel
theorem dX12_fills_98 : decode cX12_fills 98 = .ok (.if_icmp .gt 55, 3) := by decide +kernel
theorem dX12_fills_101 : decode cX12_fills 101 = .ok (.iload_n 3, 1) := by decide +kernel
theorem dX12_fills_102 : decode cX12_fills 102 = .ok (.iload 8, 2) := by decide +kernel
theorem dX12_fills_104 : decode cX12_fills 104 = .ok (.isub, 1) := by decide +kernel
theorem dX12_fills_105 : decode cX12_fills 105 = .ok (.istore_n 3, 1) := by decide +kernel
theorem dX12_fills_106 : decode cX12_fills 106 = .ok (.aload_n 0, 1) := by decide +kernel
theorem dX12_fills_107 : decode cX12_fills 107 = .ok (.getfield 22, 3) := by decide +kernel
theorem dX12_fills_110 : decode cX12_fills 110 = .ok (.iconst 2, 1) := by decide +kernel
theorem dX12_fills_111 : decode cX12_fills 111 = .ok (.aload_n 0, 1) := by decide +kernel
theorem dX12_fills_112 : decode cX12_fills 112 = .ok (.getfield 119, 3) := by decide +kernel
theorem dX12_fills_115 : decode cX12_fills 115 = .ok (.imul, 1) := by decide +kernel
theorem dX12_fills_116 : decode cX12_fills 116 = .ok (.iload 5, 2) := by decide +kernel
theorem dX12_fills_118 : decode cX12_fills 118 = .ok (.iastore, 1) := by decide +kernel
theorem dX12_fills_119 : decode cX12_fills 119 = .ok (.aload_n 0, 1) := by decide +kernel
theorem dX12_fills_120 : decode cX12_fills 120 = .ok (.getfield 22, 3) := by decide +kernel
theorem dX12_fills_123 : decode cX12_fills 123 = .ok (.iconst 2, 1) := by decide +kernel
theorem dX12_fills_124 : decode cX12_fills 124 = .ok (.aload_n 0, 1) := by decide +kernel
theorem dX12_fills_125 : decode cX12_fills 125 = .ok (.getfield 119, 3) := by decide +kernel
theorem dX12_fills_128 : decode cX12_fills 128 = .ok (.imul, 1) := by decide +kernel
theorem dX12_fills_129 : decode cX12_fills 129 = .ok (.iconst 1, 1) := by decide +kernel
theorem dX12_fills_130 : decode cX12_fills 130 = .ok (.iadd, 1) := by decide +kernel
theorem dX12_fills_131 : decode cX12_fills 131 = .ok (.iload 8, 2) := by decide +kernel
theorem dX12_fills_133 : decode cX12_fills 133 = .ok (.iastore, 1) := by decide +kernel
theorem dX12_fills_134 : decode cX12_fills 134 = .ok (.aload_n 0, 1) := by decide +kernel
theorem dX12_fills_135 : decode cX12_fills 135 = .ok (.dup, 1) := by decide +kernel
theorem dX12_fills_136 : decode cX12_fills 136 = .ok (.getfield 119, 3) := by decide +kernel
theorem dX12_fills_139 : decode cX12_fills 139 = .ok (.iconst 1, 1) := by decide +kernel
theorem dX12_fills_140 : decode cX12_fills 140 = .ok (.iadd, 1) := by decide +kernel
theorem dX12_fills_141 : decode cX12_fills 141 = .ok (.putfield 119, 3) := by decide +kernel
theorem dX12_fills_144 : decode cX12_fills 144 = .ok (.aload_n 0, 1) := by decide +kernel
theorem dX12_fills_145 : decode cX12_fills 145 = .ok (.iload 6, 2) := by decide +kernel
theorem dX12_fills_147 : decode cX12_fills 147 = .ok (.invokevirtual 90, 3) := by decide +kernel
theorem dX12_fills_150 : decode cX12_fills 150 = .ok (.goto 6, 3) := by decide +kernel
theorem dX12_fills_153 : decode cX12_fills 153 = .ok (.iinc 6 1, 3) := by decide +kernel
theorem dX12_fills_156 : decode cX12_fills 156 = .ok (.goto (-118), 3) := by decide +kernel
theorem dX12_fills_159 : decode cX12_fills 159 = .ok (.iinc 4 1, 3) := by decide +kernel
theorem dX12_fills_162 : decode cX12_fills 162 = .ok (.goto (-151), 3) := by decide +kernel
theorem dX12_fills_165 : decode cX12_fills 165 = .ok (.bipush 24, 2) := by decide +kernel
theorem dX12_fills_167 : decode cX12_fills 167 = .ok (.iload_n 3, 1) := by decide +kernel
theorem dX12_fills_168 : decode cX12_fills 168 = .ok (.isub, 1) := by decide +kernel
theorem dX12_fills_169 : decode cX12_fills 169 = .ok (.ireturn, 1) := by decide +kernel
theorem dX12_bakes_0 : decode cX12_bakes 0 = .ok (.aload_n 0, 1) := by decide +kernel
theorem dX12_bakes_1 : decode cX12_bakes 1 = .ok (.getfield 7, 3) := by decide +kernel
theorem dX12_bakes_4 : decode cX12_bakes 4 = .ok (.iconst 2, 1) := by decide +kernel
theorem dX12_bakes_5 : decode cX12_bakes 5 = .ok (.iaload, 1) := by decide +kernel
theorem dX12_bakes_6 : decode cX12_bakes 6 = .ok (.istore_n 3, 1) := by decide +kernel
theorem dX12_bakes_7 : decode cX12_bakes 7 = .ok (.aload_n 0, 1) := by decide +kernel
theorem dX12_bakes_8 : decode cX12_bakes 8 = .ok (.iload_n 1, 1) := by decide +kernel
theorem dX12_bakes_9 : decode cX12_bakes 9 = .ok (.iload_n 2, 1) := by decide +kernel
theorem dX12_bakes_10 : decode cX12_bakes 10 = .ok (.invokevirtual 122, 3) := by decide +kernel
theorem dX12_bakes_13 : decode cX12_bakes 13 = .ok (.istore 4, 2) := by decide +kernel
theorem dX12_bakes_15 : decode cX12_bakes 15 = .ok (.iconst 0, 1) := by decide +kernel
theorem dX12_bakes_16 : decode cX12_bakes 16 = .ok (.istore 5, 2) := by decide +kernel
theorem dX12_bakes_18 : decode cX12_bakes 18 = .ok (.iload 5, 2) := by decide +kernel
theorem dX12_bakes_20 : decode cX12_bakes 20 = .ok (.iload_n 1, 1) := by decide +kernel
theorem dX12_bakes_21 : decode cX12_bakes 21 = .ok (.invokestatic 125, 3) := by decide +kernel
theorem dX12_bakes_24 : decode cX12_bakes 24 = .ok (.if_icmp .ge 20, 3) := by decide +kernel
theorem dX12_bakes_27 : decode cX12_bakes 27 = .ok (.aload_n 0, 1) := by decide +kernel
theorem dX12_bakes_28 : decode cX12_bakes 28 = .ok (.iconst 5, 1) := by decide +kernel
theorem dX12_bakes_29 : decode cX12_bakes 29 = .ok (.iload 4, 2) := by decide +kernel
theorem dX12_bakes_31 : decode cX12_bakes 31 = .ok (.bipush 8, 2) := by decide +kernel
theorem dX12_bakes_33 : decode cX12_bakes 33 = .ok (.idiv, 1) := by decide +kernel
theorem dX12_bakes_34 : decode cX12_bakes 34 = .ok (.iadd, 1) := by decide +kernel
theorem dX12_bakes_35 : decode cX12_bakes 35 = .ok (.invokevirtual 128, 3) := by decide +kernel
theorem dX12_bakes_38 : decode cX12_bakes 38 = .ok (.iinc 5 1, 3) := by decide +kernel
theorem dX12_bakes_41 : decode cX12_bakes 41 = .ok (.goto (-23), 3) := by decide +kernel
theorem dX12_bakes_44 : decode cX12_bakes 44 = .ok (.bipush 101, 2) := by decide +kernel
theorem dX12_bakes_46 : decode cX12_bakes 46 = .ok (.iconst 5, 1) := by decide +kernel
theorem dX12_bakes_47 : decode cX12_bakes 47 = .ok (.aload_n 0, 1) := by decide +kernel
theorem dX12_bakes_48 : decode cX12_bakes 48 = .ok (.getfield 7, 3) := by decide +kernel
theorem dX12_bakes_51 : decode cX12_bakes 51 = .ok (.bipush 8, 2) := by decide +kernel
theorem dX12_bakes_53 : decode cX12_bakes 53 = .ok (.iaload, 1) := by decide +kernel
theorem dX12_bakes_54 : decode cX12_bakes 54 = .ok (.imul, 1) := by decide +kernel
theorem dX12_bakes_55 : decode cX12_bakes 55 = .ok (.iadd, 1) := by decide +kernel
theorem dX12_bakes_56 : decode cX12_bakes 56 = .ok (.istore 5, 2) := by decide +kernel
theorem dX12_bakes_58 : decode cX12_bakes 58 = .ok (.aload_n 0, 1) := by decide +kernel
theorem dX12_bakes_59 : decode cX12_bakes 59 = .ok (.getfield 7, 3) := by decide +kernel
theorem dX12_bakes_62 : decode cX12_bakes 62 = .ok (.iload 5, 2) := by decide +kernel
theorem dX12_bakes_64 : decode cX12_bakes 64 = .ok (.iload_n 1, 1) := by decide +kernel
theorem dX12_bakes_65 : decode cX12_bakes 65 = .ok (.iastore, 1) := by decide +kernel
theorem dX12_bakes_66 : decode cX12_bakes 66 = .ok (.aload_n 0, 1) := by decide +kernel
theorem dX12_bakes_67 : decode cX12_bakes 67 = .ok (.getfield 7, 3) := by decide +kernel
theorem dX12_bakes_70 : decode cX12_bakes 70 = .ok (.iload 5, 2) := by decide +kernel
theorem dX12_bakes_72 : decode cX12_bakes 72 = .ok (.iconst 1, 1) := by decide +kernel
theorem dX12_bakes_73 : decode cX12_bakes 73 = .ok (.iadd, 1) := by decide +kernel
theorem dX12_bakes_74 : decode cX12_bakes 74 = .ok (.aload_n 0, 1) := by decide +kernel
theorem dX12_bakes_75 : decode cX12_bakes 75 = .ok (.getfield 119, 3) := by decide +kernel
theorem dX12_bakes_78 : decode cX12_bakes 78 = .ok (.iastore, 1) := by decide +kernel
theorem dX12_bakes_79 : decode cX12_bakes 79 = .ok (.aload_n 0, 1) := by decide +kernel
theorem dX12_bakes_80 : decode cX12_bakes 80 = .ok (.getfield 7, 3) := by decide +kernel
theorem dX12_bakes_83 : decode cX12_bakes 83 = .ok (.iload 5, 2) := by decide +kernel
theorem dX12_bakes_85 : decode cX12_bakes 85 = .ok (.iconst 2, 1) := by decide +kernel
theorem dX12_bakes_86 : decode cX12_bakes 86 = .ok (.iadd, 1) := by decide +kernel
theorem dX12_bakes_87 : decode cX12_bakes 87 = .ok (.iload 4, 2) := by decide +kernel
theorem dX12_bakes_89 : decode cX12_bakes 89 = .ok (.iastore, 1) := by decide +kernel
theorem dX12_bakes_90 : decode cX12_bakes 90 = .ok (.aload_n 0, 1) := by decide +kernel
theorem dX12_bakes_91 : decode cX12_bakes 91 = .ok (.getfield 7, 3) := by decide +kernel
theorem dX12_bakes_94 : decode cX12_bakes 94 = .ok (.iload 5, 2) := by decide +kernel
theorem dX12_bakes_96 : decode cX12_bakes 96 = .ok (.iconst 3, 1) := by decide +kernel
theorem dX12_bakes_97 : decode cX12_bakes 97 = .ok (.iadd, 1) := by decide +kernel
theorem dX12_bakes_98 : decode cX12_bakes 98 = .ok (.iload_n 3, 1) := by decide +kernel
theorem dX12_bakes_99 : decode cX12_bakes 99 = .ok (.iastore, 1) := by decide +kernel
theorem dX12_bakes_100 : decode cX12_bakes 100 = .ok (.aload_n 0, 1) := by decide +kernel
theorem dX12_bakes_101 : decode cX12_bakes 101 = .ok (.getfield 7, 3) := by decide +kernel
theorem dX12_bakes_104 : decode cX12_bakes 104 = .ok (.iload 5, 2) := by decide +kernel
theorem dX12_bakes_106 : decode cX12_bakes 106 = .ok (.iconst 4, 1) := by decide +kernel
theorem dX12_bakes_107 : decode cX12_bakes 107 = .ok (.iadd, 1) := by decide +kernel
theorem dX12_bakes_108 : decode cX12_bakes 108 = .ok (.aload_n 0, 1) := by decide +kernel
theorem dX12_bakes_109 : decode cX12_bakes 109 = .ok (.getfield 7, 3) := by decide +kernel
theorem dX12_bakes_112 : decode cX12_bakes 112 = .ok (.iconst 2, 1) := by decide +kernel
theorem dX12_bakes_113 : decode cX12_bakes 113 = .ok (.iaload, 1) := by decide +kernel
theorem dX12_bakes_114 : decode cX12_bakes 114 = .ok (.iastore, 1) := by decide +kernel
theorem dX12_bakes_115 : decode cX12_bakes 115 = .ok (.aload_n 0, 1) := by decide +kernel
theorem dX12_bakes_116 : decode cX12_bakes 116 = .ok (.getfield 7, 3) := by decide +kernel
theorem dX12_bakes_119 : decode cX12_bakes 119 = .ok (.bipush 8, 2) := by decide +kernel
theorem dX12_bakes_121 : decode cX12_bakes 121 = .ok (.dup2, 1) := by decide +kernel
theorem dX12_bakes_122 : decode cX12_bakes 122 = .ok (.iaload, 1) := by decide +kernel
theorem dX12_bakes_123 : decode cX12_bakes 123 = .ok (.iconst 1, 1) := by decide +kernel
theorem dX12_bakes_124 : decode cX12_bakes 124 = .ok (.iadd, 1) := by decide +kernel
theorem dX12_bakes_125 : decode cX12_bakes 125 = .ok (.iastore, 1) := by decide +kernel
theorem dX12_bakes_126 : decode cX12_bakes 126 = .ok (.aload_n 0, 1) := by decide +kernel
theorem dX12_bakes_127 : decode cX12_bakes 127 = .ok (.getfield 7, 3) := by decide +kernel
theorem dX12_bakes_130 : decode cX12_bakes 130 = .ok (.iconst 2, 1) := by decide +kernel
theorem dX12_bakes_131 : decode cX12_bakes 131 = .ok (.iaload, 1) := by decide +kernel
theorem dX12_bakes_132 : decode cX12_bakes 132 = .ok (.iload_n 1, 1) := by decide +kernel
theorem dX12_bakes_133 : decode cX12_bakes 133 = .ok (.invokestatic 131, 3) := by decide +kernel
theorem dX12_bakes_136 : decode cX12_bakes 136 = .ok (.bipush 30, 2) := by decide +kernel
theorem dX12_bakes_138 : decode cX12_bakes 138 = .ok (.isub, 1) := by decide +kernel
theorem dX12_bakes_139 : decode cX12_bakes 139 = .ok (.if_icmp .ge 7, 3) := by decide +kernel
theorem dX12_bakes_142 : decode cX12_bakes 142 = .ok (.iconst 1, 1) := by decide +kernel
theorem dX12_bakes_143 : decode cX12_bakes 143 = .ok (.goto 4, 3) := by decide +kernel
theorem dX12_bakes_146 : decode cX12_bakes 146 = .ok (.iconst 0, 1) := by decide +kernel
theorem dX12_bakes_147 : decode cX12_bakes 147 = .ok (.istore 6, 2) := by decide +kernel
theorem dX12_bakes_149 : decode cX12_bakes 149 = .ok (.iconst 0, 1) := by decide +kernel
theorem dX12_bakes_150 : decode cX12_bakes 150 = .ok (.istore 7, 2) := by decide +kernel
theorem dX12_bakes_152 : decode cX12_bakes 152 = .ok (.iload 7, 2) := by decide +kernel
theorem dX12_bakes_154 : decode cX12_bakes 154 = .ok (.aload_n 0, 1) := by decide +kernel
theorem dX12_bakes_155 : decode cX12_bakes 155 = .ok (.getfield 119, 3) := by decide +kernel
theorem dX12_bakes_158 : decode cX12_bakes 158 = .ok (.if_icmp .ge 93, 3) := by decide +kernel
theorem dX12_bakes_161 : decode cX12_bakes 161 = .ok (.aload_n 0, 1) := by decide +kernel
theorem dX12_bakes_162 : decode cX12_bakes 162 = .ok (.getfield 22, 3) := by decide +kernel
theorem dX12_bakes_165 : decode cX12_bakes 165 = .ok (.iconst 2, 1) := by decide +kernel
theorem dX12_bakes_166 : decode cX12_bakes 166 = .ok (.iload 7, 2) := by decide +kernel
theorem dX12_bakes_168 : decode cX12_bakes 168 = .ok (.imul, 1) := by decide +kernel
theorem dX12_bakes_169 : decode cX12_bakes 169 = .ok (.iaload, 1) := by decide +kernel
theorem dX12_bakes_170 : decode cX12_bakes 170 = .ok (.istore 8, 2) := by decide +kernel
theorem dX12_bakes_172 : decode cX12_bakes 172 = .ok (.aload_n 0, 1) := by decide +kernel
theorem dX12_bakes_173 : decode cX12_bakes 173 = .ok (.dup, 1) := by decide +kernel
theorem dX12_bakes_174 : decode cX12_bakes 174 = .ok (.getfield 134, 3) := by decide +kernel
theorem dX12_bakes_177 : decode cX12_bakes 177 = .ok (.iconst 1, 1) := by decide +kernel
theorem dX12_bakes_178 : decode cX12_bakes 178 = .ok (.iload 8, 2) := by decide +kernel
theorem dX12_bakes_180 : decode cX12_bakes 180 = .ok (.ishl, 1) := by decide +kernel
theorem dX12_bakes_181 : decode cX12_bakes 181 = .ok (.ior, 1) := by decide +kernel
theorem dX12_bakes_182 : decode cX12_bakes 182 = .ok (.putfield 134, 3) := by decide +kernel
theorem dX12_bakes_185 : decode cX12_bakes 185 = .ok (.aload_n 0, 1) := by decide +kernel
theorem dX12_bakes_186 : decode cX12_bakes 186 = .ok (.iload 8, 2) := by decide +kernel
theorem dX12_bakes_188 : decode cX12_bakes 188 = .ok (.iconst 2, 1) := by decide +kernel
theorem dX12_bakes_189 : decode cX12_bakes 189 = .ok (.aload_n 0, 1) := by decide +kernel
theorem dX12_bakes_190 : decode cX12_bakes 190 = .ok (.iload 8, 2) := by decide +kernel
theorem dX12_bakes_192 : decode cX12_bakes 192 = .ok (.iconst 2, 1) := by decide +kernel
theorem dX12_bakes_193 : decode cX12_bakes 193 = .ok (.invokevirtual 44, 3) := by decide +kernel
theorem dX12_bakes_196 : decode cX12_bakes 196 = .ok (.aload_n 0, 1) := by decide +kernel
theorem dX12_bakes_197 : decode cX12_bakes 197 = .ok (.getfield 22, 3) := by decide +kernel
theorem dX12_bakes_200 : decode cX12_bakes 200 = .ok (.iconst 2, 1) := by decide +kernel
theorem dX12_bakes_201 : decode cX12_bakes 201 = .ok (.iload 7, 2) := by decide +kernel
theorem dX12_bakes_203 : decode cX12_bakes 203 = .ok (.imul, 1) := by decide +kernel
theorem dX12_bakes_204 : decode cX12_bakes 204 = .ok (.iconst 1, 1) := by decide +kernel
theorem dX12_bakes_205 : decode cX12_bakes 205 = .ok (.iadd, 1) := by decide +kernel
theorem dX12_bakes_206 : decode cX12_bakes 206 = .ok (.iaload, 1) := by decide +kernel
theorem dX12_bakes_207 : decode cX12_bakes 207 = .ok (.iadd, 1) := by decide +kernel
theorem dX12_bakes_208 : decode cX12_bakes 208 = .ok (.invokevirtual 55, 3) := by decide +kernel
theorem dX12_bakes_211 : decode cX12_bakes 211 = .ok (.iconst 0, 1) := by decide +kernel
theorem dX12_bakes_212 : decode cX12_bakes 212 = .ok (.istore 9, 2) := by decide +kernel
theorem dX12_bakes_214 : decode cX12_bakes 214 = .ok (.iload 9, 2) := by decide +kernel
theorem dX12_bakes_216 : decode cX12_bakes 216 = .ok (.aload_n 0, 1) := by decide +kernel
theorem dX12_bakes_217 : decode cX12_bakes 217 = .ok (.getfield 22, 3) := by decide +kernel
theorem dX12_bakes_220 : decode cX12_bakes 220 = .ok (.iconst 2, 1) := by decide +kernel
theorem dX12_bakes_221 : decode cX12_bakes 221 = .ok (.iload 7, 2) := by decide +kernel
theorem dX12_bakes_223 : decode cX12_bakes 223 = .ok (.imul, 1) := by decide +kernel
theorem dX12_bakes_224 : decode cX12_bakes 224 = .ok (.iconst 1, 1) := by decide +kernel
theorem dX12_bakes_225 : decode cX12_bakes 225 = .ok (.iadd, 1) := by decide +kernel
theorem dX12_bakes_226 : decode cX12_bakes 226 = .ok (.iaload, 1) := by decide +kernel
theorem dX12_bakes_227 : decode cX12_bakes 227 = .ok (.if_icmp .ge 18, 3) := by decide +kernel
theorem dX12_bakes_230 : decode cX12_bakes 230 = .ok (.aload_n 0, 1) := by decide +kernel
theorem dX12_bakes_231 : decode cX12_bakes 231 = .ok (.iload 8, 2) := by decide +kernel
theorem dX12_bakes_233 : decode cX12_bakes 233 = .ok (.iload_n 1, 1) := by decide +kernel
theorem dX12_bakes_234 : decode cX12_bakes 234 = .ok (.iload 6, 2) := by decide +kernel
theorem dX12_bakes_236 : decode cX12_bakes 236 = .ok (.invokevirtual 137, 3) := by decide +kernel
theorem dX12_bakes_239 : decode cX12_bakes 239 = .ok (.iinc 9 1, 3) := by decide +kernel
theorem dX12_bakes_242 : decode cX12_bakes 242 = .ok (.goto (-28), 3) := by decide +kernel
theorem dX12_bakes_245 : decode cX12_bakes 245 = .ok (.iinc 7 1, 3) := by decide +kernel
theorem dX12_bakes_248 : decode cX12_bakes 248 = .ok (.goto (-96), 3) := by decide +kernel
theorem dX12_bakes_251 : decode cX12_bakes 251 = .ok (.return_, 1) := by decide +kernel
theorem dX12_kindNow_0 : decode cX12_kindNow 0 = .ok (.iconst (-1), 1) := by decide +kernel
theorem dX12_kindNow_1 : decode cX12_kindNow 1 = .ok (.istore_n 1, 1) := by decide +kernel
theorem dX12_kindNow_2 : decode cX12_kindNow 2 = .ok (.iconst 0, 1) := by decide +kernel
theorem dX12_kindNow_3 : decode cX12_kindNow 3 = .ok (.istore_n 2, 1) := by decide +kernel
theorem dX12_kindNow_4 : decode cX12_kindNow 4 = .ok (.iconst 2, 1) := by decide +kernel
theorem dX12_kindNow_5 : decode cX12_kindNow 5 = .ok (.istore_n 3, 1) := by decide +kernel
theorem dX12_kindNow_6 : decode cX12_kindNow 6 = .ok (.iload_n 3, 1) := by decide +kernel
theorem dX12_kindNow_7 : decode cX12_kindNow 7 = .ok (.ifCond .lt 74, 3) := by decide +kernel
theorem dX12_kindNow_10 : decode cX12_kindNow 10 = .ok (.aload_n 0, 1) := by decide +kernel
theorem dX12_kindNow_11 : decode cX12_kindNow 11 = .ok (.iload_n 3, 1) := by decide +kernel
theorem dX12_kindNow_12 : decode cX12_kindNow 12 = .ok (.invokevirtual 141, 3) := by decide +kernel
theorem dX12_kindNow_15 : decode cX12_kindNow 15 = .ok (.ifCond .eq 27, 3) := by decide +kernel
theorem dX12_kindNow_18 : decode cX12_kindNow 18 = .ok (.aload_n 0, 1) := by decide +kernel
theorem dX12_kindNow_19 : decode cX12_kindNow 19 = .ok (.getfield 7, 3) := by decide +kernel
theorem dX12_kindNow_22 : decode cX12_kindNow 22 = .ok (.iconst 2, 1) := by decide +kernel
theorem dX12_kindNow_23 : decode cX12_kindNow 23 = .ok (.iaload, 1) := by decide +kernel
theorem dX12_kindNow_24 : decode cX12_kindNow 24 = .ok (.iload_n 3, 1) := by decide +kernel
theorem dX12_kindNow_25 : decode cX12_kindNow 25 = .ok (.invokestatic 131, 3) := by decide +kernel
theorem dX12_kindNow_28 : decode cX12_kindNow 28 = .ok (.iload_n 3, 1) := by decide +kernel
theorem dX12_kindNow_29 : decode cX12_kindNow 29 = .ok (.invokestatic 144, 3) := by decide +kernel
theorem dX12_kindNow_32 : decode cX12_kindNow 32 = .ok (.invokestatic 39, 3) := by decide +kernel
theorem dX12_kindNow_35 : decode cX12_kindNow 35 = .ok (.ifCond .eq 7, 3) := by decide +kernel
theorem dX12_kindNow_38 : decode cX12_kindNow 38 = .ok (.iload_n 3, 1) := by decide +kernel
theorem dX12_kindNow_39 : decode cX12_kindNow 39 = .ok (.goto 4, 3) := by decide +kernel
theorem dX12_kindNow_42 : decode cX12_kindNow 42 = .ok (.iload_n 1, 1) := by decide +kernel
theorem dX12_kindNow_43 : decode cX12_kindNow 43 = .ok (.istore_n 1, 1) := by decide +kernel
theorem dX12_kindNow_44 : decode cX12_kindNow 44 = .ok (.iload_n 2, 1) := by decide +kernel
theorem dX12_kindNow_45 : decode cX12_kindNow 45 = .ok (.ifCond .ne 24, 3) := by decide +kernel
theorem dX12_kindNow_48 : decode cX12_kindNow 48 = .ok (.aload_n 0, 1) := by decide +kernel
theorem dX12_kindNow_49 : decode cX12_kindNow 49 = .ok (.iload_n 3, 1) := by decide +kernel
theorem dX12_kindNow_50 : decode cX12_kindNow 50 = .ok (.invokevirtual 141, 3) := by decide +kernel
theorem dX12_kindNow_53 : decode cX12_kindNow 53 = .ok (.ifCond .eq 20, 3) := by decide +kernel
theorem dX12_kindNow_56 : decode cX12_kindNow 56 = .ok (.aload_n 0, 1) := by decide +kernel
theorem dX12_kindNow_57 : decode cX12_kindNow 57 = .ok (.getfield 7, 3) := by decide +kernel
theorem dX12_kindNow_60 : decode cX12_kindNow 60 = .ok (.iconst 2, 1) := by decide +kernel
theorem dX12_kindNow_61 : decode cX12_kindNow 61 = .ok (.iaload, 1) := by decide +kernel
theorem dX12_kindNow_62 : decode cX12_kindNow 62 = .ok (.iload_n 3, 1) := by decide +kernel
theorem dX12_kindNow_63 : decode cX12_kindNow 63 = .ok (.invokestatic 144, 3) := by decide +kernel
theorem dX12_kindNow_66 : decode cX12_kindNow 66 = .ok (.if_icmp .le 7, 3) := by decide +kernel
theorem dX12_kindNow_69 : decode cX12_kindNow 69 = .ok (.iconst 1, 1) := by decide +kernel
theorem dX12_kindNow_70 : decode cX12_kindNow 70 = .ok (.goto 4, 3) := by decide +kernel
theorem dX12_kindNow_73 : decode cX12_kindNow 73 = .ok (.iconst 0, 1) := by decide +kernel
theorem dX12_kindNow_74 : decode cX12_kindNow 74 = .ok (.istore_n 2, 1) := by decide +kernel
theorem dX12_kindNow_75 : decode cX12_kindNow 75 = .ok (.iinc 3 (-1), 3) := by decide +kernel
theorem dX12_kindNow_78 : decode cX12_kindNow 78 = .ok (.goto (-72), 3) := by decide +kernel
theorem dX12_kindNow_81 : decode cX12_kindNow 81 = .ok (.iload_n 1, 1) := by decide +kernel
theorem dX12_kindNow_82 : decode cX12_kindNow 82 = .ok (.iconst (-1), 1) := by decide +kernel
theorem dX12_kindNow_83 : decode cX12_kindNow 83 = .ok (.if_icmp .eq 7, 3) := by decide +kernel
theorem dX12_kindNow_86 : decode cX12_kindNow 86 = .ok (.iload_n 1, 1) := by decide +kernel
theorem dX12_kindNow_87 : decode cX12_kindNow 87 = .ok (.goto 12, 3) := by decide +kernel
theorem dX12_kindNow_90 : decode cX12_kindNow 90 = .ok (.iload_n 2, 1) := by decide +kernel
theorem dX12_kindNow_91 : decode cX12_kindNow 91 = .ok (.ifCond .eq 7, 3) := by decide +kernel
theorem dX12_kindNow_94 : decode cX12_kindNow 94 = .ok (.iconst 3, 1) := by decide +kernel
theorem dX12_kindNow_95 : decode cX12_kindNow 95 = .ok (.goto 4, 3) := by decide +kernel
theorem dX12_kindNow_98 : decode cX12_kindNow 98 = .ok (.iconst (-1), 1) := by decide +kernel
theorem dX12_kindNow_99 : decode cX12_kindNow 99 = .ok (.ireturn, 1) := by decide +kernel
theorem dX12_dayWith_0 : decode cX12_dayWith 0 = .ok (.aload_n 0, 1) := by decide +kernel
theorem dX12_dayWith_1 : decode cX12_dayWith 1 = .ok (.invokevirtual 147, 3) := by decide +kernel
theorem dX12_dayWith_4 : decode cX12_dayWith 4 = .ok (.istore_n 2, 1) := by decide +kernel
theorem dX12_dayWith_5 : decode cX12_dayWith 5 = .ok (.aload_n 0, 1) := by decide +kernel
theorem dX12_dayWith_6 : decode cX12_dayWith 6 = .ok (.getfield 7, 3) := by decide +kernel
theorem dX12_dayWith_9 : decode cX12_dayWith 9 = .ok (.iconst 5, 1) := by decide +kernel
theorem dX12_dayWith_10 : decode cX12_dayWith 10 = .ok (.iaload, 1) := by decide +kernel
theorem dX12_dayWith_11 : decode cX12_dayWith 11 = .ok (.istore_n 3, 1) := by decide +kernel
theorem dX12_dayWith_12 : decode cX12_dayWith 12 = .ok (.aload_n 0, 1) := by decide +kernel
theorem dX12_dayWith_13 : decode cX12_dayWith 13 = .ok (.iload_n 2, 1) := by decide +kernel
theorem dX12_dayWith_14 : decode cX12_dayWith 14 = .ok (.iconst 1, 1) := by decide +kernel
theorem dX12_dayWith_15 : decode cX12_dayWith 15 = .ok (.aload_n 0, 1) := by decide +kernel
theorem dX12_dayWith_16 : decode cX12_dayWith 16 = .ok (.iload_n 2, 1) := by decide +kernel
theorem dX12_dayWith_17 : decode cX12_dayWith 17 = .ok (.iconst 1, 1) := by decide +kernel
theorem dX12_dayWith_18 : decode cX12_dayWith 18 = .ok (.invokevirtual 44, 3) := by decide +kernel
theorem dX12_dayWith_21 : decode cX12_dayWith 21 = .ok (.iload_n 1, 1) := by decide +kernel
theorem dX12_dayWith_22 : decode cX12_dayWith 22 = .ok (.iadd, 1) := by decide +kernel
theorem dX12_dayWith_23 : decode cX12_dayWith 23 = .ok (.invokevirtual 55, 3) := by decide +kernel
theorem dX12_dayWith_26 : decode cX12_dayWith 26 = .ok (.iconst 0, 1) := by decide +kernel
theorem dX12_dayWith_27 : decode cX12_dayWith 27 = .ok (.istore 4, 2) := by decide +kernel
theorem dX12_dayWith_29 : decode cX12_dayWith 29 = .ok (.iload 4, 2) := by decide +kernel
theorem dX12_dayWith_31 : decode cX12_dayWith 31 = .ok (.aload_n 0, 1) := by decide +kernel
theorem dX12_dayWith_32 : decode cX12_dayWith 32 = .ok (.getfield 7, 3) := by decide +kernel
theorem dX12_dayWith_35 : decode cX12_dayWith 35 = .ok (.iconst 0, 1) := by decide +kernel
theorem dX12_dayWith_36 : decode cX12_dayWith 36 = .ok (.iaload, 1) := by decide +kernel
theorem dX12_dayWith_37 : decode cX12_dayWith 37 = .ok (.if_icmp .ge 17, 3) := by decide +kernel
theorem dX12_dayWith_40 : decode cX12_dayWith 40 = .ok (.aload_n 0, 1) := by decide +kernel
theorem dX12_dayWith_41 : decode cX12_dayWith 41 = .ok (.iload 4, 2) := by decide +kernel
theorem dX12_dayWith_43 : decode cX12_dayWith 43 = .ok (.iconst 3, 1) := by decide +kernel
theorem dX12_dayWith_44 : decode cX12_dayWith 44 = .ok (.iconst 0, 1) := by decide +kernel
theorem dX12_dayWith_45 : decode cX12_dayWith 45 = .ok (.invokevirtual 55, 3) := by decide +kernel
theorem dX12_dayWith_48 : decode cX12_dayWith 48 = .ok (.iinc 4 1, 3) := by decide +kernel
theorem dX12_dayWith_51 : decode cX12_dayWith 51 = .ok (.goto (-22), 3) := by decide +kernel
theorem dX12_dayWith_54 : decode cX12_dayWith 54 = .ok (.aload_n 0, 1) := by decide +kernel
theorem dX12_dayWith_55 : decode cX12_dayWith 55 = .ok (.getfield 7, 3) := by decide +kernel
theorem dX12_dayWith_58 : decode cX12_dayWith 58 = .ok (.iconst 2, 1) := by decide +kernel
theorem dX12_dayWith_59 : decode cX12_dayWith 59 = .ok (.aload_n 0, 1) := by decide +kernel
theorem dX12_dayWith_60 : decode cX12_dayWith 60 = .ok (.getfield 7, 3) := by decide +kernel
theorem dX12_dayWith_63 : decode cX12_dayWith 63 = .ok (.iconst 2, 1) := by decide +kernel
theorem dX12_dayWith_64 : decode cX12_dayWith 64 = .ok (.iaload, 1) := by decide +kernel
theorem dX12_dayWith_65 : decode cX12_dayWith 65 = .ok (.bipush 10, 2) := by decide +kernel
theorem dX12_dayWith_67 : decode cX12_dayWith 67 = .ok (.iload_n 1, 1) := by decide +kernel
theorem dX12_dayWith_68 : decode cX12_dayWith 68 = .ok (.imul, 1) := by decide +kernel
theorem dX12_dayWith_69 : decode cX12_dayWith 69 = .ok (.iadd, 1) := by decide +kernel
theorem dX12_dayWith_70 : decode cX12_dayWith 70 = .ok (.sipush 400, 3) := by decide +kernel
theorem dX12_dayWith_73 : decode cX12_dayWith 73 = .ok (.if_icmp .le 9, 3) := by decide +kernel
theorem dX12_dayWith_76 : decode cX12_dayWith 76 = .ok (.sipush 400, 3) := by decide +kernel
theorem dX12_dayWith_79 : decode cX12_dayWith 79 = .ok (.goto 14, 3) := by decide +kernel
theorem dX12_dayWith_82 : decode cX12_dayWith 82 = .ok (.aload_n 0, 1) := by decide +kernel
theorem dX12_dayWith_83 : decode cX12_dayWith 83 = .ok (.getfield 7, 3) := by decide +kernel
theorem dX12_dayWith_86 : decode cX12_dayWith 86 = .ok (.iconst 2, 1) := by decide +kernel
theorem dX12_dayWith_87 : decode cX12_dayWith 87 = .ok (.iaload, 1) := by decide +kernel
theorem dX12_dayWith_88 : decode cX12_dayWith 88 = .ok (.bipush 10, 2) := by decide +kernel
theorem dX12_dayWith_90 : decode cX12_dayWith 90 = .ok (.iload_n 1, 1) := by decide +kernel
theorem dX12_dayWith_91 : decode cX12_dayWith 91 = .ok (.imul, 1) := by decide +kernel
theorem dX12_dayWith_92 : decode cX12_dayWith 92 = .ok (.iadd, 1) := by decide +kernel
theorem dX12_dayWith_93 : decode cX12_dayWith 93 = .ok (.iastore, 1) := by decide +kernel
theorem dX12_dayWith_94 : decode cX12_dayWith 94 = .ok (.aload_n 0, 1) := by decide +kernel
theorem dX12_dayWith_95 : decode cX12_dayWith 95 = .ok (.getfield 7, 3) := by decide +kernel
theorem dX12_dayWith_98 : decode cX12_dayWith 98 = .ok (.bipush 8, 2) := by decide +kernel
theorem dX12_dayWith_100 : decode cX12_dayWith 100 = .ok (.iconst 0, 1) := by decide +kernel
theorem dX12_dayWith_101 : decode cX12_dayWith 101 = .ok (.iastore, 1) := by decide +kernel
theorem dX12_dayWith_102 : decode cX12_dayWith 102 = .ok (.aload_n 0, 1) := by decide +kernel
theorem dX12_dayWith_103 : decode cX12_dayWith 103 = .ok (.iconst 0, 1) := by decide +kernel
theorem dX12_dayWith_104 : decode cX12_dayWith 104 = .ok (.putfield 134, 3) := by decide +kernel
theorem dX12_dayWith_107 : decode cX12_dayWith 107 = .ok (.aload_n 0, 1) := by decide +kernel
theorem dX12_dayWith_108 : decode cX12_dayWith 108 = .ok (.getfield 7, 3) := by decide +kernel
theorem dX12_dayWith_111 : decode cX12_dayWith 111 = .ok (.bipush 7, 2) := by decide +kernel
theorem dX12_dayWith_113 : decode cX12_dayWith 113 = .ok (.iaload, 1) := by decide +kernel
theorem dX12_dayWith_114 : decode cX12_dayWith 114 = .ok (.ifCond .le 94, 3) := by decide +kernel
theorem dX12_dayWith_117 : decode cX12_dayWith 117 = .ok (.aload_n 0, 1) := by decide +kernel
theorem dX12_dayWith_118 : decode cX12_dayWith 118 = .ok (.invokevirtual 150, 3) := by decide +kernel
theorem dX12_dayWith_121 : decode cX12_dayWith 121 = .ok (.istore 4, 2) := by decide +kernel
theorem dX12_dayWith_123 : decode cX12_dayWith 123 = .ok (.iload 4, 2) := by decide +kernel
theorem dX12_dayWith_125 : decode cX12_dayWith 125 = .ok (.iconst (-1), 1) := by decide +kernel
theorem dX12_dayWith_126 : decode cX12_dayWith 126 = .ok (.if_icmp .ne 58, 3) := by decide +kernel
theorem dX12_dayWith_129 : decode cX12_dayWith 129 = .ok (.iconst 0, 1) := by decide +kernel
theorem dX12_dayWith_130 : decode cX12_dayWith 130 = .ok (.istore 5, 2) := by decide +kernel
theorem dX12_dayWith_132 : decode cX12_dayWith 132 = .ok (.iload 5, 2) := by decide +kernel
theorem dX12_dayWith_134 : decode cX12_dayWith 134 = .ok (.aload_n 0, 1) := by decide +kernel
theorem dX12_dayWith_135 : decode cX12_dayWith 135 = .ok (.getfield 7, 3) := by decide +kernel
theorem dX12_dayWith_138 : decode cX12_dayWith 138 = .ok (.bipush 7, 2) := by decide +kernel
theorem dX12_dayWith_140 : decode cX12_dayWith 140 = .ok (.iaload, 1) := by decide +kernel
theorem dX12_dayWith_141 : decode cX12_dayWith 141 = .ok (.if_icmp .ge 32, 3) := by decide +kernel
theorem dX12_dayWith_144 : decode cX12_dayWith 144 = .ok (.aload_n 0, 1) := by decide +kernel
theorem dX12_dayWith_145 : decode cX12_dayWith 145 = .ok (.getfield 7, 3) := by decide +kernel
theorem dX12_dayWith_148 : decode cX12_dayWith 148 = .ok (.iconst 4, 1) := by decide +kernel
theorem dX12_dayWith_149 : decode cX12_dayWith 149 = .ok (.dup2, 1) := by decide +kernel
theorem dX12_dayWith_150 : decode cX12_dayWith 150 = .ok (.iaload, 1) := by decide +kernel
theorem dX12_dayWith_151 : decode cX12_dayWith 151 = .ok (.aload_n 0, 1) := by decide +kernel
theorem dX12_dayWith_152 : decode cX12_dayWith 152 = .ok (.getfield 7, 3) := by decide +kernel
theorem dX12_dayWith_155 : decode cX12_dayWith 155 = .ok (.bipush 41, 2) := by decide +kernel
theorem dX12_dayWith_157 : decode cX12_dayWith 157 = .ok (.iconst 3, 1) := by decide +kernel
theorem dX12_dayWith_158 : decode cX12_dayWith 158 = .ok (.iload 5, 2) := by decide +kernel
theorem dX12_dayWith_160 : decode cX12_dayWith 160 = .ok (.imul, 1) := by decide +kernel
theorem dX12_dayWith_161 : decode cX12_dayWith 161 = .ok (.iadd, 1) := by decide +kernel
theorem dX12_dayWith_162 : decode cX12_dayWith 162 = .ok (.iconst 2, 1) := by decide +kernel
theorem dX12_dayWith_163 : decode cX12_dayWith 163 = .ok (.iadd, 1) := by decide +kernel
theorem dX12_dayWith_164 : decode cX12_dayWith 164 = .ok (.iaload, 1) := by decide +kernel
theorem dX12_dayWith_165 : decode cX12_dayWith 165 = .ok (.iadd, 1) := by decide +kernel
theorem dX12_dayWith_166 : decode cX12_dayWith 166 = .ok (.iastore, 1) := by decide +kernel
theorem dX12_dayWith_167 : decode cX12_dayWith 167 = .ok (.iinc 5 1, 3) := by decide +kernel
theorem dX12_dayWith_170 : decode cX12_dayWith 170 = .ok (.goto (-38), 3) := by decide +kernel
theorem dX12_dayWith_173 : decode cX12_dayWith 173 = .ok (.aload_n 0, 1) := by decide +kernel
theorem dX12_dayWith_174 : decode cX12_dayWith 174 = .ok (.getfield 7, 3) := by decide +kernel
theorem dX12_dayWith_177 : decode cX12_dayWith 177 = .ok (.bipush 7, 2) := by decide +kernel
theorem dX12_dayWith_179 : decode cX12_dayWith 179 = .ok (.iconst 0, 1) := by decide +kernel
theorem dX12_dayWith_180 : decode cX12_dayWith 180 = .ok (.iastore, 1) := by decide +kernel
theorem dX12_dayWith_181 : decode cX12_dayWith 181 = .ok (.goto 24, 3) := by decide +kernel
theorem dX12_dayWith_184 : decode cX12_dayWith 184 = .ok (.iload 4, 2) := by decide +kernel
theorem dX12_dayWith_186 : decode cX12_dayWith 186 = .ok (.iconst 3, 1) := by decide +kernel
theorem dX12_dayWith_187 : decode cX12_dayWith 187 = .ok (.if_icmp .ne 11, 3) := by decide +kernel
theorem dX12_dayWith_190 : decode cX12_dayWith 190 = .ok (.aload_n 0, 1) := by decide +kernel
theorem dX12_dayWith_191 : decode cX12_dayWith 191 = .ok (.iconst 5, 1) := by decide +kernel
theorem dX12_dayWith_192 : decode cX12_dayWith 192 = .ok (.invokevirtual 128, 3) := by decide +kernel
theorem dX12_dayWith_195 : decode cX12_dayWith 195 = .ok (.goto 10, 3) := by decide +kernel
theorem dX12_dayWith_198 : decode cX12_dayWith 198 = .ok (.aload_n 0, 1) := by decide +kernel
theorem dX12_dayWith_199 : decode cX12_dayWith 199 = .ok (.iload 4, 2) := by decide +kernel
theorem dX12_dayWith_201 : decode cX12_dayWith 201 = .ok (.iload_n 2, 1) := by decide +kernel
theorem dX12_dayWith_202 : decode cX12_dayWith 202 = .ok (.invokevirtual 153, 3) := by decide +kernel
theorem dX12_dayWith_205 : decode cX12_dayWith 205 = .ok (.goto (-98), 3) := by decide +kernel
theorem dX12_dayWith_208 : decode cX12_dayWith 208 = .ok (.aload_n 0, 1) := by decide +kernel
theorem dX12_dayWith_209 : decode cX12_dayWith 209 = .ok (.getfield 7, 3) := by decide +kernel
theorem dX12_dayWith_212 : decode cX12_dayWith 212 = .ok (.iconst 2, 1) := by decide +kernel
theorem dX12_dayWith_213 : decode cX12_dayWith 213 = .ok (.aload_n 0, 1) := by decide +kernel
theorem dX12_dayWith_214 : decode cX12_dayWith 214 = .ok (.getfield 7, 3) := by decide +kernel
theorem dX12_dayWith_217 : decode cX12_dayWith 217 = .ok (.iconst 2, 1) := by decide +kernel
theorem dX12_dayWith_218 : decode cX12_dayWith 218 = .ok (.iaload, 1) := by decide +kernel
theorem dX12_dayWith_219 : decode cX12_dayWith 219 = .ok (.iconst 2, 1) := by decide +kernel
theorem dX12_dayWith_220 : decode cX12_dayWith 220 = .ok (.idiv, 1) := by decide +kernel
theorem dX12_dayWith_221 : decode cX12_dayWith 221 = .ok (.bipush 20, 2) := by decide +kernel
theorem dX12_dayWith_223 : decode cX12_dayWith 223 = .ok (.if_icmp .ge 8, 3) := by decide +kernel
theorem dX12_dayWith_226 : decode cX12_dayWith 226 = .ok (.bipush 20, 2) := by decide +kernel
theorem dX12_dayWith_228 : decode cX12_dayWith 228 = .ok (.goto 11, 3) := by decide +kernel
theorem dX12_dayWith_231 : decode cX12_dayWith 231 = .ok (.aload_n 0, 1) := by decide +kernel
theorem dX12_dayWith_232 : decode cX12_dayWith 232 = .ok (.getfield 7, 3) := by decide +kernel
theorem dX12_dayWith_235 : decode cX12_dayWith 235 = .ok (.iconst 2, 1) := by decide +kernel
theorem dX12_dayWith_236 : decode cX12_dayWith 236 = .ok (.iaload, 1) := by decide +kernel
theorem dX12_dayWith_237 : decode cX12_dayWith 237 = .ok (.iconst 2, 1) := by decide +kernel
theorem dX12_dayWith_238 : decode cX12_dayWith 238 = .ok (.idiv, 1) := by decide +kernel
theorem dX12_dayWith_239 : decode cX12_dayWith 239 = .ok (.iastore, 1) := by decide +kernel
theorem dX12_dayWith_240 : decode cX12_dayWith 240 = .ok (.aload_n 0, 1) := by decide +kernel
theorem dX12_dayWith_241 : decode cX12_dayWith 241 = .ok (.iload_n 3, 1) := by decide +kernel
theorem dX12_dayWith_242 : decode cX12_dayWith 242 = .ok (.aload_n 0, 1) := by decide +kernel
theorem dX12_dayWith_243 : decode cX12_dayWith 243 = .ok (.getfield 134, 3) := by decide +kernel
theorem dX12_dayWith_246 : decode cX12_dayWith 246 = .ok (.invokevirtual 157, 3) := by decide +kernel
theorem dX12_dayWith_249 : decode cX12_dayWith 249 = .ok (.aload_n 0, 1) := by decide +kernel
theorem dX12_dayWith_250 : decode cX12_dayWith 250 = .ok (.getfield 7, 3) := by decide +kernel
theorem dX12_dayWith_253 : decode cX12_dayWith 253 = .ok (.iconst 3, 1) := by decide +kernel
theorem dX12_dayWith_254 : decode cX12_dayWith 254 = .ok (.dup2, 1) := by decide +kernel
theorem dX12_dayWith_255 : decode cX12_dayWith 255 = .ok (.iaload, 1) := by decide +kernel
theorem dX12_dayWith_256 : decode cX12_dayWith 256 = .ok (.iconst 1, 1) := by decide +kernel
theorem dX12_dayWith_257 : decode cX12_dayWith 257 = .ok (.iadd, 1) := by decide +kernel
theorem dX12_dayWith_258 : decode cX12_dayWith 258 = .ok (.iastore, 1) := by decide +kernel
theorem dX12_dayWith_259 : decode cX12_dayWith 259 = .ok (.aload_n 0, 1) := by decide +kernel
theorem dX12_dayWith_260 : decode cX12_dayWith 260 = .ok (.getfield 7, 3) := by decide +kernel
theorem dX12_dayWith_263 : decode cX12_dayWith 263 = .ok (.iconst 5, 1) := by decide +kernel
theorem dX12_dayWith_264 : decode cX12_dayWith 264 = .ok (.iaload, 1) := by decide +kernel
theorem dX12_dayWith_265 : decode cX12_dayWith 265 = .ok (.iload_n 3, 1) := by decide +kernel
theorem dX12_dayWith_266 : decode cX12_dayWith 266 = .ok (.isub, 1) := by decide +kernel
theorem dX12_dayWith_267 : decode cX12_dayWith 267 = .ok (.ireturn, 1) := by decide +kernel
theorem dX12_isWood_0 : decode cX12_isWood 0 = .ok (.iload_n 0, 1) := by decide +kernel
theorem dX12_isWood_1 : decode cX12_isWood 1 = .ok (.iconst 1, 1) := by decide +kernel
theorem dX12_isWood_2 : decode cX12_isWood 2 = .ok (.bipush 40, 2) := by decide +kernel
theorem dX12_isWood_4 : decode cX12_isWood 4 = .ok (.invokestatic 39, 3) := by decide +kernel
theorem dX12_isWood_7 : decode cX12_isWood 7 = .ok (.ireturn, 1) := by decide +kernel
theorem dX12_badDay_0 : decode cX12_badDay 0 = .ok (.iload_n 1, 1) := by decide +kernel
theorem dX12_badDay_1 : decode cX12_badDay 1 = .ok (.invokestatic 160, 3) := by decide +kernel
theorem dX12_badDay_4 : decode cX12_badDay 4 = .ok (.ifCond .ne 7, 3) := by decide +kernel
theorem dX12_badDay_7 : decode cX12_badDay 7 = .ok (.iconst 1, 1) := by decide +kernel
theorem dX12_badDay_8 : decode cX12_badDay 8 = .ok (.goto 18, 3) := by decide +kernel
theorem dX12_badDay_11 : decode cX12_badDay 11 = .ok (.aload_n 0, 1) := by decide +kernel
theorem dX12_badDay_12 : decode cX12_badDay 12 = .ok (.getfield 7, 3) := by decide +kernel
theorem dX12_badDay_15 : decode cX12_badDay 15 = .ok (.bipush 7, 2) := by decide +kernel
theorem dX12_badDay_17 : decode cX12_badDay 17 = .ok (.iaload, 1) := by decide +kernel
theorem dX12_badDay_18 : decode cX12_badDay 18 = .ok (.ifCond .ne 7, 3) := by decide +kernel
theorem dX12_badDay_21 : decode cX12_badDay 21 = .ok (.iconst 2, 1) := by decide +kernel
theorem dX12_badDay_22 : decode cX12_badDay 22 = .ok (.goto 4, 3) := by decide +kernel
theorem dX12_badDay_25 : decode cX12_badDay 25 = .ok (.iconst 0, 1) := by decide +kernel
theorem dX12_badDay_26 : decode cX12_badDay 26 = .ok (.ireturn, 1) := by decide +kernel
theorem dX12_bake_0 : decode cX12_bake 0 = .ok (.aload_n 0, 1) := by decide +kernel
theorem dX12_bake_1 : decode cX12_bake 1 = .ok (.aload_n 0, 1) := by decide +kernel
theorem dX12_bake_2 : decode cX12_bake 2 = .ok (.iload_n 1, 1) := by decide +kernel
theorem dX12_bake_3 : decode cX12_bake 3 = .ok (.invokevirtual 163, 3) := by decide +kernel
theorem dX12_bake_6 : decode cX12_bake 6 = .ok (.invokevirtual 35, 3) := by decide +kernel
theorem dX12_bake_9 : decode cX12_bake 9 = .ok (.ifCond .eq 5, 3) := by decide +kernel
theorem dX12_bake_12 : decode cX12_bake 12 = .ok (.iconst 0, 1) := by decide +kernel
theorem dX12_bake_13 : decode cX12_bake 13 = .ok (.ireturn, 1) := by decide +kernel
theorem dX12_bake_14 : decode cX12_bake 14 = .ok (.aload_n 0, 1) := by decide +kernel
theorem dX12_bake_15 : decode cX12_bake 15 = .ok (.invokevirtual 63, 3) := by decide +kernel
theorem dX12_bake_18 : decode cX12_bake 18 = .ok (.aload_n 0, 1) := by decide +kernel
theorem dX12_bake_19 : decode cX12_bake 19 = .ok (.iload_n 1, 1) := by decide +kernel
theorem dX12_bake_20 : decode cX12_bake 20 = .ok (.invokevirtual 166, 3) := by decide +kernel
theorem dX12_bake_23 : decode cX12_bake 23 = .ok (.ireturn, 1) := by decide +kernel
theorem dX12_balanceOf_0 : decode cX12_balanceOf 0 = .ok (.iconst 0, 1) := by decide +kernel
theorem dX12_balanceOf_1 : decode cX12_balanceOf 1 = .ok (.istore_n 3, 1) := by decide +kernel
theorem dX12_balanceOf_2 : decode cX12_balanceOf 2 = .ok (.aload_n 0, 1) := by decide +kernel
theorem dX12_balanceOf_3 : decode cX12_balanceOf 3 = .ok (.invokevirtual 110, 3) := by decide +kernel
theorem dX12_balanceOf_6 : decode cX12_balanceOf 6 = .ok (.istore 4, 2) := by decide +kernel
theorem dX12_balanceOf_8 : decode cX12_balanceOf 8 = .ok (.iload 4, 2) := by decide +kernel
theorem dX12_balanceOf_10 : decode cX12_balanceOf 10 = .ok (.aload_n 0, 1) := by decide +kernel
theorem dX12_balanceOf_11 : decode cX12_balanceOf 11 = .ok (.getfield 7, 3) := by decide +kernel
theorem dX12_balanceOf_14 : decode cX12_balanceOf 14 = .ok (.iconst 5, 1) := by decide +kernel
theorem dX12_balanceOf_15 : decode cX12_balanceOf 15 = .ok (.iaload, 1) := by decide +kernel
theorem dX12_balanceOf_16 : decode cX12_balanceOf 16 = .ok (.if_icmp .ge 56, 3) := by decide +kernel
theorem dX12_balanceOf_19 : decode cX12_balanceOf 19 = .ok (.aload_n 0, 1) := by decide +kernel
theorem dX12_balanceOf_20 : decode cX12_balanceOf 20 = .ok (.iload 4, 2) := by decide +kernel
theorem dX12_balanceOf_22 : decode cX12_balanceOf 22 = .ok (.iconst 1, 1) := by decide +kernel
theorem dX12_balanceOf_23 : decode cX12_balanceOf 23 = .ok (.invokevirtual 113, 3) := by decide +kernel
theorem dX12_balanceOf_26 : decode cX12_balanceOf 26 = .ok (.iload_n 2, 1) := by decide +kernel
theorem dX12_balanceOf_27 : decode cX12_balanceOf 27 = .ok (.if_icmp .ne 39, 3) := by decide +kernel
theorem dX12_balanceOf_30 : decode cX12_balanceOf 30 = .ok (.iload_n 3, 1) := by decide +kernel
theorem dX12_balanceOf_31 : decode cX12_balanceOf 31 = .ok (.aload_n 0, 1) := by decide +kernel
theorem dX12_balanceOf_32 : decode cX12_balanceOf 32 = .ok (.iload 4, 2) := by decide +kernel
theorem dX12_balanceOf_34 : decode cX12_balanceOf 34 = .ok (.iconst 0, 1) := by decide +kernel
theorem dX12_balanceOf_35 : decode cX12_balanceOf 35 = .ok (.invokevirtual 113, 3) := by decide +kernel
theorem dX12_balanceOf_38 : decode cX12_balanceOf 38 = .ok (.iload_n 1, 1) := by decide +kernel
theorem dX12_balanceOf_39 : decode cX12_balanceOf 39 = .ok (.if_icmp .ne 7, 3) := by decide +kernel
theorem dX12_balanceOf_42 : decode cX12_balanceOf 42 = .ok (.iconst 1, 1) := by decide +kernel
theorem dX12_balanceOf_43 : decode cX12_balanceOf 43 = .ok (.goto 4, 3) := by decide +kernel
theorem dX12_balanceOf_46 : decode cX12_balanceOf 46 = .ok (.iconst 0, 1) := by decide +kernel
theorem dX12_balanceOf_47 : decode cX12_balanceOf 47 = .ok (.aload_n 0, 1) := by decide +kernel
theorem dX12_balanceOf_48 : decode cX12_balanceOf 48 = .ok (.iload 4, 2) := by decide +kernel
theorem dX12_balanceOf_50 : decode cX12_balanceOf 50 = .ok (.iconst 5, 1) := by decide +kernel
theorem dX12_balanceOf_51 : decode cX12_balanceOf 51 = .ok (.invokevirtual 113, 3) := by decide +kernel
theorem dX12_balanceOf_54 : decode cX12_balanceOf 54 = .ok (.iload_n 1, 1) := by decide +kernel
theorem dX12_balanceOf_55 : decode cX12_balanceOf 55 = .ok (.if_icmp .ne 7, 3) := by decide +kernel
theorem dX12_balanceOf_58 : decode cX12_balanceOf 58 = .ok (.iconst 1, 1) := by decide +kernel
theorem dX12_balanceOf_59 : decode cX12_balanceOf 59 = .ok (.goto 4, 3) := by decide +kernel
theorem dX12_balanceOf_62 : decode cX12_balanceOf 62 = .ok (.iconst 0, 1) := by decide +kernel
theorem dX12_balanceOf_63 : decode cX12_balanceOf 63 = .ok (.isub, 1) := by decide +kernel
theorem dX12_balanceOf_64 : decode cX12_balanceOf 64 = .ok (.iadd, 1) := by decide +kernel
theorem dX12_balanceOf_65 : decode cX12_balanceOf 65 = .ok (.istore_n 3, 1) := by decide +kernel
theorem dX12_balanceOf_66 : decode cX12_balanceOf 66 = .ok (.iinc 4 1, 3) := by decide +kernel
theorem dX12_balanceOf_69 : decode cX12_balanceOf 69 = .ok (.goto (-61), 3) := by decide +kernel
theorem dX12_balanceOf_72 : decode cX12_balanceOf 72 = .ok (.iload_n 3, 1) := by decide +kernel
theorem dX12_balanceOf_73 : decode cX12_balanceOf 73 = .ok (.ireturn, 1) := by decide +kernel
theorem dX12_claims_0 : decode cX12_claims 0 = .ok (.iconst 0, 1) := by decide +kernel
theorem dX12_claims_1 : decode cX12_claims 1 = .ok (.istore_n 2, 1) := by decide +kernel
theorem dX12_claims_2 : decode cX12_claims 2 = .ok (.iconst 0, 1) := by decide +kernel
theorem dX12_claims_3 : decode cX12_claims 3 = .ok (.istore_n 3, 1) := by decide +kernel
theorem dX12_claims_4 : decode cX12_claims 4 = .ok (.iload_n 3, 1) := by decide +kernel
theorem dX12_claims_5 : decode cX12_claims 5 = .ok (.iconst 3, 1) := by decide +kernel
theorem dX12_claims_6 : decode cX12_claims 6 = .ok (.if_icmp .ge 106, 3) := by decide +kernel
theorem dX12_claims_9 : decode cX12_claims 9 = .ok (.aload_n 0, 1) := by decide +kernel
theorem dX12_claims_10 : decode cX12_claims 10 = .ok (.iload_n 1, 1) := by decide +kernel
theorem dX12_claims_11 : decode cX12_claims 11 = .ok (.iload_n 3, 1) := by decide +kernel
theorem dX12_claims_12 : decode cX12_claims 12 = .ok (.invokevirtual 169, 3) := by decide +kernel
theorem dX12_claims_15 : decode cX12_claims 15 = .ok (.istore 4, 2) := by decide +kernel
theorem dX12_claims_17 : decode cX12_claims 17 = .ok (.aload_n 0, 1) := by decide +kernel
theorem dX12_claims_18 : decode cX12_claims 18 = .ok (.invokevirtual 110, 3) := by decide +kernel
theorem dX12_claims_21 : decode cX12_claims 21 = .ok (.istore 5, 2) := by decide +kernel
theorem dX12_claims_23 : decode cX12_claims 23 = .ok (.iload 5, 2) := by decide +kernel
theorem dX12_claims_25 : decode cX12_claims 25 = .ok (.aload_n 0, 1) := by decide +kernel
theorem dX12_claims_26 : decode cX12_claims 26 = .ok (.getfield 7, 3) := by decide +kernel
theorem dX12_claims_29 : decode cX12_claims 29 = .ok (.iconst 5, 1) := by decide +kernel
theorem dX12_claims_30 : decode cX12_claims 30 = .ok (.iaload, 1) := by decide +kernel
theorem dX12_claims_31 : decode cX12_claims 31 = .ok (.if_icmp .ge 75, 3) := by decide +kernel
theorem dX12_claims_34 : decode cX12_claims 34 = .ok (.iload 4, 2) := by decide +kernel
theorem dX12_claims_36 : decode cX12_claims 36 = .ok (.ifCond .le 70, 3) := by decide +kernel
theorem dX12_claims_39 : decode cX12_claims 39 = .ok (.aload_n 0, 1) := by decide +kernel
theorem dX12_claims_40 : decode cX12_claims 40 = .ok (.iload 5, 2) := by decide +kernel
theorem dX12_claims_42 : decode cX12_claims 42 = .ok (.iconst 1, 1) := by decide +kernel
theorem dX12_claims_43 : decode cX12_claims 43 = .ok (.invokevirtual 113, 3) := by decide +kernel
theorem dX12_claims_46 : decode cX12_claims 46 = .ok (.iload_n 3, 1) := by decide +kernel
theorem dX12_claims_47 : decode cX12_claims 47 = .ok (.if_icmp .ne 53, 3) := by decide +kernel
theorem dX12_claims_50 : decode cX12_claims 50 = .ok (.aload_n 0, 1) := by decide +kernel
theorem dX12_claims_51 : decode cX12_claims 51 = .ok (.iload 5, 2) := by decide +kernel
theorem dX12_claims_53 : decode cX12_claims 53 = .ok (.iconst 5, 1) := by decide +kernel
theorem dX12_claims_54 : decode cX12_claims 54 = .ok (.invokevirtual 113, 3) := by decide +kernel
theorem dX12_claims_57 : decode cX12_claims 57 = .ok (.bipush 8, 2) := by decide +kernel
theorem dX12_claims_59 : decode cX12_claims 59 = .ok (.if_icmp .ne 41, 3) := by decide +kernel
theorem dX12_claims_62 : decode cX12_claims 62 = .ok (.aload_n 0, 1) := by decide +kernel
theorem dX12_claims_63 : decode cX12_claims 63 = .ok (.iload 5, 2) := by decide +kernel
theorem dX12_claims_65 : decode cX12_claims 65 = .ok (.iconst 4, 1) := by decide +kernel
theorem dX12_claims_66 : decode cX12_claims 66 = .ok (.invokevirtual 113, 3) := by decide +kernel
theorem dX12_claims_69 : decode cX12_claims 69 = .ok (.aload_n 0, 1) := by decide +kernel
theorem dX12_claims_70 : decode cX12_claims 70 = .ok (.iload_n 1, 1) := by decide +kernel
theorem dX12_claims_71 : decode cX12_claims 71 = .ok (.iconst 0, 1) := by decide +kernel
theorem dX12_claims_72 : decode cX12_claims 72 = .ok (.invokevirtual 44, 3) := by decide +kernel
theorem dX12_claims_75 : decode cX12_claims 75 = .ok (.iconst (-1), 1) := by decide +kernel
theorem dX12_claims_76 : decode cX12_claims 76 = .ok (.ixor, 1) := by decide +kernel
theorem dX12_claims_77 : decode cX12_claims 77 = .ok (.iand, 1) := by decide +kernel
theorem dX12_claims_78 : decode cX12_claims 78 = .ok (.ifCond .ne 22, 3) := by decide +kernel
theorem dX12_claims_81 : decode cX12_claims 81 = .ok (.aload_n 0, 1) := by decide +kernel
theorem dX12_claims_82 : decode cX12_claims 82 = .ok (.getfield 7, 3) := by decide +kernel
theorem dX12_claims_85 : decode cX12_claims 85 = .ok (.iload 5, 2) := by decide +kernel
theorem dX12_claims_87 : decode cX12_claims 87 = .ok (.invokestatic 101, 3) := by decide +kernel
theorem dX12_claims_90 : decode cX12_claims 90 = .ok (.iconst 5, 1) := by decide +kernel
theorem dX12_claims_91 : decode cX12_claims 91 = .ok (.iadd, 1) := by decide +kernel
theorem dX12_claims_92 : decode cX12_claims 92 = .ok (.iload_n 1, 1) := by decide +kernel
theorem dX12_claims_93 : decode cX12_claims 93 = .ok (.iastore, 1) := by decide +kernel
theorem dX12_claims_94 : decode cX12_claims 94 = .ok (.iinc 4 (-1), 3) := by decide +kernel
theorem dX12_claims_97 : decode cX12_claims 97 = .ok (.iinc 2 1, 3) := by decide +kernel
theorem dX12_claims_100 : decode cX12_claims 100 = .ok (.iinc 5 1, 3) := by decide +kernel
theorem dX12_claims_103 : decode cX12_claims 103 = .ok (.goto (-80), 3) := by decide +kernel
theorem dX12_claims_106 : decode cX12_claims 106 = .ok (.iinc 3 1, 3) := by decide +kernel
theorem dX12_claims_109 : decode cX12_claims 109 = .ok (.goto (-105), 3) := by decide +kernel
theorem dX12_claims_112 : decode cX12_claims 112 = .ok (.iload_n 2, 1) := by decide +kernel
theorem dX12_claims_113 : decode cX12_claims 113 = .ok (.ireturn, 1) := by decide +kernel
theorem dX12_returns_0 : decode cX12_returns 0 = .ok (.iconst 0, 1) := by decide +kernel
theorem dX12_returns_1 : decode cX12_returns 1 = .ok (.istore_n 2, 1) := by decide +kernel
theorem dX12_returns_2 : decode cX12_returns 2 = .ok (.iconst 0, 1) := by decide +kernel
theorem dX12_returns_3 : decode cX12_returns 3 = .ok (.istore_n 3, 1) := by decide +kernel
theorem dX12_returns_4 : decode cX12_returns 4 = .ok (.iload_n 3, 1) := by decide +kernel
theorem dX12_returns_5 : decode cX12_returns 5 = .ok (.iconst 3, 1) := by decide +kernel
theorem dX12_returns_6 : decode cX12_returns 6 = .ok (.if_icmp .ge 100, 3) := by decide +kernel
theorem dX12_returns_9 : decode cX12_returns 9 = .ok (.aload_n 0, 1) := by decide +kernel
theorem dX12_returns_10 : decode cX12_returns 10 = .ok (.iload_n 1, 1) := by decide +kernel
theorem dX12_returns_11 : decode cX12_returns 11 = .ok (.iload_n 3, 1) := by decide +kernel
theorem dX12_returns_12 : decode cX12_returns 12 = .ok (.invokevirtual 169, 3) := by decide +kernel
theorem dX12_returns_15 : decode cX12_returns 15 = .ok (.istore 4, 2) := by decide +kernel
theorem dX12_returns_17 : decode cX12_returns 17 = .ok (.aload_n 0, 1) := by decide +kernel
theorem dX12_returns_18 : decode cX12_returns 18 = .ok (.getfield 7, 3) := by decide +kernel
theorem dX12_returns_21 : decode cX12_returns 21 = .ok (.iconst 5, 1) := by decide +kernel
theorem dX12_returns_22 : decode cX12_returns 22 = .ok (.iaload, 1) := by decide +kernel
theorem dX12_returns_23 : decode cX12_returns 23 = .ok (.iconst 1, 1) := by decide +kernel
theorem dX12_returns_24 : decode cX12_returns 24 = .ok (.isub, 1) := by decide +kernel
theorem dX12_returns_25 : decode cX12_returns 25 = .ok (.istore 5, 2) := by decide +kernel
theorem dX12_returns_27 : decode cX12_returns 27 = .ok (.iload 5, 2) := by decide +kernel
theorem dX12_returns_29 : decode cX12_returns 29 = .ok (.aload_n 0, 1) := by decide +kernel
theorem dX12_returns_30 : decode cX12_returns 30 = .ok (.invokevirtual 110, 3) := by decide +kernel
theorem dX12_returns_33 : decode cX12_returns 33 = .ok (.if_icmp .lt 67, 3) := by decide +kernel
theorem dX12_returns_36 : decode cX12_returns 36 = .ok (.iload 4, 2) := by decide +kernel
theorem dX12_returns_38 : decode cX12_returns 38 = .ok (.ifCond .ge 62, 3) := by decide +kernel
theorem dX12_returns_41 : decode cX12_returns 41 = .ok (.aload_n 0, 1) := by decide +kernel
theorem dX12_returns_42 : decode cX12_returns 42 = .ok (.iload 5, 2) := by decide +kernel
theorem dX12_returns_44 : decode cX12_returns 44 = .ok (.iconst 1, 1) := by decide +kernel
theorem dX12_returns_45 : decode cX12_returns 45 = .ok (.invokevirtual 113, 3) := by decide +kernel
theorem dX12_returns_48 : decode cX12_returns 48 = .ok (.iload_n 3, 1) := by decide +kernel
theorem dX12_returns_49 : decode cX12_returns 49 = .ok (.if_icmp .ne 45, 3) := by decide +kernel
theorem dX12_returns_52 : decode cX12_returns 52 = .ok (.aload_n 0, 1) := by decide +kernel
theorem dX12_returns_53 : decode cX12_returns 53 = .ok (.iload 5, 2) := by decide +kernel
theorem dX12_returns_55 : decode cX12_returns 55 = .ok (.iconst 5, 1) := by decide +kernel
theorem dX12_returns_56 : decode cX12_returns 56 = .ok (.invokevirtual 113, 3) := by decide +kernel
theorem dX12_returns_59 : decode cX12_returns 59 = .ok (.iload_n 1, 1) := by decide +kernel
theorem dX12_returns_60 : decode cX12_returns 60 = .ok (.if_icmp .ne 34, 3) := by decide +kernel
theorem dX12_returns_63 : decode cX12_returns 63 = .ok (.aload_n 0, 1) := by decide +kernel
theorem dX12_returns_64 : decode cX12_returns 64 = .ok (.iload 5, 2) := by decide +kernel
theorem dX12_returns_66 : decode cX12_returns 66 = .ok (.iconst 0, 1) := by decide +kernel
theorem dX12_returns_67 : decode cX12_returns 67 = .ok (.invokevirtual 113, 3) := by decide +kernel
theorem dX12_returns_70 : decode cX12_returns 70 = .ok (.iload_n 1, 1) := by decide +kernel
theorem dX12_returns_71 : decode cX12_returns 71 = .ok (.if_icmp .eq 23, 3) := by decide +kernel
theorem dX12_returns_74 : decode cX12_returns 74 = .ok (.aload_n 0, 1) := by decide +kernel
theorem dX12_returns_75 : decode cX12_returns 75 = .ok (.getfield 7, 3) := by decide +kernel
theorem dX12_returns_78 : decode cX12_returns 78 = .ok (.iload 5, 2) := by decide +kernel
theorem dX12_returns_80 : decode cX12_returns 80 = .ok (.invokestatic 101, 3) := by decide +kernel
theorem dX12_returns_83 : decode cX12_returns 83 = .ok (.iconst 5, 1) := by decide +kernel
theorem dX12_returns_84 : decode cX12_returns 84 = .ok (.iadd, 1) := by decide +kernel
theorem dX12_returns_85 : decode cX12_returns 85 = .ok (.bipush 8, 2) := by decide +kernel
theorem dX12_returns_87 : decode cX12_returns 87 = .ok (.iastore, 1) := by decide +kernel
theorem dX12_returns_88 : decode cX12_returns 88 = .ok (.iinc 4 1, 3) := by decide +kernel
theorem dX12_returns_91 : decode cX12_returns 91 = .ok (.iinc 2 1, 3) := by decide +kernel
theorem dX12_returns_94 : decode cX12_returns 94 = .ok (.iinc 5 (-1), 3) := by decide +kernel
theorem dX12_returns_97 : decode cX12_returns 97 = .ok (.goto (-70), 3) := by decide +kernel
theorem dX12_returns_100 : decode cX12_returns 100 = .ok (.iinc 3 1, 3) := by decide +kernel
theorem dX12_returns_103 : decode cX12_returns 103 = .ok (.goto (-99), 3) := by decide +kernel
theorem dX12_returns_106 : decode cX12_returns 106 = .ok (.iload_n 2, 1) := by decide +kernel
theorem dX12_returns_107 : decode cX12_returns 107 = .ok (.ireturn, 1) := by decide +kernel
theorem dX12_gives_0 : decode cX12_gives 0 = .ok (.iconst 0, 1) := by decide +kernel
theorem dX12_gives_1 : decode cX12_gives 1 = .ok (.istore_n 1, 1) := by decide +kernel
theorem dX12_gives_2 : decode cX12_gives 2 = .ok (.aload_n 0, 1) := by decide +kernel
theorem dX12_gives_3 : decode cX12_gives 3 = .ok (.invokevirtual 110, 3) := by decide +kernel
theorem dX12_gives_6 : decode cX12_gives 6 = .ok (.istore_n 2, 1) := by decide +kernel
theorem dX12_gives_7 : decode cX12_gives 7 = .ok (.iload_n 2, 1) := by decide +kernel
theorem dX12_gives_8 : decode cX12_gives 8 = .ok (.aload_n 0, 1) := by decide +kernel
theorem dX12_gives_9 : decode cX12_gives 9 = .ok (.getfield 7, 3) := by decide +kernel
theorem dX12_gives_12 : decode cX12_gives 12 = .ok (.iconst 5, 1) := by decide +kernel
theorem dX12_gives_13 : decode cX12_gives 13 = .ok (.iaload, 1) := by decide +kernel
theorem dX12_gives_14 : decode cX12_gives 14 = .ok (.if_icmp .ge 35, 3) := by decide +kernel
theorem dX12_gives_17 : decode cX12_gives 17 = .ok (.aload_n 0, 1) := by decide +kernel
theorem dX12_gives_18 : decode cX12_gives 18 = .ok (.iload_n 2, 1) := by decide +kernel
theorem dX12_gives_19 : decode cX12_gives 19 = .ok (.iconst 5, 1) := by decide +kernel
theorem dX12_gives_20 : decode cX12_gives 20 = .ok (.invokevirtual 113, 3) := by decide +kernel
theorem dX12_gives_23 : decode cX12_gives 23 = .ok (.bipush 8, 2) := by decide +kernel
theorem dX12_gives_25 : decode cX12_gives 25 = .ok (.if_icmp .ne 18, 3) := by decide +kernel
theorem dX12_gives_28 : decode cX12_gives 28 = .ok (.aload_n 0, 1) := by decide +kernel
theorem dX12_gives_29 : decode cX12_gives 29 = .ok (.getfield 7, 3) := by decide +kernel
theorem dX12_gives_32 : decode cX12_gives 32 = .ok (.iload_n 2, 1) := by decide +kernel
theorem dX12_gives_33 : decode cX12_gives 33 = .ok (.invokestatic 101, 3) := by decide +kernel
theorem dX12_gives_36 : decode cX12_gives 36 = .ok (.iconst 5, 1) := by decide +kernel
theorem dX12_gives_37 : decode cX12_gives 37 = .ok (.iadd, 1) := by decide +kernel
theorem dX12_gives_38 : decode cX12_gives 38 = .ok (.iconst (-1), 1) := by decide +kernel
theorem dX12_gives_39 : decode cX12_gives 39 = .ok (.iastore, 1) := by decide +kernel
theorem dX12_gives_40 : decode cX12_gives 40 = .ok (.iinc 1 1, 3) := by decide +kernel
theorem dX12_gives_43 : decode cX12_gives 43 = .ok (.iinc 2 1, 3) := by decide +kernel
theorem dX12_gives_46 : decode cX12_gives 46 = .ok (.goto (-39), 3) := by decide +kernel
theorem dX12_gives_49 : decode cX12_gives 49 = .ok (.iload_n 1, 1) := by decide +kernel
theorem dX12_gives_50 : decode cX12_gives 50 = .ok (.ireturn, 1) := by decide +kernel
theorem dX12_claim_0 : decode cX12_claim 0 = .ok (.aload_n 0, 1) := by decide +kernel
theorem dX12_claim_1 : decode cX12_claim 1 = .ok (.aload_n 0, 1) := by decide +kernel
theorem dX12_claim_2 : decode cX12_claim 2 = .ok (.iload_n 1, 1) := by decide +kernel
theorem dX12_claim_3 : decode cX12_claim 3 = .ok (.invokevirtual 69, 3) := by decide +kernel
theorem dX12_claim_6 : decode cX12_claim 6 = .ok (.ifCond .eq 7, 3) := by decide +kernel
theorem dX12_claim_9 : decode cX12_claim 9 = .ok (.iconst 0, 1) := by decide +kernel
theorem dX12_claim_10 : decode cX12_claim 10 = .ok (.goto 4, 3) := by decide +kernel
theorem dX12_claim_13 : decode cX12_claim 13 = .ok (.iconst 1, 1) := by decide +kernel
theorem dX12_claim_14 : decode cX12_claim 14 = .ok (.invokevirtual 35, 3) := by decide +kernel
theorem dX12_claim_17 : decode cX12_claim 17 = .ok (.ifCond .eq 5, 3) := by decide +kernel
theorem dX12_claim_20 : decode cX12_claim 20 = .ok (.iconst 0, 1) := by decide +kernel
theorem dX12_claim_21 : decode cX12_claim 21 = .ok (.ireturn, 1) := by decide +kernel
theorem dX12_claim_22 : decode cX12_claim 22 = .ok (.aload_n 0, 1) := by decide +kernel
theorem dX12_claim_23 : decode cX12_claim 23 = .ok (.invokevirtual 63, 3) := by decide +kernel
theorem dX12_claim_26 : decode cX12_claim 26 = .ok (.aload_n 0, 1) := by decide +kernel
theorem dX12_claim_27 : decode cX12_claim 27 = .ok (.iload_n 1, 1) := by decide +kernel
theorem dX12_claim_28 : decode cX12_claim 28 = .ok (.invokevirtual 172, 3) := by decide +kernel
theorem dX12_claim_31 : decode cX12_claim 31 = .ok (.ireturn, 1) := by decide +kernel
theorem dX12_returnLoaves_0 : decode cX12_returnLoaves 0 = .ok (.aload_n 0, 1) := by decide +kernel
theorem dX12_returnLoaves_1 : decode cX12_returnLoaves 1 = .ok (.aload_n 0, 1) := by decide +kernel
theorem dX12_returnLoaves_2 : decode cX12_returnLoaves 2 = .ok (.iload_n 1, 1) := by decide +kernel
theorem dX12_returnLoaves_3 : decode cX12_returnLoaves 3 = .ok (.invokevirtual 69, 3) := by decide +kernel
theorem dX12_returnLoaves_6 : decode cX12_returnLoaves 6 = .ok (.ifCond .eq 7, 3) := by decide +kernel
theorem dX12_returnLoaves_9 : decode cX12_returnLoaves 9 = .ok (.iconst 0, 1) := by decide +kernel
theorem dX12_returnLoaves_10 : decode cX12_returnLoaves 10 = .ok (.goto 4, 3) := by decide +kernel
theorem dX12_returnLoaves_13 : decode cX12_returnLoaves 13 = .ok (.iconst 1, 1) := by decide +kernel
theorem dX12_returnLoaves_14 : decode cX12_returnLoaves 14 = .ok (.invokevirtual 35, 3) := by decide +kernel
theorem dX12_returnLoaves_17 : decode cX12_returnLoaves 17 = .ok (.ifCond .eq 5, 3) := by decide +kernel
theorem dX12_returnLoaves_20 : decode cX12_returnLoaves 20 = .ok (.iconst 0, 1) := by decide +kernel
theorem dX12_returnLoaves_21 : decode cX12_returnLoaves 21 = .ok (.ireturn, 1) := by decide +kernel
theorem dX12_returnLoaves_22 : decode cX12_returnLoaves 22 = .ok (.aload_n 0, 1) := by decide +kernel
theorem dX12_returnLoaves_23 : decode cX12_returnLoaves 23 = .ok (.invokevirtual 63, 3) := by decide +kernel
theorem dX12_returnLoaves_26 : decode cX12_returnLoaves 26 = .ok (.aload_n 0, 1) := by decide +kernel
theorem dX12_returnLoaves_27 : decode cX12_returnLoaves 27 = .ok (.iload_n 1, 1) := by decide +kernel
theorem dX12_returnLoaves_28 : decode cX12_returnLoaves 28 = .ok (.invokevirtual 175, 3) := by decide +kernel
theorem dX12_returnLoaves_31 : decode cX12_returnLoaves 31 = .ok (.ireturn, 1) := by decide +kernel
theorem dX12_giveAway_0 : decode cX12_giveAway 0 = .ok (.aload_n 0, 1) := by decide +kernel
theorem dX12_giveAway_1 : decode cX12_giveAway 1 = .ok (.iconst 0, 1) := by decide +kernel
theorem dX12_giveAway_2 : decode cX12_giveAway 2 = .ok (.putfield 28, 3) := by decide +kernel
theorem dX12_giveAway_5 : decode cX12_giveAway 5 = .ok (.aload_n 0, 1) := by decide +kernel
theorem dX12_giveAway_6 : decode cX12_giveAway 6 = .ok (.invokevirtual 63, 3) := by decide +kernel
theorem dX12_giveAway_9 : decode cX12_giveAway 9 = .ok (.aload_n 0, 1) := by decide +kernel
theorem dX12_giveAway_10 : decode cX12_giveAway 10 = .ok (.invokevirtual 178, 3) := by decide +kernel
theorem dX12_giveAway_13 : decode cX12_giveAway 13 = .ok (.ireturn, 1) := by decide +kernel
theorem dX12_kept_0 : decode cX12_kept 0 = .ok (.iconst 0, 1) := by decide +kernel
theorem dX12_kept_1 : decode cX12_kept 1 = .ok (.istore 4, 2) := by decide +kernel
theorem dX12_kept_3 : decode cX12_kept 3 = .ok (.aload_n 0, 1) := by decide +kernel
theorem dX12_kept_4 : decode cX12_kept 4 = .ok (.invokevirtual 110, 3) := by decide +kernel
theorem dX12_kept_7 : decode cX12_kept 7 = .ok (.istore 5, 2) := by decide +kernel
theorem dX12_kept_9 : decode cX12_kept 9 = .ok (.iload 5, 2) := by decide +kernel
theorem dX12_kept_11 : decode cX12_kept 11 = .ok (.aload_n 0, 1) := by decide +kernel
theorem dX12_kept_12 : decode cX12_kept 12 = .ok (.getfield 7, 3) := by decide +kernel
theorem dX12_kept_15 : decode cX12_kept 15 = .ok (.iconst 5, 1) := by decide +kernel
theorem dX12_kept_16 : decode cX12_kept 16 = .ok (.iaload, 1) := by decide +kernel
theorem dX12_kept_17 : decode cX12_kept 17 = .ok (.if_icmp .ge 49, 3) := by decide +kernel
theorem dX12_kept_20 : decode cX12_kept 20 = .ok (.iload 4, 2) := by decide +kernel
theorem dX12_kept_22 : decode cX12_kept 22 = .ok (.iload_n 2, 1) := by decide +kernel
theorem dX12_kept_23 : decode cX12_kept 23 = .ok (.ifCond .eq 14, 3) := by decide +kernel
theorem dX12_kept_26 : decode cX12_kept 26 = .ok (.aload_n 0, 1) := by decide +kernel
theorem dX12_kept_27 : decode cX12_kept 27 = .ok (.iload 5, 2) := by decide +kernel
theorem dX12_kept_29 : decode cX12_kept 29 = .ok (.iconst 0, 1) := by decide +kernel
theorem dX12_kept_30 : decode cX12_kept 30 = .ok (.invokevirtual 113, 3) := by decide +kernel
theorem dX12_kept_33 : decode cX12_kept 33 = .ok (.iload_n 1, 1) := by decide +kernel
theorem dX12_kept_34 : decode cX12_kept 34 = .ok (.if_icmp .ne 22, 3) := by decide +kernel
theorem dX12_kept_37 : decode cX12_kept 37 = .ok (.iload_n 3, 1) := by decide +kernel
theorem dX12_kept_38 : decode cX12_kept 38 = .ok (.ifCond .eq 14, 3) := by decide +kernel
theorem dX12_kept_41 : decode cX12_kept 41 = .ok (.aload_n 0, 1) := by decide +kernel
theorem dX12_kept_42 : decode cX12_kept 42 = .ok (.iload 5, 2) := by decide +kernel
theorem dX12_kept_44 : decode cX12_kept 44 = .ok (.iconst 5, 1) := by decide +kernel
theorem dX12_kept_45 : decode cX12_kept 45 = .ok (.invokevirtual 113, 3) := by decide +kernel
theorem dX12_kept_48 : decode cX12_kept 48 = .ok (.iload_n 1, 1) := by decide +kernel
theorem dX12_kept_49 : decode cX12_kept 49 = .ok (.if_icmp .ne 7, 3) := by decide +kernel
theorem dX12_kept_52 : decode cX12_kept 52 = .ok (.iconst 1, 1) := by decide +kernel
theorem dX12_kept_53 : decode cX12_kept 53 = .ok (.goto 4, 3) := by decide +kernel
theorem dX12_kept_56 : decode cX12_kept 56 = .ok (.iconst 0, 1) := by decide +kernel
theorem dX12_kept_57 : decode cX12_kept 57 = .ok (.iadd, 1) := by decide +kernel
theorem dX12_kept_58 : decode cX12_kept 58 = .ok (.istore 4, 2) := by decide +kernel
theorem dX12_kept_60 : decode cX12_kept 60 = .ok (.iinc 5 1, 3) := by decide +kernel
theorem dX12_kept_63 : decode cX12_kept 63 = .ok (.goto (-54), 3) := by decide +kernel
theorem dX12_kept_66 : decode cX12_kept 66 = .ok (.iload 4, 2) := by decide +kernel
theorem dX12_kept_68 : decode cX12_kept 68 = .ok (.ireturn, 1) := by decide +kernel
theorem dX12_tellHouse_0 : decode cX12_tellHouse 0 = .ok (.iconst 0, 1) := by decide +kernel
theorem dX12_tellHouse_1 : decode cX12_tellHouse 1 = .ok (.istore_n 3, 1) := by decide +kernel
theorem dX12_tellHouse_2 : decode cX12_tellHouse 2 = .ok (.iload_n 2, 1) := by decide +kernel
theorem dX12_tellHouse_3 : decode cX12_tellHouse 3 = .ok (.tableswitch 100 4 7 #[29, 37, 45, 53], 29) := by decide +kernel
theorem dX12_tellHouse_32 : decode cX12_tellHouse 32 = .ok (.aload_n 0, 1) := by decide +kernel
theorem dX12_tellHouse_33 : decode cX12_tellHouse 33 = .ok (.iload_n 1, 1) := by decide +kernel
theorem dX12_tellHouse_34 : decode cX12_tellHouse 34 = .ok (.iconst 1, 1) := by decide +kernel
theorem dX12_tellHouse_35 : decode cX12_tellHouse 35 = .ok (.iconst 0, 1) := by decide +kernel
theorem dX12_tellHouse_36 : decode cX12_tellHouse 36 = .ok (.invokevirtual 181, 3) := by decide +kernel
theorem dX12_tellHouse_39 : decode cX12_tellHouse 39 = .ok (.ireturn, 1) := by decide +kernel
theorem dX12_tellHouse_40 : decode cX12_tellHouse 40 = .ok (.aload_n 0, 1) := by decide +kernel
theorem dX12_tellHouse_41 : decode cX12_tellHouse 41 = .ok (.iload_n 1, 1) := by decide +kernel
theorem dX12_tellHouse_42 : decode cX12_tellHouse 42 = .ok (.iconst 0, 1) := by decide +kernel
theorem dX12_tellHouse_43 : decode cX12_tellHouse 43 = .ok (.iconst 1, 1) := by decide +kernel
theorem dX12_tellHouse_44 : decode cX12_tellHouse 44 = .ok (.invokevirtual 181, 3) := by decide +kernel
theorem dX12_tellHouse_47 : decode cX12_tellHouse 47 = .ok (.ireturn, 1) := by decide +kernel
theorem dX12_tellHouse_48 : decode cX12_tellHouse 48 = .ok (.aload_n 0, 1) := by decide +kernel
theorem dX12_tellHouse_49 : decode cX12_tellHouse 49 = .ok (.iload_n 1, 1) := by decide +kernel
theorem dX12_tellHouse_50 : decode cX12_tellHouse 50 = .ok (.iconst 1, 1) := by decide +kernel
theorem dX12_tellHouse_51 : decode cX12_tellHouse 51 = .ok (.iconst 1, 1) := by decide +kernel
theorem dX12_tellHouse_52 : decode cX12_tellHouse 52 = .ok (.invokevirtual 181, 3) := by decide +kernel
theorem dX12_tellHouse_55 : decode cX12_tellHouse 55 = .ok (.ireturn, 1) := by decide +kernel
theorem dX12_tellHouse_56 : decode cX12_tellHouse 56 = .ok (.iconst 0, 1) := by decide +kernel
theorem dX12_tellHouse_57 : decode cX12_tellHouse 57 = .ok (.istore 4, 2) := by decide +kernel
theorem dX12_tellHouse_59 : decode cX12_tellHouse 59 = .ok (.iload 4, 2) := by decide +kernel
theorem dX12_tellHouse_61 : decode cX12_tellHouse 61 = .ok (.aload_n 0, 1) := by decide +kernel
theorem dX12_tellHouse_62 : decode cX12_tellHouse 62 = .ok (.getfield 7, 3) := by decide +kernel
theorem dX12_tellHouse_65 : decode cX12_tellHouse 65 = .ok (.bipush 7, 2) := by decide +kernel
theorem dX12_tellHouse_67 : decode cX12_tellHouse 67 = .ok (.iaload, 1) := by decide +kernel
theorem dX12_tellHouse_68 : decode cX12_tellHouse 68 = .ok (.if_icmp .ge 33, 3) := by decide +kernel
theorem dX12_tellHouse_71 : decode cX12_tellHouse 71 = .ok (.iload_n 3, 1) := by decide +kernel
theorem dX12_tellHouse_72 : decode cX12_tellHouse 72 = .ok (.aload_n 0, 1) := by decide +kernel
theorem dX12_tellHouse_73 : decode cX12_tellHouse 73 = .ok (.getfield 7, 3) := by decide +kernel
theorem dX12_tellHouse_76 : decode cX12_tellHouse 76 = .ok (.bipush 41, 2) := by decide +kernel
theorem dX12_tellHouse_78 : decode cX12_tellHouse 78 = .ok (.iconst 3, 1) := by decide +kernel
theorem dX12_tellHouse_79 : decode cX12_tellHouse 79 = .ok (.iload 4, 2) := by decide +kernel
theorem dX12_tellHouse_81 : decode cX12_tellHouse 81 = .ok (.imul, 1) := by decide +kernel
theorem dX12_tellHouse_82 : decode cX12_tellHouse 82 = .ok (.iadd, 1) := by decide +kernel
theorem dX12_tellHouse_83 : decode cX12_tellHouse 83 = .ok (.iaload, 1) := by decide +kernel
theorem dX12_tellHouse_84 : decode cX12_tellHouse 84 = .ok (.iload_n 1, 1) := by decide +kernel
theorem dX12_tellHouse_85 : decode cX12_tellHouse 85 = .ok (.if_icmp .ne 7, 3) := by decide +kernel
theorem dX12_tellHouse_88 : decode cX12_tellHouse 88 = .ok (.iconst 1, 1) := by decide +kernel
theorem dX12_tellHouse_89 : decode cX12_tellHouse 89 = .ok (.goto 4, 3) := by decide +kernel
theorem dX12_tellHouse_92 : decode cX12_tellHouse 92 = .ok (.iconst 0, 1) := by decide +kernel
theorem dX12_tellHouse_93 : decode cX12_tellHouse 93 = .ok (.iadd, 1) := by decide +kernel
theorem dX12_tellHouse_94 : decode cX12_tellHouse 94 = .ok (.istore_n 3, 1) := by decide +kernel
theorem dX12_tellHouse_95 : decode cX12_tellHouse 95 = .ok (.iinc 4 1, 3) := by decide +kernel
theorem dX12_tellHouse_98 : decode cX12_tellHouse 98 = .ok (.goto (-39), 3) := by decide +kernel
theorem dX12_tellHouse_101 : decode cX12_tellHouse 101 = .ok (.iload_n 3, 1) := by decide +kernel
theorem dX12_tellHouse_102 : decode cX12_tellHouse 102 = .ok (.ireturn, 1) := by decide +kernel
theorem dX12_tellHouse_103 : decode cX12_tellHouse 103 = .ok (.aload_n 0, 1) := by decide +kernel
theorem dX12_tellHouse_104 : decode cX12_tellHouse 104 = .ok (.iload_n 1, 1) := by decide +kernel
theorem dX12_tellHouse_105 : decode cX12_tellHouse 105 = .ok (.iload_n 2, 1) := by decide +kernel
theorem dX12_tellHouse_106 : decode cX12_tellHouse 106 = .ok (.invokevirtual 44, 3) := by decide +kernel
theorem dX12_tellHouse_109 : decode cX12_tellHouse 109 = .ok (.ireturn, 1) := by decide +kernel
theorem dX12_household_0 : decode cX12_household 0 = .ok (.aload_n 0, 1) := by decide +kernel
theorem dX12_household_1 : decode cX12_household 1 = .ok (.aload_n 0, 1) := by decide +kernel
theorem dX12_household_2 : decode cX12_household 2 = .ok (.iload_n 1, 1) := by decide +kernel
theorem dX12_household_3 : decode cX12_household 3 = .ok (.invokevirtual 69, 3) := by decide +kernel
theorem dX12_household_6 : decode cX12_household 6 = .ok (.ifCond .ne 7, 3) := by decide +kernel
theorem dX12_household_9 : decode cX12_household 9 = .ok (.iconst 1, 1) := by decide +kernel
theorem dX12_household_10 : decode cX12_household 10 = .ok (.goto 18, 3) := by decide +kernel
theorem dX12_household_13 : decode cX12_household 13 = .ok (.iload_n 2, 1) := by decide +kernel
theorem dX12_household_14 : decode cX12_household 14 = .ok (.iconst 0, 1) := by decide +kernel
theorem dX12_household_15 : decode cX12_household 15 = .ok (.bipush 7, 2) := by decide +kernel
theorem dX12_household_17 : decode cX12_household 17 = .ok (.invokestatic 39, 3) := by decide +kernel
theorem dX12_household_20 : decode cX12_household 20 = .ok (.ifCond .eq 7, 3) := by decide +kernel
theorem dX12_household_23 : decode cX12_household 23 = .ok (.iconst 0, 1) := by decide +kernel
theorem dX12_household_24 : decode cX12_household 24 = .ok (.goto 4, 3) := by decide +kernel
theorem dX12_household_27 : decode cX12_household 27 = .ok (.iconst 2, 1) := by decide +kernel
theorem dX12_household_28 : decode cX12_household 28 = .ok (.invokevirtual 35, 3) := by decide +kernel
theorem dX12_household_31 : decode cX12_household 31 = .ok (.ifCond .eq 7, 3) := by decide +kernel
theorem dX12_household_34 : decode cX12_household 34 = .ok (.iconst 0, 1) := by decide +kernel
theorem dX12_household_35 : decode cX12_household 35 = .ok (.goto 9, 3) := by decide +kernel
theorem dX12_household_38 : decode cX12_household 38 = .ok (.aload_n 0, 1) := by decide +kernel
theorem dX12_household_39 : decode cX12_household 39 = .ok (.iload_n 1, 1) := by decide +kernel
theorem dX12_household_40 : decode cX12_household 40 = .ok (.iload_n 2, 1) := by decide +kernel
theorem dX12_household_41 : decode cX12_household 41 = .ok (.invokevirtual 185, 3) := by decide +kernel
theorem dX12_household_44 : decode cX12_household 44 = .ok (.ireturn, 1) := by decide +kernel
theorem dX12_due_0 : decode cX12_due 0 = .ok (.aload_n 0, 1) := by decide +kernel
theorem dX12_due_1 : decode cX12_due 1 = .ok (.aload_n 0, 1) := by decide +kernel
theorem dX12_due_2 : decode cX12_due 2 = .ok (.iload_n 1, 1) := by decide +kernel
theorem dX12_due_3 : decode cX12_due 3 = .ok (.invokevirtual 69, 3) := by decide +kernel
theorem dX12_due_6 : decode cX12_due 6 = .ok (.ifCond .eq 7, 3) := by decide +kernel
theorem dX12_due_9 : decode cX12_due 9 = .ok (.iconst 0, 1) := by decide +kernel
theorem dX12_due_10 : decode cX12_due 10 = .ok (.goto 4, 3) := by decide +kernel
theorem dX12_due_13 : decode cX12_due 13 = .ok (.iconst 1, 1) := by decide +kernel
theorem dX12_due_14 : decode cX12_due 14 = .ok (.invokevirtual 35, 3) := by decide +kernel
theorem dX12_due_17 : decode cX12_due 17 = .ok (.ifCond .eq 7, 3) := by decide +kernel
theorem dX12_due_20 : decode cX12_due 20 = .ok (.lconst 0, 1) := by decide +kernel
theorem dX12_due_21 : decode cX12_due 21 = .ok (.goto 8, 3) := by decide +kernel
theorem dX12_due_24 : decode cX12_due 24 = .ok (.aload_n 0, 1) := by decide +kernel
theorem dX12_due_25 : decode cX12_due 25 = .ok (.iload_n 1, 1) := by decide +kernel
theorem dX12_due_26 : decode cX12_due 26 = .ok (.invokevirtual 79, 3) := by decide +kernel
theorem dX12_due_29 : decode cX12_due 29 = .ok (.lreturn, 1) := by decide +kernel
theorem dX12_nextForWood_0 : decode cX12_nextForWood 0 = .ok (.aload_n 0, 1) := by decide +kernel
theorem dX12_nextForWood_1 : decode cX12_nextForWood 1 = .ok (.iconst 0, 1) := by decide +kernel
theorem dX12_nextForWood_2 : decode cX12_nextForWood 2 = .ok (.putfield 28, 3) := by decide +kernel
theorem dX12_nextForWood_5 : decode cX12_nextForWood 5 = .ok (.aload_n 0, 1) := by decide +kernel
theorem dX12_nextForWood_6 : decode cX12_nextForWood 6 = .ok (.invokevirtual 147, 3) := by decide +kernel
theorem dX12_nextForWood_9 : decode cX12_nextForWood 9 = .ok (.ireturn, 1) := by decide +kernel
theorem dX12_balance_0 : decode cX12_balance 0 = .ok (.aload_n 0, 1) := by decide +kernel
theorem dX12_balance_1 : decode cX12_balance 1 = .ok (.aload_n 0, 1) := by decide +kernel
theorem dX12_balance_2 : decode cX12_balance 2 = .ok (.iload_n 1, 1) := by decide +kernel
theorem dX12_balance_3 : decode cX12_balance 3 = .ok (.invokevirtual 69, 3) := by decide +kernel
theorem dX12_balance_6 : decode cX12_balance 6 = .ok (.ifCond .ne 7, 3) := by decide +kernel
theorem dX12_balance_9 : decode cX12_balance 9 = .ok (.iconst 1, 1) := by decide +kernel
theorem dX12_balance_10 : decode cX12_balance 10 = .ok (.goto 17, 3) := by decide +kernel
theorem dX12_balance_13 : decode cX12_balance 13 = .ok (.iload_n 2, 1) := by decide +kernel
theorem dX12_balance_14 : decode cX12_balance 14 = .ok (.iconst 0, 1) := by decide +kernel
theorem dX12_balance_15 : decode cX12_balance 15 = .ok (.iconst 2, 1) := by decide +kernel
theorem dX12_balance_16 : decode cX12_balance 16 = .ok (.invokestatic 39, 3) := by decide +kernel
theorem dX12_balance_19 : decode cX12_balance 19 = .ok (.ifCond .eq 7, 3) := by decide +kernel
theorem dX12_balance_22 : decode cX12_balance 22 = .ok (.iconst 0, 1) := by decide +kernel
theorem dX12_balance_23 : decode cX12_balance 23 = .ok (.goto 4, 3) := by decide +kernel
theorem dX12_balance_26 : decode cX12_balance 26 = .ok (.iconst 2, 1) := by decide +kernel
theorem dX12_balance_27 : decode cX12_balance 27 = .ok (.invokevirtual 35, 3) := by decide +kernel
theorem dX12_balance_30 : decode cX12_balance 30 = .ok (.ifCond .eq 7, 3) := by decide +kernel
theorem dX12_balance_33 : decode cX12_balance 33 = .ok (.iconst 0, 1) := by decide +kernel
theorem dX12_balance_34 : decode cX12_balance 34 = .ok (.goto 9, 3) := by decide +kernel
theorem dX12_balance_37 : decode cX12_balance 37 = .ok (.aload_n 0, 1) := by decide +kernel
theorem dX12_balance_38 : decode cX12_balance 38 = .ok (.iload_n 1, 1) := by decide +kernel
theorem dX12_balance_39 : decode cX12_balance 39 = .ok (.iload_n 2, 1) := by decide +kernel
theorem dX12_balance_40 : decode cX12_balance 40 = .ok (.invokevirtual 169, 3) := by decide +kernel
theorem dX12_balance_43 : decode cX12_balance 43 = .ok (.ireturn, 1) := by decide +kernel
theorem dX12_behind_0 : decode cX12_behind 0 = .ok (.iload_n 1, 1) := by decide +kernel
theorem dX12_behind_1 : decode cX12_behind 1 = .ok (.aload_n 0, 1) := by decide +kernel
theorem dX12_behind_2 : decode cX12_behind 2 = .ok (.invokevirtual 147, 3) := by decide +kernel
theorem dX12_behind_5 : decode cX12_behind 5 = .ok (.isub, 1) := by decide +kernel
theorem dX12_behind_6 : decode cX12_behind 6 = .ok (.aload_n 0, 1) := by decide +kernel
theorem dX12_behind_7 : decode cX12_behind 7 = .ok (.getfield 7, 3) := by decide +kernel
theorem dX12_behind_10 : decode cX12_behind 10 = .ok (.iconst 0, 1) := by decide +kernel
theorem dX12_behind_11 : decode cX12_behind 11 = .ok (.iaload, 1) := by decide +kernel
theorem dX12_behind_12 : decode cX12_behind 12 = .ok (.iadd, 1) := by decide +kernel
theorem dX12_behind_13 : decode cX12_behind 13 = .ok (.aload_n 0, 1) := by decide +kernel
theorem dX12_behind_14 : decode cX12_behind 14 = .ok (.getfield 7, 3) := by decide +kernel
theorem dX12_behind_17 : decode cX12_behind 17 = .ok (.iconst 0, 1) := by decide +kernel
theorem dX12_behind_18 : decode cX12_behind 18 = .ok (.iaload, 1) := by decide +kernel
theorem dX12_behind_19 : decode cX12_behind 19 = .ok (.irem, 1) := by decide +kernel
theorem dX12_behind_20 : decode cX12_behind 20 = .ok (.ireturn, 1) := by decide +kernel
theorem dX12_placeOf_0 : decode cX12_placeOf 0 = .ok (.aload_n 0, 1) := by decide +kernel
theorem dX12_placeOf_1 : decode cX12_placeOf 1 = .ok (.aload_n 0, 1) := by decide +kernel
theorem dX12_placeOf_2 : decode cX12_placeOf 2 = .ok (.getfield 7, 3) := by decide +kernel
theorem dX12_placeOf_5 : decode cX12_placeOf 5 = .ok (.bipush 41, 2) := by decide +kernel
theorem dX12_placeOf_7 : decode cX12_placeOf 7 = .ok (.iconst 3, 1) := by decide +kernel
theorem dX12_placeOf_8 : decode cX12_placeOf 8 = .ok (.iload_n 1, 1) := by decide +kernel
theorem dX12_placeOf_9 : decode cX12_placeOf 9 = .ok (.imul, 1) := by decide +kernel
theorem dX12_placeOf_10 : decode cX12_placeOf 10 = .ok (.iadd, 1) := by decide +kernel
theorem dX12_placeOf_11 : decode cX12_placeOf 11 = .ok (.iaload, 1) := by decide +kernel
theorem dX12_placeOf_12 : decode cX12_placeOf 12 = .ok (.invokevirtual 188, 3) := by decide +kernel
theorem dX12_placeOf_15 : decode cX12_placeOf 15 = .ok (.istore_n 2, 1) := by decide +kernel
theorem dX12_placeOf_16 : decode cX12_placeOf 16 = .ok (.iconst 0, 1) := by decide +kernel
theorem dX12_placeOf_17 : decode cX12_placeOf 17 = .ok (.istore_n 3, 1) := by decide +kernel
theorem dX12_placeOf_18 : decode cX12_placeOf 18 = .ok (.iconst 0, 1) := by decide +kernel
theorem dX12_placeOf_19 : decode cX12_placeOf 19 = .ok (.istore 4, 2) := by decide +kernel
theorem dX12_placeOf_21 : decode cX12_placeOf 21 = .ok (.iload 4, 2) := by decide +kernel
theorem dX12_placeOf_23 : decode cX12_placeOf 23 = .ok (.aload_n 0, 1) := by decide +kernel
theorem dX12_placeOf_24 : decode cX12_placeOf 24 = .ok (.getfield 7, 3) := by decide +kernel
theorem dX12_placeOf_27 : decode cX12_placeOf 27 = .ok (.bipush 7, 2) := by decide +kernel
theorem dX12_placeOf_29 : decode cX12_placeOf 29 = .ok (.iaload, 1) := by decide +kernel
theorem dX12_placeOf_30 : decode cX12_placeOf 30 = .ok (.if_icmp .ge 53, 3) := by decide +kernel
theorem dX12_placeOf_33 : decode cX12_placeOf 33 = .ok (.aload_n 0, 1) := by decide +kernel
theorem dX12_placeOf_34 : decode cX12_placeOf 34 = .ok (.aload_n 0, 1) := by decide +kernel
theorem dX12_placeOf_35 : decode cX12_placeOf 35 = .ok (.getfield 7, 3) := by decide +kernel
theorem dX12_placeOf_38 : decode cX12_placeOf 38 = .ok (.bipush 41, 2) := by decide +kernel
theorem dX12_placeOf_40 : decode cX12_placeOf 40 = .ok (.iconst 3, 1) := by decide +kernel
theorem dX12_placeOf_41 : decode cX12_placeOf 41 = .ok (.iload 4, 2) := by decide +kernel
theorem dX12_placeOf_43 : decode cX12_placeOf 43 = .ok (.imul, 1) := by decide +kernel
theorem dX12_placeOf_44 : decode cX12_placeOf 44 = .ok (.iadd, 1) := by decide +kernel
theorem dX12_placeOf_45 : decode cX12_placeOf 45 = .ok (.iaload, 1) := by decide +kernel
theorem dX12_placeOf_46 : decode cX12_placeOf 46 = .ok (.invokevirtual 188, 3) := by decide +kernel
theorem dX12_placeOf_49 : decode cX12_placeOf 49 = .ok (.istore 5, 2) := by decide +kernel
theorem dX12_placeOf_51 : decode cX12_placeOf 51 = .ok (.iload_n 3, 1) := by decide +kernel
theorem dX12_placeOf_52 : decode cX12_placeOf 52 = .ok (.iload 5, 2) := by decide +kernel
theorem dX12_placeOf_54 : decode cX12_placeOf 54 = .ok (.iload_n 2, 1) := by decide +kernel
theorem dX12_placeOf_55 : decode cX12_placeOf 55 = .ok (.if_icmp .lt 15, 3) := by decide +kernel
theorem dX12_placeOf_58 : decode cX12_placeOf 58 = .ok (.iload 5, 2) := by decide +kernel
theorem dX12_placeOf_60 : decode cX12_placeOf 60 = .ok (.iload_n 2, 1) := by decide +kernel
theorem dX12_placeOf_61 : decode cX12_placeOf 61 = .ok (.if_icmp .ne 13, 3) := by decide +kernel
theorem dX12_placeOf_64 : decode cX12_placeOf 64 = .ok (.iload 4, 2) := by decide +kernel
theorem dX12_placeOf_66 : decode cX12_placeOf 66 = .ok (.iload_n 1, 1) := by decide +kernel
theorem dX12_placeOf_67 : decode cX12_placeOf 67 = .ok (.if_icmp .ge 7, 3) := by decide +kernel
theorem dX12_placeOf_70 : decode cX12_placeOf 70 = .ok (.iconst 1, 1) := by decide +kernel
theorem dX12_placeOf_71 : decode cX12_placeOf 71 = .ok (.goto 4, 3) := by decide +kernel
theorem dX12_placeOf_74 : decode cX12_placeOf 74 = .ok (.iconst 0, 1) := by decide +kernel
theorem dX12_placeOf_75 : decode cX12_placeOf 75 = .ok (.iadd, 1) := by decide +kernel
theorem dX12_placeOf_76 : decode cX12_placeOf 76 = .ok (.istore_n 3, 1) := by decide +kernel
theorem dX12_placeOf_77 : decode cX12_placeOf 77 = .ok (.iinc 4 1, 3) := by decide +kernel
theorem dX12_placeOf_80 : decode cX12_placeOf 80 = .ok (.goto (-59), 3) := by decide +kernel
theorem dX12_placeOf_83 : decode cX12_placeOf 83 = .ok (.iload_n 3, 1) := by decide +kernel
theorem dX12_placeOf_84 : decode cX12_placeOf 84 = .ok (.ireturn, 1) := by decide +kernel
theorem dX12_batch_0 : decode cX12_batch 0 = .ok (.aload_n 0, 1) := by decide +kernel
theorem dX12_batch_1 : decode cX12_batch 1 = .ok (.iload_n 1, 1) := by decide +kernel
theorem dX12_batch_2 : decode cX12_batch 2 = .ok (.ifCond .lt 12, 3) := by decide +kernel
theorem dX12_batch_5 : decode cX12_batch 5 = .ok (.iload_n 2, 1) := by decide +kernel
theorem dX12_batch_6 : decode cX12_batch 6 = .ok (.iconst 0, 1) := by decide +kernel
theorem dX12_batch_7 : decode cX12_batch 7 = .ok (.iconst 3, 1) := by decide +kernel
theorem dX12_batch_8 : decode cX12_batch 8 = .ok (.invokestatic 39, 3) := by decide +kernel
theorem dX12_batch_11 : decode cX12_batch 11 = .ok (.ifCond .ne 7, 3) := by decide +kernel
theorem dX12_batch_14 : decode cX12_batch 14 = .ok (.iconst 1, 1) := by decide +kernel
theorem dX12_batch_15 : decode cX12_batch 15 = .ok (.goto 4, 3) := by decide +kernel
theorem dX12_batch_18 : decode cX12_batch 18 = .ok (.iconst 0, 1) := by decide +kernel
theorem dX12_batch_19 : decode cX12_batch 19 = .ok (.invokevirtual 35, 3) := by decide +kernel
theorem dX12_batch_22 : decode cX12_batch 22 = .ok (.ifCond .eq 5, 3) := by decide +kernel
theorem dX12_batch_25 : decode cX12_batch 25 = .ok (.iconst 0, 1) := by decide +kernel
theorem dX12_batch_26 : decode cX12_batch 26 = .ok (.ireturn, 1) := by decide +kernel
theorem dX12_batch_27 : decode cX12_batch 27 = .ok (.iload_n 1, 1) := by decide +kernel
theorem dX12_batch_28 : decode cX12_batch 28 = .ok (.aload_n 0, 1) := by decide +kernel
theorem dX12_batch_29 : decode cX12_batch 29 = .ok (.getfield 7, 3) := by decide +kernel
theorem dX12_batch_32 : decode cX12_batch 32 = .ok (.bipush 7, 2) := by decide +kernel
theorem dX12_batch_34 : decode cX12_batch 34 = .ok (.iaload, 1) := by decide +kernel
theorem dX12_batch_35 : decode cX12_batch 35 = .ok (.if_icmp .lt 7, 3) := by decide +kernel
theorem dX12_batch_38 : decode cX12_batch 38 = .ok (.iconst (-1), 1) := by decide +kernel
theorem dX12_batch_39 : decode cX12_batch 39 = .ok (.goto 29, 3) := by decide +kernel
theorem dX12_batch_42 : decode cX12_batch 42 = .ok (.iload_n 2, 1) := by decide +kernel
theorem dX12_batch_43 : decode cX12_batch 43 = .ok (.iconst 3, 1) := by decide +kernel
theorem dX12_batch_44 : decode cX12_batch 44 = .ok (.if_icmp .ne 11, 3) := by decide +kernel
theorem dX12_batch_47 : decode cX12_batch 47 = .ok (.aload_n 0, 1) := by decide +kernel
theorem dX12_batch_48 : decode cX12_batch 48 = .ok (.iload_n 1, 1) := by decide +kernel
theorem dX12_batch_49 : decode cX12_batch 49 = .ok (.invokevirtual 191, 3) := by decide +kernel
theorem dX12_batch_52 : decode cX12_batch 52 = .ok (.goto 16, 3) := by decide +kernel
theorem dX12_batch_55 : decode cX12_batch 55 = .ok (.aload_n 0, 1) := by decide +kernel
theorem dX12_batch_56 : decode cX12_batch 56 = .ok (.getfield 7, 3) := by decide +kernel
theorem dX12_batch_59 : decode cX12_batch 59 = .ok (.bipush 41, 2) := by decide +kernel
theorem dX12_batch_61 : decode cX12_batch 61 = .ok (.iconst 3, 1) := by decide +kernel
theorem dX12_batch_62 : decode cX12_batch 62 = .ok (.iload_n 1, 1) := by decide +kernel
theorem dX12_batch_63 : decode cX12_batch 63 = .ok (.imul, 1) := by decide +kernel
theorem dX12_batch_64 : decode cX12_batch 64 = .ok (.iadd, 1) := by decide +kernel
theorem dX12_batch_65 : decode cX12_batch 65 = .ok (.iload_n 2, 1) := by decide +kernel
theorem dX12_batch_66 : decode cX12_batch 66 = .ok (.iadd, 1) := by decide +kernel
theorem dX12_batch_67 : decode cX12_batch 67 = .ok (.iaload, 1) := by decide +kernel
theorem dX12_batch_68 : decode cX12_batch 68 = .ok (.ireturn, 1) := by decide +kernel
theorem dX12_loaf_0 : decode cX12_loaf 0 = .ok (.aload_n 0, 1) := by decide +kernel
theorem dX12_loaf_1 : decode cX12_loaf 1 = .ok (.iload_n 1, 1) := by decide +kernel
theorem dX12_loaf_2 : decode cX12_loaf 2 = .ok (.aload_n 0, 1) := by decide +kernel
theorem dX12_loaf_3 : decode cX12_loaf 3 = .ok (.invokevirtual 110, 3) := by decide +kernel
theorem dX12_loaf_6 : decode cX12_loaf 6 = .ok (.aload_n 0, 1) := by decide +kernel
theorem dX12_loaf_7 : decode cX12_loaf 7 = .ok (.getfield 7, 3) := by decide +kernel
theorem dX12_loaf_10 : decode cX12_loaf 10 = .ok (.iconst 5, 1) := by decide +kernel
theorem dX12_loaf_11 : decode cX12_loaf 11 = .ok (.iaload, 1) := by decide +kernel
theorem dX12_loaf_12 : decode cX12_loaf 12 = .ok (.iconst 1, 1) := by decide +kernel
theorem dX12_loaf_13 : decode cX12_loaf 13 = .ok (.isub, 1) := by decide +kernel
theorem dX12_loaf_14 : decode cX12_loaf 14 = .ok (.invokestatic 39, 3) := by decide +kernel
theorem dX12_loaf_17 : decode cX12_loaf 17 = .ok (.ifCond .ne 7, 3) := by decide +kernel
theorem dX12_loaf_20 : decode cX12_loaf 20 = .ok (.iconst 1, 1) := by decide +kernel
theorem dX12_loaf_21 : decode cX12_loaf 21 = .ok (.goto 18, 3) := by decide +kernel
theorem dX12_loaf_24 : decode cX12_loaf 24 = .ok (.iload_n 2, 1) := by decide +kernel
theorem dX12_loaf_25 : decode cX12_loaf 25 = .ok (.iconst 0, 1) := by decide +kernel
theorem dX12_loaf_26 : decode cX12_loaf 26 = .ok (.bipush 6, 2) := by decide +kernel
theorem dX12_loaf_28 : decode cX12_loaf 28 = .ok (.invokestatic 39, 3) := by decide +kernel
theorem dX12_loaf_31 : decode cX12_loaf 31 = .ok (.ifCond .eq 7, 3) := by decide +kernel
theorem dX12_loaf_34 : decode cX12_loaf 34 = .ok (.iconst 0, 1) := by decide +kernel
theorem dX12_loaf_35 : decode cX12_loaf 35 = .ok (.goto 4, 3) := by decide +kernel
theorem dX12_loaf_38 : decode cX12_loaf 38 = .ok (.iconst 2, 1) := by decide +kernel
theorem dX12_loaf_39 : decode cX12_loaf 39 = .ok (.invokevirtual 35, 3) := by decide +kernel
theorem dX12_loaf_42 : decode cX12_loaf 42 = .ok (.ifCond .eq 7, 3) := by decide +kernel
theorem dX12_loaf_45 : decode cX12_loaf 45 = .ok (.iconst 0, 1) := by decide +kernel
theorem dX12_loaf_46 : decode cX12_loaf 46 = .ok (.goto 9, 3) := by decide +kernel
theorem dX12_loaf_49 : decode cX12_loaf 49 = .ok (.aload_n 0, 1) := by decide +kernel
theorem dX12_loaf_50 : decode cX12_loaf 50 = .ok (.iload_n 1, 1) := by decide +kernel
theorem dX12_loaf_51 : decode cX12_loaf 51 = .ok (.iload_n 2, 1) := by decide +kernel
theorem dX12_loaf_52 : decode cX12_loaf 52 = .ok (.invokevirtual 113, 3) := by decide +kernel
theorem dX12_loaf_55 : decode cX12_loaf 55 = .ok (.ireturn, 1) := by decide +kernel
theorem dX12_load_0 : decode cX12_load 0 = .ok (.aload_n 0, 1) := by decide +kernel
theorem dX12_load_1 : decode cX12_load 1 = .ok (.iload_n 1, 1) := by decide +kernel
theorem dX12_load_2 : decode cX12_load 2 = .ok (.ifCond .lt 12, 3) := by decide +kernel
theorem dX12_load_5 : decode cX12_load 5 = .ok (.iload_n 2, 1) := by decide +kernel
theorem dX12_load_6 : decode cX12_load 6 = .ok (.iconst 0, 1) := by decide +kernel
theorem dX12_load_7 : decode cX12_load 7 = .ok (.iconst 4, 1) := by decide +kernel
theorem dX12_load_8 : decode cX12_load 8 = .ok (.invokestatic 39, 3) := by decide +kernel
theorem dX12_load_11 : decode cX12_load 11 = .ok (.ifCond .ne 7, 3) := by decide +kernel
theorem dX12_load_14 : decode cX12_load 14 = .ok (.iconst 1, 1) := by decide +kernel
theorem dX12_load_15 : decode cX12_load 15 = .ok (.goto 4, 3) := by decide +kernel
theorem dX12_load_18 : decode cX12_load 18 = .ok (.iconst 0, 1) := by decide +kernel
theorem dX12_load_19 : decode cX12_load 19 = .ok (.invokevirtual 35, 3) := by decide +kernel
theorem dX12_load_22 : decode cX12_load 22 = .ok (.ifCond .eq 5, 3) := by decide +kernel
theorem dX12_load_25 : decode cX12_load 25 = .ok (.iconst 0, 1) := by decide +kernel
theorem dX12_load_26 : decode cX12_load 26 = .ok (.ireturn, 1) := by decide +kernel
theorem dX12_load_27 : decode cX12_load 27 = .ok (.iload_n 1, 1) := by decide +kernel
theorem dX12_load_28 : decode cX12_load 28 = .ok (.aload_n 0, 1) := by decide +kernel
theorem dX12_load_29 : decode cX12_load 29 = .ok (.getfield 7, 3) := by decide +kernel
theorem dX12_load_32 : decode cX12_load 32 = .ok (.bipush 8, 2) := by decide +kernel
theorem dX12_load_34 : decode cX12_load 34 = .ok (.iaload, 1) := by decide +kernel
theorem dX12_load_35 : decode cX12_load 35 = .ok (.if_icmp .lt 7, 3) := by decide +kernel
theorem dX12_load_38 : decode cX12_load 38 = .ok (.iconst (-1), 1) := by decide +kernel
theorem dX12_load_39 : decode cX12_load 39 = .ok (.goto 16, 3) := by decide +kernel
theorem dX12_load_42 : decode cX12_load 42 = .ok (.aload_n 0, 1) := by decide +kernel
theorem dX12_load_43 : decode cX12_load 43 = .ok (.getfield 7, 3) := by decide +kernel
theorem dX12_load_46 : decode cX12_load 46 = .ok (.bipush 101, 2) := by decide +kernel
theorem dX12_load_48 : decode cX12_load 48 = .ok (.iconst 5, 1) := by decide +kernel
theorem dX12_load_49 : decode cX12_load 49 = .ok (.iload_n 1, 1) := by decide +kernel
theorem dX12_load_50 : decode cX12_load 50 = .ok (.imul, 1) := by decide +kernel
theorem dX12_load_51 : decode cX12_load 51 = .ok (.iadd, 1) := by decide +kernel
theorem dX12_load_52 : decode cX12_load 52 = .ok (.iload_n 2, 1) := by decide +kernel
theorem dX12_load_53 : decode cX12_load 53 = .ok (.iadd, 1) := by decide +kernel
theorem dX12_load_54 : decode cX12_load 54 = .ok (.iaload, 1) := by decide +kernel
theorem dX12_load_55 : decode cX12_load 55 = .ok (.ireturn, 1) := by decide +kernel
theorem dX12_keptWith_0 : decode cX12_keptWith 0 = .ok (.iconst 0, 1) := by decide +kernel
theorem dX12_keptWith_1 : decode cX12_keptWith 1 = .ok (.istore_n 2, 1) := by decide +kernel
theorem dX12_keptWith_2 : decode cX12_keptWith 2 = .ok (.aload_n 0, 1) := by decide +kernel
theorem dX12_keptWith_3 : decode cX12_keptWith 3 = .ok (.invokevirtual 110, 3) := by decide +kernel
theorem dX12_keptWith_6 : decode cX12_keptWith 6 = .ok (.istore_n 3, 1) := by decide +kernel
theorem dX12_keptWith_7 : decode cX12_keptWith 7 = .ok (.iload_n 3, 1) := by decide +kernel
theorem dX12_keptWith_8 : decode cX12_keptWith 8 = .ok (.aload_n 0, 1) := by decide +kernel
theorem dX12_keptWith_9 : decode cX12_keptWith 9 = .ok (.getfield 7, 3) := by decide +kernel
theorem dX12_keptWith_12 : decode cX12_keptWith 12 = .ok (.iconst 5, 1) := by decide +kernel
theorem dX12_keptWith_13 : decode cX12_keptWith 13 = .ok (.iaload, 1) := by decide +kernel
theorem dX12_keptWith_14 : decode cX12_keptWith 14 = .ok (.if_icmp .ge 66, 3) := by decide +kernel
theorem dX12_keptWith_17 : decode cX12_keptWith 17 = .ok (.aload_n 0, 1) := by decide +kernel
theorem dX12_keptWith_18 : decode cX12_keptWith 18 = .ok (.iload_n 3, 1) := by decide +kernel
theorem dX12_keptWith_19 : decode cX12_keptWith 19 = .ok (.iconst 5, 1) := by decide +kernel
theorem dX12_keptWith_20 : decode cX12_keptWith 20 = .ok (.invokevirtual 113, 3) := by decide +kernel
theorem dX12_keptWith_23 : decode cX12_keptWith 23 = .ok (.istore 4, 2) := by decide +kernel
theorem dX12_keptWith_25 : decode cX12_keptWith 25 = .ok (.iload_n 2, 1) := by decide +kernel
theorem dX12_keptWith_26 : decode cX12_keptWith 26 = .ok (.iload_n 1, 1) := by decide +kernel
theorem dX12_keptWith_27 : decode cX12_keptWith 27 = .ok (.ifCond .eq 18, 3) := by decide +kernel
theorem dX12_keptWith_30 : decode cX12_keptWith 30 = .ok (.iload 4, 2) := by decide +kernel
theorem dX12_keptWith_32 : decode cX12_keptWith 32 = .ok (.bipush 8, 2) := by decide +kernel
theorem dX12_keptWith_34 : decode cX12_keptWith 34 = .ok (.if_icmp .ne 7, 3) := by decide +kernel
theorem dX12_keptWith_37 : decode cX12_keptWith 37 = .ok (.iconst 1, 1) := by decide +kernel
theorem dX12_keptWith_38 : decode cX12_keptWith 38 = .ok (.goto 34, 3) := by decide +kernel
theorem dX12_keptWith_41 : decode cX12_keptWith 41 = .ok (.iconst 0, 1) := by decide +kernel
theorem dX12_keptWith_42 : decode cX12_keptWith 42 = .ok (.goto 30, 3) := by decide +kernel
theorem dX12_keptWith_45 : decode cX12_keptWith 45 = .ok (.iload 4, 2) := by decide +kernel
theorem dX12_keptWith_47 : decode cX12_keptWith 47 = .ok (.iconst 0, 1) := by decide +kernel
theorem dX12_keptWith_48 : decode cX12_keptWith 48 = .ok (.bipush 7, 2) := by decide +kernel
theorem dX12_keptWith_50 : decode cX12_keptWith 50 = .ok (.invokestatic 39, 3) := by decide +kernel
theorem dX12_keptWith_53 : decode cX12_keptWith 53 = .ok (.ifCond .eq 18, 3) := by decide +kernel
theorem dX12_keptWith_56 : decode cX12_keptWith 56 = .ok (.iload 4, 2) := by decide +kernel
theorem dX12_keptWith_58 : decode cX12_keptWith 58 = .ok (.aload_n 0, 1) := by decide +kernel
theorem dX12_keptWith_59 : decode cX12_keptWith 59 = .ok (.iload_n 3, 1) := by decide +kernel
theorem dX12_keptWith_60 : decode cX12_keptWith 60 = .ok (.iconst 0, 1) := by decide +kernel
theorem dX12_keptWith_61 : decode cX12_keptWith 61 = .ok (.invokevirtual 113, 3) := by decide +kernel
theorem dX12_keptWith_64 : decode cX12_keptWith 64 = .ok (.if_icmp .eq 7, 3) := by decide +kernel
theorem dX12_keptWith_67 : decode cX12_keptWith 67 = .ok (.iconst 1, 1) := by decide +kernel
theorem dX12_keptWith_68 : decode cX12_keptWith 68 = .ok (.goto 4, 3) := by decide +kernel
theorem dX12_keptWith_71 : decode cX12_keptWith 71 = .ok (.iconst 0, 1) := by decide +kernel
theorem dX12_keptWith_72 : decode cX12_keptWith 72 = .ok (.iadd, 1) := by decide +kernel
theorem dX12_keptWith_73 : decode cX12_keptWith 73 = .ok (.istore_n 2, 1) := by decide +kernel
theorem dX12_keptWith_74 : decode cX12_keptWith 74 = .ok (.iinc 3 1, 3) := by decide +kernel
theorem dX12_keptWith_77 : decode cX12_keptWith 77 = .ok (.goto (-70), 3) := by decide +kernel
theorem dX12_keptWith_80 : decode cX12_keptWith 80 = .ok (.iload_n 2, 1) := by decide +kernel
theorem dX12_keptWith_81 : decode cX12_keptWith 81 = .ok (.ireturn, 1) := by decide +kernel
theorem dX12_tellWhole_0 : decode cX12_tellWhole 0 = .ok (.iload_n 1, 1) := by decide +kernel
theorem dX12_tellWhole_1 : decode cX12_tellWhole 1 = .ok (.tableswitch 162 0 12 #[67, 74, 81, 88, 96, 102, 108, 115, 122, 130, 142, 148, 154], 67) := by decide +kernel
theorem dX12_tellWhole_68 : decode cX12_tellWhole 68 = .ok (.aload_n 0, 1) := by decide +kernel
theorem dX12_tellWhole_69 : decode cX12_tellWhole 69 = .ok (.getfield 7, 3) := by decide +kernel
theorem dX12_tellWhole_72 : decode cX12_tellWhole 72 = .ok (.iconst 0, 1) := by decide +kernel
theorem dX12_tellWhole_73 : decode cX12_tellWhole 73 = .ok (.iaload, 1) := by decide +kernel
theorem dX12_tellWhole_74 : decode cX12_tellWhole 74 = .ok (.ireturn, 1) := by decide +kernel
theorem dX12_tellWhole_75 : decode cX12_tellWhole 75 = .ok (.aload_n 0, 1) := by decide +kernel
theorem dX12_tellWhole_76 : decode cX12_tellWhole 76 = .ok (.getfield 7, 3) := by decide +kernel
theorem dX12_tellWhole_79 : decode cX12_tellWhole 79 = .ok (.iconst 3, 1) := by decide +kernel
theorem dX12_tellWhole_80 : decode cX12_tellWhole 80 = .ok (.iaload, 1) := by decide +kernel
theorem dX12_tellWhole_81 : decode cX12_tellWhole 81 = .ok (.ireturn, 1) := by decide +kernel
theorem dX12_tellWhole_82 : decode cX12_tellWhole 82 = .ok (.aload_n 0, 1) := by decide +kernel
theorem dX12_tellWhole_83 : decode cX12_tellWhole 83 = .ok (.getfield 7, 3) := by decide +kernel
theorem dX12_tellWhole_86 : decode cX12_tellWhole 86 = .ok (.iconst 2, 1) := by decide +kernel
theorem dX12_tellWhole_87 : decode cX12_tellWhole 87 = .ok (.iaload, 1) := by decide +kernel
theorem dX12_tellWhole_88 : decode cX12_tellWhole 88 = .ok (.ireturn, 1) := by decide +kernel
theorem dX12_tellWhole_89 : decode cX12_tellWhole 89 = .ok (.aload_n 0, 1) := by decide +kernel
theorem dX12_tellWhole_90 : decode cX12_tellWhole 90 = .ok (.getfield 7, 3) := by decide +kernel
theorem dX12_tellWhole_93 : decode cX12_tellWhole 93 = .ok (.bipush 7, 2) := by decide +kernel
theorem dX12_tellWhole_95 : decode cX12_tellWhole 95 = .ok (.iaload, 1) := by decide +kernel
theorem dX12_tellWhole_96 : decode cX12_tellWhole 96 = .ok (.ireturn, 1) := by decide +kernel
theorem dX12_tellWhole_97 : decode cX12_tellWhole 97 = .ok (.aload_n 0, 1) := by decide +kernel
theorem dX12_tellWhole_98 : decode cX12_tellWhole 98 = .ok (.iconst 1, 1) := by decide +kernel
theorem dX12_tellWhole_99 : decode cX12_tellWhole 99 = .ok (.invokevirtual 76, 3) := by decide +kernel
theorem dX12_tellWhole_102 : decode cX12_tellWhole 102 = .ok (.ireturn, 1) := by decide +kernel
theorem dX12_tellWhole_103 : decode cX12_tellWhole 103 = .ok (.aload_n 0, 1) := by decide +kernel
theorem dX12_tellWhole_104 : decode cX12_tellWhole 104 = .ok (.iconst 2, 1) := by decide +kernel
theorem dX12_tellWhole_105 : decode cX12_tellWhole 105 = .ok (.invokevirtual 76, 3) := by decide +kernel
theorem dX12_tellWhole_108 : decode cX12_tellWhole 108 = .ok (.ireturn, 1) := by decide +kernel
theorem dX12_tellWhole_109 : decode cX12_tellWhole 109 = .ok (.aload_n 0, 1) := by decide +kernel
theorem dX12_tellWhole_110 : decode cX12_tellWhole 110 = .ok (.getfield 7, 3) := by decide +kernel
theorem dX12_tellWhole_113 : decode cX12_tellWhole 113 = .ok (.iconst 4, 1) := by decide +kernel
theorem dX12_tellWhole_114 : decode cX12_tellWhole 114 = .ok (.iaload, 1) := by decide +kernel
theorem dX12_tellWhole_115 : decode cX12_tellWhole 115 = .ok (.ireturn, 1) := by decide +kernel
theorem dX12_tellWhole_116 : decode cX12_tellWhole 116 = .ok (.aload_n 0, 1) := by decide +kernel
theorem dX12_tellWhole_117 : decode cX12_tellWhole 117 = .ok (.getfield 7, 3) := by decide +kernel
theorem dX12_tellWhole_120 : decode cX12_tellWhole 120 = .ok (.iconst 5, 1) := by decide +kernel
theorem dX12_tellWhole_121 : decode cX12_tellWhole 121 = .ok (.iaload, 1) := by decide +kernel
theorem dX12_tellWhole_122 : decode cX12_tellWhole 122 = .ok (.ireturn, 1) := by decide +kernel
theorem dX12_tellWhole_123 : decode cX12_tellWhole 123 = .ok (.aload_n 0, 1) := by decide +kernel
theorem dX12_tellWhole_124 : decode cX12_tellWhole 124 = .ok (.getfield 7, 3) := by decide +kernel
theorem dX12_tellWhole_127 : decode cX12_tellWhole 127 = .ok (.bipush 6, 2) := by decide +kernel
theorem dX12_tellWhole_129 : decode cX12_tellWhole 129 = .ok (.iaload, 1) := by decide +kernel
theorem dX12_tellWhole_130 : decode cX12_tellWhole 130 = .ok (.ireturn, 1) := by decide +kernel
theorem dX12_tellWhole_131 : decode cX12_tellWhole 131 = .ok (.aload_n 0, 1) := by decide +kernel
theorem dX12_tellWhole_132 : decode cX12_tellWhole 132 = .ok (.getfield 7, 3) := by decide +kernel
theorem dX12_tellWhole_135 : decode cX12_tellWhole 135 = .ok (.iconst 5, 1) := by decide +kernel
theorem dX12_tellWhole_136 : decode cX12_tellWhole 136 = .ok (.iaload, 1) := by decide +kernel
theorem dX12_tellWhole_137 : decode cX12_tellWhole 137 = .ok (.aload_n 0, 1) := by decide +kernel
theorem dX12_tellWhole_138 : decode cX12_tellWhole 138 = .ok (.invokevirtual 110, 3) := by decide +kernel
theorem dX12_tellWhole_141 : decode cX12_tellWhole 141 = .ok (.isub, 1) := by decide +kernel
theorem dX12_tellWhole_142 : decode cX12_tellWhole 142 = .ok (.ireturn, 1) := by decide +kernel
theorem dX12_tellWhole_143 : decode cX12_tellWhole 143 = .ok (.aload_n 0, 1) := by decide +kernel
theorem dX12_tellWhole_144 : decode cX12_tellWhole 144 = .ok (.iconst 1, 1) := by decide +kernel
theorem dX12_tellWhole_145 : decode cX12_tellWhole 145 = .ok (.invokevirtual 194, 3) := by decide +kernel
theorem dX12_tellWhole_148 : decode cX12_tellWhole 148 = .ok (.ireturn, 1) := by decide +kernel
theorem dX12_tellWhole_149 : decode cX12_tellWhole 149 = .ok (.aload_n 0, 1) := by decide +kernel
theorem dX12_tellWhole_150 : decode cX12_tellWhole 150 = .ok (.iconst 0, 1) := by decide +kernel
theorem dX12_tellWhole_151 : decode cX12_tellWhole 151 = .ok (.invokevirtual 194, 3) := by decide +kernel
theorem dX12_tellWhole_154 : decode cX12_tellWhole 154 = .ok (.ireturn, 1) := by decide +kernel
theorem dX12_tellWhole_155 : decode cX12_tellWhole 155 = .ok (.aload_n 0, 1) := by decide +kernel
theorem dX12_tellWhole_156 : decode cX12_tellWhole 156 = .ok (.getfield 7, 3) := by decide +kernel
theorem dX12_tellWhole_159 : decode cX12_tellWhole 159 = .ok (.bipush 8, 2) := by decide +kernel
theorem dX12_tellWhole_161 : decode cX12_tellWhole 161 = .ok (.iaload, 1) := by decide +kernel
theorem dX12_tellWhole_162 : decode cX12_tellWhole 162 = .ok (.ireturn, 1) := by decide +kernel
theorem dX12_tellWhole_163 : decode cX12_tellWhole 163 = .ok (.aload_n 0, 1) := by decide +kernel
theorem dX12_tellWhole_164 : decode cX12_tellWhole 164 = .ok (.getfield 7, 3) := by decide +kernel
theorem dX12_tellWhole_167 : decode cX12_tellWhole 167 = .ok (.iconst 1, 1) := by decide +kernel
theorem dX12_tellWhole_168 : decode cX12_tellWhole 168 = .ok (.iaload, 1) := by decide +kernel
theorem dX12_tellWhole_169 : decode cX12_tellWhole 169 = .ok (.ireturn, 1) := by decide +kernel
theorem dX12_whole_0 : decode cX12_whole 0 = .ok (.aload_n 0, 1) := by decide +kernel
theorem dX12_whole_1 : decode cX12_whole 1 = .ok (.iload_n 1, 1) := by decide +kernel
theorem dX12_whole_2 : decode cX12_whole 2 = .ok (.iconst 0, 1) := by decide +kernel
theorem dX12_whole_3 : decode cX12_whole 3 = .ok (.bipush 13, 2) := by decide +kernel
theorem dX12_whole_5 : decode cX12_whole 5 = .ok (.invokestatic 39, 3) := by decide +kernel
theorem dX12_whole_8 : decode cX12_whole 8 = .ok (.ifCond .eq 7, 3) := by decide +kernel
theorem dX12_whole_11 : decode cX12_whole 11 = .ok (.iconst 0, 1) := by decide +kernel
theorem dX12_whole_12 : decode cX12_whole 12 = .ok (.goto 4, 3) := by decide +kernel
theorem dX12_whole_15 : decode cX12_whole 15 = .ok (.iconst 1, 1) := by decide +kernel
theorem dX12_whole_16 : decode cX12_whole 16 = .ok (.invokevirtual 35, 3) := by decide +kernel
theorem dX12_whole_19 : decode cX12_whole 19 = .ok (.ifCond .eq 7, 3) := by decide +kernel
theorem dX12_whole_22 : decode cX12_whole 22 = .ok (.iconst 0, 1) := by decide +kernel
theorem dX12_whole_23 : decode cX12_whole 23 = .ok (.goto 8, 3) := by decide +kernel
theorem dX12_whole_26 : decode cX12_whole 26 = .ok (.aload_n 0, 1) := by decide +kernel
theorem dX12_whole_27 : decode cX12_whole 27 = .ok (.iload_n 1, 1) := by decide +kernel
theorem dX12_whole_28 : decode cX12_whole 28 = .ok (.invokevirtual 198, 3) := by decide +kernel
theorem dX12_whole_31 : decode cX12_whole 31 = .ok (.ireturn, 1) := by decide +kernel
theorem dX12_doughOf_0 : decode cX12_doughOf 0 = .ok (.aload_n 0, 1) := by decide +kernel
theorem dX12_doughOf_1 : decode cX12_doughOf 1 = .ok (.getfield 7, 3) := by decide +kernel
theorem dX12_doughOf_4 : decode cX12_doughOf 4 = .ok (.bipush 7, 2) := by decide +kernel
theorem dX12_doughOf_6 : decode cX12_doughOf 6 = .ok (.iaload, 1) := by decide +kernel
theorem dX12_doughOf_7 : decode cX12_doughOf 7 = .ok (.ifCond .ne 5, 3) := by decide +kernel
theorem dX12_doughOf_10 : decode cX12_doughOf 10 = .ok (.iconst 0, 1) := by decide +kernel
theorem dX12_doughOf_11 : decode cX12_doughOf 11 = .ok (.ireturn, 1) := by decide +kernel
theorem dX12_doughOf_12 : decode cX12_doughOf 12 = .ok (.aload_n 0, 1) := by decide +kernel
theorem dX12_doughOf_13 : decode cX12_doughOf 13 = .ok (.invokevirtual 201, 3) := by decide +kernel
theorem dX12_doughOf_16 : decode cX12_doughOf 16 = .ok (.aload_n 0, 1) := by decide +kernel
theorem dX12_doughOf_17 : decode cX12_doughOf 17 = .ok (.iload_n 1, 1) := by decide +kernel
theorem dX12_doughOf_18 : decode cX12_doughOf 18 = .ok (.invokevirtual 166, 3) := by decide +kernel
theorem dX12_doughOf_21 : decode cX12_doughOf 21 = .ok (.istore_n 2, 1) := by decide +kernel
theorem dX12_doughOf_22 : decode cX12_doughOf 22 = .ok (.aload_n 0, 1) := by decide +kernel
theorem dX12_doughOf_23 : decode cX12_doughOf 23 = .ok (.getfield 7, 3) := by decide +kernel
theorem dX12_doughOf_26 : decode cX12_doughOf 26 = .ok (.iconst 4, 1) := by decide +kernel
theorem dX12_doughOf_27 : decode cX12_doughOf 27 = .ok (.iaload, 1) := by decide +kernel
theorem dX12_doughOf_28 : decode cX12_doughOf 28 = .ok (.istore_n 3, 1) := by decide +kernel
theorem dX12_doughOf_29 : decode cX12_doughOf 29 = .ok (.aload_n 0, 1) := by decide +kernel
theorem dX12_doughOf_30 : decode cX12_doughOf 30 = .ok (.invokevirtual 204, 3) := by decide +kernel
theorem dX12_doughOf_33 : decode cX12_doughOf 33 = .ok (.iload_n 3, 1) := by decide +kernel
theorem dX12_doughOf_34 : decode cX12_doughOf 34 = .ok (.aload_n 0, 1) := by decide +kernel
theorem dX12_doughOf_35 : decode cX12_doughOf 35 = .ok (.getfield 7, 3) := by decide +kernel
theorem dX12_doughOf_38 : decode cX12_doughOf 38 = .ok (.iconst 4, 1) := by decide +kernel
theorem dX12_doughOf_39 : decode cX12_doughOf 39 = .ok (.iaload, 1) := by decide +kernel
theorem dX12_doughOf_40 : decode cX12_doughOf 40 = .ok (.isub, 1) := by decide +kernel
theorem dX12_doughOf_41 : decode cX12_doughOf 41 = .ok (.ireturn, 1) := by decide +kernel
theorem dX12_doughWith_0 : decode cX12_doughWith 0 = .ok (.aload_n 0, 1) := by decide +kernel
theorem dX12_doughWith_1 : decode cX12_doughWith 1 = .ok (.iload_n 1, 1) := by decide +kernel
theorem dX12_doughWith_2 : decode cX12_doughWith 2 = .ok (.invokestatic 160, 3) := by decide +kernel
theorem dX12_doughWith_5 : decode cX12_doughWith 5 = .ok (.ifCond .eq 7, 3) := by decide +kernel
theorem dX12_doughWith_8 : decode cX12_doughWith 8 = .ok (.iconst 0, 1) := by decide +kernel
theorem dX12_doughWith_9 : decode cX12_doughWith 9 = .ok (.goto 4, 3) := by decide +kernel
theorem dX12_doughWith_12 : decode cX12_doughWith 12 = .ok (.iconst 1, 1) := by decide +kernel
theorem dX12_doughWith_13 : decode cX12_doughWith 13 = .ok (.invokevirtual 35, 3) := by decide +kernel
theorem dX12_doughWith_16 : decode cX12_doughWith 16 = .ok (.ifCond .eq 7, 3) := by decide +kernel
theorem dX12_doughWith_19 : decode cX12_doughWith 19 = .ok (.iconst 0, 1) := by decide +kernel
theorem dX12_doughWith_20 : decode cX12_doughWith 20 = .ok (.goto 8, 3) := by decide +kernel
theorem dX12_doughWith_23 : decode cX12_doughWith 23 = .ok (.aload_n 0, 1) := by decide +kernel
theorem dX12_doughWith_24 : decode cX12_doughWith 24 = .ok (.iload_n 1, 1) := by decide +kernel
theorem dX12_doughWith_25 : decode cX12_doughWith 25 = .ok (.invokevirtual 207, 3) := by decide +kernel
theorem dX12_doughWith_28 : decode cX12_doughWith 28 = .ok (.ireturn, 1) := by decide +kernel
theorem dX12_bestWood_0 : decode cX12_bestWood 0 = .ok (.aload_n 0, 1) := by decide +kernel
theorem dX12_bestWood_1 : decode cX12_bestWood 1 = .ok (.iconst 0, 1) := by decide +kernel
theorem dX12_bestWood_2 : decode cX12_bestWood 2 = .ok (.putfield 28, 3) := by decide +kernel
theorem dX12_bestWood_5 : decode cX12_bestWood 5 = .ok (.aload_n 0, 1) := by decide +kernel
theorem dX12_bestWood_6 : decode cX12_bestWood 6 = .ok (.getfield 7, 3) := by decide +kernel
theorem dX12_bestWood_9 : decode cX12_bestWood 9 = .ok (.bipush 7, 2) := by decide +kernel
theorem dX12_bestWood_11 : decode cX12_bestWood 11 = .ok (.iaload, 1) := by decide +kernel
theorem dX12_bestWood_12 : decode cX12_bestWood 12 = .ok (.ifCond .ne 5, 3) := by decide +kernel
theorem dX12_bestWood_15 : decode cX12_bestWood 15 = .ok (.iconst (-1), 1) := by decide +kernel
theorem dX12_bestWood_16 : decode cX12_bestWood 16 = .ok (.ireturn, 1) := by decide +kernel
theorem dX12_bestWood_17 : decode cX12_bestWood 17 = .ok (.iconst 1, 1) := by decide +kernel
theorem dX12_bestWood_18 : decode cX12_bestWood 18 = .ok (.istore_n 1, 1) := by decide +kernel
theorem dX12_bestWood_19 : decode cX12_bestWood 19 = .ok (.aload_n 0, 1) := by decide +kernel
theorem dX12_bestWood_20 : decode cX12_bestWood 20 = .ok (.iconst 1, 1) := by decide +kernel
theorem dX12_bestWood_21 : decode cX12_bestWood 21 = .ok (.invokevirtual 207, 3) := by decide +kernel
theorem dX12_bestWood_24 : decode cX12_bestWood 24 = .ok (.istore_n 2, 1) := by decide +kernel
theorem dX12_bestWood_25 : decode cX12_bestWood 25 = .ok (.iconst 2, 1) := by decide +kernel
theorem dX12_bestWood_26 : decode cX12_bestWood 26 = .ok (.istore_n 3, 1) := by decide +kernel
theorem dX12_bestWood_27 : decode cX12_bestWood 27 = .ok (.iload_n 3, 1) := by decide +kernel
theorem dX12_bestWood_28 : decode cX12_bestWood 28 = .ok (.bipush 40, 2) := by decide +kernel
theorem dX12_bestWood_30 : decode cX12_bestWood 30 = .ok (.if_icmp .gt 45, 3) := by decide +kernel
theorem dX12_bestWood_33 : decode cX12_bestWood 33 = .ok (.iload_n 2, 1) := by decide +kernel
theorem dX12_bestWood_34 : decode cX12_bestWood 34 = .ok (.ifCond .le 41, 3) := by decide +kernel
theorem dX12_bestWood_37 : decode cX12_bestWood 37 = .ok (.aload_n 0, 1) := by decide +kernel
theorem dX12_bestWood_38 : decode cX12_bestWood 38 = .ok (.iload_n 3, 1) := by decide +kernel
theorem dX12_bestWood_39 : decode cX12_bestWood 39 = .ok (.invokevirtual 207, 3) := by decide +kernel
theorem dX12_bestWood_42 : decode cX12_bestWood 42 = .ok (.istore 4, 2) := by decide +kernel
theorem dX12_bestWood_44 : decode cX12_bestWood 44 = .ok (.iload 4, 2) := by decide +kernel
theorem dX12_bestWood_46 : decode cX12_bestWood 46 = .ok (.iload_n 2, 1) := by decide +kernel
theorem dX12_bestWood_47 : decode cX12_bestWood 47 = .ok (.if_icmp .ge 7, 3) := by decide +kernel
theorem dX12_bestWood_50 : decode cX12_bestWood 50 = .ok (.iload_n 3, 1) := by decide +kernel
theorem dX12_bestWood_51 : decode cX12_bestWood 51 = .ok (.goto 4, 3) := by decide +kernel
theorem dX12_bestWood_54 : decode cX12_bestWood 54 = .ok (.iload_n 1, 1) := by decide +kernel
theorem dX12_bestWood_55 : decode cX12_bestWood 55 = .ok (.istore_n 1, 1) := by decide +kernel
theorem dX12_bestWood_56 : decode cX12_bestWood 56 = .ok (.iload 4, 2) := by decide +kernel
theorem dX12_bestWood_58 : decode cX12_bestWood 58 = .ok (.iload_n 2, 1) := by decide +kernel
theorem dX12_bestWood_59 : decode cX12_bestWood 59 = .ok (.if_icmp .ge 8, 3) := by decide +kernel
theorem dX12_bestWood_62 : decode cX12_bestWood 62 = .ok (.iload 4, 2) := by decide +kernel
theorem dX12_bestWood_64 : decode cX12_bestWood 64 = .ok (.goto 4, 3) := by decide +kernel
theorem dX12_bestWood_67 : decode cX12_bestWood 67 = .ok (.iload_n 2, 1) := by decide +kernel
theorem dX12_bestWood_68 : decode cX12_bestWood 68 = .ok (.istore_n 2, 1) := by decide +kernel
theorem dX12_bestWood_69 : decode cX12_bestWood 69 = .ok (.iinc 3 1, 3) := by decide +kernel
theorem dX12_bestWood_72 : decode cX12_bestWood 72 = .ok (.goto (-45), 3) := by decide +kernel
theorem dX12_bestWood_75 : decode cX12_bestWood 75 = .ok (.iload_n 1, 1) := by decide +kernel
theorem dX12_bestWood_76 : decode cX12_bestWood 76 = .ok (.ireturn, 1) := by decide +kernel
theorem dX12_isLike_0 : decode cX12_isLike 0 = .ok (.iload_n 0, 1) := by decide +kernel
theorem dX12_isLike_1 : decode cX12_isLike 1 = .ok (.iload_n 1, 1) := by decide +kernel
theorem dX12_isLike_2 : decode cX12_isLike 2 = .ok (.iand, 1) := by decide +kernel
theorem dX12_isLike_3 : decode cX12_isLike 3 = .ok (.iload_n 0, 1) := by decide +kernel
theorem dX12_isLike_4 : decode cX12_isLike 4 = .ok (.if_icmp .eq 10, 3) := by decide +kernel
theorem dX12_isLike_7 : decode cX12_isLike 7 = .ok (.iload_n 0, 1) := by decide +kernel
theorem dX12_isLike_8 : decode cX12_isLike 8 = .ok (.iload_n 1, 1) := by decide +kernel
theorem dX12_isLike_9 : decode cX12_isLike 9 = .ok (.iand, 1) := by decide +kernel
theorem dX12_isLike_10 : decode cX12_isLike 10 = .ok (.iload_n 1, 1) := by decide +kernel
theorem dX12_isLike_11 : decode cX12_isLike 11 = .ok (.if_icmp .ne 7, 3) := by decide +kernel
theorem dX12_isLike_14 : decode cX12_isLike 14 = .ok (.iconst 1, 1) := by decide +kernel
theorem dX12_isLike_15 : decode cX12_isLike 15 = .ok (.goto 4, 3) := by decide +kernel
theorem dX12_isLike_18 : decode cX12_isLike 18 = .ok (.iconst 0, 1) := by decide +kernel
theorem dX12_isLike_19 : decode cX12_isLike 19 = .ok (.ireturn, 1) := by decide +kernel
theorem dX12_likes_0 : decode cX12_likes 0 = .ok (.iconst 0, 1) := by decide +kernel
theorem dX12_likes_1 : decode cX12_likes 1 = .ok (.istore_n 1, 1) := by decide +kernel
theorem dX12_likes_2 : decode cX12_likes 2 = .ok (.iconst 0, 1) := by decide +kernel
theorem dX12_likes_3 : decode cX12_likes 3 = .ok (.istore_n 2, 1) := by decide +kernel
theorem dX12_likes_4 : decode cX12_likes 4 = .ok (.iload_n 2, 1) := by decide +kernel
theorem dX12_likes_5 : decode cX12_likes 5 = .ok (.aload_n 0, 1) := by decide +kernel
theorem dX12_likes_6 : decode cX12_likes 6 = .ok (.getfield 7, 3) := by decide +kernel
theorem dX12_likes_9 : decode cX12_likes 9 = .ok (.iconst 0, 1) := by decide +kernel
theorem dX12_likes_10 : decode cX12_likes 10 = .ok (.iaload, 1) := by decide +kernel
theorem dX12_likes_11 : decode cX12_likes 11 = .ok (.if_icmp .ge 48, 3) := by decide +kernel
theorem dX12_likes_14 : decode cX12_likes 14 = .ok (.iconst 0, 1) := by decide +kernel
theorem dX12_likes_15 : decode cX12_likes 15 = .ok (.istore_n 3, 1) := by decide +kernel
theorem dX12_likes_16 : decode cX12_likes 16 = .ok (.iload_n 3, 1) := by decide +kernel
theorem dX12_likes_17 : decode cX12_likes 17 = .ok (.iload_n 2, 1) := by decide +kernel
theorem dX12_likes_18 : decode cX12_likes 18 = .ok (.if_icmp .ge 35, 3) := by decide +kernel
theorem dX12_likes_21 : decode cX12_likes 21 = .ok (.iload_n 1, 1) := by decide +kernel
theorem dX12_likes_22 : decode cX12_likes 22 = .ok (.aload_n 0, 1) := by decide +kernel
theorem dX12_likes_23 : decode cX12_likes 23 = .ok (.iload_n 2, 1) := by decide +kernel
theorem dX12_likes_24 : decode cX12_likes 24 = .ok (.iconst 0, 1) := by decide +kernel
theorem dX12_likes_25 : decode cX12_likes 25 = .ok (.invokevirtual 44, 3) := by decide +kernel
theorem dX12_likes_28 : decode cX12_likes 28 = .ok (.aload_n 0, 1) := by decide +kernel
theorem dX12_likes_29 : decode cX12_likes 29 = .ok (.iload_n 3, 1) := by decide +kernel
theorem dX12_likes_30 : decode cX12_likes 30 = .ok (.iconst 0, 1) := by decide +kernel
theorem dX12_likes_31 : decode cX12_likes 31 = .ok (.invokevirtual 44, 3) := by decide +kernel
theorem dX12_likes_34 : decode cX12_likes 34 = .ok (.invokestatic 210, 3) := by decide +kernel
theorem dX12_likes_37 : decode cX12_likes 37 = .ok (.ifCond .eq 7, 3) := by decide +kernel
theorem dX12_likes_40 : decode cX12_likes 40 = .ok (.iconst 1, 1) := by decide +kernel
theorem dX12_likes_41 : decode cX12_likes 41 = .ok (.goto 4, 3) := by decide +kernel
theorem dX12_likes_44 : decode cX12_likes 44 = .ok (.iconst 0, 1) := by decide +kernel
theorem dX12_likes_45 : decode cX12_likes 45 = .ok (.iadd, 1) := by decide +kernel
theorem dX12_likes_46 : decode cX12_likes 46 = .ok (.istore_n 1, 1) := by decide +kernel
theorem dX12_likes_47 : decode cX12_likes 47 = .ok (.iinc 3 1, 3) := by decide +kernel
theorem dX12_likes_50 : decode cX12_likes 50 = .ok (.goto (-34), 3) := by decide +kernel
theorem dX12_likes_53 : decode cX12_likes 53 = .ok (.iinc 2 1, 3) := by decide +kernel
theorem dX12_likes_56 : decode cX12_likes 56 = .ok (.goto (-52), 3) := by decide +kernel
theorem dX12_likes_59 : decode cX12_likes 59 = .ok (.iload_n 1, 1) := by decide +kernel
theorem dX12_likes_60 : decode cX12_likes 60 = .ok (.ireturn, 1) := by decide +kernel
theorem dX12_likeMarks_0 : decode cX12_likeMarks 0 = .ok (.aload_n 0, 1) := by decide +kernel
theorem dX12_likeMarks_1 : decode cX12_likeMarks 1 = .ok (.iconst 0, 1) := by decide +kernel
theorem dX12_likeMarks_2 : decode cX12_likeMarks 2 = .ok (.putfield 28, 3) := by decide +kernel
theorem dX12_likeMarks_5 : decode cX12_likeMarks 5 = .ok (.aload_n 0, 1) := by decide +kernel
theorem dX12_likeMarks_6 : decode cX12_likeMarks 6 = .ok (.invokevirtual 213, 3) := by decide +kernel
theorem dX12_likeMarks_9 : decode cX12_likeMarks 9 = .ok (.ireturn, 1) := by decide +kernel
theorem dX12_freeMark_0 : decode cX12_freeMark 0 = .ok (.aload_n 0, 1) := by decide +kernel
theorem dX12_freeMark_1 : decode cX12_freeMark 1 = .ok (.iload_n 1, 1) := by decide +kernel
theorem dX12_freeMark_2 : decode cX12_freeMark 2 = .ok (.iconst 1, 1) := by decide +kernel
theorem dX12_freeMark_3 : decode cX12_freeMark 3 = .ok (.bipush 16, 2) := by decide +kernel
theorem dX12_freeMark_5 : decode cX12_freeMark 5 = .ok (.invokestatic 39, 3) := by decide +kernel
theorem dX12_freeMark_8 : decode cX12_freeMark 8 = .ok (.ifCond .eq 7, 3) := by decide +kernel
theorem dX12_freeMark_11 : decode cX12_freeMark 11 = .ok (.iconst 0, 1) := by decide +kernel
theorem dX12_freeMark_12 : decode cX12_freeMark 12 = .ok (.goto 4, 3) := by decide +kernel
theorem dX12_freeMark_15 : decode cX12_freeMark 15 = .ok (.iconst 1, 1) := by decide +kernel
theorem dX12_freeMark_16 : decode cX12_freeMark 16 = .ok (.invokevirtual 35, 3) := by decide +kernel
theorem dX12_freeMark_19 : decode cX12_freeMark 19 = .ok (.ifCond .eq 5, 3) := by decide +kernel
theorem dX12_freeMark_22 : decode cX12_freeMark 22 = .ok (.iconst 0, 1) := by decide +kernel
theorem dX12_freeMark_23 : decode cX12_freeMark 23 = .ok (.ireturn, 1) := by decide +kernel
theorem dX12_freeMark_24 : decode cX12_freeMark 24 = .ok (.iconst 1, 1) := by decide +kernel
theorem dX12_freeMark_25 : decode cX12_freeMark 25 = .ok (.istore_n 2, 1) := by decide +kernel
theorem dX12_freeMark_26 : decode cX12_freeMark 26 = .ok (.iload_n 2, 1) := by decide +kernel
theorem dX12_freeMark_27 : decode cX12_freeMark 27 = .ok (.ldc 43, 2) := by decide +kernel
theorem dX12_freeMark_29 : decode cX12_freeMark 29 = .ok (.if_icmp .gt 73, 3) := by decide +kernel
theorem dX12_freeMark_32 : decode cX12_freeMark 32 = .ok (.iload_n 2, 1) := by decide +kernel
theorem dX12_freeMark_33 : decode cX12_freeMark 33 = .ok (.invokestatic 107, 3) := by decide +kernel
theorem dX12_freeMark_36 : decode cX12_freeMark 36 = .ok (.iload_n 1, 1) := by decide +kernel
theorem dX12_freeMark_37 : decode cX12_freeMark 37 = .ok (.if_icmp .ne 7, 3) := by decide +kernel
theorem dX12_freeMark_40 : decode cX12_freeMark 40 = .ok (.iconst 1, 1) := by decide +kernel
theorem dX12_freeMark_41 : decode cX12_freeMark 41 = .ok (.goto 4, 3) := by decide +kernel
theorem dX12_freeMark_44 : decode cX12_freeMark 44 = .ok (.iconst 0, 1) := by decide +kernel
theorem dX12_freeMark_45 : decode cX12_freeMark 45 = .ok (.istore_n 3, 1) := by decide +kernel
theorem dX12_freeMark_46 : decode cX12_freeMark 46 = .ok (.iconst 0, 1) := by decide +kernel
theorem dX12_freeMark_47 : decode cX12_freeMark 47 = .ok (.istore 4, 2) := by decide +kernel
theorem dX12_freeMark_49 : decode cX12_freeMark 49 = .ok (.iload 4, 2) := by decide +kernel
theorem dX12_freeMark_51 : decode cX12_freeMark 51 = .ok (.aload_n 0, 1) := by decide +kernel
theorem dX12_freeMark_52 : decode cX12_freeMark 52 = .ok (.getfield 7, 3) := by decide +kernel
theorem dX12_freeMark_55 : decode cX12_freeMark 55 = .ok (.iconst 0, 1) := by decide +kernel
theorem dX12_freeMark_56 : decode cX12_freeMark 56 = .ok (.iaload, 1) := by decide +kernel
theorem dX12_freeMark_57 : decode cX12_freeMark 57 = .ok (.if_icmp .ge 33, 3) := by decide +kernel
theorem dX12_freeMark_60 : decode cX12_freeMark 60 = .ok (.iload_n 3, 1) := by decide +kernel
theorem dX12_freeMark_61 : decode cX12_freeMark 61 = .ok (.ifCond .eq 29, 3) := by decide +kernel
theorem dX12_freeMark_64 : decode cX12_freeMark 64 = .ok (.iload_n 2, 1) := by decide +kernel
theorem dX12_freeMark_65 : decode cX12_freeMark 65 = .ok (.aload_n 0, 1) := by decide +kernel
theorem dX12_freeMark_66 : decode cX12_freeMark 66 = .ok (.iload 4, 2) := by decide +kernel
theorem dX12_freeMark_68 : decode cX12_freeMark 68 = .ok (.iconst 0, 1) := by decide +kernel
theorem dX12_freeMark_69 : decode cX12_freeMark 69 = .ok (.invokevirtual 44, 3) := by decide +kernel
theorem dX12_freeMark_72 : decode cX12_freeMark 72 = .ok (.invokestatic 210, 3) := by decide +kernel
theorem dX12_freeMark_75 : decode cX12_freeMark 75 = .ok (.ifCond .ne 7, 3) := by decide +kernel
theorem dX12_freeMark_78 : decode cX12_freeMark 78 = .ok (.iconst 1, 1) := by decide +kernel
theorem dX12_freeMark_79 : decode cX12_freeMark 79 = .ok (.goto 4, 3) := by decide +kernel
theorem dX12_freeMark_82 : decode cX12_freeMark 82 = .ok (.iconst 0, 1) := by decide +kernel
theorem dX12_freeMark_83 : decode cX12_freeMark 83 = .ok (.istore_n 3, 1) := by decide +kernel
theorem dX12_freeMark_84 : decode cX12_freeMark 84 = .ok (.iinc 4 1, 3) := by decide +kernel
theorem dX12_freeMark_87 : decode cX12_freeMark 87 = .ok (.goto (-38), 3) := by decide +kernel
theorem dX12_freeMark_90 : decode cX12_freeMark 90 = .ok (.iload_n 3, 1) := by decide +kernel
theorem dX12_freeMark_91 : decode cX12_freeMark 91 = .ok (.ifCond .eq 5, 3) := by decide +kernel
theorem dX12_freeMark_94 : decode cX12_freeMark 94 = .ok (.iload_n 2, 1) := by decide +kernel
theorem dX12_freeMark_95 : decode cX12_freeMark 95 = .ok (.ireturn, 1) := by decide +kernel
theorem dX12_freeMark_96 : decode cX12_freeMark 96 = .ok (.iinc 2 1, 3) := by decide +kernel
theorem dX12_freeMark_99 : decode cX12_freeMark 99 = .ok (.goto (-73), 3) := by decide +kernel
theorem dX12_freeMark_102 : decode cX12_freeMark 102 = .ok (.iconst (-1), 1) := by decide +kernel
theorem dX12_freeMark_103 : decode cX12_freeMark 103 = .ok (.ireturn, 1) := by decide +kernel
theorem dX12_type_0 : decode cX12_type 0 = .ok (.aload_n 0, 1) := by decide +kernel
theorem dX12_type_1 : decode cX12_type 1 = .ok (.iload_n 1, 1) := by decide +kernel
theorem dX12_type_2 : decode cX12_type 2 = .ok (.iconst 0, 1) := by decide +kernel
theorem dX12_type_3 : decode cX12_type 3 = .ok (.bipush 127, 2) := by decide +kernel
theorem dX12_type_5 : decode cX12_type 5 = .ok (.invokestatic 39, 3) := by decide +kernel
theorem dX12_type_8 : decode cX12_type 8 = .ok (.ifCond .ne 7, 3) := by decide +kernel
theorem dX12_type_11 : decode cX12_type 11 = .ok (.iconst 1, 1) := by decide +kernel
theorem dX12_type_12 : decode cX12_type 12 = .ok (.goto 18, 3) := by decide +kernel
theorem dX12_type_15 : decode cX12_type 15 = .ok (.aload_n 0, 1) := by decide +kernel
theorem dX12_type_16 : decode cX12_type 16 = .ok (.getfield 216, 3) := by decide +kernel
theorem dX12_type_19 : decode cX12_type 19 = .ok (.sipush 150, 3) := by decide +kernel
theorem dX12_type_22 : decode cX12_type 22 = .ok (.if_icmp .ne 7, 3) := by decide +kernel
theorem dX12_type_25 : decode cX12_type 25 = .ok (.iconst 2, 1) := by decide +kernel
theorem dX12_type_26 : decode cX12_type 26 = .ok (.goto 4, 3) := by decide +kernel
theorem dX12_type_29 : decode cX12_type 29 = .ok (.iconst 0, 1) := by decide +kernel
theorem dX12_type_30 : decode cX12_type 30 = .ok (.invokevirtual 35, 3) := by decide +kernel
theorem dX12_type_33 : decode cX12_type 33 = .ok (.ifCond .eq 5, 3) := by decide +kernel
theorem dX12_type_36 : decode cX12_type 36 = .ok (.iconst 0, 1) := by decide +kernel
theorem dX12_type_37 : decode cX12_type 37 = .ok (.ireturn, 1) := by decide +kernel
theorem dX12_type_38 : decode cX12_type 38 = .ok (.aload_n 0, 1) := by decide +kernel
theorem dX12_type_39 : decode cX12_type 39 = .ok (.getfield 19, 3) := by decide +kernel
theorem dX12_type_42 : decode cX12_type 42 = .ok (.aload_n 0, 1) := by decide +kernel
theorem dX12_type_43 : decode cX12_type 43 = .ok (.getfield 216, 3) := by decide +kernel
theorem dX12_type_46 : decode cX12_type 46 = .ok (.iload_n 1, 1) := by decide +kernel
theorem dX12_type_47 : decode cX12_type 47 = .ok (.iastore, 1) := by decide +kernel
theorem dX12_type_48 : decode cX12_type 48 = .ok (.aload_n 0, 1) := by decide +kernel
theorem dX12_type_49 : decode cX12_type 49 = .ok (.dup, 1) := by decide +kernel
theorem dX12_type_50 : decode cX12_type 50 = .ok (.getfield 216, 3) := by decide +kernel
theorem dX12_type_53 : decode cX12_type 53 = .ok (.iconst 1, 1) := by decide +kernel
theorem dX12_type_54 : decode cX12_type 54 = .ok (.iadd, 1) := by decide +kernel
theorem dX12_type_55 : decode cX12_type 55 = .ok (.putfield 216, 3) := by decide +kernel
theorem dX12_type_58 : decode cX12_type 58 = .ok (.aload_n 0, 1) := by decide +kernel
theorem dX12_type_59 : decode cX12_type 59 = .ok (.getfield 216, 3) := by decide +kernel
theorem dX12_type_62 : decode cX12_type 62 = .ok (.ireturn, 1) := by decide +kernel
theorem dX12_clearCommands_0 : decode cX12_clearCommands 0 = .ok (.aload_n 0, 1) := by decide +kernel
theorem dX12_clearCommands_1 : decode cX12_clearCommands 1 = .ok (.iconst 0, 1) := by decide +kernel
theorem dX12_clearCommands_2 : decode cX12_clearCommands 2 = .ok (.putfield 28, 3) := by decide +kernel
theorem dX12_clearCommands_5 : decode cX12_clearCommands 5 = .ok (.aload_n 0, 1) := by decide +kernel
theorem dX12_clearCommands_6 : decode cX12_clearCommands 6 = .ok (.getfield 216, 3) := by decide +kernel
theorem dX12_clearCommands_9 : decode cX12_clearCommands 9 = .ok (.istore_n 1, 1) := by decide +kernel
theorem dX12_clearCommands_10 : decode cX12_clearCommands 10 = .ok (.aload_n 0, 1) := by decide +kernel
theorem dX12_clearCommands_11 : decode cX12_clearCommands 11 = .ok (.iconst 0, 1) := by decide +kernel
theorem dX12_clearCommands_12 : decode cX12_clearCommands 12 = .ok (.putfield 216, 3) := by decide +kernel
theorem dX12_clearCommands_15 : decode cX12_clearCommands 15 = .ok (.iload_n 1, 1) := by decide +kernel
theorem dX12_clearCommands_16 : decode cX12_clearCommands 16 = .ok (.ireturn, 1) := by decide +kernel
theorem dX12_isAt_0 : decode cX12_isAt 0 = .ok (.aload_n 0, 1) := by decide +kernel
theorem dX12_isAt_1 : decode cX12_isAt 1 = .ok (.getfield 219, 3) := by decide +kernel
theorem dX12_isAt_4 : decode cX12_isAt 4 = .ok (.aload_n 0, 1) := by decide +kernel
theorem dX12_isAt_5 : decode cX12_isAt 5 = .ok (.getfield 216, 3) := by decide +kernel
theorem dX12_isAt_8 : decode cX12_isAt 8 = .ok (.if_icmp .ge 24, 3) := by decide +kernel
theorem dX12_isAt_11 : decode cX12_isAt 11 = .ok (.aload_n 0, 1) := by decide +kernel
theorem dX12_isAt_12 : decode cX12_isAt 12 = .ok (.getfield 19, 3) := by decide +kernel
theorem dX12_isAt_15 : decode cX12_isAt 15 = .ok (.aload_n 0, 1) := by decide +kernel
theorem dX12_isAt_16 : decode cX12_isAt 16 = .ok (.getfield 219, 3) := by decide +kernel
theorem dX12_isAt_19 : decode cX12_isAt 19 = .ok (.iaload, 1) := by decide +kernel
theorem dX12_isAt_20 : decode cX12_isAt 20 = .ok (.iload_n 1, 1) := by decide +kernel
theorem dX12_isAt_21 : decode cX12_isAt 21 = .ok (.iload_n 2, 1) := by decide +kernel
theorem dX12_isAt_22 : decode cX12_isAt 22 = .ok (.invokestatic 39, 3) := by decide +kernel
theorem dX12_isAt_25 : decode cX12_isAt 25 = .ok (.ifCond .eq 7, 3) := by decide +kernel
theorem dX12_isAt_28 : decode cX12_isAt 28 = .ok (.iconst 1, 1) := by decide +kernel
theorem dX12_isAt_29 : decode cX12_isAt 29 = .ok (.goto 4, 3) := by decide +kernel
theorem dX12_isAt_32 : decode cX12_isAt 32 = .ok (.iconst 0, 1) := by decide +kernel
theorem dX12_isAt_33 : decode cX12_isAt 33 = .ok (.ireturn, 1) := by decide +kernel
theorem dX12_skips_0 : decode cX12_skips 0 = .ok (.aload_n 0, 1) := by decide +kernel
theorem dX12_skips_1 : decode cX12_skips 1 = .ok (.bipush 32, 2) := by decide +kernel
theorem dX12_skips_3 : decode cX12_skips 3 = .ok (.bipush 32, 2) := by decide +kernel
theorem dX12_skips_5 : decode cX12_skips 5 = .ok (.invokevirtual 222, 3) := by decide +kernel
theorem dX12_skips_8 : decode cX12_skips 8 = .ok (.istore_n 1, 1) := by decide +kernel
theorem dX12_skips_9 : decode cX12_skips 9 = .ok (.aload_n 0, 1) := by decide +kernel
theorem dX12_skips_10 : decode cX12_skips 10 = .ok (.bipush 32, 2) := by decide +kernel
theorem dX12_skips_12 : decode cX12_skips 12 = .ok (.bipush 32, 2) := by decide +kernel
theorem dX12_skips_14 : decode cX12_skips 14 = .ok (.invokevirtual 222, 3) := by decide +kernel
theorem dX12_skips_17 : decode cX12_skips 17 = .ok (.ifCond .eq 16, 3) := by decide +kernel
theorem dX12_skips_20 : decode cX12_skips 20 = .ok (.aload_n 0, 1) := by decide +kernel
theorem dX12_skips_21 : decode cX12_skips 21 = .ok (.dup, 1) := by decide +kernel
theorem dX12_skips_22 : decode cX12_skips 22 = .ok (.getfield 219, 3) := by decide +kernel
theorem dX12_skips_25 : decode cX12_skips 25 = .ok (.iconst 1, 1) := by decide +kernel
theorem dX12_skips_26 : decode cX12_skips 26 = .ok (.iadd, 1) := by decide +kernel
theorem dX12_skips_27 : decode cX12_skips 27 = .ok (.putfield 219, 3) := by decide +kernel
theorem dX12_skips_30 : decode cX12_skips 30 = .ok (.goto (-21), 3) := by decide +kernel
theorem dX12_skips_33 : decode cX12_skips 33 = .ok (.iload_n 1, 1) := by decide +kernel
theorem dX12_skips_34 : decode cX12_skips 34 = .ok (.ireturn, 1) := by decide +kernel
theorem dX12_letterAt_0 : decode cX12_letterAt 0 = .ok (.iload_n 0, 1) := by decide +kernel
theorem dX12_letterAt_1 : decode cX12_letterAt 1 = .ok (.tableswitch 340 0 5 #[39, 80, 131, 172, 223, 284], 39) := by decide +kernel
theorem dX12_letterAt_40 : decode cX12_letterAt 40 = .ok (.iload_n 1, 1) := by decide +kernel
theorem dX12_letterAt_41 : decode cX12_letterAt 41 = .ok (.ifCond .ne 8, 3) := by decide +kernel
theorem dX12_letterAt_44 : decode cX12_letterAt 44 = .ok (.bipush 106, 2) := by decide +kernel
theorem dX12_letterAt_46 : decode cX12_letterAt 46 = .ok (.goto 34, 3) := by decide +kernel
theorem dX12_letterAt_49 : decode cX12_letterAt 49 = .ok (.iload_n 1, 1) := by decide +kernel
theorem dX12_letterAt_50 : decode cX12_letterAt 50 = .ok (.iconst 1, 1) := by decide +kernel
theorem dX12_letterAt_51 : decode cX12_letterAt 51 = .ok (.if_icmp .ne 8, 3) := by decide +kernel
theorem dX12_letterAt_54 : decode cX12_letterAt 54 = .ok (.bipush 111, 2) := by decide +kernel
theorem dX12_letterAt_56 : decode cX12_letterAt 56 = .ok (.goto 24, 3) := by decide +kernel
theorem dX12_letterAt_59 : decode cX12_letterAt 59 = .ok (.iload_n 1, 1) := by decide +kernel
theorem dX12_letterAt_60 : decode cX12_letterAt 60 = .ok (.iconst 2, 1) := by decide +kernel
theorem dX12_letterAt_61 : decode cX12_letterAt 61 = .ok (.if_icmp .ne 8, 3) := by decide +kernel
theorem dX12_letterAt_64 : decode cX12_letterAt 64 = .ok (.bipush 105, 2) := by decide +kernel
theorem dX12_letterAt_66 : decode cX12_letterAt 66 = .ok (.goto 14, 3) := by decide +kernel
theorem dX12_letterAt_69 : decode cX12_letterAt 69 = .ok (.iload_n 1, 1) := by decide +kernel
theorem dX12_letterAt_70 : decode cX12_letterAt 70 = .ok (.iconst 3, 1) := by decide +kernel
theorem dX12_letterAt_71 : decode cX12_letterAt 71 = .ok (.if_icmp .ne 8, 3) := by decide +kernel
theorem dX12_letterAt_74 : decode cX12_letterAt 74 = .ok (.bipush 110, 2) := by decide +kernel
theorem dX12_letterAt_76 : decode cX12_letterAt 76 = .ok (.goto 4, 3) := by decide +kernel
theorem dX12_letterAt_79 : decode cX12_letterAt 79 = .ok (.iconst 0, 1) := by decide +kernel
theorem dX12_letterAt_80 : decode cX12_letterAt 80 = .ok (.ireturn, 1) := by decide +kernel
theorem dX12_letterAt_81 : decode cX12_letterAt 81 = .ok (.iload_n 1, 1) := by decide +kernel
theorem dX12_letterAt_82 : decode cX12_letterAt 82 = .ok (.ifCond .ne 8, 3) := by decide +kernel
theorem dX12_letterAt_85 : decode cX12_letterAt 85 = .ok (.bipush 98, 2) := by decide +kernel
theorem dX12_letterAt_87 : decode cX12_letterAt 87 = .ok (.goto 44, 3) := by decide +kernel
theorem dX12_letterAt_90 : decode cX12_letterAt 90 = .ok (.iload_n 1, 1) := by decide +kernel
theorem dX12_letterAt_91 : decode cX12_letterAt 91 = .ok (.iconst 1, 1) := by decide +kernel
theorem dX12_letterAt_92 : decode cX12_letterAt 92 = .ok (.if_icmp .ne 8, 3) := by decide +kernel
theorem dX12_letterAt_95 : decode cX12_letterAt 95 = .ok (.bipush 114, 2) := by decide +kernel
theorem dX12_letterAt_97 : decode cX12_letterAt 97 = .ok (.goto 34, 3) := by decide +kernel
theorem dX12_letterAt_100 : decode cX12_letterAt 100 = .ok (.iload_n 1, 1) := by decide +kernel
theorem dX12_letterAt_101 : decode cX12_letterAt 101 = .ok (.iconst 2, 1) := by decide +kernel
theorem dX12_letterAt_102 : decode cX12_letterAt 102 = .ok (.if_icmp .ne 8, 3) := by decide +kernel
theorem dX12_letterAt_105 : decode cX12_letterAt 105 = .ok (.bipush 105, 2) := by decide +kernel
theorem dX12_letterAt_107 : decode cX12_letterAt 107 = .ok (.goto 24, 3) := by decide +kernel
theorem dX12_letterAt_110 : decode cX12_letterAt 110 = .ok (.iload_n 1, 1) := by decide +kernel
theorem dX12_letterAt_111 : decode cX12_letterAt 111 = .ok (.iconst 3, 1) := by decide +kernel
theorem dX12_letterAt_112 : decode cX12_letterAt 112 = .ok (.if_icmp .ne 8, 3) := by decide +kernel
theorem dX12_letterAt_115 : decode cX12_letterAt 115 = .ok (.bipush 110, 2) := by decide +kernel
theorem dX12_letterAt_117 : decode cX12_letterAt 117 = .ok (.goto 14, 3) := by decide +kernel
theorem dX12_letterAt_120 : decode cX12_letterAt 120 = .ok (.iload_n 1, 1) := by decide +kernel
theorem dX12_letterAt_121 : decode cX12_letterAt 121 = .ok (.iconst 4, 1) := by decide +kernel
theorem dX12_letterAt_122 : decode cX12_letterAt 122 = .ok (.if_icmp .ne 8, 3) := by decide +kernel
theorem dX12_letterAt_125 : decode cX12_letterAt 125 = .ok (.bipush 103, 2) := by decide +kernel
theorem dX12_letterAt_127 : decode cX12_letterAt 127 = .ok (.goto 4, 3) := by decide +kernel
theorem dX12_letterAt_130 : decode cX12_letterAt 130 = .ok (.iconst 0, 1) := by decide +kernel
theorem dX12_letterAt_131 : decode cX12_letterAt 131 = .ok (.ireturn, 1) := by decide +kernel
theorem dX12_letterAt_132 : decode cX12_letterAt 132 = .ok (.iload_n 1, 1) := by decide +kernel
theorem dX12_letterAt_133 : decode cX12_letterAt 133 = .ok (.ifCond .ne 8, 3) := by decide +kernel
theorem dX12_letterAt_136 : decode cX12_letterAt 136 = .ok (.bipush 98, 2) := by decide +kernel
theorem dX12_letterAt_138 : decode cX12_letterAt 138 = .ok (.goto 34, 3) := by decide +kernel
theorem dX12_letterAt_141 : decode cX12_letterAt 141 = .ok (.iload_n 1, 1) := by decide +kernel
theorem dX12_letterAt_142 : decode cX12_letterAt 142 = .ok (.iconst 1, 1) := by decide +kernel
theorem dX12_letterAt_143 : decode cX12_letterAt 143 = .ok (.if_icmp .ne 8, 3) := by decide +kernel
theorem dX12_letterAt_146 : decode cX12_letterAt 146 = .ok (.bipush 97, 2) := by decide +kernel
theorem dX12_letterAt_148 : decode cX12_letterAt 148 = .ok (.goto 24, 3) := by decide +kernel
theorem dX12_letterAt_151 : decode cX12_letterAt 151 = .ok (.iload_n 1, 1) := by decide +kernel
theorem dX12_letterAt_152 : decode cX12_letterAt 152 = .ok (.iconst 2, 1) := by decide +kernel
theorem dX12_letterAt_153 : decode cX12_letterAt 153 = .ok (.if_icmp .ne 8, 3) := by decide +kernel
theorem dX12_letterAt_156 : decode cX12_letterAt 156 = .ok (.bipush 107, 2) := by decide +kernel
theorem dX12_letterAt_158 : decode cX12_letterAt 158 = .ok (.goto 14, 3) := by decide +kernel
theorem dX12_letterAt_161 : decode cX12_letterAt 161 = .ok (.iload_n 1, 1) := by decide +kernel
theorem dX12_letterAt_162 : decode cX12_letterAt 162 = .ok (.iconst 3, 1) := by decide +kernel
theorem dX12_letterAt_163 : decode cX12_letterAt 163 = .ok (.if_icmp .ne 8, 3) := by decide +kernel
theorem dX12_letterAt_166 : decode cX12_letterAt 166 = .ok (.bipush 101, 2) := by decide +kernel
theorem dX12_letterAt_168 : decode cX12_letterAt 168 = .ok (.goto 4, 3) := by decide +kernel
theorem dX12_letterAt_171 : decode cX12_letterAt 171 = .ok (.iconst 0, 1) := by decide +kernel
theorem dX12_letterAt_172 : decode cX12_letterAt 172 = .ok (.ireturn, 1) := by decide +kernel
theorem dX12_letterAt_173 : decode cX12_letterAt 173 = .ok (.iload_n 1, 1) := by decide +kernel
theorem dX12_letterAt_174 : decode cX12_letterAt 174 = .ok (.ifCond .ne 8, 3) := by decide +kernel
theorem dX12_letterAt_177 : decode cX12_letterAt 177 = .ok (.bipush 99, 2) := by decide +kernel
theorem dX12_letterAt_179 : decode cX12_letterAt 179 = .ok (.goto 44, 3) := by decide +kernel
theorem dX12_letterAt_182 : decode cX12_letterAt 182 = .ok (.iload_n 1, 1) := by decide +kernel
theorem dX12_letterAt_183 : decode cX12_letterAt 183 = .ok (.iconst 1, 1) := by decide +kernel
theorem dX12_letterAt_184 : decode cX12_letterAt 184 = .ok (.if_icmp .ne 8, 3) := by decide +kernel
theorem dX12_letterAt_187 : decode cX12_letterAt 187 = .ok (.bipush 108, 2) := by decide +kernel
theorem dX12_letterAt_189 : decode cX12_letterAt 189 = .ok (.goto 34, 3) := by decide +kernel
theorem dX12_letterAt_192 : decode cX12_letterAt 192 = .ok (.iload_n 1, 1) := by decide +kernel
theorem dX12_letterAt_193 : decode cX12_letterAt 193 = .ok (.iconst 2, 1) := by decide +kernel
theorem dX12_letterAt_194 : decode cX12_letterAt 194 = .ok (.if_icmp .ne 8, 3) := by decide +kernel
theorem dX12_letterAt_197 : decode cX12_letterAt 197 = .ok (.bipush 97, 2) := by decide +kernel
theorem dX12_letterAt_199 : decode cX12_letterAt 199 = .ok (.goto 24, 3) := by decide +kernel
theorem dX12_letterAt_202 : decode cX12_letterAt 202 = .ok (.iload_n 1, 1) := by decide +kernel
theorem dX12_letterAt_203 : decode cX12_letterAt 203 = .ok (.iconst 3, 1) := by decide +kernel
theorem dX12_letterAt_204 : decode cX12_letterAt 204 = .ok (.if_icmp .ne 8, 3) := by decide +kernel
theorem dX12_letterAt_207 : decode cX12_letterAt 207 = .ok (.bipush 105, 2) := by decide +kernel
theorem dX12_letterAt_209 : decode cX12_letterAt 209 = .ok (.goto 14, 3) := by decide +kernel
theorem dX12_letterAt_212 : decode cX12_letterAt 212 = .ok (.iload_n 1, 1) := by decide +kernel
theorem dX12_letterAt_213 : decode cX12_letterAt 213 = .ok (.iconst 4, 1) := by decide +kernel
theorem dX12_letterAt_214 : decode cX12_letterAt 214 = .ok (.if_icmp .ne 8, 3) := by decide +kernel
theorem dX12_letterAt_217 : decode cX12_letterAt 217 = .ok (.bipush 109, 2) := by decide +kernel
theorem dX12_letterAt_219 : decode cX12_letterAt 219 = .ok (.goto 4, 3) := by decide +kernel
theorem dX12_letterAt_222 : decode cX12_letterAt 222 = .ok (.iconst 0, 1) := by decide +kernel
theorem dX12_letterAt_223 : decode cX12_letterAt 223 = .ok (.ireturn, 1) := by decide +kernel
theorem dX12_letterAt_224 : decode cX12_letterAt 224 = .ok (.iload_n 1, 1) := by decide +kernel
theorem dX12_letterAt_225 : decode cX12_letterAt 225 = .ok (.ifCond .ne 8, 3) := by decide +kernel
theorem dX12_letterAt_228 : decode cX12_letterAt 228 = .ok (.bipush 114, 2) := by decide +kernel
theorem dX12_letterAt_230 : decode cX12_letterAt 230 = .ok (.goto 54, 3) := by decide +kernel
theorem dX12_letterAt_233 : decode cX12_letterAt 233 = .ok (.iload_n 1, 1) := by decide +kernel
theorem dX12_letterAt_234 : decode cX12_letterAt 234 = .ok (.iconst 1, 1) := by decide +kernel
theorem dX12_letterAt_235 : decode cX12_letterAt 235 = .ok (.if_icmp .ne 8, 3) := by decide +kernel
theorem dX12_letterAt_238 : decode cX12_letterAt 238 = .ok (.bipush 101, 2) := by decide +kernel
theorem dX12_letterAt_240 : decode cX12_letterAt 240 = .ok (.goto 44, 3) := by decide +kernel
theorem dX12_letterAt_243 : decode cX12_letterAt 243 = .ok (.iload_n 1, 1) := by decide +kernel
theorem dX12_letterAt_244 : decode cX12_letterAt 244 = .ok (.iconst 2, 1) := by decide +kernel
theorem dX12_letterAt_245 : decode cX12_letterAt 245 = .ok (.if_icmp .ne 8, 3) := by decide +kernel
theorem dX12_letterAt_248 : decode cX12_letterAt 248 = .ok (.bipush 116, 2) := by decide +kernel
theorem dX12_letterAt_250 : decode cX12_letterAt 250 = .ok (.goto 34, 3) := by decide +kernel
theorem dX12_letterAt_253 : decode cX12_letterAt 253 = .ok (.iload_n 1, 1) := by decide +kernel
theorem dX12_letterAt_254 : decode cX12_letterAt 254 = .ok (.iconst 3, 1) := by decide +kernel
theorem dX12_letterAt_255 : decode cX12_letterAt 255 = .ok (.if_icmp .ne 8, 3) := by decide +kernel
theorem dX12_letterAt_258 : decode cX12_letterAt 258 = .ok (.bipush 117, 2) := by decide +kernel
theorem dX12_letterAt_260 : decode cX12_letterAt 260 = .ok (.goto 24, 3) := by decide +kernel
theorem dX12_letterAt_263 : decode cX12_letterAt 263 = .ok (.iload_n 1, 1) := by decide +kernel
theorem dX12_letterAt_264 : decode cX12_letterAt 264 = .ok (.iconst 4, 1) := by decide +kernel
theorem dX12_letterAt_265 : decode cX12_letterAt 265 = .ok (.if_icmp .ne 8, 3) := by decide +kernel
theorem dX12_letterAt_268 : decode cX12_letterAt 268 = .ok (.bipush 114, 2) := by decide +kernel
theorem dX12_letterAt_270 : decode cX12_letterAt 270 = .ok (.goto 14, 3) := by decide +kernel
theorem dX12_letterAt_273 : decode cX12_letterAt 273 = .ok (.iload_n 1, 1) := by decide +kernel
theorem dX12_letterAt_274 : decode cX12_letterAt 274 = .ok (.iconst 5, 1) := by decide +kernel
theorem dX12_letterAt_275 : decode cX12_letterAt 275 = .ok (.if_icmp .ne 8, 3) := by decide +kernel
theorem dX12_letterAt_278 : decode cX12_letterAt 278 = .ok (.bipush 110, 2) := by decide +kernel
theorem dX12_letterAt_280 : decode cX12_letterAt 280 = .ok (.goto 4, 3) := by decide +kernel
theorem dX12_letterAt_283 : decode cX12_letterAt 283 = .ok (.iconst 0, 1) := by decide +kernel
theorem dX12_letterAt_284 : decode cX12_letterAt 284 = .ok (.ireturn, 1) := by decide +kernel
theorem dX12_letterAt_285 : decode cX12_letterAt 285 = .ok (.iload_n 1, 1) := by decide +kernel
theorem dX12_letterAt_286 : decode cX12_letterAt 286 = .ok (.ifCond .eq 8, 3) := by decide +kernel
theorem dX12_letterAt_289 : decode cX12_letterAt 289 = .ok (.iload_n 1, 1) := by decide +kernel
theorem dX12_letterAt_290 : decode cX12_letterAt 290 = .ok (.iconst 5, 1) := by decide +kernel
theorem dX12_letterAt_291 : decode cX12_letterAt 291 = .ok (.if_icmp .ne 8, 3) := by decide +kernel
theorem dX12_letterAt_294 : decode cX12_letterAt 294 = .ok (.bipush 101, 2) := by decide +kernel
theorem dX12_letterAt_296 : decode cX12_letterAt 296 = .ok (.goto 44, 3) := by decide +kernel
theorem dX12_letterAt_299 : decode cX12_letterAt 299 = .ok (.iload_n 1, 1) := by decide +kernel
theorem dX12_letterAt_300 : decode cX12_letterAt 300 = .ok (.iconst 1, 1) := by decide +kernel
theorem dX12_letterAt_301 : decode cX12_letterAt 301 = .ok (.if_icmp .ne 8, 3) := by decide +kernel
theorem dX12_letterAt_304 : decode cX12_letterAt 304 = .ok (.bipush 120, 2) := by decide +kernel
theorem dX12_letterAt_306 : decode cX12_letterAt 306 = .ok (.goto 34, 3) := by decide +kernel
theorem dX12_letterAt_309 : decode cX12_letterAt 309 = .ok (.iload_n 1, 1) := by decide +kernel
theorem dX12_letterAt_310 : decode cX12_letterAt 310 = .ok (.iconst 2, 1) := by decide +kernel
theorem dX12_letterAt_311 : decode cX12_letterAt 311 = .ok (.if_icmp .ne 8, 3) := by decide +kernel
theorem dX12_letterAt_314 : decode cX12_letterAt 314 = .ok (.bipush 99, 2) := by decide +kernel
theorem dX12_letterAt_316 : decode cX12_letterAt 316 = .ok (.goto 24, 3) := by decide +kernel
theorem dX12_letterAt_319 : decode cX12_letterAt 319 = .ok (.iload_n 1, 1) := by decide +kernel
theorem dX12_letterAt_320 : decode cX12_letterAt 320 = .ok (.iconst 3, 1) := by decide +kernel
theorem dX12_letterAt_321 : decode cX12_letterAt 321 = .ok (.if_icmp .ne 8, 3) := by decide +kernel
theorem dX12_letterAt_324 : decode cX12_letterAt 324 = .ok (.bipush 117, 2) := by decide +kernel
theorem dX12_letterAt_326 : decode cX12_letterAt 326 = .ok (.goto 14, 3) := by decide +kernel
theorem dX12_letterAt_329 : decode cX12_letterAt 329 = .ok (.iload_n 1, 1) := by decide +kernel
theorem dX12_letterAt_330 : decode cX12_letterAt 330 = .ok (.iconst 4, 1) := by decide +kernel
theorem dX12_letterAt_331 : decode cX12_letterAt 331 = .ok (.if_icmp .ne 8, 3) := by decide +kernel
theorem dX12_letterAt_334 : decode cX12_letterAt 334 = .ok (.bipush 115, 2) := by decide +kernel
theorem dX12_letterAt_336 : decode cX12_letterAt 336 = .ok (.goto 4, 3) := by decide +kernel
theorem dX12_letterAt_339 : decode cX12_letterAt 339 = .ok (.iconst 0, 1) := by decide +kernel
theorem dX12_letterAt_340 : decode cX12_letterAt 340 = .ok (.ireturn, 1) := by decide +kernel
theorem dX12_letterAt_341 : decode cX12_letterAt 341 = .ok (.iload_n 1, 1) := by decide +kernel
theorem dX12_letterAt_342 : decode cX12_letterAt 342 = .ok (.ifCond .ne 8, 3) := by decide +kernel
theorem dX12_letterAt_345 : decode cX12_letterAt 345 = .ok (.bipush 103, 2) := by decide +kernel
theorem dX12_letterAt_347 : decode cX12_letterAt 347 = .ok (.goto 34, 3) := by decide +kernel
theorem dX12_letterAt_350 : decode cX12_letterAt 350 = .ok (.iload_n 1, 1) := by decide +kernel
theorem dX12_letterAt_351 : decode cX12_letterAt 351 = .ok (.iconst 1, 1) := by decide +kernel
theorem dX12_letterAt_352 : decode cX12_letterAt 352 = .ok (.if_icmp .ne 8, 3) := by decide +kernel
theorem dX12_letterAt_355 : decode cX12_letterAt 355 = .ok (.bipush 105, 2) := by decide +kernel
theorem dX12_letterAt_357 : decode cX12_letterAt 357 = .ok (.goto 24, 3) := by decide +kernel
theorem dX12_letterAt_360 : decode cX12_letterAt 360 = .ok (.iload_n 1, 1) := by decide +kernel
theorem dX12_letterAt_361 : decode cX12_letterAt 361 = .ok (.iconst 2, 1) := by decide +kernel
theorem dX12_letterAt_362 : decode cX12_letterAt 362 = .ok (.if_icmp .ne 8, 3) := by decide +kernel
theorem dX12_letterAt_365 : decode cX12_letterAt 365 = .ok (.bipush 118, 2) := by decide +kernel
theorem dX12_letterAt_367 : decode cX12_letterAt 367 = .ok (.goto 14, 3) := by decide +kernel
theorem dX12_letterAt_370 : decode cX12_letterAt 370 = .ok (.iload_n 1, 1) := by decide +kernel
theorem dX12_letterAt_371 : decode cX12_letterAt 371 = .ok (.iconst 3, 1) := by decide +kernel
theorem dX12_letterAt_372 : decode cX12_letterAt 372 = .ok (.if_icmp .ne 8, 3) := by decide +kernel
theorem dX12_letterAt_375 : decode cX12_letterAt 375 = .ok (.bipush 101, 2) := by decide +kernel
theorem dX12_letterAt_377 : decode cX12_letterAt 377 = .ok (.goto 4, 3) := by decide +kernel
theorem dX12_letterAt_380 : decode cX12_letterAt 380 = .ok (.iconst 0, 1) := by decide +kernel
theorem dX12_letterAt_381 : decode cX12_letterAt 381 = .ok (.ireturn, 1) := by decide +kernel
theorem dX12_wordFrom_0 : decode cX12_wordFrom 0 = .ok (.aload_n 0, 1) := by decide +kernel
theorem dX12_wordFrom_1 : decode cX12_wordFrom 1 = .ok (.getfield 219, 3) := by decide +kernel
theorem dX12_wordFrom_4 : decode cX12_wordFrom 4 = .ok (.iload_n 1, 1) := by decide +kernel
theorem dX12_wordFrom_5 : decode cX12_wordFrom 5 = .ok (.isub, 1) := by decide +kernel
theorem dX12_wordFrom_6 : decode cX12_wordFrom 6 = .ok (.istore_n 2, 1) := by decide +kernel
theorem dX12_wordFrom_7 : decode cX12_wordFrom 7 = .ok (.iconst 0, 1) := by decide +kernel
theorem dX12_wordFrom_8 : decode cX12_wordFrom 8 = .ok (.istore_n 3, 1) := by decide +kernel
theorem dX12_wordFrom_9 : decode cX12_wordFrom 9 = .ok (.iload_n 3, 1) := by decide +kernel
theorem dX12_wordFrom_10 : decode cX12_wordFrom 10 = .ok (.bipush 7, 2) := by decide +kernel
theorem dX12_wordFrom_12 : decode cX12_wordFrom 12 = .ok (.if_icmp .ge 86, 3) := by decide +kernel
theorem dX12_wordFrom_15 : decode cX12_wordFrom 15 = .ok (.iload_n 2, 1) := by decide +kernel
theorem dX12_wordFrom_16 : decode cX12_wordFrom 16 = .ok (.ifCond .le 21, 3) := by decide +kernel
theorem dX12_wordFrom_19 : decode cX12_wordFrom 19 = .ok (.iload_n 2, 1) := by decide +kernel
theorem dX12_wordFrom_20 : decode cX12_wordFrom 20 = .ok (.bipush 7, 2) := by decide +kernel
theorem dX12_wordFrom_22 : decode cX12_wordFrom 22 = .ok (.if_icmp .ge 15, 3) := by decide +kernel
theorem dX12_wordFrom_25 : decode cX12_wordFrom 25 = .ok (.iload_n 3, 1) := by decide +kernel
theorem dX12_wordFrom_26 : decode cX12_wordFrom 26 = .ok (.iload_n 2, 1) := by decide +kernel
theorem dX12_wordFrom_27 : decode cX12_wordFrom 27 = .ok (.invokestatic 225, 3) := by decide +kernel
theorem dX12_wordFrom_30 : decode cX12_wordFrom 30 = .ok (.ifCond .ne 7, 3) := by decide +kernel
theorem dX12_wordFrom_33 : decode cX12_wordFrom 33 = .ok (.iconst 1, 1) := by decide +kernel
theorem dX12_wordFrom_34 : decode cX12_wordFrom 34 = .ok (.goto 4, 3) := by decide +kernel
theorem dX12_wordFrom_37 : decode cX12_wordFrom 37 = .ok (.iconst 0, 1) := by decide +kernel
theorem dX12_wordFrom_38 : decode cX12_wordFrom 38 = .ok (.istore 4, 2) := by decide +kernel
theorem dX12_wordFrom_40 : decode cX12_wordFrom 40 = .ok (.iconst 0, 1) := by decide +kernel
theorem dX12_wordFrom_41 : decode cX12_wordFrom 41 = .ok (.istore 5, 2) := by decide +kernel
theorem dX12_wordFrom_43 : decode cX12_wordFrom 43 = .ok (.iload 5, 2) := by decide +kernel
theorem dX12_wordFrom_45 : decode cX12_wordFrom 45 = .ok (.iload_n 2, 1) := by decide +kernel
theorem dX12_wordFrom_46 : decode cX12_wordFrom 46 = .ok (.if_icmp .ge 39, 3) := by decide +kernel
theorem dX12_wordFrom_49 : decode cX12_wordFrom 49 = .ok (.iload 4, 2) := by decide +kernel
theorem dX12_wordFrom_51 : decode cX12_wordFrom 51 = .ok (.ifCond .eq 34, 3) := by decide +kernel
theorem dX12_wordFrom_54 : decode cX12_wordFrom 54 = .ok (.iload_n 3, 1) := by decide +kernel
theorem dX12_wordFrom_55 : decode cX12_wordFrom 55 = .ok (.iload 5, 2) := by decide +kernel
theorem dX12_wordFrom_57 : decode cX12_wordFrom 57 = .ok (.invokestatic 225, 3) := by decide +kernel
theorem dX12_wordFrom_60 : decode cX12_wordFrom 60 = .ok (.aload_n 0, 1) := by decide +kernel
theorem dX12_wordFrom_61 : decode cX12_wordFrom 61 = .ok (.getfield 19, 3) := by decide +kernel
theorem dX12_wordFrom_64 : decode cX12_wordFrom 64 = .ok (.iload_n 1, 1) := by decide +kernel
theorem dX12_wordFrom_65 : decode cX12_wordFrom 65 = .ok (.iload 5, 2) := by decide +kernel
theorem dX12_wordFrom_67 : decode cX12_wordFrom 67 = .ok (.iadd, 1) := by decide +kernel
theorem dX12_wordFrom_68 : decode cX12_wordFrom 68 = .ok (.iaload, 1) := by decide +kernel
theorem dX12_wordFrom_69 : decode cX12_wordFrom 69 = .ok (.if_icmp .ne 7, 3) := by decide +kernel
theorem dX12_wordFrom_72 : decode cX12_wordFrom 72 = .ok (.iconst 1, 1) := by decide +kernel
theorem dX12_wordFrom_73 : decode cX12_wordFrom 73 = .ok (.goto 4, 3) := by decide +kernel
theorem dX12_wordFrom_76 : decode cX12_wordFrom 76 = .ok (.iconst 0, 1) := by decide +kernel
theorem dX12_wordFrom_77 : decode cX12_wordFrom 77 = .ok (.istore 4, 2) := by decide +kernel
theorem dX12_wordFrom_79 : decode cX12_wordFrom 79 = .ok (.iinc 5 1, 3) := by decide +kernel
theorem dX12_wordFrom_82 : decode cX12_wordFrom 82 = .ok (.goto (-39), 3) := by decide +kernel
theorem dX12_wordFrom_85 : decode cX12_wordFrom 85 = .ok (.iload 4, 2) := by decide +kernel
theorem dX12_wordFrom_87 : decode cX12_wordFrom 87 = .ok (.ifCond .eq 5, 3) := by decide +kernel
theorem dX12_wordFrom_90 : decode cX12_wordFrom 90 = .ok (.iload_n 3, 1) := by decide +kernel
theorem dX12_wordFrom_91 : decode cX12_wordFrom 91 = .ok (.ireturn, 1) := by decide +kernel
theorem dX12_wordFrom_92 : decode cX12_wordFrom 92 = .ok (.iinc 3 1, 3) := by decide +kernel
theorem dX12_wordFrom_95 : decode cX12_wordFrom 95 = .ok (.goto (-86), 3) := by decide +kernel
theorem dX12_wordFrom_98 : decode cX12_wordFrom 98 = .ok (.iconst (-1), 1) := by decide +kernel
theorem dX12_wordFrom_99 : decode cX12_wordFrom 99 = .ok (.ireturn, 1) := by decide +kernel
theorem dX12_readsNumber_0 : decode cX12_readsNumber 0 = .ok (.aload_n 0, 1) := by decide +kernel
theorem dX12_readsNumber_1 : decode cX12_readsNumber 1 = .ok (.invokevirtual 228, 3) := by decide +kernel
theorem dX12_readsNumber_4 : decode cX12_readsNumber 4 = .ok (.ifCond .eq 14, 3) := by decide +kernel
theorem dX12_readsNumber_7 : decode cX12_readsNumber 7 = .ok (.aload_n 0, 1) := by decide +kernel
theorem dX12_readsNumber_8 : decode cX12_readsNumber 8 = .ok (.bipush 48, 2) := by decide +kernel
theorem dX12_readsNumber_10 : decode cX12_readsNumber 10 = .ok (.bipush 57, 2) := by decide +kernel
theorem dX12_readsNumber_12 : decode cX12_readsNumber 12 = .ok (.invokevirtual 222, 3) := by decide +kernel
theorem dX12_readsNumber_15 : decode cX12_readsNumber 15 = .ok (.ifCond .ne 5, 3) := by decide +kernel
theorem dX12_readsNumber_18 : decode cX12_readsNumber 18 = .ok (.iconst (-1), 1) := by decide +kernel
theorem dX12_readsNumber_19 : decode cX12_readsNumber 19 = .ok (.ireturn, 1) := by decide +kernel
theorem dX12_readsNumber_20 : decode cX12_readsNumber 20 = .ok (.iconst 0, 1) := by decide +kernel
theorem dX12_readsNumber_21 : decode cX12_readsNumber 21 = .ok (.istore_n 1, 1) := by decide +kernel
theorem dX12_readsNumber_22 : decode cX12_readsNumber 22 = .ok (.aload_n 0, 1) := by decide +kernel
theorem dX12_readsNumber_23 : decode cX12_readsNumber 23 = .ok (.getfield 219, 3) := by decide +kernel
theorem dX12_readsNumber_26 : decode cX12_readsNumber 26 = .ok (.istore_n 2, 1) := by decide +kernel
theorem dX12_readsNumber_27 : decode cX12_readsNumber 27 = .ok (.aload_n 0, 1) := by decide +kernel
theorem dX12_readsNumber_28 : decode cX12_readsNumber 28 = .ok (.bipush 48, 2) := by decide +kernel
theorem dX12_readsNumber_30 : decode cX12_readsNumber 30 = .ok (.bipush 57, 2) := by decide +kernel
theorem dX12_readsNumber_32 : decode cX12_readsNumber 32 = .ok (.invokevirtual 222, 3) := by decide +kernel
theorem dX12_readsNumber_35 : decode cX12_readsNumber 35 = .ok (.ifCond .eq 44, 3) := by decide +kernel
theorem dX12_readsNumber_38 : decode cX12_readsNumber 38 = .ok (.aload_n 0, 1) := by decide +kernel
theorem dX12_readsNumber_39 : decode cX12_readsNumber 39 = .ok (.getfield 219, 3) := by decide +kernel
theorem dX12_readsNumber_42 : decode cX12_readsNumber 42 = .ok (.iload_n 2, 1) := by decide +kernel
theorem dX12_readsNumber_43 : decode cX12_readsNumber 43 = .ok (.iconst 5, 1) := by decide +kernel
theorem dX12_readsNumber_44 : decode cX12_readsNumber 44 = .ok (.iadd, 1) := by decide +kernel
theorem dX12_readsNumber_45 : decode cX12_readsNumber 45 = .ok (.if_icmp .ge 34, 3) := by decide +kernel
theorem dX12_readsNumber_48 : decode cX12_readsNumber 48 = .ok (.bipush 10, 2) := by decide +kernel
theorem dX12_readsNumber_50 : decode cX12_readsNumber 50 = .ok (.iload_n 1, 1) := by decide +kernel
theorem dX12_readsNumber_51 : decode cX12_readsNumber 51 = .ok (.imul, 1) := by decide +kernel
theorem dX12_readsNumber_52 : decode cX12_readsNumber 52 = .ok (.aload_n 0, 1) := by decide +kernel
theorem dX12_readsNumber_53 : decode cX12_readsNumber 53 = .ok (.getfield 19, 3) := by decide +kernel
theorem dX12_readsNumber_56 : decode cX12_readsNumber 56 = .ok (.aload_n 0, 1) := by decide +kernel
theorem dX12_readsNumber_57 : decode cX12_readsNumber 57 = .ok (.getfield 219, 3) := by decide +kernel
theorem dX12_readsNumber_60 : decode cX12_readsNumber 60 = .ok (.iaload, 1) := by decide +kernel
theorem dX12_readsNumber_61 : decode cX12_readsNumber 61 = .ok (.iadd, 1) := by decide +kernel
theorem dX12_readsNumber_62 : decode cX12_readsNumber 62 = .ok (.bipush 48, 2) := by decide +kernel
theorem dX12_readsNumber_64 : decode cX12_readsNumber 64 = .ok (.isub, 1) := by decide +kernel
theorem dX12_readsNumber_65 : decode cX12_readsNumber 65 = .ok (.istore_n 1, 1) := by decide +kernel
theorem dX12_readsNumber_66 : decode cX12_readsNumber 66 = .ok (.aload_n 0, 1) := by decide +kernel
theorem dX12_readsNumber_67 : decode cX12_readsNumber 67 = .ok (.dup, 1) := by decide +kernel
theorem dX12_readsNumber_68 : decode cX12_readsNumber 68 = .ok (.getfield 219, 3) := by decide +kernel
theorem dX12_readsNumber_71 : decode cX12_readsNumber 71 = .ok (.iconst 1, 1) := by decide +kernel
theorem dX12_readsNumber_72 : decode cX12_readsNumber 72 = .ok (.iadd, 1) := by decide +kernel
theorem dX12_readsNumber_73 : decode cX12_readsNumber 73 = .ok (.putfield 219, 3) := by decide +kernel
theorem dX12_readsNumber_76 : decode cX12_readsNumber 76 = .ok (.goto (-49), 3) := by decide +kernel
theorem dX12_readsNumber_79 : decode cX12_readsNumber 79 = .ok (.iload_n 1, 1) := by decide +kernel
theorem dX12_readsNumber_80 : decode cX12_readsNumber 80 = .ok (.ireturn, 1) := by decide +kernel
theorem dX12_reads_0 : decode cX12_reads 0 = .ok (.aload_n 0, 1) := by decide +kernel
theorem dX12_reads_1 : decode cX12_reads 1 = .ok (.getfield 219, 3) := by decide +kernel
theorem dX12_reads_4 : decode cX12_reads 4 = .ok (.istore_n 1, 1) := by decide +kernel
theorem dX12_reads_5 : decode cX12_reads 5 = .ok (.aload_n 0, 1) := by decide +kernel
theorem dX12_reads_6 : decode cX12_reads 6 = .ok (.bipush 97, 2) := by decide +kernel
theorem dX12_reads_8 : decode cX12_reads 8 = .ok (.bipush 122, 2) := by decide +kernel
theorem dX12_reads_10 : decode cX12_reads 10 = .ok (.invokevirtual 222, 3) := by decide +kernel
theorem dX12_reads_13 : decode cX12_reads 13 = .ok (.ifCond .eq 16, 3) := by decide +kernel
theorem dX12_reads_16 : decode cX12_reads 16 = .ok (.aload_n 0, 1) := by decide +kernel
theorem dX12_reads_17 : decode cX12_reads 17 = .ok (.dup, 1) := by decide +kernel
theorem dX12_reads_18 : decode cX12_reads 18 = .ok (.getfield 219, 3) := by decide +kernel
theorem dX12_reads_21 : decode cX12_reads 21 = .ok (.iconst 1, 1) := by decide +kernel
theorem dX12_reads_22 : decode cX12_reads 22 = .ok (.iadd, 1) := by decide +kernel
theorem dX12_reads_23 : decode cX12_reads 23 = .ok (.putfield 219, 3) := by decide +kernel
theorem dX12_reads_26 : decode cX12_reads 26 = .ok (.goto (-21), 3) := by decide +kernel
theorem dX12_reads_29 : decode cX12_reads 29 = .ok (.aload_n 0, 1) := by decide +kernel
theorem dX12_reads_30 : decode cX12_reads 30 = .ok (.aload_n 0, 1) := by decide +kernel
theorem dX12_reads_31 : decode cX12_reads 31 = .ok (.iload_n 1, 1) := by decide +kernel
theorem dX12_reads_32 : decode cX12_reads 32 = .ok (.invokevirtual 232, 3) := by decide +kernel
theorem dX12_reads_35 : decode cX12_reads 35 = .ok (.putfield 235, 3) := by decide +kernel
theorem dX12_reads_38 : decode cX12_reads 38 = .ok (.aload_n 0, 1) := by decide +kernel
theorem dX12_reads_39 : decode cX12_reads 39 = .ok (.getfield 235, 3) := by decide +kernel
theorem dX12_reads_42 : decode cX12_reads 42 = .ok (.iconst (-1), 1) := by decide +kernel
theorem dX12_reads_43 : decode cX12_reads 43 = .ok (.if_icmp .ne 10, 3) := by decide +kernel
theorem dX12_reads_46 : decode cX12_reads 46 = .ok (.aload_n 0, 1) := by decide +kernel
theorem dX12_reads_47 : decode cX12_reads 47 = .ok (.iload_n 1, 1) := by decide +kernel
theorem dX12_reads_48 : decode cX12_reads 48 = .ok (.putfield 219, 3) := by decide +kernel
theorem dX12_reads_51 : decode cX12_reads 51 = .ok (.iconst 0, 1) := by decide +kernel
theorem dX12_reads_52 : decode cX12_reads 52 = .ok (.ireturn, 1) := by decide +kernel
theorem dX12_reads_53 : decode cX12_reads 53 = .ok (.aload_n 0, 1) := by decide +kernel
theorem dX12_reads_54 : decode cX12_reads 54 = .ok (.getfield 235, 3) := by decide +kernel
theorem dX12_reads_57 : decode cX12_reads 57 = .ok (.iconst 1, 1) := by decide +kernel
theorem dX12_reads_58 : decode cX12_reads 58 = .ok (.if_icmp .ne 7, 3) := by decide +kernel
theorem dX12_reads_61 : decode cX12_reads 61 = .ok (.iconst 3, 1) := by decide +kernel
theorem dX12_reads_62 : decode cX12_reads 62 = .ok (.goto 17, 3) := by decide +kernel
theorem dX12_reads_65 : decode cX12_reads 65 = .ok (.aload_n 0, 1) := by decide +kernel
theorem dX12_reads_66 : decode cX12_reads 66 = .ok (.getfield 235, 3) := by decide +kernel
theorem dX12_reads_69 : decode cX12_reads 69 = .ok (.bipush 6, 2) := by decide +kernel
theorem dX12_reads_71 : decode cX12_reads 71 = .ok (.if_icmp .ne 7, 3) := by decide +kernel
theorem dX12_reads_74 : decode cX12_reads 74 = .ok (.iconst 0, 1) := by decide +kernel
theorem dX12_reads_75 : decode cX12_reads 75 = .ok (.goto 4, 3) := by decide +kernel
theorem dX12_reads_78 : decode cX12_reads 78 = .ok (.iconst 1, 1) := by decide +kernel
theorem dX12_reads_79 : decode cX12_reads 79 = .ok (.istore_n 2, 1) := by decide +kernel
theorem dX12_reads_80 : decode cX12_reads 80 = .ok (.iconst 0, 1) := by decide +kernel
theorem dX12_reads_81 : decode cX12_reads 81 = .ok (.istore_n 3, 1) := by decide +kernel
theorem dX12_reads_82 : decode cX12_reads 82 = .ok (.iload_n 3, 1) := by decide +kernel
theorem dX12_reads_83 : decode cX12_reads 83 = .ok (.iload_n 2, 1) := by decide +kernel
theorem dX12_reads_84 : decode cX12_reads 84 = .ok (.if_icmp .ge 31, 3) := by decide +kernel
theorem dX12_reads_87 : decode cX12_reads 87 = .ok (.aload_n 0, 1) := by decide +kernel
theorem dX12_reads_88 : decode cX12_reads 88 = .ok (.getfield 25, 3) := by decide +kernel
theorem dX12_reads_91 : decode cX12_reads 91 = .ok (.iload_n 3, 1) := by decide +kernel
theorem dX12_reads_92 : decode cX12_reads 92 = .ok (.aload_n 0, 1) := by decide +kernel
theorem dX12_reads_93 : decode cX12_reads 93 = .ok (.invokevirtual 238, 3) := by decide +kernel
theorem dX12_reads_96 : decode cX12_reads 96 = .ok (.iastore, 1) := by decide +kernel
theorem dX12_reads_97 : decode cX12_reads 97 = .ok (.aload_n 0, 1) := by decide +kernel
theorem dX12_reads_98 : decode cX12_reads 98 = .ok (.getfield 25, 3) := by decide +kernel
theorem dX12_reads_101 : decode cX12_reads 101 = .ok (.iload_n 3, 1) := by decide +kernel
theorem dX12_reads_102 : decode cX12_reads 102 = .ok (.iaload, 1) := by decide +kernel
theorem dX12_reads_103 : decode cX12_reads 103 = .ok (.iconst (-1), 1) := by decide +kernel
theorem dX12_reads_104 : decode cX12_reads 104 = .ok (.if_icmp .ne 5, 3) := by decide +kernel
theorem dX12_reads_107 : decode cX12_reads 107 = .ok (.iconst 0, 1) := by decide +kernel
theorem dX12_reads_108 : decode cX12_reads 108 = .ok (.ireturn, 1) := by decide +kernel
theorem dX12_reads_109 : decode cX12_reads 109 = .ok (.iinc 3 1, 3) := by decide +kernel
theorem dX12_reads_112 : decode cX12_reads 112 = .ok (.goto (-30), 3) := by decide +kernel
theorem dX12_reads_115 : decode cX12_reads 115 = .ok (.aload_n 0, 1) := by decide +kernel
theorem dX12_reads_116 : decode cX12_reads 116 = .ok (.invokevirtual 228, 3) := by decide +kernel
theorem dX12_reads_119 : decode cX12_reads 119 = .ok (.istore_n 3, 1) := by decide +kernel
theorem dX12_reads_120 : decode cX12_reads 120 = .ok (.aload_n 0, 1) := by decide +kernel
theorem dX12_reads_121 : decode cX12_reads 121 = .ok (.bipush 59, 2) := by decide +kernel
theorem dX12_reads_123 : decode cX12_reads 123 = .ok (.bipush 59, 2) := by decide +kernel
theorem dX12_reads_125 : decode cX12_reads 125 = .ok (.invokevirtual 222, 3) := by decide +kernel
theorem dX12_reads_128 : decode cX12_reads 128 = .ok (.istore 4, 2) := by decide +kernel
theorem dX12_reads_130 : decode cX12_reads 130 = .ok (.aload_n 0, 1) := by decide +kernel
theorem dX12_reads_131 : decode cX12_reads 131 = .ok (.dup, 1) := by decide +kernel
theorem dX12_reads_132 : decode cX12_reads 132 = .ok (.getfield 219, 3) := by decide +kernel
theorem dX12_reads_135 : decode cX12_reads 135 = .ok (.iload 4, 2) := by decide +kernel
theorem dX12_reads_137 : decode cX12_reads 137 = .ok (.ifCond .eq 7, 3) := by decide +kernel
theorem dX12_reads_140 : decode cX12_reads 140 = .ok (.iconst 1, 1) := by decide +kernel
theorem dX12_reads_141 : decode cX12_reads 141 = .ok (.goto 4, 3) := by decide +kernel
theorem dX12_reads_144 : decode cX12_reads 144 = .ok (.iconst 0, 1) := by decide +kernel
theorem dX12_reads_145 : decode cX12_reads 145 = .ok (.iadd, 1) := by decide +kernel
theorem dX12_reads_146 : decode cX12_reads 146 = .ok (.putfield 219, 3) := by decide +kernel
theorem dX12_reads_149 : decode cX12_reads 149 = .ok (.iload 4, 2) := by decide +kernel
theorem dX12_reads_151 : decode cX12_reads 151 = .ok (.ireturn, 1) := by decide +kernel
theorem dX12_does_0 : decode cX12_does 0 = .ok (.aload_n 0, 1) := by decide +kernel
theorem dX12_does_1 : decode cX12_does 1 = .ok (.getfield 25, 3) := by decide +kernel
theorem dX12_does_4 : decode cX12_does 4 = .ok (.iconst 0, 1) := by decide +kernel
theorem dX12_does_5 : decode cX12_does 5 = .ok (.iaload, 1) := by decide +kernel
theorem dX12_does_6 : decode cX12_does 6 = .ok (.istore_n 1, 1) := by decide +kernel
theorem dX12_does_7 : decode cX12_does 7 = .ok (.iconst 0, 1) := by decide +kernel
theorem dX12_does_8 : decode cX12_does 8 = .ok (.istore_n 3, 1) := by decide +kernel
theorem dX12_does_9 : decode cX12_does 9 = .ok (.aload_n 0, 1) := by decide +kernel
theorem dX12_does_10 : decode cX12_does 10 = .ok (.getfield 235, 3) := by decide +kernel
theorem dX12_does_13 : decode cX12_does 13 = .ok (.tableswitch 160 0 6 #[43, 75, 121, 160, 160, 160, 153], 43) := by decide +kernel
theorem dX12_does_56 : decode cX12_does 56 = .ok (.aload_n 0, 1) := by decide +kernel
theorem dX12_does_57 : decode cX12_does 57 = .ok (.iload_n 1, 1) := by decide +kernel
theorem dX12_does_58 : decode cX12_does 58 = .ok (.invokevirtual 59, 3) := by decide +kernel
theorem dX12_does_61 : decode cX12_does 61 = .ok (.istore_n 2, 1) := by decide +kernel
theorem dX12_does_62 : decode cX12_does 62 = .ok (.iload_n 2, 1) := by decide +kernel
theorem dX12_does_63 : decode cX12_does 63 = .ok (.ifCond .ne 11, 3) := by decide +kernel
theorem dX12_does_66 : decode cX12_does 66 = .ok (.aload_n 0, 1) := by decide +kernel
theorem dX12_does_67 : decode cX12_does 67 = .ok (.iload_n 1, 1) := by decide +kernel
theorem dX12_does_68 : decode cX12_does 68 = .ok (.invokevirtual 66, 3) := by decide +kernel
theorem dX12_does_71 : decode cX12_does 71 = .ok (.goto 4, 3) := by decide +kernel
theorem dX12_does_74 : decode cX12_does 74 = .ok (.iconst 0, 1) := by decide +kernel
theorem dX12_does_75 : decode cX12_does 75 = .ok (.istore_n 3, 1) := by decide +kernel
theorem dX12_does_76 : decode cX12_does 76 = .ok (.iload_n 2, 1) := by decide +kernel
theorem dX12_does_77 : decode cX12_does 77 = .ok (.ifCond .ne 7, 3) := by decide +kernel
theorem dX12_does_80 : decode cX12_does 80 = .ok (.iconst 0, 1) := by decide +kernel
theorem dX12_does_81 : decode cX12_does 81 = .ok (.goto 6, 3) := by decide +kernel
theorem dX12_does_84 : decode cX12_does 84 = .ok (.iload_n 2, 1) := by decide +kernel
theorem dX12_does_85 : decode cX12_does 85 = .ok (.iconst 1, 1) := by decide +kernel
theorem dX12_does_86 : decode cX12_does 86 = .ok (.iadd, 1) := by decide +kernel
theorem dX12_does_87 : decode cX12_does 87 = .ok (.ireturn, 1) := by decide +kernel
theorem dX12_does_88 : decode cX12_does 88 = .ok (.aload_n 0, 1) := by decide +kernel
theorem dX12_does_89 : decode cX12_does 89 = .ok (.iload_n 1, 1) := by decide +kernel
theorem dX12_does_90 : decode cX12_does 90 = .ok (.aload_n 0, 1) := by decide +kernel
theorem dX12_does_91 : decode cX12_does 91 = .ok (.getfield 25, 3) := by decide +kernel
theorem dX12_does_94 : decode cX12_does 94 = .ok (.iconst 1, 1) := by decide +kernel
theorem dX12_does_95 : decode cX12_does 95 = .ok (.iaload, 1) := by decide +kernel
theorem dX12_does_96 : decode cX12_does 96 = .ok (.aload_n 0, 1) := by decide +kernel
theorem dX12_does_97 : decode cX12_does 97 = .ok (.getfield 25, 3) := by decide +kernel
theorem dX12_does_100 : decode cX12_does 100 = .ok (.iconst 2, 1) := by decide +kernel
theorem dX12_does_101 : decode cX12_does 101 = .ok (.iaload, 1) := by decide +kernel
theorem dX12_does_102 : decode cX12_does 102 = .ok (.invokevirtual 83, 3) := by decide +kernel
theorem dX12_does_105 : decode cX12_does 105 = .ok (.istore_n 2, 1) := by decide +kernel
theorem dX12_does_106 : decode cX12_does 106 = .ok (.iload_n 2, 1) := by decide +kernel
theorem dX12_does_107 : decode cX12_does 107 = .ok (.ifCond .ne 23, 3) := by decide +kernel
theorem dX12_does_110 : decode cX12_does 110 = .ok (.aload_n 0, 1) := by decide +kernel
theorem dX12_does_111 : decode cX12_does 111 = .ok (.iload_n 1, 1) := by decide +kernel
theorem dX12_does_112 : decode cX12_does 112 = .ok (.aload_n 0, 1) := by decide +kernel
theorem dX12_does_113 : decode cX12_does 113 = .ok (.getfield 25, 3) := by decide +kernel
theorem dX12_does_116 : decode cX12_does 116 = .ok (.iconst 1, 1) := by decide +kernel
theorem dX12_does_117 : decode cX12_does 117 = .ok (.iaload, 1) := by decide +kernel
theorem dX12_does_118 : decode cX12_does 118 = .ok (.aload_n 0, 1) := by decide +kernel
theorem dX12_does_119 : decode cX12_does 119 = .ok (.getfield 25, 3) := by decide +kernel
theorem dX12_does_122 : decode cX12_does 122 = .ok (.iconst 2, 1) := by decide +kernel
theorem dX12_does_123 : decode cX12_does 123 = .ok (.iaload, 1) := by decide +kernel
theorem dX12_does_124 : decode cX12_does 124 = .ok (.invokevirtual 87, 3) := by decide +kernel
theorem dX12_does_127 : decode cX12_does 127 = .ok (.goto 4, 3) := by decide +kernel
theorem dX12_does_130 : decode cX12_does 130 = .ok (.iconst 0, 1) := by decide +kernel
theorem dX12_does_131 : decode cX12_does 131 = .ok (.istore_n 3, 1) := by decide +kernel
theorem dX12_does_132 : decode cX12_does 132 = .ok (.iload_n 2, 1) := by decide +kernel
theorem dX12_does_133 : decode cX12_does 133 = .ok (.ireturn, 1) := by decide +kernel
theorem dX12_does_134 : decode cX12_does 134 = .ok (.aload_n 0, 1) := by decide +kernel
theorem dX12_does_135 : decode cX12_does 135 = .ok (.iload_n 1, 1) := by decide +kernel
theorem dX12_does_136 : decode cX12_does 136 = .ok (.invokevirtual 163, 3) := by decide +kernel
theorem dX12_does_139 : decode cX12_does 139 = .ok (.istore_n 2, 1) := by decide +kernel
theorem dX12_does_140 : decode cX12_does 140 = .ok (.iload_n 2, 1) := by decide +kernel
theorem dX12_does_141 : decode cX12_does 141 = .ok (.ifCond .ne 11, 3) := by decide +kernel
theorem dX12_does_144 : decode cX12_does 144 = .ok (.aload_n 0, 1) := by decide +kernel
theorem dX12_does_145 : decode cX12_does 145 = .ok (.iload_n 1, 1) := by decide +kernel
theorem dX12_does_146 : decode cX12_does 146 = .ok (.invokevirtual 166, 3) := by decide +kernel
theorem dX12_does_149 : decode cX12_does 149 = .ok (.goto 4, 3) := by decide +kernel
theorem dX12_does_152 : decode cX12_does 152 = .ok (.iconst 0, 1) := by decide +kernel
theorem dX12_does_153 : decode cX12_does 153 = .ok (.istore_n 3, 1) := by decide +kernel
theorem dX12_does_154 : decode cX12_does 154 = .ok (.iload_n 2, 1) := by decide +kernel
theorem dX12_does_155 : decode cX12_does 155 = .ok (.ifCond .ne 7, 3) := by decide +kernel
theorem dX12_does_158 : decode cX12_does 158 = .ok (.iconst 0, 1) := by decide +kernel
theorem dX12_does_159 : decode cX12_does 159 = .ok (.goto 6, 3) := by decide +kernel
theorem dX12_does_162 : decode cX12_does 162 = .ok (.iload_n 2, 1) := by decide +kernel
theorem dX12_does_163 : decode cX12_does 163 = .ok (.iconst 1, 1) := by decide +kernel
theorem dX12_does_164 : decode cX12_does 164 = .ok (.iadd, 1) := by decide +kernel
theorem dX12_does_165 : decode cX12_does 165 = .ok (.ireturn, 1) := by decide +kernel
theorem dX12_does_166 : decode cX12_does 166 = .ok (.aload_n 0, 1) := by decide +kernel
theorem dX12_does_167 : decode cX12_does 167 = .ok (.invokevirtual 178, 3) := by decide +kernel
theorem dX12_does_170 : decode cX12_does 170 = .ok (.istore_n 3, 1) := by decide +kernel
theorem dX12_does_171 : decode cX12_does 171 = .ok (.iconst 0, 1) := by decide +kernel
theorem dX12_does_172 : decode cX12_does 172 = .ok (.ireturn, 1) := by decide +kernel
theorem dX12_does_173 : decode cX12_does 173 = .ok (.aload_n 0, 1) := by decide +kernel
theorem dX12_does_174 : decode cX12_does 174 = .ok (.iload_n 1, 1) := by decide +kernel
theorem dX12_does_175 : decode cX12_does 175 = .ok (.invokevirtual 69, 3) := by decide +kernel
theorem dX12_does_178 : decode cX12_does 178 = .ok (.ifCond .ne 5, 3) := by decide +kernel
theorem dX12_does_181 : decode cX12_does 181 = .ok (.iconst 1, 1) := by decide +kernel
theorem dX12_does_182 : decode cX12_does 182 = .ok (.ireturn, 1) := by decide +kernel
theorem dX12_does_183 : decode cX12_does 183 = .ok (.aload_n 0, 1) := by decide +kernel
theorem dX12_does_184 : decode cX12_does 184 = .ok (.getfield 235, 3) := by decide +kernel
theorem dX12_does_187 : decode cX12_does 187 = .ok (.iconst 3, 1) := by decide +kernel
theorem dX12_does_188 : decode cX12_does 188 = .ok (.if_icmp .ne 12, 3) := by decide +kernel
theorem dX12_does_191 : decode cX12_does 191 = .ok (.aload_n 0, 1) := by decide +kernel
theorem dX12_does_192 : decode cX12_does 192 = .ok (.iload_n 1, 1) := by decide +kernel
theorem dX12_does_193 : decode cX12_does 193 = .ok (.invokevirtual 172, 3) := by decide +kernel
theorem dX12_does_196 : decode cX12_does 196 = .ok (.istore_n 3, 1) := by decide +kernel
theorem dX12_does_197 : decode cX12_does 197 = .ok (.goto 27, 3) := by decide +kernel
theorem dX12_does_200 : decode cX12_does 200 = .ok (.aload_n 0, 1) := by decide +kernel
theorem dX12_does_201 : decode cX12_does 201 = .ok (.getfield 235, 3) := by decide +kernel
theorem dX12_does_204 : decode cX12_does 204 = .ok (.iconst 4, 1) := by decide +kernel
theorem dX12_does_205 : decode cX12_does 205 = .ok (.if_icmp .ne 12, 3) := by decide +kernel
theorem dX12_does_208 : decode cX12_does 208 = .ok (.aload_n 0, 1) := by decide +kernel
theorem dX12_does_209 : decode cX12_does 209 = .ok (.iload_n 1, 1) := by decide +kernel
theorem dX12_does_210 : decode cX12_does 210 = .ok (.invokevirtual 175, 3) := by decide +kernel
theorem dX12_does_213 : decode cX12_does 213 = .ok (.istore_n 3, 1) := by decide +kernel
theorem dX12_does_214 : decode cX12_does 214 = .ok (.goto 10, 3) := by decide +kernel
theorem dX12_does_217 : decode cX12_does 217 = .ok (.aload_n 0, 1) := by decide +kernel
theorem dX12_does_218 : decode cX12_does 218 = .ok (.iload_n 1, 1) := by decide +kernel
theorem dX12_does_219 : decode cX12_does 219 = .ok (.iconst 3, 1) := by decide +kernel
theorem dX12_does_220 : decode cX12_does 220 = .ok (.iconst 1, 1) := by decide +kernel
theorem dX12_does_221 : decode cX12_does 221 = .ok (.invokevirtual 55, 3) := by decide +kernel
theorem dX12_does_224 : decode cX12_does 224 = .ok (.iconst 0, 1) := by decide +kernel
theorem dX12_does_225 : decode cX12_does 225 = .ok (.ireturn, 1) := by decide +kernel
theorem dX12_runCommands_0 : decode cX12_runCommands 0 = .ok (.aload_n 0, 1) := by decide +kernel
theorem dX12_runCommands_1 : decode cX12_runCommands 1 = .ok (.iconst 0, 1) := by decide +kernel
theorem dX12_runCommands_2 : decode cX12_runCommands 2 = .ok (.putfield 28, 3) := by decide +kernel
theorem dX12_runCommands_5 : decode cX12_runCommands 5 = .ok (.aload_n 0, 1) := by decide +kernel
theorem dX12_runCommands_6 : decode cX12_runCommands 6 = .ok (.iconst 0, 1) := by decide +kernel
theorem dX12_runCommands_7 : decode cX12_runCommands 7 = .ok (.putfield 219, 3) := by decide +kernel
theorem dX12_runCommands_10 : decode cX12_runCommands 10 = .ok (.aload_n 0, 1) := by decide +kernel
theorem dX12_runCommands_11 : decode cX12_runCommands 11 = .ok (.invokevirtual 228, 3) := by decide +kernel
theorem dX12_runCommands_14 : decode cX12_runCommands 14 = .ok (.istore_n 1, 1) := by decide +kernel
theorem dX12_runCommands_15 : decode cX12_runCommands 15 = .ok (.aload_n 0, 1) := by decide +kernel
theorem dX12_runCommands_16 : decode cX12_runCommands 16 = .ok (.getfield 219, 3) := by decide +kernel
theorem dX12_runCommands_19 : decode cX12_runCommands 19 = .ok (.aload_n 0, 1) := by decide +kernel
theorem dX12_runCommands_20 : decode cX12_runCommands 20 = .ok (.getfield 216, 3) := by decide +kernel
theorem dX12_runCommands_23 : decode cX12_runCommands 23 = .ok (.if_icmp .ge 26, 3) := by decide +kernel
theorem dX12_runCommands_26 : decode cX12_runCommands 26 = .ok (.aload_n 0, 1) := by decide +kernel
theorem dX12_runCommands_27 : decode cX12_runCommands 27 = .ok (.invokevirtual 241, 3) := by decide +kernel
theorem dX12_runCommands_30 : decode cX12_runCommands 30 = .ok (.ifCond .ne 11, 3) := by decide +kernel
theorem dX12_runCommands_33 : decode cX12_runCommands 33 = .ok (.bipush (-10), 2) := by decide +kernel
theorem dX12_runCommands_35 : decode cX12_runCommands 35 = .ok (.aload_n 0, 1) := by decide +kernel
theorem dX12_runCommands_36 : decode cX12_runCommands 36 = .ok (.getfield 219, 3) := by decide +kernel
theorem dX12_runCommands_39 : decode cX12_runCommands 39 = .ok (.isub, 1) := by decide +kernel
theorem dX12_runCommands_40 : decode cX12_runCommands 40 = .ok (.ireturn, 1) := by decide +kernel
theorem dX12_runCommands_41 : decode cX12_runCommands 41 = .ok (.aload_n 0, 1) := by decide +kernel
theorem dX12_runCommands_42 : decode cX12_runCommands 42 = .ok (.invokevirtual 228, 3) := by decide +kernel
theorem dX12_runCommands_45 : decode cX12_runCommands 45 = .ok (.istore_n 1, 1) := by decide +kernel
theorem dX12_runCommands_46 : decode cX12_runCommands 46 = .ok (.goto (-31), 3) := by decide +kernel
theorem dX12_runCommands_49 : decode cX12_runCommands 49 = .ok (.aload_n 0, 1) := by decide +kernel
theorem dX12_runCommands_50 : decode cX12_runCommands 50 = .ok (.invokevirtual 63, 3) := by decide +kernel
theorem dX12_runCommands_53 : decode cX12_runCommands 53 = .ok (.aload_n 0, 1) := by decide +kernel
theorem dX12_runCommands_54 : decode cX12_runCommands 54 = .ok (.iconst 0, 1) := by decide +kernel
theorem dX12_runCommands_55 : decode cX12_runCommands 55 = .ok (.putfield 219, 3) := by decide +kernel
theorem dX12_runCommands_58 : decode cX12_runCommands 58 = .ok (.aload_n 0, 1) := by decide +kernel
theorem dX12_runCommands_59 : decode cX12_runCommands 59 = .ok (.iconst 0, 1) := by decide +kernel
theorem dX12_runCommands_60 : decode cX12_runCommands 60 = .ok (.putfield 244, 3) := by decide +kernel
theorem dX12_runCommands_63 : decode cX12_runCommands 63 = .ok (.iconst 0, 1) := by decide +kernel
theorem dX12_runCommands_64 : decode cX12_runCommands 64 = .ok (.istore_n 2, 1) := by decide +kernel
theorem dX12_runCommands_65 : decode cX12_runCommands 65 = .ok (.aload_n 0, 1) := by decide +kernel
theorem dX12_runCommands_66 : decode cX12_runCommands 66 = .ok (.invokevirtual 228, 3) := by decide +kernel
theorem dX12_runCommands_69 : decode cX12_runCommands 69 = .ok (.istore_n 1, 1) := by decide +kernel
theorem dX12_runCommands_70 : decode cX12_runCommands 70 = .ok (.aload_n 0, 1) := by decide +kernel
theorem dX12_runCommands_71 : decode cX12_runCommands 71 = .ok (.getfield 219, 3) := by decide +kernel
theorem dX12_runCommands_74 : decode cX12_runCommands 74 = .ok (.aload_n 0, 1) := by decide +kernel
theorem dX12_runCommands_75 : decode cX12_runCommands 75 = .ok (.getfield 216, 3) := by decide +kernel
theorem dX12_runCommands_78 : decode cX12_runCommands 78 = .ok (.if_icmp .ge 46, 3) := by decide +kernel
theorem dX12_runCommands_81 : decode cX12_runCommands 81 = .ok (.aload_n 0, 1) := by decide +kernel
theorem dX12_runCommands_82 : decode cX12_runCommands 82 = .ok (.getfield 244, 3) := by decide +kernel
theorem dX12_runCommands_85 : decode cX12_runCommands 85 = .ok (.ifCond .ne 39, 3) := by decide +kernel
theorem dX12_runCommands_88 : decode cX12_runCommands 88 = .ok (.aload_n 0, 1) := by decide +kernel
theorem dX12_runCommands_89 : decode cX12_runCommands 89 = .ok (.invokevirtual 241, 3) := by decide +kernel
theorem dX12_runCommands_92 : decode cX12_runCommands 92 = .ok (.istore_n 3, 1) := by decide +kernel
theorem dX12_runCommands_93 : decode cX12_runCommands 93 = .ok (.aload_n 0, 1) := by decide +kernel
theorem dX12_runCommands_94 : decode cX12_runCommands 94 = .ok (.aload_n 0, 1) := by decide +kernel
theorem dX12_runCommands_95 : decode cX12_runCommands 95 = .ok (.invokevirtual 247, 3) := by decide +kernel
theorem dX12_runCommands_98 : decode cX12_runCommands 98 = .ok (.putfield 244, 3) := by decide +kernel
theorem dX12_runCommands_101 : decode cX12_runCommands 101 = .ok (.iload_n 2, 1) := by decide +kernel
theorem dX12_runCommands_102 : decode cX12_runCommands 102 = .ok (.aload_n 0, 1) := by decide +kernel
theorem dX12_runCommands_103 : decode cX12_runCommands 103 = .ok (.getfield 244, 3) := by decide +kernel
theorem dX12_runCommands_106 : decode cX12_runCommands 106 = .ok (.ifCond .ne 7, 3) := by decide +kernel
theorem dX12_runCommands_109 : decode cX12_runCommands 109 = .ok (.iconst 1, 1) := by decide +kernel
theorem dX12_runCommands_110 : decode cX12_runCommands 110 = .ok (.goto 4, 3) := by decide +kernel
theorem dX12_runCommands_113 : decode cX12_runCommands 113 = .ok (.iconst 0, 1) := by decide +kernel
theorem dX12_runCommands_114 : decode cX12_runCommands 114 = .ok (.iadd, 1) := by decide +kernel
theorem dX12_runCommands_115 : decode cX12_runCommands 115 = .ok (.istore_n 2, 1) := by decide +kernel
theorem dX12_runCommands_116 : decode cX12_runCommands 116 = .ok (.aload_n 0, 1) := by decide +kernel
theorem dX12_runCommands_117 : decode cX12_runCommands 117 = .ok (.invokevirtual 228, 3) := by decide +kernel
theorem dX12_runCommands_120 : decode cX12_runCommands 120 = .ok (.istore_n 1, 1) := by decide +kernel
theorem dX12_runCommands_121 : decode cX12_runCommands 121 = .ok (.goto (-51), 3) := by decide +kernel
theorem dX12_runCommands_124 : decode cX12_runCommands 124 = .ok (.iload_n 2, 1) := by decide +kernel
theorem dX12_runCommands_125 : decode cX12_runCommands 125 = .ok (.ireturn, 1) := by decide +kernel
theorem dX12_stop_0 : decode cX12_stop 0 = .ok (.aload_n 0, 1) := by decide +kernel
theorem dX12_stop_1 : decode cX12_stop 1 = .ok (.iconst 0, 1) := by decide +kernel
theorem dX12_stop_2 : decode cX12_stop 2 = .ok (.putfield 28, 3) := by decide +kernel
theorem dX12_stop_5 : decode cX12_stop 5 = .ok (.aload_n 0, 1) := by decide +kernel
theorem dX12_stop_6 : decode cX12_stop 6 = .ok (.getfield 244, 3) := by decide +kernel
theorem dX12_stop_9 : decode cX12_stop 9 = .ok (.ireturn, 1) := by decide +kernel
theorem dX12_mix_0 : decode cX12_mix 0 = .ok (.aload_n 0, 1) := by decide +kernel
theorem dX12_mix_1 : decode cX12_mix 1 = .ok (.ldc2_w 250, 3) := by decide +kernel
theorem dX12_mix_4 : decode cX12_mix 4 = .ok (.aload_n 0, 1) := by decide +kernel
theorem dX12_mix_5 : decode cX12_mix 5 = .ok (.getfield 252, 3) := by decide +kernel
theorem dX12_mix_8 : decode cX12_mix 8 = .ok (.lmul, 1) := by decide +kernel
theorem dX12_mix_9 : decode cX12_mix 9 = .ok (.lload_n 1, 1) := by decide +kernel
theorem dX12_mix_10 : decode cX12_mix 10 = .ok (.ladd, 1) := by decide +kernel
theorem dX12_mix_11 : decode cX12_mix 11 = .ok (.putfield 252, 3) := by decide +kernel
theorem dX12_mix_14 : decode cX12_mix 14 = .ok (.return_, 1) := by decide +kernel
theorem dX12_digest_0 : decode cX12_digest 0 = .ok (.aload_n 0, 1) := by decide +kernel
theorem dX12_digest_1 : decode cX12_digest 1 = .ok (.iconst 0, 1) := by decide +kernel
theorem dX12_digest_2 : decode cX12_digest 2 = .ok (.putfield 28, 3) := by decide +kernel
theorem dX12_digest_5 : decode cX12_digest 5 = .ok (.aload_n 0, 1) := by decide +kernel
theorem dX12_digest_6 : decode cX12_digest 6 = .ok (.ldc2_w 256, 3) := by decide +kernel
theorem dX12_digest_9 : decode cX12_digest 9 = .ok (.putfield 252, 3) := by decide +kernel
theorem dX12_digest_12 : decode cX12_digest 12 = .ok (.aload_n 0, 1) := by decide +kernel
theorem dX12_digest_13 : decode cX12_digest 13 = .ok (.aload_n 0, 1) := by decide +kernel
theorem dX12_digest_14 : decode cX12_digest 14 = .ok (.getfield 32, 3) := by decide +kernel
theorem dX12_digest_17 : decode cX12_digest 17 = .ok (.i2l, 1) := by decide +kernel
theorem dX12_digest_18 : decode cX12_digest 18 = .ok (.invokevirtual 258, 3) := by decide +kernel
theorem dX12_digest_21 : decode cX12_digest 21 = .ok (.aload_n 0, 1) := by decide +kernel
theorem dX12_digest_22 : decode cX12_digest 22 = .ok (.aload_n 0, 1) := by decide +kernel
theorem dX12_digest_23 : decode cX12_digest 23 = .ok (.getfield 216, 3) := by decide +kernel
theorem dX12_digest_26 : decode cX12_digest 26 = .ok (.i2l, 1) := by decide +kernel
theorem dX12_digest_27 : decode cX12_digest 27 = .ok (.invokevirtual 258, 3) := by decide +kernel
theorem dX12_digest_30 : decode cX12_digest 30 = .ok (.aload_n 0, 1) := by decide +kernel
theorem dX12_digest_31 : decode cX12_digest 31 = .ok (.aload_n 0, 1) := by decide +kernel
theorem dX12_digest_32 : decode cX12_digest 32 = .ok (.getfield 244, 3) := by decide +kernel
theorem dX12_digest_35 : decode cX12_digest 35 = .ok (.i2l, 1) := by decide +kernel
theorem dX12_digest_36 : decode cX12_digest 36 = .ok (.invokevirtual 258, 3) := by decide +kernel
theorem dX12_digest_39 : decode cX12_digest 39 = .ok (.iconst 0, 1) := by decide +kernel
theorem dX12_digest_40 : decode cX12_digest 40 = .ok (.istore_n 1, 1) := by decide +kernel
theorem dX12_digest_41 : decode cX12_digest 41 = .ok (.iload_n 1, 1) := by decide +kernel
theorem dX12_digest_42 : decode cX12_digest 42 = .ok (.bipush 14, 2) := by decide +kernel
theorem dX12_digest_44 : decode cX12_digest 44 = .ok (.if_icmp .ge 19, 3) := by decide +kernel
theorem dX12_digest_47 : decode cX12_digest 47 = .ok (.aload_n 0, 1) := by decide +kernel
theorem dX12_digest_48 : decode cX12_digest 48 = .ok (.aload_n 0, 1) := by decide +kernel
theorem dX12_digest_49 : decode cX12_digest 49 = .ok (.iload_n 1, 1) := by decide +kernel
theorem dX12_digest_50 : decode cX12_digest 50 = .ok (.invokevirtual 198, 3) := by decide +kernel
theorem dX12_digest_53 : decode cX12_digest 53 = .ok (.i2l, 1) := by decide +kernel
theorem dX12_digest_54 : decode cX12_digest 54 = .ok (.invokevirtual 258, 3) := by decide +kernel
theorem dX12_digest_57 : decode cX12_digest 57 = .ok (.iinc 1 1, 3) := by decide +kernel
theorem dX12_digest_60 : decode cX12_digest 60 = .ok (.goto (-19), 3) := by decide +kernel
theorem dX12_digest_63 : decode cX12_digest 63 = .ok (.iconst 0, 1) := by decide +kernel
theorem dX12_digest_64 : decode cX12_digest 64 = .ok (.istore_n 1, 1) := by decide +kernel
theorem dX12_digest_65 : decode cX12_digest 65 = .ok (.iload_n 1, 1) := by decide +kernel
theorem dX12_digest_66 : decode cX12_digest 66 = .ok (.aload_n 0, 1) := by decide +kernel
theorem dX12_digest_67 : decode cX12_digest 67 = .ok (.getfield 7, 3) := by decide +kernel
theorem dX12_digest_70 : decode cX12_digest 70 = .ok (.iconst 0, 1) := by decide +kernel
theorem dX12_digest_71 : decode cX12_digest 71 = .ok (.iaload, 1) := by decide +kernel
theorem dX12_digest_72 : decode cX12_digest 72 = .ok (.if_icmp .ge 67, 3) := by decide +kernel
theorem dX12_digest_75 : decode cX12_digest 75 = .ok (.iconst 0, 1) := by decide +kernel
theorem dX12_digest_76 : decode cX12_digest 76 = .ok (.istore_n 2, 1) := by decide +kernel
theorem dX12_digest_77 : decode cX12_digest 77 = .ok (.iload_n 2, 1) := by decide +kernel
theorem dX12_digest_78 : decode cX12_digest 78 = .ok (.bipush 8, 2) := by decide +kernel
theorem dX12_digest_80 : decode cX12_digest 80 = .ok (.if_icmp .ge 20, 3) := by decide +kernel
theorem dX12_digest_83 : decode cX12_digest 83 = .ok (.aload_n 0, 1) := by decide +kernel
theorem dX12_digest_84 : decode cX12_digest 84 = .ok (.aload_n 0, 1) := by decide +kernel
theorem dX12_digest_85 : decode cX12_digest 85 = .ok (.iload_n 1, 1) := by decide +kernel
theorem dX12_digest_86 : decode cX12_digest 86 = .ok (.iload_n 2, 1) := by decide +kernel
theorem dX12_digest_87 : decode cX12_digest 87 = .ok (.invokevirtual 185, 3) := by decide +kernel
theorem dX12_digest_90 : decode cX12_digest 90 = .ok (.i2l, 1) := by decide +kernel
theorem dX12_digest_91 : decode cX12_digest 91 = .ok (.invokevirtual 258, 3) := by decide +kernel
theorem dX12_digest_94 : decode cX12_digest 94 = .ok (.iinc 2 1, 3) := by decide +kernel
theorem dX12_digest_97 : decode cX12_digest 97 = .ok (.goto (-20), 3) := by decide +kernel
theorem dX12_digest_100 : decode cX12_digest 100 = .ok (.aload_n 0, 1) := by decide +kernel
theorem dX12_digest_101 : decode cX12_digest 101 = .ok (.aload_n 0, 1) := by decide +kernel
theorem dX12_digest_102 : decode cX12_digest 102 = .ok (.iload_n 1, 1) := by decide +kernel
theorem dX12_digest_103 : decode cX12_digest 103 = .ok (.invokevirtual 79, 3) := by decide +kernel
theorem dX12_digest_106 : decode cX12_digest 106 = .ok (.invokevirtual 258, 3) := by decide +kernel
theorem dX12_digest_109 : decode cX12_digest 109 = .ok (.iconst 0, 1) := by decide +kernel
theorem dX12_digest_110 : decode cX12_digest 110 = .ok (.istore_n 2, 1) := by decide +kernel
theorem dX12_digest_111 : decode cX12_digest 111 = .ok (.iload_n 2, 1) := by decide +kernel
theorem dX12_digest_112 : decode cX12_digest 112 = .ok (.iconst 3, 1) := by decide +kernel
theorem dX12_digest_113 : decode cX12_digest 113 = .ok (.if_icmp .ge 20, 3) := by decide +kernel
theorem dX12_digest_116 : decode cX12_digest 116 = .ok (.aload_n 0, 1) := by decide +kernel
theorem dX12_digest_117 : decode cX12_digest 117 = .ok (.aload_n 0, 1) := by decide +kernel
theorem dX12_digest_118 : decode cX12_digest 118 = .ok (.iload_n 1, 1) := by decide +kernel
theorem dX12_digest_119 : decode cX12_digest 119 = .ok (.iload_n 2, 1) := by decide +kernel
theorem dX12_digest_120 : decode cX12_digest 120 = .ok (.invokevirtual 169, 3) := by decide +kernel
theorem dX12_digest_123 : decode cX12_digest 123 = .ok (.i2l, 1) := by decide +kernel
theorem dX12_digest_124 : decode cX12_digest 124 = .ok (.invokevirtual 258, 3) := by decide +kernel
theorem dX12_digest_127 : decode cX12_digest 127 = .ok (.iinc 2 1, 3) := by decide +kernel
theorem dX12_digest_130 : decode cX12_digest 130 = .ok (.goto (-19), 3) := by decide +kernel
theorem dX12_digest_133 : decode cX12_digest 133 = .ok (.iinc 1 1, 3) := by decide +kernel
theorem dX12_digest_136 : decode cX12_digest 136 = .ok (.goto (-71), 3) := by decide +kernel
theorem dX12_digest_139 : decode cX12_digest 139 = .ok (.aload_n 0, 1) := by decide +kernel
theorem dX12_digest_140 : decode cX12_digest 140 = .ok (.aload_n 0, 1) := by decide +kernel
theorem dX12_digest_141 : decode cX12_digest 141 = .ok (.invokevirtual 147, 3) := by decide +kernel
theorem dX12_digest_144 : decode cX12_digest 144 = .ok (.i2l, 1) := by decide +kernel
theorem dX12_digest_145 : decode cX12_digest 145 = .ok (.invokevirtual 258, 3) := by decide +kernel
theorem dX12_digest_148 : decode cX12_digest 148 = .ok (.iconst 0, 1) := by decide +kernel
theorem dX12_digest_149 : decode cX12_digest 149 = .ok (.istore_n 1, 1) := by decide +kernel
theorem dX12_digest_150 : decode cX12_digest 150 = .ok (.iload_n 1, 1) := by decide +kernel
theorem dX12_digest_151 : decode cX12_digest 151 = .ok (.aload_n 0, 1) := by decide +kernel
theorem dX12_digest_152 : decode cX12_digest 152 = .ok (.getfield 7, 3) := by decide +kernel
theorem dX12_digest_155 : decode cX12_digest 155 = .ok (.bipush 7, 2) := by decide +kernel
theorem dX12_digest_157 : decode cX12_digest 157 = .ok (.iaload, 1) := by decide +kernel
theorem dX12_digest_158 : decode cX12_digest 158 = .ok (.if_icmp .ge 50, 3) := by decide +kernel
theorem dX12_digest_161 : decode cX12_digest 161 = .ok (.iconst 0, 1) := by decide +kernel
theorem dX12_digest_162 : decode cX12_digest 162 = .ok (.istore_n 2, 1) := by decide +kernel
theorem dX12_digest_163 : decode cX12_digest 163 = .ok (.iload_n 2, 1) := by decide +kernel
theorem dX12_digest_164 : decode cX12_digest 164 = .ok (.iconst 3, 1) := by decide +kernel
theorem dX12_digest_165 : decode cX12_digest 165 = .ok (.if_icmp .ge 27, 3) := by decide +kernel
theorem dX12_digest_168 : decode cX12_digest 168 = .ok (.aload_n 0, 1) := by decide +kernel
theorem dX12_digest_169 : decode cX12_digest 169 = .ok (.aload_n 0, 1) := by decide +kernel
theorem dX12_digest_170 : decode cX12_digest 170 = .ok (.getfield 7, 3) := by decide +kernel
theorem dX12_digest_173 : decode cX12_digest 173 = .ok (.bipush 41, 2) := by decide +kernel
theorem dX12_digest_175 : decode cX12_digest 175 = .ok (.iconst 3, 1) := by decide +kernel
theorem dX12_digest_176 : decode cX12_digest 176 = .ok (.iload_n 1, 1) := by decide +kernel
theorem dX12_digest_177 : decode cX12_digest 177 = .ok (.imul, 1) := by decide +kernel
theorem dX12_digest_178 : decode cX12_digest 178 = .ok (.iadd, 1) := by decide +kernel
theorem dX12_digest_179 : decode cX12_digest 179 = .ok (.iload_n 2, 1) := by decide +kernel
theorem dX12_digest_180 : decode cX12_digest 180 = .ok (.iadd, 1) := by decide +kernel
theorem dX12_digest_181 : decode cX12_digest 181 = .ok (.iaload, 1) := by decide +kernel
theorem dX12_digest_182 : decode cX12_digest 182 = .ok (.i2l, 1) := by decide +kernel
theorem dX12_digest_183 : decode cX12_digest 183 = .ok (.invokevirtual 258, 3) := by decide +kernel
theorem dX12_digest_186 : decode cX12_digest 186 = .ok (.iinc 2 1, 3) := by decide +kernel
theorem dX12_digest_189 : decode cX12_digest 189 = .ok (.goto (-26), 3) := by decide +kernel
theorem dX12_digest_192 : decode cX12_digest 192 = .ok (.aload_n 0, 1) := by decide +kernel
theorem dX12_digest_193 : decode cX12_digest 193 = .ok (.aload_n 0, 1) := by decide +kernel
theorem dX12_digest_194 : decode cX12_digest 194 = .ok (.iload_n 1, 1) := by decide +kernel
theorem dX12_digest_195 : decode cX12_digest 195 = .ok (.invokevirtual 191, 3) := by decide +kernel
theorem dX12_digest_198 : decode cX12_digest 198 = .ok (.i2l, 1) := by decide +kernel
theorem dX12_digest_199 : decode cX12_digest 199 = .ok (.invokevirtual 258, 3) := by decide +kernel
theorem dX12_digest_202 : decode cX12_digest 202 = .ok (.iinc 1 1, 3) := by decide +kernel
theorem dX12_digest_205 : decode cX12_digest 205 = .ok (.goto (-55), 3) := by decide +kernel
theorem dX12_digest_208 : decode cX12_digest 208 = .ok (.aload_n 0, 1) := by decide +kernel
theorem dX12_digest_209 : decode cX12_digest 209 = .ok (.invokevirtual 110, 3) := by decide +kernel
theorem dX12_digest_212 : decode cX12_digest 212 = .ok (.istore_n 1, 1) := by decide +kernel
theorem dX12_digest_213 : decode cX12_digest 213 = .ok (.iload_n 1, 1) := by decide +kernel
theorem dX12_digest_214 : decode cX12_digest 214 = .ok (.aload_n 0, 1) := by decide +kernel
theorem dX12_digest_215 : decode cX12_digest 215 = .ok (.getfield 7, 3) := by decide +kernel
theorem dX12_digest_218 : decode cX12_digest 218 = .ok (.iconst 5, 1) := by decide +kernel
theorem dX12_digest_219 : decode cX12_digest 219 = .ok (.iaload, 1) := by decide +kernel
theorem dX12_digest_220 : decode cX12_digest 220 = .ok (.if_icmp .ge 40, 3) := by decide +kernel
theorem dX12_digest_223 : decode cX12_digest 223 = .ok (.aload_n 0, 1) := by decide +kernel
theorem dX12_digest_224 : decode cX12_digest 224 = .ok (.iload_n 1, 1) := by decide +kernel
theorem dX12_digest_225 : decode cX12_digest 225 = .ok (.i2l, 1) := by decide +kernel
theorem dX12_digest_226 : decode cX12_digest 226 = .ok (.invokevirtual 258, 3) := by decide +kernel
theorem dX12_digest_229 : decode cX12_digest 229 = .ok (.iconst 0, 1) := by decide +kernel
theorem dX12_digest_230 : decode cX12_digest 230 = .ok (.istore_n 2, 1) := by decide +kernel
theorem dX12_digest_231 : decode cX12_digest 231 = .ok (.iload_n 2, 1) := by decide +kernel
theorem dX12_digest_232 : decode cX12_digest 232 = .ok (.bipush 7, 2) := by decide +kernel
theorem dX12_digest_234 : decode cX12_digest 234 = .ok (.if_icmp .ge 20, 3) := by decide +kernel
theorem dX12_digest_237 : decode cX12_digest 237 = .ok (.aload_n 0, 1) := by decide +kernel
theorem dX12_digest_238 : decode cX12_digest 238 = .ok (.aload_n 0, 1) := by decide +kernel
theorem dX12_digest_239 : decode cX12_digest 239 = .ok (.iload_n 1, 1) := by decide +kernel
theorem dX12_digest_240 : decode cX12_digest 240 = .ok (.iload_n 2, 1) := by decide +kernel
theorem dX12_digest_241 : decode cX12_digest 241 = .ok (.invokevirtual 113, 3) := by decide +kernel
theorem dX12_digest_244 : decode cX12_digest 244 = .ok (.i2l, 1) := by decide +kernel
theorem dX12_digest_245 : decode cX12_digest 245 = .ok (.invokevirtual 258, 3) := by decide +kernel
theorem dX12_digest_248 : decode cX12_digest 248 = .ok (.iinc 2 1, 3) := by decide +kernel
theorem dX12_digest_251 : decode cX12_digest 251 = .ok (.goto (-20), 3) := by decide +kernel
theorem dX12_digest_254 : decode cX12_digest 254 = .ok (.iinc 1 1, 3) := by decide +kernel
theorem dX12_digest_257 : decode cX12_digest 257 = .ok (.goto (-44), 3) := by decide +kernel
theorem dX12_digest_260 : decode cX12_digest 260 = .ok (.iconst 0, 1) := by decide +kernel
theorem dX12_digest_261 : decode cX12_digest 261 = .ok (.istore_n 1, 1) := by decide +kernel
theorem dX12_digest_262 : decode cX12_digest 262 = .ok (.iload_n 1, 1) := by decide +kernel
theorem dX12_digest_263 : decode cX12_digest 263 = .ok (.iconst 5, 1) := by decide +kernel
theorem dX12_digest_264 : decode cX12_digest 264 = .ok (.aload_n 0, 1) := by decide +kernel
theorem dX12_digest_265 : decode cX12_digest 265 = .ok (.getfield 7, 3) := by decide +kernel
theorem dX12_digest_268 : decode cX12_digest 268 = .ok (.bipush 8, 2) := by decide +kernel
theorem dX12_digest_270 : decode cX12_digest 270 = .ok (.iaload, 1) := by decide +kernel
theorem dX12_digest_271 : decode cX12_digest 271 = .ok (.imul, 1) := by decide +kernel
theorem dX12_digest_272 : decode cX12_digest 272 = .ok (.if_icmp .ge 23, 3) := by decide +kernel
theorem dX12_digest_275 : decode cX12_digest 275 = .ok (.aload_n 0, 1) := by decide +kernel
theorem dX12_digest_276 : decode cX12_digest 276 = .ok (.aload_n 0, 1) := by decide +kernel
theorem dX12_digest_277 : decode cX12_digest 277 = .ok (.getfield 7, 3) := by decide +kernel
theorem dX12_digest_280 : decode cX12_digest 280 = .ok (.bipush 101, 2) := by decide +kernel
theorem dX12_digest_282 : decode cX12_digest 282 = .ok (.iload_n 1, 1) := by decide +kernel
theorem dX12_digest_283 : decode cX12_digest 283 = .ok (.iadd, 1) := by decide +kernel
theorem dX12_digest_284 : decode cX12_digest 284 = .ok (.iaload, 1) := by decide +kernel
theorem dX12_digest_285 : decode cX12_digest 285 = .ok (.i2l, 1) := by decide +kernel
theorem dX12_digest_286 : decode cX12_digest 286 = .ok (.invokevirtual 258, 3) := by decide +kernel
theorem dX12_digest_289 : decode cX12_digest 289 = .ok (.iinc 1 1, 3) := by decide +kernel
theorem dX12_digest_292 : decode cX12_digest 292 = .ok (.goto (-30), 3) := by decide +kernel
theorem dX12_digest_295 : decode cX12_digest 295 = .ok (.aload_n 0, 1) := by decide +kernel
theorem dX12_digest_296 : decode cX12_digest 296 = .ok (.aload_n 0, 1) := by decide +kernel
theorem dX12_digest_297 : decode cX12_digest 297 = .ok (.invokevirtual 213, 3) := by decide +kernel
theorem dX12_digest_300 : decode cX12_digest 300 = .ok (.i2l, 1) := by decide +kernel
theorem dX12_digest_301 : decode cX12_digest 301 = .ok (.invokevirtual 258, 3) := by decide +kernel
theorem dX12_digest_304 : decode cX12_digest 304 = .ok (.aload_n 0, 1) := by decide +kernel
theorem dX12_digest_305 : decode cX12_digest 305 = .ok (.getfield 252, 3) := by decide +kernel
theorem dX12_digest_308 : decode cX12_digest 308 = .ok (.lreturn, 1) := by decide +kernel
