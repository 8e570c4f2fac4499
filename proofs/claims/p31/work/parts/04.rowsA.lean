theorem dX1_init_0 : decode cX1_init 0 = .ok (.aload_n 0, 1) := by decide +kernel
theorem dX1_init_1 : decode cX1_init 1 = .ok (.invokespecial 3, 3) := by decide +kernel
theorem dX1_init_4 : decode cX1_init 4 = .ok (.aload_n 0, 1) := by decide +kernel
theorem dX1_init_5 : decode cX1_init 5 = .ok (.new 9, 3) := by decide +kernel
theorem dX1_init_8 : decode cX1_init 8 = .ok (.dup, 1) := by decide +kernel
theorem dX1_init_9 : decode cX1_init 9 = .ok (.iconst 3, 1) := by decide +kernel
theorem dX1_init_10 : decode cX1_init 10 = .ok (.bipush 20, 2) := by decide +kernel
theorem dX1_init_12 : decode cX1_init 12 = .ok (.invokespecial 11, 3) := by decide +kernel
theorem dX1_init_15 : decode cX1_init 15 = .ok (.putfield 14, 3) := by decide +kernel
theorem dX1_init_18 : decode cX1_init 18 = .ok (.return_, 1) := by decide +kernel
theorem dX1_copyFrom_0 : decode cX1_copyFrom 0 = .ok (.aload_n 0, 1) := by decide +kernel
theorem dX1_copyFrom_1 : decode cX1_copyFrom 1 = .ok (.getfield 14, 3) := by decide +kernel
theorem dX1_copyFrom_4 : decode cX1_copyFrom 4 = .ok (.aload_n 1, 1) := by decide +kernel
theorem dX1_copyFrom_5 : decode cX1_copyFrom 5 = .ok (.getfield 14, 3) := by decide +kernel
theorem dX1_copyFrom_8 : decode cX1_copyFrom 8 = .ok (.aload_n 1, 1) := by decide +kernel
theorem dX1_copyFrom_9 : decode cX1_copyFrom 9 = .ok (.getfield 20, 3) := by decide +kernel
theorem dX1_copyFrom_12 : decode cX1_copyFrom 12 = .ok (.invokevirtual 24, 3) := by decide +kernel
theorem dX1_copyFrom_15 : decode cX1_copyFrom 15 = .ok (.aload_n 0, 1) := by decide +kernel
theorem dX1_copyFrom_16 : decode cX1_copyFrom 16 = .ok (.aload_n 1, 1) := by decide +kernel
theorem dX1_copyFrom_17 : decode cX1_copyFrom 17 = .ok (.getfield 20, 3) := by decide +kernel
theorem dX1_copyFrom_20 : decode cX1_copyFrom 20 = .ok (.putfield 20, 3) := by decide +kernel
theorem dX1_copyFrom_23 : decode cX1_copyFrom 23 = .ok (.return_, 1) := by decide +kernel
theorem dX1_size_0 : decode cX1_size 0 = .ok (.aload_n 0, 1) := by decide +kernel
theorem dX1_size_1 : decode cX1_size 1 = .ok (.getfield 20, 3) := by decide +kernel
theorem dX1_size_4 : decode cX1_size 4 = .ok (.ireturn, 1) := by decide +kernel
theorem dX1_has_0 : decode cX1_has 0 = .ok (.iload_n 1, 1) := by decide +kernel
theorem dX1_has_1 : decode cX1_has 1 = .ok (.ifCond .lt 15, 3) := by decide +kernel
theorem dX1_has_4 : decode cX1_has 4 = .ok (.iload_n 1, 1) := by decide +kernel
theorem dX1_has_5 : decode cX1_has 5 = .ok (.aload_n 0, 1) := by decide +kernel
theorem dX1_has_6 : decode cX1_has 6 = .ok (.getfield 20, 3) := by decide +kernel
theorem dX1_has_9 : decode cX1_has 9 = .ok (.if_icmp .ge 7, 3) := by decide +kernel
theorem dX1_has_12 : decode cX1_has 12 = .ok (.iconst 1, 1) := by decide +kernel
theorem dX1_has_13 : decode cX1_has 13 = .ok (.goto 4, 3) := by decide +kernel
theorem dX1_has_16 : decode cX1_has 16 = .ok (.iconst 0, 1) := by decide +kernel
theorem dX1_has_17 : decode cX1_has 17 = .ok (.ireturn, 1) := by decide +kernel
theorem dX1_isFull_0 : decode cX1_isFull 0 = .ok (.aload_n 0, 1) := by decide +kernel
theorem dX1_isFull_1 : decode cX1_isFull 1 = .ok (.getfield 20, 3) := by decide +kernel
theorem dX1_isFull_4 : decode cX1_isFull 4 = .ok (.bipush 20, 2) := by decide +kernel
theorem dX1_isFull_6 : decode cX1_isFull 6 = .ok (.if_icmp .ne 7, 3) := by decide +kernel
theorem dX1_isFull_9 : decode cX1_isFull 9 = .ok (.iconst 1, 1) := by decide +kernel
theorem dX1_isFull_10 : decode cX1_isFull 10 = .ok (.goto 4, 3) := by decide +kernel
theorem dX1_isFull_13 : decode cX1_isFull 13 = .ok (.iconst 0, 1) := by decide +kernel
theorem dX1_isFull_14 : decode cX1_isFull 14 = .ok (.ireturn, 1) := by decide +kernel
theorem dX1_value_0 : decode cX1_value 0 = .ok (.aload_n 0, 1) := by decide +kernel
theorem dX1_value_1 : decode cX1_value 1 = .ok (.getfield 14, 3) := by decide +kernel
theorem dX1_value_4 : decode cX1_value 4 = .ok (.iload_n 1, 1) := by decide +kernel
theorem dX1_value_5 : decode cX1_value 5 = .ok (.iload_n 2, 1) := by decide +kernel
theorem dX1_value_6 : decode cX1_value 6 = .ok (.invokevirtual 28, 3) := by decide +kernel
theorem dX1_value_9 : decode cX1_value 9 = .ok (.ireturn, 1) := by decide +kernel
theorem dX1_countOf_0 : decode cX1_countOf 0 = .ok (.aload_n 0, 1) := by decide +kernel
theorem dX1_countOf_1 : decode cX1_countOf 1 = .ok (.getfield 14, 3) := by decide +kernel
theorem dX1_countOf_4 : decode cX1_countOf 4 = .ok (.aload_n 0, 1) := by decide +kernel
theorem dX1_countOf_5 : decode cX1_countOf 5 = .ok (.getfield 20, 3) := by decide +kernel
theorem dX1_countOf_8 : decode cX1_countOf 8 = .ok (.iconst 0, 1) := by decide +kernel
theorem dX1_countOf_9 : decode cX1_countOf 9 = .ok (.iload_n 1, 1) := by decide +kernel
theorem dX1_countOf_10 : decode cX1_countOf 10 = .ok (.invokevirtual 32, 3) := by decide +kernel
theorem dX1_countOf_13 : decode cX1_countOf 13 = .ok (.ireturn, 1) := by decide +kernel
theorem dX1_add_0 : decode cX1_add 0 = .ok (.aload_n 0, 1) := by decide +kernel
theorem dX1_add_1 : decode cX1_add 1 = .ok (.getfield 20, 3) := by decide +kernel
theorem dX1_add_4 : decode cX1_add 4 = .ok (.istore 4, 2) := by decide +kernel
theorem dX1_add_6 : decode cX1_add 6 = .ok (.aload_n 0, 1) := by decide +kernel
theorem dX1_add_7 : decode cX1_add 7 = .ok (.getfield 14, 3) := by decide +kernel
theorem dX1_add_10 : decode cX1_add 10 = .ok (.iload 4, 2) := by decide +kernel
theorem dX1_add_12 : decode cX1_add 12 = .ok (.iconst 0, 1) := by decide +kernel
theorem dX1_add_13 : decode cX1_add 13 = .ok (.iload_n 1, 1) := by decide +kernel
theorem dX1_add_14 : decode cX1_add 14 = .ok (.invokevirtual 35, 3) := by decide +kernel
theorem dX1_add_17 : decode cX1_add 17 = .ok (.aload_n 0, 1) := by decide +kernel
theorem dX1_add_18 : decode cX1_add 18 = .ok (.getfield 14, 3) := by decide +kernel
theorem dX1_add_21 : decode cX1_add 21 = .ok (.iload 4, 2) := by decide +kernel
theorem dX1_add_23 : decode cX1_add 23 = .ok (.iconst 1, 1) := by decide +kernel
theorem dX1_add_24 : decode cX1_add 24 = .ok (.iload_n 2, 1) := by decide +kernel
theorem dX1_add_25 : decode cX1_add 25 = .ok (.invokevirtual 35, 3) := by decide +kernel
theorem dX1_add_28 : decode cX1_add 28 = .ok (.aload_n 0, 1) := by decide +kernel
theorem dX1_add_29 : decode cX1_add 29 = .ok (.getfield 14, 3) := by decide +kernel
theorem dX1_add_32 : decode cX1_add 32 = .ok (.iload 4, 2) := by decide +kernel
theorem dX1_add_34 : decode cX1_add 34 = .ok (.iconst 2, 1) := by decide +kernel
theorem dX1_add_35 : decode cX1_add 35 = .ok (.iload_n 3, 1) := by decide +kernel
theorem dX1_add_36 : decode cX1_add 36 = .ok (.invokevirtual 35, 3) := by decide +kernel
theorem dX1_add_39 : decode cX1_add 39 = .ok (.aload_n 0, 1) := by decide +kernel
theorem dX1_add_40 : decode cX1_add 40 = .ok (.dup, 1) := by decide +kernel
theorem dX1_add_41 : decode cX1_add 41 = .ok (.getfield 20, 3) := by decide +kernel
theorem dX1_add_44 : decode cX1_add 44 = .ok (.iconst 1, 1) := by decide +kernel
theorem dX1_add_45 : decode cX1_add 45 = .ok (.iadd, 1) := by decide +kernel
theorem dX1_add_46 : decode cX1_add 46 = .ok (.putfield 20, 3) := by decide +kernel
theorem dX1_add_49 : decode cX1_add 49 = .ok (.iload 4, 2) := by decide +kernel
theorem dX1_add_51 : decode cX1_add 51 = .ok (.ireturn, 1) := by decide +kernel
theorem dX1_remove_0 : decode cX1_remove 0 = .ok (.aload_n 0, 1) := by decide +kernel
theorem dX1_remove_1 : decode cX1_remove 1 = .ok (.getfield 14, 3) := by decide +kernel
theorem dX1_remove_4 : decode cX1_remove 4 = .ok (.iload_n 1, 1) := by decide +kernel
theorem dX1_remove_5 : decode cX1_remove 5 = .ok (.iconst 2, 1) := by decide +kernel
theorem dX1_remove_6 : decode cX1_remove 6 = .ok (.invokevirtual 28, 3) := by decide +kernel
theorem dX1_remove_9 : decode cX1_remove 9 = .ok (.istore_n 2, 1) := by decide +kernel
theorem dX1_remove_10 : decode cX1_remove 10 = .ok (.aload_n 0, 1) := by decide +kernel
theorem dX1_remove_11 : decode cX1_remove 11 = .ok (.getfield 14, 3) := by decide +kernel
theorem dX1_remove_14 : decode cX1_remove 14 = .ok (.iload_n 1, 1) := by decide +kernel
theorem dX1_remove_15 : decode cX1_remove 15 = .ok (.aload_n 0, 1) := by decide +kernel
theorem dX1_remove_16 : decode cX1_remove 16 = .ok (.getfield 20, 3) := by decide +kernel
theorem dX1_remove_19 : decode cX1_remove 19 = .ok (.invokevirtual 39, 3) := by decide +kernel
theorem dX1_remove_22 : decode cX1_remove 22 = .ok (.aload_n 0, 1) := by decide +kernel
theorem dX1_remove_23 : decode cX1_remove 23 = .ok (.dup, 1) := by decide +kernel
theorem dX1_remove_24 : decode cX1_remove 24 = .ok (.getfield 20, 3) := by decide +kernel
theorem dX1_remove_27 : decode cX1_remove 27 = .ok (.iconst 1, 1) := by decide +kernel
theorem dX1_remove_28 : decode cX1_remove 28 = .ok (.isub, 1) := by decide +kernel
theorem dX1_remove_29 : decode cX1_remove 29 = .ok (.putfield 20, 3) := by decide +kernel
theorem dX1_remove_32 : decode cX1_remove 32 = .ok (.iload_n 2, 1) := by decide +kernel
theorem dX1_remove_33 : decode cX1_remove 33 = .ok (.ireturn, 1) := by decide +kernel
theorem dX1_clear_0 : decode cX1_clear 0 = .ok (.aload_n 0, 1) := by decide +kernel
theorem dX1_clear_1 : decode cX1_clear 1 = .ok (.iconst 0, 1) := by decide +kernel
theorem dX1_clear_2 : decode cX1_clear 2 = .ok (.putfield 20, 3) := by decide +kernel
theorem dX1_clear_5 : decode cX1_clear 5 = .ok (.return_, 1) := by decide +kernel
theorem dX4_init_0 : decode cX4_init 0 = .ok (.aload_n 0, 1) := by decide +kernel
theorem dX4_init_1 : decode cX4_init 1 = .ok (.invokespecial 3, 3) := by decide +kernel
theorem dX4_init_4 : decode cX4_init 4 = .ok (.aload_n 0, 1) := by decide +kernel
theorem dX4_init_5 : decode cX4_init 5 = .ok (.new 9, 3) := by decide +kernel
theorem dX4_init_8 : decode cX4_init 8 = .ok (.dup, 1) := by decide +kernel
theorem dX4_init_9 : decode cX4_init 9 = .ok (.iconst 4, 1) := by decide +kernel
theorem dX4_init_10 : decode cX4_init 10 = .ok (.bipush 8, 2) := by decide +kernel
theorem dX4_init_12 : decode cX4_init 12 = .ok (.invokespecial 11, 3) := by decide +kernel
theorem dX4_init_15 : decode cX4_init 15 = .ok (.putfield 14, 3) := by decide +kernel
theorem dX4_init_18 : decode cX4_init 18 = .ok (.return_, 1) := by decide +kernel
theorem dX4_copyFrom_0 : decode cX4_copyFrom 0 = .ok (.aload_n 0, 1) := by decide +kernel
theorem dX4_copyFrom_1 : decode cX4_copyFrom 1 = .ok (.getfield 14, 3) := by decide +kernel
theorem dX4_copyFrom_4 : decode cX4_copyFrom 4 = .ok (.aload_n 1, 1) := by decide +kernel
theorem dX4_copyFrom_5 : decode cX4_copyFrom 5 = .ok (.getfield 14, 3) := by decide +kernel
theorem dX4_copyFrom_8 : decode cX4_copyFrom 8 = .ok (.aload_n 1, 1) := by decide +kernel
theorem dX4_copyFrom_9 : decode cX4_copyFrom 9 = .ok (.getfield 20, 3) := by decide +kernel
theorem dX4_copyFrom_12 : decode cX4_copyFrom 12 = .ok (.invokevirtual 24, 3) := by decide +kernel
theorem dX4_copyFrom_15 : decode cX4_copyFrom 15 = .ok (.aload_n 0, 1) := by decide +kernel
theorem dX4_copyFrom_16 : decode cX4_copyFrom 16 = .ok (.aload_n 1, 1) := by decide +kernel
theorem dX4_copyFrom_17 : decode cX4_copyFrom 17 = .ok (.getfield 20, 3) := by decide +kernel
theorem dX4_copyFrom_20 : decode cX4_copyFrom 20 = .ok (.putfield 20, 3) := by decide +kernel
theorem dX4_copyFrom_23 : decode cX4_copyFrom 23 = .ok (.return_, 1) := by decide +kernel
theorem dX4_size_0 : decode cX4_size 0 = .ok (.aload_n 0, 1) := by decide +kernel
theorem dX4_size_1 : decode cX4_size 1 = .ok (.getfield 20, 3) := by decide +kernel
theorem dX4_size_4 : decode cX4_size 4 = .ok (.ireturn, 1) := by decide +kernel
theorem dX4_has_0 : decode cX4_has 0 = .ok (.iload_n 1, 1) := by decide +kernel
theorem dX4_has_1 : decode cX4_has 1 = .ok (.ifCond .lt 15, 3) := by decide +kernel
theorem dX4_has_4 : decode cX4_has 4 = .ok (.iload_n 1, 1) := by decide +kernel
theorem dX4_has_5 : decode cX4_has 5 = .ok (.aload_n 0, 1) := by decide +kernel
theorem dX4_has_6 : decode cX4_has 6 = .ok (.getfield 20, 3) := by decide +kernel
theorem dX4_has_9 : decode cX4_has 9 = .ok (.if_icmp .ge 7, 3) := by decide +kernel
theorem dX4_has_12 : decode cX4_has 12 = .ok (.iconst 1, 1) := by decide +kernel
theorem dX4_has_13 : decode cX4_has 13 = .ok (.goto 4, 3) := by decide +kernel
theorem dX4_has_16 : decode cX4_has 16 = .ok (.iconst 0, 1) := by decide +kernel
theorem dX4_has_17 : decode cX4_has 17 = .ok (.ireturn, 1) := by decide +kernel
theorem dX4_isFull_0 : decode cX4_isFull 0 = .ok (.aload_n 0, 1) := by decide +kernel
theorem dX4_isFull_1 : decode cX4_isFull 1 = .ok (.getfield 20, 3) := by decide +kernel
theorem dX4_isFull_4 : decode cX4_isFull 4 = .ok (.bipush 8, 2) := by decide +kernel
theorem dX4_isFull_6 : decode cX4_isFull 6 = .ok (.if_icmp .ne 7, 3) := by decide +kernel
theorem dX4_isFull_9 : decode cX4_isFull 9 = .ok (.iconst 1, 1) := by decide +kernel
theorem dX4_isFull_10 : decode cX4_isFull 10 = .ok (.goto 4, 3) := by decide +kernel
theorem dX4_isFull_13 : decode cX4_isFull 13 = .ok (.iconst 0, 1) := by decide +kernel
theorem dX4_isFull_14 : decode cX4_isFull 14 = .ok (.ireturn, 1) := by decide +kernel
theorem dX4_value_0 : decode cX4_value 0 = .ok (.aload_n 0, 1) := by decide +kernel
theorem dX4_value_1 : decode cX4_value 1 = .ok (.getfield 14, 3) := by decide +kernel
theorem dX4_value_4 : decode cX4_value 4 = .ok (.iload_n 1, 1) := by decide +kernel
theorem dX4_value_5 : decode cX4_value 5 = .ok (.iload_n 2, 1) := by decide +kernel
theorem dX4_value_6 : decode cX4_value 6 = .ok (.invokevirtual 28, 3) := by decide +kernel
theorem dX4_value_9 : decode cX4_value 9 = .ok (.ireturn, 1) := by decide +kernel
theorem dX4_sumOf_0 : decode cX4_sumOf 0 = .ok (.aload_n 0, 1) := by decide +kernel
theorem dX4_sumOf_1 : decode cX4_sumOf 1 = .ok (.getfield 14, 3) := by decide +kernel
theorem dX4_sumOf_4 : decode cX4_sumOf 4 = .ok (.aload_n 0, 1) := by decide +kernel
theorem dX4_sumOf_5 : decode cX4_sumOf 5 = .ok (.getfield 20, 3) := by decide +kernel
theorem dX4_sumOf_8 : decode cX4_sumOf 8 = .ok (.iload_n 1, 1) := by decide +kernel
theorem dX4_sumOf_9 : decode cX4_sumOf 9 = .ok (.invokevirtual 32, 3) := by decide +kernel
theorem dX4_sumOf_12 : decode cX4_sumOf 12 = .ok (.ireturn, 1) := by decide +kernel
theorem dX4_withMark_0 : decode cX4_withMark 0 = .ok (.iconst 0, 1) := by decide +kernel
theorem dX4_withMark_1 : decode cX4_withMark 1 = .ok (.istore_n 2, 1) := by decide +kernel
theorem dX4_withMark_2 : decode cX4_withMark 2 = .ok (.iload_n 2, 1) := by decide +kernel
theorem dX4_withMark_3 : decode cX4_withMark 3 = .ok (.aload_n 0, 1) := by decide +kernel
theorem dX4_withMark_4 : decode cX4_withMark 4 = .ok (.getfield 20, 3) := by decide +kernel
theorem dX4_withMark_7 : decode cX4_withMark 7 = .ok (.if_icmp .ge 24, 3) := by decide +kernel
theorem dX4_withMark_10 : decode cX4_withMark 10 = .ok (.aload_n 0, 1) := by decide +kernel
theorem dX4_withMark_11 : decode cX4_withMark 11 = .ok (.getfield 14, 3) := by decide +kernel
theorem dX4_withMark_14 : decode cX4_withMark 14 = .ok (.iload_n 2, 1) := by decide +kernel
theorem dX4_withMark_15 : decode cX4_withMark 15 = .ok (.iconst 0, 1) := by decide +kernel
theorem dX4_withMark_16 : decode cX4_withMark 16 = .ok (.invokevirtual 28, 3) := by decide +kernel
theorem dX4_withMark_19 : decode cX4_withMark 19 = .ok (.iload_n 1, 1) := by decide +kernel
theorem dX4_withMark_20 : decode cX4_withMark 20 = .ok (.if_icmp .ne 5, 3) := by decide +kernel
theorem dX4_withMark_23 : decode cX4_withMark 23 = .ok (.iload_n 2, 1) := by decide +kernel
theorem dX4_withMark_24 : decode cX4_withMark 24 = .ok (.ireturn, 1) := by decide +kernel
theorem dX4_withMark_25 : decode cX4_withMark 25 = .ok (.iinc 2 1, 3) := by decide +kernel
theorem dX4_withMark_28 : decode cX4_withMark 28 = .ok (.goto (-26), 3) := by decide +kernel
theorem dX4_withMark_31 : decode cX4_withMark 31 = .ok (.iconst (-1), 1) := by decide +kernel
theorem dX4_withMark_32 : decode cX4_withMark 32 = .ok (.ireturn, 1) := by decide +kernel
theorem dX4_add_0 : decode cX4_add 0 = .ok (.aload_n 0, 1) := by decide +kernel
theorem dX4_add_1 : decode cX4_add 1 = .ok (.getfield 20, 3) := by decide +kernel
theorem dX4_add_4 : decode cX4_add 4 = .ok (.istore_n 2, 1) := by decide +kernel
theorem dX4_add_5 : decode cX4_add 5 = .ok (.aload_n 0, 1) := by decide +kernel
theorem dX4_add_6 : decode cX4_add 6 = .ok (.getfield 14, 3) := by decide +kernel
theorem dX4_add_9 : decode cX4_add 9 = .ok (.iload_n 2, 1) := by decide +kernel
theorem dX4_add_10 : decode cX4_add 10 = .ok (.iconst 0, 1) := by decide +kernel
theorem dX4_add_11 : decode cX4_add 11 = .ok (.iload_n 1, 1) := by decide +kernel
theorem dX4_add_12 : decode cX4_add 12 = .ok (.invokevirtual 35, 3) := by decide +kernel
theorem dX4_add_15 : decode cX4_add 15 = .ok (.aload_n 0, 1) := by decide +kernel
theorem dX4_add_16 : decode cX4_add 16 = .ok (.getfield 14, 3) := by decide +kernel
theorem dX4_add_19 : decode cX4_add 19 = .ok (.iload_n 2, 1) := by decide +kernel
theorem dX4_add_20 : decode cX4_add 20 = .ok (.iconst 1, 1) := by decide +kernel
theorem dX4_add_21 : decode cX4_add 21 = .ok (.iconst 0, 1) := by decide +kernel
theorem dX4_add_22 : decode cX4_add 22 = .ok (.invokevirtual 35, 3) := by decide +kernel
theorem dX4_add_25 : decode cX4_add 25 = .ok (.aload_n 0, 1) := by decide +kernel
theorem dX4_add_26 : decode cX4_add 26 = .ok (.getfield 14, 3) := by decide +kernel
theorem dX4_add_29 : decode cX4_add 29 = .ok (.iload_n 2, 1) := by decide +kernel
theorem dX4_add_30 : decode cX4_add 30 = .ok (.iconst 2, 1) := by decide +kernel
theorem dX4_add_31 : decode cX4_add 31 = .ok (.iconst 0, 1) := by decide +kernel
theorem dX4_add_32 : decode cX4_add 32 = .ok (.invokevirtual 35, 3) := by decide +kernel
theorem dX4_add_35 : decode cX4_add 35 = .ok (.aload_n 0, 1) := by decide +kernel
theorem dX4_add_36 : decode cX4_add 36 = .ok (.getfield 14, 3) := by decide +kernel
theorem dX4_add_39 : decode cX4_add 39 = .ok (.iload_n 2, 1) := by decide +kernel
theorem dX4_add_40 : decode cX4_add 40 = .ok (.iconst 3, 1) := by decide +kernel
theorem dX4_add_41 : decode cX4_add 41 = .ok (.iconst 0, 1) := by decide +kernel
theorem dX4_add_42 : decode cX4_add 42 = .ok (.invokevirtual 35, 3) := by decide +kernel
theorem dX4_add_45 : decode cX4_add 45 = .ok (.aload_n 0, 1) := by decide +kernel
theorem dX4_add_46 : decode cX4_add 46 = .ok (.dup, 1) := by decide +kernel
theorem dX4_add_47 : decode cX4_add 47 = .ok (.getfield 20, 3) := by decide +kernel
theorem dX4_add_50 : decode cX4_add 50 = .ok (.iconst 1, 1) := by decide +kernel
theorem dX4_add_51 : decode cX4_add 51 = .ok (.iadd, 1) := by decide +kernel
theorem dX4_add_52 : decode cX4_add 52 = .ok (.putfield 20, 3) := by decide +kernel
theorem dX4_add_55 : decode cX4_add 55 = .ok (.iload_n 2, 1) := by decide +kernel
theorem dX4_add_56 : decode cX4_add 56 = .ok (.ireturn, 1) := by decide +kernel
theorem dX4_changeMark_0 : decode cX4_changeMark 0 = .ok (.aload_n 0, 1) := by decide +kernel
theorem dX4_changeMark_1 : decode cX4_changeMark 1 = .ok (.getfield 14, 3) := by decide +kernel
theorem dX4_changeMark_4 : decode cX4_changeMark 4 = .ok (.iload_n 1, 1) := by decide +kernel
theorem dX4_changeMark_5 : decode cX4_changeMark 5 = .ok (.iconst 0, 1) := by decide +kernel
theorem dX4_changeMark_6 : decode cX4_changeMark 6 = .ok (.invokevirtual 28, 3) := by decide +kernel
theorem dX4_changeMark_9 : decode cX4_changeMark 9 = .ok (.istore_n 3, 1) := by decide +kernel
theorem dX4_changeMark_10 : decode cX4_changeMark 10 = .ok (.aload_n 0, 1) := by decide +kernel
theorem dX4_changeMark_11 : decode cX4_changeMark 11 = .ok (.getfield 14, 3) := by decide +kernel
theorem dX4_changeMark_14 : decode cX4_changeMark 14 = .ok (.iload_n 1, 1) := by decide +kernel
theorem dX4_changeMark_15 : decode cX4_changeMark 15 = .ok (.iconst 0, 1) := by decide +kernel
theorem dX4_changeMark_16 : decode cX4_changeMark 16 = .ok (.iload_n 2, 1) := by decide +kernel
theorem dX4_changeMark_17 : decode cX4_changeMark 17 = .ok (.invokevirtual 35, 3) := by decide +kernel
theorem dX4_changeMark_20 : decode cX4_changeMark 20 = .ok (.iload_n 3, 1) := by decide +kernel
theorem dX4_changeMark_21 : decode cX4_changeMark 21 = .ok (.ireturn, 1) := by decide +kernel
theorem dX4_excuseOne_0 : decode cX4_excuseOne 0 = .ok (.aload_n 0, 1) := by decide +kernel
theorem dX4_excuseOne_1 : decode cX4_excuseOne 1 = .ok (.getfield 14, 3) := by decide +kernel
theorem dX4_excuseOne_4 : decode cX4_excuseOne 4 = .ok (.iload_n 1, 1) := by decide +kernel
theorem dX4_excuseOne_5 : decode cX4_excuseOne 5 = .ok (.iconst 3, 1) := by decide +kernel
theorem dX4_excuseOne_6 : decode cX4_excuseOne 6 = .ok (.iconst 1, 1) := by decide +kernel
theorem dX4_excuseOne_7 : decode cX4_excuseOne 7 = .ok (.invokevirtual 35, 3) := by decide +kernel
theorem dX4_excuseOne_10 : decode cX4_excuseOne 10 = .ok (.aload_n 0, 1) := by decide +kernel
theorem dX4_excuseOne_11 : decode cX4_excuseOne 11 = .ok (.getfield 14, 3) := by decide +kernel
theorem dX4_excuseOne_14 : decode cX4_excuseOne 14 = .ok (.aload_n 0, 1) := by decide +kernel
theorem dX4_excuseOne_15 : decode cX4_excuseOne 15 = .ok (.getfield 20, 3) := by decide +kernel
theorem dX4_excuseOne_18 : decode cX4_excuseOne 18 = .ok (.iconst 3, 1) := by decide +kernel
theorem dX4_excuseOne_19 : decode cX4_excuseOne 19 = .ok (.iconst 1, 1) := by decide +kernel
theorem dX4_excuseOne_20 : decode cX4_excuseOne 20 = .ok (.invokevirtual 39, 3) := by decide +kernel
theorem dX4_excuseOne_23 : decode cX4_excuseOne 23 = .ok (.ireturn, 1) := by decide +kernel
theorem dX4_putIn_0 : decode cX4_putIn 0 = .ok (.aload_n 0, 1) := by decide +kernel
theorem dX4_putIn_1 : decode cX4_putIn 1 = .ok (.getfield 14, 3) := by decide +kernel
theorem dX4_putIn_4 : decode cX4_putIn 4 = .ok (.iload_n 1, 1) := by decide +kernel
theorem dX4_putIn_5 : decode cX4_putIn 5 = .ok (.iconst 2, 1) := by decide +kernel
theorem dX4_putIn_6 : decode cX4_putIn 6 = .ok (.aload_n 0, 1) := by decide +kernel
theorem dX4_putIn_7 : decode cX4_putIn 7 = .ok (.getfield 14, 3) := by decide +kernel
theorem dX4_putIn_10 : decode cX4_putIn 10 = .ok (.iload_n 1, 1) := by decide +kernel
theorem dX4_putIn_11 : decode cX4_putIn 11 = .ok (.iconst 2, 1) := by decide +kernel
theorem dX4_putIn_12 : decode cX4_putIn 12 = .ok (.invokevirtual 28, 3) := by decide +kernel
theorem dX4_putIn_15 : decode cX4_putIn 15 = .ok (.iload_n 2, 1) := by decide +kernel
theorem dX4_putIn_16 : decode cX4_putIn 16 = .ok (.iadd, 1) := by decide +kernel
theorem dX4_putIn_17 : decode cX4_putIn 17 = .ok (.invokevirtual 35, 3) := by decide +kernel
theorem dX4_putIn_20 : decode cX4_putIn 20 = .ok (.return_, 1) := by decide +kernel
theorem dX4_bringWood_0 : decode cX4_bringWood 0 = .ok (.aload_n 0, 1) := by decide +kernel
theorem dX4_bringWood_1 : decode cX4_bringWood 1 = .ok (.invokevirtual 42, 3) := by decide +kernel
theorem dX4_bringWood_4 : decode cX4_bringWood 4 = .ok (.istore_n 2, 1) := by decide +kernel
theorem dX4_bringWood_5 : decode cX4_bringWood 5 = .ok (.aload_n 0, 1) := by decide +kernel
theorem dX4_bringWood_6 : decode cX4_bringWood 6 = .ok (.getfield 14, 3) := by decide +kernel
theorem dX4_bringWood_9 : decode cX4_bringWood 9 = .ok (.iload_n 2, 1) := by decide +kernel
theorem dX4_bringWood_10 : decode cX4_bringWood 10 = .ok (.iconst 1, 1) := by decide +kernel
theorem dX4_bringWood_11 : decode cX4_bringWood 11 = .ok (.aload_n 0, 1) := by decide +kernel
theorem dX4_bringWood_12 : decode cX4_bringWood 12 = .ok (.getfield 14, 3) := by decide +kernel
theorem dX4_bringWood_15 : decode cX4_bringWood 15 = .ok (.iload_n 2, 1) := by decide +kernel
theorem dX4_bringWood_16 : decode cX4_bringWood 16 = .ok (.iconst 1, 1) := by decide +kernel
theorem dX4_bringWood_17 : decode cX4_bringWood 17 = .ok (.invokevirtual 28, 3) := by decide +kernel
theorem dX4_bringWood_20 : decode cX4_bringWood 20 = .ok (.iload_n 1, 1) := by decide +kernel
theorem dX4_bringWood_21 : decode cX4_bringWood 21 = .ok (.iadd, 1) := by decide +kernel
theorem dX4_bringWood_22 : decode cX4_bringWood 22 = .ok (.invokevirtual 35, 3) := by decide +kernel
theorem dX4_bringWood_25 : decode cX4_bringWood 25 = .ok (.iconst 0, 1) := by decide +kernel
theorem dX4_bringWood_26 : decode cX4_bringWood 26 = .ok (.istore_n 3, 1) := by decide +kernel
theorem dX4_bringWood_27 : decode cX4_bringWood 27 = .ok (.iload_n 3, 1) := by decide +kernel
theorem dX4_bringWood_28 : decode cX4_bringWood 28 = .ok (.aload_n 0, 1) := by decide +kernel
theorem dX4_bringWood_29 : decode cX4_bringWood 29 = .ok (.getfield 20, 3) := by decide +kernel
theorem dX4_bringWood_32 : decode cX4_bringWood 32 = .ok (.if_icmp .ge 19, 3) := by decide +kernel
theorem dX4_bringWood_35 : decode cX4_bringWood 35 = .ok (.aload_n 0, 1) := by decide +kernel
theorem dX4_bringWood_36 : decode cX4_bringWood 36 = .ok (.getfield 14, 3) := by decide +kernel
theorem dX4_bringWood_39 : decode cX4_bringWood 39 = .ok (.iload_n 3, 1) := by decide +kernel
theorem dX4_bringWood_40 : decode cX4_bringWood 40 = .ok (.iconst 3, 1) := by decide +kernel
theorem dX4_bringWood_41 : decode cX4_bringWood 41 = .ok (.iconst 0, 1) := by decide +kernel
theorem dX4_bringWood_42 : decode cX4_bringWood 42 = .ok (.invokevirtual 35, 3) := by decide +kernel
theorem dX4_bringWood_45 : decode cX4_bringWood 45 = .ok (.iinc 3 1, 3) := by decide +kernel
theorem dX4_bringWood_48 : decode cX4_bringWood 48 = .ok (.goto (-21), 3) := by decide +kernel
theorem dX4_bringWood_51 : decode cX4_bringWood 51 = .ok (.return_, 1) := by decide +kernel
theorem dX4_dueOf_0 : decode cX4_dueOf 0 = .ok (.aload_n 0, 1) := by decide +kernel
theorem dX4_dueOf_1 : decode cX4_dueOf 1 = .ok (.getfield 14, 3) := by decide +kernel
theorem dX4_dueOf_4 : decode cX4_dueOf 4 = .ok (.aload_n 0, 1) := by decide +kernel
theorem dX4_dueOf_5 : decode cX4_dueOf 5 = .ok (.getfield 20, 3) := by decide +kernel
theorem dX4_dueOf_8 : decode cX4_dueOf 8 = .ok (.iconst 1, 1) := by decide +kernel
theorem dX4_dueOf_9 : decode cX4_dueOf 9 = .ok (.invokevirtual 32, 3) := by decide +kernel
theorem dX4_dueOf_12 : decode cX4_dueOf 12 = .ok (.i2l, 1) := by decide +kernel
theorem dX4_dueOf_13 : decode cX4_dueOf 13 = .ok (.lstore_n 2, 1) := by decide +kernel
theorem dX4_dueOf_14 : decode cX4_dueOf 14 = .ok (.aload_n 0, 1) := by decide +kernel
theorem dX4_dueOf_15 : decode cX4_dueOf 15 = .ok (.getfield 14, 3) := by decide +kernel
theorem dX4_dueOf_18 : decode cX4_dueOf 18 = .ok (.aload_n 0, 1) := by decide +kernel
theorem dX4_dueOf_19 : decode cX4_dueOf 19 = .ok (.getfield 20, 3) := by decide +kernel
theorem dX4_dueOf_22 : decode cX4_dueOf 22 = .ok (.iconst 2, 1) := by decide +kernel
theorem dX4_dueOf_23 : decode cX4_dueOf 23 = .ok (.invokevirtual 32, 3) := by decide +kernel
theorem dX4_dueOf_26 : decode cX4_dueOf 26 = .ok (.i2l, 1) := by decide +kernel
theorem dX4_dueOf_27 : decode cX4_dueOf 27 = .ok (.lstore 4, 2) := by decide +kernel
theorem dX4_dueOf_29 : decode cX4_dueOf 29 = .ok (.lload_n 2, 1) := by decide +kernel
theorem dX4_dueOf_30 : decode cX4_dueOf 30 = .ok (.aload_n 0, 1) := by decide +kernel
theorem dX4_dueOf_31 : decode cX4_dueOf 31 = .ok (.getfield 14, 3) := by decide +kernel
theorem dX4_dueOf_34 : decode cX4_dueOf 34 = .ok (.iload_n 1, 1) := by decide +kernel
theorem dX4_dueOf_35 : decode cX4_dueOf 35 = .ok (.iconst 2, 1) := by decide +kernel
theorem dX4_dueOf_36 : decode cX4_dueOf 36 = .ok (.invokevirtual 28, 3) := by decide +kernel
theorem dX4_dueOf_39 : decode cX4_dueOf 39 = .ok (.i2l, 1) := by decide +kernel
theorem dX4_dueOf_40 : decode cX4_dueOf 40 = .ok (.lmul, 1) := by decide +kernel
theorem dX4_dueOf_41 : decode cX4_dueOf 41 = .ok (.lload 4, 2) := by decide +kernel
theorem dX4_dueOf_43 : decode cX4_dueOf 43 = .ok (.aload_n 0, 1) := by decide +kernel
theorem dX4_dueOf_44 : decode cX4_dueOf 44 = .ok (.getfield 14, 3) := by decide +kernel
theorem dX4_dueOf_47 : decode cX4_dueOf 47 = .ok (.iload_n 1, 1) := by decide +kernel
theorem dX4_dueOf_48 : decode cX4_dueOf 48 = .ok (.iconst 1, 1) := by decide +kernel
theorem dX4_dueOf_49 : decode cX4_dueOf 49 = .ok (.invokevirtual 28, 3) := by decide +kernel
theorem dX4_dueOf_52 : decode cX4_dueOf 52 = .ok (.i2l, 1) := by decide +kernel
theorem dX4_dueOf_53 : decode cX4_dueOf 53 = .ok (.lmul, 1) := by decide +kernel
theorem dX4_dueOf_54 : decode cX4_dueOf 54 = .ok (.lsub, 1) := by decide +kernel
theorem dX4_dueOf_55 : decode cX4_dueOf 55 = .ok (.lreturn, 1) := by decide +kernel
theorem dX4_nextOne_0 : decode cX4_nextOne 0 = .ok (.aload_n 0, 1) := by decide +kernel
theorem dX4_nextOne_1 : decode cX4_nextOne 1 = .ok (.getfield 14, 3) := by decide +kernel
theorem dX4_nextOne_4 : decode cX4_nextOne 4 = .ok (.aload_n 0, 1) := by decide +kernel
theorem dX4_nextOne_5 : decode cX4_nextOne 5 = .ok (.getfield 20, 3) := by decide +kernel
theorem dX4_nextOne_8 : decode cX4_nextOne 8 = .ok (.iconst 3, 1) := by decide +kernel
theorem dX4_nextOne_9 : decode cX4_nextOne 9 = .ok (.iconst 1, 1) := by decide +kernel
theorem dX4_nextOne_10 : decode cX4_nextOne 10 = .ok (.invokevirtual 39, 3) := by decide +kernel
theorem dX4_nextOne_13 : decode cX4_nextOne 13 = .ok (.aload_n 0, 1) := by decide +kernel
theorem dX4_nextOne_14 : decode cX4_nextOne 14 = .ok (.getfield 20, 3) := by decide +kernel
theorem dX4_nextOne_17 : decode cX4_nextOne 17 = .ok (.if_icmp .ne 7, 3) := by decide +kernel
theorem dX4_nextOne_20 : decode cX4_nextOne 20 = .ok (.iconst 1, 1) := by decide +kernel
theorem dX4_nextOne_21 : decode cX4_nextOne 21 = .ok (.goto 4, 3) := by decide +kernel
theorem dX4_nextOne_24 : decode cX4_nextOne 24 = .ok (.iconst 0, 1) := by decide +kernel
theorem dX4_nextOne_25 : decode cX4_nextOne 25 = .ok (.istore_n 1, 1) := by decide +kernel
theorem dX4_nextOne_26 : decode cX4_nextOne 26 = .ok (.iconst (-1), 1) := by decide +kernel
theorem dX4_nextOne_27 : decode cX4_nextOne 27 = .ok (.istore_n 2, 1) := by decide +kernel
theorem dX4_nextOne_28 : decode cX4_nextOne 28 = .ok (.lconst 0, 1) := by decide +kernel
theorem dX4_nextOne_29 : decode cX4_nextOne 29 = .ok (.lstore_n 3, 1) := by decide +kernel
theorem dX4_nextOne_30 : decode cX4_nextOne 30 = .ok (.iconst 0, 1) := by decide +kernel
theorem dX4_nextOne_31 : decode cX4_nextOne 31 = .ok (.istore 5, 2) := by decide +kernel
theorem dX4_nextOne_33 : decode cX4_nextOne 33 = .ok (.iload 5, 2) := by decide +kernel
theorem dX4_nextOne_35 : decode cX4_nextOne 35 = .ok (.aload_n 0, 1) := by decide +kernel
theorem dX4_nextOne_36 : decode cX4_nextOne 36 = .ok (.getfield 20, 3) := by decide +kernel
theorem dX4_nextOne_39 : decode cX4_nextOne 39 = .ok (.if_icmp .ge 52, 3) := by decide +kernel
theorem dX4_nextOne_42 : decode cX4_nextOne 42 = .ok (.iload_n 1, 1) := by decide +kernel
theorem dX4_nextOne_43 : decode cX4_nextOne 43 = .ok (.ifCond .ne 16, 3) := by decide +kernel
theorem dX4_nextOne_46 : decode cX4_nextOne 46 = .ok (.aload_n 0, 1) := by decide +kernel
theorem dX4_nextOne_47 : decode cX4_nextOne 47 = .ok (.getfield 14, 3) := by decide +kernel
theorem dX4_nextOne_50 : decode cX4_nextOne 50 = .ok (.iload 5, 2) := by decide +kernel
theorem dX4_nextOne_52 : decode cX4_nextOne 52 = .ok (.iconst 3, 1) := by decide +kernel
theorem dX4_nextOne_53 : decode cX4_nextOne 53 = .ok (.invokevirtual 28, 3) := by decide +kernel
theorem dX4_nextOne_56 : decode cX4_nextOne 56 = .ok (.ifCond .ne 29, 3) := by decide +kernel
theorem dX4_nextOne_59 : decode cX4_nextOne 59 = .ok (.aload_n 0, 1) := by decide +kernel
theorem dX4_nextOne_60 : decode cX4_nextOne 60 = .ok (.iload 5, 2) := by decide +kernel
theorem dX4_nextOne_62 : decode cX4_nextOne 62 = .ok (.invokevirtual 46, 3) := by decide +kernel
theorem dX4_nextOne_65 : decode cX4_nextOne 65 = .ok (.lstore 6, 2) := by decide +kernel
theorem dX4_nextOne_67 : decode cX4_nextOne 67 = .ok (.iload_n 2, 1) := by decide +kernel
theorem dX4_nextOne_68 : decode cX4_nextOne 68 = .ok (.iconst (-1), 1) := by decide +kernel
theorem dX4_nextOne_69 : decode cX4_nextOne 69 = .ok (.if_icmp .eq 10, 3) := by decide +kernel
theorem dX4_nextOne_72 : decode cX4_nextOne 72 = .ok (.lload 6, 2) := by decide +kernel
theorem dX4_nextOne_74 : decode cX4_nextOne 74 = .ok (.lload_n 3, 1) := by decide +kernel
theorem dX4_nextOne_75 : decode cX4_nextOne 75 = .ok (.lcmp, 1) := by decide +kernel
theorem dX4_nextOne_76 : decode cX4_nextOne 76 = .ok (.ifCond .le 9, 3) := by decide +kernel
theorem dX4_nextOne_79 : decode cX4_nextOne 79 = .ok (.iload 5, 2) := by decide +kernel
theorem dX4_nextOne_81 : decode cX4_nextOne 81 = .ok (.istore_n 2, 1) := by decide +kernel
theorem dX4_nextOne_82 : decode cX4_nextOne 82 = .ok (.lload 6, 2) := by decide +kernel
theorem dX4_nextOne_84 : decode cX4_nextOne 84 = .ok (.lstore_n 3, 1) := by decide +kernel
theorem dX4_nextOne_85 : decode cX4_nextOne 85 = .ok (.iinc 5 1, 3) := by decide +kernel
theorem dX4_nextOne_88 : decode cX4_nextOne 88 = .ok (.goto (-55), 3) := by decide +kernel
theorem dX4_nextOne_91 : decode cX4_nextOne 91 = .ok (.iload_n 2, 1) := by decide +kernel
theorem dX4_nextOne_92 : decode cX4_nextOne 92 = .ok (.ireturn, 1) := by decide +kernel
theorem dX4_takerOf_0 : decode cX4_takerOf 0 = .ok (.bipush 8, 2) := by decide +kernel
theorem dX4_takerOf_2 : decode cX4_takerOf 2 = .ok (.istore_n 3, 1) := by decide +kernel
theorem dX4_takerOf_3 : decode cX4_takerOf 3 = .ok (.bipush 17, 2) := by decide +kernel
theorem dX4_takerOf_5 : decode cX4_takerOf 5 = .ok (.istore 4, 2) := by decide +kernel
theorem dX4_takerOf_7 : decode cX4_takerOf 7 = .ok (.iconst 0, 1) := by decide +kernel
theorem dX4_takerOf_8 : decode cX4_takerOf 8 = .ok (.istore 5, 2) := by decide +kernel
theorem dX4_takerOf_10 : decode cX4_takerOf 10 = .ok (.iload 5, 2) := by decide +kernel
theorem dX4_takerOf_12 : decode cX4_takerOf 12 = .ok (.aload_n 0, 1) := by decide +kernel
theorem dX4_takerOf_13 : decode cX4_takerOf 13 = .ok (.getfield 20, 3) := by decide +kernel
theorem dX4_takerOf_16 : decode cX4_takerOf 16 = .ok (.if_icmp .ge 78, 3) := by decide +kernel
theorem dX4_takerOf_19 : decode cX4_takerOf 19 = .ok (.aload_n 0, 1) := by decide +kernel
theorem dX4_takerOf_20 : decode cX4_takerOf 20 = .ok (.getfield 14, 3) := by decide +kernel
theorem dX4_takerOf_23 : decode cX4_takerOf 23 = .ok (.iload 5, 2) := by decide +kernel
theorem dX4_takerOf_25 : decode cX4_takerOf 25 = .ok (.iconst 0, 1) := by decide +kernel
theorem dX4_takerOf_26 : decode cX4_takerOf 26 = .ok (.invokevirtual 28, 3) := by decide +kernel
theorem dX4_takerOf_29 : decode cX4_takerOf 29 = .ok (.istore 6, 2) := by decide +kernel
theorem dX4_takerOf_31 : decode cX4_takerOf 31 = .ok (.iload_n 2, 1) := by decide +kernel
theorem dX4_takerOf_32 : decode cX4_takerOf 32 = .ok (.iload 5, 2) := by decide +kernel
theorem dX4_takerOf_34 : decode cX4_takerOf 34 = .ok (.ishr, 1) := by decide +kernel
theorem dX4_takerOf_35 : decode cX4_takerOf 35 = .ok (.iconst 1, 1) := by decide +kernel
theorem dX4_takerOf_36 : decode cX4_takerOf 36 = .ok (.iand, 1) := by decide +kernel
theorem dX4_takerOf_37 : decode cX4_takerOf 37 = .ok (.iconst 1, 1) := by decide +kernel
theorem dX4_takerOf_38 : decode cX4_takerOf 38 = .ok (.if_icmp .ne 50, 3) := by decide +kernel
theorem dX4_takerOf_41 : decode cX4_takerOf 41 = .ok (.iload 6, 2) := by decide +kernel
theorem dX4_takerOf_43 : decode cX4_takerOf 43 = .ok (.iload_n 1, 1) := by decide +kernel
theorem dX4_takerOf_44 : decode cX4_takerOf 44 = .ok (.invokestatic 50, 3) := by decide +kernel
theorem dX4_takerOf_47 : decode cX4_takerOf 47 = .ok (.ifCond .eq 41, 3) := by decide +kernel
theorem dX4_takerOf_50 : decode cX4_takerOf 50 = .ok (.iload 6, 2) := by decide +kernel
theorem dX4_takerOf_52 : decode cX4_takerOf 52 = .ok (.iload_n 1, 1) := by decide +kernel
theorem dX4_takerOf_53 : decode cX4_takerOf 53 = .ok (.iconst (-1), 1) := by decide +kernel
theorem dX4_takerOf_54 : decode cX4_takerOf 54 = .ok (.ixor, 1) := by decide +kernel
theorem dX4_takerOf_55 : decode cX4_takerOf 55 = .ok (.iand, 1) := by decide +kernel
theorem dX4_takerOf_56 : decode cX4_takerOf 56 = .ok (.invokestatic 54, 3) := by decide +kernel
theorem dX4_takerOf_59 : decode cX4_takerOf 59 = .ok (.istore 7, 2) := by decide +kernel
theorem dX4_takerOf_61 : decode cX4_takerOf 61 = .ok (.iload 7, 2) := by decide +kernel
theorem dX4_takerOf_63 : decode cX4_takerOf 63 = .ok (.iload 4, 2) := by decide +kernel
theorem dX4_takerOf_65 : decode cX4_takerOf 65 = .ok (.if_icmp .ge 13, 3) := by decide +kernel
theorem dX4_takerOf_68 : decode cX4_takerOf 68 = .ok (.iload 7, 2) := by decide +kernel
theorem dX4_takerOf_70 : decode cX4_takerOf 70 = .ok (.istore 4, 2) := by decide +kernel
theorem dX4_takerOf_72 : decode cX4_takerOf 72 = .ok (.iload 5, 2) := by decide +kernel
theorem dX4_takerOf_74 : decode cX4_takerOf 74 = .ok (.istore_n 3, 1) := by decide +kernel
theorem dX4_takerOf_75 : decode cX4_takerOf 75 = .ok (.goto 13, 3) := by decide +kernel
theorem dX4_takerOf_78 : decode cX4_takerOf 78 = .ok (.iload 7, 2) := by decide +kernel
theorem dX4_takerOf_80 : decode cX4_takerOf 80 = .ok (.iload 4, 2) := by decide +kernel
theorem dX4_takerOf_82 : decode cX4_takerOf 82 = .ok (.if_icmp .ne 6, 3) := by decide +kernel
theorem dX4_takerOf_85 : decode cX4_takerOf 85 = .ok (.bipush 8, 2) := by decide +kernel
theorem dX4_takerOf_87 : decode cX4_takerOf 87 = .ok (.istore_n 3, 1) := by decide +kernel
theorem dX4_takerOf_88 : decode cX4_takerOf 88 = .ok (.iinc 5 1, 3) := by decide +kernel
theorem dX4_takerOf_91 : decode cX4_takerOf 91 = .ok (.goto (-81), 3) := by decide +kernel
theorem dX4_takerOf_94 : decode cX4_takerOf 94 = .ok (.iload_n 3, 1) := by decide +kernel
theorem dX4_takerOf_95 : decode cX4_takerOf 95 = .ok (.ireturn, 1) := by decide +kernel
theorem dX4_likePairs_0 : decode cX4_likePairs 0 = .ok (.iconst 0, 1) := by decide +kernel
theorem dX4_likePairs_1 : decode cX4_likePairs 1 = .ok (.istore_n 1, 1) := by decide +kernel
theorem dX4_likePairs_2 : decode cX4_likePairs 2 = .ok (.iconst 0, 1) := by decide +kernel
theorem dX4_likePairs_3 : decode cX4_likePairs 3 = .ok (.istore_n 2, 1) := by decide +kernel
theorem dX4_likePairs_4 : decode cX4_likePairs 4 = .ok (.iload_n 2, 1) := by decide +kernel
theorem dX4_likePairs_5 : decode cX4_likePairs 5 = .ok (.aload_n 0, 1) := by decide +kernel
theorem dX4_likePairs_6 : decode cX4_likePairs 6 = .ok (.getfield 20, 3) := by decide +kernel
theorem dX4_likePairs_9 : decode cX4_likePairs 9 = .ok (.if_icmp .ge 54, 3) := by decide +kernel
theorem dX4_likePairs_12 : decode cX4_likePairs 12 = .ok (.iload_n 2, 1) := by decide +kernel
theorem dX4_likePairs_13 : decode cX4_likePairs 13 = .ok (.iconst 1, 1) := by decide +kernel
theorem dX4_likePairs_14 : decode cX4_likePairs 14 = .ok (.iadd, 1) := by decide +kernel
theorem dX4_likePairs_15 : decode cX4_likePairs 15 = .ok (.istore_n 3, 1) := by decide +kernel
theorem dX4_likePairs_16 : decode cX4_likePairs 16 = .ok (.iload_n 3, 1) := by decide +kernel
theorem dX4_likePairs_17 : decode cX4_likePairs 17 = .ok (.aload_n 0, 1) := by decide +kernel
theorem dX4_likePairs_18 : decode cX4_likePairs 18 = .ok (.getfield 20, 3) := by decide +kernel
theorem dX4_likePairs_21 : decode cX4_likePairs 21 = .ok (.if_icmp .ge 36, 3) := by decide +kernel
theorem dX4_likePairs_24 : decode cX4_likePairs 24 = .ok (.aload_n 0, 1) := by decide +kernel
theorem dX4_likePairs_25 : decode cX4_likePairs 25 = .ok (.getfield 14, 3) := by decide +kernel
theorem dX4_likePairs_28 : decode cX4_likePairs 28 = .ok (.iload_n 2, 1) := by decide +kernel
theorem dX4_likePairs_29 : decode cX4_likePairs 29 = .ok (.iconst 0, 1) := by decide +kernel
theorem dX4_likePairs_30 : decode cX4_likePairs 30 = .ok (.invokevirtual 28, 3) := by decide +kernel
theorem dX4_likePairs_33 : decode cX4_likePairs 33 = .ok (.aload_n 0, 1) := by decide +kernel
theorem dX4_likePairs_34 : decode cX4_likePairs 34 = .ok (.getfield 14, 3) := by decide +kernel
theorem dX4_likePairs_37 : decode cX4_likePairs 37 = .ok (.iload_n 3, 1) := by decide +kernel
theorem dX4_likePairs_38 : decode cX4_likePairs 38 = .ok (.iconst 0, 1) := by decide +kernel
theorem dX4_likePairs_39 : decode cX4_likePairs 39 = .ok (.invokevirtual 28, 3) := by decide +kernel
theorem dX4_likePairs_42 : decode cX4_likePairs 42 = .ok (.invokestatic 60, 3) := by decide +kernel
theorem dX4_likePairs_45 : decode cX4_likePairs 45 = .ok (.ifCond .eq 6, 3) := by decide +kernel
theorem dX4_likePairs_48 : decode cX4_likePairs 48 = .ok (.iinc 1 1, 3) := by decide +kernel
theorem dX4_likePairs_51 : decode cX4_likePairs 51 = .ok (.iinc 3 1, 3) := by decide +kernel
theorem dX4_likePairs_54 : decode cX4_likePairs 54 = .ok (.goto (-38), 3) := by decide +kernel
theorem dX4_likePairs_57 : decode cX4_likePairs 57 = .ok (.iinc 2 1, 3) := by decide +kernel
theorem dX4_likePairs_60 : decode cX4_likePairs 60 = .ok (.goto (-56), 3) := by decide +kernel
theorem dX4_likePairs_63 : decode cX4_likePairs 63 = .ok (.iload_n 1, 1) := by decide +kernel
theorem dX4_likePairs_64 : decode cX4_likePairs 64 = .ok (.ireturn, 1) := by decide +kernel
theorem dX4_hasLike_0 : decode cX4_hasLike 0 = .ok (.iconst 0, 1) := by decide +kernel
theorem dX4_hasLike_1 : decode cX4_hasLike 1 = .ok (.istore_n 2, 1) := by decide +kernel
theorem dX4_hasLike_2 : decode cX4_hasLike 2 = .ok (.iload_n 2, 1) := by decide +kernel
theorem dX4_hasLike_3 : decode cX4_hasLike 3 = .ok (.aload_n 0, 1) := by decide +kernel
theorem dX4_hasLike_4 : decode cX4_hasLike 4 = .ok (.getfield 20, 3) := by decide +kernel
theorem dX4_hasLike_7 : decode cX4_hasLike 7 = .ok (.if_icmp .ge 27, 3) := by decide +kernel
theorem dX4_hasLike_10 : decode cX4_hasLike 10 = .ok (.iload_n 1, 1) := by decide +kernel
theorem dX4_hasLike_11 : decode cX4_hasLike 11 = .ok (.aload_n 0, 1) := by decide +kernel
theorem dX4_hasLike_12 : decode cX4_hasLike 12 = .ok (.getfield 14, 3) := by decide +kernel
theorem dX4_hasLike_15 : decode cX4_hasLike 15 = .ok (.iload_n 2, 1) := by decide +kernel
theorem dX4_hasLike_16 : decode cX4_hasLike 16 = .ok (.iconst 0, 1) := by decide +kernel
theorem dX4_hasLike_17 : decode cX4_hasLike 17 = .ok (.invokevirtual 28, 3) := by decide +kernel
theorem dX4_hasLike_20 : decode cX4_hasLike 20 = .ok (.invokestatic 60, 3) := by decide +kernel
theorem dX4_hasLike_23 : decode cX4_hasLike 23 = .ok (.ifCond .eq 5, 3) := by decide +kernel
theorem dX4_hasLike_26 : decode cX4_hasLike 26 = .ok (.iconst 1, 1) := by decide +kernel
theorem dX4_hasLike_27 : decode cX4_hasLike 27 = .ok (.ireturn, 1) := by decide +kernel
theorem dX4_hasLike_28 : decode cX4_hasLike 28 = .ok (.iinc 2 1, 3) := by decide +kernel
theorem dX4_hasLike_31 : decode cX4_hasLike 31 = .ok (.goto (-29), 3) := by decide +kernel
theorem dX4_hasLike_34 : decode cX4_hasLike 34 = .ok (.iconst 0, 1) := by decide +kernel
theorem dX4_hasLike_35 : decode cX4_hasLike 35 = .ok (.ireturn, 1) := by decide +kernel
theorem dX4_alike_0 : decode cX4_alike 0 = .ok (.iload_n 0, 1) := by decide +kernel
theorem dX4_alike_1 : decode cX4_alike 1 = .ok (.iload_n 1, 1) := by decide +kernel
theorem dX4_alike_2 : decode cX4_alike 2 = .ok (.invokestatic 50, 3) := by decide +kernel
theorem dX4_alike_5 : decode cX4_alike 5 = .ok (.ifCond .ne 11, 3) := by decide +kernel
theorem dX4_alike_8 : decode cX4_alike 8 = .ok (.iload_n 1, 1) := by decide +kernel
theorem dX4_alike_9 : decode cX4_alike 9 = .ok (.iload_n 0, 1) := by decide +kernel
theorem dX4_alike_10 : decode cX4_alike 10 = .ok (.invokestatic 50, 3) := by decide +kernel
theorem dX4_alike_13 : decode cX4_alike 13 = .ok (.ifCond .eq 7, 3) := by decide +kernel
theorem dX4_alike_16 : decode cX4_alike 16 = .ok (.iconst 1, 1) := by decide +kernel
theorem dX4_alike_17 : decode cX4_alike 17 = .ok (.goto 4, 3) := by decide +kernel
theorem dX4_alike_20 : decode cX4_alike 20 = .ok (.iconst 0, 1) := by decide +kernel
theorem dX4_alike_21 : decode cX4_alike 21 = .ok (.ireturn, 1) := by decide +kernel
theorem dX5_init_0 : decode cX5_init 0 = .ok (.aload_n 0, 1) := by decide +kernel
theorem dX5_init_1 : decode cX5_init 1 = .ok (.invokespecial 3, 3) := by decide +kernel
theorem dX5_init_4 : decode cX5_init 4 = .ok (.aload_n 0, 1) := by decide +kernel
theorem dX5_init_5 : decode cX5_init 5 = .ok (.new 9, 3) := by decide +kernel
theorem dX5_init_8 : decode cX5_init 8 = .ok (.dup, 1) := by decide +kernel
theorem dX5_init_9 : decode cX5_init 9 = .ok (.iconst 5, 1) := by decide +kernel
theorem dX5_init_10 : decode cX5_init 10 = .ok (.bipush 20, 2) := by decide +kernel
theorem dX5_init_12 : decode cX5_init 12 = .ok (.invokespecial 11, 3) := by decide +kernel
theorem dX5_init_15 : decode cX5_init 15 = .ok (.putfield 14, 3) := by decide +kernel
theorem dX5_init_18 : decode cX5_init 18 = .ok (.return_, 1) := by decide +kernel
theorem dX5_copyFrom_0 : decode cX5_copyFrom 0 = .ok (.aload_n 0, 1) := by decide +kernel
theorem dX5_copyFrom_1 : decode cX5_copyFrom 1 = .ok (.getfield 14, 3) := by decide +kernel
theorem dX5_copyFrom_4 : decode cX5_copyFrom 4 = .ok (.aload_n 1, 1) := by decide +kernel
theorem dX5_copyFrom_5 : decode cX5_copyFrom 5 = .ok (.getfield 14, 3) := by decide +kernel
theorem dX5_copyFrom_8 : decode cX5_copyFrom 8 = .ok (.aload_n 1, 1) := by decide +kernel
theorem dX5_copyFrom_9 : decode cX5_copyFrom 9 = .ok (.getfield 20, 3) := by decide +kernel
theorem dX5_copyFrom_12 : decode cX5_copyFrom 12 = .ok (.invokevirtual 24, 3) := by decide +kernel
theorem dX5_copyFrom_15 : decode cX5_copyFrom 15 = .ok (.aload_n 0, 1) := by decide +kernel
theorem dX5_copyFrom_16 : decode cX5_copyFrom 16 = .ok (.aload_n 1, 1) := by decide +kernel
theorem dX5_copyFrom_17 : decode cX5_copyFrom 17 = .ok (.getfield 20, 3) := by decide +kernel
theorem dX5_copyFrom_20 : decode cX5_copyFrom 20 = .ok (.putfield 20, 3) := by decide +kernel
theorem dX5_copyFrom_23 : decode cX5_copyFrom 23 = .ok (.return_, 1) := by decide +kernel
theorem dX5_size_0 : decode cX5_size 0 = .ok (.aload_n 0, 1) := by decide +kernel
theorem dX5_size_1 : decode cX5_size 1 = .ok (.getfield 20, 3) := by decide +kernel
theorem dX5_size_4 : decode cX5_size 4 = .ok (.ireturn, 1) := by decide +kernel
theorem dX5_value_0 : decode cX5_value 0 = .ok (.aload_n 0, 1) := by decide +kernel
theorem dX5_value_1 : decode cX5_value 1 = .ok (.getfield 14, 3) := by decide +kernel
theorem dX5_value_4 : decode cX5_value 4 = .ok (.iload_n 1, 1) := by decide +kernel
theorem dX5_value_5 : decode cX5_value 5 = .ok (.iload_n 2, 1) := by decide +kernel
theorem dX5_value_6 : decode cX5_value 6 = .ok (.invokevirtual 28, 3) := by decide +kernel
theorem dX5_value_9 : decode cX5_value 9 = .ok (.ireturn, 1) := by decide +kernel
theorem dX5_clear_0 : decode cX5_clear 0 = .ok (.aload_n 0, 1) := by decide +kernel
theorem dX5_clear_1 : decode cX5_clear 1 = .ok (.iconst 0, 1) := by decide +kernel
theorem dX5_clear_2 : decode cX5_clear 2 = .ok (.putfield 20, 3) := by decide +kernel
theorem dX5_clear_5 : decode cX5_clear 5 = .ok (.return_, 1) := by decide +kernel
theorem dX5_add_0 : decode cX5_add 0 = .ok (.aload_n 0, 1) := by decide +kernel
theorem dX5_add_1 : decode cX5_add 1 = .ok (.getfield 14, 3) := by decide +kernel
theorem dX5_add_4 : decode cX5_add 4 = .ok (.aload_n 0, 1) := by decide +kernel
theorem dX5_add_5 : decode cX5_add 5 = .ok (.getfield 20, 3) := by decide +kernel
theorem dX5_add_8 : decode cX5_add 8 = .ok (.iconst 0, 1) := by decide +kernel
theorem dX5_add_9 : decode cX5_add 9 = .ok (.iload_n 1, 1) := by decide +kernel
theorem dX5_add_10 : decode cX5_add 10 = .ok (.invokevirtual 32, 3) := by decide +kernel
theorem dX5_add_13 : decode cX5_add 13 = .ok (.aload_n 0, 1) := by decide +kernel
theorem dX5_add_14 : decode cX5_add 14 = .ok (.getfield 14, 3) := by decide +kernel
theorem dX5_add_17 : decode cX5_add 17 = .ok (.aload_n 0, 1) := by decide +kernel
theorem dX5_add_18 : decode cX5_add 18 = .ok (.getfield 20, 3) := by decide +kernel
theorem dX5_add_21 : decode cX5_add 21 = .ok (.iconst 1, 1) := by decide +kernel
theorem dX5_add_22 : decode cX5_add 22 = .ok (.iload_n 2, 1) := by decide +kernel
theorem dX5_add_23 : decode cX5_add 23 = .ok (.invokevirtual 32, 3) := by decide +kernel
theorem dX5_add_26 : decode cX5_add 26 = .ok (.aload_n 0, 1) := by decide +kernel
theorem dX5_add_27 : decode cX5_add 27 = .ok (.getfield 14, 3) := by decide +kernel
theorem dX5_add_30 : decode cX5_add 30 = .ok (.aload_n 0, 1) := by decide +kernel
theorem dX5_add_31 : decode cX5_add 31 = .ok (.getfield 20, 3) := by decide +kernel
theorem dX5_add_34 : decode cX5_add 34 = .ok (.iconst 2, 1) := by decide +kernel
theorem dX5_add_35 : decode cX5_add 35 = .ok (.iload_n 3, 1) := by decide +kernel
theorem dX5_add_36 : decode cX5_add 36 = .ok (.invokevirtual 32, 3) := by decide +kernel
theorem dX5_add_39 : decode cX5_add 39 = .ok (.aload_n 0, 1) := by decide +kernel
theorem dX5_add_40 : decode cX5_add 40 = .ok (.getfield 14, 3) := by decide +kernel
theorem dX5_add_43 : decode cX5_add 43 = .ok (.aload_n 0, 1) := by decide +kernel
theorem dX5_add_44 : decode cX5_add 44 = .ok (.getfield 20, 3) := by decide +kernel
theorem dX5_add_47 : decode cX5_add 47 = .ok (.iconst 3, 1) := by decide +kernel
theorem dX5_add_48 : decode cX5_add 48 = .ok (.iload 4, 2) := by decide +kernel
theorem dX5_add_50 : decode cX5_add 50 = .ok (.invokevirtual 32, 3) := by decide +kernel
theorem dX5_add_53 : decode cX5_add 53 = .ok (.aload_n 0, 1) := by decide +kernel
theorem dX5_add_54 : decode cX5_add 54 = .ok (.getfield 14, 3) := by decide +kernel
theorem dX5_add_57 : decode cX5_add 57 = .ok (.aload_n 0, 1) := by decide +kernel
theorem dX5_add_58 : decode cX5_add 58 = .ok (.getfield 20, 3) := by decide +kernel
theorem dX5_add_61 : decode cX5_add 61 = .ok (.iconst 4, 1) := by decide +kernel
theorem dX5_add_62 : decode cX5_add 62 = .ok (.iload 5, 2) := by decide +kernel
theorem dX5_add_64 : decode cX5_add 64 = .ok (.invokevirtual 32, 3) := by decide +kernel
theorem dX5_add_67 : decode cX5_add 67 = .ok (.aload_n 0, 1) := by decide +kernel
theorem dX5_add_68 : decode cX5_add 68 = .ok (.dup, 1) := by decide +kernel
theorem dX5_add_69 : decode cX5_add 69 = .ok (.getfield 20, 3) := by decide +kernel
theorem dX5_add_72 : decode cX5_add 72 = .ok (.iconst 1, 1) := by decide +kernel
theorem dX5_add_73 : decode cX5_add 73 = .ok (.iadd, 1) := by decide +kernel
theorem dX5_add_74 : decode cX5_add 74 = .ok (.putfield 20, 3) := by decide +kernel
theorem dX5_add_77 : decode cX5_add 77 = .ok (.return_, 1) := by decide +kernel
theorem dX6_init_0 : decode cX6_init 0 = .ok (.aload_n 0, 1) := by decide +kernel
theorem dX6_init_1 : decode cX6_init 1 = .ok (.invokespecial 3, 3) := by decide +kernel
theorem dX6_init_4 : decode cX6_init 4 = .ok (.aload_n 0, 1) := by decide +kernel
theorem dX6_init_5 : decode cX6_init 5 = .ok (.new 9, 3) := by decide +kernel
theorem dX6_init_8 : decode cX6_init 8 = .ok (.dup, 1) := by decide +kernel
theorem dX6_init_9 : decode cX6_init 9 = .ok (.bipush 7, 2) := by decide +kernel
theorem dX6_init_11 : decode cX6_init 11 = .ok (.sipush 200, 3) := by decide +kernel
theorem dX6_init_14 : decode cX6_init 14 = .ok (.invokespecial 13, 3) := by decide +kernel
theorem dX6_init_17 : decode cX6_init 17 = .ok (.putfield 16, 3) := by decide +kernel
theorem dX6_init_20 : decode cX6_init 20 = .ok (.return_, 1) := by decide +kernel
theorem dX6_copyFrom_0 : decode cX6_copyFrom 0 = .ok (.aload_n 0, 1) := by decide +kernel
theorem dX6_copyFrom_1 : decode cX6_copyFrom 1 = .ok (.getfield 16, 3) := by decide +kernel
theorem dX6_copyFrom_4 : decode cX6_copyFrom 4 = .ok (.aload_n 1, 1) := by decide +kernel
theorem dX6_copyFrom_5 : decode cX6_copyFrom 5 = .ok (.getfield 16, 3) := by decide +kernel
theorem dX6_copyFrom_8 : decode cX6_copyFrom 8 = .ok (.aload_n 1, 1) := by decide +kernel
theorem dX6_copyFrom_9 : decode cX6_copyFrom 9 = .ok (.invokevirtual 20, 3) := by decide +kernel
theorem dX6_copyFrom_12 : decode cX6_copyFrom 12 = .ok (.invokevirtual 24, 3) := by decide +kernel
theorem dX6_copyFrom_15 : decode cX6_copyFrom 15 = .ok (.aload_n 0, 1) := by decide +kernel
theorem dX6_copyFrom_16 : decode cX6_copyFrom 16 = .ok (.aload_n 1, 1) := by decide +kernel
theorem dX6_copyFrom_17 : decode cX6_copyFrom 17 = .ok (.getfield 28, 3) := by decide +kernel
theorem dX6_copyFrom_20 : decode cX6_copyFrom 20 = .ok (.putfield 28, 3) := by decide +kernel
theorem dX6_copyFrom_23 : decode cX6_copyFrom 23 = .ok (.aload_n 0, 1) := by decide +kernel
theorem dX6_copyFrom_24 : decode cX6_copyFrom 24 = .ok (.aload_n 1, 1) := by decide +kernel
theorem dX6_copyFrom_25 : decode cX6_copyFrom 25 = .ok (.getfield 32, 3) := by decide +kernel
theorem dX6_copyFrom_28 : decode cX6_copyFrom 28 = .ok (.putfield 32, 3) := by decide +kernel
theorem dX6_copyFrom_31 : decode cX6_copyFrom 31 = .ok (.return_, 1) := by decide +kernel
theorem dX6_cameOut_0 : decode cX6_cameOut 0 = .ok (.aload_n 0, 1) := by decide +kernel
theorem dX6_cameOut_1 : decode cX6_cameOut 1 = .ok (.getfield 28, 3) := by decide +kernel
theorem dX6_cameOut_4 : decode cX6_cameOut 4 = .ok (.ireturn, 1) := by decide +kernel
theorem dX6_pale_0 : decode cX6_pale 0 = .ok (.aload_n 0, 1) := by decide +kernel
theorem dX6_pale_1 : decode cX6_pale 1 = .ok (.getfield 32, 3) := by decide +kernel
theorem dX6_pale_4 : decode cX6_pale 4 = .ok (.ireturn, 1) := by decide +kernel
theorem dX6_kept_0 : decode cX6_kept 0 = .ok (.aload_n 0, 1) := by decide +kernel
theorem dX6_kept_1 : decode cX6_kept 1 = .ok (.getfield 28, 3) := by decide +kernel
theorem dX6_kept_4 : decode cX6_kept 4 = .ok (.sipush 200, 3) := by decide +kernel
theorem dX6_kept_7 : decode cX6_kept 7 = .ok (.invokestatic 35, 3) := by decide +kernel
theorem dX6_kept_10 : decode cX6_kept 10 = .ok (.ireturn, 1) := by decide +kernel
theorem dX6_firstKept_0 : decode cX6_firstKept 0 = .ok (.aload_n 0, 1) := by decide +kernel
theorem dX6_firstKept_1 : decode cX6_firstKept 1 = .ok (.getfield 28, 3) := by decide +kernel
theorem dX6_firstKept_4 : decode cX6_firstKept 4 = .ok (.aload_n 0, 1) := by decide +kernel
theorem dX6_firstKept_5 : decode cX6_firstKept 5 = .ok (.invokevirtual 20, 3) := by decide +kernel
theorem dX6_firstKept_8 : decode cX6_firstKept 8 = .ok (.isub, 1) := by decide +kernel
theorem dX6_firstKept_9 : decode cX6_firstKept 9 = .ok (.ireturn, 1) := by decide +kernel
theorem dX6_keeps_0 : decode cX6_keeps 0 = .ok (.iload_n 1, 1) := by decide +kernel
theorem dX6_keeps_1 : decode cX6_keeps 1 = .ok (.aload_n 0, 1) := by decide +kernel
theorem dX6_keeps_2 : decode cX6_keeps 2 = .ok (.invokevirtual 41, 3) := by decide +kernel
theorem dX6_keeps_5 : decode cX6_keeps 5 = .ok (.if_icmp .lt 15, 3) := by decide +kernel
theorem dX6_keeps_8 : decode cX6_keeps 8 = .ok (.iload_n 1, 1) := by decide +kernel
theorem dX6_keeps_9 : decode cX6_keeps 9 = .ok (.aload_n 0, 1) := by decide +kernel
theorem dX6_keeps_10 : decode cX6_keeps 10 = .ok (.getfield 28, 3) := by decide +kernel
theorem dX6_keeps_13 : decode cX6_keeps 13 = .ok (.if_icmp .ge 7, 3) := by decide +kernel
theorem dX6_keeps_16 : decode cX6_keeps 16 = .ok (.iconst 1, 1) := by decide +kernel
theorem dX6_keeps_17 : decode cX6_keeps 17 = .ok (.goto 4, 3) := by decide +kernel
theorem dX6_keeps_20 : decode cX6_keeps 20 = .ok (.iconst 0, 1) := by decide +kernel
theorem dX6_keeps_21 : decode cX6_keeps 21 = .ok (.ireturn, 1) := by decide +kernel
theorem dX6_value_0 : decode cX6_value 0 = .ok (.aload_n 0, 1) := by decide +kernel
theorem dX6_value_1 : decode cX6_value 1 = .ok (.getfield 16, 3) := by decide +kernel
theorem dX6_value_4 : decode cX6_value 4 = .ok (.iload_n 1, 1) := by decide +kernel
theorem dX6_value_5 : decode cX6_value 5 = .ok (.sipush 200, 3) := by decide +kernel
theorem dX6_value_8 : decode cX6_value 8 = .ok (.irem, 1) := by decide +kernel
theorem dX6_value_9 : decode cX6_value 9 = .ok (.iload_n 2, 1) := by decide +kernel
theorem dX6_value_10 : decode cX6_value 10 = .ok (.invokevirtual 44, 3) := by decide +kernel
theorem dX6_value_13 : decode cX6_value 13 = .ok (.ireturn, 1) := by decide +kernel
theorem dX6_give_0 : decode cX6_give 0 = .ok (.aload_n 0, 1) := by decide +kernel
theorem dX6_give_1 : decode cX6_give 1 = .ok (.getfield 16, 3) := by decide +kernel
theorem dX6_give_4 : decode cX6_give 4 = .ok (.iload_n 1, 1) := by decide +kernel
theorem dX6_give_5 : decode cX6_give 5 = .ok (.sipush 200, 3) := by decide +kernel
theorem dX6_give_8 : decode cX6_give 8 = .ok (.irem, 1) := by decide +kernel
theorem dX6_give_9 : decode cX6_give 9 = .ok (.iconst 5, 1) := by decide +kernel
theorem dX6_give_10 : decode cX6_give 10 = .ok (.iload_n 2, 1) := by decide +kernel
theorem dX6_give_11 : decode cX6_give 11 = .ok (.invokevirtual 47, 3) := by decide +kernel
theorem dX6_give_14 : decode cX6_give 14 = .ok (.return_, 1) := by decide +kernel
theorem dX6_add_0 : decode cX6_add 0 = .ok (.aload_n 0, 1) := by decide +kernel
theorem dX6_add_1 : decode cX6_add 1 = .ok (.getfield 28, 3) := by decide +kernel
theorem dX6_add_4 : decode cX6_add 4 = .ok (.sipush 200, 3) := by decide +kernel
theorem dX6_add_7 : decode cX6_add 7 = .ok (.irem, 1) := by decide +kernel
theorem dX6_add_8 : decode cX6_add 8 = .ok (.istore 7, 2) := by decide +kernel
theorem dX6_add_10 : decode cX6_add 10 = .ok (.aload_n 0, 1) := by decide +kernel
theorem dX6_add_11 : decode cX6_add 11 = .ok (.getfield 16, 3) := by decide +kernel
theorem dX6_add_14 : decode cX6_add 14 = .ok (.iload 7, 2) := by decide +kernel
theorem dX6_add_16 : decode cX6_add 16 = .ok (.iconst 0, 1) := by decide +kernel
theorem dX6_add_17 : decode cX6_add 17 = .ok (.iload_n 1, 1) := by decide +kernel
theorem dX6_add_18 : decode cX6_add 18 = .ok (.invokevirtual 47, 3) := by decide +kernel
theorem dX6_add_21 : decode cX6_add 21 = .ok (.aload_n 0, 1) := by decide +kernel
theorem dX6_add_22 : decode cX6_add 22 = .ok (.getfield 16, 3) := by decide +kernel
theorem dX6_add_25 : decode cX6_add 25 = .ok (.iload 7, 2) := by decide +kernel
theorem dX6_add_27 : decode cX6_add 27 = .ok (.iconst 1, 1) := by decide +kernel
theorem dX6_add_28 : decode cX6_add 28 = .ok (.iload_n 2, 1) := by decide +kernel
theorem dX6_add_29 : decode cX6_add 29 = .ok (.invokevirtual 47, 3) := by decide +kernel
theorem dX6_add_32 : decode cX6_add 32 = .ok (.aload_n 0, 1) := by decide +kernel
theorem dX6_add_33 : decode cX6_add 33 = .ok (.getfield 16, 3) := by decide +kernel
theorem dX6_add_36 : decode cX6_add 36 = .ok (.iload 7, 2) := by decide +kernel
theorem dX6_add_38 : decode cX6_add 38 = .ok (.iconst 2, 1) := by decide +kernel
theorem dX6_add_39 : decode cX6_add 39 = .ok (.iload_n 3, 1) := by decide +kernel
theorem dX6_add_40 : decode cX6_add 40 = .ok (.invokevirtual 47, 3) := by decide +kernel
theorem dX6_add_43 : decode cX6_add 43 = .ok (.aload_n 0, 1) := by decide +kernel
theorem dX6_add_44 : decode cX6_add 44 = .ok (.getfield 16, 3) := by decide +kernel
theorem dX6_add_47 : decode cX6_add 47 = .ok (.iload 7, 2) := by decide +kernel
theorem dX6_add_49 : decode cX6_add 49 = .ok (.iconst 3, 1) := by decide +kernel
theorem dX6_add_50 : decode cX6_add 50 = .ok (.iload 4, 2) := by decide +kernel
theorem dX6_add_52 : decode cX6_add 52 = .ok (.ifCond .eq 7, 3) := by decide +kernel
theorem dX6_add_55 : decode cX6_add 55 = .ok (.iconst 1, 1) := by decide +kernel
theorem dX6_add_56 : decode cX6_add 56 = .ok (.goto 4, 3) := by decide +kernel
theorem dX6_add_59 : decode cX6_add 59 = .ok (.iconst 0, 1) := by decide +kernel
theorem dX6_add_60 : decode cX6_add 60 = .ok (.invokevirtual 47, 3) := by decide +kernel
theorem dX6_add_63 : decode cX6_add 63 = .ok (.aload_n 0, 1) := by decide +kernel
theorem dX6_add_64 : decode cX6_add 64 = .ok (.getfield 16, 3) := by decide +kernel
theorem dX6_add_67 : decode cX6_add 67 = .ok (.iload 7, 2) := by decide +kernel
theorem dX6_add_69 : decode cX6_add 69 = .ok (.iconst 4, 1) := by decide +kernel
theorem dX6_add_70 : decode cX6_add 70 = .ok (.iload 6, 2) := by decide +kernel
theorem dX6_add_72 : decode cX6_add 72 = .ok (.invokevirtual 47, 3) := by decide +kernel
theorem dX6_add_75 : decode cX6_add 75 = .ok (.aload_n 0, 1) := by decide +kernel
theorem dX6_add_76 : decode cX6_add 76 = .ok (.getfield 16, 3) := by decide +kernel
theorem dX6_add_79 : decode cX6_add 79 = .ok (.iload 7, 2) := by decide +kernel
theorem dX6_add_81 : decode cX6_add 81 = .ok (.iconst 5, 1) := by decide +kernel
theorem dX6_add_82 : decode cX6_add 82 = .ok (.iconst (-1), 1) := by decide +kernel
theorem dX6_add_83 : decode cX6_add 83 = .ok (.invokevirtual 47, 3) := by decide +kernel
theorem dX6_add_86 : decode cX6_add 86 = .ok (.aload_n 0, 1) := by decide +kernel
theorem dX6_add_87 : decode cX6_add 87 = .ok (.getfield 16, 3) := by decide +kernel
theorem dX6_add_90 : decode cX6_add 90 = .ok (.iload 7, 2) := by decide +kernel
theorem dX6_add_92 : decode cX6_add 92 = .ok (.bipush 6, 2) := by decide +kernel
theorem dX6_add_94 : decode cX6_add 94 = .ok (.iload 5, 2) := by decide +kernel
theorem dX6_add_96 : decode cX6_add 96 = .ok (.iload 6, 2) := by decide +kernel
theorem dX6_add_98 : decode cX6_add 98 = .ok (.iconst (-1), 1) := by decide +kernel
theorem dX6_add_99 : decode cX6_add 99 = .ok (.ixor, 1) := by decide +kernel
theorem dX6_add_100 : decode cX6_add 100 = .ok (.iand, 1) := by decide +kernel
theorem dX6_add_101 : decode cX6_add 101 = .ok (.invokestatic 51, 3) := by decide +kernel
theorem dX6_add_104 : decode cX6_add 104 = .ok (.invokevirtual 47, 3) := by decide +kernel
theorem dX6_add_107 : decode cX6_add 107 = .ok (.aload_n 0, 1) := by decide +kernel
theorem dX6_add_108 : decode cX6_add 108 = .ok (.dup, 1) := by decide +kernel
theorem dX6_add_109 : decode cX6_add 109 = .ok (.getfield 28, 3) := by decide +kernel
theorem dX6_add_112 : decode cX6_add 112 = .ok (.iconst 1, 1) := by decide +kernel
theorem dX6_add_113 : decode cX6_add 113 = .ok (.iadd, 1) := by decide +kernel
theorem dX6_add_114 : decode cX6_add 114 = .ok (.putfield 28, 3) := by decide +kernel
theorem dX6_add_117 : decode cX6_add 117 = .ok (.iload 4, 2) := by decide +kernel
theorem dX6_add_119 : decode cX6_add 119 = .ok (.ifCond .eq 13, 3) := by decide +kernel
theorem dX6_add_122 : decode cX6_add 122 = .ok (.aload_n 0, 1) := by decide +kernel
theorem dX6_add_123 : decode cX6_add 123 = .ok (.dup, 1) := by decide +kernel
theorem dX6_add_124 : decode cX6_add 124 = .ok (.getfield 32, 3) := by decide +kernel
theorem dX6_add_127 : decode cX6_add 127 = .ok (.iconst 1, 1) := by decide +kernel
theorem dX6_add_128 : decode cX6_add 128 = .ok (.iadd, 1) := by decide +kernel
theorem dX6_add_129 : decode cX6_add 129 = .ok (.putfield 32, 3) := by decide +kernel
theorem dX6_add_132 : decode cX6_add 132 = .ok (.return_, 1) := by decide +kernel
theorem dX6_sortFrom_0 : decode cX6_sortFrom 0 = .ok (.iload_n 1, 1) := by decide +kernel
theorem dX6_sortFrom_1 : decode cX6_sortFrom 1 = .ok (.aload_n 0, 1) := by decide +kernel
theorem dX6_sortFrom_2 : decode cX6_sortFrom 2 = .ok (.invokevirtual 41, 3) := by decide +kernel
theorem dX6_sortFrom_5 : decode cX6_sortFrom 5 = .ok (.invokestatic 57, 3) := by decide +kernel
theorem dX6_sortFrom_8 : decode cX6_sortFrom 8 = .ok (.istore 4, 2) := by decide +kernel
theorem dX6_sortFrom_10 : decode cX6_sortFrom 10 = .ok (.iload 4, 2) := by decide +kernel
theorem dX6_sortFrom_12 : decode cX6_sortFrom 12 = .ok (.aload_n 0, 1) := by decide +kernel
theorem dX6_sortFrom_13 : decode cX6_sortFrom 13 = .ok (.getfield 28, 3) := by decide +kernel
theorem dX6_sortFrom_16 : decode cX6_sortFrom 16 = .ok (.if_icmp .ge 27, 3) := by decide +kernel
theorem dX6_sortFrom_19 : decode cX6_sortFrom 19 = .ok (.aload_n 0, 1) := by decide +kernel
theorem dX6_sortFrom_20 : decode cX6_sortFrom 20 = .ok (.iload 4, 2) := by decide +kernel
theorem dX6_sortFrom_22 : decode cX6_sortFrom 22 = .ok (.aload_n 2, 1) := by decide +kernel
theorem dX6_sortFrom_23 : decode cX6_sortFrom 23 = .ok (.aload_n 0, 1) := by decide +kernel
theorem dX6_sortFrom_24 : decode cX6_sortFrom 24 = .ok (.iload 4, 2) := by decide +kernel
theorem dX6_sortFrom_26 : decode cX6_sortFrom 26 = .ok (.iconst 4, 1) := by decide +kernel
theorem dX6_sortFrom_27 : decode cX6_sortFrom 27 = .ok (.invokevirtual 60, 3) := by decide +kernel
theorem dX6_sortFrom_30 : decode cX6_sortFrom 30 = .ok (.iload_n 3, 1) := by decide +kernel
theorem dX6_sortFrom_31 : decode cX6_sortFrom 31 = .ok (.invokevirtual 63, 3) := by decide +kernel
theorem dX6_sortFrom_34 : decode cX6_sortFrom 34 = .ok (.invokevirtual 68, 3) := by decide +kernel
theorem dX6_sortFrom_37 : decode cX6_sortFrom 37 = .ok (.iinc 4 1, 3) := by decide +kernel
theorem dX6_sortFrom_40 : decode cX6_sortFrom 40 = .ok (.goto (-30), 3) := by decide +kernel
theorem dX6_sortFrom_43 : decode cX6_sortFrom 43 = .ok (.return_, 1) := by decide +kernel
theorem dX6_countWith_0 : decode cX6_countWith 0 = .ok (.aload_n 0, 1) := by decide +kernel
theorem dX6_countWith_1 : decode cX6_countWith 1 = .ok (.getfield 16, 3) := by decide +kernel
theorem dX6_countWith_4 : decode cX6_countWith 4 = .ok (.aload_n 0, 1) := by decide +kernel
theorem dX6_countWith_5 : decode cX6_countWith 5 = .ok (.invokevirtual 20, 3) := by decide +kernel
theorem dX6_countWith_8 : decode cX6_countWith 8 = .ok (.iload_n 1, 1) := by decide +kernel
theorem dX6_countWith_9 : decode cX6_countWith 9 = .ok (.iload_n 2, 1) := by decide +kernel
theorem dX6_countWith_10 : decode cX6_countWith 10 = .ok (.invokevirtual 71, 3) := by decide +kernel
theorem dX6_countWith_13 : decode cX6_countWith 13 = .ok (.ireturn, 1) := by decide +kernel
theorem dX6_countWithBoth_0 : decode cX6_countWithBoth 0 = .ok (.aload_n 0, 1) := by decide +kernel
theorem dX6_countWithBoth_1 : decode cX6_countWithBoth 1 = .ok (.getfield 16, 3) := by decide +kernel
theorem dX6_countWithBoth_4 : decode cX6_countWithBoth 4 = .ok (.aload_n 0, 1) := by decide +kernel
theorem dX6_countWithBoth_5 : decode cX6_countWithBoth 5 = .ok (.invokevirtual 20, 3) := by decide +kernel
theorem dX6_countWithBoth_8 : decode cX6_countWithBoth 8 = .ok (.iload_n 1, 1) := by decide +kernel
theorem dX6_countWithBoth_9 : decode cX6_countWithBoth 9 = .ok (.iload_n 2, 1) := by decide +kernel
theorem dX6_countWithBoth_10 : decode cX6_countWithBoth 10 = .ok (.iload_n 3, 1) := by decide +kernel
theorem dX6_countWithBoth_11 : decode cX6_countWithBoth 11 = .ok (.iload 4, 2) := by decide +kernel
theorem dX6_countWithBoth_13 : decode cX6_countWithBoth 13 = .ok (.invokevirtual 75, 3) := by decide +kernel
theorem dX6_countWithBoth_16 : decode cX6_countWithBoth 16 = .ok (.ireturn, 1) := by decide +kernel
theorem dX6_countWithOthers_0 : decode cX6_countWithOthers 0 = .ok (.iconst 0, 1) := by decide +kernel
theorem dX6_countWithOthers_1 : decode cX6_countWithOthers 1 = .ok (.istore_n 1, 1) := by decide +kernel
theorem dX6_countWithOthers_2 : decode cX6_countWithOthers 2 = .ok (.iconst 0, 1) := by decide +kernel
theorem dX6_countWithOthers_3 : decode cX6_countWithOthers 3 = .ok (.istore_n 2, 1) := by decide +kernel
theorem dX6_countWithOthers_4 : decode cX6_countWithOthers 4 = .ok (.iload_n 2, 1) := by decide +kernel
theorem dX6_countWithOthers_5 : decode cX6_countWithOthers 5 = .ok (.aload_n 0, 1) := by decide +kernel
theorem dX6_countWithOthers_6 : decode cX6_countWithOthers 6 = .ok (.invokevirtual 20, 3) := by decide +kernel
theorem dX6_countWithOthers_9 : decode cX6_countWithOthers 9 = .ok (.if_icmp .ge 46, 3) := by decide +kernel
theorem dX6_countWithOthers_12 : decode cX6_countWithOthers 12 = .ok (.aload_n 0, 1) := by decide +kernel
theorem dX6_countWithOthers_13 : decode cX6_countWithOthers 13 = .ok (.getfield 16, 3) := by decide +kernel
theorem dX6_countWithOthers_16 : decode cX6_countWithOthers 16 = .ok (.iload_n 2, 1) := by decide +kernel
theorem dX6_countWithOthers_17 : decode cX6_countWithOthers 17 = .ok (.iconst 5, 1) := by decide +kernel
theorem dX6_countWithOthers_18 : decode cX6_countWithOthers 18 = .ok (.invokevirtual 44, 3) := by decide +kernel
theorem dX6_countWithOthers_21 : decode cX6_countWithOthers 21 = .ok (.istore_n 3, 1) := by decide +kernel
theorem dX6_countWithOthers_22 : decode cX6_countWithOthers 22 = .ok (.iload_n 3, 1) := by decide +kernel
theorem dX6_countWithOthers_23 : decode cX6_countWithOthers 23 = .ok (.iconst (-1), 1) := by decide +kernel
theorem dX6_countWithOthers_24 : decode cX6_countWithOthers 24 = .ok (.if_icmp .eq 25, 3) := by decide +kernel
theorem dX6_countWithOthers_27 : decode cX6_countWithOthers 27 = .ok (.iload_n 3, 1) := by decide +kernel
theorem dX6_countWithOthers_28 : decode cX6_countWithOthers 28 = .ok (.bipush 8, 2) := by decide +kernel
theorem dX6_countWithOthers_30 : decode cX6_countWithOthers 30 = .ok (.if_icmp .eq 19, 3) := by decide +kernel
theorem dX6_countWithOthers_33 : decode cX6_countWithOthers 33 = .ok (.iload_n 3, 1) := by decide +kernel
theorem dX6_countWithOthers_34 : decode cX6_countWithOthers 34 = .ok (.aload_n 0, 1) := by decide +kernel
theorem dX6_countWithOthers_35 : decode cX6_countWithOthers 35 = .ok (.getfield 16, 3) := by decide +kernel
theorem dX6_countWithOthers_38 : decode cX6_countWithOthers 38 = .ok (.iload_n 2, 1) := by decide +kernel
theorem dX6_countWithOthers_39 : decode cX6_countWithOthers 39 = .ok (.iconst 0, 1) := by decide +kernel
theorem dX6_countWithOthers_40 : decode cX6_countWithOthers 40 = .ok (.invokevirtual 44, 3) := by decide +kernel
theorem dX6_countWithOthers_43 : decode cX6_countWithOthers 43 = .ok (.if_icmp .eq 6, 3) := by decide +kernel
theorem dX6_countWithOthers_46 : decode cX6_countWithOthers 46 = .ok (.iinc 1 1, 3) := by decide +kernel
theorem dX6_countWithOthers_49 : decode cX6_countWithOthers 49 = .ok (.iinc 2 1, 3) := by decide +kernel
theorem dX6_countWithOthers_52 : decode cX6_countWithOthers 52 = .ok (.goto (-48), 3) := by decide +kernel
theorem dX6_countWithOthers_55 : decode cX6_countWithOthers 55 = .ok (.iload_n 1, 1) := by decide +kernel
theorem dX6_countWithOthers_56 : decode cX6_countWithOthers 56 = .ok (.ireturn, 1) := by decide +kernel
theorem dX6_balanceOf_0 : decode cX6_balanceOf 0 = .ok (.aload_n 0, 1) := by decide +kernel
theorem dX6_balanceOf_1 : decode cX6_balanceOf 1 = .ok (.iconst 1, 1) := by decide +kernel
theorem dX6_balanceOf_2 : decode cX6_balanceOf 2 = .ok (.iload_n 2, 1) := by decide +kernel
theorem dX6_balanceOf_3 : decode cX6_balanceOf 3 = .ok (.iconst 0, 1) := by decide +kernel
theorem dX6_balanceOf_4 : decode cX6_balanceOf 4 = .ok (.iload_n 1, 1) := by decide +kernel
theorem dX6_balanceOf_5 : decode cX6_balanceOf 5 = .ok (.invokevirtual 79, 3) := by decide +kernel
theorem dX6_balanceOf_8 : decode cX6_balanceOf 8 = .ok (.aload_n 0, 1) := by decide +kernel
theorem dX6_balanceOf_9 : decode cX6_balanceOf 9 = .ok (.iconst 1, 1) := by decide +kernel
theorem dX6_balanceOf_10 : decode cX6_balanceOf 10 = .ok (.iload_n 2, 1) := by decide +kernel
theorem dX6_balanceOf_11 : decode cX6_balanceOf 11 = .ok (.iconst 5, 1) := by decide +kernel
theorem dX6_balanceOf_12 : decode cX6_balanceOf 12 = .ok (.iload_n 1, 1) := by decide +kernel
theorem dX6_balanceOf_13 : decode cX6_balanceOf 13 = .ok (.invokevirtual 79, 3) := by decide +kernel
theorem dX6_balanceOf_16 : decode cX6_balanceOf 16 = .ok (.isub, 1) := by decide +kernel
theorem dX6_balanceOf_17 : decode cX6_balanceOf 17 = .ok (.ireturn, 1) := by decide +kernel
theorem dX6_moveFromShelf_0 : decode cX6_moveFromShelf 0 = .ok (.iconst 0, 1) := by decide +kernel
theorem dX6_moveFromShelf_1 : decode cX6_moveFromShelf 1 = .ok (.istore_n 3, 1) := by decide +kernel
theorem dX6_moveFromShelf_2 : decode cX6_moveFromShelf 2 = .ok (.iconst 0, 1) := by decide +kernel
theorem dX6_moveFromShelf_3 : decode cX6_moveFromShelf 3 = .ok (.istore 4, 2) := by decide +kernel
theorem dX6_moveFromShelf_5 : decode cX6_moveFromShelf 5 = .ok (.iload 4, 2) := by decide +kernel
theorem dX6_moveFromShelf_7 : decode cX6_moveFromShelf 7 = .ok (.iconst 3, 1) := by decide +kernel
theorem dX6_moveFromShelf_8 : decode cX6_moveFromShelf 8 = .ok (.if_icmp .ge 95, 3) := by decide +kernel
theorem dX6_moveFromShelf_11 : decode cX6_moveFromShelf 11 = .ok (.aload_n 0, 1) := by decide +kernel
theorem dX6_moveFromShelf_12 : decode cX6_moveFromShelf 12 = .ok (.iload_n 1, 1) := by decide +kernel
theorem dX6_moveFromShelf_13 : decode cX6_moveFromShelf 13 = .ok (.iload 4, 2) := by decide +kernel
theorem dX6_moveFromShelf_15 : decode cX6_moveFromShelf 15 = .ok (.invokevirtual 83, 3) := by decide +kernel
theorem dX6_moveFromShelf_18 : decode cX6_moveFromShelf 18 = .ok (.istore 5, 2) := by decide +kernel
theorem dX6_moveFromShelf_20 : decode cX6_moveFromShelf 20 = .ok (.aload_n 0, 1) := by decide +kernel
theorem dX6_moveFromShelf_21 : decode cX6_moveFromShelf 21 = .ok (.invokevirtual 41, 3) := by decide +kernel
theorem dX6_moveFromShelf_24 : decode cX6_moveFromShelf 24 = .ok (.istore 6, 2) := by decide +kernel
theorem dX6_moveFromShelf_26 : decode cX6_moveFromShelf 26 = .ok (.iload 6, 2) := by decide +kernel
theorem dX6_moveFromShelf_28 : decode cX6_moveFromShelf 28 = .ok (.aload_n 0, 1) := by decide +kernel
theorem dX6_moveFromShelf_29 : decode cX6_moveFromShelf 29 = .ok (.getfield 28, 3) := by decide +kernel
theorem dX6_moveFromShelf_32 : decode cX6_moveFromShelf 32 = .ok (.if_icmp .ge 65, 3) := by decide +kernel
theorem dX6_moveFromShelf_35 : decode cX6_moveFromShelf 35 = .ok (.iload 5, 2) := by decide +kernel
theorem dX6_moveFromShelf_37 : decode cX6_moveFromShelf 37 = .ok (.ifCond .le 60, 3) := by decide +kernel
theorem dX6_moveFromShelf_40 : decode cX6_moveFromShelf 40 = .ok (.aload_n 0, 1) := by decide +kernel
theorem dX6_moveFromShelf_41 : decode cX6_moveFromShelf 41 = .ok (.iload 6, 2) := by decide +kernel
theorem dX6_moveFromShelf_43 : decode cX6_moveFromShelf 43 = .ok (.iconst 1, 1) := by decide +kernel
theorem dX6_moveFromShelf_44 : decode cX6_moveFromShelf 44 = .ok (.invokevirtual 60, 3) := by decide +kernel
theorem dX6_moveFromShelf_47 : decode cX6_moveFromShelf 47 = .ok (.iload 4, 2) := by decide +kernel
theorem dX6_moveFromShelf_49 : decode cX6_moveFromShelf 49 = .ok (.if_icmp .ne 42, 3) := by decide +kernel
theorem dX6_moveFromShelf_52 : decode cX6_moveFromShelf 52 = .ok (.aload_n 0, 1) := by decide +kernel
theorem dX6_moveFromShelf_53 : decode cX6_moveFromShelf 53 = .ok (.iload 6, 2) := by decide +kernel
theorem dX6_moveFromShelf_55 : decode cX6_moveFromShelf 55 = .ok (.iconst 5, 1) := by decide +kernel
theorem dX6_moveFromShelf_56 : decode cX6_moveFromShelf 56 = .ok (.invokevirtual 60, 3) := by decide +kernel
theorem dX6_moveFromShelf_59 : decode cX6_moveFromShelf 59 = .ok (.bipush 8, 2) := by decide +kernel
theorem dX6_moveFromShelf_61 : decode cX6_moveFromShelf 61 = .ok (.if_icmp .ne 30, 3) := by decide +kernel
theorem dX6_moveFromShelf_64 : decode cX6_moveFromShelf 64 = .ok (.iload_n 2, 1) := by decide +kernel
theorem dX6_moveFromShelf_65 : decode cX6_moveFromShelf 65 = .ok (.aload_n 0, 1) := by decide +kernel
theorem dX6_moveFromShelf_66 : decode cX6_moveFromShelf 66 = .ok (.iload 6, 2) := by decide +kernel
theorem dX6_moveFromShelf_68 : decode cX6_moveFromShelf 68 = .ok (.iconst 4, 1) := by decide +kernel
theorem dX6_moveFromShelf_69 : decode cX6_moveFromShelf 69 = .ok (.invokevirtual 60, 3) := by decide +kernel
theorem dX6_moveFromShelf_72 : decode cX6_moveFromShelf 72 = .ok (.invokestatic 86, 3) := by decide +kernel
theorem dX6_moveFromShelf_75 : decode cX6_moveFromShelf 75 = .ok (.ifCond .eq 16, 3) := by decide +kernel
theorem dX6_moveFromShelf_78 : decode cX6_moveFromShelf 78 = .ok (.aload_n 0, 1) := by decide +kernel
theorem dX6_moveFromShelf_79 : decode cX6_moveFromShelf 79 = .ok (.iload 6, 2) := by decide +kernel
theorem dX6_moveFromShelf_81 : decode cX6_moveFromShelf 81 = .ok (.iload_n 1, 1) := by decide +kernel
theorem dX6_moveFromShelf_82 : decode cX6_moveFromShelf 82 = .ok (.invokevirtual 68, 3) := by decide +kernel
theorem dX6_moveFromShelf_85 : decode cX6_moveFromShelf 85 = .ok (.iinc 5 (-1), 3) := by decide +kernel
theorem dX6_moveFromShelf_88 : decode cX6_moveFromShelf 88 = .ok (.iinc 3 1, 3) := by decide +kernel
theorem dX6_moveFromShelf_91 : decode cX6_moveFromShelf 91 = .ok (.iinc 6 1, 3) := by decide +kernel
theorem dX6_moveFromShelf_94 : decode cX6_moveFromShelf 94 = .ok (.goto (-68), 3) := by decide +kernel
theorem dX6_moveFromShelf_97 : decode cX6_moveFromShelf 97 = .ok (.iinc 4 1, 3) := by decide +kernel
theorem dX6_moveFromShelf_100 : decode cX6_moveFromShelf 100 = .ok (.goto (-95), 3) := by decide +kernel
theorem dX6_moveFromShelf_103 : decode cX6_moveFromShelf 103 = .ok (.iload_n 3, 1) := by decide +kernel
theorem dX6_moveFromShelf_104 : decode cX6_moveFromShelf 104 = .ok (.ireturn, 1) := by decide +kernel
theorem dX6_moveToShelf_0 : decode cX6_moveToShelf 0 = .ok (.iconst 0, 1) := by decide +kernel
theorem dX6_moveToShelf_1 : decode cX6_moveToShelf 1 = .ok (.istore_n 2, 1) := by decide +kernel
theorem dX6_moveToShelf_2 : decode cX6_moveToShelf 2 = .ok (.iconst 0, 1) := by decide +kernel
theorem dX6_moveToShelf_3 : decode cX6_moveToShelf 3 = .ok (.istore_n 3, 1) := by decide +kernel
theorem dX6_moveToShelf_4 : decode cX6_moveToShelf 4 = .ok (.iload_n 3, 1) := by decide +kernel
theorem dX6_moveToShelf_5 : decode cX6_moveToShelf 5 = .ok (.iconst 3, 1) := by decide +kernel
theorem dX6_moveToShelf_6 : decode cX6_moveToShelf 6 = .ok (.if_icmp .ge 92, 3) := by decide +kernel
theorem dX6_moveToShelf_9 : decode cX6_moveToShelf 9 = .ok (.aload_n 0, 1) := by decide +kernel
theorem dX6_moveToShelf_10 : decode cX6_moveToShelf 10 = .ok (.iload_n 1, 1) := by decide +kernel
theorem dX6_moveToShelf_11 : decode cX6_moveToShelf 11 = .ok (.iload_n 3, 1) := by decide +kernel
theorem dX6_moveToShelf_12 : decode cX6_moveToShelf 12 = .ok (.invokevirtual 83, 3) := by decide +kernel
theorem dX6_moveToShelf_15 : decode cX6_moveToShelf 15 = .ok (.istore 4, 2) := by decide +kernel
theorem dX6_moveToShelf_17 : decode cX6_moveToShelf 17 = .ok (.aload_n 0, 1) := by decide +kernel
theorem dX6_moveToShelf_18 : decode cX6_moveToShelf 18 = .ok (.getfield 28, 3) := by decide +kernel
theorem dX6_moveToShelf_21 : decode cX6_moveToShelf 21 = .ok (.iconst 1, 1) := by decide +kernel
theorem dX6_moveToShelf_22 : decode cX6_moveToShelf 22 = .ok (.isub, 1) := by decide +kernel
theorem dX6_moveToShelf_23 : decode cX6_moveToShelf 23 = .ok (.istore 5, 2) := by decide +kernel
theorem dX6_moveToShelf_25 : decode cX6_moveToShelf 25 = .ok (.iload 5, 2) := by decide +kernel
theorem dX6_moveToShelf_27 : decode cX6_moveToShelf 27 = .ok (.aload_n 0, 1) := by decide +kernel
theorem dX6_moveToShelf_28 : decode cX6_moveToShelf 28 = .ok (.invokevirtual 41, 3) := by decide +kernel
theorem dX6_moveToShelf_31 : decode cX6_moveToShelf 31 = .ok (.if_icmp .lt 61, 3) := by decide +kernel
theorem dX6_moveToShelf_34 : decode cX6_moveToShelf 34 = .ok (.iload 4, 2) := by decide +kernel
theorem dX6_moveToShelf_36 : decode cX6_moveToShelf 36 = .ok (.ifCond .ge 56, 3) := by decide +kernel
theorem dX6_moveToShelf_39 : decode cX6_moveToShelf 39 = .ok (.aload_n 0, 1) := by decide +kernel
theorem dX6_moveToShelf_40 : decode cX6_moveToShelf 40 = .ok (.iload 5, 2) := by decide +kernel
theorem dX6_moveToShelf_42 : decode cX6_moveToShelf 42 = .ok (.iconst 1, 1) := by decide +kernel
theorem dX6_moveToShelf_43 : decode cX6_moveToShelf 43 = .ok (.invokevirtual 60, 3) := by decide +kernel
theorem dX6_moveToShelf_46 : decode cX6_moveToShelf 46 = .ok (.iload_n 3, 1) := by decide +kernel
theorem dX6_moveToShelf_47 : decode cX6_moveToShelf 47 = .ok (.if_icmp .ne 39, 3) := by decide +kernel
theorem dX6_moveToShelf_50 : decode cX6_moveToShelf 50 = .ok (.aload_n 0, 1) := by decide +kernel
theorem dX6_moveToShelf_51 : decode cX6_moveToShelf 51 = .ok (.iload 5, 2) := by decide +kernel
theorem dX6_moveToShelf_53 : decode cX6_moveToShelf 53 = .ok (.iconst 5, 1) := by decide +kernel
theorem dX6_moveToShelf_54 : decode cX6_moveToShelf 54 = .ok (.invokevirtual 60, 3) := by decide +kernel
theorem dX6_moveToShelf_57 : decode cX6_moveToShelf 57 = .ok (.iload_n 1, 1) := by decide +kernel
theorem dX6_moveToShelf_58 : decode cX6_moveToShelf 58 = .ok (.if_icmp .ne 28, 3) := by decide +kernel
theorem dX6_moveToShelf_61 : decode cX6_moveToShelf 61 = .ok (.aload_n 0, 1) := by decide +kernel
theorem dX6_moveToShelf_62 : decode cX6_moveToShelf 62 = .ok (.iload 5, 2) := by decide +kernel
theorem dX6_moveToShelf_64 : decode cX6_moveToShelf 64 = .ok (.iconst 0, 1) := by decide +kernel
theorem dX6_moveToShelf_65 : decode cX6_moveToShelf 65 = .ok (.invokevirtual 60, 3) := by decide +kernel
theorem dX6_moveToShelf_68 : decode cX6_moveToShelf 68 = .ok (.iload_n 1, 1) := by decide +kernel
theorem dX6_moveToShelf_69 : decode cX6_moveToShelf 69 = .ok (.if_icmp .eq 17, 3) := by decide +kernel
theorem dX6_moveToShelf_72 : decode cX6_moveToShelf 72 = .ok (.aload_n 0, 1) := by decide +kernel
theorem dX6_moveToShelf_73 : decode cX6_moveToShelf 73 = .ok (.iload 5, 2) := by decide +kernel
theorem dX6_moveToShelf_75 : decode cX6_moveToShelf 75 = .ok (.bipush 8, 2) := by decide +kernel
theorem dX6_moveToShelf_77 : decode cX6_moveToShelf 77 = .ok (.invokevirtual 68, 3) := by decide +kernel
theorem dX6_moveToShelf_80 : decode cX6_moveToShelf 80 = .ok (.iinc 4 1, 3) := by decide +kernel
theorem dX6_moveToShelf_83 : decode cX6_moveToShelf 83 = .ok (.iinc 2 1, 3) := by decide +kernel
theorem dX6_moveToShelf_86 : decode cX6_moveToShelf 86 = .ok (.iinc 5 (-1), 3) := by decide +kernel
theorem dX6_moveToShelf_89 : decode cX6_moveToShelf 89 = .ok (.goto (-64), 3) := by decide +kernel
theorem dX6_moveToShelf_92 : decode cX6_moveToShelf 92 = .ok (.iinc 3 1, 3) := by decide +kernel
theorem dX6_moveToShelf_95 : decode cX6_moveToShelf 95 = .ok (.goto (-91), 3) := by decide +kernel
theorem dX6_moveToShelf_98 : decode cX6_moveToShelf 98 = .ok (.iload_n 2, 1) := by decide +kernel
theorem dX6_moveToShelf_99 : decode cX6_moveToShelf 99 = .ok (.ireturn, 1) := by decide +kernel
theorem dX6_emptyShelf_0 : decode cX6_emptyShelf 0 = .ok (.iconst 0, 1) := by decide +kernel
theorem dX6_emptyShelf_1 : decode cX6_emptyShelf 1 = .ok (.istore_n 1, 1) := by decide +kernel
theorem dX6_emptyShelf_2 : decode cX6_emptyShelf 2 = .ok (.iconst 0, 1) := by decide +kernel
theorem dX6_emptyShelf_3 : decode cX6_emptyShelf 3 = .ok (.istore_n 2, 1) := by decide +kernel
theorem dX6_emptyShelf_4 : decode cX6_emptyShelf 4 = .ok (.iload_n 2, 1) := by decide +kernel
theorem dX6_emptyShelf_5 : decode cX6_emptyShelf 5 = .ok (.aload_n 0, 1) := by decide +kernel
theorem dX6_emptyShelf_6 : decode cX6_emptyShelf 6 = .ok (.invokevirtual 20, 3) := by decide +kernel
theorem dX6_emptyShelf_9 : decode cX6_emptyShelf 9 = .ok (.if_icmp .ge 36, 3) := by decide +kernel
theorem dX6_emptyShelf_12 : decode cX6_emptyShelf 12 = .ok (.aload_n 0, 1) := by decide +kernel
theorem dX6_emptyShelf_13 : decode cX6_emptyShelf 13 = .ok (.getfield 16, 3) := by decide +kernel
theorem dX6_emptyShelf_16 : decode cX6_emptyShelf 16 = .ok (.iload_n 2, 1) := by decide +kernel
theorem dX6_emptyShelf_17 : decode cX6_emptyShelf 17 = .ok (.iconst 5, 1) := by decide +kernel
theorem dX6_emptyShelf_18 : decode cX6_emptyShelf 18 = .ok (.invokevirtual 44, 3) := by decide +kernel
theorem dX6_emptyShelf_21 : decode cX6_emptyShelf 21 = .ok (.bipush 8, 2) := by decide +kernel
theorem dX6_emptyShelf_23 : decode cX6_emptyShelf 23 = .ok (.if_icmp .ne 16, 3) := by decide +kernel
theorem dX6_emptyShelf_26 : decode cX6_emptyShelf 26 = .ok (.aload_n 0, 1) := by decide +kernel
theorem dX6_emptyShelf_27 : decode cX6_emptyShelf 27 = .ok (.getfield 16, 3) := by decide +kernel
theorem dX6_emptyShelf_30 : decode cX6_emptyShelf 30 = .ok (.iload_n 2, 1) := by decide +kernel
theorem dX6_emptyShelf_31 : decode cX6_emptyShelf 31 = .ok (.iconst 5, 1) := by decide +kernel
theorem dX6_emptyShelf_32 : decode cX6_emptyShelf 32 = .ok (.iconst (-1), 1) := by decide +kernel
theorem dX6_emptyShelf_33 : decode cX6_emptyShelf 33 = .ok (.invokevirtual 47, 3) := by decide +kernel
theorem dX6_emptyShelf_36 : decode cX6_emptyShelf 36 = .ok (.iinc 1 1, 3) := by decide +kernel
theorem dX6_emptyShelf_39 : decode cX6_emptyShelf 39 = .ok (.iinc 2 1, 3) := by decide +kernel
theorem dX6_emptyShelf_42 : decode cX6_emptyShelf 42 = .ok (.goto (-38), 3) := by decide +kernel
theorem dX6_emptyShelf_45 : decode cX6_emptyShelf 45 = .ok (.iload_n 1, 1) := by decide +kernel
theorem dX6_emptyShelf_46 : decode cX6_emptyShelf 46 = .ok (.ireturn, 1) := by decide +kernel
theorem dX7_init_0 : decode cX7_init 0 = .ok (.aload_n 0, 1) := by decide +kernel
theorem dX7_init_1 : decode cX7_init 1 = .ok (.invokespecial 1, 3) := by decide +kernel
theorem dX7_init_4 : decode cX7_init 4 = .ok (.aload_n 0, 1) := by decide +kernel
theorem dX7_init_5 : decode cX7_init 5 = .ok (.iconst 0, 1) := by decide +kernel
theorem dX7_init_6 : decode cX7_init 6 = .ok (.iload_n 2, 1) := by decide +kernel
theorem dX7_init_7 : decode cX7_init 7 = .ok (.invokestatic 7, 3) := by decide +kernel
theorem dX7_init_10 : decode cX7_init 10 = .ok (.putfield 13, 3) := by decide +kernel
theorem dX7_init_13 : decode cX7_init 13 = .ok (.aload_n 0, 1) := by decide +kernel
theorem dX7_init_14 : decode cX7_init 14 = .ok (.iconst 0, 1) := by decide +kernel
theorem dX7_init_15 : decode cX7_init 15 = .ok (.iload_n 1, 1) := by decide +kernel
theorem dX7_init_16 : decode cX7_init 16 = .ok (.invokestatic 7, 3) := by decide +kernel
theorem dX7_init_19 : decode cX7_init 19 = .ok (.aload_n 0, 1) := by decide +kernel
theorem dX7_init_20 : decode cX7_init 20 = .ok (.getfield 13, 3) := by decide +kernel
theorem dX7_init_23 : decode cX7_init 23 = .ok (.multianewarray 19 2, 4) := by decide +kernel
theorem dX7_init_27 : decode cX7_init 27 = .ok (.putfield 21, 3) := by decide +kernel
theorem dX7_init_30 : decode cX7_init 30 = .ok (.return_, 1) := by decide +kernel
theorem dX7_get_0 : decode cX7_get 0 = .ok (.iload_n 1, 1) := by decide +kernel
theorem dX7_get_1 : decode cX7_get 1 = .ok (.ifCond .lt 24, 3) := by decide +kernel
theorem dX7_get_4 : decode cX7_get 4 = .ok (.iload_n 1, 1) := by decide +kernel
theorem dX7_get_5 : decode cX7_get 5 = .ok (.aload_n 0, 1) := by decide +kernel
theorem dX7_get_6 : decode cX7_get 6 = .ok (.getfield 13, 3) := by decide +kernel
theorem dX7_get_9 : decode cX7_get 9 = .ok (.if_icmp .ge 16, 3) := by decide +kernel
theorem dX7_get_12 : decode cX7_get 12 = .ok (.iload_n 2, 1) := by decide +kernel
theorem dX7_get_13 : decode cX7_get 13 = .ok (.ifCond .lt 12, 3) := by decide +kernel
theorem dX7_get_16 : decode cX7_get 16 = .ok (.iload_n 2, 1) := by decide +kernel
theorem dX7_get_17 : decode cX7_get 17 = .ok (.aload_n 0, 1) := by decide +kernel
theorem dX7_get_18 : decode cX7_get 18 = .ok (.getfield 21, 3) := by decide +kernel
theorem dX7_get_21 : decode cX7_get 21 = .ok (.arraylength, 1) := by decide +kernel
theorem dX7_get_22 : decode cX7_get 22 = .ok (.if_icmp .lt 5, 3) := by decide +kernel
theorem dX7_get_25 : decode cX7_get 25 = .ok (.iconst 0, 1) := by decide +kernel
theorem dX7_get_26 : decode cX7_get 26 = .ok (.ireturn, 1) := by decide +kernel
theorem dX7_get_27 : decode cX7_get 27 = .ok (.aload_n 0, 1) := by decide +kernel
theorem dX7_get_28 : decode cX7_get 28 = .ok (.getfield 21, 3) := by decide +kernel
theorem dX7_get_31 : decode cX7_get 31 = .ok (.iload_n 2, 1) := by decide +kernel
theorem dX7_get_32 : decode cX7_get 32 = .ok (.aaload, 1) := by decide +kernel
theorem dX7_get_33 : decode cX7_get 33 = .ok (.iload_n 1, 1) := by decide +kernel
theorem dX7_get_34 : decode cX7_get 34 = .ok (.iaload, 1) := by decide +kernel
theorem dX7_get_35 : decode cX7_get 35 = .ok (.ireturn, 1) := by decide +kernel
theorem dX7_put_0 : decode cX7_put 0 = .ok (.iload_n 1, 1) := by decide +kernel
theorem dX7_put_1 : decode cX7_put 1 = .ok (.ifCond .lt 33, 3) := by decide +kernel
theorem dX7_put_4 : decode cX7_put 4 = .ok (.iload_n 1, 1) := by decide +kernel
theorem dX7_put_5 : decode cX7_put 5 = .ok (.aload_n 0, 1) := by decide +kernel
theorem dX7_put_6 : decode cX7_put 6 = .ok (.getfield 13, 3) := by decide +kernel
theorem dX7_put_9 : decode cX7_put 9 = .ok (.if_icmp .ge 25, 3) := by decide +kernel
theorem dX7_put_12 : decode cX7_put 12 = .ok (.iload_n 2, 1) := by decide +kernel
theorem dX7_put_13 : decode cX7_put 13 = .ok (.ifCond .lt 21, 3) := by decide +kernel
theorem dX7_put_16 : decode cX7_put 16 = .ok (.iload_n 2, 1) := by decide +kernel
theorem dX7_put_17 : decode cX7_put 17 = .ok (.aload_n 0, 1) := by decide +kernel
theorem dX7_put_18 : decode cX7_put 18 = .ok (.getfield 21, 3) := by decide +kernel
theorem dX7_put_21 : decode cX7_put 21 = .ok (.arraylength, 1) := by decide +kernel
theorem dX7_put_22 : decode cX7_put 22 = .ok (.if_icmp .ge 12, 3) := by decide +kernel
theorem dX7_put_25 : decode cX7_put 25 = .ok (.aload_n 0, 1) := by decide +kernel
theorem dX7_put_26 : decode cX7_put 26 = .ok (.getfield 21, 3) := by decide +kernel
theorem dX7_put_29 : decode cX7_put 29 = .ok (.iload_n 2, 1) := by decide +kernel
theorem dX7_put_30 : decode cX7_put 30 = .ok (.aaload, 1) := by decide +kernel
theorem dX7_put_31 : decode cX7_put 31 = .ok (.iload_n 1, 1) := by decide +kernel
theorem dX7_put_32 : decode cX7_put 32 = .ok (.iload_n 3, 1) := by decide +kernel
theorem dX7_put_33 : decode cX7_put 33 = .ok (.iastore, 1) := by decide +kernel
theorem dX7_put_34 : decode cX7_put 34 = .ok (.return_, 1) := by decide +kernel
theorem dX7_count_0 : decode cX7_count 0 = .ok (.aload_n 0, 1) := by decide +kernel
theorem dX7_count_1 : decode cX7_count 1 = .ok (.iload_n 1, 1) := by decide +kernel
theorem dX7_count_2 : decode cX7_count 2 = .ok (.iload_n 2, 1) := by decide +kernel
theorem dX7_count_3 : decode cX7_count 3 = .ok (.iload_n 3, 1) := by decide +kernel
theorem dX7_count_4 : decode cX7_count 4 = .ok (.iload_n 2, 1) := by decide +kernel
theorem dX7_count_5 : decode cX7_count 5 = .ok (.iload_n 3, 1) := by decide +kernel
theorem dX7_count_6 : decode cX7_count 6 = .ok (.invokevirtual 24, 3) := by decide +kernel
theorem dX7_count_9 : decode cX7_count 9 = .ok (.ireturn, 1) := by decide +kernel
theorem dX7_countBoth_0 : decode cX7_countBoth 0 = .ok (.iload_n 2, 1) := by decide +kernel
theorem dX7_countBoth_1 : decode cX7_countBoth 1 = .ok (.ifCond .lt 27, 3) := by decide +kernel
theorem dX7_countBoth_4 : decode cX7_countBoth 4 = .ok (.iload_n 2, 1) := by decide +kernel
theorem dX7_countBoth_5 : decode cX7_countBoth 5 = .ok (.aload_n 0, 1) := by decide +kernel
theorem dX7_countBoth_6 : decode cX7_countBoth 6 = .ok (.getfield 21, 3) := by decide +kernel
theorem dX7_countBoth_9 : decode cX7_countBoth 9 = .ok (.arraylength, 1) := by decide +kernel
theorem dX7_countBoth_10 : decode cX7_countBoth 10 = .ok (.if_icmp .ge 18, 3) := by decide +kernel
theorem dX7_countBoth_13 : decode cX7_countBoth 13 = .ok (.iload 4, 2) := by decide +kernel
theorem dX7_countBoth_15 : decode cX7_countBoth 15 = .ok (.ifCond .lt 13, 3) := by decide +kernel
theorem dX7_countBoth_18 : decode cX7_countBoth 18 = .ok (.iload 4, 2) := by decide +kernel
theorem dX7_countBoth_20 : decode cX7_countBoth 20 = .ok (.aload_n 0, 1) := by decide +kernel
theorem dX7_countBoth_21 : decode cX7_countBoth 21 = .ok (.getfield 21, 3) := by decide +kernel
theorem dX7_countBoth_24 : decode cX7_countBoth 24 = .ok (.arraylength, 1) := by decide +kernel
theorem dX7_countBoth_25 : decode cX7_countBoth 25 = .ok (.if_icmp .lt 5, 3) := by decide +kernel
theorem dX7_countBoth_28 : decode cX7_countBoth 28 = .ok (.iconst 0, 1) := by decide +kernel
theorem dX7_countBoth_29 : decode cX7_countBoth 29 = .ok (.ireturn, 1) := by decide +kernel
theorem dX7_countBoth_30 : decode cX7_countBoth 30 = .ok (.aload_n 0, 1) := by decide +kernel
theorem dX7_countBoth_31 : decode cX7_countBoth 31 = .ok (.getfield 21, 3) := by decide +kernel
theorem dX7_countBoth_34 : decode cX7_countBoth 34 = .ok (.iload_n 2, 1) := by decide +kernel
theorem dX7_countBoth_35 : decode cX7_countBoth 35 = .ok (.aaload, 1) := by decide +kernel
theorem dX7_countBoth_36 : decode cX7_countBoth 36 = .ok (.astore 6, 2) := by decide +kernel
theorem dX7_countBoth_38 : decode cX7_countBoth 38 = .ok (.aload_n 0, 1) := by decide +kernel
theorem dX7_countBoth_39 : decode cX7_countBoth 39 = .ok (.getfield 21, 3) := by decide +kernel
theorem dX7_countBoth_42 : decode cX7_countBoth 42 = .ok (.iload 4, 2) := by decide +kernel
theorem dX7_countBoth_44 : decode cX7_countBoth 44 = .ok (.aaload, 1) := by decide +kernel
theorem dX7_countBoth_45 : decode cX7_countBoth 45 = .ok (.astore 7, 2) := by decide +kernel
theorem dX7_countBoth_47 : decode cX7_countBoth 47 = .ok (.iconst 0, 1) := by decide +kernel
theorem dX7_countBoth_48 : decode cX7_countBoth 48 = .ok (.istore 8, 2) := by decide +kernel
theorem dX7_countBoth_50 : decode cX7_countBoth 50 = .ok (.iconst 0, 1) := by decide +kernel
theorem dX7_countBoth_51 : decode cX7_countBoth 51 = .ok (.istore 9, 2) := by decide +kernel
theorem dX7_countBoth_53 : decode cX7_countBoth 53 = .ok (.iload 9, 2) := by decide +kernel
theorem dX7_countBoth_55 : decode cX7_countBoth 55 = .ok (.iload_n 1, 1) := by decide +kernel
theorem dX7_countBoth_56 : decode cX7_countBoth 56 = .ok (.if_icmp .ge 40, 3) := by decide +kernel
theorem dX7_countBoth_59 : decode cX7_countBoth 59 = .ok (.iload 9, 2) := by decide +kernel
theorem dX7_countBoth_61 : decode cX7_countBoth 61 = .ok (.aload_n 0, 1) := by decide +kernel
theorem dX7_countBoth_62 : decode cX7_countBoth 62 = .ok (.getfield 13, 3) := by decide +kernel
theorem dX7_countBoth_65 : decode cX7_countBoth 65 = .ok (.if_icmp .ge 31, 3) := by decide +kernel
theorem dX7_countBoth_68 : decode cX7_countBoth 68 = .ok (.aload 6, 2) := by decide +kernel
theorem dX7_countBoth_70 : decode cX7_countBoth 70 = .ok (.iload 9, 2) := by decide +kernel
theorem dX7_countBoth_72 : decode cX7_countBoth 72 = .ok (.iaload, 1) := by decide +kernel
theorem dX7_countBoth_73 : decode cX7_countBoth 73 = .ok (.iload_n 3, 1) := by decide +kernel
theorem dX7_countBoth_74 : decode cX7_countBoth 74 = .ok (.if_icmp .ne 16, 3) := by decide +kernel
theorem dX7_countBoth_77 : decode cX7_countBoth 77 = .ok (.aload 7, 2) := by decide +kernel
theorem dX7_countBoth_79 : decode cX7_countBoth 79 = .ok (.iload 9, 2) := by decide +kernel
theorem dX7_countBoth_81 : decode cX7_countBoth 81 = .ok (.iaload, 1) := by decide +kernel
theorem dX7_countBoth_82 : decode cX7_countBoth 82 = .ok (.iload 5, 2) := by decide +kernel
theorem dX7_countBoth_84 : decode cX7_countBoth 84 = .ok (.if_icmp .ne 6, 3) := by decide +kernel
theorem dX7_countBoth_87 : decode cX7_countBoth 87 = .ok (.iinc 8 1, 3) := by decide +kernel
theorem dX7_countBoth_90 : decode cX7_countBoth 90 = .ok (.iinc 9 1, 3) := by decide +kernel
theorem dX7_countBoth_93 : decode cX7_countBoth 93 = .ok (.goto (-40), 3) := by decide +kernel
theorem dX7_countBoth_96 : decode cX7_countBoth 96 = .ok (.iload 8, 2) := by decide +kernel
theorem dX7_countBoth_98 : decode cX7_countBoth 98 = .ok (.ireturn, 1) := by decide +kernel
theorem dX7_sum_0 : decode cX7_sum 0 = .ok (.iload_n 2, 1) := by decide +kernel
theorem dX7_sum_1 : decode cX7_sum 1 = .ok (.ifCond .lt 12, 3) := by decide +kernel
theorem dX7_sum_4 : decode cX7_sum 4 = .ok (.iload_n 2, 1) := by decide +kernel
theorem dX7_sum_5 : decode cX7_sum 5 = .ok (.aload_n 0, 1) := by decide +kernel
theorem dX7_sum_6 : decode cX7_sum 6 = .ok (.getfield 21, 3) := by decide +kernel
theorem dX7_sum_9 : decode cX7_sum 9 = .ok (.arraylength, 1) := by decide +kernel
theorem dX7_sum_10 : decode cX7_sum 10 = .ok (.if_icmp .lt 5, 3) := by decide +kernel
theorem dX7_sum_13 : decode cX7_sum 13 = .ok (.iconst 0, 1) := by decide +kernel
theorem dX7_sum_14 : decode cX7_sum 14 = .ok (.ireturn, 1) := by decide +kernel
theorem dX7_sum_15 : decode cX7_sum 15 = .ok (.aload_n 0, 1) := by decide +kernel
theorem dX7_sum_16 : decode cX7_sum 16 = .ok (.getfield 21, 3) := by decide +kernel
theorem dX7_sum_19 : decode cX7_sum 19 = .ok (.iload_n 2, 1) := by decide +kernel
theorem dX7_sum_20 : decode cX7_sum 20 = .ok (.aaload, 1) := by decide +kernel
theorem dX7_sum_21 : decode cX7_sum 21 = .ok (.astore_n 3, 1) := by decide +kernel
theorem dX7_sum_22 : decode cX7_sum 22 = .ok (.iconst 0, 1) := by decide +kernel
theorem dX7_sum_23 : decode cX7_sum 23 = .ok (.istore 4, 2) := by decide +kernel
theorem dX7_sum_25 : decode cX7_sum 25 = .ok (.iconst 0, 1) := by decide +kernel
theorem dX7_sum_26 : decode cX7_sum 26 = .ok (.istore 5, 2) := by decide +kernel
theorem dX7_sum_28 : decode cX7_sum 28 = .ok (.iload 5, 2) := by decide +kernel
theorem dX7_sum_30 : decode cX7_sum 30 = .ok (.iload_n 1, 1) := by decide +kernel
theorem dX7_sum_31 : decode cX7_sum 31 = .ok (.if_icmp .ge 27, 3) := by decide +kernel
theorem dX7_sum_34 : decode cX7_sum 34 = .ok (.iload 5, 2) := by decide +kernel
theorem dX7_sum_36 : decode cX7_sum 36 = .ok (.aload_n 0, 1) := by decide +kernel
theorem dX7_sum_37 : decode cX7_sum 37 = .ok (.getfield 13, 3) := by decide +kernel
theorem dX7_sum_40 : decode cX7_sum 40 = .ok (.if_icmp .ge 18, 3) := by decide +kernel
theorem dX7_sum_43 : decode cX7_sum 43 = .ok (.iload 4, 2) := by decide +kernel
theorem dX7_sum_45 : decode cX7_sum 45 = .ok (.aload_n 3, 1) := by decide +kernel
theorem dX7_sum_46 : decode cX7_sum 46 = .ok (.iload 5, 2) := by decide +kernel
theorem dX7_sum_48 : decode cX7_sum 48 = .ok (.iaload, 1) := by decide +kernel
theorem dX7_sum_49 : decode cX7_sum 49 = .ok (.iadd, 1) := by decide +kernel
theorem dX7_sum_50 : decode cX7_sum 50 = .ok (.istore 4, 2) := by decide +kernel
theorem dX7_sum_52 : decode cX7_sum 52 = .ok (.iinc 5 1, 3) := by decide +kernel
theorem dX7_sum_55 : decode cX7_sum 55 = .ok (.goto (-27), 3) := by decide +kernel
theorem dX7_sum_58 : decode cX7_sum 58 = .ok (.iload 4, 2) := by decide +kernel
theorem dX7_sum_60 : decode cX7_sum 60 = .ok (.ireturn, 1) := by decide +kernel
theorem dX7_remove_0 : decode cX7_remove 0 = .ok (.iload_n 1, 1) := by decide +kernel
theorem dX7_remove_1 : decode cX7_remove 1 = .ok (.ifCond .lt 16, 3) := by decide +kernel
theorem dX7_remove_4 : decode cX7_remove 4 = .ok (.iload_n 1, 1) := by decide +kernel
theorem dX7_remove_5 : decode cX7_remove 5 = .ok (.iload_n 2, 1) := by decide +kernel
theorem dX7_remove_6 : decode cX7_remove 6 = .ok (.if_icmp .ge 11, 3) := by decide +kernel
theorem dX7_remove_9 : decode cX7_remove 9 = .ok (.iload_n 2, 1) := by decide +kernel
theorem dX7_remove_10 : decode cX7_remove 10 = .ok (.aload_n 0, 1) := by decide +kernel
theorem dX7_remove_11 : decode cX7_remove 11 = .ok (.getfield 13, 3) := by decide +kernel
theorem dX7_remove_14 : decode cX7_remove 14 = .ok (.if_icmp .le 4, 3) := by decide +kernel
theorem dX7_remove_17 : decode cX7_remove 17 = .ok (.return_, 1) := by decide +kernel
theorem dX7_remove_18 : decode cX7_remove 18 = .ok (.iconst 0, 1) := by decide +kernel
theorem dX7_remove_19 : decode cX7_remove 19 = .ok (.istore_n 3, 1) := by decide +kernel
theorem dX7_remove_20 : decode cX7_remove 20 = .ok (.iload_n 3, 1) := by decide +kernel
theorem dX7_remove_21 : decode cX7_remove 21 = .ok (.aload_n 0, 1) := by decide +kernel
theorem dX7_remove_22 : decode cX7_remove 22 = .ok (.getfield 21, 3) := by decide +kernel
theorem dX7_remove_25 : decode cX7_remove 25 = .ok (.arraylength, 1) := by decide +kernel
theorem dX7_remove_26 : decode cX7_remove 26 = .ok (.if_icmp .ge 33, 3) := by decide +kernel
theorem dX7_remove_29 : decode cX7_remove 29 = .ok (.aload_n 0, 1) := by decide +kernel
theorem dX7_remove_30 : decode cX7_remove 30 = .ok (.getfield 21, 3) := by decide +kernel
theorem dX7_remove_33 : decode cX7_remove 33 = .ok (.iload_n 3, 1) := by decide +kernel
theorem dX7_remove_34 : decode cX7_remove 34 = .ok (.aaload, 1) := by decide +kernel
theorem dX7_remove_35 : decode cX7_remove 35 = .ok (.iload_n 1, 1) := by decide +kernel
theorem dX7_remove_36 : decode cX7_remove 36 = .ok (.iconst 1, 1) := by decide +kernel
theorem dX7_remove_37 : decode cX7_remove 37 = .ok (.iadd, 1) := by decide +kernel
theorem dX7_remove_38 : decode cX7_remove 38 = .ok (.aload_n 0, 1) := by decide +kernel
theorem dX7_remove_39 : decode cX7_remove 39 = .ok (.getfield 21, 3) := by decide +kernel
theorem dX7_remove_42 : decode cX7_remove 42 = .ok (.iload_n 3, 1) := by decide +kernel
theorem dX7_remove_43 : decode cX7_remove 43 = .ok (.aaload, 1) := by decide +kernel
theorem dX7_remove_44 : decode cX7_remove 44 = .ok (.iload_n 1, 1) := by decide +kernel
theorem dX7_remove_45 : decode cX7_remove 45 = .ok (.iload_n 2, 1) := by decide +kernel
theorem dX7_remove_46 : decode cX7_remove 46 = .ok (.iload_n 1, 1) := by decide +kernel
theorem dX7_remove_47 : decode cX7_remove 47 = .ok (.isub, 1) := by decide +kernel
theorem dX7_remove_48 : decode cX7_remove 48 = .ok (.iconst 1, 1) := by decide +kernel
theorem dX7_remove_49 : decode cX7_remove 49 = .ok (.isub, 1) := by decide +kernel
theorem dX7_remove_50 : decode cX7_remove 50 = .ok (.invokestatic 28, 3) := by decide +kernel
theorem dX7_remove_53 : decode cX7_remove 53 = .ok (.iinc 3 1, 3) := by decide +kernel
theorem dX7_remove_56 : decode cX7_remove 56 = .ok (.goto (-36), 3) := by decide +kernel
theorem dX7_remove_59 : decode cX7_remove 59 = .ok (.return_, 1) := by decide +kernel
theorem dX7_copyFrom_0 : decode cX7_copyFrom 0 = .ok (.iload_n 2, 1) := by decide +kernel
theorem dX7_copyFrom_1 : decode cX7_copyFrom 1 = .ok (.ifCond .lt 32, 3) := by decide +kernel
theorem dX7_copyFrom_4 : decode cX7_copyFrom 4 = .ok (.iload_n 2, 1) := by decide +kernel
theorem dX7_copyFrom_5 : decode cX7_copyFrom 5 = .ok (.aload_n 0, 1) := by decide +kernel
theorem dX7_copyFrom_6 : decode cX7_copyFrom 6 = .ok (.getfield 13, 3) := by decide +kernel
theorem dX7_copyFrom_9 : decode cX7_copyFrom 9 = .ok (.if_icmp .gt 24, 3) := by decide +kernel
theorem dX7_copyFrom_12 : decode cX7_copyFrom 12 = .ok (.iload_n 2, 1) := by decide +kernel
theorem dX7_copyFrom_13 : decode cX7_copyFrom 13 = .ok (.aload_n 1, 1) := by decide +kernel
theorem dX7_copyFrom_14 : decode cX7_copyFrom 14 = .ok (.getfield 13, 3) := by decide +kernel
theorem dX7_copyFrom_17 : decode cX7_copyFrom 17 = .ok (.if_icmp .gt 16, 3) := by decide +kernel
theorem dX7_copyFrom_20 : decode cX7_copyFrom 20 = .ok (.aload_n 0, 1) := by decide +kernel
theorem dX7_copyFrom_21 : decode cX7_copyFrom 21 = .ok (.getfield 21, 3) := by decide +kernel
theorem dX7_copyFrom_24 : decode cX7_copyFrom 24 = .ok (.arraylength, 1) := by decide +kernel
theorem dX7_copyFrom_25 : decode cX7_copyFrom 25 = .ok (.aload_n 1, 1) := by decide +kernel
theorem dX7_copyFrom_26 : decode cX7_copyFrom 26 = .ok (.getfield 21, 3) := by decide +kernel
theorem dX7_copyFrom_29 : decode cX7_copyFrom 29 = .ok (.arraylength, 1) := by decide +kernel
theorem dX7_copyFrom_30 : decode cX7_copyFrom 30 = .ok (.if_icmp .eq 4, 3) := by decide +kernel
theorem dX7_copyFrom_33 : decode cX7_copyFrom 33 = .ok (.return_, 1) := by decide +kernel
theorem dX7_copyFrom_34 : decode cX7_copyFrom 34 = .ok (.iconst 0, 1) := by decide +kernel
theorem dX7_copyFrom_35 : decode cX7_copyFrom 35 = .ok (.istore_n 3, 1) := by decide +kernel
theorem dX7_copyFrom_36 : decode cX7_copyFrom 36 = .ok (.iload_n 3, 1) := by decide +kernel
theorem dX7_copyFrom_37 : decode cX7_copyFrom 37 = .ok (.aload_n 0, 1) := by decide +kernel
theorem dX7_copyFrom_38 : decode cX7_copyFrom 38 = .ok (.getfield 21, 3) := by decide +kernel
theorem dX7_copyFrom_41 : decode cX7_copyFrom 41 = .ok (.arraylength, 1) := by decide +kernel
theorem dX7_copyFrom_42 : decode cX7_copyFrom 42 = .ok (.if_icmp .ge 27, 3) := by decide +kernel
theorem dX7_copyFrom_45 : decode cX7_copyFrom 45 = .ok (.aload_n 1, 1) := by decide +kernel
theorem dX7_copyFrom_46 : decode cX7_copyFrom 46 = .ok (.getfield 21, 3) := by decide +kernel
theorem dX7_copyFrom_49 : decode cX7_copyFrom 49 = .ok (.iload_n 3, 1) := by decide +kernel
theorem dX7_copyFrom_50 : decode cX7_copyFrom 50 = .ok (.aaload, 1) := by decide +kernel
theorem dX7_copyFrom_51 : decode cX7_copyFrom 51 = .ok (.iconst 0, 1) := by decide +kernel
theorem dX7_copyFrom_52 : decode cX7_copyFrom 52 = .ok (.aload_n 0, 1) := by decide +kernel
theorem dX7_copyFrom_53 : decode cX7_copyFrom 53 = .ok (.getfield 21, 3) := by decide +kernel
theorem dX7_copyFrom_56 : decode cX7_copyFrom 56 = .ok (.iload_n 3, 1) := by decide +kernel
theorem dX7_copyFrom_57 : decode cX7_copyFrom 57 = .ok (.aaload, 1) := by decide +kernel
theorem dX7_copyFrom_58 : decode cX7_copyFrom 58 = .ok (.iconst 0, 1) := by decide +kernel
theorem dX7_copyFrom_59 : decode cX7_copyFrom 59 = .ok (.iload_n 2, 1) := by decide +kernel
theorem dX7_copyFrom_60 : decode cX7_copyFrom 60 = .ok (.invokestatic 28, 3) := by decide +kernel
theorem dX7_copyFrom_63 : decode cX7_copyFrom 63 = .ok (.iinc 3 1, 3) := by decide +kernel
theorem dX7_copyFrom_66 : decode cX7_copyFrom 66 = .ok (.goto (-30), 3) := by decide +kernel
theorem dX7_copyFrom_69 : decode cX7_copyFrom 69 = .ok (.return_, 1) := by decide +kernel
