set_option maxRecDepth 20000 in
theorem ggX11_init_X9_init : GoodIn wsX11_init wsX9_init := goodIn_r _ [22, 23, 2, 3, 24, 25, 26, 27, 28, 29, 30, 31, 32, 33, 34, 35, 36, 37, 38, 39, 40, 41, 42, 43, 44, 45, 46, 47, 48, 49, 50, 51, 52, 53, 54, 55, 56, 57, 58, 59, 60, 61, 62, 63, 64, 65, 66, 67, 68, 69, 70, 71, 72, 73, 74, 125, 126, 96, 97, 98, 99, 100, 101, 102, 103, 127, 128, 129, 130, 131, 132, 133, 134, 135] (by decide +kernel) (by decide +kernel)
set_option maxRecDepth 20000 in
theorem gX11_init_X9_init_n9 : GoodIn wsX11_init (wsX9_init) := ggX11_init_X9_init
set_option maxRecDepth 20000 in
theorem ggX11_init_X3_init : GoodIn wsX11_init wsX3_init := goodIn_r _ [76, 77, 2, 3, 54, 78, 79, 80, 81, 33, 34, 82, 63, 64, 65, 66, 46, 47, 67, 68, 50, 51, 52, 53, 55, 56, 109, 110, 111, 112, 113, 114, 115, 129, 130, 134, 135] (by decide +kernel) (by decide +kernel)
set_option maxRecDepth 20000 in
theorem gX11_init_X3_init_n18 : GoodIn wsX11_init (wsX3_init) := ggX11_init_X3_init
set_option maxRecDepth 20000 in
theorem ggX11_init_X8_init : GoodIn wsX11_init wsX8_init := goodIn_r _ [85, 86, 2, 3, 87, 88, 5, 6, 21, 22, 23, 24, 25, 26, 27, 28, 29, 30, 31, 32, 33, 34, 35, 36, 37, 38, 39, 40, 41, 42, 43, 44, 45, 46, 47, 48, 49, 50, 51, 52, 53, 54, 55, 56, 57, 58, 59, 60, 61, 62, 63, 64, 65, 66, 67, 68, 69, 70, 71, 72, 73, 74, 116, 117, 118, 96, 97, 98, 99, 100, 101, 102, 103, 125, 126, 127, 128, 129, 130, 131, 132, 133, 134, 135] (by decide +kernel) (by decide +kernel)
set_option maxRecDepth 20000 in
theorem gX11_init_X8_init : GoodIn wsX11_init (wsX8_init) := ggX11_init_X8_init
set_option maxRecDepth 20000 in
theorem ggX11_init_X2_init : GoodIn wsX11_init wsX2_init := goodIn_r _ [90, 91, 2, 3, 92, 93, 54, 94, 95, 119, 120, 121, 122, 123, 124] (by decide +kernel) (by decide +kernel)
set_option maxRecDepth 20000 in
theorem gX11_init_X2_init_n32 : GoodIn wsX11_init (wsX2_init) := ggX11_init_X2_init
theorem dX11_init_0 : decode cX11_init 0 = .ok (.aload_n 0, 1) := by decide +kernel
theorem dX11_init_1 : decode cX11_init 1 = .ok (.invokespecial 1, 3) := by decide +kernel
theorem dX11_init_4 : decode cX11_init 4 = .ok (.aload_n 0, 1) := by decide +kernel
theorem dX11_init_5 : decode cX11_init 5 = .ok (.new 7, 3) := by decide +kernel
theorem dX11_init_8 : decode cX11_init 8 = .ok (.dup, 1) := by decide +kernel
theorem dX11_init_9 : decode cX11_init 9 = .ok (.invokespecial 9, 3) := by decide +kernel
theorem dX11_init_12 : decode cX11_init 12 = .ok (.putfield 10, 3) := by decide +kernel
theorem dX11_init_15 : decode cX11_init 15 = .ok (.aload_n 0, 1) := by decide +kernel
theorem dX11_init_16 : decode cX11_init 16 = .ok (.new 16, 3) := by decide +kernel
theorem dX11_init_19 : decode cX11_init 19 = .ok (.dup, 1) := by decide +kernel
theorem dX11_init_20 : decode cX11_init 20 = .ok (.invokespecial 18, 3) := by decide +kernel
theorem dX11_init_23 : decode cX11_init 23 = .ok (.putfield 19, 3) := by decide +kernel
theorem dX11_init_26 : decode cX11_init 26 = .ok (.aload_n 0, 1) := by decide +kernel
theorem dX11_init_27 : decode cX11_init 27 = .ok (.new 23, 3) := by decide +kernel
theorem dX11_init_30 : decode cX11_init 30 = .ok (.dup, 1) := by decide +kernel
theorem dX11_init_31 : decode cX11_init 31 = .ok (.invokespecial 25, 3) := by decide +kernel
theorem dX11_init_34 : decode cX11_init 34 = .ok (.putfield 26, 3) := by decide +kernel
theorem dX11_init_37 : decode cX11_init 37 = .ok (.aload_n 0, 1) := by decide +kernel
theorem dX11_init_38 : decode cX11_init 38 = .ok (.new 30, 3) := by decide +kernel
theorem dX11_init_41 : decode cX11_init 41 = .ok (.dup, 1) := by decide +kernel
theorem dX11_init_42 : decode cX11_init 42 = .ok (.invokespecial 32, 3) := by decide +kernel
theorem dX11_init_45 : decode cX11_init 45 = .ok (.putfield 33, 3) := by decide +kernel
theorem dX11_init_48 : decode cX11_init 48 = .ok (.aload_n 0, 1) := by decide +kernel
theorem dX11_init_49 : decode cX11_init 49 = .ok (.iconst 0, 1) := by decide +kernel
theorem dX11_init_50 : decode cX11_init 50 = .ok (.putfield 37, 3) := by decide +kernel
theorem dX11_init_53 : decode cX11_init 53 = .ok (.return_, 1) := by decide +kernel
set_option maxRecDepth 20000 in
theorem ggX11_join_X9_whyNoJoining : GoodIn wsX11_join wsX9_whyNoJoining := goodIn_r _ [7, 8, 9, 10, 11, 12, 13, 14, 15, 16, 17, 18, 19, 20, 21, 22, 23, 24, 25, 26, 27, 28, 29, 30, 122, 123, 124, 125, 126, 127, 128, 129, 130, 131, 132, 133] (by decide +kernel) (by decide +kernel)
set_option maxRecDepth 20000 in
theorem gX11_join_X9_whyNoJoining : GoodIn wsX11_join (wsV RX11 41 RX9 yX9_whyNoJoining wsX9_whyNoJoining) := goodIn_app (goodIn_of _ (by decide +kernel)) ggX11_join_X9_whyNoJoining
set_option maxRecDepth 20000 in
theorem ggX11_join_X11_refuse : GoodIn wsX11_join wsX11_refuse := goodIn_ca (goodIn_ca (goodIn_ca (goodIn_r _ [33, 34, 35, 36, 37, 38, 39] (by decide +kernel) (by decide +kernel)) (goodIn_sub (fun _ h => List.mem_cons_of_mem _ (List.mem_append_left _ (List.mem_append_left _ (List.mem_append_right _ h)))) (by decide +kernel))) (goodIn_sub (fun _ h => List.mem_cons_of_mem _ (List.mem_append_left _ (List.mem_append_right _ h))) (by decide +kernel))) (goodIn_sub (fun _ h => List.mem_cons_of_mem _ (List.mem_append_right _ h)) (by decide +kernel))
set_option maxRecDepth 20000 in
theorem gX11_join_X11_refuse : GoodIn wsX11_join (va_wsS RX11 45 yX11_refuse wsX11_refuse) := goodIn_app (goodIn_of _ (by decide +kernel)) ggX11_join_X11_refuse
set_option maxRecDepth 20000 in
theorem ggX11_join_X8_push : GoodIn wsX11_join wsX8_push := goodIn_r _ [44, 45, 46, 47, 48, 49, 50, 51, 52, 53, 43, 54, 55, 56, 57, 58, 6, 59, 9, 60, 61, 62, 63, 64, 65, 66, 67, 68, 69, 16, 70, 23, 18, 71, 72, 73, 27, 74, 29, 30, 75, 76, 77, 78, 79, 80, 81, 82, 83, 84, 85, 86, 87, 88, 89, 90, 91, 92, 93, 94, 95, 96, 97, 98, 99, 100, 101, 102, 103, 104, 105, 106, 107, 108, 134, 135, 136, 122, 123, 124, 125, 126, 127, 128, 129, 130, 131, 132, 133, 137, 138, 139, 140, 141, 142, 143] (by decide +kernel) (by decide +kernel)
set_option maxRecDepth 20000 in
theorem gX11_join_X8_push : GoodIn wsX11_join (wsV RX11 49 RX8 yX8_push wsX8_push) := goodIn_app (goodIn_of _ (by decide +kernel)) ggX11_join_X8_push
set_option maxRecDepth 20000 in
theorem ggX11_join_X4_add : GoodIn wsX11_join wsX4_add := goodIn_r _ [112, 18, 23, 113, 114, 115, 27, 116, 29, 30, 130, 131, 132, 133] (by decide +kernel) (by decide +kernel)
set_option maxRecDepth 20000 in
theorem gX11_join_X4_add : GoodIn wsX11_join (wsV RX11 57 RX4 yX4_add wsX4_add) := goodIn_app (goodIn_of _ (by decide +kernel)) ggX11_join_X4_add
theorem dX11_join_0 : decode cX11_join 0 = .ok (.aload_n 0, 1) := by decide +kernel
theorem dX11_join_1 : decode cX11_join 1 = .ok (.getfield 10, 3) := by decide +kernel
theorem dX11_join_4 : decode cX11_join 4 = .ok (.iload_n 1, 1) := by decide +kernel
theorem dX11_join_5 : decode cX11_join 5 = .ok (.invokevirtual 41, 3) := by decide +kernel
theorem dX11_join_8 : decode cX11_join 8 = .ok (.invokestatic 45, 3) := by decide +kernel
theorem dX11_join_11 : decode cX11_join 11 = .ok (.aload_n 0, 1) := by decide +kernel
theorem dX11_join_12 : decode cX11_join 12 = .ok (.getfield 26, 3) := by decide +kernel
theorem dX11_join_15 : decode cX11_join 15 = .ok (.aload_n 0, 1) := by decide +kernel
theorem dX11_join_16 : decode cX11_join 16 = .ok (.getfield 10, 3) := by decide +kernel
theorem dX11_join_19 : decode cX11_join 19 = .ok (.invokevirtual 49, 3) := by decide +kernel
theorem dX11_join_22 : decode cX11_join 22 = .ok (.aload_n 0, 1) := by decide +kernel
theorem dX11_join_23 : decode cX11_join 23 = .ok (.getfield 10, 3) := by decide +kernel
theorem dX11_join_26 : decode cX11_join 26 = .ok (.getfield 53, 3) := by decide +kernel
theorem dX11_join_29 : decode cX11_join 29 = .ok (.iload_n 1, 1) := by decide +kernel
theorem dX11_join_30 : decode cX11_join 30 = .ok (.invokevirtual 57, 3) := by decide +kernel
theorem dX11_join_33 : decode cX11_join 33 = .ok (.ireturn, 1) := by decide +kernel
set_option maxRecDepth 20000 in
theorem ggX11_remark_X9_whyNoOtherMark : GoodIn wsX11_remark wsX9_whyNoOtherMark := goodIn_r _ [7, 8, 9, 10, 11, 12, 13, 14, 15, 16, 17, 18, 19, 20, 21, 22, 23, 24, 25, 26, 27, 28, 29, 30, 122, 123, 124, 125, 126, 127, 128, 129, 130, 131, 132, 133] (by decide +kernel) (by decide +kernel)
set_option maxRecDepth 20000 in
theorem gX11_remark_X9_whyNoOtherMark : GoodIn wsX11_remark (wsV RX11 62 RX9 yX9_whyNoOtherMark wsX9_whyNoOtherMark) := goodIn_app (goodIn_of _ (by decide +kernel)) ggX11_remark_X9_whyNoOtherMark
set_option maxRecDepth 20000 in
theorem ggX11_remark_X11_refuse : GoodIn wsX11_remark wsX11_refuse := goodIn_ca (goodIn_ca (goodIn_ca (goodIn_r _ [33, 34, 35, 36, 37, 38, 39] (by decide +kernel) (by decide +kernel)) (goodIn_sub (fun _ h => List.mem_cons_of_mem _ (List.mem_append_left _ (List.mem_append_left _ (List.mem_append_right _ h)))) (by decide +kernel))) (goodIn_sub (fun _ h => List.mem_cons_of_mem _ (List.mem_append_left _ (List.mem_append_right _ h))) (by decide +kernel))) (goodIn_sub (fun _ h => List.mem_cons_of_mem _ (List.mem_append_right _ h)) (by decide +kernel))
set_option maxRecDepth 20000 in
theorem gX11_remark_X11_refuse : GoodIn wsX11_remark (va_wsS RX11 45 yX11_refuse wsX11_refuse) := goodIn_app (goodIn_of _ (by decide +kernel)) ggX11_remark_X11_refuse
set_option maxRecDepth 20000 in
theorem ggX11_remark_X8_push : GoodIn wsX11_remark wsX8_push := goodIn_r _ [44, 45, 46, 47, 48, 49, 50, 51, 52, 53, 43, 54, 55, 56, 57, 58, 6, 59, 8, 60, 61, 62, 63, 64, 65, 66, 67, 68, 69, 13, 70, 23, 15, 71, 72, 73, 27, 74, 29, 30, 75, 76, 77, 78, 79, 80, 81, 82, 83, 84, 85, 86, 87, 88, 89, 90, 91, 92, 93, 94, 95, 96, 97, 98, 99, 100, 101, 102, 103, 104, 105, 106, 107, 108, 134, 135, 136, 122, 123, 124, 125, 126, 127, 128, 129, 130, 131, 132, 133, 137, 138, 139, 140, 141, 142, 143] (by decide +kernel) (by decide +kernel)
set_option maxRecDepth 20000 in
theorem gX11_remark_X8_push : GoodIn wsX11_remark (wsV RX11 49 RX8 yX8_push wsX8_push) := goodIn_app (goodIn_of _ (by decide +kernel)) ggX11_remark_X8_push
set_option maxRecDepth 20000 in
theorem ggX11_remark_X4_changeMark : GoodIn wsX11_remark wsX4_changeMark := goodIn_r _ [112, 23, 24, 25, 26, 27, 28, 29, 30, 113, 114, 115, 116, 130, 131, 132, 133] (by decide +kernel) (by decide +kernel)
set_option maxRecDepth 20000 in
theorem gX11_remark_X4_changeMark : GoodIn wsX11_remark (wsV RX11 66 RX4 yX4_changeMark wsX4_changeMark) := goodIn_app (goodIn_of _ (by decide +kernel)) ggX11_remark_X4_changeMark
theorem dX11_remark_0 : decode cX11_remark 0 = .ok (.aload_n 0, 1) := by decide +kernel
theorem dX11_remark_1 : decode cX11_remark 1 = .ok (.getfield 10, 3) := by decide +kernel
theorem dX11_remark_4 : decode cX11_remark 4 = .ok (.iload_n 1, 1) := by decide +kernel
theorem dX11_remark_5 : decode cX11_remark 5 = .ok (.iload_n 2, 1) := by decide +kernel
theorem dX11_remark_6 : decode cX11_remark 6 = .ok (.invokevirtual 62, 3) := by decide +kernel
theorem dX11_remark_9 : decode cX11_remark 9 = .ok (.invokestatic 45, 3) := by decide +kernel
theorem dX11_remark_12 : decode cX11_remark 12 = .ok (.aload_n 0, 1) := by decide +kernel
theorem dX11_remark_13 : decode cX11_remark 13 = .ok (.getfield 26, 3) := by decide +kernel
theorem dX11_remark_16 : decode cX11_remark 16 = .ok (.aload_n 0, 1) := by decide +kernel
theorem dX11_remark_17 : decode cX11_remark 17 = .ok (.getfield 10, 3) := by decide +kernel
theorem dX11_remark_20 : decode cX11_remark 20 = .ok (.invokevirtual 49, 3) := by decide +kernel
theorem dX11_remark_23 : decode cX11_remark 23 = .ok (.aload_n 0, 1) := by decide +kernel
theorem dX11_remark_24 : decode cX11_remark 24 = .ok (.getfield 10, 3) := by decide +kernel
theorem dX11_remark_27 : decode cX11_remark 27 = .ok (.getfield 53, 3) := by decide +kernel
theorem dX11_remark_30 : decode cX11_remark 30 = .ok (.iload_n 1, 1) := by decide +kernel
theorem dX11_remark_31 : decode cX11_remark 31 = .ok (.iload_n 2, 1) := by decide +kernel
theorem dX11_remark_32 : decode cX11_remark 32 = .ok (.invokevirtual 66, 3) := by decide +kernel
theorem dX11_remark_35 : decode cX11_remark 35 = .ok (.ireturn, 1) := by decide +kernel
set_option maxRecDepth 20000 in
theorem ggX11_excuse_X9_whyNoHousehold : GoodIn wsX11_excuse wsX9_whyNoHousehold := goodIn_r _ [7, 8, 9, 10, 11, 12, 13, 14, 119, 120, 121, 122, 123, 124, 125, 126, 127, 128] (by decide +kernel) (by decide +kernel)
set_option maxRecDepth 20000 in
theorem gX11_excuse_X9_whyNoHousehold : GoodIn wsX11_excuse (wsV RX11 69 RX9 yX9_whyNoHousehold wsX9_whyNoHousehold) := goodIn_app (goodIn_of _ (by decide +kernel)) ggX11_excuse_X9_whyNoHousehold
set_option maxRecDepth 20000 in
theorem ggX11_excuse_X11_refuse : GoodIn wsX11_excuse wsX11_refuse := goodIn_ca (goodIn_ca (goodIn_ca (goodIn_r _ [18, 19, 20, 21, 22, 23, 24] (by decide +kernel) (by decide +kernel)) (goodIn_sub (fun _ h => List.mem_cons_of_mem _ (List.mem_append_left _ (List.mem_append_left _ (List.mem_append_right _ h)))) (by decide +kernel))) (goodIn_sub (fun _ h => List.mem_cons_of_mem _ (List.mem_append_left _ (List.mem_append_right _ h))) (by decide +kernel))) (goodIn_sub (fun _ h => List.mem_cons_of_mem _ (List.mem_append_right _ h)) (by decide +kernel))
set_option maxRecDepth 20000 in
theorem gX11_excuse_X11_refuse : GoodIn wsX11_excuse (va_wsS RX11 45 yX11_refuse wsX11_refuse) := goodIn_app (goodIn_of _ (by decide +kernel)) ggX11_excuse_X11_refuse
set_option maxRecDepth 20000 in
theorem ggX11_excuse_X8_push : GoodIn wsX11_excuse wsX8_push := goodIn_r _ [29, 30, 31, 32, 33, 34, 35, 36, 37, 38, 28, 39, 40, 41, 42, 43, 6, 44, 8, 45, 46, 47, 48, 49, 50, 51, 52, 53, 54, 12, 55, 56, 14, 57, 58, 59, 60, 61, 62, 63, 64, 65, 66, 67, 68, 69, 70, 71, 72, 73, 74, 75, 76, 77, 78, 79, 80, 81, 82, 83, 84, 85, 86, 87, 88, 89, 90, 91, 92, 93, 94, 95, 96, 97, 129, 130, 131, 119, 120, 121, 122, 123, 124, 125, 126, 127, 128, 132, 133, 134, 135, 136, 137, 138, 139, 140] (by decide +kernel) (by decide +kernel)
set_option maxRecDepth 20000 in
theorem gX11_excuse_X8_push : GoodIn wsX11_excuse (wsV RX11 49 RX8 yX8_push wsX8_push) := goodIn_app (goodIn_of _ (by decide +kernel)) ggX11_excuse_X8_push
set_option maxRecDepth 20000 in
theorem ggX11_excuse_X4_excuseOne : GoodIn wsX11_excuse wsX4_excuseOne := goodIn_r _ [101, 56, 14, 102, 103, 104, 60, 105, 62, 63, 106, 107, 108, 109, 110, 111, 112, 113, 127, 128, 132, 133] (by decide +kernel) (by decide +kernel)
set_option maxRecDepth 20000 in
theorem gX11_excuse_X4_excuseOne : GoodIn wsX11_excuse (wsV RX11 72 RX4 yX4_excuseOne wsX4_excuseOne) := goodIn_app (goodIn_of _ (by decide +kernel)) ggX11_excuse_X4_excuseOne
theorem dX11_excuse_0 : decode cX11_excuse 0 = .ok (.aload_n 0, 1) := by decide +kernel
theorem dX11_excuse_1 : decode cX11_excuse 1 = .ok (.getfield 10, 3) := by decide +kernel
theorem dX11_excuse_4 : decode cX11_excuse 4 = .ok (.iload_n 1, 1) := by decide +kernel
theorem dX11_excuse_5 : decode cX11_excuse 5 = .ok (.invokevirtual 69, 3) := by decide +kernel
theorem dX11_excuse_8 : decode cX11_excuse 8 = .ok (.invokestatic 45, 3) := by decide +kernel
theorem dX11_excuse_11 : decode cX11_excuse 11 = .ok (.aload_n 0, 1) := by decide +kernel
theorem dX11_excuse_12 : decode cX11_excuse 12 = .ok (.getfield 26, 3) := by decide +kernel
theorem dX11_excuse_15 : decode cX11_excuse 15 = .ok (.aload_n 0, 1) := by decide +kernel
theorem dX11_excuse_16 : decode cX11_excuse 16 = .ok (.getfield 10, 3) := by decide +kernel
theorem dX11_excuse_19 : decode cX11_excuse 19 = .ok (.invokevirtual 49, 3) := by decide +kernel
theorem dX11_excuse_22 : decode cX11_excuse 22 = .ok (.aload_n 0, 1) := by decide +kernel
theorem dX11_excuse_23 : decode cX11_excuse 23 = .ok (.getfield 10, 3) := by decide +kernel
theorem dX11_excuse_26 : decode cX11_excuse 26 = .ok (.getfield 53, 3) := by decide +kernel
theorem dX11_excuse_29 : decode cX11_excuse 29 = .ok (.iload_n 1, 1) := by decide +kernel
theorem dX11_excuse_30 : decode cX11_excuse 30 = .ok (.invokevirtual 72, 3) := by decide +kernel
theorem dX11_excuse_33 : decode cX11_excuse 33 = .ok (.ireturn, 1) := by decide +kernel
set_option maxRecDepth 20000 in
theorem ggX11_bring_X9_whyNoBatch : GoodIn wsX11_bring wsX9_whyNoBatch := goodIn_r _ [7, 8, 9, 10, 11, 12, 13, 14, 15, 16, 17, 18, 19, 20, 21, 22, 23, 24, 25, 26, 27, 120, 121, 122, 123, 124, 125, 126, 127, 128, 129, 130, 131] (by decide +kernel) (by decide +kernel)
set_option maxRecDepth 20000 in
theorem gX11_bring_X9_whyNoBatch : GoodIn wsX11_bring (wsV RX11 75 RX9 yX9_whyNoBatch wsX9_whyNoBatch) := goodIn_app (goodIn_of _ (by decide +kernel)) ggX11_bring_X9_whyNoBatch
set_option maxRecDepth 20000 in
theorem ggX11_bring_X11_refuse : GoodIn wsX11_bring wsX11_refuse := goodIn_ca (goodIn_ca (goodIn_ca (goodIn_r _ [30, 31, 32, 33, 34, 35, 36] (by decide +kernel) (by decide +kernel)) (goodIn_sub (fun _ h => List.mem_cons_of_mem _ (List.mem_append_left _ (List.mem_append_left _ (List.mem_append_right _ h)))) (by decide +kernel))) (goodIn_sub (fun _ h => List.mem_cons_of_mem _ (List.mem_append_left _ (List.mem_append_right _ h))) (by decide +kernel))) (goodIn_sub (fun _ h => List.mem_cons_of_mem _ (List.mem_append_right _ h)) (by decide +kernel))
set_option maxRecDepth 20000 in
theorem gX11_bring_X11_refuse : GoodIn wsX11_bring (va_wsS RX11 45 yX11_refuse wsX11_refuse) := goodIn_app (goodIn_of _ (by decide +kernel)) ggX11_bring_X11_refuse
set_option maxRecDepth 20000 in
theorem ggX11_bring_X8_push : GoodIn wsX11_bring wsX8_push := goodIn_r _ [41, 42, 43, 44, 45, 46, 47, 48, 49, 50, 40, 51, 52, 53, 54, 55, 6, 56, 8, 9, 57, 58, 59, 60, 61, 62, 63, 64, 65, 13, 66, 67, 15, 68, 69, 70, 71, 72, 73, 74, 75, 76, 77, 78, 79, 80, 81, 25, 82, 83, 27, 84, 85, 86, 87, 88, 89, 90, 91, 92, 93, 94, 95, 96, 97, 98, 99, 100, 101, 102, 103, 104, 105, 106, 132, 133, 134, 120, 121, 122, 123, 124, 125, 126, 127, 128, 129, 135, 136, 130, 131, 137, 138, 139, 140, 141] (by decide +kernel) (by decide +kernel)
set_option maxRecDepth 20000 in
theorem gX11_bring_X8_push : GoodIn wsX11_bring (wsV RX11 49 RX8 yX8_push wsX8_push) := goodIn_app (goodIn_of _ (by decide +kernel)) ggX11_bring_X8_push
set_option maxRecDepth 20000 in
theorem ggX11_bring_X1_add : GoodIn wsX11_bring wsX1_add := goodIn_r _ [110, 27, 83, 111, 112, 113, 71, 114, 73, 74, 130, 131, 135, 136] (by decide +kernel) (by decide +kernel)
set_option maxRecDepth 20000 in
theorem gX11_bring_X1_add : GoodIn wsX11_bring (wsV RX11 83 RX1 yX1_add wsX1_add) := goodIn_app (goodIn_of _ (by decide +kernel)) ggX11_bring_X1_add
theorem dX11_bring_0 : decode cX11_bring 0 = .ok (.aload_n 0, 1) := by decide +kernel
theorem dX11_bring_1 : decode cX11_bring 1 = .ok (.getfield 10, 3) := by decide +kernel
theorem dX11_bring_4 : decode cX11_bring 4 = .ok (.iload_n 1, 1) := by decide +kernel
theorem dX11_bring_5 : decode cX11_bring 5 = .ok (.iload_n 2, 1) := by decide +kernel
theorem dX11_bring_6 : decode cX11_bring 6 = .ok (.iload_n 3, 1) := by decide +kernel
theorem dX11_bring_7 : decode cX11_bring 7 = .ok (.invokevirtual 75, 3) := by decide +kernel
theorem dX11_bring_10 : decode cX11_bring 10 = .ok (.invokestatic 45, 3) := by decide +kernel
theorem dX11_bring_13 : decode cX11_bring 13 = .ok (.aload_n 0, 1) := by decide +kernel
theorem dX11_bring_14 : decode cX11_bring 14 = .ok (.getfield 26, 3) := by decide +kernel
theorem dX11_bring_17 : decode cX11_bring 17 = .ok (.aload_n 0, 1) := by decide +kernel
theorem dX11_bring_18 : decode cX11_bring 18 = .ok (.getfield 10, 3) := by decide +kernel
theorem dX11_bring_21 : decode cX11_bring 21 = .ok (.invokevirtual 49, 3) := by decide +kernel
theorem dX11_bring_24 : decode cX11_bring 24 = .ok (.aload_n 0, 1) := by decide +kernel
theorem dX11_bring_25 : decode cX11_bring 25 = .ok (.getfield 10, 3) := by decide +kernel
theorem dX11_bring_28 : decode cX11_bring 28 = .ok (.getfield 79, 3) := by decide +kernel
theorem dX11_bring_31 : decode cX11_bring 31 = .ok (.iload_n 1, 1) := by decide +kernel
theorem dX11_bring_32 : decode cX11_bring 32 = .ok (.iload_n 2, 1) := by decide +kernel
theorem dX11_bring_33 : decode cX11_bring 33 = .ok (.iload_n 3, 1) := by decide +kernel
theorem dX11_bring_34 : decode cX11_bring 34 = .ok (.invokevirtual 83, 3) := by decide +kernel
theorem dX11_bring_37 : decode cX11_bring 37 = .ok (.ireturn, 1) := by decide +kernel
set_option maxRecDepth 20000 in
theorem ggX11_takeBack_X1_has : GoodIn wsX11_takeBack wsX1_has := goodIn_r _ [7, 8, 119, 120] (by decide +kernel) (by decide +kernel)
set_option maxRecDepth 20000 in
theorem gX11_takeBack_X1_has : GoodIn wsX11_takeBack (wsV RX11 87 RX1 yX1_has wsX1_has) := goodIn_app (goodIn_of _ (by decide +kernel)) ggX11_takeBack_X1_has
set_option maxRecDepth 20000 in
theorem ggX11_takeBack_X11_refuse : GoodIn wsX11_takeBack wsX11_refuse := goodIn_ca (goodIn_ca (goodIn_ca (goodIn_r _ [12, 13, 14, 15, 16, 17, 18] (by decide +kernel) (by decide +kernel)) (goodIn_sub (fun _ h => List.mem_cons_of_mem _ (List.mem_append_left _ (List.mem_append_left _ (List.mem_append_right _ h)))) (by decide +kernel))) (goodIn_sub (fun _ h => List.mem_cons_of_mem _ (List.mem_append_left _ (List.mem_append_right _ h))) (by decide +kernel))) (goodIn_sub (fun _ h => List.mem_cons_of_mem _ (List.mem_append_right _ h)) (by decide +kernel))
set_option maxRecDepth 20000 in
theorem gX11_takeBack_X11_refuse : GoodIn wsX11_takeBack (va_wsS RX11 45 yX11_refuse wsX11_refuse) := goodIn_app (goodIn_of _ (by decide +kernel)) ggX11_takeBack_X11_refuse
set_option maxRecDepth 20000 in
theorem ggX11_takeBack_X8_push : GoodIn wsX11_takeBack wsX8_push := goodIn_r _ [23, 24, 25, 26, 27, 28, 29, 30, 31, 32, 22, 33, 34, 35, 36, 37, 38, 39, 40, 41, 42, 43, 44, 45, 46, 47, 48, 49, 50, 51, 52, 53, 54, 55, 56, 57, 58, 59, 60, 61, 62, 63, 64, 65, 66, 67, 68, 6, 69, 70, 8, 71, 72, 73, 74, 75, 76, 77, 78, 79, 80, 81, 82, 83, 84, 85, 86, 87, 88, 89, 90, 91, 92, 93, 121, 122, 123, 111, 112, 113, 114, 115, 116, 117, 118, 124, 125, 126, 127, 119, 120, 128, 129, 130, 131, 132] (by decide +kernel) (by decide +kernel)
set_option maxRecDepth 20000 in
theorem gX11_takeBack_X8_push : GoodIn wsX11_takeBack (wsV RX11 49 RX8 yX8_push wsX8_push) := goodIn_app (goodIn_of _ (by decide +kernel)) ggX11_takeBack_X8_push
set_option maxRecDepth 20000 in
theorem ggX11_takeBack_X1_remove : GoodIn wsX11_takeBack wsX1_remove := goodIn_r _ [97, 70, 8, 98, 99, 100, 58, 101, 60, 61, 102, 103, 104, 105, 62, 63, 64, 65, 119, 120, 126, 127] (by decide +kernel) (by decide +kernel)
set_option maxRecDepth 20000 in
theorem gX11_takeBack_X1_remove : GoodIn wsX11_takeBack (wsV RX11 91 RX1 yX1_remove wsX1_remove) := goodIn_app (goodIn_of _ (by decide +kernel)) ggX11_takeBack_X1_remove
theorem dX11_takeBack_0 : decode cX11_takeBack 0 = .ok (.aload_n 0, 1) := by decide +kernel
theorem dX11_takeBack_1 : decode cX11_takeBack 1 = .ok (.getfield 10, 3) := by decide +kernel
theorem dX11_takeBack_4 : decode cX11_takeBack 4 = .ok (.getfield 79, 3) := by decide +kernel
theorem dX11_takeBack_7 : decode cX11_takeBack 7 = .ok (.iload_n 1, 1) := by decide +kernel
theorem dX11_takeBack_8 : decode cX11_takeBack 8 = .ok (.invokevirtual 87, 3) := by decide +kernel
theorem dX11_takeBack_11 : decode cX11_takeBack 11 = .ok (.ifCond .eq 7, 3) := by decide +kernel
theorem dX11_takeBack_14 : decode cX11_takeBack 14 = .ok (.iconst 0, 1) := by decide +kernel
theorem dX11_takeBack_15 : decode cX11_takeBack 15 = .ok (.goto 4, 3) := by decide +kernel
theorem dX11_takeBack_18 : decode cX11_takeBack 18 = .ok (.iconst 1, 1) := by decide +kernel
theorem dX11_takeBack_19 : decode cX11_takeBack 19 = .ok (.invokestatic 45, 3) := by decide +kernel
theorem dX11_takeBack_22 : decode cX11_takeBack 22 = .ok (.aload_n 0, 1) := by decide +kernel
theorem dX11_takeBack_23 : decode cX11_takeBack 23 = .ok (.getfield 26, 3) := by decide +kernel
theorem dX11_takeBack_26 : decode cX11_takeBack 26 = .ok (.aload_n 0, 1) := by decide +kernel
theorem dX11_takeBack_27 : decode cX11_takeBack 27 = .ok (.getfield 10, 3) := by decide +kernel
theorem dX11_takeBack_30 : decode cX11_takeBack 30 = .ok (.invokevirtual 49, 3) := by decide +kernel
theorem dX11_takeBack_33 : decode cX11_takeBack 33 = .ok (.aload_n 0, 1) := by decide +kernel
theorem dX11_takeBack_34 : decode cX11_takeBack 34 = .ok (.getfield 10, 3) := by decide +kernel
theorem dX11_takeBack_37 : decode cX11_takeBack 37 = .ok (.getfield 79, 3) := by decide +kernel
theorem dX11_takeBack_40 : decode cX11_takeBack 40 = .ok (.iload_n 1, 1) := by decide +kernel
theorem dX11_takeBack_41 : decode cX11_takeBack 41 = .ok (.invokevirtual 91, 3) := by decide +kernel
theorem dX11_takeBack_44 : decode cX11_takeBack 44 = .ok (.ireturn, 1) := by decide +kernel
set_option maxRecDepth 20000 in
theorem ggX11_setS_X11_refuse : GoodIn wsX11_setS wsX11_refuse := goodIn_ca (goodIn_ca (goodIn_ca (goodIn_r _ [6, 7, 8, 9, 10, 11, 12] (by decide +kernel) (by decide +kernel)) (goodIn_sub (fun _ h => List.mem_cons_of_mem _ (List.mem_append_left _ (List.mem_append_left _ (List.mem_append_right _ h)))) (by decide +kernel))) (goodIn_sub (fun _ h => List.mem_cons_of_mem _ (List.mem_append_left _ (List.mem_append_right _ h))) (by decide +kernel))) (goodIn_sub (fun _ h => List.mem_cons_of_mem _ (List.mem_append_right _ h)) (by decide +kernel))
set_option maxRecDepth 20000 in
theorem gX11_setS_X11_refuse : GoodIn wsX11_setS (va_wsS RX11 45 yX11_refuse wsX11_refuse) := goodIn_app (goodIn_of _ (by decide +kernel)) ggX11_setS_X11_refuse
set_option maxRecDepth 20000 in
theorem ggX11_setS_X8_push : GoodIn wsX11_setS wsX8_push := goodIn_r _ [17, 18, 19, 20, 21, 22, 23, 24, 25, 26, 16, 27, 28, 29, 30, 31, 32, 33, 34, 35, 36, 37, 38, 39, 40, 41, 42, 43, 44, 45, 46, 47, 48, 49, 50, 51, 52, 53, 54, 55, 56, 57, 58, 59, 60, 61, 62, 63, 64, 65, 66, 67, 68, 69, 70, 71, 72, 73, 74, 75, 76, 77, 78, 79, 80, 81, 82, 83, 84, 85, 86, 87, 88, 89, 99, 100, 101, 102, 103, 104, 105, 106, 107, 108, 109, 110, 111, 112, 113, 114, 115, 116, 117, 118, 119, 120] (by decide +kernel) (by decide +kernel)
set_option maxRecDepth 20000 in
theorem gX11_setS_X8_push : GoodIn wsX11_setS (wsV RX11 49 RX8 yX8_push wsX8_push) := goodIn_app (goodIn_of _ (by decide +kernel)) ggX11_setS_X8_push
set_option maxRecDepth 20000 in
theorem ggX11_setS_X9_changeS : GoodIn wsX11_setS wsX9_changeS := goodIn_r _ [93, 39, 102, 103, 104, 105, 106, 107, 108, 109] (by decide +kernel) (by decide +kernel)
set_option maxRecDepth 20000 in
theorem gX11_setS_X9_changeS : GoodIn wsX11_setS (wsV RX11 94 RX9 yX9_changeS wsX9_changeS) := goodIn_app (goodIn_of _ (by decide +kernel)) ggX11_setS_X9_changeS
theorem dX11_setS_0 : decode cX11_setS 0 = .ok (.iload_n 1, 1) := by decide +kernel
theorem dX11_setS_1 : decode cX11_setS 1 = .ok (.ifCond .ge 7, 3) := by decide +kernel
theorem dX11_setS_4 : decode cX11_setS 4 = .ok (.iconst 2, 1) := by decide +kernel
theorem dX11_setS_5 : decode cX11_setS 5 = .ok (.goto 4, 3) := by decide +kernel
theorem dX11_setS_8 : decode cX11_setS 8 = .ok (.iconst 0, 1) := by decide +kernel
theorem dX11_setS_9 : decode cX11_setS 9 = .ok (.invokestatic 45, 3) := by decide +kernel
theorem dX11_setS_12 : decode cX11_setS 12 = .ok (.aload_n 0, 1) := by decide +kernel
theorem dX11_setS_13 : decode cX11_setS 13 = .ok (.getfield 26, 3) := by decide +kernel
theorem dX11_setS_16 : decode cX11_setS 16 = .ok (.aload_n 0, 1) := by decide +kernel
theorem dX11_setS_17 : decode cX11_setS 17 = .ok (.getfield 10, 3) := by decide +kernel
theorem dX11_setS_20 : decode cX11_setS 20 = .ok (.invokevirtual 49, 3) := by decide +kernel
theorem dX11_setS_23 : decode cX11_setS 23 = .ok (.aload_n 0, 1) := by decide +kernel
theorem dX11_setS_24 : decode cX11_setS 24 = .ok (.getfield 10, 3) := by decide +kernel
theorem dX11_setS_27 : decode cX11_setS 27 = .ok (.iload_n 1, 1) := by decide +kernel
theorem dX11_setS_28 : decode cX11_setS 28 = .ok (.invokevirtual 94, 3) := by decide +kernel
theorem dX11_setS_31 : decode cX11_setS 31 = .ok (.ireturn, 1) := by decide +kernel
set_option maxRecDepth 20000 in
theorem ggX11_bake_X9_whyNoDay : GoodIn wsX11_bake wsX9_whyNoDay := goodIn_r _ [8, 9, 10, 11, 12, 13, 14, 15, 16, 17, 18, 322, 323, 324, 325, 326, 327, 328, 329, 330, 331] (by decide +kernel) (by decide +kernel)
set_option maxRecDepth 20000 in
theorem gX11_bake_X9_whyNoDay : GoodIn wsX11_bake (wsV RX11 97 RX9 yX9_whyNoDay wsX9_whyNoDay) := goodIn_app (goodIn_of _ (by decide +kernel)) ggX11_bake_X9_whyNoDay
set_option maxRecDepth 20000 in
theorem ggX11_bake_X11_refuse : GoodIn wsX11_bake wsX11_refuse := goodIn_ca (goodIn_ca (goodIn_ca (goodIn_r _ [21, 22, 23, 24, 25, 26, 27] (by decide +kernel) (by decide +kernel)) (goodIn_sub (fun _ h => List.mem_cons_of_mem _ (List.mem_append_left _ (List.mem_append_left _ (List.mem_append_right _ h)))) (by decide +kernel))) (goodIn_sub (fun _ h => List.mem_cons_of_mem _ (List.mem_append_left _ (List.mem_append_right _ h))) (by decide +kernel))) (goodIn_sub (fun _ h => List.mem_cons_of_mem _ (List.mem_append_right _ h)) (by decide +kernel))
set_option maxRecDepth 20000 in
theorem gX11_bake_X11_refuse : GoodIn wsX11_bake (va_wsS RX11 45 yX11_refuse wsX11_refuse) := goodIn_app (goodIn_of _ (by decide +kernel)) ggX11_bake_X11_refuse
set_option maxRecDepth 20000 in
theorem ggX11_bake_X8_push : GoodIn wsX11_bake wsX8_push := goodIn_r _ [32, 33, 34, 35, 36, 37, 38, 39, 40, 41, 31, 42, 43, 44, 45, 46, 7, 47, 48, 9, 49, 50, 51, 52, 53, 54, 55, 56, 57, 58, 59, 60, 61, 62, 63, 64, 65, 66, 67, 68, 69, 70, 71, 72, 73, 74, 75, 16, 76, 77, 18, 78, 79, 80, 81, 82, 83, 84, 85, 86, 87, 88, 89, 90, 91, 92, 93, 94, 95, 96, 97, 98, 99, 100, 332, 333, 334, 322, 323, 324, 325, 326, 327, 328, 329, 335, 336, 337, 338, 330, 331, 339, 340, 341, 342, 343] (by decide +kernel) (by decide +kernel)
set_option maxRecDepth 20000 in
theorem gX11_bake_X8_push : GoodIn wsX11_bake (wsV RX11 49 RX8 yX8_push wsX8_push) := goodIn_app (goodIn_of _ (by decide +kernel)) ggX11_bake_X8_push
set_option maxRecDepth 20000 in
theorem ggX11_bake_X9_haveDay : GoodIn wsX11_bake wsX9_haveDay := goodIn_r _ [104, 50, 48, 9, 49, 54, 105, 106, 37, 107, 51, 53, 108, 109, 110, 90, 111, 93, 112, 113, 114, 7, 115, 116, 117, 118, 58, 119, 61, 120, 121, 122, 123, 60, 124, 125, 126, 65, 127, 128, 129, 130, 131, 68, 67, 132, 133, 134, 135, 136, 137, 138, 139, 140, 141, 142, 143, 144, 145, 146, 147, 148, 149, 150, 151, 14, 15, 16, 17, 18, 152, 153, 154, 155, 77, 156, 157, 158, 159, 160, 161, 162, 163, 164, 165, 166, 167, 168, 169, 170, 36, 38, 171, 172, 173, 174, 175, 176, 177, 178, 179, 180, 181, 182, 183, 184, 185, 186, 187, 82, 188, 85, 189, 190, 191, 192, 193, 194, 195, 196, 197, 198, 199, 200, 201, 202, 203, 204, 205, 206, 207, 84, 208, 209, 210, 211, 212, 213, 214, 215, 216, 79, 80, 81, 83, 86, 63, 64, 66, 69, 70, 71, 72, 217, 218, 219, 220, 221, 222, 223, 224, 225, 226, 227, 228, 229, 230, 231, 232, 233, 234, 235, 236, 237, 238, 239, 240, 241, 242, 243, 244, 245, 246, 247, 248, 249, 250, 251, 252, 253, 254, 255, 256, 257, 258, 259, 260, 261, 262, 263, 52, 264, 265, 266, 267, 268, 269, 92, 94, 270, 271, 272, 273, 274, 275, 276, 277, 278, 279, 280, 281, 282, 283, 284, 285, 286, 95, 96, 97, 98, 99, 287, 288, 289, 290, 291, 292, 293, 294, 295, 296, 11, 297, 298, 299, 300, 301, 302, 303, 304, 305, 306, 307, 308, 309, 310, 311, 312, 313, 314, 315, 316, 322, 323, 324, 325, 326, 327, 328, 329, 341, 342, 343, 335, 336, 337, 338, 344, 345, 346, 347, 348, 349, 350, 330, 331, 339, 340] (by decide +kernel) (by decide +kernel)
set_option maxRecDepth 20000 in
theorem gX11_bake_X9_haveDay : GoodIn wsX11_bake (wsV RX11 100 RX9 yX9_haveDay wsX9_haveDay) := goodIn_app (goodIn_of _ (by decide +kernel)) ggX11_bake_X9_haveDay
theorem dX11_bake_0 : decode cX11_bake 0 = .ok (.aload_n 0, 1) := by decide +kernel
theorem dX11_bake_1 : decode cX11_bake 1 = .ok (.getfield 10, 3) := by decide +kernel
theorem dX11_bake_4 : decode cX11_bake 4 = .ok (.iload_n 1, 1) := by decide +kernel
theorem dX11_bake_5 : decode cX11_bake 5 = .ok (.invokevirtual 97, 3) := by decide +kernel
theorem dX11_bake_8 : decode cX11_bake 8 = .ok (.invokestatic 45, 3) := by decide +kernel
theorem dX11_bake_11 : decode cX11_bake 11 = .ok (.aload_n 0, 1) := by decide +kernel
theorem dX11_bake_12 : decode cX11_bake 12 = .ok (.getfield 26, 3) := by decide +kernel
theorem dX11_bake_15 : decode cX11_bake 15 = .ok (.aload_n 0, 1) := by decide +kernel
theorem dX11_bake_16 : decode cX11_bake 16 = .ok (.getfield 10, 3) := by decide +kernel
theorem dX11_bake_19 : decode cX11_bake 19 = .ok (.invokevirtual 49, 3) := by decide +kernel
theorem dX11_bake_22 : decode cX11_bake 22 = .ok (.aload_n 0, 1) := by decide +kernel
theorem dX11_bake_23 : decode cX11_bake 23 = .ok (.getfield 10, 3) := by decide +kernel
theorem dX11_bake_26 : decode cX11_bake 26 = .ok (.iload_n 1, 1) := by decide +kernel
theorem dX11_bake_27 : decode cX11_bake 27 = .ok (.aload_n 0, 1) := by decide +kernel
theorem dX11_bake_28 : decode cX11_bake 28 = .ok (.getfield 19, 3) := by decide +kernel
theorem dX11_bake_31 : decode cX11_bake 31 = .ok (.invokevirtual 100, 3) := by decide +kernel
theorem dX11_bake_34 : decode cX11_bake 34 = .ok (.ireturn, 1) := by decide +kernel
set_option maxRecDepth 20000 in
theorem ggX11_claim_X9_whyNoHousehold : GoodIn wsX11_claim wsX9_whyNoHousehold := goodIn_r _ [7, 8, 9, 10, 11, 12, 13, 14, 150, 151, 152, 153, 154, 155, 156, 157, 158, 159] (by decide +kernel) (by decide +kernel)
set_option maxRecDepth 20000 in
theorem gX11_claim_X9_whyNoHousehold : GoodIn wsX11_claim (wsV RX11 69 RX9 yX9_whyNoHousehold wsX9_whyNoHousehold) := goodIn_app (goodIn_of _ (by decide +kernel)) ggX11_claim_X9_whyNoHousehold
set_option maxRecDepth 20000 in
theorem ggX11_claim_X11_refuse : GoodIn wsX11_claim wsX11_refuse := goodIn_ca (goodIn_ca (goodIn_ca (goodIn_r _ [18, 19, 20, 21, 22, 23, 24] (by decide +kernel) (by decide +kernel)) (goodIn_sub (fun _ h => List.mem_cons_of_mem _ (List.mem_append_left _ (List.mem_append_left _ (List.mem_append_right _ h)))) (by decide +kernel))) (goodIn_sub (fun _ h => List.mem_cons_of_mem _ (List.mem_append_left _ (List.mem_append_right _ h))) (by decide +kernel))) (goodIn_sub (fun _ h => List.mem_cons_of_mem _ (List.mem_append_right _ h)) (by decide +kernel))
set_option maxRecDepth 20000 in
theorem gX11_claim_X11_refuse : GoodIn wsX11_claim (va_wsS RX11 45 yX11_refuse wsX11_refuse) := goodIn_app (goodIn_of _ (by decide +kernel)) ggX11_claim_X11_refuse
set_option maxRecDepth 20000 in
theorem ggX11_claim_X8_push : GoodIn wsX11_claim wsX8_push := goodIn_r _ [29, 30, 31, 32, 33, 34, 35, 36, 37, 38, 28, 39, 40, 41, 42, 43, 6, 44, 8, 45, 46, 47, 48, 49, 50, 51, 52, 53, 54, 12, 55, 56, 14, 57, 58, 59, 60, 61, 62, 63, 64, 65, 66, 67, 68, 69, 70, 71, 72, 73, 74, 75, 76, 77, 78, 79, 80, 81, 82, 83, 84, 85, 86, 87, 88, 89, 90, 91, 92, 93, 94, 95, 96, 97, 160, 161, 162, 150, 151, 152, 153, 154, 155, 156, 157, 158, 159, 163, 164, 165, 166, 167, 168, 169, 170, 171] (by decide +kernel) (by decide +kernel)
set_option maxRecDepth 20000 in
theorem gX11_claim_X8_push : GoodIn wsX11_claim (wsV RX11 49 RX8 yX8_push wsX8_push) := goodIn_app (goodIn_of _ (by decide +kernel)) ggX11_claim_X8_push
set_option maxRecDepth 20000 in
theorem ggX11_claim_X9_letClaim : GoodIn wsX11_claim wsX9_letClaim := goodIn_r _ [101, 47, 8, 102, 103, 104, 12, 105, 56, 106, 107, 108, 60, 109, 62, 63, 110, 111, 112, 87, 113, 90, 114, 115, 116, 117, 118, 119, 120, 121, 89, 92, 93, 94, 95, 96, 33, 34, 35, 122, 123, 124, 125, 126, 127, 128, 129, 130, 131, 132, 133, 134, 135, 17, 136, 137, 138, 139, 140, 141, 142, 143, 144, 150, 151, 152, 153, 154, 155, 156, 157, 158, 159, 163, 164, 169, 170, 171] (by decide +kernel) (by decide +kernel)
set_option maxRecDepth 20000 in
theorem gX11_claim_X9_letClaim : GoodIn wsX11_claim (wsV RX11 104 RX9 yX9_letClaim wsX9_letClaim) := goodIn_app (goodIn_of _ (by decide +kernel)) ggX11_claim_X9_letClaim
theorem dX11_claim_0 : decode cX11_claim 0 = .ok (.aload_n 0, 1) := by decide +kernel
theorem dX11_claim_1 : decode cX11_claim 1 = .ok (.getfield 10, 3) := by decide +kernel
theorem dX11_claim_4 : decode cX11_claim 4 = .ok (.iload_n 1, 1) := by decide +kernel
theorem dX11_claim_5 : decode cX11_claim 5 = .ok (.invokevirtual 69, 3) := by decide +kernel
theorem dX11_claim_8 : decode cX11_claim 8 = .ok (.invokestatic 45, 3) := by decide +kernel
theorem dX11_claim_11 : decode cX11_claim 11 = .ok (.aload_n 0, 1) := by decide +kernel
theorem dX11_claim_12 : decode cX11_claim 12 = .ok (.getfield 26, 3) := by decide +kernel
theorem dX11_claim_15 : decode cX11_claim 15 = .ok (.aload_n 0, 1) := by decide +kernel
theorem dX11_claim_16 : decode cX11_claim 16 = .ok (.getfield 10, 3) := by decide +kernel
theorem dX11_claim_19 : decode cX11_claim 19 = .ok (.invokevirtual 49, 3) := by decide +kernel
theorem dX11_claim_22 : decode cX11_claim 22 = .ok (.aload_n 0, 1) := by decide +kernel
theorem dX11_claim_23 : decode cX11_claim 23 = .ok (.getfield 10, 3) := by decide +kernel
theorem dX11_claim_26 : decode cX11_claim 26 = .ok (.iload_n 1, 1) := by decide +kernel
theorem dX11_claim_27 : decode cX11_claim 27 = .ok (.invokevirtual 104, 3) := by decide +kernel
theorem dX11_claim_30 : decode cX11_claim 30 = .ok (.ireturn, 1) := by decide +kernel
set_option maxRecDepth 20000 in
theorem ggX11_returnLoaves_X9_whyNoHousehold : GoodIn wsX11_returnLoaves wsX9_whyNoHousehold := goodIn_r _ [7, 8, 9, 10, 11, 12, 13, 14, 139, 140, 141, 142, 143, 144, 145, 146, 147, 148] (by decide +kernel) (by decide +kernel)
set_option maxRecDepth 20000 in
theorem gX11_returnLoaves_X9_whyNoHousehold : GoodIn wsX11_returnLoaves (wsV RX11 69 RX9 yX9_whyNoHousehold wsX9_whyNoHousehold) := goodIn_app (goodIn_of _ (by decide +kernel)) ggX11_returnLoaves_X9_whyNoHousehold
set_option maxRecDepth 20000 in
theorem ggX11_returnLoaves_X11_refuse : GoodIn wsX11_returnLoaves wsX11_refuse := goodIn_ca (goodIn_ca (goodIn_ca (goodIn_r _ [18, 19, 20, 21, 22, 23, 24] (by decide +kernel) (by decide +kernel)) (goodIn_sub (fun _ h => List.mem_cons_of_mem _ (List.mem_append_left _ (List.mem_append_left _ (List.mem_append_right _ h)))) (by decide +kernel))) (goodIn_sub (fun _ h => List.mem_cons_of_mem _ (List.mem_append_left _ (List.mem_append_right _ h))) (by decide +kernel))) (goodIn_sub (fun _ h => List.mem_cons_of_mem _ (List.mem_append_right _ h)) (by decide +kernel))
set_option maxRecDepth 20000 in
theorem gX11_returnLoaves_X11_refuse : GoodIn wsX11_returnLoaves (va_wsS RX11 45 yX11_refuse wsX11_refuse) := goodIn_app (goodIn_of _ (by decide +kernel)) ggX11_returnLoaves_X11_refuse
set_option maxRecDepth 20000 in
theorem ggX11_returnLoaves_X8_push : GoodIn wsX11_returnLoaves wsX8_push := goodIn_r _ [29, 30, 31, 32, 33, 34, 35, 36, 37, 38, 28, 39, 40, 41, 42, 43, 6, 44, 8, 45, 46, 47, 48, 49, 50, 51, 52, 53, 54, 12, 55, 56, 14, 57, 58, 59, 60, 61, 62, 63, 64, 65, 66, 67, 68, 69, 70, 71, 72, 73, 74, 75, 76, 77, 78, 79, 80, 81, 82, 83, 84, 85, 86, 87, 88, 89, 90, 91, 92, 93, 94, 95, 96, 97, 149, 150, 151, 139, 140, 141, 142, 143, 144, 145, 146, 147, 148, 152, 153, 154, 155, 156, 157, 158, 159, 160] (by decide +kernel) (by decide +kernel)
set_option maxRecDepth 20000 in
theorem gX11_returnLoaves_X8_push : GoodIn wsX11_returnLoaves (wsV RX11 49 RX8 yX8_push wsX8_push) := goodIn_app (goodIn_of _ (by decide +kernel)) ggX11_returnLoaves_X8_push
set_option maxRecDepth 20000 in
theorem ggX11_returnLoaves_X6_moveToShelf : GoodIn wsX11_returnLoaves wsX6_moveToShelf := goodIn_r _ [101, 90, 102, 103, 104, 87, 105, 106, 107, 108, 109, 89, 92, 93, 94, 95, 96, 33, 34, 35, 110, 111, 112, 60, 113, 63, 62, 114, 115, 116, 117, 118, 119, 120, 121, 122, 123, 124, 125, 126, 127, 128, 129, 130, 131, 132, 133, 158, 159, 160, 152, 153] (by decide +kernel) (by decide +kernel)
set_option maxRecDepth 20000 in
theorem gX11_returnLoaves_X6_moveToShelf : GoodIn wsX11_returnLoaves (wsV RX11 111 RX6 yX6_moveToShelf wsX6_moveToShelf) := goodIn_app (goodIn_of _ (by decide +kernel)) ggX11_returnLoaves_X6_moveToShelf
theorem dX11_returnLoaves_0 : decode cX11_returnLoaves 0 = .ok (.aload_n 0, 1) := by decide +kernel
theorem dX11_returnLoaves_1 : decode cX11_returnLoaves 1 = .ok (.getfield 10, 3) := by decide +kernel
theorem dX11_returnLoaves_4 : decode cX11_returnLoaves 4 = .ok (.iload_n 1, 1) := by decide +kernel
theorem dX11_returnLoaves_5 : decode cX11_returnLoaves 5 = .ok (.invokevirtual 69, 3) := by decide +kernel
theorem dX11_returnLoaves_8 : decode cX11_returnLoaves 8 = .ok (.invokestatic 45, 3) := by decide +kernel
theorem dX11_returnLoaves_11 : decode cX11_returnLoaves 11 = .ok (.aload_n 0, 1) := by decide +kernel
theorem dX11_returnLoaves_12 : decode cX11_returnLoaves 12 = .ok (.getfield 26, 3) := by decide +kernel
theorem dX11_returnLoaves_15 : decode cX11_returnLoaves 15 = .ok (.aload_n 0, 1) := by decide +kernel
theorem dX11_returnLoaves_16 : decode cX11_returnLoaves 16 = .ok (.getfield 10, 3) := by decide +kernel
theorem dX11_returnLoaves_19 : decode cX11_returnLoaves 19 = .ok (.invokevirtual 49, 3) := by decide +kernel
theorem dX11_returnLoaves_22 : decode cX11_returnLoaves 22 = .ok (.aload_n 0, 1) := by decide +kernel
theorem dX11_returnLoaves_23 : decode cX11_returnLoaves 23 = .ok (.getfield 10, 3) := by decide +kernel
theorem dX11_returnLoaves_26 : decode cX11_returnLoaves 26 = .ok (.getfield 107, 3) := by decide +kernel
theorem dX11_returnLoaves_29 : decode cX11_returnLoaves 29 = .ok (.iload_n 1, 1) := by decide +kernel
theorem dX11_returnLoaves_30 : decode cX11_returnLoaves 30 = .ok (.invokevirtual 111, 3) := by decide +kernel
theorem dX11_returnLoaves_33 : decode cX11_returnLoaves 33 = .ok (.ireturn, 1) := by decide +kernel
set_option maxRecDepth 20000 in
theorem ggX11_giveAway_X8_push : GoodIn wsX11_giveAway wsX8_push := goodIn_r _ [7, 8, 9, 10, 11, 12, 13, 14, 15, 16, 6, 17, 18, 19, 20, 21, 22, 23, 24, 25, 26, 27, 28, 29, 30, 31, 32, 33, 34, 35, 36, 37, 38, 39, 40, 41, 42, 43, 44, 45, 46, 47, 48, 49, 50, 51, 52, 53, 54, 55, 56, 57, 58, 59, 60, 61, 62, 63, 64, 65, 66, 67, 68, 69, 70, 71, 72, 73, 74, 75, 76, 77, 78, 79, 105, 106, 107, 97, 98, 99, 100, 101, 102, 103, 104, 108, 109, 110, 111, 112, 113, 114, 115, 116, 117, 118] (by decide +kernel) (by decide +kernel)
set_option maxRecDepth 20000 in
theorem gX11_giveAway_X8_push : GoodIn wsX11_giveAway (wsV RX11 49 RX8 yX8_push wsX8_push) := goodIn_app (goodIn_of _ (by decide +kernel)) ggX11_giveAway_X8_push
set_option maxRecDepth 20000 in
theorem ggX11_giveAway_X6_emptyShelf : GoodIn wsX11_giveAway wsX6_emptyShelf := goodIn_r _ [83, 71, 74, 75, 76, 69, 77, 72, 78, 11, 12, 13, 84, 85, 86, 42, 87, 44, 45, 88, 89, 90, 91, 116, 117, 118, 110, 111] (by decide +kernel) (by decide +kernel)
set_option maxRecDepth 20000 in
theorem gX11_giveAway_X6_emptyShelf : GoodIn wsX11_giveAway (wsV RX11 116 RX6 yX6_emptyShelf wsX6_emptyShelf) := goodIn_app (goodIn_of _ (by decide +kernel)) ggX11_giveAway_X6_emptyShelf
theorem dX11_giveAway_0 : decode cX11_giveAway 0 = .ok (.aload_n 0, 1) := by decide +kernel
theorem dX11_giveAway_1 : decode cX11_giveAway 1 = .ok (.getfield 26, 3) := by decide +kernel
theorem dX11_giveAway_4 : decode cX11_giveAway 4 = .ok (.aload_n 0, 1) := by decide +kernel
theorem dX11_giveAway_5 : decode cX11_giveAway 5 = .ok (.getfield 10, 3) := by decide +kernel
theorem dX11_giveAway_8 : decode cX11_giveAway 8 = .ok (.invokevirtual 49, 3) := by decide +kernel
theorem dX11_giveAway_11 : decode cX11_giveAway 11 = .ok (.aload_n 0, 1) := by decide +kernel
theorem dX11_giveAway_12 : decode cX11_giveAway 12 = .ok (.getfield 10, 3) := by decide +kernel
theorem dX11_giveAway_15 : decode cX11_giveAway 15 = .ok (.getfield 107, 3) := by decide +kernel
theorem dX11_giveAway_18 : decode cX11_giveAway 18 = .ok (.invokevirtual 116, 3) := by decide +kernel
theorem dX11_giveAway_21 : decode cX11_giveAway 21 = .ok (.ireturn, 1) := by decide +kernel
set_option maxRecDepth 20000 in
theorem ggX11_household_X9_whyNoHousehold : GoodIn wsX11_household wsX9_whyNoHousehold := goodIn_r _ [6, 7, 8, 9, 10, 11, 12, 13, 83, 84, 85, 86, 87, 88, 89, 90, 91, 92] (by decide +kernel) (by decide +kernel)
set_option maxRecDepth 20000 in
theorem gX11_household_X9_whyNoHousehold : GoodIn wsX11_household (wsV RX11 69 RX9 yX9_whyNoHousehold wsX9_whyNoHousehold) := goodIn_app (goodIn_of _ (by decide +kernel)) ggX11_household_X9_whyNoHousehold
set_option maxRecDepth 20000 in
theorem ggX11_household_X11_refuse : GoodIn wsX11_household wsX11_refuse := goodIn_ca (goodIn_ca (goodIn_ca (goodIn_r _ [17, 18, 19, 20, 21, 22, 23] (by decide +kernel) (by decide +kernel)) (goodIn_sub (fun _ h => List.mem_cons_of_mem _ (List.mem_append_left _ (List.mem_append_left _ (List.mem_append_right _ h)))) (by decide +kernel))) (goodIn_sub (fun _ h => List.mem_cons_of_mem _ (List.mem_append_left _ (List.mem_append_right _ h))) (by decide +kernel))) (goodIn_sub (fun _ h => List.mem_cons_of_mem _ (List.mem_append_right _ h)) (by decide +kernel))
set_option maxRecDepth 20000 in
theorem gX11_household_X11_refuse : GoodIn wsX11_household (va_wsS RX11 45 yX11_refuse wsX11_refuse) := goodIn_app (goodIn_of _ (by decide +kernel)) ggX11_household_X11_refuse
set_option maxRecDepth 20000 in
theorem ggX11_household_X11_whyNotBelow : GoodIn wsX11_household wsX11_whyNotBelow := goodIn_r _ [26, 27, 28, 16, 29] (by decide +kernel) (by decide +kernel)
set_option maxRecDepth 20000 in
theorem gX11_household_X11_whyNotBelow : GoodIn wsX11_household (va_wsS RX11 120 yX11_whyNotBelow wsX11_whyNotBelow) := goodIn_app (goodIn_of _ (by decide +kernel)) ggX11_household_X11_whyNotBelow
set_option maxRecDepth 20000 in
theorem ggX11_household_X6_countWith : GoodIn wsX11_household wsX6_countWith := goodIn_r _ [34, 35, 36, 37, 38, 33, 39, 40, 41, 42, 43, 44, 45, 46, 47, 48, 49, 50, 51, 52, 53, 54, 55, 93, 94, 95, 96, 97] (by decide +kernel) (by decide +kernel)
set_option maxRecDepth 20000 in
theorem gX11_household_X6_countWith : GoodIn wsX11_household (wsV RX11 123 RX6 yX6_countWith wsX6_countWith) := goodIn_app (goodIn_of _ (by decide +kernel)) ggX11_household_X6_countWith
set_option maxRecDepth 20000 in
theorem ggX11_household_X6_countWithBoth : GoodIn wsX11_household wsX6_countWithBoth := goodIn_r _ [59, 35, 36, 37, 38, 33, 39, 40, 41, 42, 43, 44, 60, 51, 52, 48, 53, 54, 55, 93, 94, 95, 96, 97] (by decide +kernel) (by decide +kernel)
set_option maxRecDepth 20000 in
theorem gX11_household_X6_countWithBoth : GoodIn wsX11_household (wsV RX11 126 RX6 yX6_countWithBoth wsX6_countWithBoth) := goodIn_app (goodIn_of _ (by decide +kernel)) ggX11_household_X6_countWithBoth
set_option maxRecDepth 20000 in
theorem ggX11_household_X1_countOf : GoodIn wsX11_household wsX1_countOf := goodIn_r _ [65, 66, 67, 68, 46, 47, 48, 49, 50, 51, 52, 53, 54, 55, 98, 99, 96, 97] (by decide +kernel) (by decide +kernel)
set_option maxRecDepth 20000 in
theorem gX11_household_X1_countOf : GoodIn wsX11_household (wsV RX11 130 RX1 yX1_countOf wsX1_countOf) := goodIn_app (goodIn_of _ (by decide +kernel)) ggX11_household_X1_countOf
set_option maxRecDepth 20000 in
theorem ggX11_household_X4_value : GoodIn wsX11_household wsX4_value := goodIn_r _ [72, 73, 74, 75, 76, 48, 77, 55, 54, 91, 92, 96, 97] (by decide +kernel) (by decide +kernel)
set_option maxRecDepth 20000 in
theorem gX11_household_X4_value : GoodIn wsX11_household (wsV RX11 133 RX4 yX4_value wsX4_value) := goodIn_app (goodIn_of _ (by decide +kernel)) ggX11_household_X4_value
theorem dX11_household_0 : decode cX11_household 0 = .ok (.aload_n 0, 1) := by decide +kernel
theorem dX11_household_1 : decode cX11_household 1 = .ok (.getfield 10, 3) := by decide +kernel
theorem dX11_household_4 : decode cX11_household 4 = .ok (.iload_n 1, 1) := by decide +kernel
theorem dX11_household_5 : decode cX11_household 5 = .ok (.invokevirtual 69, 3) := by decide +kernel
theorem dX11_household_8 : decode cX11_household 8 = .ok (.invokestatic 45, 3) := by decide +kernel
theorem dX11_household_11 : decode cX11_household 11 = .ok (.iload_n 2, 1) := by decide +kernel
theorem dX11_household_12 : decode cX11_household 12 = .ok (.bipush 8, 2) := by decide +kernel
theorem dX11_household_14 : decode cX11_household 14 = .ok (.invokestatic 120, 3) := by decide +kernel
theorem dX11_household_17 : decode cX11_household 17 = .ok (.invokestatic 45, 3) := by decide +kernel
theorem dX11_household_20 : decode cX11_household 20 = .ok (.iload_n 2, 1) := by decide +kernel
theorem dX11_household_21 : decode cX11_household 21 = .ok (.tableswitch 84 4 7 #[31, 44, 57, 72], 31) := by decide +kernel
theorem dX11_household_52 : decode cX11_household 52 = .ok (.aload_n 0, 1) := by decide +kernel
theorem dX11_household_53 : decode cX11_household 53 = .ok (.getfield 10, 3) := by decide +kernel
theorem dX11_household_56 : decode cX11_household 56 = .ok (.getfield 107, 3) := by decide +kernel
theorem dX11_household_59 : decode cX11_household 59 = .ok (.iconst 0, 1) := by decide +kernel
theorem dX11_household_60 : decode cX11_household 60 = .ok (.iload_n 1, 1) := by decide +kernel
theorem dX11_household_61 : decode cX11_household 61 = .ok (.invokevirtual 123, 3) := by decide +kernel
theorem dX11_household_64 : decode cX11_household 64 = .ok (.ireturn, 1) := by decide +kernel
theorem dX11_household_65 : decode cX11_household 65 = .ok (.aload_n 0, 1) := by decide +kernel
theorem dX11_household_66 : decode cX11_household 66 = .ok (.getfield 10, 3) := by decide +kernel
theorem dX11_household_69 : decode cX11_household 69 = .ok (.getfield 107, 3) := by decide +kernel
theorem dX11_household_72 : decode cX11_household 72 = .ok (.iconst 5, 1) := by decide +kernel
theorem dX11_household_73 : decode cX11_household 73 = .ok (.iload_n 1, 1) := by decide +kernel
theorem dX11_household_74 : decode cX11_household 74 = .ok (.invokevirtual 123, 3) := by decide +kernel
theorem dX11_household_77 : decode cX11_household 77 = .ok (.ireturn, 1) := by decide +kernel
theorem dX11_household_78 : decode cX11_household 78 = .ok (.aload_n 0, 1) := by decide +kernel
theorem dX11_household_79 : decode cX11_household 79 = .ok (.getfield 10, 3) := by decide +kernel
theorem dX11_household_82 : decode cX11_household 82 = .ok (.getfield 107, 3) := by decide +kernel
theorem dX11_household_85 : decode cX11_household 85 = .ok (.iconst 0, 1) := by decide +kernel
theorem dX11_household_86 : decode cX11_household 86 = .ok (.iload_n 1, 1) := by decide +kernel
theorem dX11_household_87 : decode cX11_household 87 = .ok (.iconst 5, 1) := by decide +kernel
theorem dX11_household_88 : decode cX11_household 88 = .ok (.iload_n 1, 1) := by decide +kernel
theorem dX11_household_89 : decode cX11_household 89 = .ok (.invokevirtual 126, 3) := by decide +kernel
theorem dX11_household_92 : decode cX11_household 92 = .ok (.ireturn, 1) := by decide +kernel
theorem dX11_household_93 : decode cX11_household 93 = .ok (.aload_n 0, 1) := by decide +kernel
theorem dX11_household_94 : decode cX11_household 94 = .ok (.getfield 10, 3) := by decide +kernel
theorem dX11_household_97 : decode cX11_household 97 = .ok (.getfield 79, 3) := by decide +kernel
theorem dX11_household_100 : decode cX11_household 100 = .ok (.iload_n 1, 1) := by decide +kernel
theorem dX11_household_101 : decode cX11_household 101 = .ok (.invokevirtual 130, 3) := by decide +kernel
theorem dX11_household_104 : decode cX11_household 104 = .ok (.ireturn, 1) := by decide +kernel
theorem dX11_household_105 : decode cX11_household 105 = .ok (.aload_n 0, 1) := by decide +kernel
theorem dX11_household_106 : decode cX11_household 106 = .ok (.getfield 10, 3) := by decide +kernel
theorem dX11_household_109 : decode cX11_household 109 = .ok (.getfield 53, 3) := by decide +kernel
theorem dX11_household_112 : decode cX11_household 112 = .ok (.iload_n 1, 1) := by decide +kernel
theorem dX11_household_113 : decode cX11_household 113 = .ok (.iload_n 2, 1) := by decide +kernel
theorem dX11_household_114 : decode cX11_household 114 = .ok (.invokevirtual 133, 3) := by decide +kernel
theorem dX11_household_117 : decode cX11_household 117 = .ok (.ireturn, 1) := by decide +kernel
set_option maxRecDepth 20000 in
theorem ggX11_due_X9_whyNoHousehold : GoodIn wsX11_due wsX9_whyNoHousehold := goodIn_r _ [6, 7, 8, 9, 10, 11, 12, 13, 45, 46, 47, 48, 49, 50, 51, 52, 53, 54] (by decide +kernel) (by decide +kernel)
set_option maxRecDepth 20000 in
theorem gX11_due_X9_whyNoHousehold : GoodIn wsX11_due (wsV RX11 69 RX9 yX9_whyNoHousehold wsX9_whyNoHousehold) := goodIn_app (goodIn_of _ (by decide +kernel)) ggX11_due_X9_whyNoHousehold
set_option maxRecDepth 20000 in
theorem ggX11_due_X11_refuse : GoodIn wsX11_due wsX11_refuse := goodIn_ca (goodIn_ca (goodIn_ca (goodIn_r _ [17, 18, 19, 20, 21, 22, 23] (by decide +kernel) (by decide +kernel)) (goodIn_sub (fun _ h => List.mem_cons_of_mem _ (List.mem_append_left _ (List.mem_append_left _ (List.mem_append_right _ h)))) (by decide +kernel))) (goodIn_sub (fun _ h => List.mem_cons_of_mem _ (List.mem_append_left _ (List.mem_append_right _ h))) (by decide +kernel))) (goodIn_sub (fun _ h => List.mem_cons_of_mem _ (List.mem_append_right _ h)) (by decide +kernel))
set_option maxRecDepth 20000 in
theorem gX11_due_X11_refuse : GoodIn wsX11_due (va_wsS RX11 45 yX11_refuse wsX11_refuse) := goodIn_app (goodIn_of _ (by decide +kernel)) ggX11_due_X11_refuse
set_option maxRecDepth 20000 in
theorem ggX11_due_X4_dueOf : GoodIn wsX11_due wsX4_dueOf := goodIn_r _ [27, 28, 13, 29, 30, 31, 32, 33, 34, 35, 36, 37, 38, 39, 53, 54, 55, 56] (by decide +kernel) (by decide +kernel)
set_option maxRecDepth 20000 in
theorem gX11_due_X4_dueOf : GoodIn wsX11_due (wsV RX11 136 RX4 yX4_dueOf wsX4_dueOf) := goodIn_app (goodIn_of _ (by decide +kernel)) ggX11_due_X4_dueOf
theorem dX11_due_0 : decode cX11_due 0 = .ok (.aload_n 0, 1) := by decide +kernel
theorem dX11_due_1 : decode cX11_due 1 = .ok (.getfield 10, 3) := by decide +kernel
theorem dX11_due_4 : decode cX11_due 4 = .ok (.iload_n 1, 1) := by decide +kernel
theorem dX11_due_5 : decode cX11_due 5 = .ok (.invokevirtual 69, 3) := by decide +kernel
theorem dX11_due_8 : decode cX11_due 8 = .ok (.invokestatic 45, 3) := by decide +kernel
theorem dX11_due_11 : decode cX11_due 11 = .ok (.aload_n 0, 1) := by decide +kernel
theorem dX11_due_12 : decode cX11_due 12 = .ok (.getfield 10, 3) := by decide +kernel
theorem dX11_due_15 : decode cX11_due 15 = .ok (.getfield 53, 3) := by decide +kernel
theorem dX11_due_18 : decode cX11_due 18 = .ok (.iload_n 1, 1) := by decide +kernel
theorem dX11_due_19 : decode cX11_due 19 = .ok (.invokevirtual 136, 3) := by decide +kernel
theorem dX11_due_22 : decode cX11_due 22 = .ok (.lreturn, 1) := by decide +kernel
set_option maxRecDepth 20000 in
theorem ggX11_nextForWood_X4_nextOne : GoodIn wsX11_nextForWood wsX4_nextOne := goodIn_r _ [6, 7, 8, 9, 10, 11, 12, 13, 14, 15, 16, 17, 18, 19, 20, 21, 22, 23, 24, 25, 26, 5, 27, 28, 29, 30, 31, 45, 46, 47, 48] (by decide +kernel) (by decide +kernel)
set_option maxRecDepth 20000 in
theorem gX11_nextForWood_X4_nextOne : GoodIn wsX11_nextForWood (wsV RX11 140 RX4 yX4_nextOne wsX4_nextOne) := goodIn_app (goodIn_of _ (by decide +kernel)) ggX11_nextForWood_X4_nextOne
theorem dX11_nextForWood_0 : decode cX11_nextForWood 0 = .ok (.aload_n 0, 1) := by decide +kernel
theorem dX11_nextForWood_1 : decode cX11_nextForWood 1 = .ok (.getfield 10, 3) := by decide +kernel
theorem dX11_nextForWood_4 : decode cX11_nextForWood 4 = .ok (.getfield 53, 3) := by decide +kernel
theorem dX11_nextForWood_7 : decode cX11_nextForWood 7 = .ok (.invokevirtual 140, 3) := by decide +kernel
theorem dX11_nextForWood_10 : decode cX11_nextForWood 10 = .ok (.ireturn, 1) := by decide +kernel
set_option maxRecDepth 20000 in
theorem ggX11_balance_X9_whyNoHousehold : GoodIn wsX11_balance wsX9_whyNoHousehold := goodIn_r _ [6, 7, 8, 9, 10, 11, 12, 13, 61, 62, 63, 64, 65, 66, 67, 68, 69, 70] (by decide +kernel) (by decide +kernel)
set_option maxRecDepth 20000 in
theorem gX11_balance_X9_whyNoHousehold : GoodIn wsX11_balance (wsV RX11 69 RX9 yX9_whyNoHousehold wsX9_whyNoHousehold) := goodIn_app (goodIn_of _ (by decide +kernel)) ggX11_balance_X9_whyNoHousehold
set_option maxRecDepth 20000 in
theorem ggX11_balance_X11_refuse : GoodIn wsX11_balance wsX11_refuse := goodIn_ca (goodIn_ca (goodIn_ca (goodIn_r _ [17, 18, 19, 20, 21, 22, 23] (by decide +kernel) (by decide +kernel)) (goodIn_sub (fun _ h => List.mem_cons_of_mem _ (List.mem_append_left _ (List.mem_append_left _ (List.mem_append_right _ h)))) (by decide +kernel))) (goodIn_sub (fun _ h => List.mem_cons_of_mem _ (List.mem_append_left _ (List.mem_append_right _ h))) (by decide +kernel))) (goodIn_sub (fun _ h => List.mem_cons_of_mem _ (List.mem_append_right _ h)) (by decide +kernel))
set_option maxRecDepth 20000 in
theorem gX11_balance_X11_refuse : GoodIn wsX11_balance (va_wsS RX11 45 yX11_refuse wsX11_refuse) := goodIn_app (goodIn_of _ (by decide +kernel)) ggX11_balance_X11_refuse
set_option maxRecDepth 20000 in
theorem ggX11_balance_X11_whyNotBelow : GoodIn wsX11_balance wsX11_whyNotBelow := goodIn_r _ [26, 27, 28, 16, 29] (by decide +kernel) (by decide +kernel)
set_option maxRecDepth 20000 in
theorem gX11_balance_X11_whyNotBelow : GoodIn wsX11_balance (va_wsS RX11 120 yX11_whyNotBelow wsX11_whyNotBelow) := goodIn_app (goodIn_of _ (by decide +kernel)) ggX11_balance_X11_whyNotBelow
set_option maxRecDepth 20000 in
theorem ggX11_balance_X6_balanceOf : GoodIn wsX11_balance wsX6_balanceOf := goodIn_r _ [34, 35, 36, 37, 33, 38, 39, 40, 41, 42, 43, 44, 45, 46, 47, 48, 49, 50, 51, 52, 53, 54, 55, 71, 72, 73, 74, 75] (by decide +kernel) (by decide +kernel)
set_option maxRecDepth 20000 in
theorem gX11_balance_X6_balanceOf : GoodIn wsX11_balance (wsV RX11 143 RX6 yX6_balanceOf wsX6_balanceOf) := goodIn_app (goodIn_of _ (by decide +kernel)) ggX11_balance_X6_balanceOf
theorem dX11_balance_0 : decode cX11_balance 0 = .ok (.aload_n 0, 1) := by decide +kernel
theorem dX11_balance_1 : decode cX11_balance 1 = .ok (.getfield 10, 3) := by decide +kernel
theorem dX11_balance_4 : decode cX11_balance 4 = .ok (.iload_n 1, 1) := by decide +kernel
theorem dX11_balance_5 : decode cX11_balance 5 = .ok (.invokevirtual 69, 3) := by decide +kernel
theorem dX11_balance_8 : decode cX11_balance 8 = .ok (.invokestatic 45, 3) := by decide +kernel
theorem dX11_balance_11 : decode cX11_balance 11 = .ok (.iload_n 2, 1) := by decide +kernel
theorem dX11_balance_12 : decode cX11_balance 12 = .ok (.iconst 3, 1) := by decide +kernel
theorem dX11_balance_13 : decode cX11_balance 13 = .ok (.invokestatic 120, 3) := by decide +kernel
theorem dX11_balance_16 : decode cX11_balance 16 = .ok (.invokestatic 45, 3) := by decide +kernel
theorem dX11_balance_19 : decode cX11_balance 19 = .ok (.aload_n 0, 1) := by decide +kernel
theorem dX11_balance_20 : decode cX11_balance 20 = .ok (.getfield 10, 3) := by decide +kernel
theorem dX11_balance_23 : decode cX11_balance 23 = .ok (.getfield 107, 3) := by decide +kernel
theorem dX11_balance_26 : decode cX11_balance 26 = .ok (.iload_n 1, 1) := by decide +kernel
theorem dX11_balance_27 : decode cX11_balance 27 = .ok (.iload_n 2, 1) := by decide +kernel
theorem dX11_balance_28 : decode cX11_balance 28 = .ok (.invokevirtual 143, 3) := by decide +kernel
theorem dX11_balance_31 : decode cX11_balance 31 = .ok (.ireturn, 1) := by decide +kernel
set_option maxRecDepth 20000 in
theorem ggX11_batch_X11_whyNotBelow : GoodIn wsX11_batch wsX11_whyNotBelow := goodIn_r _ [6, 7, 8, 5, 9] (by decide +kernel) (by decide +kernel)
set_option maxRecDepth 20000 in
theorem gX11_batch_X11_whyNotBelow : GoodIn wsX11_batch (va_wsS RX11 120 yX11_whyNotBelow wsX11_whyNotBelow) := goodIn_app (goodIn_of _ (by decide +kernel)) ggX11_batch_X11_whyNotBelow
set_option maxRecDepth 20000 in
theorem ggX11_batch_X11_refuse : GoodIn wsX11_batch wsX11_refuse := goodIn_ca (goodIn_ca (goodIn_ca (goodIn_r _ [12, 13, 14, 15, 16, 17, 18] (by decide +kernel) (by decide +kernel)) (goodIn_sub (fun _ h => List.mem_cons_of_mem _ (List.mem_append_left _ (List.mem_append_left _ (List.mem_append_right _ h)))) (by decide +kernel))) (goodIn_sub (fun _ h => List.mem_cons_of_mem _ (List.mem_append_left _ (List.mem_append_right _ h))) (by decide +kernel))) (goodIn_sub (fun _ h => List.mem_cons_of_mem _ (List.mem_append_right _ h)) (by decide +kernel))
set_option maxRecDepth 20000 in
theorem gX11_batch_X11_refuse : GoodIn wsX11_batch (va_wsS RX11 45 yX11_refuse wsX11_refuse) := goodIn_app (goodIn_of _ (by decide +kernel)) ggX11_batch_X11_refuse
set_option maxRecDepth 20000 in
theorem ggX11_batch_X1_has : GoodIn wsX11_batch wsX1_has := goodIn_r _ [23, 24, 105, 106] (by decide +kernel) (by decide +kernel)
set_option maxRecDepth 20000 in
theorem gX11_batch_X1_has : GoodIn wsX11_batch (wsV RX11 87 RX1 yX1_has wsX1_has) := goodIn_app (goodIn_of _ (by decide +kernel)) ggX11_batch_X1_has
set_option maxRecDepth 20000 in
theorem ggX11_batch_X1_value : GoodIn wsX11_batch wsX1_value := goodIn_r _ [28, 29, 30, 31, 32, 33, 34, 35, 36, 105, 106, 107, 108] (by decide +kernel) (by decide +kernel)
set_option maxRecDepth 20000 in
theorem gX11_batch_X1_value : GoodIn wsX11_batch (wsV RX11 146 RX1 yX1_value wsX1_value) := goodIn_app (goodIn_of _ (by decide +kernel)) ggX11_batch_X1_value
set_option maxRecDepth 20000 in
theorem ggX11_batch_X9_arrangeNextDay : GoodIn wsX11_batch wsX9_arrangeNextDay := goodIn_r _ [41, 42, 43, 44, 45, 46, 47, 48, 49, 50, 51, 52, 53, 54, 55, 56, 57, 33, 58, 59, 60, 61, 62, 36, 35, 63, 31, 32, 34, 64, 65, 66, 67, 68, 69, 70, 71, 72, 73, 74, 75, 76, 77, 78, 79, 80, 81, 22, 82, 24, 83, 26, 27, 28, 29, 30, 97, 98, 99, 100, 101, 102, 103, 104, 109, 110, 107, 108, 111, 112, 113, 114, 115, 116, 117, 105, 106] (by decide +kernel) (by decide +kernel)
set_option maxRecDepth 20000 in
theorem gX11_batch_X9_arrangeNextDay : GoodIn wsX11_batch (wsV RX11 147 RX9 yX9_arrangeNextDay wsX9_arrangeNextDay) := goodIn_app (goodIn_of _ (by decide +kernel)) ggX11_batch_X9_arrangeNextDay
set_option maxRecDepth 20000 in
theorem ggX11_batch_X3_placeOf : GoodIn wsX11_batch wsX3_placeOf := goodIn_r _ [87, 77, 88, 89, 90, 75, 91, 78, 111, 112, 113, 114, 115, 116, 117] (by decide +kernel) (by decide +kernel)
set_option maxRecDepth 20000 in
theorem gX11_batch_X3_placeOf : GoodIn wsX11_batch (wsV RX11 151 RX3 yX3_placeOf wsX3_placeOf) := goodIn_app (goodIn_of _ (by decide +kernel)) ggX11_batch_X3_placeOf
theorem dX11_batch_0 : decode cX11_batch 0 = .ok (.iload_n 1, 1) := by decide +kernel
theorem dX11_batch_1 : decode cX11_batch 1 = .ok (.ifCond .ge 7, 3) := by decide +kernel
theorem dX11_batch_4 : decode cX11_batch 4 = .ok (.iconst 2, 1) := by decide +kernel
theorem dX11_batch_5 : decode cX11_batch 5 = .ok (.goto 8, 3) := by decide +kernel
theorem dX11_batch_8 : decode cX11_batch 8 = .ok (.iload_n 2, 1) := by decide +kernel
theorem dX11_batch_9 : decode cX11_batch 9 = .ok (.iconst 4, 1) := by decide +kernel
theorem dX11_batch_10 : decode cX11_batch 10 = .ok (.invokestatic 120, 3) := by decide +kernel
theorem dX11_batch_13 : decode cX11_batch 13 = .ok (.invokestatic 45, 3) := by decide +kernel
theorem dX11_batch_16 : decode cX11_batch 16 = .ok (.aload_n 0, 1) := by decide +kernel
theorem dX11_batch_17 : decode cX11_batch 17 = .ok (.getfield 10, 3) := by decide +kernel
theorem dX11_batch_20 : decode cX11_batch 20 = .ok (.getfield 79, 3) := by decide +kernel
theorem dX11_batch_23 : decode cX11_batch 23 = .ok (.iload_n 1, 1) := by decide +kernel
theorem dX11_batch_24 : decode cX11_batch 24 = .ok (.invokevirtual 87, 3) := by decide +kernel
theorem dX11_batch_27 : decode cX11_batch 27 = .ok (.ifCond .ne 5, 3) := by decide +kernel
theorem dX11_batch_30 : decode cX11_batch 30 = .ok (.iconst (-1), 1) := by decide +kernel
theorem dX11_batch_31 : decode cX11_batch 31 = .ok (.ireturn, 1) := by decide +kernel
theorem dX11_batch_32 : decode cX11_batch 32 = .ok (.iload_n 2, 1) := by decide +kernel
theorem dX11_batch_33 : decode cX11_batch 33 = .ok (.iconst 3, 1) := by decide +kernel
theorem dX11_batch_34 : decode cX11_batch 34 = .ok (.if_icmp .ge 16, 3) := by decide +kernel
theorem dX11_batch_37 : decode cX11_batch 37 = .ok (.aload_n 0, 1) := by decide +kernel
theorem dX11_batch_38 : decode cX11_batch 38 = .ok (.getfield 10, 3) := by decide +kernel
theorem dX11_batch_41 : decode cX11_batch 41 = .ok (.getfield 79, 3) := by decide +kernel
theorem dX11_batch_44 : decode cX11_batch 44 = .ok (.iload_n 1, 1) := by decide +kernel
theorem dX11_batch_45 : decode cX11_batch 45 = .ok (.iload_n 2, 1) := by decide +kernel
theorem dX11_batch_46 : decode cX11_batch 46 = .ok (.invokevirtual 146, 3) := by decide +kernel
theorem dX11_batch_49 : decode cX11_batch 49 = .ok (.ireturn, 1) := by decide +kernel
theorem dX11_batch_50 : decode cX11_batch 50 = .ok (.aload_n 0, 1) := by decide +kernel
theorem dX11_batch_51 : decode cX11_batch 51 = .ok (.getfield 10, 3) := by decide +kernel
theorem dX11_batch_54 : decode cX11_batch 54 = .ok (.aload_n 0, 1) := by decide +kernel
theorem dX11_batch_55 : decode cX11_batch 55 = .ok (.getfield 19, 3) := by decide +kernel
theorem dX11_batch_58 : decode cX11_batch 58 = .ok (.invokevirtual 147, 3) := by decide +kernel
theorem dX11_batch_61 : decode cX11_batch 61 = .ok (.aload_n 0, 1) := by decide +kernel
theorem dX11_batch_62 : decode cX11_batch 62 = .ok (.getfield 19, 3) := by decide +kernel
theorem dX11_batch_65 : decode cX11_batch 65 = .ok (.iload_n 1, 1) := by decide +kernel
theorem dX11_batch_66 : decode cX11_batch 66 = .ok (.invokevirtual 151, 3) := by decide +kernel
theorem dX11_batch_69 : decode cX11_batch 69 = .ok (.ireturn, 1) := by decide +kernel
set_option maxRecDepth 20000 in
theorem ggX11_loaf_X6_keeps : GoodIn wsX11_loaf wsX6_keeps := goodIn_r _ [6, 7, 8, 9, 10, 5, 11, 12, 13, 14, 15, 16, 17, 18, 19, 61, 62, 63] (by decide +kernel) (by decide +kernel)
set_option maxRecDepth 20000 in
theorem gX11_loaf_X6_keeps : GoodIn wsX11_loaf (wsV RX11 154 RX6 yX6_keeps wsX6_keeps) := goodIn_app (goodIn_of _ (by decide +kernel)) ggX11_loaf_X6_keeps
set_option maxRecDepth 20000 in
theorem ggX11_loaf_X11_refuse : GoodIn wsX11_loaf wsX11_refuse := goodIn_ca (goodIn_ca (goodIn_ca (goodIn_r _ [23, 24, 25, 26, 27, 28, 29] (by decide +kernel) (by decide +kernel)) (goodIn_sub (fun _ h => List.mem_cons_of_mem _ (List.mem_append_left _ (List.mem_append_left _ (List.mem_append_right _ h)))) (by decide +kernel))) (goodIn_sub (fun _ h => List.mem_cons_of_mem _ (List.mem_append_left _ (List.mem_append_right _ h))) (by decide +kernel))) (goodIn_sub (fun _ h => List.mem_cons_of_mem _ (List.mem_append_right _ h)) (by decide +kernel))
set_option maxRecDepth 20000 in
theorem gX11_loaf_X11_refuse : GoodIn wsX11_loaf (va_wsS RX11 45 yX11_refuse wsX11_refuse) := goodIn_app (goodIn_of _ (by decide +kernel)) ggX11_loaf_X11_refuse
set_option maxRecDepth 20000 in
theorem ggX11_loaf_X11_whyNotBelow : GoodIn wsX11_loaf wsX11_whyNotBelow := goodIn_r _ [32, 33, 34, 22, 35] (by decide +kernel) (by decide +kernel)
set_option maxRecDepth 20000 in
theorem gX11_loaf_X11_whyNotBelow : GoodIn wsX11_loaf (va_wsS RX11 120 yX11_whyNotBelow wsX11_whyNotBelow) := goodIn_app (goodIn_of _ (by decide +kernel)) ggX11_loaf_X11_whyNotBelow
set_option maxRecDepth 20000 in
theorem ggX11_loaf_X6_value : GoodIn wsX11_loaf wsX6_value := goodIn_r _ [39, 40, 41, 42, 43, 44, 45, 46, 47, 61, 62, 63, 64, 65] (by decide +kernel) (by decide +kernel)
set_option maxRecDepth 20000 in
theorem gX11_loaf_X6_value : GoodIn wsX11_loaf (wsV RX11 157 RX6 yX6_value wsX6_value) := goodIn_app (goodIn_of _ (by decide +kernel)) ggX11_loaf_X6_value
theorem dX11_loaf_0 : decode cX11_loaf 0 = .ok (.aload_n 0, 1) := by decide +kernel
theorem dX11_loaf_1 : decode cX11_loaf 1 = .ok (.getfield 10, 3) := by decide +kernel
theorem dX11_loaf_4 : decode cX11_loaf 4 = .ok (.getfield 107, 3) := by decide +kernel
theorem dX11_loaf_7 : decode cX11_loaf 7 = .ok (.iload_n 1, 1) := by decide +kernel
theorem dX11_loaf_8 : decode cX11_loaf 8 = .ok (.invokevirtual 154, 3) := by decide +kernel
theorem dX11_loaf_11 : decode cX11_loaf 11 = .ok (.ifCond .eq 7, 3) := by decide +kernel
theorem dX11_loaf_14 : decode cX11_loaf 14 = .ok (.iconst 0, 1) := by decide +kernel
theorem dX11_loaf_15 : decode cX11_loaf 15 = .ok (.goto 4, 3) := by decide +kernel
theorem dX11_loaf_18 : decode cX11_loaf 18 = .ok (.iconst 1, 1) := by decide +kernel
theorem dX11_loaf_19 : decode cX11_loaf 19 = .ok (.invokestatic 45, 3) := by decide +kernel
theorem dX11_loaf_22 : decode cX11_loaf 22 = .ok (.iload_n 2, 1) := by decide +kernel
theorem dX11_loaf_23 : decode cX11_loaf 23 = .ok (.bipush 7, 2) := by decide +kernel
theorem dX11_loaf_25 : decode cX11_loaf 25 = .ok (.invokestatic 120, 3) := by decide +kernel
theorem dX11_loaf_28 : decode cX11_loaf 28 = .ok (.invokestatic 45, 3) := by decide +kernel
theorem dX11_loaf_31 : decode cX11_loaf 31 = .ok (.aload_n 0, 1) := by decide +kernel
theorem dX11_loaf_32 : decode cX11_loaf 32 = .ok (.getfield 10, 3) := by decide +kernel
theorem dX11_loaf_35 : decode cX11_loaf 35 = .ok (.getfield 107, 3) := by decide +kernel
theorem dX11_loaf_38 : decode cX11_loaf 38 = .ok (.iload_n 1, 1) := by decide +kernel
theorem dX11_loaf_39 : decode cX11_loaf 39 = .ok (.iload_n 2, 1) := by decide +kernel
theorem dX11_loaf_40 : decode cX11_loaf 40 = .ok (.invokevirtual 157, 3) := by decide +kernel
theorem dX11_loaf_43 : decode cX11_loaf 43 = .ok (.ireturn, 1) := by decide +kernel
set_option maxRecDepth 20000 in
theorem ggX11_load_X11_whyNotBelow : GoodIn wsX11_load wsX11_whyNotBelow := goodIn_r _ [5, 6, 7, 4, 8] (by decide +kernel) (by decide +kernel)
set_option maxRecDepth 20000 in
theorem gX11_load_X11_whyNotBelow : GoodIn wsX11_load (va_wsS RX11 120 yX11_whyNotBelow wsX11_whyNotBelow) := goodIn_app (goodIn_of _ (by decide +kernel)) ggX11_load_X11_whyNotBelow
set_option maxRecDepth 20000 in
theorem ggX11_load_X11_refuse : GoodIn wsX11_load wsX11_refuse := goodIn_ca (goodIn_ca (goodIn_ca (goodIn_r _ [11, 12, 13, 14, 15, 16, 17] (by decide +kernel) (by decide +kernel)) (goodIn_sub (fun _ h => List.mem_cons_of_mem _ (List.mem_append_left _ (List.mem_append_left _ (List.mem_append_right _ h)))) (by decide +kernel))) (goodIn_sub (fun _ h => List.mem_cons_of_mem _ (List.mem_append_left _ (List.mem_append_right _ h))) (by decide +kernel))) (goodIn_sub (fun _ h => List.mem_cons_of_mem _ (List.mem_append_right _ h)) (by decide +kernel))
set_option maxRecDepth 20000 in
theorem gX11_load_X11_refuse : GoodIn wsX11_load (va_wsS RX11 45 yX11_refuse wsX11_refuse) := goodIn_app (goodIn_of _ (by decide +kernel)) ggX11_load_X11_refuse
set_option maxRecDepth 20000 in
theorem ggX11_load_X5_size : GoodIn wsX11_load wsX5_size := goodIn_r _ [22, 23, 49, 50] (by decide +kernel) (by decide +kernel)
set_option maxRecDepth 20000 in
theorem gX11_load_X5_size : GoodIn wsX11_load (wsV RX11 162 RX5 yX5_size wsX5_size) := goodIn_app (goodIn_of _ (by decide +kernel)) ggX11_load_X5_size
set_option maxRecDepth 20000 in
theorem ggX11_load_X5_value : GoodIn wsX11_load wsX5_value := goodIn_r _ [27, 28, 29, 30, 31, 32, 33, 34, 35, 49, 50, 51, 52] (by decide +kernel) (by decide +kernel)
set_option maxRecDepth 20000 in
theorem gX11_load_X5_value : GoodIn wsX11_load (wsV RX11 167 RX5 yX5_value wsX5_value) := goodIn_app (goodIn_of _ (by decide +kernel)) ggX11_load_X5_value
theorem dX11_load_0 : decode cX11_load 0 = .ok (.iload_n 1, 1) := by decide +kernel
theorem dX11_load_1 : decode cX11_load 1 = .ok (.ifCond .ge 7, 3) := by decide +kernel
theorem dX11_load_4 : decode cX11_load 4 = .ok (.iconst 2, 1) := by decide +kernel
theorem dX11_load_5 : decode cX11_load 5 = .ok (.goto 8, 3) := by decide +kernel
theorem dX11_load_8 : decode cX11_load 8 = .ok (.iload_n 2, 1) := by decide +kernel
theorem dX11_load_9 : decode cX11_load 9 = .ok (.iconst 5, 1) := by decide +kernel
theorem dX11_load_10 : decode cX11_load 10 = .ok (.invokestatic 120, 3) := by decide +kernel
theorem dX11_load_13 : decode cX11_load 13 = .ok (.invokestatic 45, 3) := by decide +kernel
theorem dX11_load_16 : decode cX11_load 16 = .ok (.iload_n 1, 1) := by decide +kernel
theorem dX11_load_17 : decode cX11_load 17 = .ok (.aload_n 0, 1) := by decide +kernel
theorem dX11_load_18 : decode cX11_load 18 = .ok (.getfield 10, 3) := by decide +kernel
theorem dX11_load_21 : decode cX11_load 21 = .ok (.getfield 158, 3) := by decide +kernel
theorem dX11_load_24 : decode cX11_load 24 = .ok (.invokevirtual 162, 3) := by decide +kernel
theorem dX11_load_27 : decode cX11_load 27 = .ok (.if_icmp .ge 18, 3) := by decide +kernel
theorem dX11_load_30 : decode cX11_load 30 = .ok (.aload_n 0, 1) := by decide +kernel
theorem dX11_load_31 : decode cX11_load 31 = .ok (.getfield 10, 3) := by decide +kernel
theorem dX11_load_34 : decode cX11_load 34 = .ok (.getfield 158, 3) := by decide +kernel
theorem dX11_load_37 : decode cX11_load 37 = .ok (.iload_n 1, 1) := by decide +kernel
theorem dX11_load_38 : decode cX11_load 38 = .ok (.iload_n 2, 1) := by decide +kernel
theorem dX11_load_39 : decode cX11_load 39 = .ok (.invokevirtual 167, 3) := by decide +kernel
theorem dX11_load_42 : decode cX11_load 42 = .ok (.goto 4, 3) := by decide +kernel
theorem dX11_load_45 : decode cX11_load 45 = .ok (.iconst (-1), 1) := by decide +kernel
theorem dX11_load_46 : decode cX11_load 46 = .ok (.ireturn, 1) := by decide +kernel
set_option maxRecDepth 20000 in
theorem ggX11_whole_X11_whyNotBelow : GoodIn wsX11_whole wsX11_whyNotBelow := goodIn_r _ [5, 6, 7, 4, 8] (by decide +kernel) (by decide +kernel)
set_option maxRecDepth 20000 in
theorem gX11_whole_X11_whyNotBelow : GoodIn wsX11_whole (va_wsS RX11 120 yX11_whyNotBelow wsX11_whyNotBelow) := goodIn_app (goodIn_of _ (by decide +kernel)) ggX11_whole_X11_whyNotBelow
set_option maxRecDepth 20000 in
theorem ggX11_whole_X11_refuse : GoodIn wsX11_whole wsX11_refuse := goodIn_ca (goodIn_ca (goodIn_ca (goodIn_r _ [11, 12, 13, 14, 15, 16, 17] (by decide +kernel) (by decide +kernel)) (goodIn_sub (fun _ h => List.mem_cons_of_mem _ (List.mem_append_left _ (List.mem_append_left _ (List.mem_append_right _ h)))) (by decide +kernel))) (goodIn_sub (fun _ h => List.mem_cons_of_mem _ (List.mem_append_left _ (List.mem_append_right _ h))) (by decide +kernel))) (goodIn_sub (fun _ h => List.mem_cons_of_mem _ (List.mem_append_right _ h)) (by decide +kernel))
set_option maxRecDepth 20000 in
theorem gX11_whole_X11_refuse : GoodIn wsX11_whole (va_wsS RX11 45 yX11_refuse wsX11_refuse) := goodIn_app (goodIn_of _ (by decide +kernel)) ggX11_whole_X11_refuse
set_option maxRecDepth 20000 in
theorem ggX11_whole_X4_size : GoodIn wsX11_whole wsX4_size := goodIn_r _ [22, 23, 102, 103] (by decide +kernel) (by decide +kernel)
set_option maxRecDepth 20000 in
theorem gX11_whole_X4_size : GoodIn wsX11_whole (wsV RX11 168 RX4 yX4_size wsX4_size) := goodIn_app (goodIn_of _ (by decide +kernel)) ggX11_whole_X4_size
set_option maxRecDepth 20000 in
theorem ggX11_whole_X1_size : GoodIn wsX11_whole wsX1_size := goodIn_r _ [28, 29, 104, 105] (by decide +kernel) (by decide +kernel)
set_option maxRecDepth 20000 in
theorem gX11_whole_X1_size : GoodIn wsX11_whole (wsV RX11 175 RX1 yX1_size wsX1_size) := goodIn_app (goodIn_of _ (by decide +kernel)) ggX11_whole_X1_size
set_option maxRecDepth 20000 in
theorem ggX11_whole_X4_sumOf : GoodIn wsX11_whole wsX4_sumOf := goodIn_r _ [33, 34, 23, 35, 36, 37, 38, 39, 40, 41, 102, 103, 106, 107] (by decide +kernel) (by decide +kernel)
set_option maxRecDepth 20000 in
theorem gX11_whole_X4_sumOf : GoodIn wsX11_whole (wsV RX11 176 RX4 yX4_sumOf wsX4_sumOf) := goodIn_app (goodIn_of _ (by decide +kernel)) ggX11_whole_X4_sumOf
set_option maxRecDepth 20000 in
theorem ggX11_whole_X6_cameOut : GoodIn wsX11_whole wsX6_cameOut := goodIn_r _ [46, 47, 108, 109, 110] (by decide +kernel) (by decide +kernel)
set_option maxRecDepth 20000 in
theorem gX11_whole_X6_cameOut : GoodIn wsX11_whole (wsV RX11 182 RX6 yX6_cameOut wsX6_cameOut) := goodIn_app (goodIn_of _ (by decide +kernel)) ggX11_whole_X6_cameOut
set_option maxRecDepth 20000 in
theorem ggX11_whole_X6_pale : GoodIn wsX11_whole wsX6_pale := goodIn_r _ [51, 52, 108, 109, 110] (by decide +kernel) (by decide +kernel)
set_option maxRecDepth 20000 in
theorem gX11_whole_X6_pale : GoodIn wsX11_whole (wsV RX11 185 RX6 yX6_pale wsX6_pale) := goodIn_app (goodIn_of _ (by decide +kernel)) ggX11_whole_X6_pale
set_option maxRecDepth 20000 in
theorem ggX11_whole_X6_kept : GoodIn wsX11_whole wsX6_kept := goodIn_r _ [56, 47, 57, 58, 59, 60, 108, 109, 110] (by decide +kernel) (by decide +kernel)
set_option maxRecDepth 20000 in
theorem gX11_whole_X6_kept : GoodIn wsX11_whole (wsV RX11 188 RX6 yX6_kept wsX6_kept) := goodIn_app (goodIn_of _ (by decide +kernel)) ggX11_whole_X6_kept
set_option maxRecDepth 20000 in
theorem ggX11_whole_X6_countWith : GoodIn wsX11_whole wsX6_countWith := goodIn_r _ [64, 65, 66, 54, 55, 45, 56, 47, 57, 58, 59, 60, 67, 68, 69, 38, 70, 71, 72, 73, 74, 40, 41, 108, 109, 110, 106, 107] (by decide +kernel) (by decide +kernel)
set_option maxRecDepth 20000 in
theorem gX11_whole_X6_countWith : GoodIn wsX11_whole (wsV RX11 123 RX6 yX6_countWith wsX6_countWith) := goodIn_app (goodIn_of _ (by decide +kernel)) ggX11_whole_X6_countWith
set_option maxRecDepth 20000 in
theorem ggX11_whole_X6_countWithOthers : GoodIn wsX11_whole wsX6_countWithOthers := goodIn_r _ [78, 65, 66, 54, 55, 45, 56, 47, 57, 58, 59, 60, 79, 80, 81, 38, 82, 41, 40, 108, 109, 110, 106, 107] (by decide +kernel) (by decide +kernel)
set_option maxRecDepth 20000 in
theorem gX11_whole_X6_countWithOthers : GoodIn wsX11_whole (wsV RX11 191 RX6 yX6_countWithOthers wsX6_countWithOthers) := goodIn_app (goodIn_of _ (by decide +kernel)) ggX11_whole_X6_countWithOthers
set_option maxRecDepth 20000 in
theorem ggX11_whole_X5_size : GoodIn wsX11_whole wsX5_size := goodIn_r _ [87, 88, 111, 112] (by decide +kernel) (by decide +kernel)
set_option maxRecDepth 20000 in
theorem gX11_whole_X5_size : GoodIn wsX11_whole (wsV RX11 162 RX5 yX5_size wsX5_size) := goodIn_app (goodIn_of _ (by decide +kernel)) ggX11_whole_X5_size
theorem dX11_whole_0 : decode cX11_whole 0 = .ok (.iload_n 1, 1) := by decide +kernel
theorem dX11_whole_1 : decode cX11_whole 1 = .ok (.bipush 14, 2) := by decide +kernel
theorem dX11_whole_3 : decode cX11_whole 3 = .ok (.invokestatic 120, 3) := by decide +kernel
theorem dX11_whole_6 : decode cX11_whole 6 = .ok (.invokestatic 45, 3) := by decide +kernel
theorem dX11_whole_9 : decode cX11_whole 9 = .ok (.iload_n 1, 1) := by decide +kernel
theorem dX11_whole_10 : decode cX11_whole 10 = .ok (.tableswitch 205 0 12 #[66, 77, 85, 93, 104, 116, 128, 136, 147, 158, 169, 183, 194], 66) := by decide +kernel
theorem dX11_whole_76 : decode cX11_whole 76 = .ok (.aload_n 0, 1) := by decide +kernel
theorem dX11_whole_77 : decode cX11_whole 77 = .ok (.getfield 10, 3) := by decide +kernel
theorem dX11_whole_80 : decode cX11_whole 80 = .ok (.getfield 53, 3) := by decide +kernel
theorem dX11_whole_83 : decode cX11_whole 83 = .ok (.invokevirtual 168, 3) := by decide +kernel
theorem dX11_whole_86 : decode cX11_whole 86 = .ok (.ireturn, 1) := by decide +kernel
theorem dX11_whole_87 : decode cX11_whole 87 = .ok (.aload_n 0, 1) := by decide +kernel
theorem dX11_whole_88 : decode cX11_whole 88 = .ok (.getfield 10, 3) := by decide +kernel
theorem dX11_whole_91 : decode cX11_whole 91 = .ok (.getfield 169, 3) := by decide +kernel
theorem dX11_whole_94 : decode cX11_whole 94 = .ok (.ireturn, 1) := by decide +kernel
theorem dX11_whole_95 : decode cX11_whole 95 = .ok (.aload_n 0, 1) := by decide +kernel
theorem dX11_whole_96 : decode cX11_whole 96 = .ok (.getfield 10, 3) := by decide +kernel
theorem dX11_whole_99 : decode cX11_whole 99 = .ok (.getfield 172, 3) := by decide +kernel
theorem dX11_whole_102 : decode cX11_whole 102 = .ok (.ireturn, 1) := by decide +kernel
theorem dX11_whole_103 : decode cX11_whole 103 = .ok (.aload_n 0, 1) := by decide +kernel
theorem dX11_whole_104 : decode cX11_whole 104 = .ok (.getfield 10, 3) := by decide +kernel
theorem dX11_whole_107 : decode cX11_whole 107 = .ok (.getfield 79, 3) := by decide +kernel
theorem dX11_whole_110 : decode cX11_whole 110 = .ok (.invokevirtual 175, 3) := by decide +kernel
theorem dX11_whole_113 : decode cX11_whole 113 = .ok (.ireturn, 1) := by decide +kernel
theorem dX11_whole_114 : decode cX11_whole 114 = .ok (.aload_n 0, 1) := by decide +kernel
theorem dX11_whole_115 : decode cX11_whole 115 = .ok (.getfield 10, 3) := by decide +kernel
theorem dX11_whole_118 : decode cX11_whole 118 = .ok (.getfield 53, 3) := by decide +kernel
theorem dX11_whole_121 : decode cX11_whole 121 = .ok (.iconst 1, 1) := by decide +kernel
theorem dX11_whole_122 : decode cX11_whole 122 = .ok (.invokevirtual 176, 3) := by decide +kernel
theorem dX11_whole_125 : decode cX11_whole 125 = .ok (.ireturn, 1) := by decide +kernel
theorem dX11_whole_126 : decode cX11_whole 126 = .ok (.aload_n 0, 1) := by decide +kernel
theorem dX11_whole_127 : decode cX11_whole 127 = .ok (.getfield 10, 3) := by decide +kernel
theorem dX11_whole_130 : decode cX11_whole 130 = .ok (.getfield 53, 3) := by decide +kernel
theorem dX11_whole_133 : decode cX11_whole 133 = .ok (.iconst 2, 1) := by decide +kernel
theorem dX11_whole_134 : decode cX11_whole 134 = .ok (.invokevirtual 176, 3) := by decide +kernel
theorem dX11_whole_137 : decode cX11_whole 137 = .ok (.ireturn, 1) := by decide +kernel
theorem dX11_whole_138 : decode cX11_whole 138 = .ok (.aload_n 0, 1) := by decide +kernel
theorem dX11_whole_139 : decode cX11_whole 139 = .ok (.getfield 10, 3) := by decide +kernel
theorem dX11_whole_142 : decode cX11_whole 142 = .ok (.getfield 179, 3) := by decide +kernel
theorem dX11_whole_145 : decode cX11_whole 145 = .ok (.ireturn, 1) := by decide +kernel
theorem dX11_whole_146 : decode cX11_whole 146 = .ok (.aload_n 0, 1) := by decide +kernel
theorem dX11_whole_147 : decode cX11_whole 147 = .ok (.getfield 10, 3) := by decide +kernel
theorem dX11_whole_150 : decode cX11_whole 150 = .ok (.getfield 107, 3) := by decide +kernel
theorem dX11_whole_153 : decode cX11_whole 153 = .ok (.invokevirtual 182, 3) := by decide +kernel
theorem dX11_whole_156 : decode cX11_whole 156 = .ok (.ireturn, 1) := by decide +kernel
theorem dX11_whole_157 : decode cX11_whole 157 = .ok (.aload_n 0, 1) := by decide +kernel
theorem dX11_whole_158 : decode cX11_whole 158 = .ok (.getfield 10, 3) := by decide +kernel
theorem dX11_whole_161 : decode cX11_whole 161 = .ok (.getfield 107, 3) := by decide +kernel
theorem dX11_whole_164 : decode cX11_whole 164 = .ok (.invokevirtual 185, 3) := by decide +kernel
theorem dX11_whole_167 : decode cX11_whole 167 = .ok (.ireturn, 1) := by decide +kernel
theorem dX11_whole_168 : decode cX11_whole 168 = .ok (.aload_n 0, 1) := by decide +kernel
theorem dX11_whole_169 : decode cX11_whole 169 = .ok (.getfield 10, 3) := by decide +kernel
theorem dX11_whole_172 : decode cX11_whole 172 = .ok (.getfield 107, 3) := by decide +kernel
theorem dX11_whole_175 : decode cX11_whole 175 = .ok (.invokevirtual 188, 3) := by decide +kernel
theorem dX11_whole_178 : decode cX11_whole 178 = .ok (.ireturn, 1) := by decide +kernel
theorem dX11_whole_179 : decode cX11_whole 179 = .ok (.aload_n 0, 1) := by decide +kernel
theorem dX11_whole_180 : decode cX11_whole 180 = .ok (.getfield 10, 3) := by decide +kernel
theorem dX11_whole_183 : decode cX11_whole 183 = .ok (.getfield 107, 3) := by decide +kernel
theorem dX11_whole_186 : decode cX11_whole 186 = .ok (.iconst 5, 1) := by decide +kernel
theorem dX11_whole_187 : decode cX11_whole 187 = .ok (.bipush 8, 2) := by decide +kernel
theorem dX11_whole_189 : decode cX11_whole 189 = .ok (.invokevirtual 123, 3) := by decide +kernel
theorem dX11_whole_192 : decode cX11_whole 192 = .ok (.ireturn, 1) := by decide +kernel
theorem dX11_whole_193 : decode cX11_whole 193 = .ok (.aload_n 0, 1) := by decide +kernel
theorem dX11_whole_194 : decode cX11_whole 194 = .ok (.getfield 10, 3) := by decide +kernel
theorem dX11_whole_197 : decode cX11_whole 197 = .ok (.getfield 107, 3) := by decide +kernel
theorem dX11_whole_200 : decode cX11_whole 200 = .ok (.invokevirtual 191, 3) := by decide +kernel
theorem dX11_whole_203 : decode cX11_whole 203 = .ok (.ireturn, 1) := by decide +kernel
theorem dX11_whole_204 : decode cX11_whole 204 = .ok (.aload_n 0, 1) := by decide +kernel
theorem dX11_whole_205 : decode cX11_whole 205 = .ok (.getfield 10, 3) := by decide +kernel
theorem dX11_whole_208 : decode cX11_whole 208 = .ok (.getfield 158, 3) := by decide +kernel
theorem dX11_whole_211 : decode cX11_whole 211 = .ok (.invokevirtual 162, 3) := by decide +kernel
theorem dX11_whole_214 : decode cX11_whole 214 = .ok (.ireturn, 1) := by decide +kernel
theorem dX11_whole_215 : decode cX11_whole 215 = .ok (.aload_n 0, 1) := by decide +kernel
theorem dX11_whole_216 : decode cX11_whole 216 = .ok (.getfield 10, 3) := by decide +kernel
theorem dX11_whole_219 : decode cX11_whole 219 = .ok (.getfield 194, 3) := by decide +kernel
theorem dX11_whole_222 : decode cX11_whole 222 = .ok (.ireturn, 1) := by decide +kernel
set_option maxRecDepth 20000 in
theorem ggX11_doughWith_X11_whyNotWithin : GoodIn wsX11_doughWith wsX11_whyNotWithin := goodIn_r _ [6] (by decide +kernel) (by decide +kernel)
set_option maxRecDepth 20000 in
theorem gX11_doughWith_X11_whyNotWithin : GoodIn wsX11_doughWith (va_wsS RX11 197 yX11_whyNotWithin wsX11_whyNotWithin) := goodIn_app (goodIn_of _ (by decide +kernel)) ggX11_doughWith_X11_whyNotWithin
set_option maxRecDepth 20000 in
theorem ggX11_doughWith_X11_refuse : GoodIn wsX11_doughWith wsX11_refuse := goodIn_ca (goodIn_ca (goodIn_ca (goodIn_r _ [9, 10, 11, 12, 13, 14, 15] (by decide +kernel) (by decide +kernel)) (goodIn_sub (fun _ h => List.mem_cons_of_mem _ (List.mem_append_left _ (List.mem_append_left _ (List.mem_append_right _ h)))) (by decide +kernel))) (goodIn_sub (fun _ h => List.mem_cons_of_mem _ (List.mem_append_left _ (List.mem_append_right _ h))) (by decide +kernel))) (goodIn_sub (fun _ h => List.mem_cons_of_mem _ (List.mem_append_right _ h)) (by decide +kernel))
set_option maxRecDepth 20000 in
theorem gX11_doughWith_X11_refuse : GoodIn wsX11_doughWith (va_wsS RX11 45 yX11_refuse wsX11_refuse) := goodIn_app (goodIn_of _ (by decide +kernel)) ggX11_doughWith_X11_refuse
set_option maxRecDepth 20000 in
theorem ggX11_doughWith_X9_arrangeNextDay : GoodIn wsX11_doughWith wsX9_arrangeNextDay := goodIn_r _ [20, 21, 22, 23, 24, 25, 26, 27, 28, 29, 30, 31, 32, 33, 34, 35, 36, 37, 38, 39, 40, 41, 42, 43, 44, 45, 46, 47, 48, 49, 50, 51, 52, 53, 54, 55, 56, 57, 58, 59, 60, 61, 62, 63, 64, 65, 66, 67, 68, 69, 70, 71, 72, 73, 74, 75, 156, 157, 158, 159, 160, 161, 162, 163, 164, 165, 166, 167, 168, 169, 170, 171, 172, 173, 174, 175, 176] (by decide +kernel) (by decide +kernel)
set_option maxRecDepth 20000 in
theorem gX11_doughWith_X9_arrangeNextDay : GoodIn wsX11_doughWith (wsV RX11 147 RX9 yX9_arrangeNextDay wsX9_arrangeNextDay) := goodIn_app (goodIn_of _ (by decide +kernel)) ggX11_doughWith_X9_arrangeNextDay
set_option maxRecDepth 20000 in
theorem ggX11_doughWith_X11_doughOfArrangedDay : GoodIn wsX11_doughWith wsX11_doughOfArrangedDay := goodIn_r _ [79, 2, 1, 80, 81, 82, 19, 83, 84, 85, 86, 87, 88, 89, 90, 91, 60, 92, 93, 94, 95, 96, 97, 98, 99, 100, 101, 102, 62, 103, 104, 63, 105, 106, 107, 108, 109, 110, 70, 71, 72, 67, 73, 74, 75, 46, 47, 37, 48, 44, 43, 111, 112, 113, 114, 115, 116, 117, 118, 119, 120, 121, 122, 123, 124, 125, 126, 127, 128, 129, 130, 131, 132, 133, 134, 135, 136, 137, 138, 139, 140, 141, 142, 143, 144, 145, 146, 147, 148, 149, 150, 151, 152, 153, 154, 155, 156, 157, 158, 159, 160, 161, 162, 163, 168, 169, 170, 171, 172, 173, 174, 177, 178, 175, 176, 166, 167] (by decide +kernel) (by decide +kernel)
set_option maxRecDepth 20000 in
theorem gX11_doughWith_X11_doughOfArrangedDay : GoodIn wsX11_doughWith (wsV RX11 200 RX11 yX11_doughOfArrangedDay wsX11_doughOfArrangedDay) := goodIn_app (goodIn_of _ (by decide +kernel)) ggX11_doughWith_X11_doughOfArrangedDay
theorem dX11_doughWith_0 : decode cX11_doughWith 0 = .ok (.iload_n 1, 1) := by decide +kernel
theorem dX11_doughWith_1 : decode cX11_doughWith 1 = .ok (.iconst 1, 1) := by decide +kernel
theorem dX11_doughWith_2 : decode cX11_doughWith 2 = .ok (.bipush 40, 2) := by decide +kernel
theorem dX11_doughWith_4 : decode cX11_doughWith 4 = .ok (.invokestatic 197, 3) := by decide +kernel
theorem dX11_doughWith_7 : decode cX11_doughWith 7 = .ok (.invokestatic 45, 3) := by decide +kernel
theorem dX11_doughWith_10 : decode cX11_doughWith 10 = .ok (.aload_n 0, 1) := by decide +kernel
theorem dX11_doughWith_11 : decode cX11_doughWith 11 = .ok (.getfield 10, 3) := by decide +kernel
theorem dX11_doughWith_14 : decode cX11_doughWith 14 = .ok (.aload_n 0, 1) := by decide +kernel
theorem dX11_doughWith_15 : decode cX11_doughWith 15 = .ok (.getfield 19, 3) := by decide +kernel
theorem dX11_doughWith_18 : decode cX11_doughWith 18 = .ok (.invokevirtual 147, 3) := by decide +kernel
theorem dX11_doughWith_21 : decode cX11_doughWith 21 = .ok (.aload_n 0, 1) := by decide +kernel
theorem dX11_doughWith_22 : decode cX11_doughWith 22 = .ok (.iload_n 1, 1) := by decide +kernel
theorem dX11_doughWith_23 : decode cX11_doughWith 23 = .ok (.invokevirtual 200, 3) := by decide +kernel
theorem dX11_doughWith_26 : decode cX11_doughWith 26 = .ok (.ireturn, 1) := by decide +kernel
set_option maxRecDepth 20000 in
theorem ggX11_bestWood_X1_size : GoodIn wsX11_bestWood wsX1_size := goodIn_r _ [7, 8, 153, 154] (by decide +kernel) (by decide +kernel)
set_option maxRecDepth 20000 in
theorem gX11_bestWood_X1_size : GoodIn wsX11_bestWood (wsV RX11 175 RX1 yX1_size wsX1_size) := goodIn_app (goodIn_of _ (by decide +kernel)) ggX11_bestWood_X1_size
set_option maxRecDepth 20000 in
theorem ggX11_bestWood_X9_arrangeNextDay : GoodIn wsX11_bestWood wsX9_arrangeNextDay := goodIn_r _ [13, 14, 15, 16, 17, 18, 19, 20, 21, 22, 23, 24, 25, 26, 27, 28, 29, 30, 31, 32, 33, 34, 35, 36, 37, 38, 39, 40, 41, 42, 43, 44, 45, 46, 47, 48, 49, 50, 51, 52, 53, 54, 55, 56, 57, 4, 5, 6, 7, 8, 58, 59, 60, 61, 62, 63, 145, 146, 147, 148, 149, 150, 151, 152, 155, 156, 157, 158, 159, 160, 161, 162, 163, 164, 165, 153, 154] (by decide +kernel) (by decide +kernel)
set_option maxRecDepth 20000 in
theorem gX11_bestWood_X9_arrangeNextDay : GoodIn wsX11_bestWood (wsV RX11 147 RX9 yX9_arrangeNextDay wsX9_arrangeNextDay) := goodIn_app (goodIn_of _ (by decide +kernel)) ggX11_bestWood_X9_arrangeNextDay
set_option maxRecDepth 20000 in
theorem ggX11_bestWood_X11_doughOfArrangedDay : GoodIn wsX11_bestWood wsX11_doughOfArrangedDay := goodIn_r _ [68, 2, 1, 69, 70, 71, 12, 72, 73, 74, 75, 76, 77, 78, 79, 80, 53, 81, 82, 83, 84, 85, 86, 87, 88, 89, 90, 91, 55, 92, 93, 56, 94, 95, 96, 97, 98, 99, 58, 59, 60, 6, 61, 62, 63, 39, 40, 30, 41, 37, 36, 100, 101, 102, 103, 104, 105, 106, 107, 108, 109, 110, 111, 112, 113, 114, 115, 116, 117, 118, 119, 120, 121, 122, 123, 124, 125, 126, 127, 128, 129, 130, 131, 132, 133, 134, 135, 136, 137, 138, 139, 140, 141, 142, 143, 144, 145, 146, 147, 148, 149, 150, 151, 152, 159, 160, 161, 162, 163, 164, 165, 166, 167, 153, 154, 157, 158] (by decide +kernel) (by decide +kernel)
set_option maxRecDepth 20000 in
theorem gX11_bestWood_X11_doughOfArrangedDay : GoodIn wsX11_bestWood (wsV RX11 200 RX11 yX11_doughOfArrangedDay wsX11_doughOfArrangedDay) := goodIn_app (goodIn_of _ (by decide +kernel)) ggX11_bestWood_X11_doughOfArrangedDay
theorem dX11_bestWood_0 : decode cX11_bestWood 0 = .ok (.aload_n 0, 1) := by decide +kernel
theorem dX11_bestWood_1 : decode cX11_bestWood 1 = .ok (.getfield 10, 3) := by decide +kernel
theorem dX11_bestWood_4 : decode cX11_bestWood 4 = .ok (.getfield 79, 3) := by decide +kernel
theorem dX11_bestWood_7 : decode cX11_bestWood 7 = .ok (.invokevirtual 175, 3) := by decide +kernel
theorem dX11_bestWood_10 : decode cX11_bestWood 10 = .ok (.ifCond .ne 5, 3) := by decide +kernel
theorem dX11_bestWood_13 : decode cX11_bestWood 13 = .ok (.iconst (-1), 1) := by decide +kernel
theorem dX11_bestWood_14 : decode cX11_bestWood 14 = .ok (.ireturn, 1) := by decide +kernel
theorem dX11_bestWood_15 : decode cX11_bestWood 15 = .ok (.aload_n 0, 1) := by decide +kernel
theorem dX11_bestWood_16 : decode cX11_bestWood 16 = .ok (.getfield 10, 3) := by decide +kernel
theorem dX11_bestWood_19 : decode cX11_bestWood 19 = .ok (.aload_n 0, 1) := by decide +kernel
theorem dX11_bestWood_20 : decode cX11_bestWood 20 = .ok (.getfield 19, 3) := by decide +kernel
theorem dX11_bestWood_23 : decode cX11_bestWood 23 = .ok (.invokevirtual 147, 3) := by decide +kernel
theorem dX11_bestWood_26 : decode cX11_bestWood 26 = .ok (.iconst 1, 1) := by decide +kernel
theorem dX11_bestWood_27 : decode cX11_bestWood 27 = .ok (.istore_n 1, 1) := by decide +kernel
theorem dX11_bestWood_28 : decode cX11_bestWood 28 = .ok (.aload_n 0, 1) := by decide +kernel
theorem dX11_bestWood_29 : decode cX11_bestWood 29 = .ok (.iconst 1, 1) := by decide +kernel
theorem dX11_bestWood_30 : decode cX11_bestWood 30 = .ok (.invokevirtual 200, 3) := by decide +kernel
theorem dX11_bestWood_33 : decode cX11_bestWood 33 = .ok (.istore_n 2, 1) := by decide +kernel
theorem dX11_bestWood_34 : decode cX11_bestWood 34 = .ok (.iconst 2, 1) := by decide +kernel
theorem dX11_bestWood_35 : decode cX11_bestWood 35 = .ok (.istore_n 3, 1) := by decide +kernel
theorem dX11_bestWood_36 : decode cX11_bestWood 36 = .ok (.iload_n 3, 1) := by decide +kernel
theorem dX11_bestWood_37 : decode cX11_bestWood 37 = .ok (.bipush 40, 2) := by decide +kernel
theorem dX11_bestWood_39 : decode cX11_bestWood 39 = .ok (.if_icmp .gt 27, 3) := by decide +kernel
theorem dX11_bestWood_42 : decode cX11_bestWood 42 = .ok (.aload_n 0, 1) := by decide +kernel
theorem dX11_bestWood_43 : decode cX11_bestWood 43 = .ok (.iload_n 3, 1) := by decide +kernel
theorem dX11_bestWood_44 : decode cX11_bestWood 44 = .ok (.invokevirtual 200, 3) := by decide +kernel
theorem dX11_bestWood_47 : decode cX11_bestWood 47 = .ok (.istore 4, 2) := by decide +kernel
theorem dX11_bestWood_49 : decode cX11_bestWood 49 = .ok (.iload 4, 2) := by decide +kernel
theorem dX11_bestWood_51 : decode cX11_bestWood 51 = .ok (.iload_n 2, 1) := by decide +kernel
theorem dX11_bestWood_52 : decode cX11_bestWood 52 = .ok (.if_icmp .ge 8, 3) := by decide +kernel
theorem dX11_bestWood_55 : decode cX11_bestWood 55 = .ok (.iload 4, 2) := by decide +kernel
theorem dX11_bestWood_57 : decode cX11_bestWood 57 = .ok (.istore_n 2, 1) := by decide +kernel
theorem dX11_bestWood_58 : decode cX11_bestWood 58 = .ok (.iload_n 3, 1) := by decide +kernel
theorem dX11_bestWood_59 : decode cX11_bestWood 59 = .ok (.istore_n 1, 1) := by decide +kernel
theorem dX11_bestWood_60 : decode cX11_bestWood 60 = .ok (.iinc 3 1, 3) := by decide +kernel
theorem dX11_bestWood_63 : decode cX11_bestWood 63 = .ok (.goto (-27), 3) := by decide +kernel
theorem dX11_bestWood_66 : decode cX11_bestWood 66 = .ok (.iload_n 1, 1) := by decide +kernel
theorem dX11_bestWood_67 : decode cX11_bestWood 67 = .ok (.ireturn, 1) := by decide +kernel
set_option maxRecDepth 20000 in
theorem ggX11_likeMarks_X4_likePairs : GoodIn wsX11_likeMarks wsX4_likePairs := goodIn_r _ [6, 7, 8, 9, 10, 11, 12, 13, 14, 15, 16, 17, 5, 18, 19, 20, 21, 35, 36, 37, 38] (by decide +kernel) (by decide +kernel)
set_option maxRecDepth 20000 in
theorem gX11_likeMarks_X4_likePairs : GoodIn wsX11_likeMarks (wsV RX11 203 RX4 yX4_likePairs wsX4_likePairs) := goodIn_app (goodIn_of _ (by decide +kernel)) ggX11_likeMarks_X4_likePairs
theorem dX11_likeMarks_0 : decode cX11_likeMarks 0 = .ok (.aload_n 0, 1) := by decide +kernel
theorem dX11_likeMarks_1 : decode cX11_likeMarks 1 = .ok (.getfield 10, 3) := by decide +kernel
theorem dX11_likeMarks_4 : decode cX11_likeMarks 4 = .ok (.getfield 53, 3) := by decide +kernel
theorem dX11_likeMarks_7 : decode cX11_likeMarks 7 = .ok (.invokevirtual 203, 3) := by decide +kernel
theorem dX11_likeMarks_10 : decode cX11_likeMarks 10 = .ok (.ireturn, 1) := by decide +kernel
set_option maxRecDepth 20000 in
theorem ggX11_freeMark_X11_whyNotWithin : GoodIn wsX11_freeMark wsX11_whyNotWithin := goodIn_r _ [6] (by decide +kernel) (by decide +kernel)
set_option maxRecDepth 20000 in
theorem gX11_freeMark_X11_whyNotWithin : GoodIn wsX11_freeMark (va_wsS RX11 197 yX11_whyNotWithin wsX11_whyNotWithin) := goodIn_app (goodIn_of _ (by decide +kernel)) ggX11_freeMark_X11_whyNotWithin
set_option maxRecDepth 20000 in
theorem ggX11_freeMark_X11_refuse : GoodIn wsX11_freeMark wsX11_refuse := goodIn_ca (goodIn_ca (goodIn_ca (goodIn_r _ [9, 10, 11, 12, 13, 14, 15] (by decide +kernel) (by decide +kernel)) (goodIn_sub (fun _ h => List.mem_cons_of_mem _ (List.mem_append_left _ (List.mem_append_left _ (List.mem_append_right _ h)))) (by decide +kernel))) (goodIn_sub (fun _ h => List.mem_cons_of_mem _ (List.mem_append_left _ (List.mem_append_right _ h))) (by decide +kernel))) (goodIn_sub (fun _ h => List.mem_cons_of_mem _ (List.mem_append_right _ h)) (by decide +kernel))
set_option maxRecDepth 20000 in
theorem gX11_freeMark_X11_refuse : GoodIn wsX11_freeMark (va_wsS RX11 45 yX11_refuse wsX11_refuse) := goodIn_app (goodIn_of _ (by decide +kernel)) ggX11_freeMark_X11_refuse
set_option maxRecDepth 20000 in
theorem ggX11_freeMark_X4_hasLike : GoodIn wsX11_freeMark wsX4_hasLike := goodIn_r _ [20, 21, 22, 23, 24, 25, 26, 27, 28, 29, 30, 31, 19, 32, 33, 5, 34, 52, 53, 54, 55] (by decide +kernel) (by decide +kernel)
set_option maxRecDepth 20000 in
theorem gX11_freeMark_X4_hasLike : GoodIn wsX11_freeMark (wsV RX11 207 RX4 yX4_hasLike wsX4_hasLike) := goodIn_app (goodIn_of _ (by decide +kernel)) ggX11_freeMark_X4_hasLike
set_option maxRecDepth 20000 in
theorem ggX11_freeMark_X11_nextWithAsMany : GoodIn wsX11_freeMark wsX11_nextWithAsMany := goodIn_r _ [37, 38] (by decide +kernel) (by decide +kernel)
set_option maxRecDepth 20000 in
theorem gX11_freeMark_X11_nextWithAsMany : GoodIn wsX11_freeMark (va_wsS RX11 210 yX11_nextWithAsMany wsX11_nextWithAsMany) := goodIn_app (goodIn_of _ (by decide +kernel)) ggX11_freeMark_X11_nextWithAsMany
theorem dX11_freeMark_0 : decode cX11_freeMark 0 = .ok (.iload_n 1, 1) := by decide +kernel
theorem dX11_freeMark_1 : decode cX11_freeMark 1 = .ok (.iconst 1, 1) := by decide +kernel
theorem dX11_freeMark_2 : decode cX11_freeMark 2 = .ok (.bipush 16, 2) := by decide +kernel
theorem dX11_freeMark_4 : decode cX11_freeMark 4 = .ok (.invokestatic 197, 3) := by decide +kernel
theorem dX11_freeMark_7 : decode cX11_freeMark 7 = .ok (.invokestatic 45, 3) := by decide +kernel
theorem dX11_freeMark_10 : decode cX11_freeMark 10 = .ok (.iconst 1, 1) := by decide +kernel
theorem dX11_freeMark_11 : decode cX11_freeMark 11 = .ok (.iload_n 1, 1) := by decide +kernel
theorem dX11_freeMark_12 : decode cX11_freeMark 12 = .ok (.ishl, 1) := by decide +kernel
theorem dX11_freeMark_13 : decode cX11_freeMark 13 = .ok (.iconst 1, 1) := by decide +kernel
theorem dX11_freeMark_14 : decode cX11_freeMark 14 = .ok (.isub, 1) := by decide +kernel
theorem dX11_freeMark_15 : decode cX11_freeMark 15 = .ok (.istore_n 2, 1) := by decide +kernel
theorem dX11_freeMark_16 : decode cX11_freeMark 16 = .ok (.iconst 0, 1) := by decide +kernel
theorem dX11_freeMark_17 : decode cX11_freeMark 17 = .ok (.istore_n 3, 1) := by decide +kernel
theorem dX11_freeMark_18 : decode cX11_freeMark 18 = .ok (.iload_n 3, 1) := by decide +kernel
theorem dX11_freeMark_19 : decode cX11_freeMark 19 = .ok (.ldc 206, 2) := by decide +kernel
theorem dX11_freeMark_21 : decode cX11_freeMark 21 = .ok (.if_icmp .ge 36, 3) := by decide +kernel
theorem dX11_freeMark_24 : decode cX11_freeMark 24 = .ok (.iload_n 2, 1) := by decide +kernel
theorem dX11_freeMark_25 : decode cX11_freeMark 25 = .ok (.ldc 206, 2) := by decide +kernel
theorem dX11_freeMark_27 : decode cX11_freeMark 27 = .ok (.if_icmp .gt 30, 3) := by decide +kernel
theorem dX11_freeMark_30 : decode cX11_freeMark 30 = .ok (.aload_n 0, 1) := by decide +kernel
theorem dX11_freeMark_31 : decode cX11_freeMark 31 = .ok (.getfield 10, 3) := by decide +kernel
theorem dX11_freeMark_34 : decode cX11_freeMark 34 = .ok (.getfield 53, 3) := by decide +kernel
theorem dX11_freeMark_37 : decode cX11_freeMark 37 = .ok (.iload_n 2, 1) := by decide +kernel
theorem dX11_freeMark_38 : decode cX11_freeMark 38 = .ok (.invokevirtual 207, 3) := by decide +kernel
theorem dX11_freeMark_41 : decode cX11_freeMark 41 = .ok (.ifCond .ne 5, 3) := by decide +kernel
theorem dX11_freeMark_44 : decode cX11_freeMark 44 = .ok (.iload_n 2, 1) := by decide +kernel
theorem dX11_freeMark_45 : decode cX11_freeMark 45 = .ok (.ireturn, 1) := by decide +kernel
theorem dX11_freeMark_46 : decode cX11_freeMark 46 = .ok (.iload_n 2, 1) := by decide +kernel
theorem dX11_freeMark_47 : decode cX11_freeMark 47 = .ok (.invokestatic 210, 3) := by decide +kernel
theorem dX11_freeMark_50 : decode cX11_freeMark 50 = .ok (.istore_n 2, 1) := by decide +kernel
theorem dX11_freeMark_51 : decode cX11_freeMark 51 = .ok (.iinc 3 1, 3) := by decide +kernel
theorem dX11_freeMark_54 : decode cX11_freeMark 54 = .ok (.goto (-36), 3) := by decide +kernel
theorem dX11_freeMark_57 : decode cX11_freeMark 57 = .ok (.iconst (-1), 1) := by decide +kernel
theorem dX11_freeMark_58 : decode cX11_freeMark 58 = .ok (.ireturn, 1) := by decide +kernel
set_option maxRecDepth 20000 in
theorem ggX11_type_X11_whyNotWithin : GoodIn wsX11_type wsX11_whyNotWithin := goodIn_r _ [5] (by decide +kernel) (by decide +kernel)
set_option maxRecDepth 20000 in
theorem gX11_type_X11_whyNotWithin : GoodIn wsX11_type (va_wsS RX11 197 yX11_whyNotWithin wsX11_whyNotWithin) := goodIn_app (goodIn_of _ (by decide +kernel)) ggX11_type_X11_whyNotWithin
set_option maxRecDepth 20000 in
theorem ggX11_type_X11_refuse : GoodIn wsX11_type wsX11_refuse := goodIn_ca (goodIn_ca (goodIn_ca (goodIn_r _ [8, 9, 10, 11, 12, 13, 14] (by decide +kernel) (by decide +kernel)) (goodIn_sub (fun _ h => List.mem_cons_of_mem _ (List.mem_append_left _ (List.mem_append_left _ (List.mem_append_right _ h)))) (by decide +kernel))) (goodIn_sub (fun _ h => List.mem_cons_of_mem _ (List.mem_append_left _ (List.mem_append_right _ h))) (by decide +kernel))) (goodIn_sub (fun _ h => List.mem_cons_of_mem _ (List.mem_append_right _ h)) (by decide +kernel))
set_option maxRecDepth 20000 in
theorem gX11_type_X11_refuse : GoodIn wsX11_type (va_wsS RX11 45 yX11_refuse wsX11_refuse) := goodIn_app (goodIn_of _ (by decide +kernel)) ggX11_type_X11_refuse
set_option maxRecDepth 20000 in
theorem ggX11_type_X2_isFull : GoodIn wsX11_type wsX2_isFull := goodIn_r _ [19, 20, 32, 33, 34, 35, 36, 37] (by decide +kernel) (by decide +kernel)
set_option maxRecDepth 20000 in
theorem gX11_type_X2_isFull : GoodIn wsX11_type (wsV RX11 213 RX2 yX2_isFull wsX2_isFull) := goodIn_app (goodIn_of _ (by decide +kernel)) ggX11_type_X2_isFull
set_option maxRecDepth 20000 in
theorem ggX11_type_X2_append : GoodIn wsX11_type wsX2_append := goodIn_r _ [24, 25, 20, 26, 16, 17, 18, 19, 32, 33, 34, 35, 36, 37] (by decide +kernel) (by decide +kernel)
set_option maxRecDepth 20000 in
theorem gX11_type_X2_append : GoodIn wsX11_type (wsV RX11 217 RX2 yX2_append wsX2_append) := goodIn_app (goodIn_of _ (by decide +kernel)) ggX11_type_X2_append
theorem dX11_type_0 : decode cX11_type 0 = .ok (.iload_n 1, 1) := by decide +kernel
theorem dX11_type_1 : decode cX11_type 1 = .ok (.iconst 0, 1) := by decide +kernel
theorem dX11_type_2 : decode cX11_type 2 = .ok (.bipush 127, 2) := by decide +kernel
theorem dX11_type_4 : decode cX11_type 4 = .ok (.invokestatic 197, 3) := by decide +kernel
theorem dX11_type_7 : decode cX11_type 7 = .ok (.invokestatic 45, 3) := by decide +kernel
theorem dX11_type_10 : decode cX11_type 10 = .ok (.aload_n 0, 1) := by decide +kernel
theorem dX11_type_11 : decode cX11_type 11 = .ok (.getfield 33, 3) := by decide +kernel
theorem dX11_type_14 : decode cX11_type 14 = .ok (.invokevirtual 213, 3) := by decide +kernel
theorem dX11_type_17 : decode cX11_type 17 = .ok (.ifCond .eq 7, 3) := by decide +kernel
theorem dX11_type_20 : decode cX11_type 20 = .ok (.iconst 3, 1) := by decide +kernel
theorem dX11_type_21 : decode cX11_type 21 = .ok (.goto 4, 3) := by decide +kernel
theorem dX11_type_24 : decode cX11_type 24 = .ok (.iconst 0, 1) := by decide +kernel
theorem dX11_type_25 : decode cX11_type 25 = .ok (.invokestatic 45, 3) := by decide +kernel
theorem dX11_type_28 : decode cX11_type 28 = .ok (.aload_n 0, 1) := by decide +kernel
theorem dX11_type_29 : decode cX11_type 29 = .ok (.getfield 33, 3) := by decide +kernel
theorem dX11_type_32 : decode cX11_type 32 = .ok (.iload_n 1, 1) := by decide +kernel
theorem dX11_type_33 : decode cX11_type 33 = .ok (.invokevirtual 217, 3) := by decide +kernel
theorem dX11_type_36 : decode cX11_type 36 = .ok (.ireturn, 1) := by decide +kernel
set_option maxRecDepth 20000 in
theorem ggX11_clearCommands_X2_empty : GoodIn wsX11_clearCommands wsX2_empty := goodIn_r _ [6, 7, 13, 14, 15, 16, 17, 18] (by decide +kernel) (by decide +kernel)
set_option maxRecDepth 20000 in
theorem gX11_clearCommands_X2_empty : GoodIn wsX11_clearCommands (wsV RX11 220 RX2 yX2_empty wsX2_empty) := goodIn_app (goodIn_of _ (by decide +kernel)) ggX11_clearCommands_X2_empty
theorem dX11_clearCommands_0 : decode cX11_clearCommands 0 = .ok (.aload_n 0, 1) := by decide +kernel
theorem dX11_clearCommands_1 : decode cX11_clearCommands 1 = .ok (.getfield 33, 3) := by decide +kernel
theorem dX11_clearCommands_4 : decode cX11_clearCommands 4 = .ok (.invokevirtual 220, 3) := by decide +kernel
theorem dX11_clearCommands_7 : decode cX11_clearCommands 7 = .ok (.ireturn, 1) := by decide +kernel
set_option maxRecDepth 20000 in
theorem ggX11_runCommands_X2_findFault : GoodIn wsX11_runCommands wsX2_findFault := goodIn_r _ [9, 10, 11, 12, 13, 8, 14, 15, 16, 17, 18, 19, 20, 21, 22, 23, 24, 25, 26, 27, 28, 29, 30, 31, 32, 33, 34, 35, 36, 37, 38, 39, 40, 41, 42, 43, 44, 45, 46, 47, 48, 49, 50, 51, 52, 53, 54, 55, 56, 57, 58, 59, 60, 61, 62, 63, 64, 65, 66, 67, 68, 69, 70, 71, 72, 73, 74, 75, 76, 77, 78, 79, 80, 81, 82, 83, 84, 85, 86, 87, 88, 89, 90, 91, 92, 93, 94, 95, 96, 97, 98, 99, 100, 101, 102, 103, 104, 105, 106, 107, 108, 109, 110, 111, 112, 113, 520, 521, 522, 523, 524, 525] (by decide +kernel) (by decide +kernel)
set_option maxRecDepth 20000 in
theorem gX11_runCommands_X2_findFault : GoodIn wsX11_runCommands (wsV RX11 223 RX2 yX2_findFault wsX2_findFault) := goodIn_app (goodIn_of _ (by decide +kernel)) ggX11_runCommands_X2_findFault
set_option maxRecDepth 20000 in
theorem ggX11_runCommands_X8_push : GoodIn wsX11_runCommands wsX8_push := goodIn_r _ [118, 119, 120, 121, 122, 123, 124, 125, 126, 127, 117, 128, 129, 130, 131, 132, 133, 134, 135, 136, 137, 138, 139, 140, 141, 142, 143, 144, 145, 146, 147, 148, 149, 150, 151, 152, 153, 154, 155, 156, 157, 158, 159, 160, 161, 162, 163, 164, 165, 166, 167, 168, 169, 170, 171, 172, 173, 174, 175, 176, 177, 178, 179, 180, 181, 182, 183, 184, 185, 186, 187, 188, 189, 190, 526, 527, 528, 529, 530, 531, 532, 533, 534, 535, 536, 537, 538, 539, 540, 541, 542, 543, 544, 545, 546, 547] (by decide +kernel) (by decide +kernel)
set_option maxRecDepth 20000 in
theorem gX11_runCommands_X8_push : GoodIn wsX11_runCommands (wsV RX11 49 RX8 yX8_push wsX8_push) := goodIn_app (goodIn_of _ (by decide +kernel)) ggX11_runCommands_X8_push
set_option maxRecDepth 20000 in
theorem ggX11_runCommands_X2_rewind : GoodIn wsX11_runCommands wsX2_rewind := goodIn_r _ [14, 15, 10, 520, 521, 522, 523, 524, 525] (by decide +kernel) (by decide +kernel)
set_option maxRecDepth 20000 in
theorem gX11_runCommands_X2_rewind : GoodIn wsX11_runCommands (wsV RX11 226 RX2 yX2_rewind wsX2_rewind) := goodIn_app (goodIn_of _ (by decide +kernel)) ggX11_runCommands_X2_rewind
set_option maxRecDepth 20000 in
theorem ggX11_runCommands_X2_readCommand : GoodIn wsX11_runCommands wsX2_readCommand := goodIn_r _ [19, 15, 20, 21, 22, 23, 8, 24, 25, 26, 27, 28, 29, 30, 31, 32, 33, 34, 35, 36, 37, 38, 39, 40, 41, 42, 43, 44, 45, 46, 47, 48, 49, 50, 51, 52, 53, 54, 55, 56, 57, 58, 59, 60, 61, 62, 63, 64, 65, 66, 67, 68, 69, 70, 71, 72, 73, 74, 75, 76, 77, 78, 79, 80, 81, 82, 83, 84, 85, 86, 87, 88, 89, 90, 91, 92, 93, 94, 95, 96, 97, 98, 99, 100, 10, 101, 102, 103, 104, 105, 106, 107, 108, 109, 110, 111, 112, 113, 520, 521, 522, 523, 524, 525] (by decide +kernel) (by decide +kernel)
set_option maxRecDepth 20000 in
theorem gX11_runCommands_X2_readCommand : GoodIn wsX11_runCommands (wsV RX11 229 RX2 yX2_readCommand wsX2_readCommand) := goodIn_app (goodIn_of _ (by decide +kernel)) ggX11_runCommands_X2_readCommand
set_option maxRecDepth 20000 in
theorem ggX11_runCommands_X2_word : GoodIn wsX11_runCommands wsX2_word := goodIn_r _ [196, 38, 520, 521, 522, 523, 524, 525] (by decide +kernel) (by decide +kernel)
set_option maxRecDepth 20000 in
theorem gX11_runCommands_X2_word : GoodIn wsX11_runCommands (wsV RX11 232 RX2 yX2_word wsX2_word) := goodIn_app (goodIn_of _ (by decide +kernel)) ggX11_runCommands_X2_word
set_option maxRecDepth 20000 in
theorem ggX11_runCommands_X2_number : GoodIn wsX11_runCommands wsX2_number := goodIn_r _ [200, 105, 520, 521, 522, 523, 524, 525] (by decide +kernel) (by decide +kernel)
set_option maxRecDepth 20000 in
theorem gX11_runCommands_X2_number : GoodIn wsX11_runCommands (wsV RX11 236 RX2 yX2_number wsX2_number) := goodIn_app (goodIn_of _ (by decide +kernel)) ggX11_runCommands_X2_number
set_option maxRecDepth 20000 in
theorem ggX11_runCommands_X11_carryOut : GoodIn wsX11_runCommands wsX11_carryOut := goodIn_r _ [205, 206, 3, 207, 208, 209, 210, 204, 211, 212, 213, 214, 215, 216, 217, 218, 219, 220, 221, 133, 222, 223, 135, 224, 225, 226, 227, 228, 146, 229, 149, 230, 231, 232, 233, 148, 234, 235, 236, 153, 237, 155, 156, 238, 239, 240, 241, 136, 242, 243, 244, 245, 246, 247, 248, 249, 250, 251, 164, 252, 167, 253, 254, 255, 256, 257, 258, 259, 260, 261, 262, 263, 264, 265, 266, 267, 268, 269, 270, 271, 272, 273, 274, 275, 276, 166, 277, 278, 279, 280, 281, 138, 137, 142, 282, 283, 123, 284, 139, 141, 285, 286, 287, 180, 288, 183, 289, 290, 291, 292, 293, 294, 295, 296, 297, 298, 299, 300, 301, 302, 303, 304, 305, 306, 307, 308, 309, 310, 311, 312, 313, 314, 315, 316, 317, 318, 319, 320, 321, 322, 323, 324, 325, 326, 327, 328, 329, 330, 331, 332, 333, 334, 335, 336, 337, 338, 339, 122, 124, 340, 341, 342, 343, 344, 345, 346, 347, 348, 349, 350, 351, 352, 353, 354, 355, 356, 172, 357, 175, 358, 359, 360, 361, 362, 363, 364, 365, 366, 367, 368, 369, 370, 371, 372, 373, 374, 375, 376, 174, 377, 378, 379, 380, 381, 382, 383, 384, 385, 169, 170, 171, 173, 176, 151, 152, 154, 157, 158, 159, 160, 386, 387, 388, 389, 390, 391, 392, 393, 394, 395, 396, 397, 398, 399, 400, 401, 402, 403, 404, 405, 406, 407, 408, 409, 410, 411, 412, 413, 414, 415, 416, 417, 418, 419, 420, 421, 422, 423, 424, 425, 426, 427, 428, 429, 430, 431, 432, 140, 433, 434, 435, 436, 437, 438, 182, 184, 439, 440, 441, 442, 443, 444, 445, 446, 447, 448, 449, 450, 451, 452, 453, 454, 455, 185, 186, 187, 188, 189, 456, 457, 458, 459, 460, 461, 462, 463, 464, 465, 466, 467, 468, 469, 470, 471, 472, 473, 474, 475, 476, 477, 478, 479, 480, 481, 482, 483, 484, 485, 486, 487, 488, 489, 490, 491, 492, 493, 494, 495, 496, 497, 498, 499, 500, 501, 502, 503, 504, 505, 506, 507, 508, 509, 510, 511, 512, 513, 514, 515, 516, 517, 518, 519, 529, 530, 531, 532, 533, 534, 535, 536, 537, 538, 539, 540, 541, 542, 545, 546, 547, 548, 549, 550, 551, 552, 553, 554, 543, 544] (by decide +kernel) (by decide +kernel)
set_option maxRecDepth 20000 in
theorem gX11_runCommands_X11_carryOut : GoodIn wsX11_runCommands (wsV RX11 239 RX11 yX11_carryOut wsX11_carryOut) := goodIn_app (goodIn_of _ (by decide +kernel)) ggX11_runCommands_X11_carryOut
theorem dX11_runCommands_0 : decode cX11_runCommands 0 = .ok (.aload_n 0, 1) := by decide +kernel
theorem dX11_runCommands_1 : decode cX11_runCommands 1 = .ok (.getfield 33, 3) := by decide +kernel
theorem dX11_runCommands_4 : decode cX11_runCommands 4 = .ok (.invokevirtual 223, 3) := by decide +kernel
theorem dX11_runCommands_7 : decode cX11_runCommands 7 = .ok (.istore_n 1, 1) := by decide +kernel
theorem dX11_runCommands_8 : decode cX11_runCommands 8 = .ok (.iload_n 1, 1) := by decide +kernel
theorem dX11_runCommands_9 : decode cX11_runCommands 9 = .ok (.iconst (-1), 1) := by decide +kernel
theorem dX11_runCommands_10 : decode cX11_runCommands 10 = .ok (.if_icmp .eq 8, 3) := by decide +kernel
theorem dX11_runCommands_13 : decode cX11_runCommands 13 = .ok (.bipush (-10), 2) := by decide +kernel
theorem dX11_runCommands_15 : decode cX11_runCommands 15 = .ok (.iload_n 1, 1) := by decide +kernel
theorem dX11_runCommands_16 : decode cX11_runCommands 16 = .ok (.isub, 1) := by decide +kernel
theorem dX11_runCommands_17 : decode cX11_runCommands 17 = .ok (.ireturn, 1) := by decide +kernel
theorem dX11_runCommands_18 : decode cX11_runCommands 18 = .ok (.aload_n 0, 1) := by decide +kernel
theorem dX11_runCommands_19 : decode cX11_runCommands 19 = .ok (.getfield 26, 3) := by decide +kernel
theorem dX11_runCommands_22 : decode cX11_runCommands 22 = .ok (.aload_n 0, 1) := by decide +kernel
theorem dX11_runCommands_23 : decode cX11_runCommands 23 = .ok (.getfield 10, 3) := by decide +kernel
theorem dX11_runCommands_26 : decode cX11_runCommands 26 = .ok (.invokevirtual 49, 3) := by decide +kernel
theorem dX11_runCommands_29 : decode cX11_runCommands 29 = .ok (.aload_n 0, 1) := by decide +kernel
theorem dX11_runCommands_30 : decode cX11_runCommands 30 = .ok (.iconst 0, 1) := by decide +kernel
theorem dX11_runCommands_31 : decode cX11_runCommands 31 = .ok (.putfield 37, 3) := by decide +kernel
theorem dX11_runCommands_34 : decode cX11_runCommands 34 = .ok (.iconst 0, 1) := by decide +kernel
theorem dX11_runCommands_35 : decode cX11_runCommands 35 = .ok (.istore_n 2, 1) := by decide +kernel
theorem dX11_runCommands_36 : decode cX11_runCommands 36 = .ok (.aload_n 0, 1) := by decide +kernel
theorem dX11_runCommands_37 : decode cX11_runCommands 37 = .ok (.getfield 33, 3) := by decide +kernel
theorem dX11_runCommands_40 : decode cX11_runCommands 40 = .ok (.invokevirtual 226, 3) := by decide +kernel
theorem dX11_runCommands_43 : decode cX11_runCommands 43 = .ok (.iconst 0, 1) := by decide +kernel
theorem dX11_runCommands_44 : decode cX11_runCommands 44 = .ok (.istore_n 3, 1) := by decide +kernel
theorem dX11_runCommands_45 : decode cX11_runCommands 45 = .ok (.iload_n 3, 1) := by decide +kernel
theorem dX11_runCommands_46 : decode cX11_runCommands 46 = .ok (.sipush 150, 3) := by decide +kernel
theorem dX11_runCommands_49 : decode cX11_runCommands 49 = .ok (.if_icmp .ge 70, 3) := by decide +kernel
theorem dX11_runCommands_52 : decode cX11_runCommands 52 = .ok (.aload_n 0, 1) := by decide +kernel
theorem dX11_runCommands_53 : decode cX11_runCommands 53 = .ok (.getfield 33, 3) := by decide +kernel
theorem dX11_runCommands_56 : decode cX11_runCommands 56 = .ok (.invokevirtual 229, 3) := by decide +kernel
theorem dX11_runCommands_59 : decode cX11_runCommands 59 = .ok (.ifCond .eq 60, 3) := by decide +kernel
theorem dX11_runCommands_62 : decode cX11_runCommands 62 = .ok (.aload_n 0, 1) := by decide +kernel
theorem dX11_runCommands_63 : decode cX11_runCommands 63 = .ok (.aload_n 0, 1) := by decide +kernel
theorem dX11_runCommands_64 : decode cX11_runCommands 64 = .ok (.aload_n 0, 1) := by decide +kernel
theorem dX11_runCommands_65 : decode cX11_runCommands 65 = .ok (.getfield 33, 3) := by decide +kernel
theorem dX11_runCommands_68 : decode cX11_runCommands 68 = .ok (.invokevirtual 232, 3) := by decide +kernel
theorem dX11_runCommands_71 : decode cX11_runCommands 71 = .ok (.aload_n 0, 1) := by decide +kernel
theorem dX11_runCommands_72 : decode cX11_runCommands 72 = .ok (.getfield 33, 3) := by decide +kernel
theorem dX11_runCommands_75 : decode cX11_runCommands 75 = .ok (.iconst 0, 1) := by decide +kernel
theorem dX11_runCommands_76 : decode cX11_runCommands 76 = .ok (.invokevirtual 236, 3) := by decide +kernel
theorem dX11_runCommands_79 : decode cX11_runCommands 79 = .ok (.aload_n 0, 1) := by decide +kernel
theorem dX11_runCommands_80 : decode cX11_runCommands 80 = .ok (.getfield 33, 3) := by decide +kernel
theorem dX11_runCommands_83 : decode cX11_runCommands 83 = .ok (.iconst 1, 1) := by decide +kernel
theorem dX11_runCommands_84 : decode cX11_runCommands 84 = .ok (.invokevirtual 236, 3) := by decide +kernel
theorem dX11_runCommands_87 : decode cX11_runCommands 87 = .ok (.aload_n 0, 1) := by decide +kernel
theorem dX11_runCommands_88 : decode cX11_runCommands 88 = .ok (.getfield 33, 3) := by decide +kernel
theorem dX11_runCommands_91 : decode cX11_runCommands 91 = .ok (.iconst 2, 1) := by decide +kernel
theorem dX11_runCommands_92 : decode cX11_runCommands 92 = .ok (.invokevirtual 236, 3) := by decide +kernel
theorem dX11_runCommands_95 : decode cX11_runCommands 95 = .ok (.invokevirtual 239, 3) := by decide +kernel
theorem dX11_runCommands_98 : decode cX11_runCommands 98 = .ok (.putfield 37, 3) := by decide +kernel
theorem dX11_runCommands_101 : decode cX11_runCommands 101 = .ok (.aload_n 0, 1) := by decide +kernel
theorem dX11_runCommands_102 : decode cX11_runCommands 102 = .ok (.getfield 37, 3) := by decide +kernel
theorem dX11_runCommands_105 : decode cX11_runCommands 105 = .ok (.ifCond .eq 5, 3) := by decide +kernel
theorem dX11_runCommands_108 : decode cX11_runCommands 108 = .ok (.iload_n 2, 1) := by decide +kernel
theorem dX11_runCommands_109 : decode cX11_runCommands 109 = .ok (.ireturn, 1) := by decide +kernel
theorem dX11_runCommands_110 : decode cX11_runCommands 110 = .ok (.iinc 2 1, 3) := by decide +kernel
theorem dX11_runCommands_113 : decode cX11_runCommands 113 = .ok (.iinc 3 1, 3) := by decide +kernel
theorem dX11_runCommands_116 : decode cX11_runCommands 116 = .ok (.goto (-71), 3) := by decide +kernel
theorem dX11_runCommands_119 : decode cX11_runCommands 119 = .ok (.iload_n 2, 1) := by decide +kernel
theorem dX11_runCommands_120 : decode cX11_runCommands 120 = .ok (.ireturn, 1) := by decide +kernel
theorem dX11_stop_0 : decode cX11_stop 0 = .ok (.aload_n 0, 1) := by decide +kernel
theorem dX11_stop_1 : decode cX11_stop 1 = .ok (.getfield 37, 3) := by decide +kernel
theorem dX11_stop_4 : decode cX11_stop 4 = .ok (.ireturn, 1) := by decide +kernel
set_option maxRecDepth 20000 in
theorem ggX11_undo_X8_size : GoodIn wsX11_undo wsX8_size := goodIn_r _ [7, 8, 98, 99, 100] (by decide +kernel) (by decide +kernel)
set_option maxRecDepth 20000 in
theorem gX11_undo_X8_size : GoodIn wsX11_undo (wsV RX11 243 RX8 yX8_size wsX8_size) := goodIn_app (goodIn_of _ (by decide +kernel)) ggX11_undo_X8_size
set_option maxRecDepth 20000 in
theorem ggX11_undo_X11_refuse : GoodIn wsX11_undo wsX11_refuse := goodIn_ca (goodIn_ca (goodIn_ca (goodIn_r _ [12, 13, 14, 15, 16, 17, 18] (by decide +kernel) (by decide +kernel)) (goodIn_sub (fun _ h => List.mem_cons_of_mem _ (List.mem_append_left _ (List.mem_append_left _ (List.mem_append_right _ h)))) (by decide +kernel))) (goodIn_sub (fun _ h => List.mem_cons_of_mem _ (List.mem_append_left _ (List.mem_append_right _ h))) (by decide +kernel))) (goodIn_sub (fun _ h => List.mem_cons_of_mem _ (List.mem_append_right _ h)) (by decide +kernel))
set_option maxRecDepth 20000 in
theorem gX11_undo_X11_refuse : GoodIn wsX11_undo (va_wsS RX11 45 yX11_refuse wsX11_refuse) := goodIn_app (goodIn_of _ (by decide +kernel)) ggX11_undo_X11_refuse
set_option maxRecDepth 20000 in
theorem ggX11_undo_X8_popInto : GoodIn wsX11_undo wsX8_popInto := goodIn_r _ [22, 23, 8, 24, 25, 26, 6, 27, 28, 29, 30, 31, 32, 33, 34, 35, 36, 37, 38, 39, 40, 41, 42, 43, 44, 45, 46, 47, 48, 49, 50, 51, 52, 53, 54, 55, 56, 57, 58, 59, 60, 61, 62, 63, 64, 65, 66, 67, 68, 69, 70, 71, 72, 73, 74, 75, 76, 77, 78, 79, 80, 81, 82, 83, 84, 85, 86, 87, 88, 89, 90, 91, 92, 98, 99, 100, 101, 102, 103, 104, 105, 106, 107, 108, 109, 110, 111, 112, 113, 114, 115, 116, 117, 118, 119] (by decide +kernel) (by decide +kernel)
set_option maxRecDepth 20000 in
theorem gX11_undo_X8_popInto : GoodIn wsX11_undo (wsV RX11 244 RX8 yX8_popInto wsX8_popInto) := goodIn_app (goodIn_of _ (by decide +kernel)) ggX11_undo_X8_popInto
theorem dX11_undo_0 : decode cX11_undo 0 = .ok (.aload_n 0, 1) := by decide +kernel
theorem dX11_undo_1 : decode cX11_undo 1 = .ok (.getfield 26, 3) := by decide +kernel
theorem dX11_undo_4 : decode cX11_undo 4 = .ok (.invokevirtual 243, 3) := by decide +kernel
theorem dX11_undo_7 : decode cX11_undo 7 = .ok (.ifCond .ne 7, 3) := by decide +kernel
theorem dX11_undo_10 : decode cX11_undo 10 = .ok (.iconst 3, 1) := by decide +kernel
theorem dX11_undo_11 : decode cX11_undo 11 = .ok (.goto 4, 3) := by decide +kernel
theorem dX11_undo_14 : decode cX11_undo 14 = .ok (.iconst 0, 1) := by decide +kernel
theorem dX11_undo_15 : decode cX11_undo 15 = .ok (.invokestatic 45, 3) := by decide +kernel
theorem dX11_undo_18 : decode cX11_undo 18 = .ok (.aload_n 0, 1) := by decide +kernel
theorem dX11_undo_19 : decode cX11_undo 19 = .ok (.getfield 26, 3) := by decide +kernel
theorem dX11_undo_22 : decode cX11_undo 22 = .ok (.aload_n 0, 1) := by decide +kernel
theorem dX11_undo_23 : decode cX11_undo 23 = .ok (.getfield 10, 3) := by decide +kernel
theorem dX11_undo_26 : decode cX11_undo 26 = .ok (.invokevirtual 244, 3) := by decide +kernel
theorem dX11_undo_29 : decode cX11_undo 29 = .ok (.ireturn, 1) := by decide +kernel
set_option maxRecDepth 20000 in
theorem ggX11_digest_X8_size : GoodIn wsX11_digest wsX8_size := goodIn_r _ [8, 9, 273, 274, 275] (by decide +kernel) (by decide +kernel)
set_option maxRecDepth 20000 in
theorem gX11_digest_X8_size : GoodIn wsX11_digest (wsV RX11 243 RX8 yX8_size wsX8_size) := goodIn_app (goodIn_of _ (by decide +kernel)) ggX11_digest_X8_size
set_option maxRecDepth 20000 in
theorem ggX11_digest_X11_mix : GoodIn wsX11_digest wsX11_mix := goodIn_r _ [13, 14] (by decide +kernel) (by decide +kernel)
set_option maxRecDepth 20000 in
theorem gX11_digest_X11_mix : GoodIn wsX11_digest (va_wsS RX11 250 yX11_mix wsX11_mix) := goodIn_app (goodIn_of _ (by decide +kernel)) ggX11_digest_X11_mix
set_option maxRecDepth 20000 in
theorem ggX11_digest_X2_length : GoodIn wsX11_digest wsX2_length := goodIn_r _ [19, 20, 276, 277, 278, 279, 280, 281] (by decide +kernel) (by decide +kernel)
set_option maxRecDepth 20000 in
theorem gX11_digest_X2_length : GoodIn wsX11_digest (wsV RX11 254 RX2 yX2_length wsX2_length) := goodIn_app (goodIn_of _ (by decide +kernel)) ggX11_digest_X2_length
set_option maxRecDepth 20000 in
theorem ggX11_digest_X11_stop : GoodIn wsX11_digest wsX11_stop := goodIn_r _ [24, 25, 268, 269, 270, 271, 272] (by decide +kernel) (by decide +kernel)
set_option maxRecDepth 20000 in
theorem gX11_digest_X11_stop : GoodIn wsX11_digest (wsV RX11 257 RX11 yX11_stop wsX11_stop) := goodIn_app (goodIn_of _ (by decide +kernel)) ggX11_digest_X11_stop
set_option maxRecDepth 20000 in
theorem ggX11_digest_X11_whole : GoodIn wsX11_digest wsX11_whole := goodIn_ca (goodIn_ca (goodIn_ca (goodIn_r _ [29, 30, 31, 32, 12, 33, 34, 35, 36, 37, 38, 39, 40, 41, 42, 43, 44, 45, 46, 47, 48, 49, 50, 51, 52, 53, 54, 55, 56, 57, 58, 59, 60, 61, 62, 63, 64, 65, 66, 67, 68, 69, 70, 71, 72, 73, 74, 75, 76, 77, 78, 79, 80, 81, 82, 83, 84, 85, 86, 87, 88, 89, 90, 91, 92, 93, 94, 95, 96, 97, 98, 99, 100, 101, 102, 103, 104, 105, 106, 107, 108, 109, 110, 111, 112, 113, 114, 115, 116, 268, 269, 270, 271, 272, 282, 283, 284, 285, 286, 287, 288, 289, 290, 291, 292, 293, 294, 295, 296, 297, 298, 299, 300] (by decide +kernel) (by decide +kernel)) (goodIn_sub (fun _ h => List.mem_cons_of_mem _ (List.mem_append_left _ (List.mem_append_left _ (List.mem_append_right _ h)))) (by decide +kernel))) (goodIn_sub (fun _ h => List.mem_cons_of_mem _ (List.mem_append_left _ (List.mem_append_right _ h))) (by decide +kernel))) (goodIn_sub (fun _ h => List.mem_cons_of_mem _ (List.mem_append_right _ h)) (by decide +kernel))
set_option maxRecDepth 20000 in
theorem gX11_digest_X11_whole : GoodIn wsX11_digest (wsV RX11 259 RX11 yX11_whole wsX11_whole) := goodIn_app (goodIn_of _ (by decide +kernel)) ggX11_digest_X11_whole
set_option maxRecDepth 20000 in
theorem ggX11_digest_X11_mixHouseholds : GoodIn wsX11_digest wsX11_mixHouseholds := goodIn_ca (goodIn_ca (goodIn_ca (goodIn_r _ [120, 30, 46, 47, 48, 49, 50, 51, 121, 122, 123, 12, 124, 125, 126, 127, 128, 129, 130, 131, 132, 133, 134, 37, 38, 39, 40, 41, 42, 43, 44, 45, 31, 32, 33, 34, 35, 36, 89, 90, 91, 73, 92, 93, 94, 82, 83, 84, 75, 85, 86, 87, 88, 95, 96, 97, 66, 98, 99, 100, 101, 102, 68, 69, 135, 136, 137, 138, 139, 140, 141, 142, 55, 143, 144, 57, 145, 146, 147, 148, 149, 62, 150, 108, 109, 110, 10, 11, 13, 14, 151, 152, 153, 154, 155, 156, 157, 158, 63, 64, 65, 67, 159, 160, 161, 162, 163, 164, 165, 166, 167, 268, 269, 270, 271, 272, 282, 283, 284, 285, 286, 287, 288, 289, 290, 291, 296, 297, 298, 294, 295, 292, 293] (by decide +kernel) (by decide +kernel)) (goodIn_sub (fun _ h => List.mem_cons_of_mem _ (List.mem_append_left _ (List.mem_append_left _ (List.mem_append_right _ h)))) (by decide +kernel))) (goodIn_sub (fun _ h => List.mem_cons_of_mem _ (List.mem_append_left _ (List.mem_append_right _ h))) (by decide +kernel))) (goodIn_sub (fun _ h => List.mem_cons_of_mem _ (List.mem_append_right _ h)) (by decide +kernel))
set_option maxRecDepth 20000 in
theorem gX11_digest_X11_mixHouseholds : GoodIn wsX11_digest (wsV RX11 262 RX11 yX11_mixHouseholds wsX11_mixHouseholds) := goodIn_app (goodIn_of _ (by decide +kernel)) ggX11_digest_X11_mixHouseholds
set_option maxRecDepth 20000 in
theorem ggX11_digest_X11_nextForWood : GoodIn wsX11_digest wsX11_nextForWood := goodIn_r _ [171, 30, 172, 173, 174, 49, 175, 62, 51, 176, 96, 97, 66, 98, 99, 100, 101, 102, 68, 69, 150, 108, 109, 110, 177, 156, 157, 158, 63, 64, 65, 67, 268, 269, 270, 271, 272, 282, 283, 284, 285, 286, 287, 288, 289, 290, 291, 294, 295] (by decide +kernel) (by decide +kernel)
set_option maxRecDepth 20000 in
theorem gX11_digest_X11_nextForWood : GoodIn wsX11_digest (wsV RX11 266 RX11 yX11_nextForWood wsX11_nextForWood) := goodIn_app (goodIn_of _ (by decide +kernel)) ggX11_digest_X11_nextForWood
set_option maxRecDepth 20000 in
theorem ggX11_digest_X11_mixBatches : GoodIn wsX11_digest wsX11_mixBatches := goodIn_ca (goodIn_ca (goodIn_ca (goodIn_r _ [181, 30, 52, 53, 54, 55, 56, 57, 182, 183, 184, 12, 185, 186, 31, 32, 33, 34, 35, 36, 37, 38, 39, 40, 41, 42, 43, 44, 45, 187, 188, 189, 190, 191, 192, 193, 194, 144, 195, 108, 109, 66, 110, 69, 68, 196, 197, 198, 128, 199, 200, 130, 201, 47, 48, 49, 50, 51, 202, 173, 174, 175, 62, 176, 96, 97, 98, 99, 100, 101, 102, 150, 177, 156, 157, 158, 63, 64, 65, 67, 203, 204, 205, 206, 207, 208, 209, 210, 211, 212, 213, 214, 215, 216, 217, 218, 219, 10, 11, 13, 14, 268, 269, 270, 271, 272, 282, 283, 284, 285, 286, 287, 288, 289, 292, 293, 294, 295, 290, 291, 301, 302, 303, 304, 305, 306, 307] (by decide +kernel) (by decide +kernel)) (goodIn_sub (fun _ h => List.mem_cons_of_mem _ (List.mem_append_left _ (List.mem_append_left _ (List.mem_append_right _ h)))) (by decide +kernel))) (goodIn_sub (fun _ h => List.mem_cons_of_mem _ (List.mem_append_left _ (List.mem_append_right _ h))) (by decide +kernel))) (goodIn_sub (fun _ h => List.mem_cons_of_mem _ (List.mem_append_right _ h)) (by decide +kernel))
set_option maxRecDepth 20000 in
theorem gX11_digest_X11_mixBatches : GoodIn wsX11_digest (wsV RX11 269 RX11 yX11_mixBatches wsX11_mixBatches) := goodIn_app (goodIn_of _ (by decide +kernel)) ggX11_digest_X11_mixBatches
set_option maxRecDepth 20000 in
theorem ggX11_digest_X11_mixLoaves : GoodIn wsX11_digest wsX11_mixLoaves := goodIn_ca (goodIn_ca (goodIn_ca (goodIn_r _ [223, 30, 224, 225, 226, 73, 227, 75, 94, 82, 83, 84, 85, 86, 87, 88, 70, 71, 72, 74, 10, 11, 12, 13, 14, 228, 229, 230, 231, 232, 233, 234, 235, 236, 37, 38, 39, 40, 41, 42, 43, 44, 45, 31, 32, 33, 34, 35, 36, 237, 238, 239, 240, 93, 107, 108, 109, 66, 110, 69, 68, 268, 269, 270, 271, 272, 282, 283, 284, 285, 286, 287, 288, 289, 296, 297, 298, 294, 295] (by decide +kernel) (by decide +kernel)) (goodIn_sub (fun _ h => List.mem_cons_of_mem _ (List.mem_append_left _ (List.mem_append_left _ (List.mem_append_right _ h)))) (by decide +kernel))) (goodIn_sub (fun _ h => List.mem_cons_of_mem _ (List.mem_append_left _ (List.mem_append_right _ h))) (by decide +kernel))) (goodIn_sub (fun _ h => List.mem_cons_of_mem _ (List.mem_append_right _ h)) (by decide +kernel))
set_option maxRecDepth 20000 in
theorem gX11_digest_X11_mixLoaves : GoodIn wsX11_digest (wsV RX11 272 RX11 yX11_mixLoaves wsX11_mixLoaves) := goodIn_app (goodIn_of _ (by decide +kernel)) ggX11_digest_X11_mixLoaves
set_option maxRecDepth 20000 in
theorem ggX11_digest_X11_mixLoads : GoodIn wsX11_digest wsX11_mixLoads := goodIn_ca (goodIn_ca (goodIn_ca (goodIn_r _ [244, 30, 111, 112, 113, 114, 115, 116, 245, 246, 247, 12, 248, 31, 32, 33, 34, 35, 36, 37, 38, 39, 40, 41, 42, 43, 44, 45, 249, 250, 251, 252, 253, 254, 108, 109, 66, 110, 69, 68, 10, 11, 13, 14, 268, 269, 270, 271, 272, 282, 283, 284, 285, 286, 287, 288, 289, 299, 300, 294, 295] (by decide +kernel) (by decide +kernel)) (goodIn_sub (fun _ h => List.mem_cons_of_mem _ (List.mem_append_left _ (List.mem_append_left _ (List.mem_append_right _ h)))) (by decide +kernel))) (goodIn_sub (fun _ h => List.mem_cons_of_mem _ (List.mem_append_left _ (List.mem_append_right _ h))) (by decide +kernel))) (goodIn_sub (fun _ h => List.mem_cons_of_mem _ (List.mem_append_right _ h)) (by decide +kernel))
set_option maxRecDepth 20000 in
theorem gX11_digest_X11_mixLoads : GoodIn wsX11_digest (wsV RX11 275 RX11 yX11_mixLoads wsX11_mixLoads) := goodIn_app (goodIn_of _ (by decide +kernel)) ggX11_digest_X11_mixLoads
set_option maxRecDepth 20000 in
theorem ggX11_digest_X11_likeMarks : GoodIn wsX11_digest wsX11_likeMarks := goodIn_r _ [258, 30, 259, 260, 261, 49, 262, 51, 62, 150, 108, 109, 66, 110, 69, 68, 263, 264, 265, 266, 12, 267, 268, 269, 270, 271, 272, 282, 283, 284, 285, 286, 287, 288, 289, 290, 291, 294, 295] (by decide +kernel) (by decide +kernel)
set_option maxRecDepth 20000 in
theorem gX11_digest_X11_likeMarks : GoodIn wsX11_digest (wsV RX11 278 RX11 yX11_likeMarks wsX11_likeMarks) := goodIn_app (goodIn_of _ (by decide +kernel)) ggX11_digest_X11_likeMarks
theorem dX11_digest_0 : decode cX11_digest 0 = .ok (.ldc2_w 248, 3) := by decide +kernel
theorem dX11_digest_3 : decode cX11_digest 3 = .ok (.lstore_n 1, 1) := by decide +kernel
theorem dX11_digest_4 : decode cX11_digest 4 = .ok (.lload_n 1, 1) := by decide +kernel
theorem dX11_digest_5 : decode cX11_digest 5 = .ok (.aload_n 0, 1) := by decide +kernel
theorem dX11_digest_6 : decode cX11_digest 6 = .ok (.getfield 26, 3) := by decide +kernel
theorem dX11_digest_9 : decode cX11_digest 9 = .ok (.invokevirtual 243, 3) := by decide +kernel
theorem dX11_digest_12 : decode cX11_digest 12 = .ok (.i2l, 1) := by decide +kernel
theorem dX11_digest_13 : decode cX11_digest 13 = .ok (.invokestatic 250, 3) := by decide +kernel
theorem dX11_digest_16 : decode cX11_digest 16 = .ok (.lstore_n 1, 1) := by decide +kernel
theorem dX11_digest_17 : decode cX11_digest 17 = .ok (.lload_n 1, 1) := by decide +kernel
theorem dX11_digest_18 : decode cX11_digest 18 = .ok (.aload_n 0, 1) := by decide +kernel
theorem dX11_digest_19 : decode cX11_digest 19 = .ok (.getfield 33, 3) := by decide +kernel
theorem dX11_digest_22 : decode cX11_digest 22 = .ok (.invokevirtual 254, 3) := by decide +kernel
theorem dX11_digest_25 : decode cX11_digest 25 = .ok (.i2l, 1) := by decide +kernel
theorem dX11_digest_26 : decode cX11_digest 26 = .ok (.invokestatic 250, 3) := by decide +kernel
theorem dX11_digest_29 : decode cX11_digest 29 = .ok (.lstore_n 1, 1) := by decide +kernel
theorem dX11_digest_30 : decode cX11_digest 30 = .ok (.lload_n 1, 1) := by decide +kernel
theorem dX11_digest_31 : decode cX11_digest 31 = .ok (.aload_n 0, 1) := by decide +kernel
theorem dX11_digest_32 : decode cX11_digest 32 = .ok (.invokevirtual 257, 3) := by decide +kernel
theorem dX11_digest_35 : decode cX11_digest 35 = .ok (.i2l, 1) := by decide +kernel
theorem dX11_digest_36 : decode cX11_digest 36 = .ok (.invokestatic 250, 3) := by decide +kernel
theorem dX11_digest_39 : decode cX11_digest 39 = .ok (.lstore_n 1, 1) := by decide +kernel
theorem dX11_digest_40 : decode cX11_digest 40 = .ok (.iconst 0, 1) := by decide +kernel
theorem dX11_digest_41 : decode cX11_digest 41 = .ok (.istore_n 3, 1) := by decide +kernel
theorem dX11_digest_42 : decode cX11_digest 42 = .ok (.iload_n 3, 1) := by decide +kernel
theorem dX11_digest_43 : decode cX11_digest 43 = .ok (.bipush 14, 2) := by decide +kernel
theorem dX11_digest_45 : decode cX11_digest 45 = .ok (.if_icmp .ge 20, 3) := by decide +kernel
theorem dX11_digest_48 : decode cX11_digest 48 = .ok (.lload_n 1, 1) := by decide +kernel
theorem dX11_digest_49 : decode cX11_digest 49 = .ok (.aload_n 0, 1) := by decide +kernel
theorem dX11_digest_50 : decode cX11_digest 50 = .ok (.iload_n 3, 1) := by decide +kernel
theorem dX11_digest_51 : decode cX11_digest 51 = .ok (.invokevirtual 259, 3) := by decide +kernel
theorem dX11_digest_54 : decode cX11_digest 54 = .ok (.i2l, 1) := by decide +kernel
theorem dX11_digest_55 : decode cX11_digest 55 = .ok (.invokestatic 250, 3) := by decide +kernel
theorem dX11_digest_58 : decode cX11_digest 58 = .ok (.lstore_n 1, 1) := by decide +kernel
theorem dX11_digest_59 : decode cX11_digest 59 = .ok (.iinc 3 1, 3) := by decide +kernel
theorem dX11_digest_62 : decode cX11_digest 62 = .ok (.goto (-20), 3) := by decide +kernel
theorem dX11_digest_65 : decode cX11_digest 65 = .ok (.aload_n 0, 1) := by decide +kernel
theorem dX11_digest_66 : decode cX11_digest 66 = .ok (.lload_n 1, 1) := by decide +kernel
theorem dX11_digest_67 : decode cX11_digest 67 = .ok (.invokevirtual 262, 3) := by decide +kernel
theorem dX11_digest_70 : decode cX11_digest 70 = .ok (.lstore_n 1, 1) := by decide +kernel
theorem dX11_digest_71 : decode cX11_digest 71 = .ok (.lload_n 1, 1) := by decide +kernel
theorem dX11_digest_72 : decode cX11_digest 72 = .ok (.aload_n 0, 1) := by decide +kernel
theorem dX11_digest_73 : decode cX11_digest 73 = .ok (.invokevirtual 266, 3) := by decide +kernel
theorem dX11_digest_76 : decode cX11_digest 76 = .ok (.i2l, 1) := by decide +kernel
theorem dX11_digest_77 : decode cX11_digest 77 = .ok (.invokestatic 250, 3) := by decide +kernel
theorem dX11_digest_80 : decode cX11_digest 80 = .ok (.lstore_n 1, 1) := by decide +kernel
theorem dX11_digest_81 : decode cX11_digest 81 = .ok (.aload_n 0, 1) := by decide +kernel
theorem dX11_digest_82 : decode cX11_digest 82 = .ok (.lload_n 1, 1) := by decide +kernel
theorem dX11_digest_83 : decode cX11_digest 83 = .ok (.invokevirtual 269, 3) := by decide +kernel
theorem dX11_digest_86 : decode cX11_digest 86 = .ok (.lstore_n 1, 1) := by decide +kernel
theorem dX11_digest_87 : decode cX11_digest 87 = .ok (.aload_n 0, 1) := by decide +kernel
theorem dX11_digest_88 : decode cX11_digest 88 = .ok (.lload_n 1, 1) := by decide +kernel
theorem dX11_digest_89 : decode cX11_digest 89 = .ok (.invokevirtual 272, 3) := by decide +kernel
theorem dX11_digest_92 : decode cX11_digest 92 = .ok (.lstore_n 1, 1) := by decide +kernel
theorem dX11_digest_93 : decode cX11_digest 93 = .ok (.aload_n 0, 1) := by decide +kernel
theorem dX11_digest_94 : decode cX11_digest 94 = .ok (.lload_n 1, 1) := by decide +kernel
theorem dX11_digest_95 : decode cX11_digest 95 = .ok (.invokevirtual 275, 3) := by decide +kernel
theorem dX11_digest_98 : decode cX11_digest 98 = .ok (.lstore_n 1, 1) := by decide +kernel
theorem dX11_digest_99 : decode cX11_digest 99 = .ok (.lload_n 1, 1) := by decide +kernel
theorem dX11_digest_100 : decode cX11_digest 100 = .ok (.aload_n 0, 1) := by decide +kernel
theorem dX11_digest_101 : decode cX11_digest 101 = .ok (.invokevirtual 278, 3) := by decide +kernel
theorem dX11_digest_104 : decode cX11_digest 104 = .ok (.i2l, 1) := by decide +kernel
theorem dX11_digest_105 : decode cX11_digest 105 = .ok (.invokestatic 250, 3) := by decide +kernel
theorem dX11_digest_108 : decode cX11_digest 108 = .ok (.lreturn, 1) := by decide +kernel
theorem dX11_refuse_0 : decode cX11_refuse 0 = .ok (.iload_n 0, 1) := by decide +kernel
theorem dX11_refuse_1 : decode cX11_refuse 1 = .ok (.iconst 1, 1) := by decide +kernel
theorem dX11_refuse_2 : decode cX11_refuse 2 = .ok (.if_icmp .ne 14, 3) := by decide +kernel
theorem dX11_refuse_5 : decode cX11_refuse 5 = .ok (.new 281, 3) := by decide +kernel
theorem dX11_refuse_8 : decode cX11_refuse 8 = .ok (.dup, 1) := by decide +kernel
theorem dX11_refuse_9 : decode cX11_refuse 9 = .ok (.ldc_w 283, 3) := by decide +kernel
theorem dX11_refuse_12 : decode cX11_refuse 12 = .ok (.invokespecial 285, 3) := by decide +kernel
theorem dX11_refuse_15 : decode cX11_refuse 15 = .ok (.athrow, 1) := by decide +kernel
theorem dX11_refuse_16 : decode cX11_refuse 16 = .ok (.iload_n 0, 1) := by decide +kernel
theorem dX11_refuse_17 : decode cX11_refuse 17 = .ok (.iconst 2, 1) := by decide +kernel
theorem dX11_refuse_18 : decode cX11_refuse 18 = .ok (.if_icmp .ne 14, 3) := by decide +kernel
theorem dX11_refuse_21 : decode cX11_refuse 21 = .ok (.new 288, 3) := by decide +kernel
theorem dX11_refuse_24 : decode cX11_refuse 24 = .ok (.dup, 1) := by decide +kernel
theorem dX11_refuse_25 : decode cX11_refuse 25 = .ok (.ldc_w 290, 3) := by decide +kernel
theorem dX11_refuse_28 : decode cX11_refuse 28 = .ok (.invokespecial 292, 3) := by decide +kernel
theorem dX11_refuse_31 : decode cX11_refuse 31 = .ok (.athrow, 1) := by decide +kernel
theorem dX11_refuse_32 : decode cX11_refuse 32 = .ok (.iload_n 0, 1) := by decide +kernel
theorem dX11_refuse_33 : decode cX11_refuse 33 = .ok (.iconst 3, 1) := by decide +kernel
theorem dX11_refuse_34 : decode cX11_refuse 34 = .ok (.if_icmp .ne 14, 3) := by decide +kernel
theorem dX11_refuse_37 : decode cX11_refuse 37 = .ok (.new 293, 3) := by decide +kernel
theorem dX11_refuse_40 : decode cX11_refuse 40 = .ok (.dup, 1) := by decide +kernel
theorem dX11_refuse_41 : decode cX11_refuse 41 = .ok (.ldc_w 295, 3) := by decide +kernel
theorem dX11_refuse_44 : decode cX11_refuse 44 = .ok (.invokespecial 297, 3) := by decide +kernel
theorem dX11_refuse_47 : decode cX11_refuse 47 = .ok (.athrow, 1) := by decide +kernel
theorem dX11_refuse_48 : decode cX11_refuse 48 = .ok (.return_, 1) := by decide +kernel
theorem dX11_whyNotWithin_0 : decode cX11_whyNotWithin 0 = .ok (.iload_n 0, 1) := by decide +kernel
theorem dX11_whyNotWithin_1 : decode cX11_whyNotWithin 1 = .ok (.iload_n 1, 1) := by decide +kernel
theorem dX11_whyNotWithin_2 : decode cX11_whyNotWithin 2 = .ok (.if_icmp .lt 8, 3) := by decide +kernel
theorem dX11_whyNotWithin_5 : decode cX11_whyNotWithin 5 = .ok (.iload_n 0, 1) := by decide +kernel
theorem dX11_whyNotWithin_6 : decode cX11_whyNotWithin 6 = .ok (.iload_n 2, 1) := by decide +kernel
theorem dX11_whyNotWithin_7 : decode cX11_whyNotWithin 7 = .ok (.if_icmp .le 7, 3) := by decide +kernel
theorem dX11_whyNotWithin_10 : decode cX11_whyNotWithin 10 = .ok (.iconst 2, 1) := by decide +kernel
theorem dX11_whyNotWithin_11 : decode cX11_whyNotWithin 11 = .ok (.goto 4, 3) := by decide +kernel
theorem dX11_whyNotWithin_14 : decode cX11_whyNotWithin 14 = .ok (.iconst 0, 1) := by decide +kernel
theorem dX11_whyNotWithin_15 : decode cX11_whyNotWithin 15 = .ok (.ireturn, 1) := by decide +kernel
set_option maxRecDepth 20000 in
theorem ggX11_whyNotBelow_X11_whyNotWithin : GoodIn wsX11_whyNotBelow wsX11_whyNotWithin := goodIn_r _ [4] (by decide +kernel) (by decide +kernel)
set_option maxRecDepth 20000 in
theorem gX11_whyNotBelow_X11_whyNotWithin : GoodIn wsX11_whyNotBelow (va_wsS RX11 197 yX11_whyNotWithin wsX11_whyNotWithin) := goodIn_app (goodIn_of _ (by decide +kernel)) ggX11_whyNotBelow_X11_whyNotWithin
theorem dX11_whyNotBelow_0 : decode cX11_whyNotBelow 0 = .ok (.iload_n 0, 1) := by decide +kernel
theorem dX11_whyNotBelow_1 : decode cX11_whyNotBelow 1 = .ok (.iconst 0, 1) := by decide +kernel
theorem dX11_whyNotBelow_2 : decode cX11_whyNotBelow 2 = .ok (.iload_n 1, 1) := by decide +kernel
theorem dX11_whyNotBelow_3 : decode cX11_whyNotBelow 3 = .ok (.iconst 1, 1) := by decide +kernel
theorem dX11_whyNotBelow_4 : decode cX11_whyNotBelow 4 = .ok (.isub, 1) := by decide +kernel
theorem dX11_whyNotBelow_5 : decode cX11_whyNotBelow 5 = .ok (.invokestatic 197, 3) := by decide +kernel
theorem dX11_whyNotBelow_8 : decode cX11_whyNotBelow 8 = .ok (.ireturn, 1) := by decide +kernel
set_option maxRecDepth 20000 in
theorem ggX11_doughOfArrangedDay_X9_heatWith : GoodIn wsX11_doughOfArrangedDay wsX9_heatWith := goodIn_r _ [7, 8, 9, 10, 11, 12, 96, 97, 98, 99, 100, 101, 102, 103] (by decide +kernel) (by decide +kernel)
set_option maxRecDepth 20000 in
theorem gX11_doughOfArrangedDay_X9_heatWith : GoodIn wsX11_doughOfArrangedDay (wsV RX11 298 RX9 yX9_heatWith wsX9_heatWith) := goodIn_app (goodIn_of _ (by decide +kernel)) ggX11_doughOfArrangedDay_X9_heatWith
set_option maxRecDepth 20000 in
theorem ggX11_doughOfArrangedDay_X3_fire : GoodIn wsX11_doughOfArrangedDay wsX3_fire := goodIn_r _ [17, 18, 19, 20, 21, 11, 22, 23, 24, 25, 16, 26, 27, 28, 29, 30, 31, 32, 33, 34, 35, 36, 37, 38, 39, 40, 41, 42, 43, 44, 45, 46, 47, 48, 49, 50, 51, 52, 53, 54, 55, 56, 57, 58, 59, 60, 61, 62, 63, 64, 65, 66, 67, 68, 69, 70, 71, 72, 73, 74, 75, 76, 77, 78, 104, 105, 106, 107, 108, 109, 110, 111, 112, 113, 114, 115, 116] (by decide +kernel) (by decide +kernel)
set_option maxRecDepth 20000 in
theorem gX11_doughOfArrangedDay_X3_fire : GoodIn wsX11_doughOfArrangedDay (wsV RX11 301 RX3 yX3_fire wsX3_fire) := goodIn_app (goodIn_of _ (by decide +kernel)) ggX11_doughOfArrangedDay_X3_fire
set_option maxRecDepth 20000 in
theorem ggX11_doughOfArrangedDay_X3_dough : GoodIn wsX11_doughOfArrangedDay wsX3_dough := goodIn_r _ [82, 28, 83, 84, 85, 16, 86, 30, 87, 88, 89, 90, 31, 38, 39, 40, 41, 42, 43, 44, 45, 46, 47, 48, 49, 50, 104, 105, 106, 107, 108, 109, 110, 113, 114, 115, 116] (by decide +kernel) (by decide +kernel)
set_option maxRecDepth 20000 in
theorem gX11_doughOfArrangedDay_X3_dough : GoodIn wsX11_doughOfArrangedDay (wsV RX11 305 RX3 yX3_dough wsX3_dough) := goodIn_app (goodIn_of _ (by decide +kernel)) ggX11_doughOfArrangedDay_X3_dough
theorem dX11_doughOfArrangedDay_0 : decode cX11_doughOfArrangedDay 0 = .ok (.aload_n 0, 1) := by decide +kernel
theorem dX11_doughOfArrangedDay_1 : decode cX11_doughOfArrangedDay 1 = .ok (.getfield 19, 3) := by decide +kernel
theorem dX11_doughOfArrangedDay_4 : decode cX11_doughOfArrangedDay 4 = .ok (.aload_n 0, 1) := by decide +kernel
theorem dX11_doughOfArrangedDay_5 : decode cX11_doughOfArrangedDay 5 = .ok (.getfield 10, 3) := by decide +kernel
theorem dX11_doughOfArrangedDay_8 : decode cX11_doughOfArrangedDay 8 = .ok (.getfield 79, 3) := by decide +kernel
theorem dX11_doughOfArrangedDay_11 : decode cX11_doughOfArrangedDay 11 = .ok (.aload_n 0, 1) := by decide +kernel
theorem dX11_doughOfArrangedDay_12 : decode cX11_doughOfArrangedDay 12 = .ok (.getfield 10, 3) := by decide +kernel
theorem dX11_doughOfArrangedDay_15 : decode cX11_doughOfArrangedDay 15 = .ok (.iload_n 1, 1) := by decide +kernel
theorem dX11_doughOfArrangedDay_16 : decode cX11_doughOfArrangedDay 16 = .ok (.invokevirtual 298, 3) := by decide +kernel
theorem dX11_doughOfArrangedDay_19 : decode cX11_doughOfArrangedDay 19 = .ok (.invokevirtual 301, 3) := by decide +kernel
theorem dX11_doughOfArrangedDay_22 : decode cX11_doughOfArrangedDay 22 = .ok (.aload_n 0, 1) := by decide +kernel
theorem dX11_doughOfArrangedDay_23 : decode cX11_doughOfArrangedDay 23 = .ok (.getfield 19, 3) := by decide +kernel
theorem dX11_doughOfArrangedDay_26 : decode cX11_doughOfArrangedDay 26 = .ok (.aload_n 0, 1) := by decide +kernel
theorem dX11_doughOfArrangedDay_27 : decode cX11_doughOfArrangedDay 27 = .ok (.getfield 10, 3) := by decide +kernel
theorem dX11_doughOfArrangedDay_30 : decode cX11_doughOfArrangedDay 30 = .ok (.getfield 79, 3) := by decide +kernel
theorem dX11_doughOfArrangedDay_33 : decode cX11_doughOfArrangedDay 33 = .ok (.invokevirtual 305, 3) := by decide +kernel
theorem dX11_doughOfArrangedDay_36 : decode cX11_doughOfArrangedDay 36 = .ok (.ireturn, 1) := by decide +kernel
theorem dX11_nextWithAsMany_0 : decode cX11_nextWithAsMany 0 = .ok (.iload_n 0, 1) := by decide +kernel
theorem dX11_nextWithAsMany_1 : decode cX11_nextWithAsMany 1 = .ok (.iload_n 0, 1) := by decide +kernel
theorem dX11_nextWithAsMany_2 : decode cX11_nextWithAsMany 2 = .ok (.ineg, 1) := by decide +kernel
theorem dX11_nextWithAsMany_3 : decode cX11_nextWithAsMany 3 = .ok (.iand, 1) := by decide +kernel
theorem dX11_nextWithAsMany_4 : decode cX11_nextWithAsMany 4 = .ok (.istore_n 1, 1) := by decide +kernel
theorem dX11_nextWithAsMany_5 : decode cX11_nextWithAsMany 5 = .ok (.iload_n 1, 1) := by decide +kernel
theorem dX11_nextWithAsMany_6 : decode cX11_nextWithAsMany 6 = .ok (.ifCond .ne 7, 3) := by decide +kernel
theorem dX11_nextWithAsMany_9 : decode cX11_nextWithAsMany 9 = .ok (.ldc_w 308, 3) := by decide +kernel
theorem dX11_nextWithAsMany_12 : decode cX11_nextWithAsMany 12 = .ok (.ireturn, 1) := by decide +kernel
theorem dX11_nextWithAsMany_13 : decode cX11_nextWithAsMany 13 = .ok (.iload_n 0, 1) := by decide +kernel
theorem dX11_nextWithAsMany_14 : decode cX11_nextWithAsMany 14 = .ok (.iload_n 1, 1) := by decide +kernel
theorem dX11_nextWithAsMany_15 : decode cX11_nextWithAsMany 15 = .ok (.iadd, 1) := by decide +kernel
theorem dX11_nextWithAsMany_16 : decode cX11_nextWithAsMany 16 = .ok (.istore_n 2, 1) := by decide +kernel
theorem dX11_nextWithAsMany_17 : decode cX11_nextWithAsMany 17 = .ok (.iload_n 2, 1) := by decide +kernel
theorem dX11_nextWithAsMany_18 : decode cX11_nextWithAsMany 18 = .ok (.iload_n 2, 1) := by decide +kernel
theorem dX11_nextWithAsMany_19 : decode cX11_nextWithAsMany 19 = .ok (.iload_n 0, 1) := by decide +kernel
theorem dX11_nextWithAsMany_20 : decode cX11_nextWithAsMany 20 = .ok (.ixor, 1) := by decide +kernel
theorem dX11_nextWithAsMany_21 : decode cX11_nextWithAsMany 21 = .ok (.iload_n 1, 1) := by decide +kernel
theorem dX11_nextWithAsMany_22 : decode cX11_nextWithAsMany 22 = .ok (.idiv, 1) := by decide +kernel
theorem dX11_nextWithAsMany_23 : decode cX11_nextWithAsMany 23 = .ok (.iconst 2, 1) := by decide +kernel
theorem dX11_nextWithAsMany_24 : decode cX11_nextWithAsMany 24 = .ok (.ishr, 1) := by decide +kernel
theorem dX11_nextWithAsMany_25 : decode cX11_nextWithAsMany 25 = .ok (.ior, 1) := by decide +kernel
theorem dX11_nextWithAsMany_26 : decode cX11_nextWithAsMany 26 = .ok (.ireturn, 1) := by decide +kernel
set_option maxRecDepth 20000 in
theorem ggX11_carryOut_X11_whyNoCommand : GoodIn wsX11_carryOut wsX11_whyNoCommand := goodIn_r _ [8, 1, 2, 9, 10, 11, 12, 13, 14, 15, 16, 17, 18, 19, 20, 21, 22, 23, 7, 24, 25, 26, 27, 28, 29, 30, 31, 32, 33, 34, 35, 36, 37, 38, 39, 40, 41, 42, 43, 44, 45, 46, 47, 48, 49, 50, 51, 52, 53, 54, 55, 56, 57, 58, 59, 60, 61, 62, 63, 64, 65, 66, 67, 68, 69, 70, 71, 72, 357, 358, 359, 360, 361, 362, 363, 364, 365, 366, 367, 368, 369, 370, 371, 372, 373, 374, 375] (by decide +kernel) (by decide +kernel)
set_option maxRecDepth 20000 in
theorem gX11_carryOut_X11_whyNoCommand : GoodIn wsX11_carryOut (wsV RX11 309 RX11 yX11_whyNoCommand wsX11_whyNoCommand) := goodIn_app (goodIn_of _ (by decide +kernel)) ggX11_carryOut_X11_whyNoCommand
set_option maxRecDepth 20000 in
theorem ggX11_carryOut_Jx29ce0_ordinal_8abf5 : GoodIn wsX11_carryOut wsJx29ce0_ordinal_8abf5 := goodIn_r _ [14, 15] (by decide +kernel) (by decide +kernel)
set_option maxRecDepth 20000 in
theorem gX11_carryOut_Jx29ce0_ordinal_8abf5_u318X10 : GoodIn wsX11_carryOut (va_wsU RX11 318 RX10 "java/lang/Enum" ⟨"OvenDays$Word", "ordinal", "()I"⟩ yJx29ce0_ordinal_8abf5 wsJx29ce0_ordinal_8abf5) := goodIn_app (goodIn_of _ (by decide +kernel)) ggX11_carryOut_Jx29ce0_ordinal_8abf5
set_option maxRecDepth 20000 in
theorem ggX11_carryOut_X4_add : GoodIn wsX11_carryOut wsX4_add := goodIn_r _ [76, 30, 35, 77, 78, 79, 39, 80, 41, 42, 370, 371, 372, 373] (by decide +kernel) (by decide +kernel)
set_option maxRecDepth 20000 in
theorem gX11_carryOut_X4_add : GoodIn wsX11_carryOut (wsV RX11 57 RX4 yX4_add wsX4_add) := goodIn_app (goodIn_of _ (by decide +kernel)) ggX11_carryOut_X4_add
set_option maxRecDepth 20000 in
theorem ggX11_carryOut_X1_add : GoodIn wsX11_carryOut wsX1_add := goodIn_r _ [84, 60, 85, 86, 78, 79, 39, 80, 41, 42, 374, 375, 372, 373] (by decide +kernel) (by decide +kernel)
set_option maxRecDepth 20000 in
theorem gX11_carryOut_X1_add : GoodIn wsX11_carryOut (wsV RX11 83 RX1 yX1_add wsX1_add) := goodIn_app (goodIn_of _ (by decide +kernel)) ggX11_carryOut_X1_add
set_option maxRecDepth 20000 in
theorem ggX11_carryOut_X9_haveDay : GoodIn wsX11_carryOut wsX9_haveDay := goodIn_r _ [90, 91, 22, 47, 92, 93, 94, 95, 96, 97, 98, 99, 100, 101, 102, 103, 104, 105, 106, 107, 108, 19, 109, 110, 111, 112, 28, 113, 30, 114, 115, 116, 117, 35, 118, 119, 120, 39, 121, 122, 123, 124, 125, 42, 41, 36, 37, 38, 40, 126, 127, 128, 129, 130, 131, 132, 133, 134, 135, 136, 137, 138, 139, 140, 141, 66, 67, 58, 68, 60, 142, 143, 144, 145, 85, 146, 147, 148, 149, 150, 151, 77, 78, 79, 80, 152, 153, 154, 155, 156, 157, 158, 159, 160, 161, 162, 163, 164, 165, 166, 167, 168, 169, 170, 171, 172, 173, 174, 175, 176, 177, 178, 179, 180, 181, 182, 183, 184, 185, 186, 187, 188, 189, 190, 191, 192, 193, 194, 195, 196, 197, 198, 199, 200, 201, 202, 203, 204, 205, 206, 207, 208, 209, 210, 211, 212, 213, 214, 215, 216, 217, 218, 219, 220, 221, 222, 223, 224, 225, 226, 227, 228, 229, 230, 231, 232, 233, 234, 235, 236, 237, 238, 239, 240, 241, 242, 243, 244, 245, 246, 247, 248, 249, 250, 251, 252, 253, 254, 255, 256, 257, 258, 259, 260, 261, 262, 263, 264, 265, 266, 267, 268, 269, 270, 271, 272, 273, 274, 275, 276, 277, 278, 279, 280, 281, 282, 283, 284, 285, 286, 287, 288, 289, 290, 291, 292, 293, 294, 295, 296, 297, 298, 299, 300, 301, 302, 303, 304, 305, 306, 307, 7, 308, 309, 310, 311, 312, 313, 314, 315, 316, 317, 318, 319, 320, 321, 322, 323, 324, 325, 326, 327, 362, 363, 364, 365, 366, 367, 368, 369, 376, 377, 378, 370, 371, 372, 373, 379, 380, 381, 382, 383, 384, 385, 374, 375, 386, 387] (by decide +kernel) (by decide +kernel)
set_option maxRecDepth 20000 in
theorem gX11_carryOut_X9_haveDay : GoodIn wsX11_carryOut (wsV RX11 100 RX9 yX9_haveDay wsX9_haveDay) := goodIn_app (goodIn_of _ (by decide +kernel)) ggX11_carryOut_X9_haveDay
set_option maxRecDepth 20000 in
theorem ggX11_carryOut_X9_letClaim : GoodIn wsX11_carryOut wsX9_letClaim := goodIn_r _ [331, 91, 22, 247, 248, 249, 28, 250, 35, 36, 37, 38, 39, 40, 41, 42, 332, 333, 334, 103, 335, 105, 336, 337, 338, 339, 340, 341, 342, 343, 274, 293, 294, 295, 296, 297, 157, 96, 158, 344, 123, 124, 125, 289, 290, 291, 292, 298, 299, 300, 301, 302, 307, 7, 308, 310, 311, 312, 313, 276, 78, 79, 80, 362, 363, 364, 365, 366, 367, 368, 369, 370, 371, 372, 373, 376, 377, 378] (by decide +kernel) (by decide +kernel)
set_option maxRecDepth 20000 in
theorem gX11_carryOut_X9_letClaim : GoodIn wsX11_carryOut (wsV RX11 104 RX9 yX9_letClaim wsX9_letClaim) := goodIn_app (goodIn_of _ (by decide +kernel)) ggX11_carryOut_X9_letClaim
set_option maxRecDepth 20000 in
theorem ggX11_carryOut_X6_moveToShelf : GoodIn wsX11_carryOut wsX6_moveToShelf := goodIn_r _ [348, 105, 336, 337, 338, 103, 339, 340, 341, 342, 343, 274, 293, 294, 295, 296, 297, 157, 96, 158, 344, 123, 124, 39, 125, 42, 41, 289, 290, 291, 292, 298, 299, 300, 301, 302, 37, 38, 40, 310, 311, 312, 313, 276, 78, 79, 80, 376, 377, 378, 372, 373] (by decide +kernel) (by decide +kernel)
set_option maxRecDepth 20000 in
theorem gX11_carryOut_X6_moveToShelf : GoodIn wsX11_carryOut (wsV RX11 111 RX6 yX6_moveToShelf wsX6_moveToShelf) := goodIn_app (goodIn_of _ (by decide +kernel)) ggX11_carryOut_X6_moveToShelf
set_option maxRecDepth 20000 in
theorem ggX11_carryOut_X4_excuseOne : GoodIn wsX11_carryOut wsX4_excuseOne := goodIn_r _ [352, 35, 30, 77, 78, 79, 39, 80, 41, 42, 118, 119, 120, 121, 122, 123, 124, 125, 370, 371, 372, 373] (by decide +kernel) (by decide +kernel)
set_option maxRecDepth 20000 in
theorem gX11_carryOut_X4_excuseOne : GoodIn wsX11_carryOut (wsV RX11 72 RX4 yX4_excuseOne wsX4_excuseOne) := goodIn_app (goodIn_of _ (by decide +kernel)) ggX11_carryOut_X4_excuseOne
set_option maxRecDepth 20000 in
theorem ggX11_carryOut_X6_emptyShelf : GoodIn wsX11_carryOut wsX6_emptyShelf := goodIn_r _ [356, 274, 293, 294, 295, 103, 296, 105, 297, 157, 96, 158, 302, 37, 38, 39, 40, 41, 42, 276, 78, 79, 80, 376, 377, 378, 372, 373] (by decide +kernel) (by decide +kernel)
set_option maxRecDepth 20000 in
theorem gX11_carryOut_X6_emptyShelf : GoodIn wsX11_carryOut (wsV RX11 116 RX6 yX6_emptyShelf wsX6_emptyShelf) := goodIn_app (goodIn_of _ (by decide +kernel)) ggX11_carryOut_X6_emptyShelf
theorem dX11_carryOut_0 : decode cX11_carryOut 0 = .ok (.aload_n 0, 1) := by decide +kernel
theorem dX11_carryOut_1 : decode cX11_carryOut 1 = .ok (.aload_n 1, 1) := by decide +kernel
theorem dX11_carryOut_2 : decode cX11_carryOut 2 = .ok (.iload_n 2, 1) := by decide +kernel
theorem dX11_carryOut_3 : decode cX11_carryOut 3 = .ok (.iload_n 3, 1) := by decide +kernel
theorem dX11_carryOut_4 : decode cX11_carryOut 4 = .ok (.iload 4, 2) := by decide +kernel
theorem dX11_carryOut_6 : decode cX11_carryOut 6 = .ok (.invokevirtual 309, 3) := by decide +kernel
theorem dX11_carryOut_9 : decode cX11_carryOut 9 = .ok (.istore 5, 2) := by decide +kernel
theorem dX11_carryOut_11 : decode cX11_carryOut 11 = .ok (.aload_n 1, 1) := by decide +kernel
theorem dX11_carryOut_12 : decode cX11_carryOut 12 = .ok (.ifnull 8, 3) := by decide +kernel
theorem dX11_carryOut_15 : decode cX11_carryOut 15 = .ok (.iload 5, 2) := by decide +kernel
theorem dX11_carryOut_17 : decode cX11_carryOut 17 = .ok (.ifCond .eq 6, 3) := by decide +kernel
theorem dX11_carryOut_20 : decode cX11_carryOut 20 = .ok (.iload 5, 2) := by decide +kernel
theorem dX11_carryOut_22 : decode cX11_carryOut 22 = .ok (.ireturn, 1) := by decide +kernel
theorem dX11_carryOut_23 : decode cX11_carryOut 23 = .ok (.getstatic 312, 3) := by decide +kernel
theorem dX11_carryOut_26 : decode cX11_carryOut 26 = .ok (.aload_n 1, 1) := by decide +kernel
theorem dX11_carryOut_27 : decode cX11_carryOut 27 = .ok (.invokevirtual 318, 3) := by decide +kernel
theorem dX11_carryOut_30 : decode cX11_carryOut 30 = .ok (.iaload, 1) := by decide +kernel
theorem dX11_carryOut_31 : decode cX11_carryOut 31 = .ok (.tableswitch 146 1 7 #[41, 56, 74, 90, 102, 117, 132], 41) := by decide +kernel
theorem dX11_carryOut_72 : decode cX11_carryOut 72 = .ok (.aload_n 0, 1) := by decide +kernel
theorem dX11_carryOut_73 : decode cX11_carryOut 73 = .ok (.getfield 10, 3) := by decide +kernel
theorem dX11_carryOut_76 : decode cX11_carryOut 76 = .ok (.getfield 53, 3) := by decide +kernel
theorem dX11_carryOut_79 : decode cX11_carryOut 79 = .ok (.iload_n 2, 1) := by decide +kernel
theorem dX11_carryOut_80 : decode cX11_carryOut 80 = .ok (.invokevirtual 57, 3) := by decide +kernel
theorem dX11_carryOut_83 : decode cX11_carryOut 83 = .ok (.pop, 1) := by decide +kernel
theorem dX11_carryOut_84 : decode cX11_carryOut 84 = .ok (.goto 93, 3) := by decide +kernel
theorem dX11_carryOut_87 : decode cX11_carryOut 87 = .ok (.aload_n 0, 1) := by decide +kernel
theorem dX11_carryOut_88 : decode cX11_carryOut 88 = .ok (.getfield 10, 3) := by decide +kernel
theorem dX11_carryOut_91 : decode cX11_carryOut 91 = .ok (.getfield 79, 3) := by decide +kernel
theorem dX11_carryOut_94 : decode cX11_carryOut 94 = .ok (.iload_n 2, 1) := by decide +kernel
theorem dX11_carryOut_95 : decode cX11_carryOut 95 = .ok (.iload_n 3, 1) := by decide +kernel
theorem dX11_carryOut_96 : decode cX11_carryOut 96 = .ok (.iload 4, 2) := by decide +kernel
theorem dX11_carryOut_98 : decode cX11_carryOut 98 = .ok (.invokevirtual 83, 3) := by decide +kernel
theorem dX11_carryOut_101 : decode cX11_carryOut 101 = .ok (.pop, 1) := by decide +kernel
theorem dX11_carryOut_102 : decode cX11_carryOut 102 = .ok (.goto 75, 3) := by decide +kernel
theorem dX11_carryOut_105 : decode cX11_carryOut 105 = .ok (.aload_n 0, 1) := by decide +kernel
theorem dX11_carryOut_106 : decode cX11_carryOut 106 = .ok (.getfield 10, 3) := by decide +kernel
theorem dX11_carryOut_109 : decode cX11_carryOut 109 = .ok (.iload_n 2, 1) := by decide +kernel
theorem dX11_carryOut_110 : decode cX11_carryOut 110 = .ok (.aload_n 0, 1) := by decide +kernel
theorem dX11_carryOut_111 : decode cX11_carryOut 111 = .ok (.getfield 19, 3) := by decide +kernel
theorem dX11_carryOut_114 : decode cX11_carryOut 114 = .ok (.invokevirtual 100, 3) := by decide +kernel
theorem dX11_carryOut_117 : decode cX11_carryOut 117 = .ok (.pop, 1) := by decide +kernel
theorem dX11_carryOut_118 : decode cX11_carryOut 118 = .ok (.goto 59, 3) := by decide +kernel
theorem dX11_carryOut_121 : decode cX11_carryOut 121 = .ok (.aload_n 0, 1) := by decide +kernel
theorem dX11_carryOut_122 : decode cX11_carryOut 122 = .ok (.getfield 10, 3) := by decide +kernel
theorem dX11_carryOut_125 : decode cX11_carryOut 125 = .ok (.iload_n 2, 1) := by decide +kernel
theorem dX11_carryOut_126 : decode cX11_carryOut 126 = .ok (.invokevirtual 104, 3) := by decide +kernel
theorem dX11_carryOut_129 : decode cX11_carryOut 129 = .ok (.pop, 1) := by decide +kernel
theorem dX11_carryOut_130 : decode cX11_carryOut 130 = .ok (.goto 47, 3) := by decide +kernel
theorem dX11_carryOut_133 : decode cX11_carryOut 133 = .ok (.aload_n 0, 1) := by decide +kernel
theorem dX11_carryOut_134 : decode cX11_carryOut 134 = .ok (.getfield 10, 3) := by decide +kernel
theorem dX11_carryOut_137 : decode cX11_carryOut 137 = .ok (.getfield 107, 3) := by decide +kernel
theorem dX11_carryOut_140 : decode cX11_carryOut 140 = .ok (.iload_n 2, 1) := by decide +kernel
theorem dX11_carryOut_141 : decode cX11_carryOut 141 = .ok (.invokevirtual 111, 3) := by decide +kernel
theorem dX11_carryOut_144 : decode cX11_carryOut 144 = .ok (.pop, 1) := by decide +kernel
theorem dX11_carryOut_145 : decode cX11_carryOut 145 = .ok (.goto 32, 3) := by decide +kernel
theorem dX11_carryOut_148 : decode cX11_carryOut 148 = .ok (.aload_n 0, 1) := by decide +kernel
theorem dX11_carryOut_149 : decode cX11_carryOut 149 = .ok (.getfield 10, 3) := by decide +kernel
theorem dX11_carryOut_152 : decode cX11_carryOut 152 = .ok (.getfield 53, 3) := by decide +kernel
theorem dX11_carryOut_155 : decode cX11_carryOut 155 = .ok (.iload_n 2, 1) := by decide +kernel
theorem dX11_carryOut_156 : decode cX11_carryOut 156 = .ok (.invokevirtual 72, 3) := by decide +kernel
theorem dX11_carryOut_159 : decode cX11_carryOut 159 = .ok (.pop, 1) := by decide +kernel
theorem dX11_carryOut_160 : decode cX11_carryOut 160 = .ok (.goto 17, 3) := by decide +kernel
theorem dX11_carryOut_163 : decode cX11_carryOut 163 = .ok (.aload_n 0, 1) := by decide +kernel
theorem dX11_carryOut_164 : decode cX11_carryOut 164 = .ok (.getfield 10, 3) := by decide +kernel
theorem dX11_carryOut_167 : decode cX11_carryOut 167 = .ok (.getfield 107, 3) := by decide +kernel
theorem dX11_carryOut_170 : decode cX11_carryOut 170 = .ok (.invokevirtual 116, 3) := by decide +kernel
theorem dX11_carryOut_173 : decode cX11_carryOut 173 = .ok (.pop, 1) := by decide +kernel
theorem dX11_carryOut_174 : decode cX11_carryOut 174 = .ok (.goto 3, 3) := by decide +kernel
theorem dX11_carryOut_177 : decode cX11_carryOut 177 = .ok (.iconst 0, 1) := by decide +kernel
theorem dX11_carryOut_178 : decode cX11_carryOut 178 = .ok (.ireturn, 1) := by decide +kernel
set_option maxRecDepth 20000 in
theorem ggX11_whyNoCommand_Jx29ce0_ordinal_8abf5 : GoodIn wsX11_whyNoCommand wsJx29ce0_ordinal_8abf5 := goodIn_r _ [8, 9] (by decide +kernel) (by decide +kernel)
set_option maxRecDepth 20000 in
theorem gX11_whyNoCommand_Jx29ce0_ordinal_8abf5_u318X10 : GoodIn wsX11_whyNoCommand (va_wsU RX11 318 RX10 "java/lang/Enum" ⟨"OvenDays$Word", "ordinal", "()I"⟩ yJx29ce0_ordinal_8abf5 wsJx29ce0_ordinal_8abf5) := goodIn_app (goodIn_of _ (by decide +kernel)) ggX11_whyNoCommand_Jx29ce0_ordinal_8abf5
set_option maxRecDepth 20000 in
theorem ggX11_whyNoCommand_X9_whyNoJoining : GoodIn wsX11_whyNoCommand wsX9_whyNoJoining := goodIn_r _ [14, 15, 16, 17, 18, 19, 20, 21, 22, 23, 24, 25, 26, 27, 28, 29, 30, 31, 32, 33, 34, 35, 36, 37, 73, 74, 75, 76, 77, 78, 79, 80, 81, 82, 83, 84] (by decide +kernel) (by decide +kernel)
set_option maxRecDepth 20000 in
theorem gX11_whyNoCommand_X9_whyNoJoining : GoodIn wsX11_whyNoCommand (wsV RX11 41 RX9 yX9_whyNoJoining wsX9_whyNoJoining) := goodIn_app (goodIn_of _ (by decide +kernel)) ggX11_whyNoCommand_X9_whyNoJoining
set_option maxRecDepth 20000 in
theorem ggX11_whyNoCommand_X9_whyNoBatch : GoodIn wsX11_whyNoCommand wsX9_whyNoBatch := goodIn_r _ [41, 16, 42, 43, 44, 45, 23, 46, 25, 47, 18, 48, 49, 17, 19, 50, 51, 52, 53, 54, 55, 73, 74, 75, 76, 77, 78, 79, 80, 81, 82, 85, 86] (by decide +kernel) (by decide +kernel)
set_option maxRecDepth 20000 in
theorem gX11_whyNoCommand_X9_whyNoBatch : GoodIn wsX11_whyNoCommand (wsV RX11 75 RX9 yX9_whyNoBatch wsX9_whyNoBatch) := goodIn_app (goodIn_of _ (by decide +kernel)) ggX11_whyNoCommand_X9_whyNoBatch
set_option maxRecDepth 20000 in
theorem ggX11_whyNoCommand_X9_whyNoDay : GoodIn wsX11_whyNoCommand wsX9_whyNoDay := goodIn_r _ [59, 42, 17, 18, 19, 60, 61, 62, 53, 63, 55, 73, 74, 75, 76, 77, 78, 79, 80, 85, 86] (by decide +kernel) (by decide +kernel)
set_option maxRecDepth 20000 in
theorem gX11_whyNoCommand_X9_whyNoDay : GoodIn wsX11_whyNoCommand (wsV RX11 97 RX9 yX9_whyNoDay wsX9_whyNoDay) := goodIn_app (goodIn_of _ (by decide +kernel)) ggX11_whyNoCommand_X9_whyNoDay
set_option maxRecDepth 20000 in
theorem ggX11_whyNoCommand_X9_whyNoHousehold : GoodIn wsX11_whyNoCommand wsX9_whyNoHousehold := goodIn_r _ [67, 16, 43, 44, 45, 23, 46, 25, 73, 74, 75, 76, 77, 78, 79, 80, 81, 82] (by decide +kernel) (by decide +kernel)
set_option maxRecDepth 20000 in
theorem gX11_whyNoCommand_X9_whyNoHousehold : GoodIn wsX11_whyNoCommand (wsV RX11 69 RX9 yX9_whyNoHousehold wsX9_whyNoHousehold) := goodIn_app (goodIn_of _ (by decide +kernel)) ggX11_whyNoCommand_X9_whyNoHousehold
theorem dX11_whyNoCommand_0 : decode cX11_whyNoCommand 0 = .ok (.aload_n 1, 1) := by decide +kernel
theorem dX11_whyNoCommand_1 : decode cX11_whyNoCommand 1 = .ok (.ifnonnull 5, 3) := by decide +kernel
theorem dX11_whyNoCommand_4 : decode cX11_whyNoCommand 4 = .ok (.iconst 0, 1) := by decide +kernel
theorem dX11_whyNoCommand_5 : decode cX11_whyNoCommand 5 = .ok (.ireturn, 1) := by decide +kernel
theorem dX11_whyNoCommand_6 : decode cX11_whyNoCommand 6 = .ok (.getstatic 312, 3) := by decide +kernel
theorem dX11_whyNoCommand_9 : decode cX11_whyNoCommand 9 = .ok (.aload_n 1, 1) := by decide +kernel
theorem dX11_whyNoCommand_10 : decode cX11_whyNoCommand 10 = .ok (.invokevirtual 318, 3) := by decide +kernel
theorem dX11_whyNoCommand_13 : decode cX11_whyNoCommand 13 = .ok (.iaload, 1) := by decide +kernel
theorem dX11_whyNoCommand_14 : decode cX11_whyNoCommand 14 = .ok (.tableswitch 77 1 6 #[38, 47, 59, 68, 68, 68], 38) := by decide +kernel
theorem dX11_whyNoCommand_52 : decode cX11_whyNoCommand 52 = .ok (.aload_n 0, 1) := by decide +kernel
theorem dX11_whyNoCommand_53 : decode cX11_whyNoCommand 53 = .ok (.getfield 10, 3) := by decide +kernel
theorem dX11_whyNoCommand_56 : decode cX11_whyNoCommand 56 = .ok (.iload_n 2, 1) := by decide +kernel
theorem dX11_whyNoCommand_57 : decode cX11_whyNoCommand 57 = .ok (.invokevirtual 41, 3) := by decide +kernel
theorem dX11_whyNoCommand_60 : decode cX11_whyNoCommand 60 = .ok (.ireturn, 1) := by decide +kernel
theorem dX11_whyNoCommand_61 : decode cX11_whyNoCommand 61 = .ok (.aload_n 0, 1) := by decide +kernel
theorem dX11_whyNoCommand_62 : decode cX11_whyNoCommand 62 = .ok (.getfield 10, 3) := by decide +kernel
theorem dX11_whyNoCommand_65 : decode cX11_whyNoCommand 65 = .ok (.iload_n 2, 1) := by decide +kernel
theorem dX11_whyNoCommand_66 : decode cX11_whyNoCommand 66 = .ok (.iload_n 3, 1) := by decide +kernel
theorem dX11_whyNoCommand_67 : decode cX11_whyNoCommand 67 = .ok (.iload 4, 2) := by decide +kernel
theorem dX11_whyNoCommand_69 : decode cX11_whyNoCommand 69 = .ok (.invokevirtual 75, 3) := by decide +kernel
theorem dX11_whyNoCommand_72 : decode cX11_whyNoCommand 72 = .ok (.ireturn, 1) := by decide +kernel
theorem dX11_whyNoCommand_73 : decode cX11_whyNoCommand 73 = .ok (.aload_n 0, 1) := by decide +kernel
theorem dX11_whyNoCommand_74 : decode cX11_whyNoCommand 74 = .ok (.getfield 10, 3) := by decide +kernel
theorem dX11_whyNoCommand_77 : decode cX11_whyNoCommand 77 = .ok (.iload_n 2, 1) := by decide +kernel
theorem dX11_whyNoCommand_78 : decode cX11_whyNoCommand 78 = .ok (.invokevirtual 97, 3) := by decide +kernel
theorem dX11_whyNoCommand_81 : decode cX11_whyNoCommand 81 = .ok (.ireturn, 1) := by decide +kernel
theorem dX11_whyNoCommand_82 : decode cX11_whyNoCommand 82 = .ok (.aload_n 0, 1) := by decide +kernel
theorem dX11_whyNoCommand_83 : decode cX11_whyNoCommand 83 = .ok (.getfield 10, 3) := by decide +kernel
theorem dX11_whyNoCommand_86 : decode cX11_whyNoCommand 86 = .ok (.iload_n 2, 1) := by decide +kernel
theorem dX11_whyNoCommand_87 : decode cX11_whyNoCommand 87 = .ok (.invokevirtual 69, 3) := by decide +kernel
theorem dX11_whyNoCommand_90 : decode cX11_whyNoCommand 90 = .ok (.ireturn, 1) := by decide +kernel
theorem dX11_whyNoCommand_91 : decode cX11_whyNoCommand 91 = .ok (.iconst 0, 1) := by decide +kernel
theorem dX11_whyNoCommand_92 : decode cX11_whyNoCommand 92 = .ok (.ireturn, 1) := by decide +kernel
theorem dX11_mix_0 : decode cX11_mix 0 = .ok (.ldc2_w 323, 3) := by decide +kernel
theorem dX11_mix_3 : decode cX11_mix 3 = .ok (.lload_n 0, 1) := by decide +kernel
theorem dX11_mix_4 : decode cX11_mix 4 = .ok (.lmul, 1) := by decide +kernel
theorem dX11_mix_5 : decode cX11_mix 5 = .ok (.lload_n 2, 1) := by decide +kernel
theorem dX11_mix_6 : decode cX11_mix 6 = .ok (.ladd, 1) := by decide +kernel
theorem dX11_mix_7 : decode cX11_mix 7 = .ok (.lreturn, 1) := by decide +kernel
set_option maxRecDepth 20000 in
theorem ggX11_mixHouseholds_X4_size : GoodIn wsX11_mixHouseholds wsX4_size := goodIn_r _ [6, 7, 124, 125] (by decide +kernel) (by decide +kernel)
set_option maxRecDepth 20000 in
theorem gX11_mixHouseholds_X4_size : GoodIn wsX11_mixHouseholds (wsV RX11 168 RX4 yX4_size wsX4_size) := goodIn_app (goodIn_of _ (by decide +kernel)) ggX11_mixHouseholds_X4_size
set_option maxRecDepth 20000 in
theorem ggX11_mixHouseholds_X11_household : GoodIn wsX11_mixHouseholds wsX11_household := goodIn_ca (goodIn_ca (goodIn_ca (goodIn_r _ [12, 1, 13, 14, 15, 16, 17, 18, 19, 20, 21, 5, 22, 7, 23, 24, 11, 25, 26, 27, 28, 29, 30, 31, 32, 33, 34, 35, 36, 37, 38, 39, 40, 41, 42, 43, 44, 45, 46, 47, 48, 49, 50, 51, 52, 53, 54, 55, 56, 57, 58, 59, 60, 61, 62, 63, 64, 65, 66, 67, 68, 69, 70, 71, 72, 73, 74, 75, 76, 77, 78, 79, 80, 81, 82, 83, 84, 85, 111, 112, 113, 114, 115, 116, 117, 118, 119, 120, 121, 122, 123, 124, 125, 126, 127, 128, 129, 130, 131, 132] (by decide +kernel) (by decide +kernel)) (goodIn_sub (fun _ h => List.mem_cons_of_mem _ (List.mem_append_left _ (List.mem_append_left _ (List.mem_append_right _ h)))) (by decide +kernel))) (goodIn_sub (fun _ h => List.mem_cons_of_mem _ (List.mem_append_left _ (List.mem_append_right _ h))) (by decide +kernel))) (goodIn_sub (fun _ h => List.mem_cons_of_mem _ (List.mem_append_right _ h)) (by decide +kernel))
set_option maxRecDepth 20000 in
theorem gX11_mixHouseholds_X11_household : GoodIn wsX11_mixHouseholds (wsV RX11 325 RX11 yX11_household wsX11_household) := goodIn_app (goodIn_of _ (by decide +kernel)) ggX11_mixHouseholds_X11_household
set_option maxRecDepth 20000 in
theorem ggX11_mixHouseholds_X11_mix : GoodIn wsX11_mixHouseholds wsX11_mix := goodIn_r _ [88, 89] (by decide +kernel) (by decide +kernel)
set_option maxRecDepth 20000 in
theorem gX11_mixHouseholds_X11_mix : GoodIn wsX11_mixHouseholds (va_wsS RX11 250 yX11_mix wsX11_mix) := goodIn_app (goodIn_of _ (by decide +kernel)) ggX11_mixHouseholds_X11_mix
set_option maxRecDepth 20000 in
theorem ggX11_mixHouseholds_X11_due : GoodIn wsX11_mixHouseholds wsX11_due := goodIn_ca (goodIn_ca (goodIn_ca (goodIn_r _ [93, 1, 13, 14, 15, 16, 17, 18, 19, 20, 21, 5, 22, 7, 23, 24, 11, 25, 26, 27, 28, 29, 30, 31, 94, 95, 96, 97, 81, 98, 99, 100, 56, 101, 62, 63, 82, 83, 84, 85, 111, 112, 113, 114, 115, 116, 117, 118, 119, 120, 121, 122, 123, 124, 125, 129, 130] (by decide +kernel) (by decide +kernel)) (goodIn_sub (fun _ h => List.mem_cons_of_mem _ (List.mem_append_left _ (List.mem_append_left _ (List.mem_append_right _ h)))) (by decide +kernel))) (goodIn_sub (fun _ h => List.mem_cons_of_mem _ (List.mem_append_left _ (List.mem_append_right _ h))) (by decide +kernel))) (goodIn_sub (fun _ h => List.mem_cons_of_mem _ (List.mem_append_right _ h)) (by decide +kernel))
set_option maxRecDepth 20000 in
theorem gX11_mixHouseholds_X11_due : GoodIn wsX11_mixHouseholds (wsV RX11 328 RX11 yX11_due wsX11_due) := goodIn_app (goodIn_of _ (by decide +kernel)) ggX11_mixHouseholds_X11_due
set_option maxRecDepth 20000 in
theorem ggX11_mixHouseholds_X11_balance : GoodIn wsX11_mixHouseholds wsX11_balance := goodIn_ca (goodIn_ca (goodIn_ca (goodIn_r _ [105, 1, 13, 14, 15, 16, 17, 18, 19, 20, 21, 5, 22, 7, 23, 24, 11, 25, 26, 27, 28, 29, 30, 31, 32, 33, 34, 35, 36, 37, 106, 107, 108, 41, 109, 110, 65, 66, 67, 43, 44, 45, 46, 47, 48, 49, 50, 51, 52, 68, 59, 60, 56, 61, 62, 63, 111, 112, 113, 114, 115, 116, 117, 118, 119, 120, 121, 122, 123, 124, 125, 126, 127, 128, 129, 130] (by decide +kernel) (by decide +kernel)) (goodIn_sub (fun _ h => List.mem_cons_of_mem _ (List.mem_append_left _ (List.mem_append_left _ (List.mem_append_right _ h)))) (by decide +kernel))) (goodIn_sub (fun _ h => List.mem_cons_of_mem _ (List.mem_append_left _ (List.mem_append_right _ h))) (by decide +kernel))) (goodIn_sub (fun _ h => List.mem_cons_of_mem _ (List.mem_append_right _ h)) (by decide +kernel))
set_option maxRecDepth 20000 in
theorem gX11_mixHouseholds_X11_balance : GoodIn wsX11_mixHouseholds (wsV RX11 331 RX11 yX11_balance wsX11_balance) := goodIn_app (goodIn_of _ (by decide +kernel)) ggX11_mixHouseholds_X11_balance
theorem dX11_mixHouseholds_0 : decode cX11_mixHouseholds 0 = .ok (.lload_n 1, 1) := by decide +kernel
theorem dX11_mixHouseholds_1 : decode cX11_mixHouseholds 1 = .ok (.lstore_n 3, 1) := by decide +kernel
theorem dX11_mixHouseholds_2 : decode cX11_mixHouseholds 2 = .ok (.iconst 0, 1) := by decide +kernel
theorem dX11_mixHouseholds_3 : decode cX11_mixHouseholds 3 = .ok (.istore 5, 2) := by decide +kernel
theorem dX11_mixHouseholds_5 : decode cX11_mixHouseholds 5 = .ok (.iload 5, 2) := by decide +kernel
theorem dX11_mixHouseholds_7 : decode cX11_mixHouseholds 7 = .ok (.aload_n 0, 1) := by decide +kernel
theorem dX11_mixHouseholds_8 : decode cX11_mixHouseholds 8 = .ok (.getfield 10, 3) := by decide +kernel
theorem dX11_mixHouseholds_11 : decode cX11_mixHouseholds 11 = .ok (.getfield 53, 3) := by decide +kernel
theorem dX11_mixHouseholds_14 : decode cX11_mixHouseholds 14 = .ok (.invokevirtual 168, 3) := by decide +kernel
theorem dX11_mixHouseholds_17 : decode cX11_mixHouseholds 17 = .ok (.if_icmp .ge 79, 3) := by decide +kernel
theorem dX11_mixHouseholds_20 : decode cX11_mixHouseholds 20 = .ok (.iconst 0, 1) := by decide +kernel
theorem dX11_mixHouseholds_21 : decode cX11_mixHouseholds 21 = .ok (.istore 6, 2) := by decide +kernel
theorem dX11_mixHouseholds_23 : decode cX11_mixHouseholds 23 = .ok (.iload 6, 2) := by decide +kernel
theorem dX11_mixHouseholds_25 : decode cX11_mixHouseholds 25 = .ok (.bipush 8, 2) := by decide +kernel
theorem dX11_mixHouseholds_27 : decode cX11_mixHouseholds 27 = .ok (.if_icmp .ge 23, 3) := by decide +kernel
theorem dX11_mixHouseholds_30 : decode cX11_mixHouseholds 30 = .ok (.lload_n 3, 1) := by decide +kernel
theorem dX11_mixHouseholds_31 : decode cX11_mixHouseholds 31 = .ok (.aload_n 0, 1) := by decide +kernel
theorem dX11_mixHouseholds_32 : decode cX11_mixHouseholds 32 = .ok (.iload 5, 2) := by decide +kernel
theorem dX11_mixHouseholds_34 : decode cX11_mixHouseholds 34 = .ok (.iload 6, 2) := by decide +kernel
theorem dX11_mixHouseholds_36 : decode cX11_mixHouseholds 36 = .ok (.invokevirtual 325, 3) := by decide +kernel
theorem dX11_mixHouseholds_39 : decode cX11_mixHouseholds 39 = .ok (.i2l, 1) := by decide +kernel
theorem dX11_mixHouseholds_40 : decode cX11_mixHouseholds 40 = .ok (.invokestatic 250, 3) := by decide +kernel
theorem dX11_mixHouseholds_43 : decode cX11_mixHouseholds 43 = .ok (.lstore_n 3, 1) := by decide +kernel
theorem dX11_mixHouseholds_44 : decode cX11_mixHouseholds 44 = .ok (.iinc 6 1, 3) := by decide +kernel
theorem dX11_mixHouseholds_47 : decode cX11_mixHouseholds 47 = .ok (.goto (-24), 3) := by decide +kernel
theorem dX11_mixHouseholds_50 : decode cX11_mixHouseholds 50 = .ok (.lload_n 3, 1) := by decide +kernel
theorem dX11_mixHouseholds_51 : decode cX11_mixHouseholds 51 = .ok (.aload_n 0, 1) := by decide +kernel
theorem dX11_mixHouseholds_52 : decode cX11_mixHouseholds 52 = .ok (.iload 5, 2) := by decide +kernel
theorem dX11_mixHouseholds_54 : decode cX11_mixHouseholds 54 = .ok (.invokevirtual 328, 3) := by decide +kernel
theorem dX11_mixHouseholds_57 : decode cX11_mixHouseholds 57 = .ok (.invokestatic 250, 3) := by decide +kernel
theorem dX11_mixHouseholds_60 : decode cX11_mixHouseholds 60 = .ok (.lstore_n 3, 1) := by decide +kernel
theorem dX11_mixHouseholds_61 : decode cX11_mixHouseholds 61 = .ok (.iconst 0, 1) := by decide +kernel
theorem dX11_mixHouseholds_62 : decode cX11_mixHouseholds 62 = .ok (.istore 6, 2) := by decide +kernel
theorem dX11_mixHouseholds_64 : decode cX11_mixHouseholds 64 = .ok (.iload 6, 2) := by decide +kernel
theorem dX11_mixHouseholds_66 : decode cX11_mixHouseholds 66 = .ok (.iconst 3, 1) := by decide +kernel
theorem dX11_mixHouseholds_67 : decode cX11_mixHouseholds 67 = .ok (.if_icmp .ge 23, 3) := by decide +kernel
theorem dX11_mixHouseholds_70 : decode cX11_mixHouseholds 70 = .ok (.lload_n 3, 1) := by decide +kernel
theorem dX11_mixHouseholds_71 : decode cX11_mixHouseholds 71 = .ok (.aload_n 0, 1) := by decide +kernel
theorem dX11_mixHouseholds_72 : decode cX11_mixHouseholds 72 = .ok (.iload 5, 2) := by decide +kernel
theorem dX11_mixHouseholds_74 : decode cX11_mixHouseholds 74 = .ok (.iload 6, 2) := by decide +kernel
theorem dX11_mixHouseholds_76 : decode cX11_mixHouseholds 76 = .ok (.invokevirtual 331, 3) := by decide +kernel
theorem dX11_mixHouseholds_79 : decode cX11_mixHouseholds 79 = .ok (.i2l, 1) := by decide +kernel
theorem dX11_mixHouseholds_80 : decode cX11_mixHouseholds 80 = .ok (.invokestatic 250, 3) := by decide +kernel
theorem dX11_mixHouseholds_83 : decode cX11_mixHouseholds 83 = .ok (.lstore_n 3, 1) := by decide +kernel
theorem dX11_mixHouseholds_84 : decode cX11_mixHouseholds 84 = .ok (.iinc 6 1, 3) := by decide +kernel
theorem dX11_mixHouseholds_87 : decode cX11_mixHouseholds 87 = .ok (.goto (-23), 3) := by decide +kernel
theorem dX11_mixHouseholds_90 : decode cX11_mixHouseholds 90 = .ok (.iinc 5 1, 3) := by decide +kernel
theorem dX11_mixHouseholds_93 : decode cX11_mixHouseholds 93 = .ok (.goto (-88), 3) := by decide +kernel
theorem dX11_mixHouseholds_96 : decode cX11_mixHouseholds 96 = .ok (.lload_n 3, 1) := by decide +kernel
theorem dX11_mixHouseholds_97 : decode cX11_mixHouseholds 97 = .ok (.lreturn, 1) := by decide +kernel
set_option maxRecDepth 20000 in
theorem ggX11_mixBatches_X1_size : GoodIn wsX11_mixBatches wsX1_size := goodIn_r _ [6, 7, 114, 115] (by decide +kernel) (by decide +kernel)
set_option maxRecDepth 20000 in
theorem gX11_mixBatches_X1_size : GoodIn wsX11_mixBatches (wsV RX11 175 RX1 yX1_size wsX1_size) := goodIn_app (goodIn_of _ (by decide +kernel)) ggX11_mixBatches_X1_size
set_option maxRecDepth 20000 in
theorem ggX11_mixBatches_X11_batch : GoodIn wsX11_mixBatches wsX11_batch := goodIn_ca (goodIn_ca (goodIn_ca (goodIn_r _ [12, 1, 13, 14, 15, 11, 16, 17, 18, 19, 20, 21, 22, 23, 24, 25, 26, 27, 28, 29, 30, 31, 5, 32, 7, 33, 34, 35, 36, 37, 38, 39, 40, 41, 42, 43, 44, 45, 46, 47, 48, 49, 50, 51, 52, 53, 54, 55, 56, 57, 58, 59, 60, 61, 62, 63, 64, 65, 66, 67, 68, 69, 70, 71, 72, 73, 74, 75, 76, 77, 78, 79, 80, 81, 82, 83, 84, 85, 86, 87, 3, 4, 6, 88, 89, 90, 91, 92, 93, 94, 95, 96, 101, 102, 103, 104, 105, 106, 107, 108, 109, 110, 111, 112, 113, 114, 115, 116, 117, 118, 119, 120, 121, 122, 123, 124, 125, 126] (by decide +kernel) (by decide +kernel)) (goodIn_sub (fun _ h => List.mem_cons_of_mem _ (List.mem_append_left _ (List.mem_append_left _ (List.mem_append_right _ h)))) (by decide +kernel))) (goodIn_sub (fun _ h => List.mem_cons_of_mem _ (List.mem_append_left _ (List.mem_append_right _ h))) (by decide +kernel))) (goodIn_sub (fun _ h => List.mem_cons_of_mem _ (List.mem_append_right _ h)) (by decide +kernel))
set_option maxRecDepth 20000 in
theorem gX11_mixBatches_X11_batch : GoodIn wsX11_mixBatches (wsV RX11 334 RX11 yX11_batch wsX11_batch) := goodIn_app (goodIn_of _ (by decide +kernel)) ggX11_mixBatches_X11_batch
set_option maxRecDepth 20000 in
theorem ggX11_mixBatches_X11_mix : GoodIn wsX11_mixBatches wsX11_mix := goodIn_r _ [99, 100] (by decide +kernel) (by decide +kernel)
set_option maxRecDepth 20000 in
theorem gX11_mixBatches_X11_mix : GoodIn wsX11_mixBatches (va_wsS RX11 250 yX11_mix wsX11_mix) := goodIn_app (goodIn_of _ (by decide +kernel)) ggX11_mixBatches_X11_mix
theorem dX11_mixBatches_0 : decode cX11_mixBatches 0 = .ok (.lload_n 1, 1) := by decide +kernel
theorem dX11_mixBatches_1 : decode cX11_mixBatches 1 = .ok (.lstore_n 3, 1) := by decide +kernel
theorem dX11_mixBatches_2 : decode cX11_mixBatches 2 = .ok (.iconst 0, 1) := by decide +kernel
theorem dX11_mixBatches_3 : decode cX11_mixBatches 3 = .ok (.istore 5, 2) := by decide +kernel
theorem dX11_mixBatches_5 : decode cX11_mixBatches 5 = .ok (.iload 5, 2) := by decide +kernel
theorem dX11_mixBatches_7 : decode cX11_mixBatches 7 = .ok (.aload_n 0, 1) := by decide +kernel
theorem dX11_mixBatches_8 : decode cX11_mixBatches 8 = .ok (.getfield 10, 3) := by decide +kernel
theorem dX11_mixBatches_11 : decode cX11_mixBatches 11 = .ok (.getfield 79, 3) := by decide +kernel
theorem dX11_mixBatches_14 : decode cX11_mixBatches 14 = .ok (.invokevirtual 175, 3) := by decide +kernel
theorem dX11_mixBatches_17 : decode cX11_mixBatches 17 = .ok (.if_icmp .ge 38, 3) := by decide +kernel
theorem dX11_mixBatches_20 : decode cX11_mixBatches 20 = .ok (.iconst 0, 1) := by decide +kernel
theorem dX11_mixBatches_21 : decode cX11_mixBatches 21 = .ok (.istore 6, 2) := by decide +kernel
theorem dX11_mixBatches_23 : decode cX11_mixBatches 23 = .ok (.iload 6, 2) := by decide +kernel
theorem dX11_mixBatches_25 : decode cX11_mixBatches 25 = .ok (.iconst 4, 1) := by decide +kernel
theorem dX11_mixBatches_26 : decode cX11_mixBatches 26 = .ok (.if_icmp .ge 23, 3) := by decide +kernel
theorem dX11_mixBatches_29 : decode cX11_mixBatches 29 = .ok (.lload_n 3, 1) := by decide +kernel
theorem dX11_mixBatches_30 : decode cX11_mixBatches 30 = .ok (.aload_n 0, 1) := by decide +kernel
theorem dX11_mixBatches_31 : decode cX11_mixBatches 31 = .ok (.iload 5, 2) := by decide +kernel
theorem dX11_mixBatches_33 : decode cX11_mixBatches 33 = .ok (.iload 6, 2) := by decide +kernel
theorem dX11_mixBatches_35 : decode cX11_mixBatches 35 = .ok (.invokevirtual 334, 3) := by decide +kernel
theorem dX11_mixBatches_38 : decode cX11_mixBatches 38 = .ok (.i2l, 1) := by decide +kernel
theorem dX11_mixBatches_39 : decode cX11_mixBatches 39 = .ok (.invokestatic 250, 3) := by decide +kernel
theorem dX11_mixBatches_42 : decode cX11_mixBatches 42 = .ok (.lstore_n 3, 1) := by decide +kernel
theorem dX11_mixBatches_43 : decode cX11_mixBatches 43 = .ok (.iinc 6 1, 3) := by decide +kernel
theorem dX11_mixBatches_46 : decode cX11_mixBatches 46 = .ok (.goto (-23), 3) := by decide +kernel
theorem dX11_mixBatches_49 : decode cX11_mixBatches 49 = .ok (.iinc 5 1, 3) := by decide +kernel
theorem dX11_mixBatches_52 : decode cX11_mixBatches 52 = .ok (.goto (-47), 3) := by decide +kernel
theorem dX11_mixBatches_55 : decode cX11_mixBatches 55 = .ok (.lload_n 3, 1) := by decide +kernel
theorem dX11_mixBatches_56 : decode cX11_mixBatches 56 = .ok (.lreturn, 1) := by decide +kernel
set_option maxRecDepth 20000 in
theorem ggX11_mixLoaves_X6_firstKept : GoodIn wsX11_mixLoaves wsX6_firstKept := goodIn_r _ [6, 7, 8, 9, 10, 5, 11, 12, 13, 14, 15, 74, 75, 76] (by decide +kernel) (by decide +kernel)
set_option maxRecDepth 20000 in
theorem gX11_mixLoaves_X6_firstKept : GoodIn wsX11_mixLoaves (wsV RX11 337 RX6 yX6_firstKept wsX6_firstKept) := goodIn_app (goodIn_of _ (by decide +kernel)) ggX11_mixLoaves_X6_firstKept
set_option maxRecDepth 20000 in
theorem ggX11_mixLoaves_X6_cameOut : GoodIn wsX11_mixLoaves wsX6_cameOut := goodIn_r _ [19, 7, 74, 75, 76] (by decide +kernel) (by decide +kernel)
set_option maxRecDepth 20000 in
theorem gX11_mixLoaves_X6_cameOut : GoodIn wsX11_mixLoaves (wsV RX11 182 RX6 yX6_cameOut wsX6_cameOut) := goodIn_app (goodIn_of _ (by decide +kernel)) ggX11_mixLoaves_X6_cameOut
set_option maxRecDepth 20000 in
theorem ggX11_mixLoaves_X11_mix : GoodIn wsX11_mixLoaves wsX11_mix := goodIn_r _ [23, 24] (by decide +kernel) (by decide +kernel)
set_option maxRecDepth 20000 in
theorem gX11_mixLoaves_X11_mix : GoodIn wsX11_mixLoaves (va_wsS RX11 250 yX11_mix wsX11_mix) := goodIn_app (goodIn_of _ (by decide +kernel)) ggX11_mixLoaves_X11_mix
set_option maxRecDepth 20000 in
theorem ggX11_mixLoaves_X11_loaf : GoodIn wsX11_mixLoaves wsX11_loaf := goodIn_ca (goodIn_ca (goodIn_ca (goodIn_r _ [28, 1, 29, 30, 31, 5, 32, 7, 33, 3, 4, 6, 8, 9, 10, 11, 12, 13, 14, 15, 34, 35, 22, 36, 37, 38, 39, 40, 41, 42, 43, 44, 45, 46, 47, 48, 49, 50, 51, 52, 53, 54, 55, 56, 57, 58, 59, 60, 61, 62, 63, 64, 65, 66, 67, 68, 69, 70, 71, 72, 73, 74, 75, 76, 77, 78] (by decide +kernel) (by decide +kernel)) (goodIn_sub (fun _ h => List.mem_cons_of_mem _ (List.mem_append_left _ (List.mem_append_left _ (List.mem_append_right _ h)))) (by decide +kernel))) (goodIn_sub (fun _ h => List.mem_cons_of_mem _ (List.mem_append_left _ (List.mem_append_right _ h))) (by decide +kernel))) (goodIn_sub (fun _ h => List.mem_cons_of_mem _ (List.mem_append_right _ h)) (by decide +kernel))
set_option maxRecDepth 20000 in
theorem gX11_mixLoaves_X11_loaf : GoodIn wsX11_mixLoaves (wsV RX11 340 RX11 yX11_loaf wsX11_loaf) := goodIn_app (goodIn_of _ (by decide +kernel)) ggX11_mixLoaves_X11_loaf
theorem dX11_mixLoaves_0 : decode cX11_mixLoaves 0 = .ok (.lload_n 1, 1) := by decide +kernel
theorem dX11_mixLoaves_1 : decode cX11_mixLoaves 1 = .ok (.lstore_n 3, 1) := by decide +kernel
theorem dX11_mixLoaves_2 : decode cX11_mixLoaves 2 = .ok (.aload_n 0, 1) := by decide +kernel
theorem dX11_mixLoaves_3 : decode cX11_mixLoaves 3 = .ok (.getfield 10, 3) := by decide +kernel
theorem dX11_mixLoaves_6 : decode cX11_mixLoaves 6 = .ok (.getfield 107, 3) := by decide +kernel
theorem dX11_mixLoaves_9 : decode cX11_mixLoaves 9 = .ok (.invokevirtual 337, 3) := by decide +kernel
theorem dX11_mixLoaves_12 : decode cX11_mixLoaves 12 = .ok (.istore 5, 2) := by decide +kernel
theorem dX11_mixLoaves_14 : decode cX11_mixLoaves 14 = .ok (.iload 5, 2) := by decide +kernel
theorem dX11_mixLoaves_16 : decode cX11_mixLoaves 16 = .ok (.aload_n 0, 1) := by decide +kernel
theorem dX11_mixLoaves_17 : decode cX11_mixLoaves 17 = .ok (.getfield 10, 3) := by decide +kernel
theorem dX11_mixLoaves_20 : decode cX11_mixLoaves 20 = .ok (.getfield 107, 3) := by decide +kernel
theorem dX11_mixLoaves_23 : decode cX11_mixLoaves 23 = .ok (.invokevirtual 182, 3) := by decide +kernel
theorem dX11_mixLoaves_26 : decode cX11_mixLoaves 26 = .ok (.if_icmp .ge 47, 3) := by decide +kernel
theorem dX11_mixLoaves_29 : decode cX11_mixLoaves 29 = .ok (.lload_n 3, 1) := by decide +kernel
theorem dX11_mixLoaves_30 : decode cX11_mixLoaves 30 = .ok (.iload 5, 2) := by decide +kernel
theorem dX11_mixLoaves_32 : decode cX11_mixLoaves 32 = .ok (.i2l, 1) := by decide +kernel
theorem dX11_mixLoaves_33 : decode cX11_mixLoaves 33 = .ok (.invokestatic 250, 3) := by decide +kernel
theorem dX11_mixLoaves_36 : decode cX11_mixLoaves 36 = .ok (.lstore_n 3, 1) := by decide +kernel
theorem dX11_mixLoaves_37 : decode cX11_mixLoaves 37 = .ok (.iconst 0, 1) := by decide +kernel
theorem dX11_mixLoaves_38 : decode cX11_mixLoaves 38 = .ok (.istore 6, 2) := by decide +kernel
theorem dX11_mixLoaves_40 : decode cX11_mixLoaves 40 = .ok (.iload 6, 2) := by decide +kernel
theorem dX11_mixLoaves_42 : decode cX11_mixLoaves 42 = .ok (.bipush 7, 2) := by decide +kernel
theorem dX11_mixLoaves_44 : decode cX11_mixLoaves 44 = .ok (.if_icmp .ge 23, 3) := by decide +kernel
theorem dX11_mixLoaves_47 : decode cX11_mixLoaves 47 = .ok (.lload_n 3, 1) := by decide +kernel
theorem dX11_mixLoaves_48 : decode cX11_mixLoaves 48 = .ok (.aload_n 0, 1) := by decide +kernel
theorem dX11_mixLoaves_49 : decode cX11_mixLoaves 49 = .ok (.iload 5, 2) := by decide +kernel
theorem dX11_mixLoaves_51 : decode cX11_mixLoaves 51 = .ok (.iload 6, 2) := by decide +kernel
theorem dX11_mixLoaves_53 : decode cX11_mixLoaves 53 = .ok (.invokevirtual 340, 3) := by decide +kernel
theorem dX11_mixLoaves_56 : decode cX11_mixLoaves 56 = .ok (.i2l, 1) := by decide +kernel
theorem dX11_mixLoaves_57 : decode cX11_mixLoaves 57 = .ok (.invokestatic 250, 3) := by decide +kernel
theorem dX11_mixLoaves_60 : decode cX11_mixLoaves 60 = .ok (.lstore_n 3, 1) := by decide +kernel
theorem dX11_mixLoaves_61 : decode cX11_mixLoaves 61 = .ok (.iinc 6 1, 3) := by decide +kernel
theorem dX11_mixLoaves_64 : decode cX11_mixLoaves 64 = .ok (.goto (-24), 3) := by decide +kernel
theorem dX11_mixLoaves_67 : decode cX11_mixLoaves 67 = .ok (.iinc 5 1, 3) := by decide +kernel
theorem dX11_mixLoaves_70 : decode cX11_mixLoaves 70 = .ok (.goto (-56), 3) := by decide +kernel
theorem dX11_mixLoaves_73 : decode cX11_mixLoaves 73 = .ok (.lload_n 3, 1) := by decide +kernel
theorem dX11_mixLoaves_74 : decode cX11_mixLoaves 74 = .ok (.lreturn, 1) := by decide +kernel
set_option maxRecDepth 20000 in
theorem ggX11_mixLoads_X5_size : GoodIn wsX11_mixLoads wsX5_size := goodIn_r _ [6, 7, 57, 58] (by decide +kernel) (by decide +kernel)
set_option maxRecDepth 20000 in
theorem gX11_mixLoads_X5_size : GoodIn wsX11_mixLoads (wsV RX11 162 RX5 yX5_size wsX5_size) := goodIn_app (goodIn_of _ (by decide +kernel)) ggX11_mixLoads_X5_size
set_option maxRecDepth 20000 in
theorem ggX11_mixLoads_X11_load : GoodIn wsX11_mixLoads wsX11_load := goodIn_ca (goodIn_ca (goodIn_ca (goodIn_r _ [12, 1, 13, 14, 11, 15, 16, 17, 18, 19, 20, 21, 22, 23, 24, 25, 26, 27, 2, 3, 4, 5, 6, 7, 28, 29, 30, 31, 32, 33, 34, 35, 36, 37, 38, 39, 44, 45, 46, 47, 48, 49, 50, 51, 52, 53, 54, 55, 56, 57, 58, 59, 60] (by decide +kernel) (by decide +kernel)) (goodIn_sub (fun _ h => List.mem_cons_of_mem _ (List.mem_append_left _ (List.mem_append_left _ (List.mem_append_right _ h)))) (by decide +kernel))) (goodIn_sub (fun _ h => List.mem_cons_of_mem _ (List.mem_append_left _ (List.mem_append_right _ h))) (by decide +kernel))) (goodIn_sub (fun _ h => List.mem_cons_of_mem _ (List.mem_append_right _ h)) (by decide +kernel))
set_option maxRecDepth 20000 in
theorem gX11_mixLoads_X11_load : GoodIn wsX11_mixLoads (wsV RX11 343 RX11 yX11_load wsX11_load) := goodIn_app (goodIn_of _ (by decide +kernel)) ggX11_mixLoads_X11_load
set_option maxRecDepth 20000 in
theorem ggX11_mixLoads_X11_mix : GoodIn wsX11_mixLoads wsX11_mix := goodIn_r _ [42, 43] (by decide +kernel) (by decide +kernel)
set_option maxRecDepth 20000 in
theorem gX11_mixLoads_X11_mix : GoodIn wsX11_mixLoads (va_wsS RX11 250 yX11_mix wsX11_mix) := goodIn_app (goodIn_of _ (by decide +kernel)) ggX11_mixLoads_X11_mix
theorem dX11_mixLoads_0 : decode cX11_mixLoads 0 = .ok (.lload_n 1, 1) := by decide +kernel
theorem dX11_mixLoads_1 : decode cX11_mixLoads 1 = .ok (.lstore_n 3, 1) := by decide +kernel
theorem dX11_mixLoads_2 : decode cX11_mixLoads 2 = .ok (.iconst 0, 1) := by decide +kernel
theorem dX11_mixLoads_3 : decode cX11_mixLoads 3 = .ok (.istore 5, 2) := by decide +kernel
theorem dX11_mixLoads_5 : decode cX11_mixLoads 5 = .ok (.iload 5, 2) := by decide +kernel
theorem dX11_mixLoads_7 : decode cX11_mixLoads 7 = .ok (.aload_n 0, 1) := by decide +kernel
theorem dX11_mixLoads_8 : decode cX11_mixLoads 8 = .ok (.getfield 10, 3) := by decide +kernel
theorem dX11_mixLoads_11 : decode cX11_mixLoads 11 = .ok (.getfield 158, 3) := by decide +kernel
theorem dX11_mixLoads_14 : decode cX11_mixLoads 14 = .ok (.invokevirtual 162, 3) := by decide +kernel
theorem dX11_mixLoads_17 : decode cX11_mixLoads 17 = .ok (.if_icmp .ge 38, 3) := by decide +kernel
theorem dX11_mixLoads_20 : decode cX11_mixLoads 20 = .ok (.iconst 0, 1) := by decide +kernel
theorem dX11_mixLoads_21 : decode cX11_mixLoads 21 = .ok (.istore 6, 2) := by decide +kernel
theorem dX11_mixLoads_23 : decode cX11_mixLoads 23 = .ok (.iload 6, 2) := by decide +kernel
theorem dX11_mixLoads_25 : decode cX11_mixLoads 25 = .ok (.iconst 5, 1) := by decide +kernel
theorem dX11_mixLoads_26 : decode cX11_mixLoads 26 = .ok (.if_icmp .ge 23, 3) := by decide +kernel
theorem dX11_mixLoads_29 : decode cX11_mixLoads 29 = .ok (.lload_n 3, 1) := by decide +kernel
theorem dX11_mixLoads_30 : decode cX11_mixLoads 30 = .ok (.aload_n 0, 1) := by decide +kernel
theorem dX11_mixLoads_31 : decode cX11_mixLoads 31 = .ok (.iload 5, 2) := by decide +kernel
theorem dX11_mixLoads_33 : decode cX11_mixLoads 33 = .ok (.iload 6, 2) := by decide +kernel
theorem dX11_mixLoads_35 : decode cX11_mixLoads 35 = .ok (.invokevirtual 343, 3) := by decide +kernel
theorem dX11_mixLoads_38 : decode cX11_mixLoads 38 = .ok (.i2l, 1) := by decide +kernel
theorem dX11_mixLoads_39 : decode cX11_mixLoads 39 = .ok (.invokestatic 250, 3) := by decide +kernel
theorem dX11_mixLoads_42 : decode cX11_mixLoads 42 = .ok (.lstore_n 3, 1) := by decide +kernel
theorem dX11_mixLoads_43 : decode cX11_mixLoads 43 = .ok (.iinc 6 1, 3) := by decide +kernel
theorem dX11_mixLoads_46 : decode cX11_mixLoads 46 = .ok (.goto (-23), 3) := by decide +kernel
theorem dX11_mixLoads_49 : decode cX11_mixLoads 49 = .ok (.iinc 5 1, 3) := by decide +kernel
theorem dX11_mixLoads_52 : decode cX11_mixLoads 52 = .ok (.goto (-47), 3) := by decide +kernel
theorem dX11_mixLoads_55 : decode cX11_mixLoads 55 = .ok (.lload_n 3, 1) := by decide +kernel
theorem dX11_mixLoads_56 : decode cX11_mixLoads 56 = .ok (.lreturn, 1) := by decide +kernel
theorem dX11_contains_0 : decode cX11_contains 0 = .ok (.iload_n 1, 1) := by decide +kernel
theorem dX11_contains_1 : decode cX11_contains 1 = .ok (.iload_n 0, 1) := by decide +kernel
theorem dX11_contains_2 : decode cX11_contains 2 = .ok (.iconst (-1), 1) := by decide +kernel
theorem dX11_contains_3 : decode cX11_contains 3 = .ok (.ixor, 1) := by decide +kernel
theorem dX11_contains_4 : decode cX11_contains 4 = .ok (.iand, 1) := by decide +kernel
theorem dX11_contains_5 : decode cX11_contains 5 = .ok (.ifCond .ne 7, 3) := by decide +kernel
theorem dX11_contains_8 : decode cX11_contains 8 = .ok (.iconst 1, 1) := by decide +kernel
theorem dX11_contains_9 : decode cX11_contains 9 = .ok (.goto 4, 3) := by decide +kernel
theorem dX11_contains_12 : decode cX11_contains 12 = .ok (.iconst 0, 1) := by decide +kernel
theorem dX11_contains_13 : decode cX11_contains 13 = .ok (.ireturn, 1) := by decide +kernel
