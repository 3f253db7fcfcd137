set_option maxRecDepth 20000 in
theorem ggX6_init_X5_init : GoodIn wsX6_init wsX5_init := goodIn_r _ [17, 18, 2, 3, 19, 20, 21, 22, 23, 24, 25, 26, 27, 28, 29, 30, 31, 32, 33, 34, 35, 36, 37, 38, 63, 64, 49, 50, 51, 52, 53, 54, 65, 66] (by decide +kernel) (by decide +kernel)
set_option maxRecDepth 20000 in
theorem gX6_init_X5_init_n11 : GoodIn wsX6_init (wsX5_init) := ggX6_init_X5_init
set_option maxRecDepth 20000 in
theorem ggX6_init_X1_init : GoodIn wsX6_init wsX1_init := goodIn_r _ [41, 42, 2, 3, 43, 44, 5, 6, 16, 17, 18, 19, 20, 21, 22, 23, 24, 25, 26, 27, 28, 29, 30, 31, 32, 33, 34, 35, 36, 37, 38, 58, 59, 60, 49, 50, 51, 52, 53, 54, 63, 64, 65, 66] (by decide +kernel) (by decide +kernel)
set_option maxRecDepth 20000 in
theorem gX6_init_X1_init : GoodIn wsX6_init (wsX1_init) := ggX6_init_X1_init
set_option maxRecDepth 20000 in
theorem ggX6_init_X4_init : GoodIn wsX6_init wsX4_init := goodIn_r _ [46, 47, 2, 3, 27, 48, 61, 62] (by decide +kernel) (by decide +kernel)
set_option maxRecDepth 20000 in
theorem gX6_init_X4_init_n25 : GoodIn wsX6_init (wsX4_init) := ggX6_init_X4_init
theorem dX6_init_0 : decode cX6_init 0 = .ok (.aload_n 0, 1) := by decide +kernel
theorem dX6_init_1 : decode cX6_init 1 = .ok (.invokespecial 3, 3) := by decide +kernel
theorem dX6_init_4 : decode cX6_init 4 = .ok (.aload_n 0, 1) := by decide +kernel
theorem dX6_init_5 : decode cX6_init 5 = .ok (.new 9, 3) := by decide +kernel
theorem dX6_init_8 : decode cX6_init 8 = .ok (.dup, 1) := by decide +kernel
theorem dX6_init_9 : decode cX6_init 9 = .ok (.invokespecial 11, 3) := by decide +kernel
theorem dX6_init_12 : decode cX6_init 12 = .ok (.putfield 12, 3) := by decide +kernel
theorem dX6_init_15 : decode cX6_init 15 = .ok (.aload_n 0, 1) := by decide +kernel
theorem dX6_init_16 : decode cX6_init 16 = .ok (.new 16, 3) := by decide +kernel
theorem dX6_init_19 : decode cX6_init 19 = .ok (.dup, 1) := by decide +kernel
theorem dX6_init_20 : decode cX6_init 20 = .ok (.invokespecial 18, 3) := by decide +kernel
theorem dX6_init_23 : decode cX6_init 23 = .ok (.putfield 19, 3) := by decide +kernel
theorem dX6_init_26 : decode cX6_init 26 = .ok (.aload_n 0, 1) := by decide +kernel
theorem dX6_init_27 : decode cX6_init 27 = .ok (.new 23, 3) := by decide +kernel
theorem dX6_init_30 : decode cX6_init 30 = .ok (.dup, 1) := by decide +kernel
theorem dX6_init_31 : decode cX6_init 31 = .ok (.invokespecial 25, 3) := by decide +kernel
theorem dX6_init_34 : decode cX6_init 34 = .ok (.putfield 26, 3) := by decide +kernel
theorem dX6_init_37 : decode cX6_init 37 = .ok (.return_, 1) := by decide +kernel
set_option maxRecDepth 20000 in
theorem ggX6_book_X6_requireWay : GoodIn wsX6_book wsX6_requireWay := goodIn_ca (goodIn_r _ [9, 10, 11, 12, 13, 8, 14] (by decide +kernel) (by decide +kernel)) (goodIn_sub (fun _ h => List.mem_cons_of_mem _ (List.mem_append_right _ h)) (by decide +kernel))
set_option maxRecDepth 20000 in
theorem gX6_book_X6_requireWay : GoodIn wsX6_book (va_wsS RX6 30 yX6_requireWay wsX6_requireWay) := goodIn_app (goodIn_of _ (by decide +kernel)) ggX6_book_X6_requireWay
set_option maxRecDepth 20000 in
theorem ggX6_book_X5_findBerths : GoodIn wsX6_book wsX5_findBerths := goodIn_r _ [19, 20, 21, 22, 23, 24, 25, 26, 27, 28, 29, 30, 31, 32, 33, 34, 35, 36, 37, 38, 39, 40, 41, 42, 43, 44, 45, 46, 47, 48, 49, 50, 51, 52, 53, 54, 18, 55, 56, 57, 58, 59, 60, 61, 8, 62, 63, 148, 149, 150, 151, 152, 153, 154, 155, 156, 157, 158] (by decide +kernel) (by decide +kernel)
set_option maxRecDepth 20000 in
theorem gX6_book_X5_findBerths : GoodIn wsX6_book (wsV RX6 34 RX5 yX5_findBerths wsX5_findBerths) := goodIn_app (goodIn_of _ (by decide +kernel)) ggX6_book_X5_findBerths
set_option maxRecDepth 20000 in
theorem ggX6_book_X3_isFull : GoodIn wsX6_book wsX3_isFull := goodIn_r _ [68, 69, 159, 160] (by decide +kernel) (by decide +kernel)
set_option maxRecDepth 20000 in
theorem gX6_book_X3_isFull : GoodIn wsX6_book (wsV RX6 42 RX3 yX3_isFull wsX3_isFull) := goodIn_app (goodIn_of _ (by decide +kernel)) ggX6_book_X3_isFull
set_option maxRecDepth 20000 in
theorem ggX6_book_X2_isRefused : GoodIn wsX6_book wsX2_isRefused := goodIn_r _ [73, 49, 154, 155, 156] (by decide +kernel) (by decide +kernel)
set_option maxRecDepth 20000 in
theorem gX6_book_X2_isRefused : GoodIn wsX6_book (wsV RX6 48 RX2 yX2_isRefused wsX2_isRefused) := goodIn_app (goodIn_of _ (by decide +kernel)) ggX6_book_X2_isRefused
set_option maxRecDepth 20000 in
theorem ggX6_book_X1_keep : GoodIn wsX6_book wsX1_keep := goodIn_r _ [78, 79, 80, 81, 82, 83, 77, 84, 85, 86, 87, 88, 18, 89, 20, 90, 60, 91, 92, 93, 94, 95, 96, 27, 97, 38, 37, 98, 8, 99, 100, 61, 62, 101, 102, 103, 104, 105, 106, 67, 107, 108, 69, 161, 162, 163, 148, 149, 150, 151, 152, 153, 157, 158, 159, 160] (by decide +kernel) (by decide +kernel)
set_option maxRecDepth 20000 in
theorem gX6_book_X1_keep : GoodIn wsX6_book (wsV RX6 60 RX1 yX1_keep wsX1_keep) := goodIn_app (goodIn_of _ (by decide +kernel)) ggX6_book_X1_keep
set_option maxRecDepth 20000 in
theorem ggX6_book_X5_admit : GoodIn wsX6_book wsX5_admit := goodIn_r _ [112, 91, 90, 92, 113, 114, 115, 67, 116, 69, 117, 118, 119, 120, 108, 102, 8, 103, 121, 122, 123, 124, 125, 126, 127, 128, 129, 130, 18, 131, 20, 132, 133, 134, 135, 136, 137, 138, 139, 140, 141, 142, 143, 27, 144, 38, 148, 149, 150, 151, 152, 153, 159, 160, 154, 155, 156, 157, 158] (by decide +kernel) (by decide +kernel)
set_option maxRecDepth 20000 in
theorem gX6_book_X5_admit : GoodIn wsX6_book (wsV RX6 64 RX5 yX5_admit wsX5_admit) := goodIn_app (goodIn_of _ (by decide +kernel)) ggX6_book_X5_admit
theorem dX6_book_0 : decode cX6_book 0 = .ok (.iload_n 1, 1) := by decide +kernel
theorem dX6_book_1 : decode cX6_book 1 = .ok (.iload_n 2, 1) := by decide +kernel
theorem dX6_book_2 : decode cX6_book 2 = .ok (.invokestatic 30, 3) := by decide +kernel
theorem dX6_book_5 : decode cX6_book 5 = .ok (.aload_n 0, 1) := by decide +kernel
theorem dX6_book_6 : decode cX6_book 6 = .ok (.getfield 12, 3) := by decide +kernel
theorem dX6_book_9 : decode cX6_book 9 = .ok (.iload_n 1, 1) := by decide +kernel
theorem dX6_book_10 : decode cX6_book 10 = .ok (.iload_n 2, 1) := by decide +kernel
theorem dX6_book_11 : decode cX6_book 11 = .ok (.iload_n 3, 1) := by decide +kernel
theorem dX6_book_12 : decode cX6_book 12 = .ok (.invokevirtual 34, 3) := by decide +kernel
theorem dX6_book_15 : decode cX6_book 15 = .ok (.astore 4, 2) := by decide +kernel
theorem dX6_book_17 : decode cX6_book 17 = .ok (.aload_n 0, 1) := by decide +kernel
theorem dX6_book_18 : decode cX6_book 18 = .ok (.getfield 12, 3) := by decide +kernel
theorem dX6_book_21 : decode cX6_book 21 = .ok (.getfield 38, 3) := by decide +kernel
theorem dX6_book_24 : decode cX6_book 24 = .ok (.invokevirtual 42, 3) := by decide +kernel
theorem dX6_book_27 : decode cX6_book 27 = .ok (.ifCond .ne 11, 3) := by decide +kernel
theorem dX6_book_30 : decode cX6_book 30 = .ok (.aload 4, 2) := by decide +kernel
theorem dX6_book_32 : decode cX6_book 32 = .ok (.invokevirtual 48, 3) := by decide +kernel
theorem dX6_book_35 : decode cX6_book 35 = .ok (.ifCond .eq 13, 3) := by decide +kernel
theorem dX6_book_38 : decode cX6_book 38 = .ok (.new 53, 3) := by decide +kernel
theorem dX6_book_41 : decode cX6_book 41 = .ok (.dup, 1) := by decide +kernel
theorem dX6_book_42 : decode cX6_book 42 = .ok (.ldc 55, 2) := by decide +kernel
theorem dX6_book_44 : decode cX6_book 44 = .ok (.invokespecial 57, 3) := by decide +kernel
theorem dX6_book_47 : decode cX6_book 47 = .ok (.athrow, 1) := by decide +kernel
theorem dX6_book_48 : decode cX6_book 48 = .ok (.aload_n 0, 1) := by decide +kernel
theorem dX6_book_49 : decode cX6_book 49 = .ok (.getfield 19, 3) := by decide +kernel
theorem dX6_book_52 : decode cX6_book 52 = .ok (.aload_n 0, 1) := by decide +kernel
theorem dX6_book_53 : decode cX6_book 53 = .ok (.getfield 12, 3) := by decide +kernel
theorem dX6_book_56 : decode cX6_book 56 = .ok (.invokevirtual 60, 3) := by decide +kernel
theorem dX6_book_59 : decode cX6_book 59 = .ok (.aload_n 0, 1) := by decide +kernel
theorem dX6_book_60 : decode cX6_book 60 = .ok (.getfield 12, 3) := by decide +kernel
theorem dX6_book_63 : decode cX6_book 63 = .ok (.iload_n 1, 1) := by decide +kernel
theorem dX6_book_64 : decode cX6_book 64 = .ok (.iload_n 2, 1) := by decide +kernel
theorem dX6_book_65 : decode cX6_book 65 = .ok (.iload_n 3, 1) := by decide +kernel
theorem dX6_book_66 : decode cX6_book 66 = .ok (.aload 4, 2) := by decide +kernel
theorem dX6_book_68 : decode cX6_book 68 = .ok (.invokevirtual 64, 3) := by decide +kernel
theorem dX6_book_71 : decode cX6_book 71 = .ok (.ireturn, 1) := by decide +kernel
set_option maxRecDepth 20000 in
theorem ggX6_cancel_X6_requireRow : GoodIn wsX6_cancel wsX6_requireRow := goodIn_ca (goodIn_r _ [7, 8, 9, 1, 10, 11, 12, 13, 14, 15, 16, 17, 18, 19, 20, 21, 109, 110, 111, 112, 113, 114, 115, 116, 117, 118, 119] (by decide +kernel) (by decide +kernel)) (goodIn_sub (fun _ h => List.mem_cons_of_mem _ (List.mem_append_right _ h)) (by decide +kernel))
set_option maxRecDepth 20000 in
theorem gX6_cancel_X6_requireRow : GoodIn wsX6_cancel (wsV RX6 68 RX6 yX6_requireRow wsX6_requireRow) := goodIn_app (goodIn_of _ (by decide +kernel)) ggX6_cancel_X6_requireRow
set_option maxRecDepth 20000 in
theorem ggX6_cancel_X5_property : GoodIn wsX6_cancel wsX5_property := goodIn_r _ [26, 27, 28, 29, 30, 25, 31, 32, 33, 34, 35, 14, 36, 17, 18, 19, 20, 21, 37, 38, 39, 40, 41, 42, 43, 44, 45, 46, 47, 48, 49, 50, 51, 52, 53, 6, 54, 112, 113, 114, 115, 116, 117, 118, 119, 120, 121] (by decide +kernel) (by decide +kernel)
set_option maxRecDepth 20000 in
theorem gX6_cancel_X5_property : GoodIn wsX6_cancel (wsV RX6 72 RX5 yX5_property wsX5_property) := goodIn_app (goodIn_of _ (by decide +kernel)) ggX6_cancel_X5_property
set_option maxRecDepth 20000 in
theorem ggX6_cancel_X1_keep : GoodIn wsX6_cancel wsX1_keep := goodIn_r _ [59, 60, 61, 62, 63, 64, 58, 65, 66, 67, 68, 69, 25, 70, 32, 27, 48, 71, 72, 73, 74, 75, 76, 41, 77, 43, 78, 79, 6, 80, 81, 53, 54, 82, 83, 84, 85, 86, 87, 14, 88, 21, 16, 122, 123, 124, 112, 113, 114, 115, 116, 117, 120, 121, 118, 119] (by decide +kernel) (by decide +kernel)
set_option maxRecDepth 20000 in
theorem gX6_cancel_X1_keep : GoodIn wsX6_cancel (wsV RX6 60 RX1 yX1_keep wsX1_keep) := goodIn_app (goodIn_of _ (by decide +kernel)) ggX6_cancel_X1_keep
set_option maxRecDepth 20000 in
theorem ggX6_cancel_X5_dismiss : GoodIn wsX6_cancel wsX5_dismiss := goodIn_r _ [92, 27, 93, 94, 95, 25, 96, 32, 33, 34, 35, 14, 36, 17, 18, 19, 20, 21, 37, 97, 98, 99, 41, 100, 43, 83, 6, 84, 101, 102, 103, 104, 16, 105, 106, 107, 108, 112, 113, 114, 115, 116, 117, 118, 119, 120, 121] (by decide +kernel) (by decide +kernel)
set_option maxRecDepth 20000 in
theorem gX6_cancel_X5_dismiss : GoodIn wsX6_cancel (wsV RX6 76 RX5 yX5_dismiss wsX5_dismiss) := goodIn_app (goodIn_of _ (by decide +kernel)) ggX6_cancel_X5_dismiss
theorem dX6_cancel_0 : decode cX6_cancel 0 = .ok (.aload_n 0, 1) := by decide +kernel
theorem dX6_cancel_1 : decode cX6_cancel 1 = .ok (.iload_n 1, 1) := by decide +kernel
theorem dX6_cancel_2 : decode cX6_cancel 2 = .ok (.invokevirtual 68, 3) := by decide +kernel
theorem dX6_cancel_5 : decode cX6_cancel 5 = .ok (.istore_n 2, 1) := by decide +kernel
theorem dX6_cancel_6 : decode cX6_cancel 6 = .ok (.aload_n 0, 1) := by decide +kernel
theorem dX6_cancel_7 : decode cX6_cancel 7 = .ok (.getfield 12, 3) := by decide +kernel
theorem dX6_cancel_10 : decode cX6_cancel 10 = .ok (.iload_n 2, 1) := by decide +kernel
theorem dX6_cancel_11 : decode cX6_cancel 11 = .ok (.bipush 8, 2) := by decide +kernel
theorem dX6_cancel_13 : decode cX6_cancel 13 = .ok (.invokevirtual 72, 3) := by decide +kernel
theorem dX6_cancel_16 : decode cX6_cancel 16 = .ok (.istore_n 3, 1) := by decide +kernel
theorem dX6_cancel_17 : decode cX6_cancel 17 = .ok (.aload_n 0, 1) := by decide +kernel
theorem dX6_cancel_18 : decode cX6_cancel 18 = .ok (.getfield 19, 3) := by decide +kernel
theorem dX6_cancel_21 : decode cX6_cancel 21 = .ok (.aload_n 0, 1) := by decide +kernel
theorem dX6_cancel_22 : decode cX6_cancel 22 = .ok (.getfield 12, 3) := by decide +kernel
theorem dX6_cancel_25 : decode cX6_cancel 25 = .ok (.invokevirtual 60, 3) := by decide +kernel
theorem dX6_cancel_28 : decode cX6_cancel 28 = .ok (.aload_n 0, 1) := by decide +kernel
theorem dX6_cancel_29 : decode cX6_cancel 29 = .ok (.getfield 12, 3) := by decide +kernel
theorem dX6_cancel_32 : decode cX6_cancel 32 = .ok (.iload_n 2, 1) := by decide +kernel
theorem dX6_cancel_33 : decode cX6_cancel 33 = .ok (.invokevirtual 76, 3) := by decide +kernel
theorem dX6_cancel_36 : decode cX6_cancel 36 = .ok (.iload_n 3, 1) := by decide +kernel
theorem dX6_cancel_37 : decode cX6_cancel 37 = .ok (.ireturn, 1) := by decide +kernel
set_option maxRecDepth 20000 in
theorem ggX6_place_X6_requireRow : GoodIn wsX6_place wsX6_requireRow := goodIn_ca (goodIn_r _ [14, 1, 2, 5, 15, 16, 17, 18, 19, 20, 21, 22, 23, 24, 25, 26, 141, 142, 143, 147, 148, 149, 150, 151, 152, 153, 154] (by decide +kernel) (by decide +kernel)) (goodIn_sub (fun _ h => List.mem_cons_of_mem _ (List.mem_append_left _ (List.mem_append_right _ h))) (by decide +kernel))
set_option maxRecDepth 20000 in
theorem gX6_place_X6_requireRow : GoodIn wsX6_place (wsV RX6 68 RX6 yX6_requireRow wsX6_requireRow) := goodIn_app (goodIn_of _ (by decide +kernel)) ggX6_place_X6_requireRow
set_option maxRecDepth 20000 in
theorem ggX6_place_X6_isBelow : GoodIn wsX6_place wsX6_isBelow := goodIn_r _ [29] (by decide +kernel) (by decide +kernel)
set_option maxRecDepth 20000 in
theorem gX6_place_X6_isBelow : GoodIn wsX6_place (va_wsS RX6 80 yX6_isBelow wsX6_isBelow) := goodIn_app (goodIn_of _ (by decide +kernel)) ggX6_place_X6_isBelow
set_option maxRecDepth 20000 in
theorem ggX6_place_X5_mayHave : GoodIn wsX6_place wsX5_mayHave := goodIn_r _ [34, 35, 36, 37, 23, 24, 19, 25, 26, 38, 39, 40, 41, 42, 43, 44, 13, 45, 46, 47, 48, 49, 50, 147, 148, 149, 150, 151, 152, 153, 154, 155, 156] (by decide +kernel) (by decide +kernel)
set_option maxRecDepth 20000 in
theorem gX6_place_X5_mayHave : GoodIn wsX6_place (wsV RX6 89 RX5 yX5_mayHave wsX5_mayHave) := goodIn_app (goodIn_of _ (by decide +kernel)) ggX6_place_X5_mayHave
set_option maxRecDepth 20000 in
theorem ggX6_place_X5_property : GoodIn wsX6_place wsX5_property := goodIn_r _ [54, 35, 55, 56, 57, 33, 58, 36, 59, 60, 61, 19, 62, 22, 23, 24, 25, 26, 37, 63, 64, 65, 41, 66, 50, 67, 68, 69, 70, 71, 72, 73, 74, 75, 44, 13, 45, 147, 148, 149, 150, 151, 152, 153, 154, 155, 156] (by decide +kernel) (by decide +kernel)
set_option maxRecDepth 20000 in
theorem gX6_place_X5_property : GoodIn wsX6_place (wsV RX6 72 RX5 yX5_property wsX5_property) := goodIn_app (goodIn_of _ (by decide +kernel)) ggX6_place_X5_property
set_option maxRecDepth 20000 in
theorem ggX6_place_X1_keep : GoodIn wsX6_place wsX1_keep := goodIn_r _ [80, 81, 82, 83, 84, 85, 79, 86, 87, 88, 89, 90, 33, 91, 36, 35, 71, 92, 93, 94, 95, 96, 97, 41, 98, 50, 43, 99, 13, 100, 101, 44, 45, 102, 103, 104, 105, 106, 107, 19, 108, 26, 21, 157, 158, 159, 147, 148, 149, 150, 151, 152, 155, 156, 153, 154] (by decide +kernel) (by decide +kernel)
set_option maxRecDepth 20000 in
theorem gX6_place_X1_keep : GoodIn wsX6_place (wsV RX6 60 RX1 yX1_keep wsX1_keep) := goodIn_app (goodIn_of _ (by decide +kernel)) ggX6_place_X1_keep
set_option maxRecDepth 20000 in
theorem ggX6_place_X2_init : GoodIn wsX6_place wsX2_init := goodIn_r _ [111, 112, 113, 114, 115, 116, 117, 144, 145, 146] (by decide +kernel) (by decide +kernel)
set_option maxRecDepth 20000 in
theorem gX6_place_X2_init : GoodIn wsX6_place (wsX2_init) := ggX6_place_X2_init
set_option maxRecDepth 20000 in
theorem ggX6_place_X5_reseat : GoodIn wsX6_place wsX5_reseat := goodIn_r _ [121, 35, 122, 123, 124, 33, 125, 36, 59, 60, 61, 19, 62, 22, 23, 24, 25, 26, 37, 126, 127, 128, 41, 129, 50, 103, 13, 104, 130, 131, 132, 133, 134, 135, 136, 137, 138, 139, 140, 147, 148, 149, 150, 151, 152, 153, 154, 155, 156, 144, 145, 146] (by decide +kernel) (by decide +kernel)
set_option maxRecDepth 20000 in
theorem gX6_place_X5_reseat : GoodIn wsX6_place (wsV RX6 97 RX5 yX5_reseat wsX5_reseat) := goodIn_app (goodIn_of _ (by decide +kernel)) ggX6_place_X5_reseat
theorem dX6_place_0 : decode cX6_place 0 = .ok (.aload_n 0, 1) := by decide +kernel
theorem dX6_place_1 : decode cX6_place 1 = .ok (.iload_n 1, 1) := by decide +kernel
theorem dX6_place_2 : decode cX6_place 2 = .ok (.invokevirtual 68, 3) := by decide +kernel
theorem dX6_place_5 : decode cX6_place 5 = .ok (.istore_n 3, 1) := by decide +kernel
theorem dX6_place_6 : decode cX6_place 6 = .ok (.iload_n 2, 1) := by decide +kernel
theorem dX6_place_7 : decode cX6_place 7 = .ok (.bipush 18, 2) := by decide +kernel
theorem dX6_place_9 : decode cX6_place 9 = .ok (.invokestatic 80, 3) := by decide +kernel
theorem dX6_place_12 : decode cX6_place 12 = .ok (.ifCond .ne 13, 3) := by decide +kernel
theorem dX6_place_15 : decode cX6_place 15 = .ok (.new 84, 3) := by decide +kernel
theorem dX6_place_18 : decode cX6_place 18 = .ok (.dup, 1) := by decide +kernel
theorem dX6_place_19 : decode cX6_place 19 = .ok (.ldc 86, 2) := by decide +kernel
theorem dX6_place_21 : decode cX6_place 21 = .ok (.invokespecial 88, 3) := by decide +kernel
theorem dX6_place_24 : decode cX6_place 24 = .ok (.athrow, 1) := by decide +kernel
theorem dX6_place_25 : decode cX6_place 25 = .ok (.aload_n 0, 1) := by decide +kernel
theorem dX6_place_26 : decode cX6_place 26 = .ok (.getfield 12, 3) := by decide +kernel
theorem dX6_place_29 : decode cX6_place 29 = .ok (.iload_n 3, 1) := by decide +kernel
theorem dX6_place_30 : decode cX6_place 30 = .ok (.iload_n 2, 1) := by decide +kernel
theorem dX6_place_31 : decode cX6_place 31 = .ok (.invokevirtual 89, 3) := by decide +kernel
theorem dX6_place_34 : decode cX6_place 34 = .ok (.ifCond .ne 13, 3) := by decide +kernel
theorem dX6_place_37 : decode cX6_place 37 = .ok (.new 53, 3) := by decide +kernel
theorem dX6_place_40 : decode cX6_place 40 = .ok (.dup, 1) := by decide +kernel
theorem dX6_place_41 : decode cX6_place 41 = .ok (.ldc 92, 2) := by decide +kernel
theorem dX6_place_43 : decode cX6_place 43 = .ok (.invokespecial 57, 3) := by decide +kernel
theorem dX6_place_46 : decode cX6_place 46 = .ok (.athrow, 1) := by decide +kernel
theorem dX6_place_47 : decode cX6_place 47 = .ok (.aload_n 0, 1) := by decide +kernel
theorem dX6_place_48 : decode cX6_place 48 = .ok (.getfield 12, 3) := by decide +kernel
theorem dX6_place_51 : decode cX6_place 51 = .ok (.iload_n 3, 1) := by decide +kernel
theorem dX6_place_52 : decode cX6_place 52 = .ok (.iconst 4, 1) := by decide +kernel
theorem dX6_place_53 : decode cX6_place 53 = .ok (.invokevirtual 72, 3) := by decide +kernel
theorem dX6_place_56 : decode cX6_place 56 = .ok (.istore 4, 2) := by decide +kernel
theorem dX6_place_58 : decode cX6_place 58 = .ok (.aload_n 0, 1) := by decide +kernel
theorem dX6_place_59 : decode cX6_place 59 = .ok (.getfield 19, 3) := by decide +kernel
theorem dX6_place_62 : decode cX6_place 62 = .ok (.aload_n 0, 1) := by decide +kernel
theorem dX6_place_63 : decode cX6_place 63 = .ok (.getfield 12, 3) := by decide +kernel
theorem dX6_place_66 : decode cX6_place 66 = .ok (.invokevirtual 60, 3) := by decide +kernel
theorem dX6_place_69 : decode cX6_place 69 = .ok (.aload_n 0, 1) := by decide +kernel
theorem dX6_place_70 : decode cX6_place 70 = .ok (.getfield 12, 3) := by decide +kernel
theorem dX6_place_73 : decode cX6_place 73 = .ok (.iload_n 3, 1) := by decide +kernel
theorem dX6_place_74 : decode cX6_place 74 = .ok (.new 49, 3) := by decide +kernel
theorem dX6_place_77 : decode cX6_place 77 = .ok (.dup, 1) := by decide +kernel
theorem dX6_place_78 : decode cX6_place 78 = .ok (.iload_n 2, 1) := by decide +kernel
theorem dX6_place_79 : decode cX6_place 79 = .ok (.iload_n 2, 1) := by decide +kernel
theorem dX6_place_80 : decode cX6_place 80 = .ok (.iconst (-1), 1) := by decide +kernel
theorem dX6_place_81 : decode cX6_place 81 = .ok (.invokespecial 94, 3) := by decide +kernel
theorem dX6_place_84 : decode cX6_place 84 = .ok (.invokevirtual 97, 3) := by decide +kernel
theorem dX6_place_87 : decode cX6_place 87 = .ok (.iload 4, 2) := by decide +kernel
theorem dX6_place_89 : decode cX6_place 89 = .ok (.ireturn, 1) := by decide +kernel
set_option maxRecDepth 20000 in
theorem ggX6_rebook_X6_requireRow : GoodIn wsX6_rebook wsX6_requireRow := goodIn_ca (goodIn_r _ [10, 11, 12, 3, 13, 14, 15, 16, 17, 18, 19, 20, 21, 22, 23, 24, 160, 161, 162, 163, 164, 165, 166, 167, 168, 169, 170] (by decide +kernel) (by decide +kernel)) (goodIn_sub (fun _ h => List.mem_cons_of_mem _ (List.mem_append_right _ h)) (by decide +kernel))
set_option maxRecDepth 20000 in
theorem gX6_rebook_X6_requireRow : GoodIn wsX6_rebook (wsV RX6 68 RX6 yX6_requireRow wsX6_requireRow) := goodIn_app (goodIn_of _ (by decide +kernel)) ggX6_rebook_X6_requireRow
set_option maxRecDepth 20000 in
theorem ggX6_rebook_X5_property : GoodIn wsX6_rebook wsX5_property := goodIn_r _ [29, 30, 31, 32, 33, 28, 34, 35, 36, 37, 38, 17, 39, 20, 21, 22, 23, 24, 40, 41, 42, 43, 44, 45, 46, 47, 48, 49, 50, 51, 52, 53, 54, 55, 56, 9, 57, 163, 164, 165, 166, 167, 168, 169, 170, 171, 172] (by decide +kernel) (by decide +kernel)
set_option maxRecDepth 20000 in
theorem gX6_rebook_X5_property : GoodIn wsX6_rebook (wsV RX6 72 RX5 yX5_property wsX5_property) := goodIn_app (goodIn_of _ (by decide +kernel)) ggX6_rebook_X5_property
set_option maxRecDepth 20000 in
theorem ggX6_rebook_X5_findAnew : GoodIn wsX6_rebook wsX5_findAnew := goodIn_r _ [61, 30, 62, 63, 64, 28, 65, 35, 36, 37, 38, 17, 39, 20, 21, 22, 23, 24, 40, 66, 67, 68, 44, 69, 46, 70, 9, 71, 72, 73, 74, 75, 76, 77, 78, 79, 80, 81, 82, 83, 84, 85, 86, 87, 88, 89, 90, 91, 92, 42, 43, 45, 93, 94, 95, 96, 97, 98, 99, 100, 101, 102, 103, 104, 105, 106, 107, 108, 109, 51, 56, 57, 41, 163, 164, 165, 166, 167, 168, 169, 170, 171, 172, 173, 174, 175] (by decide +kernel) (by decide +kernel)
set_option maxRecDepth 20000 in
theorem gX6_rebook_X5_findAnew : GoodIn wsX6_rebook (wsV RX6 103 RX5 yX5_findAnew wsX5_findAnew) := goodIn_app (goodIn_of _ (by decide +kernel)) ggX6_rebook_X5_findAnew
set_option maxRecDepth 20000 in
theorem ggX6_rebook_X2_isRefused : GoodIn wsX6_rebook wsX2_isRefused := goodIn_r _ [113, 99, 173, 174, 175] (by decide +kernel) (by decide +kernel)
set_option maxRecDepth 20000 in
theorem gX6_rebook_X2_isRefused : GoodIn wsX6_rebook (wsV RX6 48 RX2 yX2_isRefused wsX2_isRefused) := goodIn_app (goodIn_of _ (by decide +kernel)) ggX6_rebook_X2_isRefused
set_option maxRecDepth 20000 in
theorem ggX6_rebook_X1_keep : GoodIn wsX6_rebook wsX1_keep := goodIn_r _ [118, 119, 120, 121, 122, 123, 117, 124, 125, 126, 127, 128, 28, 129, 35, 30, 51, 130, 131, 132, 133, 134, 135, 44, 136, 46, 91, 137, 9, 138, 139, 56, 57, 140, 70, 71, 141, 142, 143, 17, 144, 24, 19, 176, 177, 178, 163, 164, 165, 166, 167, 168, 171, 172, 169, 170] (by decide +kernel) (by decide +kernel)
set_option maxRecDepth 20000 in
theorem gX6_rebook_X1_keep : GoodIn wsX6_rebook (wsV RX6 60 RX1 yX1_keep wsX1_keep) := goodIn_app (goodIn_of _ (by decide +kernel)) ggX6_rebook_X1_keep
set_option maxRecDepth 20000 in
theorem ggX6_rebook_X5_reseat : GoodIn wsX6_rebook wsX5_reseat := goodIn_r _ [148, 30, 62, 63, 64, 28, 65, 35, 36, 37, 38, 17, 39, 20, 21, 22, 23, 24, 40, 66, 67, 68, 44, 69, 46, 70, 9, 71, 149, 150, 151, 152, 153, 154, 155, 156, 157, 158, 159, 163, 164, 165, 166, 167, 168, 169, 170, 171, 172, 173, 174, 175] (by decide +kernel) (by decide +kernel)
set_option maxRecDepth 20000 in
theorem gX6_rebook_X5_reseat : GoodIn wsX6_rebook (wsV RX6 97 RX5 yX5_reseat wsX5_reseat) := goodIn_app (goodIn_of _ (by decide +kernel)) ggX6_rebook_X5_reseat
theorem dX6_rebook_0 : decode cX6_rebook 0 = .ok (.aload_n 0, 1) := by decide +kernel
theorem dX6_rebook_1 : decode cX6_rebook 1 = .ok (.iload_n 1, 1) := by decide +kernel
theorem dX6_rebook_2 : decode cX6_rebook 2 = .ok (.invokevirtual 68, 3) := by decide +kernel
theorem dX6_rebook_5 : decode cX6_rebook 5 = .ok (.istore_n 2, 1) := by decide +kernel
theorem dX6_rebook_6 : decode cX6_rebook 6 = .ok (.aload_n 0, 1) := by decide +kernel
theorem dX6_rebook_7 : decode cX6_rebook 7 = .ok (.getfield 12, 3) := by decide +kernel
theorem dX6_rebook_10 : decode cX6_rebook 10 = .ok (.iload_n 2, 1) := by decide +kernel
theorem dX6_rebook_11 : decode cX6_rebook 11 = .ok (.iconst 3, 1) := by decide +kernel
theorem dX6_rebook_12 : decode cX6_rebook 12 = .ok (.invokevirtual 72, 3) := by decide +kernel
theorem dX6_rebook_15 : decode cX6_rebook 15 = .ok (.iconst 1, 1) := by decide +kernel
theorem dX6_rebook_16 : decode cX6_rebook 16 = .ok (.if_icmp .ne 13, 3) := by decide +kernel
theorem dX6_rebook_19 : decode cX6_rebook 19 = .ok (.new 53, 3) := by decide +kernel
theorem dX6_rebook_22 : decode cX6_rebook 22 = .ok (.dup, 1) := by decide +kernel
theorem dX6_rebook_23 : decode cX6_rebook 23 = .ok (.ldc 101, 2) := by decide +kernel
theorem dX6_rebook_25 : decode cX6_rebook 25 = .ok (.invokespecial 57, 3) := by decide +kernel
theorem dX6_rebook_28 : decode cX6_rebook 28 = .ok (.athrow, 1) := by decide +kernel
theorem dX6_rebook_29 : decode cX6_rebook 29 = .ok (.aload_n 0, 1) := by decide +kernel
theorem dX6_rebook_30 : decode cX6_rebook 30 = .ok (.getfield 12, 3) := by decide +kernel
theorem dX6_rebook_33 : decode cX6_rebook 33 = .ok (.iload_n 2, 1) := by decide +kernel
theorem dX6_rebook_34 : decode cX6_rebook 34 = .ok (.invokevirtual 103, 3) := by decide +kernel
theorem dX6_rebook_37 : decode cX6_rebook 37 = .ok (.astore_n 3, 1) := by decide +kernel
theorem dX6_rebook_38 : decode cX6_rebook 38 = .ok (.aload_n 3, 1) := by decide +kernel
theorem dX6_rebook_39 : decode cX6_rebook 39 = .ok (.invokevirtual 48, 3) := by decide +kernel
theorem dX6_rebook_42 : decode cX6_rebook 42 = .ok (.ifCond .eq 13, 3) := by decide +kernel
theorem dX6_rebook_45 : decode cX6_rebook 45 = .ok (.new 53, 3) := by decide +kernel
theorem dX6_rebook_48 : decode cX6_rebook 48 = .ok (.dup, 1) := by decide +kernel
theorem dX6_rebook_49 : decode cX6_rebook 49 = .ok (.ldc 107, 2) := by decide +kernel
theorem dX6_rebook_51 : decode cX6_rebook 51 = .ok (.invokespecial 57, 3) := by decide +kernel
theorem dX6_rebook_54 : decode cX6_rebook 54 = .ok (.athrow, 1) := by decide +kernel
theorem dX6_rebook_55 : decode cX6_rebook 55 = .ok (.aload_n 0, 1) := by decide +kernel
theorem dX6_rebook_56 : decode cX6_rebook 56 = .ok (.getfield 12, 3) := by decide +kernel
theorem dX6_rebook_59 : decode cX6_rebook 59 = .ok (.iload_n 2, 1) := by decide +kernel
theorem dX6_rebook_60 : decode cX6_rebook 60 = .ok (.bipush 7, 2) := by decide +kernel
theorem dX6_rebook_62 : decode cX6_rebook 62 = .ok (.invokevirtual 72, 3) := by decide +kernel
theorem dX6_rebook_65 : decode cX6_rebook 65 = .ok (.istore 4, 2) := by decide +kernel
theorem dX6_rebook_67 : decode cX6_rebook 67 = .ok (.aload_n 0, 1) := by decide +kernel
theorem dX6_rebook_68 : decode cX6_rebook 68 = .ok (.getfield 19, 3) := by decide +kernel
theorem dX6_rebook_71 : decode cX6_rebook 71 = .ok (.aload_n 0, 1) := by decide +kernel
theorem dX6_rebook_72 : decode cX6_rebook 72 = .ok (.getfield 12, 3) := by decide +kernel
theorem dX6_rebook_75 : decode cX6_rebook 75 = .ok (.invokevirtual 60, 3) := by decide +kernel
theorem dX6_rebook_78 : decode cX6_rebook 78 = .ok (.aload_n 0, 1) := by decide +kernel
theorem dX6_rebook_79 : decode cX6_rebook 79 = .ok (.getfield 12, 3) := by decide +kernel
theorem dX6_rebook_82 : decode cX6_rebook 82 = .ok (.iload_n 2, 1) := by decide +kernel
theorem dX6_rebook_83 : decode cX6_rebook 83 = .ok (.aload_n 3, 1) := by decide +kernel
theorem dX6_rebook_84 : decode cX6_rebook 84 = .ok (.invokevirtual 97, 3) := by decide +kernel
theorem dX6_rebook_87 : decode cX6_rebook 87 = .ok (.aload_n 0, 1) := by decide +kernel
theorem dX6_rebook_88 : decode cX6_rebook 88 = .ok (.getfield 12, 3) := by decide +kernel
theorem dX6_rebook_91 : decode cX6_rebook 91 = .ok (.dup, 1) := by decide +kernel
theorem dX6_rebook_92 : decode cX6_rebook 92 = .ok (.getfield 109, 3) := by decide +kernel
theorem dX6_rebook_95 : decode cX6_rebook 95 = .ok (.iconst 1, 1) := by decide +kernel
theorem dX6_rebook_96 : decode cX6_rebook 96 = .ok (.iadd, 1) := by decide +kernel
theorem dX6_rebook_97 : decode cX6_rebook 97 = .ok (.putfield 109, 3) := by decide +kernel
theorem dX6_rebook_100 : decode cX6_rebook 100 = .ok (.iload 4, 2) := by decide +kernel
theorem dX6_rebook_102 : decode cX6_rebook 102 = .ok (.aload_n 0, 1) := by decide +kernel
theorem dX6_rebook_103 : decode cX6_rebook 103 = .ok (.getfield 12, 3) := by decide +kernel
theorem dX6_rebook_106 : decode cX6_rebook 106 = .ok (.iload_n 2, 1) := by decide +kernel
theorem dX6_rebook_107 : decode cX6_rebook 107 = .ok (.bipush 7, 2) := by decide +kernel
theorem dX6_rebook_109 : decode cX6_rebook 109 = .ok (.invokevirtual 72, 3) := by decide +kernel
theorem dX6_rebook_112 : decode cX6_rebook 112 = .ok (.isub, 1) := by decide +kernel
theorem dX6_rebook_113 : decode cX6_rebook 113 = .ok (.ireturn, 1) := by decide +kernel
set_option maxRecDepth 20000 in
theorem ggX6_cut_X6_requireCoach : GoodIn wsX6_cut wsX6_requireCoach := goodIn_ca (goodIn_r _ [11, 12, 13, 14, 15, 10, 16] (by decide +kernel) (by decide +kernel)) (goodIn_sub (fun _ h => List.mem_cons_of_mem _ (List.mem_append_right _ h)) (by decide +kernel))
set_option maxRecDepth 20000 in
theorem gX6_cut_X6_requireCoach : GoodIn wsX6_cut (va_wsS RX6 113 yX6_requireCoach wsX6_requireCoach) := goodIn_app (goodIn_of _ (by decide +kernel)) ggX6_cut_X6_requireCoach
set_option maxRecDepth 20000 in
theorem ggX6_cut_X0_areHadBehind : GoodIn wsX6_cut wsX0_areHadBehind := goodIn_r _ [21, 22, 23, 24, 20, 25, 26, 27, 10, 28, 87, 88] (by decide +kernel) (by decide +kernel)
set_option maxRecDepth 20000 in
theorem gX6_cut_X0_areHadBehind : GoodIn wsX6_cut (wsV RX6 125 RX0 yX0_areHadBehind wsX0_areHadBehind) := goodIn_app (goodIn_of _ (by decide +kernel)) ggX6_cut_X0_areHadBehind
set_option maxRecDepth 20000 in
theorem ggX6_cut_X0_endOf : GoodIn wsX6_cut wsX0_endOf := goodIn_r _ [32, 33, 27, 10, 28, 87, 88] (by decide +kernel) (by decide +kernel)
set_option maxRecDepth 20000 in
theorem gX6_cut_X0_endOf : GoodIn wsX6_cut (wsV RX6 132 RX0 yX0_endOf wsX0_endOf) := goodIn_app (goodIn_of _ (by decide +kernel)) ggX6_cut_X0_endOf
set_option maxRecDepth 20000 in
theorem ggX6_cut_X1_keep : GoodIn wsX6_cut wsX1_keep := goodIn_r _ [38, 39, 40, 41, 42, 43, 37, 44, 45, 46, 47, 48, 49, 50, 51, 52, 53, 54, 55, 56, 57, 58, 59, 20, 60, 26, 33, 61, 10, 62, 63, 27, 28, 64, 65, 66, 67, 68, 69, 70, 71, 72, 73, 89, 90, 91, 81, 82, 83, 84, 85, 86, 87, 88, 92, 93] (by decide +kernel) (by decide +kernel)
set_option maxRecDepth 20000 in
theorem gX6_cut_X1_keep : GoodIn wsX6_cut (wsV RX6 60 RX1 yX1_keep wsX1_keep) := goodIn_app (goodIn_of _ (by decide +kernel)) ggX6_cut_X1_keep
set_option maxRecDepth 20000 in
theorem ggX6_cut_X0_end : GoodIn wsX6_cut wsX0_end := goodIn_r _ [77, 33, 65, 10, 66, 87, 88] (by decide +kernel) (by decide +kernel)
set_option maxRecDepth 20000 in
theorem gX6_cut_X0_end : GoodIn wsX6_cut (wsV RX6 135 RX0 yX0_end wsX0_end) := goodIn_app (goodIn_of _ (by decide +kernel)) ggX6_cut_X0_end
theorem dX6_cut_0 : decode cX6_cut 0 = .ok (.iload_n 1, 1) := by decide +kernel
theorem dX6_cut_1 : decode cX6_cut 1 = .ok (.invokestatic 113, 3) := by decide +kernel
theorem dX6_cut_4 : decode cX6_cut 4 = .ok (.iload_n 2, 1) := by decide +kernel
theorem dX6_cut_5 : decode cX6_cut 5 = .ok (.iconst 1, 1) := by decide +kernel
theorem dX6_cut_6 : decode cX6_cut 6 = .ok (.if_icmp .lt 9, 3) := by decide +kernel
theorem dX6_cut_9 : decode cX6_cut 9 = .ok (.iload_n 2, 1) := by decide +kernel
theorem dX6_cut_10 : decode cX6_cut 10 = .ok (.bipush 9, 2) := by decide +kernel
theorem dX6_cut_12 : decode cX6_cut 12 = .ok (.if_icmp .le 13, 3) := by decide +kernel
theorem dX6_cut_15 : decode cX6_cut 15 = .ok (.new 116, 3) := by decide +kernel
theorem dX6_cut_18 : decode cX6_cut 18 = .ok (.dup, 1) := by decide +kernel
theorem dX6_cut_19 : decode cX6_cut 19 = .ok (.ldc 118, 2) := by decide +kernel
theorem dX6_cut_21 : decode cX6_cut 21 = .ok (.invokespecial 120, 3) := by decide +kernel
theorem dX6_cut_24 : decode cX6_cut 24 = .ok (.athrow, 1) := by decide +kernel
theorem dX6_cut_25 : decode cX6_cut 25 = .ok (.aload_n 0, 1) := by decide +kernel
theorem dX6_cut_26 : decode cX6_cut 26 = .ok (.getfield 12, 3) := by decide +kernel
theorem dX6_cut_29 : decode cX6_cut 29 = .ok (.getfield 121, 3) := by decide +kernel
theorem dX6_cut_32 : decode cX6_cut 32 = .ok (.iload_n 1, 1) := by decide +kernel
theorem dX6_cut_33 : decode cX6_cut 33 = .ok (.iload_n 2, 1) := by decide +kernel
theorem dX6_cut_34 : decode cX6_cut 34 = .ok (.invokevirtual 125, 3) := by decide +kernel
theorem dX6_cut_37 : decode cX6_cut 37 = .ok (.ifCond .eq 13, 3) := by decide +kernel
theorem dX6_cut_40 : decode cX6_cut 40 = .ok (.new 53, 3) := by decide +kernel
theorem dX6_cut_43 : decode cX6_cut 43 = .ok (.dup, 1) := by decide +kernel
theorem dX6_cut_44 : decode cX6_cut 44 = .ok (.ldc 130, 2) := by decide +kernel
theorem dX6_cut_46 : decode cX6_cut 46 = .ok (.invokespecial 57, 3) := by decide +kernel
theorem dX6_cut_49 : decode cX6_cut 49 = .ok (.athrow, 1) := by decide +kernel
theorem dX6_cut_50 : decode cX6_cut 50 = .ok (.aload_n 0, 1) := by decide +kernel
theorem dX6_cut_51 : decode cX6_cut 51 = .ok (.getfield 12, 3) := by decide +kernel
theorem dX6_cut_54 : decode cX6_cut 54 = .ok (.getfield 121, 3) := by decide +kernel
theorem dX6_cut_57 : decode cX6_cut 57 = .ok (.iload_n 1, 1) := by decide +kernel
theorem dX6_cut_58 : decode cX6_cut 58 = .ok (.invokevirtual 132, 3) := by decide +kernel
theorem dX6_cut_61 : decode cX6_cut 61 = .ok (.istore_n 3, 1) := by decide +kernel
theorem dX6_cut_62 : decode cX6_cut 62 = .ok (.aload_n 0, 1) := by decide +kernel
theorem dX6_cut_63 : decode cX6_cut 63 = .ok (.getfield 19, 3) := by decide +kernel
theorem dX6_cut_66 : decode cX6_cut 66 = .ok (.aload_n 0, 1) := by decide +kernel
theorem dX6_cut_67 : decode cX6_cut 67 = .ok (.getfield 12, 3) := by decide +kernel
theorem dX6_cut_70 : decode cX6_cut 70 = .ok (.invokevirtual 60, 3) := by decide +kernel
theorem dX6_cut_73 : decode cX6_cut 73 = .ok (.aload_n 0, 1) := by decide +kernel
theorem dX6_cut_74 : decode cX6_cut 74 = .ok (.getfield 12, 3) := by decide +kernel
theorem dX6_cut_77 : decode cX6_cut 77 = .ok (.getfield 121, 3) := by decide +kernel
theorem dX6_cut_80 : decode cX6_cut 80 = .ok (.iload_n 1, 1) := by decide +kernel
theorem dX6_cut_81 : decode cX6_cut 81 = .ok (.iload_n 2, 1) := by decide +kernel
theorem dX6_cut_82 : decode cX6_cut 82 = .ok (.invokevirtual 135, 3) := by decide +kernel
theorem dX6_cut_85 : decode cX6_cut 85 = .ok (.iload_n 3, 1) := by decide +kernel
theorem dX6_cut_86 : decode cX6_cut 86 = .ok (.ireturn, 1) := by decide +kernel
set_option maxRecDepth 20000 in
theorem ggX6_set_X6_requireSetting : GoodIn wsX6_set wsX6_requireSetting := goodIn_ca (goodIn_r _ [9, 10, 11, 12, 13, 8, 14] (by decide +kernel) (by decide +kernel)) (goodIn_sub (fun _ h => List.mem_cons_of_mem _ (List.mem_append_right _ h)) (by decide +kernel))
set_option maxRecDepth 20000 in
theorem gX6_set_X6_requireSetting : GoodIn wsX6_set (va_wsS RX6 138 yX6_requireSetting wsX6_requireSetting) := goodIn_app (goodIn_of _ (by decide +kernel)) ggX6_set_X6_requireSetting
set_option maxRecDepth 20000 in
theorem ggX6_set_X6_greatestValue : GoodIn wsX6_set wsX6_greatestValue := goodIn_r _ [17] (by decide +kernel) (by decide +kernel)
set_option maxRecDepth 20000 in
theorem gX6_set_X6_greatestValue : GoodIn wsX6_set (va_wsS RX6 141 yX6_greatestValue wsX6_greatestValue) := goodIn_app (goodIn_of _ (by decide +kernel)) ggX6_set_X6_greatestValue
set_option maxRecDepth 20000 in
theorem ggX6_set_X6_read : GoodIn wsX6_set wsX6_read := goodIn_r _ [20] (by decide +kernel) (by decide +kernel)
set_option maxRecDepth 20000 in
theorem gX6_set_X6_read : GoodIn wsX6_set (va_wsS RX6 150 yX6_read wsX6_read) := goodIn_app (goodIn_of _ (by decide +kernel)) ggX6_set_X6_read
set_option maxRecDepth 20000 in
theorem ggX6_set_X1_keep : GoodIn wsX6_set wsX1_keep := goodIn_r _ [25, 26, 27, 28, 29, 30, 24, 31, 32, 33, 34, 35, 36, 37, 38, 39, 40, 41, 42, 43, 44, 45, 46, 47, 48, 49, 50, 51, 8, 52, 18, 19, 20, 53, 54, 55, 56, 57, 58, 59, 60, 61, 62, 72, 73, 74, 66, 67, 68, 69, 70, 71, 75, 76, 77, 78] (by decide +kernel) (by decide +kernel)
set_option maxRecDepth 20000 in
theorem gX6_set_X1_keep : GoodIn wsX6_set (wsV RX6 60 RX1 yX1_keep wsX1_keep) := goodIn_app (goodIn_of _ (by decide +kernel)) ggX6_set_X1_keep
set_option maxRecDepth 20000 in
theorem ggX6_set_X6_write : GoodIn wsX6_set wsX6_write := goodIn_r _ [55] (by decide +kernel) (by decide +kernel)
set_option maxRecDepth 20000 in
theorem gX6_set_X6_write : GoodIn wsX6_set (va_wsS RX6 154 yX6_write wsX6_write) := goodIn_app (goodIn_of _ (by decide +kernel)) ggX6_set_X6_write
theorem dX6_set_0 : decode cX6_set 0 = .ok (.iload_n 1, 1) := by decide +kernel
theorem dX6_set_1 : decode cX6_set 1 = .ok (.invokestatic 138, 3) := by decide +kernel
theorem dX6_set_4 : decode cX6_set 4 = .ok (.iload_n 2, 1) := by decide +kernel
theorem dX6_set_5 : decode cX6_set 5 = .ok (.ifCond .lt 11, 3) := by decide +kernel
theorem dX6_set_8 : decode cX6_set 8 = .ok (.iload_n 2, 1) := by decide +kernel
theorem dX6_set_9 : decode cX6_set 9 = .ok (.iload_n 1, 1) := by decide +kernel
theorem dX6_set_10 : decode cX6_set 10 = .ok (.invokestatic 141, 3) := by decide +kernel
theorem dX6_set_13 : decode cX6_set 13 = .ok (.if_icmp .le 13, 3) := by decide +kernel
theorem dX6_set_16 : decode cX6_set 16 = .ok (.new 116, 3) := by decide +kernel
theorem dX6_set_19 : decode cX6_set 19 = .ok (.dup, 1) := by decide +kernel
theorem dX6_set_20 : decode cX6_set 20 = .ok (.ldc 144, 2) := by decide +kernel
theorem dX6_set_22 : decode cX6_set 22 = .ok (.invokespecial 120, 3) := by decide +kernel
theorem dX6_set_25 : decode cX6_set 25 = .ok (.athrow, 1) := by decide +kernel
theorem dX6_set_26 : decode cX6_set 26 = .ok (.aload_n 0, 1) := by decide +kernel
theorem dX6_set_27 : decode cX6_set 27 = .ok (.getfield 12, 3) := by decide +kernel
theorem dX6_set_30 : decode cX6_set 30 = .ok (.getfield 146, 3) := by decide +kernel
theorem dX6_set_33 : decode cX6_set 33 = .ok (.iload_n 1, 1) := by decide +kernel
theorem dX6_set_34 : decode cX6_set 34 = .ok (.invokestatic 150, 3) := by decide +kernel
theorem dX6_set_37 : decode cX6_set 37 = .ok (.istore_n 3, 1) := by decide +kernel
theorem dX6_set_38 : decode cX6_set 38 = .ok (.aload_n 0, 1) := by decide +kernel
theorem dX6_set_39 : decode cX6_set 39 = .ok (.getfield 19, 3) := by decide +kernel
theorem dX6_set_42 : decode cX6_set 42 = .ok (.aload_n 0, 1) := by decide +kernel
theorem dX6_set_43 : decode cX6_set 43 = .ok (.getfield 12, 3) := by decide +kernel
theorem dX6_set_46 : decode cX6_set 46 = .ok (.invokevirtual 60, 3) := by decide +kernel
theorem dX6_set_49 : decode cX6_set 49 = .ok (.aload_n 0, 1) := by decide +kernel
theorem dX6_set_50 : decode cX6_set 50 = .ok (.getfield 12, 3) := by decide +kernel
theorem dX6_set_53 : decode cX6_set 53 = .ok (.getfield 146, 3) := by decide +kernel
theorem dX6_set_56 : decode cX6_set 56 = .ok (.iload_n 1, 1) := by decide +kernel
theorem dX6_set_57 : decode cX6_set 57 = .ok (.iload_n 2, 1) := by decide +kernel
theorem dX6_set_58 : decode cX6_set 58 = .ok (.invokestatic 154, 3) := by decide +kernel
theorem dX6_set_61 : decode cX6_set 61 = .ok (.iload_n 3, 1) := by decide +kernel
theorem dX6_set_62 : decode cX6_set 62 = .ok (.ireturn, 1) := by decide +kernel
set_option maxRecDepth 20000 in
theorem ggX6_append_X4_isFull : GoodIn wsX6_append wsX4_isFull := goodIn_r _ [11, 12, 24, 25] (by decide +kernel) (by decide +kernel)
set_option maxRecDepth 20000 in
theorem gX6_append_X4_isFull : GoodIn wsX6_append (wsV RX6 160 RX4 yX4_isFull wsX4_isFull) := goodIn_app (goodIn_of _ (by decide +kernel)) ggX6_append_X4_isFull
set_option maxRecDepth 20000 in
theorem ggX6_append_X4_add : GoodIn wsX6_append wsX4_add := goodIn_r _ [16, 17, 12, 18, 19, 20, 24, 25] (by decide +kernel) (by decide +kernel)
set_option maxRecDepth 20000 in
theorem gX6_append_X4_add : GoodIn wsX6_append (wsV RX6 163 RX4 yX4_add wsX4_add) := goodIn_app (goodIn_of _ (by decide +kernel)) ggX6_append_X4_add
theorem dX6_append_0 : decode cX6_append 0 = .ok (.iload_n 1, 1) := by decide +kernel
theorem dX6_append_1 : decode cX6_append 1 = .ok (.bipush 33, 2) := by decide +kernel
theorem dX6_append_3 : decode cX6_append 3 = .ok (.if_icmp .lt 9, 3) := by decide +kernel
theorem dX6_append_6 : decode cX6_append 6 = .ok (.iload_n 1, 1) := by decide +kernel
theorem dX6_append_7 : decode cX6_append 7 = .ok (.bipush 126, 2) := by decide +kernel
theorem dX6_append_9 : decode cX6_append 9 = .ok (.if_icmp .le 13, 3) := by decide +kernel
theorem dX6_append_12 : decode cX6_append 12 = .ok (.new 116, 3) := by decide +kernel
theorem dX6_append_15 : decode cX6_append 15 = .ok (.dup, 1) := by decide +kernel
theorem dX6_append_16 : decode cX6_append 16 = .ok (.ldc 158, 2) := by decide +kernel
theorem dX6_append_18 : decode cX6_append 18 = .ok (.invokespecial 120, 3) := by decide +kernel
theorem dX6_append_21 : decode cX6_append 21 = .ok (.athrow, 1) := by decide +kernel
theorem dX6_append_22 : decode cX6_append 22 = .ok (.aload_n 0, 1) := by decide +kernel
theorem dX6_append_23 : decode cX6_append 23 = .ok (.getfield 26, 3) := by decide +kernel
theorem dX6_append_26 : decode cX6_append 26 = .ok (.invokevirtual 160, 3) := by decide +kernel
theorem dX6_append_29 : decode cX6_append 29 = .ok (.ifCond .eq 13, 3) := by decide +kernel
theorem dX6_append_32 : decode cX6_append 32 = .ok (.new 53, 3) := by decide +kernel
theorem dX6_append_35 : decode cX6_append 35 = .ok (.dup, 1) := by decide +kernel
theorem dX6_append_36 : decode cX6_append 36 = .ok (.ldc 161, 2) := by decide +kernel
theorem dX6_append_38 : decode cX6_append 38 = .ok (.invokespecial 57, 3) := by decide +kernel
theorem dX6_append_41 : decode cX6_append 41 = .ok (.athrow, 1) := by decide +kernel
theorem dX6_append_42 : decode cX6_append 42 = .ok (.aload_n 0, 1) := by decide +kernel
theorem dX6_append_43 : decode cX6_append 43 = .ok (.getfield 26, 3) := by decide +kernel
theorem dX6_append_46 : decode cX6_append 46 = .ok (.iload_n 1, 1) := by decide +kernel
theorem dX6_append_47 : decode cX6_append 47 = .ok (.invokevirtual 163, 3) := by decide +kernel
theorem dX6_append_50 : decode cX6_append 50 = .ok (.aload_n 0, 1) := by decide +kernel
theorem dX6_append_51 : decode cX6_append 51 = .ok (.getfield 26, 3) := by decide +kernel
theorem dX6_append_54 : decode cX6_append 54 = .ok (.getfield 166, 3) := by decide +kernel
theorem dX6_append_57 : decode cX6_append 57 = .ok (.ireturn, 1) := by decide +kernel
set_option maxRecDepth 20000 in
theorem ggX6_clearBuffer_X4_empty : GoodIn wsX6_clearBuffer wsX4_empty := goodIn_r _ [6, 7, 11, 12] (by decide +kernel) (by decide +kernel)
set_option maxRecDepth 20000 in
theorem gX6_clearBuffer_X4_empty : GoodIn wsX6_clearBuffer (wsV RX6 169 RX4 yX4_empty wsX4_empty) := goodIn_app (goodIn_of _ (by decide +kernel)) ggX6_clearBuffer_X4_empty
theorem dX6_clearBuffer_0 : decode cX6_clearBuffer 0 = .ok (.aload_n 0, 1) := by decide +kernel
theorem dX6_clearBuffer_1 : decode cX6_clearBuffer 1 = .ok (.getfield 26, 3) := by decide +kernel
theorem dX6_clearBuffer_4 : decode cX6_clearBuffer 4 = .ok (.invokevirtual 169, 3) := by decide +kernel
theorem dX6_clearBuffer_7 : decode cX6_clearBuffer 7 = .ok (.ireturn, 1) := by decide +kernel
set_option maxRecDepth 20000 in
theorem ggX6_firstError_X4_firstFault : GoodIn wsX6_firstError wsX4_firstFault := goodIn_r _ [6, 7, 8, 9, 10, 5, 11, 12, 13, 14, 15, 16, 17, 18, 19, 23, 24] (by decide +kernel) (by decide +kernel)
set_option maxRecDepth 20000 in
theorem gX6_firstError_X4_firstFault : GoodIn wsX6_firstError (wsV RX6 173 RX4 yX4_firstFault wsX4_firstFault) := goodIn_app (goodIn_of _ (by decide +kernel)) ggX6_firstError_X4_firstFault
theorem dX6_firstError_0 : decode cX6_firstError 0 = .ok (.aload_n 0, 1) := by decide +kernel
theorem dX6_firstError_1 : decode cX6_firstError 1 = .ok (.getfield 26, 3) := by decide +kernel
theorem dX6_firstError_4 : decode cX6_firstError 4 = .ok (.invokevirtual 173, 3) := by decide +kernel
theorem dX6_firstError_7 : decode cX6_firstError 7 = .ok (.ireturn, 1) := by decide +kernel
set_option maxRecDepth 20000 in
theorem ggX6_bookAll_X4_isComplete : GoodIn wsX6_bookAll wsX4_isComplete := goodIn_r _ [11, 12, 13, 14, 15, 10, 16, 17, 18, 19, 20, 21, 22, 23, 24, 25, 26, 27, 28, 180, 181] (by decide +kernel) (by decide +kernel)
set_option maxRecDepth 20000 in
theorem gX6_bookAll_X4_isComplete : GoodIn wsX6_bookAll (wsV RX6 176 RX4 yX4_isComplete wsX4_isComplete) := goodIn_app (goodIn_of _ (by decide +kernel)) ggX6_bookAll_X4_isComplete
set_option maxRecDepth 20000 in
theorem ggX6_bookAll_X1_keep : GoodIn wsX6_bookAll wsX1_keep := goodIn_r _ [33, 34, 35, 36, 37, 38, 32, 39, 40, 41, 42, 43, 44, 45, 46, 47, 48, 49, 50, 51, 52, 53, 54, 55, 56, 57, 58, 59, 19, 60, 61, 18, 20, 62, 63, 64, 65, 66, 67, 68, 69, 70, 71, 182, 183, 184, 185, 186, 187, 188, 189, 190, 191, 192, 193, 194] (by decide +kernel) (by decide +kernel)
set_option maxRecDepth 20000 in
theorem gX6_bookAll_X1_keep : GoodIn wsX6_bookAll (wsV RX6 60 RX1 yX1_keep wsX1_keep) := goodIn_app (goodIn_of _ (by decide +kernel)) ggX6_bookAll_X1_keep
set_option maxRecDepth 20000 in
theorem ggX6_bookAll_X4_from : GoodIn wsX6_bookAll wsX4_from := goodIn_r _ [75, 13, 14, 15, 10, 16, 12, 17, 18, 19, 20, 180, 181] (by decide +kernel) (by decide +kernel)
set_option maxRecDepth 20000 in
theorem gX6_bookAll_X4_from : GoodIn wsX6_bookAll (wsV RX6 181 RX4 yX4_from wsX4_from) := goodIn_app (goodIn_of _ (by decide +kernel)) ggX6_bookAll_X4_from
set_option maxRecDepth 20000 in
theorem ggX6_bookAll_X4_to : GoodIn wsX6_bookAll wsX4_to := goodIn_r _ [79, 13, 14, 15, 10, 16, 12, 17, 18, 19, 20, 180, 181] (by decide +kernel) (by decide +kernel)
set_option maxRecDepth 20000 in
theorem gX6_bookAll_X4_to : GoodIn wsX6_bookAll (wsV RX6 184 RX4 yX4_to wsX4_to) := goodIn_app (goodIn_of _ (by decide +kernel)) ggX6_bookAll_X4_to
set_option maxRecDepth 20000 in
theorem ggX6_bookAll_X4_isThrough : GoodIn wsX6_bookAll wsX4_isThrough := goodIn_r _ [83, 13, 14, 15, 10, 16, 12, 17, 18, 19, 20, 180, 181] (by decide +kernel) (by decide +kernel)
set_option maxRecDepth 20000 in
theorem gX6_bookAll_X4_isThrough : GoodIn wsX6_bookAll (wsV RX6 187 RX4 yX4_isThrough wsX4_isThrough) := goodIn_app (goodIn_of _ (by decide +kernel)) ggX6_bookAll_X4_isThrough
set_option maxRecDepth 20000 in
theorem ggX6_bookAll_X5_admitOrLeaveOut : GoodIn wsX6_bookAll wsX5_admitOrLeaveOut := goodIn_r _ [87, 47, 51, 88, 89, 90, 44, 91, 46, 92, 93, 94, 95, 96, 97, 55, 98, 99, 100, 101, 102, 103, 104, 105, 106, 58, 57, 107, 108, 109, 110, 111, 112, 113, 114, 115, 116, 117, 118, 119, 120, 121, 122, 123, 124, 125, 126, 127, 48, 18, 19, 20, 128, 129, 130, 131, 68, 132, 71, 133, 134, 135, 136, 137, 138, 139, 140, 49, 50, 141, 142, 143, 144, 145, 146, 147, 148, 70, 63, 64, 149, 150, 151, 152, 153, 154, 155, 156, 157, 158, 159, 160, 161, 162, 163, 164, 165, 166, 167, 168, 169, 170, 171, 172, 185, 186, 187, 188, 189, 190, 195, 196, 197, 191, 192, 193, 194] (by decide +kernel) (by decide +kernel)
set_option maxRecDepth 20000 in
theorem gX6_bookAll_X5_admitOrLeaveOut : GoodIn wsX6_bookAll (wsV RX6 191 RX5 yX5_admitOrLeaveOut wsX5_admitOrLeaveOut) := goodIn_app (goodIn_of _ (by decide +kernel)) ggX6_bookAll_X5_admitOrLeaveOut
set_option maxRecDepth 20000 in
theorem ggX6_bookAll_X4_empty : GoodIn wsX6_bookAll wsX4_empty := goodIn_r _ [176, 12, 180, 181] (by decide +kernel) (by decide +kernel)
set_option maxRecDepth 20000 in
theorem gX6_bookAll_X4_empty : GoodIn wsX6_bookAll (wsV RX6 169 RX4 yX4_empty wsX4_empty) := goodIn_app (goodIn_of _ (by decide +kernel)) ggX6_bookAll_X4_empty
theorem dX6_bookAll_0 : decode cX6_bookAll 0 = .ok (.aload_n 0, 1) := by decide +kernel
theorem dX6_bookAll_1 : decode cX6_bookAll 1 = .ok (.getfield 26, 3) := by decide +kernel
theorem dX6_bookAll_4 : decode cX6_bookAll 4 = .ok (.invokevirtual 176, 3) := by decide +kernel
theorem dX6_bookAll_7 : decode cX6_bookAll 7 = .ok (.ifCond .ne 13, 3) := by decide +kernel
theorem dX6_bookAll_10 : decode cX6_bookAll 10 = .ok (.new 116, 3) := by decide +kernel
theorem dX6_bookAll_13 : decode cX6_bookAll 13 = .ok (.dup, 1) := by decide +kernel
theorem dX6_bookAll_14 : decode cX6_bookAll 14 = .ok (.ldc 179, 2) := by decide +kernel
theorem dX6_bookAll_16 : decode cX6_bookAll 16 = .ok (.invokespecial 120, 3) := by decide +kernel
theorem dX6_bookAll_19 : decode cX6_bookAll 19 = .ok (.athrow, 1) := by decide +kernel
theorem dX6_bookAll_20 : decode cX6_bookAll 20 = .ok (.aload_n 0, 1) := by decide +kernel
theorem dX6_bookAll_21 : decode cX6_bookAll 21 = .ok (.getfield 19, 3) := by decide +kernel
theorem dX6_bookAll_24 : decode cX6_bookAll 24 = .ok (.aload_n 0, 1) := by decide +kernel
theorem dX6_bookAll_25 : decode cX6_bookAll 25 = .ok (.getfield 12, 3) := by decide +kernel
theorem dX6_bookAll_28 : decode cX6_bookAll 28 = .ok (.invokevirtual 60, 3) := by decide +kernel
theorem dX6_bookAll_31 : decode cX6_bookAll 31 = .ok (.iconst 0, 1) := by decide +kernel
theorem dX6_bookAll_32 : decode cX6_bookAll 32 = .ok (.istore_n 1, 1) := by decide +kernel
theorem dX6_bookAll_33 : decode cX6_bookAll 33 = .ok (.iconst 0, 1) := by decide +kernel
theorem dX6_bookAll_34 : decode cX6_bookAll 34 = .ok (.istore_n 2, 1) := by decide +kernel
theorem dX6_bookAll_35 : decode cX6_bookAll 35 = .ok (.iload_n 2, 1) := by decide +kernel
theorem dX6_bookAll_36 : decode cX6_bookAll 36 = .ok (.aload_n 0, 1) := by decide +kernel
theorem dX6_bookAll_37 : decode cX6_bookAll 37 = .ok (.getfield 26, 3) := by decide +kernel
theorem dX6_bookAll_40 : decode cX6_bookAll 40 = .ok (.getfield 166, 3) := by decide +kernel
theorem dX6_bookAll_43 : decode cX6_bookAll 43 = .ok (.if_icmp .ge 62, 3) := by decide +kernel
theorem dX6_bookAll_46 : decode cX6_bookAll 46 = .ok (.aload_n 0, 1) := by decide +kernel
theorem dX6_bookAll_47 : decode cX6_bookAll 47 = .ok (.getfield 12, 3) := by decide +kernel
theorem dX6_bookAll_50 : decode cX6_bookAll 50 = .ok (.aload_n 0, 1) := by decide +kernel
theorem dX6_bookAll_51 : decode cX6_bookAll 51 = .ok (.getfield 26, 3) := by decide +kernel
theorem dX6_bookAll_54 : decode cX6_bookAll 54 = .ok (.iload_n 2, 1) := by decide +kernel
theorem dX6_bookAll_55 : decode cX6_bookAll 55 = .ok (.invokevirtual 181, 3) := by decide +kernel
theorem dX6_bookAll_58 : decode cX6_bookAll 58 = .ok (.aload_n 0, 1) := by decide +kernel
theorem dX6_bookAll_59 : decode cX6_bookAll 59 = .ok (.getfield 26, 3) := by decide +kernel
theorem dX6_bookAll_62 : decode cX6_bookAll 62 = .ok (.iload_n 2, 1) := by decide +kernel
theorem dX6_bookAll_63 : decode cX6_bookAll 63 = .ok (.invokevirtual 184, 3) := by decide +kernel
theorem dX6_bookAll_66 : decode cX6_bookAll 66 = .ok (.aload_n 0, 1) := by decide +kernel
theorem dX6_bookAll_67 : decode cX6_bookAll 67 = .ok (.getfield 26, 3) := by decide +kernel
theorem dX6_bookAll_70 : decode cX6_bookAll 70 = .ok (.iload_n 2, 1) := by decide +kernel
theorem dX6_bookAll_71 : decode cX6_bookAll 71 = .ok (.invokevirtual 187, 3) := by decide +kernel
theorem dX6_bookAll_74 : decode cX6_bookAll 74 = .ok (.invokevirtual 191, 3) := by decide +kernel
theorem dX6_bookAll_77 : decode cX6_bookAll 77 = .ok (.ifCond .eq 6, 3) := by decide +kernel
theorem dX6_bookAll_80 : decode cX6_bookAll 80 = .ok (.iinc 1 1, 3) := by decide +kernel
theorem dX6_bookAll_83 : decode cX6_bookAll 83 = .ok (.iload_n 2, 1) := by decide +kernel
theorem dX6_bookAll_84 : decode cX6_bookAll 84 = .ok (.aload_n 0, 1) := by decide +kernel
theorem dX6_bookAll_85 : decode cX6_bookAll 85 = .ok (.getfield 26, 3) := by decide +kernel
theorem dX6_bookAll_88 : decode cX6_bookAll 88 = .ok (.iload_n 2, 1) := by decide +kernel
theorem dX6_bookAll_89 : decode cX6_bookAll 89 = .ok (.invokevirtual 187, 3) := by decide +kernel
theorem dX6_bookAll_92 : decode cX6_bookAll 92 = .ok (.ifCond .eq 7, 3) := by decide +kernel
theorem dX6_bookAll_95 : decode cX6_bookAll 95 = .ok (.iconst 5, 1) := by decide +kernel
theorem dX6_bookAll_96 : decode cX6_bookAll 96 = .ok (.goto 4, 3) := by decide +kernel
theorem dX6_bookAll_99 : decode cX6_bookAll 99 = .ok (.iconst 4, 1) := by decide +kernel
theorem dX6_bookAll_100 : decode cX6_bookAll 100 = .ok (.iadd, 1) := by decide +kernel
theorem dX6_bookAll_101 : decode cX6_bookAll 101 = .ok (.istore_n 2, 1) := by decide +kernel
theorem dX6_bookAll_102 : decode cX6_bookAll 102 = .ok (.goto (-67), 3) := by decide +kernel
theorem dX6_bookAll_105 : decode cX6_bookAll 105 = .ok (.aload_n 0, 1) := by decide +kernel
theorem dX6_bookAll_106 : decode cX6_bookAll 106 = .ok (.getfield 26, 3) := by decide +kernel
theorem dX6_bookAll_109 : decode cX6_bookAll 109 = .ok (.invokevirtual 169, 3) := by decide +kernel
theorem dX6_bookAll_112 : decode cX6_bookAll 112 = .ok (.pop, 1) := by decide +kernel
theorem dX6_bookAll_113 : decode cX6_bookAll 113 = .ok (.iload_n 1, 1) := by decide +kernel
theorem dX6_bookAll_114 : decode cX6_bookAll 114 = .ok (.ireturn, 1) := by decide +kernel
set_option maxRecDepth 20000 in
theorem ggX6_undo_X1_restore : GoodIn wsX6_undo wsX1_restore := goodIn_r _ [10, 11, 12, 13, 14, 9, 15, 16, 17, 18, 19, 20, 21, 22, 23, 24, 25, 26, 27, 28, 29, 30, 31, 32, 33, 34, 35, 36, 37, 38, 39, 40, 41, 42, 43, 44, 45, 46, 47, 48, 49, 50, 51, 55, 56, 57, 58, 59, 60, 61, 62, 63, 64, 65, 66, 67] (by decide +kernel) (by decide +kernel)
set_option maxRecDepth 20000 in
theorem gX6_undo_X1_restore : GoodIn wsX6_undo (wsV RX6 200 RX1 yX1_restore wsX1_restore) := goodIn_app (goodIn_of _ (by decide +kernel)) ggX6_undo_X1_restore
theorem dX6_undo_0 : decode cX6_undo 0 = .ok (.aload_n 0, 1) := by decide +kernel
theorem dX6_undo_1 : decode cX6_undo 1 = .ok (.getfield 19, 3) := by decide +kernel
theorem dX6_undo_4 : decode cX6_undo 4 = .ok (.getfield 195, 3) := by decide +kernel
theorem dX6_undo_7 : decode cX6_undo 7 = .ok (.ifCond .ne 13, 3) := by decide +kernel
theorem dX6_undo_10 : decode cX6_undo 10 = .ok (.new 53, 3) := by decide +kernel
theorem dX6_undo_13 : decode cX6_undo 13 = .ok (.dup, 1) := by decide +kernel
theorem dX6_undo_14 : decode cX6_undo 14 = .ok (.ldc 198, 2) := by decide +kernel
theorem dX6_undo_16 : decode cX6_undo 16 = .ok (.invokespecial 57, 3) := by decide +kernel
theorem dX6_undo_19 : decode cX6_undo 19 = .ok (.athrow, 1) := by decide +kernel
theorem dX6_undo_20 : decode cX6_undo 20 = .ok (.aload_n 0, 1) := by decide +kernel
theorem dX6_undo_21 : decode cX6_undo 21 = .ok (.getfield 19, 3) := by decide +kernel
theorem dX6_undo_24 : decode cX6_undo 24 = .ok (.aload_n 0, 1) := by decide +kernel
theorem dX6_undo_25 : decode cX6_undo 25 = .ok (.getfield 12, 3) := by decide +kernel
theorem dX6_undo_28 : decode cX6_undo 28 = .ok (.invokevirtual 200, 3) := by decide +kernel
theorem dX6_undo_31 : decode cX6_undo 31 = .ok (.aload_n 0, 1) := by decide +kernel
theorem dX6_undo_32 : decode cX6_undo 32 = .ok (.getfield 19, 3) := by decide +kernel
theorem dX6_undo_35 : decode cX6_undo 35 = .ok (.getfield 195, 3) := by decide +kernel
theorem dX6_undo_38 : decode cX6_undo 38 = .ok (.ireturn, 1) := by decide +kernel
set_option maxRecDepth 20000 in
theorem ggX6_holder_X6_isBelow : GoodIn wsX6_holder wsX6_isBelow := goodIn_r _ [8] (by decide +kernel) (by decide +kernel)
set_option maxRecDepth 20000 in
theorem gX6_holder_X6_isBelow : GoodIn wsX6_holder (va_wsS RX6 80 yX6_isBelow wsX6_isBelow) := goodIn_app (goodIn_of _ (by decide +kernel)) ggX6_holder_X6_isBelow
set_option maxRecDepth 20000 in
theorem ggX6_holder_X0_holderOn : GoodIn wsX6_holder wsX0_holderOn := goodIn_r _ [13, 14, 15, 7, 16, 26, 27] (by decide +kernel) (by decide +kernel)
set_option maxRecDepth 20000 in
theorem gX6_holder_X0_holderOn : GoodIn wsX6_holder (wsV RX6 205 RX0 yX0_holderOn wsX0_holderOn) := goodIn_app (goodIn_of _ (by decide +kernel)) ggX6_holder_X0_holderOn
theorem dX6_holder_0 : decode cX6_holder 0 = .ok (.iload_n 1, 1) := by decide +kernel
theorem dX6_holder_1 : decode cX6_holder 1 = .ok (.bipush 18, 2) := by decide +kernel
theorem dX6_holder_3 : decode cX6_holder 3 = .ok (.invokestatic 80, 3) := by decide +kernel
theorem dX6_holder_6 : decode cX6_holder 6 = .ok (.ifCond .eq 12, 3) := by decide +kernel
theorem dX6_holder_9 : decode cX6_holder 9 = .ok (.iload_n 2, 1) := by decide +kernel
theorem dX6_holder_10 : decode cX6_holder 10 = .ok (.bipush 9, 2) := by decide +kernel
theorem dX6_holder_12 : decode cX6_holder 12 = .ok (.invokestatic 80, 3) := by decide +kernel
theorem dX6_holder_15 : decode cX6_holder 15 = .ok (.ifCond .ne 13, 3) := by decide +kernel
theorem dX6_holder_18 : decode cX6_holder 18 = .ok (.new 84, 3) := by decide +kernel
theorem dX6_holder_21 : decode cX6_holder 21 = .ok (.dup, 1) := by decide +kernel
theorem dX6_holder_22 : decode cX6_holder 22 = .ok (.ldc 203, 2) := by decide +kernel
theorem dX6_holder_24 : decode cX6_holder 24 = .ok (.invokespecial 88, 3) := by decide +kernel
theorem dX6_holder_27 : decode cX6_holder 27 = .ok (.athrow, 1) := by decide +kernel
theorem dX6_holder_28 : decode cX6_holder 28 = .ok (.aload_n 0, 1) := by decide +kernel
theorem dX6_holder_29 : decode cX6_holder 29 = .ok (.getfield 12, 3) := by decide +kernel
theorem dX6_holder_32 : decode cX6_holder 32 = .ok (.getfield 121, 3) := by decide +kernel
theorem dX6_holder_35 : decode cX6_holder 35 = .ok (.iload_n 1, 1) := by decide +kernel
theorem dX6_holder_36 : decode cX6_holder 36 = .ok (.iload_n 2, 1) := by decide +kernel
theorem dX6_holder_37 : decode cX6_holder 37 = .ok (.invokevirtual 205, 3) := by decide +kernel
theorem dX6_holder_40 : decode cX6_holder 40 = .ok (.ireturn, 1) := by decide +kernel
set_option maxRecDepth 20000 in
theorem ggX6_passenger_X6_isBelow : GoodIn wsX6_passenger wsX6_isBelow := goodIn_r _ [9] (by decide +kernel) (by decide +kernel)
set_option maxRecDepth 20000 in
theorem gX6_passenger_X6_isBelow : GoodIn wsX6_passenger (va_wsS RX6 80 yX6_isBelow wsX6_isBelow) := goodIn_app (goodIn_of _ (by decide +kernel)) ggX6_passenger_X6_isBelow
set_option maxRecDepth 20000 in
theorem ggX6_passenger_X5_property : GoodIn wsX6_passenger wsX5_property := goodIn_r _ [14, 15, 16, 17, 18, 13, 19, 20, 21, 22, 23, 24, 25, 26, 27, 28, 29, 30, 31, 32, 33, 34, 35, 36, 37, 38, 39, 40, 41, 42, 43, 44, 45, 46, 47, 8, 48, 52, 53, 54, 55, 56, 57, 58, 59, 60, 61] (by decide +kernel) (by decide +kernel)
set_option maxRecDepth 20000 in
theorem gX6_passenger_X5_property : GoodIn wsX6_passenger (wsV RX6 72 RX5 yX5_property wsX5_property) := goodIn_app (goodIn_of _ (by decide +kernel)) ggX6_passenger_X5_property
theorem dX6_passenger_0 : decode cX6_passenger 0 = .ok (.iload_n 1, 1) := by decide +kernel
theorem dX6_passenger_1 : decode cX6_passenger 1 = .ok (.ifCond .lt 12, 3) := by decide +kernel
theorem dX6_passenger_4 : decode cX6_passenger 4 = .ok (.iload_n 2, 1) := by decide +kernel
theorem dX6_passenger_5 : decode cX6_passenger 5 = .ok (.bipush 9, 2) := by decide +kernel
theorem dX6_passenger_7 : decode cX6_passenger 7 = .ok (.invokestatic 80, 3) := by decide +kernel
theorem dX6_passenger_10 : decode cX6_passenger 10 = .ok (.ifCond .ne 13, 3) := by decide +kernel
theorem dX6_passenger_13 : decode cX6_passenger 13 = .ok (.new 116, 3) := by decide +kernel
theorem dX6_passenger_16 : decode cX6_passenger 16 = .ok (.dup, 1) := by decide +kernel
theorem dX6_passenger_17 : decode cX6_passenger 17 = .ok (.ldc 208, 2) := by decide +kernel
theorem dX6_passenger_19 : decode cX6_passenger 19 = .ok (.invokespecial 120, 3) := by decide +kernel
theorem dX6_passenger_22 : decode cX6_passenger 22 = .ok (.athrow, 1) := by decide +kernel
theorem dX6_passenger_23 : decode cX6_passenger 23 = .ok (.iload_n 1, 1) := by decide +kernel
theorem dX6_passenger_24 : decode cX6_passenger 24 = .ok (.aload_n 0, 1) := by decide +kernel
theorem dX6_passenger_25 : decode cX6_passenger 25 = .ok (.getfield 12, 3) := by decide +kernel
theorem dX6_passenger_28 : decode cX6_passenger 28 = .ok (.getfield 38, 3) := by decide +kernel
theorem dX6_passenger_31 : decode cX6_passenger 31 = .ok (.getfield 210, 3) := by decide +kernel
theorem dX6_passenger_34 : decode cX6_passenger 34 = .ok (.if_icmp .ge 15, 3) := by decide +kernel
theorem dX6_passenger_37 : decode cX6_passenger 37 = .ok (.aload_n 0, 1) := by decide +kernel
theorem dX6_passenger_38 : decode cX6_passenger 38 = .ok (.getfield 12, 3) := by decide +kernel
theorem dX6_passenger_41 : decode cX6_passenger 41 = .ok (.iload_n 1, 1) := by decide +kernel
theorem dX6_passenger_42 : decode cX6_passenger 42 = .ok (.iload_n 2, 1) := by decide +kernel
theorem dX6_passenger_43 : decode cX6_passenger 43 = .ok (.invokevirtual 72, 3) := by decide +kernel
theorem dX6_passenger_46 : decode cX6_passenger 46 = .ok (.goto 4, 3) := by decide +kernel
theorem dX6_passenger_49 : decode cX6_passenger 49 = .ok (.iconst (-1), 1) := by decide +kernel
theorem dX6_passenger_50 : decode cX6_passenger 50 = .ok (.ireturn, 1) := by decide +kernel
set_option maxRecDepth 20000 in
theorem ggX6_count_X5_sumOf : GoodIn wsX6_count wsX5_sumOf := goodIn_r _ [15, 16, 17, 18, 19, 20, 14, 21, 22, 23, 24, 25, 26, 27, 28, 29, 30, 31, 32, 33, 34, 35, 36, 37, 38, 39, 40, 41, 42, 43, 44, 45, 46, 47, 48, 49, 50, 51, 52, 53, 54, 55, 68, 69, 70, 71, 72, 73, 74, 75, 79, 80] (by decide +kernel) (by decide +kernel)
set_option maxRecDepth 20000 in
theorem gX6_count_X5_sumOf : GoodIn wsX6_count (wsV RX6 211 RX5 yX5_sumOf wsX5_sumOf) := goodIn_app (goodIn_of _ (by decide +kernel)) ggX6_count_X5_sumOf
set_option maxRecDepth 20000 in
theorem ggX6_count_X3_changing : GoodIn wsX6_count wsX3_changing := goodIn_r _ [59, 60, 32, 33, 34, 30, 35, 36, 74, 75] (by decide +kernel) (by decide +kernel)
set_option maxRecDepth 20000 in
theorem gX6_count_X3_changing : GoodIn wsX6_count (wsV RX6 214 RX3 yX3_changing wsX3_changing) := goodIn_app (goodIn_of _ (by decide +kernel)) ggX6_count_X3_changing
set_option maxRecDepth 20000 in
theorem ggX6_count_X0_allHad : GoodIn wsX6_count wsX0_allHad := goodIn_r _ [64, 43, 79, 80] (by decide +kernel) (by decide +kernel)
set_option maxRecDepth 20000 in
theorem gX6_count_X0_allHad : GoodIn wsX6_count (wsV RX6 217 RX0 yX0_allHad wsX0_allHad) := goodIn_app (goodIn_of _ (by decide +kernel)) ggX6_count_X0_allHad
theorem dX6_count_0 : decode cX6_count 0 = .ok (.iload_n 1, 1) := by decide +kernel
theorem dX6_count_1 : decode cX6_count 1 = .ok (.tableswitch 137 0 8 #[51, 62, 71, 82, 92, 102, 113, 121, 129], 51) := by decide +kernel
theorem dX6_count_52 : decode cX6_count 52 = .ok (.aload_n 0, 1) := by decide +kernel
theorem dX6_count_53 : decode cX6_count 53 = .ok (.getfield 12, 3) := by decide +kernel
theorem dX6_count_56 : decode cX6_count 56 = .ok (.getfield 38, 3) := by decide +kernel
theorem dX6_count_59 : decode cX6_count 59 = .ok (.getfield 210, 3) := by decide +kernel
theorem dX6_count_62 : decode cX6_count 62 = .ok (.ireturn, 1) := by decide +kernel
theorem dX6_count_63 : decode cX6_count 63 = .ok (.aload_n 0, 1) := by decide +kernel
theorem dX6_count_64 : decode cX6_count 64 = .ok (.getfield 12, 3) := by decide +kernel
theorem dX6_count_67 : decode cX6_count 67 = .ok (.iconst 3, 1) := by decide +kernel
theorem dX6_count_68 : decode cX6_count 68 = .ok (.invokevirtual 211, 3) := by decide +kernel
theorem dX6_count_71 : decode cX6_count 71 = .ok (.ireturn, 1) := by decide +kernel
theorem dX6_count_72 : decode cX6_count 72 = .ok (.aload_n 0, 1) := by decide +kernel
theorem dX6_count_73 : decode cX6_count 73 = .ok (.getfield 12, 3) := by decide +kernel
theorem dX6_count_76 : decode cX6_count 76 = .ok (.getfield 38, 3) := by decide +kernel
theorem dX6_count_79 : decode cX6_count 79 = .ok (.invokevirtual 214, 3) := by decide +kernel
theorem dX6_count_82 : decode cX6_count 82 = .ok (.ireturn, 1) := by decide +kernel
theorem dX6_count_83 : decode cX6_count 83 = .ok (.aload_n 0, 1) := by decide +kernel
theorem dX6_count_84 : decode cX6_count 84 = .ok (.getfield 12, 3) := by decide +kernel
theorem dX6_count_87 : decode cX6_count 87 = .ok (.bipush 7, 2) := by decide +kernel
theorem dX6_count_89 : decode cX6_count 89 = .ok (.invokevirtual 211, 3) := by decide +kernel
theorem dX6_count_92 : decode cX6_count 92 = .ok (.ireturn, 1) := by decide +kernel
theorem dX6_count_93 : decode cX6_count 93 = .ok (.aload_n 0, 1) := by decide +kernel
theorem dX6_count_94 : decode cX6_count 94 = .ok (.getfield 12, 3) := by decide +kernel
theorem dX6_count_97 : decode cX6_count 97 = .ok (.bipush 8, 2) := by decide +kernel
theorem dX6_count_99 : decode cX6_count 99 = .ok (.invokevirtual 211, 3) := by decide +kernel
theorem dX6_count_102 : decode cX6_count 102 = .ok (.ireturn, 1) := by decide +kernel
theorem dX6_count_103 : decode cX6_count 103 = .ok (.aload_n 0, 1) := by decide +kernel
theorem dX6_count_104 : decode cX6_count 104 = .ok (.getfield 12, 3) := by decide +kernel
theorem dX6_count_107 : decode cX6_count 107 = .ok (.getfield 121, 3) := by decide +kernel
theorem dX6_count_110 : decode cX6_count 110 = .ok (.invokevirtual 217, 3) := by decide +kernel
theorem dX6_count_113 : decode cX6_count 113 = .ok (.ireturn, 1) := by decide +kernel
theorem dX6_count_114 : decode cX6_count 114 = .ok (.aload_n 0, 1) := by decide +kernel
theorem dX6_count_115 : decode cX6_count 115 = .ok (.getfield 12, 3) := by decide +kernel
theorem dX6_count_118 : decode cX6_count 118 = .ok (.getfield 109, 3) := by decide +kernel
theorem dX6_count_121 : decode cX6_count 121 = .ok (.ireturn, 1) := by decide +kernel
theorem dX6_count_122 : decode cX6_count 122 = .ok (.aload_n 0, 1) := by decide +kernel
theorem dX6_count_123 : decode cX6_count 123 = .ok (.getfield 12, 3) := by decide +kernel
theorem dX6_count_126 : decode cX6_count 126 = .ok (.getfield 220, 3) := by decide +kernel
theorem dX6_count_129 : decode cX6_count 129 = .ok (.ireturn, 1) := by decide +kernel
theorem dX6_count_130 : decode cX6_count 130 = .ok (.aload_n 0, 1) := by decide +kernel
theorem dX6_count_131 : decode cX6_count 131 = .ok (.getfield 19, 3) := by decide +kernel
theorem dX6_count_134 : decode cX6_count 134 = .ok (.getfield 195, 3) := by decide +kernel
theorem dX6_count_137 : decode cX6_count 137 = .ok (.ireturn, 1) := by decide +kernel
theorem dX6_count_138 : decode cX6_count 138 = .ok (.new 116, 3) := by decide +kernel
theorem dX6_count_141 : decode cX6_count 141 = .ok (.dup, 1) := by decide +kernel
theorem dX6_count_142 : decode cX6_count 142 = .ok (.ldc 223, 2) := by decide +kernel
theorem dX6_count_144 : decode cX6_count 144 = .ok (.invokespecial 120, 3) := by decide +kernel
theorem dX6_count_147 : decode cX6_count 147 = .ok (.athrow, 1) := by decide +kernel
set_option maxRecDepth 20000 in
theorem ggX6_free_X6_isBelow : GoodIn wsX6_free wsX6_isBelow := goodIn_r _ [10] (by decide +kernel) (by decide +kernel)
set_option maxRecDepth 20000 in
theorem gX6_free_X6_isBelow : GoodIn wsX6_free (va_wsS RX6 80 yX6_isBelow wsX6_isBelow) := goodIn_app (goodIn_of _ (by decide +kernel)) ggX6_free_X6_isBelow
set_option maxRecDepth 20000 in
theorem ggX6_free_X0_openOn : GoodIn wsX6_free wsX0_openOn := goodIn_r _ [15, 16, 17, 18, 14, 19, 20, 21, 35, 36] (by decide +kernel) (by decide +kernel)
set_option maxRecDepth 20000 in
theorem gX6_free_X0_openOn : GoodIn wsX6_free (wsV RX6 229 RX0 yX0_openOn wsX0_openOn) := goodIn_app (goodIn_of _ (by decide +kernel)) ggX6_free_X0_openOn
set_option maxRecDepth 20000 in
theorem ggX6_free_X0_lowestOpenOn : GoodIn wsX6_free wsX0_lowestOpenOn := goodIn_r _ [25, 16, 17, 18, 14, 19, 20, 21, 35, 36] (by decide +kernel) (by decide +kernel)
set_option maxRecDepth 20000 in
theorem gX6_free_X0_lowestOpenOn : GoodIn wsX6_free (wsV RX6 232 RX0 yX0_lowestOpenOn wsX0_lowestOpenOn) := goodIn_app (goodIn_of _ (by decide +kernel)) ggX6_free_X0_lowestOpenOn
theorem dX6_free_0 : decode cX6_free 0 = .ok (.iload_n 1, 1) := by decide +kernel
theorem dX6_free_1 : decode cX6_free 1 = .ok (.bipush 9, 2) := by decide +kernel
theorem dX6_free_3 : decode cX6_free 3 = .ok (.invokestatic 80, 3) := by decide +kernel
theorem dX6_free_6 : decode cX6_free 6 = .ok (.ifCond .ne 13, 3) := by decide +kernel
theorem dX6_free_9 : decode cX6_free 9 = .ok (.new 84, 3) := by decide +kernel
theorem dX6_free_12 : decode cX6_free 12 = .ok (.dup, 1) := by decide +kernel
theorem dX6_free_13 : decode cX6_free 13 = .ok (.ldc 225, 2) := by decide +kernel
theorem dX6_free_15 : decode cX6_free 15 = .ok (.invokespecial 88, 3) := by decide +kernel
theorem dX6_free_18 : decode cX6_free 18 = .ok (.athrow, 1) := by decide +kernel
theorem dX6_free_19 : decode cX6_free 19 = .ok (.iload_n 2, 1) := by decide +kernel
theorem dX6_free_20 : decode cX6_free 20 = .ok (.iconst 2, 1) := by decide +kernel
theorem dX6_free_21 : decode cX6_free 21 = .ok (.invokestatic 80, 3) := by decide +kernel
theorem dX6_free_24 : decode cX6_free 24 = .ok (.ifCond .ne 13, 3) := by decide +kernel
theorem dX6_free_27 : decode cX6_free 27 = .ok (.new 116, 3) := by decide +kernel
theorem dX6_free_30 : decode cX6_free 30 = .ok (.dup, 1) := by decide +kernel
theorem dX6_free_31 : decode cX6_free 31 = .ok (.ldc 227, 2) := by decide +kernel
theorem dX6_free_33 : decode cX6_free 33 = .ok (.invokespecial 120, 3) := by decide +kernel
theorem dX6_free_36 : decode cX6_free 36 = .ok (.athrow, 1) := by decide +kernel
theorem dX6_free_37 : decode cX6_free 37 = .ok (.iload_n 2, 1) := by decide +kernel
theorem dX6_free_38 : decode cX6_free 38 = .ok (.ifCond .ne 17, 3) := by decide +kernel
theorem dX6_free_41 : decode cX6_free 41 = .ok (.aload_n 0, 1) := by decide +kernel
theorem dX6_free_42 : decode cX6_free 42 = .ok (.getfield 12, 3) := by decide +kernel
theorem dX6_free_45 : decode cX6_free 45 = .ok (.getfield 121, 3) := by decide +kernel
theorem dX6_free_48 : decode cX6_free 48 = .ok (.iload_n 1, 1) := by decide +kernel
theorem dX6_free_49 : decode cX6_free 49 = .ok (.invokevirtual 229, 3) := by decide +kernel
theorem dX6_free_52 : decode cX6_free 52 = .ok (.goto 14, 3) := by decide +kernel
theorem dX6_free_55 : decode cX6_free 55 = .ok (.aload_n 0, 1) := by decide +kernel
theorem dX6_free_56 : decode cX6_free 56 = .ok (.getfield 12, 3) := by decide +kernel
theorem dX6_free_59 : decode cX6_free 59 = .ok (.getfield 121, 3) := by decide +kernel
theorem dX6_free_62 : decode cX6_free 62 = .ok (.iload_n 1, 1) := by decide +kernel
theorem dX6_free_63 : decode cX6_free 63 = .ok (.invokevirtual 232, 3) := by decide +kernel
theorem dX6_free_66 : decode cX6_free 66 = .ok (.ireturn, 1) := by decide +kernel
set_option maxRecDepth 20000 in
theorem ggX6_goesTo_X6_requireCoach : GoodIn wsX6_goesTo wsX6_requireCoach := goodIn_ca (goodIn_r _ [6, 7, 8, 9, 10, 5, 11] (by decide +kernel) (by decide +kernel)) (goodIn_sub (fun _ h => List.mem_cons_of_mem _ (List.mem_append_right _ h)) (by decide +kernel))
set_option maxRecDepth 20000 in
theorem gX6_goesTo_X6_requireCoach : GoodIn wsX6_goesTo (va_wsS RX6 113 yX6_requireCoach wsX6_requireCoach) := goodIn_app (goodIn_of _ (by decide +kernel)) ggX6_goesTo_X6_requireCoach
set_option maxRecDepth 20000 in
theorem ggX6_goesTo_X0_endOf : GoodIn wsX6_goesTo wsX0_endOf := goodIn_r _ [16, 17, 18, 5, 19, 29, 30] (by decide +kernel) (by decide +kernel)
set_option maxRecDepth 20000 in
theorem gX6_goesTo_X0_endOf : GoodIn wsX6_goesTo (wsV RX6 132 RX0 yX0_endOf wsX0_endOf) := goodIn_app (goodIn_of _ (by decide +kernel)) ggX6_goesTo_X0_endOf
theorem dX6_goesTo_0 : decode cX6_goesTo 0 = .ok (.iload_n 1, 1) := by decide +kernel
theorem dX6_goesTo_1 : decode cX6_goesTo 1 = .ok (.invokestatic 113, 3) := by decide +kernel
theorem dX6_goesTo_4 : decode cX6_goesTo 4 = .ok (.aload_n 0, 1) := by decide +kernel
theorem dX6_goesTo_5 : decode cX6_goesTo 5 = .ok (.getfield 12, 3) := by decide +kernel
theorem dX6_goesTo_8 : decode cX6_goesTo 8 = .ok (.getfield 121, 3) := by decide +kernel
theorem dX6_goesTo_11 : decode cX6_goesTo 11 = .ok (.iload_n 1, 1) := by decide +kernel
theorem dX6_goesTo_12 : decode cX6_goesTo 12 = .ok (.invokevirtual 132, 3) := by decide +kernel
theorem dX6_goesTo_15 : decode cX6_goesTo 15 = .ok (.ireturn, 1) := by decide +kernel
set_option maxRecDepth 20000 in
theorem ggX6_setting_X6_requireSetting : GoodIn wsX6_setting wsX6_requireSetting := goodIn_ca (goodIn_r _ [6, 7, 8, 9, 10, 5, 11] (by decide +kernel) (by decide +kernel)) (goodIn_sub (fun _ h => List.mem_cons_of_mem _ (List.mem_append_right _ h)) (by decide +kernel))
set_option maxRecDepth 20000 in
theorem gX6_setting_X6_requireSetting : GoodIn wsX6_setting (va_wsS RX6 138 yX6_requireSetting wsX6_requireSetting) := goodIn_app (goodIn_of _ (by decide +kernel)) ggX6_setting_X6_requireSetting
set_option maxRecDepth 20000 in
theorem ggX6_setting_X6_read : GoodIn wsX6_setting wsX6_read := goodIn_r _ [14] (by decide +kernel) (by decide +kernel)
set_option maxRecDepth 20000 in
theorem gX6_setting_X6_read : GoodIn wsX6_setting (va_wsS RX6 150 yX6_read wsX6_read) := goodIn_app (goodIn_of _ (by decide +kernel)) ggX6_setting_X6_read
theorem dX6_setting_0 : decode cX6_setting 0 = .ok (.iload_n 1, 1) := by decide +kernel
theorem dX6_setting_1 : decode cX6_setting 1 = .ok (.invokestatic 138, 3) := by decide +kernel
theorem dX6_setting_4 : decode cX6_setting 4 = .ok (.aload_n 0, 1) := by decide +kernel
theorem dX6_setting_5 : decode cX6_setting 5 = .ok (.getfield 12, 3) := by decide +kernel
theorem dX6_setting_8 : decode cX6_setting 8 = .ok (.getfield 146, 3) := by decide +kernel
theorem dX6_setting_11 : decode cX6_setting 11 = .ok (.iload_n 1, 1) := by decide +kernel
theorem dX6_setting_12 : decode cX6_setting 12 = .ok (.invokestatic 150, 3) := by decide +kernel
theorem dX6_setting_15 : decode cX6_setting 15 = .ok (.ireturn, 1) := by decide +kernel
set_option maxRecDepth 20000 in
theorem ggX6_ifBooked_X6_requireWay : GoodIn wsX6_ifBooked wsX6_requireWay := goodIn_ca (goodIn_r _ [7, 1, 2, 8, 9, 6, 10] (by decide +kernel) (by decide +kernel)) (goodIn_sub (fun _ h => List.mem_cons_of_mem _ (List.mem_append_right _ h)) (by decide +kernel))
set_option maxRecDepth 20000 in
theorem gX6_ifBooked_X6_requireWay : GoodIn wsX6_ifBooked (va_wsS RX6 30 yX6_requireWay wsX6_requireWay) := goodIn_app (goodIn_of _ (by decide +kernel)) ggX6_ifBooked_X6_requireWay
set_option maxRecDepth 20000 in
theorem ggX6_ifBooked_X6_isBelow : GoodIn wsX6_ifBooked wsX6_isBelow := goodIn_r _ [10] (by decide +kernel) (by decide +kernel)
set_option maxRecDepth 20000 in
theorem gX6_ifBooked_X6_isBelow : GoodIn wsX6_ifBooked (va_wsS RX6 80 yX6_isBelow wsX6_isBelow) := goodIn_app (goodIn_of _ (by decide +kernel)) ggX6_ifBooked_X6_isBelow
set_option maxRecDepth 20000 in
theorem ggX6_ifBooked_X5_findBerths : GoodIn wsX6_ifBooked wsX5_findBerths := goodIn_r _ [15, 16, 17, 18, 19, 20, 21, 22, 23, 24, 25, 26, 27, 28, 29, 30, 31, 32, 33, 34, 35, 36, 37, 38, 39, 40, 41, 42, 43, 44, 45, 46, 47, 48, 49, 50, 14, 51, 52, 53, 54, 55, 56, 57, 6, 58, 59, 80, 81, 82, 83, 84, 85, 86, 87, 88, 89, 90] (by decide +kernel) (by decide +kernel)
set_option maxRecDepth 20000 in
theorem gX6_ifBooked_X5_findBerths : GoodIn wsX6_ifBooked (wsV RX6 34 RX5 yX5_findBerths wsX5_findBerths) := goodIn_app (goodIn_of _ (by decide +kernel)) ggX6_ifBooked_X5_findBerths
set_option maxRecDepth 20000 in
theorem ggX6_ifBooked_X6_tell : GoodIn wsX6_ifBooked wsX6_tell := goodIn_r _ [63, 64, 65, 3, 66, 67, 68, 69, 70, 19, 71, 45, 72, 73, 74, 75, 47, 76, 36, 37, 23, 38, 34, 86, 87, 88, 77, 78, 79, 80, 81, 82, 83, 84, 85, 89, 90] (by decide +kernel) (by decide +kernel)
set_option maxRecDepth 20000 in
theorem gX6_ifBooked_X6_tell : GoodIn wsX6_ifBooked (wsV RX6 237 RX6 yX6_tell wsX6_tell) := goodIn_app (goodIn_of _ (by decide +kernel)) ggX6_ifBooked_X6_tell
theorem dX6_ifBooked_0 : decode cX6_ifBooked 0 = .ok (.iload_n 1, 1) := by decide +kernel
theorem dX6_ifBooked_1 : decode cX6_ifBooked 1 = .ok (.iload_n 2, 1) := by decide +kernel
theorem dX6_ifBooked_2 : decode cX6_ifBooked 2 = .ok (.invokestatic 30, 3) := by decide +kernel
theorem dX6_ifBooked_5 : decode cX6_ifBooked 5 = .ok (.iload 4, 2) := by decide +kernel
theorem dX6_ifBooked_7 : decode cX6_ifBooked 7 = .ok (.iconst 4, 1) := by decide +kernel
theorem dX6_ifBooked_8 : decode cX6_ifBooked 8 = .ok (.invokestatic 80, 3) := by decide +kernel
theorem dX6_ifBooked_11 : decode cX6_ifBooked 11 = .ok (.ifCond .ne 13, 3) := by decide +kernel
theorem dX6_ifBooked_14 : decode cX6_ifBooked 14 = .ok (.new 116, 3) := by decide +kernel
theorem dX6_ifBooked_17 : decode cX6_ifBooked 17 = .ok (.dup, 1) := by decide +kernel
theorem dX6_ifBooked_18 : decode cX6_ifBooked 18 = .ok (.ldc 235, 2) := by decide +kernel
theorem dX6_ifBooked_20 : decode cX6_ifBooked 20 = .ok (.invokespecial 120, 3) := by decide +kernel
theorem dX6_ifBooked_23 : decode cX6_ifBooked 23 = .ok (.athrow, 1) := by decide +kernel
theorem dX6_ifBooked_24 : decode cX6_ifBooked 24 = .ok (.aload_n 0, 1) := by decide +kernel
theorem dX6_ifBooked_25 : decode cX6_ifBooked 25 = .ok (.aload_n 0, 1) := by decide +kernel
theorem dX6_ifBooked_26 : decode cX6_ifBooked 26 = .ok (.getfield 12, 3) := by decide +kernel
theorem dX6_ifBooked_29 : decode cX6_ifBooked 29 = .ok (.iload_n 1, 1) := by decide +kernel
theorem dX6_ifBooked_30 : decode cX6_ifBooked 30 = .ok (.iload_n 2, 1) := by decide +kernel
theorem dX6_ifBooked_31 : decode cX6_ifBooked 31 = .ok (.iload_n 3, 1) := by decide +kernel
theorem dX6_ifBooked_32 : decode cX6_ifBooked 32 = .ok (.invokevirtual 34, 3) := by decide +kernel
theorem dX6_ifBooked_35 : decode cX6_ifBooked 35 = .ok (.iload_n 1, 1) := by decide +kernel
theorem dX6_ifBooked_36 : decode cX6_ifBooked 36 = .ok (.iload_n 2, 1) := by decide +kernel
theorem dX6_ifBooked_37 : decode cX6_ifBooked 37 = .ok (.iload 4, 2) := by decide +kernel
theorem dX6_ifBooked_39 : decode cX6_ifBooked 39 = .ok (.invokevirtual 237, 3) := by decide +kernel
theorem dX6_ifBooked_42 : decode cX6_ifBooked 42 = .ok (.ireturn, 1) := by decide +kernel
set_option maxRecDepth 20000 in
theorem ggX6_whyNot_X6_requireWay : GoodIn wsX6_whyNot wsX6_requireWay := goodIn_ca (goodIn_r _ [6, 7, 8, 9, 10, 5, 11] (by decide +kernel) (by decide +kernel)) (goodIn_sub (fun _ h => List.mem_cons_of_mem _ (List.mem_append_right _ h)) (by decide +kernel))
set_option maxRecDepth 20000 in
theorem gX6_whyNot_X6_requireWay : GoodIn wsX6_whyNot (va_wsS RX6 30 yX6_requireWay wsX6_requireWay) := goodIn_app (goodIn_of _ (by decide +kernel)) ggX6_whyNot_X6_requireWay
set_option maxRecDepth 20000 in
theorem ggX6_whyNot_X0_farthestOpen : GoodIn wsX6_whyNot wsX0_farthestOpen := goodIn_r _ [16, 17, 18, 19, 20, 21, 22, 23, 15, 24, 25, 26, 27, 28, 29, 30, 58, 59] (by decide +kernel) (by decide +kernel)
set_option maxRecDepth 20000 in
theorem gX6_whyNot_X0_farthestOpen : GoodIn wsX6_whyNot (wsV RX6 241 RX0 yX0_farthestOpen wsX0_farthestOpen) := goodIn_app (goodIn_of _ (by decide +kernel)) ggX6_whyNot_X0_farthestOpen
set_option maxRecDepth 20000 in
theorem ggX6_whyNot_X0_farthestEnd : GoodIn wsX6_whyNot wsX0_farthestEnd := goodIn_r _ [34, 17, 18, 19, 20, 35, 36, 37, 15, 38, 29, 39, 5, 40, 58, 59] (by decide +kernel) (by decide +kernel)
set_option maxRecDepth 20000 in
theorem gX6_whyNot_X0_farthestEnd : GoodIn wsX6_whyNot (wsV RX6 244 RX0 yX0_farthestEnd wsX0_farthestEnd) := goodIn_app (goodIn_of _ (by decide +kernel)) ggX6_whyNot_X0_farthestEnd
set_option maxRecDepth 20000 in
theorem ggX6_whyNot_X0_areAllHadOnce : GoodIn wsX6_whyNot wsX0_areAllHadOnce := goodIn_r _ [44, 45, 46, 47, 15, 48, 25, 26, 27, 28, 29, 30, 58, 59] (by decide +kernel) (by decide +kernel)
set_option maxRecDepth 20000 in
theorem gX6_whyNot_X0_areAllHadOnce : GoodIn wsX6_whyNot (wsV RX6 247 RX0 yX0_areAllHadOnce wsX0_areAllHadOnce) := goodIn_app (goodIn_of _ (by decide +kernel)) ggX6_whyNot_X0_areAllHadOnce
theorem dX6_whyNot_0 : decode cX6_whyNot 0 = .ok (.iload_n 1, 1) := by decide +kernel
theorem dX6_whyNot_1 : decode cX6_whyNot 1 = .ok (.iload_n 2, 1) := by decide +kernel
theorem dX6_whyNot_2 : decode cX6_whyNot 2 = .ok (.invokestatic 30, 3) := by decide +kernel
theorem dX6_whyNot_5 : decode cX6_whyNot 5 = .ok (.aload_n 0, 1) := by decide +kernel
theorem dX6_whyNot_6 : decode cX6_whyNot 6 = .ok (.getfield 12, 3) := by decide +kernel
theorem dX6_whyNot_9 : decode cX6_whyNot 9 = .ok (.getfield 121, 3) := by decide +kernel
theorem dX6_whyNot_12 : decode cX6_whyNot 12 = .ok (.iload_n 1, 1) := by decide +kernel
theorem dX6_whyNot_13 : decode cX6_whyNot 13 = .ok (.invokevirtual 241, 3) := by decide +kernel
theorem dX6_whyNot_16 : decode cX6_whyNot 16 = .ok (.iload_n 2, 1) := by decide +kernel
theorem dX6_whyNot_17 : decode cX6_whyNot 17 = .ok (.if_icmp .lt 5, 3) := by decide +kernel
theorem dX6_whyNot_20 : decode cX6_whyNot 20 = .ok (.iconst 0, 1) := by decide +kernel
theorem dX6_whyNot_21 : decode cX6_whyNot 21 = .ok (.ireturn, 1) := by decide +kernel
theorem dX6_whyNot_22 : decode cX6_whyNot 22 = .ok (.aload_n 0, 1) := by decide +kernel
theorem dX6_whyNot_23 : decode cX6_whyNot 23 = .ok (.getfield 12, 3) := by decide +kernel
theorem dX6_whyNot_26 : decode cX6_whyNot 26 = .ok (.getfield 121, 3) := by decide +kernel
theorem dX6_whyNot_29 : decode cX6_whyNot 29 = .ok (.invokevirtual 244, 3) := by decide +kernel
theorem dX6_whyNot_32 : decode cX6_whyNot 32 = .ok (.iload_n 2, 1) := by decide +kernel
theorem dX6_whyNot_33 : decode cX6_whyNot 33 = .ok (.if_icmp .ge 5, 3) := by decide +kernel
theorem dX6_whyNot_36 : decode cX6_whyNot 36 = .ok (.iconst 1, 1) := by decide +kernel
theorem dX6_whyNot_37 : decode cX6_whyNot 37 = .ok (.ireturn, 1) := by decide +kernel
theorem dX6_whyNot_38 : decode cX6_whyNot 38 = .ok (.aload_n 0, 1) := by decide +kernel
theorem dX6_whyNot_39 : decode cX6_whyNot 39 = .ok (.getfield 12, 3) := by decide +kernel
theorem dX6_whyNot_42 : decode cX6_whyNot 42 = .ok (.getfield 121, 3) := by decide +kernel
theorem dX6_whyNot_45 : decode cX6_whyNot 45 = .ok (.iload_n 1, 1) := by decide +kernel
theorem dX6_whyNot_46 : decode cX6_whyNot 46 = .ok (.iload_n 2, 1) := by decide +kernel
theorem dX6_whyNot_47 : decode cX6_whyNot 47 = .ok (.invokevirtual 247, 3) := by decide +kernel
theorem dX6_whyNot_50 : decode cX6_whyNot 50 = .ok (.ifCond .eq 7, 3) := by decide +kernel
theorem dX6_whyNot_53 : decode cX6_whyNot 53 = .ok (.iconst 2, 1) := by decide +kernel
theorem dX6_whyNot_54 : decode cX6_whyNot 54 = .ok (.goto 4, 3) := by decide +kernel
theorem dX6_whyNot_57 : decode cX6_whyNot 57 = .ok (.iconst 3, 1) := by decide +kernel
theorem dX6_whyNot_58 : decode cX6_whyNot 58 = .ok (.ireturn, 1) := by decide +kernel
set_option maxRecDepth 20000 in
theorem ggX6_farthest_X6_isBelow : GoodIn wsX6_farthest wsX6_isBelow := goodIn_r _ [8] (by decide +kernel) (by decide +kernel)
set_option maxRecDepth 20000 in
theorem gX6_farthest_X6_isBelow : GoodIn wsX6_farthest (va_wsS RX6 80 yX6_isBelow wsX6_isBelow) := goodIn_app (goodIn_of _ (by decide +kernel)) ggX6_farthest_X6_isBelow
set_option maxRecDepth 20000 in
theorem ggX6_farthest_X0_farthestOpen : GoodIn wsX6_farthest wsX0_farthestOpen := goodIn_r _ [13, 14, 15, 16, 17, 18, 19, 20, 12, 21, 22, 23, 24, 25, 26, 27, 37, 38] (by decide +kernel) (by decide +kernel)
set_option maxRecDepth 20000 in
theorem gX6_farthest_X0_farthestOpen : GoodIn wsX6_farthest (wsV RX6 241 RX0 yX0_farthestOpen wsX0_farthestOpen) := goodIn_app (goodIn_of _ (by decide +kernel)) ggX6_farthest_X0_farthestOpen
theorem dX6_farthest_0 : decode cX6_farthest 0 = .ok (.iload_n 1, 1) := by decide +kernel
theorem dX6_farthest_1 : decode cX6_farthest 1 = .ok (.bipush 9, 2) := by decide +kernel
theorem dX6_farthest_3 : decode cX6_farthest 3 = .ok (.invokestatic 80, 3) := by decide +kernel
theorem dX6_farthest_6 : decode cX6_farthest 6 = .ok (.ifCond .ne 13, 3) := by decide +kernel
theorem dX6_farthest_9 : decode cX6_farthest 9 = .ok (.new 116, 3) := by decide +kernel
theorem dX6_farthest_12 : decode cX6_farthest 12 = .ok (.dup, 1) := by decide +kernel
theorem dX6_farthest_13 : decode cX6_farthest 13 = .ok (.ldc 250, 2) := by decide +kernel
theorem dX6_farthest_15 : decode cX6_farthest 15 = .ok (.invokespecial 120, 3) := by decide +kernel
theorem dX6_farthest_18 : decode cX6_farthest 18 = .ok (.athrow, 1) := by decide +kernel
theorem dX6_farthest_19 : decode cX6_farthest 19 = .ok (.aload_n 0, 1) := by decide +kernel
theorem dX6_farthest_20 : decode cX6_farthest 20 = .ok (.getfield 12, 3) := by decide +kernel
theorem dX6_farthest_23 : decode cX6_farthest 23 = .ok (.getfield 121, 3) := by decide +kernel
theorem dX6_farthest_26 : decode cX6_farthest 26 = .ok (.iload_n 1, 1) := by decide +kernel
theorem dX6_farthest_27 : decode cX6_farthest 27 = .ok (.invokevirtual 241, 3) := by decide +kernel
theorem dX6_farthest_30 : decode cX6_farthest 30 = .ok (.ireturn, 1) := by decide +kernel
set_option maxRecDepth 20000 in
theorem ggX6_fullness_X0_allHad : GoodIn wsX6_fullness wsX0_allHad := goodIn_r _ [7, 8, 31, 32] (by decide +kernel) (by decide +kernel)
set_option maxRecDepth 20000 in
theorem gX6_fullness_X0_allHad : GoodIn wsX6_fullness (wsV RX6 217 RX0 yX0_allHad wsX0_allHad) := goodIn_app (goodIn_of _ (by decide +kernel)) ggX6_fullness_X0_allHad
set_option maxRecDepth 20000 in
theorem ggX6_fullness_X0_allOpen : GoodIn wsX6_fullness wsX0_allOpen := goodIn_r _ [12, 13, 14, 15, 6, 16, 17, 18, 19, 20, 21, 8, 31, 32] (by decide +kernel) (by decide +kernel)
set_option maxRecDepth 20000 in
theorem gX6_fullness_X0_allOpen : GoodIn wsX6_fullness (wsV RX6 252 RX0 yX0_allOpen wsX0_allOpen) := goodIn_app (goodIn_of _ (by decide +kernel)) ggX6_fullness_X0_allOpen
theorem dX6_fullness_0 : decode cX6_fullness 0 = .ok (.aload_n 0, 1) := by decide +kernel
theorem dX6_fullness_1 : decode cX6_fullness 1 = .ok (.getfield 12, 3) := by decide +kernel
theorem dX6_fullness_4 : decode cX6_fullness 4 = .ok (.getfield 121, 3) := by decide +kernel
theorem dX6_fullness_7 : decode cX6_fullness 7 = .ok (.invokevirtual 217, 3) := by decide +kernel
theorem dX6_fullness_10 : decode cX6_fullness 10 = .ok (.istore_n 1, 1) := by decide +kernel
theorem dX6_fullness_11 : decode cX6_fullness 11 = .ok (.iload_n 1, 1) := by decide +kernel
theorem dX6_fullness_12 : decode cX6_fullness 12 = .ok (.aload_n 0, 1) := by decide +kernel
theorem dX6_fullness_13 : decode cX6_fullness 13 = .ok (.getfield 12, 3) := by decide +kernel
theorem dX6_fullness_16 : decode cX6_fullness 16 = .ok (.getfield 121, 3) := by decide +kernel
theorem dX6_fullness_19 : decode cX6_fullness 19 = .ok (.invokevirtual 252, 3) := by decide +kernel
theorem dX6_fullness_22 : decode cX6_fullness 22 = .ok (.iadd, 1) := by decide +kernel
theorem dX6_fullness_23 : decode cX6_fullness 23 = .ok (.istore_n 2, 1) := by decide +kernel
theorem dX6_fullness_24 : decode cX6_fullness 24 = .ok (.iload_n 2, 1) := by decide +kernel
theorem dX6_fullness_25 : decode cX6_fullness 25 = .ok (.ifCond .ne 7, 3) := by decide +kernel
theorem dX6_fullness_28 : decode cX6_fullness 28 = .ok (.dconst 0, 1) := by decide +kernel
theorem dX6_fullness_29 : decode cX6_fullness 29 = .ok (.goto 8, 3) := by decide +kernel
theorem dX6_fullness_32 : decode cX6_fullness 32 = .ok (.iload_n 1, 1) := by decide +kernel
theorem dX6_fullness_33 : decode cX6_fullness 33 = .ok (.i2d, 1) := by decide +kernel
theorem dX6_fullness_34 : decode cX6_fullness 34 = .ok (.iload_n 2, 1) := by decide +kernel
theorem dX6_fullness_35 : decode cX6_fullness 35 = .ok (.i2d, 1) := by decide +kernel
theorem dX6_fullness_36 : decode cX6_fullness 36 = .ok (.ddiv, 1) := by decide +kernel
theorem dX6_fullness_37 : decode cX6_fullness 37 = .ok (.dreturn, 1) := by decide +kernel
set_option maxRecDepth 20000 in
theorem ggX6_digest_X6_count : GoodIn wsX6_digest wsX6_count := goodIn_ca (goodIn_r _ [8, 9, 10, 2, 11, 12, 13, 14, 15, 16, 17, 18, 19, 20, 21, 22, 23, 24, 25, 26, 27, 28, 29, 30, 31, 32, 33, 34, 35, 36, 37, 38, 39, 40, 41, 42, 43, 44, 45, 46, 47, 48, 49, 50, 51, 52, 53, 54, 55, 56, 57, 58, 59, 60, 7, 61, 62, 63, 64, 65, 66, 67, 68, 69, 70, 221, 222, 223, 224, 225, 226, 227, 228, 229, 230, 231, 232, 233, 234, 235, 236] (by decide +kernel) (by decide +kernel)) (goodIn_sub (fun _ h => List.mem_cons_of_mem _ (List.mem_append_left _ (List.mem_append_right _ h))) (by decide +kernel))
set_option maxRecDepth 20000 in
theorem gX6_digest_X6_count : GoodIn wsX6_digest (wsV RX6 257 RX6 yX6_count wsX6_count) := goodIn_app (goodIn_of _ (by decide +kernel)) ggX6_digest_X6_count
set_option maxRecDepth 20000 in
theorem ggX6_digest_X6_mix : GoodIn wsX6_digest wsX6_mix := goodIn_r _ [73, 74] (by decide +kernel) (by decide +kernel)
set_option maxRecDepth 20000 in
theorem gX6_digest_X6_mix : GoodIn wsX6_digest (va_wsS RX6 260 yX6_mix wsX6_mix) := goodIn_app (goodIn_of _ (by decide +kernel)) ggX6_digest_X6_mix
set_option maxRecDepth 20000 in
theorem ggX6_digest_X6_read : GoodIn wsX6_digest wsX6_read := goodIn_r _ [61] (by decide +kernel) (by decide +kernel)
set_option maxRecDepth 20000 in
theorem gX6_digest_X6_read : GoodIn wsX6_digest (va_wsS RX6 150 yX6_read wsX6_read) := goodIn_app (goodIn_of _ (by decide +kernel)) ggX6_digest_X6_read
set_option maxRecDepth 20000 in
theorem ggX6_digest_X6_mixCoaches : GoodIn wsX6_digest wsX6_mixCoaches := goodIn_r _ [79, 2, 13, 80, 81, 82, 48, 83, 84, 60, 7, 61, 71, 72, 73, 74, 85, 86, 87, 88, 50, 221, 222, 223, 224, 225, 226, 227, 228, 229, 235, 236] (by decide +kernel) (by decide +kernel)
set_option maxRecDepth 20000 in
theorem gX6_digest_X6_mixCoaches : GoodIn wsX6_digest (wsV RX6 264 RX6 yX6_mixCoaches wsX6_mixCoaches) := goodIn_app (goodIn_of _ (by decide +kernel)) ggX6_digest_X6_mixCoaches
set_option maxRecDepth 20000 in
theorem ggX6_digest_X6_mixPassengers : GoodIn wsX6_digest wsX6_mixPassengers := goodIn_r _ [92, 2, 11, 12, 93, 26, 27, 21, 28, 23, 29, 30, 31, 32, 33, 34, 35, 36, 37, 38, 39, 40, 41, 42, 43, 44, 45, 46, 47, 48, 49, 50, 51, 52, 53, 54, 55, 56, 57, 58, 59, 60, 7, 61, 71, 72, 73, 74, 221, 222, 223, 224, 225, 226, 227, 228, 229, 230, 231, 235, 236] (by decide +kernel) (by decide +kernel)
set_option maxRecDepth 20000 in
theorem gX6_digest_X6_mixPassengers : GoodIn wsX6_digest (wsV RX6 268 RX6 yX6_mixPassengers wsX6_mixPassengers) := goodIn_app (goodIn_of _ (by decide +kernel)) ggX6_digest_X6_mixPassengers
set_option maxRecDepth 20000 in
theorem ggX6_digest_X6_mixWays : GoodIn wsX6_digest wsX6_mixWays := goodIn_ca (goodIn_ca (goodIn_r _ [97, 2, 98, 99, 100, 7, 101, 102, 103, 9, 10, 13, 104, 105, 106, 107, 108, 109, 48, 110, 111, 112, 113, 114, 84, 50, 115, 116, 117, 118, 71, 72, 73, 74, 119, 120, 121, 122, 123, 124, 125, 126, 127, 57, 58, 59, 128, 129, 130, 131, 132, 133, 134, 135, 136, 137, 138, 139, 140, 141, 142, 143, 81, 82, 83, 60, 61, 144, 145, 146, 147, 148, 149, 150, 151, 21, 152, 33, 153, 154, 155, 156, 157, 158, 159, 160, 46, 47, 49, 161, 162, 163, 164, 165, 166, 167, 168, 169, 170, 171, 172, 173, 174, 175, 176, 177, 55, 45, 178, 179, 180, 181, 182, 183, 184, 185, 186, 187, 188, 189, 190, 191, 192, 193, 221, 222, 223, 224, 225, 226, 227, 228, 229, 235, 236, 237, 238, 239] (by decide +kernel) (by decide +kernel)) (goodIn_sub (fun _ h => List.mem_cons_of_mem _ (List.mem_append_right _ h)) (by decide +kernel))) (goodIn_sub (fun _ h => List.mem_cons_of_mem _ (List.mem_append_left _ (List.mem_append_right _ h))) (by decide +kernel))
set_option maxRecDepth 20000 in
theorem gX6_digest_X6_mixWays : GoodIn wsX6_digest (wsV RX6 271 RX6 yX6_mixWays wsX6_mixWays) := goodIn_app (goodIn_of _ (by decide +kernel)) ggX6_digest_X6_mixWays
set_option maxRecDepth 20000 in
theorem ggX6_digest_X6_fullness : GoodIn wsX6_digest wsX6_fullness := goodIn_r _ [197, 2, 13, 67, 68, 69, 48, 70, 50, 198, 199, 200, 201, 148, 108, 109, 110, 111, 112, 113, 114, 84, 221, 222, 223, 224, 225, 226, 227, 228, 229, 235, 236] (by decide +kernel) (by decide +kernel)
set_option maxRecDepth 20000 in
theorem gX6_digest_X6_fullness : GoodIn wsX6_digest (wsV RX6 274 RX6 yX6_fullness wsX6_fullness) := goodIn_app (goodIn_of _ (by decide +kernel)) ggX6_digest_X6_fullness
set_option maxRecDepth 20000 in
theorem ggX6_digest_X6_bitsOf : GoodIn wsX6_digest wsX6_bitsOf := goodIn_r _ [204, 205, 206, 207] (by decide +kernel) (by decide +kernel)
set_option maxRecDepth 20000 in
theorem gX6_digest_X6_bitsOf : GoodIn wsX6_digest (va_wsS RX6 278 yX6_bitsOf wsX6_bitsOf) := goodIn_app (goodIn_of _ (by decide +kernel)) ggX6_digest_X6_bitsOf
set_option maxRecDepth 20000 in
theorem ggX6_digest_X6_mixText : GoodIn wsX6_digest wsX6_mixText := goodIn_r _ [211, 212, 213, 71, 72, 7, 73, 74, 214, 215, 216, 217, 218, 219, 220, 60, 61, 221, 222, 223, 240, 241] (by decide +kernel) (by decide +kernel)
set_option maxRecDepth 20000 in
theorem gX6_digest_X6_mixText : GoodIn wsX6_digest (wsV RX6 282 RX6 yX6_mixText wsX6_mixText) := goodIn_app (goodIn_of _ (by decide +kernel)) ggX6_digest_X6_mixText
theorem dX6_digest_0 : decode cX6_digest 0 = .ok (.ldc2_w 255, 3) := by decide +kernel
theorem dX6_digest_3 : decode cX6_digest 3 = .ok (.lstore_n 1, 1) := by decide +kernel
theorem dX6_digest_4 : decode cX6_digest 4 = .ok (.iconst 0, 1) := by decide +kernel
theorem dX6_digest_5 : decode cX6_digest 5 = .ok (.istore_n 3, 1) := by decide +kernel
theorem dX6_digest_6 : decode cX6_digest 6 = .ok (.iload_n 3, 1) := by decide +kernel
theorem dX6_digest_7 : decode cX6_digest 7 = .ok (.bipush 9, 2) := by decide +kernel
theorem dX6_digest_9 : decode cX6_digest 9 = .ok (.if_icmp .ge 20, 3) := by decide +kernel
theorem dX6_digest_12 : decode cX6_digest 12 = .ok (.lload_n 1, 1) := by decide +kernel
theorem dX6_digest_13 : decode cX6_digest 13 = .ok (.aload_n 0, 1) := by decide +kernel
theorem dX6_digest_14 : decode cX6_digest 14 = .ok (.iload_n 3, 1) := by decide +kernel
theorem dX6_digest_15 : decode cX6_digest 15 = .ok (.invokevirtual 257, 3) := by decide +kernel
theorem dX6_digest_18 : decode cX6_digest 18 = .ok (.i2l, 1) := by decide +kernel
theorem dX6_digest_19 : decode cX6_digest 19 = .ok (.invokestatic 260, 3) := by decide +kernel
theorem dX6_digest_22 : decode cX6_digest 22 = .ok (.lstore_n 1, 1) := by decide +kernel
theorem dX6_digest_23 : decode cX6_digest 23 = .ok (.iinc 3 1, 3) := by decide +kernel
theorem dX6_digest_26 : decode cX6_digest 26 = .ok (.goto (-20), 3) := by decide +kernel
theorem dX6_digest_29 : decode cX6_digest 29 = .ok (.iconst 0, 1) := by decide +kernel
theorem dX6_digest_30 : decode cX6_digest 30 = .ok (.istore_n 3, 1) := by decide +kernel
theorem dX6_digest_31 : decode cX6_digest 31 = .ok (.iload_n 3, 1) := by decide +kernel
theorem dX6_digest_32 : decode cX6_digest 32 = .ok (.iconst 3, 1) := by decide +kernel
theorem dX6_digest_33 : decode cX6_digest 33 = .ok (.if_icmp .ge 26, 3) := by decide +kernel
theorem dX6_digest_36 : decode cX6_digest 36 = .ok (.lload_n 1, 1) := by decide +kernel
theorem dX6_digest_37 : decode cX6_digest 37 = .ok (.aload_n 0, 1) := by decide +kernel
theorem dX6_digest_38 : decode cX6_digest 38 = .ok (.getfield 12, 3) := by decide +kernel
theorem dX6_digest_41 : decode cX6_digest 41 = .ok (.getfield 146, 3) := by decide +kernel
theorem dX6_digest_44 : decode cX6_digest 44 = .ok (.iload_n 3, 1) := by decide +kernel
theorem dX6_digest_45 : decode cX6_digest 45 = .ok (.invokestatic 150, 3) := by decide +kernel
theorem dX6_digest_48 : decode cX6_digest 48 = .ok (.i2l, 1) := by decide +kernel
theorem dX6_digest_49 : decode cX6_digest 49 = .ok (.invokestatic 260, 3) := by decide +kernel
theorem dX6_digest_52 : decode cX6_digest 52 = .ok (.lstore_n 1, 1) := by decide +kernel
theorem dX6_digest_53 : decode cX6_digest 53 = .ok (.iinc 3 1, 3) := by decide +kernel
theorem dX6_digest_56 : decode cX6_digest 56 = .ok (.goto (-25), 3) := by decide +kernel
theorem dX6_digest_59 : decode cX6_digest 59 = .ok (.aload_n 0, 1) := by decide +kernel
theorem dX6_digest_60 : decode cX6_digest 60 = .ok (.lload_n 1, 1) := by decide +kernel
theorem dX6_digest_61 : decode cX6_digest 61 = .ok (.invokevirtual 264, 3) := by decide +kernel
theorem dX6_digest_64 : decode cX6_digest 64 = .ok (.lstore_n 1, 1) := by decide +kernel
theorem dX6_digest_65 : decode cX6_digest 65 = .ok (.aload_n 0, 1) := by decide +kernel
theorem dX6_digest_66 : decode cX6_digest 66 = .ok (.lload_n 1, 1) := by decide +kernel
theorem dX6_digest_67 : decode cX6_digest 67 = .ok (.invokevirtual 268, 3) := by decide +kernel
theorem dX6_digest_70 : decode cX6_digest 70 = .ok (.lstore_n 1, 1) := by decide +kernel
theorem dX6_digest_71 : decode cX6_digest 71 = .ok (.aload_n 0, 1) := by decide +kernel
theorem dX6_digest_72 : decode cX6_digest 72 = .ok (.lload_n 1, 1) := by decide +kernel
theorem dX6_digest_73 : decode cX6_digest 73 = .ok (.invokevirtual 271, 3) := by decide +kernel
theorem dX6_digest_76 : decode cX6_digest 76 = .ok (.lstore_n 1, 1) := by decide +kernel
theorem dX6_digest_77 : decode cX6_digest 77 = .ok (.lload_n 1, 1) := by decide +kernel
theorem dX6_digest_78 : decode cX6_digest 78 = .ok (.aload_n 0, 1) := by decide +kernel
theorem dX6_digest_79 : decode cX6_digest 79 = .ok (.invokevirtual 274, 3) := by decide +kernel
theorem dX6_digest_82 : decode cX6_digest 82 = .ok (.invokestatic 278, 3) := by decide +kernel
theorem dX6_digest_85 : decode cX6_digest 85 = .ok (.invokestatic 260, 3) := by decide +kernel
theorem dX6_digest_88 : decode cX6_digest 88 = .ok (.lstore_n 1, 1) := by decide +kernel
theorem dX6_digest_89 : decode cX6_digest 89 = .ok (.aload_n 0, 1) := by decide +kernel
theorem dX6_digest_90 : decode cX6_digest 90 = .ok (.lload_n 1, 1) := by decide +kernel
theorem dX6_digest_91 : decode cX6_digest 91 = .ok (.invokevirtual 282, 3) := by decide +kernel
theorem dX6_digest_94 : decode cX6_digest 94 = .ok (.lreturn, 1) := by decide +kernel
set_option maxRecDepth 20000 in
theorem ggX6_tell_X2_isRefused : GoodIn wsX6_tell wsX2_isRefused := goodIn_r _ [10, 11, 23, 24, 25] (by decide +kernel) (by decide +kernel)
set_option maxRecDepth 20000 in
theorem gX6_tell_X2_isRefused : GoodIn wsX6_tell (wsV RX6 48 RX2 yX2_isRefused wsX2_isRefused) := goodIn_app (goodIn_of _ (by decide +kernel)) ggX6_tell_X2_isRefused
set_option maxRecDepth 20000 in
theorem ggX6_tell_X2_middle : GoodIn wsX6_tell wsX2_middle := goodIn_r _ [15, 16, 23, 24, 25] (by decide +kernel) (by decide +kernel)
set_option maxRecDepth 20000 in
theorem gX6_tell_X2_middle : GoodIn wsX6_tell (wsV RX6 291 RX2 yX2_middle wsX2_middle) := goodIn_app (goodIn_of _ (by decide +kernel)) ggX6_tell_X2_middle
set_option maxRecDepth 20000 in
theorem ggX6_tell_X0_wokenIn : GoodIn wsX6_tell wsX0_wokenIn := goodIn_r _ [21, 22, 35, 36] (by decide +kernel) (by decide +kernel)
set_option maxRecDepth 20000 in
theorem gX6_tell_X0_wokenIn : GoodIn wsX6_tell (wsV RX6 294 RX0 yX0_wokenIn wsX0_wokenIn) := goodIn_app (goodIn_of _ (by decide +kernel)) ggX6_tell_X0_wokenIn
theorem dX6_tell_0 : decode cX6_tell 0 = .ok (.aload_n 1, 1) := by decide +kernel
theorem dX6_tell_1 : decode cX6_tell 1 = .ok (.invokevirtual 48, 3) := by decide +kernel
theorem dX6_tell_4 : decode cX6_tell 4 = .ok (.ifCond .eq 14, 3) := by decide +kernel
theorem dX6_tell_7 : decode cX6_tell 7 = .ok (.iload 4, 2) := by decide +kernel
theorem dX6_tell_9 : decode cX6_tell 9 = .ok (.ifCond .ne 7, 3) := by decide +kernel
theorem dX6_tell_12 : decode cX6_tell 12 = .ok (.iconst 0, 1) := by decide +kernel
theorem dX6_tell_13 : decode cX6_tell 13 = .ok (.goto 4, 3) := by decide +kernel
theorem dX6_tell_16 : decode cX6_tell 16 = .ok (.iconst (-1), 1) := by decide +kernel
theorem dX6_tell_17 : decode cX6_tell 17 = .ok (.ireturn, 1) := by decide +kernel
theorem dX6_tell_18 : decode cX6_tell 18 = .ok (.iload 4, 2) := by decide +kernel
theorem dX6_tell_20 : decode cX6_tell 20 = .ok (.tableswitch 52 0 2 #[28, 42, 47], 28) := by decide +kernel
theorem dX6_tell_48 : decode cX6_tell 48 = .ok (.aload_n 1, 1) := by decide +kernel
theorem dX6_tell_49 : decode cX6_tell 49 = .ok (.getfield 285, 3) := by decide +kernel
theorem dX6_tell_52 : decode cX6_tell 52 = .ok (.iconst (-1), 1) := by decide +kernel
theorem dX6_tell_53 : decode cX6_tell 53 = .ok (.if_icmp .ne 7, 3) := by decide +kernel
theorem dX6_tell_56 : decode cX6_tell 56 = .ok (.iconst 1, 1) := by decide +kernel
theorem dX6_tell_57 : decode cX6_tell 57 = .ok (.goto 4, 3) := by decide +kernel
theorem dX6_tell_60 : decode cX6_tell 60 = .ok (.iconst 2, 1) := by decide +kernel
theorem dX6_tell_61 : decode cX6_tell 61 = .ok (.ireturn, 1) := by decide +kernel
theorem dX6_tell_62 : decode cX6_tell 62 = .ok (.aload_n 1, 1) := by decide +kernel
theorem dX6_tell_63 : decode cX6_tell 63 = .ok (.getfield 288, 3) := by decide +kernel
theorem dX6_tell_66 : decode cX6_tell 66 = .ok (.ireturn, 1) := by decide +kernel
theorem dX6_tell_67 : decode cX6_tell 67 = .ok (.aload_n 1, 1) := by decide +kernel
theorem dX6_tell_68 : decode cX6_tell 68 = .ok (.getfield 285, 3) := by decide +kernel
theorem dX6_tell_71 : decode cX6_tell 71 = .ok (.ireturn, 1) := by decide +kernel
theorem dX6_tell_72 : decode cX6_tell 72 = .ok (.aload_n 0, 1) := by decide +kernel
theorem dX6_tell_73 : decode cX6_tell 73 = .ok (.getfield 12, 3) := by decide +kernel
theorem dX6_tell_76 : decode cX6_tell 76 = .ok (.getfield 121, 3) := by decide +kernel
theorem dX6_tell_79 : decode cX6_tell 79 = .ok (.aload_n 1, 1) := by decide +kernel
theorem dX6_tell_80 : decode cX6_tell 80 = .ok (.getfield 288, 3) := by decide +kernel
theorem dX6_tell_83 : decode cX6_tell 83 = .ok (.iload_n 2, 1) := by decide +kernel
theorem dX6_tell_84 : decode cX6_tell 84 = .ok (.aload_n 1, 1) := by decide +kernel
theorem dX6_tell_85 : decode cX6_tell 85 = .ok (.iload_n 3, 1) := by decide +kernel
theorem dX6_tell_86 : decode cX6_tell 86 = .ok (.invokevirtual 291, 3) := by decide +kernel
theorem dX6_tell_89 : decode cX6_tell 89 = .ok (.invokevirtual 294, 3) := by decide +kernel
theorem dX6_tell_92 : decode cX6_tell 92 = .ok (.aload_n 0, 1) := by decide +kernel
theorem dX6_tell_93 : decode cX6_tell 93 = .ok (.getfield 12, 3) := by decide +kernel
theorem dX6_tell_96 : decode cX6_tell 96 = .ok (.getfield 121, 3) := by decide +kernel
theorem dX6_tell_99 : decode cX6_tell 99 = .ok (.aload_n 1, 1) := by decide +kernel
theorem dX6_tell_100 : decode cX6_tell 100 = .ok (.getfield 298, 3) := by decide +kernel
theorem dX6_tell_103 : decode cX6_tell 103 = .ok (.aload_n 1, 1) := by decide +kernel
theorem dX6_tell_104 : decode cX6_tell 104 = .ok (.iload_n 3, 1) := by decide +kernel
theorem dX6_tell_105 : decode cX6_tell 105 = .ok (.invokevirtual 291, 3) := by decide +kernel
theorem dX6_tell_108 : decode cX6_tell 108 = .ok (.iload_n 3, 1) := by decide +kernel
theorem dX6_tell_109 : decode cX6_tell 109 = .ok (.invokevirtual 294, 3) := by decide +kernel
theorem dX6_tell_112 : decode cX6_tell 112 = .ok (.iadd, 1) := by decide +kernel
theorem dX6_tell_113 : decode cX6_tell 113 = .ok (.ireturn, 1) := by decide +kernel
set_option maxRecDepth 20000 in
theorem ggX6_mixCoaches_X0_endOf : GoodIn wsX6_mixCoaches wsX0_endOf := goodIn_r _ [7, 8, 9, 10, 11, 30, 31] (by decide +kernel) (by decide +kernel)
set_option maxRecDepth 20000 in
theorem gX6_mixCoaches_X0_endOf : GoodIn wsX6_mixCoaches (wsV RX6 132 RX0 yX0_endOf wsX0_endOf) := goodIn_app (goodIn_of _ (by decide +kernel)) ggX6_mixCoaches_X0_endOf
set_option maxRecDepth 20000 in
theorem ggX6_mixCoaches_X6_mix : GoodIn wsX6_mixCoaches wsX6_mix := goodIn_r _ [14, 15] (by decide +kernel) (by decide +kernel)
set_option maxRecDepth 20000 in
theorem gX6_mixCoaches_X6_mix : GoodIn wsX6_mixCoaches (va_wsS RX6 260 yX6_mix wsX6_mix) := goodIn_app (goodIn_of _ (by decide +kernel)) ggX6_mixCoaches_X6_mix
set_option maxRecDepth 20000 in
theorem ggX6_mixCoaches_X0_holderOn : GoodIn wsX6_mixCoaches wsX0_holderOn := goodIn_r _ [19, 20, 9, 10, 11, 30, 31] (by decide +kernel) (by decide +kernel)
set_option maxRecDepth 20000 in
theorem gX6_mixCoaches_X0_holderOn : GoodIn wsX6_mixCoaches (wsV RX6 205 RX0 yX0_holderOn wsX0_holderOn) := goodIn_app (goodIn_of _ (by decide +kernel)) ggX6_mixCoaches_X0_holderOn
theorem dX6_mixCoaches_0 : decode cX6_mixCoaches 0 = .ok (.lload_n 1, 1) := by decide +kernel
theorem dX6_mixCoaches_1 : decode cX6_mixCoaches 1 = .ok (.lstore_n 3, 1) := by decide +kernel
theorem dX6_mixCoaches_2 : decode cX6_mixCoaches 2 = .ok (.iconst 0, 1) := by decide +kernel
theorem dX6_mixCoaches_3 : decode cX6_mixCoaches 3 = .ok (.istore 5, 2) := by decide +kernel
theorem dX6_mixCoaches_5 : decode cX6_mixCoaches 5 = .ok (.iload 5, 2) := by decide +kernel
theorem dX6_mixCoaches_7 : decode cX6_mixCoaches 7 = .ok (.iconst 3, 1) := by decide +kernel
theorem dX6_mixCoaches_8 : decode cX6_mixCoaches 8 = .ok (.if_icmp .ge 27, 3) := by decide +kernel
theorem dX6_mixCoaches_11 : decode cX6_mixCoaches 11 = .ok (.lload_n 3, 1) := by decide +kernel
theorem dX6_mixCoaches_12 : decode cX6_mixCoaches 12 = .ok (.aload_n 0, 1) := by decide +kernel
theorem dX6_mixCoaches_13 : decode cX6_mixCoaches 13 = .ok (.getfield 12, 3) := by decide +kernel
theorem dX6_mixCoaches_16 : decode cX6_mixCoaches 16 = .ok (.getfield 121, 3) := by decide +kernel
theorem dX6_mixCoaches_19 : decode cX6_mixCoaches 19 = .ok (.iload 5, 2) := by decide +kernel
theorem dX6_mixCoaches_21 : decode cX6_mixCoaches 21 = .ok (.invokevirtual 132, 3) := by decide +kernel
theorem dX6_mixCoaches_24 : decode cX6_mixCoaches 24 = .ok (.i2l, 1) := by decide +kernel
theorem dX6_mixCoaches_25 : decode cX6_mixCoaches 25 = .ok (.invokestatic 260, 3) := by decide +kernel
theorem dX6_mixCoaches_28 : decode cX6_mixCoaches 28 = .ok (.lstore_n 3, 1) := by decide +kernel
theorem dX6_mixCoaches_29 : decode cX6_mixCoaches 29 = .ok (.iinc 5 1, 3) := by decide +kernel
theorem dX6_mixCoaches_32 : decode cX6_mixCoaches 32 = .ok (.goto (-27), 3) := by decide +kernel
theorem dX6_mixCoaches_35 : decode cX6_mixCoaches 35 = .ok (.iconst 0, 1) := by decide +kernel
theorem dX6_mixCoaches_36 : decode cX6_mixCoaches 36 = .ok (.istore 5, 2) := by decide +kernel
theorem dX6_mixCoaches_38 : decode cX6_mixCoaches 38 = .ok (.iload 5, 2) := by decide +kernel
theorem dX6_mixCoaches_40 : decode cX6_mixCoaches 40 = .ok (.bipush 18, 2) := by decide +kernel
theorem dX6_mixCoaches_42 : decode cX6_mixCoaches 42 = .ok (.if_icmp .ge 45, 3) := by decide +kernel
theorem dX6_mixCoaches_45 : decode cX6_mixCoaches 45 = .ok (.iconst 0, 1) := by decide +kernel
theorem dX6_mixCoaches_46 : decode cX6_mixCoaches 46 = .ok (.istore 6, 2) := by decide +kernel
theorem dX6_mixCoaches_48 : decode cX6_mixCoaches 48 = .ok (.iload 6, 2) := by decide +kernel
theorem dX6_mixCoaches_50 : decode cX6_mixCoaches 50 = .ok (.bipush 9, 2) := by decide +kernel
theorem dX6_mixCoaches_52 : decode cX6_mixCoaches 52 = .ok (.if_icmp .ge 29, 3) := by decide +kernel
theorem dX6_mixCoaches_55 : decode cX6_mixCoaches 55 = .ok (.lload_n 3, 1) := by decide +kernel
theorem dX6_mixCoaches_56 : decode cX6_mixCoaches 56 = .ok (.aload_n 0, 1) := by decide +kernel
theorem dX6_mixCoaches_57 : decode cX6_mixCoaches 57 = .ok (.getfield 12, 3) := by decide +kernel
theorem dX6_mixCoaches_60 : decode cX6_mixCoaches 60 = .ok (.getfield 121, 3) := by decide +kernel
theorem dX6_mixCoaches_63 : decode cX6_mixCoaches 63 = .ok (.iload 5, 2) := by decide +kernel
theorem dX6_mixCoaches_65 : decode cX6_mixCoaches 65 = .ok (.iload 6, 2) := by decide +kernel
theorem dX6_mixCoaches_67 : decode cX6_mixCoaches 67 = .ok (.invokevirtual 205, 3) := by decide +kernel
theorem dX6_mixCoaches_70 : decode cX6_mixCoaches 70 = .ok (.i2l, 1) := by decide +kernel
theorem dX6_mixCoaches_71 : decode cX6_mixCoaches 71 = .ok (.invokestatic 260, 3) := by decide +kernel
theorem dX6_mixCoaches_74 : decode cX6_mixCoaches 74 = .ok (.lstore_n 3, 1) := by decide +kernel
theorem dX6_mixCoaches_75 : decode cX6_mixCoaches 75 = .ok (.iinc 6 1, 3) := by decide +kernel
theorem dX6_mixCoaches_78 : decode cX6_mixCoaches 78 = .ok (.goto (-30), 3) := by decide +kernel
theorem dX6_mixCoaches_81 : decode cX6_mixCoaches 81 = .ok (.iinc 5 1, 3) := by decide +kernel
theorem dX6_mixCoaches_84 : decode cX6_mixCoaches 84 = .ok (.goto (-46), 3) := by decide +kernel
theorem dX6_mixCoaches_87 : decode cX6_mixCoaches 87 = .ok (.lload_n 3, 1) := by decide +kernel
theorem dX6_mixCoaches_88 : decode cX6_mixCoaches 88 = .ok (.lreturn, 1) := by decide +kernel
set_option maxRecDepth 20000 in
theorem ggX6_mixPassengers_X5_property : GoodIn wsX6_mixPassengers wsX5_property := goodIn_r _ [8, 9, 10, 11, 12, 7, 13, 14, 15, 16, 17, 18, 19, 20, 21, 22, 23, 24, 25, 26, 27, 28, 29, 30, 31, 32, 33, 34, 35, 36, 37, 38, 39, 40, 41, 42, 43, 51, 52, 53, 54, 55, 56, 57, 58, 59, 60] (by decide +kernel) (by decide +kernel)
set_option maxRecDepth 20000 in
theorem gX6_mixPassengers_X5_property : GoodIn wsX6_mixPassengers (wsV RX6 72 RX5 yX5_property wsX5_property) := goodIn_app (goodIn_of _ (by decide +kernel)) ggX6_mixPassengers_X5_property
set_option maxRecDepth 20000 in
theorem ggX6_mixPassengers_X6_mix : GoodIn wsX6_mixPassengers wsX6_mix := goodIn_r _ [46, 47] (by decide +kernel) (by decide +kernel)
set_option maxRecDepth 20000 in
theorem gX6_mixPassengers_X6_mix : GoodIn wsX6_mixPassengers (va_wsS RX6 260 yX6_mix wsX6_mix) := goodIn_app (goodIn_of _ (by decide +kernel)) ggX6_mixPassengers_X6_mix
theorem dX6_mixPassengers_0 : decode cX6_mixPassengers 0 = .ok (.lload_n 1, 1) := by decide +kernel
theorem dX6_mixPassengers_1 : decode cX6_mixPassengers 1 = .ok (.lstore_n 3, 1) := by decide +kernel
theorem dX6_mixPassengers_2 : decode cX6_mixPassengers 2 = .ok (.iconst 0, 1) := by decide +kernel
theorem dX6_mixPassengers_3 : decode cX6_mixPassengers 3 = .ok (.istore 5, 2) := by decide +kernel
theorem dX6_mixPassengers_5 : decode cX6_mixPassengers 5 = .ok (.iload 5, 2) := by decide +kernel
theorem dX6_mixPassengers_7 : decode cX6_mixPassengers 7 = .ok (.aload_n 0, 1) := by decide +kernel
theorem dX6_mixPassengers_8 : decode cX6_mixPassengers 8 = .ok (.getfield 12, 3) := by decide +kernel
theorem dX6_mixPassengers_11 : decode cX6_mixPassengers 11 = .ok (.getfield 38, 3) := by decide +kernel
theorem dX6_mixPassengers_14 : decode cX6_mixPassengers 14 = .ok (.getfield 210, 3) := by decide +kernel
theorem dX6_mixPassengers_17 : decode cX6_mixPassengers 17 = .ok (.if_icmp .ge 42, 3) := by decide +kernel
theorem dX6_mixPassengers_20 : decode cX6_mixPassengers 20 = .ok (.iconst 0, 1) := by decide +kernel
theorem dX6_mixPassengers_21 : decode cX6_mixPassengers 21 = .ok (.istore 6, 2) := by decide +kernel
theorem dX6_mixPassengers_23 : decode cX6_mixPassengers 23 = .ok (.iload 6, 2) := by decide +kernel
theorem dX6_mixPassengers_25 : decode cX6_mixPassengers 25 = .ok (.bipush 9, 2) := by decide +kernel
theorem dX6_mixPassengers_27 : decode cX6_mixPassengers 27 = .ok (.if_icmp .ge 26, 3) := by decide +kernel
theorem dX6_mixPassengers_30 : decode cX6_mixPassengers 30 = .ok (.lload_n 3, 1) := by decide +kernel
theorem dX6_mixPassengers_31 : decode cX6_mixPassengers 31 = .ok (.aload_n 0, 1) := by decide +kernel
theorem dX6_mixPassengers_32 : decode cX6_mixPassengers 32 = .ok (.getfield 12, 3) := by decide +kernel
theorem dX6_mixPassengers_35 : decode cX6_mixPassengers 35 = .ok (.iload 5, 2) := by decide +kernel
theorem dX6_mixPassengers_37 : decode cX6_mixPassengers 37 = .ok (.iload 6, 2) := by decide +kernel
theorem dX6_mixPassengers_39 : decode cX6_mixPassengers 39 = .ok (.invokevirtual 72, 3) := by decide +kernel
theorem dX6_mixPassengers_42 : decode cX6_mixPassengers 42 = .ok (.i2l, 1) := by decide +kernel
theorem dX6_mixPassengers_43 : decode cX6_mixPassengers 43 = .ok (.invokestatic 260, 3) := by decide +kernel
theorem dX6_mixPassengers_46 : decode cX6_mixPassengers 46 = .ok (.lstore_n 3, 1) := by decide +kernel
theorem dX6_mixPassengers_47 : decode cX6_mixPassengers 47 = .ok (.iinc 6 1, 3) := by decide +kernel
theorem dX6_mixPassengers_50 : decode cX6_mixPassengers 50 = .ok (.goto (-27), 3) := by decide +kernel
theorem dX6_mixPassengers_53 : decode cX6_mixPassengers 53 = .ok (.iinc 5 1, 3) := by decide +kernel
theorem dX6_mixPassengers_56 : decode cX6_mixPassengers 56 = .ok (.goto (-51), 3) := by decide +kernel
theorem dX6_mixPassengers_59 : decode cX6_mixPassengers 59 = .ok (.lload_n 3, 1) := by decide +kernel
theorem dX6_mixPassengers_60 : decode cX6_mixPassengers 60 = .ok (.lreturn, 1) := by decide +kernel
set_option maxRecDepth 20000 in
theorem ggX6_mixWays_X6_free : GoodIn wsX6_mixWays wsX6_free := goodIn_ca (goodIn_ca (goodIn_r _ [6, 7, 8, 9, 10, 1, 11, 12, 13, 5, 14, 15, 16, 17, 18, 19, 20, 21, 22, 23, 24, 25, 26, 27, 28, 29, 124, 125, 126, 127, 128, 129, 130, 131, 132, 133, 134] (by decide +kernel) (by decide +kernel)) (goodIn_sub (fun _ h => List.mem_cons_of_mem _ (List.mem_append_left _ (List.mem_append_right _ h))) (by decide +kernel))) (goodIn_sub (fun _ h => List.mem_cons_of_mem _ (List.mem_append_right _ h)) (by decide +kernel))
set_option maxRecDepth 20000 in
theorem gX6_mixWays_X6_free : GoodIn wsX6_mixWays (wsV RX6 301 RX6 yX6_free wsX6_free) := goodIn_app (goodIn_of _ (by decide +kernel)) ggX6_mixWays_X6_free
set_option maxRecDepth 20000 in
theorem ggX6_mixWays_X6_mix : GoodIn wsX6_mixWays wsX6_mix := goodIn_r _ [32, 33] (by decide +kernel) (by decide +kernel)
set_option maxRecDepth 20000 in
theorem gX6_mixWays_X6_mix : GoodIn wsX6_mixWays (va_wsS RX6 260 yX6_mix wsX6_mix) := goodIn_app (goodIn_of _ (by decide +kernel)) ggX6_mixWays_X6_mix
set_option maxRecDepth 20000 in
theorem ggX6_mixWays_X6_farthest : GoodIn wsX6_mixWays wsX6_farthest := goodIn_ca (goodIn_r _ [37, 9, 10, 1, 11, 12, 13, 5, 14, 38, 39, 40, 18, 41, 42, 43, 44, 45, 46, 47, 48, 49, 20, 21, 22, 23, 24, 25, 124, 125, 126, 127, 128, 129, 130, 131, 132, 133, 134] (by decide +kernel) (by decide +kernel)) (goodIn_sub (fun _ h => List.mem_cons_of_mem _ (List.mem_append_right _ h)) (by decide +kernel))
set_option maxRecDepth 20000 in
theorem gX6_mixWays_X6_farthest : GoodIn wsX6_mixWays (wsV RX6 304 RX6 yX6_farthest wsX6_farthest) := goodIn_app (goodIn_of _ (by decide +kernel)) ggX6_mixWays_X6_farthest
set_option maxRecDepth 20000 in
theorem ggX6_mixWays_X6_whyNot : GoodIn wsX6_mixWays wsX6_whyNot := goodIn_ca (goodIn_r _ [53, 1, 11, 54, 55, 5, 56, 9, 10, 12, 13, 14, 38, 39, 40, 18, 41, 42, 43, 44, 45, 46, 47, 48, 49, 20, 21, 22, 23, 24, 25, 57, 58, 59, 60, 61, 62, 63, 64, 65, 66, 67, 68, 69, 70, 71, 16, 17, 19, 124, 125, 126, 127, 128, 129, 130, 131, 132, 133, 134] (by decide +kernel) (by decide +kernel)) (goodIn_sub (fun _ h => List.mem_cons_of_mem _ (List.mem_append_right _ h)) (by decide +kernel))
set_option maxRecDepth 20000 in
theorem gX6_mixWays_X6_whyNot : GoodIn wsX6_mixWays (wsV RX6 307 RX6 yX6_whyNot wsX6_whyNot) := goodIn_app (goodIn_of _ (by decide +kernel)) ggX6_mixWays_X6_whyNot
set_option maxRecDepth 20000 in
theorem ggX6_mixWays_X5_findBerths : GoodIn wsX6_mixWays wsX5_findBerths := goodIn_r _ [76, 77, 78, 79, 80, 81, 82, 83, 18, 84, 46, 47, 48, 49, 20, 21, 22, 23, 24, 25, 85, 86, 87, 88, 89, 90, 91, 92, 93, 94, 95, 96, 97, 98, 99, 100, 75, 101, 102, 103, 104, 105, 106, 65, 5, 66, 107, 127, 128, 129, 130, 131, 132, 135, 136, 137, 133, 134] (by decide +kernel) (by decide +kernel)
set_option maxRecDepth 20000 in
theorem gX6_mixWays_X5_findBerths : GoodIn wsX6_mixWays (wsV RX6 34 RX5 yX5_findBerths wsX5_findBerths) := goodIn_app (goodIn_of _ (by decide +kernel)) ggX6_mixWays_X5_findBerths
set_option maxRecDepth 20000 in
theorem ggX6_mixWays_X6_tell : GoodIn wsX6_mixWays wsX6_tell := goodIn_r _ [111, 112, 113, 1, 11, 114, 115, 116, 117, 80, 118, 95, 119, 120, 121, 122, 97, 123, 86, 87, 18, 88, 25, 135, 136, 137, 124, 125, 126, 127, 128, 129, 130, 131, 132, 133, 134] (by decide +kernel) (by decide +kernel)
set_option maxRecDepth 20000 in
theorem gX6_mixWays_X6_tell : GoodIn wsX6_mixWays (wsV RX6 237 RX6 yX6_tell wsX6_tell) := goodIn_app (goodIn_of _ (by decide +kernel)) ggX6_mixWays_X6_tell
theorem dX6_mixWays_0 : decode cX6_mixWays 0 = .ok (.lload_n 1, 1) := by decide +kernel
theorem dX6_mixWays_1 : decode cX6_mixWays 1 = .ok (.lstore_n 3, 1) := by decide +kernel
theorem dX6_mixWays_2 : decode cX6_mixWays 2 = .ok (.iconst 0, 1) := by decide +kernel
theorem dX6_mixWays_3 : decode cX6_mixWays 3 = .ok (.istore 5, 2) := by decide +kernel
theorem dX6_mixWays_5 : decode cX6_mixWays 5 = .ok (.iload 5, 2) := by decide +kernel
theorem dX6_mixWays_7 : decode cX6_mixWays 7 = .ok (.bipush 9, 2) := by decide +kernel
theorem dX6_mixWays_9 : decode cX6_mixWays 9 = .ok (.if_icmp .ge 35, 3) := by decide +kernel
theorem dX6_mixWays_12 : decode cX6_mixWays 12 = .ok (.lload_n 3, 1) := by decide +kernel
theorem dX6_mixWays_13 : decode cX6_mixWays 13 = .ok (.aload_n 0, 1) := by decide +kernel
theorem dX6_mixWays_14 : decode cX6_mixWays 14 = .ok (.iload 5, 2) := by decide +kernel
theorem dX6_mixWays_16 : decode cX6_mixWays 16 = .ok (.iconst 0, 1) := by decide +kernel
theorem dX6_mixWays_17 : decode cX6_mixWays 17 = .ok (.invokevirtual 301, 3) := by decide +kernel
theorem dX6_mixWays_20 : decode cX6_mixWays 20 = .ok (.i2l, 1) := by decide +kernel
theorem dX6_mixWays_21 : decode cX6_mixWays 21 = .ok (.invokestatic 260, 3) := by decide +kernel
theorem dX6_mixWays_24 : decode cX6_mixWays 24 = .ok (.lstore_n 3, 1) := by decide +kernel
theorem dX6_mixWays_25 : decode cX6_mixWays 25 = .ok (.lload_n 3, 1) := by decide +kernel
theorem dX6_mixWays_26 : decode cX6_mixWays 26 = .ok (.aload_n 0, 1) := by decide +kernel
theorem dX6_mixWays_27 : decode cX6_mixWays 27 = .ok (.iload 5, 2) := by decide +kernel
theorem dX6_mixWays_29 : decode cX6_mixWays 29 = .ok (.iconst 1, 1) := by decide +kernel
theorem dX6_mixWays_30 : decode cX6_mixWays 30 = .ok (.invokevirtual 301, 3) := by decide +kernel
theorem dX6_mixWays_33 : decode cX6_mixWays 33 = .ok (.i2l, 1) := by decide +kernel
theorem dX6_mixWays_34 : decode cX6_mixWays 34 = .ok (.invokestatic 260, 3) := by decide +kernel
theorem dX6_mixWays_37 : decode cX6_mixWays 37 = .ok (.lstore_n 3, 1) := by decide +kernel
theorem dX6_mixWays_38 : decode cX6_mixWays 38 = .ok (.iinc 5 1, 3) := by decide +kernel
theorem dX6_mixWays_41 : decode cX6_mixWays 41 = .ok (.goto (-36), 3) := by decide +kernel
theorem dX6_mixWays_44 : decode cX6_mixWays 44 = .ok (.iconst 0, 1) := by decide +kernel
theorem dX6_mixWays_45 : decode cX6_mixWays 45 = .ok (.istore 5, 2) := by decide +kernel
theorem dX6_mixWays_47 : decode cX6_mixWays 47 = .ok (.iload 5, 2) := by decide +kernel
theorem dX6_mixWays_49 : decode cX6_mixWays 49 = .ok (.bipush 9, 2) := by decide +kernel
theorem dX6_mixWays_51 : decode cX6_mixWays 51 = .ok (.if_icmp .ge 35, 3) := by decide +kernel
theorem dX6_mixWays_54 : decode cX6_mixWays 54 = .ok (.lload_n 3, 1) := by decide +kernel
theorem dX6_mixWays_55 : decode cX6_mixWays 55 = .ok (.aload_n 0, 1) := by decide +kernel
theorem dX6_mixWays_56 : decode cX6_mixWays 56 = .ok (.iload 5, 2) := by decide +kernel
theorem dX6_mixWays_58 : decode cX6_mixWays 58 = .ok (.invokevirtual 304, 3) := by decide +kernel
theorem dX6_mixWays_61 : decode cX6_mixWays 61 = .ok (.i2l, 1) := by decide +kernel
theorem dX6_mixWays_62 : decode cX6_mixWays 62 = .ok (.invokestatic 260, 3) := by decide +kernel
theorem dX6_mixWays_65 : decode cX6_mixWays 65 = .ok (.lstore_n 3, 1) := by decide +kernel
theorem dX6_mixWays_66 : decode cX6_mixWays 66 = .ok (.lload_n 3, 1) := by decide +kernel
theorem dX6_mixWays_67 : decode cX6_mixWays 67 = .ok (.aload_n 0, 1) := by decide +kernel
theorem dX6_mixWays_68 : decode cX6_mixWays 68 = .ok (.iload 5, 2) := by decide +kernel
theorem dX6_mixWays_70 : decode cX6_mixWays 70 = .ok (.bipush 9, 2) := by decide +kernel
theorem dX6_mixWays_72 : decode cX6_mixWays 72 = .ok (.invokevirtual 307, 3) := by decide +kernel
theorem dX6_mixWays_75 : decode cX6_mixWays 75 = .ok (.i2l, 1) := by decide +kernel
theorem dX6_mixWays_76 : decode cX6_mixWays 76 = .ok (.invokestatic 260, 3) := by decide +kernel
theorem dX6_mixWays_79 : decode cX6_mixWays 79 = .ok (.lstore_n 3, 1) := by decide +kernel
theorem dX6_mixWays_80 : decode cX6_mixWays 80 = .ok (.iinc 5 1, 3) := by decide +kernel
theorem dX6_mixWays_83 : decode cX6_mixWays 83 = .ok (.goto (-36), 3) := by decide +kernel
theorem dX6_mixWays_86 : decode cX6_mixWays 86 = .ok (.aload_n 0, 1) := by decide +kernel
theorem dX6_mixWays_87 : decode cX6_mixWays 87 = .ok (.getfield 12, 3) := by decide +kernel
theorem dX6_mixWays_90 : decode cX6_mixWays 90 = .ok (.iconst 1, 1) := by decide +kernel
theorem dX6_mixWays_91 : decode cX6_mixWays 91 = .ok (.bipush 8, 2) := by decide +kernel
theorem dX6_mixWays_93 : decode cX6_mixWays 93 = .ok (.iconst 0, 1) := by decide +kernel
theorem dX6_mixWays_94 : decode cX6_mixWays 94 = .ok (.invokevirtual 34, 3) := by decide +kernel
theorem dX6_mixWays_97 : decode cX6_mixWays 97 = .ok (.astore 5, 2) := by decide +kernel
theorem dX6_mixWays_99 : decode cX6_mixWays 99 = .ok (.iconst 0, 1) := by decide +kernel
theorem dX6_mixWays_100 : decode cX6_mixWays 100 = .ok (.istore 6, 2) := by decide +kernel
theorem dX6_mixWays_102 : decode cX6_mixWays 102 = .ok (.iload 6, 2) := by decide +kernel
theorem dX6_mixWays_104 : decode cX6_mixWays 104 = .ok (.iconst 4, 1) := by decide +kernel
theorem dX6_mixWays_105 : decode cX6_mixWays 105 = .ok (.if_icmp .ge 26, 3) := by decide +kernel
theorem dX6_mixWays_108 : decode cX6_mixWays 108 = .ok (.lload_n 3, 1) := by decide +kernel
theorem dX6_mixWays_109 : decode cX6_mixWays 109 = .ok (.aload_n 0, 1) := by decide +kernel
theorem dX6_mixWays_110 : decode cX6_mixWays 110 = .ok (.aload 5, 2) := by decide +kernel
theorem dX6_mixWays_112 : decode cX6_mixWays 112 = .ok (.iconst 1, 1) := by decide +kernel
theorem dX6_mixWays_113 : decode cX6_mixWays 113 = .ok (.bipush 8, 2) := by decide +kernel
theorem dX6_mixWays_115 : decode cX6_mixWays 115 = .ok (.iload 6, 2) := by decide +kernel
theorem dX6_mixWays_117 : decode cX6_mixWays 117 = .ok (.invokevirtual 237, 3) := by decide +kernel
theorem dX6_mixWays_120 : decode cX6_mixWays 120 = .ok (.i2l, 1) := by decide +kernel
theorem dX6_mixWays_121 : decode cX6_mixWays 121 = .ok (.invokestatic 260, 3) := by decide +kernel
theorem dX6_mixWays_124 : decode cX6_mixWays 124 = .ok (.lstore_n 3, 1) := by decide +kernel
theorem dX6_mixWays_125 : decode cX6_mixWays 125 = .ok (.iinc 6 1, 3) := by decide +kernel
theorem dX6_mixWays_128 : decode cX6_mixWays 128 = .ok (.goto (-26), 3) := by decide +kernel
theorem dX6_mixWays_131 : decode cX6_mixWays 131 = .ok (.lload_n 3, 1) := by decide +kernel
theorem dX6_mixWays_132 : decode cX6_mixWays 132 = .ok (.lreturn, 1) := by decide +kernel
set_option maxRecDepth 20000 in
theorem ggX6_mixText_X6_mix : GoodIn wsX6_mixText wsX6_mix := goodIn_r _ [6, 7] (by decide +kernel) (by decide +kernel)
set_option maxRecDepth 20000 in
theorem gX6_mixText_X6_mix : GoodIn wsX6_mixText (va_wsS RX6 260 yX6_mix wsX6_mix) := goodIn_app (goodIn_of _ (by decide +kernel)) ggX6_mixText_X6_mix
set_option maxRecDepth 20000 in
theorem ggX6_mixText_X4_codeAt : GoodIn wsX6_mixText wsX4_codeAt := goodIn_r _ [12, 13, 14, 15, 5, 16, 20, 21] (by decide +kernel) (by decide +kernel)
set_option maxRecDepth 20000 in
theorem gX6_mixText_X4_codeAt : GoodIn wsX6_mixText (wsV RX6 310 RX4 yX4_codeAt wsX4_codeAt) := goodIn_app (goodIn_of _ (by decide +kernel)) ggX6_mixText_X4_codeAt
theorem dX6_mixText_0 : decode cX6_mixText 0 = .ok (.lload_n 1, 1) := by decide +kernel
theorem dX6_mixText_1 : decode cX6_mixText 1 = .ok (.aload_n 0, 1) := by decide +kernel
theorem dX6_mixText_2 : decode cX6_mixText 2 = .ok (.getfield 26, 3) := by decide +kernel
theorem dX6_mixText_5 : decode cX6_mixText 5 = .ok (.getfield 166, 3) := by decide +kernel
theorem dX6_mixText_8 : decode cX6_mixText 8 = .ok (.i2l, 1) := by decide +kernel
theorem dX6_mixText_9 : decode cX6_mixText 9 = .ok (.invokestatic 260, 3) := by decide +kernel
theorem dX6_mixText_12 : decode cX6_mixText 12 = .ok (.lstore_n 3, 1) := by decide +kernel
theorem dX6_mixText_13 : decode cX6_mixText 13 = .ok (.iconst 0, 1) := by decide +kernel
theorem dX6_mixText_14 : decode cX6_mixText 14 = .ok (.istore 5, 2) := by decide +kernel
theorem dX6_mixText_16 : decode cX6_mixText 16 = .ok (.iload 5, 2) := by decide +kernel
theorem dX6_mixText_18 : decode cX6_mixText 18 = .ok (.aload_n 0, 1) := by decide +kernel
theorem dX6_mixText_19 : decode cX6_mixText 19 = .ok (.getfield 26, 3) := by decide +kernel
theorem dX6_mixText_22 : decode cX6_mixText 22 = .ok (.getfield 166, 3) := by decide +kernel
theorem dX6_mixText_25 : decode cX6_mixText 25 = .ok (.if_icmp .ge 24, 3) := by decide +kernel
theorem dX6_mixText_28 : decode cX6_mixText 28 = .ok (.lload_n 3, 1) := by decide +kernel
theorem dX6_mixText_29 : decode cX6_mixText 29 = .ok (.aload_n 0, 1) := by decide +kernel
theorem dX6_mixText_30 : decode cX6_mixText 30 = .ok (.getfield 26, 3) := by decide +kernel
theorem dX6_mixText_33 : decode cX6_mixText 33 = .ok (.iload 5, 2) := by decide +kernel
theorem dX6_mixText_35 : decode cX6_mixText 35 = .ok (.invokevirtual 310, 3) := by decide +kernel
theorem dX6_mixText_38 : decode cX6_mixText 38 = .ok (.i2l, 1) := by decide +kernel
theorem dX6_mixText_39 : decode cX6_mixText 39 = .ok (.invokestatic 260, 3) := by decide +kernel
theorem dX6_mixText_42 : decode cX6_mixText 42 = .ok (.lstore_n 3, 1) := by decide +kernel
theorem dX6_mixText_43 : decode cX6_mixText 43 = .ok (.iinc 5 1, 3) := by decide +kernel
theorem dX6_mixText_46 : decode cX6_mixText 46 = .ok (.goto (-30), 3) := by decide +kernel
theorem dX6_mixText_49 : decode cX6_mixText 49 = .ok (.lload_n 3, 1) := by decide +kernel
theorem dX6_mixText_50 : decode cX6_mixText 50 = .ok (.lreturn, 1) := by decide +kernel
theorem dX6_mix_0 : decode cX6_mix 0 = .ok (.ldc2_w 313, 3) := by decide +kernel
theorem dX6_mix_3 : decode cX6_mix 3 = .ok (.lload_n 0, 1) := by decide +kernel
theorem dX6_mix_4 : decode cX6_mix 4 = .ok (.lmul, 1) := by decide +kernel
theorem dX6_mix_5 : decode cX6_mix 5 = .ok (.lload_n 2, 1) := by decide +kernel
theorem dX6_mix_6 : decode cX6_mix 6 = .ok (.ladd, 1) := by decide +kernel
theorem dX6_mix_7 : decode cX6_mix 7 = .ok (.lreturn, 1) := by decide +kernel
theorem dX6_bitsOf_0 : decode cX6_bitsOf 0 = .ok (.dload_n 0, 1) := by decide +kernel
theorem dX6_bitsOf_1 : decode cX6_bitsOf 1 = .ok (.dconst 0, 1) := by decide +kernel
theorem dX6_bitsOf_2 : decode cX6_bitsOf 2 = .ok (.dcmp .l, 1) := by decide +kernel
theorem dX6_bitsOf_3 : decode cX6_bitsOf 3 = .ok (.ifCond .gt 5, 3) := by decide +kernel
theorem dX6_bitsOf_6 : decode cX6_bitsOf 6 = .ok (.lconst 0, 1) := by decide +kernel
theorem dX6_bitsOf_7 : decode cX6_bitsOf 7 = .ok (.lreturn, 1) := by decide +kernel
theorem dX6_bitsOf_8 : decode cX6_bitsOf 8 = .ok (.ldc2_w 315, 3) := by decide +kernel
theorem dX6_bitsOf_11 : decode cX6_bitsOf 11 = .ok (.lstore_n 2, 1) := by decide +kernel
theorem dX6_bitsOf_12 : decode cX6_bitsOf 12 = .ok (.dload_n 0, 1) := by decide +kernel
theorem dX6_bitsOf_13 : decode cX6_bitsOf 13 = .ok (.dstore 4, 2) := by decide +kernel
theorem dX6_bitsOf_15 : decode cX6_bitsOf 15 = .ok (.dload 4, 2) := by decide +kernel
theorem dX6_bitsOf_17 : decode cX6_bitsOf 17 = .ok (.dconst 1, 1) := by decide +kernel
theorem dX6_bitsOf_18 : decode cX6_bitsOf 18 = .ok (.dcmp .g, 1) := by decide +kernel
theorem dX6_bitsOf_19 : decode cX6_bitsOf 19 = .ok (.ifCond .ge 24, 3) := by decide +kernel
theorem dX6_bitsOf_22 : decode cX6_bitsOf 22 = .ok (.lload_n 2, 1) := by decide +kernel
theorem dX6_bitsOf_23 : decode cX6_bitsOf 23 = .ok (.lconst 1, 1) := by decide +kernel
theorem dX6_bitsOf_24 : decode cX6_bitsOf 24 = .ok (.lcmp, 1) := by decide +kernel
theorem dX6_bitsOf_25 : decode cX6_bitsOf 25 = .ok (.ifCond .le 18, 3) := by decide +kernel
theorem dX6_bitsOf_28 : decode cX6_bitsOf 28 = .ok (.dload 4, 2) := by decide +kernel
theorem dX6_bitsOf_30 : decode cX6_bitsOf 30 = .ok (.ldc2_w 317, 3) := by decide +kernel
theorem dX6_bitsOf_33 : decode cX6_bitsOf 33 = .ok (.dmul, 1) := by decide +kernel
theorem dX6_bitsOf_34 : decode cX6_bitsOf 34 = .ok (.dstore 4, 2) := by decide +kernel
theorem dX6_bitsOf_36 : decode cX6_bitsOf 36 = .ok (.lload_n 2, 1) := by decide +kernel
theorem dX6_bitsOf_37 : decode cX6_bitsOf 37 = .ok (.lconst 1, 1) := by decide +kernel
theorem dX6_bitsOf_38 : decode cX6_bitsOf 38 = .ok (.lsub, 1) := by decide +kernel
theorem dX6_bitsOf_39 : decode cX6_bitsOf 39 = .ok (.lstore_n 2, 1) := by decide +kernel
theorem dX6_bitsOf_40 : decode cX6_bitsOf 40 = .ok (.goto (-25), 3) := by decide +kernel
theorem dX6_bitsOf_43 : decode cX6_bitsOf 43 = .ok (.ldc2_w 319, 3) := by decide +kernel
theorem dX6_bitsOf_46 : decode cX6_bitsOf 46 = .ok (.lstore 6, 2) := by decide +kernel
theorem dX6_bitsOf_48 : decode cX6_bitsOf 48 = .ok (.dload 4, 2) := by decide +kernel
theorem dX6_bitsOf_50 : decode cX6_bitsOf 50 = .ok (.lload 6, 2) := by decide +kernel
theorem dX6_bitsOf_52 : decode cX6_bitsOf 52 = .ok (.l2d, 1) := by decide +kernel
theorem dX6_bitsOf_53 : decode cX6_bitsOf 53 = .ok (.dmul, 1) := by decide +kernel
theorem dX6_bitsOf_54 : decode cX6_bitsOf 54 = .ok (.d2l, 1) := by decide +kernel
theorem dX6_bitsOf_55 : decode cX6_bitsOf 55 = .ok (.lload 6, 2) := by decide +kernel
theorem dX6_bitsOf_57 : decode cX6_bitsOf 57 = .ok (.lsub, 1) := by decide +kernel
theorem dX6_bitsOf_58 : decode cX6_bitsOf 58 = .ok (.lstore 8, 2) := by decide +kernel
theorem dX6_bitsOf_60 : decode cX6_bitsOf 60 = .ok (.lload_n 2, 1) := by decide +kernel
theorem dX6_bitsOf_61 : decode cX6_bitsOf 61 = .ok (.bipush 52, 2) := by decide +kernel
theorem dX6_bitsOf_63 : decode cX6_bitsOf 63 = .ok (.lshl, 1) := by decide +kernel
theorem dX6_bitsOf_64 : decode cX6_bitsOf 64 = .ok (.lload 8, 2) := by decide +kernel
theorem dX6_bitsOf_66 : decode cX6_bitsOf 66 = .ok (.ladd, 1) := by decide +kernel
theorem dX6_bitsOf_67 : decode cX6_bitsOf 67 = .ok (.lreturn, 1) := by decide +kernel
theorem dX6_isBelow_0 : decode cX6_isBelow 0 = .ok (.iload_n 0, 1) := by decide +kernel
theorem dX6_isBelow_1 : decode cX6_isBelow 1 = .ok (.ifCond .lt 12, 3) := by decide +kernel
theorem dX6_isBelow_4 : decode cX6_isBelow 4 = .ok (.iload_n 0, 1) := by decide +kernel
theorem dX6_isBelow_5 : decode cX6_isBelow 5 = .ok (.iload_n 1, 1) := by decide +kernel
theorem dX6_isBelow_6 : decode cX6_isBelow 6 = .ok (.if_icmp .ge 7, 3) := by decide +kernel
theorem dX6_isBelow_9 : decode cX6_isBelow 9 = .ok (.iconst 1, 1) := by decide +kernel
theorem dX6_isBelow_10 : decode cX6_isBelow 10 = .ok (.goto 4, 3) := by decide +kernel
theorem dX6_isBelow_13 : decode cX6_isBelow 13 = .ok (.iconst 0, 1) := by decide +kernel
theorem dX6_isBelow_14 : decode cX6_isBelow 14 = .ok (.ireturn, 1) := by decide +kernel
set_option maxRecDepth 20000 in
theorem ggX6_requireWay_X6_isBelow : GoodIn wsX6_requireWay wsX6_isBelow := goodIn_r _ [6] (by decide +kernel) (by decide +kernel)
set_option maxRecDepth 20000 in
theorem gX6_requireWay_X6_isBelow : GoodIn wsX6_requireWay (va_wsS RX6 80 yX6_isBelow wsX6_isBelow) := goodIn_app (goodIn_of _ (by decide +kernel)) ggX6_requireWay_X6_isBelow
theorem dX6_requireWay_0 : decode cX6_requireWay 0 = .ok (.iload_n 0, 1) := by decide +kernel
theorem dX6_requireWay_1 : decode cX6_requireWay 1 = .ok (.bipush 9, 2) := by decide +kernel
theorem dX6_requireWay_3 : decode cX6_requireWay 3 = .ok (.invokestatic 80, 3) := by decide +kernel
theorem dX6_requireWay_6 : decode cX6_requireWay 6 = .ok (.ifCond .eq 14, 3) := by decide +kernel
theorem dX6_requireWay_9 : decode cX6_requireWay 9 = .ok (.iload_n 1, 1) := by decide +kernel
theorem dX6_requireWay_10 : decode cX6_requireWay 10 = .ok (.iload_n 0, 1) := by decide +kernel
theorem dX6_requireWay_11 : decode cX6_requireWay 11 = .ok (.if_icmp .le 9, 3) := by decide +kernel
theorem dX6_requireWay_14 : decode cX6_requireWay 14 = .ok (.iload_n 1, 1) := by decide +kernel
theorem dX6_requireWay_15 : decode cX6_requireWay 15 = .ok (.bipush 9, 2) := by decide +kernel
theorem dX6_requireWay_17 : decode cX6_requireWay 17 = .ok (.if_icmp .le 14, 3) := by decide +kernel
theorem dX6_requireWay_20 : decode cX6_requireWay 20 = .ok (.new 116, 3) := by decide +kernel
theorem dX6_requireWay_23 : decode cX6_requireWay 23 = .ok (.dup, 1) := by decide +kernel
theorem dX6_requireWay_24 : decode cX6_requireWay 24 = .ok (.ldc_w 321, 3) := by decide +kernel
theorem dX6_requireWay_27 : decode cX6_requireWay 27 = .ok (.invokespecial 120, 3) := by decide +kernel
theorem dX6_requireWay_30 : decode cX6_requireWay 30 = .ok (.athrow, 1) := by decide +kernel
theorem dX6_requireWay_31 : decode cX6_requireWay 31 = .ok (.return_, 1) := by decide +kernel
set_option maxRecDepth 20000 in
theorem ggX6_requireCoach_X6_isBelow : GoodIn wsX6_requireCoach wsX6_isBelow := goodIn_r _ [6] (by decide +kernel) (by decide +kernel)
set_option maxRecDepth 20000 in
theorem gX6_requireCoach_X6_isBelow : GoodIn wsX6_requireCoach (va_wsS RX6 80 yX6_isBelow wsX6_isBelow) := goodIn_app (goodIn_of _ (by decide +kernel)) ggX6_requireCoach_X6_isBelow
theorem dX6_requireCoach_0 : decode cX6_requireCoach 0 = .ok (.iload_n 0, 1) := by decide +kernel
theorem dX6_requireCoach_1 : decode cX6_requireCoach 1 = .ok (.iconst 3, 1) := by decide +kernel
theorem dX6_requireCoach_2 : decode cX6_requireCoach 2 = .ok (.invokestatic 80, 3) := by decide +kernel
theorem dX6_requireCoach_5 : decode cX6_requireCoach 5 = .ok (.ifCond .ne 14, 3) := by decide +kernel
theorem dX6_requireCoach_8 : decode cX6_requireCoach 8 = .ok (.new 84, 3) := by decide +kernel
theorem dX6_requireCoach_11 : decode cX6_requireCoach 11 = .ok (.dup, 1) := by decide +kernel
theorem dX6_requireCoach_12 : decode cX6_requireCoach 12 = .ok (.ldc_w 323, 3) := by decide +kernel
theorem dX6_requireCoach_15 : decode cX6_requireCoach 15 = .ok (.invokespecial 88, 3) := by decide +kernel
theorem dX6_requireCoach_18 : decode cX6_requireCoach 18 = .ok (.athrow, 1) := by decide +kernel
theorem dX6_requireCoach_19 : decode cX6_requireCoach 19 = .ok (.return_, 1) := by decide +kernel
set_option maxRecDepth 20000 in
theorem ggX6_requireSetting_X6_isBelow : GoodIn wsX6_requireSetting wsX6_isBelow := goodIn_r _ [6] (by decide +kernel) (by decide +kernel)
set_option maxRecDepth 20000 in
theorem gX6_requireSetting_X6_isBelow : GoodIn wsX6_requireSetting (va_wsS RX6 80 yX6_isBelow wsX6_isBelow) := goodIn_app (goodIn_of _ (by decide +kernel)) ggX6_requireSetting_X6_isBelow
theorem dX6_requireSetting_0 : decode cX6_requireSetting 0 = .ok (.iload_n 0, 1) := by decide +kernel
theorem dX6_requireSetting_1 : decode cX6_requireSetting 1 = .ok (.iconst 3, 1) := by decide +kernel
theorem dX6_requireSetting_2 : decode cX6_requireSetting 2 = .ok (.invokestatic 80, 3) := by decide +kernel
theorem dX6_requireSetting_5 : decode cX6_requireSetting 5 = .ok (.ifCond .ne 14, 3) := by decide +kernel
theorem dX6_requireSetting_8 : decode cX6_requireSetting 8 = .ok (.new 84, 3) := by decide +kernel
theorem dX6_requireSetting_11 : decode cX6_requireSetting 11 = .ok (.dup, 1) := by decide +kernel
theorem dX6_requireSetting_12 : decode cX6_requireSetting 12 = .ok (.ldc_w 325, 3) := by decide +kernel
theorem dX6_requireSetting_15 : decode cX6_requireSetting 15 = .ok (.invokespecial 88, 3) := by decide +kernel
theorem dX6_requireSetting_18 : decode cX6_requireSetting 18 = .ok (.athrow, 1) := by decide +kernel
theorem dX6_requireSetting_19 : decode cX6_requireSetting 19 = .ok (.return_, 1) := by decide +kernel
set_option maxRecDepth 20000 in
theorem ggX6_requireRow_X3_rowOf : GoodIn wsX6_requireRow wsX3_rowOf := goodIn_r _ [9, 10, 11, 12, 13, 8, 14, 15, 25, 26] (by decide +kernel) (by decide +kernel)
set_option maxRecDepth 20000 in
theorem gX6_requireRow_X3_rowOf : GoodIn wsX6_requireRow (wsV RX6 327 RX3 yX3_rowOf wsX3_rowOf) := goodIn_app (goodIn_of _ (by decide +kernel)) ggX6_requireRow_X3_rowOf
theorem dX6_requireRow_0 : decode cX6_requireRow 0 = .ok (.aload_n 0, 1) := by decide +kernel
theorem dX6_requireRow_1 : decode cX6_requireRow 1 = .ok (.getfield 12, 3) := by decide +kernel
theorem dX6_requireRow_4 : decode cX6_requireRow 4 = .ok (.getfield 38, 3) := by decide +kernel
theorem dX6_requireRow_7 : decode cX6_requireRow 7 = .ok (.iload_n 1, 1) := by decide +kernel
theorem dX6_requireRow_8 : decode cX6_requireRow 8 = .ok (.invokevirtual 327, 3) := by decide +kernel
theorem dX6_requireRow_11 : decode cX6_requireRow 11 = .ok (.istore_n 2, 1) := by decide +kernel
theorem dX6_requireRow_12 : decode cX6_requireRow 12 = .ok (.iload_n 2, 1) := by decide +kernel
theorem dX6_requireRow_13 : decode cX6_requireRow 13 = .ok (.iconst (-1), 1) := by decide +kernel
theorem dX6_requireRow_14 : decode cX6_requireRow 14 = .ok (.if_icmp .ne 14, 3) := by decide +kernel
theorem dX6_requireRow_17 : decode cX6_requireRow 17 = .ok (.new 84, 3) := by decide +kernel
theorem dX6_requireRow_20 : decode cX6_requireRow 20 = .ok (.dup, 1) := by decide +kernel
theorem dX6_requireRow_21 : decode cX6_requireRow 21 = .ok (.ldc_w 330, 3) := by decide +kernel
theorem dX6_requireRow_24 : decode cX6_requireRow 24 = .ok (.invokespecial 88, 3) := by decide +kernel
theorem dX6_requireRow_27 : decode cX6_requireRow 27 = .ok (.athrow, 1) := by decide +kernel
theorem dX6_requireRow_28 : decode cX6_requireRow 28 = .ok (.iload_n 2, 1) := by decide +kernel
theorem dX6_requireRow_29 : decode cX6_requireRow 29 = .ok (.ireturn, 1) := by decide +kernel
theorem dX6_greatestValue_0 : decode cX6_greatestValue 0 = .ok (.iload_n 0, 1) := by decide +kernel
theorem dX6_greatestValue_1 : decode cX6_greatestValue 1 = .ok (.iconst 2, 1) := by decide +kernel
theorem dX6_greatestValue_2 : decode cX6_greatestValue 2 = .ok (.if_icmp .ne 8, 3) := by decide +kernel
theorem dX6_greatestValue_5 : decode cX6_greatestValue 5 = .ok (.bipush 50, 2) := by decide +kernel
theorem dX6_greatestValue_7 : decode cX6_greatestValue 7 = .ok (.goto 5, 3) := by decide +kernel
theorem dX6_greatestValue_10 : decode cX6_greatestValue 10 = .ok (.bipush 9, 2) := by decide +kernel
theorem dX6_greatestValue_12 : decode cX6_greatestValue 12 = .ok (.ireturn, 1) := by decide +kernel
theorem dX6_read_0 : decode cX6_read 0 = .ok (.iload_n 1, 1) := by decide +kernel
theorem dX6_read_1 : decode cX6_read 1 = .ok (.ifCond .lt 15, 3) := by decide +kernel
theorem dX6_read_4 : decode cX6_read 4 = .ok (.iload_n 1, 1) := by decide +kernel
theorem dX6_read_5 : decode cX6_read 5 = .ok (.aload_n 0, 1) := by decide +kernel
theorem dX6_read_6 : decode cX6_read 6 = .ok (.arraylength, 1) := by decide +kernel
theorem dX6_read_7 : decode cX6_read 7 = .ok (.if_icmp .ge 9, 3) := by decide +kernel
theorem dX6_read_10 : decode cX6_read 10 = .ok (.aload_n 0, 1) := by decide +kernel
theorem dX6_read_11 : decode cX6_read 11 = .ok (.iload_n 1, 1) := by decide +kernel
theorem dX6_read_12 : decode cX6_read 12 = .ok (.iaload, 1) := by decide +kernel
theorem dX6_read_13 : decode cX6_read 13 = .ok (.goto 4, 3) := by decide +kernel
theorem dX6_read_16 : decode cX6_read 16 = .ok (.iconst (-1), 1) := by decide +kernel
theorem dX6_read_17 : decode cX6_read 17 = .ok (.ireturn, 1) := by decide +kernel
theorem dX6_write_0 : decode cX6_write 0 = .ok (.iload_n 1, 1) := by decide +kernel
theorem dX6_write_1 : decode cX6_write 1 = .ok (.ifCond .lt 13, 3) := by decide +kernel
theorem dX6_write_4 : decode cX6_write 4 = .ok (.iload_n 1, 1) := by decide +kernel
theorem dX6_write_5 : decode cX6_write 5 = .ok (.aload_n 0, 1) := by decide +kernel
theorem dX6_write_6 : decode cX6_write 6 = .ok (.arraylength, 1) := by decide +kernel
theorem dX6_write_7 : decode cX6_write 7 = .ok (.if_icmp .ge 7, 3) := by decide +kernel
theorem dX6_write_10 : decode cX6_write 10 = .ok (.aload_n 0, 1) := by decide +kernel
theorem dX6_write_11 : decode cX6_write 11 = .ok (.iload_n 1, 1) := by decide +kernel
theorem dX6_write_12 : decode cX6_write 12 = .ok (.iload_n 2, 1) := by decide +kernel
theorem dX6_write_13 : decode cX6_write 13 = .ok (.iastore, 1) := by decide +kernel
theorem dX6_write_14 : decode cX6_write 14 = .ok (.return_, 1) := by decide +kernel
set_option maxRecDepth 20000 in
theorem ggX6_copyAll_X6_read : GoodIn wsX6_copyAll wsX6_read := goodIn_r _ [4] (by decide +kernel) (by decide +kernel)
set_option maxRecDepth 20000 in
theorem gX6_copyAll_X6_read : GoodIn wsX6_copyAll (va_wsS RX6 150 yX6_read wsX6_read) := goodIn_app (goodIn_of _ (by decide +kernel)) ggX6_copyAll_X6_read
set_option maxRecDepth 20000 in
theorem ggX6_copyAll_X6_write : GoodIn wsX6_copyAll wsX6_write := goodIn_r _ [7] (by decide +kernel) (by decide +kernel)
set_option maxRecDepth 20000 in
theorem gX6_copyAll_X6_write : GoodIn wsX6_copyAll (va_wsS RX6 154 yX6_write wsX6_write) := goodIn_app (goodIn_of _ (by decide +kernel)) ggX6_copyAll_X6_write
theorem dX6_copyAll_0 : decode cX6_copyAll 0 = .ok (.iconst 0, 1) := by decide +kernel
theorem dX6_copyAll_1 : decode cX6_copyAll 1 = .ok (.istore_n 2, 1) := by decide +kernel
theorem dX6_copyAll_2 : decode cX6_copyAll 2 = .ok (.iload_n 2, 1) := by decide +kernel
theorem dX6_copyAll_3 : decode cX6_copyAll 3 = .ok (.aload_n 1, 1) := by decide +kernel
theorem dX6_copyAll_4 : decode cX6_copyAll 4 = .ok (.arraylength, 1) := by decide +kernel
theorem dX6_copyAll_5 : decode cX6_copyAll 5 = .ok (.if_icmp .ge 19, 3) := by decide +kernel
theorem dX6_copyAll_8 : decode cX6_copyAll 8 = .ok (.aload_n 1, 1) := by decide +kernel
theorem dX6_copyAll_9 : decode cX6_copyAll 9 = .ok (.iload_n 2, 1) := by decide +kernel
theorem dX6_copyAll_10 : decode cX6_copyAll 10 = .ok (.aload_n 0, 1) := by decide +kernel
theorem dX6_copyAll_11 : decode cX6_copyAll 11 = .ok (.iload_n 2, 1) := by decide +kernel
theorem dX6_copyAll_12 : decode cX6_copyAll 12 = .ok (.invokestatic 150, 3) := by decide +kernel
theorem dX6_copyAll_15 : decode cX6_copyAll 15 = .ok (.invokestatic 154, 3) := by decide +kernel
theorem dX6_copyAll_18 : decode cX6_copyAll 18 = .ok (.iinc 2 1, 3) := by decide +kernel
theorem dX6_copyAll_21 : decode cX6_copyAll 21 = .ok (.goto (-19), 3) := by decide +kernel
theorem dX6_copyAll_24 : decode cX6_copyAll 24 = .ok (.return_, 1) := by decide +kernel
