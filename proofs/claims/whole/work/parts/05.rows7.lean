theorem dX7_init_0 : decode cX7_init 0 = .ok (.aload_n 0, 1) := by decide +kernel
theorem dX7_init_1 : decode cX7_init 1 = .ok (.invokespecial 1, 3) := by decide +kernel
theorem dX7_init_4 : decode cX7_init 4 = .ok (.aload_n 0, 1) := by decide +kernel
theorem dX7_init_5 : decode cX7_init 5 = .ok (.sipush 452, 3) := by decide +kernel
theorem dX7_init_8 : decode cX7_init 8 = .ok (.newarray .int, 2) := by decide +kernel
theorem dX7_init_10 : decode cX7_init 10 = .ok (.putfield 7, 3) := by decide +kernel
theorem dX7_init_13 : decode cX7_init 13 = .ok (.aload_n 0, 1) := by decide +kernel
theorem dX7_init_14 : decode cX7_init 14 = .ok (.sipush 452, 3) := by decide +kernel
theorem dX7_init_17 : decode cX7_init 17 = .ok (.newarray .int, 2) := by decide +kernel
theorem dX7_init_19 : decode cX7_init 19 = .ok (.putfield 13, 3) := by decide +kernel
theorem dX7_init_22 : decode cX7_init 22 = .ok (.aload_n 0, 1) := by decide +kernel
theorem dX7_init_23 : decode cX7_init 23 = .ok (.sipush 2712, 3) := by decide +kernel
theorem dX7_init_26 : decode cX7_init 26 = .ok (.newarray .int, 2) := by decide +kernel
theorem dX7_init_28 : decode cX7_init 28 = .ok (.putfield 16, 3) := by decide +kernel
theorem dX7_init_31 : decode cX7_init 31 = .ok (.aload_n 0, 1) := by decide +kernel
theorem dX7_init_32 : decode cX7_init 32 = .ok (.bipush 60, 2) := by decide +kernel
theorem dX7_init_34 : decode cX7_init 34 = .ok (.newarray .int, 2) := by decide +kernel
theorem dX7_init_36 : decode cX7_init 36 = .ok (.putfield 19, 3) := by decide +kernel
theorem dX7_init_39 : decode cX7_init 39 = .ok (.aload_n 0, 1) := by decide +kernel
theorem dX7_init_40 : decode cX7_init 40 = .ok (.bipush 48, 2) := by decide +kernel
theorem dX7_init_42 : decode cX7_init 42 = .ok (.newarray .int, 2) := by decide +kernel
theorem dX7_init_44 : decode cX7_init 44 = .ok (.putfield 22, 3) := by decide +kernel
theorem dX7_init_47 : decode cX7_init 47 = .ok (.aload_n 0, 1) := by decide +kernel
theorem dX7_init_48 : decode cX7_init 48 = .ok (.getfield 7, 3) := by decide +kernel
theorem dX7_init_51 : decode cX7_init 51 = .ok (.iconst 0, 1) := by decide +kernel
theorem dX7_init_52 : decode cX7_init 52 = .ok (.iconst 3, 1) := by decide +kernel
theorem dX7_init_53 : decode cX7_init 53 = .ok (.iastore, 1) := by decide +kernel
theorem dX7_init_54 : decode cX7_init 54 = .ok (.aload_n 0, 1) := by decide +kernel
theorem dX7_init_55 : decode cX7_init 55 = .ok (.getfield 7, 3) := by decide +kernel
theorem dX7_init_58 : decode cX7_init 58 = .ok (.iconst 1, 1) := by decide +kernel
theorem dX7_init_59 : decode cX7_init 59 = .ok (.bipush 6, 2) := by decide +kernel
theorem dX7_init_61 : decode cX7_init 61 = .ok (.iastore, 1) := by decide +kernel
theorem dX7_init_62 : decode cX7_init 62 = .ok (.aload_n 0, 1) := by decide +kernel
theorem dX7_init_63 : decode cX7_init 63 = .ok (.getfield 7, 3) := by decide +kernel
theorem dX7_init_66 : decode cX7_init 66 = .ok (.iconst 2, 1) := by decide +kernel
theorem dX7_init_67 : decode cX7_init 67 = .ok (.bipush 10, 2) := by decide +kernel
theorem dX7_init_69 : decode cX7_init 69 = .ok (.iastore, 1) := by decide +kernel
theorem dX7_init_70 : decode cX7_init 70 = .ok (.iconst 0, 1) := by decide +kernel
theorem dX7_init_71 : decode cX7_init 71 = .ok (.istore_n 1, 1) := by decide +kernel
theorem dX7_init_72 : decode cX7_init 72 = .ok (.iload_n 1, 1) := by decide +kernel
theorem dX7_init_73 : decode cX7_init 73 = .ok (.iconst 3, 1) := by decide +kernel
theorem dX7_init_74 : decode cX7_init 74 = .ok (.if_icmp .ge 19, 3) := by decide +kernel
theorem dX7_init_77 : decode cX7_init 77 = .ok (.aload_n 0, 1) := by decide +kernel
theorem dX7_init_78 : decode cX7_init 78 = .ok (.getfield 7, 3) := by decide +kernel
theorem dX7_init_81 : decode cX7_init 81 = .ok (.iconst 3, 1) := by decide +kernel
theorem dX7_init_82 : decode cX7_init 82 = .ok (.iload_n 1, 1) := by decide +kernel
theorem dX7_init_83 : decode cX7_init 83 = .ok (.iadd, 1) := by decide +kernel
theorem dX7_init_84 : decode cX7_init 84 = .ok (.bipush 9, 2) := by decide +kernel
theorem dX7_init_86 : decode cX7_init 86 = .ok (.iastore, 1) := by decide +kernel
theorem dX7_init_87 : decode cX7_init 87 = .ok (.iinc 1 1, 3) := by decide +kernel
theorem dX7_init_90 : decode cX7_init 90 = .ok (.goto (-18), 3) := by decide +kernel
theorem dX7_init_93 : decode cX7_init 93 = .ok (.iconst 0, 1) := by decide +kernel
theorem dX7_init_94 : decode cX7_init 94 = .ok (.istore_n 1, 1) := by decide +kernel
theorem dX7_init_95 : decode cX7_init 95 = .ok (.iload_n 1, 1) := by decide +kernel
theorem dX7_init_96 : decode cX7_init 96 = .ok (.sipush 162, 3) := by decide +kernel
theorem dX7_init_99 : decode cX7_init 99 = .ok (.if_icmp .ge 20, 3) := by decide +kernel
theorem dX7_init_102 : decode cX7_init 102 = .ok (.aload_n 0, 1) := by decide +kernel
theorem dX7_init_103 : decode cX7_init 103 = .ok (.getfield 7, 3) := by decide +kernel
theorem dX7_init_106 : decode cX7_init 106 = .ok (.sipush 290, 3) := by decide +kernel
theorem dX7_init_109 : decode cX7_init 109 = .ok (.iload_n 1, 1) := by decide +kernel
theorem dX7_init_110 : decode cX7_init 110 = .ok (.iadd, 1) := by decide +kernel
theorem dX7_init_111 : decode cX7_init 111 = .ok (.iconst (-1), 1) := by decide +kernel
theorem dX7_init_112 : decode cX7_init 112 = .ok (.iastore, 1) := by decide +kernel
theorem dX7_init_113 : decode cX7_init 113 = .ok (.iinc 1 1, 3) := by decide +kernel
theorem dX7_init_116 : decode cX7_init 116 = .ok (.goto (-21), 3) := by decide +kernel
theorem dX7_init_119 : decode cX7_init 119 = .ok (.return_, 1) := by decide +kernel
theorem dX7_thrown_0 : decode cX7_thrown 0 = .ok (.aload_n 0, 1) := by decide +kernel
theorem dX7_thrown_1 : decode cX7_thrown 1 = .ok (.getfield 25, 3) := by decide +kernel
theorem dX7_thrown_4 : decode cX7_thrown 4 = .ok (.ireturn, 1) := by decide +kernel
theorem dX7_fails_0 : decode cX7_fails 0 = .ok (.aload_n 0, 1) := by decide +kernel
theorem dX7_fails_1 : decode cX7_fails 1 = .ok (.iload_n 1, 1) := by decide +kernel
theorem dX7_fails_2 : decode cX7_fails 2 = .ok (.putfield 25, 3) := by decide +kernel
theorem dX7_fails_5 : decode cX7_fails 5 = .ok (.iconst 0, 1) := by decide +kernel
theorem dX7_fails_6 : decode cX7_fails 6 = .ok (.ireturn, 1) := by decide +kernel
theorem dX7_in_0 : decode cX7_in 0 = .ok (.iload_n 0, 1) := by decide +kernel
theorem dX7_in_1 : decode cX7_in 1 = .ok (.iload_n 1, 1) := by decide +kernel
theorem dX7_in_2 : decode cX7_in 2 = .ok (.if_icmp .lt 12, 3) := by decide +kernel
theorem dX7_in_5 : decode cX7_in 5 = .ok (.iload_n 0, 1) := by decide +kernel
theorem dX7_in_6 : decode cX7_in 6 = .ok (.iload_n 2, 1) := by decide +kernel
theorem dX7_in_7 : decode cX7_in 7 = .ok (.if_icmp .gt 7, 3) := by decide +kernel
theorem dX7_in_10 : decode cX7_in 10 = .ok (.iconst 1, 1) := by decide +kernel
theorem dX7_in_11 : decode cX7_in 11 = .ok (.goto 4, 3) := by decide +kernel
theorem dX7_in_14 : decode cX7_in 14 = .ok (.iconst 0, 1) := by decide +kernel
theorem dX7_in_15 : decode cX7_in 15 = .ok (.ireturn, 1) := by decide +kernel
set_option maxRecDepth 20000 in
theorem ggX7_isWay_X7_in : GoodIn wsX7_isWay wsX7_in := goodIn_r _ [4] (by decide +kernel) (by decide +kernel)
set_option maxRecDepth 20000 in
theorem gX7_isWay_X7_in : GoodIn wsX7_isWay (va_wsS RX7 29 yX7_in wsX7_in) := goodIn_app (goodIn_of _ (by decide +kernel)) ggX7_isWay_X7_in
theorem dX7_isWay_0 : decode cX7_isWay 0 = .ok (.iload_n 0, 1) := by decide +kernel
theorem dX7_isWay_1 : decode cX7_isWay 1 = .ok (.iconst 0, 1) := by decide +kernel
theorem dX7_isWay_2 : decode cX7_isWay 2 = .ok (.bipush 8, 2) := by decide +kernel
theorem dX7_isWay_4 : decode cX7_isWay 4 = .ok (.invokestatic 29, 3) := by decide +kernel
theorem dX7_isWay_7 : decode cX7_isWay 7 = .ok (.ifCond .eq 18, 3) := by decide +kernel
theorem dX7_isWay_10 : decode cX7_isWay 10 = .ok (.iload_n 1, 1) := by decide +kernel
theorem dX7_isWay_11 : decode cX7_isWay 11 = .ok (.iload_n 0, 1) := by decide +kernel
theorem dX7_isWay_12 : decode cX7_isWay 12 = .ok (.if_icmp .le 13, 3) := by decide +kernel
theorem dX7_isWay_15 : decode cX7_isWay 15 = .ok (.iload_n 1, 1) := by decide +kernel
theorem dX7_isWay_16 : decode cX7_isWay 16 = .ok (.bipush 9, 2) := by decide +kernel
theorem dX7_isWay_18 : decode cX7_isWay 18 = .ok (.if_icmp .gt 7, 3) := by decide +kernel
theorem dX7_isWay_21 : decode cX7_isWay 21 = .ok (.iconst 1, 1) := by decide +kernel
theorem dX7_isWay_22 : decode cX7_isWay 22 = .ok (.goto 4, 3) := by decide +kernel
theorem dX7_isWay_25 : decode cX7_isWay 25 = .ok (.iconst 0, 1) := by decide +kernel
theorem dX7_isWay_26 : decode cX7_isWay 26 = .ok (.ireturn, 1) := by decide +kernel
theorem dX7_holds_0 : decode cX7_holds 0 = .ok (.aload_n 0, 1) := by decide +kernel
theorem dX7_holds_1 : decode cX7_holds 1 = .ok (.sipush 290, 3) := by decide +kernel
theorem dX7_holds_4 : decode cX7_holds 4 = .ok (.bipush 9, 2) := by decide +kernel
theorem dX7_holds_6 : decode cX7_holds 6 = .ok (.iload_n 1, 1) := by decide +kernel
theorem dX7_holds_7 : decode cX7_holds 7 = .ok (.imul, 1) := by decide +kernel
theorem dX7_holds_8 : decode cX7_holds 8 = .ok (.iadd, 1) := by decide +kernel
theorem dX7_holds_9 : decode cX7_holds 9 = .ok (.iload_n 2, 1) := by decide +kernel
theorem dX7_holds_10 : decode cX7_holds 10 = .ok (.iadd, 1) := by decide +kernel
theorem dX7_holds_11 : decode cX7_holds 11 = .ok (.iaload, 1) := by decide +kernel
theorem dX7_holds_12 : decode cX7_holds 12 = .ok (.ireturn, 1) := by decide +kernel
theorem dX7_of_0 : decode cX7_of 0 = .ok (.aload_n 0, 1) := by decide +kernel
theorem dX7_of_1 : decode cX7_of 1 = .ok (.bipush 10, 2) := by decide +kernel
theorem dX7_of_3 : decode cX7_of 3 = .ok (.bipush 7, 2) := by decide +kernel
theorem dX7_of_5 : decode cX7_of 5 = .ok (.iload_n 1, 1) := by decide +kernel
theorem dX7_of_6 : decode cX7_of 6 = .ok (.imul, 1) := by decide +kernel
theorem dX7_of_7 : decode cX7_of 7 = .ok (.iadd, 1) := by decide +kernel
theorem dX7_of_8 : decode cX7_of 8 = .ok (.iload_n 2, 1) := by decide +kernel
theorem dX7_of_9 : decode cX7_of 9 = .ok (.iadd, 1) := by decide +kernel
theorem dX7_of_10 : decode cX7_of 10 = .ok (.iaload, 1) := by decide +kernel
theorem dX7_of_11 : decode cX7_of 11 = .ok (.ireturn, 1) := by decide +kernel
theorem dX7_copies_0 : decode cX7_copies 0 = .ok (.iconst 0, 1) := by decide +kernel
theorem dX7_copies_1 : decode cX7_copies 1 = .ok (.istore 4, 2) := by decide +kernel
theorem dX7_copies_3 : decode cX7_copies 3 = .ok (.iload 4, 2) := by decide +kernel
theorem dX7_copies_5 : decode cX7_copies 5 = .ok (.sipush 452, 3) := by decide +kernel
theorem dX7_copies_8 : decode cX7_copies 8 = .ok (.if_icmp .ge 21, 3) := by decide +kernel
theorem dX7_copies_11 : decode cX7_copies 11 = .ok (.aload_n 2, 1) := by decide +kernel
theorem dX7_copies_12 : decode cX7_copies 12 = .ok (.iload_n 3, 1) := by decide +kernel
theorem dX7_copies_13 : decode cX7_copies 13 = .ok (.iload 4, 2) := by decide +kernel
theorem dX7_copies_15 : decode cX7_copies 15 = .ok (.iadd, 1) := by decide +kernel
theorem dX7_copies_16 : decode cX7_copies 16 = .ok (.aload_n 0, 1) := by decide +kernel
theorem dX7_copies_17 : decode cX7_copies 17 = .ok (.iload_n 1, 1) := by decide +kernel
theorem dX7_copies_18 : decode cX7_copies 18 = .ok (.iload 4, 2) := by decide +kernel
theorem dX7_copies_20 : decode cX7_copies 20 = .ok (.iadd, 1) := by decide +kernel
theorem dX7_copies_21 : decode cX7_copies 21 = .ok (.iaload, 1) := by decide +kernel
theorem dX7_copies_22 : decode cX7_copies 22 = .ok (.iastore, 1) := by decide +kernel
theorem dX7_copies_23 : decode cX7_copies 23 = .ok (.iinc 4 1, 3) := by decide +kernel
theorem dX7_copies_26 : decode cX7_copies 26 = .ok (.goto (-23), 3) := by decide +kernel
theorem dX7_copies_29 : decode cX7_copies 29 = .ok (.return_, 1) := by decide +kernel
set_option maxRecDepth 20000 in
theorem ggX7_saves_X7_copies : GoodIn wsX7_saves wsX7_copies := goodIn_r _ [7] (by decide +kernel) (by decide +kernel)
set_option maxRecDepth 20000 in
theorem gX7_saves_X7_copies : GoodIn wsX7_saves (va_wsS RX7 36 yX7_copies wsX7_copies) := goodIn_app (goodIn_of _ (by decide +kernel)) ggX7_saves_X7_copies
theorem dX7_saves_0 : decode cX7_saves 0 = .ok (.aload_n 0, 1) := by decide +kernel
theorem dX7_saves_1 : decode cX7_saves 1 = .ok (.getfield 33, 3) := by decide +kernel
theorem dX7_saves_4 : decode cX7_saves 4 = .ok (.bipush 6, 2) := by decide +kernel
theorem dX7_saves_6 : decode cX7_saves 6 = .ok (.if_icmp .ne 44, 3) := by decide +kernel
theorem dX7_saves_9 : decode cX7_saves 9 = .ok (.iconst 0, 1) := by decide +kernel
theorem dX7_saves_10 : decode cX7_saves 10 = .ok (.istore_n 1, 1) := by decide +kernel
theorem dX7_saves_11 : decode cX7_saves 11 = .ok (.iload_n 1, 1) := by decide +kernel
theorem dX7_saves_12 : decode cX7_saves 12 = .ok (.sipush 2260, 3) := by decide +kernel
theorem dX7_saves_15 : decode cX7_saves 15 = .ok (.if_icmp .ge 25, 3) := by decide +kernel
theorem dX7_saves_18 : decode cX7_saves 18 = .ok (.aload_n 0, 1) := by decide +kernel
theorem dX7_saves_19 : decode cX7_saves 19 = .ok (.getfield 16, 3) := by decide +kernel
theorem dX7_saves_22 : decode cX7_saves 22 = .ok (.iload_n 1, 1) := by decide +kernel
theorem dX7_saves_23 : decode cX7_saves 23 = .ok (.aload_n 0, 1) := by decide +kernel
theorem dX7_saves_24 : decode cX7_saves 24 = .ok (.getfield 16, 3) := by decide +kernel
theorem dX7_saves_27 : decode cX7_saves 27 = .ok (.iload_n 1, 1) := by decide +kernel
theorem dX7_saves_28 : decode cX7_saves 28 = .ok (.sipush 452, 3) := by decide +kernel
theorem dX7_saves_31 : decode cX7_saves 31 = .ok (.iadd, 1) := by decide +kernel
theorem dX7_saves_32 : decode cX7_saves 32 = .ok (.iaload, 1) := by decide +kernel
theorem dX7_saves_33 : decode cX7_saves 33 = .ok (.iastore, 1) := by decide +kernel
theorem dX7_saves_34 : decode cX7_saves 34 = .ok (.iinc 1 1, 3) := by decide +kernel
theorem dX7_saves_37 : decode cX7_saves 37 = .ok (.goto (-26), 3) := by decide +kernel
theorem dX7_saves_40 : decode cX7_saves 40 = .ok (.aload_n 0, 1) := by decide +kernel
theorem dX7_saves_41 : decode cX7_saves 41 = .ok (.dup, 1) := by decide +kernel
theorem dX7_saves_42 : decode cX7_saves 42 = .ok (.getfield 33, 3) := by decide +kernel
theorem dX7_saves_45 : decode cX7_saves 45 = .ok (.iconst 1, 1) := by decide +kernel
theorem dX7_saves_46 : decode cX7_saves 46 = .ok (.isub, 1) := by decide +kernel
theorem dX7_saves_47 : decode cX7_saves 47 = .ok (.putfield 33, 3) := by decide +kernel
theorem dX7_saves_50 : decode cX7_saves 50 = .ok (.aload_n 0, 1) := by decide +kernel
theorem dX7_saves_51 : decode cX7_saves 51 = .ok (.getfield 7, 3) := by decide +kernel
theorem dX7_saves_54 : decode cX7_saves 54 = .ok (.iconst 0, 1) := by decide +kernel
theorem dX7_saves_55 : decode cX7_saves 55 = .ok (.aload_n 0, 1) := by decide +kernel
theorem dX7_saves_56 : decode cX7_saves 56 = .ok (.getfield 16, 3) := by decide +kernel
theorem dX7_saves_59 : decode cX7_saves 59 = .ok (.sipush 452, 3) := by decide +kernel
theorem dX7_saves_62 : decode cX7_saves 62 = .ok (.aload_n 0, 1) := by decide +kernel
theorem dX7_saves_63 : decode cX7_saves 63 = .ok (.getfield 33, 3) := by decide +kernel
theorem dX7_saves_66 : decode cX7_saves 66 = .ok (.imul, 1) := by decide +kernel
theorem dX7_saves_67 : decode cX7_saves 67 = .ok (.invokestatic 36, 3) := by decide +kernel
theorem dX7_saves_70 : decode cX7_saves 70 = .ok (.aload_n 0, 1) := by decide +kernel
theorem dX7_saves_71 : decode cX7_saves 71 = .ok (.dup, 1) := by decide +kernel
theorem dX7_saves_72 : decode cX7_saves 72 = .ok (.getfield 33, 3) := by decide +kernel
theorem dX7_saves_75 : decode cX7_saves 75 = .ok (.iconst 1, 1) := by decide +kernel
theorem dX7_saves_76 : decode cX7_saves 76 = .ok (.iadd, 1) := by decide +kernel
theorem dX7_saves_77 : decode cX7_saves 77 = .ok (.putfield 33, 3) := by decide +kernel
theorem dX7_saves_80 : decode cX7_saves 80 = .ok (.return_, 1) := by decide +kernel
set_option maxRecDepth 20000 in
theorem ggX7_undo_X7_fails : GoodIn wsX7_undo wsX7_fails := goodIn_r _ [9, 1, 13, 14, 15, 16, 17, 18, 19, 20, 21, 22, 23, 24, 25, 26, 27] (by decide +kernel) (by decide +kernel)
set_option maxRecDepth 20000 in
theorem gX7_undo_X7_fails : GoodIn wsX7_undo (wsV RX7 40 RX7 yX7_fails wsX7_fails) := goodIn_app (goodIn_of _ (by decide +kernel)) ggX7_undo_X7_fails
set_option maxRecDepth 20000 in
theorem ggX7_undo_X7_copies : GoodIn wsX7_undo wsX7_copies := goodIn_r _ [12] (by decide +kernel) (by decide +kernel)
set_option maxRecDepth 20000 in
theorem gX7_undo_X7_copies : GoodIn wsX7_undo (va_wsS RX7 36 yX7_copies wsX7_copies) := goodIn_app (goodIn_of _ (by decide +kernel)) ggX7_undo_X7_copies
theorem dX7_undo_0 : decode cX7_undo 0 = .ok (.aload_n 0, 1) := by decide +kernel
theorem dX7_undo_1 : decode cX7_undo 1 = .ok (.iconst 0, 1) := by decide +kernel
theorem dX7_undo_2 : decode cX7_undo 2 = .ok (.putfield 25, 3) := by decide +kernel
theorem dX7_undo_5 : decode cX7_undo 5 = .ok (.aload_n 0, 1) := by decide +kernel
theorem dX7_undo_6 : decode cX7_undo 6 = .ok (.getfield 33, 3) := by decide +kernel
theorem dX7_undo_9 : decode cX7_undo 9 = .ok (.ifCond .ne 9, 3) := by decide +kernel
theorem dX7_undo_12 : decode cX7_undo 12 = .ok (.aload_n 0, 1) := by decide +kernel
theorem dX7_undo_13 : decode cX7_undo 13 = .ok (.iconst 1, 1) := by decide +kernel
theorem dX7_undo_14 : decode cX7_undo 14 = .ok (.invokevirtual 40, 3) := by decide +kernel
theorem dX7_undo_17 : decode cX7_undo 17 = .ok (.ireturn, 1) := by decide +kernel
theorem dX7_undo_18 : decode cX7_undo 18 = .ok (.aload_n 0, 1) := by decide +kernel
theorem dX7_undo_19 : decode cX7_undo 19 = .ok (.dup, 1) := by decide +kernel
theorem dX7_undo_20 : decode cX7_undo 20 = .ok (.getfield 33, 3) := by decide +kernel
theorem dX7_undo_23 : decode cX7_undo 23 = .ok (.iconst 1, 1) := by decide +kernel
theorem dX7_undo_24 : decode cX7_undo 24 = .ok (.isub, 1) := by decide +kernel
theorem dX7_undo_25 : decode cX7_undo 25 = .ok (.putfield 33, 3) := by decide +kernel
theorem dX7_undo_28 : decode cX7_undo 28 = .ok (.aload_n 0, 1) := by decide +kernel
theorem dX7_undo_29 : decode cX7_undo 29 = .ok (.getfield 16, 3) := by decide +kernel
theorem dX7_undo_32 : decode cX7_undo 32 = .ok (.sipush 452, 3) := by decide +kernel
theorem dX7_undo_35 : decode cX7_undo 35 = .ok (.aload_n 0, 1) := by decide +kernel
theorem dX7_undo_36 : decode cX7_undo 36 = .ok (.getfield 33, 3) := by decide +kernel
theorem dX7_undo_39 : decode cX7_undo 39 = .ok (.imul, 1) := by decide +kernel
theorem dX7_undo_40 : decode cX7_undo 40 = .ok (.aload_n 0, 1) := by decide +kernel
theorem dX7_undo_41 : decode cX7_undo 41 = .ok (.getfield 7, 3) := by decide +kernel
theorem dX7_undo_44 : decode cX7_undo 44 = .ok (.iconst 0, 1) := by decide +kernel
theorem dX7_undo_45 : decode cX7_undo 45 = .ok (.invokestatic 36, 3) := by decide +kernel
theorem dX7_undo_48 : decode cX7_undo 48 = .ok (.aload_n 0, 1) := by decide +kernel
theorem dX7_undo_49 : decode cX7_undo 49 = .ok (.getfield 33, 3) := by decide +kernel
theorem dX7_undo_52 : decode cX7_undo 52 = .ok (.ireturn, 1) := by decide +kernel
set_option maxRecDepth 20000 in
theorem ggX7_canBeHad_X7_holds : GoodIn wsX7_canBeHad wsX7_holds := goodIn_r _ [4] (by decide +kernel) (by decide +kernel)
set_option maxRecDepth 20000 in
theorem gX7_canBeHad_X7_holds : GoodIn wsX7_canBeHad (va_wsS RX7 44 yX7_holds wsX7_holds) := goodIn_app (goodIn_of _ (by decide +kernel)) ggX7_canBeHad_X7_holds
theorem dX7_canBeHad_0 : decode cX7_canBeHad 0 = .ok (.iload_n 2, 1) := by decide +kernel
theorem dX7_canBeHad_1 : decode cX7_canBeHad 1 = .ok (.aload_n 0, 1) := by decide +kernel
theorem dX7_canBeHad_2 : decode cX7_canBeHad 2 = .ok (.iconst 3, 1) := by decide +kernel
theorem dX7_canBeHad_3 : decode cX7_canBeHad 3 = .ok (.iload_n 1, 1) := by decide +kernel
theorem dX7_canBeHad_4 : decode cX7_canBeHad 4 = .ok (.bipush 6, 2) := by decide +kernel
theorem dX7_canBeHad_6 : decode cX7_canBeHad 6 = .ok (.idiv, 1) := by decide +kernel
theorem dX7_canBeHad_7 : decode cX7_canBeHad 7 = .ok (.iadd, 1) := by decide +kernel
theorem dX7_canBeHad_8 : decode cX7_canBeHad 8 = .ok (.iaload, 1) := by decide +kernel
theorem dX7_canBeHad_9 : decode cX7_canBeHad 9 = .ok (.if_icmp .ge 17, 3) := by decide +kernel
theorem dX7_canBeHad_12 : decode cX7_canBeHad 12 = .ok (.aload_n 0, 1) := by decide +kernel
theorem dX7_canBeHad_13 : decode cX7_canBeHad 13 = .ok (.iload_n 1, 1) := by decide +kernel
theorem dX7_canBeHad_14 : decode cX7_canBeHad 14 = .ok (.iload_n 2, 1) := by decide +kernel
theorem dX7_canBeHad_15 : decode cX7_canBeHad 15 = .ok (.invokestatic 44, 3) := by decide +kernel
theorem dX7_canBeHad_18 : decode cX7_canBeHad 18 = .ok (.iconst (-1), 1) := by decide +kernel
theorem dX7_canBeHad_19 : decode cX7_canBeHad 19 = .ok (.if_icmp .ne 7, 3) := by decide +kernel
theorem dX7_canBeHad_22 : decode cX7_canBeHad 22 = .ok (.iconst 1, 1) := by decide +kernel
theorem dX7_canBeHad_23 : decode cX7_canBeHad 23 = .ok (.goto 4, 3) := by decide +kernel
theorem dX7_canBeHad_26 : decode cX7_canBeHad 26 = .ok (.iconst 0, 1) := by decide +kernel
theorem dX7_canBeHad_27 : decode cX7_canBeHad 27 = .ok (.ireturn, 1) := by decide +kernel
set_option maxRecDepth 20000 in
theorem ggX7_isFree_X7_canBeHad : GoodIn wsX7_isFree wsX7_canBeHad := goodIn_r _ [4, 5, 6, 3, 7] (by decide +kernel) (by decide +kernel)
set_option maxRecDepth 20000 in
theorem gX7_isFree_X7_canBeHad : GoodIn wsX7_isFree (va_wsS RX7 48 yX7_canBeHad wsX7_canBeHad) := goodIn_app (goodIn_of _ (by decide +kernel)) ggX7_isFree_X7_canBeHad
theorem dX7_isFree_0 : decode cX7_isFree 0 = .ok (.iconst 1, 1) := by decide +kernel
theorem dX7_isFree_1 : decode cX7_isFree 1 = .ok (.istore 4, 2) := by decide +kernel
theorem dX7_isFree_3 : decode cX7_isFree 3 = .ok (.iload_n 2, 1) := by decide +kernel
theorem dX7_isFree_4 : decode cX7_isFree 4 = .ok (.istore 5, 2) := by decide +kernel
theorem dX7_isFree_6 : decode cX7_isFree 6 = .ok (.iload 5, 2) := by decide +kernel
theorem dX7_isFree_8 : decode cX7_isFree 8 = .ok (.iload_n 3, 1) := by decide +kernel
theorem dX7_isFree_9 : decode cX7_isFree 9 = .ok (.if_icmp .ge 31, 3) := by decide +kernel
theorem dX7_isFree_12 : decode cX7_isFree 12 = .ok (.iload 4, 2) := by decide +kernel
theorem dX7_isFree_14 : decode cX7_isFree 14 = .ok (.ifCond .eq 17, 3) := by decide +kernel
theorem dX7_isFree_17 : decode cX7_isFree 17 = .ok (.aload_n 0, 1) := by decide +kernel
theorem dX7_isFree_18 : decode cX7_isFree 18 = .ok (.iload_n 1, 1) := by decide +kernel
theorem dX7_isFree_19 : decode cX7_isFree 19 = .ok (.iload 5, 2) := by decide +kernel
theorem dX7_isFree_21 : decode cX7_isFree 21 = .ok (.invokestatic 48, 3) := by decide +kernel
theorem dX7_isFree_24 : decode cX7_isFree 24 = .ok (.ifCond .eq 7, 3) := by decide +kernel
theorem dX7_isFree_27 : decode cX7_isFree 27 = .ok (.iconst 1, 1) := by decide +kernel
theorem dX7_isFree_28 : decode cX7_isFree 28 = .ok (.goto 4, 3) := by decide +kernel
theorem dX7_isFree_31 : decode cX7_isFree 31 = .ok (.iconst 0, 1) := by decide +kernel
theorem dX7_isFree_32 : decode cX7_isFree 32 = .ok (.istore 4, 2) := by decide +kernel
theorem dX7_isFree_34 : decode cX7_isFree 34 = .ok (.iinc 5 1, 3) := by decide +kernel
theorem dX7_isFree_37 : decode cX7_isFree 37 = .ok (.goto (-31), 3) := by decide +kernel
theorem dX7_isFree_40 : decode cX7_isFree 40 = .ok (.iload 4, 2) := by decide +kernel
theorem dX7_isFree_42 : decode cX7_isFree 42 = .ok (.ireturn, 1) := by decide +kernel
set_option maxRecDepth 20000 in
theorem ggX7_wakes_X7_holds : GoodIn wsX7_wakes wsX7_holds := goodIn_r _ [4] (by decide +kernel) (by decide +kernel)
set_option maxRecDepth 20000 in
theorem gX7_wakes_X7_holds : GoodIn wsX7_wakes (va_wsS RX7 44 yX7_holds wsX7_holds) := goodIn_app (goodIn_of _ (by decide +kernel)) ggX7_wakes_X7_holds
theorem dX7_wakes_0 : decode cX7_wakes 0 = .ok (.iload_n 1, 1) := by decide +kernel
theorem dX7_wakes_1 : decode cX7_wakes 1 = .ok (.iconst 2, 1) := by decide +kernel
theorem dX7_wakes_2 : decode cX7_wakes 2 = .ok (.irem, 1) := by decide +kernel
theorem dX7_wakes_3 : decode cX7_wakes 3 = .ok (.ifCond .ne 9, 3) := by decide +kernel
theorem dX7_wakes_6 : decode cX7_wakes 6 = .ok (.iload_n 1, 1) := by decide +kernel
theorem dX7_wakes_7 : decode cX7_wakes 7 = .ok (.iconst 1, 1) := by decide +kernel
theorem dX7_wakes_8 : decode cX7_wakes 8 = .ok (.iadd, 1) := by decide +kernel
theorem dX7_wakes_9 : decode cX7_wakes 9 = .ok (.goto 6, 3) := by decide +kernel
theorem dX7_wakes_12 : decode cX7_wakes 12 = .ok (.iload_n 1, 1) := by decide +kernel
theorem dX7_wakes_13 : decode cX7_wakes 13 = .ok (.iconst 1, 1) := by decide +kernel
theorem dX7_wakes_14 : decode cX7_wakes 14 = .ok (.isub, 1) := by decide +kernel
theorem dX7_wakes_15 : decode cX7_wakes 15 = .ok (.istore 4, 2) := by decide +kernel
theorem dX7_wakes_17 : decode cX7_wakes 17 = .ok (.iconst 0, 1) := by decide +kernel
theorem dX7_wakes_18 : decode cX7_wakes 18 = .ok (.istore 5, 2) := by decide +kernel
theorem dX7_wakes_20 : decode cX7_wakes 20 = .ok (.iload_n 2, 1) := by decide +kernel
theorem dX7_wakes_21 : decode cX7_wakes 21 = .ok (.iconst 1, 1) := by decide +kernel
theorem dX7_wakes_22 : decode cX7_wakes 22 = .ok (.iadd, 1) := by decide +kernel
theorem dX7_wakes_23 : decode cX7_wakes 23 = .ok (.istore 6, 2) := by decide +kernel
theorem dX7_wakes_25 : decode cX7_wakes 25 = .ok (.iload 6, 2) := by decide +kernel
theorem dX7_wakes_27 : decode cX7_wakes 27 = .ok (.iload_n 3, 1) := by decide +kernel
theorem dX7_wakes_28 : decode cX7_wakes 28 = .ok (.if_icmp .ge 40, 3) := by decide +kernel
theorem dX7_wakes_31 : decode cX7_wakes 31 = .ok (.iload 5, 2) := by decide +kernel
theorem dX7_wakes_33 : decode cX7_wakes 33 = .ok (.aload_n 0, 1) := by decide +kernel
theorem dX7_wakes_34 : decode cX7_wakes 34 = .ok (.iload 4, 2) := by decide +kernel
theorem dX7_wakes_36 : decode cX7_wakes 36 = .ok (.iload 6, 2) := by decide +kernel
theorem dX7_wakes_38 : decode cX7_wakes 38 = .ok (.iconst 1, 1) := by decide +kernel
theorem dX7_wakes_39 : decode cX7_wakes 39 = .ok (.isub, 1) := by decide +kernel
theorem dX7_wakes_40 : decode cX7_wakes 40 = .ok (.invokestatic 44, 3) := by decide +kernel
theorem dX7_wakes_43 : decode cX7_wakes 43 = .ok (.aload_n 0, 1) := by decide +kernel
theorem dX7_wakes_44 : decode cX7_wakes 44 = .ok (.iload 4, 2) := by decide +kernel
theorem dX7_wakes_46 : decode cX7_wakes 46 = .ok (.iload 6, 2) := by decide +kernel
theorem dX7_wakes_48 : decode cX7_wakes 48 = .ok (.invokestatic 44, 3) := by decide +kernel
theorem dX7_wakes_51 : decode cX7_wakes 51 = .ok (.if_icmp .ne 7, 3) := by decide +kernel
theorem dX7_wakes_54 : decode cX7_wakes 54 = .ok (.iconst 0, 1) := by decide +kernel
theorem dX7_wakes_55 : decode cX7_wakes 55 = .ok (.goto 4, 3) := by decide +kernel
theorem dX7_wakes_58 : decode cX7_wakes 58 = .ok (.iconst 1, 1) := by decide +kernel
theorem dX7_wakes_59 : decode cX7_wakes 59 = .ok (.iadd, 1) := by decide +kernel
theorem dX7_wakes_60 : decode cX7_wakes 60 = .ok (.istore 5, 2) := by decide +kernel
theorem dX7_wakes_62 : decode cX7_wakes 62 = .ok (.iinc 6 1, 3) := by decide +kernel
theorem dX7_wakes_65 : decode cX7_wakes 65 = .ok (.goto (-40), 3) := by decide +kernel
theorem dX7_wakes_68 : decode cX7_wakes 68 = .ok (.iload 5, 2) := by decide +kernel
theorem dX7_wakes_70 : decode cX7_wakes 70 = .ok (.ireturn, 1) := by decide +kernel
set_option maxRecDepth 20000 in
theorem ggX7_isNight_X7_in : GoodIn wsX7_isNight wsX7_in := goodIn_r _ [4] (by decide +kernel) (by decide +kernel)
set_option maxRecDepth 20000 in
theorem gX7_isNight_X7_in : GoodIn wsX7_isNight (va_wsS RX7 29 yX7_in wsX7_in) := goodIn_app (goodIn_of _ (by decide +kernel)) ggX7_isNight_X7_in
theorem dX7_isNight_0 : decode cX7_isNight 0 = .ok (.iload_n 1, 1) := by decide +kernel
theorem dX7_isNight_1 : decode cX7_isNight 1 = .ok (.aload_n 0, 1) := by decide +kernel
theorem dX7_isNight_2 : decode cX7_isNight 2 = .ok (.iconst 0, 1) := by decide +kernel
theorem dX7_isNight_3 : decode cX7_isNight 3 = .ok (.iaload, 1) := by decide +kernel
theorem dX7_isNight_4 : decode cX7_isNight 4 = .ok (.aload_n 0, 1) := by decide +kernel
theorem dX7_isNight_5 : decode cX7_isNight 5 = .ok (.iconst 1, 1) := by decide +kernel
theorem dX7_isNight_6 : decode cX7_isNight 6 = .ok (.iaload, 1) := by decide +kernel
theorem dX7_isNight_7 : decode cX7_isNight 7 = .ok (.invokestatic 29, 3) := by decide +kernel
theorem dX7_isNight_10 : decode cX7_isNight 10 = .ok (.ireturn, 1) := by decide +kernel
set_option maxRecDepth 20000 in
theorem ggX7_findsOne_X7_isFree : GoodIn wsX7_findsOne wsX7_isFree := goodIn_r _ [8, 9, 10, 7, 11, 12, 13, 14] (by decide +kernel) (by decide +kernel)
set_option maxRecDepth 20000 in
theorem gX7_findsOne_X7_isFree : GoodIn wsX7_findsOne (va_wsS RX7 58 yX7_isFree wsX7_isFree) := goodIn_app (goodIn_of _ (by decide +kernel)) ggX7_findsOne_X7_isFree
set_option maxRecDepth 20000 in
theorem ggX7_findsOne_X7_wakes : GoodIn wsX7_findsOne wsX7_wakes := goodIn_r _ [17, 12, 13, 7, 14] (by decide +kernel) (by decide +kernel)
set_option maxRecDepth 20000 in
theorem gX7_findsOne_X7_wakes : GoodIn wsX7_findsOne (va_wsS RX7 62 yX7_wakes wsX7_wakes) := goodIn_app (goodIn_of _ (by decide +kernel)) ggX7_findsOne_X7_wakes
theorem dX7_findsOne_0 : decode cX7_findsOne 0 = .ok (.aload_n 0, 1) := by decide +kernel
theorem dX7_findsOne_1 : decode cX7_findsOne 1 = .ok (.iconst (-1), 1) := by decide +kernel
theorem dX7_findsOne_2 : decode cX7_findsOne 2 = .ok (.putfield 52, 3) := by decide +kernel
theorem dX7_findsOne_5 : decode cX7_findsOne 5 = .ok (.aload_n 0, 1) := by decide +kernel
theorem dX7_findsOne_6 : decode cX7_findsOne 6 = .ok (.iconst (-1), 1) := by decide +kernel
theorem dX7_findsOne_7 : decode cX7_findsOne 7 = .ok (.putfield 55, 3) := by decide +kernel
theorem dX7_findsOne_10 : decode cX7_findsOne 10 = .ok (.iconst 0, 1) := by decide +kernel
theorem dX7_findsOne_11 : decode cX7_findsOne 11 = .ok (.istore 4, 2) := by decide +kernel
theorem dX7_findsOne_13 : decode cX7_findsOne 13 = .ok (.iload 4, 2) := by decide +kernel
theorem dX7_findsOne_15 : decode cX7_findsOne 15 = .ok (.bipush 18, 2) := by decide +kernel
theorem dX7_findsOne_17 : decode cX7_findsOne 17 = .ok (.if_icmp .ge 61, 3) := by decide +kernel
theorem dX7_findsOne_20 : decode cX7_findsOne 20 = .ok (.aload_n 1, 1) := by decide +kernel
theorem dX7_findsOne_21 : decode cX7_findsOne 21 = .ok (.iload 4, 2) := by decide +kernel
theorem dX7_findsOne_23 : decode cX7_findsOne 23 = .ok (.iload_n 2, 1) := by decide +kernel
theorem dX7_findsOne_24 : decode cX7_findsOne 24 = .ok (.iload_n 3, 1) := by decide +kernel
theorem dX7_findsOne_25 : decode cX7_findsOne 25 = .ok (.invokestatic 58, 3) := by decide +kernel
theorem dX7_findsOne_28 : decode cX7_findsOne 28 = .ok (.ifCond .eq 44, 3) := by decide +kernel
theorem dX7_findsOne_31 : decode cX7_findsOne 31 = .ok (.aload_n 0, 1) := by decide +kernel
theorem dX7_findsOne_32 : decode cX7_findsOne 32 = .ok (.getfield 52, 3) := by decide +kernel
theorem dX7_findsOne_35 : decode cX7_findsOne 35 = .ok (.iconst (-1), 1) := by decide +kernel
theorem dX7_findsOne_36 : decode cX7_findsOne 36 = .ok (.if_icmp .eq 18, 3) := by decide +kernel
theorem dX7_findsOne_39 : decode cX7_findsOne 39 = .ok (.aload_n 1, 1) := by decide +kernel
theorem dX7_findsOne_40 : decode cX7_findsOne 40 = .ok (.iload 4, 2) := by decide +kernel
theorem dX7_findsOne_42 : decode cX7_findsOne 42 = .ok (.iload_n 2, 1) := by decide +kernel
theorem dX7_findsOne_43 : decode cX7_findsOne 43 = .ok (.iload_n 3, 1) := by decide +kernel
theorem dX7_findsOne_44 : decode cX7_findsOne 44 = .ok (.invokestatic 62, 3) := by decide +kernel
theorem dX7_findsOne_47 : decode cX7_findsOne 47 = .ok (.aload_n 0, 1) := by decide +kernel
theorem dX7_findsOne_48 : decode cX7_findsOne 48 = .ok (.getfield 66, 3) := by decide +kernel
theorem dX7_findsOne_51 : decode cX7_findsOne 51 = .ok (.if_icmp .ge 21, 3) := by decide +kernel
theorem dX7_findsOne_54 : decode cX7_findsOne 54 = .ok (.aload_n 0, 1) := by decide +kernel
theorem dX7_findsOne_55 : decode cX7_findsOne 55 = .ok (.iload 4, 2) := by decide +kernel
theorem dX7_findsOne_57 : decode cX7_findsOne 57 = .ok (.putfield 52, 3) := by decide +kernel
theorem dX7_findsOne_60 : decode cX7_findsOne 60 = .ok (.aload_n 0, 1) := by decide +kernel
theorem dX7_findsOne_61 : decode cX7_findsOne 61 = .ok (.aload_n 1, 1) := by decide +kernel
theorem dX7_findsOne_62 : decode cX7_findsOne 62 = .ok (.iload 4, 2) := by decide +kernel
theorem dX7_findsOne_64 : decode cX7_findsOne 64 = .ok (.iload_n 2, 1) := by decide +kernel
theorem dX7_findsOne_65 : decode cX7_findsOne 65 = .ok (.iload_n 3, 1) := by decide +kernel
theorem dX7_findsOne_66 : decode cX7_findsOne 66 = .ok (.invokestatic 62, 3) := by decide +kernel
theorem dX7_findsOne_69 : decode cX7_findsOne 69 = .ok (.putfield 66, 3) := by decide +kernel
theorem dX7_findsOne_72 : decode cX7_findsOne 72 = .ok (.iinc 4 1, 3) := by decide +kernel
theorem dX7_findsOne_75 : decode cX7_findsOne 75 = .ok (.goto (-62), 3) := by decide +kernel
theorem dX7_findsOne_78 : decode cX7_findsOne 78 = .ok (.aload_n 0, 1) := by decide +kernel
theorem dX7_findsOne_79 : decode cX7_findsOne 79 = .ok (.aload_n 0, 1) := by decide +kernel
theorem dX7_findsOne_80 : decode cX7_findsOne 80 = .ok (.getfield 52, 3) := by decide +kernel
theorem dX7_findsOne_83 : decode cX7_findsOne 83 = .ok (.putfield 69, 3) := by decide +kernel
theorem dX7_findsOne_86 : decode cX7_findsOne 86 = .ok (.aload_n 0, 1) := by decide +kernel
theorem dX7_findsOne_87 : decode cX7_findsOne 87 = .ok (.getfield 52, 3) := by decide +kernel
theorem dX7_findsOne_90 : decode cX7_findsOne 90 = .ok (.iconst (-1), 1) := by decide +kernel
theorem dX7_findsOne_91 : decode cX7_findsOne 91 = .ok (.if_icmp .eq 7, 3) := by decide +kernel
theorem dX7_findsOne_94 : decode cX7_findsOne 94 = .ok (.iconst 1, 1) := by decide +kernel
theorem dX7_findsOne_95 : decode cX7_findsOne 95 = .ok (.goto 4, 3) := by decide +kernel
theorem dX7_findsOne_98 : decode cX7_findsOne 98 = .ok (.iconst 0, 1) := by decide +kernel
theorem dX7_findsOne_99 : decode cX7_findsOne 99 = .ok (.ireturn, 1) := by decide +kernel
set_option maxRecDepth 20000 in
theorem ggX7_best_X7_isFree : GoodIn wsX7_best wsX7_isFree := goodIn_r _ [4, 5, 6, 3, 7, 8, 9, 10] (by decide +kernel) (by decide +kernel)
set_option maxRecDepth 20000 in
theorem gX7_best_X7_isFree : GoodIn wsX7_best (va_wsS RX7 58 yX7_isFree wsX7_isFree) := goodIn_app (goodIn_of _ (by decide +kernel)) ggX7_best_X7_isFree
set_option maxRecDepth 20000 in
theorem ggX7_best_X7_wakes : GoodIn wsX7_best wsX7_wakes := goodIn_r _ [13, 8, 9, 3, 10] (by decide +kernel) (by decide +kernel)
set_option maxRecDepth 20000 in
theorem gX7_best_X7_wakes : GoodIn wsX7_best (va_wsS RX7 62 yX7_wakes wsX7_wakes) := goodIn_app (goodIn_of _ (by decide +kernel)) ggX7_best_X7_wakes
theorem dX7_best_0 : decode cX7_best 0 = .ok (.iconst (-1), 1) := by decide +kernel
theorem dX7_best_1 : decode cX7_best 1 = .ok (.istore 4, 2) := by decide +kernel
theorem dX7_best_3 : decode cX7_best 3 = .ok (.iconst 0, 1) := by decide +kernel
theorem dX7_best_4 : decode cX7_best 4 = .ok (.istore 5, 2) := by decide +kernel
theorem dX7_best_6 : decode cX7_best 6 = .ok (.iload 5, 2) := by decide +kernel
theorem dX7_best_8 : decode cX7_best 8 = .ok (.bipush 18, 2) := by decide +kernel
theorem dX7_best_10 : decode cX7_best 10 = .ok (.if_icmp .ge 72, 3) := by decide +kernel
theorem dX7_best_13 : decode cX7_best 13 = .ok (.iload 5, 2) := by decide +kernel
theorem dX7_best_15 : decode cX7_best 15 = .ok (.iload_n 3, 1) := by decide +kernel
theorem dX7_best_16 : decode cX7_best 16 = .ok (.if_icmp .eq 18, 3) := by decide +kernel
theorem dX7_best_19 : decode cX7_best 19 = .ok (.aload_n 0, 1) := by decide +kernel
theorem dX7_best_20 : decode cX7_best 20 = .ok (.iload 5, 2) := by decide +kernel
theorem dX7_best_22 : decode cX7_best 22 = .ok (.iload_n 1, 1) := by decide +kernel
theorem dX7_best_23 : decode cX7_best 23 = .ok (.iload_n 2, 1) := by decide +kernel
theorem dX7_best_24 : decode cX7_best 24 = .ok (.invokestatic 58, 3) := by decide +kernel
theorem dX7_best_27 : decode cX7_best 27 = .ok (.ifCond .eq 7, 3) := by decide +kernel
theorem dX7_best_30 : decode cX7_best 30 = .ok (.iconst 1, 1) := by decide +kernel
theorem dX7_best_31 : decode cX7_best 31 = .ok (.goto 4, 3) := by decide +kernel
theorem dX7_best_34 : decode cX7_best 34 = .ok (.iconst 0, 1) := by decide +kernel
theorem dX7_best_35 : decode cX7_best 35 = .ok (.istore 6, 2) := by decide +kernel
theorem dX7_best_37 : decode cX7_best 37 = .ok (.iload 6, 2) := by decide +kernel
theorem dX7_best_39 : decode cX7_best 39 = .ok (.ifCond .eq 33, 3) := by decide +kernel
theorem dX7_best_42 : decode cX7_best 42 = .ok (.iload 4, 2) := by decide +kernel
theorem dX7_best_44 : decode cX7_best 44 = .ok (.iconst (-1), 1) := by decide +kernel
theorem dX7_best_45 : decode cX7_best 45 = .ok (.if_icmp .eq 22, 3) := by decide +kernel
theorem dX7_best_48 : decode cX7_best 48 = .ok (.aload_n 0, 1) := by decide +kernel
theorem dX7_best_49 : decode cX7_best 49 = .ok (.iload 5, 2) := by decide +kernel
theorem dX7_best_51 : decode cX7_best 51 = .ok (.iload_n 1, 1) := by decide +kernel
theorem dX7_best_52 : decode cX7_best 52 = .ok (.iload_n 2, 1) := by decide +kernel
theorem dX7_best_53 : decode cX7_best 53 = .ok (.invokestatic 62, 3) := by decide +kernel
theorem dX7_best_56 : decode cX7_best 56 = .ok (.aload_n 0, 1) := by decide +kernel
theorem dX7_best_57 : decode cX7_best 57 = .ok (.iload 4, 2) := by decide +kernel
theorem dX7_best_59 : decode cX7_best 59 = .ok (.iload_n 1, 1) := by decide +kernel
theorem dX7_best_60 : decode cX7_best 60 = .ok (.iload_n 2, 1) := by decide +kernel
theorem dX7_best_61 : decode cX7_best 61 = .ok (.invokestatic 62, 3) := by decide +kernel
theorem dX7_best_64 : decode cX7_best 64 = .ok (.if_icmp .ge 8, 3) := by decide +kernel
theorem dX7_best_67 : decode cX7_best 67 = .ok (.iload 5, 2) := by decide +kernel
theorem dX7_best_69 : decode cX7_best 69 = .ok (.goto 5, 3) := by decide +kernel
theorem dX7_best_72 : decode cX7_best 72 = .ok (.iload 4, 2) := by decide +kernel
theorem dX7_best_74 : decode cX7_best 74 = .ok (.istore 4, 2) := by decide +kernel
theorem dX7_best_76 : decode cX7_best 76 = .ok (.iinc 5 1, 3) := by decide +kernel
theorem dX7_best_79 : decode cX7_best 79 = .ok (.goto (-73), 3) := by decide +kernel
theorem dX7_best_82 : decode cX7_best 82 = .ok (.iload 4, 2) := by decide +kernel
theorem dX7_best_84 : decode cX7_best 84 = .ok (.ireturn, 1) := by decide +kernel
set_option maxRecDepth 20000 in
theorem ggX7_findsTwo_X7_isNight : GoodIn wsX7_findsTwo wsX7_isNight := goodIn_r _ [8, 9, 10, 7, 11] (by decide +kernel) (by decide +kernel)
set_option maxRecDepth 20000 in
theorem gX7_findsTwo_X7_isNight : GoodIn wsX7_findsTwo (va_wsS RX7 72 yX7_isNight wsX7_isNight) := goodIn_app (goodIn_of _ (by decide +kernel)) ggX7_findsTwo_X7_isNight
set_option maxRecDepth 20000 in
theorem ggX7_findsTwo_X7_isFree : GoodIn wsX7_findsTwo wsX7_isFree := goodIn_r _ [14, 15, 16, 7, 17, 18, 19, 20] (by decide +kernel) (by decide +kernel)
set_option maxRecDepth 20000 in
theorem gX7_findsTwo_X7_isFree : GoodIn wsX7_findsTwo (va_wsS RX7 58 yX7_isFree wsX7_isFree) := goodIn_app (goodIn_of _ (by decide +kernel)) ggX7_findsTwo_X7_isFree
set_option maxRecDepth 20000 in
theorem ggX7_findsTwo_X7_best : GoodIn wsX7_findsTwo wsX7_best := goodIn_r _ [23, 12, 13, 7, 14, 15, 16, 17, 18, 19, 20, 24, 25, 26] (by decide +kernel) (by decide +kernel)
set_option maxRecDepth 20000 in
theorem gX7_findsTwo_X7_best : GoodIn wsX7_findsTwo (va_wsS RX7 76 yX7_best wsX7_best) := goodIn_app (goodIn_of _ (by decide +kernel)) ggX7_findsTwo_X7_best
set_option maxRecDepth 20000 in
theorem ggX7_findsTwo_X7_wakes : GoodIn wsX7_findsTwo wsX7_wakes := goodIn_r _ [26, 18, 19, 7, 20] (by decide +kernel) (by decide +kernel)
set_option maxRecDepth 20000 in
theorem gX7_findsTwo_X7_wakes : GoodIn wsX7_findsTwo (va_wsS RX7 62 yX7_wakes wsX7_wakes) := goodIn_app (goodIn_of _ (by decide +kernel)) ggX7_findsTwo_X7_wakes
theorem dX7_findsTwo_0 : decode cX7_findsTwo 0 = .ok (.iload_n 2, 1) := by decide +kernel
theorem dX7_findsTwo_1 : decode cX7_findsTwo 1 = .ok (.iconst 1, 1) := by decide +kernel
theorem dX7_findsTwo_2 : decode cX7_findsTwo 2 = .ok (.iadd, 1) := by decide +kernel
theorem dX7_findsTwo_3 : decode cX7_findsTwo 3 = .ok (.istore 4, 2) := by decide +kernel
theorem dX7_findsTwo_5 : decode cX7_findsTwo 5 = .ok (.iload 4, 2) := by decide +kernel
theorem dX7_findsTwo_7 : decode cX7_findsTwo 7 = .ok (.iload_n 3, 1) := by decide +kernel
theorem dX7_findsTwo_8 : decode cX7_findsTwo 8 = .ok (.if_icmp .ge 139, 3) := by decide +kernel
theorem dX7_findsTwo_11 : decode cX7_findsTwo 11 = .ok (.iconst 0, 1) := by decide +kernel
theorem dX7_findsTwo_12 : decode cX7_findsTwo 12 = .ok (.istore 5, 2) := by decide +kernel
theorem dX7_findsTwo_14 : decode cX7_findsTwo 14 = .ok (.iload 5, 2) := by decide +kernel
theorem dX7_findsTwo_16 : decode cX7_findsTwo 16 = .ok (.bipush 18, 2) := by decide +kernel
theorem dX7_findsTwo_18 : decode cX7_findsTwo 18 = .ok (.if_icmp .ge 123, 3) := by decide +kernel
theorem dX7_findsTwo_21 : decode cX7_findsTwo 21 = .ok (.aload_n 1, 1) := by decide +kernel
theorem dX7_findsTwo_22 : decode cX7_findsTwo 22 = .ok (.iload 4, 2) := by decide +kernel
theorem dX7_findsTwo_24 : decode cX7_findsTwo 24 = .ok (.invokestatic 72, 3) := by decide +kernel
theorem dX7_findsTwo_27 : decode cX7_findsTwo 27 = .ok (.ifCond .ne 114, 3) := by decide +kernel
theorem dX7_findsTwo_30 : decode cX7_findsTwo 30 = .ok (.aload_n 1, 1) := by decide +kernel
theorem dX7_findsTwo_31 : decode cX7_findsTwo 31 = .ok (.iload 5, 2) := by decide +kernel
theorem dX7_findsTwo_33 : decode cX7_findsTwo 33 = .ok (.iload_n 2, 1) := by decide +kernel
theorem dX7_findsTwo_34 : decode cX7_findsTwo 34 = .ok (.iload 4, 2) := by decide +kernel
theorem dX7_findsTwo_36 : decode cX7_findsTwo 36 = .ok (.invokestatic 58, 3) := by decide +kernel
theorem dX7_findsTwo_39 : decode cX7_findsTwo 39 = .ok (.ifCond .eq 15, 3) := by decide +kernel
theorem dX7_findsTwo_42 : decode cX7_findsTwo 42 = .ok (.aload_n 1, 1) := by decide +kernel
theorem dX7_findsTwo_43 : decode cX7_findsTwo 43 = .ok (.iload 4, 2) := by decide +kernel
theorem dX7_findsTwo_45 : decode cX7_findsTwo 45 = .ok (.iload_n 3, 1) := by decide +kernel
theorem dX7_findsTwo_46 : decode cX7_findsTwo 46 = .ok (.iload 5, 2) := by decide +kernel
theorem dX7_findsTwo_48 : decode cX7_findsTwo 48 = .ok (.invokestatic 76, 3) := by decide +kernel
theorem dX7_findsTwo_51 : decode cX7_findsTwo 51 = .ok (.goto 4, 3) := by decide +kernel
theorem dX7_findsTwo_54 : decode cX7_findsTwo 54 = .ok (.iconst (-1), 1) := by decide +kernel
theorem dX7_findsTwo_55 : decode cX7_findsTwo 55 = .ok (.istore 6, 2) := by decide +kernel
theorem dX7_findsTwo_57 : decode cX7_findsTwo 57 = .ok (.iload 6, 2) := by decide +kernel
theorem dX7_findsTwo_59 : decode cX7_findsTwo 59 = .ok (.iconst (-1), 1) := by decide +kernel
theorem dX7_findsTwo_60 : decode cX7_findsTwo 60 = .ok (.if_icmp .ne 7, 3) := by decide +kernel
theorem dX7_findsTwo_63 : decode cX7_findsTwo 63 = .ok (.iconst 0, 1) := by decide +kernel
theorem dX7_findsTwo_64 : decode cX7_findsTwo 64 = .ok (.goto 22, 3) := by decide +kernel
theorem dX7_findsTwo_67 : decode cX7_findsTwo 67 = .ok (.aload_n 1, 1) := by decide +kernel
theorem dX7_findsTwo_68 : decode cX7_findsTwo 68 = .ok (.iload 5, 2) := by decide +kernel
theorem dX7_findsTwo_70 : decode cX7_findsTwo 70 = .ok (.iload_n 2, 1) := by decide +kernel
theorem dX7_findsTwo_71 : decode cX7_findsTwo 71 = .ok (.iload 4, 2) := by decide +kernel
theorem dX7_findsTwo_73 : decode cX7_findsTwo 73 = .ok (.invokestatic 62, 3) := by decide +kernel
theorem dX7_findsTwo_76 : decode cX7_findsTwo 76 = .ok (.aload_n 1, 1) := by decide +kernel
theorem dX7_findsTwo_77 : decode cX7_findsTwo 77 = .ok (.iload 6, 2) := by decide +kernel
theorem dX7_findsTwo_79 : decode cX7_findsTwo 79 = .ok (.iload 4, 2) := by decide +kernel
theorem dX7_findsTwo_81 : decode cX7_findsTwo 81 = .ok (.iload_n 3, 1) := by decide +kernel
theorem dX7_findsTwo_82 : decode cX7_findsTwo 82 = .ok (.invokestatic 62, 3) := by decide +kernel
theorem dX7_findsTwo_85 : decode cX7_findsTwo 85 = .ok (.iadd, 1) := by decide +kernel
theorem dX7_findsTwo_86 : decode cX7_findsTwo 86 = .ok (.istore 7, 2) := by decide +kernel
theorem dX7_findsTwo_88 : decode cX7_findsTwo 88 = .ok (.iload 6, 2) := by decide +kernel
theorem dX7_findsTwo_90 : decode cX7_findsTwo 90 = .ok (.iconst (-1), 1) := by decide +kernel
theorem dX7_findsTwo_91 : decode cX7_findsTwo 91 = .ok (.if_icmp .eq 44, 3) := by decide +kernel
theorem dX7_findsTwo_94 : decode cX7_findsTwo 94 = .ok (.aload_n 0, 1) := by decide +kernel
theorem dX7_findsTwo_95 : decode cX7_findsTwo 95 = .ok (.getfield 55, 3) := by decide +kernel
theorem dX7_findsTwo_98 : decode cX7_findsTwo 98 = .ok (.iconst (-1), 1) := by decide +kernel
theorem dX7_findsTwo_99 : decode cX7_findsTwo 99 = .ok (.if_icmp .eq 12, 3) := by decide +kernel
theorem dX7_findsTwo_102 : decode cX7_findsTwo 102 = .ok (.iload 7, 2) := by decide +kernel
theorem dX7_findsTwo_104 : decode cX7_findsTwo 104 = .ok (.aload_n 0, 1) := by decide +kernel
theorem dX7_findsTwo_105 : decode cX7_findsTwo 105 = .ok (.getfield 66, 3) := by decide +kernel
theorem dX7_findsTwo_108 : decode cX7_findsTwo 108 = .ok (.if_icmp .ge 27, 3) := by decide +kernel
theorem dX7_findsTwo_111 : decode cX7_findsTwo 111 = .ok (.aload_n 0, 1) := by decide +kernel
theorem dX7_findsTwo_112 : decode cX7_findsTwo 112 = .ok (.iload 5, 2) := by decide +kernel
theorem dX7_findsTwo_114 : decode cX7_findsTwo 114 = .ok (.putfield 52, 3) := by decide +kernel
theorem dX7_findsTwo_117 : decode cX7_findsTwo 117 = .ok (.aload_n 0, 1) := by decide +kernel
theorem dX7_findsTwo_118 : decode cX7_findsTwo 118 = .ok (.iload 6, 2) := by decide +kernel
theorem dX7_findsTwo_120 : decode cX7_findsTwo 120 = .ok (.putfield 69, 3) := by decide +kernel
theorem dX7_findsTwo_123 : decode cX7_findsTwo 123 = .ok (.aload_n 0, 1) := by decide +kernel
theorem dX7_findsTwo_124 : decode cX7_findsTwo 124 = .ok (.iload 4, 2) := by decide +kernel
theorem dX7_findsTwo_126 : decode cX7_findsTwo 126 = .ok (.putfield 55, 3) := by decide +kernel
theorem dX7_findsTwo_129 : decode cX7_findsTwo 129 = .ok (.aload_n 0, 1) := by decide +kernel
theorem dX7_findsTwo_130 : decode cX7_findsTwo 130 = .ok (.iload 7, 2) := by decide +kernel
theorem dX7_findsTwo_132 : decode cX7_findsTwo 132 = .ok (.putfield 66, 3) := by decide +kernel
theorem dX7_findsTwo_135 : decode cX7_findsTwo 135 = .ok (.iinc 5 1, 3) := by decide +kernel
theorem dX7_findsTwo_138 : decode cX7_findsTwo 138 = .ok (.goto (-124), 3) := by decide +kernel
theorem dX7_findsTwo_141 : decode cX7_findsTwo 141 = .ok (.iinc 4 1, 3) := by decide +kernel
theorem dX7_findsTwo_144 : decode cX7_findsTwo 144 = .ok (.goto (-139), 3) := by decide +kernel
theorem dX7_findsTwo_147 : decode cX7_findsTwo 147 = .ok (.aload_n 0, 1) := by decide +kernel
theorem dX7_findsTwo_148 : decode cX7_findsTwo 148 = .ok (.getfield 55, 3) := by decide +kernel
theorem dX7_findsTwo_151 : decode cX7_findsTwo 151 = .ok (.iconst (-1), 1) := by decide +kernel
theorem dX7_findsTwo_152 : decode cX7_findsTwo 152 = .ok (.if_icmp .eq 7, 3) := by decide +kernel
theorem dX7_findsTwo_155 : decode cX7_findsTwo 155 = .ok (.iconst 1, 1) := by decide +kernel
theorem dX7_findsTwo_156 : decode cX7_findsTwo 156 = .ok (.goto 4, 3) := by decide +kernel
theorem dX7_findsTwo_159 : decode cX7_findsTwo 159 = .ok (.iconst 0, 1) := by decide +kernel
theorem dX7_findsTwo_160 : decode cX7_findsTwo 160 = .ok (.ireturn, 1) := by decide +kernel
set_option maxRecDepth 20000 in
theorem ggX7_finds_X7_findsOne : GoodIn wsX7_finds wsX7_findsOne := goodIn_r _ [5, 6, 7, 8, 9, 10, 11, 4, 12, 13, 14, 15, 16, 17, 18, 19, 20, 21, 35, 36, 37, 38, 39, 40, 41, 42, 43, 44, 45, 46, 47, 48, 49] (by decide +kernel) (by decide +kernel)
set_option maxRecDepth 20000 in
theorem gX7_finds_X7_findsOne : GoodIn wsX7_finds (wsV RX7 79 RX7 yX7_findsOne wsX7_findsOne) := goodIn_app (goodIn_of _ (by decide +kernel)) ggX7_finds_X7_findsOne
set_option maxRecDepth 20000 in
theorem ggX7_finds_X7_findsTwo : GoodIn wsX7_finds wsX7_findsTwo := goodIn_r _ [25, 7, 8, 6, 9, 26, 27, 4, 28, 29, 30, 31, 10, 11, 12, 13, 14, 15, 16, 17, 18, 32, 33, 34, 19, 20, 21, 35, 36, 37, 38, 39, 40, 41, 42, 43, 44, 45, 46, 47, 48, 49] (by decide +kernel) (by decide +kernel)
set_option maxRecDepth 20000 in
theorem gX7_finds_X7_findsTwo : GoodIn wsX7_finds (wsV RX7 82 RX7 yX7_findsTwo wsX7_findsTwo) := goodIn_app (goodIn_of _ (by decide +kernel)) ggX7_finds_X7_findsTwo
theorem dX7_finds_0 : decode cX7_finds 0 = .ok (.aload_n 0, 1) := by decide +kernel
theorem dX7_finds_1 : decode cX7_finds 1 = .ok (.aload_n 1, 1) := by decide +kernel
theorem dX7_finds_2 : decode cX7_finds 2 = .ok (.iload_n 2, 1) := by decide +kernel
theorem dX7_finds_3 : decode cX7_finds 3 = .ok (.iload_n 3, 1) := by decide +kernel
theorem dX7_finds_4 : decode cX7_finds 4 = .ok (.invokevirtual 79, 3) := by decide +kernel
theorem dX7_finds_7 : decode cX7_finds 7 = .ok (.ifCond .ne 18, 3) := by decide +kernel
theorem dX7_finds_10 : decode cX7_finds 10 = .ok (.iload 4, 2) := by decide +kernel
theorem dX7_finds_12 : decode cX7_finds 12 = .ok (.ifCond .ne 17, 3) := by decide +kernel
theorem dX7_finds_15 : decode cX7_finds 15 = .ok (.aload_n 0, 1) := by decide +kernel
theorem dX7_finds_16 : decode cX7_finds 16 = .ok (.aload_n 1, 1) := by decide +kernel
theorem dX7_finds_17 : decode cX7_finds 17 = .ok (.iload_n 2, 1) := by decide +kernel
theorem dX7_finds_18 : decode cX7_finds 18 = .ok (.iload_n 3, 1) := by decide +kernel
theorem dX7_finds_19 : decode cX7_finds 19 = .ok (.invokevirtual 82, 3) := by decide +kernel
theorem dX7_finds_22 : decode cX7_finds 22 = .ok (.ifCond .eq 7, 3) := by decide +kernel
theorem dX7_finds_25 : decode cX7_finds 25 = .ok (.iconst 1, 1) := by decide +kernel
theorem dX7_finds_26 : decode cX7_finds 26 = .ok (.goto 4, 3) := by decide +kernel
theorem dX7_finds_29 : decode cX7_finds 29 = .ok (.iconst 0, 1) := by decide +kernel
theorem dX7_finds_30 : decode cX7_finds 30 = .ok (.ireturn, 1) := by decide +kernel
theorem dX7_has_0 : decode cX7_has 0 = .ok (.iload_n 3, 1) := by decide +kernel
theorem dX7_has_1 : decode cX7_has 1 = .ok (.istore 5, 2) := by decide +kernel
theorem dX7_has_3 : decode cX7_has 3 = .ok (.iload 5, 2) := by decide +kernel
theorem dX7_has_5 : decode cX7_has 5 = .ok (.iload 4, 2) := by decide +kernel
theorem dX7_has_7 : decode cX7_has 7 = .ok (.if_icmp .ge 23, 3) := by decide +kernel
theorem dX7_has_10 : decode cX7_has 10 = .ok (.aload_n 0, 1) := by decide +kernel
theorem dX7_has_11 : decode cX7_has 11 = .ok (.sipush 290, 3) := by decide +kernel
theorem dX7_has_14 : decode cX7_has 14 = .ok (.bipush 9, 2) := by decide +kernel
theorem dX7_has_16 : decode cX7_has 16 = .ok (.iload_n 2, 1) := by decide +kernel
theorem dX7_has_17 : decode cX7_has 17 = .ok (.imul, 1) := by decide +kernel
theorem dX7_has_18 : decode cX7_has 18 = .ok (.iadd, 1) := by decide +kernel
theorem dX7_has_19 : decode cX7_has 19 = .ok (.iload 5, 2) := by decide +kernel
theorem dX7_has_21 : decode cX7_has 21 = .ok (.iadd, 1) := by decide +kernel
theorem dX7_has_22 : decode cX7_has 22 = .ok (.iload_n 1, 1) := by decide +kernel
theorem dX7_has_23 : decode cX7_has 23 = .ok (.iastore, 1) := by decide +kernel
theorem dX7_has_24 : decode cX7_has 24 = .ok (.iinc 5 1, 3) := by decide +kernel
theorem dX7_has_27 : decode cX7_has 27 = .ok (.goto (-24), 3) := by decide +kernel
theorem dX7_has_30 : decode cX7_has 30 = .ok (.return_, 1) := by decide +kernel
theorem dX7_frees_0 : decode cX7_frees 0 = .ok (.iconst 0, 1) := by decide +kernel
theorem dX7_frees_1 : decode cX7_frees 1 = .ok (.istore_n 2, 1) := by decide +kernel
theorem dX7_frees_2 : decode cX7_frees 2 = .ok (.iload_n 2, 1) := by decide +kernel
theorem dX7_frees_3 : decode cX7_frees 3 = .ok (.sipush 162, 3) := by decide +kernel
theorem dX7_frees_6 : decode cX7_frees 6 = .ok (.if_icmp .ge 38, 3) := by decide +kernel
theorem dX7_frees_9 : decode cX7_frees 9 = .ok (.aload_n 0, 1) := by decide +kernel
theorem dX7_frees_10 : decode cX7_frees 10 = .ok (.sipush 290, 3) := by decide +kernel
theorem dX7_frees_13 : decode cX7_frees 13 = .ok (.iload_n 2, 1) := by decide +kernel
theorem dX7_frees_14 : decode cX7_frees 14 = .ok (.iadd, 1) := by decide +kernel
theorem dX7_frees_15 : decode cX7_frees 15 = .ok (.aload_n 0, 1) := by decide +kernel
theorem dX7_frees_16 : decode cX7_frees 16 = .ok (.sipush 290, 3) := by decide +kernel
theorem dX7_frees_19 : decode cX7_frees 19 = .ok (.iload_n 2, 1) := by decide +kernel
theorem dX7_frees_20 : decode cX7_frees 20 = .ok (.iadd, 1) := by decide +kernel
theorem dX7_frees_21 : decode cX7_frees 21 = .ok (.iaload, 1) := by decide +kernel
theorem dX7_frees_22 : decode cX7_frees 22 = .ok (.iload_n 1, 1) := by decide +kernel
theorem dX7_frees_23 : decode cX7_frees 23 = .ok (.if_icmp .ne 7, 3) := by decide +kernel
theorem dX7_frees_26 : decode cX7_frees 26 = .ok (.iconst (-1), 1) := by decide +kernel
theorem dX7_frees_27 : decode cX7_frees 27 = .ok (.goto 10, 3) := by decide +kernel
theorem dX7_frees_30 : decode cX7_frees 30 = .ok (.aload_n 0, 1) := by decide +kernel
theorem dX7_frees_31 : decode cX7_frees 31 = .ok (.sipush 290, 3) := by decide +kernel
theorem dX7_frees_34 : decode cX7_frees 34 = .ok (.iload_n 2, 1) := by decide +kernel
theorem dX7_frees_35 : decode cX7_frees 35 = .ok (.iadd, 1) := by decide +kernel
theorem dX7_frees_36 : decode cX7_frees 36 = .ok (.iaload, 1) := by decide +kernel
theorem dX7_frees_37 : decode cX7_frees 37 = .ok (.iastore, 1) := by decide +kernel
theorem dX7_frees_38 : decode cX7_frees 38 = .ok (.iinc 2 1, 3) := by decide +kernel
theorem dX7_frees_41 : decode cX7_frees 41 = .ok (.goto (-39), 3) := by decide +kernel
theorem dX7_frees_44 : decode cX7_frees 44 = .ok (.return_, 1) := by decide +kernel
set_option maxRecDepth 20000 in
theorem ggX7_lays_X7_has : GoodIn wsX7_lays wsX7_has := goodIn_r _ [8] (by decide +kernel) (by decide +kernel)
set_option maxRecDepth 20000 in
theorem gX7_lays_X7_has : GoodIn wsX7_lays (va_wsS RX7 85 yX7_has wsX7_has) := goodIn_app (goodIn_of _ (by decide +kernel)) ggX7_lays_X7_has
theorem dX7_lays_0 : decode cX7_lays 0 = .ok (.bipush 10, 2) := by decide +kernel
theorem dX7_lays_2 : decode cX7_lays 2 = .ok (.bipush 7, 2) := by decide +kernel
theorem dX7_lays_4 : decode cX7_lays 4 = .ok (.iload_n 1, 1) := by decide +kernel
theorem dX7_lays_5 : decode cX7_lays 5 = .ok (.imul, 1) := by decide +kernel
theorem dX7_lays_6 : decode cX7_lays 6 = .ok (.iadd, 1) := by decide +kernel
theorem dX7_lays_7 : decode cX7_lays 7 = .ok (.istore_n 2, 1) := by decide +kernel
theorem dX7_lays_8 : decode cX7_lays 8 = .ok (.aload_n 0, 1) := by decide +kernel
theorem dX7_lays_9 : decode cX7_lays 9 = .ok (.getfield 7, 3) := by decide +kernel
theorem dX7_lays_12 : decode cX7_lays 12 = .ok (.iload_n 2, 1) := by decide +kernel
theorem dX7_lays_13 : decode cX7_lays 13 = .ok (.iconst 4, 1) := by decide +kernel
theorem dX7_lays_14 : decode cX7_lays 14 = .ok (.iadd, 1) := by decide +kernel
theorem dX7_lays_15 : decode cX7_lays 15 = .ok (.aload_n 0, 1) := by decide +kernel
theorem dX7_lays_16 : decode cX7_lays 16 = .ok (.getfield 52, 3) := by decide +kernel
theorem dX7_lays_19 : decode cX7_lays 19 = .ok (.iastore, 1) := by decide +kernel
theorem dX7_lays_20 : decode cX7_lays 20 = .ok (.aload_n 0, 1) := by decide +kernel
theorem dX7_lays_21 : decode cX7_lays 21 = .ok (.getfield 7, 3) := by decide +kernel
theorem dX7_lays_24 : decode cX7_lays 24 = .ok (.iload_n 2, 1) := by decide +kernel
theorem dX7_lays_25 : decode cX7_lays 25 = .ok (.iconst 5, 1) := by decide +kernel
theorem dX7_lays_26 : decode cX7_lays 26 = .ok (.iadd, 1) := by decide +kernel
theorem dX7_lays_27 : decode cX7_lays 27 = .ok (.aload_n 0, 1) := by decide +kernel
theorem dX7_lays_28 : decode cX7_lays 28 = .ok (.getfield 69, 3) := by decide +kernel
theorem dX7_lays_31 : decode cX7_lays 31 = .ok (.iastore, 1) := by decide +kernel
theorem dX7_lays_32 : decode cX7_lays 32 = .ok (.aload_n 0, 1) := by decide +kernel
theorem dX7_lays_33 : decode cX7_lays 33 = .ok (.getfield 7, 3) := by decide +kernel
theorem dX7_lays_36 : decode cX7_lays 36 = .ok (.iload_n 2, 1) := by decide +kernel
theorem dX7_lays_37 : decode cX7_lays 37 = .ok (.bipush 6, 2) := by decide +kernel
theorem dX7_lays_39 : decode cX7_lays 39 = .ok (.iadd, 1) := by decide +kernel
theorem dX7_lays_40 : decode cX7_lays 40 = .ok (.aload_n 0, 1) := by decide +kernel
theorem dX7_lays_41 : decode cX7_lays 41 = .ok (.getfield 55, 3) := by decide +kernel
theorem dX7_lays_44 : decode cX7_lays 44 = .ok (.iastore, 1) := by decide +kernel
theorem dX7_lays_45 : decode cX7_lays 45 = .ok (.aload_n 0, 1) := by decide +kernel
theorem dX7_lays_46 : decode cX7_lays 46 = .ok (.getfield 55, 3) := by decide +kernel
theorem dX7_lays_49 : decode cX7_lays 49 = .ok (.iconst (-1), 1) := by decide +kernel
theorem dX7_lays_50 : decode cX7_lays 50 = .ok (.if_icmp .ne 14, 3) := by decide +kernel
theorem dX7_lays_53 : decode cX7_lays 53 = .ok (.aload_n 0, 1) := by decide +kernel
theorem dX7_lays_54 : decode cX7_lays 54 = .ok (.getfield 7, 3) := by decide +kernel
theorem dX7_lays_57 : decode cX7_lays 57 = .ok (.iload_n 2, 1) := by decide +kernel
theorem dX7_lays_58 : decode cX7_lays 58 = .ok (.iconst 2, 1) := by decide +kernel
theorem dX7_lays_59 : decode cX7_lays 59 = .ok (.iadd, 1) := by decide +kernel
theorem dX7_lays_60 : decode cX7_lays 60 = .ok (.iaload, 1) := by decide +kernel
theorem dX7_lays_61 : decode cX7_lays 61 = .ok (.goto 7, 3) := by decide +kernel
theorem dX7_lays_64 : decode cX7_lays 64 = .ok (.aload_n 0, 1) := by decide +kernel
theorem dX7_lays_65 : decode cX7_lays 65 = .ok (.getfield 55, 3) := by decide +kernel
theorem dX7_lays_68 : decode cX7_lays 68 = .ok (.istore_n 3, 1) := by decide +kernel
theorem dX7_lays_69 : decode cX7_lays 69 = .ok (.aload_n 0, 1) := by decide +kernel
theorem dX7_lays_70 : decode cX7_lays 70 = .ok (.getfield 7, 3) := by decide +kernel
theorem dX7_lays_73 : decode cX7_lays 73 = .ok (.aload_n 0, 1) := by decide +kernel
theorem dX7_lays_74 : decode cX7_lays 74 = .ok (.getfield 7, 3) := by decide +kernel
theorem dX7_lays_77 : decode cX7_lays 77 = .ok (.iload_n 2, 1) := by decide +kernel
theorem dX7_lays_78 : decode cX7_lays 78 = .ok (.iaload, 1) := by decide +kernel
theorem dX7_lays_79 : decode cX7_lays 79 = .ok (.aload_n 0, 1) := by decide +kernel
theorem dX7_lays_80 : decode cX7_lays 80 = .ok (.getfield 52, 3) := by decide +kernel
theorem dX7_lays_83 : decode cX7_lays 83 = .ok (.aload_n 0, 1) := by decide +kernel
theorem dX7_lays_84 : decode cX7_lays 84 = .ok (.getfield 7, 3) := by decide +kernel
theorem dX7_lays_87 : decode cX7_lays 87 = .ok (.iload_n 2, 1) := by decide +kernel
theorem dX7_lays_88 : decode cX7_lays 88 = .ok (.iconst 1, 1) := by decide +kernel
theorem dX7_lays_89 : decode cX7_lays 89 = .ok (.iadd, 1) := by decide +kernel
theorem dX7_lays_90 : decode cX7_lays 90 = .ok (.iaload, 1) := by decide +kernel
theorem dX7_lays_91 : decode cX7_lays 91 = .ok (.iload_n 3, 1) := by decide +kernel
theorem dX7_lays_92 : decode cX7_lays 92 = .ok (.invokestatic 85, 3) := by decide +kernel
theorem dX7_lays_95 : decode cX7_lays 95 = .ok (.aload_n 0, 1) := by decide +kernel
theorem dX7_lays_96 : decode cX7_lays 96 = .ok (.getfield 7, 3) := by decide +kernel
theorem dX7_lays_99 : decode cX7_lays 99 = .ok (.aload_n 0, 1) := by decide +kernel
theorem dX7_lays_100 : decode cX7_lays 100 = .ok (.getfield 7, 3) := by decide +kernel
theorem dX7_lays_103 : decode cX7_lays 103 = .ok (.iload_n 2, 1) := by decide +kernel
theorem dX7_lays_104 : decode cX7_lays 104 = .ok (.iaload, 1) := by decide +kernel
theorem dX7_lays_105 : decode cX7_lays 105 = .ok (.aload_n 0, 1) := by decide +kernel
theorem dX7_lays_106 : decode cX7_lays 106 = .ok (.getfield 69, 3) := by decide +kernel
theorem dX7_lays_109 : decode cX7_lays 109 = .ok (.iload_n 3, 1) := by decide +kernel
theorem dX7_lays_110 : decode cX7_lays 110 = .ok (.aload_n 0, 1) := by decide +kernel
theorem dX7_lays_111 : decode cX7_lays 111 = .ok (.getfield 7, 3) := by decide +kernel
theorem dX7_lays_114 : decode cX7_lays 114 = .ok (.iload_n 2, 1) := by decide +kernel
theorem dX7_lays_115 : decode cX7_lays 115 = .ok (.iconst 2, 1) := by decide +kernel
theorem dX7_lays_116 : decode cX7_lays 116 = .ok (.iadd, 1) := by decide +kernel
theorem dX7_lays_117 : decode cX7_lays 117 = .ok (.iaload, 1) := by decide +kernel
theorem dX7_lays_118 : decode cX7_lays 118 = .ok (.invokestatic 85, 3) := by decide +kernel
theorem dX7_lays_121 : decode cX7_lays 121 = .ok (.aload_n 0, 1) := by decide +kernel
theorem dX7_lays_122 : decode cX7_lays 122 = .ok (.getfield 7, 3) := by decide +kernel
theorem dX7_lays_125 : decode cX7_lays 125 = .ok (.bipush 8, 2) := by decide +kernel
theorem dX7_lays_127 : decode cX7_lays 127 = .ok (.dup2, 1) := by decide +kernel
theorem dX7_lays_128 : decode cX7_lays 128 = .ok (.iaload, 1) := by decide +kernel
theorem dX7_lays_129 : decode cX7_lays 129 = .ok (.iconst 1, 1) := by decide +kernel
theorem dX7_lays_130 : decode cX7_lays 130 = .ok (.iadd, 1) := by decide +kernel
theorem dX7_lays_131 : decode cX7_lays 131 = .ok (.iastore, 1) := by decide +kernel
theorem dX7_lays_132 : decode cX7_lays 132 = .ok (.return_, 1) := by decide +kernel
set_option maxRecDepth 20000 in
theorem ggX7_comes_X7_lays : GoodIn wsX7_comes wsX7_lays := goodIn_r _ [6, 1, 7, 8, 9, 10, 11, 5, 12, 13, 14, 15, 16, 17, 18, 19, 20, 21, 22, 23, 24, 25, 26, 27] (by decide +kernel) (by decide +kernel)
set_option maxRecDepth 20000 in
theorem gX7_comes_X7_lays : GoodIn wsX7_comes (wsV RX7 89 RX7 yX7_lays wsX7_lays) := goodIn_app (goodIn_of _ (by decide +kernel)) ggX7_comes_X7_lays
theorem dX7_comes_0 : decode cX7_comes 0 = .ok (.bipush 10, 2) := by decide +kernel
theorem dX7_comes_2 : decode cX7_comes 2 = .ok (.bipush 7, 2) := by decide +kernel
theorem dX7_comes_4 : decode cX7_comes 4 = .ok (.aload_n 0, 1) := by decide +kernel
theorem dX7_comes_5 : decode cX7_comes 5 = .ok (.getfield 7, 3) := by decide +kernel
theorem dX7_comes_8 : decode cX7_comes 8 = .ok (.bipush 6, 2) := by decide +kernel
theorem dX7_comes_10 : decode cX7_comes 10 = .ok (.iaload, 1) := by decide +kernel
theorem dX7_comes_11 : decode cX7_comes 11 = .ok (.imul, 1) := by decide +kernel
theorem dX7_comes_12 : decode cX7_comes 12 = .ok (.iadd, 1) := by decide +kernel
theorem dX7_comes_13 : decode cX7_comes 13 = .ok (.istore 4, 2) := by decide +kernel
theorem dX7_comes_15 : decode cX7_comes 15 = .ok (.aload_n 0, 1) := by decide +kernel
theorem dX7_comes_16 : decode cX7_comes 16 = .ok (.getfield 7, 3) := by decide +kernel
theorem dX7_comes_19 : decode cX7_comes 19 = .ok (.iload 4, 2) := by decide +kernel
theorem dX7_comes_21 : decode cX7_comes 21 = .ok (.aload_n 0, 1) := by decide +kernel
theorem dX7_comes_22 : decode cX7_comes 22 = .ok (.getfield 7, 3) := by decide +kernel
theorem dX7_comes_25 : decode cX7_comes 25 = .ok (.bipush 7, 2) := by decide +kernel
theorem dX7_comes_27 : decode cX7_comes 27 = .ok (.iaload, 1) := by decide +kernel
theorem dX7_comes_28 : decode cX7_comes 28 = .ok (.iastore, 1) := by decide +kernel
theorem dX7_comes_29 : decode cX7_comes 29 = .ok (.aload_n 0, 1) := by decide +kernel
theorem dX7_comes_30 : decode cX7_comes 30 = .ok (.getfield 7, 3) := by decide +kernel
theorem dX7_comes_33 : decode cX7_comes 33 = .ok (.iload 4, 2) := by decide +kernel
theorem dX7_comes_35 : decode cX7_comes 35 = .ok (.iconst 1, 1) := by decide +kernel
theorem dX7_comes_36 : decode cX7_comes 36 = .ok (.iadd, 1) := by decide +kernel
theorem dX7_comes_37 : decode cX7_comes 37 = .ok (.iload_n 1, 1) := by decide +kernel
theorem dX7_comes_38 : decode cX7_comes 38 = .ok (.iastore, 1) := by decide +kernel
theorem dX7_comes_39 : decode cX7_comes 39 = .ok (.aload_n 0, 1) := by decide +kernel
theorem dX7_comes_40 : decode cX7_comes 40 = .ok (.getfield 7, 3) := by decide +kernel
theorem dX7_comes_43 : decode cX7_comes 43 = .ok (.iload 4, 2) := by decide +kernel
theorem dX7_comes_45 : decode cX7_comes 45 = .ok (.iconst 2, 1) := by decide +kernel
theorem dX7_comes_46 : decode cX7_comes 46 = .ok (.iadd, 1) := by decide +kernel
theorem dX7_comes_47 : decode cX7_comes 47 = .ok (.iload_n 2, 1) := by decide +kernel
theorem dX7_comes_48 : decode cX7_comes 48 = .ok (.iastore, 1) := by decide +kernel
theorem dX7_comes_49 : decode cX7_comes 49 = .ok (.aload_n 0, 1) := by decide +kernel
theorem dX7_comes_50 : decode cX7_comes 50 = .ok (.getfield 7, 3) := by decide +kernel
theorem dX7_comes_53 : decode cX7_comes 53 = .ok (.iload 4, 2) := by decide +kernel
theorem dX7_comes_55 : decode cX7_comes 55 = .ok (.iconst 3, 1) := by decide +kernel
theorem dX7_comes_56 : decode cX7_comes 56 = .ok (.iadd, 1) := by decide +kernel
theorem dX7_comes_57 : decode cX7_comes 57 = .ok (.iload_n 3, 1) := by decide +kernel
theorem dX7_comes_58 : decode cX7_comes 58 = .ok (.ifCond .eq 7, 3) := by decide +kernel
theorem dX7_comes_61 : decode cX7_comes 61 = .ok (.iconst 1, 1) := by decide +kernel
theorem dX7_comes_62 : decode cX7_comes 62 = .ok (.goto 4, 3) := by decide +kernel
theorem dX7_comes_65 : decode cX7_comes 65 = .ok (.iconst 0, 1) := by decide +kernel
theorem dX7_comes_66 : decode cX7_comes 66 = .ok (.iastore, 1) := by decide +kernel
theorem dX7_comes_67 : decode cX7_comes 67 = .ok (.aload_n 0, 1) := by decide +kernel
theorem dX7_comes_68 : decode cX7_comes 68 = .ok (.aload_n 0, 1) := by decide +kernel
theorem dX7_comes_69 : decode cX7_comes 69 = .ok (.getfield 7, 3) := by decide +kernel
theorem dX7_comes_72 : decode cX7_comes 72 = .ok (.bipush 6, 2) := by decide +kernel
theorem dX7_comes_74 : decode cX7_comes 74 = .ok (.iaload, 1) := by decide +kernel
theorem dX7_comes_75 : decode cX7_comes 75 = .ok (.invokevirtual 89, 3) := by decide +kernel
theorem dX7_comes_78 : decode cX7_comes 78 = .ok (.aload_n 0, 1) := by decide +kernel
theorem dX7_comes_79 : decode cX7_comes 79 = .ok (.getfield 7, 3) := by decide +kernel
theorem dX7_comes_82 : decode cX7_comes 82 = .ok (.bipush 6, 2) := by decide +kernel
theorem dX7_comes_84 : decode cX7_comes 84 = .ok (.dup2, 1) := by decide +kernel
theorem dX7_comes_85 : decode cX7_comes 85 = .ok (.iaload, 1) := by decide +kernel
theorem dX7_comes_86 : decode cX7_comes 86 = .ok (.iconst 1, 1) := by decide +kernel
theorem dX7_comes_87 : decode cX7_comes 87 = .ok (.iadd, 1) := by decide +kernel
theorem dX7_comes_88 : decode cX7_comes 88 = .ok (.iastore, 1) := by decide +kernel
theorem dX7_comes_89 : decode cX7_comes 89 = .ok (.aload_n 0, 1) := by decide +kernel
theorem dX7_comes_90 : decode cX7_comes 90 = .ok (.getfield 7, 3) := by decide +kernel
theorem dX7_comes_93 : decode cX7_comes 93 = .ok (.bipush 7, 2) := by decide +kernel
theorem dX7_comes_95 : decode cX7_comes 95 = .ok (.dup2, 1) := by decide +kernel
theorem dX7_comes_96 : decode cX7_comes 96 = .ok (.iaload, 1) := by decide +kernel
theorem dX7_comes_97 : decode cX7_comes 97 = .ok (.iconst 1, 1) := by decide +kernel
theorem dX7_comes_98 : decode cX7_comes 98 = .ok (.iadd, 1) := by decide +kernel
theorem dX7_comes_99 : decode cX7_comes 99 = .ok (.iastore, 1) := by decide +kernel
theorem dX7_comes_100 : decode cX7_comes 100 = .ok (.aload_n 0, 1) := by decide +kernel
theorem dX7_comes_101 : decode cX7_comes 101 = .ok (.getfield 7, 3) := by decide +kernel
theorem dX7_comes_104 : decode cX7_comes 104 = .ok (.bipush 7, 2) := by decide +kernel
theorem dX7_comes_106 : decode cX7_comes 106 = .ok (.iaload, 1) := by decide +kernel
theorem dX7_comes_107 : decode cX7_comes 107 = .ok (.iconst 1, 1) := by decide +kernel
theorem dX7_comes_108 : decode cX7_comes 108 = .ok (.isub, 1) := by decide +kernel
theorem dX7_comes_109 : decode cX7_comes 109 = .ok (.ireturn, 1) := by decide +kernel
set_option maxRecDepth 20000 in
theorem ggX7_placeOf_X7_of : GoodIn wsX7_placeOf wsX7_of := goodIn_r _ [4] (by decide +kernel) (by decide +kernel)
set_option maxRecDepth 20000 in
theorem gX7_placeOf_X7_of : GoodIn wsX7_placeOf (va_wsS RX7 93 yX7_of wsX7_of) := goodIn_app (goodIn_of _ (by decide +kernel)) ggX7_placeOf_X7_of
theorem dX7_placeOf_0 : decode cX7_placeOf 0 = .ok (.iconst 0, 1) := by decide +kernel
theorem dX7_placeOf_1 : decode cX7_placeOf 1 = .ok (.istore_n 2, 1) := by decide +kernel
theorem dX7_placeOf_2 : decode cX7_placeOf 2 = .ok (.iload_n 2, 1) := by decide +kernel
theorem dX7_placeOf_3 : decode cX7_placeOf 3 = .ok (.aload_n 0, 1) := by decide +kernel
theorem dX7_placeOf_4 : decode cX7_placeOf 4 = .ok (.bipush 6, 2) := by decide +kernel
theorem dX7_placeOf_6 : decode cX7_placeOf 6 = .ok (.iaload, 1) := by decide +kernel
theorem dX7_placeOf_7 : decode cX7_placeOf 7 = .ok (.if_icmp .ge 21, 3) := by decide +kernel
theorem dX7_placeOf_10 : decode cX7_placeOf 10 = .ok (.aload_n 0, 1) := by decide +kernel
theorem dX7_placeOf_11 : decode cX7_placeOf 11 = .ok (.iload_n 2, 1) := by decide +kernel
theorem dX7_placeOf_12 : decode cX7_placeOf 12 = .ok (.iconst 0, 1) := by decide +kernel
theorem dX7_placeOf_13 : decode cX7_placeOf 13 = .ok (.invokestatic 93, 3) := by decide +kernel
theorem dX7_placeOf_16 : decode cX7_placeOf 16 = .ok (.iload_n 1, 1) := by decide +kernel
theorem dX7_placeOf_17 : decode cX7_placeOf 17 = .ok (.if_icmp .ne 5, 3) := by decide +kernel
theorem dX7_placeOf_20 : decode cX7_placeOf 20 = .ok (.iload_n 2, 1) := by decide +kernel
theorem dX7_placeOf_21 : decode cX7_placeOf 21 = .ok (.ireturn, 1) := by decide +kernel
theorem dX7_placeOf_22 : decode cX7_placeOf 22 = .ok (.iinc 2 1, 3) := by decide +kernel
theorem dX7_placeOf_25 : decode cX7_placeOf 25 = .ok (.goto (-23), 3) := by decide +kernel
theorem dX7_placeOf_28 : decode cX7_placeOf 28 = .ok (.iconst (-1), 1) := by decide +kernel
theorem dX7_placeOf_29 : decode cX7_placeOf 29 = .ok (.ireturn, 1) := by decide +kernel
set_option maxRecDepth 20000 in
theorem ggX7_wakesOf_X7_of : GoodIn wsX7_wakesOf wsX7_of := goodIn_r _ [4] (by decide +kernel) (by decide +kernel)
set_option maxRecDepth 20000 in
theorem gX7_wakesOf_X7_of : GoodIn wsX7_wakesOf (va_wsS RX7 93 yX7_of wsX7_of) := goodIn_app (goodIn_of _ (by decide +kernel)) ggX7_wakesOf_X7_of
set_option maxRecDepth 20000 in
theorem ggX7_wakesOf_X7_wakes : GoodIn wsX7_wakesOf wsX7_wakes := goodIn_r _ [7, 8, 9, 3, 10] (by decide +kernel) (by decide +kernel)
set_option maxRecDepth 20000 in
theorem gX7_wakesOf_X7_wakes : GoodIn wsX7_wakesOf (va_wsS RX7 62 yX7_wakes wsX7_wakes) := goodIn_app (goodIn_of _ (by decide +kernel)) ggX7_wakesOf_X7_wakes
theorem dX7_wakesOf_0 : decode cX7_wakesOf 0 = .ok (.aload_n 0, 1) := by decide +kernel
theorem dX7_wakesOf_1 : decode cX7_wakesOf 1 = .ok (.iload_n 1, 1) := by decide +kernel
theorem dX7_wakesOf_2 : decode cX7_wakesOf 2 = .ok (.bipush 6, 2) := by decide +kernel
theorem dX7_wakesOf_4 : decode cX7_wakesOf 4 = .ok (.invokestatic 93, 3) := by decide +kernel
theorem dX7_wakesOf_7 : decode cX7_wakesOf 7 = .ok (.iconst (-1), 1) := by decide +kernel
theorem dX7_wakesOf_8 : decode cX7_wakesOf 8 = .ok (.if_icmp .ne 12, 3) := by decide +kernel
theorem dX7_wakesOf_11 : decode cX7_wakesOf 11 = .ok (.aload_n 0, 1) := by decide +kernel
theorem dX7_wakesOf_12 : decode cX7_wakesOf 12 = .ok (.iload_n 1, 1) := by decide +kernel
theorem dX7_wakesOf_13 : decode cX7_wakesOf 13 = .ok (.iconst 2, 1) := by decide +kernel
theorem dX7_wakesOf_14 : decode cX7_wakesOf 14 = .ok (.invokestatic 93, 3) := by decide +kernel
theorem dX7_wakesOf_17 : decode cX7_wakesOf 17 = .ok (.goto 10, 3) := by decide +kernel
theorem dX7_wakesOf_20 : decode cX7_wakesOf 20 = .ok (.aload_n 0, 1) := by decide +kernel
theorem dX7_wakesOf_21 : decode cX7_wakesOf 21 = .ok (.iload_n 1, 1) := by decide +kernel
theorem dX7_wakesOf_22 : decode cX7_wakesOf 22 = .ok (.bipush 6, 2) := by decide +kernel
theorem dX7_wakesOf_24 : decode cX7_wakesOf 24 = .ok (.invokestatic 93, 3) := by decide +kernel
theorem dX7_wakesOf_27 : decode cX7_wakesOf 27 = .ok (.istore_n 2, 1) := by decide +kernel
theorem dX7_wakesOf_28 : decode cX7_wakesOf 28 = .ok (.aload_n 0, 1) := by decide +kernel
theorem dX7_wakesOf_29 : decode cX7_wakesOf 29 = .ok (.aload_n 0, 1) := by decide +kernel
theorem dX7_wakesOf_30 : decode cX7_wakesOf 30 = .ok (.iload_n 1, 1) := by decide +kernel
theorem dX7_wakesOf_31 : decode cX7_wakesOf 31 = .ok (.iconst 4, 1) := by decide +kernel
theorem dX7_wakesOf_32 : decode cX7_wakesOf 32 = .ok (.invokestatic 93, 3) := by decide +kernel
theorem dX7_wakesOf_35 : decode cX7_wakesOf 35 = .ok (.aload_n 0, 1) := by decide +kernel
theorem dX7_wakesOf_36 : decode cX7_wakesOf 36 = .ok (.iload_n 1, 1) := by decide +kernel
theorem dX7_wakesOf_37 : decode cX7_wakesOf 37 = .ok (.iconst 1, 1) := by decide +kernel
theorem dX7_wakesOf_38 : decode cX7_wakesOf 38 = .ok (.invokestatic 93, 3) := by decide +kernel
theorem dX7_wakesOf_41 : decode cX7_wakesOf 41 = .ok (.iload_n 2, 1) := by decide +kernel
theorem dX7_wakesOf_42 : decode cX7_wakesOf 42 = .ok (.invokestatic 62, 3) := by decide +kernel
theorem dX7_wakesOf_45 : decode cX7_wakesOf 45 = .ok (.aload_n 0, 1) := by decide +kernel
theorem dX7_wakesOf_46 : decode cX7_wakesOf 46 = .ok (.aload_n 0, 1) := by decide +kernel
theorem dX7_wakesOf_47 : decode cX7_wakesOf 47 = .ok (.iload_n 1, 1) := by decide +kernel
theorem dX7_wakesOf_48 : decode cX7_wakesOf 48 = .ok (.iconst 5, 1) := by decide +kernel
theorem dX7_wakesOf_49 : decode cX7_wakesOf 49 = .ok (.invokestatic 93, 3) := by decide +kernel
theorem dX7_wakesOf_52 : decode cX7_wakesOf 52 = .ok (.iload_n 2, 1) := by decide +kernel
theorem dX7_wakesOf_53 : decode cX7_wakesOf 53 = .ok (.aload_n 0, 1) := by decide +kernel
theorem dX7_wakesOf_54 : decode cX7_wakesOf 54 = .ok (.iload_n 1, 1) := by decide +kernel
theorem dX7_wakesOf_55 : decode cX7_wakesOf 55 = .ok (.iconst 2, 1) := by decide +kernel
theorem dX7_wakesOf_56 : decode cX7_wakesOf 56 = .ok (.invokestatic 93, 3) := by decide +kernel
theorem dX7_wakesOf_59 : decode cX7_wakesOf 59 = .ok (.invokestatic 62, 3) := by decide +kernel
theorem dX7_wakesOf_62 : decode cX7_wakesOf 62 = .ok (.iadd, 1) := by decide +kernel
theorem dX7_wakesOf_63 : decode cX7_wakesOf 63 = .ok (.ireturn, 1) := by decide +kernel
set_option maxRecDepth 20000 in
theorem ggX7_tip_X7_wakesOf : GoodIn wsX7_tip wsX7_wakesOf := goodIn_r _ [4, 5, 6, 3, 7, 8, 9, 10, 11, 12, 13] (by decide +kernel) (by decide +kernel)
set_option maxRecDepth 20000 in
theorem gX7_tip_X7_wakesOf : GoodIn wsX7_tip (va_wsS RX7 96 yX7_wakesOf wsX7_wakesOf) := goodIn_app (goodIn_of _ (by decide +kernel)) ggX7_tip_X7_wakesOf
set_option maxRecDepth 20000 in
theorem ggX7_tip_X7_of : GoodIn wsX7_tip wsX7_of := goodIn_r _ [7] (by decide +kernel) (by decide +kernel)
set_option maxRecDepth 20000 in
theorem gX7_tip_X7_of : GoodIn wsX7_tip (va_wsS RX7 93 yX7_of wsX7_of) := goodIn_app (goodIn_of _ (by decide +kernel)) ggX7_tip_X7_of
theorem dX7_tip_0 : decode cX7_tip 0 = .ok (.aload_n 0, 1) := by decide +kernel
theorem dX7_tip_1 : decode cX7_tip 1 = .ok (.iconst 2, 1) := by decide +kernel
theorem dX7_tip_2 : decode cX7_tip 2 = .ok (.iaload, 1) := by decide +kernel
theorem dX7_tip_3 : decode cX7_tip 3 = .ok (.aload_n 0, 1) := by decide +kernel
theorem dX7_tip_4 : decode cX7_tip 4 = .ok (.iload_n 1, 1) := by decide +kernel
theorem dX7_tip_5 : decode cX7_tip 5 = .ok (.invokestatic 96, 3) := by decide +kernel
theorem dX7_tip_8 : decode cX7_tip 8 = .ok (.isub, 1) := by decide +kernel
theorem dX7_tip_9 : decode cX7_tip 9 = .ok (.aload_n 0, 1) := by decide +kernel
theorem dX7_tip_10 : decode cX7_tip 10 = .ok (.iload_n 1, 1) := by decide +kernel
theorem dX7_tip_11 : decode cX7_tip 11 = .ok (.bipush 6, 2) := by decide +kernel
theorem dX7_tip_13 : decode cX7_tip 13 = .ok (.invokestatic 93, 3) := by decide +kernel
theorem dX7_tip_16 : decode cX7_tip 16 = .ok (.iconst (-1), 1) := by decide +kernel
theorem dX7_tip_17 : decode cX7_tip 17 = .ok (.if_icmp .ne 7, 3) := by decide +kernel
theorem dX7_tip_20 : decode cX7_tip 20 = .ok (.iconst 0, 1) := by decide +kernel
theorem dX7_tip_21 : decode cX7_tip 21 = .ok (.goto 4, 3) := by decide +kernel
theorem dX7_tip_24 : decode cX7_tip 24 = .ok (.iconst 3, 1) := by decide +kernel
theorem dX7_tip_25 : decode cX7_tip 25 = .ok (.isub, 1) := by decide +kernel
theorem dX7_tip_26 : decode cX7_tip 26 = .ok (.istore_n 2, 1) := by decide +kernel
theorem dX7_tip_27 : decode cX7_tip 27 = .ok (.iload_n 2, 1) := by decide +kernel
theorem dX7_tip_28 : decode cX7_tip 28 = .ok (.ifCond .ge 7, 3) := by decide +kernel
theorem dX7_tip_31 : decode cX7_tip 31 = .ok (.iconst 0, 1) := by decide +kernel
theorem dX7_tip_32 : decode cX7_tip 32 = .ok (.goto 4, 3) := by decide +kernel
theorem dX7_tip_35 : decode cX7_tip 35 = .ok (.iload_n 2, 1) := by decide +kernel
theorem dX7_tip_36 : decode cX7_tip 36 = .ok (.ireturn, 1) := by decide +kernel
set_option maxRecDepth 20000 in
theorem ggX7_book_X7_isWay : GoodIn wsX7_book wsX7_isWay := goodIn_r _ [6, 7, 8, 5, 9] (by decide +kernel) (by decide +kernel)
set_option maxRecDepth 20000 in
theorem gX7_book_X7_isWay : GoodIn wsX7_book (va_wsS RX7 100 yX7_isWay wsX7_isWay) := goodIn_app (goodIn_of _ (by decide +kernel)) ggX7_book_X7_isWay
set_option maxRecDepth 20000 in
theorem ggX7_book_X7_fails : GoodIn wsX7_book wsX7_fails := goodIn_r _ [13, 1, 68, 69, 70, 71, 72, 73, 74, 75, 76, 77, 78, 79, 80, 81, 82] (by decide +kernel) (by decide +kernel)
set_option maxRecDepth 20000 in
theorem gX7_book_X7_fails : GoodIn wsX7_book (wsV RX7 40 RX7 yX7_fails wsX7_fails) := goodIn_app (goodIn_of _ (by decide +kernel)) ggX7_book_X7_fails
set_option maxRecDepth 20000 in
theorem ggX7_book_X7_finds : GoodIn wsX7_book wsX7_finds := goodIn_r _ [17, 18, 19, 20, 5, 21, 22, 23, 24, 25, 26, 27, 28, 29, 30, 31, 32, 33, 34, 35, 36, 37, 38, 39, 40, 41, 42, 43, 44, 7, 8, 9, 45, 46, 47, 68, 69, 70, 71, 72, 73, 74, 75, 76, 77, 78, 79, 80, 81, 82] (by decide +kernel) (by decide +kernel)
set_option maxRecDepth 20000 in
theorem gX7_book_X7_finds : GoodIn wsX7_book (wsV RX7 104 RX7 yX7_finds wsX7_finds) := goodIn_app (goodIn_of _ (by decide +kernel)) ggX7_book_X7_finds
set_option maxRecDepth 20000 in
theorem ggX7_book_X7_saves : GoodIn wsX7_book wsX7_saves := goodIn_r _ [51, 52, 53, 2, 54, 55, 5, 56, 68, 69, 70, 71, 72, 73, 74, 75, 76, 77, 78, 79, 80, 81, 82] (by decide +kernel) (by decide +kernel)
set_option maxRecDepth 20000 in
theorem gX7_book_X7_saves : GoodIn wsX7_book (wsV RX7 108 RX7 yX7_saves wsX7_saves) := goodIn_app (goodIn_of _ (by decide +kernel)) ggX7_book_X7_saves
set_option maxRecDepth 20000 in
theorem ggX7_book_X7_comes : GoodIn wsX7_book wsX7_comes := goodIn_r _ [60, 2, 61, 62, 63, 5, 64, 22, 25, 23, 65, 66, 67, 68, 69, 70, 71, 72, 73, 74, 75, 76, 77, 78, 79, 80, 81, 82] (by decide +kernel) (by decide +kernel)
set_option maxRecDepth 20000 in
theorem gX7_book_X7_comes : GoodIn wsX7_book (wsV RX7 111 RX7 yX7_comes wsX7_comes) := goodIn_app (goodIn_of _ (by decide +kernel)) ggX7_book_X7_comes
theorem dX7_book_0 : decode cX7_book 0 = .ok (.aload_n 0, 1) := by decide +kernel
theorem dX7_book_1 : decode cX7_book 1 = .ok (.iconst 0, 1) := by decide +kernel
theorem dX7_book_2 : decode cX7_book 2 = .ok (.putfield 25, 3) := by decide +kernel
theorem dX7_book_5 : decode cX7_book 5 = .ok (.iload_n 1, 1) := by decide +kernel
theorem dX7_book_6 : decode cX7_book 6 = .ok (.iload_n 2, 1) := by decide +kernel
theorem dX7_book_7 : decode cX7_book 7 = .ok (.invokestatic 100, 3) := by decide +kernel
theorem dX7_book_10 : decode cX7_book 10 = .ok (.ifCond .ne 9, 3) := by decide +kernel
theorem dX7_book_13 : decode cX7_book 13 = .ok (.aload_n 0, 1) := by decide +kernel
theorem dX7_book_14 : decode cX7_book 14 = .ok (.iconst 1, 1) := by decide +kernel
theorem dX7_book_15 : decode cX7_book 15 = .ok (.invokevirtual 40, 3) := by decide +kernel
theorem dX7_book_18 : decode cX7_book 18 = .ok (.ireturn, 1) := by decide +kernel
theorem dX7_book_19 : decode cX7_book 19 = .ok (.aload_n 0, 1) := by decide +kernel
theorem dX7_book_20 : decode cX7_book 20 = .ok (.getfield 7, 3) := by decide +kernel
theorem dX7_book_23 : decode cX7_book 23 = .ok (.bipush 6, 2) := by decide +kernel
theorem dX7_book_25 : decode cX7_book 25 = .ok (.iaload, 1) := by decide +kernel
theorem dX7_book_26 : decode cX7_book 26 = .ok (.bipush 40, 2) := by decide +kernel
theorem dX7_book_28 : decode cX7_book 28 = .ok (.if_icmp .eq 17, 3) := by decide +kernel
theorem dX7_book_31 : decode cX7_book 31 = .ok (.aload_n 0, 1) := by decide +kernel
theorem dX7_book_32 : decode cX7_book 32 = .ok (.aload_n 0, 1) := by decide +kernel
theorem dX7_book_33 : decode cX7_book 33 = .ok (.getfield 7, 3) := by decide +kernel
theorem dX7_book_36 : decode cX7_book 36 = .ok (.iload_n 1, 1) := by decide +kernel
theorem dX7_book_37 : decode cX7_book 37 = .ok (.iload_n 2, 1) := by decide +kernel
theorem dX7_book_38 : decode cX7_book 38 = .ok (.iload_n 3, 1) := by decide +kernel
theorem dX7_book_39 : decode cX7_book 39 = .ok (.invokevirtual 104, 3) := by decide +kernel
theorem dX7_book_42 : decode cX7_book 42 = .ok (.ifCond .ne 9, 3) := by decide +kernel
theorem dX7_book_45 : decode cX7_book 45 = .ok (.aload_n 0, 1) := by decide +kernel
theorem dX7_book_46 : decode cX7_book 46 = .ok (.iconst 2, 1) := by decide +kernel
theorem dX7_book_47 : decode cX7_book 47 = .ok (.invokevirtual 40, 3) := by decide +kernel
theorem dX7_book_50 : decode cX7_book 50 = .ok (.ireturn, 1) := by decide +kernel
theorem dX7_book_51 : decode cX7_book 51 = .ok (.aload_n 0, 1) := by decide +kernel
theorem dX7_book_52 : decode cX7_book 52 = .ok (.invokevirtual 108, 3) := by decide +kernel
theorem dX7_book_55 : decode cX7_book 55 = .ok (.aload_n 0, 1) := by decide +kernel
theorem dX7_book_56 : decode cX7_book 56 = .ok (.iload_n 1, 1) := by decide +kernel
theorem dX7_book_57 : decode cX7_book 57 = .ok (.iload_n 2, 1) := by decide +kernel
theorem dX7_book_58 : decode cX7_book 58 = .ok (.iload_n 3, 1) := by decide +kernel
theorem dX7_book_59 : decode cX7_book 59 = .ok (.invokevirtual 111, 3) := by decide +kernel
theorem dX7_book_62 : decode cX7_book 62 = .ok (.ireturn, 1) := by decide +kernel
set_option maxRecDepth 20000 in
theorem ggX7_cancel_X7_placeOf : GoodIn wsX7_cancel wsX7_placeOf := goodIn_r _ [6, 7, 8, 5, 9] (by decide +kernel) (by decide +kernel)
set_option maxRecDepth 20000 in
theorem gX7_cancel_X7_placeOf : GoodIn wsX7_cancel (va_wsS RX7 115 yX7_placeOf wsX7_placeOf) := goodIn_app (goodIn_of _ (by decide +kernel)) ggX7_cancel_X7_placeOf
set_option maxRecDepth 20000 in
theorem ggX7_cancel_X7_fails : GoodIn wsX7_cancel wsX7_fails := goodIn_r _ [13, 1, 38, 39, 40, 41, 42, 43, 44, 45, 46, 47, 48, 49, 50, 51, 52] (by decide +kernel) (by decide +kernel)
set_option maxRecDepth 20000 in
theorem gX7_cancel_X7_fails : GoodIn wsX7_cancel (wsV RX7 40 RX7 yX7_fails wsX7_fails) := goodIn_app (goodIn_of _ (by decide +kernel)) ggX7_cancel_X7_fails
set_option maxRecDepth 20000 in
theorem ggX7_cancel_X7_saves : GoodIn wsX7_cancel wsX7_saves := goodIn_r _ [17, 18, 19, 2, 20, 21, 5, 22, 38, 39, 40, 41, 42, 43, 44, 45, 46, 47, 48, 49, 50, 51, 52] (by decide +kernel) (by decide +kernel)
set_option maxRecDepth 20000 in
theorem gX7_cancel_X7_saves : GoodIn wsX7_cancel (wsV RX7 108 RX7 yX7_saves wsX7_saves) := goodIn_app (goodIn_of _ (by decide +kernel)) ggX7_cancel_X7_saves
set_option maxRecDepth 20000 in
theorem ggX7_cancel_X7_tip : GoodIn wsX7_cancel wsX7_tip := goodIn_r _ [25, 26, 27, 5, 28, 7, 8, 9, 29, 30, 31, 32, 33, 34] (by decide +kernel) (by decide +kernel)
set_option maxRecDepth 20000 in
theorem gX7_cancel_X7_tip : GoodIn wsX7_cancel (va_wsS RX7 118 yX7_tip wsX7_tip) := goodIn_app (goodIn_of _ (by decide +kernel)) ggX7_cancel_X7_tip
set_option maxRecDepth 20000 in
theorem ggX7_cancel_X7_frees : GoodIn wsX7_cancel wsX7_frees := goodIn_r _ [37] (by decide +kernel) (by decide +kernel)
set_option maxRecDepth 20000 in
theorem gX7_cancel_X7_frees : GoodIn wsX7_cancel (va_wsS RX7 121 yX7_frees wsX7_frees) := goodIn_app (goodIn_of _ (by decide +kernel)) ggX7_cancel_X7_frees
theorem dX7_cancel_0 : decode cX7_cancel 0 = .ok (.aload_n 0, 1) := by decide +kernel
theorem dX7_cancel_1 : decode cX7_cancel 1 = .ok (.iconst 0, 1) := by decide +kernel
theorem dX7_cancel_2 : decode cX7_cancel 2 = .ok (.putfield 25, 3) := by decide +kernel
theorem dX7_cancel_5 : decode cX7_cancel 5 = .ok (.aload_n 0, 1) := by decide +kernel
theorem dX7_cancel_6 : decode cX7_cancel 6 = .ok (.getfield 7, 3) := by decide +kernel
theorem dX7_cancel_9 : decode cX7_cancel 9 = .ok (.iload_n 1, 1) := by decide +kernel
theorem dX7_cancel_10 : decode cX7_cancel 10 = .ok (.invokestatic 115, 3) := by decide +kernel
theorem dX7_cancel_13 : decode cX7_cancel 13 = .ok (.istore_n 2, 1) := by decide +kernel
theorem dX7_cancel_14 : decode cX7_cancel 14 = .ok (.iload_n 2, 1) := by decide +kernel
theorem dX7_cancel_15 : decode cX7_cancel 15 = .ok (.iconst (-1), 1) := by decide +kernel
theorem dX7_cancel_16 : decode cX7_cancel 16 = .ok (.if_icmp .ne 9, 3) := by decide +kernel
theorem dX7_cancel_19 : decode cX7_cancel 19 = .ok (.aload_n 0, 1) := by decide +kernel
theorem dX7_cancel_20 : decode cX7_cancel 20 = .ok (.iconst 1, 1) := by decide +kernel
theorem dX7_cancel_21 : decode cX7_cancel 21 = .ok (.invokevirtual 40, 3) := by decide +kernel
theorem dX7_cancel_24 : decode cX7_cancel 24 = .ok (.ireturn, 1) := by decide +kernel
theorem dX7_cancel_25 : decode cX7_cancel 25 = .ok (.aload_n 0, 1) := by decide +kernel
theorem dX7_cancel_26 : decode cX7_cancel 26 = .ok (.invokevirtual 108, 3) := by decide +kernel
theorem dX7_cancel_29 : decode cX7_cancel 29 = .ok (.aload_n 0, 1) := by decide +kernel
theorem dX7_cancel_30 : decode cX7_cancel 30 = .ok (.getfield 7, 3) := by decide +kernel
theorem dX7_cancel_33 : decode cX7_cancel 33 = .ok (.iload_n 2, 1) := by decide +kernel
theorem dX7_cancel_34 : decode cX7_cancel 34 = .ok (.invokestatic 118, 3) := by decide +kernel
theorem dX7_cancel_37 : decode cX7_cancel 37 = .ok (.istore_n 3, 1) := by decide +kernel
theorem dX7_cancel_38 : decode cX7_cancel 38 = .ok (.aload_n 0, 1) := by decide +kernel
theorem dX7_cancel_39 : decode cX7_cancel 39 = .ok (.getfield 7, 3) := by decide +kernel
theorem dX7_cancel_42 : decode cX7_cancel 42 = .ok (.iload_n 1, 1) := by decide +kernel
theorem dX7_cancel_43 : decode cX7_cancel 43 = .ok (.invokestatic 121, 3) := by decide +kernel
theorem dX7_cancel_46 : decode cX7_cancel 46 = .ok (.aload_n 0, 1) := by decide +kernel
theorem dX7_cancel_47 : decode cX7_cancel 47 = .ok (.getfield 7, 3) := by decide +kernel
theorem dX7_cancel_50 : decode cX7_cancel 50 = .ok (.bipush 6, 2) := by decide +kernel
theorem dX7_cancel_52 : decode cX7_cancel 52 = .ok (.dup2, 1) := by decide +kernel
theorem dX7_cancel_53 : decode cX7_cancel 53 = .ok (.iaload, 1) := by decide +kernel
theorem dX7_cancel_54 : decode cX7_cancel 54 = .ok (.iconst 1, 1) := by decide +kernel
theorem dX7_cancel_55 : decode cX7_cancel 55 = .ok (.isub, 1) := by decide +kernel
theorem dX7_cancel_56 : decode cX7_cancel 56 = .ok (.iastore, 1) := by decide +kernel
theorem dX7_cancel_57 : decode cX7_cancel 57 = .ok (.bipush 10, 2) := by decide +kernel
theorem dX7_cancel_59 : decode cX7_cancel 59 = .ok (.bipush 7, 2) := by decide +kernel
theorem dX7_cancel_61 : decode cX7_cancel 61 = .ok (.iload_n 2, 1) := by decide +kernel
theorem dX7_cancel_62 : decode cX7_cancel 62 = .ok (.imul, 1) := by decide +kernel
theorem dX7_cancel_63 : decode cX7_cancel 63 = .ok (.iadd, 1) := by decide +kernel
theorem dX7_cancel_64 : decode cX7_cancel 64 = .ok (.istore 4, 2) := by decide +kernel
theorem dX7_cancel_66 : decode cX7_cancel 66 = .ok (.iload 4, 2) := by decide +kernel
theorem dX7_cancel_68 : decode cX7_cancel 68 = .ok (.bipush 10, 2) := by decide +kernel
theorem dX7_cancel_70 : decode cX7_cancel 70 = .ok (.bipush 7, 2) := by decide +kernel
theorem dX7_cancel_72 : decode cX7_cancel 72 = .ok (.aload_n 0, 1) := by decide +kernel
theorem dX7_cancel_73 : decode cX7_cancel 73 = .ok (.getfield 7, 3) := by decide +kernel
theorem dX7_cancel_76 : decode cX7_cancel 76 = .ok (.bipush 6, 2) := by decide +kernel
theorem dX7_cancel_78 : decode cX7_cancel 78 = .ok (.iaload, 1) := by decide +kernel
theorem dX7_cancel_79 : decode cX7_cancel 79 = .ok (.imul, 1) := by decide +kernel
theorem dX7_cancel_80 : decode cX7_cancel 80 = .ok (.iadd, 1) := by decide +kernel
theorem dX7_cancel_81 : decode cX7_cancel 81 = .ok (.if_icmp .ge 26, 3) := by decide +kernel
theorem dX7_cancel_84 : decode cX7_cancel 84 = .ok (.aload_n 0, 1) := by decide +kernel
theorem dX7_cancel_85 : decode cX7_cancel 85 = .ok (.getfield 7, 3) := by decide +kernel
theorem dX7_cancel_88 : decode cX7_cancel 88 = .ok (.iload 4, 2) := by decide +kernel
theorem dX7_cancel_90 : decode cX7_cancel 90 = .ok (.aload_n 0, 1) := by decide +kernel
theorem dX7_cancel_91 : decode cX7_cancel 91 = .ok (.getfield 7, 3) := by decide +kernel
theorem dX7_cancel_94 : decode cX7_cancel 94 = .ok (.iload 4, 2) := by decide +kernel
theorem dX7_cancel_96 : decode cX7_cancel 96 = .ok (.bipush 7, 2) := by decide +kernel
theorem dX7_cancel_98 : decode cX7_cancel 98 = .ok (.iadd, 1) := by decide +kernel
theorem dX7_cancel_99 : decode cX7_cancel 99 = .ok (.iaload, 1) := by decide +kernel
theorem dX7_cancel_100 : decode cX7_cancel 100 = .ok (.iastore, 1) := by decide +kernel
theorem dX7_cancel_101 : decode cX7_cancel 101 = .ok (.iinc 4 1, 3) := by decide +kernel
theorem dX7_cancel_104 : decode cX7_cancel 104 = .ok (.goto (-38), 3) := by decide +kernel
theorem dX7_cancel_107 : decode cX7_cancel 107 = .ok (.iload_n 3, 1) := by decide +kernel
theorem dX7_cancel_108 : decode cX7_cancel 108 = .ok (.ireturn, 1) := by decide +kernel
set_option maxRecDepth 20000 in
theorem ggX7_canHave_X7_of : GoodIn wsX7_canHave wsX7_of := goodIn_r _ [5] (by decide +kernel) (by decide +kernel)
set_option maxRecDepth 20000 in
theorem gX7_canHave_X7_of : GoodIn wsX7_canHave (va_wsS RX7 93 yX7_of wsX7_of) := goodIn_app (goodIn_of _ (by decide +kernel)) ggX7_canHave_X7_of
set_option maxRecDepth 20000 in
theorem ggX7_canHave_X7_holds : GoodIn wsX7_canHave wsX7_holds := goodIn_r _ [8] (by decide +kernel) (by decide +kernel)
set_option maxRecDepth 20000 in
theorem gX7_canHave_X7_holds : GoodIn wsX7_canHave (va_wsS RX7 44 yX7_holds wsX7_holds) := goodIn_app (goodIn_of _ (by decide +kernel)) ggX7_canHave_X7_holds
theorem dX7_canHave_0 : decode cX7_canHave 0 = .ok (.aload_n 0, 1) := by decide +kernel
theorem dX7_canHave_1 : decode cX7_canHave 1 = .ok (.getfield 7, 3) := by decide +kernel
theorem dX7_canHave_4 : decode cX7_canHave 4 = .ok (.iload_n 1, 1) := by decide +kernel
theorem dX7_canHave_5 : decode cX7_canHave 5 = .ok (.iconst 3, 1) := by decide +kernel
theorem dX7_canHave_6 : decode cX7_canHave 6 = .ok (.invokestatic 93, 3) := by decide +kernel
theorem dX7_canHave_9 : decode cX7_canHave 9 = .ok (.ifCond .eq 16, 3) := by decide +kernel
theorem dX7_canHave_12 : decode cX7_canHave 12 = .ok (.aload_n 0, 1) := by decide +kernel
theorem dX7_canHave_13 : decode cX7_canHave 13 = .ok (.getfield 7, 3) := by decide +kernel
theorem dX7_canHave_16 : decode cX7_canHave 16 = .ok (.iload_n 1, 1) := by decide +kernel
theorem dX7_canHave_17 : decode cX7_canHave 17 = .ok (.iconst 4, 1) := by decide +kernel
theorem dX7_canHave_18 : decode cX7_canHave 18 = .ok (.invokestatic 93, 3) := by decide +kernel
theorem dX7_canHave_21 : decode cX7_canHave 21 = .ok (.iload_n 2, 1) := by decide +kernel
theorem dX7_canHave_22 : decode cX7_canHave 22 = .ok (.if_icmp .ne 7, 3) := by decide +kernel
theorem dX7_canHave_25 : decode cX7_canHave 25 = .ok (.iconst 1, 1) := by decide +kernel
theorem dX7_canHave_26 : decode cX7_canHave 26 = .ok (.goto 4, 3) := by decide +kernel
theorem dX7_canHave_29 : decode cX7_canHave 29 = .ok (.iconst 0, 1) := by decide +kernel
theorem dX7_canHave_30 : decode cX7_canHave 30 = .ok (.istore_n 3, 1) := by decide +kernel
theorem dX7_canHave_31 : decode cX7_canHave 31 = .ok (.aload_n 0, 1) := by decide +kernel
theorem dX7_canHave_32 : decode cX7_canHave 32 = .ok (.getfield 7, 3) := by decide +kernel
theorem dX7_canHave_35 : decode cX7_canHave 35 = .ok (.iload_n 1, 1) := by decide +kernel
theorem dX7_canHave_36 : decode cX7_canHave 36 = .ok (.iconst 1, 1) := by decide +kernel
theorem dX7_canHave_37 : decode cX7_canHave 37 = .ok (.invokestatic 93, 3) := by decide +kernel
theorem dX7_canHave_40 : decode cX7_canHave 40 = .ok (.istore 4, 2) := by decide +kernel
theorem dX7_canHave_42 : decode cX7_canHave 42 = .ok (.iload 4, 2) := by decide +kernel
theorem dX7_canHave_44 : decode cX7_canHave 44 = .ok (.aload_n 0, 1) := by decide +kernel
theorem dX7_canHave_45 : decode cX7_canHave 45 = .ok (.getfield 7, 3) := by decide +kernel
theorem dX7_canHave_48 : decode cX7_canHave 48 = .ok (.iload_n 1, 1) := by decide +kernel
theorem dX7_canHave_49 : decode cX7_canHave 49 = .ok (.iconst 2, 1) := by decide +kernel
theorem dX7_canHave_50 : decode cX7_canHave 50 = .ok (.invokestatic 93, 3) := by decide +kernel
theorem dX7_canHave_53 : decode cX7_canHave 53 = .ok (.if_icmp .ge 67, 3) := by decide +kernel
theorem dX7_canHave_56 : decode cX7_canHave 56 = .ok (.aload_n 0, 1) := by decide +kernel
theorem dX7_canHave_57 : decode cX7_canHave 57 = .ok (.getfield 7, 3) := by decide +kernel
theorem dX7_canHave_60 : decode cX7_canHave 60 = .ok (.iload_n 2, 1) := by decide +kernel
theorem dX7_canHave_61 : decode cX7_canHave 61 = .ok (.iload 4, 2) := by decide +kernel
theorem dX7_canHave_63 : decode cX7_canHave 63 = .ok (.invokestatic 44, 3) := by decide +kernel
theorem dX7_canHave_66 : decode cX7_canHave 66 = .ok (.istore 5, 2) := by decide +kernel
theorem dX7_canHave_68 : decode cX7_canHave 68 = .ok (.iload_n 3, 1) := by decide +kernel
theorem dX7_canHave_69 : decode cX7_canHave 69 = .ok (.ifCond .eq 43, 3) := by decide +kernel
theorem dX7_canHave_72 : decode cX7_canHave 72 = .ok (.iload 4, 2) := by decide +kernel
theorem dX7_canHave_74 : decode cX7_canHave 74 = .ok (.aload_n 0, 1) := by decide +kernel
theorem dX7_canHave_75 : decode cX7_canHave 75 = .ok (.getfield 7, 3) := by decide +kernel
theorem dX7_canHave_78 : decode cX7_canHave 78 = .ok (.iconst 3, 1) := by decide +kernel
theorem dX7_canHave_79 : decode cX7_canHave 79 = .ok (.iload_n 2, 1) := by decide +kernel
theorem dX7_canHave_80 : decode cX7_canHave 80 = .ok (.bipush 6, 2) := by decide +kernel
theorem dX7_canHave_82 : decode cX7_canHave 82 = .ok (.idiv, 1) := by decide +kernel
theorem dX7_canHave_83 : decode cX7_canHave 83 = .ok (.iadd, 1) := by decide +kernel
theorem dX7_canHave_84 : decode cX7_canHave 84 = .ok (.iaload, 1) := by decide +kernel
theorem dX7_canHave_85 : decode cX7_canHave 85 = .ok (.if_icmp .ge 27, 3) := by decide +kernel
theorem dX7_canHave_88 : decode cX7_canHave 88 = .ok (.iload 5, 2) := by decide +kernel
theorem dX7_canHave_90 : decode cX7_canHave 90 = .ok (.iconst (-1), 1) := by decide +kernel
theorem dX7_canHave_91 : decode cX7_canHave 91 = .ok (.if_icmp .eq 17, 3) := by decide +kernel
theorem dX7_canHave_94 : decode cX7_canHave 94 = .ok (.iload 5, 2) := by decide +kernel
theorem dX7_canHave_96 : decode cX7_canHave 96 = .ok (.aload_n 0, 1) := by decide +kernel
theorem dX7_canHave_97 : decode cX7_canHave 97 = .ok (.getfield 7, 3) := by decide +kernel
theorem dX7_canHave_100 : decode cX7_canHave 100 = .ok (.iload_n 1, 1) := by decide +kernel
theorem dX7_canHave_101 : decode cX7_canHave 101 = .ok (.iconst 0, 1) := by decide +kernel
theorem dX7_canHave_102 : decode cX7_canHave 102 = .ok (.invokestatic 93, 3) := by decide +kernel
theorem dX7_canHave_105 : decode cX7_canHave 105 = .ok (.if_icmp .ne 7, 3) := by decide +kernel
theorem dX7_canHave_108 : decode cX7_canHave 108 = .ok (.iconst 1, 1) := by decide +kernel
theorem dX7_canHave_109 : decode cX7_canHave 109 = .ok (.goto 4, 3) := by decide +kernel
theorem dX7_canHave_112 : decode cX7_canHave 112 = .ok (.iconst 0, 1) := by decide +kernel
theorem dX7_canHave_113 : decode cX7_canHave 113 = .ok (.istore_n 3, 1) := by decide +kernel
theorem dX7_canHave_114 : decode cX7_canHave 114 = .ok (.iinc 4 1, 3) := by decide +kernel
theorem dX7_canHave_117 : decode cX7_canHave 117 = .ok (.goto (-75), 3) := by decide +kernel
theorem dX7_canHave_120 : decode cX7_canHave 120 = .ok (.iload_n 3, 1) := by decide +kernel
theorem dX7_canHave_121 : decode cX7_canHave 121 = .ok (.ireturn, 1) := by decide +kernel
set_option maxRecDepth 20000 in
theorem ggX7_place_X7_placeOf : GoodIn wsX7_place wsX7_placeOf := goodIn_r _ [6, 7, 8, 5, 9] (by decide +kernel) (by decide +kernel)
set_option maxRecDepth 20000 in
theorem gX7_place_X7_placeOf : GoodIn wsX7_place (va_wsS RX7 115 yX7_placeOf wsX7_placeOf) := goodIn_app (goodIn_of _ (by decide +kernel)) ggX7_place_X7_placeOf
set_option maxRecDepth 20000 in
theorem ggX7_place_X7_in : GoodIn wsX7_place wsX7_in := goodIn_r _ [12] (by decide +kernel) (by decide +kernel)
set_option maxRecDepth 20000 in
theorem gX7_place_X7_in : GoodIn wsX7_place (va_wsS RX7 29 yX7_in wsX7_in) := goodIn_app (goodIn_of _ (by decide +kernel)) ggX7_place_X7_in
set_option maxRecDepth 20000 in
theorem ggX7_place_X7_fails : GoodIn wsX7_place wsX7_fails := goodIn_r _ [16, 1, 39, 40, 41, 42, 43, 44, 45, 46, 47, 48, 49, 50, 51, 52, 53] (by decide +kernel) (by decide +kernel)
set_option maxRecDepth 20000 in
theorem gX7_place_X7_fails : GoodIn wsX7_place (wsV RX7 40 RX7 yX7_fails wsX7_fails) := goodIn_app (goodIn_of _ (by decide +kernel)) ggX7_place_X7_fails
set_option maxRecDepth 20000 in
theorem ggX7_place_X7_canHave : GoodIn wsX7_place wsX7_canHave := goodIn_r _ [20, 2, 7, 8, 5, 9, 21, 22, 23, 39, 40, 41, 42, 43, 44, 45, 46, 47, 48, 49, 50, 51, 52, 53] (by decide +kernel) (by decide +kernel)
set_option maxRecDepth 20000 in
theorem gX7_place_X7_canHave : GoodIn wsX7_place (wsV RX7 125 RX7 yX7_canHave wsX7_canHave) := goodIn_app (goodIn_of _ (by decide +kernel)) ggX7_place_X7_canHave
set_option maxRecDepth 20000 in
theorem ggX7_place_X7_saves : GoodIn wsX7_place wsX7_saves := goodIn_r _ [27, 28, 29, 2, 30, 31, 5, 32, 39, 40, 41, 42, 43, 44, 45, 46, 47, 48, 49, 50, 51, 52, 53] (by decide +kernel) (by decide +kernel)
set_option maxRecDepth 20000 in
theorem gX7_place_X7_saves : GoodIn wsX7_place (wsV RX7 108 RX7 yX7_saves wsX7_saves) := goodIn_app (goodIn_of _ (by decide +kernel)) ggX7_place_X7_saves
set_option maxRecDepth 20000 in
theorem ggX7_place_X7_of : GoodIn wsX7_place wsX7_of := goodIn_r _ [9] (by decide +kernel) (by decide +kernel)
set_option maxRecDepth 20000 in
theorem gX7_place_X7_of : GoodIn wsX7_place (va_wsS RX7 93 yX7_of wsX7_of) := goodIn_app (goodIn_of _ (by decide +kernel)) ggX7_place_X7_of
set_option maxRecDepth 20000 in
theorem ggX7_place_X7_frees : GoodIn wsX7_place wsX7_frees := goodIn_r _ [35] (by decide +kernel) (by decide +kernel)
set_option maxRecDepth 20000 in
theorem gX7_place_X7_frees : GoodIn wsX7_place (va_wsS RX7 121 yX7_frees wsX7_frees) := goodIn_app (goodIn_of _ (by decide +kernel)) ggX7_place_X7_frees
set_option maxRecDepth 20000 in
theorem ggX7_place_X7_has : GoodIn wsX7_place wsX7_has := goodIn_r _ [38] (by decide +kernel) (by decide +kernel)
set_option maxRecDepth 20000 in
theorem gX7_place_X7_has : GoodIn wsX7_place (va_wsS RX7 85 yX7_has wsX7_has) := goodIn_app (goodIn_of _ (by decide +kernel)) ggX7_place_X7_has
theorem dX7_place_0 : decode cX7_place 0 = .ok (.aload_n 0, 1) := by decide +kernel
theorem dX7_place_1 : decode cX7_place 1 = .ok (.iconst 0, 1) := by decide +kernel
theorem dX7_place_2 : decode cX7_place 2 = .ok (.putfield 25, 3) := by decide +kernel
theorem dX7_place_5 : decode cX7_place 5 = .ok (.aload_n 0, 1) := by decide +kernel
theorem dX7_place_6 : decode cX7_place 6 = .ok (.getfield 7, 3) := by decide +kernel
theorem dX7_place_9 : decode cX7_place 9 = .ok (.iload_n 1, 1) := by decide +kernel
theorem dX7_place_10 : decode cX7_place 10 = .ok (.invokestatic 115, 3) := by decide +kernel
theorem dX7_place_13 : decode cX7_place 13 = .ok (.istore_n 3, 1) := by decide +kernel
theorem dX7_place_14 : decode cX7_place 14 = .ok (.iload_n 3, 1) := by decide +kernel
theorem dX7_place_15 : decode cX7_place 15 = .ok (.iconst (-1), 1) := by decide +kernel
theorem dX7_place_16 : decode cX7_place 16 = .ok (.if_icmp .eq 13, 3) := by decide +kernel
theorem dX7_place_19 : decode cX7_place 19 = .ok (.iload_n 2, 1) := by decide +kernel
theorem dX7_place_20 : decode cX7_place 20 = .ok (.iconst 0, 1) := by decide +kernel
theorem dX7_place_21 : decode cX7_place 21 = .ok (.bipush 17, 2) := by decide +kernel
theorem dX7_place_23 : decode cX7_place 23 = .ok (.invokestatic 29, 3) := by decide +kernel
theorem dX7_place_26 : decode cX7_place 26 = .ok (.ifCond .ne 9, 3) := by decide +kernel
theorem dX7_place_29 : decode cX7_place 29 = .ok (.aload_n 0, 1) := by decide +kernel
theorem dX7_place_30 : decode cX7_place 30 = .ok (.iconst 1, 1) := by decide +kernel
theorem dX7_place_31 : decode cX7_place 31 = .ok (.invokevirtual 40, 3) := by decide +kernel
theorem dX7_place_34 : decode cX7_place 34 = .ok (.ireturn, 1) := by decide +kernel
theorem dX7_place_35 : decode cX7_place 35 = .ok (.aload_n 0, 1) := by decide +kernel
theorem dX7_place_36 : decode cX7_place 36 = .ok (.iload_n 3, 1) := by decide +kernel
theorem dX7_place_37 : decode cX7_place 37 = .ok (.iload_n 2, 1) := by decide +kernel
theorem dX7_place_38 : decode cX7_place 38 = .ok (.invokevirtual 125, 3) := by decide +kernel
theorem dX7_place_41 : decode cX7_place 41 = .ok (.ifCond .ne 9, 3) := by decide +kernel
theorem dX7_place_44 : decode cX7_place 44 = .ok (.aload_n 0, 1) := by decide +kernel
theorem dX7_place_45 : decode cX7_place 45 = .ok (.iconst 2, 1) := by decide +kernel
theorem dX7_place_46 : decode cX7_place 46 = .ok (.invokevirtual 40, 3) := by decide +kernel
theorem dX7_place_49 : decode cX7_place 49 = .ok (.ireturn, 1) := by decide +kernel
theorem dX7_place_50 : decode cX7_place 50 = .ok (.aload_n 0, 1) := by decide +kernel
theorem dX7_place_51 : decode cX7_place 51 = .ok (.invokevirtual 108, 3) := by decide +kernel
theorem dX7_place_54 : decode cX7_place 54 = .ok (.aload_n 0, 1) := by decide +kernel
theorem dX7_place_55 : decode cX7_place 55 = .ok (.getfield 7, 3) := by decide +kernel
theorem dX7_place_58 : decode cX7_place 58 = .ok (.iload_n 3, 1) := by decide +kernel
theorem dX7_place_59 : decode cX7_place 59 = .ok (.iconst 4, 1) := by decide +kernel
theorem dX7_place_60 : decode cX7_place 60 = .ok (.invokestatic 93, 3) := by decide +kernel
theorem dX7_place_63 : decode cX7_place 63 = .ok (.istore 4, 2) := by decide +kernel
theorem dX7_place_65 : decode cX7_place 65 = .ok (.aload_n 0, 1) := by decide +kernel
theorem dX7_place_66 : decode cX7_place 66 = .ok (.getfield 7, 3) := by decide +kernel
theorem dX7_place_69 : decode cX7_place 69 = .ok (.iload_n 1, 1) := by decide +kernel
theorem dX7_place_70 : decode cX7_place 70 = .ok (.invokestatic 121, 3) := by decide +kernel
theorem dX7_place_73 : decode cX7_place 73 = .ok (.aload_n 0, 1) := by decide +kernel
theorem dX7_place_74 : decode cX7_place 74 = .ok (.getfield 7, 3) := by decide +kernel
theorem dX7_place_77 : decode cX7_place 77 = .ok (.iload_n 1, 1) := by decide +kernel
theorem dX7_place_78 : decode cX7_place 78 = .ok (.iload_n 2, 1) := by decide +kernel
theorem dX7_place_79 : decode cX7_place 79 = .ok (.aload_n 0, 1) := by decide +kernel
theorem dX7_place_80 : decode cX7_place 80 = .ok (.getfield 7, 3) := by decide +kernel
theorem dX7_place_83 : decode cX7_place 83 = .ok (.iload_n 3, 1) := by decide +kernel
theorem dX7_place_84 : decode cX7_place 84 = .ok (.iconst 1, 1) := by decide +kernel
theorem dX7_place_85 : decode cX7_place 85 = .ok (.invokestatic 93, 3) := by decide +kernel
theorem dX7_place_88 : decode cX7_place 88 = .ok (.aload_n 0, 1) := by decide +kernel
theorem dX7_place_89 : decode cX7_place 89 = .ok (.getfield 7, 3) := by decide +kernel
theorem dX7_place_92 : decode cX7_place 92 = .ok (.iload_n 3, 1) := by decide +kernel
theorem dX7_place_93 : decode cX7_place 93 = .ok (.iconst 2, 1) := by decide +kernel
theorem dX7_place_94 : decode cX7_place 94 = .ok (.invokestatic 93, 3) := by decide +kernel
theorem dX7_place_97 : decode cX7_place 97 = .ok (.invokestatic 85, 3) := by decide +kernel
theorem dX7_place_100 : decode cX7_place 100 = .ok (.aload_n 0, 1) := by decide +kernel
theorem dX7_place_101 : decode cX7_place 101 = .ok (.getfield 7, 3) := by decide +kernel
theorem dX7_place_104 : decode cX7_place 104 = .ok (.bipush 10, 2) := by decide +kernel
theorem dX7_place_106 : decode cX7_place 106 = .ok (.bipush 7, 2) := by decide +kernel
theorem dX7_place_108 : decode cX7_place 108 = .ok (.iload_n 3, 1) := by decide +kernel
theorem dX7_place_109 : decode cX7_place 109 = .ok (.imul, 1) := by decide +kernel
theorem dX7_place_110 : decode cX7_place 110 = .ok (.iadd, 1) := by decide +kernel
theorem dX7_place_111 : decode cX7_place 111 = .ok (.iconst 4, 1) := by decide +kernel
theorem dX7_place_112 : decode cX7_place 112 = .ok (.iadd, 1) := by decide +kernel
theorem dX7_place_113 : decode cX7_place 113 = .ok (.iload_n 2, 1) := by decide +kernel
theorem dX7_place_114 : decode cX7_place 114 = .ok (.iastore, 1) := by decide +kernel
theorem dX7_place_115 : decode cX7_place 115 = .ok (.aload_n 0, 1) := by decide +kernel
theorem dX7_place_116 : decode cX7_place 116 = .ok (.getfield 7, 3) := by decide +kernel
theorem dX7_place_119 : decode cX7_place 119 = .ok (.bipush 10, 2) := by decide +kernel
theorem dX7_place_121 : decode cX7_place 121 = .ok (.bipush 7, 2) := by decide +kernel
theorem dX7_place_123 : decode cX7_place 123 = .ok (.iload_n 3, 1) := by decide +kernel
theorem dX7_place_124 : decode cX7_place 124 = .ok (.imul, 1) := by decide +kernel
theorem dX7_place_125 : decode cX7_place 125 = .ok (.iadd, 1) := by decide +kernel
theorem dX7_place_126 : decode cX7_place 126 = .ok (.iconst 5, 1) := by decide +kernel
theorem dX7_place_127 : decode cX7_place 127 = .ok (.iadd, 1) := by decide +kernel
theorem dX7_place_128 : decode cX7_place 128 = .ok (.iload_n 2, 1) := by decide +kernel
theorem dX7_place_129 : decode cX7_place 129 = .ok (.iastore, 1) := by decide +kernel
theorem dX7_place_130 : decode cX7_place 130 = .ok (.aload_n 0, 1) := by decide +kernel
theorem dX7_place_131 : decode cX7_place 131 = .ok (.getfield 7, 3) := by decide +kernel
theorem dX7_place_134 : decode cX7_place 134 = .ok (.bipush 10, 2) := by decide +kernel
theorem dX7_place_136 : decode cX7_place 136 = .ok (.bipush 7, 2) := by decide +kernel
theorem dX7_place_138 : decode cX7_place 138 = .ok (.iload_n 3, 1) := by decide +kernel
theorem dX7_place_139 : decode cX7_place 139 = .ok (.imul, 1) := by decide +kernel
theorem dX7_place_140 : decode cX7_place 140 = .ok (.iadd, 1) := by decide +kernel
theorem dX7_place_141 : decode cX7_place 141 = .ok (.bipush 6, 2) := by decide +kernel
theorem dX7_place_143 : decode cX7_place 143 = .ok (.iadd, 1) := by decide +kernel
theorem dX7_place_144 : decode cX7_place 144 = .ok (.iconst (-1), 1) := by decide +kernel
theorem dX7_place_145 : decode cX7_place 145 = .ok (.iastore, 1) := by decide +kernel
theorem dX7_place_146 : decode cX7_place 146 = .ok (.iload 4, 2) := by decide +kernel
theorem dX7_place_148 : decode cX7_place 148 = .ok (.ireturn, 1) := by decide +kernel
set_option maxRecDepth 20000 in
theorem ggX7_isAnew_X7_copies : GoodIn wsX7_isAnew wsX7_copies := goodIn_r _ [6] (by decide +kernel) (by decide +kernel)
set_option maxRecDepth 20000 in
theorem gX7_isAnew_X7_copies : GoodIn wsX7_isAnew (va_wsS RX7 36 yX7_copies wsX7_copies) := goodIn_app (goodIn_of _ (by decide +kernel)) ggX7_isAnew_X7_copies
set_option maxRecDepth 20000 in
theorem ggX7_isAnew_X7_of : GoodIn wsX7_isAnew wsX7_of := goodIn_r _ [9] (by decide +kernel) (by decide +kernel)
set_option maxRecDepth 20000 in
theorem gX7_isAnew_X7_of : GoodIn wsX7_isAnew (va_wsS RX7 93 yX7_of wsX7_of) := goodIn_app (goodIn_of _ (by decide +kernel)) ggX7_isAnew_X7_of
set_option maxRecDepth 20000 in
theorem ggX7_isAnew_X7_frees : GoodIn wsX7_isAnew wsX7_frees := goodIn_r _ [12] (by decide +kernel) (by decide +kernel)
set_option maxRecDepth 20000 in
theorem gX7_isAnew_X7_frees : GoodIn wsX7_isAnew (va_wsS RX7 121 yX7_frees wsX7_frees) := goodIn_app (goodIn_of _ (by decide +kernel)) ggX7_isAnew_X7_frees
set_option maxRecDepth 20000 in
theorem ggX7_isAnew_X7_finds : GoodIn wsX7_isAnew wsX7_finds := goodIn_r _ [16, 17, 18, 19, 5, 20, 21, 22, 23, 24, 25, 26, 27, 28, 29, 30, 31, 32, 33, 34, 35, 36, 37, 38, 39, 40, 41, 42, 43, 44, 45, 46, 47, 48, 49, 50, 51, 52, 53, 54, 55, 56, 57, 58, 59, 60, 61, 62, 63, 64] (by decide +kernel) (by decide +kernel)
set_option maxRecDepth 20000 in
theorem gX7_isAnew_X7_finds : GoodIn wsX7_isAnew (wsV RX7 104 RX7 yX7_finds wsX7_finds) := goodIn_app (goodIn_of _ (by decide +kernel)) ggX7_isAnew_X7_finds
theorem dX7_isAnew_0 : decode cX7_isAnew 0 = .ok (.aload_n 0, 1) := by decide +kernel
theorem dX7_isAnew_1 : decode cX7_isAnew 1 = .ok (.getfield 7, 3) := by decide +kernel
theorem dX7_isAnew_4 : decode cX7_isAnew 4 = .ok (.iconst 0, 1) := by decide +kernel
theorem dX7_isAnew_5 : decode cX7_isAnew 5 = .ok (.aload_n 0, 1) := by decide +kernel
theorem dX7_isAnew_6 : decode cX7_isAnew 6 = .ok (.getfield 13, 3) := by decide +kernel
theorem dX7_isAnew_9 : decode cX7_isAnew 9 = .ok (.iconst 0, 1) := by decide +kernel
theorem dX7_isAnew_10 : decode cX7_isAnew 10 = .ok (.invokestatic 36, 3) := by decide +kernel
theorem dX7_isAnew_13 : decode cX7_isAnew 13 = .ok (.aload_n 0, 1) := by decide +kernel
theorem dX7_isAnew_14 : decode cX7_isAnew 14 = .ok (.getfield 13, 3) := by decide +kernel
theorem dX7_isAnew_17 : decode cX7_isAnew 17 = .ok (.aload_n 0, 1) := by decide +kernel
theorem dX7_isAnew_18 : decode cX7_isAnew 18 = .ok (.getfield 7, 3) := by decide +kernel
theorem dX7_isAnew_21 : decode cX7_isAnew 21 = .ok (.iload_n 1, 1) := by decide +kernel
theorem dX7_isAnew_22 : decode cX7_isAnew 22 = .ok (.iconst 0, 1) := by decide +kernel
theorem dX7_isAnew_23 : decode cX7_isAnew 23 = .ok (.invokestatic 93, 3) := by decide +kernel
theorem dX7_isAnew_26 : decode cX7_isAnew 26 = .ok (.invokestatic 121, 3) := by decide +kernel
theorem dX7_isAnew_29 : decode cX7_isAnew 29 = .ok (.aload_n 0, 1) := by decide +kernel
theorem dX7_isAnew_30 : decode cX7_isAnew 30 = .ok (.getfield 7, 3) := by decide +kernel
theorem dX7_isAnew_33 : decode cX7_isAnew 33 = .ok (.iload_n 1, 1) := by decide +kernel
theorem dX7_isAnew_34 : decode cX7_isAnew 34 = .ok (.iconst 3, 1) := by decide +kernel
theorem dX7_isAnew_35 : decode cX7_isAnew 35 = .ok (.invokestatic 93, 3) := by decide +kernel
theorem dX7_isAnew_38 : decode cX7_isAnew 38 = .ok (.ifCond .ne 37, 3) := by decide +kernel
theorem dX7_isAnew_41 : decode cX7_isAnew 41 = .ok (.aload_n 0, 1) := by decide +kernel
theorem dX7_isAnew_42 : decode cX7_isAnew 42 = .ok (.aload_n 0, 1) := by decide +kernel
theorem dX7_isAnew_43 : decode cX7_isAnew 43 = .ok (.getfield 13, 3) := by decide +kernel
theorem dX7_isAnew_46 : decode cX7_isAnew 46 = .ok (.aload_n 0, 1) := by decide +kernel
theorem dX7_isAnew_47 : decode cX7_isAnew 47 = .ok (.getfield 7, 3) := by decide +kernel
theorem dX7_isAnew_50 : decode cX7_isAnew 50 = .ok (.iload_n 1, 1) := by decide +kernel
theorem dX7_isAnew_51 : decode cX7_isAnew 51 = .ok (.iconst 1, 1) := by decide +kernel
theorem dX7_isAnew_52 : decode cX7_isAnew 52 = .ok (.invokestatic 93, 3) := by decide +kernel
theorem dX7_isAnew_55 : decode cX7_isAnew 55 = .ok (.aload_n 0, 1) := by decide +kernel
theorem dX7_isAnew_56 : decode cX7_isAnew 56 = .ok (.getfield 7, 3) := by decide +kernel
theorem dX7_isAnew_59 : decode cX7_isAnew 59 = .ok (.iload_n 1, 1) := by decide +kernel
theorem dX7_isAnew_60 : decode cX7_isAnew 60 = .ok (.iconst 2, 1) := by decide +kernel
theorem dX7_isAnew_61 : decode cX7_isAnew 61 = .ok (.invokestatic 93, 3) := by decide +kernel
theorem dX7_isAnew_64 : decode cX7_isAnew 64 = .ok (.iconst 0, 1) := by decide +kernel
theorem dX7_isAnew_65 : decode cX7_isAnew 65 = .ok (.invokevirtual 104, 3) := by decide +kernel
theorem dX7_isAnew_68 : decode cX7_isAnew 68 = .ok (.ifCond .eq 7, 3) := by decide +kernel
theorem dX7_isAnew_71 : decode cX7_isAnew 71 = .ok (.iconst 1, 1) := by decide +kernel
theorem dX7_isAnew_72 : decode cX7_isAnew 72 = .ok (.goto 4, 3) := by decide +kernel
theorem dX7_isAnew_75 : decode cX7_isAnew 75 = .ok (.iconst 0, 1) := by decide +kernel
theorem dX7_isAnew_76 : decode cX7_isAnew 76 = .ok (.ireturn, 1) := by decide +kernel
set_option maxRecDepth 20000 in
theorem ggX7_rebook_X7_placeOf : GoodIn wsX7_rebook wsX7_placeOf := goodIn_r _ [6, 7, 8, 5, 9] (by decide +kernel) (by decide +kernel)
set_option maxRecDepth 20000 in
theorem gX7_rebook_X7_placeOf : GoodIn wsX7_rebook (va_wsS RX7 115 yX7_placeOf wsX7_placeOf) := goodIn_app (goodIn_of _ (by decide +kernel)) ggX7_rebook_X7_placeOf
set_option maxRecDepth 20000 in
theorem ggX7_rebook_X7_fails : GoodIn wsX7_rebook wsX7_fails := goodIn_r _ [13, 1, 78, 79, 80, 81, 82, 83, 84, 85, 86, 87, 88, 89, 90, 91, 92] (by decide +kernel) (by decide +kernel)
set_option maxRecDepth 20000 in
theorem gX7_rebook_X7_fails : GoodIn wsX7_rebook (wsV RX7 40 RX7 yX7_fails wsX7_fails) := goodIn_app (goodIn_of _ (by decide +kernel)) ggX7_rebook_X7_fails
set_option maxRecDepth 20000 in
theorem ggX7_rebook_X7_isAnew : GoodIn wsX7_rebook wsX7_isAnew := goodIn_r _ [17, 2, 18, 19, 20, 5, 21, 7, 8, 9, 22, 23, 24, 25, 26, 27, 28, 29, 30, 31, 32, 33, 34, 35, 36, 37, 38, 39, 40, 41, 42, 43, 44, 45, 46, 47, 48, 49, 50, 51, 52, 53, 54, 55, 56, 57, 58, 59, 60, 61, 78, 79, 80, 81, 82, 83, 84, 85, 86, 87, 88, 89, 90, 91, 92] (by decide +kernel) (by decide +kernel)
set_option maxRecDepth 20000 in
theorem gX7_rebook_X7_isAnew : GoodIn wsX7_rebook (wsV RX7 128 RX7 yX7_isAnew wsX7_isAnew) := goodIn_app (goodIn_of _ (by decide +kernel)) ggX7_rebook_X7_isAnew
set_option maxRecDepth 20000 in
theorem ggX7_rebook_X7_saves : GoodIn wsX7_rebook wsX7_saves := goodIn_r _ [65, 66, 67, 2, 19, 20, 5, 21, 78, 79, 80, 81, 82, 83, 84, 85, 86, 87, 88, 89, 90, 91, 92] (by decide +kernel) (by decide +kernel)
set_option maxRecDepth 20000 in
theorem gX7_rebook_X7_saves : GoodIn wsX7_rebook (wsV RX7 108 RX7 yX7_saves wsX7_saves) := goodIn_app (goodIn_of _ (by decide +kernel)) ggX7_rebook_X7_saves
set_option maxRecDepth 20000 in
theorem ggX7_rebook_X7_wakesOf : GoodIn wsX7_rebook wsX7_wakesOf := goodIn_r _ [70, 7, 8, 5, 9, 46, 47, 48, 43, 44, 45] (by decide +kernel) (by decide +kernel)
set_option maxRecDepth 20000 in
theorem gX7_rebook_X7_wakesOf : GoodIn wsX7_rebook (va_wsS RX7 96 yX7_wakesOf wsX7_wakesOf) := goodIn_app (goodIn_of _ (by decide +kernel)) ggX7_rebook_X7_wakesOf
set_option maxRecDepth 20000 in
theorem ggX7_rebook_X7_frees : GoodIn wsX7_rebook wsX7_frees := goodIn_r _ [24] (by decide +kernel) (by decide +kernel)
set_option maxRecDepth 20000 in
theorem gX7_rebook_X7_frees : GoodIn wsX7_rebook (va_wsS RX7 121 yX7_frees wsX7_frees) := goodIn_app (goodIn_of _ (by decide +kernel)) ggX7_rebook_X7_frees
set_option maxRecDepth 20000 in
theorem ggX7_rebook_X7_lays : GoodIn wsX7_rebook wsX7_lays := goodIn_r _ [74, 2, 33, 36, 34, 75, 76, 5, 77, 78, 79, 80, 81, 82, 83, 84, 85, 86, 87, 88, 89, 90, 91, 92] (by decide +kernel) (by decide +kernel)
set_option maxRecDepth 20000 in
theorem gX7_rebook_X7_lays : GoodIn wsX7_rebook (wsV RX7 89 RX7 yX7_lays wsX7_lays) := goodIn_app (goodIn_of _ (by decide +kernel)) ggX7_rebook_X7_lays
theorem dX7_rebook_0 : decode cX7_rebook 0 = .ok (.aload_n 0, 1) := by decide +kernel
theorem dX7_rebook_1 : decode cX7_rebook 1 = .ok (.iconst 0, 1) := by decide +kernel
theorem dX7_rebook_2 : decode cX7_rebook 2 = .ok (.putfield 25, 3) := by decide +kernel
theorem dX7_rebook_5 : decode cX7_rebook 5 = .ok (.aload_n 0, 1) := by decide +kernel
theorem dX7_rebook_6 : decode cX7_rebook 6 = .ok (.getfield 7, 3) := by decide +kernel
theorem dX7_rebook_9 : decode cX7_rebook 9 = .ok (.iload_n 1, 1) := by decide +kernel
theorem dX7_rebook_10 : decode cX7_rebook 10 = .ok (.invokestatic 115, 3) := by decide +kernel
theorem dX7_rebook_13 : decode cX7_rebook 13 = .ok (.istore_n 2, 1) := by decide +kernel
theorem dX7_rebook_14 : decode cX7_rebook 14 = .ok (.iload_n 2, 1) := by decide +kernel
theorem dX7_rebook_15 : decode cX7_rebook 15 = .ok (.iconst (-1), 1) := by decide +kernel
theorem dX7_rebook_16 : decode cX7_rebook 16 = .ok (.if_icmp .ne 9, 3) := by decide +kernel
theorem dX7_rebook_19 : decode cX7_rebook 19 = .ok (.aload_n 0, 1) := by decide +kernel
theorem dX7_rebook_20 : decode cX7_rebook 20 = .ok (.iconst 1, 1) := by decide +kernel
theorem dX7_rebook_21 : decode cX7_rebook 21 = .ok (.invokevirtual 40, 3) := by decide +kernel
theorem dX7_rebook_24 : decode cX7_rebook 24 = .ok (.ireturn, 1) := by decide +kernel
theorem dX7_rebook_25 : decode cX7_rebook 25 = .ok (.aload_n 0, 1) := by decide +kernel
theorem dX7_rebook_26 : decode cX7_rebook 26 = .ok (.iload_n 2, 1) := by decide +kernel
theorem dX7_rebook_27 : decode cX7_rebook 27 = .ok (.invokevirtual 128, 3) := by decide +kernel
theorem dX7_rebook_30 : decode cX7_rebook 30 = .ok (.ifCond .ne 9, 3) := by decide +kernel
theorem dX7_rebook_33 : decode cX7_rebook 33 = .ok (.aload_n 0, 1) := by decide +kernel
theorem dX7_rebook_34 : decode cX7_rebook 34 = .ok (.iconst 2, 1) := by decide +kernel
theorem dX7_rebook_35 : decode cX7_rebook 35 = .ok (.invokevirtual 40, 3) := by decide +kernel
theorem dX7_rebook_38 : decode cX7_rebook 38 = .ok (.ireturn, 1) := by decide +kernel
theorem dX7_rebook_39 : decode cX7_rebook 39 = .ok (.aload_n 0, 1) := by decide +kernel
theorem dX7_rebook_40 : decode cX7_rebook 40 = .ok (.invokevirtual 108, 3) := by decide +kernel
theorem dX7_rebook_43 : decode cX7_rebook 43 = .ok (.aload_n 0, 1) := by decide +kernel
theorem dX7_rebook_44 : decode cX7_rebook 44 = .ok (.getfield 7, 3) := by decide +kernel
theorem dX7_rebook_47 : decode cX7_rebook 47 = .ok (.iload_n 2, 1) := by decide +kernel
theorem dX7_rebook_48 : decode cX7_rebook 48 = .ok (.invokestatic 96, 3) := by decide +kernel
theorem dX7_rebook_51 : decode cX7_rebook 51 = .ok (.istore_n 3, 1) := by decide +kernel
theorem dX7_rebook_52 : decode cX7_rebook 52 = .ok (.aload_n 0, 1) := by decide +kernel
theorem dX7_rebook_53 : decode cX7_rebook 53 = .ok (.getfield 7, 3) := by decide +kernel
theorem dX7_rebook_56 : decode cX7_rebook 56 = .ok (.iload_n 1, 1) := by decide +kernel
theorem dX7_rebook_57 : decode cX7_rebook 57 = .ok (.invokestatic 121, 3) := by decide +kernel
theorem dX7_rebook_60 : decode cX7_rebook 60 = .ok (.aload_n 0, 1) := by decide +kernel
theorem dX7_rebook_61 : decode cX7_rebook 61 = .ok (.iload_n 2, 1) := by decide +kernel
theorem dX7_rebook_62 : decode cX7_rebook 62 = .ok (.invokevirtual 89, 3) := by decide +kernel
theorem dX7_rebook_65 : decode cX7_rebook 65 = .ok (.iload_n 3, 1) := by decide +kernel
theorem dX7_rebook_66 : decode cX7_rebook 66 = .ok (.aload_n 0, 1) := by decide +kernel
theorem dX7_rebook_67 : decode cX7_rebook 67 = .ok (.getfield 7, 3) := by decide +kernel
theorem dX7_rebook_70 : decode cX7_rebook 70 = .ok (.iload_n 2, 1) := by decide +kernel
theorem dX7_rebook_71 : decode cX7_rebook 71 = .ok (.invokestatic 96, 3) := by decide +kernel
theorem dX7_rebook_74 : decode cX7_rebook 74 = .ok (.isub, 1) := by decide +kernel
theorem dX7_rebook_75 : decode cX7_rebook 75 = .ok (.ireturn, 1) := by decide +kernel
set_option maxRecDepth 20000 in
theorem ggX7_isHadBehind_X7_holds : GoodIn wsX7_isHadBehind wsX7_holds := goodIn_r _ [5] (by decide +kernel) (by decide +kernel)
set_option maxRecDepth 20000 in
theorem gX7_isHadBehind_X7_holds : GoodIn wsX7_isHadBehind (va_wsS RX7 44 yX7_holds wsX7_holds) := goodIn_app (goodIn_of _ (by decide +kernel)) ggX7_isHadBehind_X7_holds
theorem dX7_isHadBehind_0 : decode cX7_isHadBehind 0 = .ok (.iconst 0, 1) := by decide +kernel
theorem dX7_isHadBehind_1 : decode cX7_isHadBehind 1 = .ok (.istore_n 3, 1) := by decide +kernel
theorem dX7_isHadBehind_2 : decode cX7_isHadBehind 2 = .ok (.iconst 0, 1) := by decide +kernel
theorem dX7_isHadBehind_3 : decode cX7_isHadBehind 3 = .ok (.istore 4, 2) := by decide +kernel
theorem dX7_isHadBehind_5 : decode cX7_isHadBehind 5 = .ok (.iload 4, 2) := by decide +kernel
theorem dX7_isHadBehind_7 : decode cX7_isHadBehind 7 = .ok (.bipush 54, 2) := by decide +kernel
theorem dX7_isHadBehind_9 : decode cX7_isHadBehind 9 = .ok (.if_icmp .ge 54, 3) := by decide +kernel
theorem dX7_isHadBehind_12 : decode cX7_isHadBehind 12 = .ok (.iload_n 3, 1) := by decide +kernel
theorem dX7_isHadBehind_13 : decode cX7_isHadBehind 13 = .ok (.ifCond .ne 38, 3) := by decide +kernel
theorem dX7_isHadBehind_16 : decode cX7_isHadBehind 16 = .ok (.iload 4, 2) := by decide +kernel
theorem dX7_isHadBehind_18 : decode cX7_isHadBehind 18 = .ok (.bipush 9, 2) := by decide +kernel
theorem dX7_isHadBehind_20 : decode cX7_isHadBehind 20 = .ok (.irem, 1) := by decide +kernel
theorem dX7_isHadBehind_21 : decode cX7_isHadBehind 21 = .ok (.iload_n 2, 1) := by decide +kernel
theorem dX7_isHadBehind_22 : decode cX7_isHadBehind 22 = .ok (.if_icmp .lt 33, 3) := by decide +kernel
theorem dX7_isHadBehind_25 : decode cX7_isHadBehind 25 = .ok (.aload_n 0, 1) := by decide +kernel
theorem dX7_isHadBehind_26 : decode cX7_isHadBehind 26 = .ok (.getfield 7, 3) := by decide +kernel
theorem dX7_isHadBehind_29 : decode cX7_isHadBehind 29 = .ok (.bipush 6, 2) := by decide +kernel
theorem dX7_isHadBehind_31 : decode cX7_isHadBehind 31 = .ok (.iload_n 1, 1) := by decide +kernel
theorem dX7_isHadBehind_32 : decode cX7_isHadBehind 32 = .ok (.imul, 1) := by decide +kernel
theorem dX7_isHadBehind_33 : decode cX7_isHadBehind 33 = .ok (.iload 4, 2) := by decide +kernel
theorem dX7_isHadBehind_35 : decode cX7_isHadBehind 35 = .ok (.bipush 9, 2) := by decide +kernel
theorem dX7_isHadBehind_37 : decode cX7_isHadBehind 37 = .ok (.idiv, 1) := by decide +kernel
theorem dX7_isHadBehind_38 : decode cX7_isHadBehind 38 = .ok (.iadd, 1) := by decide +kernel
theorem dX7_isHadBehind_39 : decode cX7_isHadBehind 39 = .ok (.iload 4, 2) := by decide +kernel
theorem dX7_isHadBehind_41 : decode cX7_isHadBehind 41 = .ok (.bipush 9, 2) := by decide +kernel
theorem dX7_isHadBehind_43 : decode cX7_isHadBehind 43 = .ok (.irem, 1) := by decide +kernel
theorem dX7_isHadBehind_44 : decode cX7_isHadBehind 44 = .ok (.invokestatic 44, 3) := by decide +kernel
theorem dX7_isHadBehind_47 : decode cX7_isHadBehind 47 = .ok (.iconst (-1), 1) := by decide +kernel
theorem dX7_isHadBehind_48 : decode cX7_isHadBehind 48 = .ok (.if_icmp .eq 7, 3) := by decide +kernel
theorem dX7_isHadBehind_51 : decode cX7_isHadBehind 51 = .ok (.iconst 1, 1) := by decide +kernel
theorem dX7_isHadBehind_52 : decode cX7_isHadBehind 52 = .ok (.goto 4, 3) := by decide +kernel
theorem dX7_isHadBehind_55 : decode cX7_isHadBehind 55 = .ok (.iconst 0, 1) := by decide +kernel
theorem dX7_isHadBehind_56 : decode cX7_isHadBehind 56 = .ok (.istore_n 3, 1) := by decide +kernel
theorem dX7_isHadBehind_57 : decode cX7_isHadBehind 57 = .ok (.iinc 4 1, 3) := by decide +kernel
theorem dX7_isHadBehind_60 : decode cX7_isHadBehind 60 = .ok (.goto (-55), 3) := by decide +kernel
theorem dX7_isHadBehind_63 : decode cX7_isHadBehind 63 = .ok (.iload_n 3, 1) := by decide +kernel
theorem dX7_isHadBehind_64 : decode cX7_isHadBehind 64 = .ok (.ireturn, 1) := by decide +kernel
theorem dX7_changes_0 : decode cX7_changes 0 = .ok (.aload_n 0, 1) := by decide +kernel
theorem dX7_changes_1 : decode cX7_changes 1 = .ok (.getfield 7, 3) := by decide +kernel
theorem dX7_changes_4 : decode cX7_changes 4 = .ok (.iload_n 1, 1) := by decide +kernel
theorem dX7_changes_5 : decode cX7_changes 5 = .ok (.iaload, 1) := by decide +kernel
theorem dX7_changes_6 : decode cX7_changes 6 = .ok (.istore_n 3, 1) := by decide +kernel
theorem dX7_changes_7 : decode cX7_changes 7 = .ok (.aload_n 0, 1) := by decide +kernel
theorem dX7_changes_8 : decode cX7_changes 8 = .ok (.getfield 7, 3) := by decide +kernel
theorem dX7_changes_11 : decode cX7_changes 11 = .ok (.iload_n 1, 1) := by decide +kernel
theorem dX7_changes_12 : decode cX7_changes 12 = .ok (.iload_n 2, 1) := by decide +kernel
theorem dX7_changes_13 : decode cX7_changes 13 = .ok (.iastore, 1) := by decide +kernel
theorem dX7_changes_14 : decode cX7_changes 14 = .ok (.iload_n 3, 1) := by decide +kernel
theorem dX7_changes_15 : decode cX7_changes 15 = .ok (.ireturn, 1) := by decide +kernel
set_option maxRecDepth 20000 in
theorem ggX7_cut_X7_in : GoodIn wsX7_cut wsX7_in := goodIn_r _ [5] (by decide +kernel) (by decide +kernel)
set_option maxRecDepth 20000 in
theorem gX7_cut_X7_in : GoodIn wsX7_cut (va_wsS RX7 29 yX7_in wsX7_in) := goodIn_app (goodIn_of _ (by decide +kernel)) ggX7_cut_X7_in
set_option maxRecDepth 20000 in
theorem ggX7_cut_X7_fails : GoodIn wsX7_cut wsX7_fails := goodIn_r _ [9, 1, 31, 32, 33, 34, 35, 36, 37, 38, 39, 40, 41, 42, 43, 44, 45] (by decide +kernel) (by decide +kernel)
set_option maxRecDepth 20000 in
theorem gX7_cut_X7_fails : GoodIn wsX7_cut (wsV RX7 40 RX7 yX7_fails wsX7_fails) := goodIn_app (goodIn_of _ (by decide +kernel)) ggX7_cut_X7_fails
set_option maxRecDepth 20000 in
theorem ggX7_cut_X7_isHadBehind : GoodIn wsX7_cut wsX7_isHadBehind := goodIn_r _ [13, 14, 15, 16, 4, 17, 31, 32, 33, 34, 35, 36, 37, 38, 39, 40, 41, 42, 43, 44, 45] (by decide +kernel) (by decide +kernel)
set_option maxRecDepth 20000 in
theorem gX7_cut_X7_isHadBehind : GoodIn wsX7_cut (wsV RX7 132 RX7 yX7_isHadBehind wsX7_isHadBehind) := goodIn_app (goodIn_of _ (by decide +kernel)) ggX7_cut_X7_isHadBehind
set_option maxRecDepth 20000 in
theorem ggX7_cut_X7_saves : GoodIn wsX7_cut wsX7_saves := goodIn_r _ [21, 22, 23, 14, 24, 25, 4, 26, 31, 32, 33, 34, 35, 36, 37, 38, 39, 40, 41, 42, 43, 44, 45] (by decide +kernel) (by decide +kernel)
set_option maxRecDepth 20000 in
theorem gX7_cut_X7_saves : GoodIn wsX7_cut (wsV RX7 108 RX7 yX7_saves wsX7_saves) := goodIn_app (goodIn_of _ (by decide +kernel)) ggX7_cut_X7_saves
set_option maxRecDepth 20000 in
theorem ggX7_cut_X7_changes : GoodIn wsX7_cut wsX7_changes := goodIn_r _ [30, 14, 31, 32, 33, 34, 35, 36, 37, 38, 39, 40, 41, 42, 43, 44, 45] (by decide +kernel) (by decide +kernel)
set_option maxRecDepth 20000 in
theorem gX7_cut_X7_changes : GoodIn wsX7_cut (wsV RX7 135 RX7 yX7_changes wsX7_changes) := goodIn_app (goodIn_of _ (by decide +kernel)) ggX7_cut_X7_changes
theorem dX7_cut_0 : decode cX7_cut 0 = .ok (.aload_n 0, 1) := by decide +kernel
theorem dX7_cut_1 : decode cX7_cut 1 = .ok (.iconst 0, 1) := by decide +kernel
theorem dX7_cut_2 : decode cX7_cut 2 = .ok (.putfield 25, 3) := by decide +kernel
theorem dX7_cut_5 : decode cX7_cut 5 = .ok (.iload_n 1, 1) := by decide +kernel
theorem dX7_cut_6 : decode cX7_cut 6 = .ok (.iconst 0, 1) := by decide +kernel
theorem dX7_cut_7 : decode cX7_cut 7 = .ok (.iconst 2, 1) := by decide +kernel
theorem dX7_cut_8 : decode cX7_cut 8 = .ok (.invokestatic 29, 3) := by decide +kernel
theorem dX7_cut_11 : decode cX7_cut 11 = .ok (.ifCond .ne 9, 3) := by decide +kernel
theorem dX7_cut_14 : decode cX7_cut 14 = .ok (.aload_n 0, 1) := by decide +kernel
theorem dX7_cut_15 : decode cX7_cut 15 = .ok (.iconst 1, 1) := by decide +kernel
theorem dX7_cut_16 : decode cX7_cut 16 = .ok (.invokevirtual 40, 3) := by decide +kernel
theorem dX7_cut_19 : decode cX7_cut 19 = .ok (.ireturn, 1) := by decide +kernel
theorem dX7_cut_20 : decode cX7_cut 20 = .ok (.iload_n 2, 1) := by decide +kernel
theorem dX7_cut_21 : decode cX7_cut 21 = .ok (.iconst 1, 1) := by decide +kernel
theorem dX7_cut_22 : decode cX7_cut 22 = .ok (.bipush 9, 2) := by decide +kernel
theorem dX7_cut_24 : decode cX7_cut 24 = .ok (.invokestatic 29, 3) := by decide +kernel
theorem dX7_cut_27 : decode cX7_cut 27 = .ok (.ifCond .ne 9, 3) := by decide +kernel
theorem dX7_cut_30 : decode cX7_cut 30 = .ok (.aload_n 0, 1) := by decide +kernel
theorem dX7_cut_31 : decode cX7_cut 31 = .ok (.iconst 2, 1) := by decide +kernel
theorem dX7_cut_32 : decode cX7_cut 32 = .ok (.invokevirtual 40, 3) := by decide +kernel
theorem dX7_cut_35 : decode cX7_cut 35 = .ok (.ireturn, 1) := by decide +kernel
theorem dX7_cut_36 : decode cX7_cut 36 = .ok (.aload_n 0, 1) := by decide +kernel
theorem dX7_cut_37 : decode cX7_cut 37 = .ok (.iload_n 1, 1) := by decide +kernel
theorem dX7_cut_38 : decode cX7_cut 38 = .ok (.iload_n 2, 1) := by decide +kernel
theorem dX7_cut_39 : decode cX7_cut 39 = .ok (.invokevirtual 132, 3) := by decide +kernel
theorem dX7_cut_42 : decode cX7_cut 42 = .ok (.ifCond .eq 9, 3) := by decide +kernel
theorem dX7_cut_45 : decode cX7_cut 45 = .ok (.aload_n 0, 1) := by decide +kernel
theorem dX7_cut_46 : decode cX7_cut 46 = .ok (.iconst 3, 1) := by decide +kernel
theorem dX7_cut_47 : decode cX7_cut 47 = .ok (.invokevirtual 40, 3) := by decide +kernel
theorem dX7_cut_50 : decode cX7_cut 50 = .ok (.ireturn, 1) := by decide +kernel
theorem dX7_cut_51 : decode cX7_cut 51 = .ok (.aload_n 0, 1) := by decide +kernel
theorem dX7_cut_52 : decode cX7_cut 52 = .ok (.invokevirtual 108, 3) := by decide +kernel
theorem dX7_cut_55 : decode cX7_cut 55 = .ok (.aload_n 0, 1) := by decide +kernel
theorem dX7_cut_56 : decode cX7_cut 56 = .ok (.iconst 3, 1) := by decide +kernel
theorem dX7_cut_57 : decode cX7_cut 57 = .ok (.iload_n 1, 1) := by decide +kernel
theorem dX7_cut_58 : decode cX7_cut 58 = .ok (.iadd, 1) := by decide +kernel
theorem dX7_cut_59 : decode cX7_cut 59 = .ok (.iload_n 2, 1) := by decide +kernel
theorem dX7_cut_60 : decode cX7_cut 60 = .ok (.invokevirtual 135, 3) := by decide +kernel
theorem dX7_cut_63 : decode cX7_cut 63 = .ok (.ireturn, 1) := by decide +kernel
set_option maxRecDepth 20000 in
theorem ggX7_set_X7_in : GoodIn wsX7_set wsX7_in := goodIn_r _ [5] (by decide +kernel) (by decide +kernel)
set_option maxRecDepth 20000 in
theorem gX7_set_X7_in : GoodIn wsX7_set (va_wsS RX7 29 yX7_in wsX7_in) := goodIn_app (goodIn_of _ (by decide +kernel)) ggX7_set_X7_in
set_option maxRecDepth 20000 in
theorem ggX7_set_X7_fails : GoodIn wsX7_set wsX7_fails := goodIn_r _ [9, 1, 24, 25, 26, 27, 28, 29, 30, 31, 32, 33, 34, 35, 36, 37, 38] (by decide +kernel) (by decide +kernel)
set_option maxRecDepth 20000 in
theorem gX7_set_X7_fails : GoodIn wsX7_set (wsV RX7 40 RX7 yX7_fails wsX7_fails) := goodIn_app (goodIn_of _ (by decide +kernel)) ggX7_set_X7_fails
set_option maxRecDepth 20000 in
theorem ggX7_set_X7_saves : GoodIn wsX7_set wsX7_saves := goodIn_r _ [13, 14, 15, 16, 17, 18, 4, 19, 24, 25, 26, 27, 28, 29, 30, 31, 32, 33, 34, 35, 36, 37, 38] (by decide +kernel) (by decide +kernel)
set_option maxRecDepth 20000 in
theorem gX7_set_X7_saves : GoodIn wsX7_set (wsV RX7 108 RX7 yX7_saves wsX7_saves) := goodIn_app (goodIn_of _ (by decide +kernel)) ggX7_set_X7_saves
set_option maxRecDepth 20000 in
theorem ggX7_set_X7_changes : GoodIn wsX7_set wsX7_changes := goodIn_r _ [23, 16, 24, 25, 26, 27, 28, 29, 30, 31, 32, 33, 34, 35, 36, 37, 38] (by decide +kernel) (by decide +kernel)
set_option maxRecDepth 20000 in
theorem gX7_set_X7_changes : GoodIn wsX7_set (wsV RX7 135 RX7 yX7_changes wsX7_changes) := goodIn_app (goodIn_of _ (by decide +kernel)) ggX7_set_X7_changes
theorem dX7_set_0 : decode cX7_set 0 = .ok (.aload_n 0, 1) := by decide +kernel
theorem dX7_set_1 : decode cX7_set 1 = .ok (.iconst 0, 1) := by decide +kernel
theorem dX7_set_2 : decode cX7_set 2 = .ok (.putfield 25, 3) := by decide +kernel
theorem dX7_set_5 : decode cX7_set 5 = .ok (.iload_n 1, 1) := by decide +kernel
theorem dX7_set_6 : decode cX7_set 6 = .ok (.iconst 0, 1) := by decide +kernel
theorem dX7_set_7 : decode cX7_set 7 = .ok (.iconst 2, 1) := by decide +kernel
theorem dX7_set_8 : decode cX7_set 8 = .ok (.invokestatic 29, 3) := by decide +kernel
theorem dX7_set_11 : decode cX7_set 11 = .ok (.ifCond .ne 9, 3) := by decide +kernel
theorem dX7_set_14 : decode cX7_set 14 = .ok (.aload_n 0, 1) := by decide +kernel
theorem dX7_set_15 : decode cX7_set 15 = .ok (.iconst 1, 1) := by decide +kernel
theorem dX7_set_16 : decode cX7_set 16 = .ok (.invokevirtual 40, 3) := by decide +kernel
theorem dX7_set_19 : decode cX7_set 19 = .ok (.ireturn, 1) := by decide +kernel
theorem dX7_set_20 : decode cX7_set 20 = .ok (.iload_n 2, 1) := by decide +kernel
theorem dX7_set_21 : decode cX7_set 21 = .ok (.iconst 0, 1) := by decide +kernel
theorem dX7_set_22 : decode cX7_set 22 = .ok (.iload_n 1, 1) := by decide +kernel
theorem dX7_set_23 : decode cX7_set 23 = .ok (.iconst 2, 1) := by decide +kernel
theorem dX7_set_24 : decode cX7_set 24 = .ok (.if_icmp .ne 8, 3) := by decide +kernel
theorem dX7_set_27 : decode cX7_set 27 = .ok (.bipush 50, 2) := by decide +kernel
theorem dX7_set_29 : decode cX7_set 29 = .ok (.goto 5, 3) := by decide +kernel
theorem dX7_set_32 : decode cX7_set 32 = .ok (.bipush 9, 2) := by decide +kernel
theorem dX7_set_34 : decode cX7_set 34 = .ok (.invokestatic 29, 3) := by decide +kernel
theorem dX7_set_37 : decode cX7_set 37 = .ok (.ifCond .ne 9, 3) := by decide +kernel
theorem dX7_set_40 : decode cX7_set 40 = .ok (.aload_n 0, 1) := by decide +kernel
theorem dX7_set_41 : decode cX7_set 41 = .ok (.iconst 2, 1) := by decide +kernel
theorem dX7_set_42 : decode cX7_set 42 = .ok (.invokevirtual 40, 3) := by decide +kernel
theorem dX7_set_45 : decode cX7_set 45 = .ok (.ireturn, 1) := by decide +kernel
theorem dX7_set_46 : decode cX7_set 46 = .ok (.aload_n 0, 1) := by decide +kernel
theorem dX7_set_47 : decode cX7_set 47 = .ok (.invokevirtual 108, 3) := by decide +kernel
theorem dX7_set_50 : decode cX7_set 50 = .ok (.aload_n 0, 1) := by decide +kernel
theorem dX7_set_51 : decode cX7_set 51 = .ok (.iload_n 1, 1) := by decide +kernel
theorem dX7_set_52 : decode cX7_set 52 = .ok (.iload_n 2, 1) := by decide +kernel
theorem dX7_set_53 : decode cX7_set 53 = .ok (.invokevirtual 135, 3) := by decide +kernel
theorem dX7_set_56 : decode cX7_set 56 = .ok (.ireturn, 1) := by decide +kernel
set_option maxRecDepth 20000 in
theorem ggX7_append_X7_in : GoodIn wsX7_append wsX7_in := goodIn_r _ [7] (by decide +kernel) (by decide +kernel)
set_option maxRecDepth 20000 in
theorem gX7_append_X7_in : GoodIn wsX7_append (va_wsS RX7 29 yX7_in wsX7_in) := goodIn_app (goodIn_of _ (by decide +kernel)) ggX7_append_X7_in
set_option maxRecDepth 20000 in
theorem ggX7_append_X7_fails : GoodIn wsX7_append wsX7_fails := goodIn_r _ [11, 1, 12, 13, 14, 15, 16, 17, 18, 19, 20, 21, 22, 23, 24, 25, 26] (by decide +kernel) (by decide +kernel)
set_option maxRecDepth 20000 in
theorem gX7_append_X7_fails : GoodIn wsX7_append (wsV RX7 40 RX7 yX7_fails wsX7_fails) := goodIn_app (goodIn_of _ (by decide +kernel)) ggX7_append_X7_fails
theorem dX7_append_0 : decode cX7_append 0 = .ok (.aload_n 0, 1) := by decide +kernel
theorem dX7_append_1 : decode cX7_append 1 = .ok (.iconst 0, 1) := by decide +kernel
theorem dX7_append_2 : decode cX7_append 2 = .ok (.putfield 25, 3) := by decide +kernel
theorem dX7_append_5 : decode cX7_append 5 = .ok (.iload_n 1, 1) := by decide +kernel
theorem dX7_append_6 : decode cX7_append 6 = .ok (.bipush 33, 2) := by decide +kernel
theorem dX7_append_8 : decode cX7_append 8 = .ok (.bipush 126, 2) := by decide +kernel
theorem dX7_append_10 : decode cX7_append 10 = .ok (.invokestatic 29, 3) := by decide +kernel
theorem dX7_append_13 : decode cX7_append 13 = .ok (.ifCond .ne 9, 3) := by decide +kernel
theorem dX7_append_16 : decode cX7_append 16 = .ok (.aload_n 0, 1) := by decide +kernel
theorem dX7_append_17 : decode cX7_append 17 = .ok (.iconst 1, 1) := by decide +kernel
theorem dX7_append_18 : decode cX7_append 18 = .ok (.invokevirtual 40, 3) := by decide +kernel
theorem dX7_append_21 : decode cX7_append 21 = .ok (.ireturn, 1) := by decide +kernel
theorem dX7_append_22 : decode cX7_append 22 = .ok (.aload_n 0, 1) := by decide +kernel
theorem dX7_append_23 : decode cX7_append 23 = .ok (.getfield 139, 3) := by decide +kernel
theorem dX7_append_26 : decode cX7_append 26 = .ok (.bipush 60, 2) := by decide +kernel
theorem dX7_append_28 : decode cX7_append 28 = .ok (.if_icmp .ne 9, 3) := by decide +kernel
theorem dX7_append_31 : decode cX7_append 31 = .ok (.aload_n 0, 1) := by decide +kernel
theorem dX7_append_32 : decode cX7_append 32 = .ok (.iconst 2, 1) := by decide +kernel
theorem dX7_append_33 : decode cX7_append 33 = .ok (.invokevirtual 40, 3) := by decide +kernel
theorem dX7_append_36 : decode cX7_append 36 = .ok (.ireturn, 1) := by decide +kernel
theorem dX7_append_37 : decode cX7_append 37 = .ok (.aload_n 0, 1) := by decide +kernel
theorem dX7_append_38 : decode cX7_append 38 = .ok (.getfield 19, 3) := by decide +kernel
theorem dX7_append_41 : decode cX7_append 41 = .ok (.aload_n 0, 1) := by decide +kernel
theorem dX7_append_42 : decode cX7_append 42 = .ok (.getfield 139, 3) := by decide +kernel
theorem dX7_append_45 : decode cX7_append 45 = .ok (.iload_n 1, 1) := by decide +kernel
theorem dX7_append_46 : decode cX7_append 46 = .ok (.iastore, 1) := by decide +kernel
theorem dX7_append_47 : decode cX7_append 47 = .ok (.aload_n 0, 1) := by decide +kernel
theorem dX7_append_48 : decode cX7_append 48 = .ok (.dup, 1) := by decide +kernel
theorem dX7_append_49 : decode cX7_append 49 = .ok (.getfield 139, 3) := by decide +kernel
theorem dX7_append_52 : decode cX7_append 52 = .ok (.iconst 1, 1) := by decide +kernel
theorem dX7_append_53 : decode cX7_append 53 = .ok (.iadd, 1) := by decide +kernel
theorem dX7_append_54 : decode cX7_append 54 = .ok (.putfield 139, 3) := by decide +kernel
theorem dX7_append_57 : decode cX7_append 57 = .ok (.aload_n 0, 1) := by decide +kernel
theorem dX7_append_58 : decode cX7_append 58 = .ok (.getfield 139, 3) := by decide +kernel
theorem dX7_append_61 : decode cX7_append 61 = .ok (.ireturn, 1) := by decide +kernel
theorem dX7_clearBuffer_0 : decode cX7_clearBuffer 0 = .ok (.aload_n 0, 1) := by decide +kernel
theorem dX7_clearBuffer_1 : decode cX7_clearBuffer 1 = .ok (.iconst 0, 1) := by decide +kernel
theorem dX7_clearBuffer_2 : decode cX7_clearBuffer 2 = .ok (.putfield 25, 3) := by decide +kernel
theorem dX7_clearBuffer_5 : decode cX7_clearBuffer 5 = .ok (.aload_n 0, 1) := by decide +kernel
theorem dX7_clearBuffer_6 : decode cX7_clearBuffer 6 = .ok (.getfield 139, 3) := by decide +kernel
theorem dX7_clearBuffer_9 : decode cX7_clearBuffer 9 = .ok (.istore_n 1, 1) := by decide +kernel
theorem dX7_clearBuffer_10 : decode cX7_clearBuffer 10 = .ok (.aload_n 0, 1) := by decide +kernel
theorem dX7_clearBuffer_11 : decode cX7_clearBuffer 11 = .ok (.iconst 0, 1) := by decide +kernel
theorem dX7_clearBuffer_12 : decode cX7_clearBuffer 12 = .ok (.putfield 139, 3) := by decide +kernel
theorem dX7_clearBuffer_15 : decode cX7_clearBuffer 15 = .ok (.iload_n 1, 1) := by decide +kernel
theorem dX7_clearBuffer_16 : decode cX7_clearBuffer 16 = .ok (.ireturn, 1) := by decide +kernel
set_option maxRecDepth 20000 in
theorem ggX7_isAt_X7_in : GoodIn wsX7_isAt wsX7_in := goodIn_r _ [7] (by decide +kernel) (by decide +kernel)
set_option maxRecDepth 20000 in
theorem gX7_isAt_X7_in : GoodIn wsX7_isAt (va_wsS RX7 29 yX7_in wsX7_in) := goodIn_app (goodIn_of _ (by decide +kernel)) ggX7_isAt_X7_in
theorem dX7_isAt_0 : decode cX7_isAt 0 = .ok (.aload_n 0, 1) := by decide +kernel
theorem dX7_isAt_1 : decode cX7_isAt 1 = .ok (.getfield 142, 3) := by decide +kernel
theorem dX7_isAt_4 : decode cX7_isAt 4 = .ok (.aload_n 0, 1) := by decide +kernel
theorem dX7_isAt_5 : decode cX7_isAt 5 = .ok (.getfield 139, 3) := by decide +kernel
theorem dX7_isAt_8 : decode cX7_isAt 8 = .ok (.if_icmp .ge 24, 3) := by decide +kernel
theorem dX7_isAt_11 : decode cX7_isAt 11 = .ok (.aload_n 0, 1) := by decide +kernel
theorem dX7_isAt_12 : decode cX7_isAt 12 = .ok (.getfield 19, 3) := by decide +kernel
theorem dX7_isAt_15 : decode cX7_isAt 15 = .ok (.aload_n 0, 1) := by decide +kernel
theorem dX7_isAt_16 : decode cX7_isAt 16 = .ok (.getfield 142, 3) := by decide +kernel
theorem dX7_isAt_19 : decode cX7_isAt 19 = .ok (.iaload, 1) := by decide +kernel
theorem dX7_isAt_20 : decode cX7_isAt 20 = .ok (.iload_n 1, 1) := by decide +kernel
theorem dX7_isAt_21 : decode cX7_isAt 21 = .ok (.iload_n 2, 1) := by decide +kernel
theorem dX7_isAt_22 : decode cX7_isAt 22 = .ok (.invokestatic 29, 3) := by decide +kernel
theorem dX7_isAt_25 : decode cX7_isAt 25 = .ok (.ifCond .eq 7, 3) := by decide +kernel
theorem dX7_isAt_28 : decode cX7_isAt 28 = .ok (.iconst 1, 1) := by decide +kernel
theorem dX7_isAt_29 : decode cX7_isAt 29 = .ok (.goto 4, 3) := by decide +kernel
theorem dX7_isAt_32 : decode cX7_isAt 32 = .ok (.iconst 0, 1) := by decide +kernel
theorem dX7_isAt_33 : decode cX7_isAt 33 = .ok (.ireturn, 1) := by decide +kernel
theorem dX7_stops_0 : decode cX7_stops 0 = .ok (.aload_n 0, 1) := by decide +kernel
theorem dX7_stops_1 : decode cX7_stops 1 = .ok (.aload_n 0, 1) := by decide +kernel
theorem dX7_stops_2 : decode cX7_stops 2 = .ok (.getfield 142, 3) := by decide +kernel
theorem dX7_stops_5 : decode cX7_stops 5 = .ok (.aload_n 0, 1) := by decide +kernel
theorem dX7_stops_6 : decode cX7_stops 6 = .ok (.getfield 139, 3) := by decide +kernel
theorem dX7_stops_9 : decode cX7_stops 9 = .ok (.if_icmp .ge 7, 3) := by decide +kernel
theorem dX7_stops_12 : decode cX7_stops 12 = .ok (.iconst 1, 1) := by decide +kernel
theorem dX7_stops_13 : decode cX7_stops 13 = .ok (.goto 4, 3) := by decide +kernel
theorem dX7_stops_16 : decode cX7_stops 16 = .ok (.iconst 0, 1) := by decide +kernel
theorem dX7_stops_17 : decode cX7_stops 17 = .ok (.putfield 145, 3) := by decide +kernel
theorem dX7_stops_20 : decode cX7_stops 20 = .ok (.iconst 0, 1) := by decide +kernel
theorem dX7_stops_21 : decode cX7_stops 21 = .ok (.ireturn, 1) := by decide +kernel
set_option maxRecDepth 20000 in
theorem ggX7_isPart_X7_isAt : GoodIn wsX7_isPart wsX7_isAt := goodIn_r _ [9, 2, 10, 1, 11, 12, 8, 13, 19, 20, 21, 22, 23, 24, 25, 26, 27, 28, 29, 30, 31, 32, 33] (by decide +kernel) (by decide +kernel)
set_option maxRecDepth 20000 in
theorem gX7_isPart_X7_isAt : GoodIn wsX7_isPart (wsV RX7 149 RX7 yX7_isAt wsX7_isAt) := goodIn_app (goodIn_of _ (by decide +kernel)) ggX7_isPart_X7_isAt
set_option maxRecDepth 20000 in
theorem ggX7_isPart_X7_stops : GoodIn wsX7_isPart wsX7_stops := goodIn_r _ [17, 2, 10, 18, 19, 20, 21, 22, 23, 24, 25, 26, 27, 28, 29, 30, 31, 32, 33] (by decide +kernel) (by decide +kernel)
set_option maxRecDepth 20000 in
theorem gX7_isPart_X7_stops : GoodIn wsX7_isPart (wsV RX7 152 RX7 yX7_stops wsX7_stops) := goodIn_app (goodIn_of _ (by decide +kernel)) ggX7_isPart_X7_stops
theorem dX7_isPart_0 : decode cX7_isPart 0 = .ok (.aload_n 0, 1) := by decide +kernel
theorem dX7_isPart_1 : decode cX7_isPart 1 = .ok (.bipush 48, 2) := by decide +kernel
theorem dX7_isPart_3 : decode cX7_isPart 3 = .ok (.bipush 56, 2) := by decide +kernel
theorem dX7_isPart_5 : decode cX7_isPart 5 = .ok (.invokevirtual 149, 3) := by decide +kernel
theorem dX7_isPart_8 : decode cX7_isPart 8 = .ok (.ifCond .ne 8, 3) := by decide +kernel
theorem dX7_isPart_11 : decode cX7_isPart 11 = .ok (.aload_n 0, 1) := by decide +kernel
theorem dX7_isPart_12 : decode cX7_isPart 12 = .ok (.invokevirtual 152, 3) := by decide +kernel
theorem dX7_isPart_15 : decode cX7_isPart 15 = .ok (.ireturn, 1) := by decide +kernel
theorem dX7_isPart_16 : decode cX7_isPart 16 = .ok (.aload_n 0, 1) := by decide +kernel
theorem dX7_isPart_17 : decode cX7_isPart 17 = .ok (.getfield 19, 3) := by decide +kernel
theorem dX7_isPart_20 : decode cX7_isPart 20 = .ok (.aload_n 0, 1) := by decide +kernel
theorem dX7_isPart_21 : decode cX7_isPart 21 = .ok (.getfield 142, 3) := by decide +kernel
theorem dX7_isPart_24 : decode cX7_isPart 24 = .ok (.iaload, 1) := by decide +kernel
theorem dX7_isPart_25 : decode cX7_isPart 25 = .ok (.istore_n 1, 1) := by decide +kernel
theorem dX7_isPart_26 : decode cX7_isPart 26 = .ok (.aload_n 0, 1) := by decide +kernel
theorem dX7_isPart_27 : decode cX7_isPart 27 = .ok (.dup, 1) := by decide +kernel
theorem dX7_isPart_28 : decode cX7_isPart 28 = .ok (.getfield 142, 3) := by decide +kernel
theorem dX7_isPart_31 : decode cX7_isPart 31 = .ok (.iconst 1, 1) := by decide +kernel
theorem dX7_isPart_32 : decode cX7_isPart 32 = .ok (.iadd, 1) := by decide +kernel
theorem dX7_isPart_33 : decode cX7_isPart 33 = .ok (.putfield 142, 3) := by decide +kernel
theorem dX7_isPart_36 : decode cX7_isPart 36 = .ok (.aload_n 0, 1) := by decide +kernel
theorem dX7_isPart_37 : decode cX7_isPart 37 = .ok (.bipush 45, 2) := by decide +kernel
theorem dX7_isPart_39 : decode cX7_isPart 39 = .ok (.bipush 45, 2) := by decide +kernel
theorem dX7_isPart_41 : decode cX7_isPart 41 = .ok (.invokevirtual 149, 3) := by decide +kernel
theorem dX7_isPart_44 : decode cX7_isPart 44 = .ok (.ifCond .ne 8, 3) := by decide +kernel
theorem dX7_isPart_47 : decode cX7_isPart 47 = .ok (.aload_n 0, 1) := by decide +kernel
theorem dX7_isPart_48 : decode cX7_isPart 48 = .ok (.invokevirtual 152, 3) := by decide +kernel
theorem dX7_isPart_51 : decode cX7_isPart 51 = .ok (.ireturn, 1) := by decide +kernel
theorem dX7_isPart_52 : decode cX7_isPart 52 = .ok (.aload_n 0, 1) := by decide +kernel
theorem dX7_isPart_53 : decode cX7_isPart 53 = .ok (.dup, 1) := by decide +kernel
theorem dX7_isPart_54 : decode cX7_isPart 54 = .ok (.getfield 142, 3) := by decide +kernel
theorem dX7_isPart_57 : decode cX7_isPart 57 = .ok (.iconst 1, 1) := by decide +kernel
theorem dX7_isPart_58 : decode cX7_isPart 58 = .ok (.iadd, 1) := by decide +kernel
theorem dX7_isPart_59 : decode cX7_isPart 59 = .ok (.putfield 142, 3) := by decide +kernel
theorem dX7_isPart_62 : decode cX7_isPart 62 = .ok (.aload_n 0, 1) := by decide +kernel
theorem dX7_isPart_63 : decode cX7_isPart 63 = .ok (.iload_n 1, 1) := by decide +kernel
theorem dX7_isPart_64 : decode cX7_isPart 64 = .ok (.iconst 1, 1) := by decide +kernel
theorem dX7_isPart_65 : decode cX7_isPart 65 = .ok (.iadd, 1) := by decide +kernel
theorem dX7_isPart_66 : decode cX7_isPart 66 = .ok (.bipush 57, 2) := by decide +kernel
theorem dX7_isPart_68 : decode cX7_isPart 68 = .ok (.invokevirtual 149, 3) := by decide +kernel
theorem dX7_isPart_71 : decode cX7_isPart 71 = .ok (.ifCond .ne 8, 3) := by decide +kernel
theorem dX7_isPart_74 : decode cX7_isPart 74 = .ok (.aload_n 0, 1) := by decide +kernel
theorem dX7_isPart_75 : decode cX7_isPart 75 = .ok (.invokevirtual 152, 3) := by decide +kernel
theorem dX7_isPart_78 : decode cX7_isPart 78 = .ok (.ireturn, 1) := by decide +kernel
theorem dX7_isPart_79 : decode cX7_isPart 79 = .ok (.aload_n 0, 1) := by decide +kernel
theorem dX7_isPart_80 : decode cX7_isPart 80 = .ok (.getfield 22, 3) := by decide +kernel
theorem dX7_isPart_83 : decode cX7_isPart 83 = .ok (.iconst 3, 1) := by decide +kernel
theorem dX7_isPart_84 : decode cX7_isPart 84 = .ok (.aload_n 0, 1) := by decide +kernel
theorem dX7_isPart_85 : decode cX7_isPart 85 = .ok (.getfield 156, 3) := by decide +kernel
theorem dX7_isPart_88 : decode cX7_isPart 88 = .ok (.imul, 1) := by decide +kernel
theorem dX7_isPart_89 : decode cX7_isPart 89 = .ok (.iload_n 1, 1) := by decide +kernel
theorem dX7_isPart_90 : decode cX7_isPart 90 = .ok (.bipush 48, 2) := by decide +kernel
theorem dX7_isPart_92 : decode cX7_isPart 92 = .ok (.isub, 1) := by decide +kernel
theorem dX7_isPart_93 : decode cX7_isPart 93 = .ok (.iastore, 1) := by decide +kernel
theorem dX7_isPart_94 : decode cX7_isPart 94 = .ok (.aload_n 0, 1) := by decide +kernel
theorem dX7_isPart_95 : decode cX7_isPart 95 = .ok (.getfield 22, 3) := by decide +kernel
theorem dX7_isPart_98 : decode cX7_isPart 98 = .ok (.iconst 3, 1) := by decide +kernel
theorem dX7_isPart_99 : decode cX7_isPart 99 = .ok (.aload_n 0, 1) := by decide +kernel
theorem dX7_isPart_100 : decode cX7_isPart 100 = .ok (.getfield 156, 3) := by decide +kernel
theorem dX7_isPart_103 : decode cX7_isPart 103 = .ok (.imul, 1) := by decide +kernel
theorem dX7_isPart_104 : decode cX7_isPart 104 = .ok (.iconst 1, 1) := by decide +kernel
theorem dX7_isPart_105 : decode cX7_isPart 105 = .ok (.iadd, 1) := by decide +kernel
theorem dX7_isPart_106 : decode cX7_isPart 106 = .ok (.aload_n 0, 1) := by decide +kernel
theorem dX7_isPart_107 : decode cX7_isPart 107 = .ok (.getfield 19, 3) := by decide +kernel
theorem dX7_isPart_110 : decode cX7_isPart 110 = .ok (.aload_n 0, 1) := by decide +kernel
theorem dX7_isPart_111 : decode cX7_isPart 111 = .ok (.getfield 142, 3) := by decide +kernel
theorem dX7_isPart_114 : decode cX7_isPart 114 = .ok (.iaload, 1) := by decide +kernel
theorem dX7_isPart_115 : decode cX7_isPart 115 = .ok (.bipush 48, 2) := by decide +kernel
theorem dX7_isPart_117 : decode cX7_isPart 117 = .ok (.isub, 1) := by decide +kernel
theorem dX7_isPart_118 : decode cX7_isPart 118 = .ok (.iastore, 1) := by decide +kernel
theorem dX7_isPart_119 : decode cX7_isPart 119 = .ok (.aload_n 0, 1) := by decide +kernel
theorem dX7_isPart_120 : decode cX7_isPart 120 = .ok (.dup, 1) := by decide +kernel
theorem dX7_isPart_121 : decode cX7_isPart 121 = .ok (.getfield 142, 3) := by decide +kernel
theorem dX7_isPart_124 : decode cX7_isPart 124 = .ok (.iconst 1, 1) := by decide +kernel
theorem dX7_isPart_125 : decode cX7_isPart 125 = .ok (.iadd, 1) := by decide +kernel
theorem dX7_isPart_126 : decode cX7_isPart 126 = .ok (.putfield 142, 3) := by decide +kernel
theorem dX7_isPart_129 : decode cX7_isPart 129 = .ok (.aload_n 0, 1) := by decide +kernel
theorem dX7_isPart_130 : decode cX7_isPart 130 = .ok (.getfield 22, 3) := by decide +kernel
theorem dX7_isPart_133 : decode cX7_isPart 133 = .ok (.iconst 3, 1) := by decide +kernel
theorem dX7_isPart_134 : decode cX7_isPart 134 = .ok (.aload_n 0, 1) := by decide +kernel
theorem dX7_isPart_135 : decode cX7_isPart 135 = .ok (.getfield 156, 3) := by decide +kernel
theorem dX7_isPart_138 : decode cX7_isPart 138 = .ok (.imul, 1) := by decide +kernel
theorem dX7_isPart_139 : decode cX7_isPart 139 = .ok (.iconst 2, 1) := by decide +kernel
theorem dX7_isPart_140 : decode cX7_isPart 140 = .ok (.iadd, 1) := by decide +kernel
theorem dX7_isPart_141 : decode cX7_isPart 141 = .ok (.aload_n 0, 1) := by decide +kernel
theorem dX7_isPart_142 : decode cX7_isPart 142 = .ok (.bipush 33, 2) := by decide +kernel
theorem dX7_isPart_144 : decode cX7_isPart 144 = .ok (.bipush 33, 2) := by decide +kernel
theorem dX7_isPart_146 : decode cX7_isPart 146 = .ok (.invokevirtual 149, 3) := by decide +kernel
theorem dX7_isPart_149 : decode cX7_isPart 149 = .ok (.ifCond .eq 7, 3) := by decide +kernel
theorem dX7_isPart_152 : decode cX7_isPart 152 = .ok (.iconst 1, 1) := by decide +kernel
theorem dX7_isPart_153 : decode cX7_isPart 153 = .ok (.goto 4, 3) := by decide +kernel
theorem dX7_isPart_156 : decode cX7_isPart 156 = .ok (.iconst 0, 1) := by decide +kernel
theorem dX7_isPart_157 : decode cX7_isPart 157 = .ok (.iastore, 1) := by decide +kernel
theorem dX7_isPart_158 : decode cX7_isPart 158 = .ok (.aload_n 0, 1) := by decide +kernel
theorem dX7_isPart_159 : decode cX7_isPart 159 = .ok (.dup, 1) := by decide +kernel
theorem dX7_isPart_160 : decode cX7_isPart 160 = .ok (.getfield 142, 3) := by decide +kernel
theorem dX7_isPart_163 : decode cX7_isPart 163 = .ok (.aload_n 0, 1) := by decide +kernel
theorem dX7_isPart_164 : decode cX7_isPart 164 = .ok (.getfield 22, 3) := by decide +kernel
theorem dX7_isPart_167 : decode cX7_isPart 167 = .ok (.iconst 3, 1) := by decide +kernel
theorem dX7_isPart_168 : decode cX7_isPart 168 = .ok (.aload_n 0, 1) := by decide +kernel
theorem dX7_isPart_169 : decode cX7_isPart 169 = .ok (.getfield 156, 3) := by decide +kernel
theorem dX7_isPart_172 : decode cX7_isPart 172 = .ok (.imul, 1) := by decide +kernel
theorem dX7_isPart_173 : decode cX7_isPart 173 = .ok (.iconst 2, 1) := by decide +kernel
theorem dX7_isPart_174 : decode cX7_isPart 174 = .ok (.iadd, 1) := by decide +kernel
theorem dX7_isPart_175 : decode cX7_isPart 175 = .ok (.iaload, 1) := by decide +kernel
theorem dX7_isPart_176 : decode cX7_isPart 176 = .ok (.iadd, 1) := by decide +kernel
theorem dX7_isPart_177 : decode cX7_isPart 177 = .ok (.putfield 142, 3) := by decide +kernel
theorem dX7_isPart_180 : decode cX7_isPart 180 = .ok (.iconst 1, 1) := by decide +kernel
theorem dX7_isPart_181 : decode cX7_isPart 181 = .ok (.ireturn, 1) := by decide +kernel
set_option maxRecDepth 20000 in
theorem ggX7_isText_X7_isPart : GoodIn wsX7_isText wsX7_isPart := goodIn_r _ [9, 10, 1, 11, 2, 12, 13, 14, 8, 15, 4, 16, 17, 18, 19, 20, 21, 22, 3, 23, 24, 25, 26, 27, 28, 29, 30, 31, 32, 33, 34, 35, 36, 37] (by decide +kernel) (by decide +kernel)
set_option maxRecDepth 20000 in
theorem gX7_isText_X7_isPart : GoodIn wsX7_isText (wsV RX7 159 RX7 yX7_isPart wsX7_isPart) := goodIn_app (goodIn_of _ (by decide +kernel)) ggX7_isText_X7_isPart
set_option maxRecDepth 20000 in
theorem ggX7_isText_X7_isAt : GoodIn wsX7_isText wsX7_isAt := goodIn_r _ [15, 1, 4, 10, 16, 17, 8, 18, 23, 24, 25, 26, 27, 28, 29, 30, 31, 32, 33, 34, 35, 36, 37] (by decide +kernel) (by decide +kernel)
set_option maxRecDepth 20000 in
theorem gX7_isText_X7_isAt : GoodIn wsX7_isText (wsV RX7 149 RX7 yX7_isAt wsX7_isAt) := goodIn_app (goodIn_of _ (by decide +kernel)) ggX7_isText_X7_isAt
theorem dX7_isText_0 : decode cX7_isText 0 = .ok (.aload_n 0, 1) := by decide +kernel
theorem dX7_isText_1 : decode cX7_isText 1 = .ok (.iconst 0, 1) := by decide +kernel
theorem dX7_isText_2 : decode cX7_isText 2 = .ok (.putfield 142, 3) := by decide +kernel
theorem dX7_isText_5 : decode cX7_isText 5 = .ok (.aload_n 0, 1) := by decide +kernel
theorem dX7_isText_6 : decode cX7_isText 6 = .ok (.iconst 0, 1) := by decide +kernel
theorem dX7_isText_7 : decode cX7_isText 7 = .ok (.putfield 156, 3) := by decide +kernel
theorem dX7_isText_10 : decode cX7_isText 10 = .ok (.aload_n 0, 1) := by decide +kernel
theorem dX7_isText_11 : decode cX7_isText 11 = .ok (.iconst 0, 1) := by decide +kernel
theorem dX7_isText_12 : decode cX7_isText 12 = .ok (.putfield 145, 3) := by decide +kernel
theorem dX7_isText_15 : decode cX7_isText 15 = .ok (.iconst 1, 1) := by decide +kernel
theorem dX7_isText_16 : decode cX7_isText 16 = .ok (.istore_n 1, 1) := by decide +kernel
theorem dX7_isText_17 : decode cX7_isText 17 = .ok (.iload_n 1, 1) := by decide +kernel
theorem dX7_isText_18 : decode cX7_isText 18 = .ok (.ifCond .eq 52, 3) := by decide +kernel
theorem dX7_isText_21 : decode cX7_isText 21 = .ok (.aload_n 0, 1) := by decide +kernel
theorem dX7_isText_22 : decode cX7_isText 22 = .ok (.invokevirtual 159, 3) := by decide +kernel
theorem dX7_isText_25 : decode cX7_isText 25 = .ok (.ifCond .ne 5, 3) := by decide +kernel
theorem dX7_isText_28 : decode cX7_isText 28 = .ok (.iconst 0, 1) := by decide +kernel
theorem dX7_isText_29 : decode cX7_isText 29 = .ok (.ireturn, 1) := by decide +kernel
theorem dX7_isText_30 : decode cX7_isText 30 = .ok (.aload_n 0, 1) := by decide +kernel
theorem dX7_isText_31 : decode cX7_isText 31 = .ok (.dup, 1) := by decide +kernel
theorem dX7_isText_32 : decode cX7_isText 32 = .ok (.getfield 156, 3) := by decide +kernel
theorem dX7_isText_35 : decode cX7_isText 35 = .ok (.iconst 1, 1) := by decide +kernel
theorem dX7_isText_36 : decode cX7_isText 36 = .ok (.iadd, 1) := by decide +kernel
theorem dX7_isText_37 : decode cX7_isText 37 = .ok (.putfield 156, 3) := by decide +kernel
theorem dX7_isText_40 : decode cX7_isText 40 = .ok (.aload_n 0, 1) := by decide +kernel
theorem dX7_isText_41 : decode cX7_isText 41 = .ok (.bipush 59, 2) := by decide +kernel
theorem dX7_isText_43 : decode cX7_isText 43 = .ok (.bipush 59, 2) := by decide +kernel
theorem dX7_isText_45 : decode cX7_isText 45 = .ok (.invokevirtual 149, 3) := by decide +kernel
theorem dX7_isText_48 : decode cX7_isText 48 = .ok (.istore_n 1, 1) := by decide +kernel
theorem dX7_isText_49 : decode cX7_isText 49 = .ok (.aload_n 0, 1) := by decide +kernel
theorem dX7_isText_50 : decode cX7_isText 50 = .ok (.dup, 1) := by decide +kernel
theorem dX7_isText_51 : decode cX7_isText 51 = .ok (.getfield 142, 3) := by decide +kernel
theorem dX7_isText_54 : decode cX7_isText 54 = .ok (.iload_n 1, 1) := by decide +kernel
theorem dX7_isText_55 : decode cX7_isText 55 = .ok (.ifCond .eq 7, 3) := by decide +kernel
theorem dX7_isText_58 : decode cX7_isText 58 = .ok (.iconst 1, 1) := by decide +kernel
theorem dX7_isText_59 : decode cX7_isText 59 = .ok (.goto 4, 3) := by decide +kernel
theorem dX7_isText_62 : decode cX7_isText 62 = .ok (.iconst 0, 1) := by decide +kernel
theorem dX7_isText_63 : decode cX7_isText 63 = .ok (.iadd, 1) := by decide +kernel
theorem dX7_isText_64 : decode cX7_isText 64 = .ok (.putfield 142, 3) := by decide +kernel
theorem dX7_isText_67 : decode cX7_isText 67 = .ok (.goto (-50), 3) := by decide +kernel
theorem dX7_isText_70 : decode cX7_isText 70 = .ok (.aload_n 0, 1) := by decide +kernel
theorem dX7_isText_71 : decode cX7_isText 71 = .ok (.aload_n 0, 1) := by decide +kernel
theorem dX7_isText_72 : decode cX7_isText 72 = .ok (.getfield 142, 3) := by decide +kernel
theorem dX7_isText_75 : decode cX7_isText 75 = .ok (.aload_n 0, 1) := by decide +kernel
theorem dX7_isText_76 : decode cX7_isText 76 = .ok (.getfield 139, 3) := by decide +kernel
theorem dX7_isText_79 : decode cX7_isText 79 = .ok (.if_icmp .ge 7, 3) := by decide +kernel
theorem dX7_isText_82 : decode cX7_isText 82 = .ok (.iconst 1, 1) := by decide +kernel
theorem dX7_isText_83 : decode cX7_isText 83 = .ok (.goto 4, 3) := by decide +kernel
theorem dX7_isText_86 : decode cX7_isText 86 = .ok (.iconst 0, 1) := by decide +kernel
theorem dX7_isText_87 : decode cX7_isText 87 = .ok (.putfield 145, 3) := by decide +kernel
theorem dX7_isText_90 : decode cX7_isText 90 = .ok (.aload_n 0, 1) := by decide +kernel
theorem dX7_isText_91 : decode cX7_isText 91 = .ok (.getfield 142, 3) := by decide +kernel
theorem dX7_isText_94 : decode cX7_isText 94 = .ok (.aload_n 0, 1) := by decide +kernel
theorem dX7_isText_95 : decode cX7_isText 95 = .ok (.getfield 139, 3) := by decide +kernel
theorem dX7_isText_98 : decode cX7_isText 98 = .ok (.if_icmp .ne 7, 3) := by decide +kernel
theorem dX7_isText_101 : decode cX7_isText 101 = .ok (.iconst 1, 1) := by decide +kernel
theorem dX7_isText_102 : decode cX7_isText 102 = .ok (.goto 4, 3) := by decide +kernel
theorem dX7_isText_105 : decode cX7_isText 105 = .ok (.iconst 0, 1) := by decide +kernel
theorem dX7_isText_106 : decode cX7_isText 106 = .ok (.ireturn, 1) := by decide +kernel
set_option maxRecDepth 20000 in
theorem ggX7_firstError_X7_isText : GoodIn wsX7_firstError wsX7_isText := goodIn_r _ [9, 3, 10, 2, 4, 11, 12, 13, 8, 14, 15, 16, 17, 18, 19, 20, 21, 22, 23, 24, 25, 26, 27, 28, 29, 30, 31, 32, 33, 34, 35, 36, 37, 38, 39, 40, 41, 42] (by decide +kernel) (by decide +kernel)
set_option maxRecDepth 20000 in
theorem gX7_firstError_X7_isText : GoodIn wsX7_firstError (wsV RX7 162 RX7 yX7_isText wsX7_isText) := goodIn_app (goodIn_of _ (by decide +kernel)) ggX7_firstError_X7_isText
theorem dX7_firstError_0 : decode cX7_firstError 0 = .ok (.aload_n 0, 1) := by decide +kernel
theorem dX7_firstError_1 : decode cX7_firstError 1 = .ok (.iconst 0, 1) := by decide +kernel
theorem dX7_firstError_2 : decode cX7_firstError 2 = .ok (.putfield 25, 3) := by decide +kernel
theorem dX7_firstError_5 : decode cX7_firstError 5 = .ok (.aload_n 0, 1) := by decide +kernel
theorem dX7_firstError_6 : decode cX7_firstError 6 = .ok (.invokevirtual 162, 3) := by decide +kernel
theorem dX7_firstError_9 : decode cX7_firstError 9 = .ok (.istore_n 1, 1) := by decide +kernel
theorem dX7_firstError_10 : decode cX7_firstError 10 = .ok (.iload_n 1, 1) := by decide +kernel
theorem dX7_firstError_11 : decode cX7_firstError 11 = .ok (.ifCond .ne 17, 3) := by decide +kernel
theorem dX7_firstError_14 : decode cX7_firstError 14 = .ok (.aload_n 0, 1) := by decide +kernel
theorem dX7_firstError_15 : decode cX7_firstError 15 = .ok (.getfield 145, 3) := by decide +kernel
theorem dX7_firstError_18 : decode cX7_firstError 18 = .ok (.ifCond .eq 10, 3) := by decide +kernel
theorem dX7_firstError_21 : decode cX7_firstError 21 = .ok (.aload_n 0, 1) := by decide +kernel
theorem dX7_firstError_22 : decode cX7_firstError 22 = .ok (.getfield 142, 3) := by decide +kernel
theorem dX7_firstError_25 : decode cX7_firstError 25 = .ok (.goto 7, 3) := by decide +kernel
theorem dX7_firstError_28 : decode cX7_firstError 28 = .ok (.aload_n 0, 1) := by decide +kernel
theorem dX7_firstError_29 : decode cX7_firstError 29 = .ok (.getfield 139, 3) := by decide +kernel
theorem dX7_firstError_32 : decode cX7_firstError 32 = .ok (.ireturn, 1) := by decide +kernel
set_option maxRecDepth 20000 in
theorem ggX7_bookAll_X7_isText : GoodIn wsX7_bookAll wsX7_isText := goodIn_r _ [10, 11, 3, 12, 2, 13, 14, 15, 9, 16, 17, 4, 18, 19, 20, 21, 22, 23, 24, 25, 26, 27, 28, 87, 88, 89, 90, 91, 92, 93, 94, 95, 96, 97, 98, 99, 100, 101] (by decide +kernel) (by decide +kernel)
set_option maxRecDepth 20000 in
theorem gX7_bookAll_X7_isText : GoodIn wsX7_bookAll (wsV RX7 162 RX7 yX7_isText wsX7_isText) := goodIn_app (goodIn_of _ (by decide +kernel)) ggX7_bookAll_X7_isText
set_option maxRecDepth 20000 in
theorem ggX7_bookAll_X7_fails : GoodIn wsX7_bookAll wsX7_fails := goodIn_r _ [32, 1, 87, 88, 89, 90, 91, 92, 93, 94, 95, 96, 97, 98, 99, 100, 101] (by decide +kernel) (by decide +kernel)
set_option maxRecDepth 20000 in
theorem gX7_bookAll_X7_fails : GoodIn wsX7_bookAll (wsV RX7 40 RX7 yX7_fails wsX7_fails) := goodIn_app (goodIn_of _ (by decide +kernel)) ggX7_bookAll_X7_fails
set_option maxRecDepth 20000 in
theorem ggX7_bookAll_X7_saves : GoodIn wsX7_bookAll wsX7_saves := goodIn_r _ [36, 37, 38, 5, 39, 40, 9, 41, 87, 88, 89, 90, 91, 92, 93, 94, 95, 96, 97, 98, 99, 100, 101] (by decide +kernel) (by decide +kernel)
set_option maxRecDepth 20000 in
theorem gX7_bookAll_X7_saves : GoodIn wsX7_bookAll (wsV RX7 108 RX7 yX7_saves wsX7_saves) := goodIn_app (goodIn_of _ (by decide +kernel)) ggX7_bookAll_X7_saves
set_option maxRecDepth 20000 in
theorem ggX7_bookAll_X7_finds : GoodIn wsX7_bookAll wsX7_finds := goodIn_r _ [45, 46, 47, 48, 9, 49, 50, 51, 52, 53, 54, 55, 56, 57, 58, 59, 60, 61, 62, 63, 64, 65, 66, 67, 68, 69, 70, 71, 72, 22, 23, 24, 73, 74, 75, 87, 88, 89, 90, 91, 92, 93, 94, 95, 96, 97, 98, 99, 100, 101] (by decide +kernel) (by decide +kernel)
set_option maxRecDepth 20000 in
theorem gX7_bookAll_X7_finds : GoodIn wsX7_bookAll (wsV RX7 104 RX7 yX7_finds wsX7_finds) := goodIn_app (goodIn_of _ (by decide +kernel)) ggX7_bookAll_X7_finds
set_option maxRecDepth 20000 in
theorem ggX7_bookAll_X7_comes : GoodIn wsX7_bookAll wsX7_comes := goodIn_r _ [79, 5, 80, 81, 82, 9, 83, 50, 53, 51, 84, 85, 86, 87, 88, 89, 90, 91, 92, 93, 94, 95, 96, 97, 98, 99, 100, 101] (by decide +kernel) (by decide +kernel)
set_option maxRecDepth 20000 in
theorem gX7_bookAll_X7_comes : GoodIn wsX7_bookAll (wsV RX7 111 RX7 yX7_comes wsX7_comes) := goodIn_app (goodIn_of _ (by decide +kernel)) ggX7_bookAll_X7_comes
theorem dX7_bookAll_0 : decode cX7_bookAll 0 = .ok (.aload_n 0, 1) := by decide +kernel
theorem dX7_bookAll_1 : decode cX7_bookAll 1 = .ok (.iconst 0, 1) := by decide +kernel
theorem dX7_bookAll_2 : decode cX7_bookAll 2 = .ok (.putfield 25, 3) := by decide +kernel
theorem dX7_bookAll_5 : decode cX7_bookAll 5 = .ok (.aload_n 0, 1) := by decide +kernel
theorem dX7_bookAll_6 : decode cX7_bookAll 6 = .ok (.invokevirtual 162, 3) := by decide +kernel
theorem dX7_bookAll_9 : decode cX7_bookAll 9 = .ok (.ifCond .ne 9, 3) := by decide +kernel
theorem dX7_bookAll_12 : decode cX7_bookAll 12 = .ok (.aload_n 0, 1) := by decide +kernel
theorem dX7_bookAll_13 : decode cX7_bookAll 13 = .ok (.iconst 1, 1) := by decide +kernel
theorem dX7_bookAll_14 : decode cX7_bookAll 14 = .ok (.invokevirtual 40, 3) := by decide +kernel
theorem dX7_bookAll_17 : decode cX7_bookAll 17 = .ok (.ireturn, 1) := by decide +kernel
theorem dX7_bookAll_18 : decode cX7_bookAll 18 = .ok (.aload_n 0, 1) := by decide +kernel
theorem dX7_bookAll_19 : decode cX7_bookAll 19 = .ok (.invokevirtual 108, 3) := by decide +kernel
theorem dX7_bookAll_22 : decode cX7_bookAll 22 = .ok (.aload_n 0, 1) := by decide +kernel
theorem dX7_bookAll_23 : decode cX7_bookAll 23 = .ok (.iconst 0, 1) := by decide +kernel
theorem dX7_bookAll_24 : decode cX7_bookAll 24 = .ok (.putfield 139, 3) := by decide +kernel
theorem dX7_bookAll_27 : decode cX7_bookAll 27 = .ok (.iconst 0, 1) := by decide +kernel
theorem dX7_bookAll_28 : decode cX7_bookAll 28 = .ok (.istore_n 1, 1) := by decide +kernel
theorem dX7_bookAll_29 : decode cX7_bookAll 29 = .ok (.iconst 0, 1) := by decide +kernel
theorem dX7_bookAll_30 : decode cX7_bookAll 30 = .ok (.istore_n 2, 1) := by decide +kernel
theorem dX7_bookAll_31 : decode cX7_bookAll 31 = .ok (.iload_n 2, 1) := by decide +kernel
theorem dX7_bookAll_32 : decode cX7_bookAll 32 = .ok (.aload_n 0, 1) := by decide +kernel
theorem dX7_bookAll_33 : decode cX7_bookAll 33 = .ok (.getfield 156, 3) := by decide +kernel
theorem dX7_bookAll_36 : decode cX7_bookAll 36 = .ok (.if_icmp .ge 112, 3) := by decide +kernel
theorem dX7_bookAll_39 : decode cX7_bookAll 39 = .ok (.aload_n 0, 1) := by decide +kernel
theorem dX7_bookAll_40 : decode cX7_bookAll 40 = .ok (.getfield 22, 3) := by decide +kernel
theorem dX7_bookAll_43 : decode cX7_bookAll 43 = .ok (.iconst 3, 1) := by decide +kernel
theorem dX7_bookAll_44 : decode cX7_bookAll 44 = .ok (.iload_n 2, 1) := by decide +kernel
theorem dX7_bookAll_45 : decode cX7_bookAll 45 = .ok (.imul, 1) := by decide +kernel
theorem dX7_bookAll_46 : decode cX7_bookAll 46 = .ok (.iconst 2, 1) := by decide +kernel
theorem dX7_bookAll_47 : decode cX7_bookAll 47 = .ok (.iadd, 1) := by decide +kernel
theorem dX7_bookAll_48 : decode cX7_bookAll 48 = .ok (.iaload, 1) := by decide +kernel
theorem dX7_bookAll_49 : decode cX7_bookAll 49 = .ok (.iconst 1, 1) := by decide +kernel
theorem dX7_bookAll_50 : decode cX7_bookAll 50 = .ok (.if_icmp .ne 7, 3) := by decide +kernel
theorem dX7_bookAll_53 : decode cX7_bookAll 53 = .ok (.iconst 1, 1) := by decide +kernel
theorem dX7_bookAll_54 : decode cX7_bookAll 54 = .ok (.goto 4, 3) := by decide +kernel
theorem dX7_bookAll_57 : decode cX7_bookAll 57 = .ok (.iconst 0, 1) := by decide +kernel
theorem dX7_bookAll_58 : decode cX7_bookAll 58 = .ok (.istore_n 3, 1) := by decide +kernel
theorem dX7_bookAll_59 : decode cX7_bookAll 59 = .ok (.aload_n 0, 1) := by decide +kernel
theorem dX7_bookAll_60 : decode cX7_bookAll 60 = .ok (.getfield 7, 3) := by decide +kernel
theorem dX7_bookAll_63 : decode cX7_bookAll 63 = .ok (.bipush 6, 2) := by decide +kernel
theorem dX7_bookAll_65 : decode cX7_bookAll 65 = .ok (.iaload, 1) := by decide +kernel
theorem dX7_bookAll_66 : decode cX7_bookAll 66 = .ok (.bipush 40, 2) := by decide +kernel
theorem dX7_bookAll_68 : decode cX7_bookAll 68 = .ok (.if_icmp .ge 63, 3) := by decide +kernel
theorem dX7_bookAll_71 : decode cX7_bookAll 71 = .ok (.aload_n 0, 1) := by decide +kernel
theorem dX7_bookAll_72 : decode cX7_bookAll 72 = .ok (.aload_n 0, 1) := by decide +kernel
theorem dX7_bookAll_73 : decode cX7_bookAll 73 = .ok (.getfield 7, 3) := by decide +kernel
theorem dX7_bookAll_76 : decode cX7_bookAll 76 = .ok (.aload_n 0, 1) := by decide +kernel
theorem dX7_bookAll_77 : decode cX7_bookAll 77 = .ok (.getfield 22, 3) := by decide +kernel
theorem dX7_bookAll_80 : decode cX7_bookAll 80 = .ok (.iconst 3, 1) := by decide +kernel
theorem dX7_bookAll_81 : decode cX7_bookAll 81 = .ok (.iload_n 2, 1) := by decide +kernel
theorem dX7_bookAll_82 : decode cX7_bookAll 82 = .ok (.imul, 1) := by decide +kernel
theorem dX7_bookAll_83 : decode cX7_bookAll 83 = .ok (.iaload, 1) := by decide +kernel
theorem dX7_bookAll_84 : decode cX7_bookAll 84 = .ok (.aload_n 0, 1) := by decide +kernel
theorem dX7_bookAll_85 : decode cX7_bookAll 85 = .ok (.getfield 22, 3) := by decide +kernel
theorem dX7_bookAll_88 : decode cX7_bookAll 88 = .ok (.iconst 3, 1) := by decide +kernel
theorem dX7_bookAll_89 : decode cX7_bookAll 89 = .ok (.iload_n 2, 1) := by decide +kernel
theorem dX7_bookAll_90 : decode cX7_bookAll 90 = .ok (.imul, 1) := by decide +kernel
theorem dX7_bookAll_91 : decode cX7_bookAll 91 = .ok (.iconst 1, 1) := by decide +kernel
theorem dX7_bookAll_92 : decode cX7_bookAll 92 = .ok (.iadd, 1) := by decide +kernel
theorem dX7_bookAll_93 : decode cX7_bookAll 93 = .ok (.iaload, 1) := by decide +kernel
theorem dX7_bookAll_94 : decode cX7_bookAll 94 = .ok (.iload_n 3, 1) := by decide +kernel
theorem dX7_bookAll_95 : decode cX7_bookAll 95 = .ok (.invokevirtual 104, 3) := by decide +kernel
theorem dX7_bookAll_98 : decode cX7_bookAll 98 = .ok (.ifCond .eq 33, 3) := by decide +kernel
theorem dX7_bookAll_101 : decode cX7_bookAll 101 = .ok (.aload_n 0, 1) := by decide +kernel
theorem dX7_bookAll_102 : decode cX7_bookAll 102 = .ok (.aload_n 0, 1) := by decide +kernel
theorem dX7_bookAll_103 : decode cX7_bookAll 103 = .ok (.getfield 22, 3) := by decide +kernel
theorem dX7_bookAll_106 : decode cX7_bookAll 106 = .ok (.iconst 3, 1) := by decide +kernel
theorem dX7_bookAll_107 : decode cX7_bookAll 107 = .ok (.iload_n 2, 1) := by decide +kernel
theorem dX7_bookAll_108 : decode cX7_bookAll 108 = .ok (.imul, 1) := by decide +kernel
theorem dX7_bookAll_109 : decode cX7_bookAll 109 = .ok (.iaload, 1) := by decide +kernel
theorem dX7_bookAll_110 : decode cX7_bookAll 110 = .ok (.aload_n 0, 1) := by decide +kernel
theorem dX7_bookAll_111 : decode cX7_bookAll 111 = .ok (.getfield 22, 3) := by decide +kernel
theorem dX7_bookAll_114 : decode cX7_bookAll 114 = .ok (.iconst 3, 1) := by decide +kernel
theorem dX7_bookAll_115 : decode cX7_bookAll 115 = .ok (.iload_n 2, 1) := by decide +kernel
theorem dX7_bookAll_116 : decode cX7_bookAll 116 = .ok (.imul, 1) := by decide +kernel
theorem dX7_bookAll_117 : decode cX7_bookAll 117 = .ok (.iconst 1, 1) := by decide +kernel
theorem dX7_bookAll_118 : decode cX7_bookAll 118 = .ok (.iadd, 1) := by decide +kernel
theorem dX7_bookAll_119 : decode cX7_bookAll 119 = .ok (.iaload, 1) := by decide +kernel
theorem dX7_bookAll_120 : decode cX7_bookAll 120 = .ok (.iload_n 3, 1) := by decide +kernel
theorem dX7_bookAll_121 : decode cX7_bookAll 121 = .ok (.invokevirtual 111, 3) := by decide +kernel
theorem dX7_bookAll_124 : decode cX7_bookAll 124 = .ok (.pop, 1) := by decide +kernel
theorem dX7_bookAll_125 : decode cX7_bookAll 125 = .ok (.iinc 1 1, 3) := by decide +kernel
theorem dX7_bookAll_128 : decode cX7_bookAll 128 = .ok (.goto 14, 3) := by decide +kernel
theorem dX7_bookAll_131 : decode cX7_bookAll 131 = .ok (.aload_n 0, 1) := by decide +kernel
theorem dX7_bookAll_132 : decode cX7_bookAll 132 = .ok (.getfield 7, 3) := by decide +kernel
theorem dX7_bookAll_135 : decode cX7_bookAll 135 = .ok (.bipush 9, 2) := by decide +kernel
theorem dX7_bookAll_137 : decode cX7_bookAll 137 = .ok (.dup2, 1) := by decide +kernel
theorem dX7_bookAll_138 : decode cX7_bookAll 138 = .ok (.iaload, 1) := by decide +kernel
theorem dX7_bookAll_139 : decode cX7_bookAll 139 = .ok (.iconst 1, 1) := by decide +kernel
theorem dX7_bookAll_140 : decode cX7_bookAll 140 = .ok (.iadd, 1) := by decide +kernel
theorem dX7_bookAll_141 : decode cX7_bookAll 141 = .ok (.iastore, 1) := by decide +kernel
theorem dX7_bookAll_142 : decode cX7_bookAll 142 = .ok (.iinc 2 1, 3) := by decide +kernel
theorem dX7_bookAll_145 : decode cX7_bookAll 145 = .ok (.goto (-114), 3) := by decide +kernel
theorem dX7_bookAll_148 : decode cX7_bookAll 148 = .ok (.iload_n 1, 1) := by decide +kernel
theorem dX7_bookAll_149 : decode cX7_bookAll 149 = .ok (.ireturn, 1) := by decide +kernel
set_option maxRecDepth 20000 in
theorem ggX7_holder_X7_in : GoodIn wsX7_holder wsX7_in := goodIn_r _ [6] (by decide +kernel) (by decide +kernel)
set_option maxRecDepth 20000 in
theorem gX7_holder_X7_in : GoodIn wsX7_holder (va_wsS RX7 29 yX7_in wsX7_in) := goodIn_app (goodIn_of _ (by decide +kernel)) ggX7_holder_X7_in
set_option maxRecDepth 20000 in
theorem ggX7_holder_X7_holds : GoodIn wsX7_holder wsX7_holds := goodIn_r _ [9] (by decide +kernel) (by decide +kernel)
set_option maxRecDepth 20000 in
theorem gX7_holder_X7_holds : GoodIn wsX7_holder (va_wsS RX7 44 yX7_holds wsX7_holds) := goodIn_app (goodIn_of _ (by decide +kernel)) ggX7_holder_X7_holds
set_option maxRecDepth 20000 in
theorem ggX7_holder_X7_fails : GoodIn wsX7_holder wsX7_fails := goodIn_r _ [13, 1, 14, 15, 16, 17, 18, 19, 20, 21, 22, 23, 24, 25, 26, 27, 28] (by decide +kernel) (by decide +kernel)
set_option maxRecDepth 20000 in
theorem gX7_holder_X7_fails : GoodIn wsX7_holder (wsV RX7 40 RX7 yX7_fails wsX7_fails) := goodIn_app (goodIn_of _ (by decide +kernel)) ggX7_holder_X7_fails
theorem dX7_holder_0 : decode cX7_holder 0 = .ok (.aload_n 0, 1) := by decide +kernel
theorem dX7_holder_1 : decode cX7_holder 1 = .ok (.iconst 0, 1) := by decide +kernel
theorem dX7_holder_2 : decode cX7_holder 2 = .ok (.putfield 25, 3) := by decide +kernel
theorem dX7_holder_5 : decode cX7_holder 5 = .ok (.iload_n 1, 1) := by decide +kernel
theorem dX7_holder_6 : decode cX7_holder 6 = .ok (.iconst 0, 1) := by decide +kernel
theorem dX7_holder_7 : decode cX7_holder 7 = .ok (.bipush 17, 2) := by decide +kernel
theorem dX7_holder_9 : decode cX7_holder 9 = .ok (.invokestatic 29, 3) := by decide +kernel
theorem dX7_holder_12 : decode cX7_holder 12 = .ok (.ifCond .eq 25, 3) := by decide +kernel
theorem dX7_holder_15 : decode cX7_holder 15 = .ok (.iload_n 2, 1) := by decide +kernel
theorem dX7_holder_16 : decode cX7_holder 16 = .ok (.iconst 0, 1) := by decide +kernel
theorem dX7_holder_17 : decode cX7_holder 17 = .ok (.bipush 8, 2) := by decide +kernel
theorem dX7_holder_19 : decode cX7_holder 19 = .ok (.invokestatic 29, 3) := by decide +kernel
theorem dX7_holder_22 : decode cX7_holder 22 = .ok (.ifCond .eq 15, 3) := by decide +kernel
theorem dX7_holder_25 : decode cX7_holder 25 = .ok (.aload_n 0, 1) := by decide +kernel
theorem dX7_holder_26 : decode cX7_holder 26 = .ok (.getfield 7, 3) := by decide +kernel
theorem dX7_holder_29 : decode cX7_holder 29 = .ok (.iload_n 1, 1) := by decide +kernel
theorem dX7_holder_30 : decode cX7_holder 30 = .ok (.iload_n 2, 1) := by decide +kernel
theorem dX7_holder_31 : decode cX7_holder 31 = .ok (.invokestatic 44, 3) := by decide +kernel
theorem dX7_holder_34 : decode cX7_holder 34 = .ok (.goto 8, 3) := by decide +kernel
theorem dX7_holder_37 : decode cX7_holder 37 = .ok (.aload_n 0, 1) := by decide +kernel
theorem dX7_holder_38 : decode cX7_holder 38 = .ok (.iconst 1, 1) := by decide +kernel
theorem dX7_holder_39 : decode cX7_holder 39 = .ok (.invokevirtual 40, 3) := by decide +kernel
theorem dX7_holder_42 : decode cX7_holder 42 = .ok (.ireturn, 1) := by decide +kernel
set_option maxRecDepth 20000 in
theorem ggX7_ofPassenger_X7_of : GoodIn wsX7_ofPassenger wsX7_of := goodIn_r _ [5] (by decide +kernel) (by decide +kernel)
set_option maxRecDepth 20000 in
theorem gX7_ofPassenger_X7_of : GoodIn wsX7_ofPassenger (va_wsS RX7 93 yX7_of wsX7_of) := goodIn_app (goodIn_of _ (by decide +kernel)) ggX7_ofPassenger_X7_of
set_option maxRecDepth 20000 in
theorem ggX7_ofPassenger_X7_wakesOf : GoodIn wsX7_ofPassenger wsX7_wakesOf := goodIn_r _ [8, 2, 3, 4, 5, 9, 10, 11, 12, 13, 14] (by decide +kernel) (by decide +kernel)
set_option maxRecDepth 20000 in
theorem gX7_ofPassenger_X7_wakesOf : GoodIn wsX7_ofPassenger (va_wsS RX7 96 yX7_wakesOf wsX7_wakesOf) := goodIn_app (goodIn_of _ (by decide +kernel)) ggX7_ofPassenger_X7_wakesOf
set_option maxRecDepth 20000 in
theorem ggX7_ofPassenger_X7_tip : GoodIn wsX7_ofPassenger wsX7_tip := goodIn_r _ [17, 6, 7, 4, 8, 2, 3, 5, 9, 10, 11, 12, 13, 14] (by decide +kernel) (by decide +kernel)
set_option maxRecDepth 20000 in
theorem gX7_ofPassenger_X7_tip : GoodIn wsX7_ofPassenger (va_wsS RX7 118 yX7_tip wsX7_tip) := goodIn_app (goodIn_of _ (by decide +kernel)) ggX7_ofPassenger_X7_tip
theorem dX7_ofPassenger_0 : decode cX7_ofPassenger 0 = .ok (.iload_n 2, 1) := by decide +kernel
theorem dX7_ofPassenger_1 : decode cX7_ofPassenger 1 = .ok (.bipush 7, 2) := by decide +kernel
theorem dX7_ofPassenger_3 : decode cX7_ofPassenger 3 = .ok (.if_icmp .ge 15, 3) := by decide +kernel
theorem dX7_ofPassenger_6 : decode cX7_ofPassenger 6 = .ok (.aload_n 0, 1) := by decide +kernel
theorem dX7_ofPassenger_7 : decode cX7_ofPassenger 7 = .ok (.getfield 7, 3) := by decide +kernel
theorem dX7_ofPassenger_10 : decode cX7_ofPassenger 10 = .ok (.iload_n 1, 1) := by decide +kernel
theorem dX7_ofPassenger_11 : decode cX7_ofPassenger 11 = .ok (.iload_n 2, 1) := by decide +kernel
theorem dX7_ofPassenger_12 : decode cX7_ofPassenger 12 = .ok (.invokestatic 93, 3) := by decide +kernel
theorem dX7_ofPassenger_15 : decode cX7_ofPassenger 15 = .ok (.goto 28, 3) := by decide +kernel
theorem dX7_ofPassenger_18 : decode cX7_ofPassenger 18 = .ok (.iload_n 2, 1) := by decide +kernel
theorem dX7_ofPassenger_19 : decode cX7_ofPassenger 19 = .ok (.bipush 7, 2) := by decide +kernel
theorem dX7_ofPassenger_21 : decode cX7_ofPassenger 21 = .ok (.if_icmp .ne 14, 3) := by decide +kernel
theorem dX7_ofPassenger_24 : decode cX7_ofPassenger 24 = .ok (.aload_n 0, 1) := by decide +kernel
theorem dX7_ofPassenger_25 : decode cX7_ofPassenger 25 = .ok (.getfield 7, 3) := by decide +kernel
theorem dX7_ofPassenger_28 : decode cX7_ofPassenger 28 = .ok (.iload_n 1, 1) := by decide +kernel
theorem dX7_ofPassenger_29 : decode cX7_ofPassenger 29 = .ok (.invokestatic 96, 3) := by decide +kernel
theorem dX7_ofPassenger_32 : decode cX7_ofPassenger 32 = .ok (.goto 11, 3) := by decide +kernel
theorem dX7_ofPassenger_35 : decode cX7_ofPassenger 35 = .ok (.aload_n 0, 1) := by decide +kernel
theorem dX7_ofPassenger_36 : decode cX7_ofPassenger 36 = .ok (.getfield 7, 3) := by decide +kernel
theorem dX7_ofPassenger_39 : decode cX7_ofPassenger 39 = .ok (.iload_n 1, 1) := by decide +kernel
theorem dX7_ofPassenger_40 : decode cX7_ofPassenger 40 = .ok (.invokestatic 118, 3) := by decide +kernel
theorem dX7_ofPassenger_43 : decode cX7_ofPassenger 43 = .ok (.ireturn, 1) := by decide +kernel
set_option maxRecDepth 20000 in
theorem ggX7_passenger_X7_in : GoodIn wsX7_passenger wsX7_in := goodIn_r _ [6] (by decide +kernel) (by decide +kernel)
set_option maxRecDepth 20000 in
theorem gX7_passenger_X7_in : GoodIn wsX7_passenger (va_wsS RX7 29 yX7_in wsX7_in) := goodIn_app (goodIn_of _ (by decide +kernel)) ggX7_passenger_X7_in
set_option maxRecDepth 20000 in
theorem ggX7_passenger_X7_fails : GoodIn wsX7_passenger wsX7_fails := goodIn_r _ [10, 1, 30, 31, 32, 33, 34, 35, 36, 37, 38, 39, 40, 41, 42, 43, 44] (by decide +kernel) (by decide +kernel)
set_option maxRecDepth 20000 in
theorem gX7_passenger_X7_fails : GoodIn wsX7_passenger (wsV RX7 40 RX7 yX7_fails wsX7_fails) := goodIn_app (goodIn_of _ (by decide +kernel)) ggX7_passenger_X7_fails
set_option maxRecDepth 20000 in
theorem ggX7_passenger_X7_ofPassenger : GoodIn wsX7_passenger wsX7_ofPassenger := goodIn_r _ [14, 2, 15, 16, 5, 17, 18, 19, 20, 21, 22, 23, 24, 25, 26, 27, 28, 29, 30, 31, 32, 33, 34, 35, 36, 37, 38, 39, 40, 41, 42, 43, 44] (by decide +kernel) (by decide +kernel)
set_option maxRecDepth 20000 in
theorem gX7_passenger_X7_ofPassenger : GoodIn wsX7_passenger (wsV RX7 165 RX7 yX7_ofPassenger wsX7_ofPassenger) := goodIn_app (goodIn_of _ (by decide +kernel)) ggX7_passenger_X7_ofPassenger
theorem dX7_passenger_0 : decode cX7_passenger 0 = .ok (.aload_n 0, 1) := by decide +kernel
theorem dX7_passenger_1 : decode cX7_passenger 1 = .ok (.iconst 0, 1) := by decide +kernel
theorem dX7_passenger_2 : decode cX7_passenger 2 = .ok (.putfield 25, 3) := by decide +kernel
theorem dX7_passenger_5 : decode cX7_passenger 5 = .ok (.iload_n 1, 1) := by decide +kernel
theorem dX7_passenger_6 : decode cX7_passenger 6 = .ok (.ifCond .lt 13, 3) := by decide +kernel
theorem dX7_passenger_9 : decode cX7_passenger 9 = .ok (.iload_n 2, 1) := by decide +kernel
theorem dX7_passenger_10 : decode cX7_passenger 10 = .ok (.iconst 0, 1) := by decide +kernel
theorem dX7_passenger_11 : decode cX7_passenger 11 = .ok (.bipush 8, 2) := by decide +kernel
theorem dX7_passenger_13 : decode cX7_passenger 13 = .ok (.invokestatic 29, 3) := by decide +kernel
theorem dX7_passenger_16 : decode cX7_passenger 16 = .ok (.ifCond .ne 9, 3) := by decide +kernel
theorem dX7_passenger_19 : decode cX7_passenger 19 = .ok (.aload_n 0, 1) := by decide +kernel
theorem dX7_passenger_20 : decode cX7_passenger 20 = .ok (.iconst 1, 1) := by decide +kernel
theorem dX7_passenger_21 : decode cX7_passenger 21 = .ok (.invokevirtual 40, 3) := by decide +kernel
theorem dX7_passenger_24 : decode cX7_passenger 24 = .ok (.ireturn, 1) := by decide +kernel
theorem dX7_passenger_25 : decode cX7_passenger 25 = .ok (.iload_n 1, 1) := by decide +kernel
theorem dX7_passenger_26 : decode cX7_passenger 26 = .ok (.aload_n 0, 1) := by decide +kernel
theorem dX7_passenger_27 : decode cX7_passenger 27 = .ok (.getfield 7, 3) := by decide +kernel
theorem dX7_passenger_30 : decode cX7_passenger 30 = .ok (.bipush 6, 2) := by decide +kernel
theorem dX7_passenger_32 : decode cX7_passenger 32 = .ok (.iaload, 1) := by decide +kernel
theorem dX7_passenger_33 : decode cX7_passenger 33 = .ok (.if_icmp .ge 12, 3) := by decide +kernel
theorem dX7_passenger_36 : decode cX7_passenger 36 = .ok (.aload_n 0, 1) := by decide +kernel
theorem dX7_passenger_37 : decode cX7_passenger 37 = .ok (.iload_n 1, 1) := by decide +kernel
theorem dX7_passenger_38 : decode cX7_passenger 38 = .ok (.iload_n 2, 1) := by decide +kernel
theorem dX7_passenger_39 : decode cX7_passenger 39 = .ok (.invokevirtual 165, 3) := by decide +kernel
theorem dX7_passenger_42 : decode cX7_passenger 42 = .ok (.goto 4, 3) := by decide +kernel
theorem dX7_passenger_45 : decode cX7_passenger 45 = .ok (.iconst (-1), 1) := by decide +kernel
theorem dX7_passenger_46 : decode cX7_passenger 46 = .ok (.ireturn, 1) := by decide +kernel
set_option maxRecDepth 20000 in
theorem ggX7_overAll_X7_of : GoodIn wsX7_overAll wsX7_of := goodIn_r _ [5] (by decide +kernel) (by decide +kernel)
set_option maxRecDepth 20000 in
theorem gX7_overAll_X7_of : GoodIn wsX7_overAll (va_wsS RX7 93 yX7_of wsX7_of) := goodIn_app (goodIn_of _ (by decide +kernel)) ggX7_overAll_X7_of
set_option maxRecDepth 20000 in
theorem ggX7_overAll_X7_wakesOf : GoodIn wsX7_overAll wsX7_wakesOf := goodIn_r _ [8, 2, 3, 4, 5, 9, 10, 11, 12, 13, 14] (by decide +kernel) (by decide +kernel)
set_option maxRecDepth 20000 in
theorem gX7_overAll_X7_wakesOf : GoodIn wsX7_overAll (va_wsS RX7 96 yX7_wakesOf wsX7_wakesOf) := goodIn_app (goodIn_of _ (by decide +kernel)) ggX7_overAll_X7_wakesOf
set_option maxRecDepth 20000 in
theorem ggX7_overAll_X7_tip : GoodIn wsX7_overAll wsX7_tip := goodIn_r _ [17, 6, 7, 4, 8, 2, 3, 5, 9, 10, 11, 12, 13, 14] (by decide +kernel) (by decide +kernel)
set_option maxRecDepth 20000 in
theorem gX7_overAll_X7_tip : GoodIn wsX7_overAll (va_wsS RX7 118 yX7_tip wsX7_tip) := goodIn_app (goodIn_of _ (by decide +kernel)) ggX7_overAll_X7_tip
theorem dX7_overAll_0 : decode cX7_overAll 0 = .ok (.iconst 0, 1) := by decide +kernel
theorem dX7_overAll_1 : decode cX7_overAll 1 = .ok (.istore_n 2, 1) := by decide +kernel
theorem dX7_overAll_2 : decode cX7_overAll 2 = .ok (.iconst 0, 1) := by decide +kernel
theorem dX7_overAll_3 : decode cX7_overAll 3 = .ok (.istore_n 3, 1) := by decide +kernel
theorem dX7_overAll_4 : decode cX7_overAll 4 = .ok (.iload_n 3, 1) := by decide +kernel
theorem dX7_overAll_5 : decode cX7_overAll 5 = .ok (.aload_n 0, 1) := by decide +kernel
theorem dX7_overAll_6 : decode cX7_overAll 6 = .ok (.getfield 7, 3) := by decide +kernel
theorem dX7_overAll_9 : decode cX7_overAll 9 = .ok (.bipush 6, 2) := by decide +kernel
theorem dX7_overAll_11 : decode cX7_overAll 11 = .ok (.iaload, 1) := by decide +kernel
theorem dX7_overAll_12 : decode cX7_overAll 12 = .ok (.if_icmp .ge 107, 3) := by decide +kernel
theorem dX7_overAll_15 : decode cX7_overAll 15 = .ok (.iload_n 2, 1) := by decide +kernel
theorem dX7_overAll_16 : decode cX7_overAll 16 = .ok (.iload_n 1, 1) := by decide +kernel
theorem dX7_overAll_17 : decode cX7_overAll 17 = .ok (.iconst 1, 1) := by decide +kernel
theorem dX7_overAll_18 : decode cX7_overAll 18 = .ok (.if_icmp .ne 15, 3) := by decide +kernel
theorem dX7_overAll_21 : decode cX7_overAll 21 = .ok (.aload_n 0, 1) := by decide +kernel
theorem dX7_overAll_22 : decode cX7_overAll 22 = .ok (.getfield 7, 3) := by decide +kernel
theorem dX7_overAll_25 : decode cX7_overAll 25 = .ok (.iload_n 3, 1) := by decide +kernel
theorem dX7_overAll_26 : decode cX7_overAll 26 = .ok (.iconst 3, 1) := by decide +kernel
theorem dX7_overAll_27 : decode cX7_overAll 27 = .ok (.invokestatic 93, 3) := by decide +kernel
theorem dX7_overAll_30 : decode cX7_overAll 30 = .ok (.goto 81, 3) := by decide +kernel
theorem dX7_overAll_33 : decode cX7_overAll 33 = .ok (.iload_n 1, 1) := by decide +kernel
theorem dX7_overAll_34 : decode cX7_overAll 34 = .ok (.iconst 2, 1) := by decide +kernel
theorem dX7_overAll_35 : decode cX7_overAll 35 = .ok (.if_icmp .ne 25, 3) := by decide +kernel
theorem dX7_overAll_38 : decode cX7_overAll 38 = .ok (.aload_n 0, 1) := by decide +kernel
theorem dX7_overAll_39 : decode cX7_overAll 39 = .ok (.getfield 7, 3) := by decide +kernel
theorem dX7_overAll_42 : decode cX7_overAll 42 = .ok (.iload_n 3, 1) := by decide +kernel
theorem dX7_overAll_43 : decode cX7_overAll 43 = .ok (.bipush 6, 2) := by decide +kernel
theorem dX7_overAll_45 : decode cX7_overAll 45 = .ok (.invokestatic 93, 3) := by decide +kernel
theorem dX7_overAll_48 : decode cX7_overAll 48 = .ok (.iconst (-1), 1) := by decide +kernel
theorem dX7_overAll_49 : decode cX7_overAll 49 = .ok (.if_icmp .ne 7, 3) := by decide +kernel
theorem dX7_overAll_52 : decode cX7_overAll 52 = .ok (.iconst 0, 1) := by decide +kernel
theorem dX7_overAll_53 : decode cX7_overAll 53 = .ok (.goto 58, 3) := by decide +kernel
theorem dX7_overAll_56 : decode cX7_overAll 56 = .ok (.iconst 1, 1) := by decide +kernel
theorem dX7_overAll_57 : decode cX7_overAll 57 = .ok (.goto 54, 3) := by decide +kernel
theorem dX7_overAll_60 : decode cX7_overAll 60 = .ok (.iload_n 1, 1) := by decide +kernel
theorem dX7_overAll_61 : decode cX7_overAll 61 = .ok (.iconst 3, 1) := by decide +kernel
theorem dX7_overAll_62 : decode cX7_overAll 62 = .ok (.if_icmp .ne 14, 3) := by decide +kernel
theorem dX7_overAll_65 : decode cX7_overAll 65 = .ok (.aload_n 0, 1) := by decide +kernel
theorem dX7_overAll_66 : decode cX7_overAll 66 = .ok (.getfield 7, 3) := by decide +kernel
theorem dX7_overAll_69 : decode cX7_overAll 69 = .ok (.iload_n 3, 1) := by decide +kernel
theorem dX7_overAll_70 : decode cX7_overAll 70 = .ok (.invokestatic 96, 3) := by decide +kernel
theorem dX7_overAll_73 : decode cX7_overAll 73 = .ok (.goto 38, 3) := by decide +kernel
theorem dX7_overAll_76 : decode cX7_overAll 76 = .ok (.iload_n 1, 1) := by decide +kernel
theorem dX7_overAll_77 : decode cX7_overAll 77 = .ok (.iconst 4, 1) := by decide +kernel
theorem dX7_overAll_78 : decode cX7_overAll 78 = .ok (.if_icmp .ne 14, 3) := by decide +kernel
theorem dX7_overAll_81 : decode cX7_overAll 81 = .ok (.aload_n 0, 1) := by decide +kernel
theorem dX7_overAll_82 : decode cX7_overAll 82 = .ok (.getfield 7, 3) := by decide +kernel
theorem dX7_overAll_85 : decode cX7_overAll 85 = .ok (.iload_n 3, 1) := by decide +kernel
theorem dX7_overAll_86 : decode cX7_overAll 86 = .ok (.invokestatic 118, 3) := by decide +kernel
theorem dX7_overAll_89 : decode cX7_overAll 89 = .ok (.goto 22, 3) := by decide +kernel
theorem dX7_overAll_92 : decode cX7_overAll 92 = .ok (.aload_n 0, 1) := by decide +kernel
theorem dX7_overAll_93 : decode cX7_overAll 93 = .ok (.getfield 7, 3) := by decide +kernel
theorem dX7_overAll_96 : decode cX7_overAll 96 = .ok (.iload_n 3, 1) := by decide +kernel
theorem dX7_overAll_97 : decode cX7_overAll 97 = .ok (.iconst 2, 1) := by decide +kernel
theorem dX7_overAll_98 : decode cX7_overAll 98 = .ok (.invokestatic 93, 3) := by decide +kernel
theorem dX7_overAll_101 : decode cX7_overAll 101 = .ok (.aload_n 0, 1) := by decide +kernel
theorem dX7_overAll_102 : decode cX7_overAll 102 = .ok (.getfield 7, 3) := by decide +kernel
theorem dX7_overAll_105 : decode cX7_overAll 105 = .ok (.iload_n 3, 1) := by decide +kernel
theorem dX7_overAll_106 : decode cX7_overAll 106 = .ok (.iconst 1, 1) := by decide +kernel
theorem dX7_overAll_107 : decode cX7_overAll 107 = .ok (.invokestatic 93, 3) := by decide +kernel
theorem dX7_overAll_110 : decode cX7_overAll 110 = .ok (.isub, 1) := by decide +kernel
theorem dX7_overAll_111 : decode cX7_overAll 111 = .ok (.iadd, 1) := by decide +kernel
theorem dX7_overAll_112 : decode cX7_overAll 112 = .ok (.istore_n 2, 1) := by decide +kernel
theorem dX7_overAll_113 : decode cX7_overAll 113 = .ok (.iinc 3 1, 3) := by decide +kernel
theorem dX7_overAll_116 : decode cX7_overAll 116 = .ok (.goto (-112), 3) := by decide +kernel
theorem dX7_overAll_119 : decode cX7_overAll 119 = .ok (.iload_n 2, 1) := by decide +kernel
theorem dX7_overAll_120 : decode cX7_overAll 120 = .ok (.ireturn, 1) := by decide +kernel
set_option maxRecDepth 20000 in
theorem ggX7_counted_X7_overAll : GoodIn wsX7_counted wsX7_overAll := goodIn_r _ [7, 1, 8, 9, 6, 10, 11, 12, 13, 14, 15, 16, 17, 18, 19, 20, 21, 22, 23, 24, 25, 26, 27, 28, 29, 30, 31, 32, 33, 34, 35, 36, 37] (by decide +kernel) (by decide +kernel)
set_option maxRecDepth 20000 in
theorem gX7_counted_X7_overAll : GoodIn wsX7_counted (wsV RX7 168 RX7 yX7_overAll wsX7_overAll) := goodIn_app (goodIn_of _ (by decide +kernel)) ggX7_counted_X7_overAll
theorem dX7_counted_0 : decode cX7_counted 0 = .ok (.iload_n 1, 1) := by decide +kernel
theorem dX7_counted_1 : decode cX7_counted 1 = .ok (.ifCond .ne 13, 3) := by decide +kernel
theorem dX7_counted_4 : decode cX7_counted 4 = .ok (.aload_n 0, 1) := by decide +kernel
theorem dX7_counted_5 : decode cX7_counted 5 = .ok (.getfield 7, 3) := by decide +kernel
theorem dX7_counted_8 : decode cX7_counted 8 = .ok (.bipush 6, 2) := by decide +kernel
theorem dX7_counted_10 : decode cX7_counted 10 = .ok (.iaload, 1) := by decide +kernel
theorem dX7_counted_11 : decode cX7_counted 11 = .ok (.goto 42, 3) := by decide +kernel
theorem dX7_counted_14 : decode cX7_counted 14 = .ok (.iload_n 1, 1) := by decide +kernel
theorem dX7_counted_15 : decode cX7_counted 15 = .ok (.bipush 6, 2) := by decide +kernel
theorem dX7_counted_17 : decode cX7_counted 17 = .ok (.if_icmp .ge 11, 3) := by decide +kernel
theorem dX7_counted_20 : decode cX7_counted 20 = .ok (.aload_n 0, 1) := by decide +kernel
theorem dX7_counted_21 : decode cX7_counted 21 = .ok (.iload_n 1, 1) := by decide +kernel
theorem dX7_counted_22 : decode cX7_counted 22 = .ok (.invokevirtual 168, 3) := by decide +kernel
theorem dX7_counted_25 : decode cX7_counted 25 = .ok (.goto 28, 3) := by decide +kernel
theorem dX7_counted_28 : decode cX7_counted 28 = .ok (.iload_n 1, 1) := by decide +kernel
theorem dX7_counted_29 : decode cX7_counted 29 = .ok (.bipush 8, 2) := by decide +kernel
theorem dX7_counted_31 : decode cX7_counted 31 = .ok (.if_icmp .ge 18, 3) := by decide +kernel
theorem dX7_counted_34 : decode cX7_counted 34 = .ok (.aload_n 0, 1) := by decide +kernel
theorem dX7_counted_35 : decode cX7_counted 35 = .ok (.getfield 7, 3) := by decide +kernel
theorem dX7_counted_38 : decode cX7_counted 38 = .ok (.bipush 8, 2) := by decide +kernel
theorem dX7_counted_40 : decode cX7_counted 40 = .ok (.iload_n 1, 1) := by decide +kernel
theorem dX7_counted_41 : decode cX7_counted 41 = .ok (.iadd, 1) := by decide +kernel
theorem dX7_counted_42 : decode cX7_counted 42 = .ok (.bipush 6, 2) := by decide +kernel
theorem dX7_counted_44 : decode cX7_counted 44 = .ok (.isub, 1) := by decide +kernel
theorem dX7_counted_45 : decode cX7_counted 45 = .ok (.iaload, 1) := by decide +kernel
theorem dX7_counted_46 : decode cX7_counted 46 = .ok (.goto 7, 3) := by decide +kernel
theorem dX7_counted_49 : decode cX7_counted 49 = .ok (.aload_n 0, 1) := by decide +kernel
theorem dX7_counted_50 : decode cX7_counted 50 = .ok (.getfield 33, 3) := by decide +kernel
theorem dX7_counted_53 : decode cX7_counted 53 = .ok (.ireturn, 1) := by decide +kernel
set_option maxRecDepth 20000 in
theorem ggX7_count_X7_in : GoodIn wsX7_count wsX7_in := goodIn_r _ [5] (by decide +kernel) (by decide +kernel)
set_option maxRecDepth 20000 in
theorem gX7_count_X7_in : GoodIn wsX7_count (va_wsS RX7 29 yX7_in wsX7_in) := goodIn_app (goodIn_of _ (by decide +kernel)) ggX7_count_X7_in
set_option maxRecDepth 20000 in
theorem ggX7_count_X7_counted : GoodIn wsX7_count wsX7_counted := goodIn_r _ [9, 10, 11, 12, 13, 14, 4, 15, 16, 17, 18, 19, 20, 21, 22, 23, 24, 25, 26, 27, 28, 29, 30, 35, 36, 37, 38, 39, 40, 41, 42, 43, 44, 45, 46, 47, 48, 49] (by decide +kernel) (by decide +kernel)
set_option maxRecDepth 20000 in
theorem gX7_count_X7_counted : GoodIn wsX7_count (wsV RX7 171 RX7 yX7_counted wsX7_counted) := goodIn_app (goodIn_of _ (by decide +kernel)) ggX7_count_X7_counted
set_option maxRecDepth 20000 in
theorem ggX7_count_X7_fails : GoodIn wsX7_count wsX7_fails := goodIn_r _ [34, 1, 35, 36, 37, 38, 39, 40, 41, 42, 43, 44, 45, 46, 47, 48, 49] (by decide +kernel) (by decide +kernel)
set_option maxRecDepth 20000 in
theorem gX7_count_X7_fails : GoodIn wsX7_count (wsV RX7 40 RX7 yX7_fails wsX7_fails) := goodIn_app (goodIn_of _ (by decide +kernel)) ggX7_count_X7_fails
theorem dX7_count_0 : decode cX7_count 0 = .ok (.aload_n 0, 1) := by decide +kernel
theorem dX7_count_1 : decode cX7_count 1 = .ok (.iconst 0, 1) := by decide +kernel
theorem dX7_count_2 : decode cX7_count 2 = .ok (.putfield 25, 3) := by decide +kernel
theorem dX7_count_5 : decode cX7_count 5 = .ok (.iload_n 1, 1) := by decide +kernel
theorem dX7_count_6 : decode cX7_count 6 = .ok (.iconst 0, 1) := by decide +kernel
theorem dX7_count_7 : decode cX7_count 7 = .ok (.bipush 8, 2) := by decide +kernel
theorem dX7_count_9 : decode cX7_count 9 = .ok (.invokestatic 29, 3) := by decide +kernel
theorem dX7_count_12 : decode cX7_count 12 = .ok (.ifCond .eq 11, 3) := by decide +kernel
theorem dX7_count_15 : decode cX7_count 15 = .ok (.aload_n 0, 1) := by decide +kernel
theorem dX7_count_16 : decode cX7_count 16 = .ok (.iload_n 1, 1) := by decide +kernel
theorem dX7_count_17 : decode cX7_count 17 = .ok (.invokevirtual 171, 3) := by decide +kernel
theorem dX7_count_20 : decode cX7_count 20 = .ok (.goto 8, 3) := by decide +kernel
theorem dX7_count_23 : decode cX7_count 23 = .ok (.aload_n 0, 1) := by decide +kernel
theorem dX7_count_24 : decode cX7_count 24 = .ok (.iconst 1, 1) := by decide +kernel
theorem dX7_count_25 : decode cX7_count 25 = .ok (.invokevirtual 40, 3) := by decide +kernel
theorem dX7_count_28 : decode cX7_count 28 = .ok (.ireturn, 1) := by decide +kernel
set_option maxRecDepth 20000 in
theorem ggX7_freeOn_X7_canBeHad : GoodIn wsX7_freeOn wsX7_canBeHad := goodIn_r _ [5, 6, 7, 4, 8] (by decide +kernel) (by decide +kernel)
set_option maxRecDepth 20000 in
theorem gX7_freeOn_X7_canBeHad : GoodIn wsX7_freeOn (va_wsS RX7 48 yX7_canBeHad wsX7_canBeHad) := goodIn_app (goodIn_of _ (by decide +kernel)) ggX7_freeOn_X7_canBeHad
theorem dX7_freeOn_0 : decode cX7_freeOn 0 = .ok (.iconst 0, 1) := by decide +kernel
theorem dX7_freeOn_1 : decode cX7_freeOn 1 = .ok (.istore_n 3, 1) := by decide +kernel
theorem dX7_freeOn_2 : decode cX7_freeOn 2 = .ok (.iconst (-1), 1) := by decide +kernel
theorem dX7_freeOn_3 : decode cX7_freeOn 3 = .ok (.istore 4, 2) := by decide +kernel
theorem dX7_freeOn_5 : decode cX7_freeOn 5 = .ok (.bipush 17, 2) := by decide +kernel
theorem dX7_freeOn_7 : decode cX7_freeOn 7 = .ok (.istore 5, 2) := by decide +kernel
theorem dX7_freeOn_9 : decode cX7_freeOn 9 = .ok (.iload 5, 2) := by decide +kernel
theorem dX7_freeOn_11 : decode cX7_freeOn 11 = .ok (.ifCond .lt 52, 3) := by decide +kernel
theorem dX7_freeOn_14 : decode cX7_freeOn 14 = .ok (.iload_n 3, 1) := by decide +kernel
theorem dX7_freeOn_15 : decode cX7_freeOn 15 = .ok (.aload_n 0, 1) := by decide +kernel
theorem dX7_freeOn_16 : decode cX7_freeOn 16 = .ok (.getfield 7, 3) := by decide +kernel
theorem dX7_freeOn_19 : decode cX7_freeOn 19 = .ok (.iload 5, 2) := by decide +kernel
theorem dX7_freeOn_21 : decode cX7_freeOn 21 = .ok (.iload_n 1, 1) := by decide +kernel
theorem dX7_freeOn_22 : decode cX7_freeOn 22 = .ok (.invokestatic 48, 3) := by decide +kernel
theorem dX7_freeOn_25 : decode cX7_freeOn 25 = .ok (.ifCond .eq 7, 3) := by decide +kernel
theorem dX7_freeOn_28 : decode cX7_freeOn 28 = .ok (.iconst 1, 1) := by decide +kernel
theorem dX7_freeOn_29 : decode cX7_freeOn 29 = .ok (.goto 4, 3) := by decide +kernel
theorem dX7_freeOn_32 : decode cX7_freeOn 32 = .ok (.iconst 0, 1) := by decide +kernel
theorem dX7_freeOn_33 : decode cX7_freeOn 33 = .ok (.iadd, 1) := by decide +kernel
theorem dX7_freeOn_34 : decode cX7_freeOn 34 = .ok (.istore_n 3, 1) := by decide +kernel
theorem dX7_freeOn_35 : decode cX7_freeOn 35 = .ok (.aload_n 0, 1) := by decide +kernel
theorem dX7_freeOn_36 : decode cX7_freeOn 36 = .ok (.getfield 7, 3) := by decide +kernel
theorem dX7_freeOn_39 : decode cX7_freeOn 39 = .ok (.iload 5, 2) := by decide +kernel
theorem dX7_freeOn_41 : decode cX7_freeOn 41 = .ok (.iload_n 1, 1) := by decide +kernel
theorem dX7_freeOn_42 : decode cX7_freeOn 42 = .ok (.invokestatic 48, 3) := by decide +kernel
theorem dX7_freeOn_45 : decode cX7_freeOn 45 = .ok (.ifCond .eq 8, 3) := by decide +kernel
theorem dX7_freeOn_48 : decode cX7_freeOn 48 = .ok (.iload 5, 2) := by decide +kernel
theorem dX7_freeOn_50 : decode cX7_freeOn 50 = .ok (.goto 5, 3) := by decide +kernel
theorem dX7_freeOn_53 : decode cX7_freeOn 53 = .ok (.iload 4, 2) := by decide +kernel
theorem dX7_freeOn_55 : decode cX7_freeOn 55 = .ok (.istore 4, 2) := by decide +kernel
theorem dX7_freeOn_57 : decode cX7_freeOn 57 = .ok (.iinc 5 (-1), 3) := by decide +kernel
theorem dX7_freeOn_60 : decode cX7_freeOn 60 = .ok (.goto (-51), 3) := by decide +kernel
theorem dX7_freeOn_63 : decode cX7_freeOn 63 = .ok (.iload_n 2, 1) := by decide +kernel
theorem dX7_freeOn_64 : decode cX7_freeOn 64 = .ok (.ifCond .ne 7, 3) := by decide +kernel
theorem dX7_freeOn_67 : decode cX7_freeOn 67 = .ok (.iload_n 3, 1) := by decide +kernel
theorem dX7_freeOn_68 : decode cX7_freeOn 68 = .ok (.goto 5, 3) := by decide +kernel
theorem dX7_freeOn_71 : decode cX7_freeOn 71 = .ok (.iload 4, 2) := by decide +kernel
theorem dX7_freeOn_73 : decode cX7_freeOn 73 = .ok (.ireturn, 1) := by decide +kernel
set_option maxRecDepth 20000 in
theorem ggX7_free_X7_in : GoodIn wsX7_free wsX7_in := goodIn_r _ [5] (by decide +kernel) (by decide +kernel)
set_option maxRecDepth 20000 in
theorem gX7_free_X7_in : GoodIn wsX7_free (va_wsS RX7 29 yX7_in wsX7_in) := goodIn_app (goodIn_of _ (by decide +kernel)) ggX7_free_X7_in
set_option maxRecDepth 20000 in
theorem ggX7_free_X7_fails : GoodIn wsX7_free wsX7_fails := goodIn_r _ [9, 1, 21, 22, 23, 24, 25, 26, 27, 28, 29, 30, 31, 32, 33, 34, 35] (by decide +kernel) (by decide +kernel)
set_option maxRecDepth 20000 in
theorem gX7_free_X7_fails : GoodIn wsX7_free (wsV RX7 40 RX7 yX7_fails wsX7_fails) := goodIn_app (goodIn_of _ (by decide +kernel)) ggX7_free_X7_fails
set_option maxRecDepth 20000 in
theorem ggX7_free_X7_freeOn : GoodIn wsX7_free wsX7_freeOn := goodIn_r _ [13, 14, 15, 16, 4, 17, 18, 19, 20, 21, 22, 23, 24, 25, 26, 27, 28, 29, 30, 31, 32, 33, 34, 35] (by decide +kernel) (by decide +kernel)
set_option maxRecDepth 20000 in
theorem gX7_free_X7_freeOn : GoodIn wsX7_free (wsV RX7 174 RX7 yX7_freeOn wsX7_freeOn) := goodIn_app (goodIn_of _ (by decide +kernel)) ggX7_free_X7_freeOn
theorem dX7_free_0 : decode cX7_free 0 = .ok (.aload_n 0, 1) := by decide +kernel
theorem dX7_free_1 : decode cX7_free 1 = .ok (.iconst 0, 1) := by decide +kernel
theorem dX7_free_2 : decode cX7_free 2 = .ok (.putfield 25, 3) := by decide +kernel
theorem dX7_free_5 : decode cX7_free 5 = .ok (.iload_n 1, 1) := by decide +kernel
theorem dX7_free_6 : decode cX7_free 6 = .ok (.iconst 0, 1) := by decide +kernel
theorem dX7_free_7 : decode cX7_free 7 = .ok (.bipush 8, 2) := by decide +kernel
theorem dX7_free_9 : decode cX7_free 9 = .ok (.invokestatic 29, 3) := by decide +kernel
theorem dX7_free_12 : decode cX7_free 12 = .ok (.ifCond .ne 9, 3) := by decide +kernel
theorem dX7_free_15 : decode cX7_free 15 = .ok (.aload_n 0, 1) := by decide +kernel
theorem dX7_free_16 : decode cX7_free 16 = .ok (.iconst 1, 1) := by decide +kernel
theorem dX7_free_17 : decode cX7_free 17 = .ok (.invokevirtual 40, 3) := by decide +kernel
theorem dX7_free_20 : decode cX7_free 20 = .ok (.ireturn, 1) := by decide +kernel
theorem dX7_free_21 : decode cX7_free 21 = .ok (.iload_n 2, 1) := by decide +kernel
theorem dX7_free_22 : decode cX7_free 22 = .ok (.iconst 0, 1) := by decide +kernel
theorem dX7_free_23 : decode cX7_free 23 = .ok (.iconst 1, 1) := by decide +kernel
theorem dX7_free_24 : decode cX7_free 24 = .ok (.invokestatic 29, 3) := by decide +kernel
theorem dX7_free_27 : decode cX7_free 27 = .ok (.ifCond .eq 12, 3) := by decide +kernel
theorem dX7_free_30 : decode cX7_free 30 = .ok (.aload_n 0, 1) := by decide +kernel
theorem dX7_free_31 : decode cX7_free 31 = .ok (.iload_n 1, 1) := by decide +kernel
theorem dX7_free_32 : decode cX7_free 32 = .ok (.iload_n 2, 1) := by decide +kernel
theorem dX7_free_33 : decode cX7_free 33 = .ok (.invokevirtual 174, 3) := by decide +kernel
theorem dX7_free_36 : decode cX7_free 36 = .ok (.goto 8, 3) := by decide +kernel
theorem dX7_free_39 : decode cX7_free 39 = .ok (.aload_n 0, 1) := by decide +kernel
theorem dX7_free_40 : decode cX7_free 40 = .ok (.iconst 2, 1) := by decide +kernel
theorem dX7_free_41 : decode cX7_free 41 = .ok (.invokevirtual 40, 3) := by decide +kernel
theorem dX7_free_44 : decode cX7_free 44 = .ok (.ireturn, 1) := by decide +kernel
set_option maxRecDepth 20000 in
theorem ggX7_goesTo_X7_in : GoodIn wsX7_goesTo wsX7_in := goodIn_r _ [6] (by decide +kernel) (by decide +kernel)
set_option maxRecDepth 20000 in
theorem gX7_goesTo_X7_in : GoodIn wsX7_goesTo (va_wsS RX7 29 yX7_in wsX7_in) := goodIn_app (goodIn_of _ (by decide +kernel)) ggX7_goesTo_X7_in
set_option maxRecDepth 20000 in
theorem ggX7_goesTo_X7_fails : GoodIn wsX7_goesTo wsX7_fails := goodIn_r _ [10, 1, 11, 12, 13, 14, 15, 16, 17, 18, 19, 20, 21, 22, 23, 24, 25] (by decide +kernel) (by decide +kernel)
set_option maxRecDepth 20000 in
theorem gX7_goesTo_X7_fails : GoodIn wsX7_goesTo (wsV RX7 40 RX7 yX7_fails wsX7_fails) := goodIn_app (goodIn_of _ (by decide +kernel)) ggX7_goesTo_X7_fails
theorem dX7_goesTo_0 : decode cX7_goesTo 0 = .ok (.aload_n 0, 1) := by decide +kernel
theorem dX7_goesTo_1 : decode cX7_goesTo 1 = .ok (.iconst 0, 1) := by decide +kernel
theorem dX7_goesTo_2 : decode cX7_goesTo 2 = .ok (.putfield 25, 3) := by decide +kernel
theorem dX7_goesTo_5 : decode cX7_goesTo 5 = .ok (.iload_n 1, 1) := by decide +kernel
theorem dX7_goesTo_6 : decode cX7_goesTo 6 = .ok (.iconst 0, 1) := by decide +kernel
theorem dX7_goesTo_7 : decode cX7_goesTo 7 = .ok (.iconst 2, 1) := by decide +kernel
theorem dX7_goesTo_8 : decode cX7_goesTo 8 = .ok (.invokestatic 29, 3) := by decide +kernel
theorem dX7_goesTo_11 : decode cX7_goesTo 11 = .ok (.ifCond .eq 14, 3) := by decide +kernel
theorem dX7_goesTo_14 : decode cX7_goesTo 14 = .ok (.aload_n 0, 1) := by decide +kernel
theorem dX7_goesTo_15 : decode cX7_goesTo 15 = .ok (.getfield 7, 3) := by decide +kernel
theorem dX7_goesTo_18 : decode cX7_goesTo 18 = .ok (.iconst 3, 1) := by decide +kernel
theorem dX7_goesTo_19 : decode cX7_goesTo 19 = .ok (.iload_n 1, 1) := by decide +kernel
theorem dX7_goesTo_20 : decode cX7_goesTo 20 = .ok (.iadd, 1) := by decide +kernel
theorem dX7_goesTo_21 : decode cX7_goesTo 21 = .ok (.iaload, 1) := by decide +kernel
theorem dX7_goesTo_22 : decode cX7_goesTo 22 = .ok (.goto 8, 3) := by decide +kernel
theorem dX7_goesTo_25 : decode cX7_goesTo 25 = .ok (.aload_n 0, 1) := by decide +kernel
theorem dX7_goesTo_26 : decode cX7_goesTo 26 = .ok (.iconst 1, 1) := by decide +kernel
theorem dX7_goesTo_27 : decode cX7_goesTo 27 = .ok (.invokevirtual 40, 3) := by decide +kernel
theorem dX7_goesTo_30 : decode cX7_goesTo 30 = .ok (.ireturn, 1) := by decide +kernel
set_option maxRecDepth 20000 in
theorem ggX7_setting_X7_in : GoodIn wsX7_setting wsX7_in := goodIn_r _ [6] (by decide +kernel) (by decide +kernel)
set_option maxRecDepth 20000 in
theorem gX7_setting_X7_in : GoodIn wsX7_setting (va_wsS RX7 29 yX7_in wsX7_in) := goodIn_app (goodIn_of _ (by decide +kernel)) ggX7_setting_X7_in
set_option maxRecDepth 20000 in
theorem ggX7_setting_X7_fails : GoodIn wsX7_setting wsX7_fails := goodIn_r _ [10, 1, 11, 12, 13, 14, 15, 16, 17, 18, 19, 20, 21, 22, 23, 24, 25] (by decide +kernel) (by decide +kernel)
set_option maxRecDepth 20000 in
theorem gX7_setting_X7_fails : GoodIn wsX7_setting (wsV RX7 40 RX7 yX7_fails wsX7_fails) := goodIn_app (goodIn_of _ (by decide +kernel)) ggX7_setting_X7_fails
theorem dX7_setting_0 : decode cX7_setting 0 = .ok (.aload_n 0, 1) := by decide +kernel
theorem dX7_setting_1 : decode cX7_setting 1 = .ok (.iconst 0, 1) := by decide +kernel
theorem dX7_setting_2 : decode cX7_setting 2 = .ok (.putfield 25, 3) := by decide +kernel
theorem dX7_setting_5 : decode cX7_setting 5 = .ok (.iload_n 1, 1) := by decide +kernel
theorem dX7_setting_6 : decode cX7_setting 6 = .ok (.iconst 0, 1) := by decide +kernel
theorem dX7_setting_7 : decode cX7_setting 7 = .ok (.iconst 2, 1) := by decide +kernel
theorem dX7_setting_8 : decode cX7_setting 8 = .ok (.invokestatic 29, 3) := by decide +kernel
theorem dX7_setting_11 : decode cX7_setting 11 = .ok (.ifCond .eq 12, 3) := by decide +kernel
theorem dX7_setting_14 : decode cX7_setting 14 = .ok (.aload_n 0, 1) := by decide +kernel
theorem dX7_setting_15 : decode cX7_setting 15 = .ok (.getfield 7, 3) := by decide +kernel
theorem dX7_setting_18 : decode cX7_setting 18 = .ok (.iload_n 1, 1) := by decide +kernel
theorem dX7_setting_19 : decode cX7_setting 19 = .ok (.iaload, 1) := by decide +kernel
theorem dX7_setting_20 : decode cX7_setting 20 = .ok (.goto 8, 3) := by decide +kernel
theorem dX7_setting_23 : decode cX7_setting 23 = .ok (.aload_n 0, 1) := by decide +kernel
theorem dX7_setting_24 : decode cX7_setting 24 = .ok (.iconst 1, 1) := by decide +kernel
theorem dX7_setting_25 : decode cX7_setting 25 = .ok (.invokevirtual 40, 3) := by decide +kernel
theorem dX7_setting_28 : decode cX7_setting 28 = .ok (.ireturn, 1) := by decide +kernel
set_option maxRecDepth 20000 in
theorem ggX7_byBooking_X7_finds : GoodIn wsX7_byBooking wsX7_finds := goodIn_r _ [9, 10, 11, 12, 8, 13, 3, 2, 4, 14, 15, 16, 17, 18, 19, 20, 21, 22, 23, 24, 25, 26, 27, 28, 29, 30, 31, 32, 33, 34, 35, 36, 37, 38, 39, 40, 41, 42, 43, 44, 45, 46, 47, 48, 49, 50, 51, 52, 53, 54] (by decide +kernel) (by decide +kernel)
set_option maxRecDepth 20000 in
theorem gX7_byBooking_X7_finds : GoodIn wsX7_byBooking (wsV RX7 104 RX7 yX7_finds wsX7_finds) := goodIn_app (goodIn_of _ (by decide +kernel)) ggX7_byBooking_X7_finds
theorem dX7_byBooking_0 : decode cX7_byBooking 0 = .ok (.aload_n 0, 1) := by decide +kernel
theorem dX7_byBooking_1 : decode cX7_byBooking 1 = .ok (.aload_n 0, 1) := by decide +kernel
theorem dX7_byBooking_2 : decode cX7_byBooking 2 = .ok (.getfield 7, 3) := by decide +kernel
theorem dX7_byBooking_5 : decode cX7_byBooking 5 = .ok (.iload_n 1, 1) := by decide +kernel
theorem dX7_byBooking_6 : decode cX7_byBooking 6 = .ok (.iload_n 2, 1) := by decide +kernel
theorem dX7_byBooking_7 : decode cX7_byBooking 7 = .ok (.iload_n 3, 1) := by decide +kernel
theorem dX7_byBooking_8 : decode cX7_byBooking 8 = .ok (.invokevirtual 104, 3) := by decide +kernel
theorem dX7_byBooking_11 : decode cX7_byBooking 11 = .ok (.ifCond .ne 14, 3) := by decide +kernel
theorem dX7_byBooking_14 : decode cX7_byBooking 14 = .ok (.iload 4, 2) := by decide +kernel
theorem dX7_byBooking_16 : decode cX7_byBooking 16 = .ok (.ifCond .ne 7, 3) := by decide +kernel
theorem dX7_byBooking_19 : decode cX7_byBooking 19 = .ok (.iconst 0, 1) := by decide +kernel
theorem dX7_byBooking_20 : decode cX7_byBooking 20 = .ok (.goto 4, 3) := by decide +kernel
theorem dX7_byBooking_23 : decode cX7_byBooking 23 = .ok (.iconst (-1), 1) := by decide +kernel
theorem dX7_byBooking_24 : decode cX7_byBooking 24 = .ok (.ireturn, 1) := by decide +kernel
theorem dX7_byBooking_25 : decode cX7_byBooking 25 = .ok (.iload 4, 2) := by decide +kernel
theorem dX7_byBooking_27 : decode cX7_byBooking 27 = .ok (.ifCond .ne 19, 3) := by decide +kernel
theorem dX7_byBooking_30 : decode cX7_byBooking 30 = .ok (.aload_n 0, 1) := by decide +kernel
theorem dX7_byBooking_31 : decode cX7_byBooking 31 = .ok (.getfield 55, 3) := by decide +kernel
theorem dX7_byBooking_34 : decode cX7_byBooking 34 = .ok (.iconst (-1), 1) := by decide +kernel
theorem dX7_byBooking_35 : decode cX7_byBooking 35 = .ok (.if_icmp .ne 7, 3) := by decide +kernel
theorem dX7_byBooking_38 : decode cX7_byBooking 38 = .ok (.iconst 1, 1) := by decide +kernel
theorem dX7_byBooking_39 : decode cX7_byBooking 39 = .ok (.goto 37, 3) := by decide +kernel
theorem dX7_byBooking_42 : decode cX7_byBooking 42 = .ok (.iconst 2, 1) := by decide +kernel
theorem dX7_byBooking_43 : decode cX7_byBooking 43 = .ok (.goto 33, 3) := by decide +kernel
theorem dX7_byBooking_46 : decode cX7_byBooking 46 = .ok (.iload 4, 2) := by decide +kernel
theorem dX7_byBooking_48 : decode cX7_byBooking 48 = .ok (.iconst 1, 1) := by decide +kernel
theorem dX7_byBooking_49 : decode cX7_byBooking 49 = .ok (.if_icmp .ne 10, 3) := by decide +kernel
theorem dX7_byBooking_52 : decode cX7_byBooking 52 = .ok (.aload_n 0, 1) := by decide +kernel
theorem dX7_byBooking_53 : decode cX7_byBooking 53 = .ok (.getfield 52, 3) := by decide +kernel
theorem dX7_byBooking_56 : decode cX7_byBooking 56 = .ok (.goto 20, 3) := by decide +kernel
theorem dX7_byBooking_59 : decode cX7_byBooking 59 = .ok (.iload 4, 2) := by decide +kernel
theorem dX7_byBooking_61 : decode cX7_byBooking 61 = .ok (.iconst 2, 1) := by decide +kernel
theorem dX7_byBooking_62 : decode cX7_byBooking 62 = .ok (.if_icmp .ne 10, 3) := by decide +kernel
theorem dX7_byBooking_65 : decode cX7_byBooking 65 = .ok (.aload_n 0, 1) := by decide +kernel
theorem dX7_byBooking_66 : decode cX7_byBooking 66 = .ok (.getfield 55, 3) := by decide +kernel
theorem dX7_byBooking_69 : decode cX7_byBooking 69 = .ok (.goto 7, 3) := by decide +kernel
theorem dX7_byBooking_72 : decode cX7_byBooking 72 = .ok (.aload_n 0, 1) := by decide +kernel
theorem dX7_byBooking_73 : decode cX7_byBooking 73 = .ok (.getfield 66, 3) := by decide +kernel
theorem dX7_byBooking_76 : decode cX7_byBooking 76 = .ok (.ireturn, 1) := by decide +kernel
set_option maxRecDepth 20000 in
theorem ggX7_ifBooked_X7_isWay : GoodIn wsX7_ifBooked wsX7_isWay := goodIn_r _ [5, 6, 7, 4, 8] (by decide +kernel) (by decide +kernel)
set_option maxRecDepth 20000 in
theorem gX7_ifBooked_X7_isWay : GoodIn wsX7_ifBooked (va_wsS RX7 100 yX7_isWay wsX7_isWay) := goodIn_app (goodIn_of _ (by decide +kernel)) ggX7_ifBooked_X7_isWay
set_option maxRecDepth 20000 in
theorem ggX7_ifBooked_X7_in : GoodIn wsX7_ifBooked wsX7_in := goodIn_r _ [8] (by decide +kernel) (by decide +kernel)
set_option maxRecDepth 20000 in
theorem gX7_ifBooked_X7_in : GoodIn wsX7_ifBooked (va_wsS RX7 29 yX7_in wsX7_in) := goodIn_app (goodIn_of _ (by decide +kernel)) ggX7_ifBooked_X7_in
set_option maxRecDepth 20000 in
theorem ggX7_ifBooked_X7_byBooking : GoodIn wsX7_ifBooked wsX7_byBooking := goodIn_r _ [12, 13, 14, 15, 16, 17, 18, 19, 4, 20, 21, 22, 23, 24, 25, 26, 27, 28, 29, 30, 31, 32, 33, 34, 35, 36, 37, 38, 39, 40, 41, 42, 43, 44, 6, 7, 8, 45, 46, 47, 52, 53, 54, 55, 56, 57, 58, 59, 60, 61, 62, 63, 64, 65, 66] (by decide +kernel) (by decide +kernel)
set_option maxRecDepth 20000 in
theorem gX7_ifBooked_X7_byBooking : GoodIn wsX7_ifBooked (wsV RX7 177 RX7 yX7_byBooking wsX7_byBooking) := goodIn_app (goodIn_of _ (by decide +kernel)) ggX7_ifBooked_X7_byBooking
set_option maxRecDepth 20000 in
theorem ggX7_ifBooked_X7_fails : GoodIn wsX7_ifBooked wsX7_fails := goodIn_r _ [51, 1, 52, 53, 54, 55, 56, 57, 58, 59, 60, 61, 62, 63, 64, 65, 66] (by decide +kernel) (by decide +kernel)
set_option maxRecDepth 20000 in
theorem gX7_ifBooked_X7_fails : GoodIn wsX7_ifBooked (wsV RX7 40 RX7 yX7_fails wsX7_fails) := goodIn_app (goodIn_of _ (by decide +kernel)) ggX7_ifBooked_X7_fails
theorem dX7_ifBooked_0 : decode cX7_ifBooked 0 = .ok (.aload_n 0, 1) := by decide +kernel
theorem dX7_ifBooked_1 : decode cX7_ifBooked 1 = .ok (.iconst 0, 1) := by decide +kernel
theorem dX7_ifBooked_2 : decode cX7_ifBooked 2 = .ok (.putfield 25, 3) := by decide +kernel
theorem dX7_ifBooked_5 : decode cX7_ifBooked 5 = .ok (.iload_n 1, 1) := by decide +kernel
theorem dX7_ifBooked_6 : decode cX7_ifBooked 6 = .ok (.iload_n 2, 1) := by decide +kernel
theorem dX7_ifBooked_7 : decode cX7_ifBooked 7 = .ok (.invokestatic 100, 3) := by decide +kernel
theorem dX7_ifBooked_10 : decode cX7_ifBooked 10 = .ok (.ifCond .eq 25, 3) := by decide +kernel
theorem dX7_ifBooked_13 : decode cX7_ifBooked 13 = .ok (.iload 4, 2) := by decide +kernel
theorem dX7_ifBooked_15 : decode cX7_ifBooked 15 = .ok (.iconst 0, 1) := by decide +kernel
theorem dX7_ifBooked_16 : decode cX7_ifBooked 16 = .ok (.iconst 3, 1) := by decide +kernel
theorem dX7_ifBooked_17 : decode cX7_ifBooked 17 = .ok (.invokestatic 29, 3) := by decide +kernel
theorem dX7_ifBooked_20 : decode cX7_ifBooked 20 = .ok (.ifCond .eq 15, 3) := by decide +kernel
theorem dX7_ifBooked_23 : decode cX7_ifBooked 23 = .ok (.aload_n 0, 1) := by decide +kernel
theorem dX7_ifBooked_24 : decode cX7_ifBooked 24 = .ok (.iload_n 1, 1) := by decide +kernel
theorem dX7_ifBooked_25 : decode cX7_ifBooked 25 = .ok (.iload_n 2, 1) := by decide +kernel
theorem dX7_ifBooked_26 : decode cX7_ifBooked 26 = .ok (.iload_n 3, 1) := by decide +kernel
theorem dX7_ifBooked_27 : decode cX7_ifBooked 27 = .ok (.iload 4, 2) := by decide +kernel
theorem dX7_ifBooked_29 : decode cX7_ifBooked 29 = .ok (.invokevirtual 177, 3) := by decide +kernel
theorem dX7_ifBooked_32 : decode cX7_ifBooked 32 = .ok (.goto 8, 3) := by decide +kernel
theorem dX7_ifBooked_35 : decode cX7_ifBooked 35 = .ok (.aload_n 0, 1) := by decide +kernel
theorem dX7_ifBooked_36 : decode cX7_ifBooked 36 = .ok (.iconst 1, 1) := by decide +kernel
theorem dX7_ifBooked_37 : decode cX7_ifBooked 37 = .ok (.invokevirtual 40, 3) := by decide +kernel
theorem dX7_ifBooked_40 : decode cX7_ifBooked 40 = .ok (.ireturn, 1) := by decide +kernel
set_option maxRecDepth 20000 in
theorem ggX7_reason_X7_freeOn : GoodIn wsX7_reason wsX7_freeOn := goodIn_r _ [6, 1, 7, 8, 5, 9, 10, 11, 12, 27, 28, 29, 30, 31, 32, 33, 34, 35, 36, 37, 38, 39, 40, 41] (by decide +kernel) (by decide +kernel)
set_option maxRecDepth 20000 in
theorem gX7_reason_X7_freeOn : GoodIn wsX7_reason (wsV RX7 174 RX7 yX7_freeOn wsX7_freeOn) := goodIn_app (goodIn_of _ (by decide +kernel)) ggX7_reason_X7_freeOn
set_option maxRecDepth 20000 in
theorem ggX7_reason_X7_findsOne : GoodIn wsX7_reason wsX7_findsOne := goodIn_r _ [16, 17, 18, 19, 20, 21, 22, 5, 23, 7, 8, 9, 10, 11, 12, 24, 25, 26, 27, 28, 29, 30, 31, 32, 33, 34, 35, 36, 37, 38, 39, 40, 41] (by decide +kernel) (by decide +kernel)
set_option maxRecDepth 20000 in
theorem gX7_reason_X7_findsOne : GoodIn wsX7_reason (wsV RX7 79 RX7 yX7_findsOne wsX7_findsOne) := goodIn_app (goodIn_of _ (by decide +kernel)) ggX7_reason_X7_findsOne
theorem dX7_reason_0 : decode cX7_reason 0 = .ok (.aload_n 0, 1) := by decide +kernel
theorem dX7_reason_1 : decode cX7_reason 1 = .ok (.getfield 7, 3) := by decide +kernel
theorem dX7_reason_4 : decode cX7_reason 4 = .ok (.iconst 3, 1) := by decide +kernel
theorem dX7_reason_5 : decode cX7_reason 5 = .ok (.iaload, 1) := by decide +kernel
theorem dX7_reason_6 : decode cX7_reason 6 = .ok (.iload_n 2, 1) := by decide +kernel
theorem dX7_reason_7 : decode cX7_reason 7 = .ok (.if_icmp .ge 25, 3) := by decide +kernel
theorem dX7_reason_10 : decode cX7_reason 10 = .ok (.aload_n 0, 1) := by decide +kernel
theorem dX7_reason_11 : decode cX7_reason 11 = .ok (.getfield 7, 3) := by decide +kernel
theorem dX7_reason_14 : decode cX7_reason 14 = .ok (.iconst 4, 1) := by decide +kernel
theorem dX7_reason_15 : decode cX7_reason 15 = .ok (.iaload, 1) := by decide +kernel
theorem dX7_reason_16 : decode cX7_reason 16 = .ok (.iload_n 2, 1) := by decide +kernel
theorem dX7_reason_17 : decode cX7_reason 17 = .ok (.if_icmp .ge 15, 3) := by decide +kernel
theorem dX7_reason_20 : decode cX7_reason 20 = .ok (.aload_n 0, 1) := by decide +kernel
theorem dX7_reason_21 : decode cX7_reason 21 = .ok (.getfield 7, 3) := by decide +kernel
theorem dX7_reason_24 : decode cX7_reason 24 = .ok (.iconst 5, 1) := by decide +kernel
theorem dX7_reason_25 : decode cX7_reason 25 = .ok (.iaload, 1) := by decide +kernel
theorem dX7_reason_26 : decode cX7_reason 26 = .ok (.iload_n 2, 1) := by decide +kernel
theorem dX7_reason_27 : decode cX7_reason 27 = .ok (.if_icmp .ge 5, 3) := by decide +kernel
theorem dX7_reason_30 : decode cX7_reason 30 = .ok (.iconst 1, 1) := by decide +kernel
theorem dX7_reason_31 : decode cX7_reason 31 = .ok (.ireturn, 1) := by decide +kernel
theorem dX7_reason_32 : decode cX7_reason 32 = .ok (.iload_n 1, 1) := by decide +kernel
theorem dX7_reason_33 : decode cX7_reason 33 = .ok (.istore_n 3, 1) := by decide +kernel
theorem dX7_reason_34 : decode cX7_reason 34 = .ok (.iload_n 3, 1) := by decide +kernel
theorem dX7_reason_35 : decode cX7_reason 35 = .ok (.iload_n 2, 1) := by decide +kernel
theorem dX7_reason_36 : decode cX7_reason 36 = .ok (.if_icmp .ge 20, 3) := by decide +kernel
theorem dX7_reason_39 : decode cX7_reason 39 = .ok (.aload_n 0, 1) := by decide +kernel
theorem dX7_reason_40 : decode cX7_reason 40 = .ok (.iload_n 3, 1) := by decide +kernel
theorem dX7_reason_41 : decode cX7_reason 41 = .ok (.iconst 0, 1) := by decide +kernel
theorem dX7_reason_42 : decode cX7_reason 42 = .ok (.invokevirtual 174, 3) := by decide +kernel
theorem dX7_reason_45 : decode cX7_reason 45 = .ok (.ifCond .ne 5, 3) := by decide +kernel
theorem dX7_reason_48 : decode cX7_reason 48 = .ok (.iconst 2, 1) := by decide +kernel
theorem dX7_reason_49 : decode cX7_reason 49 = .ok (.ireturn, 1) := by decide +kernel
theorem dX7_reason_50 : decode cX7_reason 50 = .ok (.iinc 3 1, 3) := by decide +kernel
theorem dX7_reason_53 : decode cX7_reason 53 = .ok (.goto (-19), 3) := by decide +kernel
theorem dX7_reason_56 : decode cX7_reason 56 = .ok (.aload_n 0, 1) := by decide +kernel
theorem dX7_reason_57 : decode cX7_reason 57 = .ok (.aload_n 0, 1) := by decide +kernel
theorem dX7_reason_58 : decode cX7_reason 58 = .ok (.getfield 7, 3) := by decide +kernel
theorem dX7_reason_61 : decode cX7_reason 61 = .ok (.iload_n 1, 1) := by decide +kernel
theorem dX7_reason_62 : decode cX7_reason 62 = .ok (.iload_n 2, 1) := by decide +kernel
theorem dX7_reason_63 : decode cX7_reason 63 = .ok (.invokevirtual 79, 3) := by decide +kernel
theorem dX7_reason_66 : decode cX7_reason 66 = .ok (.ifCond .eq 7, 3) := by decide +kernel
theorem dX7_reason_69 : decode cX7_reason 69 = .ok (.iconst 0, 1) := by decide +kernel
theorem dX7_reason_70 : decode cX7_reason 70 = .ok (.goto 4, 3) := by decide +kernel
theorem dX7_reason_73 : decode cX7_reason 73 = .ok (.iconst 3, 1) := by decide +kernel
theorem dX7_reason_74 : decode cX7_reason 74 = .ok (.ireturn, 1) := by decide +kernel
set_option maxRecDepth 20000 in
theorem ggX7_whyNot_X7_isWay : GoodIn wsX7_whyNot wsX7_isWay := goodIn_r _ [5, 6, 7, 4, 8] (by decide +kernel) (by decide +kernel)
set_option maxRecDepth 20000 in
theorem gX7_whyNot_X7_isWay : GoodIn wsX7_whyNot (va_wsS RX7 100 yX7_isWay wsX7_isWay) := goodIn_app (goodIn_of _ (by decide +kernel)) ggX7_whyNot_X7_isWay
set_option maxRecDepth 20000 in
theorem ggX7_whyNot_X7_reason : GoodIn wsX7_whyNot wsX7_reason := goodIn_r _ [12, 13, 14, 15, 16, 4, 17, 18, 19, 20, 21, 22, 23, 24, 25, 26, 27, 28, 29, 30, 31, 32, 33, 34, 35, 36, 37, 42, 43, 44, 45, 46, 47, 48, 49, 50, 51, 52, 53, 54, 55, 56] (by decide +kernel) (by decide +kernel)
set_option maxRecDepth 20000 in
theorem gX7_whyNot_X7_reason : GoodIn wsX7_whyNot (wsV RX7 181 RX7 yX7_reason wsX7_reason) := goodIn_app (goodIn_of _ (by decide +kernel)) ggX7_whyNot_X7_reason
set_option maxRecDepth 20000 in
theorem ggX7_whyNot_X7_fails : GoodIn wsX7_whyNot wsX7_fails := goodIn_r _ [41, 1, 42, 43, 44, 45, 46, 47, 48, 49, 50, 51, 52, 53, 54, 55, 56] (by decide +kernel) (by decide +kernel)
set_option maxRecDepth 20000 in
theorem gX7_whyNot_X7_fails : GoodIn wsX7_whyNot (wsV RX7 40 RX7 yX7_fails wsX7_fails) := goodIn_app (goodIn_of _ (by decide +kernel)) ggX7_whyNot_X7_fails
theorem dX7_whyNot_0 : decode cX7_whyNot 0 = .ok (.aload_n 0, 1) := by decide +kernel
theorem dX7_whyNot_1 : decode cX7_whyNot 1 = .ok (.iconst 0, 1) := by decide +kernel
theorem dX7_whyNot_2 : decode cX7_whyNot 2 = .ok (.putfield 25, 3) := by decide +kernel
theorem dX7_whyNot_5 : decode cX7_whyNot 5 = .ok (.iload_n 1, 1) := by decide +kernel
theorem dX7_whyNot_6 : decode cX7_whyNot 6 = .ok (.iload_n 2, 1) := by decide +kernel
theorem dX7_whyNot_7 : decode cX7_whyNot 7 = .ok (.invokestatic 100, 3) := by decide +kernel
theorem dX7_whyNot_10 : decode cX7_whyNot 10 = .ok (.ifCond .eq 12, 3) := by decide +kernel
theorem dX7_whyNot_13 : decode cX7_whyNot 13 = .ok (.aload_n 0, 1) := by decide +kernel
theorem dX7_whyNot_14 : decode cX7_whyNot 14 = .ok (.iload_n 1, 1) := by decide +kernel
theorem dX7_whyNot_15 : decode cX7_whyNot 15 = .ok (.iload_n 2, 1) := by decide +kernel
theorem dX7_whyNot_16 : decode cX7_whyNot 16 = .ok (.invokevirtual 181, 3) := by decide +kernel
theorem dX7_whyNot_19 : decode cX7_whyNot 19 = .ok (.goto 8, 3) := by decide +kernel
theorem dX7_whyNot_22 : decode cX7_whyNot 22 = .ok (.aload_n 0, 1) := by decide +kernel
theorem dX7_whyNot_23 : decode cX7_whyNot 23 = .ok (.iconst 1, 1) := by decide +kernel
theorem dX7_whyNot_24 : decode cX7_whyNot 24 = .ok (.invokevirtual 40, 3) := by decide +kernel
theorem dX7_whyNot_27 : decode cX7_whyNot 27 = .ok (.ireturn, 1) := by decide +kernel
set_option maxRecDepth 20000 in
theorem ggX7_longest_X7_findsOne : GoodIn wsX7_longest wsX7_findsOne := goodIn_r _ [6, 7, 8, 9, 10, 11, 12, 5, 13, 14, 15, 16, 17, 18, 19, 20, 21, 22, 23, 24, 25, 26, 27, 28, 29, 30, 31, 32, 33, 34, 35, 36, 37] (by decide +kernel) (by decide +kernel)
set_option maxRecDepth 20000 in
theorem gX7_longest_X7_findsOne : GoodIn wsX7_longest (wsV RX7 79 RX7 yX7_findsOne wsX7_findsOne) := goodIn_app (goodIn_of _ (by decide +kernel)) ggX7_longest_X7_findsOne
theorem dX7_longest_0 : decode cX7_longest 0 = .ok (.bipush 9, 2) := by decide +kernel
theorem dX7_longest_2 : decode cX7_longest 2 = .ok (.istore_n 2, 1) := by decide +kernel
theorem dX7_longest_3 : decode cX7_longest 3 = .ok (.iload_n 2, 1) := by decide +kernel
theorem dX7_longest_4 : decode cX7_longest 4 = .ok (.iload_n 1, 1) := by decide +kernel
theorem dX7_longest_5 : decode cX7_longest 5 = .ok (.if_icmp .le 22, 3) := by decide +kernel
theorem dX7_longest_8 : decode cX7_longest 8 = .ok (.aload_n 0, 1) := by decide +kernel
theorem dX7_longest_9 : decode cX7_longest 9 = .ok (.aload_n 0, 1) := by decide +kernel
theorem dX7_longest_10 : decode cX7_longest 10 = .ok (.getfield 7, 3) := by decide +kernel
theorem dX7_longest_13 : decode cX7_longest 13 = .ok (.iload_n 1, 1) := by decide +kernel
theorem dX7_longest_14 : decode cX7_longest 14 = .ok (.iload_n 2, 1) := by decide +kernel
theorem dX7_longest_15 : decode cX7_longest 15 = .ok (.invokevirtual 79, 3) := by decide +kernel
theorem dX7_longest_18 : decode cX7_longest 18 = .ok (.ifCond .ne 9, 3) := by decide +kernel
theorem dX7_longest_21 : decode cX7_longest 21 = .ok (.iinc 2 (-1), 3) := by decide +kernel
theorem dX7_longest_24 : decode cX7_longest 24 = .ok (.goto (-21), 3) := by decide +kernel
theorem dX7_longest_27 : decode cX7_longest 27 = .ok (.iload_n 2, 1) := by decide +kernel
theorem dX7_longest_28 : decode cX7_longest 28 = .ok (.ireturn, 1) := by decide +kernel
set_option maxRecDepth 20000 in
theorem ggX7_farthest_X7_in : GoodIn wsX7_farthest wsX7_in := goodIn_r _ [5] (by decide +kernel) (by decide +kernel)
set_option maxRecDepth 20000 in
theorem gX7_farthest_X7_in : GoodIn wsX7_farthest (va_wsS RX7 29 yX7_in wsX7_in) := goodIn_app (goodIn_of _ (by decide +kernel)) ggX7_farthest_X7_in
set_option maxRecDepth 20000 in
theorem ggX7_farthest_X7_longest : GoodIn wsX7_farthest wsX7_longest := goodIn_r _ [9, 10, 11, 12, 13, 4, 14, 15, 16, 17, 18, 19, 20, 21, 22, 23, 24, 25, 26, 27, 28, 29, 30, 35, 36, 37, 38, 39, 40, 41, 42, 43, 44, 45, 46, 47, 48, 49] (by decide +kernel) (by decide +kernel)
set_option maxRecDepth 20000 in
theorem gX7_farthest_X7_longest : GoodIn wsX7_farthest (wsV RX7 184 RX7 yX7_longest wsX7_longest) := goodIn_app (goodIn_of _ (by decide +kernel)) ggX7_farthest_X7_longest
set_option maxRecDepth 20000 in
theorem ggX7_farthest_X7_fails : GoodIn wsX7_farthest wsX7_fails := goodIn_r _ [34, 1, 35, 36, 37, 38, 39, 40, 41, 42, 43, 44, 45, 46, 47, 48, 49] (by decide +kernel) (by decide +kernel)
set_option maxRecDepth 20000 in
theorem gX7_farthest_X7_fails : GoodIn wsX7_farthest (wsV RX7 40 RX7 yX7_fails wsX7_fails) := goodIn_app (goodIn_of _ (by decide +kernel)) ggX7_farthest_X7_fails
theorem dX7_farthest_0 : decode cX7_farthest 0 = .ok (.aload_n 0, 1) := by decide +kernel
theorem dX7_farthest_1 : decode cX7_farthest 1 = .ok (.iconst 0, 1) := by decide +kernel
theorem dX7_farthest_2 : decode cX7_farthest 2 = .ok (.putfield 25, 3) := by decide +kernel
theorem dX7_farthest_5 : decode cX7_farthest 5 = .ok (.iload_n 1, 1) := by decide +kernel
theorem dX7_farthest_6 : decode cX7_farthest 6 = .ok (.iconst 0, 1) := by decide +kernel
theorem dX7_farthest_7 : decode cX7_farthest 7 = .ok (.bipush 8, 2) := by decide +kernel
theorem dX7_farthest_9 : decode cX7_farthest 9 = .ok (.invokestatic 29, 3) := by decide +kernel
theorem dX7_farthest_12 : decode cX7_farthest 12 = .ok (.ifCond .eq 11, 3) := by decide +kernel
theorem dX7_farthest_15 : decode cX7_farthest 15 = .ok (.aload_n 0, 1) := by decide +kernel
theorem dX7_farthest_16 : decode cX7_farthest 16 = .ok (.iload_n 1, 1) := by decide +kernel
theorem dX7_farthest_17 : decode cX7_farthest 17 = .ok (.invokevirtual 184, 3) := by decide +kernel
theorem dX7_farthest_20 : decode cX7_farthest 20 = .ok (.goto 8, 3) := by decide +kernel
theorem dX7_farthest_23 : decode cX7_farthest 23 = .ok (.aload_n 0, 1) := by decide +kernel
theorem dX7_farthest_24 : decode cX7_farthest 24 = .ok (.iconst 1, 1) := by decide +kernel
theorem dX7_farthest_25 : decode cX7_farthest 25 = .ok (.invokevirtual 40, 3) := by decide +kernel
theorem dX7_farthest_28 : decode cX7_farthest 28 = .ok (.ireturn, 1) := by decide +kernel
set_option maxRecDepth 20000 in
theorem ggX7_full_X7_overAll : GoodIn wsX7_full wsX7_overAll := goodIn_r _ [5, 6, 7, 8, 4, 9, 10, 11, 12, 13, 14, 15, 16, 17, 18, 19, 20, 21, 29, 30, 31, 32, 33, 34, 35, 36, 37, 38, 39, 40, 41, 42, 43] (by decide +kernel) (by decide +kernel)
set_option maxRecDepth 20000 in
theorem gX7_full_X7_overAll : GoodIn wsX7_full (wsV RX7 168 RX7 yX7_overAll wsX7_overAll) := goodIn_app (goodIn_of _ (by decide +kernel)) ggX7_full_X7_overAll
set_option maxRecDepth 20000 in
theorem ggX7_full_X7_freeOn : GoodIn wsX7_full wsX7_freeOn := goodIn_r _ [25, 6, 26, 27, 4, 28, 16, 17, 18, 29, 30, 31, 32, 33, 34, 35, 36, 37, 38, 39, 40, 41, 42, 43] (by decide +kernel) (by decide +kernel)
set_option maxRecDepth 20000 in
theorem gX7_full_X7_freeOn : GoodIn wsX7_full (wsV RX7 174 RX7 yX7_freeOn wsX7_freeOn) := goodIn_app (goodIn_of _ (by decide +kernel)) ggX7_full_X7_freeOn
theorem dX7_full_0 : decode cX7_full 0 = .ok (.aload_n 0, 1) := by decide +kernel
theorem dX7_full_1 : decode cX7_full 1 = .ok (.iconst 5, 1) := by decide +kernel
theorem dX7_full_2 : decode cX7_full 2 = .ok (.invokevirtual 168, 3) := by decide +kernel
theorem dX7_full_5 : decode cX7_full 5 = .ok (.istore_n 1, 1) := by decide +kernel
theorem dX7_full_6 : decode cX7_full 6 = .ok (.iconst 0, 1) := by decide +kernel
theorem dX7_full_7 : decode cX7_full 7 = .ok (.istore_n 2, 1) := by decide +kernel
theorem dX7_full_8 : decode cX7_full 8 = .ok (.iconst 0, 1) := by decide +kernel
theorem dX7_full_9 : decode cX7_full 9 = .ok (.istore_n 3, 1) := by decide +kernel
theorem dX7_full_10 : decode cX7_full 10 = .ok (.iload_n 3, 1) := by decide +kernel
theorem dX7_full_11 : decode cX7_full 11 = .ok (.bipush 9, 2) := by decide +kernel
theorem dX7_full_13 : decode cX7_full 13 = .ok (.if_icmp .ge 18, 3) := by decide +kernel
theorem dX7_full_16 : decode cX7_full 16 = .ok (.iload_n 2, 1) := by decide +kernel
theorem dX7_full_17 : decode cX7_full 17 = .ok (.aload_n 0, 1) := by decide +kernel
theorem dX7_full_18 : decode cX7_full 18 = .ok (.iload_n 3, 1) := by decide +kernel
theorem dX7_full_19 : decode cX7_full 19 = .ok (.iconst 0, 1) := by decide +kernel
theorem dX7_full_20 : decode cX7_full 20 = .ok (.invokevirtual 174, 3) := by decide +kernel
theorem dX7_full_23 : decode cX7_full 23 = .ok (.iadd, 1) := by decide +kernel
theorem dX7_full_24 : decode cX7_full 24 = .ok (.istore_n 2, 1) := by decide +kernel
theorem dX7_full_25 : decode cX7_full 25 = .ok (.iinc 3 1, 3) := by decide +kernel
theorem dX7_full_28 : decode cX7_full 28 = .ok (.goto (-18), 3) := by decide +kernel
theorem dX7_full_31 : decode cX7_full 31 = .ok (.iload_n 1, 1) := by decide +kernel
theorem dX7_full_32 : decode cX7_full 32 = .ok (.i2d, 1) := by decide +kernel
theorem dX7_full_33 : decode cX7_full 33 = .ok (.iload_n 1, 1) := by decide +kernel
theorem dX7_full_34 : decode cX7_full 34 = .ok (.iload_n 2, 1) := by decide +kernel
theorem dX7_full_35 : decode cX7_full 35 = .ok (.iadd, 1) := by decide +kernel
theorem dX7_full_36 : decode cX7_full 36 = .ok (.i2d, 1) := by decide +kernel
theorem dX7_full_37 : decode cX7_full 37 = .ok (.ddiv, 1) := by decide +kernel
theorem dX7_full_38 : decode cX7_full 38 = .ok (.dreturn, 1) := by decide +kernel
set_option maxRecDepth 20000 in
theorem ggX7_fullness_X7_full : GoodIn wsX7_fullness wsX7_full := goodIn_r _ [6, 7, 8, 9, 5, 10, 11, 12, 13, 14, 15, 16, 17, 18, 19, 20, 21, 22, 23, 24, 25, 26, 27, 28, 29, 30, 31, 32, 33, 34, 35, 36, 37, 38, 39, 40, 41, 42, 43, 44, 45, 46, 47, 48] (by decide +kernel) (by decide +kernel)
set_option maxRecDepth 20000 in
theorem gX7_fullness_X7_full : GoodIn wsX7_fullness (wsV RX7 187 RX7 yX7_full wsX7_full) := goodIn_app (goodIn_of _ (by decide +kernel)) ggX7_fullness_X7_full
theorem dX7_fullness_0 : decode cX7_fullness 0 = .ok (.aload_n 0, 1) := by decide +kernel
theorem dX7_fullness_1 : decode cX7_fullness 1 = .ok (.iconst 0, 1) := by decide +kernel
theorem dX7_fullness_2 : decode cX7_fullness 2 = .ok (.putfield 25, 3) := by decide +kernel
theorem dX7_fullness_5 : decode cX7_fullness 5 = .ok (.aload_n 0, 1) := by decide +kernel
theorem dX7_fullness_6 : decode cX7_fullness 6 = .ok (.invokevirtual 187, 3) := by decide +kernel
theorem dX7_fullness_9 : decode cX7_fullness 9 = .ok (.dreturn, 1) := by decide +kernel
set_option maxRecDepth 20000 in
theorem ggX7_digest_X7_counted : GoodIn wsX7_digest wsX7_counted := goodIn_r _ [11, 4, 12, 13, 14, 15, 10, 16, 17, 18, 19, 20, 21, 22, 23, 24, 25, 26, 27, 28, 29, 30, 31, 99, 100, 101, 102, 103, 104, 105, 106, 107, 108, 109, 110, 111, 112, 113] (by decide +kernel) (by decide +kernel)
set_option maxRecDepth 20000 in
theorem gX7_digest_X7_counted : GoodIn wsX7_digest (wsV RX7 171 RX7 yX7_counted wsX7_counted) := goodIn_app (goodIn_of _ (by decide +kernel)) ggX7_digest_X7_counted
set_option maxRecDepth 20000 in
theorem ggX7_digest_X7_ofPassenger : GoodIn wsX7_digest wsX7_ofPassenger := goodIn_r _ [35, 4, 17, 18, 10, 19, 20, 21, 22, 23, 24, 25, 26, 27, 28, 29, 30, 31, 99, 100, 101, 102, 103, 104, 105, 106, 107, 108, 109, 110, 111, 112, 113] (by decide +kernel) (by decide +kernel)
set_option maxRecDepth 20000 in
theorem gX7_digest_X7_ofPassenger : GoodIn wsX7_digest (wsV RX7 165 RX7 yX7_ofPassenger wsX7_ofPassenger) := goodIn_app (goodIn_of _ (by decide +kernel)) ggX7_digest_X7_ofPassenger
set_option maxRecDepth 20000 in
theorem ggX7_digest_X7_freeOn : GoodIn wsX7_digest wsX7_freeOn := goodIn_r _ [39, 4, 40, 41, 10, 42, 26, 27, 28, 99, 100, 101, 102, 103, 104, 105, 106, 107, 108, 109, 110, 111, 112, 113] (by decide +kernel) (by decide +kernel)
set_option maxRecDepth 20000 in
theorem gX7_digest_X7_freeOn : GoodIn wsX7_digest (wsV RX7 174 RX7 yX7_freeOn wsX7_freeOn) := goodIn_app (goodIn_of _ (by decide +kernel)) ggX7_digest_X7_freeOn
set_option maxRecDepth 20000 in
theorem ggX7_digest_X7_longest : GoodIn wsX7_digest wsX7_longest := goodIn_r _ [46, 4, 47, 48, 49, 10, 50, 51, 52, 53, 54, 55, 56, 57, 40, 41, 42, 26, 27, 28, 23, 24, 25, 99, 100, 101, 102, 103, 104, 105, 106, 107, 108, 109, 110, 111, 112, 113] (by decide +kernel) (by decide +kernel)
set_option maxRecDepth 20000 in
theorem gX7_digest_X7_longest : GoodIn wsX7_digest (wsV RX7 184 RX7 yX7_longest wsX7_longest) := goodIn_app (goodIn_of _ (by decide +kernel)) ggX7_digest_X7_longest
set_option maxRecDepth 20000 in
theorem ggX7_digest_X7_reason : GoodIn wsX7_digest wsX7_reason := goodIn_r _ [61, 4, 36, 37, 38, 10, 39, 40, 41, 42, 26, 27, 28, 47, 48, 49, 50, 51, 52, 53, 54, 55, 56, 57, 23, 24, 25, 99, 100, 101, 102, 103, 104, 105, 106, 107, 108, 109, 110, 111, 112, 113] (by decide +kernel) (by decide +kernel)
set_option maxRecDepth 20000 in
theorem gX7_digest_X7_reason : GoodIn wsX7_digest (wsV RX7 181 RX7 yX7_reason wsX7_reason) := goodIn_app (goodIn_of _ (by decide +kernel)) ggX7_digest_X7_reason
set_option maxRecDepth 20000 in
theorem ggX7_digest_X7_byBooking : GoodIn wsX7_digest wsX7_byBooking := goodIn_r _ [65, 4, 52, 51, 53, 66, 67, 68, 10, 69, 47, 48, 49, 50, 54, 55, 56, 57, 40, 41, 42, 26, 27, 28, 23, 24, 25, 70, 71, 72, 73, 74, 75, 76, 77, 78, 79, 80, 81, 82, 99, 100, 101, 102, 103, 104, 105, 106, 107, 108, 109, 110, 111, 112, 113] (by decide +kernel) (by decide +kernel)
set_option maxRecDepth 20000 in
theorem gX7_digest_X7_byBooking : GoodIn wsX7_digest (wsV RX7 177 RX7 yX7_byBooking wsX7_byBooking) := goodIn_app (goodIn_of _ (by decide +kernel)) ggX7_digest_X7_byBooking
set_option maxRecDepth 20000 in
theorem ggX7_digest_X7_full : GoodIn wsX7_digest wsX7_full := goodIn_r _ [86, 13, 14, 15, 10, 16, 4, 17, 18, 19, 20, 21, 22, 23, 24, 25, 26, 27, 28, 29, 30, 31, 36, 37, 38, 39, 40, 41, 42, 99, 100, 101, 102, 103, 104, 105, 106, 107, 108, 109, 110, 111, 112, 113] (by decide +kernel) (by decide +kernel)
set_option maxRecDepth 20000 in
theorem gX7_digest_X7_full : GoodIn wsX7_digest (wsV RX7 187 RX7 yX7_full wsX7_full) := goodIn_app (goodIn_of _ (by decide +kernel)) ggX7_digest_X7_full
set_option maxRecDepth 20000 in
theorem ggX7_digest_Jxe99ae_doubleToLongBits_ccdee : GoodIn wsX7_digest wsJxe99ae_doubleToLongBits_ccdee := goodIn_r _ [90, 91, 92, 93, 94, 95, 96, 97, 89, 98] (by decide +kernel) (by decide +kernel)
set_option maxRecDepth 20000 in
theorem gX7_digest_Jxe99ae_doubleToLongBits_ccdee : GoodIn wsX7_digest (va_wsS RX7 195 yJxe99ae_doubleToLongBits_ccdee wsJxe99ae_doubleToLongBits_ccdee) := goodIn_app (goodIn_of _ (by decide +kernel)) ggX7_digest_Jxe99ae_doubleToLongBits_ccdee
theorem dX7_digest_0 : decode cX7_digest 0 = .ok (.aload_n 0, 1) := by decide +kernel
theorem dX7_digest_1 : decode cX7_digest 1 = .ok (.iconst 0, 1) := by decide +kernel
theorem dX7_digest_2 : decode cX7_digest 2 = .ok (.putfield 25, 3) := by decide +kernel
theorem dX7_digest_5 : decode cX7_digest 5 = .ok (.ldc2_w 191, 3) := by decide +kernel
theorem dX7_digest_8 : decode cX7_digest 8 = .ok (.lstore_n 1, 1) := by decide +kernel
theorem dX7_digest_9 : decode cX7_digest 9 = .ok (.iconst 0, 1) := by decide +kernel
theorem dX7_digest_10 : decode cX7_digest 10 = .ok (.istore_n 3, 1) := by decide +kernel
theorem dX7_digest_11 : decode cX7_digest 11 = .ok (.iload_n 3, 1) := by decide +kernel
theorem dX7_digest_12 : decode cX7_digest 12 = .ok (.bipush 9, 2) := by decide +kernel
theorem dX7_digest_14 : decode cX7_digest 14 = .ok (.if_icmp .ge 22, 3) := by decide +kernel
theorem dX7_digest_17 : decode cX7_digest 17 = .ok (.ldc2_w 193, 3) := by decide +kernel
theorem dX7_digest_20 : decode cX7_digest 20 = .ok (.lload_n 1, 1) := by decide +kernel
theorem dX7_digest_21 : decode cX7_digest 21 = .ok (.lmul, 1) := by decide +kernel
theorem dX7_digest_22 : decode cX7_digest 22 = .ok (.aload_n 0, 1) := by decide +kernel
theorem dX7_digest_23 : decode cX7_digest 23 = .ok (.iload_n 3, 1) := by decide +kernel
theorem dX7_digest_24 : decode cX7_digest 24 = .ok (.invokevirtual 171, 3) := by decide +kernel
theorem dX7_digest_27 : decode cX7_digest 27 = .ok (.i2l, 1) := by decide +kernel
theorem dX7_digest_28 : decode cX7_digest 28 = .ok (.ladd, 1) := by decide +kernel
theorem dX7_digest_29 : decode cX7_digest 29 = .ok (.lstore_n 1, 1) := by decide +kernel
theorem dX7_digest_30 : decode cX7_digest 30 = .ok (.iinc 3 1, 3) := by decide +kernel
theorem dX7_digest_33 : decode cX7_digest 33 = .ok (.goto (-22), 3) := by decide +kernel
theorem dX7_digest_36 : decode cX7_digest 36 = .ok (.iconst 0, 1) := by decide +kernel
theorem dX7_digest_37 : decode cX7_digest 37 = .ok (.istore_n 3, 1) := by decide +kernel
theorem dX7_digest_38 : decode cX7_digest 38 = .ok (.iload_n 3, 1) := by decide +kernel
theorem dX7_digest_39 : decode cX7_digest 39 = .ok (.bipush 6, 2) := by decide +kernel
theorem dX7_digest_41 : decode cX7_digest 41 = .ok (.if_icmp .ge 23, 3) := by decide +kernel
theorem dX7_digest_44 : decode cX7_digest 44 = .ok (.ldc2_w 193, 3) := by decide +kernel
theorem dX7_digest_47 : decode cX7_digest 47 = .ok (.lload_n 1, 1) := by decide +kernel
theorem dX7_digest_48 : decode cX7_digest 48 = .ok (.lmul, 1) := by decide +kernel
theorem dX7_digest_49 : decode cX7_digest 49 = .ok (.aload_n 0, 1) := by decide +kernel
theorem dX7_digest_50 : decode cX7_digest 50 = .ok (.getfield 7, 3) := by decide +kernel
theorem dX7_digest_53 : decode cX7_digest 53 = .ok (.iload_n 3, 1) := by decide +kernel
theorem dX7_digest_54 : decode cX7_digest 54 = .ok (.iaload, 1) := by decide +kernel
theorem dX7_digest_55 : decode cX7_digest 55 = .ok (.i2l, 1) := by decide +kernel
theorem dX7_digest_56 : decode cX7_digest 56 = .ok (.ladd, 1) := by decide +kernel
theorem dX7_digest_57 : decode cX7_digest 57 = .ok (.lstore_n 1, 1) := by decide +kernel
theorem dX7_digest_58 : decode cX7_digest 58 = .ok (.iinc 3 1, 3) := by decide +kernel
theorem dX7_digest_61 : decode cX7_digest 61 = .ok (.goto (-23), 3) := by decide +kernel
theorem dX7_digest_64 : decode cX7_digest 64 = .ok (.iconst 0, 1) := by decide +kernel
theorem dX7_digest_65 : decode cX7_digest 65 = .ok (.istore_n 3, 1) := by decide +kernel
theorem dX7_digest_66 : decode cX7_digest 66 = .ok (.iload_n 3, 1) := by decide +kernel
theorem dX7_digest_67 : decode cX7_digest 67 = .ok (.sipush 162, 3) := by decide +kernel
theorem dX7_digest_70 : decode cX7_digest 70 = .ok (.if_icmp .ge 27, 3) := by decide +kernel
theorem dX7_digest_73 : decode cX7_digest 73 = .ok (.ldc2_w 193, 3) := by decide +kernel
theorem dX7_digest_76 : decode cX7_digest 76 = .ok (.lload_n 1, 1) := by decide +kernel
theorem dX7_digest_77 : decode cX7_digest 77 = .ok (.lmul, 1) := by decide +kernel
theorem dX7_digest_78 : decode cX7_digest 78 = .ok (.aload_n 0, 1) := by decide +kernel
theorem dX7_digest_79 : decode cX7_digest 79 = .ok (.getfield 7, 3) := by decide +kernel
theorem dX7_digest_82 : decode cX7_digest 82 = .ok (.sipush 290, 3) := by decide +kernel
theorem dX7_digest_85 : decode cX7_digest 85 = .ok (.iload_n 3, 1) := by decide +kernel
theorem dX7_digest_86 : decode cX7_digest 86 = .ok (.iadd, 1) := by decide +kernel
theorem dX7_digest_87 : decode cX7_digest 87 = .ok (.iaload, 1) := by decide +kernel
theorem dX7_digest_88 : decode cX7_digest 88 = .ok (.i2l, 1) := by decide +kernel
theorem dX7_digest_89 : decode cX7_digest 89 = .ok (.ladd, 1) := by decide +kernel
theorem dX7_digest_90 : decode cX7_digest 90 = .ok (.lstore_n 1, 1) := by decide +kernel
theorem dX7_digest_91 : decode cX7_digest 91 = .ok (.iinc 3 1, 3) := by decide +kernel
theorem dX7_digest_94 : decode cX7_digest 94 = .ok (.goto (-28), 3) := by decide +kernel
theorem dX7_digest_97 : decode cX7_digest 97 = .ok (.iconst 0, 1) := by decide +kernel
theorem dX7_digest_98 : decode cX7_digest 98 = .ok (.istore_n 3, 1) := by decide +kernel
theorem dX7_digest_99 : decode cX7_digest 99 = .ok (.iload_n 3, 1) := by decide +kernel
theorem dX7_digest_100 : decode cX7_digest 100 = .ok (.aload_n 0, 1) := by decide +kernel
theorem dX7_digest_101 : decode cX7_digest 101 = .ok (.getfield 7, 3) := by decide +kernel
theorem dX7_digest_104 : decode cX7_digest 104 = .ok (.bipush 6, 2) := by decide +kernel
theorem dX7_digest_106 : decode cX7_digest 106 = .ok (.iaload, 1) := by decide +kernel
theorem dX7_digest_107 : decode cX7_digest 107 = .ok (.if_icmp .ge 40, 3) := by decide +kernel
theorem dX7_digest_110 : decode cX7_digest 110 = .ok (.iconst 0, 1) := by decide +kernel
theorem dX7_digest_111 : decode cX7_digest 111 = .ok (.istore 4, 2) := by decide +kernel
theorem dX7_digest_113 : decode cX7_digest 113 = .ok (.iload 4, 2) := by decide +kernel
theorem dX7_digest_115 : decode cX7_digest 115 = .ok (.bipush 9, 2) := by decide +kernel
theorem dX7_digest_117 : decode cX7_digest 117 = .ok (.if_icmp .ge 24, 3) := by decide +kernel
theorem dX7_digest_120 : decode cX7_digest 120 = .ok (.ldc2_w 193, 3) := by decide +kernel
theorem dX7_digest_123 : decode cX7_digest 123 = .ok (.lload_n 1, 1) := by decide +kernel
theorem dX7_digest_124 : decode cX7_digest 124 = .ok (.lmul, 1) := by decide +kernel
theorem dX7_digest_125 : decode cX7_digest 125 = .ok (.aload_n 0, 1) := by decide +kernel
theorem dX7_digest_126 : decode cX7_digest 126 = .ok (.iload_n 3, 1) := by decide +kernel
theorem dX7_digest_127 : decode cX7_digest 127 = .ok (.iload 4, 2) := by decide +kernel
theorem dX7_digest_129 : decode cX7_digest 129 = .ok (.invokevirtual 165, 3) := by decide +kernel
theorem dX7_digest_132 : decode cX7_digest 132 = .ok (.i2l, 1) := by decide +kernel
theorem dX7_digest_133 : decode cX7_digest 133 = .ok (.ladd, 1) := by decide +kernel
theorem dX7_digest_134 : decode cX7_digest 134 = .ok (.lstore_n 1, 1) := by decide +kernel
theorem dX7_digest_135 : decode cX7_digest 135 = .ok (.iinc 4 1, 3) := by decide +kernel
theorem dX7_digest_138 : decode cX7_digest 138 = .ok (.goto (-25), 3) := by decide +kernel
theorem dX7_digest_141 : decode cX7_digest 141 = .ok (.iinc 3 1, 3) := by decide +kernel
theorem dX7_digest_144 : decode cX7_digest 144 = .ok (.goto (-45), 3) := by decide +kernel
theorem dX7_digest_147 : decode cX7_digest 147 = .ok (.iconst 0, 1) := by decide +kernel
theorem dX7_digest_148 : decode cX7_digest 148 = .ok (.istore_n 3, 1) := by decide +kernel
theorem dX7_digest_149 : decode cX7_digest 149 = .ok (.iload_n 3, 1) := by decide +kernel
theorem dX7_digest_150 : decode cX7_digest 150 = .ok (.bipush 9, 2) := by decide +kernel
theorem dX7_digest_152 : decode cX7_digest 152 = .ok (.if_icmp .ge 35, 3) := by decide +kernel
theorem dX7_digest_155 : decode cX7_digest 155 = .ok (.ldc2_w 193, 3) := by decide +kernel
theorem dX7_digest_158 : decode cX7_digest 158 = .ok (.ldc2_w 193, 3) := by decide +kernel
theorem dX7_digest_161 : decode cX7_digest 161 = .ok (.lload_n 1, 1) := by decide +kernel
theorem dX7_digest_162 : decode cX7_digest 162 = .ok (.lmul, 1) := by decide +kernel
theorem dX7_digest_163 : decode cX7_digest 163 = .ok (.aload_n 0, 1) := by decide +kernel
theorem dX7_digest_164 : decode cX7_digest 164 = .ok (.iload_n 3, 1) := by decide +kernel
theorem dX7_digest_165 : decode cX7_digest 165 = .ok (.iconst 0, 1) := by decide +kernel
theorem dX7_digest_166 : decode cX7_digest 166 = .ok (.invokevirtual 174, 3) := by decide +kernel
theorem dX7_digest_169 : decode cX7_digest 169 = .ok (.i2l, 1) := by decide +kernel
theorem dX7_digest_170 : decode cX7_digest 170 = .ok (.ladd, 1) := by decide +kernel
theorem dX7_digest_171 : decode cX7_digest 171 = .ok (.lmul, 1) := by decide +kernel
theorem dX7_digest_172 : decode cX7_digest 172 = .ok (.aload_n 0, 1) := by decide +kernel
theorem dX7_digest_173 : decode cX7_digest 173 = .ok (.iload_n 3, 1) := by decide +kernel
theorem dX7_digest_174 : decode cX7_digest 174 = .ok (.iconst 1, 1) := by decide +kernel
theorem dX7_digest_175 : decode cX7_digest 175 = .ok (.invokevirtual 174, 3) := by decide +kernel
theorem dX7_digest_178 : decode cX7_digest 178 = .ok (.i2l, 1) := by decide +kernel
theorem dX7_digest_179 : decode cX7_digest 179 = .ok (.ladd, 1) := by decide +kernel
theorem dX7_digest_180 : decode cX7_digest 180 = .ok (.lstore_n 1, 1) := by decide +kernel
theorem dX7_digest_181 : decode cX7_digest 181 = .ok (.iinc 3 1, 3) := by decide +kernel
theorem dX7_digest_184 : decode cX7_digest 184 = .ok (.goto (-35), 3) := by decide +kernel
theorem dX7_digest_187 : decode cX7_digest 187 = .ok (.iconst 0, 1) := by decide +kernel
theorem dX7_digest_188 : decode cX7_digest 188 = .ok (.istore_n 3, 1) := by decide +kernel
theorem dX7_digest_189 : decode cX7_digest 189 = .ok (.iload_n 3, 1) := by decide +kernel
theorem dX7_digest_190 : decode cX7_digest 190 = .ok (.bipush 9, 2) := by decide +kernel
theorem dX7_digest_192 : decode cX7_digest 192 = .ok (.if_icmp .ge 35, 3) := by decide +kernel
theorem dX7_digest_195 : decode cX7_digest 195 = .ok (.ldc2_w 193, 3) := by decide +kernel
theorem dX7_digest_198 : decode cX7_digest 198 = .ok (.ldc2_w 193, 3) := by decide +kernel
theorem dX7_digest_201 : decode cX7_digest 201 = .ok (.lload_n 1, 1) := by decide +kernel
theorem dX7_digest_202 : decode cX7_digest 202 = .ok (.lmul, 1) := by decide +kernel
theorem dX7_digest_203 : decode cX7_digest 203 = .ok (.aload_n 0, 1) := by decide +kernel
theorem dX7_digest_204 : decode cX7_digest 204 = .ok (.iload_n 3, 1) := by decide +kernel
theorem dX7_digest_205 : decode cX7_digest 205 = .ok (.invokevirtual 184, 3) := by decide +kernel
theorem dX7_digest_208 : decode cX7_digest 208 = .ok (.i2l, 1) := by decide +kernel
theorem dX7_digest_209 : decode cX7_digest 209 = .ok (.ladd, 1) := by decide +kernel
theorem dX7_digest_210 : decode cX7_digest 210 = .ok (.lmul, 1) := by decide +kernel
theorem dX7_digest_211 : decode cX7_digest 211 = .ok (.aload_n 0, 1) := by decide +kernel
theorem dX7_digest_212 : decode cX7_digest 212 = .ok (.iload_n 3, 1) := by decide +kernel
theorem dX7_digest_213 : decode cX7_digest 213 = .ok (.bipush 9, 2) := by decide +kernel
theorem dX7_digest_215 : decode cX7_digest 215 = .ok (.invokevirtual 181, 3) := by decide +kernel
theorem dX7_digest_218 : decode cX7_digest 218 = .ok (.i2l, 1) := by decide +kernel
theorem dX7_digest_219 : decode cX7_digest 219 = .ok (.ladd, 1) := by decide +kernel
theorem dX7_digest_220 : decode cX7_digest 220 = .ok (.lstore_n 1, 1) := by decide +kernel
theorem dX7_digest_221 : decode cX7_digest 221 = .ok (.iinc 3 1, 3) := by decide +kernel
theorem dX7_digest_224 : decode cX7_digest 224 = .ok (.goto (-35), 3) := by decide +kernel
theorem dX7_digest_227 : decode cX7_digest 227 = .ok (.iconst 0, 1) := by decide +kernel
theorem dX7_digest_228 : decode cX7_digest 228 = .ok (.istore_n 3, 1) := by decide +kernel
theorem dX7_digest_229 : decode cX7_digest 229 = .ok (.iload_n 3, 1) := by decide +kernel
theorem dX7_digest_230 : decode cX7_digest 230 = .ok (.iconst 4, 1) := by decide +kernel
theorem dX7_digest_231 : decode cX7_digest 231 = .ok (.if_icmp .ge 26, 3) := by decide +kernel
theorem dX7_digest_234 : decode cX7_digest 234 = .ok (.ldc2_w 193, 3) := by decide +kernel
theorem dX7_digest_237 : decode cX7_digest 237 = .ok (.lload_n 1, 1) := by decide +kernel
theorem dX7_digest_238 : decode cX7_digest 238 = .ok (.lmul, 1) := by decide +kernel
theorem dX7_digest_239 : decode cX7_digest 239 = .ok (.aload_n 0, 1) := by decide +kernel
theorem dX7_digest_240 : decode cX7_digest 240 = .ok (.iconst 1, 1) := by decide +kernel
theorem dX7_digest_241 : decode cX7_digest 241 = .ok (.bipush 8, 2) := by decide +kernel
theorem dX7_digest_243 : decode cX7_digest 243 = .ok (.iconst 0, 1) := by decide +kernel
theorem dX7_digest_244 : decode cX7_digest 244 = .ok (.iload_n 3, 1) := by decide +kernel
theorem dX7_digest_245 : decode cX7_digest 245 = .ok (.invokevirtual 177, 3) := by decide +kernel
theorem dX7_digest_248 : decode cX7_digest 248 = .ok (.i2l, 1) := by decide +kernel
theorem dX7_digest_249 : decode cX7_digest 249 = .ok (.ladd, 1) := by decide +kernel
theorem dX7_digest_250 : decode cX7_digest 250 = .ok (.lstore_n 1, 1) := by decide +kernel
theorem dX7_digest_251 : decode cX7_digest 251 = .ok (.iinc 3 1, 3) := by decide +kernel
theorem dX7_digest_254 : decode cX7_digest 254 = .ok (.goto (-25), 3) := by decide +kernel
theorem dX7_digest_257 : decode cX7_digest 257 = .ok (.ldc2_w 193, 3) := by decide +kernel
theorem dX7_digest_260 : decode cX7_digest 260 = .ok (.ldc2_w 193, 3) := by decide +kernel
theorem dX7_digest_263 : decode cX7_digest 263 = .ok (.lload_n 1, 1) := by decide +kernel
theorem dX7_digest_264 : decode cX7_digest 264 = .ok (.lmul, 1) := by decide +kernel
theorem dX7_digest_265 : decode cX7_digest 265 = .ok (.aload_n 0, 1) := by decide +kernel
theorem dX7_digest_266 : decode cX7_digest 266 = .ok (.invokevirtual 187, 3) := by decide +kernel
theorem dX7_digest_269 : decode cX7_digest 269 = .ok (.invokestatic 195, 3) := by decide +kernel
theorem dX7_digest_272 : decode cX7_digest 272 = .ok (.ladd, 1) := by decide +kernel
theorem dX7_digest_273 : decode cX7_digest 273 = .ok (.lmul, 1) := by decide +kernel
theorem dX7_digest_274 : decode cX7_digest 274 = .ok (.aload_n 0, 1) := by decide +kernel
theorem dX7_digest_275 : decode cX7_digest 275 = .ok (.getfield 139, 3) := by decide +kernel
theorem dX7_digest_278 : decode cX7_digest 278 = .ok (.i2l, 1) := by decide +kernel
theorem dX7_digest_279 : decode cX7_digest 279 = .ok (.ladd, 1) := by decide +kernel
theorem dX7_digest_280 : decode cX7_digest 280 = .ok (.lstore_n 1, 1) := by decide +kernel
theorem dX7_digest_281 : decode cX7_digest 281 = .ok (.iconst 0, 1) := by decide +kernel
theorem dX7_digest_282 : decode cX7_digest 282 = .ok (.istore_n 3, 1) := by decide +kernel
theorem dX7_digest_283 : decode cX7_digest 283 = .ok (.iload_n 3, 1) := by decide +kernel
theorem dX7_digest_284 : decode cX7_digest 284 = .ok (.aload_n 0, 1) := by decide +kernel
theorem dX7_digest_285 : decode cX7_digest 285 = .ok (.getfield 139, 3) := by decide +kernel
theorem dX7_digest_288 : decode cX7_digest 288 = .ok (.if_icmp .ge 23, 3) := by decide +kernel
theorem dX7_digest_291 : decode cX7_digest 291 = .ok (.ldc2_w 193, 3) := by decide +kernel
theorem dX7_digest_294 : decode cX7_digest 294 = .ok (.lload_n 1, 1) := by decide +kernel
theorem dX7_digest_295 : decode cX7_digest 295 = .ok (.lmul, 1) := by decide +kernel
theorem dX7_digest_296 : decode cX7_digest 296 = .ok (.aload_n 0, 1) := by decide +kernel
theorem dX7_digest_297 : decode cX7_digest 297 = .ok (.getfield 19, 3) := by decide +kernel
theorem dX7_digest_300 : decode cX7_digest 300 = .ok (.iload_n 3, 1) := by decide +kernel
theorem dX7_digest_301 : decode cX7_digest 301 = .ok (.iaload, 1) := by decide +kernel
theorem dX7_digest_302 : decode cX7_digest 302 = .ok (.i2l, 1) := by decide +kernel
theorem dX7_digest_303 : decode cX7_digest 303 = .ok (.ladd, 1) := by decide +kernel
theorem dX7_digest_304 : decode cX7_digest 304 = .ok (.lstore_n 1, 1) := by decide +kernel
theorem dX7_digest_305 : decode cX7_digest 305 = .ok (.iinc 3 1, 3) := by decide +kernel
theorem dX7_digest_308 : decode cX7_digest 308 = .ok (.goto (-25), 3) := by decide +kernel
theorem dX7_digest_311 : decode cX7_digest 311 = .ok (.lload_n 1, 1) := by decide +kernel
theorem dX7_digest_312 : decode cX7_digest 312 = .ok (.lreturn, 1) := by decide +kernel
