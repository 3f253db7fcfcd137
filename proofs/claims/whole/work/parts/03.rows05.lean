theorem dX0_init_0 : decode cX0_init 0 = .ok (.aload_n 0, 1) := by decide +kernel
theorem dX0_init_1 : decode cX0_init 1 = .ok (.invokespecial 3, 3) := by decide +kernel
theorem dX0_init_4 : decode cX0_init 4 = .ok (.aload_n 0, 1) := by decide +kernel
theorem dX0_init_5 : decode cX0_init 5 = .ok (.sipush 162, 3) := by decide +kernel
theorem dX0_init_8 : decode cX0_init 8 = .ok (.newarray .int, 2) := by decide +kernel
theorem dX0_init_10 : decode cX0_init 10 = .ok (.putfield 9, 3) := by decide +kernel
theorem dX0_init_13 : decode cX0_init 13 = .ok (.aload_n 0, 1) := by decide +kernel
theorem dX0_init_14 : decode cX0_init 14 = .ok (.iconst 3, 1) := by decide +kernel
theorem dX0_init_15 : decode cX0_init 15 = .ok (.newarray .int, 2) := by decide +kernel
theorem dX0_init_17 : decode cX0_init 17 = .ok (.putfield 15, 3) := by decide +kernel
theorem dX0_init_20 : decode cX0_init 20 = .ok (.iconst 0, 1) := by decide +kernel
theorem dX0_init_21 : decode cX0_init 21 = .ok (.istore_n 1, 1) := by decide +kernel
theorem dX0_init_22 : decode cX0_init 22 = .ok (.iload_n 1, 1) := by decide +kernel
theorem dX0_init_23 : decode cX0_init 23 = .ok (.aload_n 0, 1) := by decide +kernel
theorem dX0_init_24 : decode cX0_init 24 = .ok (.getfield 9, 3) := by decide +kernel
theorem dX0_init_27 : decode cX0_init 27 = .ok (.arraylength, 1) := by decide +kernel
theorem dX0_init_28 : decode cX0_init 28 = .ok (.if_icmp .ge 16, 3) := by decide +kernel
theorem dX0_init_31 : decode cX0_init 31 = .ok (.aload_n 0, 1) := by decide +kernel
theorem dX0_init_32 : decode cX0_init 32 = .ok (.getfield 9, 3) := by decide +kernel
theorem dX0_init_35 : decode cX0_init 35 = .ok (.iload_n 1, 1) := by decide +kernel
theorem dX0_init_36 : decode cX0_init 36 = .ok (.iconst (-1), 1) := by decide +kernel
theorem dX0_init_37 : decode cX0_init 37 = .ok (.iastore, 1) := by decide +kernel
theorem dX0_init_38 : decode cX0_init 38 = .ok (.iinc 1 1, 3) := by decide +kernel
theorem dX0_init_41 : decode cX0_init 41 = .ok (.goto (-19), 3) := by decide +kernel
theorem dX0_init_44 : decode cX0_init 44 = .ok (.iconst 0, 1) := by decide +kernel
theorem dX0_init_45 : decode cX0_init 45 = .ok (.istore_n 1, 1) := by decide +kernel
theorem dX0_init_46 : decode cX0_init 46 = .ok (.iload_n 1, 1) := by decide +kernel
theorem dX0_init_47 : decode cX0_init 47 = .ok (.aload_n 0, 1) := by decide +kernel
theorem dX0_init_48 : decode cX0_init 48 = .ok (.getfield 15, 3) := by decide +kernel
theorem dX0_init_51 : decode cX0_init 51 = .ok (.arraylength, 1) := by decide +kernel
theorem dX0_init_52 : decode cX0_init 52 = .ok (.if_icmp .ge 17, 3) := by decide +kernel
theorem dX0_init_55 : decode cX0_init 55 = .ok (.aload_n 0, 1) := by decide +kernel
theorem dX0_init_56 : decode cX0_init 56 = .ok (.getfield 15, 3) := by decide +kernel
theorem dX0_init_59 : decode cX0_init 59 = .ok (.iload_n 1, 1) := by decide +kernel
theorem dX0_init_60 : decode cX0_init 60 = .ok (.bipush 9, 2) := by decide +kernel
theorem dX0_init_62 : decode cX0_init 62 = .ok (.iastore, 1) := by decide +kernel
theorem dX0_init_63 : decode cX0_init 63 = .ok (.iinc 1 1, 3) := by decide +kernel
theorem dX0_init_66 : decode cX0_init 66 = .ok (.goto (-20), 3) := by decide +kernel
theorem dX0_init_69 : decode cX0_init 69 = .ok (.return_, 1) := by decide +kernel
set_option maxRecDepth 20000 in
theorem ggX0_takeOver_X6_copyAll : GoodIn wsX0_takeOver wsX6_copyAll := goodIn_r _ [5, 6, 7, 4, 8, 9, 10, 11] (by decide +kernel) (by decide +kernel)
set_option maxRecDepth 20000 in
theorem gX0_takeOver_X6_copyAll_n18 : GoodIn wsX0_takeOver (wsX6_copyAll) := ggX0_takeOver_X6_copyAll
theorem dX0_takeOver_0 : decode cX0_takeOver 0 = .ok (.aload_n 1, 1) := by decide +kernel
theorem dX0_takeOver_1 : decode cX0_takeOver 1 = .ok (.getfield 9, 3) := by decide +kernel
theorem dX0_takeOver_4 : decode cX0_takeOver 4 = .ok (.aload_n 0, 1) := by decide +kernel
theorem dX0_takeOver_5 : decode cX0_takeOver 5 = .ok (.getfield 9, 3) := by decide +kernel
theorem dX0_takeOver_8 : decode cX0_takeOver 8 = .ok (.invokestatic 18, 3) := by decide +kernel
theorem dX0_takeOver_11 : decode cX0_takeOver 11 = .ok (.aload_n 1, 1) := by decide +kernel
theorem dX0_takeOver_12 : decode cX0_takeOver 12 = .ok (.getfield 15, 3) := by decide +kernel
theorem dX0_takeOver_15 : decode cX0_takeOver 15 = .ok (.aload_n 0, 1) := by decide +kernel
theorem dX0_takeOver_16 : decode cX0_takeOver 16 = .ok (.getfield 15, 3) := by decide +kernel
theorem dX0_takeOver_19 : decode cX0_takeOver 19 = .ok (.invokestatic 18, 3) := by decide +kernel
theorem dX0_takeOver_22 : decode cX0_takeOver 22 = .ok (.return_, 1) := by decide +kernel
set_option maxRecDepth 20000 in
theorem ggX0_endOf_X6_read : GoodIn wsX0_endOf wsX6_read := goodIn_r _ [4] (by decide +kernel) (by decide +kernel)
set_option maxRecDepth 20000 in
theorem gX0_endOf_X6_read_n22 : GoodIn wsX0_endOf (wsX6_read) := ggX0_endOf_X6_read
theorem dX0_endOf_0 : decode cX0_endOf 0 = .ok (.aload_n 0, 1) := by decide +kernel
theorem dX0_endOf_1 : decode cX0_endOf 1 = .ok (.getfield 15, 3) := by decide +kernel
theorem dX0_endOf_4 : decode cX0_endOf 4 = .ok (.iload_n 1, 1) := by decide +kernel
theorem dX0_endOf_5 : decode cX0_endOf 5 = .ok (.invokestatic 22, 3) := by decide +kernel
theorem dX0_endOf_8 : decode cX0_endOf 8 = .ok (.ireturn, 1) := by decide +kernel
set_option maxRecDepth 20000 in
theorem ggX0_end_X6_write : GoodIn wsX0_end wsX6_write := goodIn_r _ [4] (by decide +kernel) (by decide +kernel)
set_option maxRecDepth 20000 in
theorem gX0_end_X6_write_n26 : GoodIn wsX0_end (wsX6_write) := ggX0_end_X6_write
theorem dX0_end_0 : decode cX0_end 0 = .ok (.aload_n 0, 1) := by decide +kernel
theorem dX0_end_1 : decode cX0_end 1 = .ok (.getfield 15, 3) := by decide +kernel
theorem dX0_end_4 : decode cX0_end 4 = .ok (.iload_n 1, 1) := by decide +kernel
theorem dX0_end_5 : decode cX0_end 5 = .ok (.iload_n 2, 1) := by decide +kernel
theorem dX0_end_6 : decode cX0_end 6 = .ok (.invokestatic 26, 3) := by decide +kernel
theorem dX0_end_9 : decode cX0_end 9 = .ok (.return_, 1) := by decide +kernel
set_option maxRecDepth 20000 in
theorem ggX0_holderOn_X6_read : GoodIn wsX0_holderOn wsX6_read := goodIn_r _ [4] (by decide +kernel) (by decide +kernel)
set_option maxRecDepth 20000 in
theorem gX0_holderOn_X6_read_n22 : GoodIn wsX0_holderOn (wsX6_read) := ggX0_holderOn_X6_read
theorem dX0_holderOn_0 : decode cX0_holderOn 0 = .ok (.aload_n 0, 1) := by decide +kernel
theorem dX0_holderOn_1 : decode cX0_holderOn 1 = .ok (.getfield 9, 3) := by decide +kernel
theorem dX0_holderOn_4 : decode cX0_holderOn 4 = .ok (.iload_n 1, 1) := by decide +kernel
theorem dX0_holderOn_5 : decode cX0_holderOn 5 = .ok (.bipush 9, 2) := by decide +kernel
theorem dX0_holderOn_7 : decode cX0_holderOn 7 = .ok (.imul, 1) := by decide +kernel
theorem dX0_holderOn_8 : decode cX0_holderOn 8 = .ok (.iload_n 2, 1) := by decide +kernel
theorem dX0_holderOn_9 : decode cX0_holderOn 9 = .ok (.iadd, 1) := by decide +kernel
theorem dX0_holderOn_10 : decode cX0_holderOn 10 = .ok (.invokestatic 22, 3) := by decide +kernel
theorem dX0_holderOn_13 : decode cX0_holderOn 13 = .ok (.ireturn, 1) := by decide +kernel
set_option maxRecDepth 20000 in
theorem ggX0_give_X6_write : GoodIn wsX0_give wsX6_write := goodIn_r _ [4] (by decide +kernel) (by decide +kernel)
set_option maxRecDepth 20000 in
theorem gX0_give_X6_write_n26 : GoodIn wsX0_give (wsX6_write) := ggX0_give_X6_write
theorem dX0_give_0 : decode cX0_give 0 = .ok (.iload_n 2, 1) := by decide +kernel
theorem dX0_give_1 : decode cX0_give 1 = .ok (.istore 5, 2) := by decide +kernel
theorem dX0_give_3 : decode cX0_give 3 = .ok (.iload 5, 2) := by decide +kernel
theorem dX0_give_5 : decode cX0_give 5 = .ok (.iload_n 3, 1) := by decide +kernel
theorem dX0_give_6 : decode cX0_give 6 = .ok (.if_icmp .ge 25, 3) := by decide +kernel
theorem dX0_give_9 : decode cX0_give 9 = .ok (.aload_n 0, 1) := by decide +kernel
theorem dX0_give_10 : decode cX0_give 10 = .ok (.getfield 9, 3) := by decide +kernel
theorem dX0_give_13 : decode cX0_give 13 = .ok (.iload_n 1, 1) := by decide +kernel
theorem dX0_give_14 : decode cX0_give 14 = .ok (.bipush 9, 2) := by decide +kernel
theorem dX0_give_16 : decode cX0_give 16 = .ok (.imul, 1) := by decide +kernel
theorem dX0_give_17 : decode cX0_give 17 = .ok (.iload 5, 2) := by decide +kernel
theorem dX0_give_19 : decode cX0_give 19 = .ok (.iadd, 1) := by decide +kernel
theorem dX0_give_20 : decode cX0_give 20 = .ok (.iload 4, 2) := by decide +kernel
theorem dX0_give_22 : decode cX0_give 22 = .ok (.invokestatic 26, 3) := by decide +kernel
theorem dX0_give_25 : decode cX0_give 25 = .ok (.iinc 5 1, 3) := by decide +kernel
theorem dX0_give_28 : decode cX0_give 28 = .ok (.goto (-25), 3) := by decide +kernel
theorem dX0_give_31 : decode cX0_give 31 = .ok (.return_, 1) := by decide +kernel
theorem dX0_isOpen_0 : decode cX0_isOpen 0 = .ok (.iload_n 1, 1) := by decide +kernel
theorem dX0_isOpen_1 : decode cX0_isOpen 1 = .ok (.bipush 6, 2) := by decide +kernel
theorem dX0_isOpen_3 : decode cX0_isOpen 3 = .ok (.idiv, 1) := by decide +kernel
theorem dX0_isOpen_4 : decode cX0_isOpen 4 = .ok (.istore_n 3, 1) := by decide +kernel
theorem dX0_isOpen_5 : decode cX0_isOpen 5 = .ok (.iload_n 1, 1) := by decide +kernel
theorem dX0_isOpen_6 : decode cX0_isOpen 6 = .ok (.bipush 9, 2) := by decide +kernel
theorem dX0_isOpen_8 : decode cX0_isOpen 8 = .ok (.imul, 1) := by decide +kernel
theorem dX0_isOpen_9 : decode cX0_isOpen 9 = .ok (.iload_n 2, 1) := by decide +kernel
theorem dX0_isOpen_10 : decode cX0_isOpen 10 = .ok (.iadd, 1) := by decide +kernel
theorem dX0_isOpen_11 : decode cX0_isOpen 11 = .ok (.istore 4, 2) := by decide +kernel
theorem dX0_isOpen_13 : decode cX0_isOpen 13 = .ok (.iload_n 3, 1) := by decide +kernel
theorem dX0_isOpen_14 : decode cX0_isOpen 14 = .ok (.ifCond .lt 52, 3) := by decide +kernel
theorem dX0_isOpen_17 : decode cX0_isOpen 17 = .ok (.iload_n 3, 1) := by decide +kernel
theorem dX0_isOpen_18 : decode cX0_isOpen 18 = .ok (.aload_n 0, 1) := by decide +kernel
theorem dX0_isOpen_19 : decode cX0_isOpen 19 = .ok (.getfield 15, 3) := by decide +kernel
theorem dX0_isOpen_22 : decode cX0_isOpen 22 = .ok (.arraylength, 1) := by decide +kernel
theorem dX0_isOpen_23 : decode cX0_isOpen 23 = .ok (.if_icmp .ge 43, 3) := by decide +kernel
theorem dX0_isOpen_26 : decode cX0_isOpen 26 = .ok (.iload_n 2, 1) := by decide +kernel
theorem dX0_isOpen_27 : decode cX0_isOpen 27 = .ok (.aload_n 0, 1) := by decide +kernel
theorem dX0_isOpen_28 : decode cX0_isOpen 28 = .ok (.getfield 15, 3) := by decide +kernel
theorem dX0_isOpen_31 : decode cX0_isOpen 31 = .ok (.iload_n 3, 1) := by decide +kernel
theorem dX0_isOpen_32 : decode cX0_isOpen 32 = .ok (.iaload, 1) := by decide +kernel
theorem dX0_isOpen_33 : decode cX0_isOpen 33 = .ok (.if_icmp .ge 33, 3) := by decide +kernel
theorem dX0_isOpen_36 : decode cX0_isOpen 36 = .ok (.iload 4, 2) := by decide +kernel
theorem dX0_isOpen_38 : decode cX0_isOpen 38 = .ok (.ifCond .lt 28, 3) := by decide +kernel
theorem dX0_isOpen_41 : decode cX0_isOpen 41 = .ok (.iload 4, 2) := by decide +kernel
theorem dX0_isOpen_43 : decode cX0_isOpen 43 = .ok (.aload_n 0, 1) := by decide +kernel
theorem dX0_isOpen_44 : decode cX0_isOpen 44 = .ok (.getfield 9, 3) := by decide +kernel
theorem dX0_isOpen_47 : decode cX0_isOpen 47 = .ok (.arraylength, 1) := by decide +kernel
theorem dX0_isOpen_48 : decode cX0_isOpen 48 = .ok (.if_icmp .ge 18, 3) := by decide +kernel
theorem dX0_isOpen_51 : decode cX0_isOpen 51 = .ok (.aload_n 0, 1) := by decide +kernel
theorem dX0_isOpen_52 : decode cX0_isOpen 52 = .ok (.getfield 9, 3) := by decide +kernel
theorem dX0_isOpen_55 : decode cX0_isOpen 55 = .ok (.iload 4, 2) := by decide +kernel
theorem dX0_isOpen_57 : decode cX0_isOpen 57 = .ok (.iaload, 1) := by decide +kernel
theorem dX0_isOpen_58 : decode cX0_isOpen 58 = .ok (.iconst (-1), 1) := by decide +kernel
theorem dX0_isOpen_59 : decode cX0_isOpen 59 = .ok (.if_icmp .ne 7, 3) := by decide +kernel
theorem dX0_isOpen_62 : decode cX0_isOpen 62 = .ok (.iconst 1, 1) := by decide +kernel
theorem dX0_isOpen_63 : decode cX0_isOpen 63 = .ok (.goto 4, 3) := by decide +kernel
theorem dX0_isOpen_66 : decode cX0_isOpen 66 = .ok (.iconst 0, 1) := by decide +kernel
theorem dX0_isOpen_67 : decode cX0_isOpen 67 = .ok (.ireturn, 1) := by decide +kernel
set_option maxRecDepth 20000 in
theorem ggX0_openTill_X0_isOpen : GoodIn wsX0_openTill wsX0_isOpen := goodIn_r _ [5, 6, 7, 8, 9] (by decide +kernel) (by decide +kernel)
set_option maxRecDepth 20000 in
theorem gX0_openTill_X0_isOpen : GoodIn wsX0_openTill (wsV RX0 30 RX0 yX0_isOpen wsX0_isOpen) := goodIn_app (goodIn_of _ (by decide +kernel)) ggX0_openTill_X0_isOpen
theorem dX0_openTill_0 : decode cX0_openTill 0 = .ok (.iload_n 2, 1) := by decide +kernel
theorem dX0_openTill_1 : decode cX0_openTill 1 = .ok (.istore_n 3, 1) := by decide +kernel
theorem dX0_openTill_2 : decode cX0_openTill 2 = .ok (.iload_n 3, 1) := by decide +kernel
theorem dX0_openTill_3 : decode cX0_openTill 3 = .ok (.bipush 9, 2) := by decide +kernel
theorem dX0_openTill_5 : decode cX0_openTill 5 = .ok (.if_icmp .ge 18, 3) := by decide +kernel
theorem dX0_openTill_8 : decode cX0_openTill 8 = .ok (.aload_n 0, 1) := by decide +kernel
theorem dX0_openTill_9 : decode cX0_openTill 9 = .ok (.iload_n 1, 1) := by decide +kernel
theorem dX0_openTill_10 : decode cX0_openTill 10 = .ok (.iload_n 3, 1) := by decide +kernel
theorem dX0_openTill_11 : decode cX0_openTill 11 = .ok (.invokevirtual 30, 3) := by decide +kernel
theorem dX0_openTill_14 : decode cX0_openTill 14 = .ok (.ifCond .eq 9, 3) := by decide +kernel
theorem dX0_openTill_17 : decode cX0_openTill 17 = .ok (.iinc 3 1, 3) := by decide +kernel
theorem dX0_openTill_20 : decode cX0_openTill 20 = .ok (.goto (-18), 3) := by decide +kernel
theorem dX0_openTill_23 : decode cX0_openTill 23 = .ok (.iload_n 3, 1) := by decide +kernel
theorem dX0_openTill_24 : decode cX0_openTill 24 = .ok (.ireturn, 1) := by decide +kernel
set_option maxRecDepth 20000 in
theorem ggX0_farthestOpen_X0_openTill : GoodIn wsX0_farthestOpen wsX0_openTill := goodIn_r _ [9, 10, 11, 12, 8, 13, 14, 15, 16, 17] (by decide +kernel) (by decide +kernel)
set_option maxRecDepth 20000 in
theorem gX0_farthestOpen_X0_openTill : GoodIn wsX0_farthestOpen (wsV RX0 34 RX0 yX0_openTill wsX0_openTill) := goodIn_app (goodIn_of _ (by decide +kernel)) ggX0_farthestOpen_X0_openTill
theorem dX0_farthestOpen_0 : decode cX0_farthestOpen 0 = .ok (.iload_n 1, 1) := by decide +kernel
theorem dX0_farthestOpen_1 : decode cX0_farthestOpen 1 = .ok (.istore_n 2, 1) := by decide +kernel
theorem dX0_farthestOpen_2 : decode cX0_farthestOpen 2 = .ok (.iconst 0, 1) := by decide +kernel
theorem dX0_farthestOpen_3 : decode cX0_farthestOpen 3 = .ok (.istore_n 3, 1) := by decide +kernel
theorem dX0_farthestOpen_4 : decode cX0_farthestOpen 4 = .ok (.iload_n 3, 1) := by decide +kernel
theorem dX0_farthestOpen_5 : decode cX0_farthestOpen 5 = .ok (.bipush 18, 2) := by decide +kernel
theorem dX0_farthestOpen_7 : decode cX0_farthestOpen 7 = .ok (.if_icmp .ge 20, 3) := by decide +kernel
theorem dX0_farthestOpen_10 : decode cX0_farthestOpen 10 = .ok (.iload_n 2, 1) := by decide +kernel
theorem dX0_farthestOpen_11 : decode cX0_farthestOpen 11 = .ok (.aload_n 0, 1) := by decide +kernel
theorem dX0_farthestOpen_12 : decode cX0_farthestOpen 12 = .ok (.iload_n 3, 1) := by decide +kernel
theorem dX0_farthestOpen_13 : decode cX0_farthestOpen 13 = .ok (.iload_n 1, 1) := by decide +kernel
theorem dX0_farthestOpen_14 : decode cX0_farthestOpen 14 = .ok (.invokevirtual 34, 3) := by decide +kernel
theorem dX0_farthestOpen_17 : decode cX0_farthestOpen 17 = .ok (.invokestatic 38, 3) := by decide +kernel
theorem dX0_farthestOpen_20 : decode cX0_farthestOpen 20 = .ok (.istore_n 2, 1) := by decide +kernel
theorem dX0_farthestOpen_21 : decode cX0_farthestOpen 21 = .ok (.iinc 3 1, 3) := by decide +kernel
theorem dX0_farthestOpen_24 : decode cX0_farthestOpen 24 = .ok (.goto (-20), 3) := by decide +kernel
theorem dX0_farthestOpen_27 : decode cX0_farthestOpen 27 = .ok (.iload_n 2, 1) := by decide +kernel
theorem dX0_farthestOpen_28 : decode cX0_farthestOpen 28 = .ok (.ireturn, 1) := by decide +kernel
set_option maxRecDepth 20000 in
theorem ggX0_calmest_X0_openTill : GoodIn wsX0_calmest wsX0_openTill := goodIn_r _ [5, 6, 7, 8, 4, 9, 10, 11, 16, 17] (by decide +kernel) (by decide +kernel)
set_option maxRecDepth 20000 in
theorem gX0_calmest_X0_openTill : GoodIn wsX0_calmest (wsV RX0 34 RX0 yX0_openTill wsX0_openTill) := goodIn_app (goodIn_of _ (by decide +kernel)) ggX0_calmest_X0_openTill
set_option maxRecDepth 20000 in
theorem ggX0_calmest_X0_wokenIn : GoodIn wsX0_calmest wsX0_wokenIn := goodIn_r _ [15, 11, 16, 17] (by decide +kernel) (by decide +kernel)
set_option maxRecDepth 20000 in
theorem gX0_calmest_X0_wokenIn : GoodIn wsX0_calmest (wsV RX0 43 RX0 yX0_wokenIn wsX0_wokenIn) := goodIn_app (goodIn_of _ (by decide +kernel)) ggX0_calmest_X0_wokenIn
theorem dX0_calmest_0 : decode cX0_calmest 0 = .ok (.iconst (-1), 1) := by decide +kernel
theorem dX0_calmest_1 : decode cX0_calmest 1 = .ok (.istore_n 3, 1) := by decide +kernel
theorem dX0_calmest_2 : decode cX0_calmest 2 = .ok (.iconst 0, 1) := by decide +kernel
theorem dX0_calmest_3 : decode cX0_calmest 3 = .ok (.istore 4, 2) := by decide +kernel
theorem dX0_calmest_5 : decode cX0_calmest 5 = .ok (.iconst 0, 1) := by decide +kernel
theorem dX0_calmest_6 : decode cX0_calmest 6 = .ok (.istore 5, 2) := by decide +kernel
theorem dX0_calmest_8 : decode cX0_calmest 8 = .ok (.iload 5, 2) := by decide +kernel
theorem dX0_calmest_10 : decode cX0_calmest 10 = .ok (.bipush 18, 2) := by decide +kernel
theorem dX0_calmest_12 : decode cX0_calmest 12 = .ok (.if_icmp .ge 49, 3) := by decide +kernel
theorem dX0_calmest_15 : decode cX0_calmest 15 = .ok (.aload_n 0, 1) := by decide +kernel
theorem dX0_calmest_16 : decode cX0_calmest 16 = .ok (.iload 5, 2) := by decide +kernel
theorem dX0_calmest_18 : decode cX0_calmest 18 = .ok (.iload_n 1, 1) := by decide +kernel
theorem dX0_calmest_19 : decode cX0_calmest 19 = .ok (.invokevirtual 34, 3) := by decide +kernel
theorem dX0_calmest_22 : decode cX0_calmest 22 = .ok (.iload_n 2, 1) := by decide +kernel
theorem dX0_calmest_23 : decode cX0_calmest 23 = .ok (.if_icmp .lt 32, 3) := by decide +kernel
theorem dX0_calmest_26 : decode cX0_calmest 26 = .ok (.aload_n 0, 1) := by decide +kernel
theorem dX0_calmest_27 : decode cX0_calmest 27 = .ok (.iload 5, 2) := by decide +kernel
theorem dX0_calmest_29 : decode cX0_calmest 29 = .ok (.iload_n 1, 1) := by decide +kernel
theorem dX0_calmest_30 : decode cX0_calmest 30 = .ok (.iload_n 2, 1) := by decide +kernel
theorem dX0_calmest_31 : decode cX0_calmest 31 = .ok (.invokevirtual 43, 3) := by decide +kernel
theorem dX0_calmest_34 : decode cX0_calmest 34 = .ok (.istore 6, 2) := by decide +kernel
theorem dX0_calmest_36 : decode cX0_calmest 36 = .ok (.iload_n 3, 1) := by decide +kernel
theorem dX0_calmest_37 : decode cX0_calmest 37 = .ok (.iconst (-1), 1) := by decide +kernel
theorem dX0_calmest_38 : decode cX0_calmest 38 = .ok (.if_icmp .eq 10, 3) := by decide +kernel
theorem dX0_calmest_41 : decode cX0_calmest 41 = .ok (.iload 6, 2) := by decide +kernel
theorem dX0_calmest_43 : decode cX0_calmest 43 = .ok (.iload 4, 2) := by decide +kernel
theorem dX0_calmest_45 : decode cX0_calmest 45 = .ok (.if_icmp .ge 10, 3) := by decide +kernel
theorem dX0_calmest_48 : decode cX0_calmest 48 = .ok (.iload 5, 2) := by decide +kernel
theorem dX0_calmest_50 : decode cX0_calmest 50 = .ok (.istore_n 3, 1) := by decide +kernel
theorem dX0_calmest_51 : decode cX0_calmest 51 = .ok (.iload 6, 2) := by decide +kernel
theorem dX0_calmest_53 : decode cX0_calmest 53 = .ok (.istore 4, 2) := by decide +kernel
theorem dX0_calmest_55 : decode cX0_calmest 55 = .ok (.iinc 5 1, 3) := by decide +kernel
theorem dX0_calmest_58 : decode cX0_calmest 58 = .ok (.goto (-50), 3) := by decide +kernel
theorem dX0_calmest_61 : decode cX0_calmest 61 = .ok (.iload_n 3, 1) := by decide +kernel
theorem dX0_calmest_62 : decode cX0_calmest 62 = .ok (.ireturn, 1) := by decide +kernel
theorem dX0_wokenIn_0 : decode cX0_wokenIn 0 = .ok (.iload_n 1, 1) := by decide +kernel
theorem dX0_wokenIn_1 : decode cX0_wokenIn 1 = .ok (.iconst 2, 1) := by decide +kernel
theorem dX0_wokenIn_2 : decode cX0_wokenIn 2 = .ok (.irem, 1) := by decide +kernel
theorem dX0_wokenIn_3 : decode cX0_wokenIn 3 = .ok (.ifCond .ne 9, 3) := by decide +kernel
theorem dX0_wokenIn_6 : decode cX0_wokenIn 6 = .ok (.iload_n 1, 1) := by decide +kernel
theorem dX0_wokenIn_7 : decode cX0_wokenIn 7 = .ok (.iconst 1, 1) := by decide +kernel
theorem dX0_wokenIn_8 : decode cX0_wokenIn 8 = .ok (.iadd, 1) := by decide +kernel
theorem dX0_wokenIn_9 : decode cX0_wokenIn 9 = .ok (.goto 6, 3) := by decide +kernel
theorem dX0_wokenIn_12 : decode cX0_wokenIn 12 = .ok (.iload_n 1, 1) := by decide +kernel
theorem dX0_wokenIn_13 : decode cX0_wokenIn 13 = .ok (.iconst 1, 1) := by decide +kernel
theorem dX0_wokenIn_14 : decode cX0_wokenIn 14 = .ok (.isub, 1) := by decide +kernel
theorem dX0_wokenIn_15 : decode cX0_wokenIn 15 = .ok (.istore 4, 2) := by decide +kernel
theorem dX0_wokenIn_17 : decode cX0_wokenIn 17 = .ok (.iconst 0, 1) := by decide +kernel
theorem dX0_wokenIn_18 : decode cX0_wokenIn 18 = .ok (.istore 5, 2) := by decide +kernel
theorem dX0_wokenIn_20 : decode cX0_wokenIn 20 = .ok (.iload_n 2, 1) := by decide +kernel
theorem dX0_wokenIn_21 : decode cX0_wokenIn 21 = .ok (.iconst 1, 1) := by decide +kernel
theorem dX0_wokenIn_22 : decode cX0_wokenIn 22 = .ok (.iadd, 1) := by decide +kernel
theorem dX0_wokenIn_23 : decode cX0_wokenIn 23 = .ok (.istore 6, 2) := by decide +kernel
theorem dX0_wokenIn_25 : decode cX0_wokenIn 25 = .ok (.iload 6, 2) := by decide +kernel
theorem dX0_wokenIn_27 : decode cX0_wokenIn 27 = .ok (.iload_n 3, 1) := by decide +kernel
theorem dX0_wokenIn_28 : decode cX0_wokenIn 28 = .ok (.if_icmp .ge 56, 3) := by decide +kernel
theorem dX0_wokenIn_31 : decode cX0_wokenIn 31 = .ok (.iload 4, 2) := by decide +kernel
theorem dX0_wokenIn_33 : decode cX0_wokenIn 33 = .ok (.bipush 9, 2) := by decide +kernel
theorem dX0_wokenIn_35 : decode cX0_wokenIn 35 = .ok (.imul, 1) := by decide +kernel
theorem dX0_wokenIn_36 : decode cX0_wokenIn 36 = .ok (.iload 6, 2) := by decide +kernel
theorem dX0_wokenIn_38 : decode cX0_wokenIn 38 = .ok (.iadd, 1) := by decide +kernel
theorem dX0_wokenIn_39 : decode cX0_wokenIn 39 = .ok (.istore 7, 2) := by decide +kernel
theorem dX0_wokenIn_41 : decode cX0_wokenIn 41 = .ok (.iload 7, 2) := by decide +kernel
theorem dX0_wokenIn_43 : decode cX0_wokenIn 43 = .ok (.ifCond .le 35, 3) := by decide +kernel
theorem dX0_wokenIn_46 : decode cX0_wokenIn 46 = .ok (.iload 7, 2) := by decide +kernel
theorem dX0_wokenIn_48 : decode cX0_wokenIn 48 = .ok (.aload_n 0, 1) := by decide +kernel
theorem dX0_wokenIn_49 : decode cX0_wokenIn 49 = .ok (.getfield 9, 3) := by decide +kernel
theorem dX0_wokenIn_52 : decode cX0_wokenIn 52 = .ok (.arraylength, 1) := by decide +kernel
theorem dX0_wokenIn_53 : decode cX0_wokenIn 53 = .ok (.if_icmp .ge 25, 3) := by decide +kernel
theorem dX0_wokenIn_56 : decode cX0_wokenIn 56 = .ok (.aload_n 0, 1) := by decide +kernel
theorem dX0_wokenIn_57 : decode cX0_wokenIn 57 = .ok (.getfield 9, 3) := by decide +kernel
theorem dX0_wokenIn_60 : decode cX0_wokenIn 60 = .ok (.iload 7, 2) := by decide +kernel
theorem dX0_wokenIn_62 : decode cX0_wokenIn 62 = .ok (.iconst 1, 1) := by decide +kernel
theorem dX0_wokenIn_63 : decode cX0_wokenIn 63 = .ok (.isub, 1) := by decide +kernel
theorem dX0_wokenIn_64 : decode cX0_wokenIn 64 = .ok (.iaload, 1) := by decide +kernel
theorem dX0_wokenIn_65 : decode cX0_wokenIn 65 = .ok (.aload_n 0, 1) := by decide +kernel
theorem dX0_wokenIn_66 : decode cX0_wokenIn 66 = .ok (.getfield 9, 3) := by decide +kernel
theorem dX0_wokenIn_69 : decode cX0_wokenIn 69 = .ok (.iload 7, 2) := by decide +kernel
theorem dX0_wokenIn_71 : decode cX0_wokenIn 71 = .ok (.iaload, 1) := by decide +kernel
theorem dX0_wokenIn_72 : decode cX0_wokenIn 72 = .ok (.if_icmp .eq 6, 3) := by decide +kernel
theorem dX0_wokenIn_75 : decode cX0_wokenIn 75 = .ok (.iinc 5 1, 3) := by decide +kernel
theorem dX0_wokenIn_78 : decode cX0_wokenIn 78 = .ok (.iinc 6 1, 3) := by decide +kernel
theorem dX0_wokenIn_81 : decode cX0_wokenIn 81 = .ok (.goto (-56), 3) := by decide +kernel
theorem dX0_wokenIn_84 : decode cX0_wokenIn 84 = .ok (.iload 5, 2) := by decide +kernel
theorem dX0_wokenIn_86 : decode cX0_wokenIn 86 = .ok (.ireturn, 1) := by decide +kernel
set_option maxRecDepth 20000 in
theorem ggX0_openOn_X0_isOpen : GoodIn wsX0_openOn wsX0_isOpen := goodIn_r _ [5, 6, 7, 8, 9] (by decide +kernel) (by decide +kernel)
set_option maxRecDepth 20000 in
theorem gX0_openOn_X0_isOpen : GoodIn wsX0_openOn (wsV RX0 30 RX0 yX0_isOpen wsX0_isOpen) := goodIn_app (goodIn_of _ (by decide +kernel)) ggX0_openOn_X0_isOpen
theorem dX0_openOn_0 : decode cX0_openOn 0 = .ok (.iconst 0, 1) := by decide +kernel
theorem dX0_openOn_1 : decode cX0_openOn 1 = .ok (.istore_n 2, 1) := by decide +kernel
theorem dX0_openOn_2 : decode cX0_openOn 2 = .ok (.iconst 0, 1) := by decide +kernel
theorem dX0_openOn_3 : decode cX0_openOn 3 = .ok (.istore_n 3, 1) := by decide +kernel
theorem dX0_openOn_4 : decode cX0_openOn 4 = .ok (.iload_n 3, 1) := by decide +kernel
theorem dX0_openOn_5 : decode cX0_openOn 5 = .ok (.bipush 18, 2) := by decide +kernel
theorem dX0_openOn_7 : decode cX0_openOn 7 = .ok (.if_icmp .ge 21, 3) := by decide +kernel
theorem dX0_openOn_10 : decode cX0_openOn 10 = .ok (.aload_n 0, 1) := by decide +kernel
theorem dX0_openOn_11 : decode cX0_openOn 11 = .ok (.iload_n 3, 1) := by decide +kernel
theorem dX0_openOn_12 : decode cX0_openOn 12 = .ok (.iload_n 1, 1) := by decide +kernel
theorem dX0_openOn_13 : decode cX0_openOn 13 = .ok (.invokevirtual 30, 3) := by decide +kernel
theorem dX0_openOn_16 : decode cX0_openOn 16 = .ok (.ifCond .eq 6, 3) := by decide +kernel
theorem dX0_openOn_19 : decode cX0_openOn 19 = .ok (.iinc 2 1, 3) := by decide +kernel
theorem dX0_openOn_22 : decode cX0_openOn 22 = .ok (.iinc 3 1, 3) := by decide +kernel
theorem dX0_openOn_25 : decode cX0_openOn 25 = .ok (.goto (-21), 3) := by decide +kernel
theorem dX0_openOn_28 : decode cX0_openOn 28 = .ok (.iload_n 2, 1) := by decide +kernel
theorem dX0_openOn_29 : decode cX0_openOn 29 = .ok (.ireturn, 1) := by decide +kernel
set_option maxRecDepth 20000 in
theorem ggX0_lowestOpenOn_X0_isOpen : GoodIn wsX0_lowestOpenOn wsX0_isOpen := goodIn_r _ [5, 6, 7, 8, 9] (by decide +kernel) (by decide +kernel)
set_option maxRecDepth 20000 in
theorem gX0_lowestOpenOn_X0_isOpen : GoodIn wsX0_lowestOpenOn (wsV RX0 30 RX0 yX0_isOpen wsX0_isOpen) := goodIn_app (goodIn_of _ (by decide +kernel)) ggX0_lowestOpenOn_X0_isOpen
theorem dX0_lowestOpenOn_0 : decode cX0_lowestOpenOn 0 = .ok (.iconst 0, 1) := by decide +kernel
theorem dX0_lowestOpenOn_1 : decode cX0_lowestOpenOn 1 = .ok (.istore_n 2, 1) := by decide +kernel
theorem dX0_lowestOpenOn_2 : decode cX0_lowestOpenOn 2 = .ok (.iload_n 2, 1) := by decide +kernel
theorem dX0_lowestOpenOn_3 : decode cX0_lowestOpenOn 3 = .ok (.bipush 18, 2) := by decide +kernel
theorem dX0_lowestOpenOn_5 : decode cX0_lowestOpenOn 5 = .ok (.if_icmp .ge 20, 3) := by decide +kernel
theorem dX0_lowestOpenOn_8 : decode cX0_lowestOpenOn 8 = .ok (.aload_n 0, 1) := by decide +kernel
theorem dX0_lowestOpenOn_9 : decode cX0_lowestOpenOn 9 = .ok (.iload_n 2, 1) := by decide +kernel
theorem dX0_lowestOpenOn_10 : decode cX0_lowestOpenOn 10 = .ok (.iload_n 1, 1) := by decide +kernel
theorem dX0_lowestOpenOn_11 : decode cX0_lowestOpenOn 11 = .ok (.invokevirtual 30, 3) := by decide +kernel
theorem dX0_lowestOpenOn_14 : decode cX0_lowestOpenOn 14 = .ok (.ifCond .eq 5, 3) := by decide +kernel
theorem dX0_lowestOpenOn_17 : decode cX0_lowestOpenOn 17 = .ok (.iload_n 2, 1) := by decide +kernel
theorem dX0_lowestOpenOn_18 : decode cX0_lowestOpenOn 18 = .ok (.ireturn, 1) := by decide +kernel
theorem dX0_lowestOpenOn_19 : decode cX0_lowestOpenOn 19 = .ok (.iinc 2 1, 3) := by decide +kernel
theorem dX0_lowestOpenOn_22 : decode cX0_lowestOpenOn 22 = .ok (.goto (-20), 3) := by decide +kernel
theorem dX0_lowestOpenOn_25 : decode cX0_lowestOpenOn 25 = .ok (.iconst (-1), 1) := by decide +kernel
theorem dX0_lowestOpenOn_26 : decode cX0_lowestOpenOn 26 = .ok (.ireturn, 1) := by decide +kernel
set_option maxRecDepth 20000 in
theorem ggX0_allOpen_X0_openOn : GoodIn wsX0_allOpen wsX0_openOn := goodIn_r _ [5, 6, 7, 8, 4, 9, 10, 11, 12, 13] (by decide +kernel) (by decide +kernel)
set_option maxRecDepth 20000 in
theorem gX0_allOpen_X0_openOn : GoodIn wsX0_allOpen (wsV RX0 47 RX0 yX0_openOn wsX0_openOn) := goodIn_app (goodIn_of _ (by decide +kernel)) ggX0_allOpen_X0_openOn
theorem dX0_allOpen_0 : decode cX0_allOpen 0 = .ok (.iconst 0, 1) := by decide +kernel
theorem dX0_allOpen_1 : decode cX0_allOpen 1 = .ok (.istore_n 1, 1) := by decide +kernel
theorem dX0_allOpen_2 : decode cX0_allOpen 2 = .ok (.iconst 0, 1) := by decide +kernel
theorem dX0_allOpen_3 : decode cX0_allOpen 3 = .ok (.istore_n 2, 1) := by decide +kernel
theorem dX0_allOpen_4 : decode cX0_allOpen 4 = .ok (.iload_n 2, 1) := by decide +kernel
theorem dX0_allOpen_5 : decode cX0_allOpen 5 = .ok (.bipush 9, 2) := by decide +kernel
theorem dX0_allOpen_7 : decode cX0_allOpen 7 = .ok (.if_icmp .ge 17, 3) := by decide +kernel
theorem dX0_allOpen_10 : decode cX0_allOpen 10 = .ok (.iload_n 1, 1) := by decide +kernel
theorem dX0_allOpen_11 : decode cX0_allOpen 11 = .ok (.aload_n 0, 1) := by decide +kernel
theorem dX0_allOpen_12 : decode cX0_allOpen 12 = .ok (.iload_n 2, 1) := by decide +kernel
theorem dX0_allOpen_13 : decode cX0_allOpen 13 = .ok (.invokevirtual 47, 3) := by decide +kernel
theorem dX0_allOpen_16 : decode cX0_allOpen 16 = .ok (.iadd, 1) := by decide +kernel
theorem dX0_allOpen_17 : decode cX0_allOpen 17 = .ok (.istore_n 1, 1) := by decide +kernel
theorem dX0_allOpen_18 : decode cX0_allOpen 18 = .ok (.iinc 2 1, 3) := by decide +kernel
theorem dX0_allOpen_21 : decode cX0_allOpen 21 = .ok (.goto (-17), 3) := by decide +kernel
theorem dX0_allOpen_24 : decode cX0_allOpen 24 = .ok (.iload_n 1, 1) := by decide +kernel
theorem dX0_allOpen_25 : decode cX0_allOpen 25 = .ok (.ireturn, 1) := by decide +kernel
theorem dX0_allHad_0 : decode cX0_allHad 0 = .ok (.iconst 0, 1) := by decide +kernel
theorem dX0_allHad_1 : decode cX0_allHad 1 = .ok (.istore_n 1, 1) := by decide +kernel
theorem dX0_allHad_2 : decode cX0_allHad 2 = .ok (.iconst 0, 1) := by decide +kernel
theorem dX0_allHad_3 : decode cX0_allHad 3 = .ok (.istore_n 2, 1) := by decide +kernel
theorem dX0_allHad_4 : decode cX0_allHad 4 = .ok (.iload_n 2, 1) := by decide +kernel
theorem dX0_allHad_5 : decode cX0_allHad 5 = .ok (.aload_n 0, 1) := by decide +kernel
theorem dX0_allHad_6 : decode cX0_allHad 6 = .ok (.getfield 9, 3) := by decide +kernel
theorem dX0_allHad_9 : decode cX0_allHad 9 = .ok (.arraylength, 1) := by decide +kernel
theorem dX0_allHad_10 : decode cX0_allHad 10 = .ok (.if_icmp .ge 22, 3) := by decide +kernel
theorem dX0_allHad_13 : decode cX0_allHad 13 = .ok (.aload_n 0, 1) := by decide +kernel
theorem dX0_allHad_14 : decode cX0_allHad 14 = .ok (.getfield 9, 3) := by decide +kernel
theorem dX0_allHad_17 : decode cX0_allHad 17 = .ok (.iload_n 2, 1) := by decide +kernel
theorem dX0_allHad_18 : decode cX0_allHad 18 = .ok (.iaload, 1) := by decide +kernel
theorem dX0_allHad_19 : decode cX0_allHad 19 = .ok (.iconst (-1), 1) := by decide +kernel
theorem dX0_allHad_20 : decode cX0_allHad 20 = .ok (.if_icmp .eq 6, 3) := by decide +kernel
theorem dX0_allHad_23 : decode cX0_allHad 23 = .ok (.iinc 1 1, 3) := by decide +kernel
theorem dX0_allHad_26 : decode cX0_allHad 26 = .ok (.iinc 2 1, 3) := by decide +kernel
theorem dX0_allHad_29 : decode cX0_allHad 29 = .ok (.goto (-25), 3) := by decide +kernel
theorem dX0_allHad_32 : decode cX0_allHad 32 = .ok (.iload_n 1, 1) := by decide +kernel
theorem dX0_allHad_33 : decode cX0_allHad 33 = .ok (.ireturn, 1) := by decide +kernel
set_option maxRecDepth 20000 in
theorem ggX0_areAllHadOnce_X0_openOn : GoodIn wsX0_areAllHadOnce wsX0_openOn := goodIn_r _ [5, 6, 7, 8, 4, 9, 10, 11, 12, 13] (by decide +kernel) (by decide +kernel)
set_option maxRecDepth 20000 in
theorem gX0_areAllHadOnce_X0_openOn : GoodIn wsX0_areAllHadOnce (wsV RX0 47 RX0 yX0_openOn wsX0_openOn) := goodIn_app (goodIn_of _ (by decide +kernel)) ggX0_areAllHadOnce_X0_openOn
theorem dX0_areAllHadOnce_0 : decode cX0_areAllHadOnce 0 = .ok (.iload_n 1, 1) := by decide +kernel
theorem dX0_areAllHadOnce_1 : decode cX0_areAllHadOnce 1 = .ok (.istore_n 3, 1) := by decide +kernel
theorem dX0_areAllHadOnce_2 : decode cX0_areAllHadOnce 2 = .ok (.iload_n 3, 1) := by decide +kernel
theorem dX0_areAllHadOnce_3 : decode cX0_areAllHadOnce 3 = .ok (.iload_n 2, 1) := by decide +kernel
theorem dX0_areAllHadOnce_4 : decode cX0_areAllHadOnce 4 = .ok (.if_icmp .ge 19, 3) := by decide +kernel
theorem dX0_areAllHadOnce_7 : decode cX0_areAllHadOnce 7 = .ok (.aload_n 0, 1) := by decide +kernel
theorem dX0_areAllHadOnce_8 : decode cX0_areAllHadOnce 8 = .ok (.iload_n 3, 1) := by decide +kernel
theorem dX0_areAllHadOnce_9 : decode cX0_areAllHadOnce 9 = .ok (.invokevirtual 47, 3) := by decide +kernel
theorem dX0_areAllHadOnce_12 : decode cX0_areAllHadOnce 12 = .ok (.ifCond .ne 5, 3) := by decide +kernel
theorem dX0_areAllHadOnce_15 : decode cX0_areAllHadOnce 15 = .ok (.iconst 1, 1) := by decide +kernel
theorem dX0_areAllHadOnce_16 : decode cX0_areAllHadOnce 16 = .ok (.ireturn, 1) := by decide +kernel
theorem dX0_areAllHadOnce_17 : decode cX0_areAllHadOnce 17 = .ok (.iinc 3 1, 3) := by decide +kernel
theorem dX0_areAllHadOnce_20 : decode cX0_areAllHadOnce 20 = .ok (.goto (-18), 3) := by decide +kernel
theorem dX0_areAllHadOnce_23 : decode cX0_areAllHadOnce 23 = .ok (.iconst 0, 1) := by decide +kernel
theorem dX0_areAllHadOnce_24 : decode cX0_areAllHadOnce 24 = .ok (.ireturn, 1) := by decide +kernel
set_option maxRecDepth 20000 in
theorem ggX0_areHadBehind_X0_holderOn : GoodIn wsX0_areHadBehind wsX0_holderOn := goodIn_r _ [5, 6, 7, 8, 9, 10, 11] (by decide +kernel) (by decide +kernel)
set_option maxRecDepth 20000 in
theorem gX0_areHadBehind_X0_holderOn : GoodIn wsX0_areHadBehind (wsV RX0 51 RX0 yX0_holderOn wsX0_holderOn) := goodIn_app (goodIn_of _ (by decide +kernel)) ggX0_areHadBehind_X0_holderOn
theorem dX0_areHadBehind_0 : decode cX0_areHadBehind 0 = .ok (.iload_n 1, 1) := by decide +kernel
theorem dX0_areHadBehind_1 : decode cX0_areHadBehind 1 = .ok (.bipush 6, 2) := by decide +kernel
theorem dX0_areHadBehind_3 : decode cX0_areHadBehind 3 = .ok (.imul, 1) := by decide +kernel
theorem dX0_areHadBehind_4 : decode cX0_areHadBehind 4 = .ok (.istore_n 3, 1) := by decide +kernel
theorem dX0_areHadBehind_5 : decode cX0_areHadBehind 5 = .ok (.iload_n 3, 1) := by decide +kernel
theorem dX0_areHadBehind_6 : decode cX0_areHadBehind 6 = .ok (.istore 4, 2) := by decide +kernel
theorem dX0_areHadBehind_8 : decode cX0_areHadBehind 8 = .ok (.iload 4, 2) := by decide +kernel
theorem dX0_areHadBehind_10 : decode cX0_areHadBehind 10 = .ok (.iload_n 3, 1) := by decide +kernel
theorem dX0_areHadBehind_11 : decode cX0_areHadBehind 11 = .ok (.bipush 6, 2) := by decide +kernel
theorem dX0_areHadBehind_13 : decode cX0_areHadBehind 13 = .ok (.iadd, 1) := by decide +kernel
theorem dX0_areHadBehind_14 : decode cX0_areHadBehind 14 = .ok (.if_icmp .ge 39, 3) := by decide +kernel
theorem dX0_areHadBehind_17 : decode cX0_areHadBehind 17 = .ok (.iload_n 2, 1) := by decide +kernel
theorem dX0_areHadBehind_18 : decode cX0_areHadBehind 18 = .ok (.istore 5, 2) := by decide +kernel
theorem dX0_areHadBehind_20 : decode cX0_areHadBehind 20 = .ok (.iload 5, 2) := by decide +kernel
theorem dX0_areHadBehind_22 : decode cX0_areHadBehind 22 = .ok (.bipush 9, 2) := by decide +kernel
theorem dX0_areHadBehind_24 : decode cX0_areHadBehind 24 = .ok (.if_icmp .ge 23, 3) := by decide +kernel
theorem dX0_areHadBehind_27 : decode cX0_areHadBehind 27 = .ok (.aload_n 0, 1) := by decide +kernel
theorem dX0_areHadBehind_28 : decode cX0_areHadBehind 28 = .ok (.iload 4, 2) := by decide +kernel
theorem dX0_areHadBehind_30 : decode cX0_areHadBehind 30 = .ok (.iload 5, 2) := by decide +kernel
theorem dX0_areHadBehind_32 : decode cX0_areHadBehind 32 = .ok (.invokevirtual 51, 3) := by decide +kernel
theorem dX0_areHadBehind_35 : decode cX0_areHadBehind 35 = .ok (.iconst (-1), 1) := by decide +kernel
theorem dX0_areHadBehind_36 : decode cX0_areHadBehind 36 = .ok (.if_icmp .eq 5, 3) := by decide +kernel
theorem dX0_areHadBehind_39 : decode cX0_areHadBehind 39 = .ok (.iconst 1, 1) := by decide +kernel
theorem dX0_areHadBehind_40 : decode cX0_areHadBehind 40 = .ok (.ireturn, 1) := by decide +kernel
theorem dX0_areHadBehind_41 : decode cX0_areHadBehind 41 = .ok (.iinc 5 1, 3) := by decide +kernel
theorem dX0_areHadBehind_44 : decode cX0_areHadBehind 44 = .ok (.goto (-24), 3) := by decide +kernel
theorem dX0_areHadBehind_47 : decode cX0_areHadBehind 47 = .ok (.iinc 4 1, 3) := by decide +kernel
theorem dX0_areHadBehind_50 : decode cX0_areHadBehind 50 = .ok (.goto (-42), 3) := by decide +kernel
theorem dX0_areHadBehind_53 : decode cX0_areHadBehind 53 = .ok (.iconst 0, 1) := by decide +kernel
theorem dX0_areHadBehind_54 : decode cX0_areHadBehind 54 = .ok (.ireturn, 1) := by decide +kernel
set_option maxRecDepth 20000 in
theorem ggX0_farthestEnd_X0_endOf : GoodIn wsX0_farthestEnd wsX0_endOf := goodIn_r _ [9, 10, 11, 12, 13, 14, 15] (by decide +kernel) (by decide +kernel)
set_option maxRecDepth 20000 in
theorem gX0_farthestEnd_X0_endOf : GoodIn wsX0_farthestEnd (wsV RX0 54 RX0 yX0_endOf wsX0_endOf) := goodIn_app (goodIn_of _ (by decide +kernel)) ggX0_farthestEnd_X0_endOf
theorem dX0_farthestEnd_0 : decode cX0_farthestEnd 0 = .ok (.iconst 0, 1) := by decide +kernel
theorem dX0_farthestEnd_1 : decode cX0_farthestEnd 1 = .ok (.istore_n 1, 1) := by decide +kernel
theorem dX0_farthestEnd_2 : decode cX0_farthestEnd 2 = .ok (.iconst 0, 1) := by decide +kernel
theorem dX0_farthestEnd_3 : decode cX0_farthestEnd 3 = .ok (.istore_n 2, 1) := by decide +kernel
theorem dX0_farthestEnd_4 : decode cX0_farthestEnd 4 = .ok (.iload_n 2, 1) := by decide +kernel
theorem dX0_farthestEnd_5 : decode cX0_farthestEnd 5 = .ok (.iconst 3, 1) := by decide +kernel
theorem dX0_farthestEnd_6 : decode cX0_farthestEnd 6 = .ok (.if_icmp .ge 19, 3) := by decide +kernel
theorem dX0_farthestEnd_9 : decode cX0_farthestEnd 9 = .ok (.iload_n 1, 1) := by decide +kernel
theorem dX0_farthestEnd_10 : decode cX0_farthestEnd 10 = .ok (.aload_n 0, 1) := by decide +kernel
theorem dX0_farthestEnd_11 : decode cX0_farthestEnd 11 = .ok (.iload_n 2, 1) := by decide +kernel
theorem dX0_farthestEnd_12 : decode cX0_farthestEnd 12 = .ok (.invokevirtual 54, 3) := by decide +kernel
theorem dX0_farthestEnd_15 : decode cX0_farthestEnd 15 = .ok (.invokestatic 38, 3) := by decide +kernel
theorem dX0_farthestEnd_18 : decode cX0_farthestEnd 18 = .ok (.istore_n 1, 1) := by decide +kernel
theorem dX0_farthestEnd_19 : decode cX0_farthestEnd 19 = .ok (.iinc 2 1, 3) := by decide +kernel
theorem dX0_farthestEnd_22 : decode cX0_farthestEnd 22 = .ok (.goto (-18), 3) := by decide +kernel
theorem dX0_farthestEnd_25 : decode cX0_farthestEnd 25 = .ok (.iload_n 1, 1) := by decide +kernel
theorem dX0_farthestEnd_26 : decode cX0_farthestEnd 26 = .ok (.ireturn, 1) := by decide +kernel
set_option maxRecDepth 20000 in
theorem ggX1_init_X5_init : GoodIn wsX1_init wsX5_init := goodIn_r _ [9, 10, 2, 3, 11, 12, 13, 14, 15, 16, 17, 18, 19, 20, 21, 22, 23, 24, 25, 26, 27, 28, 29, 30, 40, 41, 34, 35, 36, 37, 38, 39, 42, 43] (by decide +kernel) (by decide +kernel)
set_option maxRecDepth 20000 in
theorem gX1_init_X5_init_n17 : GoodIn wsX1_init (wsX5_init) := ggX1_init_X5_init
theorem dX1_init_0 : decode cX1_init 0 = .ok (.aload_n 0, 1) := by decide +kernel
theorem dX1_init_1 : decode cX1_init 1 = .ok (.invokespecial 3, 3) := by decide +kernel
theorem dX1_init_4 : decode cX1_init 4 = .ok (.aload_n 0, 1) := by decide +kernel
theorem dX1_init_5 : decode cX1_init 5 = .ok (.bipush 6, 2) := by decide +kernel
theorem dX1_init_7 : decode cX1_init 7 = .ok (.anewarray 9, 3) := by decide +kernel
theorem dX1_init_10 : decode cX1_init 10 = .ok (.putfield 11, 3) := by decide +kernel
theorem dX1_init_13 : decode cX1_init 13 = .ok (.iconst 0, 1) := by decide +kernel
theorem dX1_init_14 : decode cX1_init 14 = .ok (.istore_n 1, 1) := by decide +kernel
theorem dX1_init_15 : decode cX1_init 15 = .ok (.iload_n 1, 1) := by decide +kernel
theorem dX1_init_16 : decode cX1_init 16 = .ok (.aload_n 0, 1) := by decide +kernel
theorem dX1_init_17 : decode cX1_init 17 = .ok (.getfield 11, 3) := by decide +kernel
theorem dX1_init_20 : decode cX1_init 20 = .ok (.arraylength, 1) := by decide +kernel
theorem dX1_init_21 : decode cX1_init 21 = .ok (.if_icmp .ge 22, 3) := by decide +kernel
theorem dX1_init_24 : decode cX1_init 24 = .ok (.aload_n 0, 1) := by decide +kernel
theorem dX1_init_25 : decode cX1_init 25 = .ok (.getfield 11, 3) := by decide +kernel
theorem dX1_init_28 : decode cX1_init 28 = .ok (.iload_n 1, 1) := by decide +kernel
theorem dX1_init_29 : decode cX1_init 29 = .ok (.new 9, 3) := by decide +kernel
theorem dX1_init_32 : decode cX1_init 32 = .ok (.dup, 1) := by decide +kernel
theorem dX1_init_33 : decode cX1_init 33 = .ok (.invokespecial 17, 3) := by decide +kernel
theorem dX1_init_36 : decode cX1_init 36 = .ok (.aastore, 1) := by decide +kernel
theorem dX1_init_37 : decode cX1_init 37 = .ok (.iinc 1 1, 3) := by decide +kernel
theorem dX1_init_40 : decode cX1_init 40 = .ok (.goto (-25), 3) := by decide +kernel
theorem dX1_init_43 : decode cX1_init 43 = .ok (.return_, 1) := by decide +kernel
theorem dX1_saved_0 : decode cX1_saved 0 = .ok (.aload_n 0, 1) := by decide +kernel
theorem dX1_saved_1 : decode cX1_saved 1 = .ok (.getfield 18, 3) := by decide +kernel
theorem dX1_saved_4 : decode cX1_saved 4 = .ok (.iload_n 1, 1) := by decide +kernel
theorem dX1_saved_5 : decode cX1_saved 5 = .ok (.iadd, 1) := by decide +kernel
theorem dX1_saved_6 : decode cX1_saved 6 = .ok (.bipush 6, 2) := by decide +kernel
theorem dX1_saved_8 : decode cX1_saved 8 = .ok (.irem, 1) := by decide +kernel
theorem dX1_saved_9 : decode cX1_saved 9 = .ok (.istore_n 2, 1) := by decide +kernel
theorem dX1_saved_10 : decode cX1_saved 10 = .ok (.iload_n 2, 1) := by decide +kernel
theorem dX1_saved_11 : decode cX1_saved 11 = .ok (.ifCond .lt 21, 3) := by decide +kernel
theorem dX1_saved_14 : decode cX1_saved 14 = .ok (.iload_n 2, 1) := by decide +kernel
theorem dX1_saved_15 : decode cX1_saved 15 = .ok (.aload_n 0, 1) := by decide +kernel
theorem dX1_saved_16 : decode cX1_saved 16 = .ok (.getfield 11, 3) := by decide +kernel
theorem dX1_saved_19 : decode cX1_saved 19 = .ok (.arraylength, 1) := by decide +kernel
theorem dX1_saved_20 : decode cX1_saved 20 = .ok (.if_icmp .ge 12, 3) := by decide +kernel
theorem dX1_saved_23 : decode cX1_saved 23 = .ok (.aload_n 0, 1) := by decide +kernel
theorem dX1_saved_24 : decode cX1_saved 24 = .ok (.getfield 11, 3) := by decide +kernel
theorem dX1_saved_27 : decode cX1_saved 27 = .ok (.iload_n 2, 1) := by decide +kernel
theorem dX1_saved_28 : decode cX1_saved 28 = .ok (.aaload, 1) := by decide +kernel
theorem dX1_saved_29 : decode cX1_saved 29 = .ok (.goto 4, 3) := by decide +kernel
theorem dX1_saved_32 : decode cX1_saved 32 = .ok (.aconst_null, 1) := by decide +kernel
theorem dX1_saved_33 : decode cX1_saved 33 = .ok (.areturn, 1) := by decide +kernel
set_option maxRecDepth 20000 in
theorem ggX1_keep_X1_saved : GoodIn wsX1_keep wsX1_saved := goodIn_r _ [7, 2, 8, 43, 44, 45] (by decide +kernel) (by decide +kernel)
set_option maxRecDepth 20000 in
theorem gX1_keep_X1_saved : GoodIn wsX1_keep (wsV RX1 25 RX1 yX1_saved wsX1_saved) := goodIn_app (goodIn_of _ (by decide +kernel)) ggX1_keep_X1_saved
set_option maxRecDepth 20000 in
theorem ggX1_keep_X5_takeOver : GoodIn wsX1_keep wsX5_takeOver := goodIn_r _ [13, 14, 15, 16, 17, 18, 19, 20, 21, 22, 23, 24, 25, 26, 27, 28, 29, 30, 31, 32, 33, 34, 35, 36, 37, 38, 39, 40, 41, 42, 46, 47, 48, 49, 50, 51, 52, 53, 54, 55] (by decide +kernel) (by decide +kernel)
set_option maxRecDepth 20000 in
theorem gX1_keep_X5_takeOver : GoodIn wsX1_keep (wsV RX1 29 RX5 yX5_takeOver wsX5_takeOver) := goodIn_app (goodIn_of _ (by decide +kernel)) ggX1_keep_X5_takeOver
theorem dX1_keep_0 : decode cX1_keep 0 = .ok (.aload_n 0, 1) := by decide +kernel
theorem dX1_keep_1 : decode cX1_keep 1 = .ok (.getfield 22, 3) := by decide +kernel
theorem dX1_keep_4 : decode cX1_keep 4 = .ok (.bipush 6, 2) := by decide +kernel
theorem dX1_keep_6 : decode cX1_keep 6 = .ok (.if_icmp .ne 26, 3) := by decide +kernel
theorem dX1_keep_9 : decode cX1_keep 9 = .ok (.aload_n 0, 1) := by decide +kernel
theorem dX1_keep_10 : decode cX1_keep 10 = .ok (.aload_n 0, 1) := by decide +kernel
theorem dX1_keep_11 : decode cX1_keep 11 = .ok (.getfield 18, 3) := by decide +kernel
theorem dX1_keep_14 : decode cX1_keep 14 = .ok (.iconst 1, 1) := by decide +kernel
theorem dX1_keep_15 : decode cX1_keep 15 = .ok (.iadd, 1) := by decide +kernel
theorem dX1_keep_16 : decode cX1_keep 16 = .ok (.bipush 6, 2) := by decide +kernel
theorem dX1_keep_18 : decode cX1_keep 18 = .ok (.irem, 1) := by decide +kernel
theorem dX1_keep_19 : decode cX1_keep 19 = .ok (.putfield 18, 3) := by decide +kernel
theorem dX1_keep_22 : decode cX1_keep 22 = .ok (.aload_n 0, 1) := by decide +kernel
theorem dX1_keep_23 : decode cX1_keep 23 = .ok (.dup, 1) := by decide +kernel
theorem dX1_keep_24 : decode cX1_keep 24 = .ok (.getfield 22, 3) := by decide +kernel
theorem dX1_keep_27 : decode cX1_keep 27 = .ok (.iconst 1, 1) := by decide +kernel
theorem dX1_keep_28 : decode cX1_keep 28 = .ok (.isub, 1) := by decide +kernel
theorem dX1_keep_29 : decode cX1_keep 29 = .ok (.putfield 22, 3) := by decide +kernel
theorem dX1_keep_32 : decode cX1_keep 32 = .ok (.aload_n 0, 1) := by decide +kernel
theorem dX1_keep_33 : decode cX1_keep 33 = .ok (.aload_n 0, 1) := by decide +kernel
theorem dX1_keep_34 : decode cX1_keep 34 = .ok (.getfield 22, 3) := by decide +kernel
theorem dX1_keep_37 : decode cX1_keep 37 = .ok (.invokevirtual 25, 3) := by decide +kernel
theorem dX1_keep_40 : decode cX1_keep 40 = .ok (.astore_n 2, 1) := by decide +kernel
theorem dX1_keep_41 : decode cX1_keep 41 = .ok (.aload_n 2, 1) := by decide +kernel
theorem dX1_keep_42 : decode cX1_keep 42 = .ok (.ifnull 8, 3) := by decide +kernel
theorem dX1_keep_45 : decode cX1_keep 45 = .ok (.aload_n 2, 1) := by decide +kernel
theorem dX1_keep_46 : decode cX1_keep 46 = .ok (.aload_n 1, 1) := by decide +kernel
theorem dX1_keep_47 : decode cX1_keep 47 = .ok (.invokevirtual 29, 3) := by decide +kernel
theorem dX1_keep_50 : decode cX1_keep 50 = .ok (.aload_n 0, 1) := by decide +kernel
theorem dX1_keep_51 : decode cX1_keep 51 = .ok (.dup, 1) := by decide +kernel
theorem dX1_keep_52 : decode cX1_keep 52 = .ok (.getfield 22, 3) := by decide +kernel
theorem dX1_keep_55 : decode cX1_keep 55 = .ok (.iconst 1, 1) := by decide +kernel
theorem dX1_keep_56 : decode cX1_keep 56 = .ok (.iadd, 1) := by decide +kernel
theorem dX1_keep_57 : decode cX1_keep 57 = .ok (.putfield 22, 3) := by decide +kernel
theorem dX1_keep_60 : decode cX1_keep 60 = .ok (.return_, 1) := by decide +kernel
set_option maxRecDepth 20000 in
theorem ggX1_restore_X1_saved : GoodIn wsX1_restore wsX1_saved := goodIn_r _ [6, 7, 8, 43, 44, 45] (by decide +kernel) (by decide +kernel)
set_option maxRecDepth 20000 in
theorem gX1_restore_X1_saved : GoodIn wsX1_restore (wsV RX1 25 RX1 yX1_saved wsX1_saved) := goodIn_app (goodIn_of _ (by decide +kernel)) ggX1_restore_X1_saved
set_option maxRecDepth 20000 in
theorem ggX1_restore_X5_takeOver : GoodIn wsX1_restore wsX5_takeOver := goodIn_r _ [13, 14, 15, 16, 17, 18, 19, 20, 21, 22, 23, 24, 25, 26, 27, 28, 29, 30, 31, 32, 33, 34, 35, 36, 37, 38, 39, 40, 41, 42, 46, 47, 48, 49, 50, 51, 52, 53, 54, 55] (by decide +kernel) (by decide +kernel)
set_option maxRecDepth 20000 in
theorem gX1_restore_X5_takeOver : GoodIn wsX1_restore (wsV RX1 29 RX5 yX5_takeOver wsX5_takeOver) := goodIn_app (goodIn_of _ (by decide +kernel)) ggX1_restore_X5_takeOver
theorem dX1_restore_0 : decode cX1_restore 0 = .ok (.aload_n 0, 1) := by decide +kernel
theorem dX1_restore_1 : decode cX1_restore 1 = .ok (.dup, 1) := by decide +kernel
theorem dX1_restore_2 : decode cX1_restore 2 = .ok (.getfield 22, 3) := by decide +kernel
theorem dX1_restore_5 : decode cX1_restore 5 = .ok (.iconst 1, 1) := by decide +kernel
theorem dX1_restore_6 : decode cX1_restore 6 = .ok (.isub, 1) := by decide +kernel
theorem dX1_restore_7 : decode cX1_restore 7 = .ok (.putfield 22, 3) := by decide +kernel
theorem dX1_restore_10 : decode cX1_restore 10 = .ok (.aload_n 0, 1) := by decide +kernel
theorem dX1_restore_11 : decode cX1_restore 11 = .ok (.aload_n 0, 1) := by decide +kernel
theorem dX1_restore_12 : decode cX1_restore 12 = .ok (.getfield 22, 3) := by decide +kernel
theorem dX1_restore_15 : decode cX1_restore 15 = .ok (.invokevirtual 25, 3) := by decide +kernel
theorem dX1_restore_18 : decode cX1_restore 18 = .ok (.astore_n 2, 1) := by decide +kernel
theorem dX1_restore_19 : decode cX1_restore 19 = .ok (.aload_n 2, 1) := by decide +kernel
theorem dX1_restore_20 : decode cX1_restore 20 = .ok (.ifnull 8, 3) := by decide +kernel
theorem dX1_restore_23 : decode cX1_restore 23 = .ok (.aload_n 1, 1) := by decide +kernel
theorem dX1_restore_24 : decode cX1_restore 24 = .ok (.aload_n 2, 1) := by decide +kernel
theorem dX1_restore_25 : decode cX1_restore 25 = .ok (.invokevirtual 29, 3) := by decide +kernel
theorem dX1_restore_28 : decode cX1_restore 28 = .ok (.return_, 1) := by decide +kernel
theorem dX2_init_0 : decode cX2_init 0 = .ok (.aload_n 0, 1) := by decide +kernel
theorem dX2_init_1 : decode cX2_init 1 = .ok (.invokespecial 3, 3) := by decide +kernel
theorem dX2_init_4 : decode cX2_init 4 = .ok (.aload_n 0, 1) := by decide +kernel
theorem dX2_init_5 : decode cX2_init 5 = .ok (.iload_n 1, 1) := by decide +kernel
theorem dX2_init_6 : decode cX2_init 6 = .ok (.putfield 9, 3) := by decide +kernel
theorem dX2_init_9 : decode cX2_init 9 = .ok (.aload_n 0, 1) := by decide +kernel
theorem dX2_init_10 : decode cX2_init 10 = .ok (.iload_n 2, 1) := by decide +kernel
theorem dX2_init_11 : decode cX2_init 11 = .ok (.putfield 15, 3) := by decide +kernel
theorem dX2_init_14 : decode cX2_init 14 = .ok (.aload_n 0, 1) := by decide +kernel
theorem dX2_init_15 : decode cX2_init 15 = .ok (.iload_n 3, 1) := by decide +kernel
theorem dX2_init_16 : decode cX2_init 16 = .ok (.putfield 18, 3) := by decide +kernel
theorem dX2_init_19 : decode cX2_init 19 = .ok (.return_, 1) := by decide +kernel
theorem dX2_isRefused_0 : decode cX2_isRefused 0 = .ok (.aload_n 0, 1) := by decide +kernel
theorem dX2_isRefused_1 : decode cX2_isRefused 1 = .ok (.getfield 9, 3) := by decide +kernel
theorem dX2_isRefused_4 : decode cX2_isRefused 4 = .ok (.iconst (-1), 1) := by decide +kernel
theorem dX2_isRefused_5 : decode cX2_isRefused 5 = .ok (.if_icmp .ne 7, 3) := by decide +kernel
theorem dX2_isRefused_8 : decode cX2_isRefused 8 = .ok (.iconst 1, 1) := by decide +kernel
theorem dX2_isRefused_9 : decode cX2_isRefused 9 = .ok (.goto 4, 3) := by decide +kernel
theorem dX2_isRefused_12 : decode cX2_isRefused 12 = .ok (.iconst 0, 1) := by decide +kernel
theorem dX2_isRefused_13 : decode cX2_isRefused 13 = .ok (.ireturn, 1) := by decide +kernel
theorem dX2_middle_0 : decode cX2_middle 0 = .ok (.aload_n 0, 1) := by decide +kernel
theorem dX2_middle_1 : decode cX2_middle 1 = .ok (.getfield 18, 3) := by decide +kernel
theorem dX2_middle_4 : decode cX2_middle 4 = .ok (.iconst (-1), 1) := by decide +kernel
theorem dX2_middle_5 : decode cX2_middle 5 = .ok (.if_icmp .ne 7, 3) := by decide +kernel
theorem dX2_middle_8 : decode cX2_middle 8 = .ok (.iload_n 1, 1) := by decide +kernel
theorem dX2_middle_9 : decode cX2_middle 9 = .ok (.goto 7, 3) := by decide +kernel
theorem dX2_middle_12 : decode cX2_middle 12 = .ok (.aload_n 0, 1) := by decide +kernel
theorem dX2_middle_13 : decode cX2_middle 13 = .ok (.getfield 18, 3) := by decide +kernel
theorem dX2_middle_16 : decode cX2_middle 16 = .ok (.ireturn, 1) := by decide +kernel
theorem dX3_init_0 : decode cX3_init 0 = .ok (.aload_n 0, 1) := by decide +kernel
theorem dX3_init_1 : decode cX3_init 1 = .ok (.invokespecial 3, 3) := by decide +kernel
theorem dX3_init_4 : decode cX3_init 4 = .ok (.aload_n 0, 1) := by decide +kernel
theorem dX3_init_5 : decode cX3_init 5 = .ok (.sipush 280, 3) := by decide +kernel
theorem dX3_init_8 : decode cX3_init 8 = .ok (.newarray .int, 2) := by decide +kernel
theorem dX3_init_10 : decode cX3_init 10 = .ok (.putfield 9, 3) := by decide +kernel
theorem dX3_init_13 : decode cX3_init 13 = .ok (.return_, 1) := by decide +kernel
set_option maxRecDepth 20000 in
theorem ggX3_takeOver_X6_copyAll : GoodIn wsX3_takeOver wsX6_copyAll := goodIn_r _ [5, 6, 7, 4, 8, 9, 10, 11] (by decide +kernel) (by decide +kernel)
set_option maxRecDepth 20000 in
theorem gX3_takeOver_X6_copyAll_n15 : GoodIn wsX3_takeOver (wsX6_copyAll) := ggX3_takeOver_X6_copyAll
theorem dX3_takeOver_0 : decode cX3_takeOver 0 = .ok (.aload_n 1, 1) := by decide +kernel
theorem dX3_takeOver_1 : decode cX3_takeOver 1 = .ok (.getfield 9, 3) := by decide +kernel
theorem dX3_takeOver_4 : decode cX3_takeOver 4 = .ok (.aload_n 0, 1) := by decide +kernel
theorem dX3_takeOver_5 : decode cX3_takeOver 5 = .ok (.getfield 9, 3) := by decide +kernel
theorem dX3_takeOver_8 : decode cX3_takeOver 8 = .ok (.invokestatic 15, 3) := by decide +kernel
theorem dX3_takeOver_11 : decode cX3_takeOver 11 = .ok (.aload_n 0, 1) := by decide +kernel
theorem dX3_takeOver_12 : decode cX3_takeOver 12 = .ok (.aload_n 1, 1) := by decide +kernel
theorem dX3_takeOver_13 : decode cX3_takeOver 13 = .ok (.getfield 19, 3) := by decide +kernel
theorem dX3_takeOver_16 : decode cX3_takeOver 16 = .ok (.putfield 19, 3) := by decide +kernel
theorem dX3_takeOver_19 : decode cX3_takeOver 19 = .ok (.return_, 1) := by decide +kernel
theorem dX3_isFull_0 : decode cX3_isFull 0 = .ok (.aload_n 0, 1) := by decide +kernel
theorem dX3_isFull_1 : decode cX3_isFull 1 = .ok (.getfield 19, 3) := by decide +kernel
theorem dX3_isFull_4 : decode cX3_isFull 4 = .ok (.bipush 40, 2) := by decide +kernel
theorem dX3_isFull_6 : decode cX3_isFull 6 = .ok (.if_icmp .lt 7, 3) := by decide +kernel
theorem dX3_isFull_9 : decode cX3_isFull 9 = .ok (.iconst 1, 1) := by decide +kernel
theorem dX3_isFull_10 : decode cX3_isFull 10 = .ok (.goto 4, 3) := by decide +kernel
theorem dX3_isFull_13 : decode cX3_isFull 13 = .ok (.iconst 0, 1) := by decide +kernel
theorem dX3_isFull_14 : decode cX3_isFull 14 = .ok (.ireturn, 1) := by decide +kernel
theorem dX3_at_0 : decode cX3_at 0 = .ok (.iload_n 1, 1) := by decide +kernel
theorem dX3_at_1 : decode cX3_at 1 = .ok (.bipush 7, 2) := by decide +kernel
theorem dX3_at_3 : decode cX3_at 3 = .ok (.imul, 1) := by decide +kernel
theorem dX3_at_4 : decode cX3_at 4 = .ok (.iload_n 2, 1) := by decide +kernel
theorem dX3_at_5 : decode cX3_at 5 = .ok (.iadd, 1) := by decide +kernel
theorem dX3_at_6 : decode cX3_at 6 = .ok (.istore_n 3, 1) := by decide +kernel
theorem dX3_at_7 : decode cX3_at 7 = .ok (.iload_n 3, 1) := by decide +kernel
theorem dX3_at_8 : decode cX3_at 8 = .ok (.ifCond .lt 21, 3) := by decide +kernel
theorem dX3_at_11 : decode cX3_at 11 = .ok (.iload_n 3, 1) := by decide +kernel
theorem dX3_at_12 : decode cX3_at 12 = .ok (.aload_n 0, 1) := by decide +kernel
theorem dX3_at_13 : decode cX3_at 13 = .ok (.getfield 9, 3) := by decide +kernel
theorem dX3_at_16 : decode cX3_at 16 = .ok (.arraylength, 1) := by decide +kernel
theorem dX3_at_17 : decode cX3_at 17 = .ok (.if_icmp .ge 12, 3) := by decide +kernel
theorem dX3_at_20 : decode cX3_at 20 = .ok (.aload_n 0, 1) := by decide +kernel
theorem dX3_at_21 : decode cX3_at 21 = .ok (.getfield 9, 3) := by decide +kernel
theorem dX3_at_24 : decode cX3_at 24 = .ok (.iload_n 3, 1) := by decide +kernel
theorem dX3_at_25 : decode cX3_at 25 = .ok (.iaload, 1) := by decide +kernel
theorem dX3_at_26 : decode cX3_at 26 = .ok (.goto 4, 3) := by decide +kernel
theorem dX3_at_29 : decode cX3_at 29 = .ok (.iconst (-1), 1) := by decide +kernel
theorem dX3_at_30 : decode cX3_at 30 = .ok (.ireturn, 1) := by decide +kernel
set_option maxRecDepth 20000 in
theorem ggX3_put_X6_write : GoodIn wsX3_put wsX6_write := goodIn_r _ [4] (by decide +kernel) (by decide +kernel)
set_option maxRecDepth 20000 in
theorem gX3_put_X6_write_n23 : GoodIn wsX3_put (wsX6_write) := ggX3_put_X6_write
theorem dX3_put_0 : decode cX3_put 0 = .ok (.aload_n 0, 1) := by decide +kernel
theorem dX3_put_1 : decode cX3_put 1 = .ok (.getfield 9, 3) := by decide +kernel
theorem dX3_put_4 : decode cX3_put 4 = .ok (.iload_n 1, 1) := by decide +kernel
theorem dX3_put_5 : decode cX3_put 5 = .ok (.bipush 7, 2) := by decide +kernel
theorem dX3_put_7 : decode cX3_put 7 = .ok (.imul, 1) := by decide +kernel
theorem dX3_put_8 : decode cX3_put 8 = .ok (.iload_n 2, 1) := by decide +kernel
theorem dX3_put_9 : decode cX3_put 9 = .ok (.iadd, 1) := by decide +kernel
theorem dX3_put_10 : decode cX3_put 10 = .ok (.iload_n 3, 1) := by decide +kernel
theorem dX3_put_11 : decode cX3_put 11 = .ok (.invokestatic 23, 3) := by decide +kernel
theorem dX3_put_14 : decode cX3_put 14 = .ok (.return_, 1) := by decide +kernel
set_option maxRecDepth 20000 in
theorem ggX3_rowOf_X3_at : GoodIn wsX3_rowOf wsX3_at := goodIn_r _ [6, 7, 8, 9] (by decide +kernel) (by decide +kernel)
set_option maxRecDepth 20000 in
theorem gX3_rowOf_X3_at : GoodIn wsX3_rowOf (wsV RX3 27 RX3 yX3_at wsX3_at) := goodIn_app (goodIn_of _ (by decide +kernel)) ggX3_rowOf_X3_at
theorem dX3_rowOf_0 : decode cX3_rowOf 0 = .ok (.iconst 0, 1) := by decide +kernel
theorem dX3_rowOf_1 : decode cX3_rowOf 1 = .ok (.istore_n 2, 1) := by decide +kernel
theorem dX3_rowOf_2 : decode cX3_rowOf 2 = .ok (.iload_n 2, 1) := by decide +kernel
theorem dX3_rowOf_3 : decode cX3_rowOf 3 = .ok (.aload_n 0, 1) := by decide +kernel
theorem dX3_rowOf_4 : decode cX3_rowOf 4 = .ok (.getfield 19, 3) := by decide +kernel
theorem dX3_rowOf_7 : decode cX3_rowOf 7 = .ok (.if_icmp .ge 21, 3) := by decide +kernel
theorem dX3_rowOf_10 : decode cX3_rowOf 10 = .ok (.aload_n 0, 1) := by decide +kernel
theorem dX3_rowOf_11 : decode cX3_rowOf 11 = .ok (.iload_n 2, 1) := by decide +kernel
theorem dX3_rowOf_12 : decode cX3_rowOf 12 = .ok (.iconst 0, 1) := by decide +kernel
theorem dX3_rowOf_13 : decode cX3_rowOf 13 = .ok (.invokevirtual 27, 3) := by decide +kernel
theorem dX3_rowOf_16 : decode cX3_rowOf 16 = .ok (.iload_n 1, 1) := by decide +kernel
theorem dX3_rowOf_17 : decode cX3_rowOf 17 = .ok (.if_icmp .ne 5, 3) := by decide +kernel
theorem dX3_rowOf_20 : decode cX3_rowOf 20 = .ok (.iload_n 2, 1) := by decide +kernel
theorem dX3_rowOf_21 : decode cX3_rowOf 21 = .ok (.ireturn, 1) := by decide +kernel
theorem dX3_rowOf_22 : decode cX3_rowOf 22 = .ok (.iinc 2 1, 3) := by decide +kernel
theorem dX3_rowOf_25 : decode cX3_rowOf 25 = .ok (.goto (-23), 3) := by decide +kernel
theorem dX3_rowOf_28 : decode cX3_rowOf 28 = .ok (.iconst (-1), 1) := by decide +kernel
theorem dX3_rowOf_29 : decode cX3_rowOf 29 = .ok (.ireturn, 1) := by decide +kernel
set_option maxRecDepth 20000 in
theorem ggX3_addRow_X3_put : GoodIn wsX3_addRow wsX3_put := goodIn_r _ [6, 7, 8, 9, 10, 11, 12] (by decide +kernel) (by decide +kernel)
set_option maxRecDepth 20000 in
theorem gX3_addRow_X3_put : GoodIn wsX3_addRow (wsV RX3 31 RX3 yX3_put wsX3_put) := goodIn_app (goodIn_of _ (by decide +kernel)) ggX3_addRow_X3_put
theorem dX3_addRow_0 : decode cX3_addRow 0 = .ok (.aload_n 0, 1) := by decide +kernel
theorem dX3_addRow_1 : decode cX3_addRow 1 = .ok (.getfield 19, 3) := by decide +kernel
theorem dX3_addRow_4 : decode cX3_addRow 4 = .ok (.istore 5, 2) := by decide +kernel
theorem dX3_addRow_6 : decode cX3_addRow 6 = .ok (.aload_n 0, 1) := by decide +kernel
theorem dX3_addRow_7 : decode cX3_addRow 7 = .ok (.iload 5, 2) := by decide +kernel
theorem dX3_addRow_9 : decode cX3_addRow 9 = .ok (.iconst 0, 1) := by decide +kernel
theorem dX3_addRow_10 : decode cX3_addRow 10 = .ok (.iload_n 1, 1) := by decide +kernel
theorem dX3_addRow_11 : decode cX3_addRow 11 = .ok (.invokevirtual 31, 3) := by decide +kernel
theorem dX3_addRow_14 : decode cX3_addRow 14 = .ok (.aload_n 0, 1) := by decide +kernel
theorem dX3_addRow_15 : decode cX3_addRow 15 = .ok (.iload 5, 2) := by decide +kernel
theorem dX3_addRow_17 : decode cX3_addRow 17 = .ok (.iconst 1, 1) := by decide +kernel
theorem dX3_addRow_18 : decode cX3_addRow 18 = .ok (.iload_n 2, 1) := by decide +kernel
theorem dX3_addRow_19 : decode cX3_addRow 19 = .ok (.invokevirtual 31, 3) := by decide +kernel
theorem dX3_addRow_22 : decode cX3_addRow 22 = .ok (.aload_n 0, 1) := by decide +kernel
theorem dX3_addRow_23 : decode cX3_addRow 23 = .ok (.iload 5, 2) := by decide +kernel
theorem dX3_addRow_25 : decode cX3_addRow 25 = .ok (.iconst 2, 1) := by decide +kernel
theorem dX3_addRow_26 : decode cX3_addRow 26 = .ok (.iload_n 3, 1) := by decide +kernel
theorem dX3_addRow_27 : decode cX3_addRow 27 = .ok (.invokevirtual 31, 3) := by decide +kernel
theorem dX3_addRow_30 : decode cX3_addRow 30 = .ok (.aload_n 0, 1) := by decide +kernel
theorem dX3_addRow_31 : decode cX3_addRow 31 = .ok (.iload 5, 2) := by decide +kernel
theorem dX3_addRow_33 : decode cX3_addRow 33 = .ok (.iconst 3, 1) := by decide +kernel
theorem dX3_addRow_34 : decode cX3_addRow 34 = .ok (.iload 4, 2) := by decide +kernel
theorem dX3_addRow_36 : decode cX3_addRow 36 = .ok (.ifCond .eq 7, 3) := by decide +kernel
theorem dX3_addRow_39 : decode cX3_addRow 39 = .ok (.iconst 1, 1) := by decide +kernel
theorem dX3_addRow_40 : decode cX3_addRow 40 = .ok (.goto 4, 3) := by decide +kernel
theorem dX3_addRow_43 : decode cX3_addRow 43 = .ok (.iconst 0, 1) := by decide +kernel
theorem dX3_addRow_44 : decode cX3_addRow 44 = .ok (.invokevirtual 31, 3) := by decide +kernel
theorem dX3_addRow_47 : decode cX3_addRow 47 = .ok (.aload_n 0, 1) := by decide +kernel
theorem dX3_addRow_48 : decode cX3_addRow 48 = .ok (.dup, 1) := by decide +kernel
theorem dX3_addRow_49 : decode cX3_addRow 49 = .ok (.getfield 19, 3) := by decide +kernel
theorem dX3_addRow_52 : decode cX3_addRow 52 = .ok (.iconst 1, 1) := by decide +kernel
theorem dX3_addRow_53 : decode cX3_addRow 53 = .ok (.iadd, 1) := by decide +kernel
theorem dX3_addRow_54 : decode cX3_addRow 54 = .ok (.putfield 19, 3) := by decide +kernel
theorem dX3_addRow_57 : decode cX3_addRow 57 = .ok (.iload 5, 2) := by decide +kernel
theorem dX3_addRow_59 : decode cX3_addRow 59 = .ok (.ireturn, 1) := by decide +kernel
set_option maxRecDepth 20000 in
theorem ggX3_putBerths_X3_put : GoodIn wsX3_putBerths wsX3_put := goodIn_r _ [8, 9, 10, 11, 12, 16, 17] (by decide +kernel) (by decide +kernel)
set_option maxRecDepth 20000 in
theorem gX3_putBerths_X3_put : GoodIn wsX3_putBerths (wsV RX3 31 RX3 yX3_put wsX3_put) := goodIn_app (goodIn_of _ (by decide +kernel)) ggX3_putBerths_X3_put
theorem dX3_putBerths_0 : decode cX3_putBerths 0 = .ok (.aload_n 0, 1) := by decide +kernel
theorem dX3_putBerths_1 : decode cX3_putBerths 1 = .ok (.iload_n 1, 1) := by decide +kernel
theorem dX3_putBerths_2 : decode cX3_putBerths 2 = .ok (.iconst 4, 1) := by decide +kernel
theorem dX3_putBerths_3 : decode cX3_putBerths 3 = .ok (.aload_n 2, 1) := by decide +kernel
theorem dX3_putBerths_4 : decode cX3_putBerths 4 = .ok (.getfield 35, 3) := by decide +kernel
theorem dX3_putBerths_7 : decode cX3_putBerths 7 = .ok (.invokevirtual 31, 3) := by decide +kernel
theorem dX3_putBerths_10 : decode cX3_putBerths 10 = .ok (.aload_n 0, 1) := by decide +kernel
theorem dX3_putBerths_11 : decode cX3_putBerths 11 = .ok (.iload_n 1, 1) := by decide +kernel
theorem dX3_putBerths_12 : decode cX3_putBerths 12 = .ok (.iconst 5, 1) := by decide +kernel
theorem dX3_putBerths_13 : decode cX3_putBerths 13 = .ok (.aload_n 2, 1) := by decide +kernel
theorem dX3_putBerths_14 : decode cX3_putBerths 14 = .ok (.getfield 40, 3) := by decide +kernel
theorem dX3_putBerths_17 : decode cX3_putBerths 17 = .ok (.invokevirtual 31, 3) := by decide +kernel
theorem dX3_putBerths_20 : decode cX3_putBerths 20 = .ok (.aload_n 0, 1) := by decide +kernel
theorem dX3_putBerths_21 : decode cX3_putBerths 21 = .ok (.iload_n 1, 1) := by decide +kernel
theorem dX3_putBerths_22 : decode cX3_putBerths 22 = .ok (.bipush 6, 2) := by decide +kernel
theorem dX3_putBerths_24 : decode cX3_putBerths 24 = .ok (.aload_n 2, 1) := by decide +kernel
theorem dX3_putBerths_25 : decode cX3_putBerths 25 = .ok (.getfield 43, 3) := by decide +kernel
theorem dX3_putBerths_28 : decode cX3_putBerths 28 = .ok (.invokevirtual 31, 3) := by decide +kernel
theorem dX3_putBerths_31 : decode cX3_putBerths 31 = .ok (.return_, 1) := by decide +kernel
set_option maxRecDepth 20000 in
theorem ggX3_middle_X3_at : GoodIn wsX3_middle wsX3_at := goodIn_r _ [5, 6, 7, 8] (by decide +kernel) (by decide +kernel)
set_option maxRecDepth 20000 in
theorem gX3_middle_X3_at : GoodIn wsX3_middle (wsV RX3 27 RX3 yX3_at wsX3_at) := goodIn_app (goodIn_of _ (by decide +kernel)) ggX3_middle_X3_at
theorem dX3_middle_0 : decode cX3_middle 0 = .ok (.aload_n 0, 1) := by decide +kernel
theorem dX3_middle_1 : decode cX3_middle 1 = .ok (.iload_n 1, 1) := by decide +kernel
theorem dX3_middle_2 : decode cX3_middle 2 = .ok (.bipush 6, 2) := by decide +kernel
theorem dX3_middle_4 : decode cX3_middle 4 = .ok (.invokevirtual 27, 3) := by decide +kernel
theorem dX3_middle_7 : decode cX3_middle 7 = .ok (.istore_n 2, 1) := by decide +kernel
theorem dX3_middle_8 : decode cX3_middle 8 = .ok (.iload_n 2, 1) := by decide +kernel
theorem dX3_middle_9 : decode cX3_middle 9 = .ok (.iconst (-1), 1) := by decide +kernel
theorem dX3_middle_10 : decode cX3_middle 10 = .ok (.if_icmp .ne 12, 3) := by decide +kernel
theorem dX3_middle_13 : decode cX3_middle 13 = .ok (.aload_n 0, 1) := by decide +kernel
theorem dX3_middle_14 : decode cX3_middle 14 = .ok (.iload_n 1, 1) := by decide +kernel
theorem dX3_middle_15 : decode cX3_middle 15 = .ok (.iconst 2, 1) := by decide +kernel
theorem dX3_middle_16 : decode cX3_middle 16 = .ok (.invokevirtual 27, 3) := by decide +kernel
theorem dX3_middle_19 : decode cX3_middle 19 = .ok (.goto 4, 3) := by decide +kernel
theorem dX3_middle_22 : decode cX3_middle 22 = .ok (.iload_n 2, 1) := by decide +kernel
theorem dX3_middle_23 : decode cX3_middle 23 = .ok (.ireturn, 1) := by decide +kernel
set_option maxRecDepth 20000 in
theorem ggX3_dropRow_X3_at : GoodIn wsX3_dropRow wsX3_at := goodIn_r _ [6, 7, 15, 16] (by decide +kernel) (by decide +kernel)
set_option maxRecDepth 20000 in
theorem gX3_dropRow_X3_at : GoodIn wsX3_dropRow (wsV RX3 27 RX3 yX3_at wsX3_at) := goodIn_app (goodIn_of _ (by decide +kernel)) ggX3_dropRow_X3_at
set_option maxRecDepth 20000 in
theorem ggX3_dropRow_X3_put : GoodIn wsX3_dropRow wsX3_put := goodIn_r _ [11, 7, 12, 13, 14, 15, 16] (by decide +kernel) (by decide +kernel)
set_option maxRecDepth 20000 in
theorem gX3_dropRow_X3_put : GoodIn wsX3_dropRow (wsV RX3 31 RX3 yX3_put wsX3_put) := goodIn_app (goodIn_of _ (by decide +kernel)) ggX3_dropRow_X3_put
theorem dX3_dropRow_0 : decode cX3_dropRow 0 = .ok (.aload_n 0, 1) := by decide +kernel
theorem dX3_dropRow_1 : decode cX3_dropRow 1 = .ok (.dup, 1) := by decide +kernel
theorem dX3_dropRow_2 : decode cX3_dropRow 2 = .ok (.getfield 19, 3) := by decide +kernel
theorem dX3_dropRow_5 : decode cX3_dropRow 5 = .ok (.iconst 1, 1) := by decide +kernel
theorem dX3_dropRow_6 : decode cX3_dropRow 6 = .ok (.isub, 1) := by decide +kernel
theorem dX3_dropRow_7 : decode cX3_dropRow 7 = .ok (.putfield 19, 3) := by decide +kernel
theorem dX3_dropRow_10 : decode cX3_dropRow 10 = .ok (.iload_n 1, 1) := by decide +kernel
theorem dX3_dropRow_11 : decode cX3_dropRow 11 = .ok (.istore_n 2, 1) := by decide +kernel
theorem dX3_dropRow_12 : decode cX3_dropRow 12 = .ok (.iload_n 2, 1) := by decide +kernel
theorem dX3_dropRow_13 : decode cX3_dropRow 13 = .ok (.aload_n 0, 1) := by decide +kernel
theorem dX3_dropRow_14 : decode cX3_dropRow 14 = .ok (.getfield 19, 3) := by decide +kernel
theorem dX3_dropRow_17 : decode cX3_dropRow 17 = .ok (.if_icmp .ge 37, 3) := by decide +kernel
theorem dX3_dropRow_20 : decode cX3_dropRow 20 = .ok (.iconst 0, 1) := by decide +kernel
theorem dX3_dropRow_21 : decode cX3_dropRow 21 = .ok (.istore_n 3, 1) := by decide +kernel
theorem dX3_dropRow_22 : decode cX3_dropRow 22 = .ok (.iload_n 3, 1) := by decide +kernel
theorem dX3_dropRow_23 : decode cX3_dropRow 23 = .ok (.bipush 7, 2) := by decide +kernel
theorem dX3_dropRow_25 : decode cX3_dropRow 25 = .ok (.if_icmp .ge 23, 3) := by decide +kernel
theorem dX3_dropRow_28 : decode cX3_dropRow 28 = .ok (.aload_n 0, 1) := by decide +kernel
theorem dX3_dropRow_29 : decode cX3_dropRow 29 = .ok (.iload_n 2, 1) := by decide +kernel
theorem dX3_dropRow_30 : decode cX3_dropRow 30 = .ok (.iload_n 3, 1) := by decide +kernel
theorem dX3_dropRow_31 : decode cX3_dropRow 31 = .ok (.aload_n 0, 1) := by decide +kernel
theorem dX3_dropRow_32 : decode cX3_dropRow 32 = .ok (.iload_n 2, 1) := by decide +kernel
theorem dX3_dropRow_33 : decode cX3_dropRow 33 = .ok (.iconst 1, 1) := by decide +kernel
theorem dX3_dropRow_34 : decode cX3_dropRow 34 = .ok (.iadd, 1) := by decide +kernel
theorem dX3_dropRow_35 : decode cX3_dropRow 35 = .ok (.iload_n 3, 1) := by decide +kernel
theorem dX3_dropRow_36 : decode cX3_dropRow 36 = .ok (.invokevirtual 27, 3) := by decide +kernel
theorem dX3_dropRow_39 : decode cX3_dropRow 39 = .ok (.invokevirtual 31, 3) := by decide +kernel
theorem dX3_dropRow_42 : decode cX3_dropRow 42 = .ok (.iinc 3 1, 3) := by decide +kernel
theorem dX3_dropRow_45 : decode cX3_dropRow 45 = .ok (.goto (-23), 3) := by decide +kernel
theorem dX3_dropRow_48 : decode cX3_dropRow 48 = .ok (.iinc 2 1, 3) := by decide +kernel
theorem dX3_dropRow_51 : decode cX3_dropRow 51 = .ok (.goto (-39), 3) := by decide +kernel
theorem dX3_dropRow_54 : decode cX3_dropRow 54 = .ok (.return_, 1) := by decide +kernel
set_option maxRecDepth 20000 in
theorem ggX3_changing_X3_at : GoodIn wsX3_changing wsX3_at := goodIn_r _ [6, 7, 8, 9] (by decide +kernel) (by decide +kernel)
set_option maxRecDepth 20000 in
theorem gX3_changing_X3_at : GoodIn wsX3_changing (wsV RX3 27 RX3 yX3_at wsX3_at) := goodIn_app (goodIn_of _ (by decide +kernel)) ggX3_changing_X3_at
theorem dX3_changing_0 : decode cX3_changing 0 = .ok (.iconst 0, 1) := by decide +kernel
theorem dX3_changing_1 : decode cX3_changing 1 = .ok (.istore_n 1, 1) := by decide +kernel
theorem dX3_changing_2 : decode cX3_changing 2 = .ok (.iconst 0, 1) := by decide +kernel
theorem dX3_changing_3 : decode cX3_changing 3 = .ok (.istore_n 2, 1) := by decide +kernel
theorem dX3_changing_4 : decode cX3_changing 4 = .ok (.iload_n 2, 1) := by decide +kernel
theorem dX3_changing_5 : decode cX3_changing 5 = .ok (.aload_n 0, 1) := by decide +kernel
theorem dX3_changing_6 : decode cX3_changing 6 = .ok (.getfield 19, 3) := by decide +kernel
theorem dX3_changing_9 : decode cX3_changing 9 = .ok (.if_icmp .ge 23, 3) := by decide +kernel
theorem dX3_changing_12 : decode cX3_changing 12 = .ok (.aload_n 0, 1) := by decide +kernel
theorem dX3_changing_13 : decode cX3_changing 13 = .ok (.iload_n 2, 1) := by decide +kernel
theorem dX3_changing_14 : decode cX3_changing 14 = .ok (.bipush 6, 2) := by decide +kernel
theorem dX3_changing_16 : decode cX3_changing 16 = .ok (.invokevirtual 27, 3) := by decide +kernel
theorem dX3_changing_19 : decode cX3_changing 19 = .ok (.iconst (-1), 1) := by decide +kernel
theorem dX3_changing_20 : decode cX3_changing 20 = .ok (.if_icmp .eq 6, 3) := by decide +kernel
theorem dX3_changing_23 : decode cX3_changing 23 = .ok (.iinc 1 1, 3) := by decide +kernel
theorem dX3_changing_26 : decode cX3_changing 26 = .ok (.iinc 2 1, 3) := by decide +kernel
theorem dX3_changing_29 : decode cX3_changing 29 = .ok (.goto (-25), 3) := by decide +kernel
theorem dX3_changing_32 : decode cX3_changing 32 = .ok (.iload_n 1, 1) := by decide +kernel
theorem dX3_changing_33 : decode cX3_changing 33 = .ok (.ireturn, 1) := by decide +kernel
theorem dX4_init_0 : decode cX4_init 0 = .ok (.aload_n 0, 1) := by decide +kernel
theorem dX4_init_1 : decode cX4_init 1 = .ok (.invokespecial 3, 3) := by decide +kernel
theorem dX4_init_4 : decode cX4_init 4 = .ok (.aload_n 0, 1) := by decide +kernel
theorem dX4_init_5 : decode cX4_init 5 = .ok (.bipush 60, 2) := by decide +kernel
theorem dX4_init_7 : decode cX4_init 7 = .ok (.newarray .int, 2) := by decide +kernel
theorem dX4_init_9 : decode cX4_init 9 = .ok (.putfield 9, 3) := by decide +kernel
theorem dX4_init_12 : decode cX4_init 12 = .ok (.return_, 1) := by decide +kernel
theorem dX4_isFull_0 : decode cX4_isFull 0 = .ok (.aload_n 0, 1) := by decide +kernel
theorem dX4_isFull_1 : decode cX4_isFull 1 = .ok (.getfield 15, 3) := by decide +kernel
theorem dX4_isFull_4 : decode cX4_isFull 4 = .ok (.bipush 60, 2) := by decide +kernel
theorem dX4_isFull_6 : decode cX4_isFull 6 = .ok (.if_icmp .lt 7, 3) := by decide +kernel
theorem dX4_isFull_9 : decode cX4_isFull 9 = .ok (.iconst 1, 1) := by decide +kernel
theorem dX4_isFull_10 : decode cX4_isFull 10 = .ok (.goto 4, 3) := by decide +kernel
theorem dX4_isFull_13 : decode cX4_isFull 13 = .ok (.iconst 0, 1) := by decide +kernel
theorem dX4_isFull_14 : decode cX4_isFull 14 = .ok (.ireturn, 1) := by decide +kernel
set_option maxRecDepth 20000 in
theorem ggX4_add_X6_write : GoodIn wsX4_add wsX6_write := goodIn_r _ [5] (by decide +kernel) (by decide +kernel)
set_option maxRecDepth 20000 in
theorem gX4_add_X6_write_n19 : GoodIn wsX4_add (wsX6_write) := ggX4_add_X6_write
theorem dX4_add_0 : decode cX4_add 0 = .ok (.aload_n 0, 1) := by decide +kernel
theorem dX4_add_1 : decode cX4_add 1 = .ok (.getfield 9, 3) := by decide +kernel
theorem dX4_add_4 : decode cX4_add 4 = .ok (.aload_n 0, 1) := by decide +kernel
theorem dX4_add_5 : decode cX4_add 5 = .ok (.getfield 15, 3) := by decide +kernel
theorem dX4_add_8 : decode cX4_add 8 = .ok (.iload_n 1, 1) := by decide +kernel
theorem dX4_add_9 : decode cX4_add 9 = .ok (.invokestatic 19, 3) := by decide +kernel
theorem dX4_add_12 : decode cX4_add 12 = .ok (.aload_n 0, 1) := by decide +kernel
theorem dX4_add_13 : decode cX4_add 13 = .ok (.dup, 1) := by decide +kernel
theorem dX4_add_14 : decode cX4_add 14 = .ok (.getfield 15, 3) := by decide +kernel
theorem dX4_add_17 : decode cX4_add 17 = .ok (.iconst 1, 1) := by decide +kernel
theorem dX4_add_18 : decode cX4_add 18 = .ok (.iadd, 1) := by decide +kernel
theorem dX4_add_19 : decode cX4_add 19 = .ok (.putfield 15, 3) := by decide +kernel
theorem dX4_add_22 : decode cX4_add 22 = .ok (.return_, 1) := by decide +kernel
theorem dX4_empty_0 : decode cX4_empty 0 = .ok (.aload_n 0, 1) := by decide +kernel
theorem dX4_empty_1 : decode cX4_empty 1 = .ok (.getfield 15, 3) := by decide +kernel
theorem dX4_empty_4 : decode cX4_empty 4 = .ok (.istore_n 1, 1) := by decide +kernel
theorem dX4_empty_5 : decode cX4_empty 5 = .ok (.aload_n 0, 1) := by decide +kernel
theorem dX4_empty_6 : decode cX4_empty 6 = .ok (.iconst 0, 1) := by decide +kernel
theorem dX4_empty_7 : decode cX4_empty 7 = .ok (.putfield 15, 3) := by decide +kernel
theorem dX4_empty_10 : decode cX4_empty 10 = .ok (.iload_n 1, 1) := by decide +kernel
theorem dX4_empty_11 : decode cX4_empty 11 = .ok (.ireturn, 1) := by decide +kernel
set_option maxRecDepth 20000 in
theorem ggX4_codeAt_X6_read : GoodIn wsX4_codeAt wsX6_read := goodIn_r _ [5] (by decide +kernel) (by decide +kernel)
set_option maxRecDepth 20000 in
theorem gX4_codeAt_X6_read_n23 : GoodIn wsX4_codeAt (wsX6_read) := ggX4_codeAt_X6_read
theorem dX4_codeAt_0 : decode cX4_codeAt 0 = .ok (.iload_n 1, 1) := by decide +kernel
theorem dX4_codeAt_1 : decode cX4_codeAt 1 = .ok (.aload_n 0, 1) := by decide +kernel
theorem dX4_codeAt_2 : decode cX4_codeAt 2 = .ok (.getfield 15, 3) := by decide +kernel
theorem dX4_codeAt_5 : decode cX4_codeAt 5 = .ok (.if_icmp .ge 14, 3) := by decide +kernel
theorem dX4_codeAt_8 : decode cX4_codeAt 8 = .ok (.aload_n 0, 1) := by decide +kernel
theorem dX4_codeAt_9 : decode cX4_codeAt 9 = .ok (.getfield 9, 3) := by decide +kernel
theorem dX4_codeAt_12 : decode cX4_codeAt 12 = .ok (.iload_n 1, 1) := by decide +kernel
theorem dX4_codeAt_13 : decode cX4_codeAt 13 = .ok (.invokestatic 23, 3) := by decide +kernel
theorem dX4_codeAt_16 : decode cX4_codeAt 16 = .ok (.goto 4, 3) := by decide +kernel
theorem dX4_codeAt_19 : decode cX4_codeAt 19 = .ok (.iconst (-1), 1) := by decide +kernel
theorem dX4_codeAt_20 : decode cX4_codeAt 20 = .ok (.ireturn, 1) := by decide +kernel
set_option maxRecDepth 20000 in
theorem ggX4_firstFault_X4_fits : GoodIn wsX4_firstFault wsX4_fits := goodIn_r _ [6, 7, 8, 9, 5, 10, 1, 11, 12, 13, 14, 15, 16] (by decide +kernel) (by decide +kernel)
set_option maxRecDepth 20000 in
theorem gX4_firstFault_X4_fits : GoodIn wsX4_firstFault (wsV RX4 27 RX4 yX4_fits wsX4_fits) := goodIn_app (goodIn_of _ (by decide +kernel)) ggX4_firstFault_X4_fits
set_option maxRecDepth 20000 in
theorem ggX4_firstFault_X4_codeAt : GoodIn wsX4_firstFault wsX4_codeAt := goodIn_r _ [10, 1, 11, 12, 13, 14, 15, 16] (by decide +kernel) (by decide +kernel)
set_option maxRecDepth 20000 in
theorem gX4_firstFault_X4_codeAt : GoodIn wsX4_firstFault (wsV RX4 31 RX4 yX4_codeAt wsX4_codeAt) := goodIn_app (goodIn_of _ (by decide +kernel)) ggX4_firstFault_X4_codeAt
theorem dX4_firstFault_0 : decode cX4_firstFault 0 = .ok (.iconst 0, 1) := by decide +kernel
theorem dX4_firstFault_1 : decode cX4_firstFault 1 = .ok (.istore_n 1, 1) := by decide +kernel
theorem dX4_firstFault_2 : decode cX4_firstFault 2 = .ok (.iconst 0, 1) := by decide +kernel
theorem dX4_firstFault_3 : decode cX4_firstFault 3 = .ok (.istore_n 2, 1) := by decide +kernel
theorem dX4_firstFault_4 : decode cX4_firstFault 4 = .ok (.iload_n 2, 1) := by decide +kernel
theorem dX4_firstFault_5 : decode cX4_firstFault 5 = .ok (.aload_n 0, 1) := by decide +kernel
theorem dX4_firstFault_6 : decode cX4_firstFault 6 = .ok (.getfield 15, 3) := by decide +kernel
theorem dX4_firstFault_9 : decode cX4_firstFault 9 = .ok (.if_icmp .ge 36, 3) := by decide +kernel
theorem dX4_firstFault_12 : decode cX4_firstFault 12 = .ok (.aload_n 0, 1) := by decide +kernel
theorem dX4_firstFault_13 : decode cX4_firstFault 13 = .ok (.iload_n 2, 1) := by decide +kernel
theorem dX4_firstFault_14 : decode cX4_firstFault 14 = .ok (.iload_n 2, 1) := by decide +kernel
theorem dX4_firstFault_15 : decode cX4_firstFault 15 = .ok (.iload_n 1, 1) := by decide +kernel
theorem dX4_firstFault_16 : decode cX4_firstFault 16 = .ok (.isub, 1) := by decide +kernel
theorem dX4_firstFault_17 : decode cX4_firstFault 17 = .ok (.invokevirtual 27, 3) := by decide +kernel
theorem dX4_firstFault_20 : decode cX4_firstFault 20 = .ok (.ifCond .ne 5, 3) := by decide +kernel
theorem dX4_firstFault_23 : decode cX4_firstFault 23 = .ok (.iload_n 2, 1) := by decide +kernel
theorem dX4_firstFault_24 : decode cX4_firstFault 24 = .ok (.ireturn, 1) := by decide +kernel
theorem dX4_firstFault_25 : decode cX4_firstFault 25 = .ok (.aload_n 0, 1) := by decide +kernel
theorem dX4_firstFault_26 : decode cX4_firstFault 26 = .ok (.iload_n 2, 1) := by decide +kernel
theorem dX4_firstFault_27 : decode cX4_firstFault 27 = .ok (.invokevirtual 31, 3) := by decide +kernel
theorem dX4_firstFault_30 : decode cX4_firstFault 30 = .ok (.bipush 59, 2) := by decide +kernel
theorem dX4_firstFault_32 : decode cX4_firstFault 32 = .ok (.if_icmp .ne 7, 3) := by decide +kernel
theorem dX4_firstFault_35 : decode cX4_firstFault 35 = .ok (.iload_n 2, 1) := by decide +kernel
theorem dX4_firstFault_36 : decode cX4_firstFault 36 = .ok (.iconst 1, 1) := by decide +kernel
theorem dX4_firstFault_37 : decode cX4_firstFault 37 = .ok (.iadd, 1) := by decide +kernel
theorem dX4_firstFault_38 : decode cX4_firstFault 38 = .ok (.istore_n 1, 1) := by decide +kernel
theorem dX4_firstFault_39 : decode cX4_firstFault 39 = .ok (.iinc 2 1, 3) := by decide +kernel
theorem dX4_firstFault_42 : decode cX4_firstFault 42 = .ok (.goto (-38), 3) := by decide +kernel
theorem dX4_firstFault_45 : decode cX4_firstFault 45 = .ok (.aload_n 0, 1) := by decide +kernel
theorem dX4_firstFault_46 : decode cX4_firstFault 46 = .ok (.getfield 15, 3) := by decide +kernel
theorem dX4_firstFault_49 : decode cX4_firstFault 49 = .ok (.ireturn, 1) := by decide +kernel
set_option maxRecDepth 20000 in
theorem ggX4_fits_X4_codeAt : GoodIn wsX4_fits wsX4_codeAt := goodIn_r _ [5, 6, 7, 8, 9, 10, 11, 12] (by decide +kernel) (by decide +kernel)
set_option maxRecDepth 20000 in
theorem gX4_fits_X4_codeAt : GoodIn wsX4_fits (wsV RX4 31 RX4 yX4_codeAt wsX4_codeAt) := goodIn_app (goodIn_of _ (by decide +kernel)) ggX4_fits_X4_codeAt
theorem dX4_fits_0 : decode cX4_fits 0 = .ok (.aload_n 0, 1) := by decide +kernel
theorem dX4_fits_1 : decode cX4_fits 1 = .ok (.iload_n 1, 1) := by decide +kernel
theorem dX4_fits_2 : decode cX4_fits 2 = .ok (.invokevirtual 31, 3) := by decide +kernel
theorem dX4_fits_5 : decode cX4_fits 5 = .ok (.istore_n 3, 1) := by decide +kernel
theorem dX4_fits_6 : decode cX4_fits 6 = .ok (.iload_n 2, 1) := by decide +kernel
theorem dX4_fits_7 : decode cX4_fits 7 = .ok (.tableswitch 100 0 3 #[29, 47, 59, 82], 29) := by decide +kernel
theorem dX4_fits_36 : decode cX4_fits 36 = .ok (.iload_n 3, 1) := by decide +kernel
theorem dX4_fits_37 : decode cX4_fits 37 = .ok (.bipush 48, 2) := by decide +kernel
theorem dX4_fits_39 : decode cX4_fits 39 = .ok (.if_icmp .lt 13, 3) := by decide +kernel
theorem dX4_fits_42 : decode cX4_fits 42 = .ok (.iload_n 3, 1) := by decide +kernel
theorem dX4_fits_43 : decode cX4_fits 43 = .ok (.bipush 56, 2) := by decide +kernel
theorem dX4_fits_45 : decode cX4_fits 45 = .ok (.if_icmp .gt 7, 3) := by decide +kernel
theorem dX4_fits_48 : decode cX4_fits 48 = .ok (.iconst 1, 1) := by decide +kernel
theorem dX4_fits_49 : decode cX4_fits 49 = .ok (.goto 4, 3) := by decide +kernel
theorem dX4_fits_52 : decode cX4_fits 52 = .ok (.iconst 0, 1) := by decide +kernel
theorem dX4_fits_53 : decode cX4_fits 53 = .ok (.ireturn, 1) := by decide +kernel
theorem dX4_fits_54 : decode cX4_fits 54 = .ok (.iload_n 3, 1) := by decide +kernel
theorem dX4_fits_55 : decode cX4_fits 55 = .ok (.bipush 45, 2) := by decide +kernel
theorem dX4_fits_57 : decode cX4_fits 57 = .ok (.if_icmp .ne 7, 3) := by decide +kernel
theorem dX4_fits_60 : decode cX4_fits 60 = .ok (.iconst 1, 1) := by decide +kernel
theorem dX4_fits_61 : decode cX4_fits 61 = .ok (.goto 4, 3) := by decide +kernel
theorem dX4_fits_64 : decode cX4_fits 64 = .ok (.iconst 0, 1) := by decide +kernel
theorem dX4_fits_65 : decode cX4_fits 65 = .ok (.ireturn, 1) := by decide +kernel
theorem dX4_fits_66 : decode cX4_fits 66 = .ok (.iload_n 3, 1) := by decide +kernel
theorem dX4_fits_67 : decode cX4_fits 67 = .ok (.aload_n 0, 1) := by decide +kernel
theorem dX4_fits_68 : decode cX4_fits 68 = .ok (.iload_n 1, 1) := by decide +kernel
theorem dX4_fits_69 : decode cX4_fits 69 = .ok (.iconst 2, 1) := by decide +kernel
theorem dX4_fits_70 : decode cX4_fits 70 = .ok (.isub, 1) := by decide +kernel
theorem dX4_fits_71 : decode cX4_fits 71 = .ok (.invokevirtual 31, 3) := by decide +kernel
theorem dX4_fits_74 : decode cX4_fits 74 = .ok (.if_icmp .le 13, 3) := by decide +kernel
theorem dX4_fits_77 : decode cX4_fits 77 = .ok (.iload_n 3, 1) := by decide +kernel
theorem dX4_fits_78 : decode cX4_fits 78 = .ok (.bipush 57, 2) := by decide +kernel
theorem dX4_fits_80 : decode cX4_fits 80 = .ok (.if_icmp .gt 7, 3) := by decide +kernel
theorem dX4_fits_83 : decode cX4_fits 83 = .ok (.iconst 1, 1) := by decide +kernel
theorem dX4_fits_84 : decode cX4_fits 84 = .ok (.goto 4, 3) := by decide +kernel
theorem dX4_fits_87 : decode cX4_fits 87 = .ok (.iconst 0, 1) := by decide +kernel
theorem dX4_fits_88 : decode cX4_fits 88 = .ok (.ireturn, 1) := by decide +kernel
theorem dX4_fits_89 : decode cX4_fits 89 = .ok (.iload_n 3, 1) := by decide +kernel
theorem dX4_fits_90 : decode cX4_fits 90 = .ok (.bipush 33, 2) := by decide +kernel
theorem dX4_fits_92 : decode cX4_fits 92 = .ok (.if_icmp .eq 9, 3) := by decide +kernel
theorem dX4_fits_95 : decode cX4_fits 95 = .ok (.iload_n 3, 1) := by decide +kernel
theorem dX4_fits_96 : decode cX4_fits 96 = .ok (.bipush 59, 2) := by decide +kernel
theorem dX4_fits_98 : decode cX4_fits 98 = .ok (.if_icmp .ne 7, 3) := by decide +kernel
theorem dX4_fits_101 : decode cX4_fits 101 = .ok (.iconst 1, 1) := by decide +kernel
theorem dX4_fits_102 : decode cX4_fits 102 = .ok (.goto 4, 3) := by decide +kernel
theorem dX4_fits_105 : decode cX4_fits 105 = .ok (.iconst 0, 1) := by decide +kernel
theorem dX4_fits_106 : decode cX4_fits 106 = .ok (.ireturn, 1) := by decide +kernel
theorem dX4_fits_107 : decode cX4_fits 107 = .ok (.iload_n 3, 1) := by decide +kernel
theorem dX4_fits_108 : decode cX4_fits 108 = .ok (.bipush 59, 2) := by decide +kernel
theorem dX4_fits_110 : decode cX4_fits 110 = .ok (.if_icmp .ne 7, 3) := by decide +kernel
theorem dX4_fits_113 : decode cX4_fits 113 = .ok (.iconst 1, 1) := by decide +kernel
theorem dX4_fits_114 : decode cX4_fits 114 = .ok (.goto 4, 3) := by decide +kernel
theorem dX4_fits_117 : decode cX4_fits 117 = .ok (.iconst 0, 1) := by decide +kernel
theorem dX4_fits_118 : decode cX4_fits 118 = .ok (.ireturn, 1) := by decide +kernel
set_option maxRecDepth 20000 in
theorem ggX4_isComplete_X4_codeAt : GoodIn wsX4_isComplete wsX4_codeAt := goodIn_r _ [6, 1, 7, 8, 9, 10, 19, 20] (by decide +kernel) (by decide +kernel)
set_option maxRecDepth 20000 in
theorem gX4_isComplete_X4_codeAt : GoodIn wsX4_isComplete (wsV RX4 31 RX4 yX4_codeAt wsX4_codeAt) := goodIn_app (goodIn_of _ (by decide +kernel)) ggX4_isComplete_X4_codeAt
set_option maxRecDepth 20000 in
theorem ggX4_isComplete_X4_firstFault : GoodIn wsX4_isComplete wsX4_firstFault := goodIn_r _ [14, 1, 15, 16, 17, 5, 18, 2, 3, 4, 6, 7, 8, 9, 10, 19, 20] (by decide +kernel) (by decide +kernel)
set_option maxRecDepth 20000 in
theorem gX4_isComplete_X4_firstFault : GoodIn wsX4_isComplete (wsV RX4 35 RX4 yX4_firstFault wsX4_firstFault) := goodIn_app (goodIn_of _ (by decide +kernel)) ggX4_isComplete_X4_firstFault
theorem dX4_isComplete_0 : decode cX4_isComplete 0 = .ok (.aload_n 0, 1) := by decide +kernel
theorem dX4_isComplete_1 : decode cX4_isComplete 1 = .ok (.aload_n 0, 1) := by decide +kernel
theorem dX4_isComplete_2 : decode cX4_isComplete 2 = .ok (.getfield 15, 3) := by decide +kernel
theorem dX4_isComplete_5 : decode cX4_isComplete 5 = .ok (.iconst 1, 1) := by decide +kernel
theorem dX4_isComplete_6 : decode cX4_isComplete 6 = .ok (.isub, 1) := by decide +kernel
theorem dX4_isComplete_7 : decode cX4_isComplete 7 = .ok (.invokevirtual 31, 3) := by decide +kernel
theorem dX4_isComplete_10 : decode cX4_isComplete 10 = .ok (.bipush 33, 2) := by decide +kernel
theorem dX4_isComplete_12 : decode cX4_isComplete 12 = .ok (.if_icmp .eq 18, 3) := by decide +kernel
theorem dX4_isComplete_15 : decode cX4_isComplete 15 = .ok (.aload_n 0, 1) := by decide +kernel
theorem dX4_isComplete_16 : decode cX4_isComplete 16 = .ok (.aload_n 0, 1) := by decide +kernel
theorem dX4_isComplete_17 : decode cX4_isComplete 17 = .ok (.getfield 15, 3) := by decide +kernel
theorem dX4_isComplete_20 : decode cX4_isComplete 20 = .ok (.iconst 2, 1) := by decide +kernel
theorem dX4_isComplete_21 : decode cX4_isComplete 21 = .ok (.isub, 1) := by decide +kernel
theorem dX4_isComplete_22 : decode cX4_isComplete 22 = .ok (.invokevirtual 31, 3) := by decide +kernel
theorem dX4_isComplete_25 : decode cX4_isComplete 25 = .ok (.bipush 45, 2) := by decide +kernel
theorem dX4_isComplete_27 : decode cX4_isComplete 27 = .ok (.if_icmp .ne 7, 3) := by decide +kernel
theorem dX4_isComplete_30 : decode cX4_isComplete 30 = .ok (.iconst 1, 1) := by decide +kernel
theorem dX4_isComplete_31 : decode cX4_isComplete 31 = .ok (.goto 4, 3) := by decide +kernel
theorem dX4_isComplete_34 : decode cX4_isComplete 34 = .ok (.iconst 0, 1) := by decide +kernel
theorem dX4_isComplete_35 : decode cX4_isComplete 35 = .ok (.istore_n 1, 1) := by decide +kernel
theorem dX4_isComplete_36 : decode cX4_isComplete 36 = .ok (.iload_n 1, 1) := by decide +kernel
theorem dX4_isComplete_37 : decode cX4_isComplete 37 = .ok (.ifCond .eq 18, 3) := by decide +kernel
theorem dX4_isComplete_40 : decode cX4_isComplete 40 = .ok (.aload_n 0, 1) := by decide +kernel
theorem dX4_isComplete_41 : decode cX4_isComplete 41 = .ok (.invokevirtual 35, 3) := by decide +kernel
theorem dX4_isComplete_44 : decode cX4_isComplete 44 = .ok (.aload_n 0, 1) := by decide +kernel
theorem dX4_isComplete_45 : decode cX4_isComplete 45 = .ok (.getfield 15, 3) := by decide +kernel
theorem dX4_isComplete_48 : decode cX4_isComplete 48 = .ok (.if_icmp .ne 7, 3) := by decide +kernel
theorem dX4_isComplete_51 : decode cX4_isComplete 51 = .ok (.iconst 1, 1) := by decide +kernel
theorem dX4_isComplete_52 : decode cX4_isComplete 52 = .ok (.goto 4, 3) := by decide +kernel
theorem dX4_isComplete_55 : decode cX4_isComplete 55 = .ok (.iconst 0, 1) := by decide +kernel
theorem dX4_isComplete_56 : decode cX4_isComplete 56 = .ok (.ireturn, 1) := by decide +kernel
set_option maxRecDepth 20000 in
theorem ggX4_from_X4_codeAt : GoodIn wsX4_from wsX4_codeAt := goodIn_r _ [5, 6, 7, 8, 9, 10, 11, 12] (by decide +kernel) (by decide +kernel)
set_option maxRecDepth 20000 in
theorem gX4_from_X4_codeAt : GoodIn wsX4_from (wsV RX4 31 RX4 yX4_codeAt wsX4_codeAt) := goodIn_app (goodIn_of _ (by decide +kernel)) ggX4_from_X4_codeAt
theorem dX4_from_0 : decode cX4_from 0 = .ok (.aload_n 0, 1) := by decide +kernel
theorem dX4_from_1 : decode cX4_from 1 = .ok (.iload_n 1, 1) := by decide +kernel
theorem dX4_from_2 : decode cX4_from 2 = .ok (.invokevirtual 31, 3) := by decide +kernel
theorem dX4_from_5 : decode cX4_from 5 = .ok (.bipush 48, 2) := by decide +kernel
theorem dX4_from_7 : decode cX4_from 7 = .ok (.isub, 1) := by decide +kernel
theorem dX4_from_8 : decode cX4_from 8 = .ok (.ireturn, 1) := by decide +kernel
set_option maxRecDepth 20000 in
theorem ggX4_to_X4_codeAt : GoodIn wsX4_to wsX4_codeAt := goodIn_r _ [5, 6, 7, 8, 9, 10, 11, 12] (by decide +kernel) (by decide +kernel)
set_option maxRecDepth 20000 in
theorem gX4_to_X4_codeAt : GoodIn wsX4_to (wsV RX4 31 RX4 yX4_codeAt wsX4_codeAt) := goodIn_app (goodIn_of _ (by decide +kernel)) ggX4_to_X4_codeAt
theorem dX4_to_0 : decode cX4_to 0 = .ok (.aload_n 0, 1) := by decide +kernel
theorem dX4_to_1 : decode cX4_to 1 = .ok (.iload_n 1, 1) := by decide +kernel
theorem dX4_to_2 : decode cX4_to 2 = .ok (.iconst 2, 1) := by decide +kernel
theorem dX4_to_3 : decode cX4_to 3 = .ok (.iadd, 1) := by decide +kernel
theorem dX4_to_4 : decode cX4_to 4 = .ok (.invokevirtual 31, 3) := by decide +kernel
theorem dX4_to_7 : decode cX4_to 7 = .ok (.bipush 48, 2) := by decide +kernel
theorem dX4_to_9 : decode cX4_to 9 = .ok (.isub, 1) := by decide +kernel
theorem dX4_to_10 : decode cX4_to 10 = .ok (.ireturn, 1) := by decide +kernel
set_option maxRecDepth 20000 in
theorem ggX4_isThrough_X4_codeAt : GoodIn wsX4_isThrough wsX4_codeAt := goodIn_r _ [5, 6, 7, 8, 9, 10, 11, 12] (by decide +kernel) (by decide +kernel)
set_option maxRecDepth 20000 in
theorem gX4_isThrough_X4_codeAt : GoodIn wsX4_isThrough (wsV RX4 31 RX4 yX4_codeAt wsX4_codeAt) := goodIn_app (goodIn_of _ (by decide +kernel)) ggX4_isThrough_X4_codeAt
theorem dX4_isThrough_0 : decode cX4_isThrough 0 = .ok (.aload_n 0, 1) := by decide +kernel
theorem dX4_isThrough_1 : decode cX4_isThrough 1 = .ok (.iload_n 1, 1) := by decide +kernel
theorem dX4_isThrough_2 : decode cX4_isThrough 2 = .ok (.iconst 3, 1) := by decide +kernel
theorem dX4_isThrough_3 : decode cX4_isThrough 3 = .ok (.iadd, 1) := by decide +kernel
theorem dX4_isThrough_4 : decode cX4_isThrough 4 = .ok (.invokevirtual 31, 3) := by decide +kernel
theorem dX4_isThrough_7 : decode cX4_isThrough 7 = .ok (.bipush 33, 2) := by decide +kernel
theorem dX4_isThrough_9 : decode cX4_isThrough 9 = .ok (.if_icmp .ne 7, 3) := by decide +kernel
theorem dX4_isThrough_12 : decode cX4_isThrough 12 = .ok (.iconst 1, 1) := by decide +kernel
theorem dX4_isThrough_13 : decode cX4_isThrough 13 = .ok (.goto 4, 3) := by decide +kernel
theorem dX4_isThrough_16 : decode cX4_isThrough 16 = .ok (.iconst 0, 1) := by decide +kernel
theorem dX4_isThrough_17 : decode cX4_isThrough 17 = .ok (.ireturn, 1) := by decide +kernel
set_option maxRecDepth 20000 in
theorem ggX5_init_X0_init : GoodIn wsX5_init wsX0_init := goodIn_r _ [16, 17, 2, 3, 12, 18, 19, 24, 25] (by decide +kernel) (by decide +kernel)
set_option maxRecDepth 20000 in
theorem gX5_init_X0_init : GoodIn wsX5_init (wsX0_init) := ggX5_init_X0_init
set_option maxRecDepth 20000 in
theorem ggX5_init_X3_init : GoodIn wsX5_init wsX3_init := goodIn_r _ [21, 22, 2, 3, 12, 23, 32, 33] (by decide +kernel) (by decide +kernel)
set_option maxRecDepth 20000 in
theorem gX5_init_X3_init_n20 : GoodIn wsX5_init (wsX3_init) := ggX5_init_X3_init
theorem dX5_init_0 : decode cX5_init 0 = .ok (.aload_n 0, 1) := by decide +kernel
theorem dX5_init_1 : decode cX5_init 1 = .ok (.invokespecial 3, 3) := by decide +kernel
theorem dX5_init_4 : decode cX5_init 4 = .ok (.aload_n 0, 1) := by decide +kernel
theorem dX5_init_5 : decode cX5_init 5 = .ok (.new 9, 3) := by decide +kernel
theorem dX5_init_8 : decode cX5_init 8 = .ok (.dup, 1) := by decide +kernel
theorem dX5_init_9 : decode cX5_init 9 = .ok (.invokespecial 11, 3) := by decide +kernel
theorem dX5_init_12 : decode cX5_init 12 = .ok (.putfield 12, 3) := by decide +kernel
theorem dX5_init_15 : decode cX5_init 15 = .ok (.aload_n 0, 1) := by decide +kernel
theorem dX5_init_16 : decode cX5_init 16 = .ok (.new 18, 3) := by decide +kernel
theorem dX5_init_19 : decode cX5_init 19 = .ok (.dup, 1) := by decide +kernel
theorem dX5_init_20 : decode cX5_init 20 = .ok (.invokespecial 20, 3) := by decide +kernel
theorem dX5_init_23 : decode cX5_init 23 = .ok (.putfield 21, 3) := by decide +kernel
theorem dX5_init_26 : decode cX5_init 26 = .ok (.aload_n 0, 1) := by decide +kernel
theorem dX5_init_27 : decode cX5_init 27 = .ok (.iconst 3, 1) := by decide +kernel
theorem dX5_init_28 : decode cX5_init 28 = .ok (.newarray .int, 2) := by decide +kernel
theorem dX5_init_30 : decode cX5_init 30 = .ok (.dup, 1) := by decide +kernel
theorem dX5_init_31 : decode cX5_init 31 = .ok (.iconst 0, 1) := by decide +kernel
theorem dX5_init_32 : decode cX5_init 32 = .ok (.iconst 3, 1) := by decide +kernel
theorem dX5_init_33 : decode cX5_init 33 = .ok (.iastore, 1) := by decide +kernel
theorem dX5_init_34 : decode cX5_init 34 = .ok (.dup, 1) := by decide +kernel
theorem dX5_init_35 : decode cX5_init 35 = .ok (.iconst 1, 1) := by decide +kernel
theorem dX5_init_36 : decode cX5_init 36 = .ok (.bipush 6, 2) := by decide +kernel
theorem dX5_init_38 : decode cX5_init 38 = .ok (.iastore, 1) := by decide +kernel
theorem dX5_init_39 : decode cX5_init 39 = .ok (.dup, 1) := by decide +kernel
theorem dX5_init_40 : decode cX5_init 40 = .ok (.iconst 2, 1) := by decide +kernel
theorem dX5_init_41 : decode cX5_init 41 = .ok (.bipush 10, 2) := by decide +kernel
theorem dX5_init_43 : decode cX5_init 43 = .ok (.iastore, 1) := by decide +kernel
theorem dX5_init_44 : decode cX5_init 44 = .ok (.putfield 25, 3) := by decide +kernel
theorem dX5_init_47 : decode cX5_init 47 = .ok (.return_, 1) := by decide +kernel
set_option maxRecDepth 20000 in
theorem ggX5_takeOver_X0_takeOver : GoodIn wsX5_takeOver wsX0_takeOver := goodIn_r _ [11, 12, 13, 14, 15, 16, 17, 18, 19, 20, 21, 22, 36, 37] (by decide +kernel) (by decide +kernel)
set_option maxRecDepth 20000 in
theorem gX5_takeOver_X0_takeOver : GoodIn wsX5_takeOver (wsV RX5 29 RX0 yX0_takeOver wsX0_takeOver) := goodIn_app (goodIn_of _ (by decide +kernel)) ggX5_takeOver_X0_takeOver
set_option maxRecDepth 20000 in
theorem ggX5_takeOver_X3_takeOver : GoodIn wsX5_takeOver wsX3_takeOver := goodIn_r _ [27, 28, 29, 14, 15, 16, 17, 18, 19, 20, 21, 22, 38, 39] (by decide +kernel) (by decide +kernel)
set_option maxRecDepth 20000 in
theorem gX5_takeOver_X3_takeOver : GoodIn wsX5_takeOver (wsV RX5 33 RX3 yX3_takeOver wsX3_takeOver) := goodIn_app (goodIn_of _ (by decide +kernel)) ggX5_takeOver_X3_takeOver
set_option maxRecDepth 20000 in
theorem ggX5_takeOver_X6_copyAll : GoodIn wsX5_takeOver wsX6_copyAll := goodIn_r _ [16, 17, 18, 15, 19, 20, 21, 22] (by decide +kernel) (by decide +kernel)
set_option maxRecDepth 20000 in
theorem gX5_takeOver_X6_copyAll_n36 : GoodIn wsX5_takeOver (wsX6_copyAll) := ggX5_takeOver_X6_copyAll
theorem dX5_takeOver_0 : decode cX5_takeOver 0 = .ok (.aload_n 0, 1) := by decide +kernel
theorem dX5_takeOver_1 : decode cX5_takeOver 1 = .ok (.getfield 12, 3) := by decide +kernel
theorem dX5_takeOver_4 : decode cX5_takeOver 4 = .ok (.aload_n 1, 1) := by decide +kernel
theorem dX5_takeOver_5 : decode cX5_takeOver 5 = .ok (.getfield 12, 3) := by decide +kernel
theorem dX5_takeOver_8 : decode cX5_takeOver 8 = .ok (.invokevirtual 29, 3) := by decide +kernel
theorem dX5_takeOver_11 : decode cX5_takeOver 11 = .ok (.aload_n 0, 1) := by decide +kernel
theorem dX5_takeOver_12 : decode cX5_takeOver 12 = .ok (.getfield 21, 3) := by decide +kernel
theorem dX5_takeOver_15 : decode cX5_takeOver 15 = .ok (.aload_n 1, 1) := by decide +kernel
theorem dX5_takeOver_16 : decode cX5_takeOver 16 = .ok (.getfield 21, 3) := by decide +kernel
theorem dX5_takeOver_19 : decode cX5_takeOver 19 = .ok (.invokevirtual 33, 3) := by decide +kernel
theorem dX5_takeOver_22 : decode cX5_takeOver 22 = .ok (.aload_n 1, 1) := by decide +kernel
theorem dX5_takeOver_23 : decode cX5_takeOver 23 = .ok (.getfield 25, 3) := by decide +kernel
theorem dX5_takeOver_26 : decode cX5_takeOver 26 = .ok (.aload_n 0, 1) := by decide +kernel
theorem dX5_takeOver_27 : decode cX5_takeOver 27 = .ok (.getfield 25, 3) := by decide +kernel
theorem dX5_takeOver_30 : decode cX5_takeOver 30 = .ok (.invokestatic 36, 3) := by decide +kernel
theorem dX5_takeOver_33 : decode cX5_takeOver 33 = .ok (.aload_n 0, 1) := by decide +kernel
theorem dX5_takeOver_34 : decode cX5_takeOver 34 = .ok (.aload_n 1, 1) := by decide +kernel
theorem dX5_takeOver_35 : decode cX5_takeOver 35 = .ok (.getfield 40, 3) := by decide +kernel
theorem dX5_takeOver_38 : decode cX5_takeOver 38 = .ok (.putfield 40, 3) := by decide +kernel
theorem dX5_takeOver_41 : decode cX5_takeOver 41 = .ok (.aload_n 0, 1) := by decide +kernel
theorem dX5_takeOver_42 : decode cX5_takeOver 42 = .ok (.aload_n 1, 1) := by decide +kernel
theorem dX5_takeOver_43 : decode cX5_takeOver 43 = .ok (.getfield 44, 3) := by decide +kernel
theorem dX5_takeOver_46 : decode cX5_takeOver 46 = .ok (.putfield 44, 3) := by decide +kernel
theorem dX5_takeOver_49 : decode cX5_takeOver 49 = .ok (.aload_n 0, 1) := by decide +kernel
theorem dX5_takeOver_50 : decode cX5_takeOver 50 = .ok (.aload_n 1, 1) := by decide +kernel
theorem dX5_takeOver_51 : decode cX5_takeOver 51 = .ok (.getfield 47, 3) := by decide +kernel
theorem dX5_takeOver_54 : decode cX5_takeOver 54 = .ok (.putfield 47, 3) := by decide +kernel
theorem dX5_takeOver_57 : decode cX5_takeOver 57 = .ok (.return_, 1) := by decide +kernel
set_option maxRecDepth 20000 in
theorem ggX5_isNight_X6_read : GoodIn wsX5_isNight wsX6_read := goodIn_r _ [4] (by decide +kernel) (by decide +kernel)
set_option maxRecDepth 20000 in
theorem gX5_isNight_X6_read_n50 : GoodIn wsX5_isNight (wsX6_read) := ggX5_isNight_X6_read
theorem dX5_isNight_0 : decode cX5_isNight 0 = .ok (.iload_n 1, 1) := by decide +kernel
theorem dX5_isNight_1 : decode cX5_isNight 1 = .ok (.aload_n 0, 1) := by decide +kernel
theorem dX5_isNight_2 : decode cX5_isNight 2 = .ok (.getfield 25, 3) := by decide +kernel
theorem dX5_isNight_5 : decode cX5_isNight 5 = .ok (.iconst 0, 1) := by decide +kernel
theorem dX5_isNight_6 : decode cX5_isNight 6 = .ok (.invokestatic 50, 3) := by decide +kernel
theorem dX5_isNight_9 : decode cX5_isNight 9 = .ok (.if_icmp .lt 19, 3) := by decide +kernel
theorem dX5_isNight_12 : decode cX5_isNight 12 = .ok (.iload_n 1, 1) := by decide +kernel
theorem dX5_isNight_13 : decode cX5_isNight 13 = .ok (.aload_n 0, 1) := by decide +kernel
theorem dX5_isNight_14 : decode cX5_isNight 14 = .ok (.getfield 25, 3) := by decide +kernel
theorem dX5_isNight_17 : decode cX5_isNight 17 = .ok (.iconst 1, 1) := by decide +kernel
theorem dX5_isNight_18 : decode cX5_isNight 18 = .ok (.invokestatic 50, 3) := by decide +kernel
theorem dX5_isNight_21 : decode cX5_isNight 21 = .ok (.if_icmp .gt 7, 3) := by decide +kernel
theorem dX5_isNight_24 : decode cX5_isNight 24 = .ok (.iconst 1, 1) := by decide +kernel
theorem dX5_isNight_25 : decode cX5_isNight 25 = .ok (.goto 4, 3) := by decide +kernel
theorem dX5_isNight_28 : decode cX5_isNight 28 = .ok (.iconst 0, 1) := by decide +kernel
theorem dX5_isNight_29 : decode cX5_isNight 29 = .ok (.ireturn, 1) := by decide +kernel
set_option maxRecDepth 20000 in
theorem ggX5_findBerths_X0_calmest : GoodIn wsX5_findBerths wsX0_calmest := goodIn_r _ [9, 10, 11, 12, 8, 13, 14, 15, 16, 17, 18, 19, 20, 21, 22, 23, 56, 57] (by decide +kernel) (by decide +kernel)
set_option maxRecDepth 20000 in
theorem gX5_findBerths_X0_calmest : GoodIn wsX5_findBerths (wsV RX5 54 RX0 yX0_calmest wsX0_calmest) := goodIn_app (goodIn_of _ (by decide +kernel)) ggX5_findBerths_X0_calmest
set_option maxRecDepth 20000 in
theorem ggX5_findBerths_X2_init : GoodIn wsX5_findBerths wsX2_init := goodIn_r _ [26, 27, 28, 29, 30, 31, 32, 53, 54, 55] (by decide +kernel) (by decide +kernel)
set_option maxRecDepth 20000 in
theorem gX5_findBerths_X2_init : GoodIn wsX5_findBerths (wsX2_init) := ggX5_findBerths_X2_init
set_option maxRecDepth 20000 in
theorem ggX5_findBerths_X5_calmestChange : GoodIn wsX5_findBerths wsX5_calmestChange := goodIn_r _ [37, 1, 38, 39, 40, 36, 41, 42, 43, 44, 45, 5, 6, 7, 8, 9, 10, 11, 12, 13, 14, 15, 16, 17, 18, 19, 20, 21, 22, 23, 46, 47, 48, 49, 50, 51, 52, 56, 57] (by decide +kernel) (by decide +kernel)
set_option maxRecDepth 20000 in
theorem gX5_findBerths_X5_calmestChange : GoodIn wsX5_findBerths (wsV RX5 63 RX5 yX5_calmestChange wsX5_calmestChange) := goodIn_app (goodIn_of _ (by decide +kernel)) ggX5_findBerths_X5_calmestChange
theorem dX5_findBerths_0 : decode cX5_findBerths 0 = .ok (.aload_n 0, 1) := by decide +kernel
theorem dX5_findBerths_1 : decode cX5_findBerths 1 = .ok (.getfield 12, 3) := by decide +kernel
theorem dX5_findBerths_4 : decode cX5_findBerths 4 = .ok (.iload_n 1, 1) := by decide +kernel
theorem dX5_findBerths_5 : decode cX5_findBerths 5 = .ok (.iload_n 2, 1) := by decide +kernel
theorem dX5_findBerths_6 : decode cX5_findBerths 6 = .ok (.invokevirtual 54, 3) := by decide +kernel
theorem dX5_findBerths_9 : decode cX5_findBerths 9 = .ok (.istore 4, 2) := by decide +kernel
theorem dX5_findBerths_11 : decode cX5_findBerths 11 = .ok (.iload 4, 2) := by decide +kernel
theorem dX5_findBerths_13 : decode cX5_findBerths 13 = .ok (.iconst (-1), 1) := by decide +kernel
theorem dX5_findBerths_14 : decode cX5_findBerths 14 = .ok (.if_icmp .ne 7, 3) := by decide +kernel
theorem dX5_findBerths_17 : decode cX5_findBerths 17 = .ok (.iload_n 3, 1) := by decide +kernel
theorem dX5_findBerths_18 : decode cX5_findBerths 18 = .ok (.ifCond .eq 16, 3) := by decide +kernel
theorem dX5_findBerths_21 : decode cX5_findBerths 21 = .ok (.new 58, 3) := by decide +kernel
theorem dX5_findBerths_24 : decode cX5_findBerths 24 = .ok (.dup, 1) := by decide +kernel
theorem dX5_findBerths_25 : decode cX5_findBerths 25 = .ok (.iload 4, 2) := by decide +kernel
theorem dX5_findBerths_27 : decode cX5_findBerths 27 = .ok (.iload 4, 2) := by decide +kernel
theorem dX5_findBerths_29 : decode cX5_findBerths 29 = .ok (.iconst (-1), 1) := by decide +kernel
theorem dX5_findBerths_30 : decode cX5_findBerths 30 = .ok (.invokespecial 60, 3) := by decide +kernel
theorem dX5_findBerths_33 : decode cX5_findBerths 33 = .ok (.areturn, 1) := by decide +kernel
theorem dX5_findBerths_34 : decode cX5_findBerths 34 = .ok (.aload_n 0, 1) := by decide +kernel
theorem dX5_findBerths_35 : decode cX5_findBerths 35 = .ok (.iload_n 1, 1) := by decide +kernel
theorem dX5_findBerths_36 : decode cX5_findBerths 36 = .ok (.iload_n 2, 1) := by decide +kernel
theorem dX5_findBerths_37 : decode cX5_findBerths 37 = .ok (.invokevirtual 63, 3) := by decide +kernel
theorem dX5_findBerths_40 : decode cX5_findBerths 40 = .ok (.istore 5, 2) := by decide +kernel
theorem dX5_findBerths_42 : decode cX5_findBerths 42 = .ok (.iload 5, 2) := by decide +kernel
theorem dX5_findBerths_44 : decode cX5_findBerths 44 = .ok (.iconst (-1), 1) := by decide +kernel
theorem dX5_findBerths_45 : decode cX5_findBerths 45 = .ok (.if_icmp .ne 14, 3) := by decide +kernel
theorem dX5_findBerths_48 : decode cX5_findBerths 48 = .ok (.new 58, 3) := by decide +kernel
theorem dX5_findBerths_51 : decode cX5_findBerths 51 = .ok (.dup, 1) := by decide +kernel
theorem dX5_findBerths_52 : decode cX5_findBerths 52 = .ok (.iconst (-1), 1) := by decide +kernel
theorem dX5_findBerths_53 : decode cX5_findBerths 53 = .ok (.iconst (-1), 1) := by decide +kernel
theorem dX5_findBerths_54 : decode cX5_findBerths 54 = .ok (.iconst (-1), 1) := by decide +kernel
theorem dX5_findBerths_55 : decode cX5_findBerths 55 = .ok (.invokespecial 60, 3) := by decide +kernel
theorem dX5_findBerths_58 : decode cX5_findBerths 58 = .ok (.areturn, 1) := by decide +kernel
theorem dX5_findBerths_59 : decode cX5_findBerths 59 = .ok (.new 58, 3) := by decide +kernel
theorem dX5_findBerths_62 : decode cX5_findBerths 62 = .ok (.dup, 1) := by decide +kernel
theorem dX5_findBerths_63 : decode cX5_findBerths 63 = .ok (.aload_n 0, 1) := by decide +kernel
theorem dX5_findBerths_64 : decode cX5_findBerths 64 = .ok (.getfield 12, 3) := by decide +kernel
theorem dX5_findBerths_67 : decode cX5_findBerths 67 = .ok (.iload_n 1, 1) := by decide +kernel
theorem dX5_findBerths_68 : decode cX5_findBerths 68 = .ok (.iload 5, 2) := by decide +kernel
theorem dX5_findBerths_70 : decode cX5_findBerths 70 = .ok (.invokevirtual 54, 3) := by decide +kernel
theorem dX5_findBerths_73 : decode cX5_findBerths 73 = .ok (.aload_n 0, 1) := by decide +kernel
theorem dX5_findBerths_74 : decode cX5_findBerths 74 = .ok (.getfield 12, 3) := by decide +kernel
theorem dX5_findBerths_77 : decode cX5_findBerths 77 = .ok (.iload 5, 2) := by decide +kernel
theorem dX5_findBerths_79 : decode cX5_findBerths 79 = .ok (.iload_n 2, 1) := by decide +kernel
theorem dX5_findBerths_80 : decode cX5_findBerths 80 = .ok (.invokevirtual 54, 3) := by decide +kernel
theorem dX5_findBerths_83 : decode cX5_findBerths 83 = .ok (.iload 5, 2) := by decide +kernel
theorem dX5_findBerths_85 : decode cX5_findBerths 85 = .ok (.invokespecial 60, 3) := by decide +kernel
theorem dX5_findBerths_88 : decode cX5_findBerths 88 = .ok (.areturn, 1) := by decide +kernel
set_option maxRecDepth 20000 in
theorem ggX5_calmestChange_X5_isNight : GoodIn wsX5_calmestChange wsX5_isNight := goodIn_r _ [6, 7, 8, 9, 10, 31, 32, 33, 34, 35, 36] (by decide +kernel) (by decide +kernel)
set_option maxRecDepth 20000 in
theorem gX5_calmestChange_X5_isNight : GoodIn wsX5_calmestChange (wsV RX5 66 RX5 yX5_isNight wsX5_isNight) := goodIn_app (goodIn_of _ (by decide +kernel)) ggX5_calmestChange_X5_isNight
set_option maxRecDepth 20000 in
theorem ggX5_calmestChange_X0_calmest : GoodIn wsX5_calmestChange wsX0_calmest := goodIn_r _ [15, 16, 17, 18, 14, 19, 20, 21, 22, 23, 24, 25, 26, 27, 28, 29, 37, 38] (by decide +kernel) (by decide +kernel)
set_option maxRecDepth 20000 in
theorem gX5_calmestChange_X0_calmest : GoodIn wsX5_calmestChange (wsV RX5 54 RX0 yX0_calmest wsX0_calmest) := goodIn_app (goodIn_of _ (by decide +kernel)) ggX5_calmestChange_X0_calmest
set_option maxRecDepth 20000 in
theorem ggX5_calmestChange_X0_wokenIn : GoodIn wsX5_calmestChange wsX0_wokenIn := goodIn_r _ [29, 25, 37, 38] (by decide +kernel) (by decide +kernel)
set_option maxRecDepth 20000 in
theorem gX5_calmestChange_X0_wokenIn : GoodIn wsX5_calmestChange (wsV RX5 70 RX0 yX0_wokenIn wsX0_wokenIn) := goodIn_app (goodIn_of _ (by decide +kernel)) ggX5_calmestChange_X0_wokenIn
theorem dX5_calmestChange_0 : decode cX5_calmestChange 0 = .ok (.iconst (-1), 1) := by decide +kernel
theorem dX5_calmestChange_1 : decode cX5_calmestChange 1 = .ok (.istore_n 3, 1) := by decide +kernel
theorem dX5_calmestChange_2 : decode cX5_calmestChange 2 = .ok (.iconst 0, 1) := by decide +kernel
theorem dX5_calmestChange_3 : decode cX5_calmestChange 3 = .ok (.istore 4, 2) := by decide +kernel
theorem dX5_calmestChange_5 : decode cX5_calmestChange 5 = .ok (.iload_n 1, 1) := by decide +kernel
theorem dX5_calmestChange_6 : decode cX5_calmestChange 6 = .ok (.iconst 1, 1) := by decide +kernel
theorem dX5_calmestChange_7 : decode cX5_calmestChange 7 = .ok (.iadd, 1) := by decide +kernel
theorem dX5_calmestChange_8 : decode cX5_calmestChange 8 = .ok (.istore 5, 2) := by decide +kernel
theorem dX5_calmestChange_10 : decode cX5_calmestChange 10 = .ok (.iload 5, 2) := by decide +kernel
theorem dX5_calmestChange_12 : decode cX5_calmestChange 12 = .ok (.iload_n 2, 1) := by decide +kernel
theorem dX5_calmestChange_13 : decode cX5_calmestChange 13 = .ok (.if_icmp .ge 108, 3) := by decide +kernel
theorem dX5_calmestChange_16 : decode cX5_calmestChange 16 = .ok (.aload_n 0, 1) := by decide +kernel
theorem dX5_calmestChange_17 : decode cX5_calmestChange 17 = .ok (.iload 5, 2) := by decide +kernel
theorem dX5_calmestChange_19 : decode cX5_calmestChange 19 = .ok (.invokevirtual 66, 3) := by decide +kernel
theorem dX5_calmestChange_22 : decode cX5_calmestChange 22 = .ok (.ifCond .eq 7, 3) := by decide +kernel
theorem dX5_calmestChange_25 : decode cX5_calmestChange 25 = .ok (.iconst (-1), 1) := by decide +kernel
theorem dX5_calmestChange_26 : decode cX5_calmestChange 26 = .ok (.goto 13, 3) := by decide +kernel
theorem dX5_calmestChange_29 : decode cX5_calmestChange 29 = .ok (.aload_n 0, 1) := by decide +kernel
theorem dX5_calmestChange_30 : decode cX5_calmestChange 30 = .ok (.getfield 12, 3) := by decide +kernel
theorem dX5_calmestChange_33 : decode cX5_calmestChange 33 = .ok (.iload_n 1, 1) := by decide +kernel
theorem dX5_calmestChange_34 : decode cX5_calmestChange 34 = .ok (.iload 5, 2) := by decide +kernel
theorem dX5_calmestChange_36 : decode cX5_calmestChange 36 = .ok (.invokevirtual 54, 3) := by decide +kernel
theorem dX5_calmestChange_39 : decode cX5_calmestChange 39 = .ok (.istore 6, 2) := by decide +kernel
theorem dX5_calmestChange_41 : decode cX5_calmestChange 41 = .ok (.iload 6, 2) := by decide +kernel
theorem dX5_calmestChange_43 : decode cX5_calmestChange 43 = .ok (.iconst (-1), 1) := by decide +kernel
theorem dX5_calmestChange_44 : decode cX5_calmestChange 44 = .ok (.if_icmp .ne 7, 3) := by decide +kernel
theorem dX5_calmestChange_47 : decode cX5_calmestChange 47 = .ok (.iconst (-1), 1) := by decide +kernel
theorem dX5_calmestChange_48 : decode cX5_calmestChange 48 = .ok (.goto 13, 3) := by decide +kernel
theorem dX5_calmestChange_51 : decode cX5_calmestChange 51 = .ok (.aload_n 0, 1) := by decide +kernel
theorem dX5_calmestChange_52 : decode cX5_calmestChange 52 = .ok (.getfield 12, 3) := by decide +kernel
theorem dX5_calmestChange_55 : decode cX5_calmestChange 55 = .ok (.iload 5, 2) := by decide +kernel
theorem dX5_calmestChange_57 : decode cX5_calmestChange 57 = .ok (.iload_n 2, 1) := by decide +kernel
theorem dX5_calmestChange_58 : decode cX5_calmestChange 58 = .ok (.invokevirtual 54, 3) := by decide +kernel
theorem dX5_calmestChange_61 : decode cX5_calmestChange 61 = .ok (.istore 7, 2) := by decide +kernel
theorem dX5_calmestChange_63 : decode cX5_calmestChange 63 = .ok (.iload 7, 2) := by decide +kernel
theorem dX5_calmestChange_65 : decode cX5_calmestChange 65 = .ok (.iconst (-1), 1) := by decide +kernel
theorem dX5_calmestChange_66 : decode cX5_calmestChange 66 = .ok (.if_icmp .eq 49, 3) := by decide +kernel
theorem dX5_calmestChange_69 : decode cX5_calmestChange 69 = .ok (.aload_n 0, 1) := by decide +kernel
theorem dX5_calmestChange_70 : decode cX5_calmestChange 70 = .ok (.getfield 12, 3) := by decide +kernel
theorem dX5_calmestChange_73 : decode cX5_calmestChange 73 = .ok (.iload 6, 2) := by decide +kernel
theorem dX5_calmestChange_75 : decode cX5_calmestChange 75 = .ok (.iload_n 1, 1) := by decide +kernel
theorem dX5_calmestChange_76 : decode cX5_calmestChange 76 = .ok (.iload 5, 2) := by decide +kernel
theorem dX5_calmestChange_78 : decode cX5_calmestChange 78 = .ok (.invokevirtual 70, 3) := by decide +kernel
theorem dX5_calmestChange_81 : decode cX5_calmestChange 81 = .ok (.aload_n 0, 1) := by decide +kernel
theorem dX5_calmestChange_82 : decode cX5_calmestChange 82 = .ok (.getfield 12, 3) := by decide +kernel
theorem dX5_calmestChange_85 : decode cX5_calmestChange 85 = .ok (.iload 7, 2) := by decide +kernel
theorem dX5_calmestChange_87 : decode cX5_calmestChange 87 = .ok (.iload 5, 2) := by decide +kernel
theorem dX5_calmestChange_89 : decode cX5_calmestChange 89 = .ok (.iload_n 2, 1) := by decide +kernel
theorem dX5_calmestChange_90 : decode cX5_calmestChange 90 = .ok (.invokevirtual 70, 3) := by decide +kernel
theorem dX5_calmestChange_93 : decode cX5_calmestChange 93 = .ok (.iadd, 1) := by decide +kernel
theorem dX5_calmestChange_94 : decode cX5_calmestChange 94 = .ok (.istore 8, 2) := by decide +kernel
theorem dX5_calmestChange_96 : decode cX5_calmestChange 96 = .ok (.iload_n 3, 1) := by decide +kernel
theorem dX5_calmestChange_97 : decode cX5_calmestChange 97 = .ok (.iconst (-1), 1) := by decide +kernel
theorem dX5_calmestChange_98 : decode cX5_calmestChange 98 = .ok (.if_icmp .eq 10, 3) := by decide +kernel
theorem dX5_calmestChange_101 : decode cX5_calmestChange 101 = .ok (.iload 8, 2) := by decide +kernel
theorem dX5_calmestChange_103 : decode cX5_calmestChange 103 = .ok (.iload 4, 2) := by decide +kernel
theorem dX5_calmestChange_105 : decode cX5_calmestChange 105 = .ok (.if_icmp .ge 10, 3) := by decide +kernel
theorem dX5_calmestChange_108 : decode cX5_calmestChange 108 = .ok (.iload 5, 2) := by decide +kernel
theorem dX5_calmestChange_110 : decode cX5_calmestChange 110 = .ok (.istore_n 3, 1) := by decide +kernel
theorem dX5_calmestChange_111 : decode cX5_calmestChange 111 = .ok (.iload 8, 2) := by decide +kernel
theorem dX5_calmestChange_113 : decode cX5_calmestChange 113 = .ok (.istore 4, 2) := by decide +kernel
theorem dX5_calmestChange_115 : decode cX5_calmestChange 115 = .ok (.iinc 5 1, 3) := by decide +kernel
theorem dX5_calmestChange_118 : decode cX5_calmestChange 118 = .ok (.goto (-108), 3) := by decide +kernel
theorem dX5_calmestChange_121 : decode cX5_calmestChange 121 = .ok (.iload_n 3, 1) := by decide +kernel
theorem dX5_calmestChange_122 : decode cX5_calmestChange 122 = .ok (.ireturn, 1) := by decide +kernel
set_option maxRecDepth 20000 in
theorem ggX5_findAnew_X5_giveBerths : GoodIn wsX5_findAnew wsX5_giveBerths := goodIn_r _ [6, 1, 7, 8, 9, 10, 11, 12, 13, 14, 15, 16, 17, 18, 19, 20, 21, 22, 23, 24, 25, 26, 27, 73, 74, 75, 76, 77, 78, 79, 80, 81, 82] (by decide +kernel) (by decide +kernel)
set_option maxRecDepth 20000 in
theorem gX5_findAnew_X5_giveBerths : GoodIn wsX5_findAnew (wsV RX5 74 RX5 yX5_giveBerths wsX5_giveBerths) := goodIn_app (goodIn_of _ (by decide +kernel)) ggX5_findAnew_X5_giveBerths
set_option maxRecDepth 20000 in
theorem ggX5_findAnew_X3_at : GoodIn wsX5_findAnew wsX3_at := goodIn_r _ [16, 17, 79, 80] (by decide +kernel) (by decide +kernel)
set_option maxRecDepth 20000 in
theorem gX5_findAnew_X3_at : GoodIn wsX5_findAnew (wsV RX5 78 RX3 yX3_at wsX3_at) := goodIn_app (goodIn_of _ (by decide +kernel)) ggX5_findAnew_X3_at
set_option maxRecDepth 20000 in
theorem ggX5_findAnew_X5_findBerths : GoodIn wsX5_findAnew wsX5_findBerths := goodIn_r _ [31, 7, 32, 33, 34, 35, 36, 37, 22, 38, 39, 40, 41, 42, 43, 44, 45, 46, 47, 24, 48, 49, 50, 51, 52, 53, 54, 55, 56, 57, 58, 59, 60, 61, 62, 63, 5, 64, 65, 66, 67, 68, 69, 70, 26, 71, 72, 73, 74, 75, 76, 77, 78, 83, 84, 85, 81, 82] (by decide +kernel) (by decide +kernel)
set_option maxRecDepth 20000 in
theorem gX5_findAnew_X5_findBerths : GoodIn wsX5_findAnew (wsV RX5 81 RX5 yX5_findBerths wsX5_findBerths) := goodIn_app (goodIn_of _ (by decide +kernel)) ggX5_findAnew_X5_findBerths
theorem dX5_findAnew_0 : decode cX5_findAnew 0 = .ok (.aload_n 0, 1) := by decide +kernel
theorem dX5_findAnew_1 : decode cX5_findAnew 1 = .ok (.iload_n 1, 1) := by decide +kernel
theorem dX5_findAnew_2 : decode cX5_findAnew 2 = .ok (.iconst (-1), 1) := by decide +kernel
theorem dX5_findAnew_3 : decode cX5_findAnew 3 = .ok (.invokevirtual 74, 3) := by decide +kernel
theorem dX5_findAnew_6 : decode cX5_findAnew 6 = .ok (.aload_n 0, 1) := by decide +kernel
theorem dX5_findAnew_7 : decode cX5_findAnew 7 = .ok (.aload_n 0, 1) := by decide +kernel
theorem dX5_findAnew_8 : decode cX5_findAnew 8 = .ok (.getfield 21, 3) := by decide +kernel
theorem dX5_findAnew_11 : decode cX5_findAnew 11 = .ok (.iload_n 1, 1) := by decide +kernel
theorem dX5_findAnew_12 : decode cX5_findAnew 12 = .ok (.iconst 1, 1) := by decide +kernel
theorem dX5_findAnew_13 : decode cX5_findAnew 13 = .ok (.invokevirtual 78, 3) := by decide +kernel
theorem dX5_findAnew_16 : decode cX5_findAnew 16 = .ok (.aload_n 0, 1) := by decide +kernel
theorem dX5_findAnew_17 : decode cX5_findAnew 17 = .ok (.getfield 21, 3) := by decide +kernel
theorem dX5_findAnew_20 : decode cX5_findAnew 20 = .ok (.iload_n 1, 1) := by decide +kernel
theorem dX5_findAnew_21 : decode cX5_findAnew 21 = .ok (.iconst 2, 1) := by decide +kernel
theorem dX5_findAnew_22 : decode cX5_findAnew 22 = .ok (.invokevirtual 78, 3) := by decide +kernel
theorem dX5_findAnew_25 : decode cX5_findAnew 25 = .ok (.iconst 0, 1) := by decide +kernel
theorem dX5_findAnew_26 : decode cX5_findAnew 26 = .ok (.invokevirtual 81, 3) := by decide +kernel
theorem dX5_findAnew_29 : decode cX5_findAnew 29 = .ok (.astore_n 2, 1) := by decide +kernel
theorem dX5_findAnew_30 : decode cX5_findAnew 30 = .ok (.aload_n 0, 1) := by decide +kernel
theorem dX5_findAnew_31 : decode cX5_findAnew 31 = .ok (.iload_n 1, 1) := by decide +kernel
theorem dX5_findAnew_32 : decode cX5_findAnew 32 = .ok (.aload_n 0, 1) := by decide +kernel
theorem dX5_findAnew_33 : decode cX5_findAnew 33 = .ok (.getfield 21, 3) := by decide +kernel
theorem dX5_findAnew_36 : decode cX5_findAnew 36 = .ok (.iload_n 1, 1) := by decide +kernel
theorem dX5_findAnew_37 : decode cX5_findAnew 37 = .ok (.iconst 0, 1) := by decide +kernel
theorem dX5_findAnew_38 : decode cX5_findAnew 38 = .ok (.invokevirtual 78, 3) := by decide +kernel
theorem dX5_findAnew_41 : decode cX5_findAnew 41 = .ok (.invokevirtual 74, 3) := by decide +kernel
theorem dX5_findAnew_44 : decode cX5_findAnew 44 = .ok (.aload_n 2, 1) := by decide +kernel
theorem dX5_findAnew_45 : decode cX5_findAnew 45 = .ok (.areturn, 1) := by decide +kernel
set_option maxRecDepth 20000 in
theorem ggX5_admit_X3_addRow : GoodIn wsX5_admit wsX3_addRow := goodIn_r _ [8, 9, 10, 11, 12, 7, 13, 14, 15, 16, 17, 52, 53] (by decide +kernel) (by decide +kernel)
set_option maxRecDepth 20000 in
theorem gX5_admit_X3_addRow : GoodIn wsX5_admit (wsV RX5 85 RX3 yX3_addRow wsX3_addRow) := goodIn_app (goodIn_of _ (by decide +kernel)) ggX5_admit_X3_addRow
set_option maxRecDepth 20000 in
theorem ggX5_admit_X3_putBerths : GoodIn wsX5_admit wsX3_putBerths := goodIn_r _ [21, 22, 23, 24, 10, 11, 12, 7, 13, 14, 15, 16, 17, 54, 55, 56, 52, 53] (by decide +kernel) (by decide +kernel)
set_option maxRecDepth 20000 in
theorem gX5_admit_X3_putBerths : GoodIn wsX5_admit (wsV RX5 89 RX3 yX3_putBerths wsX3_putBerths) := goodIn_app (goodIn_of _ (by decide +kernel)) ggX5_admit_X3_putBerths
set_option maxRecDepth 20000 in
theorem ggX5_admit_X5_giveBerths : GoodIn wsX5_admit wsX5_giveBerths := goodIn_r _ [29, 2, 30, 31, 32, 33, 7, 34, 35, 36, 37, 38, 14, 39, 40, 41, 42, 43, 44, 45, 15, 16, 17, 46, 47, 48, 49, 50, 51, 52, 53, 57, 58] (by decide +kernel) (by decide +kernel)
set_option maxRecDepth 20000 in
theorem gX5_admit_X5_giveBerths : GoodIn wsX5_admit (wsV RX5 74 RX5 yX5_giveBerths wsX5_giveBerths) := goodIn_app (goodIn_of _ (by decide +kernel)) ggX5_admit_X5_giveBerths
theorem dX5_admit_0 : decode cX5_admit 0 = .ok (.aload_n 0, 1) := by decide +kernel
theorem dX5_admit_1 : decode cX5_admit 1 = .ok (.getfield 40, 3) := by decide +kernel
theorem dX5_admit_4 : decode cX5_admit 4 = .ok (.istore 5, 2) := by decide +kernel
theorem dX5_admit_6 : decode cX5_admit 6 = .ok (.aload_n 0, 1) := by decide +kernel
theorem dX5_admit_7 : decode cX5_admit 7 = .ok (.getfield 21, 3) := by decide +kernel
theorem dX5_admit_10 : decode cX5_admit 10 = .ok (.iload 5, 2) := by decide +kernel
theorem dX5_admit_12 : decode cX5_admit 12 = .ok (.iload_n 1, 1) := by decide +kernel
theorem dX5_admit_13 : decode cX5_admit 13 = .ok (.iload_n 2, 1) := by decide +kernel
theorem dX5_admit_14 : decode cX5_admit 14 = .ok (.iload_n 3, 1) := by decide +kernel
theorem dX5_admit_15 : decode cX5_admit 15 = .ok (.invokevirtual 85, 3) := by decide +kernel
theorem dX5_admit_18 : decode cX5_admit 18 = .ok (.istore 6, 2) := by decide +kernel
theorem dX5_admit_20 : decode cX5_admit 20 = .ok (.aload_n 0, 1) := by decide +kernel
theorem dX5_admit_21 : decode cX5_admit 21 = .ok (.getfield 21, 3) := by decide +kernel
theorem dX5_admit_24 : decode cX5_admit 24 = .ok (.iload 6, 2) := by decide +kernel
theorem dX5_admit_26 : decode cX5_admit 26 = .ok (.aload 4, 2) := by decide +kernel
theorem dX5_admit_28 : decode cX5_admit 28 = .ok (.invokevirtual 89, 3) := by decide +kernel
theorem dX5_admit_31 : decode cX5_admit 31 = .ok (.aload_n 0, 1) := by decide +kernel
theorem dX5_admit_32 : decode cX5_admit 32 = .ok (.iload 6, 2) := by decide +kernel
theorem dX5_admit_34 : decode cX5_admit 34 = .ok (.iload 5, 2) := by decide +kernel
theorem dX5_admit_36 : decode cX5_admit 36 = .ok (.invokevirtual 74, 3) := by decide +kernel
theorem dX5_admit_39 : decode cX5_admit 39 = .ok (.aload_n 0, 1) := by decide +kernel
theorem dX5_admit_40 : decode cX5_admit 40 = .ok (.dup, 1) := by decide +kernel
theorem dX5_admit_41 : decode cX5_admit 41 = .ok (.getfield 40, 3) := by decide +kernel
theorem dX5_admit_44 : decode cX5_admit 44 = .ok (.iconst 1, 1) := by decide +kernel
theorem dX5_admit_45 : decode cX5_admit 45 = .ok (.iadd, 1) := by decide +kernel
theorem dX5_admit_46 : decode cX5_admit 46 = .ok (.putfield 40, 3) := by decide +kernel
theorem dX5_admit_49 : decode cX5_admit 49 = .ok (.aload_n 0, 1) := by decide +kernel
theorem dX5_admit_50 : decode cX5_admit 50 = .ok (.dup, 1) := by decide +kernel
theorem dX5_admit_51 : decode cX5_admit 51 = .ok (.getfield 44, 3) := by decide +kernel
theorem dX5_admit_54 : decode cX5_admit 54 = .ok (.iconst 1, 1) := by decide +kernel
theorem dX5_admit_55 : decode cX5_admit 55 = .ok (.iadd, 1) := by decide +kernel
theorem dX5_admit_56 : decode cX5_admit 56 = .ok (.putfield 44, 3) := by decide +kernel
theorem dX5_admit_59 : decode cX5_admit 59 = .ok (.iload 5, 2) := by decide +kernel
theorem dX5_admit_61 : decode cX5_admit 61 = .ok (.ireturn, 1) := by decide +kernel
set_option maxRecDepth 20000 in
theorem ggX5_admitOrLeaveOut_X5_findBerths : GoodIn wsX5_admitOrLeaveOut wsX5_findBerths := goodIn_r _ [7, 8, 9, 10, 11, 12, 13, 14, 15, 16, 17, 18, 19, 20, 21, 22, 23, 24, 25, 26, 27, 28, 29, 30, 31, 32, 33, 34, 35, 36, 37, 38, 39, 40, 41, 42, 6, 43, 44, 45, 46, 47, 48, 49, 50, 51, 52, 104, 105, 106, 107, 108, 109, 110, 111, 112, 113, 114] (by decide +kernel) (by decide +kernel)
set_option maxRecDepth 20000 in
theorem gX5_admitOrLeaveOut_X5_findBerths : GoodIn wsX5_admitOrLeaveOut (wsV RX5 81 RX5 yX5_findBerths wsX5_findBerths) := goodIn_app (goodIn_of _ (by decide +kernel)) ggX5_admitOrLeaveOut_X5_findBerths
set_option maxRecDepth 20000 in
theorem ggX5_admitOrLeaveOut_X3_isFull : GoodIn wsX5_admitOrLeaveOut wsX3_isFull := goodIn_r _ [57, 58, 115, 116] (by decide +kernel) (by decide +kernel)
set_option maxRecDepth 20000 in
theorem gX5_admitOrLeaveOut_X3_isFull : GoodIn wsX5_admitOrLeaveOut (wsV RX5 93 RX3 yX3_isFull wsX3_isFull) := goodIn_app (goodIn_of _ (by decide +kernel)) ggX5_admitOrLeaveOut_X3_isFull
set_option maxRecDepth 20000 in
theorem ggX5_admitOrLeaveOut_X2_isRefused : GoodIn wsX5_admitOrLeaveOut wsX2_isRefused := goodIn_r _ [62, 37, 110, 111, 112] (by decide +kernel) (by decide +kernel)
set_option maxRecDepth 20000 in
theorem gX5_admitOrLeaveOut_X2_isRefused : GoodIn wsX5_admitOrLeaveOut (wsV RX5 97 RX2 yX2_isRefused wsX2_isRefused) := goodIn_app (goodIn_of _ (by decide +kernel)) ggX5_admitOrLeaveOut_X2_isRefused
set_option maxRecDepth 20000 in
theorem ggX5_admitOrLeaveOut_X5_admit : GoodIn wsX5_admitOrLeaveOut wsX5_admit := goodIn_r _ [66, 67, 1, 68, 69, 70, 71, 56, 72, 58, 73, 74, 75, 76, 77, 78, 50, 79, 80, 81, 82, 83, 84, 85, 86, 87, 88, 89, 6, 90, 8, 91, 92, 93, 94, 95, 96, 97, 98, 99, 100, 101, 102, 15, 103, 26, 104, 105, 106, 107, 108, 109, 115, 116, 110, 111, 112, 113, 114] (by decide +kernel) (by decide +kernel)
set_option maxRecDepth 20000 in
theorem gX5_admitOrLeaveOut_X5_admit : GoodIn wsX5_admitOrLeaveOut (wsV RX5 100 RX5 yX5_admit wsX5_admit) := goodIn_app (goodIn_of _ (by decide +kernel)) ggX5_admitOrLeaveOut_X5_admit
theorem dX5_admitOrLeaveOut_0 : decode cX5_admitOrLeaveOut 0 = .ok (.aload_n 0, 1) := by decide +kernel
theorem dX5_admitOrLeaveOut_1 : decode cX5_admitOrLeaveOut 1 = .ok (.iload_n 1, 1) := by decide +kernel
theorem dX5_admitOrLeaveOut_2 : decode cX5_admitOrLeaveOut 2 = .ok (.iload_n 2, 1) := by decide +kernel
theorem dX5_admitOrLeaveOut_3 : decode cX5_admitOrLeaveOut 3 = .ok (.iload_n 3, 1) := by decide +kernel
theorem dX5_admitOrLeaveOut_4 : decode cX5_admitOrLeaveOut 4 = .ok (.invokevirtual 81, 3) := by decide +kernel
theorem dX5_admitOrLeaveOut_7 : decode cX5_admitOrLeaveOut 7 = .ok (.astore 4, 2) := by decide +kernel
theorem dX5_admitOrLeaveOut_9 : decode cX5_admitOrLeaveOut 9 = .ok (.aload_n 0, 1) := by decide +kernel
theorem dX5_admitOrLeaveOut_10 : decode cX5_admitOrLeaveOut 10 = .ok (.getfield 21, 3) := by decide +kernel
theorem dX5_admitOrLeaveOut_13 : decode cX5_admitOrLeaveOut 13 = .ok (.invokevirtual 93, 3) := by decide +kernel
theorem dX5_admitOrLeaveOut_16 : decode cX5_admitOrLeaveOut 16 = .ok (.ifCond .ne 11, 3) := by decide +kernel
theorem dX5_admitOrLeaveOut_19 : decode cX5_admitOrLeaveOut 19 = .ok (.aload 4, 2) := by decide +kernel
theorem dX5_admitOrLeaveOut_21 : decode cX5_admitOrLeaveOut 21 = .ok (.invokevirtual 97, 3) := by decide +kernel
theorem dX5_admitOrLeaveOut_24 : decode cX5_admitOrLeaveOut 24 = .ok (.ifCond .eq 15, 3) := by decide +kernel
theorem dX5_admitOrLeaveOut_27 : decode cX5_admitOrLeaveOut 27 = .ok (.aload_n 0, 1) := by decide +kernel
theorem dX5_admitOrLeaveOut_28 : decode cX5_admitOrLeaveOut 28 = .ok (.dup, 1) := by decide +kernel
theorem dX5_admitOrLeaveOut_29 : decode cX5_admitOrLeaveOut 29 = .ok (.getfield 47, 3) := by decide +kernel
theorem dX5_admitOrLeaveOut_32 : decode cX5_admitOrLeaveOut 32 = .ok (.iconst 1, 1) := by decide +kernel
theorem dX5_admitOrLeaveOut_33 : decode cX5_admitOrLeaveOut 33 = .ok (.iadd, 1) := by decide +kernel
theorem dX5_admitOrLeaveOut_34 : decode cX5_admitOrLeaveOut 34 = .ok (.putfield 47, 3) := by decide +kernel
theorem dX5_admitOrLeaveOut_37 : decode cX5_admitOrLeaveOut 37 = .ok (.iconst 0, 1) := by decide +kernel
theorem dX5_admitOrLeaveOut_38 : decode cX5_admitOrLeaveOut 38 = .ok (.ireturn, 1) := by decide +kernel
theorem dX5_admitOrLeaveOut_39 : decode cX5_admitOrLeaveOut 39 = .ok (.aload_n 0, 1) := by decide +kernel
theorem dX5_admitOrLeaveOut_40 : decode cX5_admitOrLeaveOut 40 = .ok (.iload_n 1, 1) := by decide +kernel
theorem dX5_admitOrLeaveOut_41 : decode cX5_admitOrLeaveOut 41 = .ok (.iload_n 2, 1) := by decide +kernel
theorem dX5_admitOrLeaveOut_42 : decode cX5_admitOrLeaveOut 42 = .ok (.iload_n 3, 1) := by decide +kernel
theorem dX5_admitOrLeaveOut_43 : decode cX5_admitOrLeaveOut 43 = .ok (.aload 4, 2) := by decide +kernel
theorem dX5_admitOrLeaveOut_45 : decode cX5_admitOrLeaveOut 45 = .ok (.invokevirtual 100, 3) := by decide +kernel
theorem dX5_admitOrLeaveOut_48 : decode cX5_admitOrLeaveOut 48 = .ok (.pop, 1) := by decide +kernel
theorem dX5_admitOrLeaveOut_49 : decode cX5_admitOrLeaveOut 49 = .ok (.iconst 1, 1) := by decide +kernel
theorem dX5_admitOrLeaveOut_50 : decode cX5_admitOrLeaveOut 50 = .ok (.ireturn, 1) := by decide +kernel
set_option maxRecDepth 20000 in
theorem ggX5_dismiss_X5_giveBerths : GoodIn wsX5_dismiss wsX5_giveBerths := goodIn_r _ [6, 1, 7, 8, 9, 10, 11, 12, 13, 14, 15, 16, 17, 18, 19, 20, 21, 22, 23, 24, 25, 26, 27, 37, 38, 39, 40, 41, 42, 43, 44, 45, 46] (by decide +kernel) (by decide +kernel)
set_option maxRecDepth 20000 in
theorem gX5_dismiss_X5_giveBerths : GoodIn wsX5_dismiss (wsV RX5 74 RX5 yX5_giveBerths wsX5_giveBerths) := goodIn_app (goodIn_of _ (by decide +kernel)) ggX5_dismiss_X5_giveBerths
set_option maxRecDepth 20000 in
theorem ggX5_dismiss_X3_dropRow : GoodIn wsX5_dismiss wsX3_dropRow := goodIn_r _ [31, 32, 13, 14, 15, 11, 16, 17, 33, 34, 35, 36, 25, 26, 27, 43, 44] (by decide +kernel) (by decide +kernel)
set_option maxRecDepth 20000 in
theorem gX5_dismiss_X3_dropRow : GoodIn wsX5_dismiss (wsV RX5 104 RX3 yX3_dropRow wsX3_dropRow) := goodIn_app (goodIn_of _ (by decide +kernel)) ggX5_dismiss_X3_dropRow
theorem dX5_dismiss_0 : decode cX5_dismiss 0 = .ok (.aload_n 0, 1) := by decide +kernel
theorem dX5_dismiss_1 : decode cX5_dismiss 1 = .ok (.iload_n 1, 1) := by decide +kernel
theorem dX5_dismiss_2 : decode cX5_dismiss 2 = .ok (.iconst (-1), 1) := by decide +kernel
theorem dX5_dismiss_3 : decode cX5_dismiss 3 = .ok (.invokevirtual 74, 3) := by decide +kernel
theorem dX5_dismiss_6 : decode cX5_dismiss 6 = .ok (.aload_n 0, 1) := by decide +kernel
theorem dX5_dismiss_7 : decode cX5_dismiss 7 = .ok (.getfield 21, 3) := by decide +kernel
theorem dX5_dismiss_10 : decode cX5_dismiss 10 = .ok (.iload_n 1, 1) := by decide +kernel
theorem dX5_dismiss_11 : decode cX5_dismiss 11 = .ok (.invokevirtual 104, 3) := by decide +kernel
theorem dX5_dismiss_14 : decode cX5_dismiss 14 = .ok (.return_, 1) := by decide +kernel
set_option maxRecDepth 20000 in
theorem ggX5_reseat_X5_giveBerths : GoodIn wsX5_reseat wsX5_giveBerths := goodIn_r _ [6, 1, 7, 8, 9, 10, 11, 12, 13, 14, 15, 16, 17, 18, 19, 20, 21, 22, 23, 24, 25, 26, 27, 39, 40, 41, 42, 43, 44, 45, 46, 47, 48] (by decide +kernel) (by decide +kernel)
set_option maxRecDepth 20000 in
theorem gX5_reseat_X5_giveBerths : GoodIn wsX5_reseat (wsV RX5 74 RX5 yX5_giveBerths wsX5_giveBerths) := goodIn_app (goodIn_of _ (by decide +kernel)) ggX5_reseat_X5_giveBerths
set_option maxRecDepth 20000 in
theorem ggX5_reseat_X3_putBerths : GoodIn wsX5_reseat wsX3_putBerths := goodIn_r _ [31, 32, 33, 34, 35, 36, 37, 11, 38, 17, 25, 26, 27, 49, 50, 51, 45, 46] (by decide +kernel) (by decide +kernel)
set_option maxRecDepth 20000 in
theorem gX5_reseat_X3_putBerths : GoodIn wsX5_reseat (wsV RX5 89 RX3 yX3_putBerths wsX3_putBerths) := goodIn_app (goodIn_of _ (by decide +kernel)) ggX5_reseat_X3_putBerths
set_option maxRecDepth 20000 in
theorem ggX5_reseat_X3_at : GoodIn wsX5_reseat wsX3_at := goodIn_r _ [16, 17, 45, 46] (by decide +kernel) (by decide +kernel)
set_option maxRecDepth 20000 in
theorem gX5_reseat_X3_at : GoodIn wsX5_reseat (wsV RX5 78 RX3 yX3_at wsX3_at) := goodIn_app (goodIn_of _ (by decide +kernel)) ggX5_reseat_X3_at
theorem dX5_reseat_0 : decode cX5_reseat 0 = .ok (.aload_n 0, 1) := by decide +kernel
theorem dX5_reseat_1 : decode cX5_reseat 1 = .ok (.iload_n 1, 1) := by decide +kernel
theorem dX5_reseat_2 : decode cX5_reseat 2 = .ok (.iconst (-1), 1) := by decide +kernel
theorem dX5_reseat_3 : decode cX5_reseat 3 = .ok (.invokevirtual 74, 3) := by decide +kernel
theorem dX5_reseat_6 : decode cX5_reseat 6 = .ok (.aload_n 0, 1) := by decide +kernel
theorem dX5_reseat_7 : decode cX5_reseat 7 = .ok (.getfield 21, 3) := by decide +kernel
theorem dX5_reseat_10 : decode cX5_reseat 10 = .ok (.iload_n 1, 1) := by decide +kernel
theorem dX5_reseat_11 : decode cX5_reseat 11 = .ok (.aload_n 2, 1) := by decide +kernel
theorem dX5_reseat_12 : decode cX5_reseat 12 = .ok (.invokevirtual 89, 3) := by decide +kernel
theorem dX5_reseat_15 : decode cX5_reseat 15 = .ok (.aload_n 0, 1) := by decide +kernel
theorem dX5_reseat_16 : decode cX5_reseat 16 = .ok (.iload_n 1, 1) := by decide +kernel
theorem dX5_reseat_17 : decode cX5_reseat 17 = .ok (.aload_n 0, 1) := by decide +kernel
theorem dX5_reseat_18 : decode cX5_reseat 18 = .ok (.getfield 21, 3) := by decide +kernel
theorem dX5_reseat_21 : decode cX5_reseat 21 = .ok (.iload_n 1, 1) := by decide +kernel
theorem dX5_reseat_22 : decode cX5_reseat 22 = .ok (.iconst 0, 1) := by decide +kernel
theorem dX5_reseat_23 : decode cX5_reseat 23 = .ok (.invokevirtual 78, 3) := by decide +kernel
theorem dX5_reseat_26 : decode cX5_reseat 26 = .ok (.invokevirtual 74, 3) := by decide +kernel
theorem dX5_reseat_29 : decode cX5_reseat 29 = .ok (.return_, 1) := by decide +kernel
set_option maxRecDepth 20000 in
theorem ggX5_giveBerths_X3_middle : GoodIn wsX5_giveBerths wsX3_middle := goodIn_r _ [7, 8, 9, 10, 6, 11, 12, 29, 30] (by decide +kernel) (by decide +kernel)
set_option maxRecDepth 20000 in
theorem gX5_giveBerths_X3_middle : GoodIn wsX5_giveBerths (wsV RX5 108 RX3 yX3_middle wsX3_middle) := goodIn_app (goodIn_of _ (by decide +kernel)) ggX5_giveBerths_X3_middle
set_option maxRecDepth 20000 in
theorem ggX5_giveBerths_X3_at : GoodIn wsX5_giveBerths wsX3_at := goodIn_r _ [11, 12, 29, 30] (by decide +kernel) (by decide +kernel)
set_option maxRecDepth 20000 in
theorem gX5_giveBerths_X3_at : GoodIn wsX5_giveBerths (wsV RX5 78 RX3 yX3_at wsX3_at) := goodIn_app (goodIn_of _ (by decide +kernel)) ggX5_giveBerths_X3_at
set_option maxRecDepth 20000 in
theorem ggX5_giveBerths_X0_give : GoodIn wsX5_giveBerths wsX0_give := goodIn_r _ [18, 19, 20, 21, 22, 31, 32] (by decide +kernel) (by decide +kernel)
set_option maxRecDepth 20000 in
theorem gX5_giveBerths_X0_give : GoodIn wsX5_giveBerths (wsV RX5 112 RX0 yX0_give wsX0_give) := goodIn_app (goodIn_of _ (by decide +kernel)) ggX5_giveBerths_X0_give
theorem dX5_giveBerths_0 : decode cX5_giveBerths 0 = .ok (.aload_n 0, 1) := by decide +kernel
theorem dX5_giveBerths_1 : decode cX5_giveBerths 1 = .ok (.getfield 21, 3) := by decide +kernel
theorem dX5_giveBerths_4 : decode cX5_giveBerths 4 = .ok (.iload_n 1, 1) := by decide +kernel
theorem dX5_giveBerths_5 : decode cX5_giveBerths 5 = .ok (.invokevirtual 108, 3) := by decide +kernel
theorem dX5_giveBerths_8 : decode cX5_giveBerths 8 = .ok (.istore_n 3, 1) := by decide +kernel
theorem dX5_giveBerths_9 : decode cX5_giveBerths 9 = .ok (.aload_n 0, 1) := by decide +kernel
theorem dX5_giveBerths_10 : decode cX5_giveBerths 10 = .ok (.getfield 12, 3) := by decide +kernel
theorem dX5_giveBerths_13 : decode cX5_giveBerths 13 = .ok (.aload_n 0, 1) := by decide +kernel
theorem dX5_giveBerths_14 : decode cX5_giveBerths 14 = .ok (.getfield 21, 3) := by decide +kernel
theorem dX5_giveBerths_17 : decode cX5_giveBerths 17 = .ok (.iload_n 1, 1) := by decide +kernel
theorem dX5_giveBerths_18 : decode cX5_giveBerths 18 = .ok (.iconst 4, 1) := by decide +kernel
theorem dX5_giveBerths_19 : decode cX5_giveBerths 19 = .ok (.invokevirtual 78, 3) := by decide +kernel
theorem dX5_giveBerths_22 : decode cX5_giveBerths 22 = .ok (.aload_n 0, 1) := by decide +kernel
theorem dX5_giveBerths_23 : decode cX5_giveBerths 23 = .ok (.getfield 21, 3) := by decide +kernel
theorem dX5_giveBerths_26 : decode cX5_giveBerths 26 = .ok (.iload_n 1, 1) := by decide +kernel
theorem dX5_giveBerths_27 : decode cX5_giveBerths 27 = .ok (.iconst 1, 1) := by decide +kernel
theorem dX5_giveBerths_28 : decode cX5_giveBerths 28 = .ok (.invokevirtual 78, 3) := by decide +kernel
theorem dX5_giveBerths_31 : decode cX5_giveBerths 31 = .ok (.iload_n 3, 1) := by decide +kernel
theorem dX5_giveBerths_32 : decode cX5_giveBerths 32 = .ok (.iload_n 2, 1) := by decide +kernel
theorem dX5_giveBerths_33 : decode cX5_giveBerths 33 = .ok (.invokevirtual 112, 3) := by decide +kernel
theorem dX5_giveBerths_36 : decode cX5_giveBerths 36 = .ok (.aload_n 0, 1) := by decide +kernel
theorem dX5_giveBerths_37 : decode cX5_giveBerths 37 = .ok (.getfield 12, 3) := by decide +kernel
theorem dX5_giveBerths_40 : decode cX5_giveBerths 40 = .ok (.aload_n 0, 1) := by decide +kernel
theorem dX5_giveBerths_41 : decode cX5_giveBerths 41 = .ok (.getfield 21, 3) := by decide +kernel
theorem dX5_giveBerths_44 : decode cX5_giveBerths 44 = .ok (.iload_n 1, 1) := by decide +kernel
theorem dX5_giveBerths_45 : decode cX5_giveBerths 45 = .ok (.iconst 5, 1) := by decide +kernel
theorem dX5_giveBerths_46 : decode cX5_giveBerths 46 = .ok (.invokevirtual 78, 3) := by decide +kernel
theorem dX5_giveBerths_49 : decode cX5_giveBerths 49 = .ok (.iload_n 3, 1) := by decide +kernel
theorem dX5_giveBerths_50 : decode cX5_giveBerths 50 = .ok (.aload_n 0, 1) := by decide +kernel
theorem dX5_giveBerths_51 : decode cX5_giveBerths 51 = .ok (.getfield 21, 3) := by decide +kernel
theorem dX5_giveBerths_54 : decode cX5_giveBerths 54 = .ok (.iload_n 1, 1) := by decide +kernel
theorem dX5_giveBerths_55 : decode cX5_giveBerths 55 = .ok (.iconst 2, 1) := by decide +kernel
theorem dX5_giveBerths_56 : decode cX5_giveBerths 56 = .ok (.invokevirtual 78, 3) := by decide +kernel
theorem dX5_giveBerths_59 : decode cX5_giveBerths 59 = .ok (.iload_n 2, 1) := by decide +kernel
theorem dX5_giveBerths_60 : decode cX5_giveBerths 60 = .ok (.invokevirtual 112, 3) := by decide +kernel
theorem dX5_giveBerths_63 : decode cX5_giveBerths 63 = .ok (.return_, 1) := by decide +kernel
set_option maxRecDepth 20000 in
theorem ggX5_mayHave_X3_at : GoodIn wsX5_mayHave wsX3_at := goodIn_r _ [7, 8, 29, 30] (by decide +kernel) (by decide +kernel)
set_option maxRecDepth 20000 in
theorem gX5_mayHave_X3_at : GoodIn wsX5_mayHave (wsV RX5 78 RX3 yX3_at wsX3_at) := goodIn_app (goodIn_of _ (by decide +kernel)) ggX5_mayHave_X3_at
set_option maxRecDepth 20000 in
theorem ggX5_mayHave_X0_endOf : GoodIn wsX5_mayHave wsX0_endOf := goodIn_r _ [13, 14, 15, 16, 17, 31, 32] (by decide +kernel) (by decide +kernel)
set_option maxRecDepth 20000 in
theorem gX5_mayHave_X0_endOf : GoodIn wsX5_mayHave (wsV RX5 116 RX0 yX0_endOf wsX0_endOf) := goodIn_app (goodIn_of _ (by decide +kernel)) ggX5_mayHave_X0_endOf
set_option maxRecDepth 20000 in
theorem ggX5_mayHave_X0_holderOn : GoodIn wsX5_mayHave wsX0_holderOn := goodIn_r _ [21, 22, 15, 16, 17, 31, 32] (by decide +kernel) (by decide +kernel)
set_option maxRecDepth 20000 in
theorem gX5_mayHave_X0_holderOn : GoodIn wsX5_mayHave (wsV RX5 119 RX0 yX0_holderOn wsX0_holderOn) := goodIn_app (goodIn_of _ (by decide +kernel)) ggX5_mayHave_X0_holderOn
theorem dX5_mayHave_0 : decode cX5_mayHave 0 = .ok (.aload_n 0, 1) := by decide +kernel
theorem dX5_mayHave_1 : decode cX5_mayHave 1 = .ok (.getfield 21, 3) := by decide +kernel
theorem dX5_mayHave_4 : decode cX5_mayHave 4 = .ok (.iload_n 1, 1) := by decide +kernel
theorem dX5_mayHave_5 : decode cX5_mayHave 5 = .ok (.iconst 3, 1) := by decide +kernel
theorem dX5_mayHave_6 : decode cX5_mayHave 6 = .ok (.invokevirtual 78, 3) := by decide +kernel
theorem dX5_mayHave_9 : decode cX5_mayHave 9 = .ok (.iconst 1, 1) := by decide +kernel
theorem dX5_mayHave_10 : decode cX5_mayHave 10 = .ok (.if_icmp .ne 18, 3) := by decide +kernel
theorem dX5_mayHave_13 : decode cX5_mayHave 13 = .ok (.aload_n 0, 1) := by decide +kernel
theorem dX5_mayHave_14 : decode cX5_mayHave 14 = .ok (.getfield 21, 3) := by decide +kernel
theorem dX5_mayHave_17 : decode cX5_mayHave 17 = .ok (.iload_n 1, 1) := by decide +kernel
theorem dX5_mayHave_18 : decode cX5_mayHave 18 = .ok (.iconst 4, 1) := by decide +kernel
theorem dX5_mayHave_19 : decode cX5_mayHave 19 = .ok (.invokevirtual 78, 3) := by decide +kernel
theorem dX5_mayHave_22 : decode cX5_mayHave 22 = .ok (.iload_n 2, 1) := by decide +kernel
theorem dX5_mayHave_23 : decode cX5_mayHave 23 = .ok (.if_icmp .eq 5, 3) := by decide +kernel
theorem dX5_mayHave_26 : decode cX5_mayHave 26 = .ok (.iconst 0, 1) := by decide +kernel
theorem dX5_mayHave_27 : decode cX5_mayHave 27 = .ok (.ireturn, 1) := by decide +kernel
theorem dX5_mayHave_28 : decode cX5_mayHave 28 = .ok (.aload_n 0, 1) := by decide +kernel
theorem dX5_mayHave_29 : decode cX5_mayHave 29 = .ok (.getfield 21, 3) := by decide +kernel
theorem dX5_mayHave_32 : decode cX5_mayHave 32 = .ok (.iload_n 1, 1) := by decide +kernel
theorem dX5_mayHave_33 : decode cX5_mayHave 33 = .ok (.iconst 2, 1) := by decide +kernel
theorem dX5_mayHave_34 : decode cX5_mayHave 34 = .ok (.invokevirtual 78, 3) := by decide +kernel
theorem dX5_mayHave_37 : decode cX5_mayHave 37 = .ok (.istore_n 3, 1) := by decide +kernel
theorem dX5_mayHave_38 : decode cX5_mayHave 38 = .ok (.iload_n 3, 1) := by decide +kernel
theorem dX5_mayHave_39 : decode cX5_mayHave 39 = .ok (.aload_n 0, 1) := by decide +kernel
theorem dX5_mayHave_40 : decode cX5_mayHave 40 = .ok (.getfield 12, 3) := by decide +kernel
theorem dX5_mayHave_43 : decode cX5_mayHave 43 = .ok (.iload_n 2, 1) := by decide +kernel
theorem dX5_mayHave_44 : decode cX5_mayHave 44 = .ok (.bipush 6, 2) := by decide +kernel
theorem dX5_mayHave_46 : decode cX5_mayHave 46 = .ok (.idiv, 1) := by decide +kernel
theorem dX5_mayHave_47 : decode cX5_mayHave 47 = .ok (.invokevirtual 116, 3) := by decide +kernel
theorem dX5_mayHave_50 : decode cX5_mayHave 50 = .ok (.if_icmp .le 5, 3) := by decide +kernel
theorem dX5_mayHave_53 : decode cX5_mayHave 53 = .ok (.iconst 0, 1) := by decide +kernel
theorem dX5_mayHave_54 : decode cX5_mayHave 54 = .ok (.ireturn, 1) := by decide +kernel
theorem dX5_mayHave_55 : decode cX5_mayHave 55 = .ok (.aload_n 0, 1) := by decide +kernel
theorem dX5_mayHave_56 : decode cX5_mayHave 56 = .ok (.getfield 21, 3) := by decide +kernel
theorem dX5_mayHave_59 : decode cX5_mayHave 59 = .ok (.iload_n 1, 1) := by decide +kernel
theorem dX5_mayHave_60 : decode cX5_mayHave 60 = .ok (.iconst 1, 1) := by decide +kernel
theorem dX5_mayHave_61 : decode cX5_mayHave 61 = .ok (.invokevirtual 78, 3) := by decide +kernel
theorem dX5_mayHave_64 : decode cX5_mayHave 64 = .ok (.istore 4, 2) := by decide +kernel
theorem dX5_mayHave_66 : decode cX5_mayHave 66 = .ok (.iload 4, 2) := by decide +kernel
theorem dX5_mayHave_68 : decode cX5_mayHave 68 = .ok (.iload_n 3, 1) := by decide +kernel
theorem dX5_mayHave_69 : decode cX5_mayHave 69 = .ok (.if_icmp .ge 43, 3) := by decide +kernel
theorem dX5_mayHave_72 : decode cX5_mayHave 72 = .ok (.aload_n 0, 1) := by decide +kernel
theorem dX5_mayHave_73 : decode cX5_mayHave 73 = .ok (.getfield 12, 3) := by decide +kernel
theorem dX5_mayHave_76 : decode cX5_mayHave 76 = .ok (.iload_n 2, 1) := by decide +kernel
theorem dX5_mayHave_77 : decode cX5_mayHave 77 = .ok (.iload 4, 2) := by decide +kernel
theorem dX5_mayHave_79 : decode cX5_mayHave 79 = .ok (.invokevirtual 119, 3) := by decide +kernel
theorem dX5_mayHave_82 : decode cX5_mayHave 82 = .ok (.istore 5, 2) := by decide +kernel
theorem dX5_mayHave_84 : decode cX5_mayHave 84 = .ok (.iload 5, 2) := by decide +kernel
theorem dX5_mayHave_86 : decode cX5_mayHave 86 = .ok (.iconst (-1), 1) := by decide +kernel
theorem dX5_mayHave_87 : decode cX5_mayHave 87 = .ok (.if_icmp .eq 19, 3) := by decide +kernel
theorem dX5_mayHave_90 : decode cX5_mayHave 90 = .ok (.iload 5, 2) := by decide +kernel
theorem dX5_mayHave_92 : decode cX5_mayHave 92 = .ok (.aload_n 0, 1) := by decide +kernel
theorem dX5_mayHave_93 : decode cX5_mayHave 93 = .ok (.getfield 21, 3) := by decide +kernel
theorem dX5_mayHave_96 : decode cX5_mayHave 96 = .ok (.iload_n 1, 1) := by decide +kernel
theorem dX5_mayHave_97 : decode cX5_mayHave 97 = .ok (.iconst 0, 1) := by decide +kernel
theorem dX5_mayHave_98 : decode cX5_mayHave 98 = .ok (.invokevirtual 78, 3) := by decide +kernel
theorem dX5_mayHave_101 : decode cX5_mayHave 101 = .ok (.if_icmp .eq 5, 3) := by decide +kernel
theorem dX5_mayHave_104 : decode cX5_mayHave 104 = .ok (.iconst 0, 1) := by decide +kernel
theorem dX5_mayHave_105 : decode cX5_mayHave 105 = .ok (.ireturn, 1) := by decide +kernel
theorem dX5_mayHave_106 : decode cX5_mayHave 106 = .ok (.iinc 4 1, 3) := by decide +kernel
theorem dX5_mayHave_109 : decode cX5_mayHave 109 = .ok (.goto (-43), 3) := by decide +kernel
theorem dX5_mayHave_112 : decode cX5_mayHave 112 = .ok (.iconst 1, 1) := by decide +kernel
theorem dX5_mayHave_113 : decode cX5_mayHave 113 = .ok (.ireturn, 1) := by decide +kernel
set_option maxRecDepth 20000 in
theorem ggX5_property_X5_woken : GoodIn wsX5_property wsX5_woken := goodIn_r _ [6, 1, 7, 8, 9, 10, 11, 12, 13, 14, 15, 16, 17, 18, 19, 20, 21, 22, 23, 24, 37, 38, 39, 40, 41, 42, 43, 44, 45, 46] (by decide +kernel) (by decide +kernel)
set_option maxRecDepth 20000 in
theorem gX5_property_X5_woken : GoodIn wsX5_property (wsV RX5 122 RX5 yX5_woken wsX5_woken) := goodIn_app (goodIn_of _ (by decide +kernel)) ggX5_property_X5_woken
set_option maxRecDepth 20000 in
theorem ggX5_property_X5_tipLessBy : GoodIn wsX5_property wsX5_tipLessBy := goodIn_r _ [28, 1, 29, 30, 31, 32, 33, 18, 14, 15, 11, 16, 17, 34, 35, 36, 37, 38, 39, 40, 41, 42, 43, 44] (by decide +kernel) (by decide +kernel)
set_option maxRecDepth 20000 in
theorem gX5_property_X5_tipLessBy : GoodIn wsX5_property (wsV RX5 125 RX5 yX5_tipLessBy wsX5_tipLessBy) := goodIn_app (goodIn_of _ (by decide +kernel)) ggX5_property_X5_tipLessBy
set_option maxRecDepth 20000 in
theorem ggX5_property_X3_at : GoodIn wsX5_property wsX3_at := goodIn_r _ [16, 17, 43, 44] (by decide +kernel) (by decide +kernel)
set_option maxRecDepth 20000 in
theorem gX5_property_X3_at : GoodIn wsX5_property (wsV RX5 78 RX3 yX3_at wsX3_at) := goodIn_app (goodIn_of _ (by decide +kernel)) ggX5_property_X3_at
theorem dX5_property_0 : decode cX5_property 0 = .ok (.iload_n 2, 1) := by decide +kernel
theorem dX5_property_1 : decode cX5_property 1 = .ok (.lookupswitch 44 #[(7, 27), (8, 33)], 27) := by decide +kernel
theorem dX5_property_28 : decode cX5_property 28 = .ok (.aload_n 0, 1) := by decide +kernel
theorem dX5_property_29 : decode cX5_property 29 = .ok (.iload_n 1, 1) := by decide +kernel
theorem dX5_property_30 : decode cX5_property 30 = .ok (.invokevirtual 122, 3) := by decide +kernel
theorem dX5_property_33 : decode cX5_property 33 = .ok (.ireturn, 1) := by decide +kernel
theorem dX5_property_34 : decode cX5_property 34 = .ok (.aload_n 0, 1) := by decide +kernel
theorem dX5_property_35 : decode cX5_property 35 = .ok (.iload_n 1, 1) := by decide +kernel
theorem dX5_property_36 : decode cX5_property 36 = .ok (.aload_n 0, 1) := by decide +kernel
theorem dX5_property_37 : decode cX5_property 37 = .ok (.iload_n 1, 1) := by decide +kernel
theorem dX5_property_38 : decode cX5_property 38 = .ok (.invokevirtual 122, 3) := by decide +kernel
theorem dX5_property_41 : decode cX5_property 41 = .ok (.invokevirtual 125, 3) := by decide +kernel
theorem dX5_property_44 : decode cX5_property 44 = .ok (.ireturn, 1) := by decide +kernel
theorem dX5_property_45 : decode cX5_property 45 = .ok (.aload_n 0, 1) := by decide +kernel
theorem dX5_property_46 : decode cX5_property 46 = .ok (.getfield 21, 3) := by decide +kernel
theorem dX5_property_49 : decode cX5_property 49 = .ok (.iload_n 1, 1) := by decide +kernel
theorem dX5_property_50 : decode cX5_property 50 = .ok (.iload_n 2, 1) := by decide +kernel
theorem dX5_property_51 : decode cX5_property 51 = .ok (.invokevirtual 78, 3) := by decide +kernel
theorem dX5_property_54 : decode cX5_property 54 = .ok (.ireturn, 1) := by decide +kernel
set_option maxRecDepth 20000 in
theorem ggX5_woken_X3_middle : GoodIn wsX5_woken wsX3_middle := goodIn_r _ [7, 8, 9, 10, 6, 11, 12, 26, 27] (by decide +kernel) (by decide +kernel)
set_option maxRecDepth 20000 in
theorem gX5_woken_X3_middle : GoodIn wsX5_woken (wsV RX5 108 RX3 yX3_middle wsX3_middle) := goodIn_app (goodIn_of _ (by decide +kernel)) ggX5_woken_X3_middle
set_option maxRecDepth 20000 in
theorem ggX5_woken_X3_at : GoodIn wsX5_woken wsX3_at := goodIn_r _ [11, 12, 26, 27] (by decide +kernel) (by decide +kernel)
set_option maxRecDepth 20000 in
theorem gX5_woken_X3_at : GoodIn wsX5_woken (wsV RX5 78 RX3 yX3_at wsX3_at) := goodIn_app (goodIn_of _ (by decide +kernel)) ggX5_woken_X3_at
set_option maxRecDepth 20000 in
theorem ggX5_woken_X0_wokenIn : GoodIn wsX5_woken wsX0_wokenIn := goodIn_r _ [18, 19, 28, 29] (by decide +kernel) (by decide +kernel)
set_option maxRecDepth 20000 in
theorem gX5_woken_X0_wokenIn : GoodIn wsX5_woken (wsV RX5 70 RX0 yX0_wokenIn wsX0_wokenIn) := goodIn_app (goodIn_of _ (by decide +kernel)) ggX5_woken_X0_wokenIn
theorem dX5_woken_0 : decode cX5_woken 0 = .ok (.aload_n 0, 1) := by decide +kernel
theorem dX5_woken_1 : decode cX5_woken 1 = .ok (.getfield 21, 3) := by decide +kernel
theorem dX5_woken_4 : decode cX5_woken 4 = .ok (.iload_n 1, 1) := by decide +kernel
theorem dX5_woken_5 : decode cX5_woken 5 = .ok (.invokevirtual 108, 3) := by decide +kernel
theorem dX5_woken_8 : decode cX5_woken 8 = .ok (.istore_n 2, 1) := by decide +kernel
theorem dX5_woken_9 : decode cX5_woken 9 = .ok (.aload_n 0, 1) := by decide +kernel
theorem dX5_woken_10 : decode cX5_woken 10 = .ok (.getfield 12, 3) := by decide +kernel
theorem dX5_woken_13 : decode cX5_woken 13 = .ok (.aload_n 0, 1) := by decide +kernel
theorem dX5_woken_14 : decode cX5_woken 14 = .ok (.getfield 21, 3) := by decide +kernel
theorem dX5_woken_17 : decode cX5_woken 17 = .ok (.iload_n 1, 1) := by decide +kernel
theorem dX5_woken_18 : decode cX5_woken 18 = .ok (.iconst 4, 1) := by decide +kernel
theorem dX5_woken_19 : decode cX5_woken 19 = .ok (.invokevirtual 78, 3) := by decide +kernel
theorem dX5_woken_22 : decode cX5_woken 22 = .ok (.aload_n 0, 1) := by decide +kernel
theorem dX5_woken_23 : decode cX5_woken 23 = .ok (.getfield 21, 3) := by decide +kernel
theorem dX5_woken_26 : decode cX5_woken 26 = .ok (.iload_n 1, 1) := by decide +kernel
theorem dX5_woken_27 : decode cX5_woken 27 = .ok (.iconst 1, 1) := by decide +kernel
theorem dX5_woken_28 : decode cX5_woken 28 = .ok (.invokevirtual 78, 3) := by decide +kernel
theorem dX5_woken_31 : decode cX5_woken 31 = .ok (.iload_n 2, 1) := by decide +kernel
theorem dX5_woken_32 : decode cX5_woken 32 = .ok (.invokevirtual 70, 3) := by decide +kernel
theorem dX5_woken_35 : decode cX5_woken 35 = .ok (.aload_n 0, 1) := by decide +kernel
theorem dX5_woken_36 : decode cX5_woken 36 = .ok (.getfield 12, 3) := by decide +kernel
theorem dX5_woken_39 : decode cX5_woken 39 = .ok (.aload_n 0, 1) := by decide +kernel
theorem dX5_woken_40 : decode cX5_woken 40 = .ok (.getfield 21, 3) := by decide +kernel
theorem dX5_woken_43 : decode cX5_woken 43 = .ok (.iload_n 1, 1) := by decide +kernel
theorem dX5_woken_44 : decode cX5_woken 44 = .ok (.iconst 5, 1) := by decide +kernel
theorem dX5_woken_45 : decode cX5_woken 45 = .ok (.invokevirtual 78, 3) := by decide +kernel
theorem dX5_woken_48 : decode cX5_woken 48 = .ok (.iload_n 2, 1) := by decide +kernel
theorem dX5_woken_49 : decode cX5_woken 49 = .ok (.aload_n 0, 1) := by decide +kernel
theorem dX5_woken_50 : decode cX5_woken 50 = .ok (.getfield 21, 3) := by decide +kernel
theorem dX5_woken_53 : decode cX5_woken 53 = .ok (.iload_n 1, 1) := by decide +kernel
theorem dX5_woken_54 : decode cX5_woken 54 = .ok (.iconst 2, 1) := by decide +kernel
theorem dX5_woken_55 : decode cX5_woken 55 = .ok (.invokevirtual 78, 3) := by decide +kernel
theorem dX5_woken_58 : decode cX5_woken 58 = .ok (.invokevirtual 70, 3) := by decide +kernel
theorem dX5_woken_61 : decode cX5_woken 61 = .ok (.iadd, 1) := by decide +kernel
theorem dX5_woken_62 : decode cX5_woken 62 = .ok (.ireturn, 1) := by decide +kernel
set_option maxRecDepth 20000 in
theorem ggX5_tipLessBy_X3_at : GoodIn wsX5_tipLessBy wsX3_at := goodIn_r _ [11, 12, 22, 23] (by decide +kernel) (by decide +kernel)
set_option maxRecDepth 20000 in
theorem gX5_tipLessBy_X3_at : GoodIn wsX5_tipLessBy (wsV RX5 78 RX3 yX3_at wsX3_at) := goodIn_app (goodIn_of _ (by decide +kernel)) ggX5_tipLessBy_X3_at
set_option maxRecDepth 20000 in
theorem ggX5_tipLessBy_X6_read : GoodIn wsX5_tipLessBy wsX6_read := goodIn_r _ [15] (by decide +kernel) (by decide +kernel)
set_option maxRecDepth 20000 in
theorem gX5_tipLessBy_X6_read_n50 : GoodIn wsX5_tipLessBy (wsX6_read) := ggX5_tipLessBy_X6_read
theorem dX5_tipLessBy_0 : decode cX5_tipLessBy 0 = .ok (.aload_n 0, 1) := by decide +kernel
theorem dX5_tipLessBy_1 : decode cX5_tipLessBy 1 = .ok (.getfield 21, 3) := by decide +kernel
theorem dX5_tipLessBy_4 : decode cX5_tipLessBy 4 = .ok (.iload_n 1, 1) := by decide +kernel
theorem dX5_tipLessBy_5 : decode cX5_tipLessBy 5 = .ok (.bipush 6, 2) := by decide +kernel
theorem dX5_tipLessBy_7 : decode cX5_tipLessBy 7 = .ok (.invokevirtual 78, 3) := by decide +kernel
theorem dX5_tipLessBy_10 : decode cX5_tipLessBy 10 = .ok (.iconst (-1), 1) := by decide +kernel
theorem dX5_tipLessBy_11 : decode cX5_tipLessBy 11 = .ok (.if_icmp .ne 7, 3) := by decide +kernel
theorem dX5_tipLessBy_14 : decode cX5_tipLessBy 14 = .ok (.iconst 0, 1) := by decide +kernel
theorem dX5_tipLessBy_15 : decode cX5_tipLessBy 15 = .ok (.goto 4, 3) := by decide +kernel
theorem dX5_tipLessBy_18 : decode cX5_tipLessBy 18 = .ok (.iconst 3, 1) := by decide +kernel
theorem dX5_tipLessBy_19 : decode cX5_tipLessBy 19 = .ok (.istore_n 3, 1) := by decide +kernel
theorem dX5_tipLessBy_20 : decode cX5_tipLessBy 20 = .ok (.iconst 0, 1) := by decide +kernel
theorem dX5_tipLessBy_21 : decode cX5_tipLessBy 21 = .ok (.aload_n 0, 1) := by decide +kernel
theorem dX5_tipLessBy_22 : decode cX5_tipLessBy 22 = .ok (.getfield 25, 3) := by decide +kernel
theorem dX5_tipLessBy_25 : decode cX5_tipLessBy 25 = .ok (.iconst 2, 1) := by decide +kernel
theorem dX5_tipLessBy_26 : decode cX5_tipLessBy 26 = .ok (.invokestatic 50, 3) := by decide +kernel
theorem dX5_tipLessBy_29 : decode cX5_tipLessBy 29 = .ok (.iload_n 2, 1) := by decide +kernel
theorem dX5_tipLessBy_30 : decode cX5_tipLessBy 30 = .ok (.isub, 1) := by decide +kernel
theorem dX5_tipLessBy_31 : decode cX5_tipLessBy 31 = .ok (.iload_n 3, 1) := by decide +kernel
theorem dX5_tipLessBy_32 : decode cX5_tipLessBy 32 = .ok (.isub, 1) := by decide +kernel
theorem dX5_tipLessBy_33 : decode cX5_tipLessBy 33 = .ok (.invokestatic 128, 3) := by decide +kernel
theorem dX5_tipLessBy_36 : decode cX5_tipLessBy 36 = .ok (.ireturn, 1) := by decide +kernel
set_option maxRecDepth 20000 in
theorem ggX5_sumOf_X5_property : GoodIn wsX5_sumOf wsX5_property := goodIn_r _ [7, 1, 8, 9, 10, 6, 11, 12, 13, 14, 15, 16, 17, 18, 19, 20, 21, 22, 23, 24, 25, 26, 27, 28, 29, 30, 31, 32, 33, 34, 35, 36, 37, 38, 39, 40, 41, 42, 43, 44, 45, 46, 47, 48, 49, 50, 51] (by decide +kernel) (by decide +kernel)
set_option maxRecDepth 20000 in
theorem gX5_sumOf_X5_property : GoodIn wsX5_sumOf (wsV RX5 136 RX5 yX5_property wsX5_property) := goodIn_app (goodIn_of _ (by decide +kernel)) ggX5_sumOf_X5_property
theorem dX5_sumOf_0 : decode cX5_sumOf 0 = .ok (.iconst 0, 1) := by decide +kernel
theorem dX5_sumOf_1 : decode cX5_sumOf 1 = .ok (.istore_n 2, 1) := by decide +kernel
theorem dX5_sumOf_2 : decode cX5_sumOf 2 = .ok (.iconst 0, 1) := by decide +kernel
theorem dX5_sumOf_3 : decode cX5_sumOf 3 = .ok (.istore_n 3, 1) := by decide +kernel
theorem dX5_sumOf_4 : decode cX5_sumOf 4 = .ok (.iload_n 3, 1) := by decide +kernel
theorem dX5_sumOf_5 : decode cX5_sumOf 5 = .ok (.aload_n 0, 1) := by decide +kernel
theorem dX5_sumOf_6 : decode cX5_sumOf 6 = .ok (.getfield 21, 3) := by decide +kernel
theorem dX5_sumOf_9 : decode cX5_sumOf 9 = .ok (.getfield 133, 3) := by decide +kernel
theorem dX5_sumOf_12 : decode cX5_sumOf 12 = .ok (.if_icmp .ge 18, 3) := by decide +kernel
theorem dX5_sumOf_15 : decode cX5_sumOf 15 = .ok (.iload_n 2, 1) := by decide +kernel
theorem dX5_sumOf_16 : decode cX5_sumOf 16 = .ok (.aload_n 0, 1) := by decide +kernel
theorem dX5_sumOf_17 : decode cX5_sumOf 17 = .ok (.iload_n 3, 1) := by decide +kernel
theorem dX5_sumOf_18 : decode cX5_sumOf 18 = .ok (.iload_n 1, 1) := by decide +kernel
theorem dX5_sumOf_19 : decode cX5_sumOf 19 = .ok (.invokevirtual 136, 3) := by decide +kernel
theorem dX5_sumOf_22 : decode cX5_sumOf 22 = .ok (.iadd, 1) := by decide +kernel
theorem dX5_sumOf_23 : decode cX5_sumOf 23 = .ok (.istore_n 2, 1) := by decide +kernel
theorem dX5_sumOf_24 : decode cX5_sumOf 24 = .ok (.iinc 3 1, 3) := by decide +kernel
theorem dX5_sumOf_27 : decode cX5_sumOf 27 = .ok (.goto (-23), 3) := by decide +kernel
theorem dX5_sumOf_30 : decode cX5_sumOf 30 = .ok (.iload_n 2, 1) := by decide +kernel
theorem dX5_sumOf_31 : decode cX5_sumOf 31 = .ok (.ireturn, 1) := by decide +kernel
theorem dJxe99ae_isNaN_b9ae7_0 : decode cJxe99ae_isNaN_b9ae7 0 = .ok (.dload_n 0, 1) := by decide +kernel
theorem dJxe99ae_isNaN_b9ae7_1 : decode cJxe99ae_isNaN_b9ae7 1 = .ok (.dload_n 0, 1) := by decide +kernel
theorem dJxe99ae_isNaN_b9ae7_2 : decode cJxe99ae_isNaN_b9ae7 2 = .ok (.dcmp .l, 1) := by decide +kernel
theorem dJxe99ae_isNaN_b9ae7_3 : decode cJxe99ae_isNaN_b9ae7 3 = .ok (.ifCond .eq 7, 3) := by decide +kernel
theorem dJxe99ae_isNaN_b9ae7_6 : decode cJxe99ae_isNaN_b9ae7 6 = .ok (.iconst 1, 1) := by decide +kernel
theorem dJxe99ae_isNaN_b9ae7_7 : decode cJxe99ae_isNaN_b9ae7 7 = .ok (.goto 4, 3) := by decide +kernel
theorem dJxe99ae_isNaN_b9ae7_10 : decode cJxe99ae_isNaN_b9ae7 10 = .ok (.iconst 0, 1) := by decide +kernel
theorem dJxe99ae_isNaN_b9ae7_11 : decode cJxe99ae_isNaN_b9ae7 11 = .ok (.ireturn, 1) := by decide +kernel
set_option maxRecDepth 20000 in
theorem ggJxe99ae_doubleToLongBits_ccdee_Jxe99ae_isNaN_b9ae7 : GoodIn wsJxe99ae_doubleToLongBits_ccdee wsJxe99ae_isNaN_b9ae7 := goodIn_r _ [9] (by decide +kernel) (by decide +kernel)
set_option maxRecDepth 20000 in
theorem gJxe99ae_doubleToLongBits_ccdee_Jxe99ae_isNaN_b9ae7 : GoodIn wsJxe99ae_doubleToLongBits_ccdee (va_wsS RJxe99ae 122 yJxe99ae_isNaN_b9ae7 wsJxe99ae_isNaN_b9ae7) := goodIn_app (goodIn_of _ (by decide +kernel)) ggJxe99ae_doubleToLongBits_ccdee_Jxe99ae_isNaN_b9ae7
theorem dJxe99ae_doubleToLongBits_ccdee_0 : decode cJxe99ae_doubleToLongBits_ccdee 0 = .ok (.dload_n 0, 1) := by decide +kernel
theorem dJxe99ae_doubleToLongBits_ccdee_1 : decode cJxe99ae_doubleToLongBits_ccdee 1 = .ok (.invokestatic 122, 3) := by decide +kernel
theorem dJxe99ae_doubleToLongBits_ccdee_4 : decode cJxe99ae_doubleToLongBits_ccdee 4 = .ok (.ifCond .ne 8, 3) := by decide +kernel
theorem dJxe99ae_doubleToLongBits_ccdee_7 : decode cJxe99ae_doubleToLongBits_ccdee 7 = .ok (.dload_n 0, 1) := by decide +kernel
theorem dJxe99ae_doubleToLongBits_ccdee_8 : decode cJxe99ae_doubleToLongBits_ccdee 8 = .ok (.invokestatic 134, 3) := by decide +kernel
theorem dJxe99ae_doubleToLongBits_ccdee_11 : decode cJxe99ae_doubleToLongBits_ccdee 11 = .ok (.lreturn, 1) := by decide +kernel
theorem dJxe99ae_doubleToLongBits_ccdee_12 : decode cJxe99ae_doubleToLongBits_ccdee 12 = .ok (.ldc2_w 137, 3) := by decide +kernel
theorem dJxe99ae_doubleToLongBits_ccdee_15 : decode cJxe99ae_doubleToLongBits_ccdee 15 = .ok (.lreturn, 1) := by decide +kernel
theorem dJ9_max_7cf53_0 : decode cJ9_max_7cf53 0 = .ok (.iload_n 0, 1) := by decide +kernel
theorem dJ9_max_7cf53_1 : decode cJ9_max_7cf53 1 = .ok (.iload_n 1, 1) := by decide +kernel
theorem dJ9_max_7cf53_2 : decode cJ9_max_7cf53 2 = .ok (.if_icmp .lt 7, 3) := by decide +kernel
theorem dJ9_max_7cf53_5 : decode cJ9_max_7cf53 5 = .ok (.iload_n 0, 1) := by decide +kernel
theorem dJ9_max_7cf53_6 : decode cJ9_max_7cf53 6 = .ok (.goto 4, 3) := by decide +kernel
theorem dJ9_max_7cf53_9 : decode cJ9_max_7cf53 9 = .ok (.iload_n 1, 1) := by decide +kernel
theorem dJ9_max_7cf53_10 : decode cJ9_max_7cf53 10 = .ok (.ireturn, 1) := by decide +kernel
