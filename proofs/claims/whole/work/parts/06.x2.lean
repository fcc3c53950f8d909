theorem dX2_init_0 : decode cX2_init 0 = .ok (.aload_n 0, 1) := by decide +kernel
theorem dX2_init_1 : decode cX2_init 1 = .ok (.invokespecial 1, 3) := by decide +kernel
theorem dX2_init_4 : decode cX2_init 4 = .ok (.aload_n 0, 1) := by decide +kernel
theorem dX2_init_5 : decode cX2_init 5 = .ok (.bipush 84, 2) := by decide +kernel
theorem dX2_init_7 : decode cX2_init 7 = .ok (.newarray .int, 2) := by decide +kernel
theorem dX2_init_9 : decode cX2_init 9 = .ok (.putfield 9, 3) := by decide +kernel
theorem dX2_init_12 : decode cX2_init 12 = .ok (.aload_n 0, 1) := by decide +kernel
theorem dX2_init_13 : decode cX2_init 13 = .ok (.bipush 18, 2) := by decide +kernel
theorem dX2_init_15 : decode cX2_init 15 = .ok (.newarray .int, 2) := by decide +kernel
theorem dX2_init_17 : decode cX2_init 17 = .ok (.putfield 13, 3) := by decide +kernel
theorem dX2_init_20 : decode cX2_init 20 = .ok (.aload_n 0, 1) := by decide +kernel
theorem dX2_init_21 : decode cX2_init 21 = .ok (.sipush 162, 3) := by decide +kernel
theorem dX2_init_24 : decode cX2_init 24 = .ok (.newarray .int, 2) := by decide +kernel
theorem dX2_init_26 : decode cX2_init 26 = .ok (.putfield 16, 3) := by decide +kernel
theorem dX2_init_29 : decode cX2_init 29 = .ok (.aload_n 0, 1) := by decide +kernel
theorem dX2_init_30 : decode cX2_init 30 = .ok (.iconst 4, 1) := by decide +kernel
theorem dX2_init_31 : decode cX2_init 31 = .ok (.newarray .int, 2) := by decide +kernel
theorem dX2_init_33 : decode cX2_init 33 = .ok (.dup, 1) := by decide +kernel
theorem dX2_init_34 : decode cX2_init 34 = .ok (.iconst 0, 1) := by decide +kernel
theorem dX2_init_35 : decode cX2_init 35 = .ok (.iconst 0, 1) := by decide +kernel
theorem dX2_init_36 : decode cX2_init 36 = .ok (.iastore, 1) := by decide +kernel
theorem dX2_init_37 : decode cX2_init 37 = .ok (.dup, 1) := by decide +kernel
theorem dX2_init_38 : decode cX2_init 38 = .ok (.iconst 1, 1) := by decide +kernel
theorem dX2_init_39 : decode cX2_init 39 = .ok (.iconst 0, 1) := by decide +kernel
theorem dX2_init_40 : decode cX2_init 40 = .ok (.iastore, 1) := by decide +kernel
theorem dX2_init_41 : decode cX2_init 41 = .ok (.dup, 1) := by decide +kernel
theorem dX2_init_42 : decode cX2_init 42 = .ok (.iconst 2, 1) := by decide +kernel
theorem dX2_init_43 : decode cX2_init 43 = .ok (.iconst 0, 1) := by decide +kernel
theorem dX2_init_44 : decode cX2_init 44 = .ok (.iastore, 1) := by decide +kernel
theorem dX2_init_45 : decode cX2_init 45 = .ok (.dup, 1) := by decide +kernel
theorem dX2_init_46 : decode cX2_init 46 = .ok (.iconst 3, 1) := by decide +kernel
theorem dX2_init_47 : decode cX2_init 47 = .ok (.iconst (-1), 1) := by decide +kernel
theorem dX2_init_48 : decode cX2_init 48 = .ok (.iastore, 1) := by decide +kernel
theorem dX2_init_49 : decode cX2_init 49 = .ok (.putfield 19, 3) := by decide +kernel
theorem dX2_init_52 : decode cX2_init 52 = .ok (.return_, 1) := by decide +kernel
theorem dX2_thrown_0 : decode cX2_thrown 0 = .ok (.aload_n 0, 1) := by decide +kernel
theorem dX2_thrown_1 : decode cX2_thrown 1 = .ok (.getfield 22, 3) := by decide +kernel
theorem dX2_thrown_4 : decode cX2_thrown 4 = .ok (.ireturn, 1) := by decide +kernel
theorem dX2_fail_0 : decode cX2_fail 0 = .ok (.aload_n 0, 1) := by decide +kernel
theorem dX2_fail_1 : decode cX2_fail 1 = .ok (.iload_n 1, 1) := by decide +kernel
theorem dX2_fail_2 : decode cX2_fail 2 = .ok (.putfield 22, 3) := by decide +kernel
theorem dX2_fail_5 : decode cX2_fail 5 = .ok (.iconst 0, 1) := by decide +kernel
theorem dX2_fail_6 : decode cX2_fail 6 = .ok (.ireturn, 1) := by decide +kernel
theorem dX2_isIn_0 : decode cX2_isIn 0 = .ok (.iload_n 0, 1) := by decide +kernel
theorem dX2_isIn_1 : decode cX2_isIn 1 = .ok (.iload_n 1, 1) := by decide +kernel
theorem dX2_isIn_2 : decode cX2_isIn 2 = .ok (.if_icmp .lt 12, 3) := by decide +kernel
theorem dX2_isIn_5 : decode cX2_isIn 5 = .ok (.iload_n 0, 1) := by decide +kernel
theorem dX2_isIn_6 : decode cX2_isIn 6 = .ok (.iload_n 2, 1) := by decide +kernel
theorem dX2_isIn_7 : decode cX2_isIn 7 = .ok (.if_icmp .gt 7, 3) := by decide +kernel
theorem dX2_isIn_10 : decode cX2_isIn 10 = .ok (.iconst 1, 1) := by decide +kernel
theorem dX2_isIn_11 : decode cX2_isIn 11 = .ok (.goto 4, 3) := by decide +kernel
theorem dX2_isIn_14 : decode cX2_isIn 14 = .ok (.iconst 0, 1) := by decide +kernel
theorem dX2_isIn_15 : decode cX2_isIn 15 = .ok (.ireturn, 1) := by decide +kernel
set_option maxRecDepth 20000 in
theorem ggX2_isStation_X2_isIn : GoodIn wsX2_isStation wsX2_isIn := goodIn_r _ [5] (by decide +kernel) (by decide +kernel)
set_option maxRecDepth 20000 in
theorem gX2_isStation_X2_isIn : GoodIn wsX2_isStation (va_wsS RX2 29 yX2_isIn wsX2_isIn) := goodIn_app (goodIn_of _ (by decide +kernel)) ggX2_isStation_X2_isIn
theorem dX2_isStation_0 : decode cX2_isStation 0 = .ok (.iload_n 1, 1) := by decide +kernel
theorem dX2_isStation_1 : decode cX2_isStation 1 = .ok (.iconst 0, 1) := by decide +kernel
theorem dX2_isStation_2 : decode cX2_isStation 2 = .ok (.aload_n 0, 1) := by decide +kernel
theorem dX2_isStation_3 : decode cX2_isStation 3 = .ok (.getfield 26, 3) := by decide +kernel
theorem dX2_isStation_6 : decode cX2_isStation 6 = .ok (.iconst 1, 1) := by decide +kernel
theorem dX2_isStation_7 : decode cX2_isStation 7 = .ok (.isub, 1) := by decide +kernel
theorem dX2_isStation_8 : decode cX2_isStation 8 = .ok (.invokestatic 29, 3) := by decide +kernel
theorem dX2_isStation_11 : decode cX2_isStation 11 = .ok (.ireturn, 1) := by decide +kernel
set_option maxRecDepth 20000 in
theorem ggX2_isPod_X2_isIn : GoodIn wsX2_isPod wsX2_isIn := goodIn_r _ [5] (by decide +kernel) (by decide +kernel)
set_option maxRecDepth 20000 in
theorem gX2_isPod_X2_isIn : GoodIn wsX2_isPod (va_wsS RX2 29 yX2_isIn wsX2_isIn) := goodIn_app (goodIn_of _ (by decide +kernel)) ggX2_isPod_X2_isIn
theorem dX2_isPod_0 : decode cX2_isPod 0 = .ok (.iload_n 1, 1) := by decide +kernel
theorem dX2_isPod_1 : decode cX2_isPod 1 = .ok (.iconst 0, 1) := by decide +kernel
theorem dX2_isPod_2 : decode cX2_isPod 2 = .ok (.aload_n 0, 1) := by decide +kernel
theorem dX2_isPod_3 : decode cX2_isPod 3 = .ok (.getfield 33, 3) := by decide +kernel
theorem dX2_isPod_6 : decode cX2_isPod 6 = .ok (.iconst 1, 1) := by decide +kernel
theorem dX2_isPod_7 : decode cX2_isPod 7 = .ok (.isub, 1) := by decide +kernel
theorem dX2_isPod_8 : decode cX2_isPod 8 = .ok (.invokestatic 29, 3) := by decide +kernel
theorem dX2_isPod_11 : decode cX2_isPod 11 = .ok (.ireturn, 1) := by decide +kernel
theorem dX2_po_0 : decode cX2_po 0 = .ok (.aload_n 0, 1) := by decide +kernel
theorem dX2_po_1 : decode cX2_po 1 = .ok (.getfield 9, 3) := by decide +kernel
theorem dX2_po_4 : decode cX2_po 4 = .ok (.bipush 7, 2) := by decide +kernel
theorem dX2_po_6 : decode cX2_po 6 = .ok (.iload_n 1, 1) := by decide +kernel
theorem dX2_po_7 : decode cX2_po 7 = .ok (.imul, 1) := by decide +kernel
theorem dX2_po_8 : decode cX2_po 8 = .ok (.iload_n 2, 1) := by decide +kernel
theorem dX2_po_9 : decode cX2_po 9 = .ok (.iadd, 1) := by decide +kernel
theorem dX2_po_10 : decode cX2_po 10 = .ok (.iaload, 1) := by decide +kernel
theorem dX2_po_11 : decode cX2_po 11 = .ok (.ireturn, 1) := by decide +kernel
theorem dX2_put_0 : decode cX2_put 0 = .ok (.aload_n 0, 1) := by decide +kernel
theorem dX2_put_1 : decode cX2_put 1 = .ok (.getfield 9, 3) := by decide +kernel
theorem dX2_put_4 : decode cX2_put 4 = .ok (.bipush 7, 2) := by decide +kernel
theorem dX2_put_6 : decode cX2_put 6 = .ok (.iload_n 1, 1) := by decide +kernel
theorem dX2_put_7 : decode cX2_put 7 = .ok (.imul, 1) := by decide +kernel
theorem dX2_put_8 : decode cX2_put 8 = .ok (.iload_n 2, 1) := by decide +kernel
theorem dX2_put_9 : decode cX2_put 9 = .ok (.iadd, 1) := by decide +kernel
theorem dX2_put_10 : decode cX2_put 10 = .ok (.iload_n 3, 1) := by decide +kernel
theorem dX2_put_11 : decode cX2_put 11 = .ok (.iastore, 1) := by decide +kernel
theorem dX2_put_12 : decode cX2_put 12 = .ok (.return_, 1) := by decide +kernel
theorem dX2_st_0 : decode cX2_st 0 = .ok (.aload_n 0, 1) := by decide +kernel
theorem dX2_st_1 : decode cX2_st 1 = .ok (.getfield 13, 3) := by decide +kernel
theorem dX2_st_4 : decode cX2_st 4 = .ok (.iconst 3, 1) := by decide +kernel
theorem dX2_st_5 : decode cX2_st 5 = .ok (.iload_n 1, 1) := by decide +kernel
theorem dX2_st_6 : decode cX2_st 6 = .ok (.imul, 1) := by decide +kernel
theorem dX2_st_7 : decode cX2_st 7 = .ok (.iload_n 2, 1) := by decide +kernel
theorem dX2_st_8 : decode cX2_st 8 = .ok (.iadd, 1) := by decide +kernel
theorem dX2_st_9 : decode cX2_st 9 = .ok (.iaload, 1) := by decide +kernel
theorem dX2_st_10 : decode cX2_st 10 = .ok (.ireturn, 1) := by decide +kernel
theorem dX2_pe_0 : decode cX2_pe 0 = .ok (.aload_n 0, 1) := by decide +kernel
theorem dX2_pe_1 : decode cX2_pe 1 = .ok (.getfield 16, 3) := by decide +kernel
theorem dX2_pe_4 : decode cX2_pe 4 = .ok (.iconst 3, 1) := by decide +kernel
theorem dX2_pe_5 : decode cX2_pe 5 = .ok (.bipush 9, 2) := by decide +kernel
theorem dX2_pe_7 : decode cX2_pe 7 = .ok (.iload_n 1, 1) := by decide +kernel
theorem dX2_pe_8 : decode cX2_pe 8 = .ok (.imul, 1) := by decide +kernel
theorem dX2_pe_9 : decode cX2_pe 9 = .ok (.iload_n 2, 1) := by decide +kernel
theorem dX2_pe_10 : decode cX2_pe 10 = .ok (.iadd, 1) := by decide +kernel
theorem dX2_pe_11 : decode cX2_pe 11 = .ok (.imul, 1) := by decide +kernel
theorem dX2_pe_12 : decode cX2_pe 12 = .ok (.iload_n 3, 1) := by decide +kernel
theorem dX2_pe_13 : decode cX2_pe 13 = .ok (.iadd, 1) := by decide +kernel
theorem dX2_pe_14 : decode cX2_pe 14 = .ok (.iaload, 1) := by decide +kernel
theorem dX2_pe_15 : decode cX2_pe 15 = .ok (.ireturn, 1) := by decide +kernel
set_option maxRecDepth 20000 in
theorem ggX2_slotAt_X2_po : GoodIn wsX2_slotAt wsX2_po := goodIn_r _ [6, 7, 8, 9, 10, 11, 12, 13, 14] (by decide +kernel) (by decide +kernel)
set_option maxRecDepth 20000 in
theorem gX2_slotAt_X2_po : GoodIn wsX2_slotAt (wsV RX2 36 RX2 yX2_po wsX2_po) := goodIn_app (goodIn_of _ (by decide +kernel)) ggX2_slotAt_X2_po
theorem dX2_slotAt_0 : decode cX2_slotAt 0 = .ok (.iconst 0, 1) := by decide +kernel
theorem dX2_slotAt_1 : decode cX2_slotAt 1 = .ok (.istore_n 2, 1) := by decide +kernel
theorem dX2_slotAt_2 : decode cX2_slotAt 2 = .ok (.iload_n 2, 1) := by decide +kernel
theorem dX2_slotAt_3 : decode cX2_slotAt 3 = .ok (.aload_n 0, 1) := by decide +kernel
theorem dX2_slotAt_4 : decode cX2_slotAt 4 = .ok (.getfield 33, 3) := by decide +kernel
theorem dX2_slotAt_7 : decode cX2_slotAt 7 = .ok (.if_icmp .ge 21, 3) := by decide +kernel
theorem dX2_slotAt_10 : decode cX2_slotAt 10 = .ok (.aload_n 0, 1) := by decide +kernel
theorem dX2_slotAt_11 : decode cX2_slotAt 11 = .ok (.iload_n 2, 1) := by decide +kernel
theorem dX2_slotAt_12 : decode cX2_slotAt 12 = .ok (.iconst 0, 1) := by decide +kernel
theorem dX2_slotAt_13 : decode cX2_slotAt 13 = .ok (.invokevirtual 36, 3) := by decide +kernel
theorem dX2_slotAt_16 : decode cX2_slotAt 16 = .ok (.iload_n 1, 1) := by decide +kernel
theorem dX2_slotAt_17 : decode cX2_slotAt 17 = .ok (.if_icmp .ne 5, 3) := by decide +kernel
theorem dX2_slotAt_20 : decode cX2_slotAt 20 = .ok (.iload_n 2, 1) := by decide +kernel
theorem dX2_slotAt_21 : decode cX2_slotAt 21 = .ok (.ireturn, 1) := by decide +kernel
theorem dX2_slotAt_22 : decode cX2_slotAt 22 = .ok (.iinc 2 1, 3) := by decide +kernel
theorem dX2_slotAt_25 : decode cX2_slotAt 25 = .ok (.goto (-23), 3) := by decide +kernel
theorem dX2_slotAt_28 : decode cX2_slotAt 28 = .ok (.iconst (-1), 1) := by decide +kernel
theorem dX2_slotAt_29 : decode cX2_slotAt 29 = .ok (.ireturn, 1) := by decide +kernel
set_option maxRecDepth 20000 in
theorem ggX2_inBerth_X2_po : GoodIn wsX2_inBerth wsX2_po := goodIn_r _ [6, 7, 8, 9, 10, 11, 12, 13, 14] (by decide +kernel) (by decide +kernel)
set_option maxRecDepth 20000 in
theorem gX2_inBerth_X2_po : GoodIn wsX2_inBerth (wsV RX2 36 RX2 yX2_po wsX2_po) := goodIn_app (goodIn_of _ (by decide +kernel)) ggX2_inBerth_X2_po
theorem dX2_inBerth_0 : decode cX2_inBerth 0 = .ok (.iconst 0, 1) := by decide +kernel
theorem dX2_inBerth_1 : decode cX2_inBerth 1 = .ok (.istore_n 3, 1) := by decide +kernel
theorem dX2_inBerth_2 : decode cX2_inBerth 2 = .ok (.iload_n 3, 1) := by decide +kernel
theorem dX2_inBerth_3 : decode cX2_inBerth 3 = .ok (.aload_n 0, 1) := by decide +kernel
theorem dX2_inBerth_4 : decode cX2_inBerth 4 = .ok (.getfield 33, 3) := by decide +kernel
theorem dX2_inBerth_7 : decode cX2_inBerth 7 = .ok (.if_icmp .ge 31, 3) := by decide +kernel
theorem dX2_inBerth_10 : decode cX2_inBerth 10 = .ok (.aload_n 0, 1) := by decide +kernel
theorem dX2_inBerth_11 : decode cX2_inBerth 11 = .ok (.iload_n 3, 1) := by decide +kernel
theorem dX2_inBerth_12 : decode cX2_inBerth 12 = .ok (.iconst 1, 1) := by decide +kernel
theorem dX2_inBerth_13 : decode cX2_inBerth 13 = .ok (.invokevirtual 36, 3) := by decide +kernel
theorem dX2_inBerth_16 : decode cX2_inBerth 16 = .ok (.iload_n 1, 1) := by decide +kernel
theorem dX2_inBerth_17 : decode cX2_inBerth 17 = .ok (.if_icmp .ne 15, 3) := by decide +kernel
theorem dX2_inBerth_20 : decode cX2_inBerth 20 = .ok (.aload_n 0, 1) := by decide +kernel
theorem dX2_inBerth_21 : decode cX2_inBerth 21 = .ok (.iload_n 3, 1) := by decide +kernel
theorem dX2_inBerth_22 : decode cX2_inBerth 22 = .ok (.iconst 2, 1) := by decide +kernel
theorem dX2_inBerth_23 : decode cX2_inBerth 23 = .ok (.invokevirtual 36, 3) := by decide +kernel
theorem dX2_inBerth_26 : decode cX2_inBerth 26 = .ok (.iload_n 2, 1) := by decide +kernel
theorem dX2_inBerth_27 : decode cX2_inBerth 27 = .ok (.if_icmp .ne 5, 3) := by decide +kernel
theorem dX2_inBerth_30 : decode cX2_inBerth 30 = .ok (.iload_n 3, 1) := by decide +kernel
theorem dX2_inBerth_31 : decode cX2_inBerth 31 = .ok (.ireturn, 1) := by decide +kernel
theorem dX2_inBerth_32 : decode cX2_inBerth 32 = .ok (.iinc 3 1, 3) := by decide +kernel
theorem dX2_inBerth_35 : decode cX2_inBerth 35 = .ok (.goto (-33), 3) := by decide +kernel
theorem dX2_inBerth_38 : decode cX2_inBerth 38 = .ok (.iconst (-1), 1) := by decide +kernel
theorem dX2_inBerth_39 : decode cX2_inBerth 39 = .ok (.ireturn, 1) := by decide +kernel
set_option maxRecDepth 20000 in
theorem ggX2_free_X2_inBerth : GoodIn wsX2_free wsX2_inBerth := goodIn_r _ [5, 6, 7, 8, 9, 4, 10, 11, 12, 13, 14, 15, 16, 17, 18] (by decide +kernel) (by decide +kernel)
set_option maxRecDepth 20000 in
theorem gX2_free_X2_inBerth : GoodIn wsX2_free (wsV RX2 40 RX2 yX2_inBerth wsX2_inBerth) := goodIn_app (goodIn_of _ (by decide +kernel)) ggX2_free_X2_inBerth
theorem dX2_free_0 : decode cX2_free 0 = .ok (.iconst 0, 1) := by decide +kernel
theorem dX2_free_1 : decode cX2_free 1 = .ok (.istore_n 2, 1) := by decide +kernel
theorem dX2_free_2 : decode cX2_free 2 = .ok (.iload_n 2, 1) := by decide +kernel
theorem dX2_free_3 : decode cX2_free 3 = .ok (.iconst 3, 1) := by decide +kernel
theorem dX2_free_4 : decode cX2_free 4 = .ok (.if_icmp .ge 21, 3) := by decide +kernel
theorem dX2_free_7 : decode cX2_free 7 = .ok (.aload_n 0, 1) := by decide +kernel
theorem dX2_free_8 : decode cX2_free 8 = .ok (.iload_n 1, 1) := by decide +kernel
theorem dX2_free_9 : decode cX2_free 9 = .ok (.iload_n 2, 1) := by decide +kernel
theorem dX2_free_10 : decode cX2_free 10 = .ok (.invokevirtual 40, 3) := by decide +kernel
theorem dX2_free_13 : decode cX2_free 13 = .ok (.iconst (-1), 1) := by decide +kernel
theorem dX2_free_14 : decode cX2_free 14 = .ok (.if_icmp .ne 5, 3) := by decide +kernel
theorem dX2_free_17 : decode cX2_free 17 = .ok (.iload_n 2, 1) := by decide +kernel
theorem dX2_free_18 : decode cX2_free 18 = .ok (.ireturn, 1) := by decide +kernel
theorem dX2_free_19 : decode cX2_free 19 = .ok (.iinc 2 1, 3) := by decide +kernel
theorem dX2_free_22 : decode cX2_free 22 = .ok (.goto (-20), 3) := by decide +kernel
theorem dX2_free_25 : decode cX2_free 25 = .ok (.iconst (-1), 1) := by decide +kernel
theorem dX2_free_26 : decode cX2_free 26 = .ok (.ireturn, 1) := by decide +kernel
set_option maxRecDepth 20000 in
theorem ggX2_first_X2_inBerth : GoodIn wsX2_first wsX2_inBerth := goodIn_r _ [5, 6, 7, 8, 9, 4, 10, 11, 12, 13, 14, 15, 16, 17, 18] (by decide +kernel) (by decide +kernel)
set_option maxRecDepth 20000 in
theorem gX2_first_X2_inBerth : GoodIn wsX2_first (wsV RX2 40 RX2 yX2_inBerth wsX2_inBerth) := goodIn_app (goodIn_of _ (by decide +kernel)) ggX2_first_X2_inBerth
set_option maxRecDepth 20000 in
theorem ggX2_first_X2_po : GoodIn wsX2_first wsX2_po := goodIn_r _ [10, 11, 12, 13, 14, 15, 16, 17, 18] (by decide +kernel) (by decide +kernel)
set_option maxRecDepth 20000 in
theorem gX2_first_X2_po : GoodIn wsX2_first (wsV RX2 36 RX2 yX2_po wsX2_po) := goodIn_app (goodIn_of _ (by decide +kernel)) ggX2_first_X2_po
theorem dX2_first_0 : decode cX2_first 0 = .ok (.iconst 0, 1) := by decide +kernel
theorem dX2_first_1 : decode cX2_first 1 = .ok (.istore_n 3, 1) := by decide +kernel
theorem dX2_first_2 : decode cX2_first 2 = .ok (.iload_n 3, 1) := by decide +kernel
theorem dX2_first_3 : decode cX2_first 3 = .ok (.iconst 3, 1) := by decide +kernel
theorem dX2_first_4 : decode cX2_first 4 = .ok (.if_icmp .ge 50, 3) := by decide +kernel
theorem dX2_first_7 : decode cX2_first 7 = .ok (.aload_n 0, 1) := by decide +kernel
theorem dX2_first_8 : decode cX2_first 8 = .ok (.iload_n 1, 1) := by decide +kernel
theorem dX2_first_9 : decode cX2_first 9 = .ok (.iload_n 3, 1) := by decide +kernel
theorem dX2_first_10 : decode cX2_first 10 = .ok (.invokevirtual 40, 3) := by decide +kernel
theorem dX2_first_13 : decode cX2_first 13 = .ok (.iconst (-1), 1) := by decide +kernel
theorem dX2_first_14 : decode cX2_first 14 = .ok (.if_icmp .eq 34, 3) := by decide +kernel
theorem dX2_first_17 : decode cX2_first 17 = .ok (.aload_n 0, 1) := by decide +kernel
theorem dX2_first_18 : decode cX2_first 18 = .ok (.aload_n 0, 1) := by decide +kernel
theorem dX2_first_19 : decode cX2_first 19 = .ok (.iload_n 1, 1) := by decide +kernel
theorem dX2_first_20 : decode cX2_first 20 = .ok (.iload_n 3, 1) := by decide +kernel
theorem dX2_first_21 : decode cX2_first 21 = .ok (.invokevirtual 40, 3) := by decide +kernel
theorem dX2_first_24 : decode cX2_first 24 = .ok (.iconst 3, 1) := by decide +kernel
theorem dX2_first_25 : decode cX2_first 25 = .ok (.invokevirtual 36, 3) := by decide +kernel
theorem dX2_first_28 : decode cX2_first 28 = .ok (.iconst (-1), 1) := by decide +kernel
theorem dX2_first_29 : decode cX2_first 29 = .ok (.if_icmp .ne 7, 3) := by decide +kernel
theorem dX2_first_32 : decode cX2_first 32 = .ok (.iconst 1, 1) := by decide +kernel
theorem dX2_first_33 : decode cX2_first 33 = .ok (.goto 4, 3) := by decide +kernel
theorem dX2_first_36 : decode cX2_first 36 = .ok (.iconst 0, 1) := by decide +kernel
theorem dX2_first_37 : decode cX2_first 37 = .ok (.iload_n 2, 1) := by decide +kernel
theorem dX2_first_38 : decode cX2_first 38 = .ok (.if_icmp .ne 10, 3) := by decide +kernel
theorem dX2_first_41 : decode cX2_first 41 = .ok (.aload_n 0, 1) := by decide +kernel
theorem dX2_first_42 : decode cX2_first 42 = .ok (.iload_n 1, 1) := by decide +kernel
theorem dX2_first_43 : decode cX2_first 43 = .ok (.iload_n 3, 1) := by decide +kernel
theorem dX2_first_44 : decode cX2_first 44 = .ok (.invokevirtual 40, 3) := by decide +kernel
theorem dX2_first_47 : decode cX2_first 47 = .ok (.ireturn, 1) := by decide +kernel
theorem dX2_first_48 : decode cX2_first 48 = .ok (.iinc 3 1, 3) := by decide +kernel
theorem dX2_first_51 : decode cX2_first 51 = .ok (.goto (-49), 3) := by decide +kernel
theorem dX2_first_54 : decode cX2_first 54 = .ok (.iconst (-1), 1) := by decide +kernel
theorem dX2_first_55 : decode cX2_first 55 = .ok (.ireturn, 1) := by decide +kernel
set_option maxRecDepth 20000 in
theorem ggX2_build_X2_isIn : GoodIn wsX2_build wsX2_isIn := goodIn_r _ [7] (by decide +kernel) (by decide +kernel)
set_option maxRecDepth 20000 in
theorem gX2_build_X2_isIn : GoodIn wsX2_build (va_wsS RX2 29 yX2_isIn wsX2_isIn) := goodIn_app (goodIn_of _ (by decide +kernel)) ggX2_build_X2_isIn
set_option maxRecDepth 20000 in
theorem ggX2_build_X2_fail : GoodIn wsX2_build wsX2_fail := goodIn_r _ [11, 1, 16, 17, 18, 19, 20, 21, 22] (by decide +kernel) (by decide +kernel)
set_option maxRecDepth 20000 in
theorem gX2_build_X2_fail : GoodIn wsX2_build (wsV RX2 43 RX2 yX2_fail wsX2_fail) := goodIn_app (goodIn_of _ (by decide +kernel)) ggX2_build_X2_fail
set_option maxRecDepth 20000 in
theorem ggX2_build_X2_st : GoodIn wsX2_build wsX2_st := goodIn_r _ [15, 3, 16, 17, 18, 19, 20, 21, 22] (by decide +kernel) (by decide +kernel)
set_option maxRecDepth 20000 in
theorem gX2_build_X2_st : GoodIn wsX2_build (wsV RX2 47 RX2 yX2_st wsX2_st) := goodIn_app (goodIn_of _ (by decide +kernel)) ggX2_build_X2_st
theorem dX2_build_0 : decode cX2_build 0 = .ok (.aload_n 0, 1) := by decide +kernel
theorem dX2_build_1 : decode cX2_build 1 = .ok (.iconst 0, 1) := by decide +kernel
theorem dX2_build_2 : decode cX2_build 2 = .ok (.putfield 22, 3) := by decide +kernel
theorem dX2_build_5 : decode cX2_build 5 = .ok (.iload_n 1, 1) := by decide +kernel
theorem dX2_build_6 : decode cX2_build 6 = .ok (.iconst 0, 1) := by decide +kernel
theorem dX2_build_7 : decode cX2_build 7 = .ok (.bipush 23, 2) := by decide +kernel
theorem dX2_build_9 : decode cX2_build 9 = .ok (.invokestatic 29, 3) := by decide +kernel
theorem dX2_build_12 : decode cX2_build 12 = .ok (.ifCond .ne 9, 3) := by decide +kernel
theorem dX2_build_15 : decode cX2_build 15 = .ok (.aload_n 0, 1) := by decide +kernel
theorem dX2_build_16 : decode cX2_build 16 = .ok (.iconst 1, 1) := by decide +kernel
theorem dX2_build_17 : decode cX2_build 17 = .ok (.invokevirtual 43, 3) := by decide +kernel
theorem dX2_build_20 : decode cX2_build 20 = .ok (.ireturn, 1) := by decide +kernel
theorem dX2_build_21 : decode cX2_build 21 = .ok (.iconst 0, 1) := by decide +kernel
theorem dX2_build_22 : decode cX2_build 22 = .ok (.istore_n 2, 1) := by decide +kernel
theorem dX2_build_23 : decode cX2_build 23 = .ok (.iconst 0, 1) := by decide +kernel
theorem dX2_build_24 : decode cX2_build 24 = .ok (.istore_n 3, 1) := by decide +kernel
theorem dX2_build_25 : decode cX2_build 25 = .ok (.iload_n 3, 1) := by decide +kernel
theorem dX2_build_26 : decode cX2_build 26 = .ok (.aload_n 0, 1) := by decide +kernel
theorem dX2_build_27 : decode cX2_build 27 = .ok (.getfield 26, 3) := by decide +kernel
theorem dX2_build_30 : decode cX2_build 30 = .ok (.if_icmp .ge 29, 3) := by decide +kernel
theorem dX2_build_33 : decode cX2_build 33 = .ok (.iload_n 2, 1) := by decide +kernel
theorem dX2_build_34 : decode cX2_build 34 = .ok (.ifCond .ne 13, 3) := by decide +kernel
theorem dX2_build_37 : decode cX2_build 37 = .ok (.aload_n 0, 1) := by decide +kernel
theorem dX2_build_38 : decode cX2_build 38 = .ok (.iload_n 3, 1) := by decide +kernel
theorem dX2_build_39 : decode cX2_build 39 = .ok (.iconst 0, 1) := by decide +kernel
theorem dX2_build_40 : decode cX2_build 40 = .ok (.invokevirtual 47, 3) := by decide +kernel
theorem dX2_build_43 : decode cX2_build 43 = .ok (.iload_n 1, 1) := by decide +kernel
theorem dX2_build_44 : decode cX2_build 44 = .ok (.if_icmp .ne 7, 3) := by decide +kernel
theorem dX2_build_47 : decode cX2_build 47 = .ok (.iconst 1, 1) := by decide +kernel
theorem dX2_build_48 : decode cX2_build 48 = .ok (.goto 4, 3) := by decide +kernel
theorem dX2_build_51 : decode cX2_build 51 = .ok (.iconst 0, 1) := by decide +kernel
theorem dX2_build_52 : decode cX2_build 52 = .ok (.istore_n 2, 1) := by decide +kernel
theorem dX2_build_53 : decode cX2_build 53 = .ok (.iinc 3 1, 3) := by decide +kernel
theorem dX2_build_56 : decode cX2_build 56 = .ok (.goto (-31), 3) := by decide +kernel
theorem dX2_build_59 : decode cX2_build 59 = .ok (.aload_n 0, 1) := by decide +kernel
theorem dX2_build_60 : decode cX2_build 60 = .ok (.getfield 26, 3) := by decide +kernel
theorem dX2_build_63 : decode cX2_build 63 = .ok (.bipush 6, 2) := by decide +kernel
theorem dX2_build_65 : decode cX2_build 65 = .ok (.if_icmp .eq 7, 3) := by decide +kernel
theorem dX2_build_68 : decode cX2_build 68 = .ok (.iload_n 2, 1) := by decide +kernel
theorem dX2_build_69 : decode cX2_build 69 = .ok (.ifCond .eq 9, 3) := by decide +kernel
theorem dX2_build_72 : decode cX2_build 72 = .ok (.aload_n 0, 1) := by decide +kernel
theorem dX2_build_73 : decode cX2_build 73 = .ok (.iconst 2, 1) := by decide +kernel
theorem dX2_build_74 : decode cX2_build 74 = .ok (.invokevirtual 43, 3) := by decide +kernel
theorem dX2_build_77 : decode cX2_build 77 = .ok (.ireturn, 1) := by decide +kernel
theorem dX2_build_78 : decode cX2_build 78 = .ok (.aload_n 0, 1) := by decide +kernel
theorem dX2_build_79 : decode cX2_build 79 = .ok (.getfield 13, 3) := by decide +kernel
theorem dX2_build_82 : decode cX2_build 82 = .ok (.iconst 3, 1) := by decide +kernel
theorem dX2_build_83 : decode cX2_build 83 = .ok (.aload_n 0, 1) := by decide +kernel
theorem dX2_build_84 : decode cX2_build 84 = .ok (.getfield 26, 3) := by decide +kernel
theorem dX2_build_87 : decode cX2_build 87 = .ok (.imul, 1) := by decide +kernel
theorem dX2_build_88 : decode cX2_build 88 = .ok (.iconst 0, 1) := by decide +kernel
theorem dX2_build_89 : decode cX2_build 89 = .ok (.iadd, 1) := by decide +kernel
theorem dX2_build_90 : decode cX2_build 90 = .ok (.iload_n 1, 1) := by decide +kernel
theorem dX2_build_91 : decode cX2_build 91 = .ok (.iastore, 1) := by decide +kernel
theorem dX2_build_92 : decode cX2_build 92 = .ok (.aload_n 0, 1) := by decide +kernel
theorem dX2_build_93 : decode cX2_build 93 = .ok (.dup, 1) := by decide +kernel
theorem dX2_build_94 : decode cX2_build 94 = .ok (.getfield 26, 3) := by decide +kernel
theorem dX2_build_97 : decode cX2_build 97 = .ok (.iconst 1, 1) := by decide +kernel
theorem dX2_build_98 : decode cX2_build 98 = .ok (.iadd, 1) := by decide +kernel
theorem dX2_build_99 : decode cX2_build 99 = .ok (.putfield 26, 3) := by decide +kernel
theorem dX2_build_102 : decode cX2_build 102 = .ok (.aload_n 0, 1) := by decide +kernel
theorem dX2_build_103 : decode cX2_build 103 = .ok (.getfield 26, 3) := by decide +kernel
theorem dX2_build_106 : decode cX2_build 106 = .ok (.iconst 1, 1) := by decide +kernel
theorem dX2_build_107 : decode cX2_build 107 = .ok (.isub, 1) := by decide +kernel
theorem dX2_build_108 : decode cX2_build 108 = .ok (.ireturn, 1) := by decide +kernel
set_option maxRecDepth 20000 in
theorem ggX2_pod_X2_isStation : GoodIn wsX2_pod wsX2_isStation := goodIn_r _ [13, 14, 15, 16, 12, 17, 34, 35, 36, 37, 38, 39, 40] (by decide +kernel) (by decide +kernel)
set_option maxRecDepth 20000 in
theorem gX2_pod_X2_isStation : GoodIn wsX2_pod (wsV RX2 50 RX2 yX2_isStation wsX2_isStation) := goodIn_app (goodIn_of _ (by decide +kernel)) ggX2_pod_X2_isStation
set_option maxRecDepth 20000 in
theorem ggX2_pod_X2_fail : GoodIn wsX2_pod wsX2_fail := goodIn_r _ [21, 1, 34, 35, 36, 37, 38, 39, 40] (by decide +kernel) (by decide +kernel)
set_option maxRecDepth 20000 in
theorem gX2_pod_X2_fail : GoodIn wsX2_pod (wsV RX2 43 RX2 yX2_fail wsX2_fail) := goodIn_app (goodIn_of _ (by decide +kernel)) ggX2_pod_X2_fail
set_option maxRecDepth 20000 in
theorem ggX2_pod_X2_free : GoodIn wsX2_pod wsX2_free := goodIn_r _ [25, 26, 27, 28, 12, 29, 2, 30, 31, 32, 33, 4, 34, 35, 36, 37, 38, 39, 40] (by decide +kernel) (by decide +kernel)
set_option maxRecDepth 20000 in
theorem gX2_pod_X2_free : GoodIn wsX2_pod (wsV RX2 54 RX2 yX2_free wsX2_free) := goodIn_app (goodIn_of _ (by decide +kernel)) ggX2_pod_X2_free
theorem dX2_pod_0 : decode cX2_pod 0 = .ok (.aload_n 0, 1) := by decide +kernel
theorem dX2_pod_1 : decode cX2_pod 1 = .ok (.iconst 0, 1) := by decide +kernel
theorem dX2_pod_2 : decode cX2_pod 2 = .ok (.putfield 22, 3) := by decide +kernel
theorem dX2_pod_5 : decode cX2_pod 5 = .ok (.aload_n 0, 1) := by decide +kernel
theorem dX2_pod_6 : decode cX2_pod 6 = .ok (.iload_n 1, 1) := by decide +kernel
theorem dX2_pod_7 : decode cX2_pod 7 = .ok (.invokevirtual 50, 3) := by decide +kernel
theorem dX2_pod_10 : decode cX2_pod 10 = .ok (.ifCond .ne 9, 3) := by decide +kernel
theorem dX2_pod_13 : decode cX2_pod 13 = .ok (.aload_n 0, 1) := by decide +kernel
theorem dX2_pod_14 : decode cX2_pod 14 = .ok (.iconst 1, 1) := by decide +kernel
theorem dX2_pod_15 : decode cX2_pod 15 = .ok (.invokevirtual 43, 3) := by decide +kernel
theorem dX2_pod_18 : decode cX2_pod 18 = .ok (.ireturn, 1) := by decide +kernel
theorem dX2_pod_19 : decode cX2_pod 19 = .ok (.aload_n 0, 1) := by decide +kernel
theorem dX2_pod_20 : decode cX2_pod 20 = .ok (.getfield 33, 3) := by decide +kernel
theorem dX2_pod_23 : decode cX2_pod 23 = .ok (.bipush 12, 2) := by decide +kernel
theorem dX2_pod_25 : decode cX2_pod 25 = .ok (.if_icmp .eq 12, 3) := by decide +kernel
theorem dX2_pod_28 : decode cX2_pod 28 = .ok (.aload_n 0, 1) := by decide +kernel
theorem dX2_pod_29 : decode cX2_pod 29 = .ok (.iload_n 1, 1) := by decide +kernel
theorem dX2_pod_30 : decode cX2_pod 30 = .ok (.invokevirtual 54, 3) := by decide +kernel
theorem dX2_pod_33 : decode cX2_pod 33 = .ok (.iconst (-1), 1) := by decide +kernel
theorem dX2_pod_34 : decode cX2_pod 34 = .ok (.if_icmp .ne 9, 3) := by decide +kernel
theorem dX2_pod_37 : decode cX2_pod 37 = .ok (.aload_n 0, 1) := by decide +kernel
theorem dX2_pod_38 : decode cX2_pod 38 = .ok (.iconst 2, 1) := by decide +kernel
theorem dX2_pod_39 : decode cX2_pod 39 = .ok (.invokevirtual 43, 3) := by decide +kernel
theorem dX2_pod_42 : decode cX2_pod 42 = .ok (.ireturn, 1) := by decide +kernel
theorem dX2_pod_43 : decode cX2_pod 43 = .ok (.bipush 7, 2) := by decide +kernel
theorem dX2_pod_45 : decode cX2_pod 45 = .ok (.newarray .int, 2) := by decide +kernel
theorem dX2_pod_47 : decode cX2_pod 47 = .ok (.dup, 1) := by decide +kernel
theorem dX2_pod_48 : decode cX2_pod 48 = .ok (.iconst 0, 1) := by decide +kernel
theorem dX2_pod_49 : decode cX2_pod 49 = .ok (.iconst (-1), 1) := by decide +kernel
theorem dX2_pod_50 : decode cX2_pod 50 = .ok (.iastore, 1) := by decide +kernel
theorem dX2_pod_51 : decode cX2_pod 51 = .ok (.dup, 1) := by decide +kernel
theorem dX2_pod_52 : decode cX2_pod 52 = .ok (.iconst 1, 1) := by decide +kernel
theorem dX2_pod_53 : decode cX2_pod 53 = .ok (.iload_n 1, 1) := by decide +kernel
theorem dX2_pod_54 : decode cX2_pod 54 = .ok (.iastore, 1) := by decide +kernel
theorem dX2_pod_55 : decode cX2_pod 55 = .ok (.dup, 1) := by decide +kernel
theorem dX2_pod_56 : decode cX2_pod 56 = .ok (.iconst 2, 1) := by decide +kernel
theorem dX2_pod_57 : decode cX2_pod 57 = .ok (.aload_n 0, 1) := by decide +kernel
theorem dX2_pod_58 : decode cX2_pod 58 = .ok (.iload_n 1, 1) := by decide +kernel
theorem dX2_pod_59 : decode cX2_pod 59 = .ok (.invokevirtual 54, 3) := by decide +kernel
theorem dX2_pod_62 : decode cX2_pod 62 = .ok (.iastore, 1) := by decide +kernel
theorem dX2_pod_63 : decode cX2_pod 63 = .ok (.dup, 1) := by decide +kernel
theorem dX2_pod_64 : decode cX2_pod 64 = .ok (.iconst 3, 1) := by decide +kernel
theorem dX2_pod_65 : decode cX2_pod 65 = .ok (.iconst (-1), 1) := by decide +kernel
theorem dX2_pod_66 : decode cX2_pod 66 = .ok (.iastore, 1) := by decide +kernel
theorem dX2_pod_67 : decode cX2_pod 67 = .ok (.dup, 1) := by decide +kernel
theorem dX2_pod_68 : decode cX2_pod 68 = .ok (.iconst 4, 1) := by decide +kernel
theorem dX2_pod_69 : decode cX2_pod 69 = .ok (.iconst 0, 1) := by decide +kernel
theorem dX2_pod_70 : decode cX2_pod 70 = .ok (.iastore, 1) := by decide +kernel
theorem dX2_pod_71 : decode cX2_pod 71 = .ok (.dup, 1) := by decide +kernel
theorem dX2_pod_72 : decode cX2_pod 72 = .ok (.iconst 5, 1) := by decide +kernel
theorem dX2_pod_73 : decode cX2_pod 73 = .ok (.iconst 0, 1) := by decide +kernel
theorem dX2_pod_74 : decode cX2_pod 74 = .ok (.iastore, 1) := by decide +kernel
theorem dX2_pod_75 : decode cX2_pod 75 = .ok (.dup, 1) := by decide +kernel
theorem dX2_pod_76 : decode cX2_pod 76 = .ok (.bipush 6, 2) := by decide +kernel
theorem dX2_pod_78 : decode cX2_pod 78 = .ok (.iconst 0, 1) := by decide +kernel
theorem dX2_pod_79 : decode cX2_pod 79 = .ok (.iastore, 1) := by decide +kernel
theorem dX2_pod_80 : decode cX2_pod 80 = .ok (.astore_n 2, 1) := by decide +kernel
theorem dX2_pod_81 : decode cX2_pod 81 = .ok (.aload_n 2, 1) := by decide +kernel
theorem dX2_pod_82 : decode cX2_pod 82 = .ok (.iconst 0, 1) := by decide +kernel
theorem dX2_pod_83 : decode cX2_pod 83 = .ok (.aload_n 0, 1) := by decide +kernel
theorem dX2_pod_84 : decode cX2_pod 84 = .ok (.getfield 9, 3) := by decide +kernel
theorem dX2_pod_87 : decode cX2_pod 87 = .ok (.bipush 7, 2) := by decide +kernel
theorem dX2_pod_89 : decode cX2_pod 89 = .ok (.aload_n 0, 1) := by decide +kernel
theorem dX2_pod_90 : decode cX2_pod 90 = .ok (.getfield 33, 3) := by decide +kernel
theorem dX2_pod_93 : decode cX2_pod 93 = .ok (.imul, 1) := by decide +kernel
theorem dX2_pod_94 : decode cX2_pod 94 = .ok (.bipush 7, 2) := by decide +kernel
theorem dX2_pod_96 : decode cX2_pod 96 = .ok (.invokestatic 57, 3) := by decide +kernel
theorem dX2_pod_99 : decode cX2_pod 99 = .ok (.aload_n 0, 1) := by decide +kernel
theorem dX2_pod_100 : decode cX2_pod 100 = .ok (.dup, 1) := by decide +kernel
theorem dX2_pod_101 : decode cX2_pod 101 = .ok (.getfield 33, 3) := by decide +kernel
theorem dX2_pod_104 : decode cX2_pod 104 = .ok (.iconst 1, 1) := by decide +kernel
theorem dX2_pod_105 : decode cX2_pod 105 = .ok (.iadd, 1) := by decide +kernel
theorem dX2_pod_106 : decode cX2_pod 106 = .ok (.putfield 33, 3) := by decide +kernel
theorem dX2_pod_109 : decode cX2_pod 109 = .ok (.aload_n 0, 1) := by decide +kernel
theorem dX2_pod_110 : decode cX2_pod 110 = .ok (.getfield 33, 3) := by decide +kernel
theorem dX2_pod_113 : decode cX2_pod 113 = .ok (.iconst 1, 1) := by decide +kernel
theorem dX2_pod_114 : decode cX2_pod 114 = .ok (.isub, 1) := by decide +kernel
theorem dX2_pod_115 : decode cX2_pod 115 = .ok (.ireturn, 1) := by decide +kernel
set_option maxRecDepth 20000 in
theorem ggX2_line_X2_st : GoodIn wsX2_line wsX2_st := goodIn_r _ [12, 7, 13, 14, 15, 16, 17, 18, 19] (by decide +kernel) (by decide +kernel)
set_option maxRecDepth 20000 in
theorem gX2_line_X2_st : GoodIn wsX2_line (wsV RX2 47 RX2 yX2_st wsX2_st) := goodIn_app (goodIn_of _ (by decide +kernel)) ggX2_line_X2_st
theorem dX2_line_0 : decode cX2_line 0 = .ok (.iconst 3, 1) := by decide +kernel
theorem dX2_line_1 : decode cX2_line 1 = .ok (.newarray .int, 2) := by decide +kernel
theorem dX2_line_3 : decode cX2_line 3 = .ok (.dup, 1) := by decide +kernel
theorem dX2_line_4 : decode cX2_line 4 = .ok (.iconst 0, 1) := by decide +kernel
theorem dX2_line_5 : decode cX2_line 5 = .ok (.iload_n 2, 1) := by decide +kernel
theorem dX2_line_6 : decode cX2_line 6 = .ok (.iastore, 1) := by decide +kernel
theorem dX2_line_7 : decode cX2_line 7 = .ok (.dup, 1) := by decide +kernel
theorem dX2_line_8 : decode cX2_line 8 = .ok (.iconst 1, 1) := by decide +kernel
theorem dX2_line_9 : decode cX2_line 9 = .ok (.iconst 0, 1) := by decide +kernel
theorem dX2_line_10 : decode cX2_line 10 = .ok (.iastore, 1) := by decide +kernel
theorem dX2_line_11 : decode cX2_line 11 = .ok (.dup, 1) := by decide +kernel
theorem dX2_line_12 : decode cX2_line 12 = .ok (.iconst 2, 1) := by decide +kernel
theorem dX2_line_13 : decode cX2_line 13 = .ok (.iload_n 3, 1) := by decide +kernel
theorem dX2_line_14 : decode cX2_line 14 = .ok (.iastore, 1) := by decide +kernel
theorem dX2_line_15 : decode cX2_line 15 = .ok (.astore 4, 2) := by decide +kernel
theorem dX2_line_17 : decode cX2_line 17 = .ok (.aload 4, 2) := by decide +kernel
theorem dX2_line_19 : decode cX2_line 19 = .ok (.iconst 0, 1) := by decide +kernel
theorem dX2_line_20 : decode cX2_line 20 = .ok (.aload_n 0, 1) := by decide +kernel
theorem dX2_line_21 : decode cX2_line 21 = .ok (.getfield 16, 3) := by decide +kernel
theorem dX2_line_24 : decode cX2_line 24 = .ok (.iconst 3, 1) := by decide +kernel
theorem dX2_line_25 : decode cX2_line 25 = .ok (.bipush 9, 2) := by decide +kernel
theorem dX2_line_27 : decode cX2_line 27 = .ok (.iload_n 1, 1) := by decide +kernel
theorem dX2_line_28 : decode cX2_line 28 = .ok (.imul, 1) := by decide +kernel
theorem dX2_line_29 : decode cX2_line 29 = .ok (.aload_n 0, 1) := by decide +kernel
theorem dX2_line_30 : decode cX2_line 30 = .ok (.iload_n 1, 1) := by decide +kernel
theorem dX2_line_31 : decode cX2_line 31 = .ok (.iconst 1, 1) := by decide +kernel
theorem dX2_line_32 : decode cX2_line 32 = .ok (.invokevirtual 47, 3) := by decide +kernel
theorem dX2_line_35 : decode cX2_line 35 = .ok (.iadd, 1) := by decide +kernel
theorem dX2_line_36 : decode cX2_line 36 = .ok (.imul, 1) := by decide +kernel
theorem dX2_line_37 : decode cX2_line 37 = .ok (.iconst 3, 1) := by decide +kernel
theorem dX2_line_38 : decode cX2_line 38 = .ok (.invokestatic 57, 3) := by decide +kernel
theorem dX2_line_41 : decode cX2_line 41 = .ok (.aload_n 0, 1) := by decide +kernel
theorem dX2_line_42 : decode cX2_line 42 = .ok (.getfield 13, 3) := by decide +kernel
theorem dX2_line_45 : decode cX2_line 45 = .ok (.iconst 3, 1) := by decide +kernel
theorem dX2_line_46 : decode cX2_line 46 = .ok (.iload_n 1, 1) := by decide +kernel
theorem dX2_line_47 : decode cX2_line 47 = .ok (.imul, 1) := by decide +kernel
theorem dX2_line_48 : decode cX2_line 48 = .ok (.iconst 1, 1) := by decide +kernel
theorem dX2_line_49 : decode cX2_line 49 = .ok (.iadd, 1) := by decide +kernel
theorem dX2_line_50 : decode cX2_line 50 = .ok (.dup2, 1) := by decide +kernel
theorem dX2_line_51 : decode cX2_line 51 = .ok (.iaload, 1) := by decide +kernel
theorem dX2_line_52 : decode cX2_line 52 = .ok (.iconst 1, 1) := by decide +kernel
theorem dX2_line_53 : decode cX2_line 53 = .ok (.iadd, 1) := by decide +kernel
theorem dX2_line_54 : decode cX2_line 54 = .ok (.iastore, 1) := by decide +kernel
theorem dX2_line_55 : decode cX2_line 55 = .ok (.return_, 1) := by decide +kernel
set_option maxRecDepth 20000 in
theorem ggX2_ride_X2_isStation : GoodIn wsX2_ride wsX2_isStation := goodIn_r _ [6, 7, 8, 9, 5, 10, 30, 31, 32, 33, 34, 35, 36] (by decide +kernel) (by decide +kernel)
set_option maxRecDepth 20000 in
theorem gX2_ride_X2_isStation : GoodIn wsX2_ride (wsV RX2 50 RX2 yX2_isStation wsX2_isStation) := goodIn_app (goodIn_of _ (by decide +kernel)) ggX2_ride_X2_isStation
set_option maxRecDepth 20000 in
theorem ggX2_ride_X2_fail : GoodIn wsX2_ride wsX2_fail := goodIn_r _ [14, 1, 30, 31, 32, 33, 34, 35, 36] (by decide +kernel) (by decide +kernel)
set_option maxRecDepth 20000 in
theorem gX2_ride_X2_fail : GoodIn wsX2_ride (wsV RX2 43 RX2 yX2_fail wsX2_fail) := goodIn_app (goodIn_of _ (by decide +kernel)) ggX2_ride_X2_fail
set_option maxRecDepth 20000 in
theorem ggX2_ride_X2_st : GoodIn wsX2_ride wsX2_st := goodIn_r _ [18, 19, 30, 31, 32, 33, 34, 35, 36] (by decide +kernel) (by decide +kernel)
set_option maxRecDepth 20000 in
theorem gX2_ride_X2_st : GoodIn wsX2_ride (wsV RX2 47 RX2 yX2_st wsX2_st) := goodIn_app (goodIn_of _ (by decide +kernel)) ggX2_ride_X2_st
set_option maxRecDepth 20000 in
theorem ggX2_ride_X2_line : GoodIn wsX2_ride wsX2_line := goodIn_r _ [23, 24, 25, 26, 27, 28, 29, 19, 15, 16, 17, 5, 18, 30, 31, 32, 33, 34, 35, 36] (by decide +kernel) (by decide +kernel)
set_option maxRecDepth 20000 in
theorem gX2_ride_X2_line : GoodIn wsX2_ride (wsV RX2 63 RX2 yX2_line wsX2_line) := goodIn_app (goodIn_of _ (by decide +kernel)) ggX2_ride_X2_line
theorem dX2_ride_0 : decode cX2_ride 0 = .ok (.aload_n 0, 1) := by decide +kernel
theorem dX2_ride_1 : decode cX2_ride 1 = .ok (.iconst 0, 1) := by decide +kernel
theorem dX2_ride_2 : decode cX2_ride 2 = .ok (.putfield 22, 3) := by decide +kernel
theorem dX2_ride_5 : decode cX2_ride 5 = .ok (.aload_n 0, 1) := by decide +kernel
theorem dX2_ride_6 : decode cX2_ride 6 = .ok (.iload_n 1, 1) := by decide +kernel
theorem dX2_ride_7 : decode cX2_ride 7 = .ok (.invokevirtual 50, 3) := by decide +kernel
theorem dX2_ride_10 : decode cX2_ride 10 = .ok (.ifCond .eq 11, 3) := by decide +kernel
theorem dX2_ride_13 : decode cX2_ride 13 = .ok (.aload_n 0, 1) := by decide +kernel
theorem dX2_ride_14 : decode cX2_ride 14 = .ok (.iload_n 2, 1) := by decide +kernel
theorem dX2_ride_15 : decode cX2_ride 15 = .ok (.invokevirtual 50, 3) := by decide +kernel
theorem dX2_ride_18 : decode cX2_ride 18 = .ok (.ifCond .ne 9, 3) := by decide +kernel
theorem dX2_ride_21 : decode cX2_ride 21 = .ok (.aload_n 0, 1) := by decide +kernel
theorem dX2_ride_22 : decode cX2_ride 22 = .ok (.iconst 1, 1) := by decide +kernel
theorem dX2_ride_23 : decode cX2_ride 23 = .ok (.invokevirtual 43, 3) := by decide +kernel
theorem dX2_ride_26 : decode cX2_ride 26 = .ok (.ireturn, 1) := by decide +kernel
theorem dX2_ride_27 : decode cX2_ride 27 = .ok (.iload_n 1, 1) := by decide +kernel
theorem dX2_ride_28 : decode cX2_ride 28 = .ok (.iload_n 2, 1) := by decide +kernel
theorem dX2_ride_29 : decode cX2_ride 29 = .ok (.if_icmp .ne 9, 3) := by decide +kernel
theorem dX2_ride_32 : decode cX2_ride 32 = .ok (.aload_n 0, 1) := by decide +kernel
theorem dX2_ride_33 : decode cX2_ride 33 = .ok (.iconst 2, 1) := by decide +kernel
theorem dX2_ride_34 : decode cX2_ride 34 = .ok (.invokevirtual 43, 3) := by decide +kernel
theorem dX2_ride_37 : decode cX2_ride 37 = .ok (.ireturn, 1) := by decide +kernel
theorem dX2_ride_38 : decode cX2_ride 38 = .ok (.aload_n 0, 1) := by decide +kernel
theorem dX2_ride_39 : decode cX2_ride 39 = .ok (.iload_n 1, 1) := by decide +kernel
theorem dX2_ride_40 : decode cX2_ride 40 = .ok (.iconst 1, 1) := by decide +kernel
theorem dX2_ride_41 : decode cX2_ride 41 = .ok (.invokevirtual 47, 3) := by decide +kernel
theorem dX2_ride_44 : decode cX2_ride 44 = .ok (.bipush 9, 2) := by decide +kernel
theorem dX2_ride_46 : decode cX2_ride 46 = .ok (.if_icmp .ne 9, 3) := by decide +kernel
theorem dX2_ride_49 : decode cX2_ride 49 = .ok (.aload_n 0, 1) := by decide +kernel
theorem dX2_ride_50 : decode cX2_ride 50 = .ok (.iconst 3, 1) := by decide +kernel
theorem dX2_ride_51 : decode cX2_ride 51 = .ok (.invokevirtual 43, 3) := by decide +kernel
theorem dX2_ride_54 : decode cX2_ride 54 = .ok (.ireturn, 1) := by decide +kernel
theorem dX2_ride_55 : decode cX2_ride 55 = .ok (.aload_n 0, 1) := by decide +kernel
theorem dX2_ride_56 : decode cX2_ride 56 = .ok (.iload_n 1, 1) := by decide +kernel
theorem dX2_ride_57 : decode cX2_ride 57 = .ok (.iload_n 2, 1) := by decide +kernel
theorem dX2_ride_58 : decode cX2_ride 58 = .ok (.iconst 0, 1) := by decide +kernel
theorem dX2_ride_59 : decode cX2_ride 59 = .ok (.invokevirtual 63, 3) := by decide +kernel
theorem dX2_ride_62 : decode cX2_ride 62 = .ok (.aload_n 0, 1) := by decide +kernel
theorem dX2_ride_63 : decode cX2_ride 63 = .ok (.iload_n 1, 1) := by decide +kernel
theorem dX2_ride_64 : decode cX2_ride 64 = .ok (.iconst 1, 1) := by decide +kernel
theorem dX2_ride_65 : decode cX2_ride 65 = .ok (.invokevirtual 47, 3) := by decide +kernel
theorem dX2_ride_68 : decode cX2_ride 68 = .ok (.ireturn, 1) := by decide +kernel
set_option maxRecDepth 20000 in
theorem ggX2_on_X2_st : GoodIn wsX2_on wsX2_st := goodIn_r _ [5, 6, 7, 8, 9, 10, 11, 12, 13] (by decide +kernel) (by decide +kernel)
set_option maxRecDepth 20000 in
theorem gX2_on_X2_st : GoodIn wsX2_on (wsV RX2 47 RX2 yX2_st wsX2_st) := goodIn_app (goodIn_of _ (by decide +kernel)) ggX2_on_X2_st
theorem dX2_on_0 : decode cX2_on 0 = .ok (.aload_n 0, 1) := by decide +kernel
theorem dX2_on_1 : decode cX2_on 1 = .ok (.iload_n 2, 1) := by decide +kernel
theorem dX2_on_2 : decode cX2_on 2 = .ok (.iconst 0, 1) := by decide +kernel
theorem dX2_on_3 : decode cX2_on 3 = .ok (.invokevirtual 47, 3) := by decide +kernel
theorem dX2_on_6 : decode cX2_on 6 = .ok (.aload_n 0, 1) := by decide +kernel
theorem dX2_on_7 : decode cX2_on 7 = .ok (.iload_n 1, 1) := by decide +kernel
theorem dX2_on_8 : decode cX2_on 8 = .ok (.iconst 0, 1) := by decide +kernel
theorem dX2_on_9 : decode cX2_on 9 = .ok (.invokevirtual 47, 3) := by decide +kernel
theorem dX2_on_12 : decode cX2_on 12 = .ok (.isub, 1) := by decide +kernel
theorem dX2_on_13 : decode cX2_on 13 = .ok (.bipush 24, 2) := by decide +kernel
theorem dX2_on_15 : decode cX2_on 15 = .ok (.iadd, 1) := by decide +kernel
theorem dX2_on_16 : decode cX2_on 16 = .ok (.bipush 24, 2) := by decide +kernel
theorem dX2_on_18 : decode cX2_on 18 = .ok (.irem, 1) := by decide +kernel
theorem dX2_on_19 : decode cX2_on 19 = .ok (.ireturn, 1) := by decide +kernel
set_option maxRecDepth 20000 in
theorem ggX2_send_X2_isPod : GoodIn wsX2_send wsX2_isPod := goodIn_r _ [6, 7, 8, 9, 5, 10, 38, 39, 40, 41, 42, 43, 44] (by decide +kernel) (by decide +kernel)
set_option maxRecDepth 20000 in
theorem gX2_send_X2_isPod : GoodIn wsX2_send (wsV RX2 67 RX2 yX2_isPod wsX2_isPod) := goodIn_app (goodIn_of _ (by decide +kernel)) ggX2_send_X2_isPod
set_option maxRecDepth 20000 in
theorem ggX2_send_X2_isStation : GoodIn wsX2_send wsX2_isStation := goodIn_r _ [14, 15, 8, 9, 5, 10, 38, 39, 40, 41, 42, 43, 44] (by decide +kernel) (by decide +kernel)
set_option maxRecDepth 20000 in
theorem gX2_send_X2_isStation : GoodIn wsX2_send (wsV RX2 50 RX2 yX2_isStation wsX2_isStation) := goodIn_app (goodIn_of _ (by decide +kernel)) ggX2_send_X2_isStation
set_option maxRecDepth 20000 in
theorem ggX2_send_X2_fail : GoodIn wsX2_send wsX2_fail := goodIn_r _ [19, 1, 38, 39, 40, 41, 42, 43, 44] (by decide +kernel) (by decide +kernel)
set_option maxRecDepth 20000 in
theorem gX2_send_X2_fail : GoodIn wsX2_send (wsV RX2 43 RX2 yX2_fail wsX2_fail) := goodIn_app (goodIn_of _ (by decide +kernel)) ggX2_send_X2_fail
set_option maxRecDepth 20000 in
theorem ggX2_send_X2_po : GoodIn wsX2_send wsX2_po := goodIn_r _ [23, 24, 38, 39, 40, 41, 42, 43, 44] (by decide +kernel) (by decide +kernel)
set_option maxRecDepth 20000 in
theorem gX2_send_X2_po : GoodIn wsX2_send (wsV RX2 36 RX2 yX2_po wsX2_po) := goodIn_app (goodIn_of _ (by decide +kernel)) ggX2_send_X2_po
set_option maxRecDepth 20000 in
theorem ggX2_send_X2_put : GoodIn wsX2_send wsX2_put := goodIn_r _ [28, 24, 38, 39, 40, 41, 42, 43, 44] (by decide +kernel) (by decide +kernel)
set_option maxRecDepth 20000 in
theorem gX2_send_X2_put : GoodIn wsX2_send (wsV RX2 70 RX2 yX2_put wsX2_put) := goodIn_app (goodIn_of _ (by decide +kernel)) ggX2_send_X2_put
set_option maxRecDepth 20000 in
theorem ggX2_send_X2_on : GoodIn wsX2_send wsX2_on := goodIn_r _ [32, 33, 34, 35, 5, 36, 37, 38, 39, 40, 41, 42, 43, 44] (by decide +kernel) (by decide +kernel)
set_option maxRecDepth 20000 in
theorem gX2_send_X2_on : GoodIn wsX2_send (wsV RX2 73 RX2 yX2_on wsX2_on) := goodIn_app (goodIn_of _ (by decide +kernel)) ggX2_send_X2_on
theorem dX2_send_0 : decode cX2_send 0 = .ok (.aload_n 0, 1) := by decide +kernel
theorem dX2_send_1 : decode cX2_send 1 = .ok (.iconst 0, 1) := by decide +kernel
theorem dX2_send_2 : decode cX2_send 2 = .ok (.putfield 22, 3) := by decide +kernel
theorem dX2_send_5 : decode cX2_send 5 = .ok (.aload_n 0, 1) := by decide +kernel
theorem dX2_send_6 : decode cX2_send 6 = .ok (.iload_n 1, 1) := by decide +kernel
theorem dX2_send_7 : decode cX2_send 7 = .ok (.invokevirtual 67, 3) := by decide +kernel
theorem dX2_send_10 : decode cX2_send 10 = .ok (.ifCond .eq 11, 3) := by decide +kernel
theorem dX2_send_13 : decode cX2_send 13 = .ok (.aload_n 0, 1) := by decide +kernel
theorem dX2_send_14 : decode cX2_send 14 = .ok (.iload_n 2, 1) := by decide +kernel
theorem dX2_send_15 : decode cX2_send 15 = .ok (.invokevirtual 50, 3) := by decide +kernel
theorem dX2_send_18 : decode cX2_send 18 = .ok (.ifCond .ne 9, 3) := by decide +kernel
theorem dX2_send_21 : decode cX2_send 21 = .ok (.aload_n 0, 1) := by decide +kernel
theorem dX2_send_22 : decode cX2_send 22 = .ok (.iconst 1, 1) := by decide +kernel
theorem dX2_send_23 : decode cX2_send 23 = .ok (.invokevirtual 43, 3) := by decide +kernel
theorem dX2_send_26 : decode cX2_send 26 = .ok (.ireturn, 1) := by decide +kernel
theorem dX2_send_27 : decode cX2_send 27 = .ok (.aload_n 0, 1) := by decide +kernel
theorem dX2_send_28 : decode cX2_send 28 = .ok (.iload_n 1, 1) := by decide +kernel
theorem dX2_send_29 : decode cX2_send 29 = .ok (.iconst 1, 1) := by decide +kernel
theorem dX2_send_30 : decode cX2_send 30 = .ok (.invokevirtual 36, 3) := by decide +kernel
theorem dX2_send_33 : decode cX2_send 33 = .ok (.iconst (-1), 1) := by decide +kernel
theorem dX2_send_34 : decode cX2_send 34 = .ok (.if_icmp .eq 23, 3) := by decide +kernel
theorem dX2_send_37 : decode cX2_send 37 = .ok (.aload_n 0, 1) := by decide +kernel
theorem dX2_send_38 : decode cX2_send 38 = .ok (.iload_n 1, 1) := by decide +kernel
theorem dX2_send_39 : decode cX2_send 39 = .ok (.iconst 3, 1) := by decide +kernel
theorem dX2_send_40 : decode cX2_send 40 = .ok (.invokevirtual 36, 3) := by decide +kernel
theorem dX2_send_43 : decode cX2_send 43 = .ok (.iconst (-1), 1) := by decide +kernel
theorem dX2_send_44 : decode cX2_send 44 = .ok (.if_icmp .ne 13, 3) := by decide +kernel
theorem dX2_send_47 : decode cX2_send 47 = .ok (.aload_n 0, 1) := by decide +kernel
theorem dX2_send_48 : decode cX2_send 48 = .ok (.iload_n 1, 1) := by decide +kernel
theorem dX2_send_49 : decode cX2_send 49 = .ok (.iconst 1, 1) := by decide +kernel
theorem dX2_send_50 : decode cX2_send 50 = .ok (.invokevirtual 36, 3) := by decide +kernel
theorem dX2_send_53 : decode cX2_send 53 = .ok (.iload_n 2, 1) := by decide +kernel
theorem dX2_send_54 : decode cX2_send 54 = .ok (.if_icmp .ne 9, 3) := by decide +kernel
theorem dX2_send_57 : decode cX2_send 57 = .ok (.aload_n 0, 1) := by decide +kernel
theorem dX2_send_58 : decode cX2_send 58 = .ok (.iconst 2, 1) := by decide +kernel
theorem dX2_send_59 : decode cX2_send 59 = .ok (.invokevirtual 43, 3) := by decide +kernel
theorem dX2_send_62 : decode cX2_send 62 = .ok (.ireturn, 1) := by decide +kernel
theorem dX2_send_63 : decode cX2_send 63 = .ok (.aload_n 0, 1) := by decide +kernel
theorem dX2_send_64 : decode cX2_send 64 = .ok (.iload_n 1, 1) := by decide +kernel
theorem dX2_send_65 : decode cX2_send 65 = .ok (.iconst 3, 1) := by decide +kernel
theorem dX2_send_66 : decode cX2_send 66 = .ok (.iload_n 2, 1) := by decide +kernel
theorem dX2_send_67 : decode cX2_send 67 = .ok (.invokevirtual 70, 3) := by decide +kernel
theorem dX2_send_70 : decode cX2_send 70 = .ok (.aload_n 0, 1) := by decide +kernel
theorem dX2_send_71 : decode cX2_send 71 = .ok (.aload_n 0, 1) := by decide +kernel
theorem dX2_send_72 : decode cX2_send 72 = .ok (.iload_n 1, 1) := by decide +kernel
theorem dX2_send_73 : decode cX2_send 73 = .ok (.iconst 1, 1) := by decide +kernel
theorem dX2_send_74 : decode cX2_send 74 = .ok (.invokevirtual 36, 3) := by decide +kernel
theorem dX2_send_77 : decode cX2_send 77 = .ok (.iload_n 2, 1) := by decide +kernel
theorem dX2_send_78 : decode cX2_send 78 = .ok (.invokevirtual 73, 3) := by decide +kernel
theorem dX2_send_81 : decode cX2_send 81 = .ok (.ireturn, 1) := by decide +kernel
set_option maxRecDepth 20000 in
theorem ggX2_podTold_X2_po : GoodIn wsX2_podTold wsX2_po := goodIn_r _ [5, 6, 7, 8, 9, 10, 11, 12, 13] (by decide +kernel) (by decide +kernel)
set_option maxRecDepth 20000 in
theorem gX2_podTold_X2_po : GoodIn wsX2_podTold (wsV RX2 36 RX2 yX2_po wsX2_po) := goodIn_app (goodIn_of _ (by decide +kernel)) ggX2_podTold_X2_po
theorem dX2_podTold_0 : decode cX2_podTold 0 = .ok (.iload_n 2, 1) := by decide +kernel
theorem dX2_podTold_1 : decode cX2_podTold 1 = .ok (.iconst 4, 1) := by decide +kernel
theorem dX2_podTold_2 : decode cX2_podTold 2 = .ok (.if_icmp .ne 16, 3) := by decide +kernel
theorem dX2_podTold_5 : decode cX2_podTold 5 = .ok (.aload_n 0, 1) := by decide +kernel
theorem dX2_podTold_6 : decode cX2_podTold 6 = .ok (.iload_n 1, 1) := by decide +kernel
theorem dX2_podTold_7 : decode cX2_podTold 7 = .ok (.iload_n 2, 1) := by decide +kernel
theorem dX2_podTold_8 : decode cX2_podTold 8 = .ok (.invokevirtual 36, 3) := by decide +kernel
theorem dX2_podTold_11 : decode cX2_podTold 11 = .ok (.ifCond .le 7, 3) := by decide +kernel
theorem dX2_podTold_14 : decode cX2_podTold 14 = .ok (.iconst 1, 1) := by decide +kernel
theorem dX2_podTold_15 : decode cX2_podTold 15 = .ok (.goto 9, 3) := by decide +kernel
theorem dX2_podTold_18 : decode cX2_podTold 18 = .ok (.aload_n 0, 1) := by decide +kernel
theorem dX2_podTold_19 : decode cX2_podTold 19 = .ok (.iload_n 1, 1) := by decide +kernel
theorem dX2_podTold_20 : decode cX2_podTold 20 = .ok (.iload_n 2, 1) := by decide +kernel
theorem dX2_podTold_21 : decode cX2_podTold 21 = .ok (.invokevirtual 36, 3) := by decide +kernel
theorem dX2_podTold_24 : decode cX2_podTold 24 = .ok (.ireturn, 1) := by decide +kernel
set_option maxRecDepth 20000 in
theorem ggX2_told_X2_isPod : GoodIn wsX2_told wsX2_isPod := goodIn_r _ [6, 7, 8, 9, 5, 10, 24, 25, 26, 27, 28, 29, 30] (by decide +kernel) (by decide +kernel)
set_option maxRecDepth 20000 in
theorem gX2_told_X2_isPod : GoodIn wsX2_told (wsV RX2 67 RX2 yX2_isPod wsX2_isPod) := goodIn_app (goodIn_of _ (by decide +kernel)) ggX2_told_X2_isPod
set_option maxRecDepth 20000 in
theorem ggX2_told_X2_isIn : GoodIn wsX2_told wsX2_isIn := goodIn_r _ [10] (by decide +kernel) (by decide +kernel)
set_option maxRecDepth 20000 in
theorem gX2_told_X2_isIn : GoodIn wsX2_told (va_wsS RX2 29 yX2_isIn wsX2_isIn) := goodIn_app (goodIn_of _ (by decide +kernel)) ggX2_told_X2_isIn
set_option maxRecDepth 20000 in
theorem ggX2_told_X2_podTold : GoodIn wsX2_told wsX2_podTold := goodIn_r _ [14, 15, 16, 17, 5, 18, 19, 24, 25, 26, 27, 28, 29, 30] (by decide +kernel) (by decide +kernel)
set_option maxRecDepth 20000 in
theorem gX2_told_X2_podTold : GoodIn wsX2_told (wsV RX2 76 RX2 yX2_podTold wsX2_podTold) := goodIn_app (goodIn_of _ (by decide +kernel)) ggX2_told_X2_podTold
set_option maxRecDepth 20000 in
theorem ggX2_told_X2_fail : GoodIn wsX2_told wsX2_fail := goodIn_r _ [23, 1, 24, 25, 26, 27, 28, 29, 30] (by decide +kernel) (by decide +kernel)
set_option maxRecDepth 20000 in
theorem gX2_told_X2_fail : GoodIn wsX2_told (wsV RX2 43 RX2 yX2_fail wsX2_fail) := goodIn_app (goodIn_of _ (by decide +kernel)) ggX2_told_X2_fail
theorem dX2_told_0 : decode cX2_told 0 = .ok (.aload_n 0, 1) := by decide +kernel
theorem dX2_told_1 : decode cX2_told 1 = .ok (.iconst 0, 1) := by decide +kernel
theorem dX2_told_2 : decode cX2_told 2 = .ok (.putfield 22, 3) := by decide +kernel
theorem dX2_told_5 : decode cX2_told 5 = .ok (.aload_n 0, 1) := by decide +kernel
theorem dX2_told_6 : decode cX2_told 6 = .ok (.iload_n 1, 1) := by decide +kernel
theorem dX2_told_7 : decode cX2_told 7 = .ok (.invokevirtual 67, 3) := by decide +kernel
theorem dX2_told_10 : decode cX2_told 10 = .ok (.ifCond .eq 21, 3) := by decide +kernel
theorem dX2_told_13 : decode cX2_told 13 = .ok (.iload_n 2, 1) := by decide +kernel
theorem dX2_told_14 : decode cX2_told 14 = .ok (.iconst 0, 1) := by decide +kernel
theorem dX2_told_15 : decode cX2_told 15 = .ok (.iconst 5, 1) := by decide +kernel
theorem dX2_told_16 : decode cX2_told 16 = .ok (.invokestatic 29, 3) := by decide +kernel
theorem dX2_told_19 : decode cX2_told 19 = .ok (.ifCond .eq 12, 3) := by decide +kernel
theorem dX2_told_22 : decode cX2_told 22 = .ok (.aload_n 0, 1) := by decide +kernel
theorem dX2_told_23 : decode cX2_told 23 = .ok (.iload_n 1, 1) := by decide +kernel
theorem dX2_told_24 : decode cX2_told 24 = .ok (.iload_n 2, 1) := by decide +kernel
theorem dX2_told_25 : decode cX2_told 25 = .ok (.invokevirtual 76, 3) := by decide +kernel
theorem dX2_told_28 : decode cX2_told 28 = .ok (.goto 8, 3) := by decide +kernel
theorem dX2_told_31 : decode cX2_told 31 = .ok (.aload_n 0, 1) := by decide +kernel
theorem dX2_told_32 : decode cX2_told 32 = .ok (.iconst 1, 1) := by decide +kernel
theorem dX2_told_33 : decode cX2_told 33 = .ok (.invokevirtual 43, 3) := by decide +kernel
theorem dX2_told_36 : decode cX2_told 36 = .ok (.ireturn, 1) := by decide +kernel
set_option maxRecDepth 20000 in
theorem ggX2_coming_X2_po : GoodIn wsX2_coming wsX2_po := goodIn_r _ [6, 7, 8, 9, 10, 11, 12, 13, 14] (by decide +kernel) (by decide +kernel)
set_option maxRecDepth 20000 in
theorem gX2_coming_X2_po : GoodIn wsX2_coming (wsV RX2 36 RX2 yX2_po wsX2_po) := goodIn_app (goodIn_of _ (by decide +kernel)) ggX2_coming_X2_po
theorem dX2_coming_0 : decode cX2_coming 0 = .ok (.iconst 0, 1) := by decide +kernel
theorem dX2_coming_1 : decode cX2_coming 1 = .ok (.istore_n 2, 1) := by decide +kernel
theorem dX2_coming_2 : decode cX2_coming 2 = .ok (.iconst 0, 1) := by decide +kernel
theorem dX2_coming_3 : decode cX2_coming 3 = .ok (.istore_n 3, 1) := by decide +kernel
theorem dX2_coming_4 : decode cX2_coming 4 = .ok (.iload_n 3, 1) := by decide +kernel
theorem dX2_coming_5 : decode cX2_coming 5 = .ok (.aload_n 0, 1) := by decide +kernel
theorem dX2_coming_6 : decode cX2_coming 6 = .ok (.getfield 33, 3) := by decide +kernel
theorem dX2_coming_9 : decode cX2_coming 9 = .ok (.if_icmp .ge 36, 3) := by decide +kernel
theorem dX2_coming_12 : decode cX2_coming 12 = .ok (.iload_n 2, 1) := by decide +kernel
theorem dX2_coming_13 : decode cX2_coming 13 = .ok (.aload_n 0, 1) := by decide +kernel
theorem dX2_coming_14 : decode cX2_coming 14 = .ok (.iload_n 3, 1) := by decide +kernel
theorem dX2_coming_15 : decode cX2_coming 15 = .ok (.iconst 3, 1) := by decide +kernel
theorem dX2_coming_16 : decode cX2_coming 16 = .ok (.invokevirtual 36, 3) := by decide +kernel
theorem dX2_coming_19 : decode cX2_coming 19 = .ok (.iload_n 1, 1) := by decide +kernel
theorem dX2_coming_20 : decode cX2_coming 20 = .ok (.if_icmp .ne 16, 3) := by decide +kernel
theorem dX2_coming_23 : decode cX2_coming 23 = .ok (.aload_n 0, 1) := by decide +kernel
theorem dX2_coming_24 : decode cX2_coming 24 = .ok (.iload_n 3, 1) := by decide +kernel
theorem dX2_coming_25 : decode cX2_coming 25 = .ok (.iconst 4, 1) := by decide +kernel
theorem dX2_coming_26 : decode cX2_coming 26 = .ok (.invokevirtual 36, 3) := by decide +kernel
theorem dX2_coming_29 : decode cX2_coming 29 = .ok (.ifCond .ne 7, 3) := by decide +kernel
theorem dX2_coming_32 : decode cX2_coming 32 = .ok (.iconst 1, 1) := by decide +kernel
theorem dX2_coming_33 : decode cX2_coming 33 = .ok (.goto 4, 3) := by decide +kernel
theorem dX2_coming_36 : decode cX2_coming 36 = .ok (.iconst 0, 1) := by decide +kernel
theorem dX2_coming_37 : decode cX2_coming 37 = .ok (.iadd, 1) := by decide +kernel
theorem dX2_coming_38 : decode cX2_coming 38 = .ok (.istore_n 2, 1) := by decide +kernel
theorem dX2_coming_39 : decode cX2_coming 39 = .ok (.iinc 3 1, 3) := by decide +kernel
theorem dX2_coming_42 : decode cX2_coming 42 = .ok (.goto (-38), 3) := by decide +kernel
theorem dX2_coming_45 : decode cX2_coming 45 = .ok (.iload_n 2, 1) := by decide +kernel
theorem dX2_coming_46 : decode cX2_coming 46 = .ok (.ireturn, 1) := by decide +kernel
set_option maxRecDepth 20000 in
theorem ggX2_stationTold_X2_st : GoodIn wsX2_stationTold wsX2_st := goodIn_r _ [6, 7, 22, 23, 24, 25, 26, 27, 28] (by decide +kernel) (by decide +kernel)
set_option maxRecDepth 20000 in
theorem gX2_stationTold_X2_st : GoodIn wsX2_stationTold (wsV RX2 47 RX2 yX2_st wsX2_st) := goodIn_app (goodIn_of _ (by decide +kernel)) ggX2_stationTold_X2_st
set_option maxRecDepth 20000 in
theorem ggX2_stationTold_X2_po : GoodIn wsX2_stationTold wsX2_po := goodIn_r _ [11, 12, 22, 23, 24, 25, 26, 27, 28] (by decide +kernel) (by decide +kernel)
set_option maxRecDepth 20000 in
theorem gX2_stationTold_X2_po : GoodIn wsX2_stationTold (wsV RX2 36 RX2 yX2_po wsX2_po) := goodIn_app (goodIn_of _ (by decide +kernel)) ggX2_stationTold_X2_po
set_option maxRecDepth 20000 in
theorem ggX2_stationTold_X2_coming : GoodIn wsX2_stationTold wsX2_coming := goodIn_r _ [16, 1, 8, 9, 10, 5, 11, 12, 22, 23, 24, 25, 26, 27, 28] (by decide +kernel) (by decide +kernel)
set_option maxRecDepth 20000 in
theorem gX2_stationTold_X2_coming : GoodIn wsX2_stationTold (wsV RX2 79 RX2 yX2_coming wsX2_coming) := goodIn_app (goodIn_of _ (by decide +kernel)) ggX2_stationTold_X2_coming
set_option maxRecDepth 20000 in
theorem ggX2_stationTold_X2_pe : GoodIn wsX2_stationTold wsX2_pe := goodIn_r _ [20, 21, 22, 23, 24, 25, 26, 27, 28] (by decide +kernel) (by decide +kernel)
set_option maxRecDepth 20000 in
theorem gX2_stationTold_X2_pe : GoodIn wsX2_stationTold (wsV RX2 82 RX2 yX2_pe wsX2_pe) := goodIn_app (goodIn_of _ (by decide +kernel)) ggX2_stationTold_X2_pe
theorem dX2_stationTold_0 : decode cX2_stationTold 0 = .ok (.iconst 0, 1) := by decide +kernel
theorem dX2_stationTold_1 : decode cX2_stationTold 1 = .ok (.istore_n 3, 1) := by decide +kernel
theorem dX2_stationTold_2 : decode cX2_stationTold 2 = .ok (.iload_n 2, 1) := by decide +kernel
theorem dX2_stationTold_3 : decode cX2_stationTold 3 = .ok (.tableswitch 179 0 5 #[37, 44, 83, 133, 140, 146], 37) := by decide +kernel
theorem dX2_stationTold_40 : decode cX2_stationTold 40 = .ok (.aload_n 0, 1) := by decide +kernel
theorem dX2_stationTold_41 : decode cX2_stationTold 41 = .ok (.iload_n 1, 1) := by decide +kernel
theorem dX2_stationTold_42 : decode cX2_stationTold 42 = .ok (.iconst 0, 1) := by decide +kernel
theorem dX2_stationTold_43 : decode cX2_stationTold 43 = .ok (.invokevirtual 47, 3) := by decide +kernel
theorem dX2_stationTold_46 : decode cX2_stationTold 46 = .ok (.ireturn, 1) := by decide +kernel
theorem dX2_stationTold_47 : decode cX2_stationTold 47 = .ok (.iconst 0, 1) := by decide +kernel
theorem dX2_stationTold_48 : decode cX2_stationTold 48 = .ok (.istore 4, 2) := by decide +kernel
theorem dX2_stationTold_50 : decode cX2_stationTold 50 = .ok (.iload 4, 2) := by decide +kernel
theorem dX2_stationTold_52 : decode cX2_stationTold 52 = .ok (.aload_n 0, 1) := by decide +kernel
theorem dX2_stationTold_53 : decode cX2_stationTold 53 = .ok (.getfield 33, 3) := by decide +kernel
theorem dX2_stationTold_56 : decode cX2_stationTold 56 = .ok (.if_icmp .ge 28, 3) := by decide +kernel
theorem dX2_stationTold_59 : decode cX2_stationTold 59 = .ok (.iload_n 3, 1) := by decide +kernel
theorem dX2_stationTold_60 : decode cX2_stationTold 60 = .ok (.aload_n 0, 1) := by decide +kernel
theorem dX2_stationTold_61 : decode cX2_stationTold 61 = .ok (.iload 4, 2) := by decide +kernel
theorem dX2_stationTold_63 : decode cX2_stationTold 63 = .ok (.iconst 1, 1) := by decide +kernel
theorem dX2_stationTold_64 : decode cX2_stationTold 64 = .ok (.invokevirtual 36, 3) := by decide +kernel
theorem dX2_stationTold_67 : decode cX2_stationTold 67 = .ok (.iload_n 1, 1) := by decide +kernel
theorem dX2_stationTold_68 : decode cX2_stationTold 68 = .ok (.if_icmp .ne 7, 3) := by decide +kernel
theorem dX2_stationTold_71 : decode cX2_stationTold 71 = .ok (.iconst 1, 1) := by decide +kernel
theorem dX2_stationTold_72 : decode cX2_stationTold 72 = .ok (.goto 4, 3) := by decide +kernel
theorem dX2_stationTold_75 : decode cX2_stationTold 75 = .ok (.iconst 0, 1) := by decide +kernel
theorem dX2_stationTold_76 : decode cX2_stationTold 76 = .ok (.iadd, 1) := by decide +kernel
theorem dX2_stationTold_77 : decode cX2_stationTold 77 = .ok (.istore_n 3, 1) := by decide +kernel
theorem dX2_stationTold_78 : decode cX2_stationTold 78 = .ok (.iinc 4 1, 3) := by decide +kernel
theorem dX2_stationTold_81 : decode cX2_stationTold 81 = .ok (.goto (-31), 3) := by decide +kernel
theorem dX2_stationTold_84 : decode cX2_stationTold 84 = .ok (.iload_n 3, 1) := by decide +kernel
theorem dX2_stationTold_85 : decode cX2_stationTold 85 = .ok (.ireturn, 1) := by decide +kernel
theorem dX2_stationTold_86 : decode cX2_stationTold 86 = .ok (.iconst 0, 1) := by decide +kernel
theorem dX2_stationTold_87 : decode cX2_stationTold 87 = .ok (.istore 4, 2) := by decide +kernel
theorem dX2_stationTold_89 : decode cX2_stationTold 89 = .ok (.iload 4, 2) := by decide +kernel
theorem dX2_stationTold_91 : decode cX2_stationTold 91 = .ok (.aload_n 0, 1) := by decide +kernel
theorem dX2_stationTold_92 : decode cX2_stationTold 92 = .ok (.getfield 33, 3) := by decide +kernel
theorem dX2_stationTold_95 : decode cX2_stationTold 95 = .ok (.if_icmp .ge 39, 3) := by decide +kernel
theorem dX2_stationTold_98 : decode cX2_stationTold 98 = .ok (.iload_n 3, 1) := by decide +kernel
theorem dX2_stationTold_99 : decode cX2_stationTold 99 = .ok (.aload_n 0, 1) := by decide +kernel
theorem dX2_stationTold_100 : decode cX2_stationTold 100 = .ok (.iload 4, 2) := by decide +kernel
theorem dX2_stationTold_102 : decode cX2_stationTold 102 = .ok (.iconst 1, 1) := by decide +kernel
theorem dX2_stationTold_103 : decode cX2_stationTold 103 = .ok (.invokevirtual 36, 3) := by decide +kernel
theorem dX2_stationTold_106 : decode cX2_stationTold 106 = .ok (.iload_n 1, 1) := by decide +kernel
theorem dX2_stationTold_107 : decode cX2_stationTold 107 = .ok (.if_icmp .ne 18, 3) := by decide +kernel
theorem dX2_stationTold_110 : decode cX2_stationTold 110 = .ok (.aload_n 0, 1) := by decide +kernel
theorem dX2_stationTold_111 : decode cX2_stationTold 111 = .ok (.iload 4, 2) := by decide +kernel
theorem dX2_stationTold_113 : decode cX2_stationTold 113 = .ok (.iconst 3, 1) := by decide +kernel
theorem dX2_stationTold_114 : decode cX2_stationTold 114 = .ok (.invokevirtual 36, 3) := by decide +kernel
theorem dX2_stationTold_117 : decode cX2_stationTold 117 = .ok (.iconst (-1), 1) := by decide +kernel
theorem dX2_stationTold_118 : decode cX2_stationTold 118 = .ok (.if_icmp .ne 7, 3) := by decide +kernel
theorem dX2_stationTold_121 : decode cX2_stationTold 121 = .ok (.iconst 1, 1) := by decide +kernel
theorem dX2_stationTold_122 : decode cX2_stationTold 122 = .ok (.goto 4, 3) := by decide +kernel
theorem dX2_stationTold_125 : decode cX2_stationTold 125 = .ok (.iconst 0, 1) := by decide +kernel
theorem dX2_stationTold_126 : decode cX2_stationTold 126 = .ok (.iadd, 1) := by decide +kernel
theorem dX2_stationTold_127 : decode cX2_stationTold 127 = .ok (.istore_n 3, 1) := by decide +kernel
theorem dX2_stationTold_128 : decode cX2_stationTold 128 = .ok (.iinc 4 1, 3) := by decide +kernel
theorem dX2_stationTold_131 : decode cX2_stationTold 131 = .ok (.goto (-42), 3) := by decide +kernel
theorem dX2_stationTold_134 : decode cX2_stationTold 134 = .ok (.iload_n 3, 1) := by decide +kernel
theorem dX2_stationTold_135 : decode cX2_stationTold 135 = .ok (.ireturn, 1) := by decide +kernel
theorem dX2_stationTold_136 : decode cX2_stationTold 136 = .ok (.aload_n 0, 1) := by decide +kernel
theorem dX2_stationTold_137 : decode cX2_stationTold 137 = .ok (.iload_n 1, 1) := by decide +kernel
theorem dX2_stationTold_138 : decode cX2_stationTold 138 = .ok (.iconst 1, 1) := by decide +kernel
theorem dX2_stationTold_139 : decode cX2_stationTold 139 = .ok (.invokevirtual 47, 3) := by decide +kernel
theorem dX2_stationTold_142 : decode cX2_stationTold 142 = .ok (.ireturn, 1) := by decide +kernel
theorem dX2_stationTold_143 : decode cX2_stationTold 143 = .ok (.aload_n 0, 1) := by decide +kernel
theorem dX2_stationTold_144 : decode cX2_stationTold 144 = .ok (.iload_n 1, 1) := by decide +kernel
theorem dX2_stationTold_145 : decode cX2_stationTold 145 = .ok (.invokevirtual 79, 3) := by decide +kernel
theorem dX2_stationTold_148 : decode cX2_stationTold 148 = .ok (.ireturn, 1) := by decide +kernel
theorem dX2_stationTold_149 : decode cX2_stationTold 149 = .ok (.iconst 0, 1) := by decide +kernel
theorem dX2_stationTold_150 : decode cX2_stationTold 150 = .ok (.istore 4, 2) := by decide +kernel
theorem dX2_stationTold_152 : decode cX2_stationTold 152 = .ok (.iload 4, 2) := by decide +kernel
theorem dX2_stationTold_154 : decode cX2_stationTold 154 = .ok (.aload_n 0, 1) := by decide +kernel
theorem dX2_stationTold_155 : decode cX2_stationTold 155 = .ok (.iload_n 1, 1) := by decide +kernel
theorem dX2_stationTold_156 : decode cX2_stationTold 156 = .ok (.iconst 1, 1) := by decide +kernel
theorem dX2_stationTold_157 : decode cX2_stationTold 157 = .ok (.invokevirtual 47, 3) := by decide +kernel
theorem dX2_stationTold_160 : decode cX2_stationTold 160 = .ok (.if_icmp .ge 20, 3) := by decide +kernel
theorem dX2_stationTold_163 : decode cX2_stationTold 163 = .ok (.iload_n 3, 1) := by decide +kernel
theorem dX2_stationTold_164 : decode cX2_stationTold 164 = .ok (.aload_n 0, 1) := by decide +kernel
theorem dX2_stationTold_165 : decode cX2_stationTold 165 = .ok (.iload_n 1, 1) := by decide +kernel
theorem dX2_stationTold_166 : decode cX2_stationTold 166 = .ok (.iload 4, 2) := by decide +kernel
theorem dX2_stationTold_168 : decode cX2_stationTold 168 = .ok (.iconst 1, 1) := by decide +kernel
theorem dX2_stationTold_169 : decode cX2_stationTold 169 = .ok (.invokevirtual 82, 3) := by decide +kernel
theorem dX2_stationTold_172 : decode cX2_stationTold 172 = .ok (.iadd, 1) := by decide +kernel
theorem dX2_stationTold_173 : decode cX2_stationTold 173 = .ok (.istore_n 3, 1) := by decide +kernel
theorem dX2_stationTold_174 : decode cX2_stationTold 174 = .ok (.iinc 4 1, 3) := by decide +kernel
theorem dX2_stationTold_177 : decode cX2_stationTold 177 = .ok (.goto (-25), 3) := by decide +kernel
theorem dX2_stationTold_180 : decode cX2_stationTold 180 = .ok (.iload_n 3, 1) := by decide +kernel
theorem dX2_stationTold_181 : decode cX2_stationTold 181 = .ok (.ireturn, 1) := by decide +kernel
theorem dX2_stationTold_182 : decode cX2_stationTold 182 = .ok (.aload_n 0, 1) := by decide +kernel
theorem dX2_stationTold_183 : decode cX2_stationTold 183 = .ok (.iload_n 1, 1) := by decide +kernel
theorem dX2_stationTold_184 : decode cX2_stationTold 184 = .ok (.iconst 2, 1) := by decide +kernel
theorem dX2_stationTold_185 : decode cX2_stationTold 185 = .ok (.invokevirtual 47, 3) := by decide +kernel
theorem dX2_stationTold_188 : decode cX2_stationTold 188 = .ok (.ireturn, 1) := by decide +kernel
set_option maxRecDepth 20000 in
theorem ggX2_station_X2_isStation : GoodIn wsX2_station wsX2_isStation := goodIn_r _ [6, 7, 8, 9, 5, 10, 39, 40, 41, 42, 43, 44, 45] (by decide +kernel) (by decide +kernel)
set_option maxRecDepth 20000 in
theorem gX2_station_X2_isStation : GoodIn wsX2_station (wsV RX2 50 RX2 yX2_isStation wsX2_isStation) := goodIn_app (goodIn_of _ (by decide +kernel)) ggX2_station_X2_isStation
set_option maxRecDepth 20000 in
theorem ggX2_station_X2_isIn : GoodIn wsX2_station wsX2_isIn := goodIn_r _ [10] (by decide +kernel) (by decide +kernel)
set_option maxRecDepth 20000 in
theorem gX2_station_X2_isIn : GoodIn wsX2_station (va_wsS RX2 29 yX2_isIn wsX2_isIn) := goodIn_app (goodIn_of _ (by decide +kernel)) ggX2_station_X2_isIn
set_option maxRecDepth 20000 in
theorem ggX2_station_X2_stationTold : GoodIn wsX2_station wsX2_stationTold := goodIn_r _ [14, 15, 16, 17, 18, 5, 19, 20, 21, 22, 23, 24, 25, 26, 27, 28, 29, 30, 31, 32, 33, 34, 39, 40, 41, 42, 43, 44, 45] (by decide +kernel) (by decide +kernel)
set_option maxRecDepth 20000 in
theorem gX2_station_X2_stationTold : GoodIn wsX2_station (wsV RX2 86 RX2 yX2_stationTold wsX2_stationTold) := goodIn_app (goodIn_of _ (by decide +kernel)) ggX2_station_X2_stationTold
set_option maxRecDepth 20000 in
theorem ggX2_station_X2_fail : GoodIn wsX2_station wsX2_fail := goodIn_r _ [38, 1, 39, 40, 41, 42, 43, 44, 45] (by decide +kernel) (by decide +kernel)
set_option maxRecDepth 20000 in
theorem gX2_station_X2_fail : GoodIn wsX2_station (wsV RX2 43 RX2 yX2_fail wsX2_fail) := goodIn_app (goodIn_of _ (by decide +kernel)) ggX2_station_X2_fail
theorem dX2_station_0 : decode cX2_station 0 = .ok (.aload_n 0, 1) := by decide +kernel
theorem dX2_station_1 : decode cX2_station 1 = .ok (.iconst 0, 1) := by decide +kernel
theorem dX2_station_2 : decode cX2_station 2 = .ok (.putfield 22, 3) := by decide +kernel
theorem dX2_station_5 : decode cX2_station 5 = .ok (.aload_n 0, 1) := by decide +kernel
theorem dX2_station_6 : decode cX2_station 6 = .ok (.iload_n 1, 1) := by decide +kernel
theorem dX2_station_7 : decode cX2_station 7 = .ok (.invokevirtual 50, 3) := by decide +kernel
theorem dX2_station_10 : decode cX2_station 10 = .ok (.ifCond .eq 22, 3) := by decide +kernel
theorem dX2_station_13 : decode cX2_station 13 = .ok (.iload_n 2, 1) := by decide +kernel
theorem dX2_station_14 : decode cX2_station 14 = .ok (.iconst 0, 1) := by decide +kernel
theorem dX2_station_15 : decode cX2_station 15 = .ok (.bipush 6, 2) := by decide +kernel
theorem dX2_station_17 : decode cX2_station 17 = .ok (.invokestatic 29, 3) := by decide +kernel
theorem dX2_station_20 : decode cX2_station 20 = .ok (.ifCond .eq 12, 3) := by decide +kernel
theorem dX2_station_23 : decode cX2_station 23 = .ok (.aload_n 0, 1) := by decide +kernel
theorem dX2_station_24 : decode cX2_station 24 = .ok (.iload_n 1, 1) := by decide +kernel
theorem dX2_station_25 : decode cX2_station 25 = .ok (.iload_n 2, 1) := by decide +kernel
theorem dX2_station_26 : decode cX2_station 26 = .ok (.invokevirtual 86, 3) := by decide +kernel
theorem dX2_station_29 : decode cX2_station 29 = .ok (.goto 8, 3) := by decide +kernel
theorem dX2_station_32 : decode cX2_station 32 = .ok (.aload_n 0, 1) := by decide +kernel
theorem dX2_station_33 : decode cX2_station 33 = .ok (.iconst 1, 1) := by decide +kernel
theorem dX2_station_34 : decode cX2_station 34 = .ok (.invokevirtual 43, 3) := by decide +kernel
theorem dX2_station_37 : decode cX2_station 37 = .ok (.ireturn, 1) := by decide +kernel
set_option maxRecDepth 20000 in
theorem ggX2_rider_X2_pe : GoodIn wsX2_rider wsX2_pe := goodIn_r _ [5, 6, 7, 8, 9, 10, 11, 12, 13] (by decide +kernel) (by decide +kernel)
set_option maxRecDepth 20000 in
theorem gX2_rider_X2_pe : GoodIn wsX2_rider (wsV RX2 82 RX2 yX2_pe wsX2_pe) := goodIn_app (goodIn_of _ (by decide +kernel)) ggX2_rider_X2_pe
theorem dX2_rider_0 : decode cX2_rider 0 = .ok (.bipush 10, 2) := by decide +kernel
theorem dX2_rider_2 : decode cX2_rider 2 = .ok (.aload_n 0, 1) := by decide +kernel
theorem dX2_rider_3 : decode cX2_rider 3 = .ok (.iload_n 1, 1) := by decide +kernel
theorem dX2_rider_4 : decode cX2_rider 4 = .ok (.iload_n 2, 1) := by decide +kernel
theorem dX2_rider_5 : decode cX2_rider 5 = .ok (.iconst 1, 1) := by decide +kernel
theorem dX2_rider_6 : decode cX2_rider 6 = .ok (.invokevirtual 82, 3) := by decide +kernel
theorem dX2_rider_9 : decode cX2_rider 9 = .ok (.imul, 1) := by decide +kernel
theorem dX2_rider_10 : decode cX2_rider 10 = .ok (.aload_n 0, 1) := by decide +kernel
theorem dX2_rider_11 : decode cX2_rider 11 = .ok (.iload_n 1, 1) := by decide +kernel
theorem dX2_rider_12 : decode cX2_rider 12 = .ok (.iload_n 2, 1) := by decide +kernel
theorem dX2_rider_13 : decode cX2_rider 13 = .ok (.iconst 0, 1) := by decide +kernel
theorem dX2_rider_14 : decode cX2_rider 14 = .ok (.invokevirtual 82, 3) := by decide +kernel
theorem dX2_rider_17 : decode cX2_rider 17 = .ok (.iadd, 1) := by decide +kernel
theorem dX2_rider_18 : decode cX2_rider 18 = .ok (.ireturn, 1) := by decide +kernel
set_option maxRecDepth 20000 in
theorem ggX2_waits_X2_isStation : GoodIn wsX2_waits wsX2_isStation := goodIn_r _ [6, 7, 8, 9, 5, 10, 29, 30, 31, 32, 33, 34, 35] (by decide +kernel) (by decide +kernel)
set_option maxRecDepth 20000 in
theorem gX2_waits_X2_isStation : GoodIn wsX2_waits (wsV RX2 50 RX2 yX2_isStation wsX2_isStation) := goodIn_app (goodIn_of _ (by decide +kernel)) ggX2_waits_X2_isStation
set_option maxRecDepth 20000 in
theorem ggX2_waits_X2_st : GoodIn wsX2_waits wsX2_st := goodIn_r _ [14, 15, 29, 30, 31, 32, 33, 34, 35] (by decide +kernel) (by decide +kernel)
set_option maxRecDepth 20000 in
theorem gX2_waits_X2_st : GoodIn wsX2_waits (wsV RX2 47 RX2 yX2_st wsX2_st) := goodIn_app (goodIn_of _ (by decide +kernel)) ggX2_waits_X2_st
set_option maxRecDepth 20000 in
theorem ggX2_waits_X2_isIn : GoodIn wsX2_waits wsX2_isIn := goodIn_r _ [10] (by decide +kernel) (by decide +kernel)
set_option maxRecDepth 20000 in
theorem gX2_waits_X2_isIn : GoodIn wsX2_waits (va_wsS RX2 29 yX2_isIn wsX2_isIn) := goodIn_app (goodIn_of _ (by decide +kernel)) ggX2_waits_X2_isIn
set_option maxRecDepth 20000 in
theorem ggX2_waits_X2_rider : GoodIn wsX2_waits wsX2_rider := goodIn_r _ [19, 20, 21, 22, 5, 23, 24, 29, 30, 31, 32, 33, 34, 35] (by decide +kernel) (by decide +kernel)
set_option maxRecDepth 20000 in
theorem gX2_waits_X2_rider : GoodIn wsX2_waits (wsV RX2 89 RX2 yX2_rider wsX2_rider) := goodIn_app (goodIn_of _ (by decide +kernel)) ggX2_waits_X2_rider
set_option maxRecDepth 20000 in
theorem ggX2_waits_X2_fail : GoodIn wsX2_waits wsX2_fail := goodIn_r _ [28, 1, 29, 30, 31, 32, 33, 34, 35] (by decide +kernel) (by decide +kernel)
set_option maxRecDepth 20000 in
theorem gX2_waits_X2_fail : GoodIn wsX2_waits (wsV RX2 43 RX2 yX2_fail wsX2_fail) := goodIn_app (goodIn_of _ (by decide +kernel)) ggX2_waits_X2_fail
theorem dX2_waits_0 : decode cX2_waits 0 = .ok (.aload_n 0, 1) := by decide +kernel
theorem dX2_waits_1 : decode cX2_waits 1 = .ok (.iconst 0, 1) := by decide +kernel
theorem dX2_waits_2 : decode cX2_waits 2 = .ok (.putfield 22, 3) := by decide +kernel
theorem dX2_waits_5 : decode cX2_waits 5 = .ok (.aload_n 0, 1) := by decide +kernel
theorem dX2_waits_6 : decode cX2_waits 6 = .ok (.iload_n 1, 1) := by decide +kernel
theorem dX2_waits_7 : decode cX2_waits 7 = .ok (.invokevirtual 50, 3) := by decide +kernel
theorem dX2_waits_10 : decode cX2_waits 10 = .ok (.ifCond .eq 28, 3) := by decide +kernel
theorem dX2_waits_13 : decode cX2_waits 13 = .ok (.iload_n 2, 1) := by decide +kernel
theorem dX2_waits_14 : decode cX2_waits 14 = .ok (.iconst 0, 1) := by decide +kernel
theorem dX2_waits_15 : decode cX2_waits 15 = .ok (.aload_n 0, 1) := by decide +kernel
theorem dX2_waits_16 : decode cX2_waits 16 = .ok (.iload_n 1, 1) := by decide +kernel
theorem dX2_waits_17 : decode cX2_waits 17 = .ok (.iconst 1, 1) := by decide +kernel
theorem dX2_waits_18 : decode cX2_waits 18 = .ok (.invokevirtual 47, 3) := by decide +kernel
theorem dX2_waits_21 : decode cX2_waits 21 = .ok (.iconst 1, 1) := by decide +kernel
theorem dX2_waits_22 : decode cX2_waits 22 = .ok (.isub, 1) := by decide +kernel
theorem dX2_waits_23 : decode cX2_waits 23 = .ok (.invokestatic 29, 3) := by decide +kernel
theorem dX2_waits_26 : decode cX2_waits 26 = .ok (.ifCond .eq 12, 3) := by decide +kernel
theorem dX2_waits_29 : decode cX2_waits 29 = .ok (.aload_n 0, 1) := by decide +kernel
theorem dX2_waits_30 : decode cX2_waits 30 = .ok (.iload_n 1, 1) := by decide +kernel
theorem dX2_waits_31 : decode cX2_waits 31 = .ok (.iload_n 2, 1) := by decide +kernel
theorem dX2_waits_32 : decode cX2_waits 32 = .ok (.invokevirtual 89, 3) := by decide +kernel
theorem dX2_waits_35 : decode cX2_waits 35 = .ok (.goto 8, 3) := by decide +kernel
theorem dX2_waits_38 : decode cX2_waits 38 = .ok (.aload_n 0, 1) := by decide +kernel
theorem dX2_waits_39 : decode cX2_waits 39 = .ok (.iconst 1, 1) := by decide +kernel
theorem dX2_waits_40 : decode cX2_waits 40 = .ok (.invokevirtual 43, 3) := by decide +kernel
theorem dX2_waits_43 : decode cX2_waits 43 = .ok (.ireturn, 1) := by decide +kernel
set_option maxRecDepth 20000 in
theorem ggX2_slot_X2_isIn : GoodIn wsX2_slot wsX2_isIn := goodIn_r _ [5] (by decide +kernel) (by decide +kernel)
set_option maxRecDepth 20000 in
theorem gX2_slot_X2_isIn : GoodIn wsX2_slot (va_wsS RX2 29 yX2_isIn wsX2_isIn) := goodIn_app (goodIn_of _ (by decide +kernel)) ggX2_slot_X2_isIn
set_option maxRecDepth 20000 in
theorem ggX2_slot_X2_slotAt : GoodIn wsX2_slot wsX2_slotAt := goodIn_r _ [9, 10, 11, 12, 13, 4, 14, 15, 20, 21, 22, 23, 24, 25, 26] (by decide +kernel) (by decide +kernel)
set_option maxRecDepth 20000 in
theorem gX2_slot_X2_slotAt : GoodIn wsX2_slot (wsV RX2 92 RX2 yX2_slotAt wsX2_slotAt) := goodIn_app (goodIn_of _ (by decide +kernel)) ggX2_slot_X2_slotAt
set_option maxRecDepth 20000 in
theorem ggX2_slot_X2_fail : GoodIn wsX2_slot wsX2_fail := goodIn_r _ [19, 1, 20, 21, 22, 23, 24, 25, 26] (by decide +kernel) (by decide +kernel)
set_option maxRecDepth 20000 in
theorem gX2_slot_X2_fail : GoodIn wsX2_slot (wsV RX2 43 RX2 yX2_fail wsX2_fail) := goodIn_app (goodIn_of _ (by decide +kernel)) ggX2_slot_X2_fail
theorem dX2_slot_0 : decode cX2_slot 0 = .ok (.aload_n 0, 1) := by decide +kernel
theorem dX2_slot_1 : decode cX2_slot 1 = .ok (.iconst 0, 1) := by decide +kernel
theorem dX2_slot_2 : decode cX2_slot 2 = .ok (.putfield 22, 3) := by decide +kernel
theorem dX2_slot_5 : decode cX2_slot 5 = .ok (.iload_n 1, 1) := by decide +kernel
theorem dX2_slot_6 : decode cX2_slot 6 = .ok (.iconst 0, 1) := by decide +kernel
theorem dX2_slot_7 : decode cX2_slot 7 = .ok (.bipush 23, 2) := by decide +kernel
theorem dX2_slot_9 : decode cX2_slot 9 = .ok (.invokestatic 29, 3) := by decide +kernel
theorem dX2_slot_12 : decode cX2_slot 12 = .ok (.ifCond .eq 11, 3) := by decide +kernel
theorem dX2_slot_15 : decode cX2_slot 15 = .ok (.aload_n 0, 1) := by decide +kernel
theorem dX2_slot_16 : decode cX2_slot 16 = .ok (.iload_n 1, 1) := by decide +kernel
theorem dX2_slot_17 : decode cX2_slot 17 = .ok (.invokevirtual 92, 3) := by decide +kernel
theorem dX2_slot_20 : decode cX2_slot 20 = .ok (.goto 8, 3) := by decide +kernel
theorem dX2_slot_23 : decode cX2_slot 23 = .ok (.aload_n 0, 1) := by decide +kernel
theorem dX2_slot_24 : decode cX2_slot 24 = .ok (.iconst 1, 1) := by decide +kernel
theorem dX2_slot_25 : decode cX2_slot 25 = .ok (.invokevirtual 43, 3) := by decide +kernel
theorem dX2_slot_28 : decode cX2_slot 28 = .ok (.ireturn, 1) := by decide +kernel
set_option maxRecDepth 20000 in
theorem ggX2_all_X2_stationTold : GoodIn wsX2_all wsX2_stationTold := goodIn_r _ [6, 7, 8, 9, 10, 5, 11, 12, 13, 14, 15, 16, 17, 18, 19, 20, 21, 22, 23, 24, 25, 26, 27, 28, 29, 30, 31, 32, 33] (by decide +kernel) (by decide +kernel)
set_option maxRecDepth 20000 in
theorem gX2_all_X2_stationTold : GoodIn wsX2_all (wsV RX2 86 RX2 yX2_stationTold wsX2_stationTold) := goodIn_app (goodIn_of _ (by decide +kernel)) ggX2_all_X2_stationTold
theorem dX2_all_0 : decode cX2_all 0 = .ok (.iconst 0, 1) := by decide +kernel
theorem dX2_all_1 : decode cX2_all 1 = .ok (.istore_n 2, 1) := by decide +kernel
theorem dX2_all_2 : decode cX2_all 2 = .ok (.iconst 0, 1) := by decide +kernel
theorem dX2_all_3 : decode cX2_all 3 = .ok (.istore_n 3, 1) := by decide +kernel
theorem dX2_all_4 : decode cX2_all 4 = .ok (.iload_n 3, 1) := by decide +kernel
theorem dX2_all_5 : decode cX2_all 5 = .ok (.aload_n 0, 1) := by decide +kernel
theorem dX2_all_6 : decode cX2_all 6 = .ok (.getfield 26, 3) := by decide +kernel
theorem dX2_all_9 : decode cX2_all 9 = .ok (.if_icmp .ge 18, 3) := by decide +kernel
theorem dX2_all_12 : decode cX2_all 12 = .ok (.iload_n 2, 1) := by decide +kernel
theorem dX2_all_13 : decode cX2_all 13 = .ok (.aload_n 0, 1) := by decide +kernel
theorem dX2_all_14 : decode cX2_all 14 = .ok (.iload_n 3, 1) := by decide +kernel
theorem dX2_all_15 : decode cX2_all 15 = .ok (.iload_n 1, 1) := by decide +kernel
theorem dX2_all_16 : decode cX2_all 16 = .ok (.invokevirtual 86, 3) := by decide +kernel
theorem dX2_all_19 : decode cX2_all 19 = .ok (.iadd, 1) := by decide +kernel
theorem dX2_all_20 : decode cX2_all 20 = .ok (.istore_n 2, 1) := by decide +kernel
theorem dX2_all_21 : decode cX2_all 21 = .ok (.iinc 3 1, 3) := by decide +kernel
theorem dX2_all_24 : decode cX2_all 24 = .ok (.goto (-20), 3) := by decide +kernel
theorem dX2_all_27 : decode cX2_all 27 = .ok (.iload_n 2, 1) := by decide +kernel
theorem dX2_all_28 : decode cX2_all 28 = .ok (.ireturn, 1) := by decide +kernel
set_option maxRecDepth 20000 in
theorem ggX2_counted_X2_all : GoodIn wsX2_counted wsX2_all := goodIn_r _ [8, 2, 9, 10, 11, 7, 12, 3, 13, 14, 15, 16, 17, 18, 19, 20, 21, 22, 23, 24, 25, 26, 27, 28, 29, 30, 31, 32, 33, 34, 35, 36, 37, 38] (by decide +kernel) (by decide +kernel)
set_option maxRecDepth 20000 in
theorem gX2_counted_X2_all : GoodIn wsX2_counted (wsV RX2 95 RX2 yX2_all wsX2_all) := goodIn_app (goodIn_of _ (by decide +kernel)) ggX2_counted_X2_all
set_option maxRecDepth 20000 in
theorem ggX2_counted_X2_po : GoodIn wsX2_counted wsX2_po := goodIn_r _ [21, 22, 32, 33, 34, 35, 36, 37, 38] (by decide +kernel) (by decide +kernel)
set_option maxRecDepth 20000 in
theorem gX2_counted_X2_po : GoodIn wsX2_counted (wsV RX2 36 RX2 yX2_po wsX2_po) := goodIn_app (goodIn_of _ (by decide +kernel)) ggX2_counted_X2_po
theorem dX2_counted_0 : decode cX2_counted 0 = .ok (.iconst 0, 1) := by decide +kernel
theorem dX2_counted_1 : decode cX2_counted 1 = .ok (.istore_n 2, 1) := by decide +kernel
theorem dX2_counted_2 : decode cX2_counted 2 = .ok (.iload_n 1, 1) := by decide +kernel
theorem dX2_counted_3 : decode cX2_counted 3 = .ok (.tableswitch 156 0 7 #[45, 52, 57, 62, 68, 103, 110, 149], 45) := by decide +kernel
theorem dX2_counted_48 : decode cX2_counted 48 = .ok (.aload_n 0, 1) := by decide +kernel
theorem dX2_counted_49 : decode cX2_counted 49 = .ok (.getfield 19, 3) := by decide +kernel
theorem dX2_counted_52 : decode cX2_counted 52 = .ok (.iconst 0, 1) := by decide +kernel
theorem dX2_counted_53 : decode cX2_counted 53 = .ok (.iaload, 1) := by decide +kernel
theorem dX2_counted_54 : decode cX2_counted 54 = .ok (.ireturn, 1) := by decide +kernel
theorem dX2_counted_55 : decode cX2_counted 55 = .ok (.aload_n 0, 1) := by decide +kernel
theorem dX2_counted_56 : decode cX2_counted 56 = .ok (.getfield 26, 3) := by decide +kernel
theorem dX2_counted_59 : decode cX2_counted 59 = .ok (.ireturn, 1) := by decide +kernel
theorem dX2_counted_60 : decode cX2_counted 60 = .ok (.aload_n 0, 1) := by decide +kernel
theorem dX2_counted_61 : decode cX2_counted 61 = .ok (.getfield 33, 3) := by decide +kernel
theorem dX2_counted_64 : decode cX2_counted 64 = .ok (.ireturn, 1) := by decide +kernel
theorem dX2_counted_65 : decode cX2_counted 65 = .ok (.aload_n 0, 1) := by decide +kernel
theorem dX2_counted_66 : decode cX2_counted 66 = .ok (.iconst 3, 1) := by decide +kernel
theorem dX2_counted_67 : decode cX2_counted 67 = .ok (.invokevirtual 95, 3) := by decide +kernel
theorem dX2_counted_70 : decode cX2_counted 70 = .ok (.ireturn, 1) := by decide +kernel
theorem dX2_counted_71 : decode cX2_counted 71 = .ok (.iconst 0, 1) := by decide +kernel
theorem dX2_counted_72 : decode cX2_counted 72 = .ok (.istore_n 3, 1) := by decide +kernel
theorem dX2_counted_73 : decode cX2_counted 73 = .ok (.iload_n 3, 1) := by decide +kernel
theorem dX2_counted_74 : decode cX2_counted 74 = .ok (.aload_n 0, 1) := by decide +kernel
theorem dX2_counted_75 : decode cX2_counted 75 = .ok (.getfield 33, 3) := by decide +kernel
theorem dX2_counted_78 : decode cX2_counted 78 = .ok (.if_icmp .ge 26, 3) := by decide +kernel
theorem dX2_counted_81 : decode cX2_counted 81 = .ok (.iload_n 2, 1) := by decide +kernel
theorem dX2_counted_82 : decode cX2_counted 82 = .ok (.aload_n 0, 1) := by decide +kernel
theorem dX2_counted_83 : decode cX2_counted 83 = .ok (.iload_n 3, 1) := by decide +kernel
theorem dX2_counted_84 : decode cX2_counted 84 = .ok (.iconst 4, 1) := by decide +kernel
theorem dX2_counted_85 : decode cX2_counted 85 = .ok (.invokevirtual 36, 3) := by decide +kernel
theorem dX2_counted_88 : decode cX2_counted 88 = .ok (.ifCond .le 7, 3) := by decide +kernel
theorem dX2_counted_91 : decode cX2_counted 91 = .ok (.iconst 1, 1) := by decide +kernel
theorem dX2_counted_92 : decode cX2_counted 92 = .ok (.goto 4, 3) := by decide +kernel
theorem dX2_counted_95 : decode cX2_counted 95 = .ok (.iconst 0, 1) := by decide +kernel
theorem dX2_counted_96 : decode cX2_counted 96 = .ok (.iadd, 1) := by decide +kernel
theorem dX2_counted_97 : decode cX2_counted 97 = .ok (.istore_n 2, 1) := by decide +kernel
theorem dX2_counted_98 : decode cX2_counted 98 = .ok (.iinc 3 1, 3) := by decide +kernel
theorem dX2_counted_101 : decode cX2_counted 101 = .ok (.goto (-28), 3) := by decide +kernel
theorem dX2_counted_104 : decode cX2_counted 104 = .ok (.iload_n 2, 1) := by decide +kernel
theorem dX2_counted_105 : decode cX2_counted 105 = .ok (.ireturn, 1) := by decide +kernel
theorem dX2_counted_106 : decode cX2_counted 106 = .ok (.aload_n 0, 1) := by decide +kernel
theorem dX2_counted_107 : decode cX2_counted 107 = .ok (.bipush 6, 2) := by decide +kernel
theorem dX2_counted_109 : decode cX2_counted 109 = .ok (.invokevirtual 95, 3) := by decide +kernel
theorem dX2_counted_112 : decode cX2_counted 112 = .ok (.ireturn, 1) := by decide +kernel
theorem dX2_counted_113 : decode cX2_counted 113 = .ok (.iconst 0, 1) := by decide +kernel
theorem dX2_counted_114 : decode cX2_counted 114 = .ok (.istore_n 3, 1) := by decide +kernel
theorem dX2_counted_115 : decode cX2_counted 115 = .ok (.iload_n 3, 1) := by decide +kernel
theorem dX2_counted_116 : decode cX2_counted 116 = .ok (.aload_n 0, 1) := by decide +kernel
theorem dX2_counted_117 : decode cX2_counted 117 = .ok (.getfield 33, 3) := by decide +kernel
theorem dX2_counted_120 : decode cX2_counted 120 = .ok (.if_icmp .ge 27, 3) := by decide +kernel
theorem dX2_counted_123 : decode cX2_counted 123 = .ok (.iload_n 2, 1) := by decide +kernel
theorem dX2_counted_124 : decode cX2_counted 124 = .ok (.aload_n 0, 1) := by decide +kernel
theorem dX2_counted_125 : decode cX2_counted 125 = .ok (.iload_n 3, 1) := by decide +kernel
theorem dX2_counted_126 : decode cX2_counted 126 = .ok (.iconst 0, 1) := by decide +kernel
theorem dX2_counted_127 : decode cX2_counted 127 = .ok (.invokevirtual 36, 3) := by decide +kernel
theorem dX2_counted_130 : decode cX2_counted 130 = .ok (.iconst (-1), 1) := by decide +kernel
theorem dX2_counted_131 : decode cX2_counted 131 = .ok (.if_icmp .ne 7, 3) := by decide +kernel
theorem dX2_counted_134 : decode cX2_counted 134 = .ok (.iconst 0, 1) := by decide +kernel
theorem dX2_counted_135 : decode cX2_counted 135 = .ok (.goto 4, 3) := by decide +kernel
theorem dX2_counted_138 : decode cX2_counted 138 = .ok (.iconst 1, 1) := by decide +kernel
theorem dX2_counted_139 : decode cX2_counted 139 = .ok (.iadd, 1) := by decide +kernel
theorem dX2_counted_140 : decode cX2_counted 140 = .ok (.istore_n 2, 1) := by decide +kernel
theorem dX2_counted_141 : decode cX2_counted 141 = .ok (.iinc 3 1, 3) := by decide +kernel
theorem dX2_counted_144 : decode cX2_counted 144 = .ok (.goto (-29), 3) := by decide +kernel
theorem dX2_counted_147 : decode cX2_counted 147 = .ok (.bipush 24, 2) := by decide +kernel
theorem dX2_counted_149 : decode cX2_counted 149 = .ok (.iload_n 2, 1) := by decide +kernel
theorem dX2_counted_150 : decode cX2_counted 150 = .ok (.isub, 1) := by decide +kernel
theorem dX2_counted_151 : decode cX2_counted 151 = .ok (.ireturn, 1) := by decide +kernel
theorem dX2_counted_152 : decode cX2_counted 152 = .ok (.aload_n 0, 1) := by decide +kernel
theorem dX2_counted_153 : decode cX2_counted 153 = .ok (.getfield 19, 3) := by decide +kernel
theorem dX2_counted_156 : decode cX2_counted 156 = .ok (.iconst 1, 1) := by decide +kernel
theorem dX2_counted_157 : decode cX2_counted 157 = .ok (.iaload, 1) := by decide +kernel
theorem dX2_counted_158 : decode cX2_counted 158 = .ok (.ireturn, 1) := by decide +kernel
theorem dX2_counted_159 : decode cX2_counted 159 = .ok (.aload_n 0, 1) := by decide +kernel
theorem dX2_counted_160 : decode cX2_counted 160 = .ok (.getfield 19, 3) := by decide +kernel
theorem dX2_counted_163 : decode cX2_counted 163 = .ok (.iconst 2, 1) := by decide +kernel
theorem dX2_counted_164 : decode cX2_counted 164 = .ok (.iaload, 1) := by decide +kernel
theorem dX2_counted_165 : decode cX2_counted 165 = .ok (.ireturn, 1) := by decide +kernel
set_option maxRecDepth 20000 in
theorem ggX2_count_X2_isIn : GoodIn wsX2_count wsX2_isIn := goodIn_r _ [5] (by decide +kernel) (by decide +kernel)
set_option maxRecDepth 20000 in
theorem gX2_count_X2_isIn : GoodIn wsX2_count (va_wsS RX2 29 yX2_isIn wsX2_isIn) := goodIn_app (goodIn_of _ (by decide +kernel)) ggX2_count_X2_isIn
set_option maxRecDepth 20000 in
theorem ggX2_count_X2_counted : GoodIn wsX2_count wsX2_counted := goodIn_r _ [9, 10, 11, 12, 13, 14, 15, 4, 16, 17, 18, 19, 20, 21, 22, 23, 24, 25, 26, 27, 28, 29, 30, 31, 32, 33, 34, 35, 36, 37, 38, 39, 44, 45, 46, 47, 48, 49, 50] (by decide +kernel) (by decide +kernel)
set_option maxRecDepth 20000 in
theorem gX2_count_X2_counted : GoodIn wsX2_count (wsV RX2 98 RX2 yX2_counted wsX2_counted) := goodIn_app (goodIn_of _ (by decide +kernel)) ggX2_count_X2_counted
set_option maxRecDepth 20000 in
theorem ggX2_count_X2_fail : GoodIn wsX2_count wsX2_fail := goodIn_r _ [43, 1, 44, 45, 46, 47, 48, 49, 50] (by decide +kernel) (by decide +kernel)
set_option maxRecDepth 20000 in
theorem gX2_count_X2_fail : GoodIn wsX2_count (wsV RX2 43 RX2 yX2_fail wsX2_fail) := goodIn_app (goodIn_of _ (by decide +kernel)) ggX2_count_X2_fail
theorem dX2_count_0 : decode cX2_count 0 = .ok (.aload_n 0, 1) := by decide +kernel
theorem dX2_count_1 : decode cX2_count 1 = .ok (.iconst 0, 1) := by decide +kernel
theorem dX2_count_2 : decode cX2_count 2 = .ok (.putfield 22, 3) := by decide +kernel
theorem dX2_count_5 : decode cX2_count 5 = .ok (.iload_n 1, 1) := by decide +kernel
theorem dX2_count_6 : decode cX2_count 6 = .ok (.iconst 0, 1) := by decide +kernel
theorem dX2_count_7 : decode cX2_count 7 = .ok (.bipush 8, 2) := by decide +kernel
theorem dX2_count_9 : decode cX2_count 9 = .ok (.invokestatic 29, 3) := by decide +kernel
theorem dX2_count_12 : decode cX2_count 12 = .ok (.ifCond .eq 11, 3) := by decide +kernel
theorem dX2_count_15 : decode cX2_count 15 = .ok (.aload_n 0, 1) := by decide +kernel
theorem dX2_count_16 : decode cX2_count 16 = .ok (.iload_n 1, 1) := by decide +kernel
theorem dX2_count_17 : decode cX2_count 17 = .ok (.invokevirtual 98, 3) := by decide +kernel
theorem dX2_count_20 : decode cX2_count 20 = .ok (.goto 8, 3) := by decide +kernel
theorem dX2_count_23 : decode cX2_count 23 = .ok (.aload_n 0, 1) := by decide +kernel
theorem dX2_count_24 : decode cX2_count 24 = .ok (.iconst 1, 1) := by decide +kernel
theorem dX2_count_25 : decode cX2_count 25 = .ok (.invokevirtual 43, 3) := by decide +kernel
theorem dX2_count_28 : decode cX2_count 28 = .ok (.ireturn, 1) := by decide +kernel
set_option maxRecDepth 20000 in
theorem ggX2_off_X2_st : GoodIn wsX2_off wsX2_st := goodIn_r _ [7, 1, 30, 31, 32, 33, 34, 35, 36] (by decide +kernel) (by decide +kernel)
set_option maxRecDepth 20000 in
theorem gX2_off_X2_st : GoodIn wsX2_off (wsV RX2 47 RX2 yX2_st wsX2_st) := goodIn_app (goodIn_of _ (by decide +kernel)) ggX2_off_X2_st
set_option maxRecDepth 20000 in
theorem ggX2_off_X2_slotAt : GoodIn wsX2_off wsX2_slotAt := goodIn_r _ [11, 12, 13, 14, 15, 6, 16, 17, 30, 31, 32, 33, 34, 35, 36] (by decide +kernel) (by decide +kernel)
set_option maxRecDepth 20000 in
theorem gX2_off_X2_slotAt : GoodIn wsX2_off (wsV RX2 92 RX2 yX2_slotAt wsX2_slotAt) := goodIn_app (goodIn_of _ (by decide +kernel)) ggX2_off_X2_slotAt
set_option maxRecDepth 20000 in
theorem ggX2_off_X2_po : GoodIn wsX2_off wsX2_po := goodIn_r _ [16, 17, 30, 31, 32, 33, 34, 35, 36] (by decide +kernel) (by decide +kernel)
set_option maxRecDepth 20000 in
theorem gX2_off_X2_po : GoodIn wsX2_off (wsV RX2 36 RX2 yX2_po wsX2_po) := goodIn_app (goodIn_of _ (by decide +kernel)) ggX2_off_X2_po
set_option maxRecDepth 20000 in
theorem ggX2_off_X2_free : GoodIn wsX2_off wsX2_free := goodIn_r _ [21, 22, 23, 24, 6, 25, 12, 13, 14, 15, 16, 17, 30, 31, 32, 33, 34, 35, 36] (by decide +kernel) (by decide +kernel)
set_option maxRecDepth 20000 in
theorem gX2_off_X2_free : GoodIn wsX2_off (wsV RX2 54 RX2 yX2_free wsX2_free) := goodIn_app (goodIn_of _ (by decide +kernel)) ggX2_off_X2_free
set_option maxRecDepth 20000 in
theorem ggX2_off_X2_put : GoodIn wsX2_off wsX2_put := goodIn_r _ [29, 17, 30, 31, 32, 33, 34, 35, 36] (by decide +kernel) (by decide +kernel)
set_option maxRecDepth 20000 in
theorem gX2_off_X2_put : GoodIn wsX2_off (wsV RX2 70 RX2 yX2_put wsX2_put) := goodIn_app (goodIn_of _ (by decide +kernel)) ggX2_off_X2_put
theorem dX2_off_0 : decode cX2_off 0 = .ok (.aload_n 0, 1) := by decide +kernel
theorem dX2_off_1 : decode cX2_off 1 = .ok (.aload_n 0, 1) := by decide +kernel
theorem dX2_off_2 : decode cX2_off 2 = .ok (.iload_n 1, 1) := by decide +kernel
theorem dX2_off_3 : decode cX2_off 3 = .ok (.iconst 0, 1) := by decide +kernel
theorem dX2_off_4 : decode cX2_off 4 = .ok (.invokevirtual 47, 3) := by decide +kernel
theorem dX2_off_7 : decode cX2_off 7 = .ok (.invokevirtual 92, 3) := by decide +kernel
theorem dX2_off_10 : decode cX2_off 10 = .ok (.istore_n 2, 1) := by decide +kernel
theorem dX2_off_11 : decode cX2_off 11 = .ok (.iload_n 2, 1) := by decide +kernel
theorem dX2_off_12 : decode cX2_off 12 = .ok (.iconst (-1), 1) := by decide +kernel
theorem dX2_off_13 : decode cX2_off 13 = .ok (.if_icmp .eq 13, 3) := by decide +kernel
theorem dX2_off_16 : decode cX2_off 16 = .ok (.aload_n 0, 1) := by decide +kernel
theorem dX2_off_17 : decode cX2_off 17 = .ok (.iload_n 2, 1) := by decide +kernel
theorem dX2_off_18 : decode cX2_off 18 = .ok (.iconst 3, 1) := by decide +kernel
theorem dX2_off_19 : decode cX2_off 19 = .ok (.invokevirtual 36, 3) := by decide +kernel
theorem dX2_off_22 : decode cX2_off 22 = .ok (.iload_n 1, 1) := by decide +kernel
theorem dX2_off_23 : decode cX2_off 23 = .ok (.if_icmp .eq 4, 3) := by decide +kernel
theorem dX2_off_26 : decode cX2_off 26 = .ok (.return_, 1) := by decide +kernel
theorem dX2_off_27 : decode cX2_off 27 = .ok (.aload_n 0, 1) := by decide +kernel
theorem dX2_off_28 : decode cX2_off 28 = .ok (.iload_n 1, 1) := by decide +kernel
theorem dX2_off_29 : decode cX2_off 29 = .ok (.invokevirtual 54, 3) := by decide +kernel
theorem dX2_off_32 : decode cX2_off 32 = .ok (.istore_n 3, 1) := by decide +kernel
theorem dX2_off_33 : decode cX2_off 33 = .ok (.iload_n 3, 1) := by decide +kernel
theorem dX2_off_34 : decode cX2_off 34 = .ok (.iconst (-1), 1) := by decide +kernel
theorem dX2_off_35 : decode cX2_off 35 = .ok (.if_icmp .ne 18, 3) := by decide +kernel
theorem dX2_off_38 : decode cX2_off 38 = .ok (.aload_n 0, 1) := by decide +kernel
theorem dX2_off_39 : decode cX2_off 39 = .ok (.iload_n 2, 1) := by decide +kernel
theorem dX2_off_40 : decode cX2_off 40 = .ok (.iconst 5, 1) := by decide +kernel
theorem dX2_off_41 : decode cX2_off 41 = .ok (.aload_n 0, 1) := by decide +kernel
theorem dX2_off_42 : decode cX2_off 42 = .ok (.iload_n 2, 1) := by decide +kernel
theorem dX2_off_43 : decode cX2_off 43 = .ok (.iconst 5, 1) := by decide +kernel
theorem dX2_off_44 : decode cX2_off 44 = .ok (.invokevirtual 36, 3) := by decide +kernel
theorem dX2_off_47 : decode cX2_off 47 = .ok (.iconst 1, 1) := by decide +kernel
theorem dX2_off_48 : decode cX2_off 48 = .ok (.iadd, 1) := by decide +kernel
theorem dX2_off_49 : decode cX2_off 49 = .ok (.invokevirtual 70, 3) := by decide +kernel
theorem dX2_off_52 : decode cX2_off 52 = .ok (.return_, 1) := by decide +kernel
theorem dX2_off_53 : decode cX2_off 53 = .ok (.aload_n 0, 1) := by decide +kernel
theorem dX2_off_54 : decode cX2_off 54 = .ok (.iload_n 2, 1) := by decide +kernel
theorem dX2_off_55 : decode cX2_off 55 = .ok (.iconst 4, 1) := by decide +kernel
theorem dX2_off_56 : decode cX2_off 56 = .ok (.invokevirtual 36, 3) := by decide +kernel
theorem dX2_off_59 : decode cX2_off 59 = .ok (.ifCond .le 17, 3) := by decide +kernel
theorem dX2_off_62 : decode cX2_off 62 = .ok (.aload_n 0, 1) := by decide +kernel
theorem dX2_off_63 : decode cX2_off 63 = .ok (.getfield 13, 3) := by decide +kernel
theorem dX2_off_66 : decode cX2_off 66 = .ok (.iconst 3, 1) := by decide +kernel
theorem dX2_off_67 : decode cX2_off 67 = .ok (.iload_n 1, 1) := by decide +kernel
theorem dX2_off_68 : decode cX2_off 68 = .ok (.imul, 1) := by decide +kernel
theorem dX2_off_69 : decode cX2_off 69 = .ok (.iconst 2, 1) := by decide +kernel
theorem dX2_off_70 : decode cX2_off 70 = .ok (.iadd, 1) := by decide +kernel
theorem dX2_off_71 : decode cX2_off 71 = .ok (.dup2, 1) := by decide +kernel
theorem dX2_off_72 : decode cX2_off 72 = .ok (.iaload, 1) := by decide +kernel
theorem dX2_off_73 : decode cX2_off 73 = .ok (.iconst 1, 1) := by decide +kernel
theorem dX2_off_74 : decode cX2_off 74 = .ok (.iadd, 1) := by decide +kernel
theorem dX2_off_75 : decode cX2_off 75 = .ok (.iastore, 1) := by decide +kernel
theorem dX2_off_76 : decode cX2_off 76 = .ok (.aload_n 0, 1) := by decide +kernel
theorem dX2_off_77 : decode cX2_off 77 = .ok (.iload_n 2, 1) := by decide +kernel
theorem dX2_off_78 : decode cX2_off 78 = .ok (.iconst 4, 1) := by decide +kernel
theorem dX2_off_79 : decode cX2_off 79 = .ok (.invokevirtual 36, 3) := by decide +kernel
theorem dX2_off_82 : decode cX2_off 82 = .ok (.iconst 2, 1) := by decide +kernel
theorem dX2_off_83 : decode cX2_off 83 = .ok (.if_icmp .ne 17, 3) := by decide +kernel
theorem dX2_off_86 : decode cX2_off 86 = .ok (.aload_n 0, 1) := by decide +kernel
theorem dX2_off_87 : decode cX2_off 87 = .ok (.getfield 19, 3) := by decide +kernel
theorem dX2_off_90 : decode cX2_off 90 = .ok (.iconst 3, 1) := by decide +kernel
theorem dX2_off_91 : decode cX2_off 91 = .ok (.aload_n 0, 1) := by decide +kernel
theorem dX2_off_92 : decode cX2_off 92 = .ok (.getfield 19, 3) := by decide +kernel
theorem dX2_off_95 : decode cX2_off 95 = .ok (.iconst 0, 1) := by decide +kernel
theorem dX2_off_96 : decode cX2_off 96 = .ok (.iaload, 1) := by decide +kernel
theorem dX2_off_97 : decode cX2_off 97 = .ok (.iconst 1, 1) := by decide +kernel
theorem dX2_off_98 : decode cX2_off 98 = .ok (.iadd, 1) := by decide +kernel
theorem dX2_off_99 : decode cX2_off 99 = .ok (.iastore, 1) := by decide +kernel
theorem dX2_off_100 : decode cX2_off 100 = .ok (.aload_n 0, 1) := by decide +kernel
theorem dX2_off_101 : decode cX2_off 101 = .ok (.iload_n 2, 1) := by decide +kernel
theorem dX2_off_102 : decode cX2_off 102 = .ok (.iconst 0, 1) := by decide +kernel
theorem dX2_off_103 : decode cX2_off 103 = .ok (.iconst (-1), 1) := by decide +kernel
theorem dX2_off_104 : decode cX2_off 104 = .ok (.invokevirtual 70, 3) := by decide +kernel
theorem dX2_off_107 : decode cX2_off 107 = .ok (.aload_n 0, 1) := by decide +kernel
theorem dX2_off_108 : decode cX2_off 108 = .ok (.iload_n 2, 1) := by decide +kernel
theorem dX2_off_109 : decode cX2_off 109 = .ok (.iconst 1, 1) := by decide +kernel
theorem dX2_off_110 : decode cX2_off 110 = .ok (.iload_n 1, 1) := by decide +kernel
theorem dX2_off_111 : decode cX2_off 111 = .ok (.invokevirtual 70, 3) := by decide +kernel
theorem dX2_off_114 : decode cX2_off 114 = .ok (.aload_n 0, 1) := by decide +kernel
theorem dX2_off_115 : decode cX2_off 115 = .ok (.iload_n 2, 1) := by decide +kernel
theorem dX2_off_116 : decode cX2_off 116 = .ok (.iconst 2, 1) := by decide +kernel
theorem dX2_off_117 : decode cX2_off 117 = .ok (.iload_n 3, 1) := by decide +kernel
theorem dX2_off_118 : decode cX2_off 118 = .ok (.invokevirtual 70, 3) := by decide +kernel
theorem dX2_off_121 : decode cX2_off 121 = .ok (.aload_n 0, 1) := by decide +kernel
theorem dX2_off_122 : decode cX2_off 122 = .ok (.iload_n 2, 1) := by decide +kernel
theorem dX2_off_123 : decode cX2_off 123 = .ok (.iconst 3, 1) := by decide +kernel
theorem dX2_off_124 : decode cX2_off 124 = .ok (.iconst (-1), 1) := by decide +kernel
theorem dX2_off_125 : decode cX2_off 125 = .ok (.invokevirtual 70, 3) := by decide +kernel
theorem dX2_off_128 : decode cX2_off 128 = .ok (.aload_n 0, 1) := by decide +kernel
theorem dX2_off_129 : decode cX2_off 129 = .ok (.iload_n 2, 1) := by decide +kernel
theorem dX2_off_130 : decode cX2_off 130 = .ok (.iconst 4, 1) := by decide +kernel
theorem dX2_off_131 : decode cX2_off 131 = .ok (.iconst 0, 1) := by decide +kernel
theorem dX2_off_132 : decode cX2_off 132 = .ok (.invokevirtual 70, 3) := by decide +kernel
theorem dX2_off_135 : decode cX2_off 135 = .ok (.aload_n 0, 1) := by decide +kernel
theorem dX2_off_136 : decode cX2_off 136 = .ok (.iload_n 2, 1) := by decide +kernel
theorem dX2_off_137 : decode cX2_off 137 = .ok (.bipush 6, 2) := by decide +kernel
theorem dX2_off_139 : decode cX2_off 139 = .ok (.aload_n 0, 1) := by decide +kernel
theorem dX2_off_140 : decode cX2_off 140 = .ok (.iload_n 2, 1) := by decide +kernel
theorem dX2_off_141 : decode cX2_off 141 = .ok (.bipush 6, 2) := by decide +kernel
theorem dX2_off_143 : decode cX2_off 143 = .ok (.invokevirtual 36, 3) := by decide +kernel
theorem dX2_off_146 : decode cX2_off 146 = .ok (.iconst 1, 1) := by decide +kernel
theorem dX2_off_147 : decode cX2_off 147 = .ok (.iadd, 1) := by decide +kernel
theorem dX2_off_148 : decode cX2_off 148 = .ok (.invokevirtual 70, 3) := by decide +kernel
theorem dX2_off_151 : decode cX2_off 151 = .ok (.return_, 1) := by decide +kernel
set_option maxRecDepth 20000 in
theorem ggX2_board_X2_st : GoodIn wsX2_board wsX2_st := goodIn_r _ [12, 2, 35, 36, 37, 38, 39, 40, 41] (by decide +kernel) (by decide +kernel)
set_option maxRecDepth 20000 in
theorem gX2_board_X2_st : GoodIn wsX2_board (wsV RX2 47 RX2 yX2_st wsX2_st) := goodIn_app (goodIn_of _ (by decide +kernel)) ggX2_board_X2_st
set_option maxRecDepth 20000 in
theorem ggX2_board_X2_first : GoodIn wsX2_board wsX2_first := goodIn_r _ [16, 17, 18, 19, 11, 20, 21, 22, 23, 24, 25, 26, 35, 36, 37, 38, 39, 40, 41] (by decide +kernel) (by decide +kernel)
set_option maxRecDepth 20000 in
theorem gX2_board_X2_first : GoodIn wsX2_board (wsV RX2 101 RX2 yX2_first wsX2_first) := goodIn_app (goodIn_of _ (by decide +kernel)) ggX2_board_X2_first
set_option maxRecDepth 20000 in
theorem ggX2_board_X2_pe : GoodIn wsX2_board wsX2_pe := goodIn_r _ [30, 3, 35, 36, 37, 38, 39, 40, 41] (by decide +kernel) (by decide +kernel)
set_option maxRecDepth 20000 in
theorem gX2_board_X2_pe : GoodIn wsX2_board (wsV RX2 82 RX2 yX2_pe wsX2_pe) := goodIn_app (goodIn_of _ (by decide +kernel)) ggX2_board_X2_pe
set_option maxRecDepth 20000 in
theorem ggX2_board_X2_put : GoodIn wsX2_board wsX2_put := goodIn_r _ [34, 26, 35, 36, 37, 38, 39, 40, 41] (by decide +kernel) (by decide +kernel)
set_option maxRecDepth 20000 in
theorem gX2_board_X2_put : GoodIn wsX2_board (wsV RX2 70 RX2 yX2_put wsX2_put) := goodIn_app (goodIn_of _ (by decide +kernel)) ggX2_board_X2_put
theorem dX2_board_0 : decode cX2_board 0 = .ok (.aload_n 0, 1) := by decide +kernel
theorem dX2_board_1 : decode cX2_board 1 = .ok (.iload_n 1, 1) := by decide +kernel
theorem dX2_board_2 : decode cX2_board 2 = .ok (.iconst 1, 1) := by decide +kernel
theorem dX2_board_3 : decode cX2_board 3 = .ok (.invokevirtual 47, 3) := by decide +kernel
theorem dX2_board_6 : decode cX2_board 6 = .ok (.ifCond .le 113, 3) := by decide +kernel
theorem dX2_board_9 : decode cX2_board 9 = .ok (.aload_n 0, 1) := by decide +kernel
theorem dX2_board_10 : decode cX2_board 10 = .ok (.iload_n 1, 1) := by decide +kernel
theorem dX2_board_11 : decode cX2_board 11 = .ok (.iconst 1, 1) := by decide +kernel
theorem dX2_board_12 : decode cX2_board 12 = .ok (.invokevirtual 101, 3) := by decide +kernel
theorem dX2_board_15 : decode cX2_board 15 = .ok (.iconst (-1), 1) := by decide +kernel
theorem dX2_board_16 : decode cX2_board 16 = .ok (.if_icmp .eq 103, 3) := by decide +kernel
theorem dX2_board_19 : decode cX2_board 19 = .ok (.aload_n 0, 1) := by decide +kernel
theorem dX2_board_20 : decode cX2_board 20 = .ok (.iload_n 1, 1) := by decide +kernel
theorem dX2_board_21 : decode cX2_board 21 = .ok (.iconst 1, 1) := by decide +kernel
theorem dX2_board_22 : decode cX2_board 22 = .ok (.invokevirtual 101, 3) := by decide +kernel
theorem dX2_board_25 : decode cX2_board 25 = .ok (.istore_n 2, 1) := by decide +kernel
theorem dX2_board_26 : decode cX2_board 26 = .ok (.aload_n 0, 1) := by decide +kernel
theorem dX2_board_27 : decode cX2_board 27 = .ok (.iload_n 2, 1) := by decide +kernel
theorem dX2_board_28 : decode cX2_board 28 = .ok (.iconst 3, 1) := by decide +kernel
theorem dX2_board_29 : decode cX2_board 29 = .ok (.aload_n 0, 1) := by decide +kernel
theorem dX2_board_30 : decode cX2_board 30 = .ok (.iload_n 1, 1) := by decide +kernel
theorem dX2_board_31 : decode cX2_board 31 = .ok (.iconst 0, 1) := by decide +kernel
theorem dX2_board_32 : decode cX2_board 32 = .ok (.iconst 0, 1) := by decide +kernel
theorem dX2_board_33 : decode cX2_board 33 = .ok (.invokevirtual 82, 3) := by decide +kernel
theorem dX2_board_36 : decode cX2_board 36 = .ok (.invokevirtual 70, 3) := by decide +kernel
theorem dX2_board_39 : decode cX2_board 39 = .ok (.aload_n 0, 1) := by decide +kernel
theorem dX2_board_40 : decode cX2_board 40 = .ok (.iload_n 2, 1) := by decide +kernel
theorem dX2_board_41 : decode cX2_board 41 = .ok (.iconst 4, 1) := by decide +kernel
theorem dX2_board_42 : decode cX2_board 42 = .ok (.iconst 1, 1) := by decide +kernel
theorem dX2_board_43 : decode cX2_board 43 = .ok (.aload_n 0, 1) := by decide +kernel
theorem dX2_board_44 : decode cX2_board 44 = .ok (.iload_n 1, 1) := by decide +kernel
theorem dX2_board_45 : decode cX2_board 45 = .ok (.iconst 0, 1) := by decide +kernel
theorem dX2_board_46 : decode cX2_board 46 = .ok (.iconst 2, 1) := by decide +kernel
theorem dX2_board_47 : decode cX2_board 47 = .ok (.invokevirtual 82, 3) := by decide +kernel
theorem dX2_board_50 : decode cX2_board 50 = .ok (.iadd, 1) := by decide +kernel
theorem dX2_board_51 : decode cX2_board 51 = .ok (.invokevirtual 70, 3) := by decide +kernel
theorem dX2_board_54 : decode cX2_board 54 = .ok (.aload_n 0, 1) := by decide +kernel
theorem dX2_board_55 : decode cX2_board 55 = .ok (.getfield 19, 3) := by decide +kernel
theorem dX2_board_58 : decode cX2_board 58 = .ok (.iconst 2, 1) := by decide +kernel
theorem dX2_board_59 : decode cX2_board 59 = .ok (.dup2, 1) := by decide +kernel
theorem dX2_board_60 : decode cX2_board 60 = .ok (.iaload, 1) := by decide +kernel
theorem dX2_board_61 : decode cX2_board 61 = .ok (.aload_n 0, 1) := by decide +kernel
theorem dX2_board_62 : decode cX2_board 62 = .ok (.iload_n 1, 1) := by decide +kernel
theorem dX2_board_63 : decode cX2_board 63 = .ok (.iconst 0, 1) := by decide +kernel
theorem dX2_board_64 : decode cX2_board 64 = .ok (.iconst 1, 1) := by decide +kernel
theorem dX2_board_65 : decode cX2_board 65 = .ok (.invokevirtual 82, 3) := by decide +kernel
theorem dX2_board_68 : decode cX2_board 68 = .ok (.iadd, 1) := by decide +kernel
theorem dX2_board_69 : decode cX2_board 69 = .ok (.iastore, 1) := by decide +kernel
theorem dX2_board_70 : decode cX2_board 70 = .ok (.aload_n 0, 1) := by decide +kernel
theorem dX2_board_71 : decode cX2_board 71 = .ok (.iload_n 1, 1) := by decide +kernel
theorem dX2_board_72 : decode cX2_board 72 = .ok (.iconst 1, 1) := by decide +kernel
theorem dX2_board_73 : decode cX2_board 73 = .ok (.invokevirtual 47, 3) := by decide +kernel
theorem dX2_board_76 : decode cX2_board 76 = .ok (.iconst 1, 1) := by decide +kernel
theorem dX2_board_77 : decode cX2_board 77 = .ok (.isub, 1) := by decide +kernel
theorem dX2_board_78 : decode cX2_board 78 = .ok (.istore_n 3, 1) := by decide +kernel
theorem dX2_board_79 : decode cX2_board 79 = .ok (.aload_n 0, 1) := by decide +kernel
theorem dX2_board_80 : decode cX2_board 80 = .ok (.getfield 13, 3) := by decide +kernel
theorem dX2_board_83 : decode cX2_board 83 = .ok (.iconst 3, 1) := by decide +kernel
theorem dX2_board_84 : decode cX2_board 84 = .ok (.iload_n 1, 1) := by decide +kernel
theorem dX2_board_85 : decode cX2_board 85 = .ok (.imul, 1) := by decide +kernel
theorem dX2_board_86 : decode cX2_board 86 = .ok (.iconst 1, 1) := by decide +kernel
theorem dX2_board_87 : decode cX2_board 87 = .ok (.iadd, 1) := by decide +kernel
theorem dX2_board_88 : decode cX2_board 88 = .ok (.iload_n 3, 1) := by decide +kernel
theorem dX2_board_89 : decode cX2_board 89 = .ok (.iastore, 1) := by decide +kernel
theorem dX2_board_90 : decode cX2_board 90 = .ok (.aload_n 0, 1) := by decide +kernel
theorem dX2_board_91 : decode cX2_board 91 = .ok (.getfield 16, 3) := by decide +kernel
theorem dX2_board_94 : decode cX2_board 94 = .ok (.iconst 3, 1) := by decide +kernel
theorem dX2_board_95 : decode cX2_board 95 = .ok (.bipush 9, 2) := by decide +kernel
theorem dX2_board_97 : decode cX2_board 97 = .ok (.iload_n 1, 1) := by decide +kernel
theorem dX2_board_98 : decode cX2_board 98 = .ok (.imul, 1) := by decide +kernel
theorem dX2_board_99 : decode cX2_board 99 = .ok (.iconst 1, 1) := by decide +kernel
theorem dX2_board_100 : decode cX2_board 100 = .ok (.iadd, 1) := by decide +kernel
theorem dX2_board_101 : decode cX2_board 101 = .ok (.imul, 1) := by decide +kernel
theorem dX2_board_102 : decode cX2_board 102 = .ok (.aload_n 0, 1) := by decide +kernel
theorem dX2_board_103 : decode cX2_board 103 = .ok (.getfield 16, 3) := by decide +kernel
theorem dX2_board_106 : decode cX2_board 106 = .ok (.bipush 27, 2) := by decide +kernel
theorem dX2_board_108 : decode cX2_board 108 = .ok (.iload_n 1, 1) := by decide +kernel
theorem dX2_board_109 : decode cX2_board 109 = .ok (.imul, 1) := by decide +kernel
theorem dX2_board_110 : decode cX2_board 110 = .ok (.iconst 3, 1) := by decide +kernel
theorem dX2_board_111 : decode cX2_board 111 = .ok (.iload_n 3, 1) := by decide +kernel
theorem dX2_board_112 : decode cX2_board 112 = .ok (.imul, 1) := by decide +kernel
theorem dX2_board_113 : decode cX2_board 113 = .ok (.invokestatic 57, 3) := by decide +kernel
theorem dX2_board_116 : decode cX2_board 116 = .ok (.goto (-116), 3) := by decide +kernel
theorem dX2_board_119 : decode cX2_board 119 = .ok (.return_, 1) := by decide +kernel
set_option maxRecDepth 20000 in
theorem ggX2_answer_X2_st : GoodIn wsX2_answer wsX2_st := goodIn_r _ [6, 7, 26, 27, 28, 29, 30, 31, 32] (by decide +kernel) (by decide +kernel)
set_option maxRecDepth 20000 in
theorem gX2_answer_X2_st : GoodIn wsX2_answer (wsV RX2 47 RX2 yX2_st wsX2_st) := goodIn_app (goodIn_of _ (by decide +kernel)) ggX2_answer_X2_st
set_option maxRecDepth 20000 in
theorem ggX2_answer_X2_first : GoodIn wsX2_answer wsX2_first := goodIn_r _ [11, 12, 13, 14, 5, 15, 16, 17, 18, 19, 20, 21, 26, 27, 28, 29, 30, 31, 32] (by decide +kernel) (by decide +kernel)
set_option maxRecDepth 20000 in
theorem gX2_answer_X2_first : GoodIn wsX2_answer (wsV RX2 101 RX2 yX2_first wsX2_first) := goodIn_app (goodIn_of _ (by decide +kernel)) ggX2_answer_X2_first
set_option maxRecDepth 20000 in
theorem ggX2_answer_X2_on : GoodIn wsX2_answer wsX2_on := goodIn_r _ [25, 2, 3, 4, 5, 6, 7, 26, 27, 28, 29, 30, 31, 32] (by decide +kernel) (by decide +kernel)
set_option maxRecDepth 20000 in
theorem gX2_answer_X2_on : GoodIn wsX2_answer (wsV RX2 73 RX2 yX2_on wsX2_on) := goodIn_app (goodIn_of _ (by decide +kernel)) ggX2_answer_X2_on
theorem dX2_answer_0 : decode cX2_answer 0 = .ok (.iconst (-1), 1) := by decide +kernel
theorem dX2_answer_1 : decode cX2_answer 1 = .ok (.istore_n 2, 1) := by decide +kernel
theorem dX2_answer_2 : decode cX2_answer 2 = .ok (.iconst 0, 1) := by decide +kernel
theorem dX2_answer_3 : decode cX2_answer 3 = .ok (.istore_n 3, 1) := by decide +kernel
theorem dX2_answer_4 : decode cX2_answer 4 = .ok (.iload_n 3, 1) := by decide +kernel
theorem dX2_answer_5 : decode cX2_answer 5 = .ok (.aload_n 0, 1) := by decide +kernel
theorem dX2_answer_6 : decode cX2_answer 6 = .ok (.getfield 26, 3) := by decide +kernel
theorem dX2_answer_9 : decode cX2_answer 9 = .ok (.if_icmp .ge 55, 3) := by decide +kernel
theorem dX2_answer_12 : decode cX2_answer 12 = .ok (.iload_n 3, 1) := by decide +kernel
theorem dX2_answer_13 : decode cX2_answer 13 = .ok (.iload_n 1, 1) := by decide +kernel
theorem dX2_answer_14 : decode cX2_answer 14 = .ok (.if_icmp .eq 44, 3) := by decide +kernel
theorem dX2_answer_17 : decode cX2_answer 17 = .ok (.aload_n 0, 1) := by decide +kernel
theorem dX2_answer_18 : decode cX2_answer 18 = .ok (.iload_n 3, 1) := by decide +kernel
theorem dX2_answer_19 : decode cX2_answer 19 = .ok (.iconst 1, 1) := by decide +kernel
theorem dX2_answer_20 : decode cX2_answer 20 = .ok (.invokevirtual 47, 3) := by decide +kernel
theorem dX2_answer_23 : decode cX2_answer 23 = .ok (.ifCond .ne 35, 3) := by decide +kernel
theorem dX2_answer_26 : decode cX2_answer 26 = .ok (.aload_n 0, 1) := by decide +kernel
theorem dX2_answer_27 : decode cX2_answer 27 = .ok (.iload_n 3, 1) := by decide +kernel
theorem dX2_answer_28 : decode cX2_answer 28 = .ok (.iconst 1, 1) := by decide +kernel
theorem dX2_answer_29 : decode cX2_answer 29 = .ok (.invokevirtual 101, 3) := by decide +kernel
theorem dX2_answer_32 : decode cX2_answer 32 = .ok (.iconst (-1), 1) := by decide +kernel
theorem dX2_answer_33 : decode cX2_answer 33 = .ok (.if_icmp .eq 25, 3) := by decide +kernel
theorem dX2_answer_36 : decode cX2_answer 36 = .ok (.iload_n 2, 1) := by decide +kernel
theorem dX2_answer_37 : decode cX2_answer 37 = .ok (.iconst (-1), 1) := by decide +kernel
theorem dX2_answer_38 : decode cX2_answer 38 = .ok (.if_icmp .eq 18, 3) := by decide +kernel
theorem dX2_answer_41 : decode cX2_answer 41 = .ok (.aload_n 0, 1) := by decide +kernel
theorem dX2_answer_42 : decode cX2_answer 42 = .ok (.iload_n 3, 1) := by decide +kernel
theorem dX2_answer_43 : decode cX2_answer 43 = .ok (.iload_n 1, 1) := by decide +kernel
theorem dX2_answer_44 : decode cX2_answer 44 = .ok (.invokevirtual 73, 3) := by decide +kernel
theorem dX2_answer_47 : decode cX2_answer 47 = .ok (.aload_n 0, 1) := by decide +kernel
theorem dX2_answer_48 : decode cX2_answer 48 = .ok (.iload_n 2, 1) := by decide +kernel
theorem dX2_answer_49 : decode cX2_answer 49 = .ok (.iload_n 1, 1) := by decide +kernel
theorem dX2_answer_50 : decode cX2_answer 50 = .ok (.invokevirtual 73, 3) := by decide +kernel
theorem dX2_answer_53 : decode cX2_answer 53 = .ok (.if_icmp .ge 5, 3) := by decide +kernel
theorem dX2_answer_56 : decode cX2_answer 56 = .ok (.iload_n 3, 1) := by decide +kernel
theorem dX2_answer_57 : decode cX2_answer 57 = .ok (.istore_n 2, 1) := by decide +kernel
theorem dX2_answer_58 : decode cX2_answer 58 = .ok (.iinc 3 1, 3) := by decide +kernel
theorem dX2_answer_61 : decode cX2_answer 61 = .ok (.goto (-57), 3) := by decide +kernel
theorem dX2_answer_64 : decode cX2_answer 64 = .ok (.iload_n 2, 1) := by decide +kernel
theorem dX2_answer_65 : decode cX2_answer 65 = .ok (.ireturn, 1) := by decide +kernel
set_option maxRecDepth 20000 in
theorem ggX2_call_X2_st : GoodIn wsX2_call wsX2_st := goodIn_r _ [6, 7, 39, 40, 41, 42, 43, 44, 45] (by decide +kernel) (by decide +kernel)
set_option maxRecDepth 20000 in
theorem gX2_call_X2_st : GoodIn wsX2_call (wsV RX2 47 RX2 yX2_st wsX2_st) := goodIn_app (goodIn_of _ (by decide +kernel)) ggX2_call_X2_st
set_option maxRecDepth 20000 in
theorem ggX2_call_X2_coming : GoodIn wsX2_call wsX2_coming := goodIn_r _ [11, 12, 13, 14, 15, 5, 16, 17, 39, 40, 41, 42, 43, 44, 45] (by decide +kernel) (by decide +kernel)
set_option maxRecDepth 20000 in
theorem gX2_call_X2_coming : GoodIn wsX2_call (wsV RX2 79 RX2 yX2_coming wsX2_coming) := goodIn_app (goodIn_of _ (by decide +kernel)) ggX2_call_X2_coming
set_option maxRecDepth 20000 in
theorem ggX2_call_X2_answer : GoodIn wsX2_call wsX2_answer := goodIn_r _ [21, 22, 2, 3, 4, 5, 6, 7, 23, 24, 25, 26, 27, 28, 29, 30, 12, 13, 14, 15, 16, 17, 31, 32, 33, 34, 39, 40, 41, 42, 43, 44, 45] (by decide +kernel) (by decide +kernel)
set_option maxRecDepth 20000 in
theorem gX2_call_X2_answer : GoodIn wsX2_call (wsV RX2 105 RX2 yX2_answer wsX2_answer) := goodIn_app (goodIn_of _ (by decide +kernel)) ggX2_call_X2_answer
set_option maxRecDepth 20000 in
theorem ggX2_call_X2_first : GoodIn wsX2_call wsX2_first := goodIn_r _ [26, 27, 28, 29, 5, 30, 12, 13, 14, 15, 16, 17, 39, 40, 41, 42, 43, 44, 45] (by decide +kernel) (by decide +kernel)
set_option maxRecDepth 20000 in
theorem gX2_call_X2_first : GoodIn wsX2_call (wsV RX2 101 RX2 yX2_first wsX2_first) := goodIn_app (goodIn_of _ (by decide +kernel)) ggX2_call_X2_first
set_option maxRecDepth 20000 in
theorem ggX2_call_X2_put : GoodIn wsX2_call wsX2_put := goodIn_r _ [38, 17, 39, 40, 41, 42, 43, 44, 45] (by decide +kernel) (by decide +kernel)
set_option maxRecDepth 20000 in
theorem gX2_call_X2_put : GoodIn wsX2_call (wsV RX2 70 RX2 yX2_put wsX2_put) := goodIn_app (goodIn_of _ (by decide +kernel)) ggX2_call_X2_put
theorem dX2_call_0 : decode cX2_call 0 = .ok (.aload_n 0, 1) := by decide +kernel
theorem dX2_call_1 : decode cX2_call 1 = .ok (.iload_n 1, 1) := by decide +kernel
theorem dX2_call_2 : decode cX2_call 2 = .ok (.iconst 1, 1) := by decide +kernel
theorem dX2_call_3 : decode cX2_call 3 = .ok (.invokevirtual 47, 3) := by decide +kernel
theorem dX2_call_6 : decode cX2_call 6 = .ok (.aload_n 0, 1) := by decide +kernel
theorem dX2_call_7 : decode cX2_call 7 = .ok (.iload_n 1, 1) := by decide +kernel
theorem dX2_call_8 : decode cX2_call 8 = .ok (.invokevirtual 79, 3) := by decide +kernel
theorem dX2_call_11 : decode cX2_call 11 = .ok (.if_icmp .le 12, 3) := by decide +kernel
theorem dX2_call_14 : decode cX2_call 14 = .ok (.aload_n 0, 1) := by decide +kernel
theorem dX2_call_15 : decode cX2_call 15 = .ok (.iload_n 1, 1) := by decide +kernel
theorem dX2_call_16 : decode cX2_call 16 = .ok (.invokevirtual 105, 3) := by decide +kernel
theorem dX2_call_19 : decode cX2_call 19 = .ok (.iconst (-1), 1) := by decide +kernel
theorem dX2_call_20 : decode cX2_call 20 = .ok (.if_icmp .ne 4, 3) := by decide +kernel
theorem dX2_call_23 : decode cX2_call 23 = .ok (.return_, 1) := by decide +kernel
theorem dX2_call_24 : decode cX2_call 24 = .ok (.aload_n 0, 1) := by decide +kernel
theorem dX2_call_25 : decode cX2_call 25 = .ok (.aload_n 0, 1) := by decide +kernel
theorem dX2_call_26 : decode cX2_call 26 = .ok (.aload_n 0, 1) := by decide +kernel
theorem dX2_call_27 : decode cX2_call 27 = .ok (.iload_n 1, 1) := by decide +kernel
theorem dX2_call_28 : decode cX2_call 28 = .ok (.invokevirtual 105, 3) := by decide +kernel
theorem dX2_call_31 : decode cX2_call 31 = .ok (.iconst 1, 1) := by decide +kernel
theorem dX2_call_32 : decode cX2_call 32 = .ok (.invokevirtual 101, 3) := by decide +kernel
theorem dX2_call_35 : decode cX2_call 35 = .ok (.iconst 3, 1) := by decide +kernel
theorem dX2_call_36 : decode cX2_call 36 = .ok (.iload_n 1, 1) := by decide +kernel
theorem dX2_call_37 : decode cX2_call 37 = .ok (.invokevirtual 70, 3) := by decide +kernel
theorem dX2_call_40 : decode cX2_call 40 = .ok (.aload_n 0, 1) := by decide +kernel
theorem dX2_call_41 : decode cX2_call 41 = .ok (.getfield 19, 3) := by decide +kernel
theorem dX2_call_44 : decode cX2_call 44 = .ok (.iconst 1, 1) := by decide +kernel
theorem dX2_call_45 : decode cX2_call 45 = .ok (.dup2, 1) := by decide +kernel
theorem dX2_call_46 : decode cX2_call 46 = .ok (.iaload, 1) := by decide +kernel
theorem dX2_call_47 : decode cX2_call 47 = .ok (.iconst 1, 1) := by decide +kernel
theorem dX2_call_48 : decode cX2_call 48 = .ok (.iadd, 1) := by decide +kernel
theorem dX2_call_49 : decode cX2_call 49 = .ok (.iastore, 1) := by decide +kernel
theorem dX2_call_50 : decode cX2_call 50 = .ok (.return_, 1) := by decide +kernel
set_option maxRecDepth 20000 in
theorem ggX2_merge_X2_first : GoodIn wsX2_merge wsX2_first := goodIn_r _ [5, 6, 7, 8, 4, 9, 10, 11, 12, 13, 14, 15, 29, 30, 31, 32, 33, 34, 35] (by decide +kernel) (by decide +kernel)
set_option maxRecDepth 20000 in
theorem gX2_merge_X2_first : GoodIn wsX2_merge (wsV RX2 101 RX2 yX2_first wsX2_first) := goodIn_app (goodIn_of _ (by decide +kernel)) ggX2_merge_X2_first
set_option maxRecDepth 20000 in
theorem ggX2_merge_X2_st : GoodIn wsX2_merge wsX2_st := goodIn_r _ [19, 20, 29, 30, 31, 32, 33, 34, 35] (by decide +kernel) (by decide +kernel)
set_option maxRecDepth 20000 in
theorem gX2_merge_X2_st : GoodIn wsX2_merge (wsV RX2 47 RX2 yX2_st wsX2_st) := goodIn_app (goodIn_of _ (by decide +kernel)) ggX2_merge_X2_st
set_option maxRecDepth 20000 in
theorem ggX2_merge_X2_slotAt : GoodIn wsX2_merge wsX2_slotAt := goodIn_r _ [24, 10, 11, 12, 13, 4, 14, 15, 29, 30, 31, 32, 33, 34, 35] (by decide +kernel) (by decide +kernel)
set_option maxRecDepth 20000 in
theorem gX2_merge_X2_slotAt : GoodIn wsX2_merge (wsV RX2 92 RX2 yX2_slotAt wsX2_slotAt) := goodIn_app (goodIn_of _ (by decide +kernel)) ggX2_merge_X2_slotAt
set_option maxRecDepth 20000 in
theorem ggX2_merge_X2_put : GoodIn wsX2_merge wsX2_put := goodIn_r _ [28, 15, 29, 30, 31, 32, 33, 34, 35] (by decide +kernel) (by decide +kernel)
set_option maxRecDepth 20000 in
theorem gX2_merge_X2_put : GoodIn wsX2_merge (wsV RX2 70 RX2 yX2_put wsX2_put) := goodIn_app (goodIn_of _ (by decide +kernel)) ggX2_merge_X2_put
theorem dX2_merge_0 : decode cX2_merge 0 = .ok (.aload_n 0, 1) := by decide +kernel
theorem dX2_merge_1 : decode cX2_merge 1 = .ok (.iload_n 1, 1) := by decide +kernel
theorem dX2_merge_2 : decode cX2_merge 2 = .ok (.iconst 0, 1) := by decide +kernel
theorem dX2_merge_3 : decode cX2_merge 3 = .ok (.invokevirtual 101, 3) := by decide +kernel
theorem dX2_merge_6 : decode cX2_merge 6 = .ok (.istore_n 2, 1) := by decide +kernel
theorem dX2_merge_7 : decode cX2_merge 7 = .ok (.iload_n 2, 1) := by decide +kernel
theorem dX2_merge_8 : decode cX2_merge 8 = .ok (.iconst (-1), 1) := by decide +kernel
theorem dX2_merge_9 : decode cX2_merge 9 = .ok (.if_icmp .eq 17, 3) := by decide +kernel
theorem dX2_merge_12 : decode cX2_merge 12 = .ok (.aload_n 0, 1) := by decide +kernel
theorem dX2_merge_13 : decode cX2_merge 13 = .ok (.aload_n 0, 1) := by decide +kernel
theorem dX2_merge_14 : decode cX2_merge 14 = .ok (.iload_n 1, 1) := by decide +kernel
theorem dX2_merge_15 : decode cX2_merge 15 = .ok (.iconst 0, 1) := by decide +kernel
theorem dX2_merge_16 : decode cX2_merge 16 = .ok (.invokevirtual 47, 3) := by decide +kernel
theorem dX2_merge_19 : decode cX2_merge 19 = .ok (.invokevirtual 92, 3) := by decide +kernel
theorem dX2_merge_22 : decode cX2_merge 22 = .ok (.iconst (-1), 1) := by decide +kernel
theorem dX2_merge_23 : decode cX2_merge 23 = .ok (.if_icmp .eq 4, 3) := by decide +kernel
theorem dX2_merge_26 : decode cX2_merge 26 = .ok (.return_, 1) := by decide +kernel
theorem dX2_merge_27 : decode cX2_merge 27 = .ok (.aload_n 0, 1) := by decide +kernel
theorem dX2_merge_28 : decode cX2_merge 28 = .ok (.iload_n 2, 1) := by decide +kernel
theorem dX2_merge_29 : decode cX2_merge 29 = .ok (.iconst 0, 1) := by decide +kernel
theorem dX2_merge_30 : decode cX2_merge 30 = .ok (.aload_n 0, 1) := by decide +kernel
theorem dX2_merge_31 : decode cX2_merge 31 = .ok (.iload_n 1, 1) := by decide +kernel
theorem dX2_merge_32 : decode cX2_merge 32 = .ok (.iconst 0, 1) := by decide +kernel
theorem dX2_merge_33 : decode cX2_merge 33 = .ok (.invokevirtual 47, 3) := by decide +kernel
theorem dX2_merge_36 : decode cX2_merge 36 = .ok (.invokevirtual 70, 3) := by decide +kernel
theorem dX2_merge_39 : decode cX2_merge 39 = .ok (.aload_n 0, 1) := by decide +kernel
theorem dX2_merge_40 : decode cX2_merge 40 = .ok (.iload_n 2, 1) := by decide +kernel
theorem dX2_merge_41 : decode cX2_merge 41 = .ok (.iconst 1, 1) := by decide +kernel
theorem dX2_merge_42 : decode cX2_merge 42 = .ok (.iconst (-1), 1) := by decide +kernel
theorem dX2_merge_43 : decode cX2_merge 43 = .ok (.invokevirtual 70, 3) := by decide +kernel
theorem dX2_merge_46 : decode cX2_merge 46 = .ok (.aload_n 0, 1) := by decide +kernel
theorem dX2_merge_47 : decode cX2_merge 47 = .ok (.iload_n 2, 1) := by decide +kernel
theorem dX2_merge_48 : decode cX2_merge 48 = .ok (.iconst 2, 1) := by decide +kernel
theorem dX2_merge_49 : decode cX2_merge 49 = .ok (.iconst (-1), 1) := by decide +kernel
theorem dX2_merge_50 : decode cX2_merge 50 = .ok (.invokevirtual 70, 3) := by decide +kernel
theorem dX2_merge_53 : decode cX2_merge 53 = .ok (.return_, 1) := by decide +kernel
set_option maxRecDepth 20000 in
theorem ggX2_minuteOn_X2_po : GoodIn wsX2_minuteOn wsX2_po := goodIn_r _ [9, 10, 72, 73, 74, 75, 76, 77, 78] (by decide +kernel) (by decide +kernel)
set_option maxRecDepth 20000 in
theorem gX2_minuteOn_X2_po : GoodIn wsX2_minuteOn (wsV RX2 36 RX2 yX2_po wsX2_po) := goodIn_app (goodIn_of _ (by decide +kernel)) ggX2_minuteOn_X2_po
set_option maxRecDepth 20000 in
theorem ggX2_minuteOn_X2_put : GoodIn wsX2_minuteOn wsX2_put := goodIn_r _ [14, 10, 72, 73, 74, 75, 76, 77, 78] (by decide +kernel) (by decide +kernel)
set_option maxRecDepth 20000 in
theorem gX2_minuteOn_X2_put : GoodIn wsX2_minuteOn (wsV RX2 70 RX2 yX2_put wsX2_put) := goodIn_app (goodIn_of _ (by decide +kernel)) ggX2_minuteOn_X2_put
set_option maxRecDepth 20000 in
theorem ggX2_minuteOn_X2_off : GoodIn wsX2_minuteOn wsX2_off := goodIn_r _ [18, 19, 4, 20, 21, 22, 8, 23, 24, 25, 26, 27, 1, 5, 6, 7, 9, 10, 28, 29, 30, 31, 32, 33, 34, 35, 11, 12, 13, 14, 72, 73, 74, 75, 76, 77, 78] (by decide +kernel) (by decide +kernel)
set_option maxRecDepth 20000 in
theorem gX2_minuteOn_X2_off : GoodIn wsX2_minuteOn (wsV RX2 108 RX2 yX2_off wsX2_off) := goodIn_app (goodIn_of _ (by decide +kernel)) ggX2_minuteOn_X2_off
set_option maxRecDepth 20000 in
theorem ggX2_minuteOn_X2_board : GoodIn wsX2_minuteOn wsX2_board := goodIn_r _ [39, 4, 19, 3, 40, 41, 42, 43, 20, 21, 22, 8, 23, 44, 45, 46, 47, 32, 33, 34, 35, 1, 5, 6, 7, 9, 10, 48, 49, 50, 51, 11, 12, 13, 14, 72, 73, 74, 75, 76, 77, 78] (by decide +kernel) (by decide +kernel)
set_option maxRecDepth 20000 in
theorem gX2_minuteOn_X2_board : GoodIn wsX2_minuteOn (wsV RX2 112 RX2 yX2_board wsX2_board) := goodIn_app (goodIn_of _ (by decide +kernel)) ggX2_minuteOn_X2_board
set_option maxRecDepth 20000 in
theorem ggX2_minuteOn_X2_call : GoodIn wsX2_minuteOn wsX2_call := goodIn_r _ [55, 4, 20, 21, 22, 8, 23, 19, 56, 57, 58, 59, 1, 5, 6, 7, 9, 10, 60, 61, 62, 63, 2, 44, 45, 46, 47, 32, 33, 34, 35, 64, 65, 66, 67, 11, 12, 13, 14, 72, 73, 74, 75, 76, 77, 78] (by decide +kernel) (by decide +kernel)
set_option maxRecDepth 20000 in
theorem gX2_minuteOn_X2_call : GoodIn wsX2_minuteOn (wsV RX2 115 RX2 yX2_call wsX2_call) := goodIn_app (goodIn_of _ (by decide +kernel)) ggX2_minuteOn_X2_call
set_option maxRecDepth 20000 in
theorem ggX2_minuteOn_X2_merge : GoodIn wsX2_minuteOn wsX2_merge := goodIn_r _ [71, 44, 45, 46, 8, 47, 32, 33, 34, 35, 1, 5, 6, 7, 9, 10, 20, 21, 22, 23, 19, 24, 25, 26, 27, 11, 12, 13, 14, 72, 73, 74, 75, 76, 77, 78] (by decide +kernel) (by decide +kernel)
set_option maxRecDepth 20000 in
theorem gX2_minuteOn_X2_merge : GoodIn wsX2_minuteOn (wsV RX2 118 RX2 yX2_merge wsX2_merge) := goodIn_app (goodIn_of _ (by decide +kernel)) ggX2_minuteOn_X2_merge
set_option maxRecDepth 20000 in
theorem ggX2_minuteOn_X2_st : GoodIn wsX2_minuteOn wsX2_st := goodIn_r _ [23, 19, 72, 73, 74, 75, 76, 77, 78] (by decide +kernel) (by decide +kernel)
set_option maxRecDepth 20000 in
theorem gX2_minuteOn_X2_st : GoodIn wsX2_minuteOn (wsV RX2 47 RX2 yX2_st wsX2_st) := goodIn_app (goodIn_of _ (by decide +kernel)) ggX2_minuteOn_X2_st
theorem dX2_minuteOn_0 : decode cX2_minuteOn 0 = .ok (.iconst 0, 1) := by decide +kernel
theorem dX2_minuteOn_1 : decode cX2_minuteOn 1 = .ok (.istore_n 1, 1) := by decide +kernel
theorem dX2_minuteOn_2 : decode cX2_minuteOn 2 = .ok (.iload_n 1, 1) := by decide +kernel
theorem dX2_minuteOn_3 : decode cX2_minuteOn 3 = .ok (.aload_n 0, 1) := by decide +kernel
theorem dX2_minuteOn_4 : decode cX2_minuteOn 4 = .ok (.getfield 33, 3) := by decide +kernel
theorem dX2_minuteOn_7 : decode cX2_minuteOn 7 = .ok (.if_icmp .ge 36, 3) := by decide +kernel
theorem dX2_minuteOn_10 : decode cX2_minuteOn 10 = .ok (.aload_n 0, 1) := by decide +kernel
theorem dX2_minuteOn_11 : decode cX2_minuteOn 11 = .ok (.iload_n 1, 1) := by decide +kernel
theorem dX2_minuteOn_12 : decode cX2_minuteOn 12 = .ok (.iconst 0, 1) := by decide +kernel
theorem dX2_minuteOn_13 : decode cX2_minuteOn 13 = .ok (.invokevirtual 36, 3) := by decide +kernel
theorem dX2_minuteOn_16 : decode cX2_minuteOn 16 = .ok (.iconst (-1), 1) := by decide +kernel
theorem dX2_minuteOn_17 : decode cX2_minuteOn 17 = .ok (.if_icmp .eq 20, 3) := by decide +kernel
theorem dX2_minuteOn_20 : decode cX2_minuteOn 20 = .ok (.aload_n 0, 1) := by decide +kernel
theorem dX2_minuteOn_21 : decode cX2_minuteOn 21 = .ok (.iload_n 1, 1) := by decide +kernel
theorem dX2_minuteOn_22 : decode cX2_minuteOn 22 = .ok (.iconst 0, 1) := by decide +kernel
theorem dX2_minuteOn_23 : decode cX2_minuteOn 23 = .ok (.aload_n 0, 1) := by decide +kernel
theorem dX2_minuteOn_24 : decode cX2_minuteOn 24 = .ok (.iload_n 1, 1) := by decide +kernel
theorem dX2_minuteOn_25 : decode cX2_minuteOn 25 = .ok (.iconst 0, 1) := by decide +kernel
theorem dX2_minuteOn_26 : decode cX2_minuteOn 26 = .ok (.invokevirtual 36, 3) := by decide +kernel
theorem dX2_minuteOn_29 : decode cX2_minuteOn 29 = .ok (.iconst 1, 1) := by decide +kernel
theorem dX2_minuteOn_30 : decode cX2_minuteOn 30 = .ok (.iadd, 1) := by decide +kernel
theorem dX2_minuteOn_31 : decode cX2_minuteOn 31 = .ok (.bipush 24, 2) := by decide +kernel
theorem dX2_minuteOn_33 : decode cX2_minuteOn 33 = .ok (.irem, 1) := by decide +kernel
theorem dX2_minuteOn_34 : decode cX2_minuteOn 34 = .ok (.invokevirtual 70, 3) := by decide +kernel
theorem dX2_minuteOn_37 : decode cX2_minuteOn 37 = .ok (.iinc 1 1, 3) := by decide +kernel
theorem dX2_minuteOn_40 : decode cX2_minuteOn 40 = .ok (.goto (-38), 3) := by decide +kernel
theorem dX2_minuteOn_43 : decode cX2_minuteOn 43 = .ok (.iconst 0, 1) := by decide +kernel
theorem dX2_minuteOn_44 : decode cX2_minuteOn 44 = .ok (.istore_n 1, 1) := by decide +kernel
theorem dX2_minuteOn_45 : decode cX2_minuteOn 45 = .ok (.iload_n 1, 1) := by decide +kernel
theorem dX2_minuteOn_46 : decode cX2_minuteOn 46 = .ok (.aload_n 0, 1) := by decide +kernel
theorem dX2_minuteOn_47 : decode cX2_minuteOn 47 = .ok (.getfield 26, 3) := by decide +kernel
theorem dX2_minuteOn_50 : decode cX2_minuteOn 50 = .ok (.if_icmp .ge 14, 3) := by decide +kernel
theorem dX2_minuteOn_53 : decode cX2_minuteOn 53 = .ok (.aload_n 0, 1) := by decide +kernel
theorem dX2_minuteOn_54 : decode cX2_minuteOn 54 = .ok (.iload_n 1, 1) := by decide +kernel
theorem dX2_minuteOn_55 : decode cX2_minuteOn 55 = .ok (.invokevirtual 108, 3) := by decide +kernel
theorem dX2_minuteOn_58 : decode cX2_minuteOn 58 = .ok (.iinc 1 1, 3) := by decide +kernel
theorem dX2_minuteOn_61 : decode cX2_minuteOn 61 = .ok (.goto (-16), 3) := by decide +kernel
theorem dX2_minuteOn_64 : decode cX2_minuteOn 64 = .ok (.iconst 0, 1) := by decide +kernel
theorem dX2_minuteOn_65 : decode cX2_minuteOn 65 = .ok (.istore_n 1, 1) := by decide +kernel
theorem dX2_minuteOn_66 : decode cX2_minuteOn 66 = .ok (.iload_n 1, 1) := by decide +kernel
theorem dX2_minuteOn_67 : decode cX2_minuteOn 67 = .ok (.aload_n 0, 1) := by decide +kernel
theorem dX2_minuteOn_68 : decode cX2_minuteOn 68 = .ok (.getfield 26, 3) := by decide +kernel
theorem dX2_minuteOn_71 : decode cX2_minuteOn 71 = .ok (.if_icmp .ge 14, 3) := by decide +kernel
theorem dX2_minuteOn_74 : decode cX2_minuteOn 74 = .ok (.aload_n 0, 1) := by decide +kernel
theorem dX2_minuteOn_75 : decode cX2_minuteOn 75 = .ok (.iload_n 1, 1) := by decide +kernel
theorem dX2_minuteOn_76 : decode cX2_minuteOn 76 = .ok (.invokevirtual 112, 3) := by decide +kernel
theorem dX2_minuteOn_79 : decode cX2_minuteOn 79 = .ok (.iinc 1 1, 3) := by decide +kernel
theorem dX2_minuteOn_82 : decode cX2_minuteOn 82 = .ok (.goto (-16), 3) := by decide +kernel
theorem dX2_minuteOn_85 : decode cX2_minuteOn 85 = .ok (.iconst 0, 1) := by decide +kernel
theorem dX2_minuteOn_86 : decode cX2_minuteOn 86 = .ok (.istore_n 1, 1) := by decide +kernel
theorem dX2_minuteOn_87 : decode cX2_minuteOn 87 = .ok (.iload_n 1, 1) := by decide +kernel
theorem dX2_minuteOn_88 : decode cX2_minuteOn 88 = .ok (.aload_n 0, 1) := by decide +kernel
theorem dX2_minuteOn_89 : decode cX2_minuteOn 89 = .ok (.getfield 26, 3) := by decide +kernel
theorem dX2_minuteOn_92 : decode cX2_minuteOn 92 = .ok (.if_icmp .ge 14, 3) := by decide +kernel
theorem dX2_minuteOn_95 : decode cX2_minuteOn 95 = .ok (.aload_n 0, 1) := by decide +kernel
theorem dX2_minuteOn_96 : decode cX2_minuteOn 96 = .ok (.iload_n 1, 1) := by decide +kernel
theorem dX2_minuteOn_97 : decode cX2_minuteOn 97 = .ok (.invokevirtual 115, 3) := by decide +kernel
theorem dX2_minuteOn_100 : decode cX2_minuteOn 100 = .ok (.iinc 1 1, 3) := by decide +kernel
theorem dX2_minuteOn_103 : decode cX2_minuteOn 103 = .ok (.goto (-16), 3) := by decide +kernel
theorem dX2_minuteOn_106 : decode cX2_minuteOn 106 = .ok (.iconst 0, 1) := by decide +kernel
theorem dX2_minuteOn_107 : decode cX2_minuteOn 107 = .ok (.istore_n 1, 1) := by decide +kernel
theorem dX2_minuteOn_108 : decode cX2_minuteOn 108 = .ok (.iload_n 1, 1) := by decide +kernel
theorem dX2_minuteOn_109 : decode cX2_minuteOn 109 = .ok (.aload_n 0, 1) := by decide +kernel
theorem dX2_minuteOn_110 : decode cX2_minuteOn 110 = .ok (.getfield 26, 3) := by decide +kernel
theorem dX2_minuteOn_113 : decode cX2_minuteOn 113 = .ok (.if_icmp .ge 14, 3) := by decide +kernel
theorem dX2_minuteOn_116 : decode cX2_minuteOn 116 = .ok (.aload_n 0, 1) := by decide +kernel
theorem dX2_minuteOn_117 : decode cX2_minuteOn 117 = .ok (.iload_n 1, 1) := by decide +kernel
theorem dX2_minuteOn_118 : decode cX2_minuteOn 118 = .ok (.invokevirtual 118, 3) := by decide +kernel
theorem dX2_minuteOn_121 : decode cX2_minuteOn 121 = .ok (.iinc 1 1, 3) := by decide +kernel
theorem dX2_minuteOn_124 : decode cX2_minuteOn 124 = .ok (.goto (-16), 3) := by decide +kernel
theorem dX2_minuteOn_127 : decode cX2_minuteOn 127 = .ok (.iconst 0, 1) := by decide +kernel
theorem dX2_minuteOn_128 : decode cX2_minuteOn 128 = .ok (.istore_n 1, 1) := by decide +kernel
theorem dX2_minuteOn_129 : decode cX2_minuteOn 129 = .ok (.iload_n 1, 1) := by decide +kernel
theorem dX2_minuteOn_130 : decode cX2_minuteOn 130 = .ok (.aload_n 0, 1) := by decide +kernel
theorem dX2_minuteOn_131 : decode cX2_minuteOn 131 = .ok (.getfield 26, 3) := by decide +kernel
theorem dX2_minuteOn_134 : decode cX2_minuteOn 134 = .ok (.if_icmp .ge 46, 3) := by decide +kernel
theorem dX2_minuteOn_137 : decode cX2_minuteOn 137 = .ok (.iconst 0, 1) := by decide +kernel
theorem dX2_minuteOn_138 : decode cX2_minuteOn 138 = .ok (.istore_n 2, 1) := by decide +kernel
theorem dX2_minuteOn_139 : decode cX2_minuteOn 139 = .ok (.iload_n 2, 1) := by decide +kernel
theorem dX2_minuteOn_140 : decode cX2_minuteOn 140 = .ok (.aload_n 0, 1) := by decide +kernel
theorem dX2_minuteOn_141 : decode cX2_minuteOn 141 = .ok (.iload_n 1, 1) := by decide +kernel
theorem dX2_minuteOn_142 : decode cX2_minuteOn 142 = .ok (.iconst 1, 1) := by decide +kernel
theorem dX2_minuteOn_143 : decode cX2_minuteOn 143 = .ok (.invokevirtual 47, 3) := by decide +kernel
theorem dX2_minuteOn_146 : decode cX2_minuteOn 146 = .ok (.if_icmp .ge 28, 3) := by decide +kernel
theorem dX2_minuteOn_149 : decode cX2_minuteOn 149 = .ok (.aload_n 0, 1) := by decide +kernel
theorem dX2_minuteOn_150 : decode cX2_minuteOn 150 = .ok (.getfield 16, 3) := by decide +kernel
theorem dX2_minuteOn_153 : decode cX2_minuteOn 153 = .ok (.iconst 3, 1) := by decide +kernel
theorem dX2_minuteOn_154 : decode cX2_minuteOn 154 = .ok (.bipush 9, 2) := by decide +kernel
theorem dX2_minuteOn_156 : decode cX2_minuteOn 156 = .ok (.iload_n 1, 1) := by decide +kernel
theorem dX2_minuteOn_157 : decode cX2_minuteOn 157 = .ok (.imul, 1) := by decide +kernel
theorem dX2_minuteOn_158 : decode cX2_minuteOn 158 = .ok (.iload_n 2, 1) := by decide +kernel
theorem dX2_minuteOn_159 : decode cX2_minuteOn 159 = .ok (.iadd, 1) := by decide +kernel
theorem dX2_minuteOn_160 : decode cX2_minuteOn 160 = .ok (.imul, 1) := by decide +kernel
theorem dX2_minuteOn_161 : decode cX2_minuteOn 161 = .ok (.iconst 1, 1) := by decide +kernel
theorem dX2_minuteOn_162 : decode cX2_minuteOn 162 = .ok (.iadd, 1) := by decide +kernel
theorem dX2_minuteOn_163 : decode cX2_minuteOn 163 = .ok (.dup2, 1) := by decide +kernel
theorem dX2_minuteOn_164 : decode cX2_minuteOn 164 = .ok (.iaload, 1) := by decide +kernel
theorem dX2_minuteOn_165 : decode cX2_minuteOn 165 = .ok (.iconst 1, 1) := by decide +kernel
theorem dX2_minuteOn_166 : decode cX2_minuteOn 166 = .ok (.iadd, 1) := by decide +kernel
theorem dX2_minuteOn_167 : decode cX2_minuteOn 167 = .ok (.iastore, 1) := by decide +kernel
theorem dX2_minuteOn_168 : decode cX2_minuteOn 168 = .ok (.iinc 2 1, 3) := by decide +kernel
theorem dX2_minuteOn_171 : decode cX2_minuteOn 171 = .ok (.goto (-32), 3) := by decide +kernel
theorem dX2_minuteOn_174 : decode cX2_minuteOn 174 = .ok (.iinc 1 1, 3) := by decide +kernel
theorem dX2_minuteOn_177 : decode cX2_minuteOn 177 = .ok (.goto (-48), 3) := by decide +kernel
theorem dX2_minuteOn_180 : decode cX2_minuteOn 180 = .ok (.aload_n 0, 1) := by decide +kernel
theorem dX2_minuteOn_181 : decode cX2_minuteOn 181 = .ok (.getfield 19, 3) := by decide +kernel
theorem dX2_minuteOn_184 : decode cX2_minuteOn 184 = .ok (.iconst 0, 1) := by decide +kernel
theorem dX2_minuteOn_185 : decode cX2_minuteOn 185 = .ok (.dup2, 1) := by decide +kernel
theorem dX2_minuteOn_186 : decode cX2_minuteOn 186 = .ok (.iaload, 1) := by decide +kernel
theorem dX2_minuteOn_187 : decode cX2_minuteOn 187 = .ok (.iconst 1, 1) := by decide +kernel
theorem dX2_minuteOn_188 : decode cX2_minuteOn 188 = .ok (.iadd, 1) := by decide +kernel
theorem dX2_minuteOn_189 : decode cX2_minuteOn 189 = .ok (.iastore, 1) := by decide +kernel
theorem dX2_minuteOn_190 : decode cX2_minuteOn 190 = .ok (.return_, 1) := by decide +kernel
set_option maxRecDepth 20000 in
theorem ggX2_minutesOn_X2_all : GoodIn wsX2_minutesOn wsX2_all := goodIn_r _ [5, 6, 7, 8, 9, 4, 10, 11, 12, 13, 14, 15, 16, 17, 18, 19, 20, 21, 22, 23, 24, 25, 26, 27, 28, 29, 30, 84, 85, 86, 87, 88, 89, 90] (by decide +kernel) (by decide +kernel)
set_option maxRecDepth 20000 in
theorem gX2_minutesOn_X2_all : GoodIn wsX2_minutesOn (wsV RX2 95 RX2 yX2_all wsX2_all) := goodIn_app (goodIn_of _ (by decide +kernel)) ggX2_minutesOn_X2_all
set_option maxRecDepth 20000 in
theorem ggX2_minutesOn_X2_minuteOn : GoodIn wsX2_minutesOn wsX2_minuteOn := goodIn_r _ [34, 11, 6, 30, 35, 17, 18, 19, 4, 20, 21, 36, 37, 38, 39, 40, 41, 42, 43, 16, 12, 13, 14, 15, 44, 45, 46, 47, 48, 49, 50, 51, 52, 53, 54, 55, 56, 57, 58, 59, 60, 61, 62, 63, 64, 65, 66, 67, 26, 27, 28, 29, 68, 69, 70, 71, 22, 23, 24, 25, 72, 73, 74, 75, 76, 77, 78, 79, 80, 81, 82, 83, 84, 85, 86, 87, 88, 89, 90] (by decide +kernel) (by decide +kernel)
set_option maxRecDepth 20000 in
theorem gX2_minutesOn_X2_minuteOn : GoodIn wsX2_minutesOn (wsV RX2 121 RX2 yX2_minuteOn wsX2_minuteOn) := goodIn_app (goodIn_of _ (by decide +kernel)) ggX2_minutesOn_X2_minuteOn
theorem dX2_minutesOn_0 : decode cX2_minutesOn 0 = .ok (.aload_n 0, 1) := by decide +kernel
theorem dX2_minutesOn_1 : decode cX2_minutesOn 1 = .ok (.bipush 6, 2) := by decide +kernel
theorem dX2_minutesOn_3 : decode cX2_minutesOn 3 = .ok (.invokevirtual 95, 3) := by decide +kernel
theorem dX2_minutesOn_6 : decode cX2_minutesOn 6 = .ok (.istore_n 2, 1) := by decide +kernel
theorem dX2_minutesOn_7 : decode cX2_minutesOn 7 = .ok (.iconst 0, 1) := by decide +kernel
theorem dX2_minutesOn_8 : decode cX2_minutesOn 8 = .ok (.istore_n 3, 1) := by decide +kernel
theorem dX2_minutesOn_9 : decode cX2_minutesOn 9 = .ok (.iload_n 3, 1) := by decide +kernel
theorem dX2_minutesOn_10 : decode cX2_minutesOn 10 = .ok (.iload_n 1, 1) := by decide +kernel
theorem dX2_minutesOn_11 : decode cX2_minutesOn 11 = .ok (.if_icmp .ge 13, 3) := by decide +kernel
theorem dX2_minutesOn_14 : decode cX2_minutesOn 14 = .ok (.aload_n 0, 1) := by decide +kernel
theorem dX2_minutesOn_15 : decode cX2_minutesOn 15 = .ok (.invokevirtual 121, 3) := by decide +kernel
theorem dX2_minutesOn_18 : decode cX2_minutesOn 18 = .ok (.iinc 3 1, 3) := by decide +kernel
theorem dX2_minutesOn_21 : decode cX2_minutesOn 21 = .ok (.goto (-12), 3) := by decide +kernel
theorem dX2_minutesOn_24 : decode cX2_minutesOn 24 = .ok (.aload_n 0, 1) := by decide +kernel
theorem dX2_minutesOn_25 : decode cX2_minutesOn 25 = .ok (.bipush 6, 2) := by decide +kernel
theorem dX2_minutesOn_27 : decode cX2_minutesOn 27 = .ok (.invokevirtual 95, 3) := by decide +kernel
theorem dX2_minutesOn_30 : decode cX2_minutesOn 30 = .ok (.iload_n 2, 1) := by decide +kernel
theorem dX2_minutesOn_31 : decode cX2_minutesOn 31 = .ok (.isub, 1) := by decide +kernel
theorem dX2_minutesOn_32 : decode cX2_minutesOn 32 = .ok (.ireturn, 1) := by decide +kernel
set_option maxRecDepth 20000 in
theorem ggX2_pass_X2_isIn : GoodIn wsX2_pass wsX2_isIn := goodIn_r _ [5] (by decide +kernel) (by decide +kernel)
set_option maxRecDepth 20000 in
theorem gX2_pass_X2_isIn : GoodIn wsX2_pass (va_wsS RX2 29 yX2_isIn wsX2_isIn) := goodIn_app (goodIn_of _ (by decide +kernel)) ggX2_pass_X2_isIn
set_option maxRecDepth 20000 in
theorem ggX2_pass_X2_minutesOn : GoodIn wsX2_pass wsX2_minutesOn := goodIn_r _ [9, 10, 11, 12, 4, 13, 14, 15, 16, 17, 18, 19, 20, 21, 22, 23, 24, 25, 26, 27, 28, 29, 30, 31, 32, 33, 34, 35, 36, 37, 38, 39, 40, 41, 42, 43, 44, 45, 46, 47, 48, 49, 50, 51, 52, 53, 54, 55, 56, 57, 58, 59, 60, 61, 62, 63, 64, 65, 66, 67, 68, 69, 70, 71, 72, 73, 74, 75, 76, 77, 78, 79, 80, 81, 82, 83, 84, 85, 86, 87, 88, 89, 90, 91, 96, 97, 98, 99, 100, 101, 102] (by decide +kernel) (by decide +kernel)
set_option maxRecDepth 20000 in
theorem gX2_pass_X2_minutesOn : GoodIn wsX2_pass (wsV RX2 124 RX2 yX2_minutesOn wsX2_minutesOn) := goodIn_app (goodIn_of _ (by decide +kernel)) ggX2_pass_X2_minutesOn
set_option maxRecDepth 20000 in
theorem ggX2_pass_X2_fail : GoodIn wsX2_pass wsX2_fail := goodIn_r _ [95, 1, 96, 97, 98, 99, 100, 101, 102] (by decide +kernel) (by decide +kernel)
set_option maxRecDepth 20000 in
theorem gX2_pass_X2_fail : GoodIn wsX2_pass (wsV RX2 43 RX2 yX2_fail wsX2_fail) := goodIn_app (goodIn_of _ (by decide +kernel)) ggX2_pass_X2_fail
theorem dX2_pass_0 : decode cX2_pass 0 = .ok (.aload_n 0, 1) := by decide +kernel
theorem dX2_pass_1 : decode cX2_pass 1 = .ok (.iconst 0, 1) := by decide +kernel
theorem dX2_pass_2 : decode cX2_pass 2 = .ok (.putfield 22, 3) := by decide +kernel
theorem dX2_pass_5 : decode cX2_pass 5 = .ok (.iload_n 1, 1) := by decide +kernel
theorem dX2_pass_6 : decode cX2_pass 6 = .ok (.iconst 1, 1) := by decide +kernel
theorem dX2_pass_7 : decode cX2_pass 7 = .ok (.bipush 100, 2) := by decide +kernel
theorem dX2_pass_9 : decode cX2_pass 9 = .ok (.invokestatic 29, 3) := by decide +kernel
theorem dX2_pass_12 : decode cX2_pass 12 = .ok (.ifCond .eq 11, 3) := by decide +kernel
theorem dX2_pass_15 : decode cX2_pass 15 = .ok (.aload_n 0, 1) := by decide +kernel
theorem dX2_pass_16 : decode cX2_pass 16 = .ok (.iload_n 1, 1) := by decide +kernel
theorem dX2_pass_17 : decode cX2_pass 17 = .ok (.invokevirtual 124, 3) := by decide +kernel
theorem dX2_pass_20 : decode cX2_pass 20 = .ok (.goto 8, 3) := by decide +kernel
theorem dX2_pass_23 : decode cX2_pass 23 = .ok (.aload_n 0, 1) := by decide +kernel
theorem dX2_pass_24 : decode cX2_pass 24 = .ok (.iconst 1, 1) := by decide +kernel
theorem dX2_pass_25 : decode cX2_pass 25 = .ok (.invokevirtual 43, 3) := by decide +kernel
theorem dX2_pass_28 : decode cX2_pass 28 = .ok (.ireturn, 1) := by decide +kernel
theorem dX2_kept_0 : decode cX2_kept 0 = .ok (.iconst 4, 1) := by decide +kernel
theorem dX2_kept_1 : decode cX2_kept 1 = .ok (.anewarray 127, 3) := by decide +kernel
theorem dX2_kept_4 : decode cX2_kept 4 = .ok (.dup, 1) := by decide +kernel
theorem dX2_kept_5 : decode cX2_kept 5 = .ok (.iconst 0, 1) := by decide +kernel
theorem dX2_kept_6 : decode cX2_kept 6 = .ok (.aload_n 0, 1) := by decide +kernel
theorem dX2_kept_7 : decode cX2_kept 7 = .ok (.getfield 9, 3) := by decide +kernel
theorem dX2_kept_10 : decode cX2_kept 10 = .ok (.invokevirtual 128, 3) := by decide +kernel
theorem dX2_kept_13 : decode cX2_kept 13 = .ok (.checkcast 127, 3) := by decide +kernel
theorem dX2_kept_16 : decode cX2_kept 16 = .ok (.aastore, 1) := by decide +kernel
theorem dX2_kept_17 : decode cX2_kept 17 = .ok (.dup, 1) := by decide +kernel
theorem dX2_kept_18 : decode cX2_kept 18 = .ok (.iconst 1, 1) := by decide +kernel
theorem dX2_kept_19 : decode cX2_kept 19 = .ok (.aload_n 0, 1) := by decide +kernel
theorem dX2_kept_20 : decode cX2_kept 20 = .ok (.getfield 13, 3) := by decide +kernel
theorem dX2_kept_23 : decode cX2_kept 23 = .ok (.invokevirtual 128, 3) := by decide +kernel
theorem dX2_kept_26 : decode cX2_kept 26 = .ok (.checkcast 127, 3) := by decide +kernel
theorem dX2_kept_29 : decode cX2_kept 29 = .ok (.aastore, 1) := by decide +kernel
theorem dX2_kept_30 : decode cX2_kept 30 = .ok (.dup, 1) := by decide +kernel
theorem dX2_kept_31 : decode cX2_kept 31 = .ok (.iconst 2, 1) := by decide +kernel
theorem dX2_kept_32 : decode cX2_kept 32 = .ok (.aload_n 0, 1) := by decide +kernel
theorem dX2_kept_33 : decode cX2_kept 33 = .ok (.getfield 16, 3) := by decide +kernel
theorem dX2_kept_36 : decode cX2_kept 36 = .ok (.invokevirtual 128, 3) := by decide +kernel
theorem dX2_kept_39 : decode cX2_kept 39 = .ok (.checkcast 127, 3) := by decide +kernel
theorem dX2_kept_42 : decode cX2_kept 42 = .ok (.aastore, 1) := by decide +kernel
theorem dX2_kept_43 : decode cX2_kept 43 = .ok (.dup, 1) := by decide +kernel
theorem dX2_kept_44 : decode cX2_kept 44 = .ok (.iconst 3, 1) := by decide +kernel
theorem dX2_kept_45 : decode cX2_kept 45 = .ok (.aload_n 0, 1) := by decide +kernel
theorem dX2_kept_46 : decode cX2_kept 46 = .ok (.getfield 19, 3) := by decide +kernel
theorem dX2_kept_49 : decode cX2_kept 49 = .ok (.invokevirtual 128, 3) := by decide +kernel
theorem dX2_kept_52 : decode cX2_kept 52 = .ok (.checkcast 127, 3) := by decide +kernel
theorem dX2_kept_55 : decode cX2_kept 55 = .ok (.aastore, 1) := by decide +kernel
theorem dX2_kept_56 : decode cX2_kept 56 = .ok (.areturn, 1) := by decide +kernel
theorem dX2_bringBack_0 : decode cX2_bringBack 0 = .ok (.iconst 4, 1) := by decide +kernel
theorem dX2_bringBack_1 : decode cX2_bringBack 1 = .ok (.anewarray 127, 3) := by decide +kernel
theorem dX2_bringBack_4 : decode cX2_bringBack 4 = .ok (.dup, 1) := by decide +kernel
theorem dX2_bringBack_5 : decode cX2_bringBack 5 = .ok (.iconst 0, 1) := by decide +kernel
theorem dX2_bringBack_6 : decode cX2_bringBack 6 = .ok (.aload_n 0, 1) := by decide +kernel
theorem dX2_bringBack_7 : decode cX2_bringBack 7 = .ok (.getfield 9, 3) := by decide +kernel
theorem dX2_bringBack_10 : decode cX2_bringBack 10 = .ok (.aastore, 1) := by decide +kernel
theorem dX2_bringBack_11 : decode cX2_bringBack 11 = .ok (.dup, 1) := by decide +kernel
theorem dX2_bringBack_12 : decode cX2_bringBack 12 = .ok (.iconst 1, 1) := by decide +kernel
theorem dX2_bringBack_13 : decode cX2_bringBack 13 = .ok (.aload_n 0, 1) := by decide +kernel
theorem dX2_bringBack_14 : decode cX2_bringBack 14 = .ok (.getfield 13, 3) := by decide +kernel
theorem dX2_bringBack_17 : decode cX2_bringBack 17 = .ok (.aastore, 1) := by decide +kernel
theorem dX2_bringBack_18 : decode cX2_bringBack 18 = .ok (.dup, 1) := by decide +kernel
theorem dX2_bringBack_19 : decode cX2_bringBack 19 = .ok (.iconst 2, 1) := by decide +kernel
theorem dX2_bringBack_20 : decode cX2_bringBack 20 = .ok (.aload_n 0, 1) := by decide +kernel
theorem dX2_bringBack_21 : decode cX2_bringBack 21 = .ok (.getfield 16, 3) := by decide +kernel
theorem dX2_bringBack_24 : decode cX2_bringBack 24 = .ok (.aastore, 1) := by decide +kernel
theorem dX2_bringBack_25 : decode cX2_bringBack 25 = .ok (.dup, 1) := by decide +kernel
theorem dX2_bringBack_26 : decode cX2_bringBack 26 = .ok (.iconst 3, 1) := by decide +kernel
theorem dX2_bringBack_27 : decode cX2_bringBack 27 = .ok (.aload_n 0, 1) := by decide +kernel
theorem dX2_bringBack_28 : decode cX2_bringBack 28 = .ok (.getfield 19, 3) := by decide +kernel
theorem dX2_bringBack_31 : decode cX2_bringBack 31 = .ok (.aastore, 1) := by decide +kernel
theorem dX2_bringBack_32 : decode cX2_bringBack 32 = .ok (.astore_n 2, 1) := by decide +kernel
theorem dX2_bringBack_33 : decode cX2_bringBack 33 = .ok (.iconst 0, 1) := by decide +kernel
theorem dX2_bringBack_34 : decode cX2_bringBack 34 = .ok (.istore_n 3, 1) := by decide +kernel
theorem dX2_bringBack_35 : decode cX2_bringBack 35 = .ok (.iload_n 3, 1) := by decide +kernel
theorem dX2_bringBack_36 : decode cX2_bringBack 36 = .ok (.aload_n 2, 1) := by decide +kernel
theorem dX2_bringBack_37 : decode cX2_bringBack 37 = .ok (.arraylength, 1) := by decide +kernel
theorem dX2_bringBack_38 : decode cX2_bringBack 38 = .ok (.if_icmp .ge 24, 3) := by decide +kernel
theorem dX2_bringBack_41 : decode cX2_bringBack 41 = .ok (.aload_n 1, 1) := by decide +kernel
theorem dX2_bringBack_42 : decode cX2_bringBack 42 = .ok (.iload_n 3, 1) := by decide +kernel
theorem dX2_bringBack_43 : decode cX2_bringBack 43 = .ok (.aaload, 1) := by decide +kernel
theorem dX2_bringBack_44 : decode cX2_bringBack 44 = .ok (.iconst 0, 1) := by decide +kernel
theorem dX2_bringBack_45 : decode cX2_bringBack 45 = .ok (.aload_n 2, 1) := by decide +kernel
theorem dX2_bringBack_46 : decode cX2_bringBack 46 = .ok (.iload_n 3, 1) := by decide +kernel
theorem dX2_bringBack_47 : decode cX2_bringBack 47 = .ok (.aaload, 1) := by decide +kernel
theorem dX2_bringBack_48 : decode cX2_bringBack 48 = .ok (.iconst 0, 1) := by decide +kernel
theorem dX2_bringBack_49 : decode cX2_bringBack 49 = .ok (.aload_n 2, 1) := by decide +kernel
theorem dX2_bringBack_50 : decode cX2_bringBack 50 = .ok (.iload_n 3, 1) := by decide +kernel
theorem dX2_bringBack_51 : decode cX2_bringBack 51 = .ok (.aaload, 1) := by decide +kernel
theorem dX2_bringBack_52 : decode cX2_bringBack 52 = .ok (.arraylength, 1) := by decide +kernel
theorem dX2_bringBack_53 : decode cX2_bringBack 53 = .ok (.invokestatic 57, 3) := by decide +kernel
theorem dX2_bringBack_56 : decode cX2_bringBack 56 = .ok (.iinc 3 1, 3) := by decide +kernel
theorem dX2_bringBack_59 : decode cX2_bringBack 59 = .ok (.goto (-24), 3) := by decide +kernel
theorem dX2_bringBack_62 : decode cX2_bringBack 62 = .ok (.return_, 1) := by decide +kernel
set_option maxRecDepth 20000 in
theorem ggX2_when_X2_isPod : GoodIn wsX2_when wsX2_isPod := goodIn_r _ [6, 7, 8, 9, 5, 10, 102, 103, 104, 105, 106, 107, 108] (by decide +kernel) (by decide +kernel)
set_option maxRecDepth 20000 in
theorem gX2_when_X2_isPod : GoodIn wsX2_when (wsV RX2 67 RX2 yX2_isPod wsX2_isPod) := goodIn_app (goodIn_of _ (by decide +kernel)) ggX2_when_X2_isPod
set_option maxRecDepth 20000 in
theorem ggX2_when_X2_fail : GoodIn wsX2_when wsX2_fail := goodIn_r _ [14, 1, 102, 103, 104, 105, 106, 107, 108] (by decide +kernel) (by decide +kernel)
set_option maxRecDepth 20000 in
theorem gX2_when_X2_fail : GoodIn wsX2_when (wsV RX2 43 RX2 yX2_fail wsX2_fail) := goodIn_app (goodIn_of _ (by decide +kernel)) ggX2_when_X2_fail
set_option maxRecDepth 20000 in
theorem ggX2_when_X2_po : GoodIn wsX2_when wsX2_po := goodIn_r _ [18, 19, 102, 103, 104, 105, 106, 107, 108] (by decide +kernel) (by decide +kernel)
set_option maxRecDepth 20000 in
theorem gX2_when_X2_po : GoodIn wsX2_when (wsV RX2 36 RX2 yX2_po wsX2_po) := goodIn_app (goodIn_of _ (by decide +kernel)) ggX2_when_X2_po
set_option maxRecDepth 20000 in
theorem ggX2_when_X2_kept : GoodIn wsX2_when wsX2_kept := goodIn_r _ [23, 24, 19, 25, 26, 27, 28, 29, 30, 31, 32, 102, 103, 104, 105, 106, 107, 108] (by decide +kernel) (by decide +kernel)
set_option maxRecDepth 20000 in
theorem gX2_when_X2_kept : GoodIn wsX2_when (wsV RX2 132 RX2 yX2_kept wsX2_kept) := goodIn_app (goodIn_of _ (by decide +kernel)) ggX2_when_X2_kept
set_option maxRecDepth 20000 in
theorem ggX2_when_X2_minuteOn : GoodIn wsX2_when wsX2_minuteOn := goodIn_r _ [36, 7, 37, 31, 32, 15, 16, 17, 5, 18, 19, 38, 39, 40, 41, 42, 43, 44, 45, 30, 46, 47, 48, 49, 50, 51, 52, 53, 54, 55, 56, 57, 58, 59, 60, 61, 62, 63, 64, 65, 66, 67, 68, 69, 70, 71, 72, 73, 74, 75, 76, 77, 78, 79, 80, 81, 82, 83, 84, 85, 86, 87, 88, 89, 90, 91, 92, 93, 94, 95, 96, 97, 102, 103, 104, 105, 106, 107, 108] (by decide +kernel) (by decide +kernel)
set_option maxRecDepth 20000 in
theorem gX2_when_X2_minuteOn : GoodIn wsX2_when (wsV RX2 121 RX2 yX2_minuteOn wsX2_minuteOn) := goodIn_app (goodIn_of _ (by decide +kernel)) ggX2_when_X2_minuteOn
set_option maxRecDepth 20000 in
theorem ggX2_when_X2_bringBack : GoodIn wsX2_when wsX2_bringBack := goodIn_r _ [101, 24, 19, 30, 31, 32, 66, 67, 68, 69, 102, 103, 104, 105, 106, 107, 108] (by decide +kernel) (by decide +kernel)
set_option maxRecDepth 20000 in
theorem gX2_when_X2_bringBack : GoodIn wsX2_when (wsV RX2 136 RX2 yX2_bringBack wsX2_bringBack) := goodIn_app (goodIn_of _ (by decide +kernel)) ggX2_when_X2_bringBack
theorem dX2_when_0 : decode cX2_when 0 = .ok (.aload_n 0, 1) := by decide +kernel
theorem dX2_when_1 : decode cX2_when 1 = .ok (.iconst 0, 1) := by decide +kernel
theorem dX2_when_2 : decode cX2_when 2 = .ok (.putfield 22, 3) := by decide +kernel
theorem dX2_when_5 : decode cX2_when 5 = .ok (.aload_n 0, 1) := by decide +kernel
theorem dX2_when_6 : decode cX2_when 6 = .ok (.iload_n 1, 1) := by decide +kernel
theorem dX2_when_7 : decode cX2_when 7 = .ok (.invokevirtual 67, 3) := by decide +kernel
theorem dX2_when_10 : decode cX2_when 10 = .ok (.ifCond .ne 9, 3) := by decide +kernel
theorem dX2_when_13 : decode cX2_when 13 = .ok (.aload_n 0, 1) := by decide +kernel
theorem dX2_when_14 : decode cX2_when 14 = .ok (.iconst 1, 1) := by decide +kernel
theorem dX2_when_15 : decode cX2_when 15 = .ok (.invokevirtual 43, 3) := by decide +kernel
theorem dX2_when_18 : decode cX2_when 18 = .ok (.ireturn, 1) := by decide +kernel
theorem dX2_when_19 : decode cX2_when 19 = .ok (.aload_n 0, 1) := by decide +kernel
theorem dX2_when_20 : decode cX2_when 20 = .ok (.iload_n 1, 1) := by decide +kernel
theorem dX2_when_21 : decode cX2_when 21 = .ok (.iconst 3, 1) := by decide +kernel
theorem dX2_when_22 : decode cX2_when 22 = .ok (.invokevirtual 36, 3) := by decide +kernel
theorem dX2_when_25 : decode cX2_when 25 = .ok (.iconst (-1), 1) := by decide +kernel
theorem dX2_when_26 : decode cX2_when 26 = .ok (.if_icmp .ne 5, 3) := by decide +kernel
theorem dX2_when_29 : decode cX2_when 29 = .ok (.iconst (-1), 1) := by decide +kernel
theorem dX2_when_30 : decode cX2_when 30 = .ok (.ireturn, 1) := by decide +kernel
theorem dX2_when_31 : decode cX2_when 31 = .ok (.aload_n 0, 1) := by decide +kernel
theorem dX2_when_32 : decode cX2_when 32 = .ok (.invokevirtual 132, 3) := by decide +kernel
theorem dX2_when_35 : decode cX2_when 35 = .ok (.astore_n 2, 1) := by decide +kernel
theorem dX2_when_36 : decode cX2_when 36 = .ok (.aload_n 0, 1) := by decide +kernel
theorem dX2_when_37 : decode cX2_when 37 = .ok (.iload_n 1, 1) := by decide +kernel
theorem dX2_when_38 : decode cX2_when 38 = .ok (.bipush 6, 2) := by decide +kernel
theorem dX2_when_40 : decode cX2_when 40 = .ok (.invokevirtual 36, 3) := by decide +kernel
theorem dX2_when_43 : decode cX2_when 43 = .ok (.istore_n 3, 1) := by decide +kernel
theorem dX2_when_44 : decode cX2_when 44 = .ok (.iconst 0, 1) := by decide +kernel
theorem dX2_when_45 : decode cX2_when 45 = .ok (.istore 4, 2) := by decide +kernel
theorem dX2_when_47 : decode cX2_when 47 = .ok (.iload 4, 2) := by decide +kernel
theorem dX2_when_49 : decode cX2_when 49 = .ok (.sipush 200, 3) := by decide +kernel
theorem dX2_when_52 : decode cX2_when 52 = .ok (.if_icmp .ge 24, 3) := by decide +kernel
theorem dX2_when_55 : decode cX2_when 55 = .ok (.aload_n 0, 1) := by decide +kernel
theorem dX2_when_56 : decode cX2_when 56 = .ok (.iload_n 1, 1) := by decide +kernel
theorem dX2_when_57 : decode cX2_when 57 = .ok (.bipush 6, 2) := by decide +kernel
theorem dX2_when_59 : decode cX2_when 59 = .ok (.invokevirtual 36, 3) := by decide +kernel
theorem dX2_when_62 : decode cX2_when 62 = .ok (.iload_n 3, 1) := by decide +kernel
theorem dX2_when_63 : decode cX2_when 63 = .ok (.if_icmp .ne 13, 3) := by decide +kernel
theorem dX2_when_66 : decode cX2_when 66 = .ok (.aload_n 0, 1) := by decide +kernel
theorem dX2_when_67 : decode cX2_when 67 = .ok (.invokevirtual 121, 3) := by decide +kernel
theorem dX2_when_70 : decode cX2_when 70 = .ok (.iinc 4 1, 3) := by decide +kernel
theorem dX2_when_73 : decode cX2_when 73 = .ok (.goto (-26), 3) := by decide +kernel
theorem dX2_when_76 : decode cX2_when 76 = .ok (.aload_n 0, 1) := by decide +kernel
theorem dX2_when_77 : decode cX2_when 77 = .ok (.iload_n 1, 1) := by decide +kernel
theorem dX2_when_78 : decode cX2_when 78 = .ok (.bipush 6, 2) := by decide +kernel
theorem dX2_when_80 : decode cX2_when 80 = .ok (.invokevirtual 36, 3) := by decide +kernel
theorem dX2_when_83 : decode cX2_when 83 = .ok (.iload_n 3, 1) := by decide +kernel
theorem dX2_when_84 : decode cX2_when 84 = .ok (.if_icmp .ne 7, 3) := by decide +kernel
theorem dX2_when_87 : decode cX2_when 87 = .ok (.iconst (-1), 1) := by decide +kernel
theorem dX2_when_88 : decode cX2_when 88 = .ok (.goto 5, 3) := by decide +kernel
theorem dX2_when_91 : decode cX2_when 91 = .ok (.iload 4, 2) := by decide +kernel
theorem dX2_when_93 : decode cX2_when 93 = .ok (.istore 5, 2) := by decide +kernel
theorem dX2_when_95 : decode cX2_when 95 = .ok (.aload_n 0, 1) := by decide +kernel
theorem dX2_when_96 : decode cX2_when 96 = .ok (.aload_n 2, 1) := by decide +kernel
theorem dX2_when_97 : decode cX2_when 97 = .ok (.invokevirtual 136, 3) := by decide +kernel
theorem dX2_when_100 : decode cX2_when 100 = .ok (.iload 5, 2) := by decide +kernel
theorem dX2_when_102 : decode cX2_when 102 = .ok (.ireturn, 1) := by decide +kernel
set_option maxRecDepth 20000 in
theorem ggX2_takes_X2_isStation : GoodIn wsX2_takes wsX2_isStation := goodIn_r _ [7, 8, 9, 10, 6, 11, 107, 108, 109, 110, 111, 112, 113] (by decide +kernel) (by decide +kernel)
set_option maxRecDepth 20000 in
theorem gX2_takes_X2_isStation : GoodIn wsX2_takes (wsV RX2 50 RX2 yX2_isStation wsX2_isStation) := goodIn_app (goodIn_of _ (by decide +kernel)) ggX2_takes_X2_isStation
set_option maxRecDepth 20000 in
theorem ggX2_takes_X2_fail : GoodIn wsX2_takes wsX2_fail := goodIn_r _ [15, 1, 107, 108, 109, 110, 111, 112, 113] (by decide +kernel) (by decide +kernel)
set_option maxRecDepth 20000 in
theorem gX2_takes_X2_fail : GoodIn wsX2_takes (wsV RX2 43 RX2 yX2_fail wsX2_fail) := goodIn_app (goodIn_of _ (by decide +kernel)) ggX2_takes_X2_fail
set_option maxRecDepth 20000 in
theorem ggX2_takes_X2_st : GoodIn wsX2_takes wsX2_st := goodIn_r _ [19, 20, 107, 108, 109, 110, 111, 112, 113] (by decide +kernel) (by decide +kernel)
set_option maxRecDepth 20000 in
theorem gX2_takes_X2_st : GoodIn wsX2_takes (wsV RX2 47 RX2 yX2_st wsX2_st) := goodIn_app (goodIn_of _ (by decide +kernel)) ggX2_takes_X2_st
set_option maxRecDepth 20000 in
theorem ggX2_takes_X2_kept : GoodIn wsX2_takes wsX2_kept := goodIn_r _ [24, 25, 26, 27, 28, 29, 30, 31, 20, 32, 2, 107, 108, 109, 110, 111, 112, 113] (by decide +kernel) (by decide +kernel)
set_option maxRecDepth 20000 in
theorem gX2_takes_X2_kept : GoodIn wsX2_takes (wsV RX2 132 RX2 yX2_kept wsX2_kept) := goodIn_app (goodIn_of _ (by decide +kernel)) ggX2_takes_X2_kept
set_option maxRecDepth 20000 in
theorem ggX2_takes_X2_line : GoodIn wsX2_takes wsX2_line := goodIn_r _ [36, 37, 32, 38, 39, 40, 41, 20, 16, 17, 18, 6, 19, 107, 108, 109, 110, 111, 112, 113] (by decide +kernel) (by decide +kernel)
set_option maxRecDepth 20000 in
theorem gX2_takes_X2_line : GoodIn wsX2_takes (wsV RX2 63 RX2 yX2_line wsX2_line) := goodIn_app (goodIn_of _ (by decide +kernel)) ggX2_takes_X2_line
set_option maxRecDepth 20000 in
theorem ggX2_takes_X2_minuteOn : GoodIn wsX2_takes wsX2_minuteOn := goodIn_r _ [45, 46, 8, 32, 2, 47, 48, 49, 6, 50, 26, 51, 52, 53, 54, 55, 56, 57, 58, 20, 16, 17, 18, 19, 59, 60, 61, 62, 63, 64, 65, 66, 67, 68, 69, 70, 71, 72, 73, 74, 38, 39, 40, 41, 75, 76, 77, 78, 79, 80, 81, 82, 83, 84, 85, 86, 87, 88, 89, 90, 91, 92, 93, 94, 95, 96, 97, 98, 99, 100, 101, 102, 107, 108, 109, 110, 111, 112, 113] (by decide +kernel) (by decide +kernel)
set_option maxRecDepth 20000 in
theorem gX2_takes_X2_minuteOn : GoodIn wsX2_takes (wsV RX2 121 RX2 yX2_minuteOn wsX2_minuteOn) := goodIn_app (goodIn_of _ (by decide +kernel)) ggX2_takes_X2_minuteOn
set_option maxRecDepth 20000 in
theorem ggX2_takes_X2_bringBack : GoodIn wsX2_takes wsX2_bringBack := goodIn_r _ [106, 25, 26, 20, 32, 2, 38, 39, 40, 41, 107, 108, 109, 110, 111, 112, 113] (by decide +kernel) (by decide +kernel)
set_option maxRecDepth 20000 in
theorem gX2_takes_X2_bringBack : GoodIn wsX2_takes (wsV RX2 136 RX2 yX2_bringBack wsX2_bringBack) := goodIn_app (goodIn_of _ (by decide +kernel)) ggX2_takes_X2_bringBack
theorem dX2_takes_0 : decode cX2_takes 0 = .ok (.aload_n 0, 1) := by decide +kernel
theorem dX2_takes_1 : decode cX2_takes 1 = .ok (.iconst 0, 1) := by decide +kernel
theorem dX2_takes_2 : decode cX2_takes 2 = .ok (.putfield 22, 3) := by decide +kernel
theorem dX2_takes_5 : decode cX2_takes 5 = .ok (.aload_n 0, 1) := by decide +kernel
theorem dX2_takes_6 : decode cX2_takes 6 = .ok (.iload_n 1, 1) := by decide +kernel
theorem dX2_takes_7 : decode cX2_takes 7 = .ok (.invokevirtual 50, 3) := by decide +kernel
theorem dX2_takes_10 : decode cX2_takes 10 = .ok (.ifCond .eq 11, 3) := by decide +kernel
theorem dX2_takes_13 : decode cX2_takes 13 = .ok (.aload_n 0, 1) := by decide +kernel
theorem dX2_takes_14 : decode cX2_takes 14 = .ok (.iload_n 2, 1) := by decide +kernel
theorem dX2_takes_15 : decode cX2_takes 15 = .ok (.invokevirtual 50, 3) := by decide +kernel
theorem dX2_takes_18 : decode cX2_takes 18 = .ok (.ifCond .ne 9, 3) := by decide +kernel
theorem dX2_takes_21 : decode cX2_takes 21 = .ok (.aload_n 0, 1) := by decide +kernel
theorem dX2_takes_22 : decode cX2_takes 22 = .ok (.iconst 1, 1) := by decide +kernel
theorem dX2_takes_23 : decode cX2_takes 23 = .ok (.invokevirtual 43, 3) := by decide +kernel
theorem dX2_takes_26 : decode cX2_takes 26 = .ok (.ireturn, 1) := by decide +kernel
theorem dX2_takes_27 : decode cX2_takes 27 = .ok (.iload_n 1, 1) := by decide +kernel
theorem dX2_takes_28 : decode cX2_takes 28 = .ok (.iload_n 2, 1) := by decide +kernel
theorem dX2_takes_29 : decode cX2_takes 29 = .ok (.if_icmp .ne 9, 3) := by decide +kernel
theorem dX2_takes_32 : decode cX2_takes 32 = .ok (.aload_n 0, 1) := by decide +kernel
theorem dX2_takes_33 : decode cX2_takes 33 = .ok (.iconst 2, 1) := by decide +kernel
theorem dX2_takes_34 : decode cX2_takes 34 = .ok (.invokevirtual 43, 3) := by decide +kernel
theorem dX2_takes_37 : decode cX2_takes 37 = .ok (.ireturn, 1) := by decide +kernel
theorem dX2_takes_38 : decode cX2_takes 38 = .ok (.aload_n 0, 1) := by decide +kernel
theorem dX2_takes_39 : decode cX2_takes 39 = .ok (.iload_n 1, 1) := by decide +kernel
theorem dX2_takes_40 : decode cX2_takes 40 = .ok (.iconst 1, 1) := by decide +kernel
theorem dX2_takes_41 : decode cX2_takes 41 = .ok (.invokevirtual 47, 3) := by decide +kernel
theorem dX2_takes_44 : decode cX2_takes 44 = .ok (.bipush 9, 2) := by decide +kernel
theorem dX2_takes_46 : decode cX2_takes 46 = .ok (.if_icmp .ne 5, 3) := by decide +kernel
theorem dX2_takes_49 : decode cX2_takes 49 = .ok (.iconst (-1), 1) := by decide +kernel
theorem dX2_takes_50 : decode cX2_takes 50 = .ok (.ireturn, 1) := by decide +kernel
theorem dX2_takes_51 : decode cX2_takes 51 = .ok (.aload_n 0, 1) := by decide +kernel
theorem dX2_takes_52 : decode cX2_takes 52 = .ok (.invokevirtual 132, 3) := by decide +kernel
theorem dX2_takes_55 : decode cX2_takes 55 = .ok (.astore_n 3, 1) := by decide +kernel
theorem dX2_takes_56 : decode cX2_takes 56 = .ok (.aload_n 0, 1) := by decide +kernel
theorem dX2_takes_57 : decode cX2_takes 57 = .ok (.getfield 19, 3) := by decide +kernel
theorem dX2_takes_60 : decode cX2_takes 60 = .ok (.iconst 3, 1) := by decide +kernel
theorem dX2_takes_61 : decode cX2_takes 61 = .ok (.iconst (-1), 1) := by decide +kernel
theorem dX2_takes_62 : decode cX2_takes 62 = .ok (.iastore, 1) := by decide +kernel
theorem dX2_takes_63 : decode cX2_takes 63 = .ok (.aload_n 0, 1) := by decide +kernel
theorem dX2_takes_64 : decode cX2_takes 64 = .ok (.iload_n 1, 1) := by decide +kernel
theorem dX2_takes_65 : decode cX2_takes 65 = .ok (.iload_n 2, 1) := by decide +kernel
theorem dX2_takes_66 : decode cX2_takes 66 = .ok (.iconst 1, 1) := by decide +kernel
theorem dX2_takes_67 : decode cX2_takes 67 = .ok (.invokevirtual 63, 3) := by decide +kernel
theorem dX2_takes_70 : decode cX2_takes 70 = .ok (.iconst 0, 1) := by decide +kernel
theorem dX2_takes_71 : decode cX2_takes 71 = .ok (.istore 4, 2) := by decide +kernel
theorem dX2_takes_73 : decode cX2_takes 73 = .ok (.iload 4, 2) := by decide +kernel
theorem dX2_takes_75 : decode cX2_takes 75 = .ok (.sipush 200, 3) := by decide +kernel
theorem dX2_takes_78 : decode cX2_takes 78 = .ok (.if_icmp .ge 23, 3) := by decide +kernel
theorem dX2_takes_81 : decode cX2_takes 81 = .ok (.aload_n 0, 1) := by decide +kernel
theorem dX2_takes_82 : decode cX2_takes 82 = .ok (.getfield 19, 3) := by decide +kernel
theorem dX2_takes_85 : decode cX2_takes 85 = .ok (.iconst 3, 1) := by decide +kernel
theorem dX2_takes_86 : decode cX2_takes 86 = .ok (.iaload, 1) := by decide +kernel
theorem dX2_takes_87 : decode cX2_takes 87 = .ok (.iconst (-1), 1) := by decide +kernel
theorem dX2_takes_88 : decode cX2_takes 88 = .ok (.if_icmp .ne 13, 3) := by decide +kernel
theorem dX2_takes_91 : decode cX2_takes 91 = .ok (.aload_n 0, 1) := by decide +kernel
theorem dX2_takes_92 : decode cX2_takes 92 = .ok (.invokevirtual 121, 3) := by decide +kernel
theorem dX2_takes_95 : decode cX2_takes 95 = .ok (.iinc 4 1, 3) := by decide +kernel
theorem dX2_takes_98 : decode cX2_takes 98 = .ok (.goto (-25), 3) := by decide +kernel
theorem dX2_takes_101 : decode cX2_takes 101 = .ok (.aload_n 0, 1) := by decide +kernel
theorem dX2_takes_102 : decode cX2_takes 102 = .ok (.getfield 19, 3) := by decide +kernel
theorem dX2_takes_105 : decode cX2_takes 105 = .ok (.iconst 3, 1) := by decide +kernel
theorem dX2_takes_106 : decode cX2_takes 106 = .ok (.iaload, 1) := by decide +kernel
theorem dX2_takes_107 : decode cX2_takes 107 = .ok (.iconst (-1), 1) := by decide +kernel
theorem dX2_takes_108 : decode cX2_takes 108 = .ok (.if_icmp .ne 7, 3) := by decide +kernel
theorem dX2_takes_111 : decode cX2_takes 111 = .ok (.iconst (-1), 1) := by decide +kernel
theorem dX2_takes_112 : decode cX2_takes 112 = .ok (.goto 15, 3) := by decide +kernel
theorem dX2_takes_115 : decode cX2_takes 115 = .ok (.aload_n 0, 1) := by decide +kernel
theorem dX2_takes_116 : decode cX2_takes 116 = .ok (.getfield 19, 3) := by decide +kernel
theorem dX2_takes_119 : decode cX2_takes 119 = .ok (.iconst 3, 1) := by decide +kernel
theorem dX2_takes_120 : decode cX2_takes 120 = .ok (.iaload, 1) := by decide +kernel
theorem dX2_takes_121 : decode cX2_takes 121 = .ok (.aload_n 3, 1) := by decide +kernel
theorem dX2_takes_122 : decode cX2_takes 122 = .ok (.iconst 3, 1) := by decide +kernel
theorem dX2_takes_123 : decode cX2_takes 123 = .ok (.aaload, 1) := by decide +kernel
theorem dX2_takes_124 : decode cX2_takes 124 = .ok (.iconst 0, 1) := by decide +kernel
theorem dX2_takes_125 : decode cX2_takes 125 = .ok (.iaload, 1) := by decide +kernel
theorem dX2_takes_126 : decode cX2_takes 126 = .ok (.isub, 1) := by decide +kernel
theorem dX2_takes_127 : decode cX2_takes 127 = .ok (.istore 4, 2) := by decide +kernel
theorem dX2_takes_129 : decode cX2_takes 129 = .ok (.aload_n 0, 1) := by decide +kernel
theorem dX2_takes_130 : decode cX2_takes 130 = .ok (.aload_n 3, 1) := by decide +kernel
theorem dX2_takes_131 : decode cX2_takes 131 = .ok (.invokevirtual 136, 3) := by decide +kernel
theorem dX2_takes_134 : decode cX2_takes 134 = .ok (.iload 4, 2) := by decide +kernel
theorem dX2_takes_136 : decode cX2_takes 136 = .ok (.ireturn, 1) := by decide +kernel
set_option maxRecDepth 20000 in
theorem ggX2_answers_X2_isStation : GoodIn wsX2_answers wsX2_isStation := goodIn_r _ [6, 7, 8, 9, 5, 10, 42, 43, 44, 45, 46, 47, 48] (by decide +kernel) (by decide +kernel)
set_option maxRecDepth 20000 in
theorem gX2_answers_X2_isStation : GoodIn wsX2_answers (wsV RX2 50 RX2 yX2_isStation wsX2_isStation) := goodIn_app (goodIn_of _ (by decide +kernel)) ggX2_answers_X2_isStation
set_option maxRecDepth 20000 in
theorem ggX2_answers_X2_answer : GoodIn wsX2_answers wsX2_answer := goodIn_r _ [14, 7, 15, 16, 17, 5, 18, 19, 20, 21, 22, 23, 24, 25, 26, 27, 28, 29, 30, 31, 32, 33, 34, 35, 36, 37, 42, 43, 44, 45, 46, 47, 48] (by decide +kernel) (by decide +kernel)
set_option maxRecDepth 20000 in
theorem gX2_answers_X2_answer : GoodIn wsX2_answers (wsV RX2 105 RX2 yX2_answer wsX2_answer) := goodIn_app (goodIn_of _ (by decide +kernel)) ggX2_answers_X2_answer
set_option maxRecDepth 20000 in
theorem ggX2_answers_X2_fail : GoodIn wsX2_answers wsX2_fail := goodIn_r _ [41, 1, 42, 43, 44, 45, 46, 47, 48] (by decide +kernel) (by decide +kernel)
set_option maxRecDepth 20000 in
theorem gX2_answers_X2_fail : GoodIn wsX2_answers (wsV RX2 43 RX2 yX2_fail wsX2_fail) := goodIn_app (goodIn_of _ (by decide +kernel)) ggX2_answers_X2_fail
theorem dX2_answers_0 : decode cX2_answers 0 = .ok (.aload_n 0, 1) := by decide +kernel
theorem dX2_answers_1 : decode cX2_answers 1 = .ok (.iconst 0, 1) := by decide +kernel
theorem dX2_answers_2 : decode cX2_answers 2 = .ok (.putfield 22, 3) := by decide +kernel
theorem dX2_answers_5 : decode cX2_answers 5 = .ok (.aload_n 0, 1) := by decide +kernel
theorem dX2_answers_6 : decode cX2_answers 6 = .ok (.iload_n 1, 1) := by decide +kernel
theorem dX2_answers_7 : decode cX2_answers 7 = .ok (.invokevirtual 50, 3) := by decide +kernel
theorem dX2_answers_10 : decode cX2_answers 10 = .ok (.ifCond .eq 11, 3) := by decide +kernel
theorem dX2_answers_13 : decode cX2_answers 13 = .ok (.aload_n 0, 1) := by decide +kernel
theorem dX2_answers_14 : decode cX2_answers 14 = .ok (.iload_n 1, 1) := by decide +kernel
theorem dX2_answers_15 : decode cX2_answers 15 = .ok (.invokevirtual 105, 3) := by decide +kernel
theorem dX2_answers_18 : decode cX2_answers 18 = .ok (.goto 8, 3) := by decide +kernel
theorem dX2_answers_21 : decode cX2_answers 21 = .ok (.aload_n 0, 1) := by decide +kernel
theorem dX2_answers_22 : decode cX2_answers 22 = .ok (.iconst 1, 1) := by decide +kernel
theorem dX2_answers_23 : decode cX2_answers 23 = .ok (.invokevirtual 43, 3) := by decide +kernel
theorem dX2_answers_26 : decode cX2_answers 26 = .ok (.ireturn, 1) := by decide +kernel
set_option maxRecDepth 20000 in
theorem ggX2_foresee_X2_isIn : GoodIn wsX2_foresee wsX2_isIn := goodIn_r _ [5] (by decide +kernel) (by decide +kernel)
set_option maxRecDepth 20000 in
theorem gX2_foresee_X2_isIn : GoodIn wsX2_foresee (va_wsS RX2 29 yX2_isIn wsX2_isIn) := goodIn_app (goodIn_of _ (by decide +kernel)) ggX2_foresee_X2_isIn
set_option maxRecDepth 20000 in
theorem ggX2_foresee_X2_fail : GoodIn wsX2_foresee wsX2_fail := goodIn_r _ [9, 1, 114, 115, 116, 117, 118, 119, 120] (by decide +kernel) (by decide +kernel)
set_option maxRecDepth 20000 in
theorem gX2_foresee_X2_fail : GoodIn wsX2_foresee (wsV RX2 43 RX2 yX2_fail wsX2_fail) := goodIn_app (goodIn_of _ (by decide +kernel)) ggX2_foresee_X2_fail
set_option maxRecDepth 20000 in
theorem ggX2_foresee_X2_kept : GoodIn wsX2_foresee wsX2_kept := goodIn_r _ [13, 14, 15, 16, 17, 18, 19, 20, 21, 22, 23, 114, 115, 116, 117, 118, 119, 120] (by decide +kernel) (by decide +kernel)
set_option maxRecDepth 20000 in
theorem gX2_foresee_X2_kept : GoodIn wsX2_foresee (wsV RX2 132 RX2 yX2_kept wsX2_kept) := goodIn_app (goodIn_of _ (by decide +kernel)) ggX2_foresee_X2_kept
set_option maxRecDepth 20000 in
theorem ggX2_foresee_X2_minutesOn : GoodIn wsX2_foresee wsX2_minutesOn := goodIn_r _ [27, 28, 29, 30, 4, 31, 32, 33, 34, 35, 36, 37, 38, 39, 40, 41, 21, 42, 43, 44, 45, 15, 46, 47, 48, 49, 50, 51, 52, 53, 22, 54, 55, 56, 57, 23, 58, 59, 60, 61, 62, 63, 64, 65, 66, 67, 68, 69, 70, 71, 72, 73, 74, 75, 76, 77, 78, 79, 80, 81, 82, 83, 84, 85, 86, 87, 88, 89, 90, 91, 92, 93, 94, 95, 96, 97, 98, 99, 100, 101, 102, 103, 104, 105, 114, 115, 116, 117, 118, 119, 120] (by decide +kernel) (by decide +kernel)
set_option maxRecDepth 20000 in
theorem gX2_foresee_X2_minutesOn : GoodIn wsX2_foresee (wsV RX2 124 RX2 yX2_minutesOn wsX2_minutesOn) := goodIn_app (goodIn_of _ (by decide +kernel)) ggX2_foresee_X2_minutesOn
set_option maxRecDepth 20000 in
theorem ggX2_foresee_X2_counted : GoodIn wsX2_foresee wsX2_counted := goodIn_r _ [109, 23, 32, 37, 28, 29, 30, 4, 31, 33, 34, 35, 36, 38, 39, 40, 41, 21, 42, 43, 44, 45, 15, 46, 47, 48, 49, 50, 51, 52, 53, 22, 114, 115, 116, 117, 118, 119, 120] (by decide +kernel) (by decide +kernel)
set_option maxRecDepth 20000 in
theorem gX2_foresee_X2_counted : GoodIn wsX2_foresee (wsV RX2 98 RX2 yX2_counted wsX2_counted) := goodIn_app (goodIn_of _ (by decide +kernel)) ggX2_foresee_X2_counted
set_option maxRecDepth 20000 in
theorem ggX2_foresee_X2_bringBack : GoodIn wsX2_foresee wsX2_bringBack := goodIn_r _ [113, 14, 15, 21, 22, 23, 82, 83, 84, 85, 114, 115, 116, 117, 118, 119, 120] (by decide +kernel) (by decide +kernel)
set_option maxRecDepth 20000 in
theorem gX2_foresee_X2_bringBack : GoodIn wsX2_foresee (wsV RX2 136 RX2 yX2_bringBack wsX2_bringBack) := goodIn_app (goodIn_of _ (by decide +kernel)) ggX2_foresee_X2_bringBack
theorem dX2_foresee_0 : decode cX2_foresee 0 = .ok (.aload_n 0, 1) := by decide +kernel
theorem dX2_foresee_1 : decode cX2_foresee 1 = .ok (.iconst 0, 1) := by decide +kernel
theorem dX2_foresee_2 : decode cX2_foresee 2 = .ok (.putfield 22, 3) := by decide +kernel
theorem dX2_foresee_5 : decode cX2_foresee 5 = .ok (.iload_n 1, 1) := by decide +kernel
theorem dX2_foresee_6 : decode cX2_foresee 6 = .ok (.iconst 1, 1) := by decide +kernel
theorem dX2_foresee_7 : decode cX2_foresee 7 = .ok (.bipush 100, 2) := by decide +kernel
theorem dX2_foresee_9 : decode cX2_foresee 9 = .ok (.invokestatic 29, 3) := by decide +kernel
theorem dX2_foresee_12 : decode cX2_foresee 12 = .ok (.ifCond .ne 9, 3) := by decide +kernel
theorem dX2_foresee_15 : decode cX2_foresee 15 = .ok (.aload_n 0, 1) := by decide +kernel
theorem dX2_foresee_16 : decode cX2_foresee 16 = .ok (.iconst 1, 1) := by decide +kernel
theorem dX2_foresee_17 : decode cX2_foresee 17 = .ok (.invokevirtual 43, 3) := by decide +kernel
theorem dX2_foresee_20 : decode cX2_foresee 20 = .ok (.ireturn, 1) := by decide +kernel
theorem dX2_foresee_21 : decode cX2_foresee 21 = .ok (.iload_n 2, 1) := by decide +kernel
theorem dX2_foresee_22 : decode cX2_foresee 22 = .ok (.iconst 3, 1) := by decide +kernel
theorem dX2_foresee_23 : decode cX2_foresee 23 = .ok (.bipush 7, 2) := by decide +kernel
theorem dX2_foresee_25 : decode cX2_foresee 25 = .ok (.invokestatic 29, 3) := by decide +kernel
theorem dX2_foresee_28 : decode cX2_foresee 28 = .ok (.ifCond .ne 9, 3) := by decide +kernel
theorem dX2_foresee_31 : decode cX2_foresee 31 = .ok (.aload_n 0, 1) := by decide +kernel
theorem dX2_foresee_32 : decode cX2_foresee 32 = .ok (.iconst 2, 1) := by decide +kernel
theorem dX2_foresee_33 : decode cX2_foresee 33 = .ok (.invokevirtual 43, 3) := by decide +kernel
theorem dX2_foresee_36 : decode cX2_foresee 36 = .ok (.ireturn, 1) := by decide +kernel
theorem dX2_foresee_37 : decode cX2_foresee 37 = .ok (.aload_n 0, 1) := by decide +kernel
theorem dX2_foresee_38 : decode cX2_foresee 38 = .ok (.invokevirtual 132, 3) := by decide +kernel
theorem dX2_foresee_41 : decode cX2_foresee 41 = .ok (.astore_n 3, 1) := by decide +kernel
theorem dX2_foresee_42 : decode cX2_foresee 42 = .ok (.aload_n 0, 1) := by decide +kernel
theorem dX2_foresee_43 : decode cX2_foresee 43 = .ok (.iload_n 1, 1) := by decide +kernel
theorem dX2_foresee_44 : decode cX2_foresee 44 = .ok (.invokevirtual 124, 3) := by decide +kernel
theorem dX2_foresee_47 : decode cX2_foresee 47 = .ok (.pop, 1) := by decide +kernel
theorem dX2_foresee_48 : decode cX2_foresee 48 = .ok (.aload_n 0, 1) := by decide +kernel
theorem dX2_foresee_49 : decode cX2_foresee 49 = .ok (.iload_n 2, 1) := by decide +kernel
theorem dX2_foresee_50 : decode cX2_foresee 50 = .ok (.invokevirtual 98, 3) := by decide +kernel
theorem dX2_foresee_53 : decode cX2_foresee 53 = .ok (.istore 4, 2) := by decide +kernel
theorem dX2_foresee_55 : decode cX2_foresee 55 = .ok (.aload_n 0, 1) := by decide +kernel
theorem dX2_foresee_56 : decode cX2_foresee 56 = .ok (.aload_n 3, 1) := by decide +kernel
theorem dX2_foresee_57 : decode cX2_foresee 57 = .ok (.invokevirtual 136, 3) := by decide +kernel
theorem dX2_foresee_60 : decode cX2_foresee 60 = .ok (.iload 4, 2) := by decide +kernel
theorem dX2_foresee_62 : decode cX2_foresee 62 = .ok (.ireturn, 1) := by decide +kernel
set_option maxRecDepth 20000 in
theorem ggX2_mean_X2_all : GoodIn wsX2_mean wsX2_all := goodIn_r _ [6, 7, 8, 9, 10, 5, 11, 12, 13, 14, 15, 16, 17, 18, 19, 20, 21, 22, 23, 24, 25, 26, 27, 28, 29, 30, 31, 32, 33, 34, 35, 36, 37, 38] (by decide +kernel) (by decide +kernel)
set_option maxRecDepth 20000 in
theorem gX2_mean_X2_all : GoodIn wsX2_mean (wsV RX2 95 RX2 yX2_all wsX2_all) := goodIn_app (goodIn_of _ (by decide +kernel)) ggX2_mean_X2_all
theorem dX2_mean_0 : decode cX2_mean 0 = .ok (.aload_n 0, 1) := by decide +kernel
theorem dX2_mean_1 : decode cX2_mean 1 = .ok (.iconst 0, 1) := by decide +kernel
theorem dX2_mean_2 : decode cX2_mean 2 = .ok (.putfield 22, 3) := by decide +kernel
theorem dX2_mean_5 : decode cX2_mean 5 = .ok (.aload_n 0, 1) := by decide +kernel
theorem dX2_mean_6 : decode cX2_mean 6 = .ok (.iconst 3, 1) := by decide +kernel
theorem dX2_mean_7 : decode cX2_mean 7 = .ok (.invokevirtual 95, 3) := by decide +kernel
theorem dX2_mean_10 : decode cX2_mean 10 = .ok (.ifCond .ne 7, 3) := by decide +kernel
theorem dX2_mean_13 : decode cX2_mean 13 = .ok (.dconst 0, 1) := by decide +kernel
theorem dX2_mean_14 : decode cX2_mean 14 = .ok (.goto 16, 3) := by decide +kernel
theorem dX2_mean_17 : decode cX2_mean 17 = .ok (.aload_n 0, 1) := by decide +kernel
theorem dX2_mean_18 : decode cX2_mean 18 = .ok (.iconst 5, 1) := by decide +kernel
theorem dX2_mean_19 : decode cX2_mean 19 = .ok (.invokevirtual 95, 3) := by decide +kernel
theorem dX2_mean_22 : decode cX2_mean 22 = .ok (.i2d, 1) := by decide +kernel
theorem dX2_mean_23 : decode cX2_mean 23 = .ok (.aload_n 0, 1) := by decide +kernel
theorem dX2_mean_24 : decode cX2_mean 24 = .ok (.iconst 3, 1) := by decide +kernel
theorem dX2_mean_25 : decode cX2_mean 25 = .ok (.invokevirtual 95, 3) := by decide +kernel
theorem dX2_mean_28 : decode cX2_mean 28 = .ok (.i2d, 1) := by decide +kernel
theorem dX2_mean_29 : decode cX2_mean 29 = .ok (.ddiv, 1) := by decide +kernel
theorem dX2_mean_30 : decode cX2_mean 30 = .ok (.dreturn, 1) := by decide +kernel
set_option maxRecDepth 20000 in
theorem ggX2_digest_X2_counted : GoodIn wsX2_digest wsX2_counted := goodIn_r _ [10, 11, 4, 5, 12, 13, 14, 9, 15, 16, 17, 18, 19, 20, 21, 22, 23, 24, 25, 26, 27, 28, 29, 30, 31, 32, 33, 34, 35, 36, 37, 38, 51, 52, 53, 54, 55, 56, 57] (by decide +kernel) (by decide +kernel)
set_option maxRecDepth 20000 in
theorem gX2_digest_X2_counted : GoodIn wsX2_digest (wsV RX2 98 RX2 yX2_counted wsX2_counted) := goodIn_app (goodIn_of _ (by decide +kernel)) ggX2_digest_X2_counted
set_option maxRecDepth 20000 in
theorem ggX2_digest_X2_stationTold : GoodIn wsX2_digest wsX2_stationTold := goodIn_r _ [19, 5, 20, 21, 22, 9, 23, 24, 25, 26, 27, 28, 29, 30, 31, 32, 33, 34, 35, 36, 37, 38, 51, 52, 53, 54, 55, 56, 57] (by decide +kernel) (by decide +kernel)
set_option maxRecDepth 20000 in
theorem gX2_digest_X2_stationTold : GoodIn wsX2_digest (wsV RX2 86 RX2 yX2_stationTold wsX2_stationTold) := goodIn_app (goodIn_of _ (by decide +kernel)) ggX2_digest_X2_stationTold
set_option maxRecDepth 20000 in
theorem ggX2_digest_X2_st : GoodIn wsX2_digest wsX2_st := goodIn_r _ [23, 24, 51, 52, 53, 54, 55, 56, 57] (by decide +kernel) (by decide +kernel)
set_option maxRecDepth 20000 in
theorem gX2_digest_X2_st : GoodIn wsX2_digest (wsV RX2 47 RX2 yX2_st wsX2_st) := goodIn_app (goodIn_of _ (by decide +kernel)) ggX2_digest_X2_st
set_option maxRecDepth 20000 in
theorem ggX2_digest_X2_rider : GoodIn wsX2_digest wsX2_rider := goodIn_r _ [42, 34, 35, 36, 9, 37, 38, 51, 52, 53, 54, 55, 56, 57] (by decide +kernel) (by decide +kernel)
set_option maxRecDepth 20000 in
theorem gX2_digest_X2_rider : GoodIn wsX2_digest (wsV RX2 89 RX2 yX2_rider wsX2_rider) := goodIn_app (goodIn_of _ (by decide +kernel)) ggX2_digest_X2_rider
set_option maxRecDepth 20000 in
theorem ggX2_digest_X2_podTold : GoodIn wsX2_digest wsX2_podTold := goodIn_r _ [46, 25, 26, 27, 9, 28, 29, 51, 52, 53, 54, 55, 56, 57] (by decide +kernel) (by decide +kernel)
set_option maxRecDepth 20000 in
theorem gX2_digest_X2_podTold : GoodIn wsX2_digest (wsV RX2 76 RX2 yX2_podTold wsX2_podTold) := goodIn_app (goodIn_of _ (by decide +kernel)) ggX2_digest_X2_podTold
set_option maxRecDepth 20000 in
theorem ggX2_digest_X2_slotAt : GoodIn wsX2_digest wsX2_slotAt := goodIn_r _ [50, 5, 25, 26, 27, 9, 28, 29, 51, 52, 53, 54, 55, 56, 57] (by decide +kernel) (by decide +kernel)
set_option maxRecDepth 20000 in
theorem gX2_digest_X2_slotAt : GoodIn wsX2_digest (wsV RX2 92 RX2 yX2_slotAt wsX2_slotAt) := goodIn_app (goodIn_of _ (by decide +kernel)) ggX2_digest_X2_slotAt
theorem dX2_digest_0 : decode cX2_digest 0 = .ok (.aload_n 0, 1) := by decide +kernel
theorem dX2_digest_1 : decode cX2_digest 1 = .ok (.iconst 0, 1) := by decide +kernel
theorem dX2_digest_2 : decode cX2_digest 2 = .ok (.putfield 22, 3) := by decide +kernel
theorem dX2_digest_5 : decode cX2_digest 5 = .ok (.ldc2_w 140, 3) := by decide +kernel
theorem dX2_digest_8 : decode cX2_digest 8 = .ok (.lstore_n 1, 1) := by decide +kernel
theorem dX2_digest_9 : decode cX2_digest 9 = .ok (.iconst 0, 1) := by decide +kernel
theorem dX2_digest_10 : decode cX2_digest 10 = .ok (.istore_n 3, 1) := by decide +kernel
theorem dX2_digest_11 : decode cX2_digest 11 = .ok (.iload_n 3, 1) := by decide +kernel
theorem dX2_digest_12 : decode cX2_digest 12 = .ok (.bipush 9, 2) := by decide +kernel
theorem dX2_digest_14 : decode cX2_digest 14 = .ok (.if_icmp .ge 22, 3) := by decide +kernel
theorem dX2_digest_17 : decode cX2_digest 17 = .ok (.lload_n 1, 1) := by decide +kernel
theorem dX2_digest_18 : decode cX2_digest 18 = .ok (.ldc2_w 142, 3) := by decide +kernel
theorem dX2_digest_21 : decode cX2_digest 21 = .ok (.lmul, 1) := by decide +kernel
theorem dX2_digest_22 : decode cX2_digest 22 = .ok (.aload_n 0, 1) := by decide +kernel
theorem dX2_digest_23 : decode cX2_digest 23 = .ok (.iload_n 3, 1) := by decide +kernel
theorem dX2_digest_24 : decode cX2_digest 24 = .ok (.invokevirtual 98, 3) := by decide +kernel
theorem dX2_digest_27 : decode cX2_digest 27 = .ok (.i2l, 1) := by decide +kernel
theorem dX2_digest_28 : decode cX2_digest 28 = .ok (.ladd, 1) := by decide +kernel
theorem dX2_digest_29 : decode cX2_digest 29 = .ok (.lstore_n 1, 1) := by decide +kernel
theorem dX2_digest_30 : decode cX2_digest 30 = .ok (.iinc 3 1, 3) := by decide +kernel
theorem dX2_digest_33 : decode cX2_digest 33 = .ok (.goto (-22), 3) := by decide +kernel
theorem dX2_digest_36 : decode cX2_digest 36 = .ok (.iconst 0, 1) := by decide +kernel
theorem dX2_digest_37 : decode cX2_digest 37 = .ok (.istore_n 3, 1) := by decide +kernel
theorem dX2_digest_38 : decode cX2_digest 38 = .ok (.iload_n 3, 1) := by decide +kernel
theorem dX2_digest_39 : decode cX2_digest 39 = .ok (.aload_n 0, 1) := by decide +kernel
theorem dX2_digest_40 : decode cX2_digest 40 = .ok (.getfield 26, 3) := by decide +kernel
theorem dX2_digest_43 : decode cX2_digest 43 = .ok (.if_icmp .ge 75, 3) := by decide +kernel
theorem dX2_digest_46 : decode cX2_digest 46 = .ok (.iconst 0, 1) := by decide +kernel
theorem dX2_digest_47 : decode cX2_digest 47 = .ok (.istore 4, 2) := by decide +kernel
theorem dX2_digest_49 : decode cX2_digest 49 = .ok (.iload 4, 2) := by decide +kernel
theorem dX2_digest_51 : decode cX2_digest 51 = .ok (.bipush 7, 2) := by decide +kernel
theorem dX2_digest_53 : decode cX2_digest 53 = .ok (.if_icmp .ge 24, 3) := by decide +kernel
theorem dX2_digest_56 : decode cX2_digest 56 = .ok (.lload_n 1, 1) := by decide +kernel
theorem dX2_digest_57 : decode cX2_digest 57 = .ok (.ldc2_w 142, 3) := by decide +kernel
theorem dX2_digest_60 : decode cX2_digest 60 = .ok (.lmul, 1) := by decide +kernel
theorem dX2_digest_61 : decode cX2_digest 61 = .ok (.aload_n 0, 1) := by decide +kernel
theorem dX2_digest_62 : decode cX2_digest 62 = .ok (.iload_n 3, 1) := by decide +kernel
theorem dX2_digest_63 : decode cX2_digest 63 = .ok (.iload 4, 2) := by decide +kernel
theorem dX2_digest_65 : decode cX2_digest 65 = .ok (.invokevirtual 86, 3) := by decide +kernel
theorem dX2_digest_68 : decode cX2_digest 68 = .ok (.i2l, 1) := by decide +kernel
theorem dX2_digest_69 : decode cX2_digest 69 = .ok (.ladd, 1) := by decide +kernel
theorem dX2_digest_70 : decode cX2_digest 70 = .ok (.lstore_n 1, 1) := by decide +kernel
theorem dX2_digest_71 : decode cX2_digest 71 = .ok (.iinc 4 1, 3) := by decide +kernel
theorem dX2_digest_74 : decode cX2_digest 74 = .ok (.goto (-25), 3) := by decide +kernel
theorem dX2_digest_77 : decode cX2_digest 77 = .ok (.iconst 0, 1) := by decide +kernel
theorem dX2_digest_78 : decode cX2_digest 78 = .ok (.istore 4, 2) := by decide +kernel
theorem dX2_digest_80 : decode cX2_digest 80 = .ok (.iload 4, 2) := by decide +kernel
theorem dX2_digest_82 : decode cX2_digest 82 = .ok (.aload_n 0, 1) := by decide +kernel
theorem dX2_digest_83 : decode cX2_digest 83 = .ok (.iload_n 3, 1) := by decide +kernel
theorem dX2_digest_84 : decode cX2_digest 84 = .ok (.iconst 1, 1) := by decide +kernel
theorem dX2_digest_85 : decode cX2_digest 85 = .ok (.invokevirtual 47, 3) := by decide +kernel
theorem dX2_digest_88 : decode cX2_digest 88 = .ok (.if_icmp .ge 24, 3) := by decide +kernel
theorem dX2_digest_91 : decode cX2_digest 91 = .ok (.lload_n 1, 1) := by decide +kernel
theorem dX2_digest_92 : decode cX2_digest 92 = .ok (.ldc2_w 142, 3) := by decide +kernel
theorem dX2_digest_95 : decode cX2_digest 95 = .ok (.lmul, 1) := by decide +kernel
theorem dX2_digest_96 : decode cX2_digest 96 = .ok (.aload_n 0, 1) := by decide +kernel
theorem dX2_digest_97 : decode cX2_digest 97 = .ok (.iload_n 3, 1) := by decide +kernel
theorem dX2_digest_98 : decode cX2_digest 98 = .ok (.iload 4, 2) := by decide +kernel
theorem dX2_digest_100 : decode cX2_digest 100 = .ok (.invokevirtual 89, 3) := by decide +kernel
theorem dX2_digest_103 : decode cX2_digest 103 = .ok (.i2l, 1) := by decide +kernel
theorem dX2_digest_104 : decode cX2_digest 104 = .ok (.ladd, 1) := by decide +kernel
theorem dX2_digest_105 : decode cX2_digest 105 = .ok (.lstore_n 1, 1) := by decide +kernel
theorem dX2_digest_106 : decode cX2_digest 106 = .ok (.iinc 4 1, 3) := by decide +kernel
theorem dX2_digest_109 : decode cX2_digest 109 = .ok (.goto (-29), 3) := by decide +kernel
theorem dX2_digest_112 : decode cX2_digest 112 = .ok (.iinc 3 1, 3) := by decide +kernel
theorem dX2_digest_115 : decode cX2_digest 115 = .ok (.goto (-77), 3) := by decide +kernel
theorem dX2_digest_118 : decode cX2_digest 118 = .ok (.iconst 0, 1) := by decide +kernel
theorem dX2_digest_119 : decode cX2_digest 119 = .ok (.istore_n 3, 1) := by decide +kernel
theorem dX2_digest_120 : decode cX2_digest 120 = .ok (.iload_n 3, 1) := by decide +kernel
theorem dX2_digest_121 : decode cX2_digest 121 = .ok (.aload_n 0, 1) := by decide +kernel
theorem dX2_digest_122 : decode cX2_digest 122 = .ok (.getfield 33, 3) := by decide +kernel
theorem dX2_digest_125 : decode cX2_digest 125 = .ok (.if_icmp .ge 40, 3) := by decide +kernel
theorem dX2_digest_128 : decode cX2_digest 128 = .ok (.iconst 0, 1) := by decide +kernel
theorem dX2_digest_129 : decode cX2_digest 129 = .ok (.istore 4, 2) := by decide +kernel
theorem dX2_digest_131 : decode cX2_digest 131 = .ok (.iload 4, 2) := by decide +kernel
theorem dX2_digest_133 : decode cX2_digest 133 = .ok (.bipush 6, 2) := by decide +kernel
theorem dX2_digest_135 : decode cX2_digest 135 = .ok (.if_icmp .ge 24, 3) := by decide +kernel
theorem dX2_digest_138 : decode cX2_digest 138 = .ok (.lload_n 1, 1) := by decide +kernel
theorem dX2_digest_139 : decode cX2_digest 139 = .ok (.ldc2_w 142, 3) := by decide +kernel
theorem dX2_digest_142 : decode cX2_digest 142 = .ok (.lmul, 1) := by decide +kernel
theorem dX2_digest_143 : decode cX2_digest 143 = .ok (.aload_n 0, 1) := by decide +kernel
theorem dX2_digest_144 : decode cX2_digest 144 = .ok (.iload_n 3, 1) := by decide +kernel
theorem dX2_digest_145 : decode cX2_digest 145 = .ok (.iload 4, 2) := by decide +kernel
theorem dX2_digest_147 : decode cX2_digest 147 = .ok (.invokevirtual 76, 3) := by decide +kernel
theorem dX2_digest_150 : decode cX2_digest 150 = .ok (.i2l, 1) := by decide +kernel
theorem dX2_digest_151 : decode cX2_digest 151 = .ok (.ladd, 1) := by decide +kernel
theorem dX2_digest_152 : decode cX2_digest 152 = .ok (.lstore_n 1, 1) := by decide +kernel
theorem dX2_digest_153 : decode cX2_digest 153 = .ok (.iinc 4 1, 3) := by decide +kernel
theorem dX2_digest_156 : decode cX2_digest 156 = .ok (.goto (-25), 3) := by decide +kernel
theorem dX2_digest_159 : decode cX2_digest 159 = .ok (.iinc 3 1, 3) := by decide +kernel
theorem dX2_digest_162 : decode cX2_digest 162 = .ok (.goto (-42), 3) := by decide +kernel
theorem dX2_digest_165 : decode cX2_digest 165 = .ok (.iconst 0, 1) := by decide +kernel
theorem dX2_digest_166 : decode cX2_digest 166 = .ok (.istore_n 3, 1) := by decide +kernel
theorem dX2_digest_167 : decode cX2_digest 167 = .ok (.iload_n 3, 1) := by decide +kernel
theorem dX2_digest_168 : decode cX2_digest 168 = .ok (.bipush 24, 2) := by decide +kernel
theorem dX2_digest_170 : decode cX2_digest 170 = .ok (.if_icmp .ge 22, 3) := by decide +kernel
theorem dX2_digest_173 : decode cX2_digest 173 = .ok (.lload_n 1, 1) := by decide +kernel
theorem dX2_digest_174 : decode cX2_digest 174 = .ok (.ldc2_w 142, 3) := by decide +kernel
theorem dX2_digest_177 : decode cX2_digest 177 = .ok (.lmul, 1) := by decide +kernel
theorem dX2_digest_178 : decode cX2_digest 178 = .ok (.aload_n 0, 1) := by decide +kernel
theorem dX2_digest_179 : decode cX2_digest 179 = .ok (.iload_n 3, 1) := by decide +kernel
theorem dX2_digest_180 : decode cX2_digest 180 = .ok (.invokevirtual 92, 3) := by decide +kernel
theorem dX2_digest_183 : decode cX2_digest 183 = .ok (.i2l, 1) := by decide +kernel
theorem dX2_digest_184 : decode cX2_digest 184 = .ok (.ladd, 1) := by decide +kernel
theorem dX2_digest_185 : decode cX2_digest 185 = .ok (.lstore_n 1, 1) := by decide +kernel
theorem dX2_digest_186 : decode cX2_digest 186 = .ok (.iinc 3 1, 3) := by decide +kernel
theorem dX2_digest_189 : decode cX2_digest 189 = .ok (.goto (-22), 3) := by decide +kernel
theorem dX2_digest_192 : decode cX2_digest 192 = .ok (.lload_n 1, 1) := by decide +kernel
theorem dX2_digest_193 : decode cX2_digest 193 = .ok (.lreturn, 1) := by decide +kernel
