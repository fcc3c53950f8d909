theorem dX2_init_0 : decode cX2_init 0 = .ok (.aload_n 0, 1) := by decide +kernel
theorem dX2_init_1 : decode cX2_init 1 = .ok (.invokespecial 1, 3) := by decide +kernel
theorem dX2_init_4 : decode cX2_init 4 = .ok (.aload_n 0, 1) := by decide +kernel
theorem dX2_init_5 : decode cX2_init 5 = .ok (.iconst (-1), 1) := by decide +kernel
theorem dX2_init_6 : decode cX2_init 6 = .ok (.putfield 7, 3) := by decide +kernel
theorem dX2_init_9 : decode cX2_init 9 = .ok (.aload_n 0, 1) := by decide +kernel
theorem dX2_init_10 : decode cX2_init 10 = .ok (.iconst (-1), 1) := by decide +kernel
theorem dX2_init_11 : decode cX2_init 11 = .ok (.putfield 13, 3) := by decide +kernel
theorem dX2_init_14 : decode cX2_init 14 = .ok (.return_, 1) := by decide +kernel
theorem dX3_init_0 : decode cX3_init 0 = .ok (.aload_n 0, 1) := by decide +kernel
theorem dX3_init_1 : decode cX3_init 1 = .ok (.invokespecial 1, 3) := by decide +kernel
theorem dX3_init_4 : decode cX3_init 4 = .ok (.aload_n 0, 1) := by decide +kernel
theorem dX3_init_5 : decode cX3_init 5 = .ok (.iconst 0, 1) := by decide +kernel
theorem dX3_init_6 : decode cX3_init 6 = .ok (.newarray .int, 2) := by decide +kernel
theorem dX3_init_8 : decode cX3_init 8 = .ok (.putfield 7, 3) := by decide +kernel
theorem dX3_init_11 : decode cX3_init 11 = .ok (.aload_n 0, 1) := by decide +kernel
theorem dX3_init_12 : decode cX3_init 12 = .ok (.iconst 0, 1) := by decide +kernel
theorem dX3_init_13 : decode cX3_init 13 = .ok (.anewarray 13, 3) := by decide +kernel
theorem dX3_init_16 : decode cX3_init 16 = .ok (.putfield 15, 3) := by decide +kernel
theorem dX3_init_19 : decode cX3_init 19 = .ok (.aload_n 0, 1) := by decide +kernel
theorem dX3_init_20 : decode cX3_init 20 = .ok (.iconst 0, 1) := by decide +kernel
theorem dX3_init_21 : decode cX3_init 21 = .ok (.newarray .int, 2) := by decide +kernel
theorem dX3_init_23 : decode cX3_init 23 = .ok (.putfield 19, 3) := by decide +kernel
theorem dX3_init_26 : decode cX3_init 26 = .ok (.aload_n 0, 1) := by decide +kernel
theorem dX3_init_27 : decode cX3_init 27 = .ok (.iconst 0, 1) := by decide +kernel
theorem dX3_init_28 : decode cX3_init 28 = .ok (.anewarray 22, 3) := by decide +kernel
theorem dX3_init_31 : decode cX3_init 31 = .ok (.putfield 24, 3) := by decide +kernel
theorem dX3_init_34 : decode cX3_init 34 = .ok (.aload_n 0, 1) := by decide +kernel
theorem dX3_init_35 : decode cX3_init 35 = .ok (.iconst (-1), 1) := by decide +kernel
theorem dX3_init_36 : decode cX3_init 36 = .ok (.putfield 28, 3) := by decide +kernel
theorem dX3_init_39 : decode cX3_init 39 = .ok (.return_, 1) := by decide +kernel
theorem dX3_more_0 : decode cX3_more 0 = .ok (.aload_n 0, 1) := by decide +kernel
theorem dX3_more_1 : decode cX3_more 1 = .ok (.arraylength, 1) := by decide +kernel
theorem dX3_more_2 : decode cX3_more 2 = .ok (.iconst 1, 1) := by decide +kernel
theorem dX3_more_3 : decode cX3_more 3 = .ok (.iadd, 1) := by decide +kernel
theorem dX3_more_4 : decode cX3_more 4 = .ok (.anewarray 33, 3) := by decide +kernel
theorem dX3_more_7 : decode cX3_more 7 = .ok (.astore_n 2, 1) := by decide +kernel
theorem dX3_more_8 : decode cX3_more 8 = .ok (.iconst 0, 1) := by decide +kernel
theorem dX3_more_9 : decode cX3_more 9 = .ok (.istore_n 3, 1) := by decide +kernel
theorem dX3_more_10 : decode cX3_more 10 = .ok (.iload_n 3, 1) := by decide +kernel
theorem dX3_more_11 : decode cX3_more 11 = .ok (.aload_n 0, 1) := by decide +kernel
theorem dX3_more_12 : decode cX3_more 12 = .ok (.arraylength, 1) := by decide +kernel
theorem dX3_more_13 : decode cX3_more 13 = .ok (.if_icmp .ge 15, 3) := by decide +kernel
theorem dX3_more_16 : decode cX3_more 16 = .ok (.aload_n 2, 1) := by decide +kernel
theorem dX3_more_17 : decode cX3_more 17 = .ok (.iload_n 3, 1) := by decide +kernel
theorem dX3_more_18 : decode cX3_more 18 = .ok (.aload_n 0, 1) := by decide +kernel
theorem dX3_more_19 : decode cX3_more 19 = .ok (.iload_n 3, 1) := by decide +kernel
theorem dX3_more_20 : decode cX3_more 20 = .ok (.aaload, 1) := by decide +kernel
theorem dX3_more_21 : decode cX3_more 21 = .ok (.aastore, 1) := by decide +kernel
theorem dX3_more_22 : decode cX3_more 22 = .ok (.iinc 3 1, 3) := by decide +kernel
theorem dX3_more_25 : decode cX3_more 25 = .ok (.goto (-15), 3) := by decide +kernel
theorem dX3_more_28 : decode cX3_more 28 = .ok (.aload_n 2, 1) := by decide +kernel
theorem dX3_more_29 : decode cX3_more 29 = .ok (.aload_n 0, 1) := by decide +kernel
theorem dX3_more_30 : decode cX3_more 30 = .ok (.arraylength, 1) := by decide +kernel
theorem dX3_more_31 : decode cX3_more 31 = .ok (.aload_n 1, 1) := by decide +kernel
theorem dX3_more_32 : decode cX3_more 32 = .ok (.aastore, 1) := by decide +kernel
theorem dX3_more_33 : decode cX3_more 33 = .ok (.aload_n 2, 1) := by decide +kernel
theorem dX3_more_34 : decode cX3_more 34 = .ok (.areturn, 1) := by decide +kernel
theorem dX3_build_0 : decode cX3_build 0 = .ok (.aload_n 0, 1) := by decide +kernel
theorem dX3_build_1 : decode cX3_build 1 = .ok (.getfield 7, 3) := by decide +kernel
theorem dX3_build_4 : decode cX3_build 4 = .ok (.arraylength, 1) := by decide +kernel
theorem dX3_build_5 : decode cX3_build 5 = .ok (.istore_n 2, 1) := by decide +kernel
theorem dX3_build_6 : decode cX3_build 6 = .ok (.iload_n 2, 1) := by decide +kernel
theorem dX3_build_7 : decode cX3_build 7 = .ok (.iconst 1, 1) := by decide +kernel
theorem dX3_build_8 : decode cX3_build 8 = .ok (.iadd, 1) := by decide +kernel
theorem dX3_build_9 : decode cX3_build 9 = .ok (.newarray .int, 2) := by decide +kernel
theorem dX3_build_11 : decode cX3_build 11 = .ok (.astore_n 3, 1) := by decide +kernel
theorem dX3_build_12 : decode cX3_build 12 = .ok (.iload_n 2, 1) := by decide +kernel
theorem dX3_build_13 : decode cX3_build 13 = .ok (.iconst 1, 1) := by decide +kernel
theorem dX3_build_14 : decode cX3_build 14 = .ok (.iadd, 1) := by decide +kernel
theorem dX3_build_15 : decode cX3_build 15 = .ok (.newarray .int, 2) := by decide +kernel
theorem dX3_build_17 : decode cX3_build 17 = .ok (.astore 4, 2) := by decide +kernel
theorem dX3_build_19 : decode cX3_build 19 = .ok (.iload_n 2, 1) := by decide +kernel
theorem dX3_build_20 : decode cX3_build 20 = .ok (.iconst 1, 1) := by decide +kernel
theorem dX3_build_21 : decode cX3_build 21 = .ok (.iadd, 1) := by decide +kernel
theorem dX3_build_22 : decode cX3_build 22 = .ok (.anewarray 13, 3) := by decide +kernel
theorem dX3_build_25 : decode cX3_build 25 = .ok (.astore 5, 2) := by decide +kernel
theorem dX3_build_27 : decode cX3_build 27 = .ok (.iconst 0, 1) := by decide +kernel
theorem dX3_build_28 : decode cX3_build 28 = .ok (.istore 6, 2) := by decide +kernel
theorem dX3_build_30 : decode cX3_build 30 = .ok (.iload 6, 2) := by decide +kernel
theorem dX3_build_32 : decode cX3_build 32 = .ok (.iload_n 2, 1) := by decide +kernel
theorem dX3_build_33 : decode cX3_build 33 = .ok (.if_icmp .ge 44, 3) := by decide +kernel
theorem dX3_build_36 : decode cX3_build 36 = .ok (.aload_n 3, 1) := by decide +kernel
theorem dX3_build_37 : decode cX3_build 37 = .ok (.iload 6, 2) := by decide +kernel
theorem dX3_build_39 : decode cX3_build 39 = .ok (.aload_n 0, 1) := by decide +kernel
theorem dX3_build_40 : decode cX3_build 40 = .ok (.getfield 7, 3) := by decide +kernel
theorem dX3_build_43 : decode cX3_build 43 = .ok (.iload 6, 2) := by decide +kernel
theorem dX3_build_45 : decode cX3_build 45 = .ok (.iaload, 1) := by decide +kernel
theorem dX3_build_46 : decode cX3_build 46 = .ok (.iastore, 1) := by decide +kernel
theorem dX3_build_47 : decode cX3_build 47 = .ok (.aload 4, 2) := by decide +kernel
theorem dX3_build_49 : decode cX3_build 49 = .ok (.iload 6, 2) := by decide +kernel
theorem dX3_build_51 : decode cX3_build 51 = .ok (.aload_n 0, 1) := by decide +kernel
theorem dX3_build_52 : decode cX3_build 52 = .ok (.getfield 19, 3) := by decide +kernel
theorem dX3_build_55 : decode cX3_build 55 = .ok (.iload 6, 2) := by decide +kernel
theorem dX3_build_57 : decode cX3_build 57 = .ok (.iaload, 1) := by decide +kernel
theorem dX3_build_58 : decode cX3_build 58 = .ok (.iastore, 1) := by decide +kernel
theorem dX3_build_59 : decode cX3_build 59 = .ok (.aload 5, 2) := by decide +kernel
theorem dX3_build_61 : decode cX3_build 61 = .ok (.iload 6, 2) := by decide +kernel
theorem dX3_build_63 : decode cX3_build 63 = .ok (.aload_n 0, 1) := by decide +kernel
theorem dX3_build_64 : decode cX3_build 64 = .ok (.getfield 15, 3) := by decide +kernel
theorem dX3_build_67 : decode cX3_build 67 = .ok (.iload 6, 2) := by decide +kernel
theorem dX3_build_69 : decode cX3_build 69 = .ok (.aaload, 1) := by decide +kernel
theorem dX3_build_70 : decode cX3_build 70 = .ok (.aastore, 1) := by decide +kernel
theorem dX3_build_71 : decode cX3_build 71 = .ok (.iinc 6 1, 3) := by decide +kernel
theorem dX3_build_74 : decode cX3_build 74 = .ok (.goto (-44), 3) := by decide +kernel
theorem dX3_build_77 : decode cX3_build 77 = .ok (.aload_n 3, 1) := by decide +kernel
theorem dX3_build_78 : decode cX3_build 78 = .ok (.iload_n 2, 1) := by decide +kernel
theorem dX3_build_79 : decode cX3_build 79 = .ok (.iload_n 1, 1) := by decide +kernel
theorem dX3_build_80 : decode cX3_build 80 = .ok (.iastore, 1) := by decide +kernel
theorem dX3_build_81 : decode cX3_build 81 = .ok (.aload 5, 2) := by decide +kernel
theorem dX3_build_83 : decode cX3_build 83 = .ok (.iload_n 2, 1) := by decide +kernel
theorem dX3_build_84 : decode cX3_build 84 = .ok (.iconst 0, 1) := by decide +kernel
theorem dX3_build_85 : decode cX3_build 85 = .ok (.anewarray 33, 3) := by decide +kernel
theorem dX3_build_88 : decode cX3_build 88 = .ok (.aastore, 1) := by decide +kernel
theorem dX3_build_89 : decode cX3_build 89 = .ok (.aload_n 0, 1) := by decide +kernel
theorem dX3_build_90 : decode cX3_build 90 = .ok (.aload_n 3, 1) := by decide +kernel
theorem dX3_build_91 : decode cX3_build 91 = .ok (.putfield 7, 3) := by decide +kernel
theorem dX3_build_94 : decode cX3_build 94 = .ok (.aload_n 0, 1) := by decide +kernel
theorem dX3_build_95 : decode cX3_build 95 = .ok (.aload 4, 2) := by decide +kernel
theorem dX3_build_97 : decode cX3_build 97 = .ok (.putfield 19, 3) := by decide +kernel
theorem dX3_build_100 : decode cX3_build 100 = .ok (.aload_n 0, 1) := by decide +kernel
theorem dX3_build_101 : decode cX3_build 101 = .ok (.aload 5, 2) := by decide +kernel
theorem dX3_build_103 : decode cX3_build 103 = .ok (.putfield 15, 3) := by decide +kernel
theorem dX3_build_106 : decode cX3_build 106 = .ok (.return_, 1) := by decide +kernel
theorem dX3_in_0 : decode cX3_in 0 = .ok (.aload_n 0, 1) := by decide +kernel
theorem dX3_in_1 : decode cX3_in 1 = .ok (.getfield 24, 3) := by decide +kernel
theorem dX3_in_4 : decode cX3_in 4 = .ok (.astore_n 3, 1) := by decide +kernel
theorem dX3_in_5 : decode cX3_in 5 = .ok (.aload_n 3, 1) := by decide +kernel
theorem dX3_in_6 : decode cX3_in 6 = .ok (.arraylength, 1) := by decide +kernel
theorem dX3_in_7 : decode cX3_in 7 = .ok (.istore 4, 2) := by decide +kernel
theorem dX3_in_9 : decode cX3_in 9 = .ok (.iconst 0, 1) := by decide +kernel
theorem dX3_in_10 : decode cX3_in 10 = .ok (.istore 5, 2) := by decide +kernel
theorem dX3_in_12 : decode cX3_in 12 = .ok (.iload 5, 2) := by decide +kernel
theorem dX3_in_14 : decode cX3_in 14 = .ok (.iload 4, 2) := by decide +kernel
theorem dX3_in_16 : decode cX3_in 16 = .ok (.if_icmp .ge 44, 3) := by decide +kernel
theorem dX3_in_19 : decode cX3_in 19 = .ok (.aload_n 3, 1) := by decide +kernel
theorem dX3_in_20 : decode cX3_in 20 = .ok (.iload 5, 2) := by decide +kernel
theorem dX3_in_22 : decode cX3_in 22 = .ok (.aaload, 1) := by decide +kernel
theorem dX3_in_23 : decode cX3_in 23 = .ok (.astore 6, 2) := by decide +kernel
theorem dX3_in_25 : decode cX3_in 25 = .ok (.aload 6, 2) := by decide +kernel
theorem dX3_in_27 : decode cX3_in 27 = .ok (.getfield 51, 3) := by decide +kernel
theorem dX3_in_30 : decode cX3_in 30 = .ok (.ifCond .ge 24, 3) := by decide +kernel
theorem dX3_in_33 : decode cX3_in 33 = .ok (.aload 6, 2) := by decide +kernel
theorem dX3_in_35 : decode cX3_in 35 = .ok (.getfield 54, 3) := by decide +kernel
theorem dX3_in_38 : decode cX3_in 38 = .ok (.iload_n 1, 1) := by decide +kernel
theorem dX3_in_39 : decode cX3_in 39 = .ok (.if_icmp .ne 15, 3) := by decide +kernel
theorem dX3_in_42 : decode cX3_in 42 = .ok (.aload 6, 2) := by decide +kernel
theorem dX3_in_44 : decode cX3_in 44 = .ok (.getfield 57, 3) := by decide +kernel
theorem dX3_in_47 : decode cX3_in 47 = .ok (.iload_n 2, 1) := by decide +kernel
theorem dX3_in_48 : decode cX3_in 48 = .ok (.if_icmp .ne 6, 3) := by decide +kernel
theorem dX3_in_51 : decode cX3_in 51 = .ok (.aload 6, 2) := by decide +kernel
theorem dX3_in_53 : decode cX3_in 53 = .ok (.areturn, 1) := by decide +kernel
theorem dX3_in_54 : decode cX3_in 54 = .ok (.iinc 5 1, 3) := by decide +kernel
theorem dX3_in_57 : decode cX3_in 57 = .ok (.goto (-45), 3) := by decide +kernel
theorem dX3_in_60 : decode cX3_in 60 = .ok (.aconst_null, 1) := by decide +kernel
theorem dX3_in_61 : decode cX3_in 61 = .ok (.areturn, 1) := by decide +kernel
set_option maxRecDepth 20000 in
theorem ggX3_free_X3_in : GoodIn wsX3_free wsX3_in := goodIn_r _ [5, 6, 7, 8, 9, 10, 11, 12, 13, 14, 15, 16, 17, 18, 19, 20, 21, 22, 23, 24] (by decide +kernel) (by decide +kernel)
set_option maxRecDepth 20000 in
theorem gX3_free_X3_in : GoodIn wsX3_free (wsV RX3 60 RX3 yX3_in wsX3_in) := goodIn_app (goodIn_of _ (by decide +kernel)) ggX3_free_X3_in
theorem dX3_free_0 : decode cX3_free 0 = .ok (.iconst 0, 1) := by decide +kernel
theorem dX3_free_1 : decode cX3_free 1 = .ok (.istore_n 2, 1) := by decide +kernel
theorem dX3_free_2 : decode cX3_free 2 = .ok (.iload_n 2, 1) := by decide +kernel
theorem dX3_free_3 : decode cX3_free 3 = .ok (.iconst 3, 1) := by decide +kernel
theorem dX3_free_4 : decode cX3_free 4 = .ok (.if_icmp .ge 20, 3) := by decide +kernel
theorem dX3_free_7 : decode cX3_free 7 = .ok (.aload_n 0, 1) := by decide +kernel
theorem dX3_free_8 : decode cX3_free 8 = .ok (.iload_n 1, 1) := by decide +kernel
theorem dX3_free_9 : decode cX3_free 9 = .ok (.iload_n 2, 1) := by decide +kernel
theorem dX3_free_10 : decode cX3_free 10 = .ok (.invokevirtual 60, 3) := by decide +kernel
theorem dX3_free_13 : decode cX3_free 13 = .ok (.ifnonnull 5, 3) := by decide +kernel
theorem dX3_free_16 : decode cX3_free 16 = .ok (.iload_n 2, 1) := by decide +kernel
theorem dX3_free_17 : decode cX3_free 17 = .ok (.ireturn, 1) := by decide +kernel
theorem dX3_free_18 : decode cX3_free 18 = .ok (.iinc 2 1, 3) := by decide +kernel
theorem dX3_free_21 : decode cX3_free 21 = .ok (.goto (-19), 3) := by decide +kernel
theorem dX3_free_24 : decode cX3_free 24 = .ok (.iconst (-1), 1) := by decide +kernel
theorem dX3_free_25 : decode cX3_free 25 = .ok (.ireturn, 1) := by decide +kernel
theorem dX3_slot_0 : decode cX3_slot 0 = .ok (.aload_n 0, 1) := by decide +kernel
theorem dX3_slot_1 : decode cX3_slot 1 = .ok (.getfield 24, 3) := by decide +kernel
theorem dX3_slot_4 : decode cX3_slot 4 = .ok (.astore_n 2, 1) := by decide +kernel
theorem dX3_slot_5 : decode cX3_slot 5 = .ok (.aload_n 2, 1) := by decide +kernel
theorem dX3_slot_6 : decode cX3_slot 6 = .ok (.arraylength, 1) := by decide +kernel
theorem dX3_slot_7 : decode cX3_slot 7 = .ok (.istore_n 3, 1) := by decide +kernel
theorem dX3_slot_8 : decode cX3_slot 8 = .ok (.iconst 0, 1) := by decide +kernel
theorem dX3_slot_9 : decode cX3_slot 9 = .ok (.istore 4, 2) := by decide +kernel
theorem dX3_slot_11 : decode cX3_slot 11 = .ok (.iload 4, 2) := by decide +kernel
theorem dX3_slot_13 : decode cX3_slot 13 = .ok (.iload_n 3, 1) := by decide +kernel
theorem dX3_slot_14 : decode cX3_slot 14 = .ok (.if_icmp .ge 27, 3) := by decide +kernel
theorem dX3_slot_17 : decode cX3_slot 17 = .ok (.aload_n 2, 1) := by decide +kernel
theorem dX3_slot_18 : decode cX3_slot 18 = .ok (.iload 4, 2) := by decide +kernel
theorem dX3_slot_20 : decode cX3_slot 20 = .ok (.aaload, 1) := by decide +kernel
theorem dX3_slot_21 : decode cX3_slot 21 = .ok (.astore 5, 2) := by decide +kernel
theorem dX3_slot_23 : decode cX3_slot 23 = .ok (.aload 5, 2) := by decide +kernel
theorem dX3_slot_25 : decode cX3_slot 25 = .ok (.getfield 51, 3) := by decide +kernel
theorem dX3_slot_28 : decode cX3_slot 28 = .ok (.iload_n 1, 1) := by decide +kernel
theorem dX3_slot_29 : decode cX3_slot 29 = .ok (.if_icmp .ne 6, 3) := by decide +kernel
theorem dX3_slot_32 : decode cX3_slot 32 = .ok (.aload 5, 2) := by decide +kernel
theorem dX3_slot_34 : decode cX3_slot 34 = .ok (.areturn, 1) := by decide +kernel
theorem dX3_slot_35 : decode cX3_slot 35 = .ok (.iinc 4 1, 3) := by decide +kernel
theorem dX3_slot_38 : decode cX3_slot 38 = .ok (.goto (-27), 3) := by decide +kernel
theorem dX3_slot_41 : decode cX3_slot 41 = .ok (.aconst_null, 1) := by decide +kernel
theorem dX3_slot_42 : decode cX3_slot 42 = .ok (.areturn, 1) := by decide +kernel
set_option maxRecDepth 20000 in
theorem ggX3_idle_X3_in : GoodIn wsX3_idle wsX3_in := goodIn_r _ [6, 7, 8, 9, 10, 18, 19, 20, 21, 22, 23, 24, 25, 11, 12, 13, 14, 15, 16, 17] (by decide +kernel) (by decide +kernel)
set_option maxRecDepth 20000 in
theorem gX3_idle_X3_in : GoodIn wsX3_idle (wsV RX3 60 RX3 yX3_in wsX3_in) := goodIn_app (goodIn_of _ (by decide +kernel)) ggX3_idle_X3_in
theorem dX3_idle_0 : decode cX3_idle 0 = .ok (.iconst 0, 1) := by decide +kernel
theorem dX3_idle_1 : decode cX3_idle 1 = .ok (.istore_n 2, 1) := by decide +kernel
theorem dX3_idle_2 : decode cX3_idle 2 = .ok (.iload_n 2, 1) := by decide +kernel
theorem dX3_idle_3 : decode cX3_idle 3 = .ok (.iconst 3, 1) := by decide +kernel
theorem dX3_idle_4 : decode cX3_idle 4 = .ok (.if_icmp .ge 29, 3) := by decide +kernel
theorem dX3_idle_7 : decode cX3_idle 7 = .ok (.aload_n 0, 1) := by decide +kernel
theorem dX3_idle_8 : decode cX3_idle 8 = .ok (.iload_n 1, 1) := by decide +kernel
theorem dX3_idle_9 : decode cX3_idle 9 = .ok (.iload_n 2, 1) := by decide +kernel
theorem dX3_idle_10 : decode cX3_idle 10 = .ok (.invokevirtual 60, 3) := by decide +kernel
theorem dX3_idle_13 : decode cX3_idle 13 = .ok (.astore_n 3, 1) := by decide +kernel
theorem dX3_idle_14 : decode cX3_idle 14 = .ok (.aload_n 3, 1) := by decide +kernel
theorem dX3_idle_15 : decode cX3_idle 15 = .ok (.ifnull 12, 3) := by decide +kernel
theorem dX3_idle_18 : decode cX3_idle 18 = .ok (.aload_n 3, 1) := by decide +kernel
theorem dX3_idle_19 : decode cX3_idle 19 = .ok (.getfield 64, 3) := by decide +kernel
theorem dX3_idle_22 : decode cX3_idle 22 = .ok (.ifCond .ge 5, 3) := by decide +kernel
theorem dX3_idle_25 : decode cX3_idle 25 = .ok (.aload_n 3, 1) := by decide +kernel
theorem dX3_idle_26 : decode cX3_idle 26 = .ok (.areturn, 1) := by decide +kernel
theorem dX3_idle_27 : decode cX3_idle 27 = .ok (.iinc 2 1, 3) := by decide +kernel
theorem dX3_idle_30 : decode cX3_idle 30 = .ok (.goto (-28), 3) := by decide +kernel
theorem dX3_idle_33 : decode cX3_idle 33 = .ok (.aconst_null, 1) := by decide +kernel
theorem dX3_idle_34 : decode cX3_idle 34 = .ok (.areturn, 1) := by decide +kernel
theorem dX3_coming_0 : decode cX3_coming 0 = .ok (.iconst 0, 1) := by decide +kernel
theorem dX3_coming_1 : decode cX3_coming 1 = .ok (.istore_n 2, 1) := by decide +kernel
theorem dX3_coming_2 : decode cX3_coming 2 = .ok (.aload_n 0, 1) := by decide +kernel
theorem dX3_coming_3 : decode cX3_coming 3 = .ok (.getfield 24, 3) := by decide +kernel
theorem dX3_coming_6 : decode cX3_coming 6 = .ok (.astore_n 3, 1) := by decide +kernel
theorem dX3_coming_7 : decode cX3_coming 7 = .ok (.aload_n 3, 1) := by decide +kernel
theorem dX3_coming_8 : decode cX3_coming 8 = .ok (.arraylength, 1) := by decide +kernel
theorem dX3_coming_9 : decode cX3_coming 9 = .ok (.istore 4, 2) := by decide +kernel
theorem dX3_coming_11 : decode cX3_coming 11 = .ok (.iconst 0, 1) := by decide +kernel
theorem dX3_coming_12 : decode cX3_coming 12 = .ok (.istore 5, 2) := by decide +kernel
theorem dX3_coming_14 : decode cX3_coming 14 = .ok (.iload 5, 2) := by decide +kernel
theorem dX3_coming_16 : decode cX3_coming 16 = .ok (.iload 4, 2) := by decide +kernel
theorem dX3_coming_18 : decode cX3_coming 18 = .ok (.if_icmp .ge 40, 3) := by decide +kernel
theorem dX3_coming_21 : decode cX3_coming 21 = .ok (.aload_n 3, 1) := by decide +kernel
theorem dX3_coming_22 : decode cX3_coming 22 = .ok (.iload 5, 2) := by decide +kernel
theorem dX3_coming_24 : decode cX3_coming 24 = .ok (.aaload, 1) := by decide +kernel
theorem dX3_coming_25 : decode cX3_coming 25 = .ok (.astore 6, 2) := by decide +kernel
theorem dX3_coming_27 : decode cX3_coming 27 = .ok (.iload_n 2, 1) := by decide +kernel
theorem dX3_coming_28 : decode cX3_coming 28 = .ok (.aload 6, 2) := by decide +kernel
theorem dX3_coming_30 : decode cX3_coming 30 = .ok (.getfield 64, 3) := by decide +kernel
theorem dX3_coming_33 : decode cX3_coming 33 = .ok (.iload_n 1, 1) := by decide +kernel
theorem dX3_coming_34 : decode cX3_coming 34 = .ok (.if_icmp .ne 15, 3) := by decide +kernel
theorem dX3_coming_37 : decode cX3_coming 37 = .ok (.aload 6, 2) := by decide +kernel
theorem dX3_coming_39 : decode cX3_coming 39 = .ok (.getfield 67, 3) := by decide +kernel
theorem dX3_coming_42 : decode cX3_coming 42 = .ok (.ifCond .ne 7, 3) := by decide +kernel
theorem dX3_coming_45 : decode cX3_coming 45 = .ok (.iconst 1, 1) := by decide +kernel
theorem dX3_coming_46 : decode cX3_coming 46 = .ok (.goto 4, 3) := by decide +kernel
theorem dX3_coming_49 : decode cX3_coming 49 = .ok (.iconst 0, 1) := by decide +kernel
theorem dX3_coming_50 : decode cX3_coming 50 = .ok (.iadd, 1) := by decide +kernel
theorem dX3_coming_51 : decode cX3_coming 51 = .ok (.istore_n 2, 1) := by decide +kernel
theorem dX3_coming_52 : decode cX3_coming 52 = .ok (.iinc 5 1, 3) := by decide +kernel
theorem dX3_coming_55 : decode cX3_coming 55 = .ok (.goto (-41), 3) := by decide +kernel
theorem dX3_coming_58 : decode cX3_coming 58 = .ok (.iload_n 2, 1) := by decide +kernel
theorem dX3_coming_59 : decode cX3_coming 59 = .ok (.ireturn, 1) := by decide +kernel
set_option maxRecDepth 20000 in
theorem ggX3_answer_X3_idle : GoodIn wsX3_answer wsX3_idle := goodIn_r _ [7, 8, 9, 10, 11, 6, 12, 13, 14, 15, 16, 25, 26, 27, 28, 29, 30, 31, 17, 18, 19, 20, 21, 22, 23, 24] (by decide +kernel) (by decide +kernel)
set_option maxRecDepth 20000 in
theorem gX3_answer_X3_idle : GoodIn wsX3_answer (wsV RX3 70 RX3 yX3_idle wsX3_idle) := goodIn_app (goodIn_of _ (by decide +kernel)) ggX3_answer_X3_idle
theorem dX3_answer_0 : decode cX3_answer 0 = .ok (.iconst 1, 1) := by decide +kernel
theorem dX3_answer_1 : decode cX3_answer 1 = .ok (.istore_n 2, 1) := by decide +kernel
theorem dX3_answer_2 : decode cX3_answer 2 = .ok (.iload_n 2, 1) := by decide +kernel
theorem dX3_answer_3 : decode cX3_answer 3 = .ok (.bipush 24, 2) := by decide +kernel
theorem dX3_answer_5 : decode cX3_answer 5 = .ok (.if_icmp .ge 66, 3) := by decide +kernel
theorem dX3_answer_8 : decode cX3_answer 8 = .ok (.iconst 0, 1) := by decide +kernel
theorem dX3_answer_9 : decode cX3_answer 9 = .ok (.istore_n 3, 1) := by decide +kernel
theorem dX3_answer_10 : decode cX3_answer 10 = .ok (.iload_n 3, 1) := by decide +kernel
theorem dX3_answer_11 : decode cX3_answer 11 = .ok (.aload_n 0, 1) := by decide +kernel
theorem dX3_answer_12 : decode cX3_answer 12 = .ok (.getfield 7, 3) := by decide +kernel
theorem dX3_answer_15 : decode cX3_answer 15 = .ok (.arraylength, 1) := by decide +kernel
theorem dX3_answer_16 : decode cX3_answer 16 = .ok (.if_icmp .ge 49, 3) := by decide +kernel
theorem dX3_answer_19 : decode cX3_answer 19 = .ok (.aload_n 0, 1) := by decide +kernel
theorem dX3_answer_20 : decode cX3_answer 20 = .ok (.getfield 7, 3) := by decide +kernel
theorem dX3_answer_23 : decode cX3_answer 23 = .ok (.iload_n 3, 1) := by decide +kernel
theorem dX3_answer_24 : decode cX3_answer 24 = .ok (.iaload, 1) := by decide +kernel
theorem dX3_answer_25 : decode cX3_answer 25 = .ok (.iload_n 2, 1) := by decide +kernel
theorem dX3_answer_26 : decode cX3_answer 26 = .ok (.iadd, 1) := by decide +kernel
theorem dX3_answer_27 : decode cX3_answer 27 = .ok (.bipush 24, 2) := by decide +kernel
theorem dX3_answer_29 : decode cX3_answer 29 = .ok (.irem, 1) := by decide +kernel
theorem dX3_answer_30 : decode cX3_answer 30 = .ok (.aload_n 0, 1) := by decide +kernel
theorem dX3_answer_31 : decode cX3_answer 31 = .ok (.getfield 7, 3) := by decide +kernel
theorem dX3_answer_34 : decode cX3_answer 34 = .ok (.iload_n 1, 1) := by decide +kernel
theorem dX3_answer_35 : decode cX3_answer 35 = .ok (.iaload, 1) := by decide +kernel
theorem dX3_answer_36 : decode cX3_answer 36 = .ok (.if_icmp .ne 23, 3) := by decide +kernel
theorem dX3_answer_39 : decode cX3_answer 39 = .ok (.aload_n 0, 1) := by decide +kernel
theorem dX3_answer_40 : decode cX3_answer 40 = .ok (.getfield 15, 3) := by decide +kernel
theorem dX3_answer_43 : decode cX3_answer 43 = .ok (.iload_n 3, 1) := by decide +kernel
theorem dX3_answer_44 : decode cX3_answer 44 = .ok (.aaload, 1) := by decide +kernel
theorem dX3_answer_45 : decode cX3_answer 45 = .ok (.arraylength, 1) := by decide +kernel
theorem dX3_answer_46 : decode cX3_answer 46 = .ok (.ifCond .ne 13, 3) := by decide +kernel
theorem dX3_answer_49 : decode cX3_answer 49 = .ok (.aload_n 0, 1) := by decide +kernel
theorem dX3_answer_50 : decode cX3_answer 50 = .ok (.iload_n 3, 1) := by decide +kernel
theorem dX3_answer_51 : decode cX3_answer 51 = .ok (.invokevirtual 70, 3) := by decide +kernel
theorem dX3_answer_54 : decode cX3_answer 54 = .ok (.ifnull 5, 3) := by decide +kernel
theorem dX3_answer_57 : decode cX3_answer 57 = .ok (.iload_n 3, 1) := by decide +kernel
theorem dX3_answer_58 : decode cX3_answer 58 = .ok (.ireturn, 1) := by decide +kernel
theorem dX3_answer_59 : decode cX3_answer 59 = .ok (.iinc 3 1, 3) := by decide +kernel
theorem dX3_answer_62 : decode cX3_answer 62 = .ok (.goto (-52), 3) := by decide +kernel
theorem dX3_answer_65 : decode cX3_answer 65 = .ok (.iinc 2 1, 3) := by decide +kernel
theorem dX3_answer_68 : decode cX3_answer 68 = .ok (.goto (-66), 3) := by decide +kernel
theorem dX3_answer_71 : decode cX3_answer 71 = .ok (.iconst (-1), 1) := by decide +kernel
theorem dX3_answer_72 : decode cX3_answer 72 = .ok (.ireturn, 1) := by decide +kernel
set_option maxRecDepth 20000 in
theorem ggX3_pass_X3_slot : GoodIn wsX3_pass wsX3_slot := goodIn_r _ [21, 2, 3, 42, 43, 44, 45, 46, 47, 48, 49, 50, 51, 52, 53, 54, 55, 56] (by decide +kernel) (by decide +kernel)
set_option maxRecDepth 20000 in
theorem gX3_pass_X3_slot : GoodIn wsX3_pass (wsV RX3 74 RX3 yX3_slot wsX3_slot) := goodIn_app (goodIn_of _ (by decide +kernel)) ggX3_pass_X3_slot
set_option maxRecDepth 20000 in
theorem ggX3_pass_X3_free : GoodIn wsX3_pass wsX3_free := goodIn_r _ [25, 26, 27, 28, 20, 29, 2, 3, 10, 11, 42, 43, 44, 45, 46, 47, 48, 49, 50, 51, 52, 53, 54, 55, 56] (by decide +kernel) (by decide +kernel)
set_option maxRecDepth 20000 in
theorem gX3_pass_X3_free : GoodIn wsX3_pass (wsV RX3 76 RX3 yX3_free wsX3_free) := goodIn_app (goodIn_of _ (by decide +kernel)) ggX3_pass_X3_free
set_option maxRecDepth 20000 in
theorem ggX3_pass_X3_idle : GoodIn wsX3_pass wsX3_idle := goodIn_r _ [33, 4, 26, 27, 28, 20, 29, 2, 3, 10, 11, 50, 51, 52, 53, 54, 55, 56, 42, 43, 44, 45, 46, 47, 48, 49] (by decide +kernel) (by decide +kernel)
set_option maxRecDepth 20000 in
theorem gX3_pass_X3_idle : GoodIn wsX3_pass (wsV RX3 70 RX3 yX3_idle wsX3_idle) := goodIn_app (goodIn_of _ (by decide +kernel)) ggX3_pass_X3_idle
set_option maxRecDepth 20000 in
theorem ggX3_pass_X3_coming : GoodIn wsX3_pass wsX3_coming := goodIn_r _ [37, 2, 4, 6, 42, 43, 44, 45, 46, 47, 48, 49, 50, 51, 52, 53, 54, 55, 56] (by decide +kernel) (by decide +kernel)
set_option maxRecDepth 20000 in
theorem gX3_pass_X3_coming : GoodIn wsX3_pass (wsV RX3 86 RX3 yX3_coming wsX3_coming) := goodIn_app (goodIn_of _ (by decide +kernel)) ggX3_pass_X3_coming
set_option maxRecDepth 20000 in
theorem ggX3_pass_X3_answer : GoodIn wsX3_pass wsX3_answer := goodIn_r _ [41, 1, 13, 30, 31, 32, 20, 33, 4, 26, 27, 28, 29, 2, 3, 10, 11, 42, 43, 44, 45, 46, 47, 48, 49, 50, 51, 52, 53, 54, 55, 56] (by decide +kernel) (by decide +kernel)
set_option maxRecDepth 20000 in
theorem gX3_pass_X3_answer : GoodIn wsX3_pass (wsV RX3 89 RX3 yX3_answer wsX3_answer) := goodIn_app (goodIn_of _ (by decide +kernel)) ggX3_pass_X3_answer
set_option maxRecDepth 20000 in
theorem ggX3_pass_X3_in : GoodIn wsX3_pass wsX3_in := goodIn_r _ [29, 2, 3, 10, 11, 42, 43, 44, 45, 46, 47, 48, 49, 50, 51, 52, 53, 54, 55, 56] (by decide +kernel) (by decide +kernel)
set_option maxRecDepth 20000 in
theorem gX3_pass_X3_in : GoodIn wsX3_pass (wsV RX3 60 RX3 yX3_in wsX3_in) := goodIn_app (goodIn_of _ (by decide +kernel)) ggX3_pass_X3_in
theorem dX3_pass_0 : decode cX3_pass 0 = .ok (.iconst 0, 1) := by decide +kernel
theorem dX3_pass_1 : decode cX3_pass 1 = .ok (.istore_n 1, 1) := by decide +kernel
theorem dX3_pass_2 : decode cX3_pass 2 = .ok (.aload_n 0, 1) := by decide +kernel
theorem dX3_pass_3 : decode cX3_pass 3 = .ok (.getfield 7, 3) := by decide +kernel
theorem dX3_pass_6 : decode cX3_pass 6 = .ok (.arraylength, 1) := by decide +kernel
theorem dX3_pass_7 : decode cX3_pass 7 = .ok (.istore_n 2, 1) := by decide +kernel
theorem dX3_pass_8 : decode cX3_pass 8 = .ok (.aload_n 0, 1) := by decide +kernel
theorem dX3_pass_9 : decode cX3_pass 9 = .ok (.getfield 24, 3) := by decide +kernel
theorem dX3_pass_12 : decode cX3_pass 12 = .ok (.astore_n 3, 1) := by decide +kernel
theorem dX3_pass_13 : decode cX3_pass 13 = .ok (.aload_n 3, 1) := by decide +kernel
theorem dX3_pass_14 : decode cX3_pass 14 = .ok (.arraylength, 1) := by decide +kernel
theorem dX3_pass_15 : decode cX3_pass 15 = .ok (.istore 4, 2) := by decide +kernel
theorem dX3_pass_17 : decode cX3_pass 17 = .ok (.iconst 0, 1) := by decide +kernel
theorem dX3_pass_18 : decode cX3_pass 18 = .ok (.istore 5, 2) := by decide +kernel
theorem dX3_pass_20 : decode cX3_pass 20 = .ok (.iload 5, 2) := by decide +kernel
theorem dX3_pass_22 : decode cX3_pass 22 = .ok (.iload 4, 2) := by decide +kernel
theorem dX3_pass_24 : decode cX3_pass 24 = .ok (.if_icmp .ge 49, 3) := by decide +kernel
theorem dX3_pass_27 : decode cX3_pass 27 = .ok (.aload_n 3, 1) := by decide +kernel
theorem dX3_pass_28 : decode cX3_pass 28 = .ok (.iload 5, 2) := by decide +kernel
theorem dX3_pass_30 : decode cX3_pass 30 = .ok (.aaload, 1) := by decide +kernel
theorem dX3_pass_31 : decode cX3_pass 31 = .ok (.astore 6, 2) := by decide +kernel
theorem dX3_pass_33 : decode cX3_pass 33 = .ok (.aload 6, 2) := by decide +kernel
theorem dX3_pass_35 : decode cX3_pass 35 = .ok (.getfield 51, 3) := by decide +kernel
theorem dX3_pass_38 : decode cX3_pass 38 = .ok (.ifCond .lt 29, 3) := by decide +kernel
theorem dX3_pass_41 : decode cX3_pass 41 = .ok (.aload 6, 2) := by decide +kernel
theorem dX3_pass_43 : decode cX3_pass 43 = .ok (.aload 6, 2) := by decide +kernel
theorem dX3_pass_45 : decode cX3_pass 45 = .ok (.getfield 51, 3) := by decide +kernel
theorem dX3_pass_48 : decode cX3_pass 48 = .ok (.bipush 23, 2) := by decide +kernel
theorem dX3_pass_50 : decode cX3_pass 50 = .ok (.if_icmp .ne 7, 3) := by decide +kernel
theorem dX3_pass_53 : decode cX3_pass 53 = .ok (.iconst 0, 1) := by decide +kernel
theorem dX3_pass_54 : decode cX3_pass 54 = .ok (.goto 10, 3) := by decide +kernel
theorem dX3_pass_57 : decode cX3_pass 57 = .ok (.aload 6, 2) := by decide +kernel
theorem dX3_pass_59 : decode cX3_pass 59 = .ok (.getfield 51, 3) := by decide +kernel
theorem dX3_pass_62 : decode cX3_pass 62 = .ok (.iconst 1, 1) := by decide +kernel
theorem dX3_pass_63 : decode cX3_pass 63 = .ok (.iadd, 1) := by decide +kernel
theorem dX3_pass_64 : decode cX3_pass 64 = .ok (.putfield 51, 3) := by decide +kernel
theorem dX3_pass_67 : decode cX3_pass 67 = .ok (.iinc 5 1, 3) := by decide +kernel
theorem dX3_pass_70 : decode cX3_pass 70 = .ok (.goto (-50), 3) := by decide +kernel
theorem dX3_pass_73 : decode cX3_pass 73 = .ok (.iconst 0, 1) := by decide +kernel
theorem dX3_pass_74 : decode cX3_pass 74 = .ok (.istore_n 3, 1) := by decide +kernel
theorem dX3_pass_75 : decode cX3_pass 75 = .ok (.iload_n 3, 1) := by decide +kernel
theorem dX3_pass_76 : decode cX3_pass 76 = .ok (.iload_n 2, 1) := by decide +kernel
theorem dX3_pass_77 : decode cX3_pass 77 = .ok (.if_icmp .ge 146, 3) := by decide +kernel
theorem dX3_pass_80 : decode cX3_pass 80 = .ok (.aload_n 0, 1) := by decide +kernel
theorem dX3_pass_81 : decode cX3_pass 81 = .ok (.aload_n 0, 1) := by decide +kernel
theorem dX3_pass_82 : decode cX3_pass 82 = .ok (.getfield 7, 3) := by decide +kernel
theorem dX3_pass_85 : decode cX3_pass 85 = .ok (.iload_n 3, 1) := by decide +kernel
theorem dX3_pass_86 : decode cX3_pass 86 = .ok (.iaload, 1) := by decide +kernel
theorem dX3_pass_87 : decode cX3_pass 87 = .ok (.invokevirtual 74, 3) := by decide +kernel
theorem dX3_pass_90 : decode cX3_pass 90 = .ok (.astore 4, 2) := by decide +kernel
theorem dX3_pass_92 : decode cX3_pass 92 = .ok (.aload 4, 2) := by decide +kernel
theorem dX3_pass_94 : decode cX3_pass 94 = .ok (.ifnull 123, 3) := by decide +kernel
theorem dX3_pass_97 : decode cX3_pass 97 = .ok (.aload 4, 2) := by decide +kernel
theorem dX3_pass_99 : decode cX3_pass 99 = .ok (.getfield 64, 3) := by decide +kernel
theorem dX3_pass_102 : decode cX3_pass 102 = .ok (.iload_n 3, 1) := by decide +kernel
theorem dX3_pass_103 : decode cX3_pass 103 = .ok (.if_icmp .eq 6, 3) := by decide +kernel
theorem dX3_pass_106 : decode cX3_pass 106 = .ok (.goto 111, 3) := by decide +kernel
theorem dX3_pass_109 : decode cX3_pass 109 = .ok (.aload_n 0, 1) := by decide +kernel
theorem dX3_pass_110 : decode cX3_pass 110 = .ok (.iload_n 3, 1) := by decide +kernel
theorem dX3_pass_111 : decode cX3_pass 111 = .ok (.invokevirtual 76, 3) := by decide +kernel
theorem dX3_pass_114 : decode cX3_pass 114 = .ok (.istore 5, 2) := by decide +kernel
theorem dX3_pass_116 : decode cX3_pass 116 = .ok (.iload 5, 2) := by decide +kernel
theorem dX3_pass_118 : decode cX3_pass 118 = .ok (.ifCond .ge 17, 3) := by decide +kernel
theorem dX3_pass_121 : decode cX3_pass 121 = .ok (.aload 4, 2) := by decide +kernel
theorem dX3_pass_123 : decode cX3_pass 123 = .ok (.dup, 1) := by decide +kernel
theorem dX3_pass_124 : decode cX3_pass 124 = .ok (.getfield 80, 3) := by decide +kernel
theorem dX3_pass_127 : decode cX3_pass 127 = .ok (.iconst 1, 1) := by decide +kernel
theorem dX3_pass_128 : decode cX3_pass 128 = .ok (.iadd, 1) := by decide +kernel
theorem dX3_pass_129 : decode cX3_pass 129 = .ok (.putfield 80, 3) := by decide +kernel
theorem dX3_pass_132 : decode cX3_pass 132 = .ok (.goto 85, 3) := by decide +kernel
theorem dX3_pass_135 : decode cX3_pass 135 = .ok (.aload 4, 2) := by decide +kernel
theorem dX3_pass_137 : decode cX3_pass 137 = .ok (.getfield 67, 3) := by decide +kernel
theorem dX3_pass_140 : decode cX3_pass 140 = .ok (.ifCond .le 16, 3) := by decide +kernel
theorem dX3_pass_143 : decode cX3_pass 143 = .ok (.aload_n 0, 1) := by decide +kernel
theorem dX3_pass_144 : decode cX3_pass 144 = .ok (.getfield 19, 3) := by decide +kernel
theorem dX3_pass_147 : decode cX3_pass 147 = .ok (.iload_n 3, 1) := by decide +kernel
theorem dX3_pass_148 : decode cX3_pass 148 = .ok (.dup2, 1) := by decide +kernel
theorem dX3_pass_149 : decode cX3_pass 149 = .ok (.iaload, 1) := by decide +kernel
theorem dX3_pass_150 : decode cX3_pass 150 = .ok (.iconst 1, 1) := by decide +kernel
theorem dX3_pass_151 : decode cX3_pass 151 = .ok (.iadd, 1) := by decide +kernel
theorem dX3_pass_152 : decode cX3_pass 152 = .ok (.iastore, 1) := by decide +kernel
theorem dX3_pass_153 : decode cX3_pass 153 = .ok (.iinc 1 1, 3) := by decide +kernel
theorem dX3_pass_156 : decode cX3_pass 156 = .ok (.aload 4, 2) := by decide +kernel
theorem dX3_pass_158 : decode cX3_pass 158 = .ok (.getfield 67, 3) := by decide +kernel
theorem dX3_pass_161 : decode cX3_pass 161 = .ok (.iconst 2, 1) := by decide +kernel
theorem dX3_pass_162 : decode cX3_pass 162 = .ok (.if_icmp .ne 13, 3) := by decide +kernel
theorem dX3_pass_165 : decode cX3_pass 165 = .ok (.aload_n 0, 1) := by decide +kernel
theorem dX3_pass_166 : decode cX3_pass 166 = .ok (.aload_n 0, 1) := by decide +kernel
theorem dX3_pass_167 : decode cX3_pass 167 = .ok (.getfield 42, 3) := by decide +kernel
theorem dX3_pass_170 : decode cX3_pass 170 = .ok (.iconst 1, 1) := by decide +kernel
theorem dX3_pass_171 : decode cX3_pass 171 = .ok (.iadd, 1) := by decide +kernel
theorem dX3_pass_172 : decode cX3_pass 172 = .ok (.putfield 28, 3) := by decide +kernel
theorem dX3_pass_175 : decode cX3_pass 175 = .ok (.aload 4, 2) := by decide +kernel
theorem dX3_pass_177 : decode cX3_pass 177 = .ok (.iconst (-1), 1) := by decide +kernel
theorem dX3_pass_178 : decode cX3_pass 178 = .ok (.putfield 51, 3) := by decide +kernel
theorem dX3_pass_181 : decode cX3_pass 181 = .ok (.aload 4, 2) := by decide +kernel
theorem dX3_pass_183 : decode cX3_pass 183 = .ok (.iload_n 3, 1) := by decide +kernel
theorem dX3_pass_184 : decode cX3_pass 184 = .ok (.putfield 54, 3) := by decide +kernel
theorem dX3_pass_187 : decode cX3_pass 187 = .ok (.aload 4, 2) := by decide +kernel
theorem dX3_pass_189 : decode cX3_pass 189 = .ok (.iload 5, 2) := by decide +kernel
theorem dX3_pass_191 : decode cX3_pass 191 = .ok (.putfield 57, 3) := by decide +kernel
theorem dX3_pass_194 : decode cX3_pass 194 = .ok (.aload 4, 2) := by decide +kernel
theorem dX3_pass_196 : decode cX3_pass 196 = .ok (.iconst (-1), 1) := by decide +kernel
theorem dX3_pass_197 : decode cX3_pass 197 = .ok (.putfield 64, 3) := by decide +kernel
theorem dX3_pass_200 : decode cX3_pass 200 = .ok (.aload 4, 2) := by decide +kernel
theorem dX3_pass_202 : decode cX3_pass 202 = .ok (.iconst 0, 1) := by decide +kernel
theorem dX3_pass_203 : decode cX3_pass 203 = .ok (.putfield 67, 3) := by decide +kernel
theorem dX3_pass_206 : decode cX3_pass 206 = .ok (.aload 4, 2) := by decide +kernel
theorem dX3_pass_208 : decode cX3_pass 208 = .ok (.dup, 1) := by decide +kernel
theorem dX3_pass_209 : decode cX3_pass 209 = .ok (.getfield 83, 3) := by decide +kernel
theorem dX3_pass_212 : decode cX3_pass 212 = .ok (.iconst 1, 1) := by decide +kernel
theorem dX3_pass_213 : decode cX3_pass 213 = .ok (.iadd, 1) := by decide +kernel
theorem dX3_pass_214 : decode cX3_pass 214 = .ok (.putfield 83, 3) := by decide +kernel
theorem dX3_pass_217 : decode cX3_pass 217 = .ok (.iinc 3 1, 3) := by decide +kernel
theorem dX3_pass_220 : decode cX3_pass 220 = .ok (.goto (-145), 3) := by decide +kernel
theorem dX3_pass_223 : decode cX3_pass 223 = .ok (.iconst 0, 1) := by decide +kernel
theorem dX3_pass_224 : decode cX3_pass 224 = .ok (.istore_n 3, 1) := by decide +kernel
theorem dX3_pass_225 : decode cX3_pass 225 = .ok (.iload_n 3, 1) := by decide +kernel
theorem dX3_pass_226 : decode cX3_pass 226 = .ok (.iload_n 2, 1) := by decide +kernel
theorem dX3_pass_227 : decode cX3_pass 227 = .ok (.if_icmp .ge 139, 3) := by decide +kernel
theorem dX3_pass_230 : decode cX3_pass 230 = .ok (.aload_n 0, 1) := by decide +kernel
theorem dX3_pass_231 : decode cX3_pass 231 = .ok (.iload_n 3, 1) := by decide +kernel
theorem dX3_pass_232 : decode cX3_pass 232 = .ok (.invokevirtual 70, 3) := by decide +kernel
theorem dX3_pass_235 : decode cX3_pass 235 = .ok (.astore 4, 2) := by decide +kernel
theorem dX3_pass_237 : decode cX3_pass 237 = .ok (.aload 4, 2) := by decide +kernel
theorem dX3_pass_239 : decode cX3_pass 239 = .ok (.ifnull 121, 3) := by decide +kernel
theorem dX3_pass_242 : decode cX3_pass 242 = .ok (.aload_n 0, 1) := by decide +kernel
theorem dX3_pass_243 : decode cX3_pass 243 = .ok (.getfield 15, 3) := by decide +kernel
theorem dX3_pass_246 : decode cX3_pass 246 = .ok (.iload_n 3, 1) := by decide +kernel
theorem dX3_pass_247 : decode cX3_pass 247 = .ok (.aaload, 1) := by decide +kernel
theorem dX3_pass_248 : decode cX3_pass 248 = .ok (.arraylength, 1) := by decide +kernel
theorem dX3_pass_249 : decode cX3_pass 249 = .ok (.ifCond .le 111, 3) := by decide +kernel
theorem dX3_pass_252 : decode cX3_pass 252 = .ok (.aload_n 0, 1) := by decide +kernel
theorem dX3_pass_253 : decode cX3_pass 253 = .ok (.getfield 15, 3) := by decide +kernel
theorem dX3_pass_256 : decode cX3_pass 256 = .ok (.iload_n 3, 1) := by decide +kernel
theorem dX3_pass_257 : decode cX3_pass 257 = .ok (.aaload, 1) := by decide +kernel
theorem dX3_pass_258 : decode cX3_pass 258 = .ok (.iconst 0, 1) := by decide +kernel
theorem dX3_pass_259 : decode cX3_pass 259 = .ok (.aaload, 1) := by decide +kernel
theorem dX3_pass_260 : decode cX3_pass 260 = .ok (.astore 5, 2) := by decide +kernel
theorem dX3_pass_262 : decode cX3_pass 262 = .ok (.aload 4, 2) := by decide +kernel
theorem dX3_pass_264 : decode cX3_pass 264 = .ok (.aload 5, 2) := by decide +kernel
theorem dX3_pass_266 : decode cX3_pass 266 = .ok (.iconst 0, 1) := by decide +kernel
theorem dX3_pass_267 : decode cX3_pass 267 = .ok (.iaload, 1) := by decide +kernel
theorem dX3_pass_268 : decode cX3_pass 268 = .ok (.putfield 64, 3) := by decide +kernel
theorem dX3_pass_271 : decode cX3_pass 271 = .ok (.aload 4, 2) := by decide +kernel
theorem dX3_pass_273 : decode cX3_pass 273 = .ok (.iconst 1, 1) := by decide +kernel
theorem dX3_pass_274 : decode cX3_pass 274 = .ok (.aload 5, 2) := by decide +kernel
theorem dX3_pass_276 : decode cX3_pass 276 = .ok (.iconst 2, 1) := by decide +kernel
theorem dX3_pass_277 : decode cX3_pass 277 = .ok (.iaload, 1) := by decide +kernel
theorem dX3_pass_278 : decode cX3_pass 278 = .ok (.iadd, 1) := by decide +kernel
theorem dX3_pass_279 : decode cX3_pass 279 = .ok (.putfield 67, 3) := by decide +kernel
theorem dX3_pass_282 : decode cX3_pass 282 = .ok (.aload_n 0, 1) := by decide +kernel
theorem dX3_pass_283 : decode cX3_pass 283 = .ok (.dup, 1) := by decide +kernel
theorem dX3_pass_284 : decode cX3_pass 284 = .ok (.getfield 48, 3) := by decide +kernel
theorem dX3_pass_287 : decode cX3_pass 287 = .ok (.aload 5, 2) := by decide +kernel
theorem dX3_pass_289 : decode cX3_pass 289 = .ok (.iconst 1, 1) := by decide +kernel
theorem dX3_pass_290 : decode cX3_pass 290 = .ok (.iaload, 1) := by decide +kernel
theorem dX3_pass_291 : decode cX3_pass 291 = .ok (.iadd, 1) := by decide +kernel
theorem dX3_pass_292 : decode cX3_pass 292 = .ok (.putfield 48, 3) := by decide +kernel
theorem dX3_pass_295 : decode cX3_pass 295 = .ok (.aload_n 0, 1) := by decide +kernel
theorem dX3_pass_296 : decode cX3_pass 296 = .ok (.getfield 15, 3) := by decide +kernel
theorem dX3_pass_299 : decode cX3_pass 299 = .ok (.iload_n 3, 1) := by decide +kernel
theorem dX3_pass_300 : decode cX3_pass 300 = .ok (.aaload, 1) := by decide +kernel
theorem dX3_pass_301 : decode cX3_pass 301 = .ok (.arraylength, 1) := by decide +kernel
theorem dX3_pass_302 : decode cX3_pass 302 = .ok (.iconst 1, 1) := by decide +kernel
theorem dX3_pass_303 : decode cX3_pass 303 = .ok (.isub, 1) := by decide +kernel
theorem dX3_pass_304 : decode cX3_pass 304 = .ok (.anewarray 33, 3) := by decide +kernel
theorem dX3_pass_307 : decode cX3_pass 307 = .ok (.astore 6, 2) := by decide +kernel
theorem dX3_pass_309 : decode cX3_pass 309 = .ok (.iconst 0, 1) := by decide +kernel
theorem dX3_pass_310 : decode cX3_pass 310 = .ok (.istore 7, 2) := by decide +kernel
theorem dX3_pass_312 : decode cX3_pass 312 = .ok (.iload 7, 2) := by decide +kernel
theorem dX3_pass_314 : decode cX3_pass 314 = .ok (.aload 6, 2) := by decide +kernel
theorem dX3_pass_316 : decode cX3_pass 316 = .ok (.arraylength, 1) := by decide +kernel
theorem dX3_pass_317 : decode cX3_pass 317 = .ok (.if_icmp .ge 25, 3) := by decide +kernel
theorem dX3_pass_320 : decode cX3_pass 320 = .ok (.aload 6, 2) := by decide +kernel
theorem dX3_pass_322 : decode cX3_pass 322 = .ok (.iload 7, 2) := by decide +kernel
theorem dX3_pass_324 : decode cX3_pass 324 = .ok (.aload_n 0, 1) := by decide +kernel
theorem dX3_pass_325 : decode cX3_pass 325 = .ok (.getfield 15, 3) := by decide +kernel
theorem dX3_pass_328 : decode cX3_pass 328 = .ok (.iload_n 3, 1) := by decide +kernel
theorem dX3_pass_329 : decode cX3_pass 329 = .ok (.aaload, 1) := by decide +kernel
theorem dX3_pass_330 : decode cX3_pass 330 = .ok (.iload 7, 2) := by decide +kernel
theorem dX3_pass_332 : decode cX3_pass 332 = .ok (.iconst 1, 1) := by decide +kernel
theorem dX3_pass_333 : decode cX3_pass 333 = .ok (.iadd, 1) := by decide +kernel
theorem dX3_pass_334 : decode cX3_pass 334 = .ok (.aaload, 1) := by decide +kernel
theorem dX3_pass_335 : decode cX3_pass 335 = .ok (.aastore, 1) := by decide +kernel
theorem dX3_pass_336 : decode cX3_pass 336 = .ok (.iinc 7 1, 3) := by decide +kernel
theorem dX3_pass_339 : decode cX3_pass 339 = .ok (.goto (-27), 3) := by decide +kernel
theorem dX3_pass_342 : decode cX3_pass 342 = .ok (.aload_n 0, 1) := by decide +kernel
theorem dX3_pass_343 : decode cX3_pass 343 = .ok (.getfield 15, 3) := by decide +kernel
theorem dX3_pass_346 : decode cX3_pass 346 = .ok (.iload_n 3, 1) := by decide +kernel
theorem dX3_pass_347 : decode cX3_pass 347 = .ok (.aload 6, 2) := by decide +kernel
theorem dX3_pass_349 : decode cX3_pass 349 = .ok (.aastore, 1) := by decide +kernel
theorem dX3_pass_350 : decode cX3_pass 350 = .ok (.aload_n 0, 1) := by decide +kernel
theorem dX3_pass_351 : decode cX3_pass 351 = .ok (.iload_n 3, 1) := by decide +kernel
theorem dX3_pass_352 : decode cX3_pass 352 = .ok (.invokevirtual 70, 3) := by decide +kernel
theorem dX3_pass_355 : decode cX3_pass 355 = .ok (.astore 4, 2) := by decide +kernel
theorem dX3_pass_357 : decode cX3_pass 357 = .ok (.goto (-120), 3) := by decide +kernel
theorem dX3_pass_360 : decode cX3_pass 360 = .ok (.iinc 3 1, 3) := by decide +kernel
theorem dX3_pass_363 : decode cX3_pass 363 = .ok (.goto (-138), 3) := by decide +kernel
theorem dX3_pass_366 : decode cX3_pass 366 = .ok (.iconst 0, 1) := by decide +kernel
theorem dX3_pass_367 : decode cX3_pass 367 = .ok (.istore_n 3, 1) := by decide +kernel
theorem dX3_pass_368 : decode cX3_pass 368 = .ok (.iload_n 3, 1) := by decide +kernel
theorem dX3_pass_369 : decode cX3_pass 369 = .ok (.iload_n 2, 1) := by decide +kernel
theorem dX3_pass_370 : decode cX3_pass 370 = .ok (.if_icmp .ge 58, 3) := by decide +kernel
theorem dX3_pass_373 : decode cX3_pass 373 = .ok (.aload_n 0, 1) := by decide +kernel
theorem dX3_pass_374 : decode cX3_pass 374 = .ok (.getfield 15, 3) := by decide +kernel
theorem dX3_pass_377 : decode cX3_pass 377 = .ok (.iload_n 3, 1) := by decide +kernel
theorem dX3_pass_378 : decode cX3_pass 378 = .ok (.aaload, 1) := by decide +kernel
theorem dX3_pass_379 : decode cX3_pass 379 = .ok (.arraylength, 1) := by decide +kernel
theorem dX3_pass_380 : decode cX3_pass 380 = .ok (.aload_n 0, 1) := by decide +kernel
theorem dX3_pass_381 : decode cX3_pass 381 = .ok (.iload_n 3, 1) := by decide +kernel
theorem dX3_pass_382 : decode cX3_pass 382 = .ok (.invokevirtual 86, 3) := by decide +kernel
theorem dX3_pass_385 : decode cX3_pass 385 = .ok (.if_icmp .le 37, 3) := by decide +kernel
theorem dX3_pass_388 : decode cX3_pass 388 = .ok (.aload_n 0, 1) := by decide +kernel
theorem dX3_pass_389 : decode cX3_pass 389 = .ok (.iload_n 3, 1) := by decide +kernel
theorem dX3_pass_390 : decode cX3_pass 390 = .ok (.invokevirtual 89, 3) := by decide +kernel
theorem dX3_pass_393 : decode cX3_pass 393 = .ok (.ifCond .ge 6, 3) := by decide +kernel
theorem dX3_pass_396 : decode cX3_pass 396 = .ok (.goto 26, 3) := by decide +kernel
theorem dX3_pass_399 : decode cX3_pass 399 = .ok (.aload_n 0, 1) := by decide +kernel
theorem dX3_pass_400 : decode cX3_pass 400 = .ok (.aload_n 0, 1) := by decide +kernel
theorem dX3_pass_401 : decode cX3_pass 401 = .ok (.iload_n 3, 1) := by decide +kernel
theorem dX3_pass_402 : decode cX3_pass 402 = .ok (.invokevirtual 89, 3) := by decide +kernel
theorem dX3_pass_405 : decode cX3_pass 405 = .ok (.invokevirtual 70, 3) := by decide +kernel
theorem dX3_pass_408 : decode cX3_pass 408 = .ok (.iload_n 3, 1) := by decide +kernel
theorem dX3_pass_409 : decode cX3_pass 409 = .ok (.putfield 64, 3) := by decide +kernel
theorem dX3_pass_412 : decode cX3_pass 412 = .ok (.aload_n 0, 1) := by decide +kernel
theorem dX3_pass_413 : decode cX3_pass 413 = .ok (.dup, 1) := by decide +kernel
theorem dX3_pass_414 : decode cX3_pass 414 = .ok (.getfield 45, 3) := by decide +kernel
theorem dX3_pass_417 : decode cX3_pass 417 = .ok (.iconst 1, 1) := by decide +kernel
theorem dX3_pass_418 : decode cX3_pass 418 = .ok (.iadd, 1) := by decide +kernel
theorem dX3_pass_419 : decode cX3_pass 419 = .ok (.putfield 45, 3) := by decide +kernel
theorem dX3_pass_422 : decode cX3_pass 422 = .ok (.iinc 3 1, 3) := by decide +kernel
theorem dX3_pass_425 : decode cX3_pass 425 = .ok (.goto (-57), 3) := by decide +kernel
theorem dX3_pass_428 : decode cX3_pass 428 = .ok (.iconst 0, 1) := by decide +kernel
theorem dX3_pass_429 : decode cX3_pass 429 = .ok (.istore_n 3, 1) := by decide +kernel
theorem dX3_pass_430 : decode cX3_pass 430 = .ok (.iload_n 3, 1) := by decide +kernel
theorem dX3_pass_431 : decode cX3_pass 431 = .ok (.iload_n 2, 1) := by decide +kernel
theorem dX3_pass_432 : decode cX3_pass 432 = .ok (.if_icmp .ge 134, 3) := by decide +kernel
theorem dX3_pass_435 : decode cX3_pass 435 = .ok (.aload_n 0, 1) := by decide +kernel
theorem dX3_pass_436 : decode cX3_pass 436 = .ok (.aload_n 0, 1) := by decide +kernel
theorem dX3_pass_437 : decode cX3_pass 437 = .ok (.getfield 7, 3) := by decide +kernel
theorem dX3_pass_440 : decode cX3_pass 440 = .ok (.iload_n 3, 1) := by decide +kernel
theorem dX3_pass_441 : decode cX3_pass 441 = .ok (.iaload, 1) := by decide +kernel
theorem dX3_pass_442 : decode cX3_pass 442 = .ok (.invokevirtual 74, 3) := by decide +kernel
theorem dX3_pass_445 : decode cX3_pass 445 = .ok (.ifnull 6, 3) := by decide +kernel
theorem dX3_pass_448 : decode cX3_pass 448 = .ok (.goto 112, 3) := by decide +kernel
theorem dX3_pass_451 : decode cX3_pass 451 = .ok (.iconst 2, 1) := by decide +kernel
theorem dX3_pass_452 : decode cX3_pass 452 = .ok (.istore 4, 2) := by decide +kernel
theorem dX3_pass_454 : decode cX3_pass 454 = .ok (.iload 4, 2) := by decide +kernel
theorem dX3_pass_456 : decode cX3_pass 456 = .ok (.ifCond .lt 104, 3) := by decide +kernel
theorem dX3_pass_459 : decode cX3_pass 459 = .ok (.aload_n 0, 1) := by decide +kernel
theorem dX3_pass_460 : decode cX3_pass 460 = .ok (.iload_n 3, 1) := by decide +kernel
theorem dX3_pass_461 : decode cX3_pass 461 = .ok (.iload 4, 2) := by decide +kernel
theorem dX3_pass_463 : decode cX3_pass 463 = .ok (.invokevirtual 60, 3) := by decide +kernel
theorem dX3_pass_466 : decode cX3_pass 466 = .ok (.astore 5, 2) := by decide +kernel
theorem dX3_pass_468 : decode cX3_pass 468 = .ok (.aload 5, 2) := by decide +kernel
theorem dX3_pass_470 : decode cX3_pass 470 = .ok (.ifnull 84, 3) := by decide +kernel
theorem dX3_pass_473 : decode cX3_pass 473 = .ok (.aload 5, 2) := by decide +kernel
theorem dX3_pass_475 : decode cX3_pass 475 = .ok (.getfield 64, 3) := by decide +kernel
theorem dX3_pass_478 : decode cX3_pass 478 = .ok (.ifCond .ge 6, 3) := by decide +kernel
theorem dX3_pass_481 : decode cX3_pass 481 = .ok (.goto 73, 3) := by decide +kernel
theorem dX3_pass_484 : decode cX3_pass 484 = .ok (.iconst 1, 1) := by decide +kernel
theorem dX3_pass_485 : decode cX3_pass 485 = .ok (.istore 6, 2) := by decide +kernel
theorem dX3_pass_487 : decode cX3_pass 487 = .ok (.iconst 0, 1) := by decide +kernel
theorem dX3_pass_488 : decode cX3_pass 488 = .ok (.istore 7, 2) := by decide +kernel
theorem dX3_pass_490 : decode cX3_pass 490 = .ok (.iload 7, 2) := by decide +kernel
theorem dX3_pass_492 : decode cX3_pass 492 = .ok (.iload 4, 2) := by decide +kernel
theorem dX3_pass_494 : decode cX3_pass 494 = .ok (.if_icmp .ge 44, 3) := by decide +kernel
theorem dX3_pass_497 : decode cX3_pass 497 = .ok (.iload 6, 2) := by decide +kernel
theorem dX3_pass_499 : decode cX3_pass 499 = .ok (.ifCond .eq 30, 3) := by decide +kernel
theorem dX3_pass_502 : decode cX3_pass 502 = .ok (.aload_n 0, 1) := by decide +kernel
theorem dX3_pass_503 : decode cX3_pass 503 = .ok (.iload_n 3, 1) := by decide +kernel
theorem dX3_pass_504 : decode cX3_pass 504 = .ok (.iload 7, 2) := by decide +kernel
theorem dX3_pass_506 : decode cX3_pass 506 = .ok (.invokevirtual 60, 3) := by decide +kernel
theorem dX3_pass_509 : decode cX3_pass 509 = .ok (.ifnull 16, 3) := by decide +kernel
theorem dX3_pass_512 : decode cX3_pass 512 = .ok (.aload_n 0, 1) := by decide +kernel
theorem dX3_pass_513 : decode cX3_pass 513 = .ok (.iload_n 3, 1) := by decide +kernel
theorem dX3_pass_514 : decode cX3_pass 514 = .ok (.iload 7, 2) := by decide +kernel
theorem dX3_pass_516 : decode cX3_pass 516 = .ok (.invokevirtual 60, 3) := by decide +kernel
theorem dX3_pass_519 : decode cX3_pass 519 = .ok (.getfield 64, 3) := by decide +kernel
theorem dX3_pass_522 : decode cX3_pass 522 = .ok (.ifCond .ge 7, 3) := by decide +kernel
theorem dX3_pass_525 : decode cX3_pass 525 = .ok (.iconst 1, 1) := by decide +kernel
theorem dX3_pass_526 : decode cX3_pass 526 = .ok (.goto 4, 3) := by decide +kernel
theorem dX3_pass_529 : decode cX3_pass 529 = .ok (.iconst 0, 1) := by decide +kernel
theorem dX3_pass_530 : decode cX3_pass 530 = .ok (.istore 6, 2) := by decide +kernel
theorem dX3_pass_532 : decode cX3_pass 532 = .ok (.iinc 7 1, 3) := by decide +kernel
theorem dX3_pass_535 : decode cX3_pass 535 = .ok (.goto (-45), 3) := by decide +kernel
theorem dX3_pass_538 : decode cX3_pass 538 = .ok (.iload 6, 2) := by decide +kernel
theorem dX3_pass_540 : decode cX3_pass 540 = .ok (.ifCond .eq 14, 3) := by decide +kernel
theorem dX3_pass_543 : decode cX3_pass 543 = .ok (.aload 5, 2) := by decide +kernel
theorem dX3_pass_545 : decode cX3_pass 545 = .ok (.aload_n 0, 1) := by decide +kernel
theorem dX3_pass_546 : decode cX3_pass 546 = .ok (.getfield 7, 3) := by decide +kernel
theorem dX3_pass_549 : decode cX3_pass 549 = .ok (.iload_n 3, 1) := by decide +kernel
theorem dX3_pass_550 : decode cX3_pass 550 = .ok (.iaload, 1) := by decide +kernel
theorem dX3_pass_551 : decode cX3_pass 551 = .ok (.putfield 51, 3) := by decide +kernel
theorem dX3_pass_554 : decode cX3_pass 554 = .ok (.iinc 4 (-1), 3) := by decide +kernel
theorem dX3_pass_557 : decode cX3_pass 557 = .ok (.goto (-103), 3) := by decide +kernel
theorem dX3_pass_560 : decode cX3_pass 560 = .ok (.iinc 3 1, 3) := by decide +kernel
theorem dX3_pass_563 : decode cX3_pass 563 = .ok (.goto (-133), 3) := by decide +kernel
theorem dX3_pass_566 : decode cX3_pass 566 = .ok (.aload_n 0, 1) := by decide +kernel
theorem dX3_pass_567 : decode cX3_pass 567 = .ok (.getfield 15, 3) := by decide +kernel
theorem dX3_pass_570 : decode cX3_pass 570 = .ok (.astore_n 3, 1) := by decide +kernel
theorem dX3_pass_571 : decode cX3_pass 571 = .ok (.aload_n 3, 1) := by decide +kernel
theorem dX3_pass_572 : decode cX3_pass 572 = .ok (.arraylength, 1) := by decide +kernel
theorem dX3_pass_573 : decode cX3_pass 573 = .ok (.istore 4, 2) := by decide +kernel
theorem dX3_pass_575 : decode cX3_pass 575 = .ok (.iconst 0, 1) := by decide +kernel
theorem dX3_pass_576 : decode cX3_pass 576 = .ok (.istore 5, 2) := by decide +kernel
theorem dX3_pass_578 : decode cX3_pass 578 = .ok (.iload 5, 2) := by decide +kernel
theorem dX3_pass_580 : decode cX3_pass 580 = .ok (.iload 4, 2) := by decide +kernel
theorem dX3_pass_582 : decode cX3_pass 582 = .ok (.if_icmp .ge 55, 3) := by decide +kernel
theorem dX3_pass_585 : decode cX3_pass 585 = .ok (.aload_n 3, 1) := by decide +kernel
theorem dX3_pass_586 : decode cX3_pass 586 = .ok (.iload 5, 2) := by decide +kernel
theorem dX3_pass_588 : decode cX3_pass 588 = .ok (.aaload, 1) := by decide +kernel
theorem dX3_pass_589 : decode cX3_pass 589 = .ok (.astore 6, 2) := by decide +kernel
theorem dX3_pass_591 : decode cX3_pass 591 = .ok (.aload 6, 2) := by decide +kernel
theorem dX3_pass_593 : decode cX3_pass 593 = .ok (.astore 7, 2) := by decide +kernel
theorem dX3_pass_595 : decode cX3_pass 595 = .ok (.aload 7, 2) := by decide +kernel
theorem dX3_pass_597 : decode cX3_pass 597 = .ok (.arraylength, 1) := by decide +kernel
theorem dX3_pass_598 : decode cX3_pass 598 = .ok (.istore 8, 2) := by decide +kernel
theorem dX3_pass_600 : decode cX3_pass 600 = .ok (.iconst 0, 1) := by decide +kernel
theorem dX3_pass_601 : decode cX3_pass 601 = .ok (.istore 9, 2) := by decide +kernel
theorem dX3_pass_603 : decode cX3_pass 603 = .ok (.iload 9, 2) := by decide +kernel
theorem dX3_pass_605 : decode cX3_pass 605 = .ok (.iload 8, 2) := by decide +kernel
theorem dX3_pass_607 : decode cX3_pass 607 = .ok (.if_icmp .ge 24, 3) := by decide +kernel
theorem dX3_pass_610 : decode cX3_pass 610 = .ok (.aload 7, 2) := by decide +kernel
theorem dX3_pass_612 : decode cX3_pass 612 = .ok (.iload 9, 2) := by decide +kernel
theorem dX3_pass_614 : decode cX3_pass 614 = .ok (.aaload, 1) := by decide +kernel
theorem dX3_pass_615 : decode cX3_pass 615 = .ok (.astore 10, 2) := by decide +kernel
theorem dX3_pass_617 : decode cX3_pass 617 = .ok (.aload 10, 2) := by decide +kernel
theorem dX3_pass_619 : decode cX3_pass 619 = .ok (.iconst 1, 1) := by decide +kernel
theorem dX3_pass_620 : decode cX3_pass 620 = .ok (.dup2, 1) := by decide +kernel
theorem dX3_pass_621 : decode cX3_pass 621 = .ok (.iaload, 1) := by decide +kernel
theorem dX3_pass_622 : decode cX3_pass 622 = .ok (.iconst 1, 1) := by decide +kernel
theorem dX3_pass_623 : decode cX3_pass 623 = .ok (.iadd, 1) := by decide +kernel
theorem dX3_pass_624 : decode cX3_pass 624 = .ok (.iastore, 1) := by decide +kernel
theorem dX3_pass_625 : decode cX3_pass 625 = .ok (.iinc 9 1, 3) := by decide +kernel
theorem dX3_pass_628 : decode cX3_pass 628 = .ok (.goto (-25), 3) := by decide +kernel
theorem dX3_pass_631 : decode cX3_pass 631 = .ok (.iinc 5 1, 3) := by decide +kernel
theorem dX3_pass_634 : decode cX3_pass 634 = .ok (.goto (-56), 3) := by decide +kernel
theorem dX3_pass_637 : decode cX3_pass 637 = .ok (.aload_n 0, 1) := by decide +kernel
theorem dX3_pass_638 : decode cX3_pass 638 = .ok (.dup, 1) := by decide +kernel
theorem dX3_pass_639 : decode cX3_pass 639 = .ok (.getfield 42, 3) := by decide +kernel
theorem dX3_pass_642 : decode cX3_pass 642 = .ok (.iconst 1, 1) := by decide +kernel
theorem dX3_pass_643 : decode cX3_pass 643 = .ok (.iadd, 1) := by decide +kernel
theorem dX3_pass_644 : decode cX3_pass 644 = .ok (.putfield 42, 3) := by decide +kernel
theorem dX3_pass_647 : decode cX3_pass 647 = .ok (.iload_n 1, 1) := by decide +kernel
theorem dX3_pass_648 : decode cX3_pass 648 = .ok (.ireturn, 1) := by decide +kernel
theorem dX3_told_0 : decode cX3_told 0 = .ok (.iload_n 1, 1) := by decide +kernel
theorem dX3_told_1 : decode cX3_told 1 = .ok (.bipush 7, 2) := by decide +kernel
theorem dX3_told_3 : decode cX3_told 3 = .ok (.if_icmp .ne 10, 3) := by decide +kernel
theorem dX3_told_6 : decode cX3_told 6 = .ok (.aload_n 0, 1) := by decide +kernel
theorem dX3_told_7 : decode cX3_told 7 = .ok (.getfield 45, 3) := by decide +kernel
theorem dX3_told_10 : decode cX3_told 10 = .ok (.goto 15, 3) := by decide +kernel
theorem dX3_told_13 : decode cX3_told 13 = .ok (.iload_n 1, 1) := by decide +kernel
theorem dX3_told_14 : decode cX3_told 14 = .ok (.bipush 6, 2) := by decide +kernel
theorem dX3_told_16 : decode cX3_told 16 = .ok (.if_icmp .ne 8, 3) := by decide +kernel
theorem dX3_told_19 : decode cX3_told 19 = .ok (.bipush 24, 2) := by decide +kernel
theorem dX3_told_21 : decode cX3_told 21 = .ok (.goto 4, 3) := by decide +kernel
theorem dX3_told_24 : decode cX3_told 24 = .ok (.iconst 0, 1) := by decide +kernel
theorem dX3_told_25 : decode cX3_told 25 = .ok (.istore_n 2, 1) := by decide +kernel
theorem dX3_told_26 : decode cX3_told 26 = .ok (.aload_n 0, 1) := by decide +kernel
theorem dX3_told_27 : decode cX3_told 27 = .ok (.getfield 15, 3) := by decide +kernel
theorem dX3_told_30 : decode cX3_told 30 = .ok (.astore_n 3, 1) := by decide +kernel
theorem dX3_told_31 : decode cX3_told 31 = .ok (.aload_n 3, 1) := by decide +kernel
theorem dX3_told_32 : decode cX3_told 32 = .ok (.arraylength, 1) := by decide +kernel
theorem dX3_told_33 : decode cX3_told 33 = .ok (.istore 4, 2) := by decide +kernel
theorem dX3_told_35 : decode cX3_told 35 = .ok (.iconst 0, 1) := by decide +kernel
theorem dX3_told_36 : decode cX3_told 36 = .ok (.istore 5, 2) := by decide +kernel
theorem dX3_told_38 : decode cX3_told 38 = .ok (.iload 5, 2) := by decide +kernel
theorem dX3_told_40 : decode cX3_told 40 = .ok (.iload 4, 2) := by decide +kernel
theorem dX3_told_42 : decode cX3_told 42 = .ok (.if_icmp .ge 30, 3) := by decide +kernel
theorem dX3_told_45 : decode cX3_told 45 = .ok (.aload_n 3, 1) := by decide +kernel
theorem dX3_told_46 : decode cX3_told 46 = .ok (.iload 5, 2) := by decide +kernel
theorem dX3_told_48 : decode cX3_told 48 = .ok (.aaload, 1) := by decide +kernel
theorem dX3_told_49 : decode cX3_told 49 = .ok (.astore 6, 2) := by decide +kernel
theorem dX3_told_51 : decode cX3_told 51 = .ok (.iload_n 2, 1) := by decide +kernel
theorem dX3_told_52 : decode cX3_told 52 = .ok (.iload_n 1, 1) := by decide +kernel
theorem dX3_told_53 : decode cX3_told 53 = .ok (.iconst 3, 1) := by decide +kernel
theorem dX3_told_54 : decode cX3_told 54 = .ok (.if_icmp .ne 9, 3) := by decide +kernel
theorem dX3_told_57 : decode cX3_told 57 = .ok (.aload 6, 2) := by decide +kernel
theorem dX3_told_59 : decode cX3_told 59 = .ok (.arraylength, 1) := by decide +kernel
theorem dX3_told_60 : decode cX3_told 60 = .ok (.goto 4, 3) := by decide +kernel
theorem dX3_told_63 : decode cX3_told 63 = .ok (.iconst 0, 1) := by decide +kernel
theorem dX3_told_64 : decode cX3_told 64 = .ok (.iadd, 1) := by decide +kernel
theorem dX3_told_65 : decode cX3_told 65 = .ok (.istore_n 2, 1) := by decide +kernel
theorem dX3_told_66 : decode cX3_told 66 = .ok (.iinc 5 1, 3) := by decide +kernel
theorem dX3_told_69 : decode cX3_told 69 = .ok (.goto (-31), 3) := by decide +kernel
theorem dX3_told_72 : decode cX3_told 72 = .ok (.aload_n 0, 1) := by decide +kernel
theorem dX3_told_73 : decode cX3_told 73 = .ok (.getfield 19, 3) := by decide +kernel
theorem dX3_told_76 : decode cX3_told 76 = .ok (.astore_n 3, 1) := by decide +kernel
theorem dX3_told_77 : decode cX3_told 77 = .ok (.aload_n 3, 1) := by decide +kernel
theorem dX3_told_78 : decode cX3_told 78 = .ok (.arraylength, 1) := by decide +kernel
theorem dX3_told_79 : decode cX3_told 79 = .ok (.istore 4, 2) := by decide +kernel
theorem dX3_told_81 : decode cX3_told 81 = .ok (.iconst 0, 1) := by decide +kernel
theorem dX3_told_82 : decode cX3_told 82 = .ok (.istore 5, 2) := by decide +kernel
theorem dX3_told_84 : decode cX3_told 84 = .ok (.iload 5, 2) := by decide +kernel
theorem dX3_told_86 : decode cX3_told 86 = .ok (.iload 4, 2) := by decide +kernel
theorem dX3_told_88 : decode cX3_told 88 = .ok (.if_icmp .ge 29, 3) := by decide +kernel
theorem dX3_told_91 : decode cX3_told 91 = .ok (.aload_n 3, 1) := by decide +kernel
theorem dX3_told_92 : decode cX3_told 92 = .ok (.iload 5, 2) := by decide +kernel
theorem dX3_told_94 : decode cX3_told 94 = .ok (.iaload, 1) := by decide +kernel
theorem dX3_told_95 : decode cX3_told 95 = .ok (.istore 6, 2) := by decide +kernel
theorem dX3_told_97 : decode cX3_told 97 = .ok (.iload_n 2, 1) := by decide +kernel
theorem dX3_told_98 : decode cX3_told 98 = .ok (.iload_n 1, 1) := by decide +kernel
theorem dX3_told_99 : decode cX3_told 99 = .ok (.iconst 5, 1) := by decide +kernel
theorem dX3_told_100 : decode cX3_told 100 = .ok (.if_icmp .ne 8, 3) := by decide +kernel
theorem dX3_told_103 : decode cX3_told 103 = .ok (.iload 6, 2) := by decide +kernel
theorem dX3_told_105 : decode cX3_told 105 = .ok (.goto 4, 3) := by decide +kernel
theorem dX3_told_108 : decode cX3_told 108 = .ok (.iconst 0, 1) := by decide +kernel
theorem dX3_told_109 : decode cX3_told 109 = .ok (.iadd, 1) := by decide +kernel
theorem dX3_told_110 : decode cX3_told 110 = .ok (.istore_n 2, 1) := by decide +kernel
theorem dX3_told_111 : decode cX3_told 111 = .ok (.iinc 5 1, 3) := by decide +kernel
theorem dX3_told_114 : decode cX3_told 114 = .ok (.goto (-30), 3) := by decide +kernel
theorem dX3_told_117 : decode cX3_told 117 = .ok (.aload_n 0, 1) := by decide +kernel
theorem dX3_told_118 : decode cX3_told 118 = .ok (.getfield 24, 3) := by decide +kernel
theorem dX3_told_121 : decode cX3_told 121 = .ok (.astore_n 3, 1) := by decide +kernel
theorem dX3_told_122 : decode cX3_told 122 = .ok (.aload_n 3, 1) := by decide +kernel
theorem dX3_told_123 : decode cX3_told 123 = .ok (.arraylength, 1) := by decide +kernel
theorem dX3_told_124 : decode cX3_told 124 = .ok (.istore 4, 2) := by decide +kernel
theorem dX3_told_126 : decode cX3_told 126 = .ok (.iconst 0, 1) := by decide +kernel
theorem dX3_told_127 : decode cX3_told 127 = .ok (.istore 5, 2) := by decide +kernel
theorem dX3_told_129 : decode cX3_told 129 = .ok (.iload 5, 2) := by decide +kernel
theorem dX3_told_131 : decode cX3_told 131 = .ok (.iload 4, 2) := by decide +kernel
theorem dX3_told_133 : decode cX3_told 133 = .ok (.if_icmp .ge 54, 3) := by decide +kernel
theorem dX3_told_136 : decode cX3_told 136 = .ok (.aload_n 3, 1) := by decide +kernel
theorem dX3_told_137 : decode cX3_told 137 = .ok (.iload 5, 2) := by decide +kernel
theorem dX3_told_139 : decode cX3_told 139 = .ok (.aaload, 1) := by decide +kernel
theorem dX3_told_140 : decode cX3_told 140 = .ok (.astore 6, 2) := by decide +kernel
theorem dX3_told_142 : decode cX3_told 142 = .ok (.iload_n 2, 1) := by decide +kernel
theorem dX3_told_143 : decode cX3_told 143 = .ok (.iload_n 1, 1) := by decide +kernel
theorem dX3_told_144 : decode cX3_told 144 = .ok (.iconst 4, 1) := by decide +kernel
theorem dX3_told_145 : decode cX3_told 145 = .ok (.if_icmp .ne 15, 3) := by decide +kernel
theorem dX3_told_148 : decode cX3_told 148 = .ok (.aload 6, 2) := by decide +kernel
theorem dX3_told_150 : decode cX3_told 150 = .ok (.getfield 67, 3) := by decide +kernel
theorem dX3_told_153 : decode cX3_told 153 = .ok (.ifCond .le 7, 3) := by decide +kernel
theorem dX3_told_156 : decode cX3_told 156 = .ok (.iconst 1, 1) := by decide +kernel
theorem dX3_told_157 : decode cX3_told 157 = .ok (.goto 22, 3) := by decide +kernel
theorem dX3_told_160 : decode cX3_told 160 = .ok (.iload_n 1, 1) := by decide +kernel
theorem dX3_told_161 : decode cX3_told 161 = .ok (.bipush 6, 2) := by decide +kernel
theorem dX3_told_163 : decode cX3_told 163 = .ok (.if_icmp .ne 15, 3) := by decide +kernel
theorem dX3_told_166 : decode cX3_told 166 = .ok (.aload 6, 2) := by decide +kernel
theorem dX3_told_168 : decode cX3_told 168 = .ok (.getfield 51, 3) := by decide +kernel
theorem dX3_told_171 : decode cX3_told 171 = .ok (.ifCond .lt 7, 3) := by decide +kernel
theorem dX3_told_174 : decode cX3_told 174 = .ok (.iconst (-1), 1) := by decide +kernel
theorem dX3_told_175 : decode cX3_told 175 = .ok (.goto 4, 3) := by decide +kernel
theorem dX3_told_178 : decode cX3_told 178 = .ok (.iconst 0, 1) := by decide +kernel
theorem dX3_told_179 : decode cX3_told 179 = .ok (.iadd, 1) := by decide +kernel
theorem dX3_told_180 : decode cX3_told 180 = .ok (.istore_n 2, 1) := by decide +kernel
theorem dX3_told_181 : decode cX3_told 181 = .ok (.iinc 5 1, 3) := by decide +kernel
theorem dX3_told_184 : decode cX3_told 184 = .ok (.goto (-55), 3) := by decide +kernel
theorem dX3_told_187 : decode cX3_told 187 = .ok (.iload_n 2, 1) := by decide +kernel
theorem dX3_told_188 : decode cX3_told 188 = .ok (.ireturn, 1) := by decide +kernel
set_option maxRecDepth 20000 in
theorem ggX3_isSame_X1_waits : GoodIn wsX3_isSame wsX1_waits := goodIn_ca (goodIn_r _ [19, 20, 21, 22, 23, 24, 25, 18, 26, 27, 28, 29, 30, 31, 32, 33, 34, 35, 36, 37, 38, 39, 40, 41, 42, 43, 44, 45, 46, 47, 48, 211, 212, 213, 214, 215, 216, 217, 218, 219, 220, 221, 222, 223, 224, 225, 226, 227, 228, 229] (by decide +kernel) (by decide +kernel)) (goodIn_sub (fun _ h => List.mem_cons_of_mem _ (List.mem_append_right _ h)) (by decide +kernel))
set_option maxRecDepth 20000 in
theorem gX3_isSame_X1_waits : GoodIn wsX3_isSame (wsV RX3 92 RX1 yX1_waits wsX1_waits) := goodIn_app (goodIn_of _ (by decide +kernel)) ggX3_isSame_X1_waits
set_option maxRecDepth 20000 in
theorem ggX3_isSame_X3_coming : GoodIn wsX3_isSame wsX3_coming := goodIn_r _ [53, 2, 5, 10, 196, 197, 198, 199, 200, 201, 202, 203, 204, 205, 206, 207, 208, 209, 210] (by decide +kernel) (by decide +kernel)
set_option maxRecDepth 20000 in
theorem gX3_isSame_X3_coming : GoodIn wsX3_isSame (wsV RX3 86 RX3 yX3_coming wsX3_coming) := goodIn_app (goodIn_of _ (by decide +kernel)) ggX3_isSame_X3_coming
set_option maxRecDepth 20000 in
theorem ggX3_isSame_X1_station : GoodIn wsX3_isSame wsX1_station := goodIn_ca (goodIn_r _ [57, 22, 23, 24, 25, 18, 26, 20, 21, 58, 59, 60, 61, 62, 28, 63, 64, 65, 66, 67, 68, 69, 70, 36, 37, 38, 71, 72, 73, 74, 75, 76, 77, 78, 79, 80, 81, 27, 29, 30, 31, 32, 33, 34, 35, 82, 83, 84, 85, 86, 87, 88, 89, 90, 91, 92, 93, 94, 95, 43, 44, 45, 46, 47, 48, 211, 212, 213, 214, 215, 216, 217, 218, 219, 220, 221, 222, 223, 224, 225, 226, 227, 228, 229] (by decide +kernel) (by decide +kernel)) (goodIn_sub (fun _ h => List.mem_cons_of_mem _ (List.mem_append_right _ h)) (by decide +kernel))
set_option maxRecDepth 20000 in
theorem gX3_isSame_X1_station : GoodIn wsX3_isSame (wsV RX3 97 RX1 yX1_station wsX1_station) := goodIn_app (goodIn_of _ (by decide +kernel)) ggX3_isSame_X1_station
set_option maxRecDepth 20000 in
theorem ggX3_isSame_X1_answers : GoodIn wsX3_isSame wsX1_answers := goodIn_ca (goodIn_r _ [99, 22, 23, 24, 25, 18, 26, 20, 21, 100, 28, 101, 102, 103, 104, 105, 106, 107, 66, 67, 68, 69, 70, 36, 37, 38, 108, 109, 110, 111, 81, 27, 29, 30, 31, 32, 33, 34, 35, 112, 113, 114, 115, 75, 76, 77, 78, 79, 80, 211, 212, 213, 214, 215, 216, 217, 218, 219, 220, 221, 222, 223, 224, 225, 226, 227, 228, 229] (by decide +kernel) (by decide +kernel)) (goodIn_sub (fun _ h => List.mem_cons_of_mem _ (List.mem_append_right _ h)) (by decide +kernel))
set_option maxRecDepth 20000 in
theorem gX3_isSame_X1_answers : GoodIn wsX3_isSame (wsV RX3 100 RX1 yX1_answers wsX1_answers) := goodIn_app (goodIn_of _ (by decide +kernel)) ggX3_isSame_X1_answers
set_option maxRecDepth 20000 in
theorem ggX3_isSame_X3_answer : GoodIn wsX3_isSame wsX3_answer := goodIn_r _ [119, 1, 6, 120, 121, 122, 52, 123, 5, 124, 125, 126, 127, 2, 3, 4, 9, 196, 197, 198, 199, 200, 201, 202, 203, 204, 205, 206, 207, 208, 209, 210] (by decide +kernel) (by decide +kernel)
set_option maxRecDepth 20000 in
theorem gX3_isSame_X3_answer : GoodIn wsX3_isSame (wsV RX3 89 RX3 yX3_answer wsX3_answer) := goodIn_app (goodIn_of _ (by decide +kernel)) ggX3_isSame_X3_answer
set_option maxRecDepth 20000 in
theorem ggX3_isSame_X1_told : GoodIn wsX3_isSame wsX1_told := goodIn_ca (goodIn_r _ [131, 22, 132, 133, 134, 18, 135, 20, 21, 58, 59, 60, 61, 136, 28, 137, 138, 139, 87, 140, 141, 142, 143, 144, 79, 145, 146, 147, 88, 89, 90, 91, 80, 36, 37, 38, 211, 212, 213, 214, 215, 216, 217, 218, 219, 220, 221, 222, 223, 224, 225, 226, 227, 228, 229] (by decide +kernel) (by decide +kernel)) (goodIn_sub (fun _ h => List.mem_cons_of_mem _ (List.mem_append_right _ h)) (by decide +kernel))
set_option maxRecDepth 20000 in
theorem gX3_isSame_X1_told : GoodIn wsX3_isSame (wsV RX3 103 RX1 yX1_told wsX1_told) := goodIn_app (goodIn_of _ (by decide +kernel)) ggX3_isSame_X1_told
set_option maxRecDepth 20000 in
theorem ggX3_isSame_X1_slot : GoodIn wsX3_isSame wsX1_slot := goodIn_ca (goodIn_r _ [151, 22, 152, 153, 154, 18, 155, 20, 21, 156, 28, 157, 158, 139, 36, 37, 38, 211, 212, 213, 214, 215, 216, 217, 218, 219, 220, 221, 222, 223, 224, 225, 226, 227, 228, 229] (by decide +kernel) (by decide +kernel)) (goodIn_sub (fun _ h => List.mem_cons_of_mem _ (List.mem_append_right _ h)) (by decide +kernel))
set_option maxRecDepth 20000 in
theorem gX3_isSame_X1_slot : GoodIn wsX3_isSame (wsV RX3 106 RX1 yX1_slot wsX1_slot) := goodIn_app (goodIn_of _ (by decide +kernel)) ggX3_isSame_X1_slot
set_option maxRecDepth 20000 in
theorem ggX3_isSame_X3_told : GoodIn wsX3_isSame wsX3_told := goodIn_r _ [162, 13, 6, 8, 2, 10, 3, 196, 197, 198, 199, 200, 201, 202, 203, 204, 205, 206, 207, 208, 209, 210] (by decide +kernel) (by decide +kernel)
set_option maxRecDepth 20000 in
theorem gX3_isSame_X3_told : GoodIn wsX3_isSame (wsV RX3 108 RX3 yX3_told wsX3_told) := goodIn_app (goodIn_of _ (by decide +kernel)) ggX3_isSame_X3_told
set_option maxRecDepth 20000 in
theorem ggX3_isSame_X1_count : GoodIn wsX3_isSame wsX1_count := goodIn_ca (goodIn_r _ [166, 22, 58, 59, 60, 18, 61, 20, 21, 167, 28, 168, 169, 47, 103, 86, 170, 171, 172, 173, 174, 175, 81, 27, 29, 30, 31, 32, 33, 34, 35, 36, 37, 38, 176, 177, 178, 179, 87, 180, 181, 182, 183, 65, 184, 185, 186, 187, 188, 156, 157, 158, 139, 211, 212, 213, 214, 215, 216, 217, 218, 219, 220, 221, 222, 223, 224, 225, 226, 227, 228, 229] (by decide +kernel) (by decide +kernel)) (goodIn_sub (fun _ h => List.mem_cons_of_mem _ (List.mem_append_right _ h)) (by decide +kernel))
set_option maxRecDepth 20000 in
theorem gX3_isSame_X1_count : GoodIn wsX3_isSame (wsV RX3 110 RX1 yX1_count wsX1_count) := goodIn_app (goodIn_of _ (by decide +kernel)) ggX3_isSame_X1_count
set_option maxRecDepth 20000 in
theorem ggX3_isSame_X1_mean : GoodIn wsX3_isSame wsX1_mean := goodIn_r _ [192, 22, 173, 28, 174, 175, 103, 81, 27, 29, 30, 31, 32, 33, 34, 35, 36, 37, 38, 193, 194, 195, 92, 93, 94, 95, 43, 44, 45, 46, 47, 48, 211, 212, 213, 214, 215, 216, 217, 218, 219, 220, 221, 222, 223, 224, 225, 226, 227, 228, 229] (by decide +kernel) (by decide +kernel)
set_option maxRecDepth 20000 in
theorem gX3_isSame_X1_mean : GoodIn wsX3_isSame (wsV RX3 113 RX1 yX1_mean wsX1_mean) := goodIn_app (goodIn_of _ (by decide +kernel)) ggX3_isSame_X1_mean
theorem dX3_isSame_0 : decode cX3_isSame 0 = .ok (.iconst 0, 1) := by decide +kernel
theorem dX3_isSame_1 : decode cX3_isSame 1 = .ok (.istore_n 2, 1) := by decide +kernel
theorem dX3_isSame_2 : decode cX3_isSame 2 = .ok (.iconst 0, 1) := by decide +kernel
theorem dX3_isSame_3 : decode cX3_isSame 3 = .ok (.istore_n 3, 1) := by decide +kernel
theorem dX3_isSame_4 : decode cX3_isSame 4 = .ok (.iload_n 3, 1) := by decide +kernel
theorem dX3_isSame_5 : decode cX3_isSame 5 = .ok (.aload_n 0, 1) := by decide +kernel
theorem dX3_isSame_6 : decode cX3_isSame 6 = .ok (.getfield 7, 3) := by decide +kernel
theorem dX3_isSame_9 : decode cX3_isSame 9 = .ok (.arraylength, 1) := by decide +kernel
theorem dX3_isSame_10 : decode cX3_isSame 10 = .ok (.if_icmp .ge 300, 3) := by decide +kernel
theorem dX3_isSame_13 : decode cX3_isSame 13 = .ok (.iconst 0, 1) := by decide +kernel
theorem dX3_isSame_14 : decode cX3_isSame 14 = .ok (.istore 4, 2) := by decide +kernel
theorem dX3_isSame_16 : decode cX3_isSame 16 = .ok (.iconst 0, 1) := by decide +kernel
theorem dX3_isSame_17 : decode cX3_isSame 17 = .ok (.istore 5, 2) := by decide +kernel
theorem dX3_isSame_19 : decode cX3_isSame 19 = .ok (.iconst 0, 1) := by decide +kernel
theorem dX3_isSame_20 : decode cX3_isSame 20 = .ok (.istore 6, 2) := by decide +kernel
theorem dX3_isSame_22 : decode cX3_isSame 22 = .ok (.aload_n 0, 1) := by decide +kernel
theorem dX3_isSame_23 : decode cX3_isSame 23 = .ok (.getfield 24, 3) := by decide +kernel
theorem dX3_isSame_26 : decode cX3_isSame 26 = .ok (.astore 7, 2) := by decide +kernel
theorem dX3_isSame_28 : decode cX3_isSame 28 = .ok (.aload 7, 2) := by decide +kernel
theorem dX3_isSame_30 : decode cX3_isSame 30 = .ok (.arraylength, 1) := by decide +kernel
theorem dX3_isSame_31 : decode cX3_isSame 31 = .ok (.istore 8, 2) := by decide +kernel
theorem dX3_isSame_33 : decode cX3_isSame 33 = .ok (.iconst 0, 1) := by decide +kernel
theorem dX3_isSame_34 : decode cX3_isSame 34 = .ok (.istore 9, 2) := by decide +kernel
theorem dX3_isSame_36 : decode cX3_isSame 36 = .ok (.iload 9, 2) := by decide +kernel
theorem dX3_isSame_38 : decode cX3_isSame 38 = .ok (.iload 8, 2) := by decide +kernel
theorem dX3_isSame_40 : decode cX3_isSame 40 = .ok (.if_icmp .ge 78, 3) := by decide +kernel
theorem dX3_isSame_43 : decode cX3_isSame 43 = .ok (.aload 7, 2) := by decide +kernel
theorem dX3_isSame_45 : decode cX3_isSame 45 = .ok (.iload 9, 2) := by decide +kernel
theorem dX3_isSame_47 : decode cX3_isSame 47 = .ok (.aaload, 1) := by decide +kernel
theorem dX3_isSame_48 : decode cX3_isSame 48 = .ok (.astore 10, 2) := by decide +kernel
theorem dX3_isSame_50 : decode cX3_isSame 50 = .ok (.iload 4, 2) := by decide +kernel
theorem dX3_isSame_52 : decode cX3_isSame 52 = .ok (.aload 10, 2) := by decide +kernel
theorem dX3_isSame_54 : decode cX3_isSame 54 = .ok (.getfield 51, 3) := by decide +kernel
theorem dX3_isSame_57 : decode cX3_isSame 57 = .ok (.ifCond .ge 16, 3) := by decide +kernel
theorem dX3_isSame_60 : decode cX3_isSame 60 = .ok (.aload 10, 2) := by decide +kernel
theorem dX3_isSame_62 : decode cX3_isSame 62 = .ok (.getfield 54, 3) := by decide +kernel
theorem dX3_isSame_65 : decode cX3_isSame 65 = .ok (.iload_n 3, 1) := by decide +kernel
theorem dX3_isSame_66 : decode cX3_isSame 66 = .ok (.if_icmp .ne 7, 3) := by decide +kernel
theorem dX3_isSame_69 : decode cX3_isSame 69 = .ok (.iconst 1, 1) := by decide +kernel
theorem dX3_isSame_70 : decode cX3_isSame 70 = .ok (.goto 4, 3) := by decide +kernel
theorem dX3_isSame_73 : decode cX3_isSame 73 = .ok (.iconst 0, 1) := by decide +kernel
theorem dX3_isSame_74 : decode cX3_isSame 74 = .ok (.iadd, 1) := by decide +kernel
theorem dX3_isSame_75 : decode cX3_isSame 75 = .ok (.istore 4, 2) := by decide +kernel
theorem dX3_isSame_77 : decode cX3_isSame 77 = .ok (.iload 5, 2) := by decide +kernel
theorem dX3_isSame_79 : decode cX3_isSame 79 = .ok (.aload 10, 2) := by decide +kernel
theorem dX3_isSame_81 : decode cX3_isSame 81 = .ok (.getfield 51, 3) := by decide +kernel
theorem dX3_isSame_84 : decode cX3_isSame 84 = .ok (.ifCond .ge 24, 3) := by decide +kernel
theorem dX3_isSame_87 : decode cX3_isSame 87 = .ok (.aload 10, 2) := by decide +kernel
theorem dX3_isSame_89 : decode cX3_isSame 89 = .ok (.getfield 54, 3) := by decide +kernel
theorem dX3_isSame_92 : decode cX3_isSame 92 = .ok (.iload_n 3, 1) := by decide +kernel
theorem dX3_isSame_93 : decode cX3_isSame 93 = .ok (.if_icmp .ne 15, 3) := by decide +kernel
theorem dX3_isSame_96 : decode cX3_isSame 96 = .ok (.aload 10, 2) := by decide +kernel
theorem dX3_isSame_98 : decode cX3_isSame 98 = .ok (.getfield 64, 3) := by decide +kernel
theorem dX3_isSame_101 : decode cX3_isSame 101 = .ok (.ifCond .ge 7, 3) := by decide +kernel
theorem dX3_isSame_104 : decode cX3_isSame 104 = .ok (.iconst 1, 1) := by decide +kernel
theorem dX3_isSame_105 : decode cX3_isSame 105 = .ok (.goto 4, 3) := by decide +kernel
theorem dX3_isSame_108 : decode cX3_isSame 108 = .ok (.iconst 0, 1) := by decide +kernel
theorem dX3_isSame_109 : decode cX3_isSame 109 = .ok (.iadd, 1) := by decide +kernel
theorem dX3_isSame_110 : decode cX3_isSame 110 = .ok (.istore 5, 2) := by decide +kernel
theorem dX3_isSame_112 : decode cX3_isSame 112 = .ok (.iinc 9 1, 3) := by decide +kernel
theorem dX3_isSame_115 : decode cX3_isSame 115 = .ok (.goto (-79), 3) := by decide +kernel
theorem dX3_isSame_118 : decode cX3_isSame 118 = .ok (.iconst 0, 1) := by decide +kernel
theorem dX3_isSame_119 : decode cX3_isSame 119 = .ok (.istore 7, 2) := by decide +kernel
theorem dX3_isSame_121 : decode cX3_isSame 121 = .ok (.iload 7, 2) := by decide +kernel
theorem dX3_isSame_123 : decode cX3_isSame 123 = .ok (.aload_n 0, 1) := by decide +kernel
theorem dX3_isSame_124 : decode cX3_isSame 124 = .ok (.getfield 15, 3) := by decide +kernel
theorem dX3_isSame_127 : decode cX3_isSame 127 = .ok (.iload_n 3, 1) := by decide +kernel
theorem dX3_isSame_128 : decode cX3_isSame 128 = .ok (.aaload, 1) := by decide +kernel
theorem dX3_isSame_129 : decode cX3_isSame 129 = .ok (.arraylength, 1) := by decide +kernel
theorem dX3_isSame_130 : decode cX3_isSame 130 = .ok (.if_icmp .ge 63, 3) := by decide +kernel
theorem dX3_isSame_133 : decode cX3_isSame 133 = .ok (.iload 6, 2) := by decide +kernel
theorem dX3_isSame_135 : decode cX3_isSame 135 = .ok (.aload_n 0, 1) := by decide +kernel
theorem dX3_isSame_136 : decode cX3_isSame 136 = .ok (.getfield 15, 3) := by decide +kernel
theorem dX3_isSame_139 : decode cX3_isSame 139 = .ok (.iload_n 3, 1) := by decide +kernel
theorem dX3_isSame_140 : decode cX3_isSame 140 = .ok (.aaload, 1) := by decide +kernel
theorem dX3_isSame_141 : decode cX3_isSame 141 = .ok (.iload 7, 2) := by decide +kernel
theorem dX3_isSame_143 : decode cX3_isSame 143 = .ok (.aaload, 1) := by decide +kernel
theorem dX3_isSame_144 : decode cX3_isSame 144 = .ok (.iconst 1, 1) := by decide +kernel
theorem dX3_isSame_145 : decode cX3_isSame 145 = .ok (.iaload, 1) := by decide +kernel
theorem dX3_isSame_146 : decode cX3_isSame 146 = .ok (.iadd, 1) := by decide +kernel
theorem dX3_isSame_147 : decode cX3_isSame 147 = .ok (.istore 6, 2) := by decide +kernel
theorem dX3_isSame_149 : decode cX3_isSame 149 = .ok (.aload_n 1, 1) := by decide +kernel
theorem dX3_isSame_150 : decode cX3_isSame 150 = .ok (.iload_n 3, 1) := by decide +kernel
theorem dX3_isSame_151 : decode cX3_isSame 151 = .ok (.iload 7, 2) := by decide +kernel
theorem dX3_isSame_153 : decode cX3_isSame 153 = .ok (.invokevirtual 92, 3) := by decide +kernel
theorem dX3_isSame_156 : decode cX3_isSame 156 = .ok (.bipush 10, 2) := by decide +kernel
theorem dX3_isSame_158 : decode cX3_isSame 158 = .ok (.aload_n 0, 1) := by decide +kernel
theorem dX3_isSame_159 : decode cX3_isSame 159 = .ok (.getfield 15, 3) := by decide +kernel
theorem dX3_isSame_162 : decode cX3_isSame 162 = .ok (.iload_n 3, 1) := by decide +kernel
theorem dX3_isSame_163 : decode cX3_isSame 163 = .ok (.aaload, 1) := by decide +kernel
theorem dX3_isSame_164 : decode cX3_isSame 164 = .ok (.iload 7, 2) := by decide +kernel
theorem dX3_isSame_166 : decode cX3_isSame 166 = .ok (.aaload, 1) := by decide +kernel
theorem dX3_isSame_167 : decode cX3_isSame 167 = .ok (.iconst 1, 1) := by decide +kernel
theorem dX3_isSame_168 : decode cX3_isSame 168 = .ok (.iaload, 1) := by decide +kernel
theorem dX3_isSame_169 : decode cX3_isSame 169 = .ok (.imul, 1) := by decide +kernel
theorem dX3_isSame_170 : decode cX3_isSame 170 = .ok (.aload_n 0, 1) := by decide +kernel
theorem dX3_isSame_171 : decode cX3_isSame 171 = .ok (.getfield 15, 3) := by decide +kernel
theorem dX3_isSame_174 : decode cX3_isSame 174 = .ok (.iload_n 3, 1) := by decide +kernel
theorem dX3_isSame_175 : decode cX3_isSame 175 = .ok (.aaload, 1) := by decide +kernel
theorem dX3_isSame_176 : decode cX3_isSame 176 = .ok (.iload 7, 2) := by decide +kernel
theorem dX3_isSame_178 : decode cX3_isSame 178 = .ok (.aaload, 1) := by decide +kernel
theorem dX3_isSame_179 : decode cX3_isSame 179 = .ok (.iconst 0, 1) := by decide +kernel
theorem dX3_isSame_180 : decode cX3_isSame 180 = .ok (.iaload, 1) := by decide +kernel
theorem dX3_isSame_181 : decode cX3_isSame 181 = .ok (.iadd, 1) := by decide +kernel
theorem dX3_isSame_182 : decode cX3_isSame 182 = .ok (.if_icmp .eq 5, 3) := by decide +kernel
theorem dX3_isSame_185 : decode cX3_isSame 185 = .ok (.iconst 0, 1) := by decide +kernel
theorem dX3_isSame_186 : decode cX3_isSame 186 = .ok (.ireturn, 1) := by decide +kernel
theorem dX3_isSame_187 : decode cX3_isSame 187 = .ok (.iinc 7 1, 3) := by decide +kernel
theorem dX3_isSame_190 : decode cX3_isSame 190 = .ok (.goto (-69), 3) := by decide +kernel
theorem dX3_isSame_193 : decode cX3_isSame 193 = .ok (.bipush 7, 2) := by decide +kernel
theorem dX3_isSame_195 : decode cX3_isSame 195 = .ok (.newarray .int, 2) := by decide +kernel
theorem dX3_isSame_197 : decode cX3_isSame 197 = .ok (.dup, 1) := by decide +kernel
theorem dX3_isSame_198 : decode cX3_isSame 198 = .ok (.iconst 0, 1) := by decide +kernel
theorem dX3_isSame_199 : decode cX3_isSame 199 = .ok (.aload_n 0, 1) := by decide +kernel
theorem dX3_isSame_200 : decode cX3_isSame 200 = .ok (.getfield 7, 3) := by decide +kernel
theorem dX3_isSame_203 : decode cX3_isSame 203 = .ok (.iload_n 3, 1) := by decide +kernel
theorem dX3_isSame_204 : decode cX3_isSame 204 = .ok (.iaload, 1) := by decide +kernel
theorem dX3_isSame_205 : decode cX3_isSame 205 = .ok (.iastore, 1) := by decide +kernel
theorem dX3_isSame_206 : decode cX3_isSame 206 = .ok (.dup, 1) := by decide +kernel
theorem dX3_isSame_207 : decode cX3_isSame 207 = .ok (.iconst 1, 1) := by decide +kernel
theorem dX3_isSame_208 : decode cX3_isSame 208 = .ok (.iload 4, 2) := by decide +kernel
theorem dX3_isSame_210 : decode cX3_isSame 210 = .ok (.iastore, 1) := by decide +kernel
theorem dX3_isSame_211 : decode cX3_isSame 211 = .ok (.dup, 1) := by decide +kernel
theorem dX3_isSame_212 : decode cX3_isSame 212 = .ok (.iconst 2, 1) := by decide +kernel
theorem dX3_isSame_213 : decode cX3_isSame 213 = .ok (.iload 5, 2) := by decide +kernel
theorem dX3_isSame_215 : decode cX3_isSame 215 = .ok (.iastore, 1) := by decide +kernel
theorem dX3_isSame_216 : decode cX3_isSame 216 = .ok (.dup, 1) := by decide +kernel
theorem dX3_isSame_217 : decode cX3_isSame 217 = .ok (.iconst 3, 1) := by decide +kernel
theorem dX3_isSame_218 : decode cX3_isSame 218 = .ok (.aload_n 0, 1) := by decide +kernel
theorem dX3_isSame_219 : decode cX3_isSame 219 = .ok (.getfield 15, 3) := by decide +kernel
theorem dX3_isSame_222 : decode cX3_isSame 222 = .ok (.iload_n 3, 1) := by decide +kernel
theorem dX3_isSame_223 : decode cX3_isSame 223 = .ok (.aaload, 1) := by decide +kernel
theorem dX3_isSame_224 : decode cX3_isSame 224 = .ok (.arraylength, 1) := by decide +kernel
theorem dX3_isSame_225 : decode cX3_isSame 225 = .ok (.iastore, 1) := by decide +kernel
theorem dX3_isSame_226 : decode cX3_isSame 226 = .ok (.dup, 1) := by decide +kernel
theorem dX3_isSame_227 : decode cX3_isSame 227 = .ok (.iconst 4, 1) := by decide +kernel
theorem dX3_isSame_228 : decode cX3_isSame 228 = .ok (.aload_n 0, 1) := by decide +kernel
theorem dX3_isSame_229 : decode cX3_isSame 229 = .ok (.iload_n 3, 1) := by decide +kernel
theorem dX3_isSame_230 : decode cX3_isSame 230 = .ok (.invokevirtual 86, 3) := by decide +kernel
theorem dX3_isSame_233 : decode cX3_isSame 233 = .ok (.iastore, 1) := by decide +kernel
theorem dX3_isSame_234 : decode cX3_isSame 234 = .ok (.dup, 1) := by decide +kernel
theorem dX3_isSame_235 : decode cX3_isSame 235 = .ok (.iconst 5, 1) := by decide +kernel
theorem dX3_isSame_236 : decode cX3_isSame 236 = .ok (.iload 6, 2) := by decide +kernel
theorem dX3_isSame_238 : decode cX3_isSame 238 = .ok (.iastore, 1) := by decide +kernel
theorem dX3_isSame_239 : decode cX3_isSame 239 = .ok (.dup, 1) := by decide +kernel
theorem dX3_isSame_240 : decode cX3_isSame 240 = .ok (.bipush 6, 2) := by decide +kernel
theorem dX3_isSame_242 : decode cX3_isSame 242 = .ok (.aload_n 0, 1) := by decide +kernel
theorem dX3_isSame_243 : decode cX3_isSame 243 = .ok (.getfield 19, 3) := by decide +kernel
theorem dX3_isSame_246 : decode cX3_isSame 246 = .ok (.iload_n 3, 1) := by decide +kernel
theorem dX3_isSame_247 : decode cX3_isSame 247 = .ok (.iaload, 1) := by decide +kernel
theorem dX3_isSame_248 : decode cX3_isSame 248 = .ok (.iastore, 1) := by decide +kernel
theorem dX3_isSame_249 : decode cX3_isSame 249 = .ok (.astore 7, 2) := by decide +kernel
theorem dX3_isSame_251 : decode cX3_isSame 251 = .ok (.iconst 0, 1) := by decide +kernel
theorem dX3_isSame_252 : decode cX3_isSame 252 = .ok (.istore 8, 2) := by decide +kernel
theorem dX3_isSame_254 : decode cX3_isSame 254 = .ok (.iload 8, 2) := by decide +kernel
theorem dX3_isSame_256 : decode cX3_isSame 256 = .ok (.bipush 7, 2) := by decide +kernel
theorem dX3_isSame_258 : decode cX3_isSame 258 = .ok (.if_icmp .ge 26, 3) := by decide +kernel
theorem dX3_isSame_261 : decode cX3_isSame 261 = .ok (.aload_n 1, 1) := by decide +kernel
theorem dX3_isSame_262 : decode cX3_isSame 262 = .ok (.iload_n 3, 1) := by decide +kernel
theorem dX3_isSame_263 : decode cX3_isSame 263 = .ok (.iload 8, 2) := by decide +kernel
theorem dX3_isSame_265 : decode cX3_isSame 265 = .ok (.invokevirtual 97, 3) := by decide +kernel
theorem dX3_isSame_268 : decode cX3_isSame 268 = .ok (.aload 7, 2) := by decide +kernel
theorem dX3_isSame_270 : decode cX3_isSame 270 = .ok (.iload 8, 2) := by decide +kernel
theorem dX3_isSame_272 : decode cX3_isSame 272 = .ok (.iaload, 1) := by decide +kernel
theorem dX3_isSame_273 : decode cX3_isSame 273 = .ok (.if_icmp .eq 5, 3) := by decide +kernel
theorem dX3_isSame_276 : decode cX3_isSame 276 = .ok (.iconst 0, 1) := by decide +kernel
theorem dX3_isSame_277 : decode cX3_isSame 277 = .ok (.ireturn, 1) := by decide +kernel
theorem dX3_isSame_278 : decode cX3_isSame 278 = .ok (.iinc 8 1, 3) := by decide +kernel
theorem dX3_isSame_281 : decode cX3_isSame 281 = .ok (.goto (-27), 3) := by decide +kernel
theorem dX3_isSame_284 : decode cX3_isSame 284 = .ok (.aload_n 1, 1) := by decide +kernel
theorem dX3_isSame_285 : decode cX3_isSame 285 = .ok (.iload_n 3, 1) := by decide +kernel
theorem dX3_isSame_286 : decode cX3_isSame 286 = .ok (.invokevirtual 100, 3) := by decide +kernel
theorem dX3_isSame_289 : decode cX3_isSame 289 = .ok (.aload_n 0, 1) := by decide +kernel
theorem dX3_isSame_290 : decode cX3_isSame 290 = .ok (.iload_n 3, 1) := by decide +kernel
theorem dX3_isSame_291 : decode cX3_isSame 291 = .ok (.invokevirtual 89, 3) := by decide +kernel
theorem dX3_isSame_294 : decode cX3_isSame 294 = .ok (.if_icmp .eq 5, 3) := by decide +kernel
theorem dX3_isSame_297 : decode cX3_isSame 297 = .ok (.iconst 0, 1) := by decide +kernel
theorem dX3_isSame_298 : decode cX3_isSame 298 = .ok (.ireturn, 1) := by decide +kernel
theorem dX3_isSame_299 : decode cX3_isSame 299 = .ok (.iload_n 2, 1) := by decide +kernel
theorem dX3_isSame_300 : decode cX3_isSame 300 = .ok (.iload 6, 2) := by decide +kernel
theorem dX3_isSame_302 : decode cX3_isSame 302 = .ok (.iadd, 1) := by decide +kernel
theorem dX3_isSame_303 : decode cX3_isSame 303 = .ok (.istore_n 2, 1) := by decide +kernel
theorem dX3_isSame_304 : decode cX3_isSame 304 = .ok (.iinc 3 1, 3) := by decide +kernel
theorem dX3_isSame_307 : decode cX3_isSame 307 = .ok (.goto (-303), 3) := by decide +kernel
theorem dX3_isSame_310 : decode cX3_isSame 310 = .ok (.iconst 0, 1) := by decide +kernel
theorem dX3_isSame_311 : decode cX3_isSame 311 = .ok (.istore_n 3, 1) := by decide +kernel
theorem dX3_isSame_312 : decode cX3_isSame 312 = .ok (.iload_n 3, 1) := by decide +kernel
theorem dX3_isSame_313 : decode cX3_isSame 313 = .ok (.aload_n 0, 1) := by decide +kernel
theorem dX3_isSame_314 : decode cX3_isSame 314 = .ok (.getfield 24, 3) := by decide +kernel
theorem dX3_isSame_317 : decode cX3_isSame 317 = .ok (.arraylength, 1) := by decide +kernel
theorem dX3_isSame_318 : decode cX3_isSame 318 = .ok (.if_icmp .ge 145, 3) := by decide +kernel
theorem dX3_isSame_321 : decode cX3_isSame 321 = .ok (.aload_n 0, 1) := by decide +kernel
theorem dX3_isSame_322 : decode cX3_isSame 322 = .ok (.getfield 24, 3) := by decide +kernel
theorem dX3_isSame_325 : decode cX3_isSame 325 = .ok (.iload_n 3, 1) := by decide +kernel
theorem dX3_isSame_326 : decode cX3_isSame 326 = .ok (.aaload, 1) := by decide +kernel
theorem dX3_isSame_327 : decode cX3_isSame 327 = .ok (.astore 4, 2) := by decide +kernel
theorem dX3_isSame_329 : decode cX3_isSame 329 = .ok (.aload 4, 2) := by decide +kernel
theorem dX3_isSame_331 : decode cX3_isSame 331 = .ok (.getfield 51, 3) := by decide +kernel
theorem dX3_isSame_334 : decode cX3_isSame 334 = .ok (.ifCond .lt 7, 3) := by decide +kernel
theorem dX3_isSame_337 : decode cX3_isSame 337 = .ok (.iconst 1, 1) := by decide +kernel
theorem dX3_isSame_338 : decode cX3_isSame 338 = .ok (.goto 4, 3) := by decide +kernel
theorem dX3_isSame_341 : decode cX3_isSame 341 = .ok (.iconst 0, 1) := by decide +kernel
theorem dX3_isSame_342 : decode cX3_isSame 342 = .ok (.istore 5, 2) := by decide +kernel
theorem dX3_isSame_344 : decode cX3_isSame 344 = .ok (.bipush 6, 2) := by decide +kernel
theorem dX3_isSame_346 : decode cX3_isSame 346 = .ok (.newarray .int, 2) := by decide +kernel
theorem dX3_isSame_348 : decode cX3_isSame 348 = .ok (.dup, 1) := by decide +kernel
theorem dX3_isSame_349 : decode cX3_isSame 349 = .ok (.iconst 0, 1) := by decide +kernel
theorem dX3_isSame_350 : decode cX3_isSame 350 = .ok (.aload 4, 2) := by decide +kernel
theorem dX3_isSame_352 : decode cX3_isSame 352 = .ok (.getfield 51, 3) := by decide +kernel
theorem dX3_isSame_355 : decode cX3_isSame 355 = .ok (.iastore, 1) := by decide +kernel
theorem dX3_isSame_356 : decode cX3_isSame 356 = .ok (.dup, 1) := by decide +kernel
theorem dX3_isSame_357 : decode cX3_isSame 357 = .ok (.iconst 1, 1) := by decide +kernel
theorem dX3_isSame_358 : decode cX3_isSame 358 = .ok (.iload 5, 2) := by decide +kernel
theorem dX3_isSame_360 : decode cX3_isSame 360 = .ok (.ifCond .eq 7, 3) := by decide +kernel
theorem dX3_isSame_363 : decode cX3_isSame 363 = .ok (.iconst (-1), 1) := by decide +kernel
theorem dX3_isSame_364 : decode cX3_isSame 364 = .ok (.goto 8, 3) := by decide +kernel
theorem dX3_isSame_367 : decode cX3_isSame 367 = .ok (.aload 4, 2) := by decide +kernel
theorem dX3_isSame_369 : decode cX3_isSame 369 = .ok (.getfield 54, 3) := by decide +kernel
theorem dX3_isSame_372 : decode cX3_isSame 372 = .ok (.iastore, 1) := by decide +kernel
theorem dX3_isSame_373 : decode cX3_isSame 373 = .ok (.dup, 1) := by decide +kernel
theorem dX3_isSame_374 : decode cX3_isSame 374 = .ok (.iconst 2, 1) := by decide +kernel
theorem dX3_isSame_375 : decode cX3_isSame 375 = .ok (.iload 5, 2) := by decide +kernel
theorem dX3_isSame_377 : decode cX3_isSame 377 = .ok (.ifCond .eq 7, 3) := by decide +kernel
theorem dX3_isSame_380 : decode cX3_isSame 380 = .ok (.iconst (-1), 1) := by decide +kernel
theorem dX3_isSame_381 : decode cX3_isSame 381 = .ok (.goto 8, 3) := by decide +kernel
theorem dX3_isSame_384 : decode cX3_isSame 384 = .ok (.aload 4, 2) := by decide +kernel
theorem dX3_isSame_386 : decode cX3_isSame 386 = .ok (.getfield 57, 3) := by decide +kernel
theorem dX3_isSame_389 : decode cX3_isSame 389 = .ok (.iastore, 1) := by decide +kernel
theorem dX3_isSame_390 : decode cX3_isSame 390 = .ok (.dup, 1) := by decide +kernel
theorem dX3_isSame_391 : decode cX3_isSame 391 = .ok (.iconst 3, 1) := by decide +kernel
theorem dX3_isSame_392 : decode cX3_isSame 392 = .ok (.aload 4, 2) := by decide +kernel
theorem dX3_isSame_394 : decode cX3_isSame 394 = .ok (.getfield 64, 3) := by decide +kernel
theorem dX3_isSame_397 : decode cX3_isSame 397 = .ok (.iastore, 1) := by decide +kernel
theorem dX3_isSame_398 : decode cX3_isSame 398 = .ok (.dup, 1) := by decide +kernel
theorem dX3_isSame_399 : decode cX3_isSame 399 = .ok (.iconst 4, 1) := by decide +kernel
theorem dX3_isSame_400 : decode cX3_isSame 400 = .ok (.aload 4, 2) := by decide +kernel
theorem dX3_isSame_402 : decode cX3_isSame 402 = .ok (.getfield 67, 3) := by decide +kernel
theorem dX3_isSame_405 : decode cX3_isSame 405 = .ok (.ifCond .le 7, 3) := by decide +kernel
theorem dX3_isSame_408 : decode cX3_isSame 408 = .ok (.iconst 1, 1) := by decide +kernel
theorem dX3_isSame_409 : decode cX3_isSame 409 = .ok (.goto 4, 3) := by decide +kernel
theorem dX3_isSame_412 : decode cX3_isSame 412 = .ok (.iconst 0, 1) := by decide +kernel
theorem dX3_isSame_413 : decode cX3_isSame 413 = .ok (.iastore, 1) := by decide +kernel
theorem dX3_isSame_414 : decode cX3_isSame 414 = .ok (.dup, 1) := by decide +kernel
theorem dX3_isSame_415 : decode cX3_isSame 415 = .ok (.iconst 5, 1) := by decide +kernel
theorem dX3_isSame_416 : decode cX3_isSame 416 = .ok (.aload 4, 2) := by decide +kernel
theorem dX3_isSame_418 : decode cX3_isSame 418 = .ok (.getfield 80, 3) := by decide +kernel
theorem dX3_isSame_421 : decode cX3_isSame 421 = .ok (.iastore, 1) := by decide +kernel
theorem dX3_isSame_422 : decode cX3_isSame 422 = .ok (.astore 6, 2) := by decide +kernel
theorem dX3_isSame_424 : decode cX3_isSame 424 = .ok (.iconst 0, 1) := by decide +kernel
theorem dX3_isSame_425 : decode cX3_isSame 425 = .ok (.istore 7, 2) := by decide +kernel
theorem dX3_isSame_427 : decode cX3_isSame 427 = .ok (.iload 7, 2) := by decide +kernel
theorem dX3_isSame_429 : decode cX3_isSame 429 = .ok (.bipush 6, 2) := by decide +kernel
theorem dX3_isSame_431 : decode cX3_isSame 431 = .ok (.if_icmp .ge 26, 3) := by decide +kernel
theorem dX3_isSame_434 : decode cX3_isSame 434 = .ok (.aload_n 1, 1) := by decide +kernel
theorem dX3_isSame_435 : decode cX3_isSame 435 = .ok (.iload_n 3, 1) := by decide +kernel
theorem dX3_isSame_436 : decode cX3_isSame 436 = .ok (.iload 7, 2) := by decide +kernel
theorem dX3_isSame_438 : decode cX3_isSame 438 = .ok (.invokevirtual 103, 3) := by decide +kernel
theorem dX3_isSame_441 : decode cX3_isSame 441 = .ok (.aload 6, 2) := by decide +kernel
theorem dX3_isSame_443 : decode cX3_isSame 443 = .ok (.iload 7, 2) := by decide +kernel
theorem dX3_isSame_445 : decode cX3_isSame 445 = .ok (.iaload, 1) := by decide +kernel
theorem dX3_isSame_446 : decode cX3_isSame 446 = .ok (.if_icmp .eq 5, 3) := by decide +kernel
theorem dX3_isSame_449 : decode cX3_isSame 449 = .ok (.iconst 0, 1) := by decide +kernel
theorem dX3_isSame_450 : decode cX3_isSame 450 = .ok (.ireturn, 1) := by decide +kernel
theorem dX3_isSame_451 : decode cX3_isSame 451 = .ok (.iinc 7 1, 3) := by decide +kernel
theorem dX3_isSame_454 : decode cX3_isSame 454 = .ok (.goto (-27), 3) := by decide +kernel
theorem dX3_isSame_457 : decode cX3_isSame 457 = .ok (.iinc 3 1, 3) := by decide +kernel
theorem dX3_isSame_460 : decode cX3_isSame 460 = .ok (.goto (-148), 3) := by decide +kernel
theorem dX3_isSame_463 : decode cX3_isSame 463 = .ok (.iconst 0, 1) := by decide +kernel
theorem dX3_isSame_464 : decode cX3_isSame 464 = .ok (.istore_n 3, 1) := by decide +kernel
theorem dX3_isSame_465 : decode cX3_isSame 465 = .ok (.iload_n 3, 1) := by decide +kernel
theorem dX3_isSame_466 : decode cX3_isSame 466 = .ok (.bipush 24, 2) := by decide +kernel
theorem dX3_isSame_468 : decode cX3_isSame 468 = .ok (.if_icmp .ge 61, 3) := by decide +kernel
theorem dX3_isSame_471 : decode cX3_isSame 471 = .ok (.iconst (-1), 1) := by decide +kernel
theorem dX3_isSame_472 : decode cX3_isSame 472 = .ok (.istore 4, 2) := by decide +kernel
theorem dX3_isSame_474 : decode cX3_isSame 474 = .ok (.iconst 0, 1) := by decide +kernel
theorem dX3_isSame_475 : decode cX3_isSame 475 = .ok (.istore 5, 2) := by decide +kernel
theorem dX3_isSame_477 : decode cX3_isSame 477 = .ok (.iload 5, 2) := by decide +kernel
theorem dX3_isSame_479 : decode cX3_isSame 479 = .ok (.aload_n 0, 1) := by decide +kernel
theorem dX3_isSame_480 : decode cX3_isSame 480 = .ok (.getfield 24, 3) := by decide +kernel
theorem dX3_isSame_483 : decode cX3_isSame 483 = .ok (.arraylength, 1) := by decide +kernel
theorem dX3_isSame_484 : decode cX3_isSame 484 = .ok (.if_icmp .ge 27, 3) := by decide +kernel
theorem dX3_isSame_487 : decode cX3_isSame 487 = .ok (.aload_n 0, 1) := by decide +kernel
theorem dX3_isSame_488 : decode cX3_isSame 488 = .ok (.getfield 24, 3) := by decide +kernel
theorem dX3_isSame_491 : decode cX3_isSame 491 = .ok (.iload 5, 2) := by decide +kernel
theorem dX3_isSame_493 : decode cX3_isSame 493 = .ok (.aaload, 1) := by decide +kernel
theorem dX3_isSame_494 : decode cX3_isSame 494 = .ok (.getfield 51, 3) := by decide +kernel
theorem dX3_isSame_497 : decode cX3_isSame 497 = .ok (.iload_n 3, 1) := by decide +kernel
theorem dX3_isSame_498 : decode cX3_isSame 498 = .ok (.if_icmp .ne 7, 3) := by decide +kernel
theorem dX3_isSame_501 : decode cX3_isSame 501 = .ok (.iload 5, 2) := by decide +kernel
theorem dX3_isSame_503 : decode cX3_isSame 503 = .ok (.istore 4, 2) := by decide +kernel
theorem dX3_isSame_505 : decode cX3_isSame 505 = .ok (.iinc 5 1, 3) := by decide +kernel
theorem dX3_isSame_508 : decode cX3_isSame 508 = .ok (.goto (-31), 3) := by decide +kernel
theorem dX3_isSame_511 : decode cX3_isSame 511 = .ok (.aload_n 1, 1) := by decide +kernel
theorem dX3_isSame_512 : decode cX3_isSame 512 = .ok (.iload_n 3, 1) := by decide +kernel
theorem dX3_isSame_513 : decode cX3_isSame 513 = .ok (.invokevirtual 106, 3) := by decide +kernel
theorem dX3_isSame_516 : decode cX3_isSame 516 = .ok (.iload 4, 2) := by decide +kernel
theorem dX3_isSame_518 : decode cX3_isSame 518 = .ok (.if_icmp .eq 5, 3) := by decide +kernel
theorem dX3_isSame_521 : decode cX3_isSame 521 = .ok (.iconst 0, 1) := by decide +kernel
theorem dX3_isSame_522 : decode cX3_isSame 522 = .ok (.ireturn, 1) := by decide +kernel
theorem dX3_isSame_523 : decode cX3_isSame 523 = .ok (.iinc 3 1, 3) := by decide +kernel
theorem dX3_isSame_526 : decode cX3_isSame 526 = .ok (.goto (-61), 3) := by decide +kernel
theorem dX3_isSame_529 : decode cX3_isSame 529 = .ok (.bipush 9, 2) := by decide +kernel
theorem dX3_isSame_531 : decode cX3_isSame 531 = .ok (.newarray .int, 2) := by decide +kernel
theorem dX3_isSame_533 : decode cX3_isSame 533 = .ok (.dup, 1) := by decide +kernel
theorem dX3_isSame_534 : decode cX3_isSame 534 = .ok (.iconst 0, 1) := by decide +kernel
theorem dX3_isSame_535 : decode cX3_isSame 535 = .ok (.aload_n 0, 1) := by decide +kernel
theorem dX3_isSame_536 : decode cX3_isSame 536 = .ok (.getfield 42, 3) := by decide +kernel
theorem dX3_isSame_539 : decode cX3_isSame 539 = .ok (.iastore, 1) := by decide +kernel
theorem dX3_isSame_540 : decode cX3_isSame 540 = .ok (.dup, 1) := by decide +kernel
theorem dX3_isSame_541 : decode cX3_isSame 541 = .ok (.iconst 1, 1) := by decide +kernel
theorem dX3_isSame_542 : decode cX3_isSame 542 = .ok (.aload_n 0, 1) := by decide +kernel
theorem dX3_isSame_543 : decode cX3_isSame 543 = .ok (.getfield 7, 3) := by decide +kernel
theorem dX3_isSame_546 : decode cX3_isSame 546 = .ok (.arraylength, 1) := by decide +kernel
theorem dX3_isSame_547 : decode cX3_isSame 547 = .ok (.iastore, 1) := by decide +kernel
theorem dX3_isSame_548 : decode cX3_isSame 548 = .ok (.dup, 1) := by decide +kernel
theorem dX3_isSame_549 : decode cX3_isSame 549 = .ok (.iconst 2, 1) := by decide +kernel
theorem dX3_isSame_550 : decode cX3_isSame 550 = .ok (.aload_n 0, 1) := by decide +kernel
theorem dX3_isSame_551 : decode cX3_isSame 551 = .ok (.getfield 24, 3) := by decide +kernel
theorem dX3_isSame_554 : decode cX3_isSame 554 = .ok (.arraylength, 1) := by decide +kernel
theorem dX3_isSame_555 : decode cX3_isSame 555 = .ok (.iastore, 1) := by decide +kernel
theorem dX3_isSame_556 : decode cX3_isSame 556 = .ok (.dup, 1) := by decide +kernel
theorem dX3_isSame_557 : decode cX3_isSame 557 = .ok (.iconst 3, 1) := by decide +kernel
theorem dX3_isSame_558 : decode cX3_isSame 558 = .ok (.aload_n 0, 1) := by decide +kernel
theorem dX3_isSame_559 : decode cX3_isSame 559 = .ok (.iconst 3, 1) := by decide +kernel
theorem dX3_isSame_560 : decode cX3_isSame 560 = .ok (.invokevirtual 108, 3) := by decide +kernel
theorem dX3_isSame_563 : decode cX3_isSame 563 = .ok (.iastore, 1) := by decide +kernel
theorem dX3_isSame_564 : decode cX3_isSame 564 = .ok (.dup, 1) := by decide +kernel
theorem dX3_isSame_565 : decode cX3_isSame 565 = .ok (.iconst 4, 1) := by decide +kernel
theorem dX3_isSame_566 : decode cX3_isSame 566 = .ok (.aload_n 0, 1) := by decide +kernel
theorem dX3_isSame_567 : decode cX3_isSame 567 = .ok (.iconst 4, 1) := by decide +kernel
theorem dX3_isSame_568 : decode cX3_isSame 568 = .ok (.invokevirtual 108, 3) := by decide +kernel
theorem dX3_isSame_571 : decode cX3_isSame 571 = .ok (.iastore, 1) := by decide +kernel
theorem dX3_isSame_572 : decode cX3_isSame 572 = .ok (.dup, 1) := by decide +kernel
theorem dX3_isSame_573 : decode cX3_isSame 573 = .ok (.iconst 5, 1) := by decide +kernel
theorem dX3_isSame_574 : decode cX3_isSame 574 = .ok (.aload_n 0, 1) := by decide +kernel
theorem dX3_isSame_575 : decode cX3_isSame 575 = .ok (.iconst 5, 1) := by decide +kernel
theorem dX3_isSame_576 : decode cX3_isSame 576 = .ok (.invokevirtual 108, 3) := by decide +kernel
theorem dX3_isSame_579 : decode cX3_isSame 579 = .ok (.iastore, 1) := by decide +kernel
theorem dX3_isSame_580 : decode cX3_isSame 580 = .ok (.dup, 1) := by decide +kernel
theorem dX3_isSame_581 : decode cX3_isSame 581 = .ok (.bipush 6, 2) := by decide +kernel
theorem dX3_isSame_583 : decode cX3_isSame 583 = .ok (.aload_n 0, 1) := by decide +kernel
theorem dX3_isSame_584 : decode cX3_isSame 584 = .ok (.bipush 6, 2) := by decide +kernel
theorem dX3_isSame_586 : decode cX3_isSame 586 = .ok (.invokevirtual 108, 3) := by decide +kernel
theorem dX3_isSame_589 : decode cX3_isSame 589 = .ok (.iastore, 1) := by decide +kernel
theorem dX3_isSame_590 : decode cX3_isSame 590 = .ok (.dup, 1) := by decide +kernel
theorem dX3_isSame_591 : decode cX3_isSame 591 = .ok (.bipush 7, 2) := by decide +kernel
theorem dX3_isSame_593 : decode cX3_isSame 593 = .ok (.aload_n 0, 1) := by decide +kernel
theorem dX3_isSame_594 : decode cX3_isSame 594 = .ok (.getfield 45, 3) := by decide +kernel
theorem dX3_isSame_597 : decode cX3_isSame 597 = .ok (.iastore, 1) := by decide +kernel
theorem dX3_isSame_598 : decode cX3_isSame 598 = .ok (.dup, 1) := by decide +kernel
theorem dX3_isSame_599 : decode cX3_isSame 599 = .ok (.bipush 8, 2) := by decide +kernel
theorem dX3_isSame_601 : decode cX3_isSame 601 = .ok (.aload_n 0, 1) := by decide +kernel
theorem dX3_isSame_602 : decode cX3_isSame 602 = .ok (.getfield 48, 3) := by decide +kernel
theorem dX3_isSame_605 : decode cX3_isSame 605 = .ok (.iastore, 1) := by decide +kernel
theorem dX3_isSame_606 : decode cX3_isSame 606 = .ok (.astore_n 3, 1) := by decide +kernel
theorem dX3_isSame_607 : decode cX3_isSame 607 = .ok (.iconst 0, 1) := by decide +kernel
theorem dX3_isSame_608 : decode cX3_isSame 608 = .ok (.istore 4, 2) := by decide +kernel
theorem dX3_isSame_610 : decode cX3_isSame 610 = .ok (.iload 4, 2) := by decide +kernel
theorem dX3_isSame_612 : decode cX3_isSame 612 = .ok (.bipush 9, 2) := by decide +kernel
theorem dX3_isSame_614 : decode cX3_isSame 614 = .ok (.if_icmp .ge 24, 3) := by decide +kernel
theorem dX3_isSame_617 : decode cX3_isSame 617 = .ok (.aload_n 1, 1) := by decide +kernel
theorem dX3_isSame_618 : decode cX3_isSame 618 = .ok (.iload 4, 2) := by decide +kernel
theorem dX3_isSame_620 : decode cX3_isSame 620 = .ok (.invokevirtual 110, 3) := by decide +kernel
theorem dX3_isSame_623 : decode cX3_isSame 623 = .ok (.aload_n 3, 1) := by decide +kernel
theorem dX3_isSame_624 : decode cX3_isSame 624 = .ok (.iload 4, 2) := by decide +kernel
theorem dX3_isSame_626 : decode cX3_isSame 626 = .ok (.iaload, 1) := by decide +kernel
theorem dX3_isSame_627 : decode cX3_isSame 627 = .ok (.if_icmp .eq 5, 3) := by decide +kernel
theorem dX3_isSame_630 : decode cX3_isSame 630 = .ok (.iconst 0, 1) := by decide +kernel
theorem dX3_isSame_631 : decode cX3_isSame 631 = .ok (.ireturn, 1) := by decide +kernel
theorem dX3_isSame_632 : decode cX3_isSame 632 = .ok (.iinc 4 1, 3) := by decide +kernel
theorem dX3_isSame_635 : decode cX3_isSame 635 = .ok (.goto (-25), 3) := by decide +kernel
theorem dX3_isSame_638 : decode cX3_isSame 638 = .ok (.aload_n 1, 1) := by decide +kernel
theorem dX3_isSame_639 : decode cX3_isSame 639 = .ok (.invokevirtual 113, 3) := by decide +kernel
theorem dX3_isSame_642 : decode cX3_isSame 642 = .ok (.aload_n 0, 1) := by decide +kernel
theorem dX3_isSame_643 : decode cX3_isSame 643 = .ok (.iconst 3, 1) := by decide +kernel
theorem dX3_isSame_644 : decode cX3_isSame 644 = .ok (.invokevirtual 108, 3) := by decide +kernel
theorem dX3_isSame_647 : decode cX3_isSame 647 = .ok (.ifCond .ne 7, 3) := by decide +kernel
theorem dX3_isSame_650 : decode cX3_isSame 650 = .ok (.dconst 0, 1) := by decide +kernel
theorem dX3_isSame_651 : decode cX3_isSame 651 = .ok (.goto 12, 3) := by decide +kernel
theorem dX3_isSame_654 : decode cX3_isSame 654 = .ok (.iload_n 2, 1) := by decide +kernel
theorem dX3_isSame_655 : decode cX3_isSame 655 = .ok (.i2d, 1) := by decide +kernel
theorem dX3_isSame_656 : decode cX3_isSame 656 = .ok (.aload_n 0, 1) := by decide +kernel
theorem dX3_isSame_657 : decode cX3_isSame 657 = .ok (.iconst 3, 1) := by decide +kernel
theorem dX3_isSame_658 : decode cX3_isSame 658 = .ok (.invokevirtual 108, 3) := by decide +kernel
theorem dX3_isSame_661 : decode cX3_isSame 661 = .ok (.i2d, 1) := by decide +kernel
theorem dX3_isSame_662 : decode cX3_isSame 662 = .ok (.ddiv, 1) := by decide +kernel
theorem dX3_isSame_663 : decode cX3_isSame 663 = .ok (.dcmp .l, 1) := by decide +kernel
theorem dX3_isSame_664 : decode cX3_isSame 664 = .ok (.ifCond .ne 7, 3) := by decide +kernel
theorem dX3_isSame_667 : decode cX3_isSame 667 = .ok (.iconst 1, 1) := by decide +kernel
theorem dX3_isSame_668 : decode cX3_isSame 668 = .ok (.goto 4, 3) := by decide +kernel
theorem dX3_isSame_671 : decode cX3_isSame 671 = .ok (.iconst 0, 1) := by decide +kernel
theorem dX3_isSame_672 : decode cX3_isSame 672 = .ok (.ireturn, 1) := by decide +kernel
