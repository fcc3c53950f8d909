set_option maxRecDepth 20000 in
theorem ggX0_init_X0_emptyRow : GoodIn wsX0_init wsX0_emptyRow := goodIn_r _ [19, 20, 21, 22, 23, 6, 24, 25, 26, 27] (by decide +kernel) (by decide +kernel)
set_option maxRecDepth 20000 in
theorem gX0_init_X0_emptyRow : GoodIn wsX0_init (va_wsS RX0 9 yX0_emptyRow wsX0_emptyRow) := goodIn_app (goodIn_of _ (by decide +kernel)) ggX0_init_X0_emptyRow
theorem dX0_init_0 : decode cX0_init 0 = .ok (.aload_n 0, 1) := by decide +kernel
theorem dX0_init_1 : decode cX0_init 1 = .ok (.invokespecial 3, 3) := by decide +kernel
theorem dX0_init_4 : decode cX0_init 4 = .ok (.aload_n 0, 1) := by decide +kernel
theorem dX0_init_5 : decode cX0_init 5 = .ok (.bipush 24, 2) := by decide +kernel
theorem dX0_init_7 : decode cX0_init 7 = .ok (.invokestatic 9, 3) := by decide +kernel
theorem dX0_init_10 : decode cX0_init 10 = .ok (.putfield 15, 3) := by decide +kernel
theorem dX0_init_13 : decode cX0_init 13 = .ok (.aload_n 0, 1) := by decide +kernel
theorem dX0_init_14 : decode cX0_init 14 = .ok (.bipush 18, 2) := by decide +kernel
theorem dX0_init_16 : decode cX0_init 16 = .ok (.invokestatic 9, 3) := by decide +kernel
theorem dX0_init_19 : decode cX0_init 19 = .ok (.putfield 19, 3) := by decide +kernel
theorem dX0_init_22 : decode cX0_init 22 = .ok (.aload_n 0, 1) := by decide +kernel
theorem dX0_init_23 : decode cX0_init 23 = .ok (.bipush 6, 2) := by decide +kernel
theorem dX0_init_25 : decode cX0_init 25 = .ok (.newarray .int, 2) := by decide +kernel
theorem dX0_init_27 : decode cX0_init 27 = .ok (.putfield 22, 3) := by decide +kernel
theorem dX0_init_30 : decode cX0_init 30 = .ok (.aload_n 0, 1) := by decide +kernel
theorem dX0_init_31 : decode cX0_init 31 = .ok (.bipush 6, 2) := by decide +kernel
theorem dX0_init_33 : decode cX0_init 33 = .ok (.newarray .int, 2) := by decide +kernel
theorem dX0_init_35 : decode cX0_init 35 = .ok (.putfield 25, 3) := by decide +kernel
theorem dX0_init_38 : decode cX0_init 38 = .ok (.aload_n 0, 1) := by decide +kernel
theorem dX0_init_39 : decode cX0_init 39 = .ok (.bipush 6, 2) := by decide +kernel
theorem dX0_init_41 : decode cX0_init 41 = .ok (.newarray .int, 2) := by decide +kernel
theorem dX0_init_43 : decode cX0_init 43 = .ok (.putfield 28, 3) := by decide +kernel
theorem dX0_init_46 : decode cX0_init 46 = .ok (.aload_n 0, 1) := by decide +kernel
theorem dX0_init_47 : decode cX0_init 47 = .ok (.bipush 54, 2) := by decide +kernel
theorem dX0_init_49 : decode cX0_init 49 = .ok (.newarray .int, 2) := by decide +kernel
theorem dX0_init_51 : decode cX0_init 51 = .ok (.putfield 31, 3) := by decide +kernel
theorem dX0_init_54 : decode cX0_init 54 = .ok (.aload_n 0, 1) := by decide +kernel
theorem dX0_init_55 : decode cX0_init 55 = .ok (.bipush 54, 2) := by decide +kernel
theorem dX0_init_57 : decode cX0_init 57 = .ok (.newarray .int, 2) := by decide +kernel
theorem dX0_init_59 : decode cX0_init 59 = .ok (.putfield 34, 3) := by decide +kernel
theorem dX0_init_62 : decode cX0_init 62 = .ok (.aload_n 0, 1) := by decide +kernel
theorem dX0_init_63 : decode cX0_init 63 = .ok (.bipush 54, 2) := by decide +kernel
theorem dX0_init_65 : decode cX0_init 65 = .ok (.newarray .int, 2) := by decide +kernel
theorem dX0_init_67 : decode cX0_init 67 = .ok (.putfield 37, 3) := by decide +kernel
theorem dX0_init_70 : decode cX0_init 70 = .ok (.aload_n 0, 1) := by decide +kernel
theorem dX0_init_71 : decode cX0_init 71 = .ok (.bipush 12, 2) := by decide +kernel
theorem dX0_init_73 : decode cX0_init 73 = .ok (.invokestatic 9, 3) := by decide +kernel
theorem dX0_init_76 : decode cX0_init 76 = .ok (.putfield 40, 3) := by decide +kernel
theorem dX0_init_79 : decode cX0_init 79 = .ok (.aload_n 0, 1) := by decide +kernel
theorem dX0_init_80 : decode cX0_init 80 = .ok (.bipush 12, 2) := by decide +kernel
theorem dX0_init_82 : decode cX0_init 82 = .ok (.invokestatic 9, 3) := by decide +kernel
theorem dX0_init_85 : decode cX0_init 85 = .ok (.putfield 43, 3) := by decide +kernel
theorem dX0_init_88 : decode cX0_init 88 = .ok (.aload_n 0, 1) := by decide +kernel
theorem dX0_init_89 : decode cX0_init 89 = .ok (.bipush 12, 2) := by decide +kernel
theorem dX0_init_91 : decode cX0_init 91 = .ok (.newarray .int, 2) := by decide +kernel
theorem dX0_init_93 : decode cX0_init 93 = .ok (.putfield 46, 3) := by decide +kernel
theorem dX0_init_96 : decode cX0_init 96 = .ok (.return_, 1) := by decide +kernel
set_option maxRecDepth 20000 in
theorem ggX0_copyFrom_X0_copyRow : GoodIn wsX0_copyFrom wsX0_copyRow := goodIn_r _ [21, 22, 23, 24, 25, 26, 27, 28, 29] (by decide +kernel) (by decide +kernel)
set_option maxRecDepth 20000 in
theorem gX0_copyFrom_X0_copyRow : GoodIn wsX0_copyFrom (va_wsS RX0 68 yX0_copyRow wsX0_copyRow) := goodIn_app (goodIn_of _ (by decide +kernel)) ggX0_copyFrom_X0_copyRow
theorem dX0_copyFrom_0 : decode cX0_copyFrom 0 = .ok (.aload_n 0, 1) := by decide +kernel
theorem dX0_copyFrom_1 : decode cX0_copyFrom 1 = .ok (.aload_n 1, 1) := by decide +kernel
theorem dX0_copyFrom_2 : decode cX0_copyFrom 2 = .ok (.getfield 49, 3) := by decide +kernel
theorem dX0_copyFrom_5 : decode cX0_copyFrom 5 = .ok (.putfield 49, 3) := by decide +kernel
theorem dX0_copyFrom_8 : decode cX0_copyFrom 8 = .ok (.aload_n 0, 1) := by decide +kernel
theorem dX0_copyFrom_9 : decode cX0_copyFrom 9 = .ok (.aload_n 1, 1) := by decide +kernel
theorem dX0_copyFrom_10 : decode cX0_copyFrom 10 = .ok (.getfield 53, 3) := by decide +kernel
theorem dX0_copyFrom_13 : decode cX0_copyFrom 13 = .ok (.putfield 53, 3) := by decide +kernel
theorem dX0_copyFrom_16 : decode cX0_copyFrom 16 = .ok (.aload_n 0, 1) := by decide +kernel
theorem dX0_copyFrom_17 : decode cX0_copyFrom 17 = .ok (.aload_n 1, 1) := by decide +kernel
theorem dX0_copyFrom_18 : decode cX0_copyFrom 18 = .ok (.getfield 56, 3) := by decide +kernel
theorem dX0_copyFrom_21 : decode cX0_copyFrom 21 = .ok (.putfield 56, 3) := by decide +kernel
theorem dX0_copyFrom_24 : decode cX0_copyFrom 24 = .ok (.aload_n 0, 1) := by decide +kernel
theorem dX0_copyFrom_25 : decode cX0_copyFrom 25 = .ok (.aload_n 1, 1) := by decide +kernel
theorem dX0_copyFrom_26 : decode cX0_copyFrom 26 = .ok (.getfield 59, 3) := by decide +kernel
theorem dX0_copyFrom_29 : decode cX0_copyFrom 29 = .ok (.putfield 59, 3) := by decide +kernel
theorem dX0_copyFrom_32 : decode cX0_copyFrom 32 = .ok (.aload_n 0, 1) := by decide +kernel
theorem dX0_copyFrom_33 : decode cX0_copyFrom 33 = .ok (.aload_n 1, 1) := by decide +kernel
theorem dX0_copyFrom_34 : decode cX0_copyFrom 34 = .ok (.getfield 62, 3) := by decide +kernel
theorem dX0_copyFrom_37 : decode cX0_copyFrom 37 = .ok (.putfield 62, 3) := by decide +kernel
theorem dX0_copyFrom_40 : decode cX0_copyFrom 40 = .ok (.aload_n 0, 1) := by decide +kernel
theorem dX0_copyFrom_41 : decode cX0_copyFrom 41 = .ok (.aload_n 1, 1) := by decide +kernel
theorem dX0_copyFrom_42 : decode cX0_copyFrom 42 = .ok (.getfield 65, 3) := by decide +kernel
theorem dX0_copyFrom_45 : decode cX0_copyFrom 45 = .ok (.putfield 65, 3) := by decide +kernel
theorem dX0_copyFrom_48 : decode cX0_copyFrom 48 = .ok (.aload_n 1, 1) := by decide +kernel
theorem dX0_copyFrom_49 : decode cX0_copyFrom 49 = .ok (.getfield 15, 3) := by decide +kernel
theorem dX0_copyFrom_52 : decode cX0_copyFrom 52 = .ok (.aload_n 0, 1) := by decide +kernel
theorem dX0_copyFrom_53 : decode cX0_copyFrom 53 = .ok (.getfield 15, 3) := by decide +kernel
theorem dX0_copyFrom_56 : decode cX0_copyFrom 56 = .ok (.invokestatic 68, 3) := by decide +kernel
theorem dX0_copyFrom_59 : decode cX0_copyFrom 59 = .ok (.aload_n 1, 1) := by decide +kernel
theorem dX0_copyFrom_60 : decode cX0_copyFrom 60 = .ok (.getfield 19, 3) := by decide +kernel
theorem dX0_copyFrom_63 : decode cX0_copyFrom 63 = .ok (.aload_n 0, 1) := by decide +kernel
theorem dX0_copyFrom_64 : decode cX0_copyFrom 64 = .ok (.getfield 19, 3) := by decide +kernel
theorem dX0_copyFrom_67 : decode cX0_copyFrom 67 = .ok (.invokestatic 68, 3) := by decide +kernel
theorem dX0_copyFrom_70 : decode cX0_copyFrom 70 = .ok (.aload_n 1, 1) := by decide +kernel
theorem dX0_copyFrom_71 : decode cX0_copyFrom 71 = .ok (.getfield 22, 3) := by decide +kernel
theorem dX0_copyFrom_74 : decode cX0_copyFrom 74 = .ok (.aload_n 0, 1) := by decide +kernel
theorem dX0_copyFrom_75 : decode cX0_copyFrom 75 = .ok (.getfield 22, 3) := by decide +kernel
theorem dX0_copyFrom_78 : decode cX0_copyFrom 78 = .ok (.invokestatic 68, 3) := by decide +kernel
theorem dX0_copyFrom_81 : decode cX0_copyFrom 81 = .ok (.aload_n 1, 1) := by decide +kernel
theorem dX0_copyFrom_82 : decode cX0_copyFrom 82 = .ok (.getfield 25, 3) := by decide +kernel
theorem dX0_copyFrom_85 : decode cX0_copyFrom 85 = .ok (.aload_n 0, 1) := by decide +kernel
theorem dX0_copyFrom_86 : decode cX0_copyFrom 86 = .ok (.getfield 25, 3) := by decide +kernel
theorem dX0_copyFrom_89 : decode cX0_copyFrom 89 = .ok (.invokestatic 68, 3) := by decide +kernel
theorem dX0_copyFrom_92 : decode cX0_copyFrom 92 = .ok (.aload_n 1, 1) := by decide +kernel
theorem dX0_copyFrom_93 : decode cX0_copyFrom 93 = .ok (.getfield 28, 3) := by decide +kernel
theorem dX0_copyFrom_96 : decode cX0_copyFrom 96 = .ok (.aload_n 0, 1) := by decide +kernel
theorem dX0_copyFrom_97 : decode cX0_copyFrom 97 = .ok (.getfield 28, 3) := by decide +kernel
theorem dX0_copyFrom_100 : decode cX0_copyFrom 100 = .ok (.invokestatic 68, 3) := by decide +kernel
theorem dX0_copyFrom_103 : decode cX0_copyFrom 103 = .ok (.aload_n 1, 1) := by decide +kernel
theorem dX0_copyFrom_104 : decode cX0_copyFrom 104 = .ok (.getfield 31, 3) := by decide +kernel
theorem dX0_copyFrom_107 : decode cX0_copyFrom 107 = .ok (.aload_n 0, 1) := by decide +kernel
theorem dX0_copyFrom_108 : decode cX0_copyFrom 108 = .ok (.getfield 31, 3) := by decide +kernel
theorem dX0_copyFrom_111 : decode cX0_copyFrom 111 = .ok (.invokestatic 68, 3) := by decide +kernel
theorem dX0_copyFrom_114 : decode cX0_copyFrom 114 = .ok (.aload_n 1, 1) := by decide +kernel
theorem dX0_copyFrom_115 : decode cX0_copyFrom 115 = .ok (.getfield 34, 3) := by decide +kernel
theorem dX0_copyFrom_118 : decode cX0_copyFrom 118 = .ok (.aload_n 0, 1) := by decide +kernel
theorem dX0_copyFrom_119 : decode cX0_copyFrom 119 = .ok (.getfield 34, 3) := by decide +kernel
theorem dX0_copyFrom_122 : decode cX0_copyFrom 122 = .ok (.invokestatic 68, 3) := by decide +kernel
theorem dX0_copyFrom_125 : decode cX0_copyFrom 125 = .ok (.aload_n 1, 1) := by decide +kernel
theorem dX0_copyFrom_126 : decode cX0_copyFrom 126 = .ok (.getfield 37, 3) := by decide +kernel
theorem dX0_copyFrom_129 : decode cX0_copyFrom 129 = .ok (.aload_n 0, 1) := by decide +kernel
theorem dX0_copyFrom_130 : decode cX0_copyFrom 130 = .ok (.getfield 37, 3) := by decide +kernel
theorem dX0_copyFrom_133 : decode cX0_copyFrom 133 = .ok (.invokestatic 68, 3) := by decide +kernel
theorem dX0_copyFrom_136 : decode cX0_copyFrom 136 = .ok (.aload_n 1, 1) := by decide +kernel
theorem dX0_copyFrom_137 : decode cX0_copyFrom 137 = .ok (.getfield 40, 3) := by decide +kernel
theorem dX0_copyFrom_140 : decode cX0_copyFrom 140 = .ok (.aload_n 0, 1) := by decide +kernel
theorem dX0_copyFrom_141 : decode cX0_copyFrom 141 = .ok (.getfield 40, 3) := by decide +kernel
theorem dX0_copyFrom_144 : decode cX0_copyFrom 144 = .ok (.invokestatic 68, 3) := by decide +kernel
theorem dX0_copyFrom_147 : decode cX0_copyFrom 147 = .ok (.aload_n 1, 1) := by decide +kernel
theorem dX0_copyFrom_148 : decode cX0_copyFrom 148 = .ok (.getfield 43, 3) := by decide +kernel
theorem dX0_copyFrom_151 : decode cX0_copyFrom 151 = .ok (.aload_n 0, 1) := by decide +kernel
theorem dX0_copyFrom_152 : decode cX0_copyFrom 152 = .ok (.getfield 43, 3) := by decide +kernel
theorem dX0_copyFrom_155 : decode cX0_copyFrom 155 = .ok (.invokestatic 68, 3) := by decide +kernel
theorem dX0_copyFrom_158 : decode cX0_copyFrom 158 = .ok (.aload_n 1, 1) := by decide +kernel
theorem dX0_copyFrom_159 : decode cX0_copyFrom 159 = .ok (.getfield 46, 3) := by decide +kernel
theorem dX0_copyFrom_162 : decode cX0_copyFrom 162 = .ok (.aload_n 0, 1) := by decide +kernel
theorem dX0_copyFrom_163 : decode cX0_copyFrom 163 = .ok (.getfield 46, 3) := by decide +kernel
theorem dX0_copyFrom_166 : decode cX0_copyFrom 166 = .ok (.invokestatic 68, 3) := by decide +kernel
theorem dX0_copyFrom_169 : decode cX0_copyFrom 169 = .ok (.return_, 1) := by decide +kernel
set_option maxRecDepth 20000 in
theorem ggX0_addStation_X0_write : GoodIn wsX0_addStation wsX0_write := goodIn_r _ [6] (by decide +kernel) (by decide +kernel)
set_option maxRecDepth 20000 in
theorem gX0_addStation_X0_write : GoodIn wsX0_addStation (va_wsS RX0 72 yX0_write wsX0_write) := goodIn_app (goodIn_of _ (by decide +kernel)) ggX0_addStation_X0_write
theorem dX0_addStation_0 : decode cX0_addStation 0 = .ok (.aload_n 0, 1) := by decide +kernel
theorem dX0_addStation_1 : decode cX0_addStation 1 = .ok (.getfield 53, 3) := by decide +kernel
theorem dX0_addStation_4 : decode cX0_addStation 4 = .ok (.istore_n 2, 1) := by decide +kernel
theorem dX0_addStation_5 : decode cX0_addStation 5 = .ok (.aload_n 0, 1) := by decide +kernel
theorem dX0_addStation_6 : decode cX0_addStation 6 = .ok (.getfield 22, 3) := by decide +kernel
theorem dX0_addStation_9 : decode cX0_addStation 9 = .ok (.iload_n 2, 1) := by decide +kernel
theorem dX0_addStation_10 : decode cX0_addStation 10 = .ok (.iload_n 1, 1) := by decide +kernel
theorem dX0_addStation_11 : decode cX0_addStation 11 = .ok (.invokestatic 72, 3) := by decide +kernel
theorem dX0_addStation_14 : decode cX0_addStation 14 = .ok (.aload_n 0, 1) := by decide +kernel
theorem dX0_addStation_15 : decode cX0_addStation 15 = .ok (.dup, 1) := by decide +kernel
theorem dX0_addStation_16 : decode cX0_addStation 16 = .ok (.getfield 53, 3) := by decide +kernel
theorem dX0_addStation_19 : decode cX0_addStation 19 = .ok (.iconst 1, 1) := by decide +kernel
theorem dX0_addStation_20 : decode cX0_addStation 20 = .ok (.iadd, 1) := by decide +kernel
theorem dX0_addStation_21 : decode cX0_addStation 21 = .ok (.putfield 53, 3) := by decide +kernel
theorem dX0_addStation_24 : decode cX0_addStation 24 = .ok (.iload_n 2, 1) := by decide +kernel
theorem dX0_addStation_25 : decode cX0_addStation 25 = .ok (.ireturn, 1) := by decide +kernel
set_option maxRecDepth 20000 in
theorem ggX0_addPod_X0_firstBerth : GoodIn wsX0_addPod wsX0_firstBerth := goodIn_r _ [7, 8, 9, 10, 6, 11, 2, 12, 13, 14, 15, 19, 20, 21, 22, 23, 24, 25, 26, 27, 28, 29, 30, 31, 32, 33, 34, 35] (by decide +kernel) (by decide +kernel)
set_option maxRecDepth 20000 in
theorem gX0_addPod_X0_firstBerth : GoodIn wsX0_addPod (wsV RX0 76 RX0 yX0_firstBerth wsX0_firstBerth) := goodIn_app (goodIn_of _ (by decide +kernel)) ggX0_addPod_X0_firstBerth
set_option maxRecDepth 20000 in
theorem ggX0_addPod_X0_write : GoodIn wsX0_addPod wsX0_write := goodIn_r _ [18] (by decide +kernel) (by decide +kernel)
set_option maxRecDepth 20000 in
theorem gX0_addPod_X0_write : GoodIn wsX0_addPod (va_wsS RX0 72 yX0_write wsX0_write) := goodIn_app (goodIn_of _ (by decide +kernel)) ggX0_addPod_X0_write
theorem dX0_addPod_0 : decode cX0_addPod 0 = .ok (.aload_n 0, 1) := by decide +kernel
theorem dX0_addPod_1 : decode cX0_addPod 1 = .ok (.getfield 56, 3) := by decide +kernel
theorem dX0_addPod_4 : decode cX0_addPod 4 = .ok (.istore_n 2, 1) := by decide +kernel
theorem dX0_addPod_5 : decode cX0_addPod 5 = .ok (.aload_n 0, 1) := by decide +kernel
theorem dX0_addPod_6 : decode cX0_addPod 6 = .ok (.getfield 19, 3) := by decide +kernel
theorem dX0_addPod_9 : decode cX0_addPod 9 = .ok (.aload_n 0, 1) := by decide +kernel
theorem dX0_addPod_10 : decode cX0_addPod 10 = .ok (.iload_n 1, 1) := by decide +kernel
theorem dX0_addPod_11 : decode cX0_addPod 11 = .ok (.iconst 0, 1) := by decide +kernel
theorem dX0_addPod_12 : decode cX0_addPod 12 = .ok (.invokevirtual 76, 3) := by decide +kernel
theorem dX0_addPod_15 : decode cX0_addPod 15 = .ok (.iload_n 2, 1) := by decide +kernel
theorem dX0_addPod_16 : decode cX0_addPod 16 = .ok (.invokestatic 72, 3) := by decide +kernel
theorem dX0_addPod_19 : decode cX0_addPod 19 = .ok (.aload_n 0, 1) := by decide +kernel
theorem dX0_addPod_20 : decode cX0_addPod 20 = .ok (.dup, 1) := by decide +kernel
theorem dX0_addPod_21 : decode cX0_addPod 21 = .ok (.getfield 56, 3) := by decide +kernel
theorem dX0_addPod_24 : decode cX0_addPod 24 = .ok (.iconst 1, 1) := by decide +kernel
theorem dX0_addPod_25 : decode cX0_addPod 25 = .ok (.iadd, 1) := by decide +kernel
theorem dX0_addPod_26 : decode cX0_addPod 26 = .ok (.putfield 56, 3) := by decide +kernel
theorem dX0_addPod_29 : decode cX0_addPod 29 = .ok (.iload_n 2, 1) := by decide +kernel
theorem dX0_addPod_30 : decode cX0_addPod 30 = .ok (.ireturn, 1) := by decide +kernel
set_option maxRecDepth 20000 in
theorem ggX0_addRider_X0_waitingAt : GoodIn wsX0_addRider wsX0_waitingAt := goodIn_r _ [11, 6, 12, 13, 14, 15, 16, 17, 10, 18, 22, 23, 24, 25, 26, 27, 28, 29, 30, 31, 32, 33, 34, 35, 36, 37, 38] (by decide +kernel) (by decide +kernel)
set_option maxRecDepth 20000 in
theorem gX0_addRider_X0_waitingAt : GoodIn wsX0_addRider (wsV RX0 80 RX0 yX0_waitingAt wsX0_waitingAt) := goodIn_app (goodIn_of _ (by decide +kernel)) ggX0_addRider_X0_waitingAt
set_option maxRecDepth 20000 in
theorem ggX0_addRider_X0_write : GoodIn wsX0_addRider wsX0_write := goodIn_r _ [21] (by decide +kernel) (by decide +kernel)
set_option maxRecDepth 20000 in
theorem gX0_addRider_X0_write : GoodIn wsX0_addRider (va_wsS RX0 72 yX0_write wsX0_write) := goodIn_app (goodIn_of _ (by decide +kernel)) ggX0_addRider_X0_write
theorem dX0_addRider_0 : decode cX0_addRider 0 = .ok (.aload_n 0, 1) := by decide +kernel
theorem dX0_addRider_1 : decode cX0_addRider 1 = .ok (.getfield 59, 3) := by decide +kernel
theorem dX0_addRider_4 : decode cX0_addRider 4 = .ok (.istore_n 3, 1) := by decide +kernel
theorem dX0_addRider_5 : decode cX0_addRider 5 = .ok (.iload_n 1, 1) := by decide +kernel
theorem dX0_addRider_6 : decode cX0_addRider 6 = .ok (.bipush 9, 2) := by decide +kernel
theorem dX0_addRider_8 : decode cX0_addRider 8 = .ok (.imul, 1) := by decide +kernel
theorem dX0_addRider_9 : decode cX0_addRider 9 = .ok (.aload_n 0, 1) := by decide +kernel
theorem dX0_addRider_10 : decode cX0_addRider 10 = .ok (.iload_n 1, 1) := by decide +kernel
theorem dX0_addRider_11 : decode cX0_addRider 11 = .ok (.invokevirtual 80, 3) := by decide +kernel
theorem dX0_addRider_14 : decode cX0_addRider 14 = .ok (.iadd, 1) := by decide +kernel
theorem dX0_addRider_15 : decode cX0_addRider 15 = .ok (.istore 4, 2) := by decide +kernel
theorem dX0_addRider_17 : decode cX0_addRider 17 = .ok (.aload_n 0, 1) := by decide +kernel
theorem dX0_addRider_18 : decode cX0_addRider 18 = .ok (.getfield 31, 3) := by decide +kernel
theorem dX0_addRider_21 : decode cX0_addRider 21 = .ok (.iload 4, 2) := by decide +kernel
theorem dX0_addRider_23 : decode cX0_addRider 23 = .ok (.iload_n 3, 1) := by decide +kernel
theorem dX0_addRider_24 : decode cX0_addRider 24 = .ok (.invokestatic 72, 3) := by decide +kernel
theorem dX0_addRider_27 : decode cX0_addRider 27 = .ok (.aload_n 0, 1) := by decide +kernel
theorem dX0_addRider_28 : decode cX0_addRider 28 = .ok (.getfield 34, 3) := by decide +kernel
theorem dX0_addRider_31 : decode cX0_addRider 31 = .ok (.iload 4, 2) := by decide +kernel
theorem dX0_addRider_33 : decode cX0_addRider 33 = .ok (.iload_n 2, 1) := by decide +kernel
theorem dX0_addRider_34 : decode cX0_addRider 34 = .ok (.invokestatic 72, 3) := by decide +kernel
theorem dX0_addRider_37 : decode cX0_addRider 37 = .ok (.aload_n 0, 1) := by decide +kernel
theorem dX0_addRider_38 : decode cX0_addRider 38 = .ok (.getfield 37, 3) := by decide +kernel
theorem dX0_addRider_41 : decode cX0_addRider 41 = .ok (.iload 4, 2) := by decide +kernel
theorem dX0_addRider_43 : decode cX0_addRider 43 = .ok (.aload_n 0, 1) := by decide +kernel
theorem dX0_addRider_44 : decode cX0_addRider 44 = .ok (.getfield 49, 3) := by decide +kernel
theorem dX0_addRider_47 : decode cX0_addRider 47 = .ok (.invokestatic 72, 3) := by decide +kernel
theorem dX0_addRider_50 : decode cX0_addRider 50 = .ok (.aload_n 0, 1) := by decide +kernel
theorem dX0_addRider_51 : decode cX0_addRider 51 = .ok (.getfield 28, 3) := by decide +kernel
theorem dX0_addRider_54 : decode cX0_addRider 54 = .ok (.iload_n 1, 1) := by decide +kernel
theorem dX0_addRider_55 : decode cX0_addRider 55 = .ok (.aload_n 0, 1) := by decide +kernel
theorem dX0_addRider_56 : decode cX0_addRider 56 = .ok (.iload_n 1, 1) := by decide +kernel
theorem dX0_addRider_57 : decode cX0_addRider 57 = .ok (.invokevirtual 80, 3) := by decide +kernel
theorem dX0_addRider_60 : decode cX0_addRider 60 = .ok (.iconst 1, 1) := by decide +kernel
theorem dX0_addRider_61 : decode cX0_addRider 61 = .ok (.iadd, 1) := by decide +kernel
theorem dX0_addRider_62 : decode cX0_addRider 62 = .ok (.invokestatic 72, 3) := by decide +kernel
theorem dX0_addRider_65 : decode cX0_addRider 65 = .ok (.aload_n 0, 1) := by decide +kernel
theorem dX0_addRider_66 : decode cX0_addRider 66 = .ok (.dup, 1) := by decide +kernel
theorem dX0_addRider_67 : decode cX0_addRider 67 = .ok (.getfield 59, 3) := by decide +kernel
theorem dX0_addRider_70 : decode cX0_addRider 70 = .ok (.iconst 1, 1) := by decide +kernel
theorem dX0_addRider_71 : decode cX0_addRider 71 = .ok (.iadd, 1) := by decide +kernel
theorem dX0_addRider_72 : decode cX0_addRider 72 = .ok (.putfield 59, 3) := by decide +kernel
theorem dX0_addRider_75 : decode cX0_addRider 75 = .ok (.iload_n 3, 1) := by decide +kernel
theorem dX0_addRider_76 : decode cX0_addRider 76 = .ok (.ireturn, 1) := by decide +kernel
set_option maxRecDepth 20000 in
theorem ggX0_setGoal_X0_write : GoodIn wsX0_setGoal wsX0_write := goodIn_r _ [5] (by decide +kernel) (by decide +kernel)
set_option maxRecDepth 20000 in
theorem gX0_setGoal_X0_write : GoodIn wsX0_setGoal (va_wsS RX0 72 yX0_write wsX0_write) := goodIn_app (goodIn_of _ (by decide +kernel)) ggX0_setGoal_X0_write
theorem dX0_setGoal_0 : decode cX0_setGoal 0 = .ok (.aload_n 0, 1) := by decide +kernel
theorem dX0_setGoal_1 : decode cX0_setGoal 1 = .ok (.getfield 40, 3) := by decide +kernel
theorem dX0_setGoal_4 : decode cX0_setGoal 4 = .ok (.iload_n 1, 1) := by decide +kernel
theorem dX0_setGoal_5 : decode cX0_setGoal 5 = .ok (.iload_n 2, 1) := by decide +kernel
theorem dX0_setGoal_6 : decode cX0_setGoal 6 = .ok (.invokestatic 72, 3) := by decide +kernel
theorem dX0_setGoal_9 : decode cX0_setGoal 9 = .ok (.return_, 1) := by decide +kernel
set_option maxRecDepth 20000 in
theorem ggX0_passMinute_X0_moveSlots : GoodIn wsX0_passMinute wsX0_moveSlots := goodIn_r _ [7, 8, 9, 10, 11, 12, 13, 14, 6, 15, 16, 17, 18, 104, 105, 106, 107, 108, 109, 110, 111, 112, 113, 114, 115, 116, 117, 118, 119, 120] (by decide +kernel) (by decide +kernel)
set_option maxRecDepth 20000 in
theorem gX0_passMinute_X0_moveSlots : GoodIn wsX0_passMinute (wsV RX0 84 RX0 yX0_moveSlots wsX0_moveSlots) := goodIn_app (goodIn_of _ (by decide +kernel)) ggX0_passMinute_X0_moveSlots
set_option maxRecDepth 20000 in
theorem ggX0_passMinute_X0_letGoOff : GoodIn wsX0_passMinute wsX0_letGoOff := goodIn_r _ [22, 23, 8, 24, 25, 26, 27, 28, 29, 6, 30, 31, 13, 14, 15, 32, 33, 34, 35, 36, 37, 38, 39, 40, 41, 42, 43, 44, 45, 46, 47, 48, 16, 17, 18, 49, 50, 51, 52, 104, 105, 106, 107, 108, 109, 110, 111, 112, 113, 114, 115, 116, 117, 118, 119, 120] (by decide +kernel) (by decide +kernel)
set_option maxRecDepth 20000 in
theorem gX0_passMinute_X0_letGoOff : GoodIn wsX0_passMinute (wsV RX0 87 RX0 yX0_letGoOff wsX0_letGoOff) := goodIn_app (goodIn_of _ (by decide +kernel)) ggX0_passMinute_X0_letGoOff
set_option maxRecDepth 20000 in
theorem ggX0_passMinute_X0_letBoard : GoodIn wsX0_passMinute wsX0_letBoard := goodIn_r _ [56, 24, 57, 58, 59, 6, 60, 61, 62, 63, 64, 65, 13, 14, 15, 45, 46, 47, 48, 40, 66, 67, 68, 69, 25, 70, 71, 72, 73, 16, 17, 18, 49, 50, 51, 52, 74, 75, 76, 77, 2, 104, 105, 106, 107, 108, 109, 110, 111, 112, 113, 114, 115, 116, 117, 118, 119, 120] (by decide +kernel) (by decide +kernel)
set_option maxRecDepth 20000 in
theorem gX0_passMinute_X0_letBoard : GoodIn wsX0_passMinute (wsV RX0 91 RX0 yX0_letBoard wsX0_letBoard) := goodIn_app (goodIn_of _ (by decide +kernel)) ggX0_passMinute_X0_letBoard
set_option maxRecDepth 20000 in
theorem ggX0_passMinute_X0_letCall : GoodIn wsX0_passMinute wsX0_letCall := goodIn_r _ [81, 24, 82, 57, 58, 59, 6, 60, 61, 62, 63, 64, 65, 13, 14, 15, 83, 84, 85, 86, 87, 25, 36, 37, 38, 39, 40, 88, 89, 90, 91, 1, 92, 93, 94, 95, 27, 28, 29, 30, 31, 96, 97, 98, 99, 41, 42, 43, 44, 45, 46, 47, 48, 49, 50, 51, 52, 16, 17, 18, 104, 105, 106, 107, 108, 109, 110, 111, 112, 113, 114, 115, 116, 117, 118, 119, 120] (by decide +kernel) (by decide +kernel)
set_option maxRecDepth 20000 in
theorem gX0_passMinute_X0_letCall : GoodIn wsX0_passMinute (wsV RX0 94 RX0 yX0_letCall wsX0_letCall) := goodIn_app (goodIn_of _ (by decide +kernel)) ggX0_passMinute_X0_letCall
set_option maxRecDepth 20000 in
theorem ggX0_passMinute_X0_letMerge : GoodIn wsX0_passMinute wsX0_letMerge := goodIn_r _ [103, 8, 24, 27, 28, 29, 6, 30, 31, 13, 14, 15, 41, 42, 43, 44, 45, 46, 47, 48, 40, 32, 33, 34, 35, 16, 17, 18, 104, 105, 106, 107, 108, 109, 110, 111, 112, 113, 114, 115, 116, 117, 118, 119, 120] (by decide +kernel) (by decide +kernel)
set_option maxRecDepth 20000 in
theorem gX0_passMinute_X0_letMerge : GoodIn wsX0_passMinute (wsV RX0 97 RX0 yX0_letMerge wsX0_letMerge) := goodIn_app (goodIn_of _ (by decide +kernel)) ggX0_passMinute_X0_letMerge
theorem dX0_passMinute_0 : decode cX0_passMinute 0 = .ok (.aload_n 0, 1) := by decide +kernel
theorem dX0_passMinute_1 : decode cX0_passMinute 1 = .ok (.invokevirtual 84, 3) := by decide +kernel
theorem dX0_passMinute_4 : decode cX0_passMinute 4 = .ok (.iconst 0, 1) := by decide +kernel
theorem dX0_passMinute_5 : decode cX0_passMinute 5 = .ok (.istore_n 1, 1) := by decide +kernel
theorem dX0_passMinute_6 : decode cX0_passMinute 6 = .ok (.iload_n 1, 1) := by decide +kernel
theorem dX0_passMinute_7 : decode cX0_passMinute 7 = .ok (.aload_n 0, 1) := by decide +kernel
theorem dX0_passMinute_8 : decode cX0_passMinute 8 = .ok (.getfield 53, 3) := by decide +kernel
theorem dX0_passMinute_11 : decode cX0_passMinute 11 = .ok (.if_icmp .ge 14, 3) := by decide +kernel
theorem dX0_passMinute_14 : decode cX0_passMinute 14 = .ok (.aload_n 0, 1) := by decide +kernel
theorem dX0_passMinute_15 : decode cX0_passMinute 15 = .ok (.iload_n 1, 1) := by decide +kernel
theorem dX0_passMinute_16 : decode cX0_passMinute 16 = .ok (.invokevirtual 87, 3) := by decide +kernel
theorem dX0_passMinute_19 : decode cX0_passMinute 19 = .ok (.iinc 1 1, 3) := by decide +kernel
theorem dX0_passMinute_22 : decode cX0_passMinute 22 = .ok (.goto (-16), 3) := by decide +kernel
theorem dX0_passMinute_25 : decode cX0_passMinute 25 = .ok (.iconst 0, 1) := by decide +kernel
theorem dX0_passMinute_26 : decode cX0_passMinute 26 = .ok (.istore_n 1, 1) := by decide +kernel
theorem dX0_passMinute_27 : decode cX0_passMinute 27 = .ok (.iload_n 1, 1) := by decide +kernel
theorem dX0_passMinute_28 : decode cX0_passMinute 28 = .ok (.aload_n 0, 1) := by decide +kernel
theorem dX0_passMinute_29 : decode cX0_passMinute 29 = .ok (.getfield 53, 3) := by decide +kernel
theorem dX0_passMinute_32 : decode cX0_passMinute 32 = .ok (.if_icmp .ge 14, 3) := by decide +kernel
theorem dX0_passMinute_35 : decode cX0_passMinute 35 = .ok (.aload_n 0, 1) := by decide +kernel
theorem dX0_passMinute_36 : decode cX0_passMinute 36 = .ok (.iload_n 1, 1) := by decide +kernel
theorem dX0_passMinute_37 : decode cX0_passMinute 37 = .ok (.invokevirtual 91, 3) := by decide +kernel
theorem dX0_passMinute_40 : decode cX0_passMinute 40 = .ok (.iinc 1 1, 3) := by decide +kernel
theorem dX0_passMinute_43 : decode cX0_passMinute 43 = .ok (.goto (-16), 3) := by decide +kernel
theorem dX0_passMinute_46 : decode cX0_passMinute 46 = .ok (.iconst 0, 1) := by decide +kernel
theorem dX0_passMinute_47 : decode cX0_passMinute 47 = .ok (.istore_n 1, 1) := by decide +kernel
theorem dX0_passMinute_48 : decode cX0_passMinute 48 = .ok (.iload_n 1, 1) := by decide +kernel
theorem dX0_passMinute_49 : decode cX0_passMinute 49 = .ok (.aload_n 0, 1) := by decide +kernel
theorem dX0_passMinute_50 : decode cX0_passMinute 50 = .ok (.getfield 53, 3) := by decide +kernel
theorem dX0_passMinute_53 : decode cX0_passMinute 53 = .ok (.if_icmp .ge 14, 3) := by decide +kernel
theorem dX0_passMinute_56 : decode cX0_passMinute 56 = .ok (.aload_n 0, 1) := by decide +kernel
theorem dX0_passMinute_57 : decode cX0_passMinute 57 = .ok (.iload_n 1, 1) := by decide +kernel
theorem dX0_passMinute_58 : decode cX0_passMinute 58 = .ok (.invokevirtual 94, 3) := by decide +kernel
theorem dX0_passMinute_61 : decode cX0_passMinute 61 = .ok (.iinc 1 1, 3) := by decide +kernel
theorem dX0_passMinute_64 : decode cX0_passMinute 64 = .ok (.goto (-16), 3) := by decide +kernel
theorem dX0_passMinute_67 : decode cX0_passMinute 67 = .ok (.iconst 0, 1) := by decide +kernel
theorem dX0_passMinute_68 : decode cX0_passMinute 68 = .ok (.istore_n 1, 1) := by decide +kernel
theorem dX0_passMinute_69 : decode cX0_passMinute 69 = .ok (.iload_n 1, 1) := by decide +kernel
theorem dX0_passMinute_70 : decode cX0_passMinute 70 = .ok (.aload_n 0, 1) := by decide +kernel
theorem dX0_passMinute_71 : decode cX0_passMinute 71 = .ok (.getfield 53, 3) := by decide +kernel
theorem dX0_passMinute_74 : decode cX0_passMinute 74 = .ok (.if_icmp .ge 14, 3) := by decide +kernel
theorem dX0_passMinute_77 : decode cX0_passMinute 77 = .ok (.aload_n 0, 1) := by decide +kernel
theorem dX0_passMinute_78 : decode cX0_passMinute 78 = .ok (.iload_n 1, 1) := by decide +kernel
theorem dX0_passMinute_79 : decode cX0_passMinute 79 = .ok (.invokevirtual 97, 3) := by decide +kernel
theorem dX0_passMinute_82 : decode cX0_passMinute 82 = .ok (.iinc 1 1, 3) := by decide +kernel
theorem dX0_passMinute_85 : decode cX0_passMinute 85 = .ok (.goto (-16), 3) := by decide +kernel
theorem dX0_passMinute_88 : decode cX0_passMinute 88 = .ok (.aload_n 0, 1) := by decide +kernel
theorem dX0_passMinute_89 : decode cX0_passMinute 89 = .ok (.dup, 1) := by decide +kernel
theorem dX0_passMinute_90 : decode cX0_passMinute 90 = .ok (.getfield 49, 3) := by decide +kernel
theorem dX0_passMinute_93 : decode cX0_passMinute 93 = .ok (.iconst 1, 1) := by decide +kernel
theorem dX0_passMinute_94 : decode cX0_passMinute 94 = .ok (.iadd, 1) := by decide +kernel
theorem dX0_passMinute_95 : decode cX0_passMinute 95 = .ok (.putfield 49, 3) := by decide +kernel
theorem dX0_passMinute_98 : decode cX0_passMinute 98 = .ok (.return_, 1) := by decide +kernel
set_option maxRecDepth 20000 in
theorem ggX0_moveSlots_X0_read : GoodIn wsX0_moveSlots wsX0_read := goodIn_r _ [9] (by decide +kernel) (by decide +kernel)
set_option maxRecDepth 20000 in
theorem gX0_moveSlots_X0_read : GoodIn wsX0_moveSlots (va_wsS RX0 100 yX0_read wsX0_read) := goodIn_app (goodIn_of _ (by decide +kernel)) ggX0_moveSlots_X0_read
set_option maxRecDepth 20000 in
theorem ggX0_moveSlots_X0_write : GoodIn wsX0_moveSlots wsX0_write := goodIn_r _ [12] (by decide +kernel) (by decide +kernel)
set_option maxRecDepth 20000 in
theorem gX0_moveSlots_X0_write : GoodIn wsX0_moveSlots (va_wsS RX0 72 yX0_write wsX0_write) := goodIn_app (goodIn_of _ (by decide +kernel)) ggX0_moveSlots_X0_write
theorem dX0_moveSlots_0 : decode cX0_moveSlots 0 = .ok (.aload_n 0, 1) := by decide +kernel
theorem dX0_moveSlots_1 : decode cX0_moveSlots 1 = .ok (.getfield 15, 3) := by decide +kernel
theorem dX0_moveSlots_4 : decode cX0_moveSlots 4 = .ok (.arraylength, 1) := by decide +kernel
theorem dX0_moveSlots_5 : decode cX0_moveSlots 5 = .ok (.iconst 1, 1) := by decide +kernel
theorem dX0_moveSlots_6 : decode cX0_moveSlots 6 = .ok (.isub, 1) := by decide +kernel
theorem dX0_moveSlots_7 : decode cX0_moveSlots 7 = .ok (.istore_n 1, 1) := by decide +kernel
theorem dX0_moveSlots_8 : decode cX0_moveSlots 8 = .ok (.iload_n 1, 1) := by decide +kernel
theorem dX0_moveSlots_9 : decode cX0_moveSlots 9 = .ok (.iconst 1, 1) := by decide +kernel
theorem dX0_moveSlots_10 : decode cX0_moveSlots 10 = .ok (.if_icmp .ge 4, 3) := by decide +kernel
theorem dX0_moveSlots_13 : decode cX0_moveSlots 13 = .ok (.return_, 1) := by decide +kernel
theorem dX0_moveSlots_14 : decode cX0_moveSlots 14 = .ok (.aload_n 0, 1) := by decide +kernel
theorem dX0_moveSlots_15 : decode cX0_moveSlots 15 = .ok (.getfield 15, 3) := by decide +kernel
theorem dX0_moveSlots_18 : decode cX0_moveSlots 18 = .ok (.iload_n 1, 1) := by decide +kernel
theorem dX0_moveSlots_19 : decode cX0_moveSlots 19 = .ok (.invokestatic 100, 3) := by decide +kernel
theorem dX0_moveSlots_22 : decode cX0_moveSlots 22 = .ok (.istore_n 2, 1) := by decide +kernel
theorem dX0_moveSlots_23 : decode cX0_moveSlots 23 = .ok (.aload_n 0, 1) := by decide +kernel
theorem dX0_moveSlots_24 : decode cX0_moveSlots 24 = .ok (.getfield 15, 3) := by decide +kernel
theorem dX0_moveSlots_27 : decode cX0_moveSlots 27 = .ok (.iconst 0, 1) := by decide +kernel
theorem dX0_moveSlots_28 : decode cX0_moveSlots 28 = .ok (.aload_n 0, 1) := by decide +kernel
theorem dX0_moveSlots_29 : decode cX0_moveSlots 29 = .ok (.getfield 15, 3) := by decide +kernel
theorem dX0_moveSlots_32 : decode cX0_moveSlots 32 = .ok (.iconst 1, 1) := by decide +kernel
theorem dX0_moveSlots_33 : decode cX0_moveSlots 33 = .ok (.iload_n 1, 1) := by decide +kernel
theorem dX0_moveSlots_34 : decode cX0_moveSlots 34 = .ok (.invokestatic 104, 3) := by decide +kernel
theorem dX0_moveSlots_37 : decode cX0_moveSlots 37 = .ok (.aload_n 0, 1) := by decide +kernel
theorem dX0_moveSlots_38 : decode cX0_moveSlots 38 = .ok (.getfield 15, 3) := by decide +kernel
theorem dX0_moveSlots_41 : decode cX0_moveSlots 41 = .ok (.iconst 0, 1) := by decide +kernel
theorem dX0_moveSlots_42 : decode cX0_moveSlots 42 = .ok (.iload_n 2, 1) := by decide +kernel
theorem dX0_moveSlots_43 : decode cX0_moveSlots 43 = .ok (.invokestatic 72, 3) := by decide +kernel
theorem dX0_moveSlots_46 : decode cX0_moveSlots 46 = .ok (.return_, 1) := by decide +kernel
set_option maxRecDepth 20000 in
theorem ggX0_letGoOff_X0_placeOf : GoodIn wsX0_letGoOff wsX0_placeOf := goodIn_r _ [10, 11, 12, 13, 9, 14, 39, 40, 41, 42, 43, 44, 45, 46, 47, 48, 49, 50, 51, 52, 53, 54, 55] (by decide +kernel) (by decide +kernel)
set_option maxRecDepth 20000 in
theorem gX0_letGoOff_X0_placeOf : GoodIn wsX0_letGoOff (wsV RX0 110 RX0 yX0_placeOf wsX0_placeOf) := goodIn_app (goodIn_of _ (by decide +kernel)) ggX0_letGoOff_X0_placeOf
set_option maxRecDepth 20000 in
theorem ggX0_letGoOff_X0_podAtPlace : GoodIn wsX0_letGoOff wsX0_podAtPlace := goodIn_r _ [18, 2, 12, 13, 9, 14, 39, 40, 41, 42, 43, 44, 45, 46, 47, 48, 49, 50, 51, 52, 53, 54, 55] (by decide +kernel) (by decide +kernel)
set_option maxRecDepth 20000 in
theorem gX0_letGoOff_X0_podAtPlace : GoodIn wsX0_letGoOff (wsV RX0 113 RX0 yX0_podAtPlace wsX0_podAtPlace) := goodIn_app (goodIn_of _ (by decide +kernel)) ggX0_letGoOff_X0_podAtPlace
set_option maxRecDepth 20000 in
theorem ggX0_letGoOff_X0_goalOf : GoodIn wsX0_letGoOff wsX0_goalOf := goodIn_r _ [22, 23, 12, 13, 9, 14, 39, 40, 41, 42, 43, 44, 45, 46, 47, 48, 49, 50, 51, 52, 53, 54, 55] (by decide +kernel) (by decide +kernel)
set_option maxRecDepth 20000 in
theorem gX0_letGoOff_X0_goalOf : GoodIn wsX0_letGoOff (wsV RX0 116 RX0 yX0_goalOf wsX0_goalOf) := goodIn_app (goodIn_of _ (by decide +kernel)) ggX0_letGoOff_X0_goalOf
set_option maxRecDepth 20000 in
theorem ggX0_letGoOff_X0_firstBerth : GoodIn wsX0_letGoOff wsX0_firstBerth := goodIn_r _ [27, 28, 29, 30, 9, 31, 3, 23, 12, 13, 14, 39, 40, 41, 42, 43, 44, 45, 46, 47, 48, 49, 50, 51, 52, 53, 54, 55] (by decide +kernel) (by decide +kernel)
set_option maxRecDepth 20000 in
theorem gX0_letGoOff_X0_firstBerth : GoodIn wsX0_letGoOff (wsV RX0 76 RX0 yX0_firstBerth wsX0_firstBerth) := goodIn_app (goodIn_of _ (by decide +kernel)) ggX0_letGoOff_X0_firstBerth
set_option maxRecDepth 20000 in
theorem ggX0_letGoOff_X0_read : GoodIn wsX0_letGoOff wsX0_read := goodIn_r _ [14] (by decide +kernel) (by decide +kernel)
set_option maxRecDepth 20000 in
theorem gX0_letGoOff_X0_read : GoodIn wsX0_letGoOff (va_wsS RX0 100 yX0_read wsX0_read) := goodIn_app (goodIn_of _ (by decide +kernel)) ggX0_letGoOff_X0_read
set_option maxRecDepth 20000 in
theorem ggX0_letGoOff_X0_write : GoodIn wsX0_letGoOff wsX0_write := goodIn_r _ [34] (by decide +kernel) (by decide +kernel)
set_option maxRecDepth 20000 in
theorem gX0_letGoOff_X0_write : GoodIn wsX0_letGoOff (va_wsS RX0 72 yX0_write wsX0_write) := goodIn_app (goodIn_of _ (by decide +kernel)) ggX0_letGoOff_X0_write
set_option maxRecDepth 20000 in
theorem ggX0_letGoOff_X0_setGoal : GoodIn wsX0_letGoOff wsX0_setGoal := goodIn_r _ [38, 23, 32, 33, 9, 34, 39, 40, 41, 42, 43, 44, 45, 46, 47, 48, 49, 50, 51, 52, 53, 54, 55] (by decide +kernel) (by decide +kernel)
set_option maxRecDepth 20000 in
theorem gX0_letGoOff_X0_setGoal : GoodIn wsX0_letGoOff (wsV RX0 119 RX0 yX0_setGoal wsX0_setGoal) := goodIn_app (goodIn_of _ (by decide +kernel)) ggX0_letGoOff_X0_setGoal
theorem dX0_letGoOff_0 : decode cX0_letGoOff 0 = .ok (.aload_n 0, 1) := by decide +kernel
theorem dX0_letGoOff_1 : decode cX0_letGoOff 1 = .ok (.iload_n 1, 1) := by decide +kernel
theorem dX0_letGoOff_2 : decode cX0_letGoOff 2 = .ok (.invokevirtual 110, 3) := by decide +kernel
theorem dX0_letGoOff_5 : decode cX0_letGoOff 5 = .ok (.istore_n 2, 1) := by decide +kernel
theorem dX0_letGoOff_6 : decode cX0_letGoOff 6 = .ok (.aload_n 0, 1) := by decide +kernel
theorem dX0_letGoOff_7 : decode cX0_letGoOff 7 = .ok (.iload_n 2, 1) := by decide +kernel
theorem dX0_letGoOff_8 : decode cX0_letGoOff 8 = .ok (.invokevirtual 113, 3) := by decide +kernel
theorem dX0_letGoOff_11 : decode cX0_letGoOff 11 = .ok (.istore_n 3, 1) := by decide +kernel
theorem dX0_letGoOff_12 : decode cX0_letGoOff 12 = .ok (.iload_n 3, 1) := by decide +kernel
theorem dX0_letGoOff_13 : decode cX0_letGoOff 13 = .ok (.iconst (-1), 1) := by decide +kernel
theorem dX0_letGoOff_14 : decode cX0_letGoOff 14 = .ok (.if_icmp .eq 12, 3) := by decide +kernel
theorem dX0_letGoOff_17 : decode cX0_letGoOff 17 = .ok (.aload_n 0, 1) := by decide +kernel
theorem dX0_letGoOff_18 : decode cX0_letGoOff 18 = .ok (.iload_n 3, 1) := by decide +kernel
theorem dX0_letGoOff_19 : decode cX0_letGoOff 19 = .ok (.invokevirtual 116, 3) := by decide +kernel
theorem dX0_letGoOff_22 : decode cX0_letGoOff 22 = .ok (.iload_n 1, 1) := by decide +kernel
theorem dX0_letGoOff_23 : decode cX0_letGoOff 23 = .ok (.if_icmp .eq 4, 3) := by decide +kernel
theorem dX0_letGoOff_26 : decode cX0_letGoOff 26 = .ok (.return_, 1) := by decide +kernel
theorem dX0_letGoOff_27 : decode cX0_letGoOff 27 = .ok (.aload_n 0, 1) := by decide +kernel
theorem dX0_letGoOff_28 : decode cX0_letGoOff 28 = .ok (.iload_n 1, 1) := by decide +kernel
theorem dX0_letGoOff_29 : decode cX0_letGoOff 29 = .ok (.iconst 0, 1) := by decide +kernel
theorem dX0_letGoOff_30 : decode cX0_letGoOff 30 = .ok (.invokevirtual 76, 3) := by decide +kernel
theorem dX0_letGoOff_33 : decode cX0_letGoOff 33 = .ok (.istore 4, 2) := by decide +kernel
theorem dX0_letGoOff_35 : decode cX0_letGoOff 35 = .ok (.iload 4, 2) := by decide +kernel
theorem dX0_letGoOff_37 : decode cX0_letGoOff 37 = .ok (.iconst (-1), 1) := by decide +kernel
theorem dX0_letGoOff_38 : decode cX0_letGoOff 38 = .ok (.if_icmp .ne 22, 3) := by decide +kernel
theorem dX0_letGoOff_41 : decode cX0_letGoOff 41 = .ok (.aload_n 0, 1) := by decide +kernel
theorem dX0_letGoOff_42 : decode cX0_letGoOff 42 = .ok (.getfield 46, 3) := by decide +kernel
theorem dX0_letGoOff_45 : decode cX0_letGoOff 45 = .ok (.iload_n 3, 1) := by decide +kernel
theorem dX0_letGoOff_46 : decode cX0_letGoOff 46 = .ok (.aload_n 0, 1) := by decide +kernel
theorem dX0_letGoOff_47 : decode cX0_letGoOff 47 = .ok (.getfield 46, 3) := by decide +kernel
theorem dX0_letGoOff_50 : decode cX0_letGoOff 50 = .ok (.iload_n 3, 1) := by decide +kernel
theorem dX0_letGoOff_51 : decode cX0_letGoOff 51 = .ok (.invokestatic 100, 3) := by decide +kernel
theorem dX0_letGoOff_54 : decode cX0_letGoOff 54 = .ok (.iconst 1, 1) := by decide +kernel
theorem dX0_letGoOff_55 : decode cX0_letGoOff 55 = .ok (.iadd, 1) := by decide +kernel
theorem dX0_letGoOff_56 : decode cX0_letGoOff 56 = .ok (.invokestatic 72, 3) := by decide +kernel
theorem dX0_letGoOff_59 : decode cX0_letGoOff 59 = .ok (.return_, 1) := by decide +kernel
theorem dX0_letGoOff_60 : decode cX0_letGoOff 60 = .ok (.aload_n 0, 1) := by decide +kernel
theorem dX0_letGoOff_61 : decode cX0_letGoOff 61 = .ok (.getfield 15, 3) := by decide +kernel
theorem dX0_letGoOff_64 : decode cX0_letGoOff 64 = .ok (.iload_n 2, 1) := by decide +kernel
theorem dX0_letGoOff_65 : decode cX0_letGoOff 65 = .ok (.iconst (-1), 1) := by decide +kernel
theorem dX0_letGoOff_66 : decode cX0_letGoOff 66 = .ok (.invokestatic 72, 3) := by decide +kernel
theorem dX0_letGoOff_69 : decode cX0_letGoOff 69 = .ok (.aload_n 0, 1) := by decide +kernel
theorem dX0_letGoOff_70 : decode cX0_letGoOff 70 = .ok (.getfield 19, 3) := by decide +kernel
theorem dX0_letGoOff_73 : decode cX0_letGoOff 73 = .ok (.iload 4, 2) := by decide +kernel
theorem dX0_letGoOff_75 : decode cX0_letGoOff 75 = .ok (.iload_n 3, 1) := by decide +kernel
theorem dX0_letGoOff_76 : decode cX0_letGoOff 76 = .ok (.invokestatic 72, 3) := by decide +kernel
theorem dX0_letGoOff_79 : decode cX0_letGoOff 79 = .ok (.aload_n 0, 1) := by decide +kernel
theorem dX0_letGoOff_80 : decode cX0_letGoOff 80 = .ok (.iload_n 3, 1) := by decide +kernel
theorem dX0_letGoOff_81 : decode cX0_letGoOff 81 = .ok (.iconst (-1), 1) := by decide +kernel
theorem dX0_letGoOff_82 : decode cX0_letGoOff 82 = .ok (.invokevirtual 119, 3) := by decide +kernel
theorem dX0_letGoOff_85 : decode cX0_letGoOff 85 = .ok (.aload_n 0, 1) := by decide +kernel
theorem dX0_letGoOff_86 : decode cX0_letGoOff 86 = .ok (.getfield 43, 3) := by decide +kernel
theorem dX0_letGoOff_89 : decode cX0_letGoOff 89 = .ok (.iload_n 3, 1) := by decide +kernel
theorem dX0_letGoOff_90 : decode cX0_letGoOff 90 = .ok (.invokestatic 100, 3) := by decide +kernel
theorem dX0_letGoOff_93 : decode cX0_letGoOff 93 = .ok (.iconst (-1), 1) := by decide +kernel
theorem dX0_letGoOff_94 : decode cX0_letGoOff 94 = .ok (.if_icmp .eq 30, 3) := by decide +kernel
theorem dX0_letGoOff_97 : decode cX0_letGoOff 97 = .ok (.aload_n 0, 1) := by decide +kernel
theorem dX0_letGoOff_98 : decode cX0_letGoOff 98 = .ok (.getfield 43, 3) := by decide +kernel
theorem dX0_letGoOff_101 : decode cX0_letGoOff 101 = .ok (.iload_n 3, 1) := by decide +kernel
theorem dX0_letGoOff_102 : decode cX0_letGoOff 102 = .ok (.iconst (-1), 1) := by decide +kernel
theorem dX0_letGoOff_103 : decode cX0_letGoOff 103 = .ok (.invokestatic 72, 3) := by decide +kernel
theorem dX0_letGoOff_106 : decode cX0_letGoOff 106 = .ok (.aload_n 0, 1) := by decide +kernel
theorem dX0_letGoOff_107 : decode cX0_letGoOff 107 = .ok (.getfield 25, 3) := by decide +kernel
theorem dX0_letGoOff_110 : decode cX0_letGoOff 110 = .ok (.iload_n 1, 1) := by decide +kernel
theorem dX0_letGoOff_111 : decode cX0_letGoOff 111 = .ok (.aload_n 0, 1) := by decide +kernel
theorem dX0_letGoOff_112 : decode cX0_letGoOff 112 = .ok (.getfield 25, 3) := by decide +kernel
theorem dX0_letGoOff_115 : decode cX0_letGoOff 115 = .ok (.iload_n 1, 1) := by decide +kernel
theorem dX0_letGoOff_116 : decode cX0_letGoOff 116 = .ok (.invokestatic 100, 3) := by decide +kernel
theorem dX0_letGoOff_119 : decode cX0_letGoOff 119 = .ok (.iconst 1, 1) := by decide +kernel
theorem dX0_letGoOff_120 : decode cX0_letGoOff 120 = .ok (.iadd, 1) := by decide +kernel
theorem dX0_letGoOff_121 : decode cX0_letGoOff 121 = .ok (.invokestatic 72, 3) := by decide +kernel
theorem dX0_letGoOff_124 : decode cX0_letGoOff 124 = .ok (.return_, 1) := by decide +kernel
set_option maxRecDepth 20000 in
theorem ggX0_letBoard_X0_waitingAt : GoodIn wsX0_letBoard wsX0_waitingAt := goodIn_r _ [6, 7, 8, 9, 10, 11, 12, 13, 5, 14, 41, 42, 43, 44, 45, 46, 47, 48, 49, 50, 51, 52, 53, 54, 55, 56, 57] (by decide +kernel) (by decide +kernel)
set_option maxRecDepth 20000 in
theorem gX0_letBoard_X0_waitingAt : GoodIn wsX0_letBoard (wsV RX0 80 RX0 yX0_waitingAt wsX0_waitingAt) := goodIn_app (goodIn_of _ (by decide +kernel)) ggX0_letBoard_X0_waitingAt
set_option maxRecDepth 20000 in
theorem ggX0_letBoard_X0_berthHolds : GoodIn wsX0_letBoard wsX0_berthHolds := goodIn_r _ [18, 1, 19, 12, 13, 5, 14, 41, 42, 43, 44, 45, 46, 47, 48, 49, 50, 51, 52, 53, 54, 55, 56, 57] (by decide +kernel) (by decide +kernel)
set_option maxRecDepth 20000 in
theorem gX0_letBoard_X0_berthHolds : GoodIn wsX0_letBoard (wsV RX0 123 RX0 yX0_berthHolds wsX0_berthHolds) := goodIn_app (goodIn_of _ (by decide +kernel)) ggX0_letBoard_X0_berthHolds
set_option maxRecDepth 20000 in
theorem ggX0_letBoard_X0_read : GoodIn wsX0_letBoard wsX0_read := goodIn_r _ [14] (by decide +kernel) (by decide +kernel)
set_option maxRecDepth 20000 in
theorem gX0_letBoard_X0_read : GoodIn wsX0_letBoard (va_wsS RX0 100 yX0_read wsX0_read) := goodIn_app (goodIn_of _ (by decide +kernel)) ggX0_letBoard_X0_read
set_option maxRecDepth 20000 in
theorem ggX0_letBoard_X0_boardFirst : GoodIn wsX0_letBoard wsX0_boardFirst := goodIn_r _ [23, 24, 25, 26, 27, 28, 7, 12, 13, 5, 14, 29, 30, 31, 32, 33, 34, 35, 19, 36, 37, 38, 39, 40, 2, 3, 4, 6, 8, 9, 10, 11, 41, 42, 43, 44, 45, 46, 47, 48, 49, 50, 51, 52, 53, 54, 55, 56, 57] (by decide +kernel) (by decide +kernel)
set_option maxRecDepth 20000 in
theorem gX0_letBoard_X0_boardFirst : GoodIn wsX0_letBoard (wsV RX0 126 RX0 yX0_boardFirst wsX0_boardFirst) := goodIn_app (goodIn_of _ (by decide +kernel)) ggX0_letBoard_X0_boardFirst
theorem dX0_letBoard_0 : decode cX0_letBoard 0 = .ok (.iload_n 1, 1) := by decide +kernel
theorem dX0_letBoard_1 : decode cX0_letBoard 1 = .ok (.iconst 3, 1) := by decide +kernel
theorem dX0_letBoard_2 : decode cX0_letBoard 2 = .ok (.imul, 1) := by decide +kernel
theorem dX0_letBoard_3 : decode cX0_letBoard 3 = .ok (.istore_n 2, 1) := by decide +kernel
theorem dX0_letBoard_4 : decode cX0_letBoard 4 = .ok (.iload_n 2, 1) := by decide +kernel
theorem dX0_letBoard_5 : decode cX0_letBoard 5 = .ok (.iload_n 1, 1) := by decide +kernel
theorem dX0_letBoard_6 : decode cX0_letBoard 6 = .ok (.iconst 1, 1) := by decide +kernel
theorem dX0_letBoard_7 : decode cX0_letBoard 7 = .ok (.iadd, 1) := by decide +kernel
theorem dX0_letBoard_8 : decode cX0_letBoard 8 = .ok (.iconst 3, 1) := by decide +kernel
theorem dX0_letBoard_9 : decode cX0_letBoard 9 = .ok (.imul, 1) := by decide +kernel
theorem dX0_letBoard_10 : decode cX0_letBoard 10 = .ok (.if_icmp .ge 39, 3) := by decide +kernel
theorem dX0_letBoard_13 : decode cX0_letBoard 13 = .ok (.aload_n 0, 1) := by decide +kernel
theorem dX0_letBoard_14 : decode cX0_letBoard 14 = .ok (.iload_n 1, 1) := by decide +kernel
theorem dX0_letBoard_15 : decode cX0_letBoard 15 = .ok (.invokevirtual 80, 3) := by decide +kernel
theorem dX0_letBoard_18 : decode cX0_letBoard 18 = .ok (.ifCond .le 25, 3) := by decide +kernel
theorem dX0_letBoard_21 : decode cX0_letBoard 21 = .ok (.aload_n 0, 1) := by decide +kernel
theorem dX0_letBoard_22 : decode cX0_letBoard 22 = .ok (.iload_n 2, 1) := by decide +kernel
theorem dX0_letBoard_23 : decode cX0_letBoard 23 = .ok (.invokevirtual 123, 3) := by decide +kernel
theorem dX0_letBoard_26 : decode cX0_letBoard 26 = .ok (.iconst 1, 1) := by decide +kernel
theorem dX0_letBoard_27 : decode cX0_letBoard 27 = .ok (.if_icmp .ne 16, 3) := by decide +kernel
theorem dX0_letBoard_30 : decode cX0_letBoard 30 = .ok (.aload_n 0, 1) := by decide +kernel
theorem dX0_letBoard_31 : decode cX0_letBoard 31 = .ok (.iload_n 1, 1) := by decide +kernel
theorem dX0_letBoard_32 : decode cX0_letBoard 32 = .ok (.aload_n 0, 1) := by decide +kernel
theorem dX0_letBoard_33 : decode cX0_letBoard 33 = .ok (.getfield 19, 3) := by decide +kernel
theorem dX0_letBoard_36 : decode cX0_letBoard 36 = .ok (.iload_n 2, 1) := by decide +kernel
theorem dX0_letBoard_37 : decode cX0_letBoard 37 = .ok (.invokestatic 100, 3) := by decide +kernel
theorem dX0_letBoard_40 : decode cX0_letBoard 40 = .ok (.invokevirtual 126, 3) := by decide +kernel
theorem dX0_letBoard_43 : decode cX0_letBoard 43 = .ok (.iinc 2 1, 3) := by decide +kernel
theorem dX0_letBoard_46 : decode cX0_letBoard 46 = .ok (.goto (-42), 3) := by decide +kernel
theorem dX0_letBoard_49 : decode cX0_letBoard 49 = .ok (.return_, 1) := by decide +kernel
set_option maxRecDepth 20000 in
theorem ggX0_boardFirst_X0_read : GoodIn wsX0_boardFirst wsX0_read := goodIn_r _ [10] (by decide +kernel) (by decide +kernel)
set_option maxRecDepth 20000 in
theorem gX0_boardFirst_X0_read : GoodIn wsX0_boardFirst (va_wsS RX0 100 yX0_read wsX0_read) := goodIn_app (goodIn_of _ (by decide +kernel)) ggX0_boardFirst_X0_read
set_option maxRecDepth 20000 in
theorem ggX0_boardFirst_X0_write : GoodIn wsX0_boardFirst wsX0_write := goodIn_r _ [13] (by decide +kernel) (by decide +kernel)
set_option maxRecDepth 20000 in
theorem gX0_boardFirst_X0_write : GoodIn wsX0_boardFirst (va_wsS RX0 72 yX0_write wsX0_write) := goodIn_app (goodIn_of _ (by decide +kernel)) ggX0_boardFirst_X0_write
set_option maxRecDepth 20000 in
theorem ggX0_boardFirst_X0_setGoal : GoodIn wsX0_boardFirst wsX0_setGoal := goodIn_r _ [17, 18, 11, 12, 9, 13, 32, 33, 34, 35, 36, 37, 38, 39, 40, 41, 42, 43, 44, 45, 46, 47, 48] (by decide +kernel) (by decide +kernel)
set_option maxRecDepth 20000 in
theorem gX0_boardFirst_X0_setGoal : GoodIn wsX0_boardFirst (wsV RX0 119 RX0 yX0_setGoal wsX0_setGoal) := goodIn_app (goodIn_of _ (by decide +kernel)) ggX0_boardFirst_X0_setGoal
set_option maxRecDepth 20000 in
theorem ggX0_boardFirst_X0_waitedBy : GoodIn wsX0_boardFirst wsX0_waitedBy := goodIn_r _ [22, 23, 5, 7, 8, 9, 10, 32, 33, 34, 35, 36, 37, 38, 39, 40, 41, 42, 43, 44, 45, 46, 47, 48] (by decide +kernel) (by decide +kernel)
set_option maxRecDepth 20000 in
theorem gX0_boardFirst_X0_waitedBy : GoodIn wsX0_boardFirst (wsV RX0 129 RX0 yX0_waitedBy wsX0_waitedBy) := goodIn_app (goodIn_of _ (by decide +kernel)) ggX0_boardFirst_X0_waitedBy
set_option maxRecDepth 20000 in
theorem ggX0_boardFirst_X0_waitingAt : GoodIn wsX0_boardFirst wsX0_waitingAt := goodIn_r _ [27, 6, 28, 29, 30, 31, 7, 8, 9, 10, 32, 33, 34, 35, 36, 37, 38, 39, 40, 41, 42, 43, 44, 45, 46, 47, 48] (by decide +kernel) (by decide +kernel)
set_option maxRecDepth 20000 in
theorem gX0_boardFirst_X0_waitingAt : GoodIn wsX0_boardFirst (wsV RX0 80 RX0 yX0_waitingAt wsX0_waitingAt) := goodIn_app (goodIn_of _ (by decide +kernel)) ggX0_boardFirst_X0_waitingAt
theorem dX0_boardFirst_0 : decode cX0_boardFirst 0 = .ok (.iload_n 1, 1) := by decide +kernel
theorem dX0_boardFirst_1 : decode cX0_boardFirst 1 = .ok (.bipush 9, 2) := by decide +kernel
theorem dX0_boardFirst_3 : decode cX0_boardFirst 3 = .ok (.imul, 1) := by decide +kernel
theorem dX0_boardFirst_4 : decode cX0_boardFirst 4 = .ok (.istore_n 3, 1) := by decide +kernel
theorem dX0_boardFirst_5 : decode cX0_boardFirst 5 = .ok (.aload_n 0, 1) := by decide +kernel
theorem dX0_boardFirst_6 : decode cX0_boardFirst 6 = .ok (.getfield 43, 3) := by decide +kernel
theorem dX0_boardFirst_9 : decode cX0_boardFirst 9 = .ok (.iload_n 2, 1) := by decide +kernel
theorem dX0_boardFirst_10 : decode cX0_boardFirst 10 = .ok (.aload_n 0, 1) := by decide +kernel
theorem dX0_boardFirst_11 : decode cX0_boardFirst 11 = .ok (.getfield 31, 3) := by decide +kernel
theorem dX0_boardFirst_14 : decode cX0_boardFirst 14 = .ok (.iload_n 3, 1) := by decide +kernel
theorem dX0_boardFirst_15 : decode cX0_boardFirst 15 = .ok (.invokestatic 100, 3) := by decide +kernel
theorem dX0_boardFirst_18 : decode cX0_boardFirst 18 = .ok (.invokestatic 72, 3) := by decide +kernel
theorem dX0_boardFirst_21 : decode cX0_boardFirst 21 = .ok (.aload_n 0, 1) := by decide +kernel
theorem dX0_boardFirst_22 : decode cX0_boardFirst 22 = .ok (.iload_n 2, 1) := by decide +kernel
theorem dX0_boardFirst_23 : decode cX0_boardFirst 23 = .ok (.aload_n 0, 1) := by decide +kernel
theorem dX0_boardFirst_24 : decode cX0_boardFirst 24 = .ok (.getfield 34, 3) := by decide +kernel
theorem dX0_boardFirst_27 : decode cX0_boardFirst 27 = .ok (.iload_n 3, 1) := by decide +kernel
theorem dX0_boardFirst_28 : decode cX0_boardFirst 28 = .ok (.invokestatic 100, 3) := by decide +kernel
theorem dX0_boardFirst_31 : decode cX0_boardFirst 31 = .ok (.invokevirtual 119, 3) := by decide +kernel
theorem dX0_boardFirst_34 : decode cX0_boardFirst 34 = .ok (.aload_n 0, 1) := by decide +kernel
theorem dX0_boardFirst_35 : decode cX0_boardFirst 35 = .ok (.dup, 1) := by decide +kernel
theorem dX0_boardFirst_36 : decode cX0_boardFirst 36 = .ok (.getfield 65, 3) := by decide +kernel
theorem dX0_boardFirst_39 : decode cX0_boardFirst 39 = .ok (.aload_n 0, 1) := by decide +kernel
theorem dX0_boardFirst_40 : decode cX0_boardFirst 40 = .ok (.iload_n 1, 1) := by decide +kernel
theorem dX0_boardFirst_41 : decode cX0_boardFirst 41 = .ok (.iconst 0, 1) := by decide +kernel
theorem dX0_boardFirst_42 : decode cX0_boardFirst 42 = .ok (.invokevirtual 129, 3) := by decide +kernel
theorem dX0_boardFirst_45 : decode cX0_boardFirst 45 = .ok (.iadd, 1) := by decide +kernel
theorem dX0_boardFirst_46 : decode cX0_boardFirst 46 = .ok (.putfield 65, 3) := by decide +kernel
theorem dX0_boardFirst_49 : decode cX0_boardFirst 49 = .ok (.aload_n 0, 1) := by decide +kernel
theorem dX0_boardFirst_50 : decode cX0_boardFirst 50 = .ok (.iload_n 1, 1) := by decide +kernel
theorem dX0_boardFirst_51 : decode cX0_boardFirst 51 = .ok (.invokevirtual 80, 3) := by decide +kernel
theorem dX0_boardFirst_54 : decode cX0_boardFirst 54 = .ok (.iconst 1, 1) := by decide +kernel
theorem dX0_boardFirst_55 : decode cX0_boardFirst 55 = .ok (.isub, 1) := by decide +kernel
theorem dX0_boardFirst_56 : decode cX0_boardFirst 56 = .ok (.istore 4, 2) := by decide +kernel
theorem dX0_boardFirst_58 : decode cX0_boardFirst 58 = .ok (.iload_n 3, 1) := by decide +kernel
theorem dX0_boardFirst_59 : decode cX0_boardFirst 59 = .ok (.istore 5, 2) := by decide +kernel
theorem dX0_boardFirst_61 : decode cX0_boardFirst 61 = .ok (.iload 5, 2) := by decide +kernel
theorem dX0_boardFirst_63 : decode cX0_boardFirst 63 = .ok (.iload_n 3, 1) := by decide +kernel
theorem dX0_boardFirst_64 : decode cX0_boardFirst 64 = .ok (.iload 4, 2) := by decide +kernel
theorem dX0_boardFirst_66 : decode cX0_boardFirst 66 = .ok (.iadd, 1) := by decide +kernel
theorem dX0_boardFirst_67 : decode cX0_boardFirst 67 = .ok (.if_icmp .ge 69, 3) := by decide +kernel
theorem dX0_boardFirst_70 : decode cX0_boardFirst 70 = .ok (.aload_n 0, 1) := by decide +kernel
theorem dX0_boardFirst_71 : decode cX0_boardFirst 71 = .ok (.getfield 31, 3) := by decide +kernel
theorem dX0_boardFirst_74 : decode cX0_boardFirst 74 = .ok (.iload 5, 2) := by decide +kernel
theorem dX0_boardFirst_76 : decode cX0_boardFirst 76 = .ok (.aload_n 0, 1) := by decide +kernel
theorem dX0_boardFirst_77 : decode cX0_boardFirst 77 = .ok (.getfield 31, 3) := by decide +kernel
theorem dX0_boardFirst_80 : decode cX0_boardFirst 80 = .ok (.iload 5, 2) := by decide +kernel
theorem dX0_boardFirst_82 : decode cX0_boardFirst 82 = .ok (.iconst 1, 1) := by decide +kernel
theorem dX0_boardFirst_83 : decode cX0_boardFirst 83 = .ok (.iadd, 1) := by decide +kernel
theorem dX0_boardFirst_84 : decode cX0_boardFirst 84 = .ok (.invokestatic 100, 3) := by decide +kernel
theorem dX0_boardFirst_87 : decode cX0_boardFirst 87 = .ok (.invokestatic 72, 3) := by decide +kernel
theorem dX0_boardFirst_90 : decode cX0_boardFirst 90 = .ok (.aload_n 0, 1) := by decide +kernel
theorem dX0_boardFirst_91 : decode cX0_boardFirst 91 = .ok (.getfield 34, 3) := by decide +kernel
theorem dX0_boardFirst_94 : decode cX0_boardFirst 94 = .ok (.iload 5, 2) := by decide +kernel
theorem dX0_boardFirst_96 : decode cX0_boardFirst 96 = .ok (.aload_n 0, 1) := by decide +kernel
theorem dX0_boardFirst_97 : decode cX0_boardFirst 97 = .ok (.getfield 34, 3) := by decide +kernel
theorem dX0_boardFirst_100 : decode cX0_boardFirst 100 = .ok (.iload 5, 2) := by decide +kernel
theorem dX0_boardFirst_102 : decode cX0_boardFirst 102 = .ok (.iconst 1, 1) := by decide +kernel
theorem dX0_boardFirst_103 : decode cX0_boardFirst 103 = .ok (.iadd, 1) := by decide +kernel
theorem dX0_boardFirst_104 : decode cX0_boardFirst 104 = .ok (.invokestatic 100, 3) := by decide +kernel
theorem dX0_boardFirst_107 : decode cX0_boardFirst 107 = .ok (.invokestatic 72, 3) := by decide +kernel
theorem dX0_boardFirst_110 : decode cX0_boardFirst 110 = .ok (.aload_n 0, 1) := by decide +kernel
theorem dX0_boardFirst_111 : decode cX0_boardFirst 111 = .ok (.getfield 37, 3) := by decide +kernel
theorem dX0_boardFirst_114 : decode cX0_boardFirst 114 = .ok (.iload 5, 2) := by decide +kernel
theorem dX0_boardFirst_116 : decode cX0_boardFirst 116 = .ok (.aload_n 0, 1) := by decide +kernel
theorem dX0_boardFirst_117 : decode cX0_boardFirst 117 = .ok (.getfield 37, 3) := by decide +kernel
theorem dX0_boardFirst_120 : decode cX0_boardFirst 120 = .ok (.iload 5, 2) := by decide +kernel
theorem dX0_boardFirst_122 : decode cX0_boardFirst 122 = .ok (.iconst 1, 1) := by decide +kernel
theorem dX0_boardFirst_123 : decode cX0_boardFirst 123 = .ok (.iadd, 1) := by decide +kernel
theorem dX0_boardFirst_124 : decode cX0_boardFirst 124 = .ok (.invokestatic 100, 3) := by decide +kernel
theorem dX0_boardFirst_127 : decode cX0_boardFirst 127 = .ok (.invokestatic 72, 3) := by decide +kernel
theorem dX0_boardFirst_130 : decode cX0_boardFirst 130 = .ok (.iinc 5 1, 3) := by decide +kernel
theorem dX0_boardFirst_133 : decode cX0_boardFirst 133 = .ok (.goto (-72), 3) := by decide +kernel
theorem dX0_boardFirst_136 : decode cX0_boardFirst 136 = .ok (.aload_n 0, 1) := by decide +kernel
theorem dX0_boardFirst_137 : decode cX0_boardFirst 137 = .ok (.getfield 28, 3) := by decide +kernel
theorem dX0_boardFirst_140 : decode cX0_boardFirst 140 = .ok (.iload_n 1, 1) := by decide +kernel
theorem dX0_boardFirst_141 : decode cX0_boardFirst 141 = .ok (.iload 4, 2) := by decide +kernel
theorem dX0_boardFirst_143 : decode cX0_boardFirst 143 = .ok (.invokestatic 72, 3) := by decide +kernel
theorem dX0_boardFirst_146 : decode cX0_boardFirst 146 = .ok (.return_, 1) := by decide +kernel
set_option maxRecDepth 20000 in
theorem ggX0_letCall_X0_waitingAt : GoodIn wsX0_letCall wsX0_waitingAt := goodIn_r _ [7, 8, 9, 10, 11, 12, 13, 14, 6, 15, 60, 61, 62, 63, 64, 65, 66, 67, 68, 69, 70, 71, 72, 73, 74, 75, 76] (by decide +kernel) (by decide +kernel)
set_option maxRecDepth 20000 in
theorem gX0_letCall_X0_waitingAt : GoodIn wsX0_letCall (wsV RX0 80 RX0 yX0_waitingAt wsX0_waitingAt) := goodIn_app (goodIn_of _ (by decide +kernel)) ggX0_letCall_X0_waitingAt
set_option maxRecDepth 20000 in
theorem ggX0_letCall_X0_emptyPodsTo : GoodIn wsX0_letCall wsX0_emptyPodsTo := goodIn_r _ [19, 20, 21, 22, 23, 24, 6, 25, 26, 13, 14, 15, 60, 61, 62, 63, 64, 65, 66, 67, 68, 69, 70, 71, 72, 73, 74, 75, 76] (by decide +kernel) (by decide +kernel)
set_option maxRecDepth 20000 in
theorem gX0_letCall_X0_emptyPodsTo : GoodIn wsX0_letCall (wsV RX0 132 RX0 yX0_emptyPodsTo wsX0_emptyPodsTo) := goodIn_app (goodIn_of _ (by decide +kernel)) ggX0_letCall_X0_emptyPodsTo
set_option maxRecDepth 20000 in
theorem ggX0_letCall_X0_stationThatAnswers : GoodIn wsX0_letCall wsX0_stationThatAnswers := goodIn_r _ [30, 31, 32, 33, 34, 6, 35, 36, 37, 38, 39, 40, 13, 14, 15, 41, 42, 43, 44, 3, 4, 5, 7, 8, 9, 10, 11, 12, 45, 46, 47, 48, 49, 50, 51, 52, 1, 26, 60, 61, 62, 63, 64, 65, 66, 67, 68, 69, 70, 71, 72, 73, 74, 75, 76] (by decide +kernel) (by decide +kernel)
set_option maxRecDepth 20000 in
theorem gX0_letCall_X0_stationThatAnswers : GoodIn wsX0_letCall (wsV RX0 135 RX0 yX0_stationThatAnswers wsX0_stationThatAnswers) := goodIn_app (goodIn_of _ (by decide +kernel)) ggX0_letCall_X0_stationThatAnswers
set_option maxRecDepth 20000 in
theorem ggX0_letCall_X0_firstBerth : GoodIn wsX0_letCall wsX0_firstBerth := goodIn_r _ [48, 49, 50, 51, 6, 52, 1, 26, 13, 14, 15, 60, 61, 62, 63, 64, 65, 66, 67, 68, 69, 70, 71, 72, 73, 74, 75, 76] (by decide +kernel) (by decide +kernel)
set_option maxRecDepth 20000 in
theorem gX0_letCall_X0_firstBerth : GoodIn wsX0_letCall (wsV RX0 76 RX0 yX0_firstBerth wsX0_firstBerth) := goodIn_app (goodIn_of _ (by decide +kernel)) ggX0_letCall_X0_firstBerth
set_option maxRecDepth 20000 in
theorem ggX0_letCall_X0_read : GoodIn wsX0_letCall wsX0_read := goodIn_r _ [15] (by decide +kernel) (by decide +kernel)
set_option maxRecDepth 20000 in
theorem gX0_letCall_X0_read : GoodIn wsX0_letCall (va_wsS RX0 100 yX0_read wsX0_read) := goodIn_app (goodIn_of _ (by decide +kernel)) ggX0_letCall_X0_read
set_option maxRecDepth 20000 in
theorem ggX0_letCall_X0_setGoal : GoodIn wsX0_letCall wsX0_setGoal := goodIn_r _ [56, 26, 57, 58, 6, 59, 60, 61, 62, 63, 64, 65, 66, 67, 68, 69, 70, 71, 72, 73, 74, 75, 76] (by decide +kernel) (by decide +kernel)
set_option maxRecDepth 20000 in
theorem gX0_letCall_X0_setGoal : GoodIn wsX0_letCall (wsV RX0 119 RX0 yX0_setGoal wsX0_setGoal) := goodIn_app (goodIn_of _ (by decide +kernel)) ggX0_letCall_X0_setGoal
theorem dX0_letCall_0 : decode cX0_letCall 0 = .ok (.aload_n 0, 1) := by decide +kernel
theorem dX0_letCall_1 : decode cX0_letCall 1 = .ok (.iload_n 1, 1) := by decide +kernel
theorem dX0_letCall_2 : decode cX0_letCall 2 = .ok (.invokevirtual 80, 3) := by decide +kernel
theorem dX0_letCall_5 : decode cX0_letCall 5 = .ok (.aload_n 0, 1) := by decide +kernel
theorem dX0_letCall_6 : decode cX0_letCall 6 = .ok (.iload_n 1, 1) := by decide +kernel
theorem dX0_letCall_7 : decode cX0_letCall 7 = .ok (.invokevirtual 132, 3) := by decide +kernel
theorem dX0_letCall_10 : decode cX0_letCall 10 = .ok (.if_icmp .gt 4, 3) := by decide +kernel
theorem dX0_letCall_13 : decode cX0_letCall 13 = .ok (.return_, 1) := by decide +kernel
theorem dX0_letCall_14 : decode cX0_letCall 14 = .ok (.aload_n 0, 1) := by decide +kernel
theorem dX0_letCall_15 : decode cX0_letCall 15 = .ok (.iload_n 1, 1) := by decide +kernel
theorem dX0_letCall_16 : decode cX0_letCall 16 = .ok (.invokevirtual 135, 3) := by decide +kernel
theorem dX0_letCall_19 : decode cX0_letCall 19 = .ok (.istore_n 2, 1) := by decide +kernel
theorem dX0_letCall_20 : decode cX0_letCall 20 = .ok (.iload_n 2, 1) := by decide +kernel
theorem dX0_letCall_21 : decode cX0_letCall 21 = .ok (.iconst (-1), 1) := by decide +kernel
theorem dX0_letCall_22 : decode cX0_letCall 22 = .ok (.if_icmp .ne 4, 3) := by decide +kernel
theorem dX0_letCall_25 : decode cX0_letCall 25 = .ok (.return_, 1) := by decide +kernel
theorem dX0_letCall_26 : decode cX0_letCall 26 = .ok (.aload_n 0, 1) := by decide +kernel
theorem dX0_letCall_27 : decode cX0_letCall 27 = .ok (.getfield 19, 3) := by decide +kernel
theorem dX0_letCall_30 : decode cX0_letCall 30 = .ok (.aload_n 0, 1) := by decide +kernel
theorem dX0_letCall_31 : decode cX0_letCall 31 = .ok (.iload_n 2, 1) := by decide +kernel
theorem dX0_letCall_32 : decode cX0_letCall 32 = .ok (.iconst 1, 1) := by decide +kernel
theorem dX0_letCall_33 : decode cX0_letCall 33 = .ok (.invokevirtual 76, 3) := by decide +kernel
theorem dX0_letCall_36 : decode cX0_letCall 36 = .ok (.invokestatic 100, 3) := by decide +kernel
theorem dX0_letCall_39 : decode cX0_letCall 39 = .ok (.istore_n 3, 1) := by decide +kernel
theorem dX0_letCall_40 : decode cX0_letCall 40 = .ok (.aload_n 0, 1) := by decide +kernel
theorem dX0_letCall_41 : decode cX0_letCall 41 = .ok (.iload_n 3, 1) := by decide +kernel
theorem dX0_letCall_42 : decode cX0_letCall 42 = .ok (.iload_n 1, 1) := by decide +kernel
theorem dX0_letCall_43 : decode cX0_letCall 43 = .ok (.invokevirtual 119, 3) := by decide +kernel
theorem dX0_letCall_46 : decode cX0_letCall 46 = .ok (.aload_n 0, 1) := by decide +kernel
theorem dX0_letCall_47 : decode cX0_letCall 47 = .ok (.dup, 1) := by decide +kernel
theorem dX0_letCall_48 : decode cX0_letCall 48 = .ok (.getfield 62, 3) := by decide +kernel
theorem dX0_letCall_51 : decode cX0_letCall 51 = .ok (.iconst 1, 1) := by decide +kernel
theorem dX0_letCall_52 : decode cX0_letCall 52 = .ok (.iadd, 1) := by decide +kernel
theorem dX0_letCall_53 : decode cX0_letCall 53 = .ok (.putfield 62, 3) := by decide +kernel
theorem dX0_letCall_56 : decode cX0_letCall 56 = .ok (.return_, 1) := by decide +kernel
set_option maxRecDepth 20000 in
theorem ggX0_letMerge_X0_placeOf : GoodIn wsX0_letMerge wsX0_placeOf := goodIn_r _ [7, 8, 9, 10, 6, 11, 28, 29, 30, 31, 32, 33, 34, 35, 36, 37, 38, 39, 40, 41, 42, 43, 44] (by decide +kernel) (by decide +kernel)
set_option maxRecDepth 20000 in
theorem gX0_letMerge_X0_placeOf : GoodIn wsX0_letMerge (wsV RX0 110 RX0 yX0_placeOf wsX0_placeOf) := goodIn_app (goodIn_of _ (by decide +kernel)) ggX0_letMerge_X0_placeOf
set_option maxRecDepth 20000 in
theorem ggX0_letMerge_X0_firstBerth : GoodIn wsX0_letMerge wsX0_firstBerth := goodIn_r _ [15, 16, 17, 18, 6, 19, 2, 20, 9, 10, 11, 28, 29, 30, 31, 32, 33, 34, 35, 36, 37, 38, 39, 40, 41, 42, 43, 44] (by decide +kernel) (by decide +kernel)
set_option maxRecDepth 20000 in
theorem gX0_letMerge_X0_firstBerth : GoodIn wsX0_letMerge (wsV RX0 76 RX0 yX0_firstBerth wsX0_firstBerth) := goodIn_app (goodIn_of _ (by decide +kernel)) ggX0_letMerge_X0_firstBerth
set_option maxRecDepth 20000 in
theorem ggX0_letMerge_X0_podAtPlace : GoodIn wsX0_letMerge wsX0_podAtPlace := goodIn_r _ [24, 1, 9, 10, 6, 11, 28, 29, 30, 31, 32, 33, 34, 35, 36, 37, 38, 39, 40, 41, 42, 43, 44] (by decide +kernel) (by decide +kernel)
set_option maxRecDepth 20000 in
theorem gX0_letMerge_X0_podAtPlace : GoodIn wsX0_letMerge (wsV RX0 113 RX0 yX0_podAtPlace wsX0_podAtPlace) := goodIn_app (goodIn_of _ (by decide +kernel)) ggX0_letMerge_X0_podAtPlace
set_option maxRecDepth 20000 in
theorem ggX0_letMerge_X0_read : GoodIn wsX0_letMerge wsX0_read := goodIn_r _ [11] (by decide +kernel) (by decide +kernel)
set_option maxRecDepth 20000 in
theorem gX0_letMerge_X0_read : GoodIn wsX0_letMerge (va_wsS RX0 100 yX0_read wsX0_read) := goodIn_app (goodIn_of _ (by decide +kernel)) ggX0_letMerge_X0_read
set_option maxRecDepth 20000 in
theorem ggX0_letMerge_X0_write : GoodIn wsX0_letMerge wsX0_write := goodIn_r _ [27] (by decide +kernel) (by decide +kernel)
set_option maxRecDepth 20000 in
theorem gX0_letMerge_X0_write : GoodIn wsX0_letMerge (va_wsS RX0 72 yX0_write wsX0_write) := goodIn_app (goodIn_of _ (by decide +kernel)) ggX0_letMerge_X0_write
theorem dX0_letMerge_0 : decode cX0_letMerge 0 = .ok (.aload_n 0, 1) := by decide +kernel
theorem dX0_letMerge_1 : decode cX0_letMerge 1 = .ok (.iload_n 1, 1) := by decide +kernel
theorem dX0_letMerge_2 : decode cX0_letMerge 2 = .ok (.invokevirtual 110, 3) := by decide +kernel
theorem dX0_letMerge_5 : decode cX0_letMerge 5 = .ok (.istore_n 2, 1) := by decide +kernel
theorem dX0_letMerge_6 : decode cX0_letMerge 6 = .ok (.aload_n 0, 1) := by decide +kernel
theorem dX0_letMerge_7 : decode cX0_letMerge 7 = .ok (.iload_n 1, 1) := by decide +kernel
theorem dX0_letMerge_8 : decode cX0_letMerge 8 = .ok (.iconst 2, 1) := by decide +kernel
theorem dX0_letMerge_9 : decode cX0_letMerge 9 = .ok (.invokevirtual 76, 3) := by decide +kernel
theorem dX0_letMerge_12 : decode cX0_letMerge 12 = .ok (.istore_n 3, 1) := by decide +kernel
theorem dX0_letMerge_13 : decode cX0_letMerge 13 = .ok (.iload_n 3, 1) := by decide +kernel
theorem dX0_letMerge_14 : decode cX0_letMerge 14 = .ok (.iconst (-1), 1) := by decide +kernel
theorem dX0_letMerge_15 : decode cX0_letMerge 15 = .ok (.if_icmp .eq 12, 3) := by decide +kernel
theorem dX0_letMerge_18 : decode cX0_letMerge 18 = .ok (.aload_n 0, 1) := by decide +kernel
theorem dX0_letMerge_19 : decode cX0_letMerge 19 = .ok (.iload_n 2, 1) := by decide +kernel
theorem dX0_letMerge_20 : decode cX0_letMerge 20 = .ok (.invokevirtual 113, 3) := by decide +kernel
theorem dX0_letMerge_23 : decode cX0_letMerge 23 = .ok (.iconst (-1), 1) := by decide +kernel
theorem dX0_letMerge_24 : decode cX0_letMerge 24 = .ok (.if_icmp .eq 4, 3) := by decide +kernel
theorem dX0_letMerge_27 : decode cX0_letMerge 27 = .ok (.return_, 1) := by decide +kernel
theorem dX0_letMerge_28 : decode cX0_letMerge 28 = .ok (.aload_n 0, 1) := by decide +kernel
theorem dX0_letMerge_29 : decode cX0_letMerge 29 = .ok (.getfield 15, 3) := by decide +kernel
theorem dX0_letMerge_32 : decode cX0_letMerge 32 = .ok (.iload_n 2, 1) := by decide +kernel
theorem dX0_letMerge_33 : decode cX0_letMerge 33 = .ok (.aload_n 0, 1) := by decide +kernel
theorem dX0_letMerge_34 : decode cX0_letMerge 34 = .ok (.getfield 19, 3) := by decide +kernel
theorem dX0_letMerge_37 : decode cX0_letMerge 37 = .ok (.iload_n 3, 1) := by decide +kernel
theorem dX0_letMerge_38 : decode cX0_letMerge 38 = .ok (.invokestatic 100, 3) := by decide +kernel
theorem dX0_letMerge_41 : decode cX0_letMerge 41 = .ok (.invokestatic 72, 3) := by decide +kernel
theorem dX0_letMerge_44 : decode cX0_letMerge 44 = .ok (.aload_n 0, 1) := by decide +kernel
theorem dX0_letMerge_45 : decode cX0_letMerge 45 = .ok (.getfield 19, 3) := by decide +kernel
theorem dX0_letMerge_48 : decode cX0_letMerge 48 = .ok (.iload_n 3, 1) := by decide +kernel
theorem dX0_letMerge_49 : decode cX0_letMerge 49 = .ok (.iconst (-1), 1) := by decide +kernel
theorem dX0_letMerge_50 : decode cX0_letMerge 50 = .ok (.invokestatic 72, 3) := by decide +kernel
theorem dX0_letMerge_53 : decode cX0_letMerge 53 = .ok (.return_, 1) := by decide +kernel
set_option maxRecDepth 20000 in
theorem ggX0_stationAtPlace_X0_placeOf : GoodIn wsX0_stationAtPlace wsX0_placeOf := goodIn_r _ [6, 7, 8, 9, 5, 10, 11, 12, 13, 14, 15, 16, 17, 18, 19, 20, 21, 22, 23, 24, 25, 26, 27] (by decide +kernel) (by decide +kernel)
set_option maxRecDepth 20000 in
theorem gX0_stationAtPlace_X0_placeOf : GoodIn wsX0_stationAtPlace (wsV RX0 110 RX0 yX0_placeOf wsX0_placeOf) := goodIn_app (goodIn_of _ (by decide +kernel)) ggX0_stationAtPlace_X0_placeOf
theorem dX0_stationAtPlace_0 : decode cX0_stationAtPlace 0 = .ok (.iconst 0, 1) := by decide +kernel
theorem dX0_stationAtPlace_1 : decode cX0_stationAtPlace 1 = .ok (.istore_n 2, 1) := by decide +kernel
theorem dX0_stationAtPlace_2 : decode cX0_stationAtPlace 2 = .ok (.iload_n 2, 1) := by decide +kernel
theorem dX0_stationAtPlace_3 : decode cX0_stationAtPlace 3 = .ok (.aload_n 0, 1) := by decide +kernel
theorem dX0_stationAtPlace_4 : decode cX0_stationAtPlace 4 = .ok (.getfield 53, 3) := by decide +kernel
theorem dX0_stationAtPlace_7 : decode cX0_stationAtPlace 7 = .ok (.if_icmp .ge 20, 3) := by decide +kernel
theorem dX0_stationAtPlace_10 : decode cX0_stationAtPlace 10 = .ok (.aload_n 0, 1) := by decide +kernel
theorem dX0_stationAtPlace_11 : decode cX0_stationAtPlace 11 = .ok (.iload_n 2, 1) := by decide +kernel
theorem dX0_stationAtPlace_12 : decode cX0_stationAtPlace 12 = .ok (.invokevirtual 110, 3) := by decide +kernel
theorem dX0_stationAtPlace_15 : decode cX0_stationAtPlace 15 = .ok (.iload_n 1, 1) := by decide +kernel
theorem dX0_stationAtPlace_16 : decode cX0_stationAtPlace 16 = .ok (.if_icmp .ne 5, 3) := by decide +kernel
theorem dX0_stationAtPlace_19 : decode cX0_stationAtPlace 19 = .ok (.iload_n 2, 1) := by decide +kernel
theorem dX0_stationAtPlace_20 : decode cX0_stationAtPlace 20 = .ok (.ireturn, 1) := by decide +kernel
theorem dX0_stationAtPlace_21 : decode cX0_stationAtPlace 21 = .ok (.iinc 2 1, 3) := by decide +kernel
theorem dX0_stationAtPlace_24 : decode cX0_stationAtPlace 24 = .ok (.goto (-22), 3) := by decide +kernel
theorem dX0_stationAtPlace_27 : decode cX0_stationAtPlace 27 = .ok (.iconst (-1), 1) := by decide +kernel
theorem dX0_stationAtPlace_28 : decode cX0_stationAtPlace 28 = .ok (.ireturn, 1) := by decide +kernel
set_option maxRecDepth 20000 in
theorem ggX0_stationThatAnswers_X0_placesOn : GoodIn wsX0_stationThatAnswers wsX0_placesOn := goodIn_r _ [6, 7, 8, 9, 5, 10, 11, 12, 13, 14, 15, 16, 17, 18, 38, 39, 40, 41, 42, 43, 44, 45, 46, 47, 48, 49, 50, 51, 52, 53, 54] (by decide +kernel) (by decide +kernel)
set_option maxRecDepth 20000 in
theorem gX0_stationThatAnswers_X0_placesOn : GoodIn wsX0_stationThatAnswers (wsV RX0 138 RX0 yX0_placesOn wsX0_placesOn) := goodIn_app (goodIn_of _ (by decide +kernel)) ggX0_stationThatAnswers_X0_placesOn
set_option maxRecDepth 20000 in
theorem ggX0_stationThatAnswers_X0_waitingAt : GoodIn wsX0_stationThatAnswers wsX0_waitingAt := goodIn_r _ [22, 23, 24, 25, 26, 27, 12, 13, 5, 14, 38, 39, 40, 41, 42, 43, 44, 45, 46, 47, 48, 49, 50, 51, 52, 53, 54] (by decide +kernel) (by decide +kernel)
set_option maxRecDepth 20000 in
theorem gX0_stationThatAnswers_X0_waitingAt : GoodIn wsX0_stationThatAnswers (wsV RX0 80 RX0 yX0_waitingAt wsX0_waitingAt) := goodIn_app (goodIn_of _ (by decide +kernel)) ggX0_stationThatAnswers_X0_waitingAt
set_option maxRecDepth 20000 in
theorem ggX0_stationThatAnswers_X0_firstBerth : GoodIn wsX0_stationThatAnswers wsX0_firstBerth := goodIn_r _ [31, 32, 33, 34, 5, 35, 36, 37, 12, 13, 14, 38, 39, 40, 41, 42, 43, 44, 45, 46, 47, 48, 49, 50, 51, 52, 53, 54] (by decide +kernel) (by decide +kernel)
set_option maxRecDepth 20000 in
theorem gX0_stationThatAnswers_X0_firstBerth : GoodIn wsX0_stationThatAnswers (wsV RX0 76 RX0 yX0_firstBerth wsX0_firstBerth) := goodIn_app (goodIn_of _ (by decide +kernel)) ggX0_stationThatAnswers_X0_firstBerth
theorem dX0_stationThatAnswers_0 : decode cX0_stationThatAnswers 0 = .ok (.iconst (-1), 1) := by decide +kernel
theorem dX0_stationThatAnswers_1 : decode cX0_stationThatAnswers 1 = .ok (.istore_n 2, 1) := by decide +kernel
theorem dX0_stationThatAnswers_2 : decode cX0_stationThatAnswers 2 = .ok (.bipush 24, 2) := by decide +kernel
theorem dX0_stationThatAnswers_4 : decode cX0_stationThatAnswers 4 = .ok (.istore_n 3, 1) := by decide +kernel
theorem dX0_stationThatAnswers_5 : decode cX0_stationThatAnswers 5 = .ok (.iconst 0, 1) := by decide +kernel
theorem dX0_stationThatAnswers_6 : decode cX0_stationThatAnswers 6 = .ok (.istore 4, 2) := by decide +kernel
theorem dX0_stationThatAnswers_8 : decode cX0_stationThatAnswers 8 = .ok (.iload 4, 2) := by decide +kernel
theorem dX0_stationThatAnswers_10 : decode cX0_stationThatAnswers 10 = .ok (.aload_n 0, 1) := by decide +kernel
theorem dX0_stationThatAnswers_11 : decode cX0_stationThatAnswers 11 = .ok (.getfield 53, 3) := by decide +kernel
theorem dX0_stationThatAnswers_14 : decode cX0_stationThatAnswers 14 = .ok (.if_icmp .ge 56, 3) := by decide +kernel
theorem dX0_stationThatAnswers_17 : decode cX0_stationThatAnswers 17 = .ok (.aload_n 0, 1) := by decide +kernel
theorem dX0_stationThatAnswers_18 : decode cX0_stationThatAnswers 18 = .ok (.iload 4, 2) := by decide +kernel
theorem dX0_stationThatAnswers_20 : decode cX0_stationThatAnswers 20 = .ok (.iload_n 1, 1) := by decide +kernel
theorem dX0_stationThatAnswers_21 : decode cX0_stationThatAnswers 21 = .ok (.invokevirtual 138, 3) := by decide +kernel
theorem dX0_stationThatAnswers_24 : decode cX0_stationThatAnswers 24 = .ok (.istore 5, 2) := by decide +kernel
theorem dX0_stationThatAnswers_26 : decode cX0_stationThatAnswers 26 = .ok (.iload 4, 2) := by decide +kernel
theorem dX0_stationThatAnswers_28 : decode cX0_stationThatAnswers 28 = .ok (.iload_n 1, 1) := by decide +kernel
theorem dX0_stationThatAnswers_29 : decode cX0_stationThatAnswers 29 = .ok (.if_icmp .eq 35, 3) := by decide +kernel
theorem dX0_stationThatAnswers_32 : decode cX0_stationThatAnswers 32 = .ok (.iload 5, 2) := by decide +kernel
theorem dX0_stationThatAnswers_34 : decode cX0_stationThatAnswers 34 = .ok (.iload_n 3, 1) := by decide +kernel
theorem dX0_stationThatAnswers_35 : decode cX0_stationThatAnswers 35 = .ok (.if_icmp .ge 29, 3) := by decide +kernel
theorem dX0_stationThatAnswers_38 : decode cX0_stationThatAnswers 38 = .ok (.aload_n 0, 1) := by decide +kernel
theorem dX0_stationThatAnswers_39 : decode cX0_stationThatAnswers 39 = .ok (.iload 4, 2) := by decide +kernel
theorem dX0_stationThatAnswers_41 : decode cX0_stationThatAnswers 41 = .ok (.invokevirtual 80, 3) := by decide +kernel
theorem dX0_stationThatAnswers_44 : decode cX0_stationThatAnswers 44 = .ok (.ifCond .ne 20, 3) := by decide +kernel
theorem dX0_stationThatAnswers_47 : decode cX0_stationThatAnswers 47 = .ok (.aload_n 0, 1) := by decide +kernel
theorem dX0_stationThatAnswers_48 : decode cX0_stationThatAnswers 48 = .ok (.iload 4, 2) := by decide +kernel
theorem dX0_stationThatAnswers_50 : decode cX0_stationThatAnswers 50 = .ok (.iconst 1, 1) := by decide +kernel
theorem dX0_stationThatAnswers_51 : decode cX0_stationThatAnswers 51 = .ok (.invokevirtual 76, 3) := by decide +kernel
theorem dX0_stationThatAnswers_54 : decode cX0_stationThatAnswers 54 = .ok (.iconst (-1), 1) := by decide +kernel
theorem dX0_stationThatAnswers_55 : decode cX0_stationThatAnswers 55 = .ok (.if_icmp .eq 9, 3) := by decide +kernel
theorem dX0_stationThatAnswers_58 : decode cX0_stationThatAnswers 58 = .ok (.iload 4, 2) := by decide +kernel
theorem dX0_stationThatAnswers_60 : decode cX0_stationThatAnswers 60 = .ok (.istore_n 2, 1) := by decide +kernel
theorem dX0_stationThatAnswers_61 : decode cX0_stationThatAnswers 61 = .ok (.iload 5, 2) := by decide +kernel
theorem dX0_stationThatAnswers_63 : decode cX0_stationThatAnswers 63 = .ok (.istore_n 3, 1) := by decide +kernel
theorem dX0_stationThatAnswers_64 : decode cX0_stationThatAnswers 64 = .ok (.iinc 4 1, 3) := by decide +kernel
theorem dX0_stationThatAnswers_67 : decode cX0_stationThatAnswers 67 = .ok (.goto (-59), 3) := by decide +kernel
theorem dX0_stationThatAnswers_70 : decode cX0_stationThatAnswers 70 = .ok (.iload_n 2, 1) := by decide +kernel
theorem dX0_stationThatAnswers_71 : decode cX0_stationThatAnswers 71 = .ok (.ireturn, 1) := by decide +kernel
set_option maxRecDepth 20000 in
theorem ggX0_placesOn_X0_placeOf : GoodIn wsX0_placesOn wsX0_placeOf := goodIn_r _ [5, 6, 7, 8, 4, 9, 14, 15, 16, 17, 18, 19, 20, 21, 22, 23, 24, 25, 26, 27, 28, 29, 30] (by decide +kernel) (by decide +kernel)
set_option maxRecDepth 20000 in
theorem gX0_placesOn_X0_placeOf : GoodIn wsX0_placesOn (wsV RX0 110 RX0 yX0_placeOf wsX0_placeOf) := goodIn_app (goodIn_of _ (by decide +kernel)) ggX0_placesOn_X0_placeOf
set_option maxRecDepth 20000 in
theorem ggX0_placesOn_J9_floorMod_7cf53 : GoodIn wsX0_placesOn wsJ9_floorMod_7cf53 := goodIn_r _ [13] (by decide +kernel) (by decide +kernel)
set_option maxRecDepth 20000 in
theorem gX0_placesOn_J9_floorMod_7cf53 : GoodIn wsX0_placesOn (va_wsS RX0 141 yJ9_floorMod_7cf53 wsJ9_floorMod_7cf53) := goodIn_app (goodIn_of _ (by decide +kernel)) ggX0_placesOn_J9_floorMod_7cf53
theorem dX0_placesOn_0 : decode cX0_placesOn 0 = .ok (.aload_n 0, 1) := by decide +kernel
theorem dX0_placesOn_1 : decode cX0_placesOn 1 = .ok (.iload_n 2, 1) := by decide +kernel
theorem dX0_placesOn_2 : decode cX0_placesOn 2 = .ok (.invokevirtual 110, 3) := by decide +kernel
theorem dX0_placesOn_5 : decode cX0_placesOn 5 = .ok (.aload_n 0, 1) := by decide +kernel
theorem dX0_placesOn_6 : decode cX0_placesOn 6 = .ok (.iload_n 1, 1) := by decide +kernel
theorem dX0_placesOn_7 : decode cX0_placesOn 7 = .ok (.invokevirtual 110, 3) := by decide +kernel
theorem dX0_placesOn_10 : decode cX0_placesOn 10 = .ok (.isub, 1) := by decide +kernel
theorem dX0_placesOn_11 : decode cX0_placesOn 11 = .ok (.bipush 24, 2) := by decide +kernel
theorem dX0_placesOn_13 : decode cX0_placesOn 13 = .ok (.invokestatic 141, 3) := by decide +kernel
theorem dX0_placesOn_16 : decode cX0_placesOn 16 = .ok (.ireturn, 1) := by decide +kernel
set_option maxRecDepth 20000 in
theorem ggX0_placeOf_X0_read : GoodIn wsX0_placeOf wsX0_read := goodIn_r _ [5] (by decide +kernel) (by decide +kernel)
set_option maxRecDepth 20000 in
theorem gX0_placeOf_X0_read : GoodIn wsX0_placeOf (va_wsS RX0 100 yX0_read wsX0_read) := goodIn_app (goodIn_of _ (by decide +kernel)) ggX0_placeOf_X0_read
theorem dX0_placeOf_0 : decode cX0_placeOf 0 = .ok (.aload_n 0, 1) := by decide +kernel
theorem dX0_placeOf_1 : decode cX0_placeOf 1 = .ok (.getfield 22, 3) := by decide +kernel
theorem dX0_placeOf_4 : decode cX0_placeOf 4 = .ok (.iload_n 1, 1) := by decide +kernel
theorem dX0_placeOf_5 : decode cX0_placeOf 5 = .ok (.invokestatic 100, 3) := by decide +kernel
theorem dX0_placeOf_8 : decode cX0_placeOf 8 = .ok (.ireturn, 1) := by decide +kernel
set_option maxRecDepth 20000 in
theorem ggX0_waitingAt_X0_read : GoodIn wsX0_waitingAt wsX0_read := goodIn_r _ [9] (by decide +kernel) (by decide +kernel)
set_option maxRecDepth 20000 in
theorem gX0_waitingAt_X0_read : GoodIn wsX0_waitingAt (va_wsS RX0 100 yX0_read wsX0_read) := goodIn_app (goodIn_of _ (by decide +kernel)) ggX0_waitingAt_X0_read
theorem dX0_waitingAt_0 : decode cX0_waitingAt 0 = .ok (.iconst 0, 1) := by decide +kernel
theorem dX0_waitingAt_1 : decode cX0_waitingAt 1 = .ok (.aload_n 0, 1) := by decide +kernel
theorem dX0_waitingAt_2 : decode cX0_waitingAt 2 = .ok (.getfield 28, 3) := by decide +kernel
theorem dX0_waitingAt_5 : decode cX0_waitingAt 5 = .ok (.iload_n 1, 1) := by decide +kernel
theorem dX0_waitingAt_6 : decode cX0_waitingAt 6 = .ok (.invokestatic 100, 3) := by decide +kernel
theorem dX0_waitingAt_9 : decode cX0_waitingAt 9 = .ok (.invokestatic 146, 3) := by decide +kernel
theorem dX0_waitingAt_12 : decode cX0_waitingAt 12 = .ok (.ireturn, 1) := by decide +kernel
set_option maxRecDepth 20000 in
theorem ggX0_podAtPlace_X0_read : GoodIn wsX0_podAtPlace wsX0_read := goodIn_r _ [5] (by decide +kernel) (by decide +kernel)
set_option maxRecDepth 20000 in
theorem gX0_podAtPlace_X0_read : GoodIn wsX0_podAtPlace (va_wsS RX0 100 yX0_read wsX0_read) := goodIn_app (goodIn_of _ (by decide +kernel)) ggX0_podAtPlace_X0_read
theorem dX0_podAtPlace_0 : decode cX0_podAtPlace 0 = .ok (.aload_n 0, 1) := by decide +kernel
theorem dX0_podAtPlace_1 : decode cX0_podAtPlace 1 = .ok (.getfield 15, 3) := by decide +kernel
theorem dX0_podAtPlace_4 : decode cX0_podAtPlace 4 = .ok (.iload_n 1, 1) := by decide +kernel
theorem dX0_podAtPlace_5 : decode cX0_podAtPlace 5 = .ok (.invokestatic 100, 3) := by decide +kernel
theorem dX0_podAtPlace_8 : decode cX0_podAtPlace 8 = .ok (.ireturn, 1) := by decide +kernel
set_option maxRecDepth 20000 in
theorem ggX0_goalOf_X0_read : GoodIn wsX0_goalOf wsX0_read := goodIn_r _ [5] (by decide +kernel) (by decide +kernel)
set_option maxRecDepth 20000 in
theorem gX0_goalOf_X0_read : GoodIn wsX0_goalOf (va_wsS RX0 100 yX0_read wsX0_read) := goodIn_app (goodIn_of _ (by decide +kernel)) ggX0_goalOf_X0_read
theorem dX0_goalOf_0 : decode cX0_goalOf 0 = .ok (.aload_n 0, 1) := by decide +kernel
theorem dX0_goalOf_1 : decode cX0_goalOf 1 = .ok (.getfield 40, 3) := by decide +kernel
theorem dX0_goalOf_4 : decode cX0_goalOf 4 = .ok (.iload_n 1, 1) := by decide +kernel
theorem dX0_goalOf_5 : decode cX0_goalOf 5 = .ok (.invokestatic 100, 3) := by decide +kernel
theorem dX0_goalOf_8 : decode cX0_goalOf 8 = .ok (.ireturn, 1) := by decide +kernel
set_option maxRecDepth 20000 in
theorem ggX0_berthHolds_X0_read : GoodIn wsX0_berthHolds wsX0_read := goodIn_r _ [6] (by decide +kernel) (by decide +kernel)
set_option maxRecDepth 20000 in
theorem gX0_berthHolds_X0_read : GoodIn wsX0_berthHolds (va_wsS RX0 100 yX0_read wsX0_read) := goodIn_app (goodIn_of _ (by decide +kernel)) ggX0_berthHolds_X0_read
theorem dX0_berthHolds_0 : decode cX0_berthHolds 0 = .ok (.aload_n 0, 1) := by decide +kernel
theorem dX0_berthHolds_1 : decode cX0_berthHolds 1 = .ok (.getfield 19, 3) := by decide +kernel
theorem dX0_berthHolds_4 : decode cX0_berthHolds 4 = .ok (.iload_n 1, 1) := by decide +kernel
theorem dX0_berthHolds_5 : decode cX0_berthHolds 5 = .ok (.invokestatic 100, 3) := by decide +kernel
theorem dX0_berthHolds_8 : decode cX0_berthHolds 8 = .ok (.istore_n 2, 1) := by decide +kernel
theorem dX0_berthHolds_9 : decode cX0_berthHolds 9 = .ok (.iload_n 2, 1) := by decide +kernel
theorem dX0_berthHolds_10 : decode cX0_berthHolds 10 = .ok (.iconst (-1), 1) := by decide +kernel
theorem dX0_berthHolds_11 : decode cX0_berthHolds 11 = .ok (.if_icmp .ne 5, 3) := by decide +kernel
theorem dX0_berthHolds_14 : decode cX0_berthHolds 14 = .ok (.iconst 0, 1) := by decide +kernel
theorem dX0_berthHolds_15 : decode cX0_berthHolds 15 = .ok (.ireturn, 1) := by decide +kernel
theorem dX0_berthHolds_16 : decode cX0_berthHolds 16 = .ok (.aload_n 0, 1) := by decide +kernel
theorem dX0_berthHolds_17 : decode cX0_berthHolds 17 = .ok (.getfield 40, 3) := by decide +kernel
theorem dX0_berthHolds_20 : decode cX0_berthHolds 20 = .ok (.iload_n 2, 1) := by decide +kernel
theorem dX0_berthHolds_21 : decode cX0_berthHolds 21 = .ok (.invokestatic 100, 3) := by decide +kernel
theorem dX0_berthHolds_24 : decode cX0_berthHolds 24 = .ok (.iconst (-1), 1) := by decide +kernel
theorem dX0_berthHolds_25 : decode cX0_berthHolds 25 = .ok (.if_icmp .ne 7, 3) := by decide +kernel
theorem dX0_berthHolds_28 : decode cX0_berthHolds 28 = .ok (.iconst 1, 1) := by decide +kernel
theorem dX0_berthHolds_29 : decode cX0_berthHolds 29 = .ok (.goto 4, 3) := by decide +kernel
theorem dX0_berthHolds_32 : decode cX0_berthHolds 32 = .ok (.iconst 2, 1) := by decide +kernel
theorem dX0_berthHolds_33 : decode cX0_berthHolds 33 = .ok (.ireturn, 1) := by decide +kernel
set_option maxRecDepth 20000 in
theorem ggX0_firstBerth_X0_berthHolds : GoodIn wsX0_firstBerth wsX0_berthHolds := goodIn_r _ [5, 6, 7, 8, 9, 4, 10, 11, 12, 13, 14, 15, 16, 17, 18, 19, 20, 21, 22, 23, 24, 25, 26, 27] (by decide +kernel) (by decide +kernel)
set_option maxRecDepth 20000 in
theorem gX0_firstBerth_X0_berthHolds : GoodIn wsX0_firstBerth (wsV RX0 123 RX0 yX0_berthHolds wsX0_berthHolds) := goodIn_app (goodIn_of _ (by decide +kernel)) ggX0_firstBerth_X0_berthHolds
theorem dX0_firstBerth_0 : decode cX0_firstBerth 0 = .ok (.iload_n 1, 1) := by decide +kernel
theorem dX0_firstBerth_1 : decode cX0_firstBerth 1 = .ok (.iconst 3, 1) := by decide +kernel
theorem dX0_firstBerth_2 : decode cX0_firstBerth 2 = .ok (.imul, 1) := by decide +kernel
theorem dX0_firstBerth_3 : decode cX0_firstBerth 3 = .ok (.istore_n 3, 1) := by decide +kernel
theorem dX0_firstBerth_4 : decode cX0_firstBerth 4 = .ok (.iload_n 3, 1) := by decide +kernel
theorem dX0_firstBerth_5 : decode cX0_firstBerth 5 = .ok (.iload_n 1, 1) := by decide +kernel
theorem dX0_firstBerth_6 : decode cX0_firstBerth 6 = .ok (.iconst 1, 1) := by decide +kernel
theorem dX0_firstBerth_7 : decode cX0_firstBerth 7 = .ok (.iadd, 1) := by decide +kernel
theorem dX0_firstBerth_8 : decode cX0_firstBerth 8 = .ok (.iconst 3, 1) := by decide +kernel
theorem dX0_firstBerth_9 : decode cX0_firstBerth 9 = .ok (.imul, 1) := by decide +kernel
theorem dX0_firstBerth_10 : decode cX0_firstBerth 10 = .ok (.if_icmp .ge 20, 3) := by decide +kernel
theorem dX0_firstBerth_13 : decode cX0_firstBerth 13 = .ok (.aload_n 0, 1) := by decide +kernel
theorem dX0_firstBerth_14 : decode cX0_firstBerth 14 = .ok (.iload_n 3, 1) := by decide +kernel
theorem dX0_firstBerth_15 : decode cX0_firstBerth 15 = .ok (.invokevirtual 123, 3) := by decide +kernel
theorem dX0_firstBerth_18 : decode cX0_firstBerth 18 = .ok (.iload_n 2, 1) := by decide +kernel
theorem dX0_firstBerth_19 : decode cX0_firstBerth 19 = .ok (.if_icmp .ne 5, 3) := by decide +kernel
theorem dX0_firstBerth_22 : decode cX0_firstBerth 22 = .ok (.iload_n 3, 1) := by decide +kernel
theorem dX0_firstBerth_23 : decode cX0_firstBerth 23 = .ok (.ireturn, 1) := by decide +kernel
theorem dX0_firstBerth_24 : decode cX0_firstBerth 24 = .ok (.iinc 3 1, 3) := by decide +kernel
theorem dX0_firstBerth_27 : decode cX0_firstBerth 27 = .ok (.goto (-23), 3) := by decide +kernel
theorem dX0_firstBerth_30 : decode cX0_firstBerth 30 = .ok (.iconst (-1), 1) := by decide +kernel
theorem dX0_firstBerth_31 : decode cX0_firstBerth 31 = .ok (.ireturn, 1) := by decide +kernel
set_option maxRecDepth 20000 in
theorem ggX0_berthsThatHold_X0_berthHolds : GoodIn wsX0_berthsThatHold wsX0_berthHolds := goodIn_r _ [5, 6, 7, 8, 9, 4, 10, 11, 12, 13, 14, 15, 16, 17, 18, 19, 20, 21, 22, 23, 24, 25, 26, 27] (by decide +kernel) (by decide +kernel)
set_option maxRecDepth 20000 in
theorem gX0_berthsThatHold_X0_berthHolds : GoodIn wsX0_berthsThatHold (wsV RX0 123 RX0 yX0_berthHolds wsX0_berthHolds) := goodIn_app (goodIn_of _ (by decide +kernel)) ggX0_berthsThatHold_X0_berthHolds
theorem dX0_berthsThatHold_0 : decode cX0_berthsThatHold 0 = .ok (.iconst 0, 1) := by decide +kernel
theorem dX0_berthsThatHold_1 : decode cX0_berthsThatHold 1 = .ok (.istore_n 3, 1) := by decide +kernel
theorem dX0_berthsThatHold_2 : decode cX0_berthsThatHold 2 = .ok (.iload_n 1, 1) := by decide +kernel
theorem dX0_berthsThatHold_3 : decode cX0_berthsThatHold 3 = .ok (.iconst 3, 1) := by decide +kernel
theorem dX0_berthsThatHold_4 : decode cX0_berthsThatHold 4 = .ok (.imul, 1) := by decide +kernel
theorem dX0_berthsThatHold_5 : decode cX0_berthsThatHold 5 = .ok (.istore 4, 2) := by decide +kernel
theorem dX0_berthsThatHold_7 : decode cX0_berthsThatHold 7 = .ok (.iload 4, 2) := by decide +kernel
theorem dX0_berthsThatHold_9 : decode cX0_berthsThatHold 9 = .ok (.iload_n 1, 1) := by decide +kernel
theorem dX0_berthsThatHold_10 : decode cX0_berthsThatHold 10 = .ok (.iconst 1, 1) := by decide +kernel
theorem dX0_berthsThatHold_11 : decode cX0_berthsThatHold 11 = .ok (.iadd, 1) := by decide +kernel
theorem dX0_berthsThatHold_12 : decode cX0_berthsThatHold 12 = .ok (.iconst 3, 1) := by decide +kernel
theorem dX0_berthsThatHold_13 : decode cX0_berthsThatHold 13 = .ok (.imul, 1) := by decide +kernel
theorem dX0_berthsThatHold_14 : decode cX0_berthsThatHold 14 = .ok (.if_icmp .ge 22, 3) := by decide +kernel
theorem dX0_berthsThatHold_17 : decode cX0_berthsThatHold 17 = .ok (.aload_n 0, 1) := by decide +kernel
theorem dX0_berthsThatHold_18 : decode cX0_berthsThatHold 18 = .ok (.iload 4, 2) := by decide +kernel
theorem dX0_berthsThatHold_20 : decode cX0_berthsThatHold 20 = .ok (.invokevirtual 123, 3) := by decide +kernel
theorem dX0_berthsThatHold_23 : decode cX0_berthsThatHold 23 = .ok (.iload_n 2, 1) := by decide +kernel
theorem dX0_berthsThatHold_24 : decode cX0_berthsThatHold 24 = .ok (.if_icmp .ne 6, 3) := by decide +kernel
theorem dX0_berthsThatHold_27 : decode cX0_berthsThatHold 27 = .ok (.iinc 3 1, 3) := by decide +kernel
theorem dX0_berthsThatHold_30 : decode cX0_berthsThatHold 30 = .ok (.iinc 4 1, 3) := by decide +kernel
theorem dX0_berthsThatHold_33 : decode cX0_berthsThatHold 33 = .ok (.goto (-26), 3) := by decide +kernel
theorem dX0_berthsThatHold_36 : decode cX0_berthsThatHold 36 = .ok (.iload_n 3, 1) := by decide +kernel
theorem dX0_berthsThatHold_37 : decode cX0_berthsThatHold 37 = .ok (.ireturn, 1) := by decide +kernel
set_option maxRecDepth 20000 in
theorem ggX0_berthOf_X0_find : GoodIn wsX0_berthOf wsX0_find := goodIn_r _ [5] (by decide +kernel) (by decide +kernel)
set_option maxRecDepth 20000 in
theorem gX0_berthOf_X0_find : GoodIn wsX0_berthOf (va_wsS RX0 149 yX0_find wsX0_find) := goodIn_app (goodIn_of _ (by decide +kernel)) ggX0_berthOf_X0_find
theorem dX0_berthOf_0 : decode cX0_berthOf 0 = .ok (.aload_n 0, 1) := by decide +kernel
theorem dX0_berthOf_1 : decode cX0_berthOf 1 = .ok (.getfield 19, 3) := by decide +kernel
theorem dX0_berthOf_4 : decode cX0_berthOf 4 = .ok (.iload_n 1, 1) := by decide +kernel
theorem dX0_berthOf_5 : decode cX0_berthOf 5 = .ok (.invokestatic 149, 3) := by decide +kernel
theorem dX0_berthOf_8 : decode cX0_berthOf 8 = .ok (.ireturn, 1) := by decide +kernel
set_option maxRecDepth 20000 in
theorem ggX0_emptyPodsTo_X0_goalOf : GoodIn wsX0_emptyPodsTo wsX0_goalOf := goodIn_r _ [7, 8, 9, 10, 6, 11, 12, 13, 14, 15, 16, 17, 18, 19, 20, 21, 22, 23, 24, 25, 26, 27, 28] (by decide +kernel) (by decide +kernel)
set_option maxRecDepth 20000 in
theorem gX0_emptyPodsTo_X0_goalOf : GoodIn wsX0_emptyPodsTo (wsV RX0 116 RX0 yX0_goalOf wsX0_goalOf) := goodIn_app (goodIn_of _ (by decide +kernel)) ggX0_emptyPodsTo_X0_goalOf
set_option maxRecDepth 20000 in
theorem ggX0_emptyPodsTo_X0_read : GoodIn wsX0_emptyPodsTo wsX0_read := goodIn_r _ [11] (by decide +kernel) (by decide +kernel)
set_option maxRecDepth 20000 in
theorem gX0_emptyPodsTo_X0_read : GoodIn wsX0_emptyPodsTo (va_wsS RX0 100 yX0_read wsX0_read) := goodIn_app (goodIn_of _ (by decide +kernel)) ggX0_emptyPodsTo_X0_read
theorem dX0_emptyPodsTo_0 : decode cX0_emptyPodsTo 0 = .ok (.iconst 0, 1) := by decide +kernel
theorem dX0_emptyPodsTo_1 : decode cX0_emptyPodsTo 1 = .ok (.istore_n 2, 1) := by decide +kernel
theorem dX0_emptyPodsTo_2 : decode cX0_emptyPodsTo 2 = .ok (.iconst 0, 1) := by decide +kernel
theorem dX0_emptyPodsTo_3 : decode cX0_emptyPodsTo 3 = .ok (.istore_n 3, 1) := by decide +kernel
theorem dX0_emptyPodsTo_4 : decode cX0_emptyPodsTo 4 = .ok (.iload_n 3, 1) := by decide +kernel
theorem dX0_emptyPodsTo_5 : decode cX0_emptyPodsTo 5 = .ok (.aload_n 0, 1) := by decide +kernel
theorem dX0_emptyPodsTo_6 : decode cX0_emptyPodsTo 6 = .ok (.getfield 56, 3) := by decide +kernel
theorem dX0_emptyPodsTo_9 : decode cX0_emptyPodsTo 9 = .ok (.if_icmp .ge 33, 3) := by decide +kernel
theorem dX0_emptyPodsTo_12 : decode cX0_emptyPodsTo 12 = .ok (.aload_n 0, 1) := by decide +kernel
theorem dX0_emptyPodsTo_13 : decode cX0_emptyPodsTo 13 = .ok (.iload_n 3, 1) := by decide +kernel
theorem dX0_emptyPodsTo_14 : decode cX0_emptyPodsTo 14 = .ok (.invokevirtual 116, 3) := by decide +kernel
theorem dX0_emptyPodsTo_17 : decode cX0_emptyPodsTo 17 = .ok (.iload_n 1, 1) := by decide +kernel
theorem dX0_emptyPodsTo_18 : decode cX0_emptyPodsTo 18 = .ok (.if_icmp .ne 18, 3) := by decide +kernel
theorem dX0_emptyPodsTo_21 : decode cX0_emptyPodsTo 21 = .ok (.aload_n 0, 1) := by decide +kernel
theorem dX0_emptyPodsTo_22 : decode cX0_emptyPodsTo 22 = .ok (.getfield 43, 3) := by decide +kernel
theorem dX0_emptyPodsTo_25 : decode cX0_emptyPodsTo 25 = .ok (.iload_n 3, 1) := by decide +kernel
theorem dX0_emptyPodsTo_26 : decode cX0_emptyPodsTo 26 = .ok (.invokestatic 100, 3) := by decide +kernel
theorem dX0_emptyPodsTo_29 : decode cX0_emptyPodsTo 29 = .ok (.iconst (-1), 1) := by decide +kernel
theorem dX0_emptyPodsTo_30 : decode cX0_emptyPodsTo 30 = .ok (.if_icmp .ne 6, 3) := by decide +kernel
theorem dX0_emptyPodsTo_33 : decode cX0_emptyPodsTo 33 = .ok (.iinc 2 1, 3) := by decide +kernel
theorem dX0_emptyPodsTo_36 : decode cX0_emptyPodsTo 36 = .ok (.iinc 3 1, 3) := by decide +kernel
theorem dX0_emptyPodsTo_39 : decode cX0_emptyPodsTo 39 = .ok (.goto (-35), 3) := by decide +kernel
theorem dX0_emptyPodsTo_42 : decode cX0_emptyPodsTo 42 = .ok (.iload_n 2, 1) := by decide +kernel
theorem dX0_emptyPodsTo_43 : decode cX0_emptyPodsTo 43 = .ok (.ireturn, 1) := by decide +kernel
set_option maxRecDepth 20000 in
theorem ggX0_waitedBy_X0_read : GoodIn wsX0_waitedBy wsX0_read := goodIn_r _ [6] (by decide +kernel) (by decide +kernel)
set_option maxRecDepth 20000 in
theorem gX0_waitedBy_X0_read : GoodIn wsX0_waitedBy (va_wsS RX0 100 yX0_read wsX0_read) := goodIn_app (goodIn_of _ (by decide +kernel)) ggX0_waitedBy_X0_read
theorem dX0_waitedBy_0 : decode cX0_waitedBy 0 = .ok (.aload_n 0, 1) := by decide +kernel
theorem dX0_waitedBy_1 : decode cX0_waitedBy 1 = .ok (.getfield 49, 3) := by decide +kernel
theorem dX0_waitedBy_4 : decode cX0_waitedBy 4 = .ok (.aload_n 0, 1) := by decide +kernel
theorem dX0_waitedBy_5 : decode cX0_waitedBy 5 = .ok (.getfield 37, 3) := by decide +kernel
theorem dX0_waitedBy_8 : decode cX0_waitedBy 8 = .ok (.iload_n 1, 1) := by decide +kernel
theorem dX0_waitedBy_9 : decode cX0_waitedBy 9 = .ok (.bipush 9, 2) := by decide +kernel
theorem dX0_waitedBy_11 : decode cX0_waitedBy 11 = .ok (.imul, 1) := by decide +kernel
theorem dX0_waitedBy_12 : decode cX0_waitedBy 12 = .ok (.iload_n 2, 1) := by decide +kernel
theorem dX0_waitedBy_13 : decode cX0_waitedBy 13 = .ok (.iadd, 1) := by decide +kernel
theorem dX0_waitedBy_14 : decode cX0_waitedBy 14 = .ok (.invokestatic 100, 3) := by decide +kernel
theorem dX0_waitedBy_17 : decode cX0_waitedBy 17 = .ok (.isub, 1) := by decide +kernel
theorem dX0_waitedBy_18 : decode cX0_waitedBy 18 = .ok (.ireturn, 1) := by decide +kernel
set_option maxRecDepth 20000 in
theorem ggX0_waitedAt_X0_waitingAt : GoodIn wsX0_waitedAt wsX0_waitingAt := goodIn_r _ [5, 6, 7, 8, 9, 10, 11, 12, 4, 13, 20, 21, 22, 23, 24, 25, 26, 27, 28, 29, 30, 31, 32, 33, 34, 35, 36] (by decide +kernel) (by decide +kernel)
set_option maxRecDepth 20000 in
theorem gX0_waitedAt_X0_waitingAt : GoodIn wsX0_waitedAt (wsV RX0 80 RX0 yX0_waitingAt wsX0_waitingAt) := goodIn_app (goodIn_of _ (by decide +kernel)) ggX0_waitedAt_X0_waitingAt
set_option maxRecDepth 20000 in
theorem ggX0_waitedAt_X0_waitedBy : GoodIn wsX0_waitedAt wsX0_waitedBy := goodIn_r _ [17, 18, 19, 11, 12, 4, 13, 20, 21, 22, 23, 24, 25, 26, 27, 28, 29, 30, 31, 32, 33, 34, 35, 36] (by decide +kernel) (by decide +kernel)
set_option maxRecDepth 20000 in
theorem gX0_waitedAt_X0_waitedBy : GoodIn wsX0_waitedAt (wsV RX0 129 RX0 yX0_waitedBy wsX0_waitedBy) := goodIn_app (goodIn_of _ (by decide +kernel)) ggX0_waitedAt_X0_waitedBy
theorem dX0_waitedAt_0 : decode cX0_waitedAt 0 = .ok (.iconst 0, 1) := by decide +kernel
theorem dX0_waitedAt_1 : decode cX0_waitedAt 1 = .ok (.istore_n 2, 1) := by decide +kernel
theorem dX0_waitedAt_2 : decode cX0_waitedAt 2 = .ok (.aload_n 0, 1) := by decide +kernel
theorem dX0_waitedAt_3 : decode cX0_waitedAt 3 = .ok (.iload_n 1, 1) := by decide +kernel
theorem dX0_waitedAt_4 : decode cX0_waitedAt 4 = .ok (.invokevirtual 80, 3) := by decide +kernel
theorem dX0_waitedAt_7 : decode cX0_waitedAt 7 = .ok (.istore_n 3, 1) := by decide +kernel
theorem dX0_waitedAt_8 : decode cX0_waitedAt 8 = .ok (.iconst 0, 1) := by decide +kernel
theorem dX0_waitedAt_9 : decode cX0_waitedAt 9 = .ok (.istore 4, 2) := by decide +kernel
theorem dX0_waitedAt_11 : decode cX0_waitedAt 11 = .ok (.iload 4, 2) := by decide +kernel
theorem dX0_waitedAt_13 : decode cX0_waitedAt 13 = .ok (.iload_n 3, 1) := by decide +kernel
theorem dX0_waitedAt_14 : decode cX0_waitedAt 14 = .ok (.if_icmp .ge 19, 3) := by decide +kernel
theorem dX0_waitedAt_17 : decode cX0_waitedAt 17 = .ok (.iload_n 2, 1) := by decide +kernel
theorem dX0_waitedAt_18 : decode cX0_waitedAt 18 = .ok (.aload_n 0, 1) := by decide +kernel
theorem dX0_waitedAt_19 : decode cX0_waitedAt 19 = .ok (.iload_n 1, 1) := by decide +kernel
theorem dX0_waitedAt_20 : decode cX0_waitedAt 20 = .ok (.iload 4, 2) := by decide +kernel
theorem dX0_waitedAt_22 : decode cX0_waitedAt 22 = .ok (.invokevirtual 129, 3) := by decide +kernel
theorem dX0_waitedAt_25 : decode cX0_waitedAt 25 = .ok (.iadd, 1) := by decide +kernel
theorem dX0_waitedAt_26 : decode cX0_waitedAt 26 = .ok (.istore_n 2, 1) := by decide +kernel
theorem dX0_waitedAt_27 : decode cX0_waitedAt 27 = .ok (.iinc 4 1, 3) := by decide +kernel
theorem dX0_waitedAt_30 : decode cX0_waitedAt 30 = .ok (.goto (-19), 3) := by decide +kernel
theorem dX0_waitedAt_33 : decode cX0_waitedAt 33 = .ok (.iload_n 2, 1) := by decide +kernel
theorem dX0_waitedAt_34 : decode cX0_waitedAt 34 = .ok (.ireturn, 1) := by decide +kernel
set_option maxRecDepth 20000 in
theorem ggX0_waitedInAll_X0_waitedAt : GoodIn wsX0_waitedInAll wsX0_waitedAt := goodIn_r _ [6, 7, 8, 9, 5, 10, 11, 12, 13, 14, 15, 16, 17, 18, 19, 20, 21, 22, 23, 24, 25, 26, 27, 28, 29, 30, 31, 32, 33, 34, 35, 36, 37, 38, 39, 40, 41] (by decide +kernel) (by decide +kernel)
set_option maxRecDepth 20000 in
theorem gX0_waitedInAll_X0_waitedAt : GoodIn wsX0_waitedInAll (wsV RX0 152 RX0 yX0_waitedAt wsX0_waitedAt) := goodIn_app (goodIn_of _ (by decide +kernel)) ggX0_waitedInAll_X0_waitedAt
theorem dX0_waitedInAll_0 : decode cX0_waitedInAll 0 = .ok (.iconst 0, 1) := by decide +kernel
theorem dX0_waitedInAll_1 : decode cX0_waitedInAll 1 = .ok (.istore_n 1, 1) := by decide +kernel
theorem dX0_waitedInAll_2 : decode cX0_waitedInAll 2 = .ok (.iconst 0, 1) := by decide +kernel
theorem dX0_waitedInAll_3 : decode cX0_waitedInAll 3 = .ok (.istore_n 2, 1) := by decide +kernel
theorem dX0_waitedInAll_4 : decode cX0_waitedInAll 4 = .ok (.iload_n 2, 1) := by decide +kernel
theorem dX0_waitedInAll_5 : decode cX0_waitedInAll 5 = .ok (.aload_n 0, 1) := by decide +kernel
theorem dX0_waitedInAll_6 : decode cX0_waitedInAll 6 = .ok (.getfield 53, 3) := by decide +kernel
theorem dX0_waitedInAll_9 : decode cX0_waitedInAll 9 = .ok (.if_icmp .ge 17, 3) := by decide +kernel
theorem dX0_waitedInAll_12 : decode cX0_waitedInAll 12 = .ok (.iload_n 1, 1) := by decide +kernel
theorem dX0_waitedInAll_13 : decode cX0_waitedInAll 13 = .ok (.aload_n 0, 1) := by decide +kernel
theorem dX0_waitedInAll_14 : decode cX0_waitedInAll 14 = .ok (.iload_n 2, 1) := by decide +kernel
theorem dX0_waitedInAll_15 : decode cX0_waitedInAll 15 = .ok (.invokevirtual 152, 3) := by decide +kernel
theorem dX0_waitedInAll_18 : decode cX0_waitedInAll 18 = .ok (.iadd, 1) := by decide +kernel
theorem dX0_waitedInAll_19 : decode cX0_waitedInAll 19 = .ok (.istore_n 1, 1) := by decide +kernel
theorem dX0_waitedInAll_20 : decode cX0_waitedInAll 20 = .ok (.iinc 2 1, 3) := by decide +kernel
theorem dX0_waitedInAll_23 : decode cX0_waitedInAll 23 = .ok (.goto (-19), 3) := by decide +kernel
theorem dX0_waitedInAll_26 : decode cX0_waitedInAll 26 = .ok (.iload_n 1, 1) := by decide +kernel
theorem dX0_waitedInAll_27 : decode cX0_waitedInAll 27 = .ok (.ireturn, 1) := by decide +kernel
set_option maxRecDepth 20000 in
theorem ggX0_waitingInAll_X0_waitingAt : GoodIn wsX0_waitingInAll wsX0_waitingAt := goodIn_r _ [6, 7, 8, 9, 10, 11, 12, 13, 5, 14, 15, 16, 17, 18, 19, 20, 21, 22, 23, 24, 25, 26, 27, 28, 29, 30, 31] (by decide +kernel) (by decide +kernel)
set_option maxRecDepth 20000 in
theorem gX0_waitingInAll_X0_waitingAt : GoodIn wsX0_waitingInAll (wsV RX0 80 RX0 yX0_waitingAt wsX0_waitingAt) := goodIn_app (goodIn_of _ (by decide +kernel)) ggX0_waitingInAll_X0_waitingAt
theorem dX0_waitingInAll_0 : decode cX0_waitingInAll 0 = .ok (.iconst 0, 1) := by decide +kernel
theorem dX0_waitingInAll_1 : decode cX0_waitingInAll 1 = .ok (.istore_n 1, 1) := by decide +kernel
theorem dX0_waitingInAll_2 : decode cX0_waitingInAll 2 = .ok (.iconst 0, 1) := by decide +kernel
theorem dX0_waitingInAll_3 : decode cX0_waitingInAll 3 = .ok (.istore_n 2, 1) := by decide +kernel
theorem dX0_waitingInAll_4 : decode cX0_waitingInAll 4 = .ok (.iload_n 2, 1) := by decide +kernel
theorem dX0_waitingInAll_5 : decode cX0_waitingInAll 5 = .ok (.aload_n 0, 1) := by decide +kernel
theorem dX0_waitingInAll_6 : decode cX0_waitingInAll 6 = .ok (.getfield 53, 3) := by decide +kernel
theorem dX0_waitingInAll_9 : decode cX0_waitingInAll 9 = .ok (.if_icmp .ge 17, 3) := by decide +kernel
theorem dX0_waitingInAll_12 : decode cX0_waitingInAll 12 = .ok (.iload_n 1, 1) := by decide +kernel
theorem dX0_waitingInAll_13 : decode cX0_waitingInAll 13 = .ok (.aload_n 0, 1) := by decide +kernel
theorem dX0_waitingInAll_14 : decode cX0_waitingInAll 14 = .ok (.iload_n 2, 1) := by decide +kernel
theorem dX0_waitingInAll_15 : decode cX0_waitingInAll 15 = .ok (.invokevirtual 80, 3) := by decide +kernel
theorem dX0_waitingInAll_18 : decode cX0_waitingInAll 18 = .ok (.iadd, 1) := by decide +kernel
theorem dX0_waitingInAll_19 : decode cX0_waitingInAll 19 = .ok (.istore_n 1, 1) := by decide +kernel
theorem dX0_waitingInAll_20 : decode cX0_waitingInAll 20 = .ok (.iinc 2 1, 3) := by decide +kernel
theorem dX0_waitingInAll_23 : decode cX0_waitingInAll 23 = .ok (.goto (-19), 3) := by decide +kernel
theorem dX0_waitingInAll_26 : decode cX0_waitingInAll 26 = .ok (.iload_n 1, 1) := by decide +kernel
theorem dX0_waitingInAll_27 : decode cX0_waitingInAll 27 = .ok (.ireturn, 1) := by decide +kernel
set_option maxRecDepth 20000 in
theorem ggX0_arrivedInAll_X0_read : GoodIn wsX0_arrivedInAll wsX0_read := goodIn_r _ [6] (by decide +kernel) (by decide +kernel)
set_option maxRecDepth 20000 in
theorem gX0_arrivedInAll_X0_read : GoodIn wsX0_arrivedInAll (va_wsS RX0 100 yX0_read wsX0_read) := goodIn_app (goodIn_of _ (by decide +kernel)) ggX0_arrivedInAll_X0_read
theorem dX0_arrivedInAll_0 : decode cX0_arrivedInAll 0 = .ok (.iconst 0, 1) := by decide +kernel
theorem dX0_arrivedInAll_1 : decode cX0_arrivedInAll 1 = .ok (.istore_n 1, 1) := by decide +kernel
theorem dX0_arrivedInAll_2 : decode cX0_arrivedInAll 2 = .ok (.iconst 0, 1) := by decide +kernel
theorem dX0_arrivedInAll_3 : decode cX0_arrivedInAll 3 = .ok (.istore_n 2, 1) := by decide +kernel
theorem dX0_arrivedInAll_4 : decode cX0_arrivedInAll 4 = .ok (.iload_n 2, 1) := by decide +kernel
theorem dX0_arrivedInAll_5 : decode cX0_arrivedInAll 5 = .ok (.aload_n 0, 1) := by decide +kernel
theorem dX0_arrivedInAll_6 : decode cX0_arrivedInAll 6 = .ok (.getfield 53, 3) := by decide +kernel
theorem dX0_arrivedInAll_9 : decode cX0_arrivedInAll 9 = .ok (.if_icmp .ge 20, 3) := by decide +kernel
theorem dX0_arrivedInAll_12 : decode cX0_arrivedInAll 12 = .ok (.iload_n 1, 1) := by decide +kernel
theorem dX0_arrivedInAll_13 : decode cX0_arrivedInAll 13 = .ok (.aload_n 0, 1) := by decide +kernel
theorem dX0_arrivedInAll_14 : decode cX0_arrivedInAll 14 = .ok (.getfield 25, 3) := by decide +kernel
theorem dX0_arrivedInAll_17 : decode cX0_arrivedInAll 17 = .ok (.iload_n 2, 1) := by decide +kernel
theorem dX0_arrivedInAll_18 : decode cX0_arrivedInAll 18 = .ok (.invokestatic 100, 3) := by decide +kernel
theorem dX0_arrivedInAll_21 : decode cX0_arrivedInAll 21 = .ok (.iadd, 1) := by decide +kernel
theorem dX0_arrivedInAll_22 : decode cX0_arrivedInAll 22 = .ok (.istore_n 1, 1) := by decide +kernel
theorem dX0_arrivedInAll_23 : decode cX0_arrivedInAll 23 = .ok (.iinc 2 1, 3) := by decide +kernel
theorem dX0_arrivedInAll_26 : decode cX0_arrivedInAll 26 = .ok (.goto (-22), 3) := by decide +kernel
theorem dX0_arrivedInAll_29 : decode cX0_arrivedInAll 29 = .ok (.iload_n 1, 1) := by decide +kernel
theorem dX0_arrivedInAll_30 : decode cX0_arrivedInAll 30 = .ok (.ireturn, 1) := by decide +kernel
set_option maxRecDepth 20000 in
theorem ggX0_ridersInPods_X0_read : GoodIn wsX0_ridersInPods wsX0_read := goodIn_r _ [6] (by decide +kernel) (by decide +kernel)
set_option maxRecDepth 20000 in
theorem gX0_ridersInPods_X0_read : GoodIn wsX0_ridersInPods (va_wsS RX0 100 yX0_read wsX0_read) := goodIn_app (goodIn_of _ (by decide +kernel)) ggX0_ridersInPods_X0_read
theorem dX0_ridersInPods_0 : decode cX0_ridersInPods 0 = .ok (.iconst 0, 1) := by decide +kernel
theorem dX0_ridersInPods_1 : decode cX0_ridersInPods 1 = .ok (.istore_n 1, 1) := by decide +kernel
theorem dX0_ridersInPods_2 : decode cX0_ridersInPods 2 = .ok (.iconst 0, 1) := by decide +kernel
theorem dX0_ridersInPods_3 : decode cX0_ridersInPods 3 = .ok (.istore_n 2, 1) := by decide +kernel
theorem dX0_ridersInPods_4 : decode cX0_ridersInPods 4 = .ok (.iload_n 2, 1) := by decide +kernel
theorem dX0_ridersInPods_5 : decode cX0_ridersInPods 5 = .ok (.aload_n 0, 1) := by decide +kernel
theorem dX0_ridersInPods_6 : decode cX0_ridersInPods 6 = .ok (.getfield 56, 3) := by decide +kernel
theorem dX0_ridersInPods_9 : decode cX0_ridersInPods 9 = .ok (.if_icmp .ge 24, 3) := by decide +kernel
theorem dX0_ridersInPods_12 : decode cX0_ridersInPods 12 = .ok (.aload_n 0, 1) := by decide +kernel
theorem dX0_ridersInPods_13 : decode cX0_ridersInPods 13 = .ok (.getfield 43, 3) := by decide +kernel
theorem dX0_ridersInPods_16 : decode cX0_ridersInPods 16 = .ok (.iload_n 2, 1) := by decide +kernel
theorem dX0_ridersInPods_17 : decode cX0_ridersInPods 17 = .ok (.invokestatic 100, 3) := by decide +kernel
theorem dX0_ridersInPods_20 : decode cX0_ridersInPods 20 = .ok (.iconst (-1), 1) := by decide +kernel
theorem dX0_ridersInPods_21 : decode cX0_ridersInPods 21 = .ok (.if_icmp .eq 6, 3) := by decide +kernel
theorem dX0_ridersInPods_24 : decode cX0_ridersInPods 24 = .ok (.iinc 1 1, 3) := by decide +kernel
theorem dX0_ridersInPods_27 : decode cX0_ridersInPods 27 = .ok (.iinc 2 1, 3) := by decide +kernel
theorem dX0_ridersInPods_30 : decode cX0_ridersInPods 30 = .ok (.goto (-26), 3) := by decide +kernel
theorem dX0_ridersInPods_33 : decode cX0_ridersInPods 33 = .ok (.iload_n 1, 1) := by decide +kernel
theorem dX0_ridersInPods_34 : decode cX0_ridersInPods 34 = .ok (.ireturn, 1) := by decide +kernel
set_option maxRecDepth 20000 in
theorem ggX0_freeSlots_X0_podAtPlace : GoodIn wsX0_freeSlots wsX0_podAtPlace := goodIn_r _ [5, 6, 7, 8, 4, 9, 10, 11, 12, 13, 14, 15, 16, 17, 18, 19, 20, 21, 22, 23, 24, 25, 26] (by decide +kernel) (by decide +kernel)
set_option maxRecDepth 20000 in
theorem gX0_freeSlots_X0_podAtPlace : GoodIn wsX0_freeSlots (wsV RX0 113 RX0 yX0_podAtPlace wsX0_podAtPlace) := goodIn_app (goodIn_of _ (by decide +kernel)) ggX0_freeSlots_X0_podAtPlace
theorem dX0_freeSlots_0 : decode cX0_freeSlots 0 = .ok (.iconst 0, 1) := by decide +kernel
theorem dX0_freeSlots_1 : decode cX0_freeSlots 1 = .ok (.istore_n 1, 1) := by decide +kernel
theorem dX0_freeSlots_2 : decode cX0_freeSlots 2 = .ok (.iconst 0, 1) := by decide +kernel
theorem dX0_freeSlots_3 : decode cX0_freeSlots 3 = .ok (.istore_n 2, 1) := by decide +kernel
theorem dX0_freeSlots_4 : decode cX0_freeSlots 4 = .ok (.iload_n 2, 1) := by decide +kernel
theorem dX0_freeSlots_5 : decode cX0_freeSlots 5 = .ok (.bipush 24, 2) := by decide +kernel
theorem dX0_freeSlots_7 : decode cX0_freeSlots 7 = .ok (.if_icmp .ge 21, 3) := by decide +kernel
theorem dX0_freeSlots_10 : decode cX0_freeSlots 10 = .ok (.aload_n 0, 1) := by decide +kernel
theorem dX0_freeSlots_11 : decode cX0_freeSlots 11 = .ok (.iload_n 2, 1) := by decide +kernel
theorem dX0_freeSlots_12 : decode cX0_freeSlots 12 = .ok (.invokevirtual 113, 3) := by decide +kernel
theorem dX0_freeSlots_15 : decode cX0_freeSlots 15 = .ok (.iconst (-1), 1) := by decide +kernel
theorem dX0_freeSlots_16 : decode cX0_freeSlots 16 = .ok (.if_icmp .ne 6, 3) := by decide +kernel
theorem dX0_freeSlots_19 : decode cX0_freeSlots 19 = .ok (.iinc 1 1, 3) := by decide +kernel
theorem dX0_freeSlots_22 : decode cX0_freeSlots 22 = .ok (.iinc 2 1, 3) := by decide +kernel
theorem dX0_freeSlots_25 : decode cX0_freeSlots 25 = .ok (.goto (-21), 3) := by decide +kernel
theorem dX0_freeSlots_28 : decode cX0_freeSlots 28 = .ok (.iload_n 1, 1) := by decide +kernel
theorem dX0_freeSlots_29 : decode cX0_freeSlots 29 = .ok (.ireturn, 1) := by decide +kernel
set_option maxRecDepth 20000 in
theorem ggX0_tellPod_X0_berthOf : GoodIn wsX0_tellPod wsX0_berthOf := goodIn_r _ [8, 9, 10, 11, 7, 12, 21, 22, 23, 24, 25, 26, 27, 28, 29, 30, 31, 32, 33, 34, 35, 36, 37] (by decide +kernel) (by decide +kernel)
set_option maxRecDepth 20000 in
theorem gX0_tellPod_X0_berthOf : GoodIn wsX0_tellPod (wsV RX0 155 RX0 yX0_berthOf wsX0_berthOf) := goodIn_app (goodIn_of _ (by decide +kernel)) ggX0_tellPod_X0_berthOf
set_option maxRecDepth 20000 in
theorem ggX0_tellPod_X0_find : GoodIn wsX0_tellPod wsX0_find := goodIn_r _ [12] (by decide +kernel) (by decide +kernel)
set_option maxRecDepth 20000 in
theorem gX0_tellPod_X0_find : GoodIn wsX0_tellPod (va_wsS RX0 149 yX0_find wsX0_find) := goodIn_app (goodIn_of _ (by decide +kernel)) ggX0_tellPod_X0_find
set_option maxRecDepth 20000 in
theorem ggX0_tellPod_X0_goalOf : GoodIn wsX0_tellPod wsX0_goalOf := goodIn_r _ [16, 17, 18, 19, 7, 20, 21, 22, 23, 24, 25, 26, 27, 28, 29, 30, 31, 32, 33, 34, 35, 36, 37] (by decide +kernel) (by decide +kernel)
set_option maxRecDepth 20000 in
theorem gX0_tellPod_X0_goalOf : GoodIn wsX0_tellPod (wsV RX0 116 RX0 yX0_goalOf wsX0_goalOf) := goodIn_app (goodIn_of _ (by decide +kernel)) ggX0_tellPod_X0_goalOf
set_option maxRecDepth 20000 in
theorem ggX0_tellPod_X0_read : GoodIn wsX0_tellPod wsX0_read := goodIn_r _ [20] (by decide +kernel) (by decide +kernel)
set_option maxRecDepth 20000 in
theorem gX0_tellPod_X0_read : GoodIn wsX0_tellPod (va_wsS RX0 100 yX0_read wsX0_read) := goodIn_app (goodIn_of _ (by decide +kernel)) ggX0_tellPod_X0_read
theorem dX0_tellPod_0 : decode cX0_tellPod 0 = .ok (.aload_n 0, 1) := by decide +kernel
theorem dX0_tellPod_1 : decode cX0_tellPod 1 = .ok (.iload_n 1, 1) := by decide +kernel
theorem dX0_tellPod_2 : decode cX0_tellPod 2 = .ok (.invokevirtual 155, 3) := by decide +kernel
theorem dX0_tellPod_5 : decode cX0_tellPod 5 = .ok (.istore_n 3, 1) := by decide +kernel
theorem dX0_tellPod_6 : decode cX0_tellPod 6 = .ok (.iload_n 2, 1) := by decide +kernel
theorem dX0_tellPod_7 : decode cX0_tellPod 7 = .ok (.tableswitch 92 0 4 #[33, 42, 55, 68, 74], 33) := by decide +kernel
theorem dX0_tellPod_40 : decode cX0_tellPod 40 = .ok (.aload_n 0, 1) := by decide +kernel
theorem dX0_tellPod_41 : decode cX0_tellPod 41 = .ok (.getfield 15, 3) := by decide +kernel
theorem dX0_tellPod_44 : decode cX0_tellPod 44 = .ok (.iload_n 1, 1) := by decide +kernel
theorem dX0_tellPod_45 : decode cX0_tellPod 45 = .ok (.invokestatic 149, 3) := by decide +kernel
theorem dX0_tellPod_48 : decode cX0_tellPod 48 = .ok (.ireturn, 1) := by decide +kernel
theorem dX0_tellPod_49 : decode cX0_tellPod 49 = .ok (.iload_n 3, 1) := by decide +kernel
theorem dX0_tellPod_50 : decode cX0_tellPod 50 = .ok (.iconst (-1), 1) := by decide +kernel
theorem dX0_tellPod_51 : decode cX0_tellPod 51 = .ok (.if_icmp .ne 7, 3) := by decide +kernel
theorem dX0_tellPod_54 : decode cX0_tellPod 54 = .ok (.iconst (-1), 1) := by decide +kernel
theorem dX0_tellPod_55 : decode cX0_tellPod 55 = .ok (.goto 6, 3) := by decide +kernel
theorem dX0_tellPod_58 : decode cX0_tellPod 58 = .ok (.iload_n 3, 1) := by decide +kernel
theorem dX0_tellPod_59 : decode cX0_tellPod 59 = .ok (.iconst 3, 1) := by decide +kernel
theorem dX0_tellPod_60 : decode cX0_tellPod 60 = .ok (.idiv, 1) := by decide +kernel
theorem dX0_tellPod_61 : decode cX0_tellPod 61 = .ok (.ireturn, 1) := by decide +kernel
theorem dX0_tellPod_62 : decode cX0_tellPod 62 = .ok (.iload_n 3, 1) := by decide +kernel
theorem dX0_tellPod_63 : decode cX0_tellPod 63 = .ok (.iconst (-1), 1) := by decide +kernel
theorem dX0_tellPod_64 : decode cX0_tellPod 64 = .ok (.if_icmp .ne 7, 3) := by decide +kernel
theorem dX0_tellPod_67 : decode cX0_tellPod 67 = .ok (.iconst (-1), 1) := by decide +kernel
theorem dX0_tellPod_68 : decode cX0_tellPod 68 = .ok (.goto 6, 3) := by decide +kernel
theorem dX0_tellPod_71 : decode cX0_tellPod 71 = .ok (.iload_n 3, 1) := by decide +kernel
theorem dX0_tellPod_72 : decode cX0_tellPod 72 = .ok (.iconst 3, 1) := by decide +kernel
theorem dX0_tellPod_73 : decode cX0_tellPod 73 = .ok (.irem, 1) := by decide +kernel
theorem dX0_tellPod_74 : decode cX0_tellPod 74 = .ok (.ireturn, 1) := by decide +kernel
theorem dX0_tellPod_75 : decode cX0_tellPod 75 = .ok (.aload_n 0, 1) := by decide +kernel
theorem dX0_tellPod_76 : decode cX0_tellPod 76 = .ok (.iload_n 1, 1) := by decide +kernel
theorem dX0_tellPod_77 : decode cX0_tellPod 77 = .ok (.invokevirtual 116, 3) := by decide +kernel
theorem dX0_tellPod_80 : decode cX0_tellPod 80 = .ok (.ireturn, 1) := by decide +kernel
theorem dX0_tellPod_81 : decode cX0_tellPod 81 = .ok (.aload_n 0, 1) := by decide +kernel
theorem dX0_tellPod_82 : decode cX0_tellPod 82 = .ok (.getfield 43, 3) := by decide +kernel
theorem dX0_tellPod_85 : decode cX0_tellPod 85 = .ok (.iload_n 1, 1) := by decide +kernel
theorem dX0_tellPod_86 : decode cX0_tellPod 86 = .ok (.invokestatic 100, 3) := by decide +kernel
theorem dX0_tellPod_89 : decode cX0_tellPod 89 = .ok (.iconst (-1), 1) := by decide +kernel
theorem dX0_tellPod_90 : decode cX0_tellPod 90 = .ok (.if_icmp .ne 7, 3) := by decide +kernel
theorem dX0_tellPod_93 : decode cX0_tellPod 93 = .ok (.iconst 0, 1) := by decide +kernel
theorem dX0_tellPod_94 : decode cX0_tellPod 94 = .ok (.goto 4, 3) := by decide +kernel
theorem dX0_tellPod_97 : decode cX0_tellPod 97 = .ok (.iconst 1, 1) := by decide +kernel
theorem dX0_tellPod_98 : decode cX0_tellPod 98 = .ok (.ireturn, 1) := by decide +kernel
theorem dX0_tellPod_99 : decode cX0_tellPod 99 = .ok (.aload_n 0, 1) := by decide +kernel
theorem dX0_tellPod_100 : decode cX0_tellPod 100 = .ok (.getfield 46, 3) := by decide +kernel
theorem dX0_tellPod_103 : decode cX0_tellPod 103 = .ok (.iload_n 1, 1) := by decide +kernel
theorem dX0_tellPod_104 : decode cX0_tellPod 104 = .ok (.invokestatic 100, 3) := by decide +kernel
theorem dX0_tellPod_107 : decode cX0_tellPod 107 = .ok (.ireturn, 1) := by decide +kernel
set_option maxRecDepth 20000 in
theorem ggX0_tellStation_X0_placeOf : GoodIn wsX0_tellStation wsX0_placeOf := goodIn_r _ [6, 7, 8, 9, 5, 10, 50, 51, 52, 53, 54, 55, 56, 57, 58, 59, 60, 61, 62, 63, 64, 65, 66] (by decide +kernel) (by decide +kernel)
set_option maxRecDepth 20000 in
theorem gX0_tellStation_X0_placeOf : GoodIn wsX0_tellStation (wsV RX0 110 RX0 yX0_placeOf wsX0_placeOf) := goodIn_app (goodIn_of _ (by decide +kernel)) ggX0_tellStation_X0_placeOf
set_option maxRecDepth 20000 in
theorem ggX0_tellStation_X0_berthsThatHold : GoodIn wsX0_tellStation wsX0_berthsThatHold := goodIn_r _ [14, 15, 16, 17, 5, 18, 19, 20, 8, 9, 10, 50, 51, 52, 53, 54, 55, 56, 57, 58, 59, 60, 61, 62, 63, 64, 65, 66] (by decide +kernel) (by decide +kernel)
set_option maxRecDepth 20000 in
theorem gX0_tellStation_X0_berthsThatHold : GoodIn wsX0_tellStation (wsV RX0 158 RX0 yX0_berthsThatHold wsX0_berthsThatHold) := goodIn_app (goodIn_of _ (by decide +kernel)) ggX0_tellStation_X0_berthsThatHold
set_option maxRecDepth 20000 in
theorem ggX0_tellStation_X0_waitingAt : GoodIn wsX0_tellStation wsX0_waitingAt := goodIn_r _ [24, 25, 26, 27, 28, 29, 8, 9, 5, 10, 50, 51, 52, 53, 54, 55, 56, 57, 58, 59, 60, 61, 62, 63, 64, 65, 66] (by decide +kernel) (by decide +kernel)
set_option maxRecDepth 20000 in
theorem gX0_tellStation_X0_waitingAt : GoodIn wsX0_tellStation (wsV RX0 80 RX0 yX0_waitingAt wsX0_waitingAt) := goodIn_app (goodIn_of _ (by decide +kernel)) ggX0_tellStation_X0_waitingAt
set_option maxRecDepth 20000 in
theorem ggX0_tellStation_X0_emptyPodsTo : GoodIn wsX0_tellStation wsX0_emptyPodsTo := goodIn_r _ [33, 34, 35, 36, 37, 38, 5, 39, 20, 8, 9, 10, 50, 51, 52, 53, 54, 55, 56, 57, 58, 59, 60, 61, 62, 63, 64, 65, 66] (by decide +kernel) (by decide +kernel)
set_option maxRecDepth 20000 in
theorem gX0_tellStation_X0_emptyPodsTo : GoodIn wsX0_tellStation (wsV RX0 132 RX0 yX0_emptyPodsTo wsX0_emptyPodsTo) := goodIn_app (goodIn_of _ (by decide +kernel)) ggX0_tellStation_X0_emptyPodsTo
set_option maxRecDepth 20000 in
theorem ggX0_tellStation_X0_waitedAt : GoodIn wsX0_tellStation wsX0_waitedAt := goodIn_r _ [43, 21, 22, 23, 5, 24, 25, 26, 27, 28, 29, 8, 9, 10, 44, 45, 46, 47, 48, 49, 50, 51, 52, 53, 54, 55, 56, 57, 58, 59, 60, 61, 62, 63, 64, 65, 66] (by decide +kernel) (by decide +kernel)
set_option maxRecDepth 20000 in
theorem gX0_tellStation_X0_waitedAt : GoodIn wsX0_tellStation (wsV RX0 152 RX0 yX0_waitedAt wsX0_waitedAt) := goodIn_app (goodIn_of _ (by decide +kernel)) ggX0_tellStation_X0_waitedAt
set_option maxRecDepth 20000 in
theorem ggX0_tellStation_X0_read : GoodIn wsX0_tellStation wsX0_read := goodIn_r _ [10] (by decide +kernel) (by decide +kernel)
set_option maxRecDepth 20000 in
theorem gX0_tellStation_X0_read : GoodIn wsX0_tellStation (va_wsS RX0 100 yX0_read wsX0_read) := goodIn_app (goodIn_of _ (by decide +kernel)) ggX0_tellStation_X0_read
theorem dX0_tellStation_0 : decode cX0_tellStation 0 = .ok (.iload_n 2, 1) := by decide +kernel
theorem dX0_tellStation_1 : decode cX0_tellStation 1 = .ok (.tableswitch 79 0 5 #[39, 45, 54, 61, 67, 73], 39) := by decide +kernel
theorem dX0_tellStation_40 : decode cX0_tellStation 40 = .ok (.aload_n 0, 1) := by decide +kernel
theorem dX0_tellStation_41 : decode cX0_tellStation 41 = .ok (.iload_n 1, 1) := by decide +kernel
theorem dX0_tellStation_42 : decode cX0_tellStation 42 = .ok (.invokevirtual 110, 3) := by decide +kernel
theorem dX0_tellStation_45 : decode cX0_tellStation 45 = .ok (.ireturn, 1) := by decide +kernel
theorem dX0_tellStation_46 : decode cX0_tellStation 46 = .ok (.iconst 3, 1) := by decide +kernel
theorem dX0_tellStation_47 : decode cX0_tellStation 47 = .ok (.aload_n 0, 1) := by decide +kernel
theorem dX0_tellStation_48 : decode cX0_tellStation 48 = .ok (.iload_n 1, 1) := by decide +kernel
theorem dX0_tellStation_49 : decode cX0_tellStation 49 = .ok (.iconst 0, 1) := by decide +kernel
theorem dX0_tellStation_50 : decode cX0_tellStation 50 = .ok (.invokevirtual 158, 3) := by decide +kernel
theorem dX0_tellStation_53 : decode cX0_tellStation 53 = .ok (.isub, 1) := by decide +kernel
theorem dX0_tellStation_54 : decode cX0_tellStation 54 = .ok (.ireturn, 1) := by decide +kernel
theorem dX0_tellStation_55 : decode cX0_tellStation 55 = .ok (.aload_n 0, 1) := by decide +kernel
theorem dX0_tellStation_56 : decode cX0_tellStation 56 = .ok (.iload_n 1, 1) := by decide +kernel
theorem dX0_tellStation_57 : decode cX0_tellStation 57 = .ok (.iconst 1, 1) := by decide +kernel
theorem dX0_tellStation_58 : decode cX0_tellStation 58 = .ok (.invokevirtual 158, 3) := by decide +kernel
theorem dX0_tellStation_61 : decode cX0_tellStation 61 = .ok (.ireturn, 1) := by decide +kernel
theorem dX0_tellStation_62 : decode cX0_tellStation 62 = .ok (.aload_n 0, 1) := by decide +kernel
theorem dX0_tellStation_63 : decode cX0_tellStation 63 = .ok (.iload_n 1, 1) := by decide +kernel
theorem dX0_tellStation_64 : decode cX0_tellStation 64 = .ok (.invokevirtual 80, 3) := by decide +kernel
theorem dX0_tellStation_67 : decode cX0_tellStation 67 = .ok (.ireturn, 1) := by decide +kernel
theorem dX0_tellStation_68 : decode cX0_tellStation 68 = .ok (.aload_n 0, 1) := by decide +kernel
theorem dX0_tellStation_69 : decode cX0_tellStation 69 = .ok (.iload_n 1, 1) := by decide +kernel
theorem dX0_tellStation_70 : decode cX0_tellStation 70 = .ok (.invokevirtual 132, 3) := by decide +kernel
theorem dX0_tellStation_73 : decode cX0_tellStation 73 = .ok (.ireturn, 1) := by decide +kernel
theorem dX0_tellStation_74 : decode cX0_tellStation 74 = .ok (.aload_n 0, 1) := by decide +kernel
theorem dX0_tellStation_75 : decode cX0_tellStation 75 = .ok (.iload_n 1, 1) := by decide +kernel
theorem dX0_tellStation_76 : decode cX0_tellStation 76 = .ok (.invokevirtual 152, 3) := by decide +kernel
theorem dX0_tellStation_79 : decode cX0_tellStation 79 = .ok (.ireturn, 1) := by decide +kernel
theorem dX0_tellStation_80 : decode cX0_tellStation 80 = .ok (.aload_n 0, 1) := by decide +kernel
theorem dX0_tellStation_81 : decode cX0_tellStation 81 = .ok (.getfield 25, 3) := by decide +kernel
theorem dX0_tellStation_84 : decode cX0_tellStation 84 = .ok (.iload_n 1, 1) := by decide +kernel
theorem dX0_tellStation_85 : decode cX0_tellStation 85 = .ok (.invokestatic 100, 3) := by decide +kernel
theorem dX0_tellStation_88 : decode cX0_tellStation 88 = .ok (.ireturn, 1) := by decide +kernel
set_option maxRecDepth 20000 in
theorem ggX0_tellRider_X0_waitedBy : GoodIn wsX0_tellRider wsX0_waitedBy := goodIn_r _ [6, 7, 8, 9, 10, 5, 11, 12, 13, 14, 15, 16, 17, 18, 19, 20, 21, 22, 23, 24, 25, 26, 27, 28] (by decide +kernel) (by decide +kernel)
set_option maxRecDepth 20000 in
theorem gX0_tellRider_X0_waitedBy : GoodIn wsX0_tellRider (wsV RX0 129 RX0 yX0_waitedBy wsX0_waitedBy) := goodIn_app (goodIn_of _ (by decide +kernel)) ggX0_tellRider_X0_waitedBy
set_option maxRecDepth 20000 in
theorem ggX0_tellRider_X0_read : GoodIn wsX0_tellRider wsX0_read := goodIn_r _ [11] (by decide +kernel) (by decide +kernel)
set_option maxRecDepth 20000 in
theorem gX0_tellRider_X0_read : GoodIn wsX0_tellRider (va_wsS RX0 100 yX0_read wsX0_read) := goodIn_app (goodIn_of _ (by decide +kernel)) ggX0_tellRider_X0_read
theorem dX0_tellRider_0 : decode cX0_tellRider 0 = .ok (.bipush 10, 2) := by decide +kernel
theorem dX0_tellRider_2 : decode cX0_tellRider 2 = .ok (.aload_n 0, 1) := by decide +kernel
theorem dX0_tellRider_3 : decode cX0_tellRider 3 = .ok (.iload_n 1, 1) := by decide +kernel
theorem dX0_tellRider_4 : decode cX0_tellRider 4 = .ok (.iload_n 2, 1) := by decide +kernel
theorem dX0_tellRider_5 : decode cX0_tellRider 5 = .ok (.invokevirtual 129, 3) := by decide +kernel
theorem dX0_tellRider_8 : decode cX0_tellRider 8 = .ok (.imul, 1) := by decide +kernel
theorem dX0_tellRider_9 : decode cX0_tellRider 9 = .ok (.aload_n 0, 1) := by decide +kernel
theorem dX0_tellRider_10 : decode cX0_tellRider 10 = .ok (.getfield 34, 3) := by decide +kernel
theorem dX0_tellRider_13 : decode cX0_tellRider 13 = .ok (.iload_n 1, 1) := by decide +kernel
theorem dX0_tellRider_14 : decode cX0_tellRider 14 = .ok (.bipush 9, 2) := by decide +kernel
theorem dX0_tellRider_16 : decode cX0_tellRider 16 = .ok (.imul, 1) := by decide +kernel
theorem dX0_tellRider_17 : decode cX0_tellRider 17 = .ok (.iload_n 2, 1) := by decide +kernel
theorem dX0_tellRider_18 : decode cX0_tellRider 18 = .ok (.iadd, 1) := by decide +kernel
theorem dX0_tellRider_19 : decode cX0_tellRider 19 = .ok (.invokestatic 100, 3) := by decide +kernel
theorem dX0_tellRider_22 : decode cX0_tellRider 22 = .ok (.iadd, 1) := by decide +kernel
theorem dX0_tellRider_23 : decode cX0_tellRider 23 = .ok (.ireturn, 1) := by decide +kernel
set_option maxRecDepth 20000 in
theorem ggX0_tellCount_X0_waitingInAll : GoodIn wsX0_tellCount wsX0_waitingInAll := goodIn_r _ [10, 2, 11, 12, 13, 9, 14, 15, 16, 17, 18, 19, 20, 21, 22, 42, 43, 44, 45, 46, 47, 48, 49, 50, 51, 52, 53, 54, 55, 56, 57, 58] (by decide +kernel) (by decide +kernel)
set_option maxRecDepth 20000 in
theorem gX0_tellCount_X0_waitingInAll : GoodIn wsX0_tellCount (wsV RX0 161 RX0 yX0_waitingInAll wsX0_waitingInAll) := goodIn_app (goodIn_of _ (by decide +kernel)) ggX0_tellCount_X0_waitingInAll
set_option maxRecDepth 20000 in
theorem ggX0_tellCount_X0_ridersInPods : GoodIn wsX0_tellCount wsX0_ridersInPods := goodIn_r _ [26, 3, 27, 20, 21, 9, 22, 42, 43, 44, 45, 46, 47, 48, 49, 50, 51, 52, 53, 54, 55, 56, 57, 58] (by decide +kernel) (by decide +kernel)
set_option maxRecDepth 20000 in
theorem gX0_tellCount_X0_ridersInPods : GoodIn wsX0_tellCount (wsV RX0 165 RX0 yX0_ridersInPods wsX0_ridersInPods) := goodIn_app (goodIn_of _ (by decide +kernel)) ggX0_tellCount_X0_ridersInPods
set_option maxRecDepth 20000 in
theorem ggX0_tellCount_X0_arrivedInAll : GoodIn wsX0_tellCount wsX0_arrivedInAll := goodIn_r _ [31, 2, 32, 20, 21, 9, 22, 42, 43, 44, 45, 46, 47, 48, 49, 50, 51, 52, 53, 54, 55, 56, 57, 58] (by decide +kernel) (by decide +kernel)
set_option maxRecDepth 20000 in
theorem gX0_tellCount_X0_arrivedInAll : GoodIn wsX0_tellCount (wsV RX0 168 RX0 yX0_arrivedInAll wsX0_arrivedInAll) := goodIn_app (goodIn_of _ (by decide +kernel)) ggX0_tellCount_X0_arrivedInAll
set_option maxRecDepth 20000 in
theorem ggX0_tellCount_X0_freeSlots : GoodIn wsX0_tellCount wsX0_freeSlots := goodIn_r _ [36, 37, 38, 39, 9, 40, 41, 20, 21, 22, 42, 43, 44, 45, 46, 47, 48, 49, 50, 51, 52, 53, 54, 55, 56, 57, 58] (by decide +kernel) (by decide +kernel)
set_option maxRecDepth 20000 in
theorem gX0_tellCount_X0_freeSlots : GoodIn wsX0_tellCount (wsV RX0 171 RX0 yX0_freeSlots wsX0_freeSlots) := goodIn_app (goodIn_of _ (by decide +kernel)) ggX0_tellCount_X0_freeSlots
theorem dX0_tellCount_0 : decode cX0_tellCount 0 = .ok (.iload_n 1, 1) := by decide +kernel
theorem dX0_tellCount_1 : decode cX0_tellCount 1 = .ok (.tableswitch 87 0 7 #[47, 52, 57, 62, 67, 72, 77, 82], 47) := by decide +kernel
theorem dX0_tellCount_48 : decode cX0_tellCount 48 = .ok (.aload_n 0, 1) := by decide +kernel
theorem dX0_tellCount_49 : decode cX0_tellCount 49 = .ok (.getfield 49, 3) := by decide +kernel
theorem dX0_tellCount_52 : decode cX0_tellCount 52 = .ok (.ireturn, 1) := by decide +kernel
theorem dX0_tellCount_53 : decode cX0_tellCount 53 = .ok (.aload_n 0, 1) := by decide +kernel
theorem dX0_tellCount_54 : decode cX0_tellCount 54 = .ok (.getfield 53, 3) := by decide +kernel
theorem dX0_tellCount_57 : decode cX0_tellCount 57 = .ok (.ireturn, 1) := by decide +kernel
theorem dX0_tellCount_58 : decode cX0_tellCount 58 = .ok (.aload_n 0, 1) := by decide +kernel
theorem dX0_tellCount_59 : decode cX0_tellCount 59 = .ok (.getfield 56, 3) := by decide +kernel
theorem dX0_tellCount_62 : decode cX0_tellCount 62 = .ok (.ireturn, 1) := by decide +kernel
theorem dX0_tellCount_63 : decode cX0_tellCount 63 = .ok (.aload_n 0, 1) := by decide +kernel
theorem dX0_tellCount_64 : decode cX0_tellCount 64 = .ok (.invokevirtual 161, 3) := by decide +kernel
theorem dX0_tellCount_67 : decode cX0_tellCount 67 = .ok (.ireturn, 1) := by decide +kernel
theorem dX0_tellCount_68 : decode cX0_tellCount 68 = .ok (.aload_n 0, 1) := by decide +kernel
theorem dX0_tellCount_69 : decode cX0_tellCount 69 = .ok (.invokevirtual 165, 3) := by decide +kernel
theorem dX0_tellCount_72 : decode cX0_tellCount 72 = .ok (.ireturn, 1) := by decide +kernel
theorem dX0_tellCount_73 : decode cX0_tellCount 73 = .ok (.aload_n 0, 1) := by decide +kernel
theorem dX0_tellCount_74 : decode cX0_tellCount 74 = .ok (.invokevirtual 168, 3) := by decide +kernel
theorem dX0_tellCount_77 : decode cX0_tellCount 77 = .ok (.ireturn, 1) := by decide +kernel
theorem dX0_tellCount_78 : decode cX0_tellCount 78 = .ok (.aload_n 0, 1) := by decide +kernel
theorem dX0_tellCount_79 : decode cX0_tellCount 79 = .ok (.invokevirtual 171, 3) := by decide +kernel
theorem dX0_tellCount_82 : decode cX0_tellCount 82 = .ok (.ireturn, 1) := by decide +kernel
theorem dX0_tellCount_83 : decode cX0_tellCount 83 = .ok (.aload_n 0, 1) := by decide +kernel
theorem dX0_tellCount_84 : decode cX0_tellCount 84 = .ok (.getfield 62, 3) := by decide +kernel
theorem dX0_tellCount_87 : decode cX0_tellCount 87 = .ok (.ireturn, 1) := by decide +kernel
theorem dX0_tellCount_88 : decode cX0_tellCount 88 = .ok (.aload_n 0, 1) := by decide +kernel
theorem dX0_tellCount_89 : decode cX0_tellCount 89 = .ok (.getfield 65, 3) := by decide +kernel
theorem dX0_tellCount_92 : decode cX0_tellCount 92 = .ok (.ireturn, 1) := by decide +kernel
set_option maxRecDepth 20000 in
theorem ggX0_emptyRow_J7_fill_53178 : GoodIn wsX0_emptyRow wsJ7_fill_53178 := goodIn_r _ [9] (by decide +kernel) (by decide +kernel)
set_option maxRecDepth 20000 in
theorem gX0_emptyRow_J7_fill_53178 : GoodIn wsX0_emptyRow (va_wsS RX0 174 yJ7_fill_53178 wsJ7_fill_53178) := goodIn_app (goodIn_of _ (by decide +kernel)) ggX0_emptyRow_J7_fill_53178
theorem dX0_emptyRow_0 : decode cX0_emptyRow 0 = .ok (.iconst 0, 1) := by decide +kernel
theorem dX0_emptyRow_1 : decode cX0_emptyRow 1 = .ok (.iload_n 0, 1) := by decide +kernel
theorem dX0_emptyRow_2 : decode cX0_emptyRow 2 = .ok (.invokestatic 146, 3) := by decide +kernel
theorem dX0_emptyRow_5 : decode cX0_emptyRow 5 = .ok (.newarray .int, 2) := by decide +kernel
theorem dX0_emptyRow_7 : decode cX0_emptyRow 7 = .ok (.astore_n 1, 1) := by decide +kernel
theorem dX0_emptyRow_8 : decode cX0_emptyRow 8 = .ok (.aload_n 1, 1) := by decide +kernel
theorem dX0_emptyRow_9 : decode cX0_emptyRow 9 = .ok (.iconst (-1), 1) := by decide +kernel
theorem dX0_emptyRow_10 : decode cX0_emptyRow 10 = .ok (.invokestatic 174, 3) := by decide +kernel
theorem dX0_emptyRow_13 : decode cX0_emptyRow 13 = .ok (.aload_n 1, 1) := by decide +kernel
theorem dX0_emptyRow_14 : decode cX0_emptyRow 14 = .ok (.areturn, 1) := by decide +kernel
theorem dX0_read_0 : decode cX0_read 0 = .ok (.iload_n 1, 1) := by decide +kernel
theorem dX0_read_1 : decode cX0_read 1 = .ok (.ifCond .lt 15, 3) := by decide +kernel
theorem dX0_read_4 : decode cX0_read 4 = .ok (.iload_n 1, 1) := by decide +kernel
theorem dX0_read_5 : decode cX0_read 5 = .ok (.aload_n 0, 1) := by decide +kernel
theorem dX0_read_6 : decode cX0_read 6 = .ok (.arraylength, 1) := by decide +kernel
theorem dX0_read_7 : decode cX0_read 7 = .ok (.if_icmp .ge 9, 3) := by decide +kernel
theorem dX0_read_10 : decode cX0_read 10 = .ok (.aload_n 0, 1) := by decide +kernel
theorem dX0_read_11 : decode cX0_read 11 = .ok (.iload_n 1, 1) := by decide +kernel
theorem dX0_read_12 : decode cX0_read 12 = .ok (.iaload, 1) := by decide +kernel
theorem dX0_read_13 : decode cX0_read 13 = .ok (.goto 4, 3) := by decide +kernel
theorem dX0_read_16 : decode cX0_read 16 = .ok (.iconst (-1), 1) := by decide +kernel
theorem dX0_read_17 : decode cX0_read 17 = .ok (.ireturn, 1) := by decide +kernel
theorem dX0_write_0 : decode cX0_write 0 = .ok (.iload_n 1, 1) := by decide +kernel
theorem dX0_write_1 : decode cX0_write 1 = .ok (.ifCond .lt 13, 3) := by decide +kernel
theorem dX0_write_4 : decode cX0_write 4 = .ok (.iload_n 1, 1) := by decide +kernel
theorem dX0_write_5 : decode cX0_write 5 = .ok (.aload_n 0, 1) := by decide +kernel
theorem dX0_write_6 : decode cX0_write 6 = .ok (.arraylength, 1) := by decide +kernel
theorem dX0_write_7 : decode cX0_write 7 = .ok (.if_icmp .ge 7, 3) := by decide +kernel
theorem dX0_write_10 : decode cX0_write 10 = .ok (.aload_n 0, 1) := by decide +kernel
theorem dX0_write_11 : decode cX0_write 11 = .ok (.iload_n 1, 1) := by decide +kernel
theorem dX0_write_12 : decode cX0_write 12 = .ok (.iload_n 2, 1) := by decide +kernel
theorem dX0_write_13 : decode cX0_write 13 = .ok (.iastore, 1) := by decide +kernel
theorem dX0_write_14 : decode cX0_write 14 = .ok (.return_, 1) := by decide +kernel
theorem dX0_find_0 : decode cX0_find 0 = .ok (.iconst 0, 1) := by decide +kernel
theorem dX0_find_1 : decode cX0_find 1 = .ok (.istore_n 2, 1) := by decide +kernel
theorem dX0_find_2 : decode cX0_find 2 = .ok (.iload_n 2, 1) := by decide +kernel
theorem dX0_find_3 : decode cX0_find 3 = .ok (.aload_n 0, 1) := by decide +kernel
theorem dX0_find_4 : decode cX0_find 4 = .ok (.arraylength, 1) := by decide +kernel
theorem dX0_find_5 : decode cX0_find 5 = .ok (.if_icmp .ge 18, 3) := by decide +kernel
theorem dX0_find_8 : decode cX0_find 8 = .ok (.aload_n 0, 1) := by decide +kernel
theorem dX0_find_9 : decode cX0_find 9 = .ok (.iload_n 2, 1) := by decide +kernel
theorem dX0_find_10 : decode cX0_find 10 = .ok (.iaload, 1) := by decide +kernel
theorem dX0_find_11 : decode cX0_find 11 = .ok (.iload_n 1, 1) := by decide +kernel
theorem dX0_find_12 : decode cX0_find 12 = .ok (.if_icmp .ne 5, 3) := by decide +kernel
theorem dX0_find_15 : decode cX0_find 15 = .ok (.iload_n 2, 1) := by decide +kernel
theorem dX0_find_16 : decode cX0_find 16 = .ok (.ireturn, 1) := by decide +kernel
theorem dX0_find_17 : decode cX0_find 17 = .ok (.iinc 2 1, 3) := by decide +kernel
theorem dX0_find_20 : decode cX0_find 20 = .ok (.goto (-18), 3) := by decide +kernel
theorem dX0_find_23 : decode cX0_find 23 = .ok (.iconst (-1), 1) := by decide +kernel
theorem dX0_find_24 : decode cX0_find 24 = .ok (.ireturn, 1) := by decide +kernel
theorem dX0_copyRow_0 : decode cX0_copyRow 0 = .ok (.aload_n 0, 1) := by decide +kernel
theorem dX0_copyRow_1 : decode cX0_copyRow 1 = .ok (.iconst 0, 1) := by decide +kernel
theorem dX0_copyRow_2 : decode cX0_copyRow 2 = .ok (.aload_n 1, 1) := by decide +kernel
theorem dX0_copyRow_3 : decode cX0_copyRow 3 = .ok (.iconst 0, 1) := by decide +kernel
theorem dX0_copyRow_4 : decode cX0_copyRow 4 = .ok (.aload_n 0, 1) := by decide +kernel
theorem dX0_copyRow_5 : decode cX0_copyRow 5 = .ok (.arraylength, 1) := by decide +kernel
theorem dX0_copyRow_6 : decode cX0_copyRow 6 = .ok (.aload_n 1, 1) := by decide +kernel
theorem dX0_copyRow_7 : decode cX0_copyRow 7 = .ok (.arraylength, 1) := by decide +kernel
theorem dX0_copyRow_8 : decode cX0_copyRow 8 = .ok (.invokestatic 180, 3) := by decide +kernel
theorem dX0_copyRow_11 : decode cX0_copyRow 11 = .ok (.invokestatic 104, 3) := by decide +kernel
theorem dX0_copyRow_14 : decode cX0_copyRow 14 = .ok (.return_, 1) := by decide +kernel
theorem dJ9_floorMod_7cf53_0 : decode cJ9_floorMod_7cf53 0 = .ok (.iload_n 0, 1) := by decide +kernel
theorem dJ9_floorMod_7cf53_1 : decode cJ9_floorMod_7cf53 1 = .ok (.iload_n 1, 1) := by decide +kernel
theorem dJ9_floorMod_7cf53_2 : decode cJ9_floorMod_7cf53 2 = .ok (.irem, 1) := by decide +kernel
theorem dJ9_floorMod_7cf53_3 : decode cJ9_floorMod_7cf53 3 = .ok (.istore_n 2, 1) := by decide +kernel
theorem dJ9_floorMod_7cf53_4 : decode cJ9_floorMod_7cf53 4 = .ok (.iload_n 0, 1) := by decide +kernel
theorem dJ9_floorMod_7cf53_5 : decode cJ9_floorMod_7cf53 5 = .ok (.iload_n 1, 1) := by decide +kernel
theorem dJ9_floorMod_7cf53_6 : decode cJ9_floorMod_7cf53 6 = .ok (.ixor, 1) := by decide +kernel
theorem dJ9_floorMod_7cf53_7 : decode cJ9_floorMod_7cf53 7 = .ok (.ifCond .ge 11, 3) := by decide +kernel
theorem dJ9_floorMod_7cf53_10 : decode cJ9_floorMod_7cf53 10 = .ok (.iload_n 2, 1) := by decide +kernel
theorem dJ9_floorMod_7cf53_11 : decode cJ9_floorMod_7cf53 11 = .ok (.ifCond .eq 7, 3) := by decide +kernel
theorem dJ9_floorMod_7cf53_14 : decode cJ9_floorMod_7cf53 14 = .ok (.iload_n 2, 1) := by decide +kernel
theorem dJ9_floorMod_7cf53_15 : decode cJ9_floorMod_7cf53 15 = .ok (.iload_n 1, 1) := by decide +kernel
theorem dJ9_floorMod_7cf53_16 : decode cJ9_floorMod_7cf53 16 = .ok (.iadd, 1) := by decide +kernel
theorem dJ9_floorMod_7cf53_17 : decode cJ9_floorMod_7cf53 17 = .ok (.ireturn, 1) := by decide +kernel
theorem dJ9_floorMod_7cf53_18 : decode cJ9_floorMod_7cf53 18 = .ok (.iload_n 2, 1) := by decide +kernel
theorem dJ9_floorMod_7cf53_19 : decode cJ9_floorMod_7cf53 19 = .ok (.ireturn, 1) := by decide +kernel
theorem dJ9_max_7cf53_0 : decode cJ9_max_7cf53 0 = .ok (.iload_n 0, 1) := by decide +kernel
theorem dJ9_max_7cf53_1 : decode cJ9_max_7cf53 1 = .ok (.iload_n 1, 1) := by decide +kernel
theorem dJ9_max_7cf53_2 : decode cJ9_max_7cf53 2 = .ok (.if_icmp .lt 7, 3) := by decide +kernel
theorem dJ9_max_7cf53_5 : decode cJ9_max_7cf53 5 = .ok (.iload_n 0, 1) := by decide +kernel
theorem dJ9_max_7cf53_6 : decode cJ9_max_7cf53 6 = .ok (.goto 4, 3) := by decide +kernel
theorem dJ9_max_7cf53_9 : decode cJ9_max_7cf53 9 = .ok (.iload_n 1, 1) := by decide +kernel
theorem dJ9_max_7cf53_10 : decode cJ9_max_7cf53 10 = .ok (.ireturn, 1) := by decide +kernel
theorem dJ9_min_7cf53_0 : decode cJ9_min_7cf53 0 = .ok (.iload_n 0, 1) := by decide +kernel
theorem dJ9_min_7cf53_1 : decode cJ9_min_7cf53 1 = .ok (.iload_n 1, 1) := by decide +kernel
theorem dJ9_min_7cf53_2 : decode cJ9_min_7cf53 2 = .ok (.if_icmp .gt 7, 3) := by decide +kernel
theorem dJ9_min_7cf53_5 : decode cJ9_min_7cf53 5 = .ok (.iload_n 0, 1) := by decide +kernel
theorem dJ9_min_7cf53_6 : decode cJ9_min_7cf53 6 = .ok (.goto 4, 3) := by decide +kernel
theorem dJ9_min_7cf53_9 : decode cJ9_min_7cf53 9 = .ok (.iload_n 1, 1) := by decide +kernel
theorem dJ9_min_7cf53_10 : decode cJ9_min_7cf53 10 = .ok (.ireturn, 1) := by decide +kernel
theorem dJ7_fill_53178_0 : decode cJ7_fill_53178 0 = .ok (.iconst 0, 1) := by decide +kernel
theorem dJ7_fill_53178_1 : decode cJ7_fill_53178 1 = .ok (.istore_n 2, 1) := by decide +kernel
theorem dJ7_fill_53178_2 : decode cJ7_fill_53178 2 = .ok (.aload_n 0, 1) := by decide +kernel
theorem dJ7_fill_53178_3 : decode cJ7_fill_53178 3 = .ok (.arraylength, 1) := by decide +kernel
theorem dJ7_fill_53178_4 : decode cJ7_fill_53178 4 = .ok (.istore_n 3, 1) := by decide +kernel
theorem dJ7_fill_53178_5 : decode cJ7_fill_53178 5 = .ok (.iload_n 2, 1) := by decide +kernel
theorem dJ7_fill_53178_6 : decode cJ7_fill_53178 6 = .ok (.iload_n 3, 1) := by decide +kernel
theorem dJ7_fill_53178_7 : decode cJ7_fill_53178 7 = .ok (.if_icmp .ge 13, 3) := by decide +kernel
theorem dJ7_fill_53178_10 : decode cJ7_fill_53178 10 = .ok (.aload_n 0, 1) := by decide +kernel
theorem dJ7_fill_53178_11 : decode cJ7_fill_53178 11 = .ok (.iload_n 2, 1) := by decide +kernel
theorem dJ7_fill_53178_12 : decode cJ7_fill_53178 12 = .ok (.iload_n 1, 1) := by decide +kernel
theorem dJ7_fill_53178_13 : decode cJ7_fill_53178 13 = .ok (.iastore, 1) := by decide +kernel
theorem dJ7_fill_53178_14 : decode cJ7_fill_53178 14 = .ok (.iinc 2 1, 3) := by decide +kernel
theorem dJ7_fill_53178_17 : decode cJ7_fill_53178 17 = .ok (.goto (-12), 3) := by decide +kernel
theorem dJ7_fill_53178_20 : decode cJ7_fill_53178 20 = .ok (.return_, 1) := by decide +kernel
