theorem dX3_tryStart_42 : decode cX3_tryStart 42 = .ok (.iload 6, 2) := by decide +kernel
theorem dX3_tryStart_44 : decode cX3_tryStart 44 = .ok (.isub, 1) := by decide +kernel
theorem dX3_tryStart_45 : decode cX3_tryStart 45 = .ok (.istore 8, 2) := by decide +kernel
theorem dX3_tryStart_47 : decode cX3_tryStart 47 = .ok (.aload_n 0, 1) := by decide +kernel
theorem dX3_tryStart_48 : decode cX3_tryStart 48 = .ok (.getfield 18, 3) := by decide +kernel
theorem dX3_tryStart_51 : decode cX3_tryStart 51 = .ok (.astore 9, 2) := by decide +kernel
theorem dX3_tryStart_53 : decode cX3_tryStart 53 = .ok (.iconst 0, 1) := by decide +kernel
theorem dX3_tryStart_54 : decode cX3_tryStart 54 = .ok (.istore 10, 2) := by decide +kernel
theorem dX3_tryStart_56 : decode cX3_tryStart 56 = .ok (.iload 10, 2) := by decide +kernel
theorem dX3_tryStart_58 : decode cX3_tryStart 58 = .ok (.aload_n 0, 1) := by decide +kernel
theorem dX3_tryStart_59 : decode cX3_tryStart 59 = .ok (.getfield 26, 3) := by decide +kernel
theorem dX3_tryStart_62 : decode cX3_tryStart 62 = .ok (.if_icmp .ge 86, 3) := by decide +kernel
theorem dX3_tryStart_65 : decode cX3_tryStart 65 = .ok (.aload_n 0, 1) := by decide +kernel
theorem dX3_tryStart_66 : decode cX3_tryStart 66 = .ok (.iload_n 1, 1) := by decide +kernel
theorem dX3_tryStart_67 : decode cX3_tryStart 67 = .ok (.iload 10, 2) := by decide +kernel
theorem dX3_tryStart_69 : decode cX3_tryStart 69 = .ok (.invokevirtual 128, 3) := by decide +kernel
theorem dX3_tryStart_72 : decode cX3_tryStart 72 = .ok (.ifCond .eq 6, 3) := by decide +kernel
theorem dX3_tryStart_75 : decode cX3_tryStart 75 = .ok (.goto 58, 3) := by decide +kernel
theorem dX3_tryStart_78 : decode cX3_tryStart 78 = .ok (.iload 6, 2) := by decide +kernel
theorem dX3_tryStart_80 : decode cX3_tryStart 80 = .ok (.istore 11, 2) := by decide +kernel
theorem dX3_tryStart_82 : decode cX3_tryStart 82 = .ok (.iload 11, 2) := by decide +kernel
theorem dX3_tryStart_84 : decode cX3_tryStart 84 = .ok (.aload_n 0, 1) := by decide +kernel
theorem dX3_tryStart_85 : decode cX3_tryStart 85 = .ok (.getfield 29, 3) := by decide +kernel
theorem dX3_tryStart_88 : decode cX3_tryStart 88 = .ok (.if_icmp .ge 45, 3) := by decide +kernel
theorem dX3_tryStart_91 : decode cX3_tryStart 91 = .ok (.iload 5, 2) := by decide +kernel
theorem dX3_tryStart_93 : decode cX3_tryStart 93 = .ok (.aload 9, 2) := by decide +kernel
theorem dX3_tryStart_95 : decode cX3_tryStart 95 = .ok (.iload 8, 2) := by decide +kernel
theorem dX3_tryStart_97 : decode cX3_tryStart 97 = .ok (.iload 11, 2) := by decide +kernel
theorem dX3_tryStart_99 : decode cX3_tryStart 99 = .ok (.iadd, 1) := by decide +kernel
theorem dX3_tryStart_100 : decode cX3_tryStart 100 = .ok (.iaload, 1) := by decide +kernel
theorem dX3_tryStart_101 : decode cX3_tryStart 101 = .ok (.iadd, 1) := by decide +kernel
theorem dX3_tryStart_102 : decode cX3_tryStart 102 = .ok (.istore 12, 2) := by decide +kernel
theorem dX3_tryStart_104 : decode cX3_tryStart 104 = .ok (.iload 12, 2) := by decide +kernel
theorem dX3_tryStart_106 : decode cX3_tryStart 106 = .ok (.aload 9, 2) := by decide +kernel
theorem dX3_tryStart_108 : decode cX3_tryStart 108 = .ok (.iload 7, 2) := by decide +kernel
theorem dX3_tryStart_110 : decode cX3_tryStart 110 = .ok (.iload 11, 2) := by decide +kernel
theorem dX3_tryStart_112 : decode cX3_tryStart 112 = .ok (.iadd, 1) := by decide +kernel
theorem dX3_tryStart_113 : decode cX3_tryStart 113 = .ok (.iaload, 1) := by decide +kernel
theorem dX3_tryStart_114 : decode cX3_tryStart 114 = .ok (.if_icmp .le 13, 3) := by decide +kernel
theorem dX3_tryStart_117 : decode cX3_tryStart 117 = .ok (.aload 9, 2) := by decide +kernel
theorem dX3_tryStart_119 : decode cX3_tryStart 119 = .ok (.iload 7, 2) := by decide +kernel
theorem dX3_tryStart_121 : decode cX3_tryStart 121 = .ok (.iload 11, 2) := by decide +kernel
theorem dX3_tryStart_123 : decode cX3_tryStart 123 = .ok (.iadd, 1) := by decide +kernel
theorem dX3_tryStart_124 : decode cX3_tryStart 124 = .ok (.iload 12, 2) := by decide +kernel
theorem dX3_tryStart_126 : decode cX3_tryStart 126 = .ok (.iastore, 1) := by decide +kernel
theorem dX3_tryStart_127 : decode cX3_tryStart 127 = .ok (.iinc 11 1, 3) := by decide +kernel
theorem dX3_tryStart_130 : decode cX3_tryStart 130 = .ok (.goto (-48), 3) := by decide +kernel
theorem dX3_tryStart_133 : decode cX3_tryStart 133 = .ok (.iinc 10 1, 3) := by decide +kernel
theorem dX3_tryStart_136 : decode cX3_tryStart 136 = .ok (.iload 7, 2) := by decide +kernel
theorem dX3_tryStart_138 : decode cX3_tryStart 138 = .ok (.aload_n 0, 1) := by decide +kernel
theorem dX3_tryStart_139 : decode cX3_tryStart 139 = .ok (.getfield 29, 3) := by decide +kernel
theorem dX3_tryStart_142 : decode cX3_tryStart 142 = .ok (.iadd, 1) := by decide +kernel
theorem dX3_tryStart_143 : decode cX3_tryStart 143 = .ok (.istore 7, 2) := by decide +kernel
theorem dX3_tryStart_145 : decode cX3_tryStart 145 = .ok (.goto (-89), 3) := by decide +kernel
theorem dX3_tryStart_148 : decode cX3_tryStart 148 = .ok (.return_, 1) := by decide +kernel
set_option maxRecDepth 20000 in
theorem ggX3_cellAfter_X3_cell : GoodIn wsX3_cellAfter wsX3_cell := goodIn_r _ [8, 9, 10, 11, 12, 13, 14, 15, 16, 17, 18, 19, 20, 21] (by decide +kernel) (by decide +kernel)
set_option maxRecDepth 20000 in
theorem gX3_cellAfter_X3_cell : GoodIn wsX3_cellAfter (wsV RX3 67 RX3 yX3_cell wsX3_cell) := goodIn_app (goodIn_of _ (by decide +kernel)) ggX3_cellAfter_X3_cell
theorem dX3_cellAfter_0 : decode cX3_cellAfter 0 = .ok (.aload_n 0, 1) := by decide +kernel
theorem dX3_cellAfter_1 : decode cX3_cellAfter 1 = .ok (.getfield 38, 3) := by decide +kernel
theorem dX3_cellAfter_4 : decode cX3_cellAfter 4 = .ok (.iload_n 1, 1) := by decide +kernel
theorem dX3_cellAfter_5 : decode cX3_cellAfter 5 = .ok (.bipush 24, 2) := by decide +kernel
theorem dX3_cellAfter_7 : decode cX3_cellAfter 7 = .ok (.imul, 1) := by decide +kernel
theorem dX3_cellAfter_8 : decode cX3_cellAfter 8 = .ok (.iload_n 2, 1) := by decide +kernel
theorem dX3_cellAfter_9 : decode cX3_cellAfter 9 = .ok (.iadd, 1) := by decide +kernel
theorem dX3_cellAfter_10 : decode cX3_cellAfter 10 = .ok (.iaload, 1) := by decide +kernel
theorem dX3_cellAfter_11 : decode cX3_cellAfter 11 = .ok (.istore 4, 2) := by decide +kernel
theorem dX3_cellAfter_13 : decode cX3_cellAfter 13 = .ok (.aload_n 0, 1) := by decide +kernel
theorem dX3_cellAfter_14 : decode cX3_cellAfter 14 = .ok (.iload_n 2, 1) := by decide +kernel
theorem dX3_cellAfter_15 : decode cX3_cellAfter 15 = .ok (.aload_n 0, 1) := by decide +kernel
theorem dX3_cellAfter_16 : decode cX3_cellAfter 16 = .ok (.getfield 12, 3) := by decide +kernel
theorem dX3_cellAfter_19 : decode cX3_cellAfter 19 = .ok (.getfield 96, 3) := by decide +kernel
theorem dX3_cellAfter_22 : decode cX3_cellAfter 22 = .ok (.iload_n 1, 1) := by decide +kernel
theorem dX3_cellAfter_23 : decode cX3_cellAfter 23 = .ok (.iaload, 1) := by decide +kernel
theorem dX3_cellAfter_24 : decode cX3_cellAfter 24 = .ok (.iadd, 1) := by decide +kernel
theorem dX3_cellAfter_25 : decode cX3_cellAfter 25 = .ok (.iload_n 3, 1) := by decide +kernel
theorem dX3_cellAfter_26 : decode cX3_cellAfter 26 = .ok (.iconst 1, 1) := by decide +kernel
theorem dX3_cellAfter_27 : decode cX3_cellAfter 27 = .ok (.iload_n 1, 1) := by decide +kernel
theorem dX3_cellAfter_28 : decode cX3_cellAfter 28 = .ok (.ishl, 1) := by decide +kernel
theorem dX3_cellAfter_29 : decode cX3_cellAfter 29 = .ok (.ior, 1) := by decide +kernel
theorem dX3_cellAfter_30 : decode cX3_cellAfter 30 = .ok (.iload 4, 2) := by decide +kernel
theorem dX3_cellAfter_32 : decode cX3_cellAfter 32 = .ok (.invokevirtual 67, 3) := by decide +kernel
theorem dX3_cellAfter_35 : decode cX3_cellAfter 35 = .ok (.ireturn, 1) := by decide +kernel
set_option maxRecDepth 20000 in
theorem ggX3_incomeWithout_X3_cell : GoodIn wsX3_incomeWithout wsX3_cell := goodIn_r _ [6, 7, 8, 9, 18, 19, 20, 21, 22, 23, 24, 25, 26, 27] (by decide +kernel) (by decide +kernel)
set_option maxRecDepth 20000 in
theorem gX3_incomeWithout_X3_cell : GoodIn wsX3_incomeWithout (wsV RX3 67 RX3 yX3_cell wsX3_cell) := goodIn_app (goodIn_of _ (by decide +kernel)) ggX3_incomeWithout_X3_cell
set_option maxRecDepth 20000 in
theorem ggX3_incomeWithout_X3_level : GoodIn wsX3_incomeWithout wsX3_level := goodIn_r _ [13, 9, 14, 15, 16, 17, 18, 19, 20, 21, 22, 23, 24, 25, 26, 27] (by decide +kernel) (by decide +kernel)
set_option maxRecDepth 20000 in
theorem gX3_incomeWithout_X3_level : GoodIn wsX3_incomeWithout (wsV RX3 131 RX3 yX3_level wsX3_level) := goodIn_app (goodIn_of _ (by decide +kernel)) ggX3_incomeWithout_X3_level
theorem dX3_incomeWithout_0 : decode cX3_incomeWithout 0 = .ok (.aload_n 0, 1) := by decide +kernel
theorem dX3_incomeWithout_1 : decode cX3_incomeWithout 1 = .ok (.getfield 18, 3) := by decide +kernel
theorem dX3_incomeWithout_4 : decode cX3_incomeWithout 4 = .ok (.aload_n 0, 1) := by decide +kernel
theorem dX3_incomeWithout_5 : decode cX3_incomeWithout 5 = .ok (.iconst 0, 1) := by decide +kernel
theorem dX3_incomeWithout_6 : decode cX3_incomeWithout 6 = .ok (.iload_n 1, 1) := by decide +kernel
theorem dX3_incomeWithout_7 : decode cX3_incomeWithout 7 = .ok (.iconst 0, 1) := by decide +kernel
theorem dX3_incomeWithout_8 : decode cX3_incomeWithout 8 = .ok (.invokevirtual 67, 3) := by decide +kernel
theorem dX3_incomeWithout_11 : decode cX3_incomeWithout 11 = .ok (.aload_n 0, 1) := by decide +kernel
theorem dX3_incomeWithout_12 : decode cX3_incomeWithout 12 = .ok (.iload_n 2, 1) := by decide +kernel
theorem dX3_incomeWithout_13 : decode cX3_incomeWithout 13 = .ok (.invokevirtual 131, 3) := by decide +kernel
theorem dX3_incomeWithout_16 : decode cX3_incomeWithout 16 = .ok (.iadd, 1) := by decide +kernel
theorem dX3_incomeWithout_17 : decode cX3_incomeWithout 17 = .ok (.iaload, 1) := by decide +kernel
theorem dX3_incomeWithout_18 : decode cX3_incomeWithout 18 = .ok (.bipush 16, 2) := by decide +kernel
theorem dX3_incomeWithout_20 : decode cX3_incomeWithout 20 = .ok (.idiv, 1) := by decide +kernel
theorem dX3_incomeWithout_21 : decode cX3_incomeWithout 21 = .ok (.ireturn, 1) := by decide +kernel
set_option maxRecDepth 20000 in
theorem ggX3_seatBest_X3_level : GoodIn wsX3_seatBest wsX3_level := goodIn_r _ [11, 12, 13, 14, 15, 16, 68, 69, 70, 71, 72, 73, 74, 75, 76, 77] (by decide +kernel) (by decide +kernel)
set_option maxRecDepth 20000 in
theorem gX3_seatBest_X3_level : GoodIn wsX3_seatBest (wsV RX3 131 RX3 yX3_level wsX3_level) := goodIn_app (goodIn_of _ (by decide +kernel)) ggX3_seatBest_X3_level
set_option maxRecDepth 20000 in
theorem ggX3_seatBest_X3_firstChoice : GoodIn wsX3_seatBest wsX3_firstChoice := goodIn_r _ [20, 21, 1, 22, 4, 23, 24, 25, 26, 10, 27, 28, 29, 12, 30, 31, 32, 33, 34, 35, 36, 37, 38, 39, 40, 41, 42, 5, 6, 68, 69, 70, 71, 72, 73, 74, 75, 76, 77, 78, 79, 80, 81, 82, 83, 84, 85, 86, 87, 88, 89, 90, 91] (by decide +kernel) (by decide +kernel)
set_option maxRecDepth 20000 in
theorem gX3_seatBest_X3_firstChoice : GoodIn wsX3_seatBest (wsV RX3 134 RX3 yX3_firstChoice wsX3_firstChoice) := goodIn_app (goodIn_of _ (by decide +kernel)) ggX3_seatBest_X3_firstChoice
set_option maxRecDepth 20000 in
theorem ggX3_seatBest_X2_seat : GoodIn wsX3_seatBest wsX2_seat := goodIn_r _ [47, 48, 49, 50, 51, 52, 53, 46, 54, 55, 56, 14, 15, 16, 57, 58, 59, 60, 61, 62, 63, 64, 65, 66, 67, 78, 79, 80, 81, 82, 83, 84, 85, 86, 87, 88, 89, 90, 91] (by decide +kernel) (by decide +kernel)
set_option maxRecDepth 20000 in
theorem gX3_seatBest_X2_seat : GoodIn wsX3_seatBest (wsV RX3 138 RX2 yX2_seat wsX2_seat) := goodIn_app (goodIn_of _ (by decide +kernel)) ggX3_seatBest_X2_seat
theorem dX3_seatBest_0 : decode cX3_seatBest 0 = .ok (.iconst 0, 1) := by decide +kernel
theorem dX3_seatBest_1 : decode cX3_seatBest 1 = .ok (.istore_n 2, 1) := by decide +kernel
theorem dX3_seatBest_2 : decode cX3_seatBest 2 = .ok (.iconst 0, 1) := by decide +kernel
theorem dX3_seatBest_3 : decode cX3_seatBest 3 = .ok (.istore_n 3, 1) := by decide +kernel
theorem dX3_seatBest_4 : decode cX3_seatBest 4 = .ok (.aload_n 0, 1) := by decide +kernel
theorem dX3_seatBest_5 : decode cX3_seatBest 5 = .ok (.aload_n 0, 1) := by decide +kernel
theorem dX3_seatBest_6 : decode cX3_seatBest 6 = .ok (.getfield 12, 3) := by decide +kernel
theorem dX3_seatBest_9 : decode cX3_seatBest 9 = .ok (.getfield 107, 3) := by decide +kernel
theorem dX3_seatBest_12 : decode cX3_seatBest 12 = .ok (.invokevirtual 131, 3) := by decide +kernel
theorem dX3_seatBest_15 : decode cX3_seatBest 15 = .ok (.istore 4, 2) := by decide +kernel
theorem dX3_seatBest_17 : decode cX3_seatBest 17 = .ok (.iconst 0, 1) := by decide +kernel
theorem dX3_seatBest_18 : decode cX3_seatBest 18 = .ok (.istore 5, 2) := by decide +kernel
theorem dX3_seatBest_20 : decode cX3_seatBest 20 = .ok (.iconst 0, 1) := by decide +kernel
theorem dX3_seatBest_21 : decode cX3_seatBest 21 = .ok (.istore 6, 2) := by decide +kernel
theorem dX3_seatBest_23 : decode cX3_seatBest 23 = .ok (.iload 6, 2) := by decide +kernel
theorem dX3_seatBest_25 : decode cX3_seatBest 25 = .ok (.aload_n 0, 1) := by decide +kernel
theorem dX3_seatBest_26 : decode cX3_seatBest 26 = .ok (.getfield 12, 3) := by decide +kernel
theorem dX3_seatBest_29 : decode cX3_seatBest 29 = .ok (.getfield 60, 3) := by decide +kernel
theorem dX3_seatBest_32 : decode cX3_seatBest 32 = .ok (.if_icmp .ge 102, 3) := by decide +kernel
theorem dX3_seatBest_35 : decode cX3_seatBest 35 = .ok (.iload 6, 2) := by decide +kernel
theorem dX3_seatBest_37 : decode cX3_seatBest 37 = .ok (.iload 5, 2) := by decide +kernel
theorem dX3_seatBest_39 : decode cX3_seatBest 39 = .ok (.if_icmp .ge 6, 3) := by decide +kernel
theorem dX3_seatBest_42 : decode cX3_seatBest 42 = .ok (.goto 86, 3) := by decide +kernel
theorem dX3_seatBest_45 : decode cX3_seatBest 45 = .ok (.aload_n 0, 1) := by decide +kernel
theorem dX3_seatBest_46 : decode cX3_seatBest 46 = .ok (.iload 6, 2) := by decide +kernel
theorem dX3_seatBest_48 : decode cX3_seatBest 48 = .ok (.iload_n 2, 1) := by decide +kernel
theorem dX3_seatBest_49 : decode cX3_seatBest 49 = .ok (.iload_n 3, 1) := by decide +kernel
theorem dX3_seatBest_50 : decode cX3_seatBest 50 = .ok (.iload 4, 2) := by decide +kernel
theorem dX3_seatBest_52 : decode cX3_seatBest 52 = .ok (.invokevirtual 134, 3) := by decide +kernel
theorem dX3_seatBest_55 : decode cX3_seatBest 55 = .ok (.istore 7, 2) := by decide +kernel
theorem dX3_seatBest_57 : decode cX3_seatBest 57 = .ok (.iload 7, 2) := by decide +kernel
theorem dX3_seatBest_59 : decode cX3_seatBest 59 = .ok (.iconst (-1), 1) := by decide +kernel
theorem dX3_seatBest_60 : decode cX3_seatBest 60 = .ok (.if_icmp .ne 8, 3) := by decide +kernel
theorem dX3_seatBest_63 : decode cX3_seatBest 63 = .ok (.iconst 0, 1) := by decide +kernel
theorem dX3_seatBest_64 : decode cX3_seatBest 64 = .ok (.istore_n 3, 1) := by decide +kernel
theorem dX3_seatBest_65 : decode cX3_seatBest 65 = .ok (.goto 63, 3) := by decide +kernel
theorem dX3_seatBest_68 : decode cX3_seatBest 68 = .ok (.iload 7, 2) := by decide +kernel
theorem dX3_seatBest_70 : decode cX3_seatBest 70 = .ok (.bipush 24, 2) := by decide +kernel
theorem dX3_seatBest_72 : decode cX3_seatBest 72 = .ok (.imul, 1) := by decide +kernel
theorem dX3_seatBest_73 : decode cX3_seatBest 73 = .ok (.iload 6, 2) := by decide +kernel
theorem dX3_seatBest_75 : decode cX3_seatBest 75 = .ok (.iadd, 1) := by decide +kernel
theorem dX3_seatBest_76 : decode cX3_seatBest 76 = .ok (.istore 8, 2) := by decide +kernel
theorem dX3_seatBest_78 : decode cX3_seatBest 78 = .ok (.aload_n 1, 1) := by decide +kernel
theorem dX3_seatBest_79 : decode cX3_seatBest 79 = .ok (.iload 7, 2) := by decide +kernel
theorem dX3_seatBest_81 : decode cX3_seatBest 81 = .ok (.iload 6, 2) := by decide +kernel
theorem dX3_seatBest_83 : decode cX3_seatBest 83 = .ok (.invokevirtual 138, 3) := by decide +kernel
theorem dX3_seatBest_86 : decode cX3_seatBest 86 = .ok (.iload_n 2, 1) := by decide +kernel
theorem dX3_seatBest_87 : decode cX3_seatBest 87 = .ok (.iconst 1, 1) := by decide +kernel
theorem dX3_seatBest_88 : decode cX3_seatBest 88 = .ok (.iload 7, 2) := by decide +kernel
theorem dX3_seatBest_90 : decode cX3_seatBest 90 = .ok (.ishl, 1) := by decide +kernel
theorem dX3_seatBest_91 : decode cX3_seatBest 91 = .ok (.ior, 1) := by decide +kernel
theorem dX3_seatBest_92 : decode cX3_seatBest 92 = .ok (.istore_n 2, 1) := by decide +kernel
theorem dX3_seatBest_93 : decode cX3_seatBest 93 = .ok (.iload 4, 2) := by decide +kernel
theorem dX3_seatBest_95 : decode cX3_seatBest 95 = .ok (.aload_n 0, 1) := by decide +kernel
theorem dX3_seatBest_96 : decode cX3_seatBest 96 = .ok (.getfield 35, 3) := by decide +kernel
theorem dX3_seatBest_99 : decode cX3_seatBest 99 = .ok (.iload 8, 2) := by decide +kernel
theorem dX3_seatBest_101 : decode cX3_seatBest 101 = .ok (.iaload, 1) := by decide +kernel
theorem dX3_seatBest_102 : decode cX3_seatBest 102 = .ok (.isub, 1) := by decide +kernel
theorem dX3_seatBest_103 : decode cX3_seatBest 103 = .ok (.istore 4, 2) := by decide +kernel
theorem dX3_seatBest_105 : decode cX3_seatBest 105 = .ok (.aload_n 0, 1) := by decide +kernel
theorem dX3_seatBest_106 : decode cX3_seatBest 106 = .ok (.getfield 38, 3) := by decide +kernel
theorem dX3_seatBest_109 : decode cX3_seatBest 109 = .ok (.iload 8, 2) := by decide +kernel
theorem dX3_seatBest_111 : decode cX3_seatBest 111 = .ok (.iaload, 1) := by decide +kernel
theorem dX3_seatBest_112 : decode cX3_seatBest 112 = .ok (.istore_n 3, 1) := by decide +kernel
theorem dX3_seatBest_113 : decode cX3_seatBest 113 = .ok (.iload 6, 2) := by decide +kernel
theorem dX3_seatBest_115 : decode cX3_seatBest 115 = .ok (.aload_n 0, 1) := by decide +kernel
theorem dX3_seatBest_116 : decode cX3_seatBest 116 = .ok (.getfield 12, 3) := by decide +kernel
theorem dX3_seatBest_119 : decode cX3_seatBest 119 = .ok (.getfield 96, 3) := by decide +kernel
theorem dX3_seatBest_122 : decode cX3_seatBest 122 = .ok (.iload 7, 2) := by decide +kernel
theorem dX3_seatBest_124 : decode cX3_seatBest 124 = .ok (.iaload, 1) := by decide +kernel
theorem dX3_seatBest_125 : decode cX3_seatBest 125 = .ok (.iadd, 1) := by decide +kernel
theorem dX3_seatBest_126 : decode cX3_seatBest 126 = .ok (.istore 5, 2) := by decide +kernel
theorem dX3_seatBest_128 : decode cX3_seatBest 128 = .ok (.iinc 6 1, 3) := by decide +kernel
theorem dX3_seatBest_131 : decode cX3_seatBest 131 = .ok (.goto (-108), 3) := by decide +kernel
theorem dX3_seatBest_134 : decode cX3_seatBest 134 = .ok (.return_, 1) := by decide +kernel
set_option maxRecDepth 20000 in
theorem ggX3_firstChoice_X3_cell : GoodIn wsX3_firstChoice wsX3_cell := goodIn_r _ [10, 11, 12, 13, 29, 30, 31, 32, 33, 34, 35, 36, 37, 38] (by decide +kernel) (by decide +kernel)
set_option maxRecDepth 20000 in
theorem gX3_firstChoice_X3_cell : GoodIn wsX3_firstChoice (wsV RX3 67 RX3 yX3_cell wsX3_cell) := goodIn_app (goodIn_of _ (by decide +kernel)) ggX3_firstChoice_X3_cell
set_option maxRecDepth 20000 in
theorem ggX3_firstChoice_X3_canCome : GoodIn wsX3_firstChoice wsX3_canCome := goodIn_r _ [17, 5, 29, 30, 31, 32, 33, 34, 35, 36, 37, 38] (by decide +kernel) (by decide +kernel)
set_option maxRecDepth 20000 in
theorem gX3_firstChoice_X3_canCome : GoodIn wsX3_firstChoice (wsV RX3 117 RX3 yX3_canCome wsX3_canCome) := goodIn_app (goodIn_of _ (by decide +kernel)) ggX3_firstChoice_X3_canCome
set_option maxRecDepth 20000 in
theorem ggX3_firstChoice_X3_isBarred : GoodIn wsX3_firstChoice wsX3_isBarred := goodIn_r _ [21, 22, 29, 30, 31, 32, 33, 34, 35, 36, 37, 38] (by decide +kernel) (by decide +kernel)
set_option maxRecDepth 20000 in
theorem gX3_firstChoice_X3_isBarred : GoodIn wsX3_firstChoice (wsV RX3 128 RX3 yX3_isBarred wsX3_isBarred) := goodIn_app (goodIn_of _ (by decide +kernel)) ggX3_firstChoice_X3_isBarred
set_option maxRecDepth 20000 in
theorem ggX3_firstChoice_X3_cellAfter : GoodIn wsX3_firstChoice wsX3_cellAfter := goodIn_r _ [26, 27, 2, 28, 6, 7, 8, 9, 10, 11, 12, 13, 29, 30, 31, 32, 33, 34, 35, 36, 37, 38, 39, 40, 41, 42, 43, 44, 45, 46, 47, 48, 49, 50, 51, 52] (by decide +kernel) (by decide +kernel)
set_option maxRecDepth 20000 in
theorem gX3_firstChoice_X3_cellAfter : GoodIn wsX3_firstChoice (wsV RX3 125 RX3 yX3_cellAfter wsX3_cellAfter) := goodIn_app (goodIn_of _ (by decide +kernel)) ggX3_firstChoice_X3_cellAfter
theorem dX3_firstChoice_0 : decode cX3_firstChoice 0 = .ok (.aload_n 0, 1) := by decide +kernel
theorem dX3_firstChoice_1 : decode cX3_firstChoice 1 = .ok (.getfield 18, 3) := by decide +kernel
theorem dX3_firstChoice_4 : decode cX3_firstChoice 4 = .ok (.aload_n 0, 1) := by decide +kernel
theorem dX3_firstChoice_5 : decode cX3_firstChoice 5 = .ok (.iload_n 1, 1) := by decide +kernel
theorem dX3_firstChoice_6 : decode cX3_firstChoice 6 = .ok (.iload_n 2, 1) := by decide +kernel
theorem dX3_firstChoice_7 : decode cX3_firstChoice 7 = .ok (.iload_n 3, 1) := by decide +kernel
theorem dX3_firstChoice_8 : decode cX3_firstChoice 8 = .ok (.invokevirtual 67, 3) := by decide +kernel
theorem dX3_firstChoice_11 : decode cX3_firstChoice 11 = .ok (.iload 4, 2) := by decide +kernel
theorem dX3_firstChoice_13 : decode cX3_firstChoice 13 = .ok (.iadd, 1) := by decide +kernel
theorem dX3_firstChoice_14 : decode cX3_firstChoice 14 = .ok (.iaload, 1) := by decide +kernel
theorem dX3_firstChoice_15 : decode cX3_firstChoice 15 = .ok (.istore 5, 2) := by decide +kernel
theorem dX3_firstChoice_17 : decode cX3_firstChoice 17 = .ok (.iconst 0, 1) := by decide +kernel
theorem dX3_firstChoice_18 : decode cX3_firstChoice 18 = .ok (.istore 6, 2) := by decide +kernel
theorem dX3_firstChoice_20 : decode cX3_firstChoice 20 = .ok (.iload 6, 2) := by decide +kernel
theorem dX3_firstChoice_22 : decode cX3_firstChoice 22 = .ok (.aload_n 0, 1) := by decide +kernel
theorem dX3_firstChoice_23 : decode cX3_firstChoice 23 = .ok (.getfield 12, 3) := by decide +kernel
theorem dX3_firstChoice_26 : decode cX3_firstChoice 26 = .ok (.getfield 51, 3) := by decide +kernel
theorem dX3_firstChoice_29 : decode cX3_firstChoice 29 = .ok (.if_icmp .ge 91, 3) := by decide +kernel
theorem dX3_firstChoice_32 : decode cX3_firstChoice 32 = .ok (.iload 6, 2) := by decide +kernel
theorem dX3_firstChoice_34 : decode cX3_firstChoice 34 = .ok (.bipush 24, 2) := by decide +kernel
theorem dX3_firstChoice_36 : decode cX3_firstChoice 36 = .ok (.imul, 1) := by decide +kernel
theorem dX3_firstChoice_37 : decode cX3_firstChoice 37 = .ok (.iload_n 1, 1) := by decide +kernel
theorem dX3_firstChoice_38 : decode cX3_firstChoice 38 = .ok (.iadd, 1) := by decide +kernel
theorem dX3_firstChoice_39 : decode cX3_firstChoice 39 = .ok (.istore 7, 2) := by decide +kernel
theorem dX3_firstChoice_41 : decode cX3_firstChoice 41 = .ok (.aload_n 0, 1) := by decide +kernel
theorem dX3_firstChoice_42 : decode cX3_firstChoice 42 = .ok (.iload 6, 2) := by decide +kernel
theorem dX3_firstChoice_44 : decode cX3_firstChoice 44 = .ok (.iload_n 1, 1) := by decide +kernel
theorem dX3_firstChoice_45 : decode cX3_firstChoice 45 = .ok (.iload_n 2, 1) := by decide +kernel
theorem dX3_firstChoice_46 : decode cX3_firstChoice 46 = .ok (.invokevirtual 117, 3) := by decide +kernel
theorem dX3_firstChoice_49 : decode cX3_firstChoice 49 = .ok (.ifCond .eq 65, 3) := by decide +kernel
theorem dX3_firstChoice_52 : decode cX3_firstChoice 52 = .ok (.aload_n 0, 1) := by decide +kernel
theorem dX3_firstChoice_53 : decode cX3_firstChoice 53 = .ok (.iload 6, 2) := by decide +kernel
theorem dX3_firstChoice_55 : decode cX3_firstChoice 55 = .ok (.iload_n 3, 1) := by decide +kernel
theorem dX3_firstChoice_56 : decode cX3_firstChoice 56 = .ok (.invokevirtual 128, 3) := by decide +kernel
theorem dX3_firstChoice_59 : decode cX3_firstChoice 59 = .ok (.ifCond .ne 55, 3) := by decide +kernel
theorem dX3_firstChoice_62 : decode cX3_firstChoice 62 = .ok (.aload_n 0, 1) := by decide +kernel
theorem dX3_firstChoice_63 : decode cX3_firstChoice 63 = .ok (.getfield 35, 3) := by decide +kernel
theorem dX3_firstChoice_66 : decode cX3_firstChoice 66 = .ok (.iload 7, 2) := by decide +kernel
theorem dX3_firstChoice_68 : decode cX3_firstChoice 68 = .ok (.iaload, 1) := by decide +kernel
theorem dX3_firstChoice_69 : decode cX3_firstChoice 69 = .ok (.iload 4, 2) := by decide +kernel
theorem dX3_firstChoice_71 : decode cX3_firstChoice 71 = .ok (.if_icmp .gt 43, 3) := by decide +kernel
theorem dX3_firstChoice_74 : decode cX3_firstChoice 74 = .ok (.aload_n 0, 1) := by decide +kernel
theorem dX3_firstChoice_75 : decode cX3_firstChoice 75 = .ok (.getfield 32, 3) := by decide +kernel
theorem dX3_firstChoice_78 : decode cX3_firstChoice 78 = .ok (.iload 7, 2) := by decide +kernel
theorem dX3_firstChoice_80 : decode cX3_firstChoice 80 = .ok (.iaload, 1) := by decide +kernel
theorem dX3_firstChoice_81 : decode cX3_firstChoice 81 = .ok (.aload_n 0, 1) := by decide +kernel
theorem dX3_firstChoice_82 : decode cX3_firstChoice 82 = .ok (.getfield 18, 3) := by decide +kernel
theorem dX3_firstChoice_85 : decode cX3_firstChoice 85 = .ok (.aload_n 0, 1) := by decide +kernel
theorem dX3_firstChoice_86 : decode cX3_firstChoice 86 = .ok (.iload 6, 2) := by decide +kernel
theorem dX3_firstChoice_88 : decode cX3_firstChoice 88 = .ok (.iload_n 1, 1) := by decide +kernel
theorem dX3_firstChoice_89 : decode cX3_firstChoice 89 = .ok (.iload_n 2, 1) := by decide +kernel
theorem dX3_firstChoice_90 : decode cX3_firstChoice 90 = .ok (.invokevirtual 125, 3) := by decide +kernel
theorem dX3_firstChoice_93 : decode cX3_firstChoice 93 = .ok (.iload 4, 2) := by decide +kernel
theorem dX3_firstChoice_95 : decode cX3_firstChoice 95 = .ok (.iadd, 1) := by decide +kernel
theorem dX3_firstChoice_96 : decode cX3_firstChoice 96 = .ok (.aload_n 0, 1) := by decide +kernel
theorem dX3_firstChoice_97 : decode cX3_firstChoice 97 = .ok (.getfield 35, 3) := by decide +kernel
theorem dX3_firstChoice_100 : decode cX3_firstChoice 100 = .ok (.iload 7, 2) := by decide +kernel
theorem dX3_firstChoice_102 : decode cX3_firstChoice 102 = .ok (.iaload, 1) := by decide +kernel
theorem dX3_firstChoice_103 : decode cX3_firstChoice 103 = .ok (.isub, 1) := by decide +kernel
theorem dX3_firstChoice_104 : decode cX3_firstChoice 104 = .ok (.iaload, 1) := by decide +kernel
theorem dX3_firstChoice_105 : decode cX3_firstChoice 105 = .ok (.iadd, 1) := by decide +kernel
theorem dX3_firstChoice_106 : decode cX3_firstChoice 106 = .ok (.iload 5, 2) := by decide +kernel
theorem dX3_firstChoice_108 : decode cX3_firstChoice 108 = .ok (.if_icmp .ne 6, 3) := by decide +kernel
theorem dX3_firstChoice_111 : decode cX3_firstChoice 111 = .ok (.iload 6, 2) := by decide +kernel
theorem dX3_firstChoice_113 : decode cX3_firstChoice 113 = .ok (.ireturn, 1) := by decide +kernel
theorem dX3_firstChoice_114 : decode cX3_firstChoice 114 = .ok (.iinc 6 1, 3) := by decide +kernel
theorem dX3_firstChoice_117 : decode cX3_firstChoice 117 = .ok (.goto (-97), 3) := by decide +kernel
theorem dX3_firstChoice_120 : decode cX3_firstChoice 120 = .ok (.iconst (-1), 1) := by decide +kernel
theorem dX3_firstChoice_121 : decode cX3_firstChoice 121 = .ok (.ireturn, 1) := by decide +kernel
set_option maxRecDepth 20000 in
theorem ggX3_dearestRent_X3_worthAround : GoodIn wsX3_dearestRent wsX3_worthAround := goodIn_r _ [15, 16, 1, 17, 18, 19, 20, 9, 21, 22, 23, 24, 14, 25, 26, 27, 28, 29, 30, 31, 32, 33, 34, 35, 36, 37, 38, 39, 40, 41, 42, 43, 7, 8, 10, 66, 67, 68, 69, 70, 71, 72, 73, 74, 75, 76, 77, 78, 79, 80, 81, 82, 83, 84, 85, 86, 87, 88, 89] (by decide +kernel) (by decide +kernel)
set_option maxRecDepth 20000 in
theorem gX3_dearestRent_X3_worthAround : GoodIn wsX3_dearestRent (wsV RX3 141 RX3 yX3_worthAround wsX3_worthAround) := goodIn_app (goodIn_of _ (by decide +kernel)) ggX3_dearestRent_X3_worthAround
set_option maxRecDepth 20000 in
theorem ggX3_dearestRent_X2_isInOneRow : GoodIn wsX3_dearestRent wsX2_isInOneRow := goodIn_r _ [47, 48, 49, 28, 29, 30, 31, 32, 33, 76, 77, 78, 79, 80, 81, 82, 83, 84, 85, 86, 87, 88, 89] (by decide +kernel) (by decide +kernel)
set_option maxRecDepth 20000 in
theorem gX3_dearestRent_X2_isInOneRow : GoodIn wsX3_dearestRent (wsV RX3 83 RX2 yX2_isInOneRow wsX2_isInOneRow) := goodIn_app (goodIn_of _ (by decide +kernel)) ggX3_dearestRent_X2_isInOneRow
set_option maxRecDepth 20000 in
theorem ggX3_dearestRent_X2_blockRent : GoodIn wsX3_dearestRent wsX2_blockRent := goodIn_r _ [53, 48, 32, 54, 8, 9, 10, 55, 76, 77, 78, 79, 80, 81, 82, 83, 84, 85, 86, 87, 88, 89] (by decide +kernel) (by decide +kernel)
set_option maxRecDepth 20000 in
theorem gX3_dearestRent_X2_blockRent : GoodIn wsX3_dearestRent (wsV RX3 89 RX2 yX2_blockRent wsX2_blockRent) := goodIn_app (goodIn_of _ (by decide +kernel)) ggX3_dearestRent_X2_blockRent
set_option maxRecDepth 20000 in
theorem ggX3_dearestRent_X2_coversFor : GoodIn wsX3_dearestRent wsX2_coversFor := goodIn_r _ [59, 60, 61, 62, 63, 30, 64, 48, 32, 54, 8, 9, 10, 65, 76, 77, 78, 79, 80, 81, 82, 83, 84, 85, 86, 87, 88, 89] (by decide +kernel) (by decide +kernel)
set_option maxRecDepth 20000 in
theorem gX3_dearestRent_X2_coversFor : GoodIn wsX3_dearestRent (wsV RX3 93 RX2 yX2_coversFor wsX2_coversFor) := goodIn_app (goodIn_of _ (by decide +kernel)) ggX3_dearestRent_X2_coversFor
theorem dX3_dearestRent_0 : decode cX3_dearestRent 0 = .ok (.aload_n 0, 1) := by decide +kernel
theorem dX3_dearestRent_1 : decode cX3_dearestRent 1 = .ok (.iload_n 1, 1) := by decide +kernel
theorem dX3_dearestRent_2 : decode cX3_dearestRent 2 = .ok (.iload_n 1, 1) := by decide +kernel
theorem dX3_dearestRent_3 : decode cX3_dearestRent 3 = .ok (.iconst 1, 1) := by decide +kernel
theorem dX3_dearestRent_4 : decode cX3_dearestRent 4 = .ok (.iadd, 1) := by decide +kernel
theorem dX3_dearestRent_5 : decode cX3_dearestRent 5 = .ok (.iconst (-1), 1) := by decide +kernel
theorem dX3_dearestRent_6 : decode cX3_dearestRent 6 = .ok (.aload_n 0, 1) := by decide +kernel
theorem dX3_dearestRent_7 : decode cX3_dearestRent 7 = .ok (.getfield 12, 3) := by decide +kernel
theorem dX3_dearestRent_10 : decode cX3_dearestRent 10 = .ok (.getfield 107, 3) := by decide +kernel
theorem dX3_dearestRent_13 : decode cX3_dearestRent 13 = .ok (.aload_n 2, 1) := by decide +kernel
theorem dX3_dearestRent_14 : decode cX3_dearestRent 14 = .ok (.invokevirtual 141, 3) := by decide +kernel
theorem dX3_dearestRent_17 : decode cX3_dearestRent 17 = .ok (.bipush 16, 2) := by decide +kernel
theorem dX3_dearestRent_19 : decode cX3_dearestRent 19 = .ok (.idiv, 1) := by decide +kernel
theorem dX3_dearestRent_20 : decode cX3_dearestRent 20 = .ok (.istore_n 3, 1) := by decide +kernel
theorem dX3_dearestRent_21 : decode cX3_dearestRent 21 = .ok (.iconst 1, 1) := by decide +kernel
theorem dX3_dearestRent_22 : decode cX3_dearestRent 22 = .ok (.istore 4, 2) := by decide +kernel
theorem dX3_dearestRent_24 : decode cX3_dearestRent 24 = .ok (.iconst 0, 1) := by decide +kernel
theorem dX3_dearestRent_25 : decode cX3_dearestRent 25 = .ok (.istore 5, 2) := by decide +kernel
theorem dX3_dearestRent_27 : decode cX3_dearestRent 27 = .ok (.iload 5, 2) := by decide +kernel
theorem dX3_dearestRent_29 : decode cX3_dearestRent 29 = .ok (.aload_n 0, 1) := by decide +kernel
theorem dX3_dearestRent_30 : decode cX3_dearestRent 30 = .ok (.getfield 12, 3) := by decide +kernel
theorem dX3_dearestRent_33 : decode cX3_dearestRent 33 = .ok (.getfield 51, 3) := by decide +kernel
theorem dX3_dearestRent_36 : decode cX3_dearestRent 36 = .ok (.if_icmp .ge 198, 3) := by decide +kernel
theorem dX3_dearestRent_39 : decode cX3_dearestRent 39 = .ok (.iload_n 1, 1) := by decide +kernel
theorem dX3_dearestRent_40 : decode cX3_dearestRent 40 = .ok (.aload_n 0, 1) := by decide +kernel
theorem dX3_dearestRent_41 : decode cX3_dearestRent 41 = .ok (.getfield 12, 3) := by decide +kernel
theorem dX3_dearestRent_44 : decode cX3_dearestRent 44 = .ok (.getfield 96, 3) := by decide +kernel
theorem dX3_dearestRent_47 : decode cX3_dearestRent 47 = .ok (.iload 5, 2) := by decide +kernel
theorem dX3_dearestRent_49 : decode cX3_dearestRent 49 = .ok (.iaload, 1) := by decide +kernel
theorem dX3_dearestRent_50 : decode cX3_dearestRent 50 = .ok (.isub, 1) := by decide +kernel
theorem dX3_dearestRent_51 : decode cX3_dearestRent 51 = .ok (.iconst 1, 1) := by decide +kernel
theorem dX3_dearestRent_52 : decode cX3_dearestRent 52 = .ok (.iadd, 1) := by decide +kernel
theorem dX3_dearestRent_53 : decode cX3_dearestRent 53 = .ok (.istore 6, 2) := by decide +kernel
theorem dX3_dearestRent_55 : decode cX3_dearestRent 55 = .ok (.iload 6, 2) := by decide +kernel
theorem dX3_dearestRent_57 : decode cX3_dearestRent 57 = .ok (.iload_n 1, 1) := by decide +kernel
theorem dX3_dearestRent_58 : decode cX3_dearestRent 58 = .ok (.if_icmp .gt 170, 3) := by decide +kernel
theorem dX3_dearestRent_61 : decode cX3_dearestRent 61 = .ok (.aload_n 0, 1) := by decide +kernel
theorem dX3_dearestRent_62 : decode cX3_dearestRent 62 = .ok (.getfield 12, 3) := by decide +kernel
theorem dX3_dearestRent_65 : decode cX3_dearestRent 65 = .ok (.iload 5, 2) := by decide +kernel
theorem dX3_dearestRent_67 : decode cX3_dearestRent 67 = .ok (.iload 6, 2) := by decide +kernel
theorem dX3_dearestRent_69 : decode cX3_dearestRent 69 = .ok (.invokevirtual 83, 3) := by decide +kernel
theorem dX3_dearestRent_72 : decode cX3_dearestRent 72 = .ok (.ifCond .ne 6, 3) := by decide +kernel
theorem dX3_dearestRent_75 : decode cX3_dearestRent 75 = .ok (.goto 147, 3) := by decide +kernel
theorem dX3_dearestRent_78 : decode cX3_dearestRent 78 = .ok (.aload_n 0, 1) := by decide +kernel
theorem dX3_dearestRent_79 : decode cX3_dearestRent 79 = .ok (.getfield 12, 3) := by decide +kernel
theorem dX3_dearestRent_82 : decode cX3_dearestRent 82 = .ok (.iload 5, 2) := by decide +kernel
theorem dX3_dearestRent_84 : decode cX3_dearestRent 84 = .ok (.iload 6, 2) := by decide +kernel
theorem dX3_dearestRent_86 : decode cX3_dearestRent 86 = .ok (.invokevirtual 89, 3) := by decide +kernel
theorem dX3_dearestRent_89 : decode cX3_dearestRent 89 = .ok (.aload_n 0, 1) := by decide +kernel
theorem dX3_dearestRent_90 : decode cX3_dearestRent 90 = .ok (.getfield 12, 3) := by decide +kernel
theorem dX3_dearestRent_93 : decode cX3_dearestRent 93 = .ok (.getfield 145, 3) := by decide +kernel
theorem dX3_dearestRent_96 : decode cX3_dearestRent 96 = .ok (.iload_n 1, 1) := by decide +kernel
theorem dX3_dearestRent_97 : decode cX3_dearestRent 97 = .ok (.iaload, 1) := by decide +kernel
theorem dX3_dearestRent_98 : decode cX3_dearestRent 98 = .ok (.isub, 1) := by decide +kernel
theorem dX3_dearestRent_99 : decode cX3_dearestRent 99 = .ok (.istore 7, 2) := by decide +kernel
theorem dX3_dearestRent_101 : decode cX3_dearestRent 101 = .ok (.aload_n 0, 1) := by decide +kernel
theorem dX3_dearestRent_102 : decode cX3_dearestRent 102 = .ok (.getfield 12, 3) := by decide +kernel
theorem dX3_dearestRent_105 : decode cX3_dearestRent 105 = .ok (.getfield 148, 3) := by decide +kernel
theorem dX3_dearestRent_108 : decode cX3_dearestRent 108 = .ok (.iload 5, 2) := by decide +kernel
theorem dX3_dearestRent_110 : decode cX3_dearestRent 110 = .ok (.iaload, 1) := by decide +kernel
theorem dX3_dearestRent_111 : decode cX3_dearestRent 111 = .ok (.iload 7, 2) := by decide +kernel
theorem dX3_dearestRent_113 : decode cX3_dearestRent 113 = .ok (.isub, 1) := by decide +kernel
theorem dX3_dearestRent_114 : decode cX3_dearestRent 114 = .ok (.sipush 999, 3) := by decide +kernel
theorem dX3_dearestRent_117 : decode cX3_dearestRent 117 = .ok (.invokestatic 110, 3) := by decide +kernel
theorem dX3_dearestRent_120 : decode cX3_dearestRent 120 = .ok (.istore 8, 2) := by decide +kernel
theorem dX3_dearestRent_122 : decode cX3_dearestRent 122 = .ok (.aload_n 0, 1) := by decide +kernel
theorem dX3_dearestRent_123 : decode cX3_dearestRent 123 = .ok (.getfield 12, 3) := by decide +kernel
theorem dX3_dearestRent_126 : decode cX3_dearestRent 126 = .ok (.getfield 107, 3) := by decide +kernel
theorem dX3_dearestRent_129 : decode cX3_dearestRent 129 = .ok (.aload_n 0, 1) := by decide +kernel
theorem dX3_dearestRent_130 : decode cX3_dearestRent 130 = .ok (.getfield 12, 3) := by decide +kernel
theorem dX3_dearestRent_133 : decode cX3_dearestRent 133 = .ok (.iload 5, 2) := by decide +kernel
theorem dX3_dearestRent_135 : decode cX3_dearestRent 135 = .ok (.iload 6, 2) := by decide +kernel
theorem dX3_dearestRent_137 : decode cX3_dearestRent 137 = .ok (.invokevirtual 93, 3) := by decide +kernel
theorem dX3_dearestRent_140 : decode cX3_dearestRent 140 = .ok (.isub, 1) := by decide +kernel
theorem dX3_dearestRent_141 : decode cX3_dearestRent 141 = .ok (.istore 9, 2) := by decide +kernel
theorem dX3_dearestRent_143 : decode cX3_dearestRent 143 = .ok (.iload 8, 2) := by decide +kernel
theorem dX3_dearestRent_145 : decode cX3_dearestRent 145 = .ok (.iconst 1, 1) := by decide +kernel
theorem dX3_dearestRent_146 : decode cX3_dearestRent 146 = .ok (.if_icmp .lt 76, 3) := by decide +kernel
theorem dX3_dearestRent_149 : decode cX3_dearestRent 149 = .ok (.iload 9, 2) := by decide +kernel
theorem dX3_dearestRent_151 : decode cX3_dearestRent 151 = .ok (.ifCond .ge 6, 3) := by decide +kernel
theorem dX3_dearestRent_154 : decode cX3_dearestRent 154 = .ok (.goto 68, 3) := by decide +kernel
theorem dX3_dearestRent_157 : decode cX3_dearestRent 157 = .ok (.iload 6, 2) := by decide +kernel
theorem dX3_dearestRent_159 : decode cX3_dearestRent 159 = .ok (.aload_n 0, 1) := by decide +kernel
theorem dX3_dearestRent_160 : decode cX3_dearestRent 160 = .ok (.getfield 12, 3) := by decide +kernel
theorem dX3_dearestRent_163 : decode cX3_dearestRent 163 = .ok (.getfield 96, 3) := by decide +kernel
theorem dX3_dearestRent_166 : decode cX3_dearestRent 166 = .ok (.iload 5, 2) := by decide +kernel
theorem dX3_dearestRent_168 : decode cX3_dearestRent 168 = .ok (.iaload, 1) := by decide +kernel
theorem dX3_dearestRent_169 : decode cX3_dearestRent 169 = .ok (.iadd, 1) := by decide +kernel
theorem dX3_dearestRent_170 : decode cX3_dearestRent 170 = .ok (.istore 10, 2) := by decide +kernel
theorem dX3_dearestRent_172 : decode cX3_dearestRent 172 = .ok (.aload_n 0, 1) := by decide +kernel
theorem dX3_dearestRent_173 : decode cX3_dearestRent 173 = .ok (.iload 6, 2) := by decide +kernel
theorem dX3_dearestRent_175 : decode cX3_dearestRent 175 = .ok (.iload 10, 2) := by decide +kernel
theorem dX3_dearestRent_177 : decode cX3_dearestRent 177 = .ok (.iload 5, 2) := by decide +kernel
theorem dX3_dearestRent_179 : decode cX3_dearestRent 179 = .ok (.iload 9, 2) := by decide +kernel
theorem dX3_dearestRent_181 : decode cX3_dearestRent 181 = .ok (.aload_n 2, 1) := by decide +kernel
theorem dX3_dearestRent_182 : decode cX3_dearestRent 182 = .ok (.invokevirtual 141, 3) := by decide +kernel
theorem dX3_dearestRent_185 : decode cX3_dearestRent 185 = .ok (.bipush 16, 2) := by decide +kernel
theorem dX3_dearestRent_187 : decode cX3_dearestRent 187 = .ok (.idiv, 1) := by decide +kernel
theorem dX3_dearestRent_188 : decode cX3_dearestRent 188 = .ok (.iload 7, 2) := by decide +kernel
theorem dX3_dearestRent_190 : decode cX3_dearestRent 190 = .ok (.iadd, 1) := by decide +kernel
theorem dX3_dearestRent_191 : decode cX3_dearestRent 191 = .ok (.iload 8, 2) := by decide +kernel
theorem dX3_dearestRent_193 : decode cX3_dearestRent 193 = .ok (.iadd, 1) := by decide +kernel
theorem dX3_dearestRent_194 : decode cX3_dearestRent 194 = .ok (.istore 11, 2) := by decide +kernel
theorem dX3_dearestRent_196 : decode cX3_dearestRent 196 = .ok (.iload 11, 2) := by decide +kernel
theorem dX3_dearestRent_198 : decode cX3_dearestRent 198 = .ok (.iload_n 3, 1) := by decide +kernel
theorem dX3_dearestRent_199 : decode cX3_dearestRent 199 = .ok (.if_icmp .gt 16, 3) := by decide +kernel
theorem dX3_dearestRent_202 : decode cX3_dearestRent 202 = .ok (.iload 11, 2) := by decide +kernel
theorem dX3_dearestRent_204 : decode cX3_dearestRent 204 = .ok (.iload_n 3, 1) := by decide +kernel
theorem dX3_dearestRent_205 : decode cX3_dearestRent 205 = .ok (.if_icmp .ne 17, 3) := by decide +kernel
theorem dX3_dearestRent_208 : decode cX3_dearestRent 208 = .ok (.iload 8, 2) := by decide +kernel
theorem dX3_dearestRent_210 : decode cX3_dearestRent 210 = .ok (.iload 4, 2) := by decide +kernel
theorem dX3_dearestRent_212 : decode cX3_dearestRent 212 = .ok (.if_icmp .ge 10, 3) := by decide +kernel
theorem dX3_dearestRent_215 : decode cX3_dearestRent 215 = .ok (.iload 11, 2) := by decide +kernel
theorem dX3_dearestRent_217 : decode cX3_dearestRent 217 = .ok (.istore_n 3, 1) := by decide +kernel
theorem dX3_dearestRent_218 : decode cX3_dearestRent 218 = .ok (.iload 8, 2) := by decide +kernel
theorem dX3_dearestRent_220 : decode cX3_dearestRent 220 = .ok (.istore 4, 2) := by decide +kernel
theorem dX3_dearestRent_222 : decode cX3_dearestRent 222 = .ok (.iinc 6 1, 3) := by decide +kernel
theorem dX3_dearestRent_225 : decode cX3_dearestRent 225 = .ok (.goto (-170), 3) := by decide +kernel
theorem dX3_dearestRent_228 : decode cX3_dearestRent 228 = .ok (.iinc 5 1, 3) := by decide +kernel
theorem dX3_dearestRent_231 : decode cX3_dearestRent 231 = .ok (.goto (-204), 3) := by decide +kernel
theorem dX3_dearestRent_234 : decode cX3_dearestRent 234 = .ok (.iload 4, 2) := by decide +kernel
theorem dX3_dearestRent_236 : decode cX3_dearestRent 236 = .ok (.ireturn, 1) := by decide +kernel
set_option maxRecDepth 20000 in
theorem ggX3_worthAround_X3_kindBeside : GoodIn wsX3_worthAround wsX3_kindBeside := goodIn_r _ [13, 2, 14, 15, 16, 17, 18, 19, 20, 21, 35, 36, 37, 38, 39, 40, 41, 42, 43, 44, 45, 46, 47, 48, 49, 50, 51, 52, 53, 54, 55, 56, 57, 58] (by decide +kernel) (by decide +kernel)
set_option maxRecDepth 20000 in
theorem gX3_worthAround_X3_kindBeside : GoodIn wsX3_worthAround (wsV RX3 99 RX3 yX3_kindBeside wsX3_kindBeside) := goodIn_app (goodIn_of _ (by decide +kernel)) ggX3_worthAround_X3_kindBeside
set_option maxRecDepth 20000 in
theorem ggX3_worthAround_X3_cell : GoodIn wsX3_worthAround wsX3_cell := goodIn_r _ [25, 1, 26, 27, 35, 36, 37, 38, 39, 40, 41, 42, 43, 44] (by decide +kernel) (by decide +kernel)
set_option maxRecDepth 20000 in
theorem gX3_worthAround_X3_cell : GoodIn wsX3_worthAround (wsV RX3 67 RX3 yX3_cell wsX3_cell) := goodIn_app (goodIn_of _ (by decide +kernel)) ggX3_worthAround_X3_cell
set_option maxRecDepth 20000 in
theorem ggX3_worthAround_X3_level : GoodIn wsX3_worthAround wsX3_level := goodIn_r _ [31, 27, 32, 33, 7, 34, 35, 36, 37, 38, 39, 40, 41, 42, 43, 44] (by decide +kernel) (by decide +kernel)
set_option maxRecDepth 20000 in
theorem gX3_worthAround_X3_level : GoodIn wsX3_worthAround (wsV RX3 131 RX3 yX3_level wsX3_level) := goodIn_app (goodIn_of _ (by decide +kernel)) ggX3_worthAround_X3_level
theorem dX3_worthAround_0 : decode cX3_worthAround 0 = .ok (.iload_n 3, 1) := by decide +kernel
theorem dX3_worthAround_1 : decode cX3_worthAround 1 = .ok (.iconst (-1), 1) := by decide +kernel
theorem dX3_worthAround_2 : decode cX3_worthAround 2 = .ok (.if_icmp .ne 7, 3) := by decide +kernel
theorem dX3_worthAround_5 : decode cX3_worthAround 5 = .ok (.iconst 0, 1) := by decide +kernel
theorem dX3_worthAround_6 : decode cX3_worthAround 6 = .ok (.goto 6, 3) := by decide +kernel
theorem dX3_worthAround_9 : decode cX3_worthAround 9 = .ok (.iconst 1, 1) := by decide +kernel
theorem dX3_worthAround_10 : decode cX3_worthAround 10 = .ok (.iload_n 3, 1) := by decide +kernel
theorem dX3_worthAround_11 : decode cX3_worthAround 11 = .ok (.ishl, 1) := by decide +kernel
theorem dX3_worthAround_12 : decode cX3_worthAround 12 = .ok (.istore 6, 2) := by decide +kernel
theorem dX3_worthAround_14 : decode cX3_worthAround 14 = .ok (.iload_n 3, 1) := by decide +kernel
theorem dX3_worthAround_15 : decode cX3_worthAround 15 = .ok (.iconst (-1), 1) := by decide +kernel
theorem dX3_worthAround_16 : decode cX3_worthAround 16 = .ok (.if_icmp .ne 7, 3) := by decide +kernel
theorem dX3_worthAround_19 : decode cX3_worthAround 19 = .ok (.iconst 0, 1) := by decide +kernel
theorem dX3_worthAround_20 : decode cX3_worthAround 20 = .ok (.goto 12, 3) := by decide +kernel
theorem dX3_worthAround_23 : decode cX3_worthAround 23 = .ok (.aload_n 0, 1) := by decide +kernel
theorem dX3_worthAround_24 : decode cX3_worthAround 24 = .ok (.iload_n 3, 1) := by decide +kernel
theorem dX3_worthAround_25 : decode cX3_worthAround 25 = .ok (.iload_n 1, 1) := by decide +kernel
theorem dX3_worthAround_26 : decode cX3_worthAround 26 = .ok (.iconst 1, 1) := by decide +kernel
theorem dX3_worthAround_27 : decode cX3_worthAround 27 = .ok (.isub, 1) := by decide +kernel
theorem dX3_worthAround_28 : decode cX3_worthAround 28 = .ok (.iload_n 1, 1) := by decide +kernel
theorem dX3_worthAround_29 : decode cX3_worthAround 29 = .ok (.invokevirtual 99, 3) := by decide +kernel
theorem dX3_worthAround_32 : decode cX3_worthAround 32 = .ok (.istore 7, 2) := by decide +kernel
theorem dX3_worthAround_34 : decode cX3_worthAround 34 = .ok (.iload_n 3, 1) := by decide +kernel
theorem dX3_worthAround_35 : decode cX3_worthAround 35 = .ok (.iconst (-1), 1) := by decide +kernel
theorem dX3_worthAround_36 : decode cX3_worthAround 36 = .ok (.if_icmp .ne 7, 3) := by decide +kernel
theorem dX3_worthAround_39 : decode cX3_worthAround 39 = .ok (.iconst 0, 1) := by decide +kernel
theorem dX3_worthAround_40 : decode cX3_worthAround 40 = .ok (.goto 12, 3) := by decide +kernel
theorem dX3_worthAround_43 : decode cX3_worthAround 43 = .ok (.aload_n 0, 1) := by decide +kernel
theorem dX3_worthAround_44 : decode cX3_worthAround 44 = .ok (.iload_n 3, 1) := by decide +kernel
theorem dX3_worthAround_45 : decode cX3_worthAround 45 = .ok (.iload_n 2, 1) := by decide +kernel
theorem dX3_worthAround_46 : decode cX3_worthAround 46 = .ok (.iconst 1, 1) := by decide +kernel
theorem dX3_worthAround_47 : decode cX3_worthAround 47 = .ok (.isub, 1) := by decide +kernel
theorem dX3_worthAround_48 : decode cX3_worthAround 48 = .ok (.iload_n 2, 1) := by decide +kernel
theorem dX3_worthAround_49 : decode cX3_worthAround 49 = .ok (.invokevirtual 99, 3) := by decide +kernel
theorem dX3_worthAround_52 : decode cX3_worthAround 52 = .ok (.istore 8, 2) := by decide +kernel
theorem dX3_worthAround_54 : decode cX3_worthAround 54 = .ok (.iconst 0, 1) := by decide +kernel
theorem dX3_worthAround_55 : decode cX3_worthAround 55 = .ok (.istore 9, 2) := by decide +kernel
theorem dX3_worthAround_57 : decode cX3_worthAround 57 = .ok (.iconst 0, 1) := by decide +kernel
theorem dX3_worthAround_58 : decode cX3_worthAround 58 = .ok (.istore 10, 2) := by decide +kernel
theorem dX3_worthAround_60 : decode cX3_worthAround 60 = .ok (.iload 10, 2) := by decide +kernel
theorem dX3_worthAround_62 : decode cX3_worthAround 62 = .ok (.aload_n 0, 1) := by decide +kernel
theorem dX3_worthAround_63 : decode cX3_worthAround 63 = .ok (.getfield 22, 3) := by decide +kernel
theorem dX3_worthAround_66 : decode cX3_worthAround 66 = .ok (.if_icmp .ge 122, 3) := by decide +kernel
theorem dX3_worthAround_69 : decode cX3_worthAround 69 = .ok (.iload 10, 2) := by decide +kernel
theorem dX3_worthAround_71 : decode cX3_worthAround 71 = .ok (.iload 6, 2) := by decide +kernel
theorem dX3_worthAround_73 : decode cX3_worthAround 73 = .ok (.iand, 1) := by decide +kernel
theorem dX3_worthAround_74 : decode cX3_worthAround 74 = .ok (.ifCond .eq 6, 3) := by decide +kernel
theorem dX3_worthAround_77 : decode cX3_worthAround 77 = .ok (.goto 105, 3) := by decide +kernel
theorem dX3_worthAround_80 : decode cX3_worthAround 80 = .ok (.aload 5, 2) := by decide +kernel
theorem dX3_worthAround_82 : decode cX3_worthAround 82 = .ok (.aload_n 0, 1) := by decide +kernel
theorem dX3_worthAround_83 : decode cX3_worthAround 83 = .ok (.getfield 12, 3) := by decide +kernel
theorem dX3_worthAround_86 : decode cX3_worthAround 86 = .ok (.getfield 60, 3) := by decide +kernel
theorem dX3_worthAround_89 : decode cX3_worthAround 89 = .ok (.iload_n 1, 1) := by decide +kernel
theorem dX3_worthAround_90 : decode cX3_worthAround 90 = .ok (.isub, 1) := by decide +kernel
theorem dX3_worthAround_91 : decode cX3_worthAround 91 = .ok (.aload_n 0, 1) := by decide +kernel
theorem dX3_worthAround_92 : decode cX3_worthAround 92 = .ok (.getfield 22, 3) := by decide +kernel
theorem dX3_worthAround_95 : decode cX3_worthAround 95 = .ok (.iconst 1, 1) := by decide +kernel
theorem dX3_worthAround_96 : decode cX3_worthAround 96 = .ok (.isub, 1) := by decide +kernel
theorem dX3_worthAround_97 : decode cX3_worthAround 97 = .ok (.iload 10, 2) := by decide +kernel
theorem dX3_worthAround_99 : decode cX3_worthAround 99 = .ok (.isub, 1) := by decide +kernel
theorem dX3_worthAround_100 : decode cX3_worthAround 100 = .ok (.iload 7, 2) := by decide +kernel
theorem dX3_worthAround_102 : decode cX3_worthAround 102 = .ok (.invokevirtual 67, 3) := by decide +kernel
theorem dX3_worthAround_105 : decode cX3_worthAround 105 = .ok (.istore 11, 2) := by decide +kernel
theorem dX3_worthAround_107 : decode cX3_worthAround 107 = .ok (.aload_n 0, 1) := by decide +kernel
theorem dX3_worthAround_108 : decode cX3_worthAround 108 = .ok (.iload_n 2, 1) := by decide +kernel
theorem dX3_worthAround_109 : decode cX3_worthAround 109 = .ok (.iload 10, 2) := by decide +kernel
theorem dX3_worthAround_111 : decode cX3_worthAround 111 = .ok (.iload 6, 2) := by decide +kernel
theorem dX3_worthAround_113 : decode cX3_worthAround 113 = .ok (.ior, 1) := by decide +kernel
theorem dX3_worthAround_114 : decode cX3_worthAround 114 = .ok (.iload 8, 2) := by decide +kernel
theorem dX3_worthAround_116 : decode cX3_worthAround 116 = .ok (.invokevirtual 67, 3) := by decide +kernel
theorem dX3_worthAround_119 : decode cX3_worthAround 119 = .ok (.istore 12, 2) := by decide +kernel
theorem dX3_worthAround_121 : decode cX3_worthAround 121 = .ok (.iconst 0, 1) := by decide +kernel
theorem dX3_worthAround_122 : decode cX3_worthAround 122 = .ok (.istore 13, 2) := by decide +kernel
theorem dX3_worthAround_124 : decode cX3_worthAround 124 = .ok (.iload 13, 2) := by decide +kernel
theorem dX3_worthAround_126 : decode cX3_worthAround 126 = .ok (.iload 4, 2) := by decide +kernel
theorem dX3_worthAround_128 : decode cX3_worthAround 128 = .ok (.if_icmp .gt 54, 3) := by decide +kernel
theorem dX3_worthAround_131 : decode cX3_worthAround 131 = .ok (.aload 5, 2) := by decide +kernel
theorem dX3_worthAround_133 : decode cX3_worthAround 133 = .ok (.getfield 18, 3) := by decide +kernel
theorem dX3_worthAround_136 : decode cX3_worthAround 136 = .ok (.iload 11, 2) := by decide +kernel
theorem dX3_worthAround_138 : decode cX3_worthAround 138 = .ok (.aload 5, 2) := by decide +kernel
theorem dX3_worthAround_140 : decode cX3_worthAround 140 = .ok (.iload 13, 2) := by decide +kernel
theorem dX3_worthAround_142 : decode cX3_worthAround 142 = .ok (.invokevirtual 131, 3) := by decide +kernel
theorem dX3_worthAround_145 : decode cX3_worthAround 145 = .ok (.iadd, 1) := by decide +kernel
theorem dX3_worthAround_146 : decode cX3_worthAround 146 = .ok (.iaload, 1) := by decide +kernel
theorem dX3_worthAround_147 : decode cX3_worthAround 147 = .ok (.aload_n 0, 1) := by decide +kernel
theorem dX3_worthAround_148 : decode cX3_worthAround 148 = .ok (.getfield 18, 3) := by decide +kernel
theorem dX3_worthAround_151 : decode cX3_worthAround 151 = .ok (.iload 12, 2) := by decide +kernel
theorem dX3_worthAround_153 : decode cX3_worthAround 153 = .ok (.aload_n 0, 1) := by decide +kernel
theorem dX3_worthAround_154 : decode cX3_worthAround 154 = .ok (.iload 4, 2) := by decide +kernel
theorem dX3_worthAround_156 : decode cX3_worthAround 156 = .ok (.iload 13, 2) := by decide +kernel
theorem dX3_worthAround_158 : decode cX3_worthAround 158 = .ok (.isub, 1) := by decide +kernel
theorem dX3_worthAround_159 : decode cX3_worthAround 159 = .ok (.invokevirtual 131, 3) := by decide +kernel
theorem dX3_worthAround_162 : decode cX3_worthAround 162 = .ok (.iadd, 1) := by decide +kernel
theorem dX3_worthAround_163 : decode cX3_worthAround 163 = .ok (.iaload, 1) := by decide +kernel
theorem dX3_worthAround_164 : decode cX3_worthAround 164 = .ok (.iadd, 1) := by decide +kernel
theorem dX3_worthAround_165 : decode cX3_worthAround 165 = .ok (.istore 14, 2) := by decide +kernel
theorem dX3_worthAround_167 : decode cX3_worthAround 167 = .ok (.iload 9, 2) := by decide +kernel
theorem dX3_worthAround_169 : decode cX3_worthAround 169 = .ok (.iload 14, 2) := by decide +kernel
theorem dX3_worthAround_171 : decode cX3_worthAround 171 = .ok (.invokestatic 102, 3) := by decide +kernel
theorem dX3_worthAround_174 : decode cX3_worthAround 174 = .ok (.istore 9, 2) := by decide +kernel
theorem dX3_worthAround_176 : decode cX3_worthAround 176 = .ok (.iinc 13 1, 3) := by decide +kernel
theorem dX3_worthAround_179 : decode cX3_worthAround 179 = .ok (.goto (-55), 3) := by decide +kernel
theorem dX3_worthAround_182 : decode cX3_worthAround 182 = .ok (.iinc 10 1, 3) := by decide +kernel
theorem dX3_worthAround_185 : decode cX3_worthAround 185 = .ok (.goto (-125), 3) := by decide +kernel
theorem dX3_worthAround_188 : decode cX3_worthAround 188 = .ok (.iload 9, 2) := by decide +kernel
theorem dX3_worthAround_190 : decode cX3_worthAround 190 = .ok (.ireturn, 1) := by decide +kernel
theorem dX4_init_0 : decode cX4_init 0 = .ok (.aload_n 0, 1) := by decide +kernel
theorem dX4_init_1 : decode cX4_init 1 = .ok (.invokespecial 3, 3) := by decide +kernel
theorem dX4_init_4 : decode cX4_init 4 = .ok (.aload_n 0, 1) := by decide +kernel
theorem dX4_init_5 : decode cX4_init 5 = .ok (.iconst 0, 1) := by decide +kernel
theorem dX4_init_6 : decode cX4_init 6 = .ok (.newarray .int, 2) := by decide +kernel
theorem dX4_init_8 : decode cX4_init 8 = .ok (.putfield 9, 3) := by decide +kernel
theorem dX4_init_11 : decode cX4_init 11 = .ok (.aload_n 0, 1) := by decide +kernel
theorem dX4_init_12 : decode cX4_init 12 = .ok (.iconst 0, 1) := by decide +kernel
theorem dX4_init_13 : decode cX4_init 13 = .ok (.putfield 15, 3) := by decide +kernel
theorem dX4_init_16 : decode cX4_init 16 = .ok (.aload_n 0, 1) := by decide +kernel
theorem dX4_init_17 : decode cX4_init 17 = .ok (.iconst 0, 1) := by decide +kernel
theorem dX4_init_18 : decode cX4_init 18 = .ok (.putfield 19, 3) := by decide +kernel
theorem dX4_init_21 : decode cX4_init 21 = .ok (.aload_n 0, 1) := by decide +kernel
theorem dX4_init_22 : decode cX4_init 22 = .ok (.iconst 0, 1) := by decide +kernel
theorem dX4_init_23 : decode cX4_init 23 = .ok (.putfield 22, 3) := by decide +kernel
theorem dX4_init_26 : decode cX4_init 26 = .ok (.aload_n 0, 1) := by decide +kernel
theorem dX4_init_27 : decode cX4_init 27 = .ok (.iconst 0, 1) := by decide +kernel
theorem dX4_init_28 : decode cX4_init 28 = .ok (.putfield 25, 3) := by decide +kernel
theorem dX4_init_31 : decode cX4_init 31 = .ok (.aload_n 0, 1) := by decide +kernel
theorem dX4_init_32 : decode cX4_init 32 = .ok (.iconst (-1), 1) := by decide +kernel
theorem dX4_init_33 : decode cX4_init 33 = .ok (.putfield 28, 3) := by decide +kernel
theorem dX4_init_36 : decode cX4_init 36 = .ok (.return_, 1) := by decide +kernel
set_option maxRecDepth 20000 in
theorem ggX4_read_X2_wipe : GoodIn wsX4_read wsX2_wipe := goodIn_r _ [15, 16, 17, 18, 19, 20, 21, 22, 14, 23, 24, 25, 26, 27, 28, 29, 30, 31, 32, 33, 34, 35, 36, 37, 38, 39, 3, 4, 5, 40, 41, 42, 43, 44, 45, 46, 47, 48, 49, 50, 185, 186, 187, 188, 189, 190, 191, 192, 193, 194, 195, 196, 197, 198] (by decide +kernel) (by decide +kernel)
set_option maxRecDepth 20000 in
theorem gX4_read_X2_wipe : GoodIn wsX4_read (wsV RX4 37 RX2 yX2_wipe wsX2_wipe) := goodIn_app (goodIn_of _ (by decide +kernel)) ggX4_read_X2_wipe
set_option maxRecDepth 20000 in
theorem ggX4_read_X4_skipSpaces : GoodIn wsX4_read wsX4_skipSpaces := goodIn_r _ [55, 7, 6, 1, 179, 180, 181, 182, 183, 184] (by decide +kernel) (by decide +kernel)
set_option maxRecDepth 20000 in
theorem gX4_read_X4_skipSpaces : GoodIn wsX4_read (wsV RX4 42 RX4 yX4_skipSpaces wsX4_skipSpaces) := goodIn_app (goodIn_of _ (by decide +kernel)) ggX4_read_X4_skipSpaces
set_option maxRecDepth 20000 in
theorem ggX4_read_X4_readStatement : GoodIn wsX4_read wsX4_readStatement := goodIn_r _ [59, 7, 60, 61, 62, 63, 54, 64, 9, 6, 1, 51, 52, 53, 55, 65, 66, 67, 68, 69, 70, 71, 72, 73, 74, 75, 76, 77, 78, 79, 80, 81, 82, 83, 84, 85, 86, 87, 88, 89, 90, 91, 92, 93, 94, 95, 96, 97, 98, 99, 100, 101, 102, 103, 104, 105, 106, 107, 108, 109, 110, 111, 112, 113, 114, 115, 116, 117, 118, 119, 120, 121, 8, 122, 123, 124, 125, 10, 126, 127, 128, 129, 130, 131, 132, 133, 134, 2, 3, 4, 5, 135, 136, 137, 138, 139, 140, 141, 142, 143, 144, 145, 146, 147, 148, 14, 149, 16, 150, 151, 50, 152, 153, 154, 155, 156, 157, 158, 159, 160, 161, 162, 163, 164, 17, 165, 29, 166, 45, 167, 168, 169, 170, 171, 172, 173, 174, 19, 175, 176, 177, 178, 179, 180, 181, 182, 183, 184, 185, 186, 187, 188, 189, 190, 191, 192, 193, 194, 195, 196, 197, 198] (by decide +kernel) (by decide +kernel)
set_option maxRecDepth 20000 in
theorem gX4_read_X4_readStatement : GoodIn wsX4_read (wsV RX4 45 RX4 yX4_readStatement wsX4_readStatement) := goodIn_app (goodIn_of _ (by decide +kernel)) ggX4_read_X4_readStatement
theorem dX4_read_0 : decode cX4_read 0 = .ok (.aload_n 0, 1) := by decide +kernel
theorem dX4_read_1 : decode cX4_read 1 = .ok (.aload_n 1, 1) := by decide +kernel
theorem dX4_read_2 : decode cX4_read 2 = .ok (.putfield 9, 3) := by decide +kernel
theorem dX4_read_5 : decode cX4_read 5 = .ok (.aload_n 0, 1) := by decide +kernel
theorem dX4_read_6 : decode cX4_read 6 = .ok (.iload_n 2, 1) := by decide +kernel
theorem dX4_read_7 : decode cX4_read 7 = .ok (.aload_n 1, 1) := by decide +kernel
theorem dX4_read_8 : decode cX4_read 8 = .ok (.arraylength, 1) := by decide +kernel
theorem dX4_read_9 : decode cX4_read 9 = .ok (.invokestatic 31, 3) := by decide +kernel
theorem dX4_read_12 : decode cX4_read 12 = .ok (.putfield 15, 3) := by decide +kernel
theorem dX4_read_15 : decode cX4_read 15 = .ok (.aload_n 0, 1) := by decide +kernel
theorem dX4_read_16 : decode cX4_read 16 = .ok (.iconst 0, 1) := by decide +kernel
theorem dX4_read_17 : decode cX4_read 17 = .ok (.putfield 19, 3) := by decide +kernel
theorem dX4_read_20 : decode cX4_read 20 = .ok (.aload_n 0, 1) := by decide +kernel
theorem dX4_read_21 : decode cX4_read 21 = .ok (.iconst 0, 1) := by decide +kernel
theorem dX4_read_22 : decode cX4_read 22 = .ok (.putfield 22, 3) := by decide +kernel
theorem dX4_read_25 : decode cX4_read 25 = .ok (.aload_n 0, 1) := by decide +kernel
theorem dX4_read_26 : decode cX4_read 26 = .ok (.iconst 0, 1) := by decide +kernel
theorem dX4_read_27 : decode cX4_read 27 = .ok (.putfield 25, 3) := by decide +kernel
theorem dX4_read_30 : decode cX4_read 30 = .ok (.aload_n 0, 1) := by decide +kernel
theorem dX4_read_31 : decode cX4_read 31 = .ok (.iconst (-1), 1) := by decide +kernel
theorem dX4_read_32 : decode cX4_read 32 = .ok (.putfield 28, 3) := by decide +kernel
theorem dX4_read_35 : decode cX4_read 35 = .ok (.aload_n 3, 1) := by decide +kernel
theorem dX4_read_36 : decode cX4_read 36 = .ok (.invokevirtual 37, 3) := by decide +kernel
theorem dX4_read_39 : decode cX4_read 39 = .ok (.iconst 0, 1) := by decide +kernel
theorem dX4_read_40 : decode cX4_read 40 = .ok (.istore 4, 2) := by decide +kernel
theorem dX4_read_42 : decode cX4_read 42 = .ok (.iload 4, 2) := by decide +kernel
theorem dX4_read_44 : decode cX4_read 44 = .ok (.sipush 600, 3) := by decide +kernel
theorem dX4_read_47 : decode cX4_read 47 = .ok (.if_icmp .gt 44, 3) := by decide +kernel
theorem dX4_read_50 : decode cX4_read 50 = .ok (.aload_n 0, 1) := by decide +kernel
theorem dX4_read_51 : decode cX4_read 51 = .ok (.invokevirtual 42, 3) := by decide +kernel
theorem dX4_read_54 : decode cX4_read 54 = .ok (.aload_n 0, 1) := by decide +kernel
theorem dX4_read_55 : decode cX4_read 55 = .ok (.getfield 19, 3) := by decide +kernel
theorem dX4_read_58 : decode cX4_read 58 = .ok (.aload_n 0, 1) := by decide +kernel
theorem dX4_read_59 : decode cX4_read 59 = .ok (.getfield 15, 3) := by decide +kernel
theorem dX4_read_62 : decode cX4_read 62 = .ok (.if_icmp .lt 6, 3) := by decide +kernel
theorem dX4_read_65 : decode cX4_read 65 = .ok (.iload 4, 2) := by decide +kernel
theorem dX4_read_67 : decode cX4_read 67 = .ok (.ireturn, 1) := by decide +kernel
theorem dX4_read_68 : decode cX4_read 68 = .ok (.aload_n 0, 1) := by decide +kernel
theorem dX4_read_69 : decode cX4_read 69 = .ok (.aload_n 3, 1) := by decide +kernel
theorem dX4_read_70 : decode cX4_read 70 = .ok (.invokevirtual 45, 3) := by decide +kernel
theorem dX4_read_73 : decode cX4_read 73 = .ok (.aload_n 0, 1) := by decide +kernel
theorem dX4_read_74 : decode cX4_read 74 = .ok (.getfield 25, 3) := by decide +kernel
theorem dX4_read_77 : decode cX4_read 77 = .ok (.ifCond .eq 8, 3) := by decide +kernel
theorem dX4_read_80 : decode cX4_read 80 = .ok (.aload_n 0, 1) := by decide +kernel
theorem dX4_read_81 : decode cX4_read 81 = .ok (.getfield 25, 3) := by decide +kernel
theorem dX4_read_84 : decode cX4_read 84 = .ok (.ireturn, 1) := by decide +kernel
theorem dX4_read_85 : decode cX4_read 85 = .ok (.iinc 4 1, 3) := by decide +kernel
theorem dX4_read_88 : decode cX4_read 88 = .ok (.goto (-46), 3) := by decide +kernel
theorem dX4_read_91 : decode cX4_read 91 = .ok (.bipush (-2), 2) := by decide +kernel
theorem dX4_read_93 : decode cX4_read 93 = .ok (.ireturn, 1) := by decide +kernel
set_option maxRecDepth 20000 in
theorem ggX4_readStatement_X4_takesWord : GoodIn wsX4_readStatement wsX4_takesWord := goodIn_r _ [7, 8, 1, 9, 10, 11, 12, 13, 6, 14, 15, 16, 17, 18, 19, 20, 21, 22, 23, 24, 25, 26, 27, 28, 29, 30, 31, 32, 33, 34, 35, 36, 37, 38, 39, 40, 41, 42, 43, 44, 45, 46, 47, 48, 49, 50, 51, 52, 53, 54, 55, 56, 57, 58, 59, 60, 61, 62, 63, 64, 65, 66, 67, 142, 143, 144, 145, 146, 147] (by decide +kernel) (by decide +kernel)
set_option maxRecDepth 20000 in
theorem gX4_readStatement_X4_takesWord : GoodIn wsX4_readStatement (wsV RX4 51 RX4 yX4_takesWord wsX4_takesWord) := goodIn_app (goodIn_of _ (by decide +kernel)) ggX4_readStatement_X4_takesWord
set_option maxRecDepth 20000 in
theorem ggX4_readStatement_X4_readRow : GoodIn wsX4_readStatement wsX4_readRow := goodIn_r _ [71, 72, 73, 74, 75, 6, 76, 8, 77, 78, 79, 80, 81, 1, 82, 11, 12, 13, 14, 9, 10, 83, 84, 85, 86, 87, 88, 89, 90, 91, 92, 93, 94, 95, 96, 97, 98, 99, 100, 101, 3, 4, 5, 7, 15, 16, 17, 18, 19, 20, 21, 22, 23, 24, 25, 26, 27, 28, 29, 30, 31, 32, 33, 34, 35, 36, 37, 38, 39, 40, 41, 42, 43, 44, 45, 46, 47, 48, 49, 50, 51, 52, 53, 54, 55, 56, 57, 58, 59, 60, 61, 62, 63, 64, 65, 66, 67, 102, 103, 104, 105, 106, 107, 108, 109, 110, 142, 143, 144, 145, 146, 147, 148, 149, 150, 151, 152, 153, 154, 155, 156, 157, 158, 159, 160, 161] (by decide +kernel) (by decide +kernel)
set_option maxRecDepth 20000 in
theorem gX4_readStatement_X4_readRow : GoodIn wsX4_readStatement (wsV RX4 55 RX4 yX4_readRow wsX4_readRow) := goodIn_app (goodIn_of _ (by decide +kernel)) ggX4_readStatement_X4_readRow
set_option maxRecDepth 20000 in
theorem ggX4_readStatement_X4_readTrader : GoodIn wsX4_readStatement wsX4_readTrader := goodIn_r _ [114, 115, 8, 73, 74, 75, 6, 76, 77, 83, 84, 85, 86, 1, 9, 10, 87, 88, 89, 90, 91, 92, 93, 94, 11, 12, 13, 14, 95, 96, 97, 98, 99, 100, 101, 116, 117, 118, 119, 3, 4, 5, 7, 15, 16, 17, 18, 19, 20, 21, 22, 23, 24, 25, 26, 27, 28, 29, 30, 31, 32, 33, 34, 35, 36, 37, 38, 39, 40, 41, 42, 43, 44, 45, 46, 47, 48, 49, 50, 51, 52, 53, 54, 55, 56, 57, 58, 59, 60, 61, 62, 63, 64, 65, 66, 67, 120, 121, 122, 105, 123, 124, 125, 126, 127, 128, 148, 149, 150, 151, 152, 153, 154, 155, 156, 157, 158, 159, 160, 161, 142, 143, 144, 145, 146, 147] (by decide +kernel) (by decide +kernel)
set_option maxRecDepth 20000 in
theorem gX4_readStatement_X4_readTrader : GoodIn wsX4_readStatement (wsV RX4 61 RX4 yX4_readTrader wsX4_readTrader) := goodIn_app (goodIn_of _ (by decide +kernel)) ggX4_readStatement_X4_readTrader
set_option maxRecDepth 20000 in
theorem ggX4_readStatement_X4_readClash : GoodIn wsX4_readStatement wsX4_readClash := goodIn_r _ [132, 8, 83, 84, 85, 6, 86, 1, 9, 10, 87, 88, 89, 90, 91, 92, 93, 94, 11, 12, 13, 14, 95, 96, 97, 98, 73, 74, 75, 76, 77, 99, 100, 101, 133, 134, 135, 105, 136, 137, 142, 143, 144, 145, 146, 147, 148, 149, 150, 151, 152, 153, 154, 155, 156, 157, 158, 159, 160, 161] (by decide +kernel) (by decide +kernel)
set_option maxRecDepth 20000 in
theorem gX4_readStatement_X4_readClash : GoodIn wsX4_readStatement (wsV RX4 66 RX4 yX4_readClash wsX4_readClash) := goodIn_app (goodIn_of _ (by decide +kernel)) ggX4_readStatement_X4_readClash
set_option maxRecDepth 20000 in
theorem ggX4_readStatement_X4_readNumber : GoodIn wsX4_readStatement wsX4_readNumber := goodIn_r _ [86, 1, 9, 10, 87, 88, 89, 90, 91, 92, 93, 6, 94, 8, 11, 12, 13, 14, 95, 96, 97, 98, 73, 74, 75, 76, 77, 99, 100, 101, 142, 143, 144, 145, 146, 147] (by decide +kernel) (by decide +kernel)
set_option maxRecDepth 20000 in
theorem gX4_readStatement_X4_readNumber : GoodIn wsX4_readStatement (wsV RX4 71 RX4 yX4_readNumber wsX4_readNumber) := goodIn_app (goodIn_of _ (by decide +kernel)) ggX4_readStatement_X4_readNumber
set_option maxRecDepth 20000 in
theorem ggX4_readStatement_X4_fail : GoodIn wsX4_readStatement wsX4_fail := goodIn_r _ [76, 8, 77, 142, 143, 144, 145, 146, 147] (by decide +kernel) (by decide +kernel)
set_option maxRecDepth 20000 in
theorem gX4_readStatement_X4_fail : GoodIn wsX4_readStatement (wsV RX4 76 RX4 yX4_fail wsX4_fail) := goodIn_app (goodIn_of _ (by decide +kernel)) ggX4_readStatement_X4_fail
set_option maxRecDepth 20000 in
theorem ggX4_readStatement_X4_readSemicolon : GoodIn wsX4_readStatement wsX4_readSemicolon := goodIn_r _ [141, 8, 1, 9, 10, 11, 12, 13, 6, 14, 73, 74, 75, 76, 77, 142, 143, 144, 145, 146, 147] (by decide +kernel) (by decide +kernel)
set_option maxRecDepth 20000 in
theorem gX4_readStatement_X4_readSemicolon : GoodIn wsX4_readStatement (wsV RX4 80 RX4 yX4_readSemicolon wsX4_readSemicolon) := goodIn_app (goodIn_of _ (by decide +kernel)) ggX4_readStatement_X4_readSemicolon
theorem dX4_readStatement_0 : decode cX4_readStatement 0 = .ok (.aload_n 0, 1) := by decide +kernel
theorem dX4_readStatement_1 : decode cX4_readStatement 1 = .ok (.getfield 19, 3) := by decide +kernel
theorem dX4_readStatement_4 : decode cX4_readStatement 4 = .ok (.istore_n 2, 1) := by decide +kernel
theorem dX4_readStatement_5 : decode cX4_readStatement 5 = .ok (.aload_n 0, 1) := by decide +kernel
theorem dX4_readStatement_6 : decode cX4_readStatement 6 = .ok (.ldc 49, 2) := by decide +kernel
theorem dX4_readStatement_8 : decode cX4_readStatement 8 = .ok (.invokevirtual 51, 3) := by decide +kernel
theorem dX4_readStatement_11 : decode cX4_readStatement 11 = .ok (.ifCond .eq 12, 3) := by decide +kernel
theorem dX4_readStatement_14 : decode cX4_readStatement 14 = .ok (.aload_n 0, 1) := by decide +kernel
theorem dX4_readStatement_15 : decode cX4_readStatement 15 = .ok (.aload_n 1, 1) := by decide +kernel
theorem dX4_readStatement_16 : decode cX4_readStatement 16 = .ok (.iload_n 2, 1) := by decide +kernel
theorem dX4_readStatement_17 : decode cX4_readStatement 17 = .ok (.invokevirtual 55, 3) := by decide +kernel
theorem dX4_readStatement_20 : decode cX4_readStatement 20 = .ok (.goto 67, 3) := by decide +kernel
theorem dX4_readStatement_23 : decode cX4_readStatement 23 = .ok (.aload_n 0, 1) := by decide +kernel
theorem dX4_readStatement_24 : decode cX4_readStatement 24 = .ok (.ldc 59, 2) := by decide +kernel
theorem dX4_readStatement_26 : decode cX4_readStatement 26 = .ok (.invokevirtual 51, 3) := by decide +kernel
theorem dX4_readStatement_29 : decode cX4_readStatement 29 = .ok (.ifCond .eq 12, 3) := by decide +kernel
theorem dX4_readStatement_32 : decode cX4_readStatement 32 = .ok (.aload_n 0, 1) := by decide +kernel
theorem dX4_readStatement_33 : decode cX4_readStatement 33 = .ok (.aload_n 1, 1) := by decide +kernel
theorem dX4_readStatement_34 : decode cX4_readStatement 34 = .ok (.iload_n 2, 1) := by decide +kernel
theorem dX4_readStatement_35 : decode cX4_readStatement 35 = .ok (.invokevirtual 61, 3) := by decide +kernel
theorem dX4_readStatement_38 : decode cX4_readStatement 38 = .ok (.goto 49, 3) := by decide +kernel
theorem dX4_readStatement_41 : decode cX4_readStatement 41 = .ok (.aload_n 0, 1) := by decide +kernel
theorem dX4_readStatement_42 : decode cX4_readStatement 42 = .ok (.ldc 64, 2) := by decide +kernel
theorem dX4_readStatement_44 : decode cX4_readStatement 44 = .ok (.invokevirtual 51, 3) := by decide +kernel
theorem dX4_readStatement_47 : decode cX4_readStatement 47 = .ok (.ifCond .eq 11, 3) := by decide +kernel
theorem dX4_readStatement_50 : decode cX4_readStatement 50 = .ok (.aload_n 0, 1) := by decide +kernel
theorem dX4_readStatement_51 : decode cX4_readStatement 51 = .ok (.aload_n 1, 1) := by decide +kernel
theorem dX4_readStatement_52 : decode cX4_readStatement 52 = .ok (.invokevirtual 66, 3) := by decide +kernel
theorem dX4_readStatement_55 : decode cX4_readStatement 55 = .ok (.goto 32, 3) := by decide +kernel
theorem dX4_readStatement_58 : decode cX4_readStatement 58 = .ok (.aload_n 0, 1) := by decide +kernel
theorem dX4_readStatement_59 : decode cX4_readStatement 59 = .ok (.ldc 69, 2) := by decide +kernel
theorem dX4_readStatement_61 : decode cX4_readStatement 61 = .ok (.invokevirtual 51, 3) := by decide +kernel
theorem dX4_readStatement_64 : decode cX4_readStatement 64 = .ok (.ifCond .eq 16, 3) := by decide +kernel
theorem dX4_readStatement_67 : decode cX4_readStatement 67 = .ok (.aload_n 1, 1) := by decide +kernel
theorem dX4_readStatement_68 : decode cX4_readStatement 68 = .ok (.aload_n 0, 1) := by decide +kernel
theorem dX4_readStatement_69 : decode cX4_readStatement 69 = .ok (.iconst 0, 1) := by decide +kernel
theorem dX4_readStatement_70 : decode cX4_readStatement 70 = .ok (.iconst 4, 1) := by decide +kernel
theorem dX4_readStatement_71 : decode cX4_readStatement 71 = .ok (.invokevirtual 71, 3) := by decide +kernel
theorem dX4_readStatement_74 : decode cX4_readStatement 74 = .ok (.putfield 74, 3) := by decide +kernel
theorem dX4_readStatement_77 : decode cX4_readStatement 77 = .ok (.goto 10, 3) := by decide +kernel
theorem dX4_readStatement_80 : decode cX4_readStatement 80 = .ok (.aload_n 0, 1) := by decide +kernel
theorem dX4_readStatement_81 : decode cX4_readStatement 81 = .ok (.bipush (-2), 2) := by decide +kernel
theorem dX4_readStatement_83 : decode cX4_readStatement 83 = .ok (.iload_n 2, 1) := by decide +kernel
theorem dX4_readStatement_84 : decode cX4_readStatement 84 = .ok (.invokevirtual 76, 3) := by decide +kernel
theorem dX4_readStatement_87 : decode cX4_readStatement 87 = .ok (.aload_n 0, 1) := by decide +kernel
theorem dX4_readStatement_88 : decode cX4_readStatement 88 = .ok (.invokevirtual 80, 3) := by decide +kernel
theorem dX4_readStatement_91 : decode cX4_readStatement 91 = .ok (.return_, 1) := by decide +kernel
set_option maxRecDepth 20000 in
theorem ggX4_readRow_X4_fail : GoodIn wsX4_readRow wsX4_fail := goodIn_r _ [6, 7, 8, 106, 107, 108, 109, 110, 111] (by decide +kernel) (by decide +kernel)
set_option maxRecDepth 20000 in
theorem gX4_readRow_X4_fail : GoodIn wsX4_readRow (wsV RX4 76 RX4 yX4_fail wsX4_fail) := goodIn_app (goodIn_of _ (by decide +kernel)) ggX4_readRow_X4_fail
set_option maxRecDepth 20000 in
theorem ggX4_readRow_X4_readPitch : GoodIn wsX4_readRow wsX4_readPitch := goodIn_r _ [12, 13, 14, 7, 1, 15, 16, 17, 5, 18, 19, 20, 21, 22, 23, 24, 25, 26, 27, 28, 29, 30, 31, 32, 33, 34, 35, 36, 2, 3, 4, 6, 8, 37, 38, 39, 40, 41, 42, 43, 44, 45, 46, 47, 48, 49, 50, 51, 52, 53, 54, 55, 56, 57, 58, 59, 60, 61, 62, 63, 64, 65, 66, 67, 68, 69, 70, 71, 72, 73, 74, 75, 76, 77, 78, 79, 80, 81, 82, 83, 84, 85, 86, 87, 88, 89, 90, 91, 92, 93, 94, 95, 96, 97, 98, 99, 100, 101, 102, 103, 104, 105, 106, 107, 108, 109, 110, 111, 112, 113, 114, 115, 116, 117, 118, 119, 120, 121, 122, 123, 124, 125] (by decide +kernel) (by decide +kernel)
set_option maxRecDepth 20000 in
theorem gX4_readRow_X4_readPitch : GoodIn wsX4_readRow (wsV RX4 83 RX4 yX4_readPitch wsX4_readPitch) := goodIn_app (goodIn_of _ (by decide +kernel)) ggX4_readRow_X4_readPitch
set_option maxRecDepth 20000 in
theorem ggX4_readRow_X4_isAtDigit : GoodIn wsX4_readRow wsX4_isAtDigit := goodIn_r _ [32, 7, 13, 15, 16, 17, 5, 18, 19, 20, 33, 34, 35, 36, 106, 107, 108, 109, 110, 111] (by decide +kernel) (by decide +kernel)
set_option maxRecDepth 20000 in
theorem gX4_readRow_X4_isAtDigit : GoodIn wsX4_readRow (wsV RX4 86 RX4 yX4_isAtDigit wsX4_isAtDigit) := goodIn_app (goodIn_of _ (by decide +kernel)) ggX4_readRow_X4_isAtDigit
theorem dX4_readRow_0 : decode cX4_readRow 0 = .ok (.aload_n 0, 1) := by decide +kernel
theorem dX4_readRow_1 : decode cX4_readRow 1 = .ok (.getfield 22, 3) := by decide +kernel
theorem dX4_readRow_4 : decode cX4_readRow 4 = .ok (.iconst 4, 1) := by decide +kernel
theorem dX4_readRow_5 : decode cX4_readRow 5 = .ok (.if_icmp .lt 11, 3) := by decide +kernel
theorem dX4_readRow_8 : decode cX4_readRow 8 = .ok (.aload_n 0, 1) := by decide +kernel
theorem dX4_readRow_9 : decode cX4_readRow 9 = .ok (.bipush (-4), 2) := by decide +kernel
theorem dX4_readRow_11 : decode cX4_readRow 11 = .ok (.iload_n 2, 1) := by decide +kernel
theorem dX4_readRow_12 : decode cX4_readRow 12 = .ok (.invokevirtual 76, 3) := by decide +kernel
theorem dX4_readRow_15 : decode cX4_readRow 15 = .ok (.return_, 1) := by decide +kernel
theorem dX4_readRow_16 : decode cX4_readRow 16 = .ok (.aload_n 0, 1) := by decide +kernel
theorem dX4_readRow_17 : decode cX4_readRow 17 = .ok (.aload_n 1, 1) := by decide +kernel
theorem dX4_readRow_18 : decode cX4_readRow 18 = .ok (.iconst 0, 1) := by decide +kernel
theorem dX4_readRow_19 : decode cX4_readRow 19 = .ok (.invokevirtual 83, 3) := by decide +kernel
theorem dX4_readRow_22 : decode cX4_readRow 22 = .ok (.iconst 1, 1) := by decide +kernel
theorem dX4_readRow_23 : decode cX4_readRow 23 = .ok (.istore_n 3, 1) := by decide +kernel
theorem dX4_readRow_24 : decode cX4_readRow 24 = .ok (.iload_n 3, 1) := by decide +kernel
theorem dX4_readRow_25 : decode cX4_readRow 25 = .ok (.bipush 12, 2) := by decide +kernel
theorem dX4_readRow_27 : decode cX4_readRow 27 = .ok (.if_icmp .gt 22, 3) := by decide +kernel
theorem dX4_readRow_30 : decode cX4_readRow 30 = .ok (.aload_n 0, 1) := by decide +kernel
theorem dX4_readRow_31 : decode cX4_readRow 31 = .ok (.invokevirtual 86, 3) := by decide +kernel
theorem dX4_readRow_34 : decode cX4_readRow 34 = .ok (.ifCond .eq 15, 3) := by decide +kernel
theorem dX4_readRow_37 : decode cX4_readRow 37 = .ok (.aload_n 0, 1) := by decide +kernel
theorem dX4_readRow_38 : decode cX4_readRow 38 = .ok (.aload_n 1, 1) := by decide +kernel
theorem dX4_readRow_39 : decode cX4_readRow 39 = .ok (.iload_n 3, 1) := by decide +kernel
theorem dX4_readRow_40 : decode cX4_readRow 40 = .ok (.invokevirtual 83, 3) := by decide +kernel
theorem dX4_readRow_43 : decode cX4_readRow 43 = .ok (.iinc 3 1, 3) := by decide +kernel
theorem dX4_readRow_46 : decode cX4_readRow 46 = .ok (.goto (-22), 3) := by decide +kernel
theorem dX4_readRow_49 : decode cX4_readRow 49 = .ok (.aload_n 0, 1) := by decide +kernel
theorem dX4_readRow_50 : decode cX4_readRow 50 = .ok (.dup, 1) := by decide +kernel
theorem dX4_readRow_51 : decode cX4_readRow 51 = .ok (.getfield 22, 3) := by decide +kernel
theorem dX4_readRow_54 : decode cX4_readRow 54 = .ok (.iconst 1, 1) := by decide +kernel
theorem dX4_readRow_55 : decode cX4_readRow 55 = .ok (.iadd, 1) := by decide +kernel
theorem dX4_readRow_56 : decode cX4_readRow 56 = .ok (.putfield 22, 3) := by decide +kernel
theorem dX4_readRow_59 : decode cX4_readRow 59 = .ok (.return_, 1) := by decide +kernel
set_option maxRecDepth 20000 in
theorem ggX4_readPitch_X4_skipSpaces : GoodIn wsX4_readPitch wsX4_skipSpaces := goodIn_r _ [9, 1, 10, 11, 102, 103, 104, 105, 106, 107] (by decide +kernel) (by decide +kernel)
set_option maxRecDepth 20000 in
theorem gX4_readPitch_X4_skipSpaces : GoodIn wsX4_readPitch (wsV RX4 42 RX4 yX4_skipSpaces wsX4_skipSpaces) := goodIn_app (goodIn_of _ (by decide +kernel)) ggX4_readPitch_X4_skipSpaces
set_option maxRecDepth 20000 in
theorem ggX4_readPitch_X4_readNumber : GoodIn wsX4_readPitch wsX4_readNumber := goodIn_r _ [15, 1, 10, 11, 16, 17, 18, 19, 20, 21, 22, 8, 23, 3, 5, 6, 7, 9, 24, 25, 26, 27, 28, 29, 30, 31, 32, 33, 34, 35, 102, 103, 104, 105, 106, 107] (by decide +kernel) (by decide +kernel)
set_option maxRecDepth 20000 in
theorem gX4_readPitch_X4_readNumber : GoodIn wsX4_readPitch (wsV RX4 71 RX4 yX4_readNumber wsX4_readNumber) := goodIn_app (goodIn_of _ (by decide +kernel)) ggX4_readPitch_X4_readNumber
set_option maxRecDepth 20000 in
theorem ggX4_readPitch_X4_fail : GoodIn wsX4_readPitch wsX4_fail := goodIn_r _ [31, 3, 32, 102, 103, 104, 105, 106, 107] (by decide +kernel) (by decide +kernel)
set_option maxRecDepth 20000 in
theorem gX4_readPitch_X4_fail : GoodIn wsX4_readPitch (wsV RX4 76 RX4 yX4_fail wsX4_fail) := goodIn_app (goodIn_of _ (by decide +kernel)) ggX4_readPitch_X4_fail
set_option maxRecDepth 20000 in
theorem ggX4_readPitch_X4_takesWord : GoodIn wsX4_readPitch wsX4_takesWord := goodIn_r _ [39, 3, 1, 10, 11, 5, 6, 7, 8, 9, 40, 41, 42, 43, 44, 45, 46, 47, 48, 49, 50, 51, 52, 53, 54, 55, 56, 57, 58, 59, 60, 61, 62, 63, 64, 65, 66, 67, 68, 69, 70, 71, 72, 73, 74, 75, 76, 77, 78, 79, 80, 81, 82, 83, 84, 85, 86, 87, 88, 89, 90, 91, 92, 102, 103, 104, 105, 106, 107] (by decide +kernel) (by decide +kernel)
set_option maxRecDepth 20000 in
theorem gX4_readPitch_X4_takesWord : GoodIn wsX4_readPitch (wsV RX4 51 RX4 yX4_takesWord wsX4_takesWord) := goodIn_app (goodIn_of _ (by decide +kernel)) ggX4_readPitch_X4_takesWord
set_option maxRecDepth 20000 in
theorem ggX4_readPitch_X2_addPitch : GoodIn wsX4_readPitch wsX2_addPitch := goodIn_r _ [97, 98, 99, 100, 101, 108, 109, 110, 111, 112, 113, 114, 115, 116, 117, 118, 119, 120, 121] (by decide +kernel) (by decide +kernel)
set_option maxRecDepth 20000 in
theorem gX4_readPitch_X2_addPitch : GoodIn wsX4_readPitch (wsV RX4 95 RX2 yX2_addPitch wsX2_addPitch) := goodIn_app (goodIn_of _ (by decide +kernel)) ggX4_readPitch_X2_addPitch
theorem dX4_readPitch_0 : decode cX4_readPitch 0 = .ok (.aload_n 0, 1) := by decide +kernel
theorem dX4_readPitch_1 : decode cX4_readPitch 1 = .ok (.invokevirtual 42, 3) := by decide +kernel
theorem dX4_readPitch_4 : decode cX4_readPitch 4 = .ok (.aload_n 0, 1) := by decide +kernel
theorem dX4_readPitch_5 : decode cX4_readPitch 5 = .ok (.getfield 19, 3) := by decide +kernel
theorem dX4_readPitch_8 : decode cX4_readPitch 8 = .ok (.istore_n 3, 1) := by decide +kernel
theorem dX4_readPitch_9 : decode cX4_readPitch 9 = .ok (.aload_n 0, 1) := by decide +kernel
theorem dX4_readPitch_10 : decode cX4_readPitch 10 = .ok (.iconst 1, 1) := by decide +kernel
theorem dX4_readPitch_11 : decode cX4_readPitch 11 = .ok (.sipush 999, 3) := by decide +kernel
theorem dX4_readPitch_14 : decode cX4_readPitch 14 = .ok (.invokevirtual 71, 3) := by decide +kernel
theorem dX4_readPitch_17 : decode cX4_readPitch 17 = .ok (.istore 4, 2) := by decide +kernel
theorem dX4_readPitch_19 : decode cX4_readPitch 19 = .ok (.iload_n 2, 1) := by decide +kernel
theorem dX4_readPitch_20 : decode cX4_readPitch 20 = .ok (.bipush 12, 2) := by decide +kernel
theorem dX4_readPitch_22 : decode cX4_readPitch 22 = .ok (.if_icmp .ge 12, 3) := by decide +kernel
theorem dX4_readPitch_25 : decode cX4_readPitch 25 = .ok (.aload_n 1, 1) := by decide +kernel
theorem dX4_readPitch_26 : decode cX4_readPitch 26 = .ok (.getfield 90, 3) := by decide +kernel
theorem dX4_readPitch_29 : decode cX4_readPitch 29 = .ok (.bipush 24, 2) := by decide +kernel
theorem dX4_readPitch_31 : decode cX4_readPitch 31 = .ok (.if_icmp .lt 10, 3) := by decide +kernel
theorem dX4_readPitch_34 : decode cX4_readPitch 34 = .ok (.aload_n 0, 1) := by decide +kernel
theorem dX4_readPitch_35 : decode cX4_readPitch 35 = .ok (.bipush (-4), 2) := by decide +kernel
theorem dX4_readPitch_37 : decode cX4_readPitch 37 = .ok (.iload_n 3, 1) := by decide +kernel
theorem dX4_readPitch_38 : decode cX4_readPitch 38 = .ok (.invokevirtual 76, 3) := by decide +kernel
theorem dX4_readPitch_41 : decode cX4_readPitch 41 = .ok (.aload_n 0, 1) := by decide +kernel
theorem dX4_readPitch_42 : decode cX4_readPitch 42 = .ok (.ldc 93, 2) := by decide +kernel
theorem dX4_readPitch_44 : decode cX4_readPitch 44 = .ok (.invokevirtual 51, 3) := by decide +kernel
theorem dX4_readPitch_47 : decode cX4_readPitch 47 = .ok (.istore 5, 2) := by decide +kernel
theorem dX4_readPitch_49 : decode cX4_readPitch 49 = .ok (.aload_n 0, 1) := by decide +kernel
theorem dX4_readPitch_50 : decode cX4_readPitch 50 = .ok (.getfield 25, 3) := by decide +kernel
theorem dX4_readPitch_53 : decode cX4_readPitch 53 = .ok (.ifCond .ne 15, 3) := by decide +kernel
theorem dX4_readPitch_56 : decode cX4_readPitch 56 = .ok (.aload_n 1, 1) := by decide +kernel
theorem dX4_readPitch_57 : decode cX4_readPitch 57 = .ok (.aload_n 0, 1) := by decide +kernel
theorem dX4_readPitch_58 : decode cX4_readPitch 58 = .ok (.getfield 22, 3) := by decide +kernel
theorem dX4_readPitch_61 : decode cX4_readPitch 61 = .ok (.iload 4, 2) := by decide +kernel
theorem dX4_readPitch_63 : decode cX4_readPitch 63 = .ok (.iload 5, 2) := by decide +kernel
theorem dX4_readPitch_65 : decode cX4_readPitch 65 = .ok (.invokevirtual 95, 3) := by decide +kernel
theorem dX4_readPitch_68 : decode cX4_readPitch 68 = .ok (.return_, 1) := by decide +kernel
set_option maxRecDepth 20000 in
theorem ggX4_readTrader_X4_fail : GoodIn wsX4_readTrader wsX4_fail := goodIn_r _ [7, 2, 8, 120, 121, 122, 123, 124, 125] (by decide +kernel) (by decide +kernel)
set_option maxRecDepth 20000 in
theorem gX4_readTrader_X4_fail : GoodIn wsX4_readTrader (wsV RX4 76 RX4 yX4_fail wsX4_fail) := goodIn_app (goodIn_of _ (by decide +kernel)) ggX4_readTrader_X4_fail
set_option maxRecDepth 20000 in
theorem ggX4_readTrader_X4_readNumber : GoodIn wsX4_readTrader wsX4_readNumber := goodIn_r _ [12, 13, 14, 15, 16, 17, 18, 19, 20, 21, 22, 6, 23, 2, 24, 25, 26, 27, 28, 29, 30, 31, 3, 4, 5, 7, 8, 32, 33, 34, 120, 121, 122, 123, 124, 125] (by decide +kernel) (by decide +kernel)
set_option maxRecDepth 20000 in
theorem gX4_readTrader_X4_readNumber : GoodIn wsX4_readTrader (wsV RX4 71 RX4 yX4_readNumber wsX4_readNumber) := goodIn_app (goodIn_of _ (by decide +kernel)) ggX4_readTrader_X4_readNumber
set_option maxRecDepth 20000 in
theorem ggX4_readTrader_X4_readWord : GoodIn wsX4_readTrader wsX4_readWord := goodIn_r _ [38, 13, 39, 40, 41, 6, 42, 2, 14, 15, 24, 25, 26, 27, 43, 44, 45, 46, 47, 48, 49, 50, 51, 52, 53, 54, 55, 56, 57, 58, 59, 60, 61, 62, 63, 64, 65, 66, 67, 68, 69, 70, 71, 72, 73, 74, 75, 76, 77, 78, 79, 80, 81, 82, 83, 84, 85, 86, 87, 88, 89, 90, 91, 92, 93, 94, 95, 3, 4, 5, 7, 8, 120, 121, 122, 123, 124, 125] (by decide +kernel) (by decide +kernel)
set_option maxRecDepth 20000 in
theorem gX4_readTrader_X4_readWord : GoodIn wsX4_readTrader (wsV RX4 104 RX4 yX4_readWord wsX4_readWord) := goodIn_app (goodIn_of _ (by decide +kernel)) ggX4_readTrader_X4_readWord
set_option maxRecDepth 20000 in
theorem ggX4_readTrader_X4_takesWord : GoodIn wsX4_readTrader wsX4_takesWord := goodIn_r _ [42, 2, 13, 14, 15, 24, 25, 26, 6, 27, 43, 44, 45, 46, 47, 48, 49, 50, 51, 52, 53, 54, 55, 56, 57, 58, 59, 60, 61, 62, 63, 64, 65, 66, 67, 68, 69, 70, 71, 72, 73, 74, 75, 76, 77, 78, 79, 80, 81, 82, 83, 84, 85, 86, 87, 88, 89, 90, 91, 92, 93, 94, 95, 120, 121, 122, 123, 124, 125] (by decide +kernel) (by decide +kernel)
set_option maxRecDepth 20000 in
theorem gX4_readTrader_X4_takesWord : GoodIn wsX4_readTrader (wsV RX4 51 RX4 yX4_takesWord wsX4_takesWord) := goodIn_app (goodIn_of _ (by decide +kernel)) ggX4_readTrader_X4_takesWord
set_option maxRecDepth 20000 in
theorem ggX4_readTrader_X2_enrol : GoodIn wsX4_readTrader wsX2_enrol := goodIn_r _ [100, 101, 102, 103, 104, 105, 106, 107, 108, 109, 110, 111, 112, 113, 114, 115, 116, 117, 118, 119] (by decide +kernel) (by decide +kernel)
set_option maxRecDepth 20000 in
theorem gX4_readTrader_X2_enrol : GoodIn wsX4_readTrader (wsV RX4 112 RX2 yX2_enrol wsX2_enrol) := goodIn_app (goodIn_of _ (by decide +kernel)) ggX4_readTrader_X2_enrol
theorem dX4_readTrader_0 : decode cX4_readTrader 0 = .ok (.aload_n 1, 1) := by decide +kernel
theorem dX4_readTrader_1 : decode cX4_readTrader 1 = .ok (.getfield 99, 3) := by decide +kernel
theorem dX4_readTrader_4 : decode cX4_readTrader 4 = .ok (.bipush 8, 2) := by decide +kernel
theorem dX4_readTrader_6 : decode cX4_readTrader 6 = .ok (.if_icmp .lt 10, 3) := by decide +kernel
theorem dX4_readTrader_9 : decode cX4_readTrader 9 = .ok (.aload_n 0, 1) := by decide +kernel
theorem dX4_readTrader_10 : decode cX4_readTrader 10 = .ok (.bipush (-4), 2) := by decide +kernel
theorem dX4_readTrader_12 : decode cX4_readTrader 12 = .ok (.iload_n 2, 1) := by decide +kernel
theorem dX4_readTrader_13 : decode cX4_readTrader 13 = .ok (.invokevirtual 76, 3) := by decide +kernel
theorem dX4_readTrader_16 : decode cX4_readTrader 16 = .ok (.aload_n 0, 1) := by decide +kernel
theorem dX4_readTrader_17 : decode cX4_readTrader 17 = .ok (.iconst 0, 1) := by decide +kernel
theorem dX4_readTrader_18 : decode cX4_readTrader 18 = .ok (.bipush 7, 2) := by decide +kernel
theorem dX4_readTrader_20 : decode cX4_readTrader 20 = .ok (.invokevirtual 71, 3) := by decide +kernel
theorem dX4_readTrader_23 : decode cX4_readTrader 23 = .ok (.istore_n 3, 1) := by decide +kernel
theorem dX4_readTrader_24 : decode cX4_readTrader 24 = .ok (.aload_n 0, 1) := by decide +kernel
theorem dX4_readTrader_25 : decode cX4_readTrader 25 = .ok (.ldc 102, 2) := by decide +kernel
theorem dX4_readTrader_27 : decode cX4_readTrader 27 = .ok (.invokevirtual 104, 3) := by decide +kernel
theorem dX4_readTrader_30 : decode cX4_readTrader 30 = .ok (.aload_n 0, 1) := by decide +kernel
theorem dX4_readTrader_31 : decode cX4_readTrader 31 = .ok (.iconst 1, 1) := by decide +kernel
theorem dX4_readTrader_32 : decode cX4_readTrader 32 = .ok (.iconst 3, 1) := by decide +kernel
theorem dX4_readTrader_33 : decode cX4_readTrader 33 = .ok (.invokevirtual 71, 3) := by decide +kernel
theorem dX4_readTrader_36 : decode cX4_readTrader 36 = .ok (.istore 4, 2) := by decide +kernel
theorem dX4_readTrader_38 : decode cX4_readTrader 38 = .ok (.aload_n 0, 1) := by decide +kernel
theorem dX4_readTrader_39 : decode cX4_readTrader 39 = .ok (.ldc 108, 2) := by decide +kernel
theorem dX4_readTrader_41 : decode cX4_readTrader 41 = .ok (.invokevirtual 104, 3) := by decide +kernel
theorem dX4_readTrader_44 : decode cX4_readTrader 44 = .ok (.aload_n 0, 1) := by decide +kernel
theorem dX4_readTrader_45 : decode cX4_readTrader 45 = .ok (.iconst 1, 1) := by decide +kernel
theorem dX4_readTrader_46 : decode cX4_readTrader 46 = .ok (.sipush 9999, 3) := by decide +kernel
theorem dX4_readTrader_49 : decode cX4_readTrader 49 = .ok (.invokevirtual 71, 3) := by decide +kernel
theorem dX4_readTrader_52 : decode cX4_readTrader 52 = .ok (.istore 5, 2) := by decide +kernel
theorem dX4_readTrader_54 : decode cX4_readTrader 54 = .ok (.aload_n 0, 1) := by decide +kernel
theorem dX4_readTrader_55 : decode cX4_readTrader 55 = .ok (.ldc 110, 2) := by decide +kernel
theorem dX4_readTrader_57 : decode cX4_readTrader 57 = .ok (.invokevirtual 51, 3) := by decide +kernel
theorem dX4_readTrader_60 : decode cX4_readTrader 60 = .ok (.istore 6, 2) := by decide +kernel
theorem dX4_readTrader_62 : decode cX4_readTrader 62 = .ok (.aload_n 0, 1) := by decide +kernel
theorem dX4_readTrader_63 : decode cX4_readTrader 63 = .ok (.getfield 25, 3) := by decide +kernel
theorem dX4_readTrader_66 : decode cX4_readTrader 66 = .ok (.ifCond .ne 14, 3) := by decide +kernel
theorem dX4_readTrader_69 : decode cX4_readTrader 69 = .ok (.aload_n 1, 1) := by decide +kernel
theorem dX4_readTrader_70 : decode cX4_readTrader 70 = .ok (.iload_n 3, 1) := by decide +kernel
theorem dX4_readTrader_71 : decode cX4_readTrader 71 = .ok (.iload 4, 2) := by decide +kernel
theorem dX4_readTrader_73 : decode cX4_readTrader 73 = .ok (.iload 5, 2) := by decide +kernel
theorem dX4_readTrader_75 : decode cX4_readTrader 75 = .ok (.iload 6, 2) := by decide +kernel
theorem dX4_readTrader_77 : decode cX4_readTrader 77 = .ok (.invokevirtual 112, 3) := by decide +kernel
theorem dX4_readTrader_80 : decode cX4_readTrader 80 = .ok (.return_, 1) := by decide +kernel
set_option maxRecDepth 20000 in
theorem ggX4_readClash_X4_readNumber : GoodIn wsX4_readClash wsX4_readNumber := goodIn_r _ [6, 7, 8, 9, 10, 11, 12, 13, 14, 15, 16, 5, 17, 1, 18, 19, 20, 21, 22, 23, 24, 25, 26, 27, 28, 29, 30, 31, 32, 33, 40, 41, 42, 43, 44, 45] (by decide +kernel) (by decide +kernel)
set_option maxRecDepth 20000 in
theorem gX4_readClash_X4_readNumber : GoodIn wsX4_readClash (wsV RX4 71 RX4 yX4_readNumber wsX4_readNumber) := goodIn_app (goodIn_of _ (by decide +kernel)) ggX4_readClash_X4_readNumber
set_option maxRecDepth 20000 in
theorem ggX4_readClash_X2_putClash : GoodIn wsX4_readClash wsX2_putClash := goodIn_r _ [38, 39, 46, 47, 48, 49, 50, 51, 52, 53, 54, 55, 56, 57, 58, 59] (by decide +kernel) (by decide +kernel)
set_option maxRecDepth 20000 in
theorem gX4_readClash_X2_putClash : GoodIn wsX4_readClash (wsV RX4 116 RX2 yX2_putClash wsX2_putClash) := goodIn_app (goodIn_of _ (by decide +kernel)) ggX4_readClash_X2_putClash
theorem dX4_readClash_0 : decode cX4_readClash 0 = .ok (.aload_n 0, 1) := by decide +kernel
theorem dX4_readClash_1 : decode cX4_readClash 1 = .ok (.iconst 0, 1) := by decide +kernel
theorem dX4_readClash_2 : decode cX4_readClash 2 = .ok (.bipush 7, 2) := by decide +kernel
theorem dX4_readClash_4 : decode cX4_readClash 4 = .ok (.invokevirtual 71, 3) := by decide +kernel
theorem dX4_readClash_7 : decode cX4_readClash 7 = .ok (.istore_n 2, 1) := by decide +kernel
theorem dX4_readClash_8 : decode cX4_readClash 8 = .ok (.aload_n 0, 1) := by decide +kernel
theorem dX4_readClash_9 : decode cX4_readClash 9 = .ok (.iconst 0, 1) := by decide +kernel
theorem dX4_readClash_10 : decode cX4_readClash 10 = .ok (.bipush 7, 2) := by decide +kernel
theorem dX4_readClash_12 : decode cX4_readClash 12 = .ok (.invokevirtual 71, 3) := by decide +kernel
theorem dX4_readClash_15 : decode cX4_readClash 15 = .ok (.istore_n 3, 1) := by decide +kernel
theorem dX4_readClash_16 : decode cX4_readClash 16 = .ok (.aload_n 0, 1) := by decide +kernel
theorem dX4_readClash_17 : decode cX4_readClash 17 = .ok (.getfield 25, 3) := by decide +kernel
theorem dX4_readClash_20 : decode cX4_readClash 20 = .ok (.ifCond .ne 10, 3) := by decide +kernel
theorem dX4_readClash_23 : decode cX4_readClash 23 = .ok (.aload_n 1, 1) := by decide +kernel
theorem dX4_readClash_24 : decode cX4_readClash 24 = .ok (.iload_n 2, 1) := by decide +kernel
theorem dX4_readClash_25 : decode cX4_readClash 25 = .ok (.iload_n 3, 1) := by decide +kernel
theorem dX4_readClash_26 : decode cX4_readClash 26 = .ok (.iconst 1, 1) := by decide +kernel
theorem dX4_readClash_27 : decode cX4_readClash 27 = .ok (.invokevirtual 116, 3) := by decide +kernel
theorem dX4_readClash_30 : decode cX4_readClash 30 = .ok (.return_, 1) := by decide +kernel
theorem dX4_fail_0 : decode cX4_fail 0 = .ok (.aload_n 0, 1) := by decide +kernel
theorem dX4_fail_1 : decode cX4_fail 1 = .ok (.getfield 25, 3) := by decide +kernel
theorem dX4_fail_4 : decode cX4_fail 4 = .ok (.ifCond .ne 13, 3) := by decide +kernel
theorem dX4_fail_7 : decode cX4_fail 7 = .ok (.aload_n 0, 1) := by decide +kernel
theorem dX4_fail_8 : decode cX4_fail 8 = .ok (.iload_n 1, 1) := by decide +kernel
theorem dX4_fail_9 : decode cX4_fail 9 = .ok (.putfield 25, 3) := by decide +kernel
theorem dX4_fail_12 : decode cX4_fail 12 = .ok (.aload_n 0, 1) := by decide +kernel
theorem dX4_fail_13 : decode cX4_fail 13 = .ok (.iload_n 2, 1) := by decide +kernel
theorem dX4_fail_14 : decode cX4_fail 14 = .ok (.putfield 28, 3) := by decide +kernel
theorem dX4_fail_17 : decode cX4_fail 17 = .ok (.return_, 1) := by decide +kernel
theorem dX4_skipSpaces_0 : decode cX4_skipSpaces 0 = .ok (.aload_n 0, 1) := by decide +kernel
theorem dX4_skipSpaces_1 : decode cX4_skipSpaces 1 = .ok (.getfield 19, 3) := by decide +kernel
theorem dX4_skipSpaces_4 : decode cX4_skipSpaces 4 = .ok (.aload_n 0, 1) := by decide +kernel
theorem dX4_skipSpaces_5 : decode cX4_skipSpaces 5 = .ok (.getfield 15, 3) := by decide +kernel
theorem dX4_skipSpaces_8 : decode cX4_skipSpaces 8 = .ok (.if_icmp .ge 30, 3) := by decide +kernel
theorem dX4_skipSpaces_11 : decode cX4_skipSpaces 11 = .ok (.aload_n 0, 1) := by decide +kernel
theorem dX4_skipSpaces_12 : decode cX4_skipSpaces 12 = .ok (.getfield 9, 3) := by decide +kernel
theorem dX4_skipSpaces_15 : decode cX4_skipSpaces 15 = .ok (.aload_n 0, 1) := by decide +kernel
theorem dX4_skipSpaces_16 : decode cX4_skipSpaces 16 = .ok (.getfield 19, 3) := by decide +kernel
theorem dX4_skipSpaces_19 : decode cX4_skipSpaces 19 = .ok (.iaload, 1) := by decide +kernel
theorem dX4_skipSpaces_20 : decode cX4_skipSpaces 20 = .ok (.bipush 32, 2) := by decide +kernel
theorem dX4_skipSpaces_22 : decode cX4_skipSpaces 22 = .ok (.if_icmp .ne 16, 3) := by decide +kernel
theorem dX4_skipSpaces_25 : decode cX4_skipSpaces 25 = .ok (.aload_n 0, 1) := by decide +kernel
theorem dX4_skipSpaces_26 : decode cX4_skipSpaces 26 = .ok (.dup, 1) := by decide +kernel
theorem dX4_skipSpaces_27 : decode cX4_skipSpaces 27 = .ok (.getfield 19, 3) := by decide +kernel
theorem dX4_skipSpaces_30 : decode cX4_skipSpaces 30 = .ok (.iconst 1, 1) := by decide +kernel
theorem dX4_skipSpaces_31 : decode cX4_skipSpaces 31 = .ok (.iadd, 1) := by decide +kernel
theorem dX4_skipSpaces_32 : decode cX4_skipSpaces 32 = .ok (.putfield 19, 3) := by decide +kernel
theorem dX4_skipSpaces_35 : decode cX4_skipSpaces 35 = .ok (.goto (-35), 3) := by decide +kernel
theorem dX4_skipSpaces_38 : decode cX4_skipSpaces 38 = .ok (.return_, 1) := by decide +kernel
theorem dX4_isLetter_0 : decode cX4_isLetter 0 = .ok (.iload_n 1, 1) := by decide +kernel
theorem dX4_isLetter_1 : decode cX4_isLetter 1 = .ok (.aload_n 0, 1) := by decide +kernel
theorem dX4_isLetter_2 : decode cX4_isLetter 2 = .ok (.getfield 15, 3) := by decide +kernel
theorem dX4_isLetter_5 : decode cX4_isLetter 5 = .ok (.if_icmp .ge 29, 3) := by decide +kernel
theorem dX4_isLetter_8 : decode cX4_isLetter 8 = .ok (.aload_n 0, 1) := by decide +kernel
theorem dX4_isLetter_9 : decode cX4_isLetter 9 = .ok (.getfield 9, 3) := by decide +kernel
theorem dX4_isLetter_12 : decode cX4_isLetter 12 = .ok (.iload_n 1, 1) := by decide +kernel
theorem dX4_isLetter_13 : decode cX4_isLetter 13 = .ok (.iaload, 1) := by decide +kernel
theorem dX4_isLetter_14 : decode cX4_isLetter 14 = .ok (.bipush 97, 2) := by decide +kernel
theorem dX4_isLetter_16 : decode cX4_isLetter 16 = .ok (.if_icmp .lt 18, 3) := by decide +kernel
theorem dX4_isLetter_19 : decode cX4_isLetter 19 = .ok (.aload_n 0, 1) := by decide +kernel
theorem dX4_isLetter_20 : decode cX4_isLetter 20 = .ok (.getfield 9, 3) := by decide +kernel
theorem dX4_isLetter_23 : decode cX4_isLetter 23 = .ok (.iload_n 1, 1) := by decide +kernel
theorem dX4_isLetter_24 : decode cX4_isLetter 24 = .ok (.iaload, 1) := by decide +kernel
theorem dX4_isLetter_25 : decode cX4_isLetter 25 = .ok (.bipush 122, 2) := by decide +kernel
theorem dX4_isLetter_27 : decode cX4_isLetter 27 = .ok (.if_icmp .gt 7, 3) := by decide +kernel
theorem dX4_isLetter_30 : decode cX4_isLetter 30 = .ok (.iconst 1, 1) := by decide +kernel
theorem dX4_isLetter_31 : decode cX4_isLetter 31 = .ok (.goto 4, 3) := by decide +kernel
theorem dX4_isLetter_34 : decode cX4_isLetter 34 = .ok (.iconst 0, 1) := by decide +kernel
theorem dX4_isLetter_35 : decode cX4_isLetter 35 = .ok (.ireturn, 1) := by decide +kernel
theorem dX4_isDigit_0 : decode cX4_isDigit 0 = .ok (.iload_n 1, 1) := by decide +kernel
theorem dX4_isDigit_1 : decode cX4_isDigit 1 = .ok (.aload_n 0, 1) := by decide +kernel
theorem dX4_isDigit_2 : decode cX4_isDigit 2 = .ok (.getfield 15, 3) := by decide +kernel
theorem dX4_isDigit_5 : decode cX4_isDigit 5 = .ok (.if_icmp .ge 29, 3) := by decide +kernel
theorem dX4_isDigit_8 : decode cX4_isDigit 8 = .ok (.aload_n 0, 1) := by decide +kernel
theorem dX4_isDigit_9 : decode cX4_isDigit 9 = .ok (.getfield 9, 3) := by decide +kernel
theorem dX4_isDigit_12 : decode cX4_isDigit 12 = .ok (.iload_n 1, 1) := by decide +kernel
theorem dX4_isDigit_13 : decode cX4_isDigit 13 = .ok (.iaload, 1) := by decide +kernel
theorem dX4_isDigit_14 : decode cX4_isDigit 14 = .ok (.bipush 48, 2) := by decide +kernel
theorem dX4_isDigit_16 : decode cX4_isDigit 16 = .ok (.if_icmp .lt 18, 3) := by decide +kernel
theorem dX4_isDigit_19 : decode cX4_isDigit 19 = .ok (.aload_n 0, 1) := by decide +kernel
theorem dX4_isDigit_20 : decode cX4_isDigit 20 = .ok (.getfield 9, 3) := by decide +kernel
theorem dX4_isDigit_23 : decode cX4_isDigit 23 = .ok (.iload_n 1, 1) := by decide +kernel
theorem dX4_isDigit_24 : decode cX4_isDigit 24 = .ok (.iaload, 1) := by decide +kernel
theorem dX4_isDigit_25 : decode cX4_isDigit 25 = .ok (.bipush 57, 2) := by decide +kernel
theorem dX4_isDigit_27 : decode cX4_isDigit 27 = .ok (.if_icmp .gt 7, 3) := by decide +kernel
theorem dX4_isDigit_30 : decode cX4_isDigit 30 = .ok (.iconst 1, 1) := by decide +kernel
theorem dX4_isDigit_31 : decode cX4_isDigit 31 = .ok (.goto 4, 3) := by decide +kernel
theorem dX4_isDigit_34 : decode cX4_isDigit 34 = .ok (.iconst 0, 1) := by decide +kernel
theorem dX4_isDigit_35 : decode cX4_isDigit 35 = .ok (.ireturn, 1) := by decide +kernel
set_option maxRecDepth 20000 in
theorem ggX4_isAtDigit_X4_skipSpaces : GoodIn wsX4_isAtDigit wsX4_skipSpaces := goodIn_r _ [7, 2, 8, 9, 14, 15, 16, 17, 18, 19] (by decide +kernel) (by decide +kernel)
set_option maxRecDepth 20000 in
theorem gX4_isAtDigit_X4_skipSpaces : GoodIn wsX4_isAtDigit (wsV RX4 42 RX4 yX4_skipSpaces wsX4_skipSpaces) := goodIn_app (goodIn_of _ (by decide +kernel)) ggX4_isAtDigit_X4_skipSpaces
set_option maxRecDepth 20000 in
theorem ggX4_isAtDigit_X4_isDigit : GoodIn wsX4_isAtDigit wsX4_isDigit := goodIn_r _ [13, 8, 9, 14, 15, 16, 17, 18, 19] (by decide +kernel) (by decide +kernel)
set_option maxRecDepth 20000 in
theorem gX4_isAtDigit_X4_isDigit : GoodIn wsX4_isAtDigit (wsV RX4 119 RX4 yX4_isDigit wsX4_isDigit) := goodIn_app (goodIn_of _ (by decide +kernel)) ggX4_isAtDigit_X4_isDigit
theorem dX4_isAtDigit_0 : decode cX4_isAtDigit 0 = .ok (.aload_n 0, 1) := by decide +kernel
theorem dX4_isAtDigit_1 : decode cX4_isAtDigit 1 = .ok (.invokevirtual 42, 3) := by decide +kernel
theorem dX4_isAtDigit_4 : decode cX4_isAtDigit 4 = .ok (.aload_n 0, 1) := by decide +kernel
theorem dX4_isAtDigit_5 : decode cX4_isAtDigit 5 = .ok (.getfield 25, 3) := by decide +kernel
theorem dX4_isAtDigit_8 : decode cX4_isAtDigit 8 = .ok (.ifCond .ne 18, 3) := by decide +kernel
theorem dX4_isAtDigit_11 : decode cX4_isAtDigit 11 = .ok (.aload_n 0, 1) := by decide +kernel
theorem dX4_isAtDigit_12 : decode cX4_isAtDigit 12 = .ok (.aload_n 0, 1) := by decide +kernel
theorem dX4_isAtDigit_13 : decode cX4_isAtDigit 13 = .ok (.getfield 19, 3) := by decide +kernel
theorem dX4_isAtDigit_16 : decode cX4_isAtDigit 16 = .ok (.invokevirtual 119, 3) := by decide +kernel
theorem dX4_isAtDigit_19 : decode cX4_isAtDigit 19 = .ok (.ifCond .eq 7, 3) := by decide +kernel
theorem dX4_isAtDigit_22 : decode cX4_isAtDigit 22 = .ok (.iconst 1, 1) := by decide +kernel
theorem dX4_isAtDigit_23 : decode cX4_isAtDigit 23 = .ok (.goto 4, 3) := by decide +kernel
theorem dX4_isAtDigit_26 : decode cX4_isAtDigit 26 = .ok (.iconst 0, 1) := by decide +kernel
theorem dX4_isAtDigit_27 : decode cX4_isAtDigit 27 = .ok (.ireturn, 1) := by decide +kernel
set_option maxRecDepth 20000 in
theorem ggX4_takesWord_X4_skipSpaces : GoodIn wsX4_takesWord wsX4_skipSpaces := goodIn_r _ [9, 2, 3, 4, 63, 64, 65, 66, 67, 68] (by decide +kernel) (by decide +kernel)
set_option maxRecDepth 20000 in
theorem gX4_takesWord_X4_skipSpaces : GoodIn wsX4_takesWord (wsV RX4 42 RX4 yX4_skipSpaces wsX4_skipSpaces) := goodIn_app (goodIn_of _ (by decide +kernel)) ggX4_takesWord_X4_skipSpaces
set_option maxRecDepth 20000 in
theorem ggX4_takesWord_J0_length_8abf5 : GoodIn wsX4_takesWord wsJ0_length_8abf5 := goodIn_r _ [14, 15, 16, 17, 18, 13, 19, 20, 21] (by decide +kernel) (by decide +kernel)
set_option maxRecDepth 20000 in
theorem gX4_takesWord_J0_length_8abf5 : GoodIn wsX4_takesWord (wsV RX4 123 RJ0 yJ0_length_8abf5 wsJ0_length_8abf5) := goodIn_app (goodIn_of _ (by decide +kernel)) ggX4_takesWord_J0_length_8abf5
set_option maxRecDepth 20000 in
theorem ggX4_takesWord_X4_isLetter : GoodIn wsX4_takesWord wsX4_isLetter := goodIn_r _ [25, 3, 4, 63, 64, 65, 66, 67, 68] (by decide +kernel) (by decide +kernel)
set_option maxRecDepth 20000 in
theorem gX4_takesWord_X4_isLetter : GoodIn wsX4_takesWord (wsV RX4 128 RX4 yX4_isLetter wsX4_isLetter) := goodIn_app (goodIn_of _ (by decide +kernel)) ggX4_takesWord_X4_isLetter
set_option maxRecDepth 20000 in
theorem ggX4_takesWord_J0_charAt_5068e : GoodIn wsX4_takesWord wsJ0_charAt_5068e := goodIn_r _ [29, 15, 30, 31, 32, 13, 33, 20, 21, 34, 35, 36, 37, 38, 39, 40, 41, 42, 43, 44, 45, 46, 47, 48, 49, 50, 51, 52, 53, 54, 55, 56, 57, 58, 59, 60, 61, 62] (by decide +kernel) (by decide +kernel)
set_option maxRecDepth 20000 in
theorem gX4_takesWord_J0_charAt_5068e : GoodIn wsX4_takesWord (wsV RX4 131 RJ0 yJ0_charAt_5068e wsJ0_charAt_5068e) := goodIn_app (goodIn_of _ (by decide +kernel)) ggX4_takesWord_J0_charAt_5068e
theorem dX4_takesWord_0 : decode cX4_takesWord 0 = .ok (.aload_n 0, 1) := by decide +kernel
theorem dX4_takesWord_1 : decode cX4_takesWord 1 = .ok (.invokevirtual 42, 3) := by decide +kernel
theorem dX4_takesWord_4 : decode cX4_takesWord 4 = .ok (.aload_n 1, 1) := by decide +kernel
theorem dX4_takesWord_5 : decode cX4_takesWord 5 = .ok (.invokevirtual 123, 3) := by decide +kernel
theorem dX4_takesWord_8 : decode cX4_takesWord 8 = .ok (.istore_n 2, 1) := by decide +kernel
theorem dX4_takesWord_9 : decode cX4_takesWord 9 = .ok (.aload_n 0, 1) := by decide +kernel
theorem dX4_takesWord_10 : decode cX4_takesWord 10 = .ok (.getfield 25, 3) := by decide +kernel
theorem dX4_takesWord_13 : decode cX4_takesWord 13 = .ok (.ifCond .ne 29, 3) := by decide +kernel
theorem dX4_takesWord_16 : decode cX4_takesWord 16 = .ok (.aload_n 0, 1) := by decide +kernel
theorem dX4_takesWord_17 : decode cX4_takesWord 17 = .ok (.getfield 19, 3) := by decide +kernel
theorem dX4_takesWord_20 : decode cX4_takesWord 20 = .ok (.iload_n 2, 1) := by decide +kernel
theorem dX4_takesWord_21 : decode cX4_takesWord 21 = .ok (.iadd, 1) := by decide +kernel
theorem dX4_takesWord_22 : decode cX4_takesWord 22 = .ok (.aload_n 0, 1) := by decide +kernel
theorem dX4_takesWord_23 : decode cX4_takesWord 23 = .ok (.getfield 15, 3) := by decide +kernel
theorem dX4_takesWord_26 : decode cX4_takesWord 26 = .ok (.if_icmp .gt 16, 3) := by decide +kernel
theorem dX4_takesWord_29 : decode cX4_takesWord 29 = .ok (.aload_n 0, 1) := by decide +kernel
theorem dX4_takesWord_30 : decode cX4_takesWord 30 = .ok (.aload_n 0, 1) := by decide +kernel
theorem dX4_takesWord_31 : decode cX4_takesWord 31 = .ok (.getfield 19, 3) := by decide +kernel
theorem dX4_takesWord_34 : decode cX4_takesWord 34 = .ok (.iload_n 2, 1) := by decide +kernel
theorem dX4_takesWord_35 : decode cX4_takesWord 35 = .ok (.iadd, 1) := by decide +kernel
theorem dX4_takesWord_36 : decode cX4_takesWord 36 = .ok (.invokevirtual 128, 3) := by decide +kernel
theorem dX4_takesWord_39 : decode cX4_takesWord 39 = .ok (.ifCond .eq 5, 3) := by decide +kernel
theorem dX4_takesWord_42 : decode cX4_takesWord 42 = .ok (.iconst 0, 1) := by decide +kernel
theorem dX4_takesWord_43 : decode cX4_takesWord 43 = .ok (.ireturn, 1) := by decide +kernel
theorem dX4_takesWord_44 : decode cX4_takesWord 44 = .ok (.iconst 0, 1) := by decide +kernel
theorem dX4_takesWord_45 : decode cX4_takesWord 45 = .ok (.istore_n 3, 1) := by decide +kernel
theorem dX4_takesWord_46 : decode cX4_takesWord 46 = .ok (.iload_n 3, 1) := by decide +kernel
theorem dX4_takesWord_47 : decode cX4_takesWord 47 = .ok (.iload_n 2, 1) := by decide +kernel
theorem dX4_takesWord_48 : decode cX4_takesWord 48 = .ok (.if_icmp .ge 30, 3) := by decide +kernel
theorem dX4_takesWord_51 : decode cX4_takesWord 51 = .ok (.aload_n 0, 1) := by decide +kernel
theorem dX4_takesWord_52 : decode cX4_takesWord 52 = .ok (.getfield 9, 3) := by decide +kernel
theorem dX4_takesWord_55 : decode cX4_takesWord 55 = .ok (.aload_n 0, 1) := by decide +kernel
theorem dX4_takesWord_56 : decode cX4_takesWord 56 = .ok (.getfield 19, 3) := by decide +kernel
theorem dX4_takesWord_59 : decode cX4_takesWord 59 = .ok (.iload_n 3, 1) := by decide +kernel
theorem dX4_takesWord_60 : decode cX4_takesWord 60 = .ok (.iadd, 1) := by decide +kernel
theorem dX4_takesWord_61 : decode cX4_takesWord 61 = .ok (.iaload, 1) := by decide +kernel
theorem dX4_takesWord_62 : decode cX4_takesWord 62 = .ok (.aload_n 1, 1) := by decide +kernel
theorem dX4_takesWord_63 : decode cX4_takesWord 63 = .ok (.iload_n 3, 1) := by decide +kernel
theorem dX4_takesWord_64 : decode cX4_takesWord 64 = .ok (.invokevirtual 131, 3) := by decide +kernel
theorem dX4_takesWord_67 : decode cX4_takesWord 67 = .ok (.if_icmp .eq 5, 3) := by decide +kernel
theorem dX4_takesWord_70 : decode cX4_takesWord 70 = .ok (.iconst 0, 1) := by decide +kernel
theorem dX4_takesWord_71 : decode cX4_takesWord 71 = .ok (.ireturn, 1) := by decide +kernel
theorem dX4_takesWord_72 : decode cX4_takesWord 72 = .ok (.iinc 3 1, 3) := by decide +kernel
theorem dX4_takesWord_75 : decode cX4_takesWord 75 = .ok (.goto (-29), 3) := by decide +kernel
theorem dX4_takesWord_78 : decode cX4_takesWord 78 = .ok (.aload_n 0, 1) := by decide +kernel
theorem dX4_takesWord_79 : decode cX4_takesWord 79 = .ok (.dup, 1) := by decide +kernel
theorem dX4_takesWord_80 : decode cX4_takesWord 80 = .ok (.getfield 19, 3) := by decide +kernel
theorem dX4_takesWord_83 : decode cX4_takesWord 83 = .ok (.iload_n 2, 1) := by decide +kernel
theorem dX4_takesWord_84 : decode cX4_takesWord 84 = .ok (.iadd, 1) := by decide +kernel
theorem dX4_takesWord_85 : decode cX4_takesWord 85 = .ok (.putfield 19, 3) := by decide +kernel
theorem dX4_takesWord_88 : decode cX4_takesWord 88 = .ok (.iconst 1, 1) := by decide +kernel
theorem dX4_takesWord_89 : decode cX4_takesWord 89 = .ok (.ireturn, 1) := by decide +kernel
set_option maxRecDepth 20000 in
theorem ggX4_readWord_X4_takesWord : GoodIn wsX4_readWord wsX4_takesWord := goodIn_r _ [6, 7, 1, 8, 9, 10, 11, 12, 5, 13, 14, 15, 16, 17, 18, 19, 20, 21, 22, 23, 24, 25, 26, 27, 28, 29, 30, 31, 32, 33, 34, 35, 36, 37, 38, 39, 40, 41, 42, 43, 44, 45, 46, 47, 48, 49, 50, 51, 52, 53, 54, 55, 56, 57, 58, 59, 60, 61, 62, 63, 64, 65, 66, 72, 73, 74, 75, 76, 77] (by decide +kernel) (by decide +kernel)
set_option maxRecDepth 20000 in
theorem gX4_readWord_X4_takesWord : GoodIn wsX4_readWord (wsV RX4 51 RX4 yX4_takesWord wsX4_takesWord) := goodIn_app (goodIn_of _ (by decide +kernel)) ggX4_readWord_X4_takesWord
set_option maxRecDepth 20000 in
theorem ggX4_readWord_X4_fail : GoodIn wsX4_readWord wsX4_fail := goodIn_r _ [70, 7, 71, 72, 73, 74, 75, 76, 77] (by decide +kernel) (by decide +kernel)
set_option maxRecDepth 20000 in
theorem gX4_readWord_X4_fail : GoodIn wsX4_readWord (wsV RX4 76 RX4 yX4_fail wsX4_fail) := goodIn_app (goodIn_of _ (by decide +kernel)) ggX4_readWord_X4_fail
theorem dX4_readWord_0 : decode cX4_readWord 0 = .ok (.aload_n 0, 1) := by decide +kernel
theorem dX4_readWord_1 : decode cX4_readWord 1 = .ok (.aload_n 1, 1) := by decide +kernel
theorem dX4_readWord_2 : decode cX4_readWord 2 = .ok (.invokevirtual 51, 3) := by decide +kernel
theorem dX4_readWord_5 : decode cX4_readWord 5 = .ok (.ifCond .ne 13, 3) := by decide +kernel
theorem dX4_readWord_8 : decode cX4_readWord 8 = .ok (.aload_n 0, 1) := by decide +kernel
theorem dX4_readWord_9 : decode cX4_readWord 9 = .ok (.bipush (-2), 2) := by decide +kernel
theorem dX4_readWord_11 : decode cX4_readWord 11 = .ok (.aload_n 0, 1) := by decide +kernel
theorem dX4_readWord_12 : decode cX4_readWord 12 = .ok (.getfield 19, 3) := by decide +kernel
theorem dX4_readWord_15 : decode cX4_readWord 15 = .ok (.invokevirtual 76, 3) := by decide +kernel
theorem dX4_readWord_18 : decode cX4_readWord 18 = .ok (.return_, 1) := by decide +kernel
set_option maxRecDepth 20000 in
theorem ggX4_readNumber_X4_isAtDigit : GoodIn wsX4_readNumber wsX4_isAtDigit := goodIn_r _ [12, 13, 1, 14, 15, 16, 11, 17, 2, 3, 18, 19, 20, 21, 30, 31, 32, 33, 34, 35] (by decide +kernel) (by decide +kernel)
set_option maxRecDepth 20000 in
theorem gX4_readNumber_X4_isAtDigit : GoodIn wsX4_readNumber (wsV RX4 86 RX4 yX4_isAtDigit wsX4_isAtDigit) := goodIn_app (goodIn_of _ (by decide +kernel)) ggX4_readNumber_X4_isAtDigit
set_option maxRecDepth 20000 in
theorem ggX4_readNumber_X4_fail : GoodIn wsX4_readNumber wsX4_fail := goodIn_r _ [25, 13, 26, 30, 31, 32, 33, 34, 35] (by decide +kernel) (by decide +kernel)
set_option maxRecDepth 20000 in
theorem gX4_readNumber_X4_fail : GoodIn wsX4_readNumber (wsV RX4 76 RX4 yX4_fail wsX4_fail) := goodIn_app (goodIn_of _ (by decide +kernel)) ggX4_readNumber_X4_fail
set_option maxRecDepth 20000 in
theorem ggX4_readNumber_X4_isDigit : GoodIn wsX4_readNumber wsX4_isDigit := goodIn_r _ [21, 2, 3, 30, 31, 32, 33, 34, 35] (by decide +kernel) (by decide +kernel)
set_option maxRecDepth 20000 in
theorem gX4_readNumber_X4_isDigit : GoodIn wsX4_readNumber (wsV RX4 119 RX4 yX4_isDigit wsX4_isDigit) := goodIn_app (goodIn_of _ (by decide +kernel)) ggX4_readNumber_X4_isDigit
set_option maxRecDepth 20000 in
theorem ggX4_readNumber_X5_isOutside : GoodIn wsX4_readNumber wsX5_isOutside := goodIn_r _ [29] (by decide +kernel) (by decide +kernel)
set_option maxRecDepth 20000 in
theorem gX4_readNumber_X5_isOutside_n135 : GoodIn wsX4_readNumber (wsX5_isOutside) := ggX4_readNumber_X5_isOutside
theorem dX4_readNumber_0 : decode cX4_readNumber 0 = .ok (.aload_n 0, 1) := by decide +kernel
theorem dX4_readNumber_1 : decode cX4_readNumber 1 = .ok (.invokevirtual 86, 3) := by decide +kernel
theorem dX4_readNumber_4 : decode cX4_readNumber 4 = .ok (.ifCond .ne 15, 3) := by decide +kernel
theorem dX4_readNumber_7 : decode cX4_readNumber 7 = .ok (.aload_n 0, 1) := by decide +kernel
theorem dX4_readNumber_8 : decode cX4_readNumber 8 = .ok (.bipush (-2), 2) := by decide +kernel
theorem dX4_readNumber_10 : decode cX4_readNumber 10 = .ok (.aload_n 0, 1) := by decide +kernel
theorem dX4_readNumber_11 : decode cX4_readNumber 11 = .ok (.getfield 19, 3) := by decide +kernel
theorem dX4_readNumber_14 : decode cX4_readNumber 14 = .ok (.invokevirtual 76, 3) := by decide +kernel
theorem dX4_readNumber_17 : decode cX4_readNumber 17 = .ok (.iconst 0, 1) := by decide +kernel
theorem dX4_readNumber_18 : decode cX4_readNumber 18 = .ok (.ireturn, 1) := by decide +kernel
theorem dX4_readNumber_19 : decode cX4_readNumber 19 = .ok (.aload_n 0, 1) := by decide +kernel
theorem dX4_readNumber_20 : decode cX4_readNumber 20 = .ok (.getfield 19, 3) := by decide +kernel
theorem dX4_readNumber_23 : decode cX4_readNumber 23 = .ok (.istore_n 3, 1) := by decide +kernel
theorem dX4_readNumber_24 : decode cX4_readNumber 24 = .ok (.iconst 0, 1) := by decide +kernel
theorem dX4_readNumber_25 : decode cX4_readNumber 25 = .ok (.istore 4, 2) := by decide +kernel
theorem dX4_readNumber_27 : decode cX4_readNumber 27 = .ok (.aload_n 0, 1) := by decide +kernel
theorem dX4_readNumber_28 : decode cX4_readNumber 28 = .ok (.getfield 19, 3) := by decide +kernel
theorem dX4_readNumber_31 : decode cX4_readNumber 31 = .ok (.aload_n 0, 1) := by decide +kernel
theorem dX4_readNumber_32 : decode cX4_readNumber 32 = .ok (.getfield 15, 3) := by decide +kernel
theorem dX4_readNumber_35 : decode cX4_readNumber 35 = .ok (.if_icmp .ge 53, 3) := by decide +kernel
theorem dX4_readNumber_38 : decode cX4_readNumber 38 = .ok (.aload_n 0, 1) := by decide +kernel
theorem dX4_readNumber_39 : decode cX4_readNumber 39 = .ok (.aload_n 0, 1) := by decide +kernel
theorem dX4_readNumber_40 : decode cX4_readNumber 40 = .ok (.getfield 19, 3) := by decide +kernel
theorem dX4_readNumber_43 : decode cX4_readNumber 43 = .ok (.invokevirtual 119, 3) := by decide +kernel
theorem dX4_readNumber_46 : decode cX4_readNumber 46 = .ok (.ifCond .eq 42, 3) := by decide +kernel
theorem dX4_readNumber_49 : decode cX4_readNumber 49 = .ok (.iload 4, 2) := by decide +kernel
theorem dX4_readNumber_51 : decode cX4_readNumber 51 = .ok (.bipush 10, 2) := by decide +kernel
theorem dX4_readNumber_53 : decode cX4_readNumber 53 = .ok (.imul, 1) := by decide +kernel
theorem dX4_readNumber_54 : decode cX4_readNumber 54 = .ok (.aload_n 0, 1) := by decide +kernel
theorem dX4_readNumber_55 : decode cX4_readNumber 55 = .ok (.getfield 9, 3) := by decide +kernel
theorem dX4_readNumber_58 : decode cX4_readNumber 58 = .ok (.aload_n 0, 1) := by decide +kernel
theorem dX4_readNumber_59 : decode cX4_readNumber 59 = .ok (.getfield 19, 3) := by decide +kernel
theorem dX4_readNumber_62 : decode cX4_readNumber 62 = .ok (.iaload, 1) := by decide +kernel
theorem dX4_readNumber_63 : decode cX4_readNumber 63 = .ok (.iadd, 1) := by decide +kernel
theorem dX4_readNumber_64 : decode cX4_readNumber 64 = .ok (.bipush 48, 2) := by decide +kernel
theorem dX4_readNumber_66 : decode cX4_readNumber 66 = .ok (.isub, 1) := by decide +kernel
theorem dX4_readNumber_67 : decode cX4_readNumber 67 = .ok (.sipush 10000, 3) := by decide +kernel
theorem dX4_readNumber_70 : decode cX4_readNumber 70 = .ok (.invokestatic 31, 3) := by decide +kernel
theorem dX4_readNumber_73 : decode cX4_readNumber 73 = .ok (.istore 4, 2) := by decide +kernel
theorem dX4_readNumber_75 : decode cX4_readNumber 75 = .ok (.aload_n 0, 1) := by decide +kernel
theorem dX4_readNumber_76 : decode cX4_readNumber 76 = .ok (.dup, 1) := by decide +kernel
theorem dX4_readNumber_77 : decode cX4_readNumber 77 = .ok (.getfield 19, 3) := by decide +kernel
theorem dX4_readNumber_80 : decode cX4_readNumber 80 = .ok (.iconst 1, 1) := by decide +kernel
theorem dX4_readNumber_81 : decode cX4_readNumber 81 = .ok (.iadd, 1) := by decide +kernel
theorem dX4_readNumber_82 : decode cX4_readNumber 82 = .ok (.putfield 19, 3) := by decide +kernel
theorem dX4_readNumber_85 : decode cX4_readNumber 85 = .ok (.goto (-58), 3) := by decide +kernel
theorem dX4_readNumber_88 : decode cX4_readNumber 88 = .ok (.iload 4, 2) := by decide +kernel
theorem dX4_readNumber_90 : decode cX4_readNumber 90 = .ok (.iload_n 1, 1) := by decide +kernel
theorem dX4_readNumber_91 : decode cX4_readNumber 91 = .ok (.iload_n 2, 1) := by decide +kernel
theorem dX4_readNumber_92 : decode cX4_readNumber 92 = .ok (.invokestatic 135, 3) := by decide +kernel
theorem dX4_readNumber_95 : decode cX4_readNumber 95 = .ok (.ifCond .eq 12, 3) := by decide +kernel
theorem dX4_readNumber_98 : decode cX4_readNumber 98 = .ok (.aload_n 0, 1) := by decide +kernel
theorem dX4_readNumber_99 : decode cX4_readNumber 99 = .ok (.bipush (-3), 2) := by decide +kernel
theorem dX4_readNumber_101 : decode cX4_readNumber 101 = .ok (.iload_n 3, 1) := by decide +kernel
theorem dX4_readNumber_102 : decode cX4_readNumber 102 = .ok (.invokevirtual 76, 3) := by decide +kernel
theorem dX4_readNumber_105 : decode cX4_readNumber 105 = .ok (.iconst 0, 1) := by decide +kernel
theorem dX4_readNumber_106 : decode cX4_readNumber 106 = .ok (.ireturn, 1) := by decide +kernel
theorem dX4_readNumber_107 : decode cX4_readNumber 107 = .ok (.iload 4, 2) := by decide +kernel
theorem dX4_readNumber_109 : decode cX4_readNumber 109 = .ok (.ireturn, 1) := by decide +kernel
set_option maxRecDepth 20000 in
theorem ggX4_readSemicolon_X4_skipSpaces : GoodIn wsX4_readSemicolon wsX4_skipSpaces := goodIn_r _ [9, 2, 3, 4, 15, 16, 17, 18, 19, 20] (by decide +kernel) (by decide +kernel)
set_option maxRecDepth 20000 in
theorem gX4_readSemicolon_X4_skipSpaces : GoodIn wsX4_readSemicolon (wsV RX4 42 RX4 yX4_skipSpaces wsX4_skipSpaces) := goodIn_app (goodIn_of _ (by decide +kernel)) ggX4_readSemicolon_X4_skipSpaces
set_option maxRecDepth 20000 in
theorem ggX4_readSemicolon_X4_fail : GoodIn wsX4_readSemicolon wsX4_fail := goodIn_r _ [13, 1, 14, 15, 16, 17, 18, 19, 20] (by decide +kernel) (by decide +kernel)
set_option maxRecDepth 20000 in
theorem gX4_readSemicolon_X4_fail : GoodIn wsX4_readSemicolon (wsV RX4 76 RX4 yX4_fail wsX4_fail) := goodIn_app (goodIn_of _ (by decide +kernel)) ggX4_readSemicolon_X4_fail
theorem dX4_readSemicolon_0 : decode cX4_readSemicolon 0 = .ok (.aload_n 0, 1) := by decide +kernel
theorem dX4_readSemicolon_1 : decode cX4_readSemicolon 1 = .ok (.invokevirtual 42, 3) := by decide +kernel
theorem dX4_readSemicolon_4 : decode cX4_readSemicolon 4 = .ok (.aload_n 0, 1) := by decide +kernel
theorem dX4_readSemicolon_5 : decode cX4_readSemicolon 5 = .ok (.getfield 25, 3) := by decide +kernel
theorem dX4_readSemicolon_8 : decode cX4_readSemicolon 8 = .ok (.ifCond .ne 41, 3) := by decide +kernel
theorem dX4_readSemicolon_11 : decode cX4_readSemicolon 11 = .ok (.aload_n 0, 1) := by decide +kernel
theorem dX4_readSemicolon_12 : decode cX4_readSemicolon 12 = .ok (.getfield 19, 3) := by decide +kernel
theorem dX4_readSemicolon_15 : decode cX4_readSemicolon 15 = .ok (.aload_n 0, 1) := by decide +kernel
theorem dX4_readSemicolon_16 : decode cX4_readSemicolon 16 = .ok (.getfield 15, 3) := by decide +kernel
theorem dX4_readSemicolon_19 : decode cX4_readSemicolon 19 = .ok (.if_icmp .ge 30, 3) := by decide +kernel
theorem dX4_readSemicolon_22 : decode cX4_readSemicolon 22 = .ok (.aload_n 0, 1) := by decide +kernel
theorem dX4_readSemicolon_23 : decode cX4_readSemicolon 23 = .ok (.getfield 9, 3) := by decide +kernel
theorem dX4_readSemicolon_26 : decode cX4_readSemicolon 26 = .ok (.aload_n 0, 1) := by decide +kernel
theorem dX4_readSemicolon_27 : decode cX4_readSemicolon 27 = .ok (.getfield 19, 3) := by decide +kernel
theorem dX4_readSemicolon_30 : decode cX4_readSemicolon 30 = .ok (.iaload, 1) := by decide +kernel
theorem dX4_readSemicolon_31 : decode cX4_readSemicolon 31 = .ok (.bipush 59, 2) := by decide +kernel
theorem dX4_readSemicolon_33 : decode cX4_readSemicolon 33 = .ok (.if_icmp .ne 16, 3) := by decide +kernel
theorem dX4_readSemicolon_36 : decode cX4_readSemicolon 36 = .ok (.aload_n 0, 1) := by decide +kernel
theorem dX4_readSemicolon_37 : decode cX4_readSemicolon 37 = .ok (.dup, 1) := by decide +kernel
theorem dX4_readSemicolon_38 : decode cX4_readSemicolon 38 = .ok (.getfield 19, 3) := by decide +kernel
theorem dX4_readSemicolon_41 : decode cX4_readSemicolon 41 = .ok (.iconst 1, 1) := by decide +kernel
theorem dX4_readSemicolon_42 : decode cX4_readSemicolon 42 = .ok (.iadd, 1) := by decide +kernel
theorem dX4_readSemicolon_43 : decode cX4_readSemicolon 43 = .ok (.putfield 19, 3) := by decide +kernel
theorem dX4_readSemicolon_46 : decode cX4_readSemicolon 46 = .ok (.goto 13, 3) := by decide +kernel
theorem dX4_readSemicolon_49 : decode cX4_readSemicolon 49 = .ok (.aload_n 0, 1) := by decide +kernel
theorem dX4_readSemicolon_50 : decode cX4_readSemicolon 50 = .ok (.bipush (-2), 2) := by decide +kernel
theorem dX4_readSemicolon_52 : decode cX4_readSemicolon 52 = .ok (.aload_n 0, 1) := by decide +kernel
theorem dX4_readSemicolon_53 : decode cX4_readSemicolon 53 = .ok (.getfield 19, 3) := by decide +kernel
theorem dX4_readSemicolon_56 : decode cX4_readSemicolon 56 = .ok (.invokevirtual 76, 3) := by decide +kernel
theorem dX4_readSemicolon_59 : decode cX4_readSemicolon 59 = .ok (.return_, 1) := by decide +kernel
set_option maxRecDepth 20000 in
theorem ggX5_init_X4_init : GoodIn wsX5_init wsX4_init := goodIn_r _ [33, 34, 2, 3, 4, 35, 36, 37, 38, 39, 40, 108, 109, 110, 111, 112, 113] (by decide +kernel) (by decide +kernel)
set_option maxRecDepth 20000 in
theorem gX5_init_X4_init_n22 : GoodIn wsX5_init (wsX4_init) := ggX5_init_X4_init
set_option maxRecDepth 20000 in
theorem ggX5_init_X2_init : GoodIn wsX5_init wsX2_init := goodIn_r _ [43, 44, 2, 3, 45, 4, 46, 47, 48, 49, 50, 51, 52, 53, 54, 55, 56, 57, 58, 59, 114, 115, 116, 117, 118, 119, 120, 121, 122, 123, 124, 125, 126, 127] (by decide +kernel) (by decide +kernel)
set_option maxRecDepth 20000 in
theorem gX5_init_X2_init : GoodIn wsX5_init (wsX2_init) := ggX5_init_X2_init
set_option maxRecDepth 20000 in
theorem ggX5_init_X0_init : GoodIn wsX5_init wsX0_init := goodIn_r _ [62, 63, 2, 3, 64, 65, 66, 67, 13, 14, 68, 42, 43, 44, 45, 4, 46, 47, 48, 49, 50, 51, 52, 53, 54, 55, 56, 57, 58, 59, 128, 129, 130, 114, 115, 116, 117, 118, 119, 120, 121, 122, 123, 124, 125, 126, 127] (by decide +kernel) (by decide +kernel)
set_option maxRecDepth 20000 in
theorem gX5_init_X0_init : GoodIn wsX5_init (wsX0_init) := ggX5_init_X0_init
set_option maxRecDepth 20000 in
theorem ggX5_init_X3_init : GoodIn wsX5_init wsX3_init := goodIn_r _ [70, 71, 2, 3, 72, 13, 14, 73, 4, 74, 75, 76, 77, 78, 79, 80, 81, 82, 83, 42, 43, 44, 45, 46, 47, 48, 49, 50, 51, 52, 53, 54, 55, 56, 57, 58, 59, 114, 115, 116, 117, 118, 119, 120, 121, 122, 123, 124, 125, 126, 127, 131, 132, 133, 134, 135, 136, 137, 138, 139, 140] (by decide +kernel) (by decide +kernel)
set_option maxRecDepth 20000 in
theorem gX5_init_X3_init_n46 : GoodIn wsX5_init (wsX3_init) := ggX5_init_X3_init
set_option maxRecDepth 20000 in
theorem ggX5_init_X1_init : GoodIn wsX5_init wsX1_init := goodIn_r _ [85, 86, 2, 3, 87, 13, 14, 88, 89, 90, 91, 4, 92, 93, 94, 95, 42, 43, 44, 45, 46, 47, 48, 49, 50, 51, 52, 53, 54, 55, 56, 57, 58, 59, 114, 115, 116, 117, 118, 119, 120, 121, 122, 123, 124, 125, 126, 127, 141, 142, 143, 144, 145, 146, 147] (by decide +kernel) (by decide +kernel)
set_option maxRecDepth 20000 in
theorem gX5_init_X1_init_n56 : GoodIn wsX5_init (wsX1_init) := ggX5_init_X1_init
theorem dX5_init_0 : decode cX5_init 0 = .ok (.aload_n 0, 1) := by decide +kernel
theorem dX5_init_1 : decode cX5_init 1 = .ok (.invokespecial 1, 3) := by decide +kernel
theorem dX5_init_4 : decode cX5_init 4 = .ok (.aload_n 0, 1) := by decide +kernel
theorem dX5_init_5 : decode cX5_init 5 = .ok (.sipush 600, 3) := by decide +kernel
theorem dX5_init_8 : decode cX5_init 8 = .ok (.newarray .int, 2) := by decide +kernel
theorem dX5_init_10 : decode cX5_init 10 = .ok (.putfield 9, 3) := by decide +kernel
theorem dX5_init_13 : decode cX5_init 13 = .ok (.aload_n 0, 1) := by decide +kernel
theorem dX5_init_14 : decode cX5_init 14 = .ok (.iconst 0, 1) := by decide +kernel
theorem dX5_init_15 : decode cX5_init 15 = .ok (.putfield 13, 3) := by decide +kernel
theorem dX5_init_18 : decode cX5_init 18 = .ok (.aload_n 0, 1) := by decide +kernel
theorem dX5_init_19 : decode cX5_init 19 = .ok (.iconst (-1), 1) := by decide +kernel
theorem dX5_init_20 : decode cX5_init 20 = .ok (.putfield 17, 3) := by decide +kernel
theorem dX5_init_23 : decode cX5_init 23 = .ok (.aload_n 0, 1) := by decide +kernel
theorem dX5_init_24 : decode cX5_init 24 = .ok (.new 20, 3) := by decide +kernel
theorem dX5_init_27 : decode cX5_init 27 = .ok (.dup, 1) := by decide +kernel
theorem dX5_init_28 : decode cX5_init 28 = .ok (.invokespecial 22, 3) := by decide +kernel
theorem dX5_init_31 : decode cX5_init 31 = .ok (.putfield 23, 3) := by decide +kernel
theorem dX5_init_34 : decode cX5_init 34 = .ok (.aload_n 0, 1) := by decide +kernel
theorem dX5_init_35 : decode cX5_init 35 = .ok (.new 27, 3) := by decide +kernel
theorem dX5_init_38 : decode cX5_init 38 = .ok (.dup, 1) := by decide +kernel
theorem dX5_init_39 : decode cX5_init 39 = .ok (.invokespecial 29, 3) := by decide +kernel
theorem dX5_init_42 : decode cX5_init 42 = .ok (.putfield 30, 3) := by decide +kernel
theorem dX5_init_45 : decode cX5_init 45 = .ok (.aload_n 0, 1) := by decide +kernel
theorem dX5_init_46 : decode cX5_init 46 = .ok (.new 27, 3) := by decide +kernel
theorem dX5_init_49 : decode cX5_init 49 = .ok (.dup, 1) := by decide +kernel
theorem dX5_init_50 : decode cX5_init 50 = .ok (.invokespecial 29, 3) := by decide +kernel
theorem dX5_init_53 : decode cX5_init 53 = .ok (.putfield 34, 3) := by decide +kernel
theorem dX5_init_56 : decode cX5_init 56 = .ok (.aload_n 0, 1) := by decide +kernel
theorem dX5_init_57 : decode cX5_init 57 = .ok (.new 37, 3) := by decide +kernel
theorem dX5_init_60 : decode cX5_init 60 = .ok (.dup, 1) := by decide +kernel
theorem dX5_init_61 : decode cX5_init 61 = .ok (.invokespecial 39, 3) := by decide +kernel
theorem dX5_init_64 : decode cX5_init 64 = .ok (.putfield 40, 3) := by decide +kernel
theorem dX5_init_67 : decode cX5_init 67 = .ok (.aload_n 0, 1) := by decide +kernel
theorem dX5_init_68 : decode cX5_init 68 = .ok (.new 44, 3) := by decide +kernel
theorem dX5_init_71 : decode cX5_init 71 = .ok (.dup, 1) := by decide +kernel
theorem dX5_init_72 : decode cX5_init 72 = .ok (.invokespecial 46, 3) := by decide +kernel
theorem dX5_init_75 : decode cX5_init 75 = .ok (.putfield 47, 3) := by decide +kernel
theorem dX5_init_78 : decode cX5_init 78 = .ok (.aload_n 0, 1) := by decide +kernel
theorem dX5_init_79 : decode cX5_init 79 = .ok (.new 44, 3) := by decide +kernel
theorem dX5_init_82 : decode cX5_init 82 = .ok (.dup, 1) := by decide +kernel
theorem dX5_init_83 : decode cX5_init 83 = .ok (.invokespecial 46, 3) := by decide +kernel
theorem dX5_init_86 : decode cX5_init 86 = .ok (.putfield 51, 3) := by decide +kernel
theorem dX5_init_89 : decode cX5_init 89 = .ok (.aload_n 0, 1) := by decide +kernel
theorem dX5_init_90 : decode cX5_init 90 = .ok (.new 54, 3) := by decide +kernel
theorem dX5_init_93 : decode cX5_init 93 = .ok (.dup, 1) := by decide +kernel
theorem dX5_init_94 : decode cX5_init 94 = .ok (.invokespecial 56, 3) := by decide +kernel
theorem dX5_init_97 : decode cX5_init 97 = .ok (.putfield 57, 3) := by decide +kernel
theorem dX5_init_100 : decode cX5_init 100 = .ok (.aload_n 0, 1) := by decide +kernel
theorem dX5_init_101 : decode cX5_init 101 = .ok (.bipush 8, 2) := by decide +kernel
theorem dX5_init_103 : decode cX5_init 103 = .ok (.newarray .int, 2) := by decide +kernel
theorem dX5_init_105 : decode cX5_init 105 = .ok (.putfield 61, 3) := by decide +kernel
theorem dX5_init_108 : decode cX5_init 108 = .ok (.aload_n 0, 1) := by decide +kernel
theorem dX5_init_109 : decode cX5_init 109 = .ok (.iconst 0, 1) := by decide +kernel
theorem dX5_init_110 : decode cX5_init 110 = .ok (.putfield 64, 3) := by decide +kernel
theorem dX5_init_113 : decode cX5_init 113 = .ok (.return_, 1) := by decide +kernel
set_option maxRecDepth 20000 in
theorem ggX5_append_X5_appendFour : GoodIn wsX5_append wsX5_appendFour := goodIn_r _ [8, 3, 9, 10, 11, 12, 13, 14, 15, 16, 17, 18, 19, 20, 21] (by decide +kernel) (by decide +kernel)
set_option maxRecDepth 20000 in
theorem gX5_append_X5_appendFour : GoodIn wsX5_append (wsV RX5 75 RX5 yX5_appendFour wsX5_appendFour) := goodIn_app (goodIn_of _ (by decide +kernel)) ggX5_append_X5_appendFour
theorem dX5_append_0 : decode cX5_append 0 = .ok (.aload_n 0, 1) := by decide +kernel
theorem dX5_append_1 : decode cX5_append 1 = .ok (.getfield 13, 3) := by decide +kernel
theorem dX5_append_4 : decode cX5_append 4 = .ok (.bipush 20, 2) := by decide +kernel
theorem dX5_append_6 : decode cX5_append 6 = .ok (.iadd, 1) := by decide +kernel
theorem dX5_append_7 : decode cX5_append 7 = .ok (.sipush 600, 3) := by decide +kernel
theorem dX5_append_10 : decode cX5_append 10 = .ok (.if_icmp .le 13, 3) := by decide +kernel
theorem dX5_append_13 : decode cX5_append 13 = .ok (.new 68, 3) := by decide +kernel
theorem dX5_append_16 : decode cX5_append 16 = .ok (.dup, 1) := by decide +kernel
theorem dX5_append_17 : decode cX5_append 17 = .ok (.ldc 70, 2) := by decide +kernel
theorem dX5_append_19 : decode cX5_append 19 = .ok (.invokespecial 72, 3) := by decide +kernel
theorem dX5_append_22 : decode cX5_append 22 = .ok (.athrow, 1) := by decide +kernel
theorem dX5_append_23 : decode cX5_append 23 = .ok (.aload_n 0, 1) := by decide +kernel
theorem dX5_append_24 : decode cX5_append 24 = .ok (.iload_n 1, 1) := by decide +kernel
theorem dX5_append_25 : decode cX5_append 25 = .ok (.invokevirtual 75, 3) := by decide +kernel
theorem dX5_append_28 : decode cX5_append 28 = .ok (.aload_n 0, 1) := by decide +kernel
theorem dX5_append_29 : decode cX5_append 29 = .ok (.iload_n 2, 1) := by decide +kernel
theorem dX5_append_30 : decode cX5_append 30 = .ok (.invokevirtual 75, 3) := by decide +kernel
theorem dX5_append_33 : decode cX5_append 33 = .ok (.aload_n 0, 1) := by decide +kernel
theorem dX5_append_34 : decode cX5_append 34 = .ok (.iload_n 3, 1) := by decide +kernel
theorem dX5_append_35 : decode cX5_append 35 = .ok (.invokevirtual 75, 3) := by decide +kernel
theorem dX5_append_38 : decode cX5_append 38 = .ok (.aload_n 0, 1) := by decide +kernel
theorem dX5_append_39 : decode cX5_append 39 = .ok (.iload 4, 2) := by decide +kernel
theorem dX5_append_41 : decode cX5_append 41 = .ok (.invokevirtual 75, 3) := by decide +kernel
theorem dX5_append_44 : decode cX5_append 44 = .ok (.aload_n 0, 1) := by decide +kernel
theorem dX5_append_45 : decode cX5_append 45 = .ok (.iload 5, 2) := by decide +kernel
theorem dX5_append_47 : decode cX5_append 47 = .ok (.invokevirtual 75, 3) := by decide +kernel
theorem dX5_append_50 : decode cX5_append 50 = .ok (.aload_n 0, 1) := by decide +kernel
theorem dX5_append_51 : decode cX5_append 51 = .ok (.getfield 13, 3) := by decide +kernel
theorem dX5_append_54 : decode cX5_append 54 = .ok (.ireturn, 1) := by decide +kernel
theorem dX5_appendFour_0 : decode cX5_appendFour 0 = .ok (.bipush 24, 2) := by decide +kernel
theorem dX5_appendFour_2 : decode cX5_appendFour 2 = .ok (.istore_n 2, 1) := by decide +kernel
theorem dX5_appendFour_3 : decode cX5_appendFour 3 = .ok (.iload_n 2, 1) := by decide +kernel
theorem dX5_appendFour_4 : decode cX5_appendFour 4 = .ok (.ifCond .lt 45, 3) := by decide +kernel
theorem dX5_appendFour_7 : decode cX5_appendFour 7 = .ok (.aload_n 0, 1) := by decide +kernel
theorem dX5_appendFour_8 : decode cX5_appendFour 8 = .ok (.getfield 13, 3) := by decide +kernel
theorem dX5_appendFour_11 : decode cX5_appendFour 11 = .ok (.sipush 600, 3) := by decide +kernel
theorem dX5_appendFour_14 : decode cX5_appendFour 14 = .ok (.if_icmp .ge 35, 3) := by decide +kernel
theorem dX5_appendFour_17 : decode cX5_appendFour 17 = .ok (.aload_n 0, 1) := by decide +kernel
theorem dX5_appendFour_18 : decode cX5_appendFour 18 = .ok (.getfield 9, 3) := by decide +kernel
theorem dX5_appendFour_21 : decode cX5_appendFour 21 = .ok (.aload_n 0, 1) := by decide +kernel
theorem dX5_appendFour_22 : decode cX5_appendFour 22 = .ok (.getfield 13, 3) := by decide +kernel
theorem dX5_appendFour_25 : decode cX5_appendFour 25 = .ok (.iload_n 1, 1) := by decide +kernel
theorem dX5_appendFour_26 : decode cX5_appendFour 26 = .ok (.iload_n 2, 1) := by decide +kernel
theorem dX5_appendFour_27 : decode cX5_appendFour 27 = .ok (.iushr, 1) := by decide +kernel
theorem dX5_appendFour_28 : decode cX5_appendFour 28 = .ok (.sipush 255, 3) := by decide +kernel
theorem dX5_appendFour_31 : decode cX5_appendFour 31 = .ok (.iand, 1) := by decide +kernel
theorem dX5_appendFour_32 : decode cX5_appendFour 32 = .ok (.iastore, 1) := by decide +kernel
theorem dX5_appendFour_33 : decode cX5_appendFour 33 = .ok (.aload_n 0, 1) := by decide +kernel
theorem dX5_appendFour_34 : decode cX5_appendFour 34 = .ok (.dup, 1) := by decide +kernel
theorem dX5_appendFour_35 : decode cX5_appendFour 35 = .ok (.getfield 13, 3) := by decide +kernel
theorem dX5_appendFour_38 : decode cX5_appendFour 38 = .ok (.iconst 1, 1) := by decide +kernel
theorem dX5_appendFour_39 : decode cX5_appendFour 39 = .ok (.iadd, 1) := by decide +kernel
theorem dX5_appendFour_40 : decode cX5_appendFour 40 = .ok (.putfield 13, 3) := by decide +kernel
theorem dX5_appendFour_43 : decode cX5_appendFour 43 = .ok (.iinc 2 (-8), 3) := by decide +kernel
theorem dX5_appendFour_46 : decode cX5_appendFour 46 = .ok (.goto (-43), 3) := by decide +kernel
theorem dX5_appendFour_49 : decode cX5_appendFour 49 = .ok (.return_, 1) := by decide +kernel
set_option maxRecDepth 20000 in
theorem ggX5_load_X4_read : GoodIn wsX5_load wsX4_read := goodIn_r _ [16, 17, 18, 19, 20, 21, 22, 23, 24, 25, 26, 27, 28, 29, 30, 31, 32, 33, 34, 35, 36, 37, 38, 39, 40, 41, 42, 43, 44, 45, 46, 47, 48, 49, 50, 51, 52, 53, 54, 55, 56, 57, 58, 59, 60, 61, 62, 63, 64, 65, 66, 67, 68, 69, 15, 70, 71, 72, 73, 74, 75, 76, 77, 78, 79, 80, 81, 82, 83, 84, 85, 86, 87, 88, 89, 90, 91, 92, 93, 94, 95, 96, 97, 98, 99, 100, 101, 102, 103, 104, 105, 106, 107, 108, 109, 110, 111, 112, 113, 114, 115, 116, 117, 118, 119, 120, 121, 122, 123, 124, 125, 126, 127, 128, 129, 130, 131, 132, 133, 134, 135, 136, 137, 138, 139, 140, 141, 142, 143, 144, 145, 146, 147, 148, 149, 150, 151, 152, 153, 154, 155, 156, 157, 158, 159, 160, 161, 162, 163, 164, 165, 166, 167, 168, 169, 170, 171, 172, 173, 174, 175, 176, 177, 178, 179, 180, 181, 182, 183, 184, 185, 186, 187, 188, 189, 190, 191, 192, 193, 223, 224, 225, 226, 227, 228, 229, 230, 231, 232, 233, 234, 235, 236, 237, 238, 239, 240, 241, 242] (by decide +kernel) (by decide +kernel)
set_option maxRecDepth 20000 in
theorem gX5_load_X4_read : GoodIn wsX5_load (wsV RX5 84 RX4 yX4_read wsX4_read) := goodIn_app (goodIn_of _ (by decide +kernel)) ggX5_load_X4_read
set_option maxRecDepth 20000 in
theorem ggX5_load_X0_remember : GoodIn wsX5_load wsX0_remember := goodIn_r _ [198, 199, 200, 201, 202, 203, 204, 30, 205, 32, 165, 206, 207, 208, 209, 166, 66, 33, 180, 45, 181, 61, 35, 34, 44, 56, 46, 243, 244, 245, 229, 230, 231, 232, 233, 234, 235, 236, 237, 238, 239, 240, 241, 242] (by decide +kernel) (by decide +kernel)
set_option maxRecDepth 20000 in
theorem gX5_load_X0_remember : GoodIn wsX5_load (wsV RX5 89 RX0 yX0_remember wsX0_remember) := goodIn_app (goodIn_of _ (by decide +kernel)) ggX5_load_X0_remember
set_option maxRecDepth 20000 in
theorem ggX5_load_X2_copyFrom : GoodIn wsX5_load wsX2_copyFrom := goodIn_r _ [205, 32, 165, 206, 207, 208, 209, 166, 66, 33, 180, 45, 181, 61, 35, 34, 44, 56, 46, 229, 230, 231, 232, 233, 234, 235, 236, 237, 238, 239, 240, 241, 242] (by decide +kernel) (by decide +kernel)
set_option maxRecDepth 20000 in
theorem gX5_load_X2_copyFrom : GoodIn wsX5_load (wsV RX5 93 RX2 yX2_copyFrom wsX2_copyFrom) := goodIn_app (goodIn_of _ (by decide +kernel)) ggX5_load_X2_copyFrom
theorem dX5_load_0 : decode cX5_load 0 = .ok (.iload_n 1, 1) := by decide +kernel
theorem dX5_load_1 : decode cX5_load 1 = .ok (.ifCond .lt 11, 3) := by decide +kernel
theorem dX5_load_4 : decode cX5_load 4 = .ok (.iload_n 1, 1) := by decide +kernel
theorem dX5_load_5 : decode cX5_load 5 = .ok (.aload_n 0, 1) := by decide +kernel
theorem dX5_load_6 : decode cX5_load 6 = .ok (.getfield 13, 3) := by decide +kernel
theorem dX5_load_9 : decode cX5_load 9 = .ok (.if_icmp .le 13, 3) := by decide +kernel
theorem dX5_load_12 : decode cX5_load 12 = .ok (.new 79, 3) := by decide +kernel
theorem dX5_load_15 : decode cX5_load 15 = .ok (.dup, 1) := by decide +kernel
theorem dX5_load_16 : decode cX5_load 16 = .ok (.ldc 81, 2) := by decide +kernel
theorem dX5_load_18 : decode cX5_load 18 = .ok (.invokespecial 83, 3) := by decide +kernel
theorem dX5_load_21 : decode cX5_load 21 = .ok (.athrow, 1) := by decide +kernel
theorem dX5_load_22 : decode cX5_load 22 = .ok (.aload_n 0, 1) := by decide +kernel
theorem dX5_load_23 : decode cX5_load 23 = .ok (.getfield 23, 3) := by decide +kernel
theorem dX5_load_26 : decode cX5_load 26 = .ok (.aload_n 0, 1) := by decide +kernel
theorem dX5_load_27 : decode cX5_load 27 = .ok (.getfield 9, 3) := by decide +kernel
theorem dX5_load_30 : decode cX5_load 30 = .ok (.iload_n 1, 1) := by decide +kernel
theorem dX5_load_31 : decode cX5_load 31 = .ok (.aload_n 0, 1) := by decide +kernel
theorem dX5_load_32 : decode cX5_load 32 = .ok (.getfield 34, 3) := by decide +kernel
theorem dX5_load_35 : decode cX5_load 35 = .ok (.invokevirtual 84, 3) := by decide +kernel
theorem dX5_load_38 : decode cX5_load 38 = .ok (.istore_n 2, 1) := by decide +kernel
theorem dX5_load_39 : decode cX5_load 39 = .ok (.aload_n 0, 1) := by decide +kernel
theorem dX5_load_40 : decode cX5_load 40 = .ok (.aload_n 0, 1) := by decide +kernel
theorem dX5_load_41 : decode cX5_load 41 = .ok (.getfield 23, 3) := by decide +kernel
theorem dX5_load_44 : decode cX5_load 44 = .ok (.getfield 88, 3) := by decide +kernel
theorem dX5_load_47 : decode cX5_load 47 = .ok (.putfield 17, 3) := by decide +kernel
theorem dX5_load_50 : decode cX5_load 50 = .ok (.aload_n 0, 1) := by decide +kernel
theorem dX5_load_51 : decode cX5_load 51 = .ok (.iconst 0, 1) := by decide +kernel
theorem dX5_load_52 : decode cX5_load 52 = .ok (.putfield 13, 3) := by decide +kernel
theorem dX5_load_55 : decode cX5_load 55 = .ok (.iload_n 2, 1) := by decide +kernel
theorem dX5_load_56 : decode cX5_load 56 = .ok (.ifCond .lt 30, 3) := by decide +kernel
theorem dX5_load_59 : decode cX5_load 59 = .ok (.aload_n 0, 1) := by decide +kernel
theorem dX5_load_60 : decode cX5_load 60 = .ok (.getfield 40, 3) := by decide +kernel
theorem dX5_load_63 : decode cX5_load 63 = .ok (.aload_n 0, 1) := by decide +kernel
theorem dX5_load_64 : decode cX5_load 64 = .ok (.getfield 30, 3) := by decide +kernel
theorem dX5_load_67 : decode cX5_load 67 = .ok (.invokevirtual 89, 3) := by decide +kernel
theorem dX5_load_70 : decode cX5_load 70 = .ok (.aload_n 0, 1) := by decide +kernel
theorem dX5_load_71 : decode cX5_load 71 = .ok (.getfield 30, 3) := by decide +kernel
theorem dX5_load_74 : decode cX5_load 74 = .ok (.aload_n 0, 1) := by decide +kernel
theorem dX5_load_75 : decode cX5_load 75 = .ok (.getfield 34, 3) := by decide +kernel
theorem dX5_load_78 : decode cX5_load 78 = .ok (.invokevirtual 93, 3) := by decide +kernel
theorem dX5_load_81 : decode cX5_load 81 = .ok (.aload_n 0, 1) := by decide +kernel
theorem dX5_load_82 : decode cX5_load 82 = .ok (.iconst 0, 1) := by decide +kernel
theorem dX5_load_83 : decode cX5_load 83 = .ok (.putfield 64, 3) := by decide +kernel
theorem dX5_load_86 : decode cX5_load 86 = .ok (.iload_n 2, 1) := by decide +kernel
theorem dX5_load_87 : decode cX5_load 87 = .ok (.ireturn, 1) := by decide +kernel
theorem dX5_errorPosition_0 : decode cX5_errorPosition 0 = .ok (.aload_n 0, 1) := by decide +kernel
theorem dX5_errorPosition_1 : decode cX5_errorPosition 1 = .ok (.getfield 17, 3) := by decide +kernel
theorem dX5_errorPosition_4 : decode cX5_errorPosition 4 = .ok (.ireturn, 1) := by decide +kernel
theorem dX5_pitchCount_0 : decode cX5_pitchCount 0 = .ok (.aload_n 0, 1) := by decide +kernel
theorem dX5_pitchCount_1 : decode cX5_pitchCount 1 = .ok (.getfield 30, 3) := by decide +kernel
theorem dX5_pitchCount_4 : decode cX5_pitchCount 4 = .ok (.getfield 96, 3) := by decide +kernel
theorem dX5_pitchCount_7 : decode cX5_pitchCount 7 = .ok (.ireturn, 1) := by decide +kernel
set_option maxRecDepth 20000 in
theorem ggX5_row_X5_requirePitch : GoodIn wsX5_row wsX5_requirePitch := goodIn_ca (goodIn_r _ [7, 8, 9, 1, 10, 11, 12, 13, 14, 15, 16, 17, 18, 19, 20, 21, 22, 23, 24, 25, 26, 27, 28, 29, 30, 31, 32, 33, 34, 35, 36, 37, 38, 39, 40, 41] (by decide +kernel) (by decide +kernel)) (goodIn_sub (fun _ h => List.mem_cons_of_mem _ (List.mem_append_right _ h)) (by decide +kernel))
set_option maxRecDepth 20000 in
theorem gX5_row_X5_requirePitch : GoodIn wsX5_row (wsV RX5 99 RX5 yX5_requirePitch wsX5_requirePitch) := goodIn_app (goodIn_of _ (by decide +kernel)) ggX5_row_X5_requirePitch
theorem dX5_row_0 : decode cX5_row 0 = .ok (.aload_n 0, 1) := by decide +kernel
theorem dX5_row_1 : decode cX5_row 1 = .ok (.iload_n 1, 1) := by decide +kernel
theorem dX5_row_2 : decode cX5_row 2 = .ok (.invokevirtual 99, 3) := by decide +kernel
theorem dX5_row_5 : decode cX5_row 5 = .ok (.aload_n 0, 1) := by decide +kernel
theorem dX5_row_6 : decode cX5_row 6 = .ok (.getfield 30, 3) := by decide +kernel
theorem dX5_row_9 : decode cX5_row 9 = .ok (.getfield 102, 3) := by decide +kernel
theorem dX5_row_12 : decode cX5_row 12 = .ok (.iload_n 1, 1) := by decide +kernel
theorem dX5_row_13 : decode cX5_row 13 = .ok (.iaload, 1) := by decide +kernel
theorem dX5_row_14 : decode cX5_row 14 = .ok (.ireturn, 1) := by decide +kernel
set_option maxRecDepth 20000 in
theorem ggX5_rent_X5_requirePitch : GoodIn wsX5_rent wsX5_requirePitch := goodIn_ca (goodIn_r _ [7, 8, 9, 1, 10, 11, 12, 13, 14, 15, 16, 17, 18, 19, 20, 21, 22, 23, 24, 25, 26, 27, 28, 29, 30, 31, 32, 33, 34, 35, 36, 37, 38, 39, 40, 41] (by decide +kernel) (by decide +kernel)) (goodIn_sub (fun _ h => List.mem_cons_of_mem _ (List.mem_append_right _ h)) (by decide +kernel))
set_option maxRecDepth 20000 in
theorem gX5_rent_X5_requirePitch : GoodIn wsX5_rent (wsV RX5 99 RX5 yX5_requirePitch wsX5_requirePitch) := goodIn_app (goodIn_of _ (by decide +kernel)) ggX5_rent_X5_requirePitch
theorem dX5_rent_0 : decode cX5_rent 0 = .ok (.aload_n 0, 1) := by decide +kernel
theorem dX5_rent_1 : decode cX5_rent 1 = .ok (.iload_n 1, 1) := by decide +kernel
theorem dX5_rent_2 : decode cX5_rent 2 = .ok (.invokevirtual 99, 3) := by decide +kernel
theorem dX5_rent_5 : decode cX5_rent 5 = .ok (.aload_n 0, 1) := by decide +kernel
theorem dX5_rent_6 : decode cX5_rent 6 = .ok (.getfield 30, 3) := by decide +kernel
theorem dX5_rent_9 : decode cX5_rent 9 = .ok (.getfield 105, 3) := by decide +kernel
theorem dX5_rent_12 : decode cX5_rent 12 = .ok (.iload_n 1, 1) := by decide +kernel
theorem dX5_rent_13 : decode cX5_rent 13 = .ok (.iaload, 1) := by decide +kernel
theorem dX5_rent_14 : decode cX5_rent 14 = .ok (.ireturn, 1) := by decide +kernel
set_option maxRecDepth 20000 in
theorem ggX5_isRoofed_X5_requirePitch : GoodIn wsX5_isRoofed wsX5_requirePitch := goodIn_ca (goodIn_r _ [7, 8, 9, 1, 10, 11, 12, 13, 14, 15, 16, 17, 18, 19, 20, 21, 22, 23, 24, 25, 26, 27, 28, 29, 30, 31, 32, 33, 34, 35, 36, 37, 38, 39, 40, 41] (by decide +kernel) (by decide +kernel)) (goodIn_sub (fun _ h => List.mem_cons_of_mem _ (List.mem_append_right _ h)) (by decide +kernel))
set_option maxRecDepth 20000 in
theorem gX5_isRoofed_X5_requirePitch : GoodIn wsX5_isRoofed (wsV RX5 99 RX5 yX5_requirePitch wsX5_requirePitch) := goodIn_app (goodIn_of _ (by decide +kernel)) ggX5_isRoofed_X5_requirePitch
theorem dX5_isRoofed_0 : decode cX5_isRoofed 0 = .ok (.aload_n 0, 1) := by decide +kernel
theorem dX5_isRoofed_1 : decode cX5_isRoofed 1 = .ok (.iload_n 1, 1) := by decide +kernel
theorem dX5_isRoofed_2 : decode cX5_isRoofed 2 = .ok (.invokevirtual 99, 3) := by decide +kernel
theorem dX5_isRoofed_5 : decode cX5_isRoofed 5 = .ok (.aload_n 0, 1) := by decide +kernel
theorem dX5_isRoofed_6 : decode cX5_isRoofed 6 = .ok (.getfield 30, 3) := by decide +kernel
theorem dX5_isRoofed_9 : decode cX5_isRoofed 9 = .ok (.getfield 108, 3) := by decide +kernel
theorem dX5_isRoofed_12 : decode cX5_isRoofed 12 = .ok (.iload_n 1, 1) := by decide +kernel
theorem dX5_isRoofed_13 : decode cX5_isRoofed 13 = .ok (.baload, 1) := by decide +kernel
theorem dX5_isRoofed_14 : decode cX5_isRoofed 14 = .ok (.ireturn, 1) := by decide +kernel
set_option maxRecDepth 20000 in
theorem ggX5_setRent_X5_requirePitch : GoodIn wsX5_setRent wsX5_requirePitch := goodIn_ca (goodIn_r _ [13, 14, 15, 4, 16, 17, 18, 19, 20, 21, 86, 87, 88, 89, 90, 91, 92, 93, 94, 95, 96, 97, 98, 99, 100, 101, 102, 103, 104, 105, 106, 107, 108, 109, 110, 111] (by decide +kernel) (by decide +kernel)) (goodIn_sub (fun _ h => List.mem_cons_of_mem _ (List.mem_append_right _ h)) (by decide +kernel))
set_option maxRecDepth 20000 in
theorem gX5_setRent_X5_requirePitch : GoodIn wsX5_setRent (wsV RX5 99 RX5 yX5_requirePitch wsX5_requirePitch) := goodIn_app (goodIn_of _ (by decide +kernel)) ggX5_setRent_X5_requirePitch
set_option maxRecDepth 20000 in
theorem ggX5_setRent_X5_isOutside : GoodIn wsX5_setRent wsX5_isOutside := goodIn_r _ [24] (by decide +kernel) (by decide +kernel)
set_option maxRecDepth 20000 in
theorem gX5_setRent_X5_isOutside : GoodIn wsX5_setRent (va_wsS RX5 112 yX5_isOutside wsX5_isOutside) := goodIn_app (goodIn_of _ (by decide +kernel)) ggX5_setRent_X5_isOutside
set_option maxRecDepth 20000 in
theorem ggX5_setRent_X0_remember : GoodIn wsX5_setRent wsX0_remember := goodIn_r _ [29, 30, 31, 32, 33, 34, 35, 19, 36, 21, 37, 38, 39, 40, 41, 42, 43, 44, 45, 46, 47, 48, 49, 50, 51, 52, 53, 112, 113, 114, 98, 99, 100, 101, 102, 103, 104, 105, 106, 107, 108, 109, 110, 111] (by decide +kernel) (by decide +kernel)
set_option maxRecDepth 20000 in
theorem gX5_setRent_X0_remember : GoodIn wsX5_setRent (wsV RX5 89 RX0 yX0_remember wsX0_remember) := goodIn_app (goodIn_of _ (by decide +kernel)) ggX5_setRent_X0_remember
set_option maxRecDepth 20000 in
theorem ggX5_setRent_X2_affords : GoodIn wsX5_setRent wsX2_affords := goodIn_r _ [57, 47, 58, 59, 60, 19, 61, 46, 21, 62, 63, 64, 65, 42, 98, 99, 100, 101, 102, 103, 104, 105, 106, 107, 108, 109, 110, 111] (by decide +kernel) (by decide +kernel)
set_option maxRecDepth 20000 in
theorem gX5_setRent_X2_affords : GoodIn wsX5_setRent (wsV RX5 124 RX2 yX2_affords wsX2_affords) := goodIn_app (goodIn_of _ (by decide +kernel)) ggX5_setRent_X2_affords
set_option maxRecDepth 20000 in
theorem ggX5_setRent_X2_unseat : GoodIn wsX5_setRent wsX2_unseat := goodIn_r _ [69, 51, 46, 53, 70, 71, 72, 19, 73, 74, 75, 76, 77, 21, 62, 63, 64, 65, 52, 78, 79, 80, 81, 48, 82, 83, 84, 85, 43, 98, 99, 100, 101, 102, 103, 104, 105, 106, 107, 108, 109, 110, 111] (by decide +kernel) (by decide +kernel)
set_option maxRecDepth 20000 in
theorem gX5_setRent_X2_unseat : GoodIn wsX5_setRent (wsV RX5 128 RX2 yX2_unseat wsX2_unseat) := goodIn_app (goodIn_of _ (by decide +kernel)) ggX5_setRent_X2_unseat
theorem dX5_setRent_0 : decode cX5_setRent 0 = .ok (.aload_n 0, 1) := by decide +kernel
theorem dX5_setRent_1 : decode cX5_setRent 1 = .ok (.iload_n 1, 1) := by decide +kernel
theorem dX5_setRent_2 : decode cX5_setRent 2 = .ok (.invokevirtual 99, 3) := by decide +kernel
theorem dX5_setRent_5 : decode cX5_setRent 5 = .ok (.iload_n 2, 1) := by decide +kernel
theorem dX5_setRent_6 : decode cX5_setRent 6 = .ok (.iconst 1, 1) := by decide +kernel
theorem dX5_setRent_7 : decode cX5_setRent 7 = .ok (.sipush 999, 3) := by decide +kernel
theorem dX5_setRent_10 : decode cX5_setRent 10 = .ok (.invokestatic 112, 3) := by decide +kernel
theorem dX5_setRent_13 : decode cX5_setRent 13 = .ok (.ifCond .eq 13, 3) := by decide +kernel
theorem dX5_setRent_16 : decode cX5_setRent 16 = .ok (.new 79, 3) := by decide +kernel
theorem dX5_setRent_19 : decode cX5_setRent 19 = .ok (.dup, 1) := by decide +kernel
theorem dX5_setRent_20 : decode cX5_setRent 20 = .ok (.ldc 116, 2) := by decide +kernel
theorem dX5_setRent_22 : decode cX5_setRent 22 = .ok (.invokespecial 83, 3) := by decide +kernel
theorem dX5_setRent_25 : decode cX5_setRent 25 = .ok (.athrow, 1) := by decide +kernel
theorem dX5_setRent_26 : decode cX5_setRent 26 = .ok (.aload_n 0, 1) := by decide +kernel
theorem dX5_setRent_27 : decode cX5_setRent 27 = .ok (.getfield 40, 3) := by decide +kernel
theorem dX5_setRent_30 : decode cX5_setRent 30 = .ok (.aload_n 0, 1) := by decide +kernel
theorem dX5_setRent_31 : decode cX5_setRent 31 = .ok (.getfield 30, 3) := by decide +kernel
theorem dX5_setRent_34 : decode cX5_setRent 34 = .ok (.invokevirtual 89, 3) := by decide +kernel
theorem dX5_setRent_37 : decode cX5_setRent 37 = .ok (.aload_n 0, 1) := by decide +kernel
theorem dX5_setRent_38 : decode cX5_setRent 38 = .ok (.iconst 0, 1) := by decide +kernel
theorem dX5_setRent_39 : decode cX5_setRent 39 = .ok (.putfield 64, 3) := by decide +kernel
theorem dX5_setRent_42 : decode cX5_setRent 42 = .ok (.aload_n 0, 1) := by decide +kernel
theorem dX5_setRent_43 : decode cX5_setRent 43 = .ok (.getfield 30, 3) := by decide +kernel
theorem dX5_setRent_46 : decode cX5_setRent 46 = .ok (.getfield 105, 3) := by decide +kernel
theorem dX5_setRent_49 : decode cX5_setRent 49 = .ok (.iload_n 1, 1) := by decide +kernel
theorem dX5_setRent_50 : decode cX5_setRent 50 = .ok (.iload_n 2, 1) := by decide +kernel
theorem dX5_setRent_51 : decode cX5_setRent 51 = .ok (.iastore, 1) := by decide +kernel
theorem dX5_setRent_52 : decode cX5_setRent 52 = .ok (.aload_n 0, 1) := by decide +kernel
theorem dX5_setRent_53 : decode cX5_setRent 53 = .ok (.getfield 30, 3) := by decide +kernel
theorem dX5_setRent_56 : decode cX5_setRent 56 = .ok (.getfield 118, 3) := by decide +kernel
theorem dX5_setRent_59 : decode cX5_setRent 59 = .ok (.iload_n 1, 1) := by decide +kernel
theorem dX5_setRent_60 : decode cX5_setRent 60 = .ok (.iaload, 1) := by decide +kernel
theorem dX5_setRent_61 : decode cX5_setRent 61 = .ok (.istore_n 3, 1) := by decide +kernel
theorem dX5_setRent_62 : decode cX5_setRent 62 = .ok (.iload_n 3, 1) := by decide +kernel
theorem dX5_setRent_63 : decode cX5_setRent 63 = .ok (.iconst (-1), 1) := by decide +kernel
theorem dX5_setRent_64 : decode cX5_setRent 64 = .ok (.if_icmp .eq 23, 3) := by decide +kernel
theorem dX5_setRent_67 : decode cX5_setRent 67 = .ok (.aload_n 0, 1) := by decide +kernel
theorem dX5_setRent_68 : decode cX5_setRent 68 = .ok (.getfield 30, 3) := by decide +kernel
theorem dX5_setRent_71 : decode cX5_setRent 71 = .ok (.iload_n 3, 1) := by decide +kernel
theorem dX5_setRent_72 : decode cX5_setRent 72 = .ok (.aload_n 0, 1) := by decide +kernel
theorem dX5_setRent_73 : decode cX5_setRent 73 = .ok (.getfield 30, 3) := by decide +kernel
theorem dX5_setRent_76 : decode cX5_setRent 76 = .ok (.getfield 121, 3) := by decide +kernel
theorem dX5_setRent_79 : decode cX5_setRent 79 = .ok (.iload_n 3, 1) := by decide +kernel
theorem dX5_setRent_80 : decode cX5_setRent 80 = .ok (.iaload, 1) := by decide +kernel
theorem dX5_setRent_81 : decode cX5_setRent 81 = .ok (.invokevirtual 124, 3) := by decide +kernel
theorem dX5_setRent_84 : decode cX5_setRent 84 = .ok (.ifCond .eq 5, 3) := by decide +kernel
theorem dX5_setRent_87 : decode cX5_setRent 87 = .ok (.iconst (-1), 1) := by decide +kernel
theorem dX5_setRent_88 : decode cX5_setRent 88 = .ok (.ireturn, 1) := by decide +kernel
theorem dX5_setRent_89 : decode cX5_setRent 89 = .ok (.aload_n 0, 1) := by decide +kernel
theorem dX5_setRent_90 : decode cX5_setRent 90 = .ok (.getfield 30, 3) := by decide +kernel
theorem dX5_setRent_93 : decode cX5_setRent 93 = .ok (.iload_n 3, 1) := by decide +kernel
theorem dX5_setRent_94 : decode cX5_setRent 94 = .ok (.invokevirtual 128, 3) := by decide +kernel
theorem dX5_setRent_97 : decode cX5_setRent 97 = .ok (.iload_n 3, 1) := by decide +kernel
theorem dX5_setRent_98 : decode cX5_setRent 98 = .ok (.ireturn, 1) := by decide +kernel
theorem dX5_traderCount_0 : decode cX5_traderCount 0 = .ok (.aload_n 0, 1) := by decide +kernel
theorem dX5_traderCount_1 : decode cX5_traderCount 1 = .ok (.getfield 30, 3) := by decide +kernel
theorem dX5_traderCount_4 : decode cX5_traderCount 4 = .ok (.getfield 131, 3) := by decide +kernel
theorem dX5_traderCount_7 : decode cX5_traderCount 7 = .ok (.ireturn, 1) := by decide +kernel
set_option maxRecDepth 20000 in
theorem ggX5_trade_X5_requireTrader : GoodIn wsX5_trade wsX5_requireTrader := goodIn_ca (goodIn_r _ [7, 8, 9, 1, 10, 11, 12, 13, 14, 15, 16, 17, 18, 19, 20, 21, 22, 23, 24, 25, 26, 27, 28, 29, 30, 31, 32, 33, 34, 35, 36, 37, 38, 39, 40, 41] (by decide +kernel) (by decide +kernel)) (goodIn_sub (fun _ h => List.mem_cons_of_mem _ (List.mem_append_right _ h)) (by decide +kernel))
set_option maxRecDepth 20000 in
theorem gX5_trade_X5_requireTrader : GoodIn wsX5_trade (wsV RX5 134 RX5 yX5_requireTrader wsX5_requireTrader) := goodIn_app (goodIn_of _ (by decide +kernel)) ggX5_trade_X5_requireTrader
theorem dX5_trade_0 : decode cX5_trade 0 = .ok (.aload_n 0, 1) := by decide +kernel
theorem dX5_trade_1 : decode cX5_trade 1 = .ok (.iload_n 1, 1) := by decide +kernel
theorem dX5_trade_2 : decode cX5_trade 2 = .ok (.invokevirtual 134, 3) := by decide +kernel
theorem dX5_trade_5 : decode cX5_trade 5 = .ok (.aload_n 0, 1) := by decide +kernel
theorem dX5_trade_6 : decode cX5_trade 6 = .ok (.getfield 30, 3) := by decide +kernel
theorem dX5_trade_9 : decode cX5_trade 9 = .ok (.getfield 137, 3) := by decide +kernel
theorem dX5_trade_12 : decode cX5_trade 12 = .ok (.iload_n 1, 1) := by decide +kernel
theorem dX5_trade_13 : decode cX5_trade 13 = .ok (.iaload, 1) := by decide +kernel
theorem dX5_trade_14 : decode cX5_trade 14 = .ok (.ireturn, 1) := by decide +kernel
set_option maxRecDepth 20000 in
theorem ggX5_frontage_X5_requireTrader : GoodIn wsX5_frontage wsX5_requireTrader := goodIn_ca (goodIn_r _ [7, 8, 9, 1, 10, 11, 12, 13, 14, 15, 16, 17, 18, 19, 20, 21, 22, 23, 24, 25, 26, 27, 28, 29, 30, 31, 32, 33, 34, 35, 36, 37, 38, 39, 40, 41] (by decide +kernel) (by decide +kernel)) (goodIn_sub (fun _ h => List.mem_cons_of_mem _ (List.mem_append_right _ h)) (by decide +kernel))
set_option maxRecDepth 20000 in
theorem gX5_frontage_X5_requireTrader : GoodIn wsX5_frontage (wsV RX5 134 RX5 yX5_requireTrader wsX5_requireTrader) := goodIn_app (goodIn_of _ (by decide +kernel)) ggX5_frontage_X5_requireTrader
theorem dX5_frontage_0 : decode cX5_frontage 0 = .ok (.aload_n 0, 1) := by decide +kernel
theorem dX5_frontage_1 : decode cX5_frontage 1 = .ok (.iload_n 1, 1) := by decide +kernel
theorem dX5_frontage_2 : decode cX5_frontage 2 = .ok (.invokevirtual 134, 3) := by decide +kernel
theorem dX5_frontage_5 : decode cX5_frontage 5 = .ok (.aload_n 0, 1) := by decide +kernel
theorem dX5_frontage_6 : decode cX5_frontage 6 = .ok (.getfield 30, 3) := by decide +kernel
theorem dX5_frontage_9 : decode cX5_frontage 9 = .ok (.getfield 140, 3) := by decide +kernel
theorem dX5_frontage_12 : decode cX5_frontage 12 = .ok (.iload_n 1, 1) := by decide +kernel
theorem dX5_frontage_13 : decode cX5_frontage 13 = .ok (.iaload, 1) := by decide +kernel
theorem dX5_frontage_14 : decode cX5_frontage 14 = .ok (.ireturn, 1) := by decide +kernel
set_option maxRecDepth 20000 in
theorem ggX5_addTrader_X5_isNoTrade : GoodIn wsX5_addTrader wsX5_isNoTrade := goodIn_r _ [12, 13, 14, 11, 15] (by decide +kernel) (by decide +kernel)
set_option maxRecDepth 20000 in
theorem gX5_addTrader_X5_isNoTrade : GoodIn wsX5_addTrader (va_wsS RX5 143 yX5_isNoTrade wsX5_isNoTrade) := goodIn_app (goodIn_of _ (by decide +kernel)) ggX5_addTrader_X5_isNoTrade
set_option maxRecDepth 20000 in
theorem ggX5_addTrader_X5_isOutside : GoodIn wsX5_addTrader wsX5_isOutside := goodIn_r _ [15] (by decide +kernel) (by decide +kernel)
set_option maxRecDepth 20000 in
theorem gX5_addTrader_X5_isOutside : GoodIn wsX5_addTrader (va_wsS RX5 112 yX5_isOutside wsX5_isOutside) := goodIn_app (goodIn_of _ (by decide +kernel)) ggX5_addTrader_X5_isOutside
set_option maxRecDepth 20000 in
theorem ggX5_addTrader_X0_remember : GoodIn wsX5_addTrader wsX0_remember := goodIn_r _ [20, 21, 22, 23, 24, 25, 26, 27, 28, 29, 30, 31, 32, 33, 34, 35, 36, 37, 38, 39, 40, 41, 42, 43, 44, 45, 46, 77, 78, 79, 63, 64, 65, 66, 67, 68, 69, 70, 71, 72, 73, 74, 75, 76] (by decide +kernel) (by decide +kernel)
set_option maxRecDepth 20000 in
theorem gX5_addTrader_X0_remember : GoodIn wsX5_addTrader (wsV RX5 89 RX0 yX0_remember wsX0_remember) := goodIn_app (goodIn_of _ (by decide +kernel)) ggX5_addTrader_X0_remember
set_option maxRecDepth 20000 in
theorem ggX5_addTrader_X2_enrol : GoodIn wsX5_addTrader wsX2_enrol := goodIn_r _ [50, 37, 38, 39, 40, 41, 63, 64, 65, 66, 67, 68, 69, 70, 71, 72, 73, 74, 75, 76] (by decide +kernel) (by decide +kernel)
set_option maxRecDepth 20000 in
theorem gX5_addTrader_X2_enrol : GoodIn wsX5_addTrader (wsV RX5 151 RX2 yX2_enrol wsX2_enrol) := goodIn_app (goodIn_of _ (by decide +kernel)) ggX5_addTrader_X2_enrol
theorem dX5_addTrader_0 : decode cX5_addTrader 0 = .ok (.iload_n 1, 1) := by decide +kernel
theorem dX5_addTrader_1 : decode cX5_addTrader 1 = .ok (.invokestatic 143, 3) := by decide +kernel
theorem dX5_addTrader_4 : decode cX5_addTrader 4 = .ok (.ifCond .ne 23, 3) := by decide +kernel
theorem dX5_addTrader_7 : decode cX5_addTrader 7 = .ok (.iload_n 2, 1) := by decide +kernel
theorem dX5_addTrader_8 : decode cX5_addTrader 8 = .ok (.iconst 1, 1) := by decide +kernel
theorem dX5_addTrader_9 : decode cX5_addTrader 9 = .ok (.iconst 3, 1) := by decide +kernel
theorem dX5_addTrader_10 : decode cX5_addTrader 10 = .ok (.invokestatic 112, 3) := by decide +kernel
theorem dX5_addTrader_13 : decode cX5_addTrader 13 = .ok (.ifCond .ne 14, 3) := by decide +kernel
theorem dX5_addTrader_16 : decode cX5_addTrader 16 = .ok (.iload_n 3, 1) := by decide +kernel
theorem dX5_addTrader_17 : decode cX5_addTrader 17 = .ok (.iconst 1, 1) := by decide +kernel
theorem dX5_addTrader_18 : decode cX5_addTrader 18 = .ok (.sipush 9999, 3) := by decide +kernel
theorem dX5_addTrader_21 : decode cX5_addTrader 21 = .ok (.invokestatic 112, 3) := by decide +kernel
theorem dX5_addTrader_24 : decode cX5_addTrader 24 = .ok (.ifCond .eq 13, 3) := by decide +kernel
theorem dX5_addTrader_27 : decode cX5_addTrader 27 = .ok (.new 79, 3) := by decide +kernel
theorem dX5_addTrader_30 : decode cX5_addTrader 30 = .ok (.dup, 1) := by decide +kernel
theorem dX5_addTrader_31 : decode cX5_addTrader 31 = .ok (.ldc 147, 2) := by decide +kernel
theorem dX5_addTrader_33 : decode cX5_addTrader 33 = .ok (.invokespecial 83, 3) := by decide +kernel
theorem dX5_addTrader_36 : decode cX5_addTrader 36 = .ok (.athrow, 1) := by decide +kernel
theorem dX5_addTrader_37 : decode cX5_addTrader 37 = .ok (.aload_n 0, 1) := by decide +kernel
theorem dX5_addTrader_38 : decode cX5_addTrader 38 = .ok (.getfield 30, 3) := by decide +kernel
theorem dX5_addTrader_41 : decode cX5_addTrader 41 = .ok (.getfield 131, 3) := by decide +kernel
theorem dX5_addTrader_44 : decode cX5_addTrader 44 = .ok (.bipush 8, 2) := by decide +kernel
theorem dX5_addTrader_46 : decode cX5_addTrader 46 = .ok (.if_icmp .lt 13, 3) := by decide +kernel
theorem dX5_addTrader_49 : decode cX5_addTrader 49 = .ok (.new 68, 3) := by decide +kernel
theorem dX5_addTrader_52 : decode cX5_addTrader 52 = .ok (.dup, 1) := by decide +kernel
theorem dX5_addTrader_53 : decode cX5_addTrader 53 = .ok (.ldc 149, 2) := by decide +kernel
theorem dX5_addTrader_55 : decode cX5_addTrader 55 = .ok (.invokespecial 72, 3) := by decide +kernel
theorem dX5_addTrader_58 : decode cX5_addTrader 58 = .ok (.athrow, 1) := by decide +kernel
theorem dX5_addTrader_59 : decode cX5_addTrader 59 = .ok (.aload_n 0, 1) := by decide +kernel
theorem dX5_addTrader_60 : decode cX5_addTrader 60 = .ok (.getfield 40, 3) := by decide +kernel
theorem dX5_addTrader_63 : decode cX5_addTrader 63 = .ok (.aload_n 0, 1) := by decide +kernel
theorem dX5_addTrader_64 : decode cX5_addTrader 64 = .ok (.getfield 30, 3) := by decide +kernel
theorem dX5_addTrader_67 : decode cX5_addTrader 67 = .ok (.invokevirtual 89, 3) := by decide +kernel
theorem dX5_addTrader_70 : decode cX5_addTrader 70 = .ok (.aload_n 0, 1) := by decide +kernel
theorem dX5_addTrader_71 : decode cX5_addTrader 71 = .ok (.iconst 0, 1) := by decide +kernel
theorem dX5_addTrader_72 : decode cX5_addTrader 72 = .ok (.putfield 64, 3) := by decide +kernel
theorem dX5_addTrader_75 : decode cX5_addTrader 75 = .ok (.aload_n 0, 1) := by decide +kernel
theorem dX5_addTrader_76 : decode cX5_addTrader 76 = .ok (.getfield 30, 3) := by decide +kernel
theorem dX5_addTrader_79 : decode cX5_addTrader 79 = .ok (.iload_n 1, 1) := by decide +kernel
theorem dX5_addTrader_80 : decode cX5_addTrader 80 = .ok (.iload_n 2, 1) := by decide +kernel
theorem dX5_addTrader_81 : decode cX5_addTrader 81 = .ok (.iload_n 3, 1) := by decide +kernel
theorem dX5_addTrader_82 : decode cX5_addTrader 82 = .ok (.iload 4, 2) := by decide +kernel
theorem dX5_addTrader_84 : decode cX5_addTrader 84 = .ok (.invokevirtual 151, 3) := by decide +kernel
theorem dX5_addTrader_87 : decode cX5_addTrader 87 = .ok (.aload_n 0, 1) := by decide +kernel
theorem dX5_addTrader_88 : decode cX5_addTrader 88 = .ok (.getfield 30, 3) := by decide +kernel
theorem dX5_addTrader_91 : decode cX5_addTrader 91 = .ok (.getfield 131, 3) := by decide +kernel
theorem dX5_addTrader_94 : decode cX5_addTrader 94 = .ok (.iconst 1, 1) := by decide +kernel
theorem dX5_addTrader_95 : decode cX5_addTrader 95 = .ok (.isub, 1) := by decide +kernel
theorem dX5_addTrader_96 : decode cX5_addTrader 96 = .ok (.ireturn, 1) := by decide +kernel
set_option maxRecDepth 20000 in
theorem ggX5_clash_X5_requireTrades : GoodIn wsX5_clash wsX5_requireTrades := goodIn_ca (goodIn_r _ [5, 6, 7, 8, 9, 4, 10, 11, 12, 13] (by decide +kernel) (by decide +kernel)) (goodIn_sub (fun _ h => List.mem_cons_of_mem _ (List.mem_append_right _ h)) (by decide +kernel))
set_option maxRecDepth 20000 in
theorem gX5_clash_X5_requireTrades : GoodIn wsX5_clash (va_wsS RX5 155 yX5_requireTrades wsX5_requireTrades) := goodIn_app (goodIn_of _ (by decide +kernel)) ggX5_clash_X5_requireTrades
set_option maxRecDepth 20000 in
theorem ggX5_clash_X2_areClashing : GoodIn wsX5_clash wsX2_areClashing := goodIn_r _ [18, 19, 32, 33, 34, 35, 36, 37, 38, 39, 40, 41, 42, 43, 44, 45] (by decide +kernel) (by decide +kernel)
set_option maxRecDepth 20000 in
theorem gX5_clash_X2_areClashing : GoodIn wsX5_clash (wsV RX5 159 RX2 yX2_areClashing wsX2_areClashing) := goodIn_app (goodIn_of _ (by decide +kernel)) ggX5_clash_X2_areClashing
theorem dX5_clash_0 : decode cX5_clash 0 = .ok (.iload_n 1, 1) := by decide +kernel
theorem dX5_clash_1 : decode cX5_clash 1 = .ok (.iload_n 2, 1) := by decide +kernel
theorem dX5_clash_2 : decode cX5_clash 2 = .ok (.invokestatic 155, 3) := by decide +kernel
theorem dX5_clash_5 : decode cX5_clash 5 = .ok (.aload_n 0, 1) := by decide +kernel
theorem dX5_clash_6 : decode cX5_clash 6 = .ok (.getfield 30, 3) := by decide +kernel
theorem dX5_clash_9 : decode cX5_clash 9 = .ok (.iload_n 1, 1) := by decide +kernel
theorem dX5_clash_10 : decode cX5_clash 10 = .ok (.iload_n 2, 1) := by decide +kernel
theorem dX5_clash_11 : decode cX5_clash 11 = .ok (.invokevirtual 159, 3) := by decide +kernel
theorem dX5_clash_14 : decode cX5_clash 14 = .ok (.ireturn, 1) := by decide +kernel
set_option maxRecDepth 20000 in
theorem ggX5_setClash_X5_requireTrades : GoodIn wsX5_setClash wsX5_requireTrades := goodIn_ca (goodIn_r _ [9, 10, 11, 12, 13, 8, 14, 15, 16, 17] (by decide +kernel) (by decide +kernel)) (goodIn_sub (fun _ h => List.mem_cons_of_mem _ (List.mem_append_right _ h)) (by decide +kernel))
set_option maxRecDepth 20000 in
theorem gX5_setClash_X5_requireTrades : GoodIn wsX5_setClash (va_wsS RX5 155 yX5_requireTrades wsX5_requireTrades) := goodIn_app (goodIn_of _ (by decide +kernel)) ggX5_setClash_X5_requireTrades
set_option maxRecDepth 20000 in
theorem ggX5_setClash_X2_standSideBySide : GoodIn wsX5_setClash wsX2_standSideBySide := goodIn_r _ [22, 23, 24, 25, 26, 27, 28, 21, 29, 30, 31, 32, 33, 76, 77, 78, 79, 80, 81, 82, 83, 84, 85, 86, 87, 88, 89] (by decide +kernel) (by decide +kernel)
set_option maxRecDepth 20000 in
theorem gX5_setClash_X2_standSideBySide : GoodIn wsX5_setClash (wsV RX5 162 RX2 yX2_standSideBySide wsX2_standSideBySide) := goodIn_app (goodIn_of _ (by decide +kernel)) ggX5_setClash_X2_standSideBySide
set_option maxRecDepth 20000 in
theorem ggX5_setClash_X0_remember : GoodIn wsX5_setClash wsX0_remember := goodIn_r _ [38, 39, 40, 41, 42, 43, 44, 21, 45, 23, 30, 46, 47, 48, 49, 50, 51, 52, 25, 53, 54, 55, 56, 57, 58, 24, 59, 90, 91, 92, 76, 77, 78, 79, 80, 81, 82, 83, 84, 85, 86, 87, 88, 89] (by decide +kernel) (by decide +kernel)
set_option maxRecDepth 20000 in
theorem gX5_setClash_X0_remember : GoodIn wsX5_setClash (wsV RX5 89 RX0 yX0_remember wsX0_remember) := goodIn_app (goodIn_of _ (by decide +kernel)) ggX5_setClash_X0_remember
set_option maxRecDepth 20000 in
theorem ggX5_setClash_X2_putClash : GoodIn wsX5_setClash wsX2_putClash := goodIn_r _ [63, 56, 76, 77, 78, 79, 80, 81, 82, 83, 84, 85, 86, 87, 88, 89] (by decide +kernel) (by decide +kernel)
set_option maxRecDepth 20000 in
theorem gX5_setClash_X2_putClash : GoodIn wsX5_setClash (wsV RX5 167 RX2 yX2_putClash wsX2_putClash) := goodIn_app (goodIn_of _ (by decide +kernel)) ggX5_setClash_X2_putClash
theorem dX5_setClash_0 : decode cX5_setClash 0 = .ok (.iload_n 1, 1) := by decide +kernel
theorem dX5_setClash_1 : decode cX5_setClash 1 = .ok (.iload_n 2, 1) := by decide +kernel
theorem dX5_setClash_2 : decode cX5_setClash 2 = .ok (.invokestatic 155, 3) := by decide +kernel
theorem dX5_setClash_5 : decode cX5_setClash 5 = .ok (.iload_n 3, 1) := by decide +kernel
theorem dX5_setClash_6 : decode cX5_setClash 6 = .ok (.ifCond .eq 25, 3) := by decide +kernel
theorem dX5_setClash_9 : decode cX5_setClash 9 = .ok (.aload_n 0, 1) := by decide +kernel
theorem dX5_setClash_10 : decode cX5_setClash 10 = .ok (.getfield 30, 3) := by decide +kernel
theorem dX5_setClash_13 : decode cX5_setClash 13 = .ok (.iload_n 1, 1) := by decide +kernel
theorem dX5_setClash_14 : decode cX5_setClash 14 = .ok (.iload_n 2, 1) := by decide +kernel
theorem dX5_setClash_15 : decode cX5_setClash 15 = .ok (.invokevirtual 162, 3) := by decide +kernel
theorem dX5_setClash_18 : decode cX5_setClash 18 = .ok (.ifCond .eq 13, 3) := by decide +kernel
theorem dX5_setClash_21 : decode cX5_setClash 21 = .ok (.new 68, 3) := by decide +kernel
theorem dX5_setClash_24 : decode cX5_setClash 24 = .ok (.dup, 1) := by decide +kernel
theorem dX5_setClash_25 : decode cX5_setClash 25 = .ok (.ldc 165, 2) := by decide +kernel
theorem dX5_setClash_27 : decode cX5_setClash 27 = .ok (.invokespecial 72, 3) := by decide +kernel
theorem dX5_setClash_30 : decode cX5_setClash 30 = .ok (.athrow, 1) := by decide +kernel
theorem dX5_setClash_31 : decode cX5_setClash 31 = .ok (.aload_n 0, 1) := by decide +kernel
theorem dX5_setClash_32 : decode cX5_setClash 32 = .ok (.getfield 40, 3) := by decide +kernel
theorem dX5_setClash_35 : decode cX5_setClash 35 = .ok (.aload_n 0, 1) := by decide +kernel
theorem dX5_setClash_36 : decode cX5_setClash 36 = .ok (.getfield 30, 3) := by decide +kernel
theorem dX5_setClash_39 : decode cX5_setClash 39 = .ok (.invokevirtual 89, 3) := by decide +kernel
theorem dX5_setClash_42 : decode cX5_setClash 42 = .ok (.aload_n 0, 1) := by decide +kernel
theorem dX5_setClash_43 : decode cX5_setClash 43 = .ok (.iconst 0, 1) := by decide +kernel
theorem dX5_setClash_44 : decode cX5_setClash 44 = .ok (.putfield 64, 3) := by decide +kernel
theorem dX5_setClash_47 : decode cX5_setClash 47 = .ok (.aload_n 0, 1) := by decide +kernel
theorem dX5_setClash_48 : decode cX5_setClash 48 = .ok (.getfield 30, 3) := by decide +kernel
theorem dX5_setClash_51 : decode cX5_setClash 51 = .ok (.iload_n 1, 1) := by decide +kernel
theorem dX5_setClash_52 : decode cX5_setClash 52 = .ok (.iload_n 2, 1) := by decide +kernel
theorem dX5_setClash_53 : decode cX5_setClash 53 = .ok (.iload_n 3, 1) := by decide +kernel
theorem dX5_setClash_54 : decode cX5_setClash 54 = .ok (.invokevirtual 167, 3) := by decide +kernel
theorem dX5_setClash_57 : decode cX5_setClash 57 = .ok (.return_, 1) := by decide +kernel
set_option maxRecDepth 20000 in
theorem ggX5_setCovers_X5_isOutside : GoodIn wsX5_setCovers wsX5_isOutside := goodIn_r _ [13] (by decide +kernel) (by decide +kernel)
set_option maxRecDepth 20000 in
theorem gX5_setCovers_X5_isOutside : GoodIn wsX5_setCovers (va_wsS RX5 112 yX5_isOutside wsX5_isOutside) := goodIn_app (goodIn_of _ (by decide +kernel)) ggX5_setCovers_X5_isOutside
set_option maxRecDepth 20000 in
theorem ggX5_setCovers_X0_remember : GoodIn wsX5_setCovers wsX0_remember := goodIn_r _ [18, 19, 20, 21, 22, 23, 24, 25, 26, 27, 28, 29, 30, 31, 32, 33, 34, 35, 36, 37, 38, 39, 40, 41, 42, 43, 44, 71, 72, 73, 57, 58, 59, 60, 61, 62, 63, 64, 65, 66, 67, 68, 69, 70] (by decide +kernel) (by decide +kernel)
set_option maxRecDepth 20000 in
theorem gX5_setCovers_X0_remember : GoodIn wsX5_setCovers (wsV RX5 89 RX0 yX0_remember wsX0_remember) := goodIn_app (goodIn_of _ (by decide +kernel)) ggX5_setCovers_X0_remember
theorem dX5_setCovers_0 : decode cX5_setCovers 0 = .ok (.iload_n 1, 1) := by decide +kernel
theorem dX5_setCovers_1 : decode cX5_setCovers 1 = .ok (.iconst 0, 1) := by decide +kernel
theorem dX5_setCovers_2 : decode cX5_setCovers 2 = .ok (.iconst 4, 1) := by decide +kernel
theorem dX5_setCovers_3 : decode cX5_setCovers 3 = .ok (.invokestatic 112, 3) := by decide +kernel
theorem dX5_setCovers_6 : decode cX5_setCovers 6 = .ok (.ifCond .eq 13, 3) := by decide +kernel
theorem dX5_setCovers_9 : decode cX5_setCovers 9 = .ok (.new 79, 3) := by decide +kernel
theorem dX5_setCovers_12 : decode cX5_setCovers 12 = .ok (.dup, 1) := by decide +kernel
theorem dX5_setCovers_13 : decode cX5_setCovers 13 = .ok (.ldc 171, 2) := by decide +kernel
theorem dX5_setCovers_15 : decode cX5_setCovers 15 = .ok (.invokespecial 83, 3) := by decide +kernel
theorem dX5_setCovers_18 : decode cX5_setCovers 18 = .ok (.athrow, 1) := by decide +kernel
theorem dX5_setCovers_19 : decode cX5_setCovers 19 = .ok (.aload_n 0, 1) := by decide +kernel
theorem dX5_setCovers_20 : decode cX5_setCovers 20 = .ok (.getfield 30, 3) := by decide +kernel
theorem dX5_setCovers_23 : decode cX5_setCovers 23 = .ok (.getfield 173, 3) := by decide +kernel
theorem dX5_setCovers_26 : decode cX5_setCovers 26 = .ok (.iload_n 1, 1) := by decide +kernel
theorem dX5_setCovers_27 : decode cX5_setCovers 27 = .ok (.if_icmp .le 13, 3) := by decide +kernel
theorem dX5_setCovers_30 : decode cX5_setCovers 30 = .ok (.new 68, 3) := by decide +kernel
theorem dX5_setCovers_33 : decode cX5_setCovers 33 = .ok (.dup, 1) := by decide +kernel
theorem dX5_setCovers_34 : decode cX5_setCovers 34 = .ok (.ldc 176, 2) := by decide +kernel
theorem dX5_setCovers_36 : decode cX5_setCovers 36 = .ok (.invokespecial 72, 3) := by decide +kernel
theorem dX5_setCovers_39 : decode cX5_setCovers 39 = .ok (.athrow, 1) := by decide +kernel
theorem dX5_setCovers_40 : decode cX5_setCovers 40 = .ok (.aload_n 0, 1) := by decide +kernel
theorem dX5_setCovers_41 : decode cX5_setCovers 41 = .ok (.getfield 40, 3) := by decide +kernel
theorem dX5_setCovers_44 : decode cX5_setCovers 44 = .ok (.aload_n 0, 1) := by decide +kernel
theorem dX5_setCovers_45 : decode cX5_setCovers 45 = .ok (.getfield 30, 3) := by decide +kernel
theorem dX5_setCovers_48 : decode cX5_setCovers 48 = .ok (.invokevirtual 89, 3) := by decide +kernel
theorem dX5_setCovers_51 : decode cX5_setCovers 51 = .ok (.aload_n 0, 1) := by decide +kernel
theorem dX5_setCovers_52 : decode cX5_setCovers 52 = .ok (.iconst 0, 1) := by decide +kernel
theorem dX5_setCovers_53 : decode cX5_setCovers 53 = .ok (.putfield 64, 3) := by decide +kernel
theorem dX5_setCovers_56 : decode cX5_setCovers 56 = .ok (.aload_n 0, 1) := by decide +kernel
theorem dX5_setCovers_57 : decode cX5_setCovers 57 = .ok (.getfield 30, 3) := by decide +kernel
theorem dX5_setCovers_60 : decode cX5_setCovers 60 = .ok (.getfield 178, 3) := by decide +kernel
theorem dX5_setCovers_63 : decode cX5_setCovers 63 = .ok (.istore_n 2, 1) := by decide +kernel
theorem dX5_setCovers_64 : decode cX5_setCovers 64 = .ok (.aload_n 0, 1) := by decide +kernel
theorem dX5_setCovers_65 : decode cX5_setCovers 65 = .ok (.getfield 30, 3) := by decide +kernel
theorem dX5_setCovers_68 : decode cX5_setCovers 68 = .ok (.iload_n 1, 1) := by decide +kernel
theorem dX5_setCovers_69 : decode cX5_setCovers 69 = .ok (.putfield 178, 3) := by decide +kernel
theorem dX5_setCovers_72 : decode cX5_setCovers 72 = .ok (.iload_n 2, 1) := by decide +kernel
theorem dX5_setCovers_73 : decode cX5_setCovers 73 = .ok (.ireturn, 1) := by decide +kernel
set_option maxRecDepth 20000 in
theorem ggX5_traderAt_X5_requirePitch : GoodIn wsX5_traderAt wsX5_requirePitch := goodIn_ca (goodIn_r _ [7, 8, 9, 1, 10, 11, 12, 13, 14, 15, 16, 17, 18, 19, 20, 21, 22, 23, 24, 25, 26, 27, 28, 29, 30, 31, 32, 33, 34, 35, 36, 37, 38, 39, 40, 41] (by decide +kernel) (by decide +kernel)) (goodIn_sub (fun _ h => List.mem_cons_of_mem _ (List.mem_append_right _ h)) (by decide +kernel))
set_option maxRecDepth 20000 in
theorem gX5_traderAt_X5_requirePitch : GoodIn wsX5_traderAt (wsV RX5 99 RX5 yX5_requirePitch wsX5_requirePitch) := goodIn_app (goodIn_of _ (by decide +kernel)) ggX5_traderAt_X5_requirePitch
theorem dX5_traderAt_0 : decode cX5_traderAt 0 = .ok (.aload_n 0, 1) := by decide +kernel
theorem dX5_traderAt_1 : decode cX5_traderAt 1 = .ok (.iload_n 1, 1) := by decide +kernel
theorem dX5_traderAt_2 : decode cX5_traderAt 2 = .ok (.invokevirtual 99, 3) := by decide +kernel
theorem dX5_traderAt_5 : decode cX5_traderAt 5 = .ok (.aload_n 0, 1) := by decide +kernel
theorem dX5_traderAt_6 : decode cX5_traderAt 6 = .ok (.getfield 30, 3) := by decide +kernel
theorem dX5_traderAt_9 : decode cX5_traderAt 9 = .ok (.getfield 118, 3) := by decide +kernel
theorem dX5_traderAt_12 : decode cX5_traderAt 12 = .ok (.iload_n 1, 1) := by decide +kernel
theorem dX5_traderAt_13 : decode cX5_traderAt 13 = .ok (.iaload, 1) := by decide +kernel
theorem dX5_traderAt_14 : decode cX5_traderAt 14 = .ok (.ireturn, 1) := by decide +kernel
set_option maxRecDepth 20000 in
theorem ggX5_start_X5_requireTrader : GoodIn wsX5_start wsX5_requireTrader := goodIn_ca (goodIn_r _ [7, 8, 9, 1, 10, 11, 12, 13, 14, 15, 16, 17, 18, 19, 20, 21, 22, 23, 24, 25, 26, 27, 28, 29, 30, 31, 32, 33, 34, 35, 36, 37, 38, 39, 40, 41] (by decide +kernel) (by decide +kernel)) (goodIn_sub (fun _ h => List.mem_cons_of_mem _ (List.mem_append_right _ h)) (by decide +kernel))
set_option maxRecDepth 20000 in
theorem gX5_start_X5_requireTrader : GoodIn wsX5_start (wsV RX5 134 RX5 yX5_requireTrader wsX5_requireTrader) := goodIn_app (goodIn_of _ (by decide +kernel)) ggX5_start_X5_requireTrader
theorem dX5_start_0 : decode cX5_start 0 = .ok (.aload_n 0, 1) := by decide +kernel
theorem dX5_start_1 : decode cX5_start 1 = .ok (.iload_n 1, 1) := by decide +kernel
theorem dX5_start_2 : decode cX5_start 2 = .ok (.invokevirtual 134, 3) := by decide +kernel
theorem dX5_start_5 : decode cX5_start 5 = .ok (.aload_n 0, 1) := by decide +kernel
theorem dX5_start_6 : decode cX5_start 6 = .ok (.getfield 30, 3) := by decide +kernel
theorem dX5_start_9 : decode cX5_start 9 = .ok (.getfield 121, 3) := by decide +kernel
theorem dX5_start_12 : decode cX5_start 12 = .ok (.iload_n 1, 1) := by decide +kernel
theorem dX5_start_13 : decode cX5_start 13 = .ok (.iaload, 1) := by decide +kernel
theorem dX5_start_14 : decode cX5_start 14 = .ok (.ireturn, 1) := by decide +kernel
set_option maxRecDepth 20000 in
theorem ggX5_obstacle_X5_requireTrader : GoodIn wsX5_obstacle wsX5_requireTrader := goodIn_ca (goodIn_r _ [6, 7, 8, 1, 9, 10, 11, 12, 13, 14, 84, 85, 86, 87, 88, 89, 90, 91, 92, 93, 94, 95, 96, 97, 98, 99, 100, 101, 102, 103, 104, 105, 106, 107, 108, 109] (by decide +kernel) (by decide +kernel)) (goodIn_sub (fun _ h => List.mem_cons_of_mem _ (List.mem_append_right _ h)) (by decide +kernel))
set_option maxRecDepth 20000 in
theorem gX5_obstacle_X5_requireTrader : GoodIn wsX5_obstacle (wsV RX5 134 RX5 yX5_requireTrader wsX5_requireTrader) := goodIn_app (goodIn_of _ (by decide +kernel)) ggX5_obstacle_X5_requireTrader
set_option maxRecDepth 20000 in
theorem ggX5_obstacle_X5_requirePitch : GoodIn wsX5_obstacle wsX5_requirePitch := goodIn_ca (goodIn_r _ [18, 7, 8, 1, 19, 20, 21, 12, 22, 23, 84, 85, 86, 87, 88, 89, 90, 91, 92, 93, 94, 95, 96, 97, 98, 99, 100, 101, 102, 103, 104, 105, 106, 107, 108, 109] (by decide +kernel) (by decide +kernel)) (goodIn_sub (fun _ h => List.mem_cons_of_mem _ (List.mem_append_right _ h)) (by decide +kernel))
set_option maxRecDepth 20000 in
theorem gX5_obstacle_X5_requirePitch : GoodIn wsX5_obstacle (wsV RX5 99 RX5 yX5_requirePitch wsX5_requirePitch) := goodIn_app (goodIn_of _ (by decide +kernel)) ggX5_obstacle_X5_requirePitch
set_option maxRecDepth 20000 in
theorem ggX5_obstacle_X2_hindrance : GoodIn wsX5_obstacle wsX2_hindrance := goodIn_r _ [27, 28, 29, 30, 31, 32, 12, 33, 34, 35, 36, 37, 38, 39, 40, 41, 42, 43, 23, 44, 45, 46, 47, 48, 49, 50, 51, 52, 53, 54, 55, 56, 57, 58, 59, 60, 61, 62, 63, 64, 65, 66, 67, 68, 69, 70, 71, 72, 73, 74, 75, 76, 77, 78, 79, 80, 81, 82, 83, 96, 97, 98, 99, 100, 101, 102, 103, 104, 105, 106, 107, 108, 109] (by decide +kernel) (by decide +kernel)
set_option maxRecDepth 20000 in
theorem gX5_obstacle_X2_hindrance : GoodIn wsX5_obstacle (wsV RX5 181 RX2 yX2_hindrance wsX2_hindrance) := goodIn_app (goodIn_of _ (by decide +kernel)) ggX5_obstacle_X2_hindrance
theorem dX5_obstacle_0 : decode cX5_obstacle 0 = .ok (.aload_n 0, 1) := by decide +kernel
theorem dX5_obstacle_1 : decode cX5_obstacle 1 = .ok (.iload_n 1, 1) := by decide +kernel
theorem dX5_obstacle_2 : decode cX5_obstacle 2 = .ok (.invokevirtual 134, 3) := by decide +kernel
theorem dX5_obstacle_5 : decode cX5_obstacle 5 = .ok (.aload_n 0, 1) := by decide +kernel
theorem dX5_obstacle_6 : decode cX5_obstacle 6 = .ok (.iload_n 2, 1) := by decide +kernel
theorem dX5_obstacle_7 : decode cX5_obstacle 7 = .ok (.invokevirtual 99, 3) := by decide +kernel
theorem dX5_obstacle_10 : decode cX5_obstacle 10 = .ok (.aload_n 0, 1) := by decide +kernel
theorem dX5_obstacle_11 : decode cX5_obstacle 11 = .ok (.getfield 30, 3) := by decide +kernel
theorem dX5_obstacle_14 : decode cX5_obstacle 14 = .ok (.iload_n 1, 1) := by decide +kernel
theorem dX5_obstacle_15 : decode cX5_obstacle 15 = .ok (.iload_n 2, 1) := by decide +kernel
theorem dX5_obstacle_16 : decode cX5_obstacle 16 = .ok (.invokevirtual 181, 3) := by decide +kernel
theorem dX5_obstacle_19 : decode cX5_obstacle 19 = .ok (.ireturn, 1) := by decide +kernel
set_option maxRecDepth 20000 in
theorem ggX5_place_X5_requireTrader : GoodIn wsX5_place wsX5_requireTrader := goodIn_ca (goodIn_r _ [9, 10, 11, 3, 12, 13, 14, 15, 16, 17, 112, 113, 114, 115, 116, 117, 118, 119, 120, 121, 122, 123, 124, 125, 126, 127, 128, 129, 130, 131, 132, 133, 134, 135, 136, 137] (by decide +kernel) (by decide +kernel)) (goodIn_sub (fun _ h => List.mem_cons_of_mem _ (List.mem_append_right _ h)) (by decide +kernel))
set_option maxRecDepth 20000 in
theorem gX5_place_X5_requireTrader : GoodIn wsX5_place (wsV RX5 134 RX5 yX5_requireTrader wsX5_requireTrader) := goodIn_app (goodIn_of _ (by decide +kernel)) ggX5_place_X5_requireTrader
set_option maxRecDepth 20000 in
theorem ggX5_place_X5_requirePitch : GoodIn wsX5_place wsX5_requirePitch := goodIn_ca (goodIn_r _ [21, 10, 11, 3, 22, 23, 24, 15, 25, 26, 112, 113, 114, 115, 116, 117, 118, 119, 120, 121, 122, 123, 124, 125, 126, 127, 128, 129, 130, 131, 132, 133, 134, 135, 136, 137] (by decide +kernel) (by decide +kernel)) (goodIn_sub (fun _ h => List.mem_cons_of_mem _ (List.mem_append_right _ h)) (by decide +kernel))
set_option maxRecDepth 20000 in
theorem gX5_place_X5_requirePitch : GoodIn wsX5_place (wsV RX5 99 RX5 yX5_requirePitch wsX5_requirePitch) := goodIn_app (goodIn_of _ (by decide +kernel)) ggX5_place_X5_requirePitch
set_option maxRecDepth 20000 in
theorem ggX5_place_X2_hindrance : GoodIn wsX5_place wsX2_hindrance := goodIn_r _ [30, 31, 32, 33, 34, 35, 15, 36, 37, 38, 39, 40, 41, 42, 43, 44, 45, 46, 26, 47, 48, 49, 50, 51, 52, 53, 54, 55, 56, 57, 58, 59, 60, 61, 62, 63, 64, 65, 66, 67, 68, 69, 70, 71, 72, 73, 74, 75, 76, 77, 78, 79, 80, 81, 82, 83, 84, 85, 86, 124, 125, 126, 127, 128, 129, 130, 131, 132, 133, 134, 135, 136, 137] (by decide +kernel) (by decide +kernel)
set_option maxRecDepth 20000 in
theorem gX5_place_X2_hindrance : GoodIn wsX5_place (wsV RX5 181 RX2 yX2_hindrance wsX2_hindrance) := goodIn_app (goodIn_of _ (by decide +kernel)) ggX5_place_X2_hindrance
set_option maxRecDepth 20000 in
theorem ggX5_place_X0_remember : GoodIn wsX5_place wsX0_remember := goodIn_r _ [91, 92, 93, 94, 95, 96, 97, 15, 98, 26, 47, 99, 100, 101, 102, 66, 76, 17, 86, 42, 61, 71, 85, 32, 37, 56, 31, 138, 139, 140, 124, 125, 126, 127, 128, 129, 130, 131, 132, 133, 134, 135, 136, 137] (by decide +kernel) (by decide +kernel)
set_option maxRecDepth 20000 in
theorem gX5_place_X0_remember : GoodIn wsX5_place (wsV RX5 89 RX0 yX0_remember wsX0_remember) := goodIn_app (goodIn_of _ (by decide +kernel)) ggX5_place_X0_remember
set_option maxRecDepth 20000 in
theorem ggX5_place_X2_seat : GoodIn wsX5_place wsX2_seat := goodIn_r _ [106, 42, 37, 31, 107, 108, 109, 15, 110, 26, 52, 53, 54, 55, 56, 67, 68, 69, 70, 71, 72, 73, 74, 75, 76, 124, 125, 126, 127, 128, 129, 130, 131, 132, 133, 134, 135, 136, 137] (by decide +kernel) (by decide +kernel)
set_option maxRecDepth 20000 in
theorem gX5_place_X2_seat : GoodIn wsX5_place (wsV RX5 187 RX2 yX2_seat wsX2_seat) := goodIn_app (goodIn_of _ (by decide +kernel)) ggX5_place_X2_seat
set_option maxRecDepth 20000 in
theorem ggX5_place_X2_blockRent : GoodIn wsX5_place wsX2_blockRent := goodIn_r _ [65, 42, 26, 52, 53, 54, 55, 66, 124, 125, 126, 127, 128, 129, 130, 131, 132, 133, 134, 135, 136, 137] (by decide +kernel) (by decide +kernel)
set_option maxRecDepth 20000 in
theorem gX5_place_X2_blockRent : GoodIn wsX5_place (wsV RX5 190 RX2 yX2_blockRent wsX2_blockRent) := goodIn_app (goodIn_of _ (by decide +kernel)) ggX5_place_X2_blockRent
theorem dX5_place_0 : decode cX5_place 0 = .ok (.aload_n 0, 1) := by decide +kernel
theorem dX5_place_1 : decode cX5_place 1 = .ok (.iload_n 1, 1) := by decide +kernel
theorem dX5_place_2 : decode cX5_place 2 = .ok (.invokevirtual 134, 3) := by decide +kernel
theorem dX5_place_5 : decode cX5_place 5 = .ok (.aload_n 0, 1) := by decide +kernel
theorem dX5_place_6 : decode cX5_place 6 = .ok (.iload_n 2, 1) := by decide +kernel
theorem dX5_place_7 : decode cX5_place 7 = .ok (.invokevirtual 99, 3) := by decide +kernel
theorem dX5_place_10 : decode cX5_place 10 = .ok (.aload_n 0, 1) := by decide +kernel
theorem dX5_place_11 : decode cX5_place 11 = .ok (.getfield 30, 3) := by decide +kernel
theorem dX5_place_14 : decode cX5_place 14 = .ok (.iload_n 1, 1) := by decide +kernel
theorem dX5_place_15 : decode cX5_place 15 = .ok (.iload_n 2, 1) := by decide +kernel
theorem dX5_place_16 : decode cX5_place 16 = .ok (.invokevirtual 181, 3) := by decide +kernel
theorem dX5_place_19 : decode cX5_place 19 = .ok (.ifCond .eq 13, 3) := by decide +kernel
theorem dX5_place_22 : decode cX5_place 22 = .ok (.new 68, 3) := by decide +kernel
theorem dX5_place_25 : decode cX5_place 25 = .ok (.dup, 1) := by decide +kernel
theorem dX5_place_26 : decode cX5_place 26 = .ok (.ldc 185, 2) := by decide +kernel
theorem dX5_place_28 : decode cX5_place 28 = .ok (.invokespecial 72, 3) := by decide +kernel
theorem dX5_place_31 : decode cX5_place 31 = .ok (.athrow, 1) := by decide +kernel
theorem dX5_place_32 : decode cX5_place 32 = .ok (.aload_n 0, 1) := by decide +kernel
theorem dX5_place_33 : decode cX5_place 33 = .ok (.getfield 40, 3) := by decide +kernel
theorem dX5_place_36 : decode cX5_place 36 = .ok (.aload_n 0, 1) := by decide +kernel
theorem dX5_place_37 : decode cX5_place 37 = .ok (.getfield 30, 3) := by decide +kernel
theorem dX5_place_40 : decode cX5_place 40 = .ok (.invokevirtual 89, 3) := by decide +kernel
theorem dX5_place_43 : decode cX5_place 43 = .ok (.aload_n 0, 1) := by decide +kernel
theorem dX5_place_44 : decode cX5_place 44 = .ok (.getfield 30, 3) := by decide +kernel
theorem dX5_place_47 : decode cX5_place 47 = .ok (.iload_n 1, 1) := by decide +kernel
theorem dX5_place_48 : decode cX5_place 48 = .ok (.iload_n 2, 1) := by decide +kernel
theorem dX5_place_49 : decode cX5_place 49 = .ok (.invokevirtual 187, 3) := by decide +kernel
theorem dX5_place_52 : decode cX5_place 52 = .ok (.aload_n 0, 1) := by decide +kernel
theorem dX5_place_53 : decode cX5_place 53 = .ok (.getfield 30, 3) := by decide +kernel
theorem dX5_place_56 : decode cX5_place 56 = .ok (.iload_n 1, 1) := by decide +kernel
theorem dX5_place_57 : decode cX5_place 57 = .ok (.iload_n 2, 1) := by decide +kernel
theorem dX5_place_58 : decode cX5_place 58 = .ok (.invokevirtual 190, 3) := by decide +kernel
theorem dX5_place_61 : decode cX5_place 61 = .ok (.ireturn, 1) := by decide +kernel
set_option maxRecDepth 20000 in
theorem ggX5_remove_X5_requireTrader : GoodIn wsX5_remove wsX5_requireTrader := goodIn_ca (goodIn_r _ [10, 11, 12, 3, 13, 14, 15, 16, 17, 18, 72, 73, 74, 75, 76, 77, 78, 79, 80, 81, 82, 83, 84, 85, 86, 87, 88, 89, 90, 91, 92, 93, 94, 95, 96, 97] (by decide +kernel) (by decide +kernel)) (goodIn_sub (fun _ h => List.mem_cons_of_mem _ (List.mem_append_right _ h)) (by decide +kernel))
set_option maxRecDepth 20000 in
theorem gX5_remove_X5_requireTrader : GoodIn wsX5_remove (wsV RX5 134 RX5 yX5_requireTrader wsX5_requireTrader) := goodIn_app (goodIn_of _ (by decide +kernel)) ggX5_remove_X5_requireTrader
set_option maxRecDepth 20000 in
theorem ggX5_remove_X0_remember : GoodIn wsX5_remove wsX0_remember := goodIn_r _ [23, 24, 25, 26, 27, 28, 29, 16, 30, 31, 32, 33, 34, 35, 36, 37, 38, 18, 39, 40, 41, 42, 43, 44, 45, 46, 47, 98, 99, 100, 84, 85, 86, 87, 88, 89, 90, 91, 92, 93, 94, 95, 96, 97] (by decide +kernel) (by decide +kernel)
set_option maxRecDepth 20000 in
theorem gX5_remove_X0_remember : GoodIn wsX5_remove (wsV RX5 89 RX0 yX0_remember wsX0_remember) := goodIn_app (goodIn_of _ (by decide +kernel)) ggX5_remove_X0_remember
set_option maxRecDepth 20000 in
theorem ggX5_remove_X2_unseat : GoodIn wsX5_remove wsX2_unseat := goodIn_r _ [51, 45, 40, 47, 52, 53, 54, 16, 55, 56, 57, 58, 59, 31, 60, 61, 62, 63, 46, 64, 65, 66, 67, 42, 68, 69, 70, 71, 38, 84, 85, 86, 87, 88, 89, 90, 91, 92, 93, 94, 95, 96, 97] (by decide +kernel) (by decide +kernel)
set_option maxRecDepth 20000 in
theorem gX5_remove_X2_unseat : GoodIn wsX5_remove (wsV RX5 128 RX2 yX2_unseat wsX2_unseat) := goodIn_app (goodIn_of _ (by decide +kernel)) ggX5_remove_X2_unseat
theorem dX5_remove_0 : decode cX5_remove 0 = .ok (.aload_n 0, 1) := by decide +kernel
theorem dX5_remove_1 : decode cX5_remove 1 = .ok (.iload_n 1, 1) := by decide +kernel
theorem dX5_remove_2 : decode cX5_remove 2 = .ok (.invokevirtual 134, 3) := by decide +kernel
theorem dX5_remove_5 : decode cX5_remove 5 = .ok (.aload_n 0, 1) := by decide +kernel
theorem dX5_remove_6 : decode cX5_remove 6 = .ok (.getfield 30, 3) := by decide +kernel
theorem dX5_remove_9 : decode cX5_remove 9 = .ok (.getfield 121, 3) := by decide +kernel
theorem dX5_remove_12 : decode cX5_remove 12 = .ok (.iload_n 1, 1) := by decide +kernel
theorem dX5_remove_13 : decode cX5_remove 13 = .ok (.iaload, 1) := by decide +kernel
theorem dX5_remove_14 : decode cX5_remove 14 = .ok (.istore_n 2, 1) := by decide +kernel
theorem dX5_remove_15 : decode cX5_remove 15 = .ok (.iload_n 2, 1) := by decide +kernel
theorem dX5_remove_16 : decode cX5_remove 16 = .ok (.iconst (-1), 1) := by decide +kernel
theorem dX5_remove_17 : decode cX5_remove 17 = .ok (.if_icmp .ne 13, 3) := by decide +kernel
theorem dX5_remove_20 : decode cX5_remove 20 = .ok (.new 68, 3) := by decide +kernel
theorem dX5_remove_23 : decode cX5_remove 23 = .ok (.dup, 1) := by decide +kernel
theorem dX5_remove_24 : decode cX5_remove 24 = .ok (.ldc 193, 2) := by decide +kernel
theorem dX5_remove_26 : decode cX5_remove 26 = .ok (.invokespecial 72, 3) := by decide +kernel
theorem dX5_remove_29 : decode cX5_remove 29 = .ok (.athrow, 1) := by decide +kernel
theorem dX5_remove_30 : decode cX5_remove 30 = .ok (.aload_n 0, 1) := by decide +kernel
theorem dX5_remove_31 : decode cX5_remove 31 = .ok (.getfield 40, 3) := by decide +kernel
theorem dX5_remove_34 : decode cX5_remove 34 = .ok (.aload_n 0, 1) := by decide +kernel
theorem dX5_remove_35 : decode cX5_remove 35 = .ok (.getfield 30, 3) := by decide +kernel
theorem dX5_remove_38 : decode cX5_remove 38 = .ok (.invokevirtual 89, 3) := by decide +kernel
theorem dX5_remove_41 : decode cX5_remove 41 = .ok (.aload_n 0, 1) := by decide +kernel
theorem dX5_remove_42 : decode cX5_remove 42 = .ok (.getfield 30, 3) := by decide +kernel
theorem dX5_remove_45 : decode cX5_remove 45 = .ok (.iload_n 1, 1) := by decide +kernel
theorem dX5_remove_46 : decode cX5_remove 46 = .ok (.invokevirtual 128, 3) := by decide +kernel
theorem dX5_remove_49 : decode cX5_remove 49 = .ok (.iload_n 2, 1) := by decide +kernel
theorem dX5_remove_50 : decode cX5_remove 50 = .ok (.ireturn, 1) := by decide +kernel
set_option maxRecDepth 20000 in
theorem ggX5_swap_X5_requireTrader : GoodIn wsX5_swap wsX5_requireTrader := goodIn_ca (goodIn_r _ [10, 11, 12, 3, 13, 14, 15, 16, 17, 18, 123, 124, 125, 126, 127, 128, 129, 130, 131, 132, 133, 134, 135, 136, 137, 138, 139, 140, 141, 142, 143, 144, 145, 146, 147, 148] (by decide +kernel) (by decide +kernel)) (goodIn_sub (fun _ h => List.mem_cons_of_mem _ (List.mem_append_right _ h)) (by decide +kernel))
set_option maxRecDepth 20000 in
theorem gX5_swap_X5_requireTrader : GoodIn wsX5_swap (wsV RX5 134 RX5 yX5_requireTrader wsX5_requireTrader) := goodIn_app (goodIn_of _ (by decide +kernel)) ggX5_swap_X5_requireTrader
set_option maxRecDepth 20000 in
theorem ggX5_swap_X2_isSeated : GoodIn wsX5_swap wsX2_isSeated := goodIn_r _ [22, 23, 135, 136, 137, 138, 139, 140, 141, 142, 143, 144, 145, 146, 147, 148] (by decide +kernel) (by decide +kernel)
set_option maxRecDepth 20000 in
theorem gX5_swap_X2_isSeated : GoodIn wsX5_swap (wsV RX5 195 RX2 yX2_isSeated wsX2_isSeated) := goodIn_app (goodIn_of _ (by decide +kernel)) ggX5_swap_X2_isSeated
set_option maxRecDepth 20000 in
theorem ggX5_swap_X5_draftExchange : GoodIn wsX5_swap wsX5_draftExchange := goodIn_r _ [27, 5, 3, 28, 29, 30, 31, 16, 32, 33, 34, 35, 36, 37, 38, 39, 40, 18, 41, 42, 43, 44, 45, 46, 23, 47, 48, 49, 50, 51, 52, 53, 20, 21, 22, 54, 55, 56, 57, 58, 59, 60, 61, 62, 63, 64, 65, 66, 67, 68, 69, 70, 71, 72, 73, 74, 75, 76, 77, 78, 79, 80, 81, 82, 83, 84, 85, 86, 87, 88, 89, 90, 91, 92, 93, 94, 95, 96, 97, 98, 99, 100, 101, 102, 103, 104, 105, 106, 107, 108, 109, 123, 124, 125, 126, 127, 128, 129, 130, 131, 132, 133, 134, 135, 136, 137, 138, 139, 140, 141, 142, 143, 144, 145, 146, 147, 148] (by decide +kernel) (by decide +kernel)
set_option maxRecDepth 20000 in
theorem gX5_swap_X5_draftExchange : GoodIn wsX5_swap (wsV RX5 200 RX5 yX5_draftExchange wsX5_draftExchange) := goodIn_app (goodIn_of _ (by decide +kernel)) ggX5_swap_X5_draftExchange
set_option maxRecDepth 20000 in
theorem ggX5_swap_X0_remember : GoodIn wsX5_swap wsX0_remember := goodIn_r _ [114, 115, 116, 117, 118, 30, 31, 16, 32, 33, 34, 35, 36, 37, 38, 39, 40, 18, 41, 42, 43, 44, 45, 46, 23, 47, 48, 149, 150, 151, 135, 136, 137, 138, 139, 140, 141, 142, 143, 144, 145, 146, 147, 148] (by decide +kernel) (by decide +kernel)
set_option maxRecDepth 20000 in
theorem gX5_swap_X0_remember : GoodIn wsX5_swap (wsV RX5 89 RX0 yX0_remember wsX0_remember) := goodIn_app (goodIn_of _ (by decide +kernel)) ggX5_swap_X0_remember
set_option maxRecDepth 20000 in
theorem ggX5_swap_X2_copyFrom : GoodIn wsX5_swap wsX2_copyFrom := goodIn_r _ [32, 33, 34, 35, 36, 37, 38, 39, 40, 18, 41, 42, 43, 44, 45, 46, 23, 47, 48, 135, 136, 137, 138, 139, 140, 141, 142, 143, 144, 145, 146, 147, 148] (by decide +kernel) (by decide +kernel)
set_option maxRecDepth 20000 in
theorem gX5_swap_X2_copyFrom : GoodIn wsX5_swap (wsV RX5 93 RX2 yX2_copyFrom wsX2_copyFrom) := goodIn_app (goodIn_of _ (by decide +kernel)) ggX5_swap_X2_copyFrom
set_option maxRecDepth 20000 in
theorem ggX5_swap_X2_totalRent : GoodIn wsX5_swap wsX2_totalRent := goodIn_r _ [122, 18, 23, 53, 20, 21, 16, 22, 94, 95, 96, 97, 42, 33, 58, 59, 60, 61, 39, 135, 136, 137, 138, 139, 140, 141, 142, 143, 144, 145, 146, 147, 148] (by decide +kernel) (by decide +kernel)
set_option maxRecDepth 20000 in
theorem gX5_swap_X2_totalRent : GoodIn wsX5_swap (wsV RX5 205 RX2 yX2_totalRent wsX2_totalRent) := goodIn_app (goodIn_of _ (by decide +kernel)) ggX5_swap_X2_totalRent
theorem dX5_swap_0 : decode cX5_swap 0 = .ok (.aload_n 0, 1) := by decide +kernel
theorem dX5_swap_1 : decode cX5_swap 1 = .ok (.iload_n 1, 1) := by decide +kernel
theorem dX5_swap_2 : decode cX5_swap 2 = .ok (.invokevirtual 134, 3) := by decide +kernel
theorem dX5_swap_5 : decode cX5_swap 5 = .ok (.aload_n 0, 1) := by decide +kernel
theorem dX5_swap_6 : decode cX5_swap 6 = .ok (.iload_n 2, 1) := by decide +kernel
theorem dX5_swap_7 : decode cX5_swap 7 = .ok (.invokevirtual 134, 3) := by decide +kernel
theorem dX5_swap_10 : decode cX5_swap 10 = .ok (.iload_n 1, 1) := by decide +kernel
theorem dX5_swap_11 : decode cX5_swap 11 = .ok (.iload_n 2, 1) := by decide +kernel
theorem dX5_swap_12 : decode cX5_swap 12 = .ok (.if_icmp .eq 25, 3) := by decide +kernel
theorem dX5_swap_15 : decode cX5_swap 15 = .ok (.aload_n 0, 1) := by decide +kernel
theorem dX5_swap_16 : decode cX5_swap 16 = .ok (.getfield 30, 3) := by decide +kernel
theorem dX5_swap_19 : decode cX5_swap 19 = .ok (.iload_n 1, 1) := by decide +kernel
theorem dX5_swap_20 : decode cX5_swap 20 = .ok (.invokevirtual 195, 3) := by decide +kernel
theorem dX5_swap_23 : decode cX5_swap 23 = .ok (.ifCond .eq 14, 3) := by decide +kernel
theorem dX5_swap_26 : decode cX5_swap 26 = .ok (.aload_n 0, 1) := by decide +kernel
theorem dX5_swap_27 : decode cX5_swap 27 = .ok (.getfield 30, 3) := by decide +kernel
theorem dX5_swap_30 : decode cX5_swap 30 = .ok (.iload_n 2, 1) := by decide +kernel
theorem dX5_swap_31 : decode cX5_swap 31 = .ok (.invokevirtual 195, 3) := by decide +kernel
theorem dX5_swap_34 : decode cX5_swap 34 = .ok (.ifCond .ne 13, 3) := by decide +kernel
theorem dX5_swap_37 : decode cX5_swap 37 = .ok (.new 68, 3) := by decide +kernel
theorem dX5_swap_40 : decode cX5_swap 40 = .ok (.dup, 1) := by decide +kernel
theorem dX5_swap_41 : decode cX5_swap 41 = .ok (.ldc 198, 2) := by decide +kernel
theorem dX5_swap_43 : decode cX5_swap 43 = .ok (.invokespecial 72, 3) := by decide +kernel
theorem dX5_swap_46 : decode cX5_swap 46 = .ok (.athrow, 1) := by decide +kernel
theorem dX5_swap_47 : decode cX5_swap 47 = .ok (.aload_n 0, 1) := by decide +kernel
theorem dX5_swap_48 : decode cX5_swap 48 = .ok (.iload_n 1, 1) := by decide +kernel
theorem dX5_swap_49 : decode cX5_swap 49 = .ok (.iload_n 2, 1) := by decide +kernel
theorem dX5_swap_50 : decode cX5_swap 50 = .ok (.invokevirtual 200, 3) := by decide +kernel
theorem dX5_swap_53 : decode cX5_swap 53 = .ok (.ifCond .ne 13, 3) := by decide +kernel
theorem dX5_swap_56 : decode cX5_swap 56 = .ok (.new 68, 3) := by decide +kernel
theorem dX5_swap_59 : decode cX5_swap 59 = .ok (.dup, 1) := by decide +kernel
theorem dX5_swap_60 : decode cX5_swap 60 = .ok (.ldc 203, 2) := by decide +kernel
theorem dX5_swap_62 : decode cX5_swap 62 = .ok (.invokespecial 72, 3) := by decide +kernel
theorem dX5_swap_65 : decode cX5_swap 65 = .ok (.athrow, 1) := by decide +kernel
theorem dX5_swap_66 : decode cX5_swap 66 = .ok (.aload_n 0, 1) := by decide +kernel
theorem dX5_swap_67 : decode cX5_swap 67 = .ok (.getfield 40, 3) := by decide +kernel
theorem dX5_swap_70 : decode cX5_swap 70 = .ok (.aload_n 0, 1) := by decide +kernel
theorem dX5_swap_71 : decode cX5_swap 71 = .ok (.getfield 30, 3) := by decide +kernel
theorem dX5_swap_74 : decode cX5_swap 74 = .ok (.invokevirtual 89, 3) := by decide +kernel
theorem dX5_swap_77 : decode cX5_swap 77 = .ok (.aload_n 0, 1) := by decide +kernel
theorem dX5_swap_78 : decode cX5_swap 78 = .ok (.getfield 30, 3) := by decide +kernel
theorem dX5_swap_81 : decode cX5_swap 81 = .ok (.aload_n 0, 1) := by decide +kernel
theorem dX5_swap_82 : decode cX5_swap 82 = .ok (.getfield 34, 3) := by decide +kernel
theorem dX5_swap_85 : decode cX5_swap 85 = .ok (.invokevirtual 93, 3) := by decide +kernel
theorem dX5_swap_88 : decode cX5_swap 88 = .ok (.aload_n 0, 1) := by decide +kernel
theorem dX5_swap_89 : decode cX5_swap 89 = .ok (.getfield 30, 3) := by decide +kernel
theorem dX5_swap_92 : decode cX5_swap 92 = .ok (.invokevirtual 205, 3) := by decide +kernel
theorem dX5_swap_95 : decode cX5_swap 95 = .ok (.ireturn, 1) := by decide +kernel
set_option maxRecDepth 20000 in
theorem ggX5_draftExchange_X2_copyFrom : GoodIn wsX5_draftExchange wsX2_copyFrom := goodIn_r _ [8, 9, 10, 11, 12, 13, 14, 15, 16, 17, 18, 19, 20, 21, 22, 23, 24, 25, 26, 103, 104, 105, 106, 107, 108, 109, 110, 111, 112, 113, 114, 115, 116] (by decide +kernel) (by decide +kernel)
set_option maxRecDepth 20000 in
theorem gX5_draftExchange_X2_copyFrom : GoodIn wsX5_draftExchange (wsV RX5 93 RX2 yX2_copyFrom wsX2_copyFrom) := goodIn_app (goodIn_of _ (by decide +kernel)) ggX5_draftExchange_X2_copyFrom
set_option maxRecDepth 20000 in
theorem ggX5_draftExchange_X2_unseat : GoodIn wsX5_draftExchange wsX2_unseat := goodIn_r _ [30, 24, 19, 26, 31, 32, 33, 7, 34, 35, 36, 37, 38, 9, 39, 40, 41, 42, 25, 43, 44, 45, 46, 21, 47, 48, 49, 50, 16, 103, 104, 105, 106, 107, 108, 109, 110, 111, 112, 113, 114, 115, 116] (by decide +kernel) (by decide +kernel)
set_option maxRecDepth 20000 in
theorem gX5_draftExchange_X2_unseat : GoodIn wsX5_draftExchange (wsV RX5 128 RX2 yX2_unseat wsX2_unseat) := goodIn_app (goodIn_of _ (by decide +kernel)) ggX5_draftExchange_X2_unseat
set_option maxRecDepth 20000 in
theorem ggX5_draftExchange_X2_seatIfPossible : GoodIn wsX5_draftExchange wsX2_seatIfPossible := goodIn_r _ [54, 55, 56, 57, 7, 58, 26, 23, 31, 32, 33, 34, 24, 59, 60, 61, 62, 19, 63, 64, 65, 66, 9, 10, 67, 68, 69, 70, 39, 40, 41, 42, 25, 71, 72, 73, 74, 20, 75, 76, 77, 78, 15, 43, 44, 45, 46, 21, 47, 48, 49, 50, 16, 79, 80, 81, 82, 83, 84, 85, 86, 22, 18, 87, 88, 89, 90, 35, 36, 37, 38, 103, 104, 105, 106, 107, 108, 109, 110, 111, 112, 113, 114, 115, 116] (by decide +kernel) (by decide +kernel)
set_option maxRecDepth 20000 in
theorem gX5_draftExchange_X2_seatIfPossible : GoodIn wsX5_draftExchange (wsV RX5 209 RX2 yX2_seatIfPossible wsX2_seatIfPossible) := goodIn_app (goodIn_of _ (by decide +kernel)) ggX5_draftExchange_X2_seatIfPossible
theorem dX5_draftExchange_0 : decode cX5_draftExchange 0 = .ok (.aload_n 0, 1) := by decide +kernel
theorem dX5_draftExchange_1 : decode cX5_draftExchange 1 = .ok (.getfield 34, 3) := by decide +kernel
theorem dX5_draftExchange_4 : decode cX5_draftExchange 4 = .ok (.aload_n 0, 1) := by decide +kernel
theorem dX5_draftExchange_5 : decode cX5_draftExchange 5 = .ok (.getfield 30, 3) := by decide +kernel
theorem dX5_draftExchange_8 : decode cX5_draftExchange 8 = .ok (.invokevirtual 93, 3) := by decide +kernel
theorem dX5_draftExchange_11 : decode cX5_draftExchange 11 = .ok (.aload_n 0, 1) := by decide +kernel
theorem dX5_draftExchange_12 : decode cX5_draftExchange 12 = .ok (.getfield 34, 3) := by decide +kernel
theorem dX5_draftExchange_15 : decode cX5_draftExchange 15 = .ok (.iload_n 1, 1) := by decide +kernel
theorem dX5_draftExchange_16 : decode cX5_draftExchange 16 = .ok (.invokevirtual 128, 3) := by decide +kernel
theorem dX5_draftExchange_19 : decode cX5_draftExchange 19 = .ok (.aload_n 0, 1) := by decide +kernel
theorem dX5_draftExchange_20 : decode cX5_draftExchange 20 = .ok (.getfield 34, 3) := by decide +kernel
theorem dX5_draftExchange_23 : decode cX5_draftExchange 23 = .ok (.iload_n 2, 1) := by decide +kernel
theorem dX5_draftExchange_24 : decode cX5_draftExchange 24 = .ok (.invokevirtual 128, 3) := by decide +kernel
theorem dX5_draftExchange_27 : decode cX5_draftExchange 27 = .ok (.aload_n 0, 1) := by decide +kernel
theorem dX5_draftExchange_28 : decode cX5_draftExchange 28 = .ok (.getfield 34, 3) := by decide +kernel
theorem dX5_draftExchange_31 : decode cX5_draftExchange 31 = .ok (.iload_n 1, 1) := by decide +kernel
theorem dX5_draftExchange_32 : decode cX5_draftExchange 32 = .ok (.aload_n 0, 1) := by decide +kernel
theorem dX5_draftExchange_33 : decode cX5_draftExchange 33 = .ok (.getfield 30, 3) := by decide +kernel
theorem dX5_draftExchange_36 : decode cX5_draftExchange 36 = .ok (.getfield 121, 3) := by decide +kernel
theorem dX5_draftExchange_39 : decode cX5_draftExchange 39 = .ok (.iload_n 2, 1) := by decide +kernel
theorem dX5_draftExchange_40 : decode cX5_draftExchange 40 = .ok (.iaload, 1) := by decide +kernel
theorem dX5_draftExchange_41 : decode cX5_draftExchange 41 = .ok (.invokevirtual 209, 3) := by decide +kernel
theorem dX5_draftExchange_44 : decode cX5_draftExchange 44 = .ok (.ifCond .eq 27, 3) := by decide +kernel
theorem dX5_draftExchange_47 : decode cX5_draftExchange 47 = .ok (.aload_n 0, 1) := by decide +kernel
theorem dX5_draftExchange_48 : decode cX5_draftExchange 48 = .ok (.getfield 34, 3) := by decide +kernel
theorem dX5_draftExchange_51 : decode cX5_draftExchange 51 = .ok (.iload_n 2, 1) := by decide +kernel
theorem dX5_draftExchange_52 : decode cX5_draftExchange 52 = .ok (.aload_n 0, 1) := by decide +kernel
theorem dX5_draftExchange_53 : decode cX5_draftExchange 53 = .ok (.getfield 30, 3) := by decide +kernel
theorem dX5_draftExchange_56 : decode cX5_draftExchange 56 = .ok (.getfield 121, 3) := by decide +kernel
theorem dX5_draftExchange_59 : decode cX5_draftExchange 59 = .ok (.iload_n 1, 1) := by decide +kernel
theorem dX5_draftExchange_60 : decode cX5_draftExchange 60 = .ok (.iaload, 1) := by decide +kernel
theorem dX5_draftExchange_61 : decode cX5_draftExchange 61 = .ok (.invokevirtual 209, 3) := by decide +kernel
theorem dX5_draftExchange_64 : decode cX5_draftExchange 64 = .ok (.ifCond .eq 7, 3) := by decide +kernel
theorem dX5_draftExchange_67 : decode cX5_draftExchange 67 = .ok (.iconst 1, 1) := by decide +kernel
theorem dX5_draftExchange_68 : decode cX5_draftExchange 68 = .ok (.goto 4, 3) := by decide +kernel
theorem dX5_draftExchange_71 : decode cX5_draftExchange 71 = .ok (.iconst 0, 1) := by decide +kernel
theorem dX5_draftExchange_72 : decode cX5_draftExchange 72 = .ok (.ireturn, 1) := by decide +kernel
set_option maxRecDepth 20000 in
theorem ggX5_clear_X0_remember : GoodIn wsX5_clear wsX0_remember := goodIn_r _ [7, 8, 9, 10, 11, 12, 13, 14, 15, 16, 17, 18, 19, 20, 21, 22, 23, 24, 25, 26, 27, 28, 29, 30, 31, 32, 33, 78, 79, 80, 81, 82, 83, 84, 85, 86, 87, 88, 89, 90, 91, 92, 93, 94] (by decide +kernel) (by decide +kernel)
set_option maxRecDepth 20000 in
theorem gX5_clear_X0_remember : GoodIn wsX5_clear (wsV RX5 89 RX0 yX0_remember wsX0_remember) := goodIn_app (goodIn_of _ (by decide +kernel)) ggX5_clear_X0_remember
set_option maxRecDepth 20000 in
theorem ggX5_clear_X2_countSeated : GoodIn wsX5_clear wsX2_countSeated := goodIn_r _ [37, 24, 38, 39, 40, 14, 41, 31, 81, 82, 83, 84, 85, 86, 87, 88, 89, 90, 91, 92, 93, 94] (by decide +kernel) (by decide +kernel)
set_option maxRecDepth 20000 in
theorem gX5_clear_X2_countSeated : GoodIn wsX5_clear (wsV RX5 212 RX2 yX2_countSeated wsX2_countSeated) := goodIn_app (goodIn_of _ (by decide +kernel)) ggX5_clear_X2_countSeated
set_option maxRecDepth 20000 in
theorem ggX5_clear_X2_unseatAll : GoodIn wsX5_clear wsX2_unseatAll := goodIn_r _ [45, 24, 46, 47, 48, 14, 49, 31, 26, 33, 38, 39, 40, 41, 50, 51, 52, 53, 16, 54, 55, 56, 57, 32, 58, 59, 60, 61, 28, 62, 63, 64, 65, 23, 81, 82, 83, 84, 85, 86, 87, 88, 89, 90, 91, 92, 93, 94] (by decide +kernel) (by decide +kernel)
set_option maxRecDepth 20000 in
theorem gX5_clear_X2_unseatAll : GoodIn wsX5_clear (wsV RX5 215 RX2 yX2_unseatAll wsX2_unseatAll) := goodIn_app (goodIn_of _ (by decide +kernel)) ggX5_clear_X2_unseatAll
theorem dX5_clear_0 : decode cX5_clear 0 = .ok (.aload_n 0, 1) := by decide +kernel
theorem dX5_clear_1 : decode cX5_clear 1 = .ok (.getfield 40, 3) := by decide +kernel
theorem dX5_clear_4 : decode cX5_clear 4 = .ok (.aload_n 0, 1) := by decide +kernel
theorem dX5_clear_5 : decode cX5_clear 5 = .ok (.getfield 30, 3) := by decide +kernel
theorem dX5_clear_8 : decode cX5_clear 8 = .ok (.invokevirtual 89, 3) := by decide +kernel
theorem dX5_clear_11 : decode cX5_clear 11 = .ok (.aload_n 0, 1) := by decide +kernel
theorem dX5_clear_12 : decode cX5_clear 12 = .ok (.getfield 30, 3) := by decide +kernel
theorem dX5_clear_15 : decode cX5_clear 15 = .ok (.invokevirtual 212, 3) := by decide +kernel
theorem dX5_clear_18 : decode cX5_clear 18 = .ok (.istore_n 1, 1) := by decide +kernel
theorem dX5_clear_19 : decode cX5_clear 19 = .ok (.aload_n 0, 1) := by decide +kernel
theorem dX5_clear_20 : decode cX5_clear 20 = .ok (.getfield 30, 3) := by decide +kernel
theorem dX5_clear_23 : decode cX5_clear 23 = .ok (.invokevirtual 215, 3) := by decide +kernel
theorem dX5_clear_26 : decode cX5_clear 26 = .ok (.iload_n 1, 1) := by decide +kernel
theorem dX5_clear_27 : decode cX5_clear 27 = .ok (.ireturn, 1) := by decide +kernel
set_option maxRecDepth 20000 in
theorem ggX5_income_X2_totalRent : GoodIn wsX5_income wsX2_totalRent := goodIn_r _ [6, 7, 8, 9, 10, 11, 5, 12, 13, 14, 15, 16, 17, 18, 19, 20, 21, 22, 23, 36, 37, 38, 39, 40, 41, 42, 43, 44, 45, 46, 47, 48, 49] (by decide +kernel) (by decide +kernel)
set_option maxRecDepth 20000 in
theorem gX5_income_X2_totalRent : GoodIn wsX5_income (wsV RX5 205 RX2 yX2_totalRent wsX2_totalRent) := goodIn_app (goodIn_of _ (by decide +kernel)) ggX5_income_X2_totalRent
theorem dX5_income_0 : decode cX5_income 0 = .ok (.aload_n 0, 1) := by decide +kernel
theorem dX5_income_1 : decode cX5_income 1 = .ok (.getfield 30, 3) := by decide +kernel
theorem dX5_income_4 : decode cX5_income 4 = .ok (.invokevirtual 205, 3) := by decide +kernel
theorem dX5_income_7 : decode cX5_income 7 = .ok (.ireturn, 1) := by decide +kernel
theorem dX5_coversUsed_0 : decode cX5_coversUsed 0 = .ok (.aload_n 0, 1) := by decide +kernel
theorem dX5_coversUsed_1 : decode cX5_coversUsed 1 = .ok (.getfield 30, 3) := by decide +kernel
theorem dX5_coversUsed_4 : decode cX5_coversUsed 4 = .ok (.getfield 173, 3) := by decide +kernel
theorem dX5_coversUsed_7 : decode cX5_coversUsed 7 = .ok (.ireturn, 1) := by decide +kernel
set_option maxRecDepth 20000 in
theorem ggX5_expectedIncome_X2_isSeated : GoodIn wsX5_expectedIncome wsX2_isSeated := goodIn_r _ [11, 12, 46, 47, 48, 49, 50, 51, 52, 53, 54, 55, 56, 57, 58, 59] (by decide +kernel) (by decide +kernel)
set_option maxRecDepth 20000 in
theorem gX5_expectedIncome_X2_isSeated : GoodIn wsX5_expectedIncome (wsV RX5 195 RX2 yX2_isSeated wsX2_isSeated) := goodIn_app (goodIn_of _ (by decide +kernel)) ggX5_expectedIncome_X2_isSeated
set_option maxRecDepth 20000 in
theorem ggX5_expectedIncome_X2_blockRent : GoodIn wsX5_expectedIncome wsX2_blockRent := goodIn_r _ [16, 17, 18, 19, 20, 21, 22, 23, 46, 47, 48, 49, 50, 51, 52, 53, 54, 55, 56, 57, 58, 59] (by decide +kernel) (by decide +kernel)
set_option maxRecDepth 20000 in
theorem gX5_expectedIncome_X2_blockRent : GoodIn wsX5_expectedIncome (wsV RX5 190 RX2 yX2_blockRent wsX2_blockRent) := goodIn_app (goodIn_of _ (by decide +kernel)) ggX5_expectedIncome_X2_blockRent
set_option maxRecDepth 20000 in
theorem ggX5_expectedIncome_X2_isSheltered : GoodIn wsX5_expectedIncome wsX2_isSheltered := goodIn_r _ [27, 28, 12, 29, 30, 31, 10, 32, 17, 18, 19, 20, 21, 22, 33, 46, 47, 48, 49, 50, 51, 52, 53, 54, 55, 56, 57, 58, 59] (by decide +kernel) (by decide +kernel)
set_option maxRecDepth 20000 in
theorem gX5_expectedIncome_X2_isSheltered : GoodIn wsX5_expectedIncome (wsV RX5 220 RX2 yX2_isSheltered wsX2_isSheltered) := goodIn_app (goodIn_of _ (by decide +kernel)) ggX5_expectedIncome_X2_isSheltered
theorem dX5_expectedIncome_0 : decode cX5_expectedIncome 0 = .ok (.dload_n 1, 1) := by decide +kernel
theorem dX5_expectedIncome_1 : decode cX5_expectedIncome 1 = .ok (.dconst 0, 1) := by decide +kernel
theorem dX5_expectedIncome_2 : decode cX5_expectedIncome 2 = .ok (.dcmp .l, 1) := by decide +kernel
theorem dX5_expectedIncome_3 : decode cX5_expectedIncome 3 = .ok (.ifCond .lt 9, 3) := by decide +kernel
theorem dX5_expectedIncome_6 : decode cX5_expectedIncome 6 = .ok (.dload_n 1, 1) := by decide +kernel
theorem dX5_expectedIncome_7 : decode cX5_expectedIncome 7 = .ok (.dconst 1, 1) := by decide +kernel
theorem dX5_expectedIncome_8 : decode cX5_expectedIncome 8 = .ok (.dcmp .g, 1) := by decide +kernel
theorem dX5_expectedIncome_9 : decode cX5_expectedIncome 9 = .ok (.ifCond .le 13, 3) := by decide +kernel
theorem dX5_expectedIncome_12 : decode cX5_expectedIncome 12 = .ok (.new 79, 3) := by decide +kernel
theorem dX5_expectedIncome_15 : decode cX5_expectedIncome 15 = .ok (.dup, 1) := by decide +kernel
theorem dX5_expectedIncome_16 : decode cX5_expectedIncome 16 = .ok (.ldc 218, 2) := by decide +kernel
theorem dX5_expectedIncome_18 : decode cX5_expectedIncome 18 = .ok (.invokespecial 83, 3) := by decide +kernel
theorem dX5_expectedIncome_21 : decode cX5_expectedIncome 21 = .ok (.athrow, 1) := by decide +kernel
theorem dX5_expectedIncome_22 : decode cX5_expectedIncome 22 = .ok (.dconst 0, 1) := by decide +kernel
theorem dX5_expectedIncome_23 : decode cX5_expectedIncome 23 = .ok (.dstore_n 3, 1) := by decide +kernel
theorem dX5_expectedIncome_24 : decode cX5_expectedIncome 24 = .ok (.iconst 0, 1) := by decide +kernel
theorem dX5_expectedIncome_25 : decode cX5_expectedIncome 25 = .ok (.istore 5, 2) := by decide +kernel
theorem dX5_expectedIncome_27 : decode cX5_expectedIncome 27 = .ok (.iload 5, 2) := by decide +kernel
theorem dX5_expectedIncome_29 : decode cX5_expectedIncome 29 = .ok (.aload_n 0, 1) := by decide +kernel
theorem dX5_expectedIncome_30 : decode cX5_expectedIncome 30 = .ok (.getfield 30, 3) := by decide +kernel
theorem dX5_expectedIncome_33 : decode cX5_expectedIncome 33 = .ok (.getfield 131, 3) := by decide +kernel
theorem dX5_expectedIncome_36 : decode cX5_expectedIncome 36 = .ok (.if_icmp .ge 80, 3) := by decide +kernel
theorem dX5_expectedIncome_39 : decode cX5_expectedIncome 39 = .ok (.aload_n 0, 1) := by decide +kernel
theorem dX5_expectedIncome_40 : decode cX5_expectedIncome 40 = .ok (.getfield 30, 3) := by decide +kernel
theorem dX5_expectedIncome_43 : decode cX5_expectedIncome 43 = .ok (.iload 5, 2) := by decide +kernel
theorem dX5_expectedIncome_45 : decode cX5_expectedIncome 45 = .ok (.invokevirtual 195, 3) := by decide +kernel
theorem dX5_expectedIncome_48 : decode cX5_expectedIncome 48 = .ok (.ifCond .eq 62, 3) := by decide +kernel
theorem dX5_expectedIncome_51 : decode cX5_expectedIncome 51 = .ok (.aload_n 0, 1) := by decide +kernel
theorem dX5_expectedIncome_52 : decode cX5_expectedIncome 52 = .ok (.getfield 30, 3) := by decide +kernel
theorem dX5_expectedIncome_55 : decode cX5_expectedIncome 55 = .ok (.iload 5, 2) := by decide +kernel
theorem dX5_expectedIncome_57 : decode cX5_expectedIncome 57 = .ok (.aload_n 0, 1) := by decide +kernel
theorem dX5_expectedIncome_58 : decode cX5_expectedIncome 58 = .ok (.getfield 30, 3) := by decide +kernel
theorem dX5_expectedIncome_61 : decode cX5_expectedIncome 61 = .ok (.getfield 121, 3) := by decide +kernel
theorem dX5_expectedIncome_64 : decode cX5_expectedIncome 64 = .ok (.iload 5, 2) := by decide +kernel
theorem dX5_expectedIncome_66 : decode cX5_expectedIncome 66 = .ok (.iaload, 1) := by decide +kernel
theorem dX5_expectedIncome_67 : decode cX5_expectedIncome 67 = .ok (.invokevirtual 190, 3) := by decide +kernel
theorem dX5_expectedIncome_70 : decode cX5_expectedIncome 70 = .ok (.istore 6, 2) := by decide +kernel
theorem dX5_expectedIncome_72 : decode cX5_expectedIncome 72 = .ok (.dload_n 3, 1) := by decide +kernel
theorem dX5_expectedIncome_73 : decode cX5_expectedIncome 73 = .ok (.aload_n 0, 1) := by decide +kernel
theorem dX5_expectedIncome_74 : decode cX5_expectedIncome 74 = .ok (.getfield 30, 3) := by decide +kernel
theorem dX5_expectedIncome_77 : decode cX5_expectedIncome 77 = .ok (.iload 5, 2) := by decide +kernel
theorem dX5_expectedIncome_79 : decode cX5_expectedIncome 79 = .ok (.invokevirtual 220, 3) := by decide +kernel
theorem dX5_expectedIncome_82 : decode cX5_expectedIncome 82 = .ok (.ifCond .eq 9, 3) := by decide +kernel
theorem dX5_expectedIncome_85 : decode cX5_expectedIncome 85 = .ok (.iload 6, 2) := by decide +kernel
theorem dX5_expectedIncome_87 : decode cX5_expectedIncome 87 = .ok (.i2d, 1) := by decide +kernel
theorem dX5_expectedIncome_88 : decode cX5_expectedIncome 88 = .ok (.goto 20, 3) := by decide +kernel
theorem dX5_expectedIncome_91 : decode cX5_expectedIncome 91 = .ok (.iload 6, 2) := by decide +kernel
theorem dX5_expectedIncome_93 : decode cX5_expectedIncome 93 = .ok (.i2d, 1) := by decide +kernel
theorem dX5_expectedIncome_94 : decode cX5_expectedIncome 94 = .ok (.dconst 1, 1) := by decide +kernel
theorem dX5_expectedIncome_95 : decode cX5_expectedIncome 95 = .ok (.dload_n 1, 1) := by decide +kernel
theorem dX5_expectedIncome_96 : decode cX5_expectedIncome 96 = .ok (.dsub, 1) := by decide +kernel
theorem dX5_expectedIncome_97 : decode cX5_expectedIncome 97 = .ok (.dmul, 1) := by decide +kernel
theorem dX5_expectedIncome_98 : decode cX5_expectedIncome 98 = .ok (.iload 6, 2) := by decide +kernel
theorem dX5_expectedIncome_100 : decode cX5_expectedIncome 100 = .ok (.i2d, 1) := by decide +kernel
theorem dX5_expectedIncome_101 : decode cX5_expectedIncome 101 = .ok (.ldc2_w 223, 3) := by decide +kernel
theorem dX5_expectedIncome_104 : decode cX5_expectedIncome 104 = .ok (.dmul, 1) := by decide +kernel
theorem dX5_expectedIncome_105 : decode cX5_expectedIncome 105 = .ok (.dload_n 1, 1) := by decide +kernel
theorem dX5_expectedIncome_106 : decode cX5_expectedIncome 106 = .ok (.dmul, 1) := by decide +kernel
theorem dX5_expectedIncome_107 : decode cX5_expectedIncome 107 = .ok (.dadd, 1) := by decide +kernel
theorem dX5_expectedIncome_108 : decode cX5_expectedIncome 108 = .ok (.dadd, 1) := by decide +kernel
theorem dX5_expectedIncome_109 : decode cX5_expectedIncome 109 = .ok (.dstore_n 3, 1) := by decide +kernel
theorem dX5_expectedIncome_110 : decode cX5_expectedIncome 110 = .ok (.iinc 5 1, 3) := by decide +kernel
theorem dX5_expectedIncome_113 : decode cX5_expectedIncome 113 = .ok (.goto (-86), 3) := by decide +kernel
theorem dX5_expectedIncome_116 : decode cX5_expectedIncome 116 = .ok (.dload_n 3, 1) := by decide +kernel
theorem dX5_expectedIncome_117 : decode cX5_expectedIncome 117 = .ok (.dreturn, 1) := by decide +kernel
set_option maxRecDepth 20000 in
theorem ggX5_bestIncome_X5_preparePlan : GoodIn wsX5_bestIncome wsX5_preparePlan := goodIn_r _ [8, 9, 1, 2, 10, 11, 12, 13, 14, 15, 16, 17, 18, 19, 20, 21, 22, 23, 24, 25, 26, 27, 28, 29, 30, 31, 32, 33, 34, 35, 36, 37, 38, 39, 40, 41, 42, 43, 44, 45, 46, 47, 48, 49, 50, 51, 52, 53, 54, 55, 56, 57, 58, 59, 60, 61, 62, 63, 64, 65, 66, 67, 68, 69, 70, 71, 72, 73, 74, 75, 76, 77, 78, 79, 80, 81, 82, 83, 84, 85, 86, 87, 88, 89, 90, 91, 92, 93, 94, 95, 96, 97, 98, 99, 100, 101, 102, 103, 104, 105, 106, 107, 108, 109, 110, 111, 112, 113, 114, 115, 116, 117, 118, 119, 120, 121, 122, 123, 124, 125, 126, 127, 128, 129, 130, 131, 132, 133, 134, 135, 144, 145, 146, 147, 148, 149, 150, 151, 152, 153, 154, 155, 170, 171, 172, 173, 174, 175, 176, 177, 178, 179, 156, 157, 158, 159, 160, 161, 162, 163, 164, 165, 166, 167, 168, 169] (by decide +kernel) (by decide +kernel)
set_option maxRecDepth 20000 in
theorem gX5_bestIncome_X5_preparePlan : GoodIn wsX5_bestIncome (wsV RX5 225 RX5 yX5_preparePlan wsX5_preparePlan) := goodIn_app (goodIn_of _ (by decide +kernel)) ggX5_bestIncome_X5_preparePlan
set_option maxRecDepth 20000 in
theorem ggX5_bestIncome_X3_incomeWithout : GoodIn wsX5_bestIncome wsX3_incomeWithout := goodIn_r _ [139, 21, 112, 113, 114, 13, 115, 17, 19, 20, 140, 141, 142, 143, 72, 73, 69, 74, 170, 171, 172, 173, 174, 175, 176, 177, 178, 179] (by decide +kernel) (by decide +kernel)
set_option maxRecDepth 20000 in
theorem gX5_bestIncome_X3_incomeWithout : GoodIn wsX5_bestIncome (wsV RX5 228 RX3 yX3_incomeWithout wsX3_incomeWithout) := goodIn_app (goodIn_of _ (by decide +kernel)) ggX5_bestIncome_X3_incomeWithout
theorem dX5_bestIncome_0 : decode cX5_bestIncome 0 = .ok (.aload_n 0, 1) := by decide +kernel
theorem dX5_bestIncome_1 : decode cX5_bestIncome 1 = .ok (.invokevirtual 225, 3) := by decide +kernel
theorem dX5_bestIncome_4 : decode cX5_bestIncome 4 = .ok (.aload_n 0, 1) := by decide +kernel
theorem dX5_bestIncome_5 : decode cX5_bestIncome 5 = .ok (.getfield 47, 3) := by decide +kernel
theorem dX5_bestIncome_8 : decode cX5_bestIncome 8 = .ok (.iconst 0, 1) := by decide +kernel
theorem dX5_bestIncome_9 : decode cX5_bestIncome 9 = .ok (.aload_n 0, 1) := by decide +kernel
theorem dX5_bestIncome_10 : decode cX5_bestIncome 10 = .ok (.getfield 30, 3) := by decide +kernel
theorem dX5_bestIncome_13 : decode cX5_bestIncome 13 = .ok (.getfield 178, 3) := by decide +kernel
theorem dX5_bestIncome_16 : decode cX5_bestIncome 16 = .ok (.invokevirtual 228, 3) := by decide +kernel
theorem dX5_bestIncome_19 : decode cX5_bestIncome 19 = .ok (.ireturn, 1) := by decide +kernel
set_option maxRecDepth 20000 in
theorem ggX5_preparePlan_X3_plan : GoodIn wsX5_preparePlan wsX3_plan := goodIn_r _ [8, 9, 10, 11, 12, 13, 14, 15, 16, 17, 18, 19, 20, 21, 22, 23, 24, 25, 26, 27, 28, 29, 30, 31, 32, 33, 34, 35, 36, 37, 38, 39, 40, 41, 7, 42, 43, 44, 45, 46, 47, 48, 49, 50, 51, 52, 53, 54, 55, 56, 57, 58, 59, 60, 61, 62, 63, 64, 65, 66, 67, 68, 69, 70, 71, 72, 73, 74, 75, 76, 77, 78, 79, 80, 81, 82, 83, 84, 85, 86, 87, 88, 89, 90, 91, 92, 93, 94, 95, 96, 97, 98, 99, 100, 101, 102, 103, 104, 105, 106, 107, 108, 109, 110, 111, 112, 113, 114, 115, 116, 117, 118, 119, 120, 121, 122, 123, 124, 125, 126, 127, 128, 129, 142, 143, 144, 145, 146, 147, 148, 149, 150, 151, 152, 153, 154, 155, 156, 157, 158, 159, 160, 161, 162, 163, 164, 165] (by decide +kernel) (by decide +kernel)
set_option maxRecDepth 20000 in
theorem gX5_preparePlan_X3_plan : GoodIn wsX5_preparePlan (wsV RX5 231 RX3 yX3_plan wsX3_plan) := goodIn_app (goodIn_of _ (by decide +kernel)) ggX5_preparePlan_X3_plan
theorem dX5_preparePlan_0 : decode cX5_preparePlan 0 = .ok (.aload_n 0, 1) := by decide +kernel
theorem dX5_preparePlan_1 : decode cX5_preparePlan 1 = .ok (.getfield 64, 3) := by decide +kernel
theorem dX5_preparePlan_4 : decode cX5_preparePlan 4 = .ok (.ifCond .ne 19, 3) := by decide +kernel
theorem dX5_preparePlan_7 : decode cX5_preparePlan 7 = .ok (.aload_n 0, 1) := by decide +kernel
theorem dX5_preparePlan_8 : decode cX5_preparePlan 8 = .ok (.getfield 47, 3) := by decide +kernel
theorem dX5_preparePlan_11 : decode cX5_preparePlan 11 = .ok (.aload_n 0, 1) := by decide +kernel
theorem dX5_preparePlan_12 : decode cX5_preparePlan 12 = .ok (.getfield 30, 3) := by decide +kernel
theorem dX5_preparePlan_15 : decode cX5_preparePlan 15 = .ok (.invokevirtual 231, 3) := by decide +kernel
theorem dX5_preparePlan_18 : decode cX5_preparePlan 18 = .ok (.aload_n 0, 1) := by decide +kernel
theorem dX5_preparePlan_19 : decode cX5_preparePlan 19 = .ok (.iconst 1, 1) := by decide +kernel
theorem dX5_preparePlan_20 : decode cX5_preparePlan 20 = .ok (.putfield 64, 3) := by decide +kernel
theorem dX5_preparePlan_23 : decode cX5_preparePlan 23 = .ok (.return_, 1) := by decide +kernel
set_option maxRecDepth 20000 in
theorem ggX5_optimise_X5_preparePlan : GoodIn wsX5_optimise wsX5_preparePlan := goodIn_r _ [8, 9, 3, 2, 10, 11, 12, 13, 14, 15, 16, 17, 18, 19, 20, 21, 22, 23, 24, 25, 26, 27, 28, 29, 30, 31, 32, 33, 34, 35, 36, 37, 38, 39, 40, 41, 42, 43, 44, 45, 46, 47, 48, 49, 50, 51, 52, 53, 54, 55, 56, 57, 58, 59, 60, 61, 62, 63, 64, 65, 66, 67, 68, 69, 70, 71, 72, 73, 74, 75, 76, 77, 78, 79, 80, 81, 82, 83, 84, 85, 86, 87, 88, 89, 90, 91, 92, 93, 94, 95, 96, 97, 98, 99, 100, 101, 102, 103, 104, 105, 106, 107, 108, 109, 110, 111, 112, 113, 114, 115, 116, 117, 118, 119, 120, 121, 122, 123, 124, 125, 126, 127, 128, 129, 130, 131, 132, 133, 134, 135, 182, 183, 184, 185, 186, 187, 188, 189, 190, 191, 192, 193, 194, 195, 196, 197, 198, 199, 200, 201, 202, 203, 204, 205, 206, 207, 208, 209, 210, 211, 212, 213, 214, 215, 216, 217] (by decide +kernel) (by decide +kernel)
set_option maxRecDepth 20000 in
theorem gX5_optimise_X5_preparePlan : GoodIn wsX5_optimise (wsV RX5 225 RX5 yX5_preparePlan wsX5_preparePlan) := goodIn_app (goodIn_of _ (by decide +kernel)) ggX5_optimise_X5_preparePlan
set_option maxRecDepth 20000 in
theorem ggX5_optimise_X0_remember : GoodIn wsX5_optimise wsX0_remember := goodIn_r _ [140, 141, 142, 143, 144, 23, 24, 25, 26, 27, 28, 29, 30, 31, 32, 33, 34, 35, 36, 37, 38, 39, 40, 41, 42, 43, 44, 218, 219, 220, 204, 205, 206, 207, 208, 209, 210, 211, 212, 213, 214, 215, 216, 217] (by decide +kernel) (by decide +kernel)
set_option maxRecDepth 20000 in
theorem gX5_optimise_X0_remember : GoodIn wsX5_optimise (wsV RX5 89 RX0 yX0_remember wsX0_remember) := goodIn_app (goodIn_of _ (by decide +kernel)) ggX5_optimise_X0_remember
set_option maxRecDepth 20000 in
theorem ggX5_optimise_X2_unseatAll : GoodIn wsX5_optimise wsX2_unseatAll := goodIn_r _ [148, 35, 149, 150, 151, 25, 152, 42, 37, 44, 153, 154, 155, 156, 157, 158, 159, 160, 27, 91, 73, 69, 74, 43, 161, 94, 95, 96, 39, 97, 98, 99, 100, 34, 204, 205, 206, 207, 208, 209, 210, 211, 212, 213, 214, 215, 216, 217] (by decide +kernel) (by decide +kernel)
set_option maxRecDepth 20000 in
theorem gX5_optimise_X2_unseatAll : GoodIn wsX5_optimise (wsV RX5 215 RX2 yX2_unseatAll wsX2_unseatAll) := goodIn_app (goodIn_of _ (by decide +kernel)) ggX5_optimise_X2_unseatAll
set_option maxRecDepth 20000 in
theorem ggX5_optimise_X3_seatBest : GoodIn wsX5_optimise wsX3_seatBest := goodIn_r _ [165, 15, 71, 18, 64, 66, 65, 166, 167, 168, 13, 169, 20, 72, 73, 69, 74, 170, 171, 172, 173, 21, 16, 63, 112, 113, 114, 115, 17, 19, 120, 121, 122, 123, 132, 133, 134, 135, 49, 128, 129, 130, 131, 174, 175, 176, 25, 177, 37, 42, 44, 157, 158, 159, 160, 27, 91, 43, 161, 94, 95, 96, 39, 97, 98, 99, 100, 34, 194, 195, 196, 197, 198, 199, 200, 201, 202, 203, 204, 205, 206, 207, 208, 209, 210, 211, 212, 213, 214, 215, 216, 217] (by decide +kernel) (by decide +kernel)
set_option maxRecDepth 20000 in
theorem gX5_optimise_X3_seatBest : GoodIn wsX5_optimise (wsV RX5 234 RX3 yX3_seatBest wsX3_seatBest) := goodIn_app (goodIn_of _ (by decide +kernel)) ggX5_optimise_X3_seatBest
set_option maxRecDepth 20000 in
theorem ggX5_optimise_X2_countSeated : GoodIn wsX5_optimise wsX2_countSeated := goodIn_r _ [181, 35, 153, 154, 155, 25, 156, 42, 204, 205, 206, 207, 208, 209, 210, 211, 212, 213, 214, 215, 216, 217] (by decide +kernel) (by decide +kernel)
set_option maxRecDepth 20000 in
theorem gX5_optimise_X2_countSeated : GoodIn wsX5_optimise (wsV RX5 212 RX2 yX2_countSeated wsX2_countSeated) := goodIn_app (goodIn_of _ (by decide +kernel)) ggX5_optimise_X2_countSeated
theorem dX5_optimise_0 : decode cX5_optimise 0 = .ok (.aload_n 0, 1) := by decide +kernel
theorem dX5_optimise_1 : decode cX5_optimise 1 = .ok (.invokevirtual 225, 3) := by decide +kernel
theorem dX5_optimise_4 : decode cX5_optimise 4 = .ok (.aload_n 0, 1) := by decide +kernel
theorem dX5_optimise_5 : decode cX5_optimise 5 = .ok (.getfield 40, 3) := by decide +kernel
theorem dX5_optimise_8 : decode cX5_optimise 8 = .ok (.aload_n 0, 1) := by decide +kernel
theorem dX5_optimise_9 : decode cX5_optimise 9 = .ok (.getfield 30, 3) := by decide +kernel
theorem dX5_optimise_12 : decode cX5_optimise 12 = .ok (.invokevirtual 89, 3) := by decide +kernel
theorem dX5_optimise_15 : decode cX5_optimise 15 = .ok (.aload_n 0, 1) := by decide +kernel
theorem dX5_optimise_16 : decode cX5_optimise 16 = .ok (.getfield 30, 3) := by decide +kernel
theorem dX5_optimise_19 : decode cX5_optimise 19 = .ok (.invokevirtual 215, 3) := by decide +kernel
theorem dX5_optimise_22 : decode cX5_optimise 22 = .ok (.aload_n 0, 1) := by decide +kernel
theorem dX5_optimise_23 : decode cX5_optimise 23 = .ok (.getfield 47, 3) := by decide +kernel
theorem dX5_optimise_26 : decode cX5_optimise 26 = .ok (.aload_n 0, 1) := by decide +kernel
theorem dX5_optimise_27 : decode cX5_optimise 27 = .ok (.getfield 30, 3) := by decide +kernel
theorem dX5_optimise_30 : decode cX5_optimise 30 = .ok (.invokevirtual 234, 3) := by decide +kernel
theorem dX5_optimise_33 : decode cX5_optimise 33 = .ok (.aload_n 0, 1) := by decide +kernel
theorem dX5_optimise_34 : decode cX5_optimise 34 = .ok (.getfield 30, 3) := by decide +kernel
theorem dX5_optimise_37 : decode cX5_optimise 37 = .ok (.invokevirtual 212, 3) := by decide +kernel
theorem dX5_optimise_40 : decode cX5_optimise 40 = .ok (.ireturn, 1) := by decide +kernel
set_option maxRecDepth 20000 in
theorem ggX5_clashCost_X5_requireTrades : GoodIn wsX5_clashCost wsX5_requireTrades := goodIn_ca (goodIn_r _ [9, 10, 11, 12, 13, 8, 14, 15, 16, 17] (by decide +kernel) (by decide +kernel)) (goodIn_sub (fun _ h => List.mem_cons_of_mem _ (List.mem_append_right _ h)) (by decide +kernel))
set_option maxRecDepth 20000 in
theorem gX5_clashCost_X5_requireTrades : GoodIn wsX5_clashCost (va_wsS RX5 155 yX5_requireTrades wsX5_requireTrades) := goodIn_app (goodIn_of _ (by decide +kernel)) ggX5_clashCost_X5_requireTrades
set_option maxRecDepth 20000 in
theorem ggX5_clashCost_X2_areClashing : GoodIn wsX5_clashCost wsX2_areClashing := goodIn_r _ [22, 23, 178, 179, 180, 181, 182, 183, 184, 185, 186, 187, 188, 189, 190, 191] (by decide +kernel) (by decide +kernel)
set_option maxRecDepth 20000 in
theorem gX5_clashCost_X2_areClashing : GoodIn wsX5_clashCost (wsV RX5 159 RX2 yX2_areClashing wsX2_areClashing) := goodIn_app (goodIn_of _ (by decide +kernel)) ggX5_clashCost_X2_areClashing
set_option maxRecDepth 20000 in
theorem ggX5_clashCost_X5_preparePlan : GoodIn wsX5_clashCost wsX5_preparePlan := goodIn_r _ [27, 28, 5, 1, 29, 30, 31, 32, 33, 34, 35, 36, 37, 38, 39, 40, 41, 42, 43, 21, 44, 45, 46, 47, 48, 49, 50, 51, 52, 53, 54, 55, 56, 57, 23, 58, 59, 60, 61, 62, 63, 64, 65, 66, 67, 68, 69, 70, 71, 72, 73, 74, 75, 76, 77, 78, 79, 80, 81, 82, 83, 84, 85, 86, 87, 88, 89, 90, 91, 92, 93, 94, 95, 96, 97, 98, 99, 100, 101, 102, 103, 104, 105, 106, 107, 108, 109, 110, 111, 112, 113, 114, 115, 116, 117, 118, 119, 120, 121, 122, 123, 124, 125, 126, 127, 128, 129, 130, 131, 132, 133, 134, 135, 136, 137, 138, 139, 140, 141, 142, 143, 144, 145, 146, 147, 148, 149, 150, 151, 152, 166, 167, 168, 169, 170, 171, 172, 173, 174, 175, 176, 177, 192, 193, 194, 195, 196, 197, 198, 199, 200, 201, 178, 179, 180, 181, 182, 183, 184, 185, 186, 187, 188, 189, 190, 191] (by decide +kernel) (by decide +kernel)
set_option maxRecDepth 20000 in
theorem gX5_clashCost_X5_preparePlan : GoodIn wsX5_clashCost (wsV RX5 225 RX5 yX5_preparePlan wsX5_preparePlan) := goodIn_app (goodIn_of _ (by decide +kernel)) ggX5_clashCost_X5_preparePlan
set_option maxRecDepth 20000 in
theorem ggX5_clashCost_X2_copyFrom : GoodIn wsX5_clashCost wsX2_copyFrom := goodIn_r _ [44, 45, 46, 47, 48, 49, 50, 51, 52, 53, 54, 55, 56, 57, 23, 58, 59, 60, 61, 178, 179, 180, 181, 182, 183, 184, 185, 186, 187, 188, 189, 190, 191] (by decide +kernel) (by decide +kernel)
set_option maxRecDepth 20000 in
theorem gX5_clashCost_X2_copyFrom : GoodIn wsX5_clashCost (wsV RX5 93 RX2 yX2_copyFrom wsX2_copyFrom) := goodIn_app (goodIn_of _ (by decide +kernel)) ggX5_clashCost_X2_copyFrom
set_option maxRecDepth 20000 in
theorem ggX5_clashCost_X2_putClash : GoodIn wsX5_clashCost wsX2_putClash := goodIn_r _ [157, 23, 178, 179, 180, 181, 182, 183, 184, 185, 186, 187, 188, 189, 190, 191] (by decide +kernel) (by decide +kernel)
set_option maxRecDepth 20000 in
theorem gX5_clashCost_X2_putClash : GoodIn wsX5_clashCost (wsV RX5 167 RX2 yX2_putClash wsX2_putClash) := goodIn_app (goodIn_of _ (by decide +kernel)) ggX5_clashCost_X2_putClash
set_option maxRecDepth 20000 in
theorem ggX5_clashCost_X3_plan : GoodIn wsX5_clashCost wsX3_plan := goodIn_r _ [33, 34, 35, 36, 37, 38, 39, 40, 41, 42, 43, 21, 44, 45, 46, 47, 48, 49, 50, 51, 52, 53, 54, 55, 56, 57, 23, 58, 59, 60, 61, 62, 63, 64, 32, 65, 66, 67, 68, 69, 70, 71, 72, 73, 74, 75, 76, 77, 78, 79, 80, 81, 82, 83, 84, 85, 86, 87, 88, 89, 90, 91, 92, 93, 94, 95, 96, 97, 98, 99, 100, 101, 102, 103, 104, 105, 106, 107, 108, 109, 110, 111, 112, 113, 114, 115, 116, 117, 118, 119, 120, 121, 122, 123, 124, 125, 126, 127, 128, 129, 130, 131, 132, 133, 134, 135, 136, 137, 138, 139, 140, 141, 142, 143, 144, 145, 146, 147, 148, 149, 150, 151, 152, 192, 193, 194, 195, 196, 197, 198, 199, 200, 201, 178, 179, 180, 181, 182, 183, 184, 185, 186, 187, 188, 189, 190, 191] (by decide +kernel) (by decide +kernel)
set_option maxRecDepth 20000 in
theorem gX5_clashCost_X3_plan : GoodIn wsX5_clashCost (wsV RX5 231 RX3 yX3_plan wsX3_plan) := goodIn_app (goodIn_of _ (by decide +kernel)) ggX5_clashCost_X3_plan
set_option maxRecDepth 20000 in
theorem ggX5_clashCost_X3_incomeWithout : GoodIn wsX5_clashCost wsX3_incomeWithout := goodIn_r _ [161, 40, 129, 130, 131, 32, 132, 36, 38, 39, 162, 163, 164, 165, 89, 90, 86, 91, 192, 193, 194, 195, 196, 197, 198, 199, 200, 201] (by decide +kernel) (by decide +kernel)
set_option maxRecDepth 20000 in
theorem gX5_clashCost_X3_incomeWithout : GoodIn wsX5_clashCost (wsV RX5 228 RX3 yX3_incomeWithout wsX3_incomeWithout) := goodIn_app (goodIn_of _ (by decide +kernel)) ggX5_clashCost_X3_incomeWithout
theorem dX5_clashCost_0 : decode cX5_clashCost 0 = .ok (.iload_n 1, 1) := by decide +kernel
theorem dX5_clashCost_1 : decode cX5_clashCost 1 = .ok (.iload_n 2, 1) := by decide +kernel
theorem dX5_clashCost_2 : decode cX5_clashCost 2 = .ok (.invokestatic 155, 3) := by decide +kernel
theorem dX5_clashCost_5 : decode cX5_clashCost 5 = .ok (.aload_n 0, 1) := by decide +kernel
theorem dX5_clashCost_6 : decode cX5_clashCost 6 = .ok (.getfield 30, 3) := by decide +kernel
theorem dX5_clashCost_9 : decode cX5_clashCost 9 = .ok (.iload_n 1, 1) := by decide +kernel
theorem dX5_clashCost_10 : decode cX5_clashCost 10 = .ok (.iload_n 2, 1) := by decide +kernel
theorem dX5_clashCost_11 : decode cX5_clashCost 11 = .ok (.invokevirtual 159, 3) := by decide +kernel
theorem dX5_clashCost_14 : decode cX5_clashCost 14 = .ok (.ifCond .ne 5, 3) := by decide +kernel
theorem dX5_clashCost_17 : decode cX5_clashCost 17 = .ok (.iconst 0, 1) := by decide +kernel
theorem dX5_clashCost_18 : decode cX5_clashCost 18 = .ok (.ireturn, 1) := by decide +kernel
theorem dX5_clashCost_19 : decode cX5_clashCost 19 = .ok (.aload_n 0, 1) := by decide +kernel
theorem dX5_clashCost_20 : decode cX5_clashCost 20 = .ok (.invokevirtual 225, 3) := by decide +kernel
theorem dX5_clashCost_23 : decode cX5_clashCost 23 = .ok (.aload_n 0, 1) := by decide +kernel
theorem dX5_clashCost_24 : decode cX5_clashCost 24 = .ok (.getfield 34, 3) := by decide +kernel
theorem dX5_clashCost_27 : decode cX5_clashCost 27 = .ok (.aload_n 0, 1) := by decide +kernel
theorem dX5_clashCost_28 : decode cX5_clashCost 28 = .ok (.getfield 30, 3) := by decide +kernel
theorem dX5_clashCost_31 : decode cX5_clashCost 31 = .ok (.invokevirtual 93, 3) := by decide +kernel
theorem dX5_clashCost_34 : decode cX5_clashCost 34 = .ok (.aload_n 0, 1) := by decide +kernel
theorem dX5_clashCost_35 : decode cX5_clashCost 35 = .ok (.getfield 34, 3) := by decide +kernel
theorem dX5_clashCost_38 : decode cX5_clashCost 38 = .ok (.iload_n 1, 1) := by decide +kernel
theorem dX5_clashCost_39 : decode cX5_clashCost 39 = .ok (.iload_n 2, 1) := by decide +kernel
theorem dX5_clashCost_40 : decode cX5_clashCost 40 = .ok (.iconst 0, 1) := by decide +kernel
theorem dX5_clashCost_41 : decode cX5_clashCost 41 = .ok (.invokevirtual 167, 3) := by decide +kernel
theorem dX5_clashCost_44 : decode cX5_clashCost 44 = .ok (.aload_n 0, 1) := by decide +kernel
theorem dX5_clashCost_45 : decode cX5_clashCost 45 = .ok (.getfield 51, 3) := by decide +kernel
theorem dX5_clashCost_48 : decode cX5_clashCost 48 = .ok (.aload_n 0, 1) := by decide +kernel
theorem dX5_clashCost_49 : decode cX5_clashCost 49 = .ok (.getfield 34, 3) := by decide +kernel
theorem dX5_clashCost_52 : decode cX5_clashCost 52 = .ok (.invokevirtual 231, 3) := by decide +kernel
theorem dX5_clashCost_55 : decode cX5_clashCost 55 = .ok (.aload_n 0, 1) := by decide +kernel
theorem dX5_clashCost_56 : decode cX5_clashCost 56 = .ok (.getfield 51, 3) := by decide +kernel
theorem dX5_clashCost_59 : decode cX5_clashCost 59 = .ok (.iconst 0, 1) := by decide +kernel
theorem dX5_clashCost_60 : decode cX5_clashCost 60 = .ok (.aload_n 0, 1) := by decide +kernel
theorem dX5_clashCost_61 : decode cX5_clashCost 61 = .ok (.getfield 30, 3) := by decide +kernel
theorem dX5_clashCost_64 : decode cX5_clashCost 64 = .ok (.getfield 178, 3) := by decide +kernel
theorem dX5_clashCost_67 : decode cX5_clashCost 67 = .ok (.invokevirtual 228, 3) := by decide +kernel
theorem dX5_clashCost_70 : decode cX5_clashCost 70 = .ok (.aload_n 0, 1) := by decide +kernel
theorem dX5_clashCost_71 : decode cX5_clashCost 71 = .ok (.getfield 47, 3) := by decide +kernel
theorem dX5_clashCost_74 : decode cX5_clashCost 74 = .ok (.iconst 0, 1) := by decide +kernel
theorem dX5_clashCost_75 : decode cX5_clashCost 75 = .ok (.aload_n 0, 1) := by decide +kernel
theorem dX5_clashCost_76 : decode cX5_clashCost 76 = .ok (.getfield 30, 3) := by decide +kernel
theorem dX5_clashCost_79 : decode cX5_clashCost 79 = .ok (.getfield 178, 3) := by decide +kernel
theorem dX5_clashCost_82 : decode cX5_clashCost 82 = .ok (.invokevirtual 228, 3) := by decide +kernel
theorem dX5_clashCost_85 : decode cX5_clashCost 85 = .ok (.isub, 1) := by decide +kernel
theorem dX5_clashCost_86 : decode cX5_clashCost 86 = .ok (.ireturn, 1) := by decide +kernel
set_option maxRecDepth 20000 in
theorem ggX5_coverValue_X5_preparePlan : GoodIn wsX5_coverValue wsX5_preparePlan := goodIn_r _ [8, 9, 1, 2, 10, 11, 12, 13, 14, 15, 16, 17, 18, 19, 20, 21, 22, 23, 24, 25, 26, 27, 28, 29, 30, 31, 32, 33, 34, 35, 36, 37, 38, 39, 40, 41, 42, 43, 44, 45, 46, 47, 48, 49, 50, 51, 52, 53, 54, 55, 56, 57, 58, 59, 60, 61, 62, 63, 64, 65, 66, 67, 68, 69, 70, 71, 72, 73, 74, 75, 76, 77, 78, 79, 80, 81, 82, 83, 84, 85, 86, 87, 88, 89, 90, 91, 92, 93, 94, 95, 96, 97, 98, 99, 100, 101, 102, 103, 104, 105, 106, 107, 108, 109, 110, 111, 112, 113, 114, 115, 116, 117, 118, 119, 120, 121, 122, 123, 124, 125, 126, 127, 128, 129, 130, 131, 132, 133, 134, 135, 144, 145, 146, 147, 148, 149, 150, 151, 152, 153, 154, 155, 170, 171, 172, 173, 174, 175, 176, 177, 178, 179, 156, 157, 158, 159, 160, 161, 162, 163, 164, 165, 166, 167, 168, 169] (by decide +kernel) (by decide +kernel)
set_option maxRecDepth 20000 in
theorem gX5_coverValue_X5_preparePlan : GoodIn wsX5_coverValue (wsV RX5 225 RX5 yX5_preparePlan wsX5_preparePlan) := goodIn_app (goodIn_of _ (by decide +kernel)) ggX5_coverValue_X5_preparePlan
set_option maxRecDepth 20000 in
theorem ggX5_coverValue_X3_incomeWithout : GoodIn wsX5_coverValue wsX3_incomeWithout := goodIn_r _ [139, 21, 112, 113, 114, 13, 115, 17, 19, 20, 140, 141, 142, 143, 72, 73, 69, 74, 170, 171, 172, 173, 174, 175, 176, 177, 178, 179] (by decide +kernel) (by decide +kernel)
set_option maxRecDepth 20000 in
theorem gX5_coverValue_X3_incomeWithout : GoodIn wsX5_coverValue (wsV RX5 228 RX3 yX3_incomeWithout wsX3_incomeWithout) := goodIn_app (goodIn_of _ (by decide +kernel)) ggX5_coverValue_X3_incomeWithout
theorem dX5_coverValue_0 : decode cX5_coverValue 0 = .ok (.aload_n 0, 1) := by decide +kernel
theorem dX5_coverValue_1 : decode cX5_coverValue 1 = .ok (.invokevirtual 225, 3) := by decide +kernel
theorem dX5_coverValue_4 : decode cX5_coverValue 4 = .ok (.aload_n 0, 1) := by decide +kernel
theorem dX5_coverValue_5 : decode cX5_coverValue 5 = .ok (.getfield 47, 3) := by decide +kernel
theorem dX5_coverValue_8 : decode cX5_coverValue 8 = .ok (.iconst 0, 1) := by decide +kernel
theorem dX5_coverValue_9 : decode cX5_coverValue 9 = .ok (.aload_n 0, 1) := by decide +kernel
theorem dX5_coverValue_10 : decode cX5_coverValue 10 = .ok (.getfield 30, 3) := by decide +kernel
theorem dX5_coverValue_13 : decode cX5_coverValue 13 = .ok (.getfield 178, 3) := by decide +kernel
theorem dX5_coverValue_16 : decode cX5_coverValue 16 = .ok (.iconst 1, 1) := by decide +kernel
theorem dX5_coverValue_17 : decode cX5_coverValue 17 = .ok (.iadd, 1) := by decide +kernel
theorem dX5_coverValue_18 : decode cX5_coverValue 18 = .ok (.invokevirtual 228, 3) := by decide +kernel
theorem dX5_coverValue_21 : decode cX5_coverValue 21 = .ok (.aload_n 0, 1) := by decide +kernel
theorem dX5_coverValue_22 : decode cX5_coverValue 22 = .ok (.getfield 47, 3) := by decide +kernel
theorem dX5_coverValue_25 : decode cX5_coverValue 25 = .ok (.iconst 0, 1) := by decide +kernel
theorem dX5_coverValue_26 : decode cX5_coverValue 26 = .ok (.aload_n 0, 1) := by decide +kernel
theorem dX5_coverValue_27 : decode cX5_coverValue 27 = .ok (.getfield 30, 3) := by decide +kernel
theorem dX5_coverValue_30 : decode cX5_coverValue 30 = .ok (.getfield 178, 3) := by decide +kernel
theorem dX5_coverValue_33 : decode cX5_coverValue 33 = .ok (.invokevirtual 228, 3) := by decide +kernel
theorem dX5_coverValue_36 : decode cX5_coverValue 36 = .ok (.isub, 1) := by decide +kernel
theorem dX5_coverValue_37 : decode cX5_coverValue 37 = .ok (.ireturn, 1) := by decide +kernel
set_option maxRecDepth 20000 in
theorem ggX5_contribution_X5_requireTrader : GoodIn wsX5_contribution wsX5_requireTrader := goodIn_ca (goodIn_r _ [8, 9, 10, 2, 11, 12, 13, 14, 15, 16, 154, 155, 156, 157, 158, 159, 160, 161, 162, 163, 164, 165, 166, 167, 168, 169, 170, 171, 172, 173, 174, 175, 176, 177, 178, 179] (by decide +kernel) (by decide +kernel)) (goodIn_sub (fun _ h => List.mem_cons_of_mem _ (List.mem_append_right _ h)) (by decide +kernel))
set_option maxRecDepth 20000 in
theorem gX5_contribution_X5_requireTrader : GoodIn wsX5_contribution (wsV RX5 134 RX5 yX5_requireTrader wsX5_requireTrader) := goodIn_app (goodIn_of _ (by decide +kernel)) ggX5_contribution_X5_requireTrader
set_option maxRecDepth 20000 in
theorem ggX5_contribution_X5_preparePlan : GoodIn wsX5_contribution wsX5_preparePlan := goodIn_r _ [20, 21, 1, 2, 22, 23, 24, 25, 26, 27, 28, 29, 30, 31, 32, 33, 34, 35, 36, 14, 37, 38, 39, 40, 41, 42, 43, 44, 45, 16, 46, 47, 48, 49, 50, 51, 52, 53, 54, 55, 56, 57, 58, 59, 60, 61, 62, 63, 64, 65, 66, 67, 68, 69, 70, 71, 72, 73, 74, 75, 76, 77, 78, 79, 80, 81, 82, 83, 84, 85, 86, 87, 88, 89, 90, 91, 92, 93, 94, 95, 96, 97, 98, 99, 100, 101, 102, 103, 104, 105, 106, 107, 108, 109, 110, 111, 112, 113, 114, 115, 116, 117, 118, 119, 120, 121, 122, 123, 124, 125, 126, 127, 128, 129, 130, 131, 132, 133, 134, 135, 136, 137, 138, 139, 140, 141, 142, 143, 144, 145, 154, 155, 156, 157, 158, 159, 160, 161, 162, 163, 164, 165, 180, 181, 182, 183, 184, 185, 186, 187, 188, 189, 166, 167, 168, 169, 170, 171, 172, 173, 174, 175, 176, 177, 178, 179] (by decide +kernel) (by decide +kernel)
set_option maxRecDepth 20000 in
theorem gX5_contribution_X5_preparePlan : GoodIn wsX5_contribution (wsV RX5 225 RX5 yX5_preparePlan wsX5_preparePlan) := goodIn_app (goodIn_of _ (by decide +kernel)) ggX5_contribution_X5_preparePlan
set_option maxRecDepth 20000 in
theorem ggX5_contribution_X3_incomeWithout : GoodIn wsX5_contribution wsX3_incomeWithout := goodIn_r _ [149, 33, 122, 123, 124, 25, 125, 29, 31, 32, 150, 151, 152, 153, 82, 83, 79, 84, 180, 181, 182, 183, 184, 185, 186, 187, 188, 189] (by decide +kernel) (by decide +kernel)
set_option maxRecDepth 20000 in
theorem gX5_contribution_X3_incomeWithout : GoodIn wsX5_contribution (wsV RX5 228 RX3 yX3_incomeWithout wsX3_incomeWithout) := goodIn_app (goodIn_of _ (by decide +kernel)) ggX5_contribution_X3_incomeWithout
theorem dX5_contribution_0 : decode cX5_contribution 0 = .ok (.aload_n 0, 1) := by decide +kernel
theorem dX5_contribution_1 : decode cX5_contribution 1 = .ok (.iload_n 1, 1) := by decide +kernel
theorem dX5_contribution_2 : decode cX5_contribution 2 = .ok (.invokevirtual 134, 3) := by decide +kernel
theorem dX5_contribution_5 : decode cX5_contribution 5 = .ok (.aload_n 0, 1) := by decide +kernel
theorem dX5_contribution_6 : decode cX5_contribution 6 = .ok (.invokevirtual 225, 3) := by decide +kernel
theorem dX5_contribution_9 : decode cX5_contribution 9 = .ok (.aload_n 0, 1) := by decide +kernel
theorem dX5_contribution_10 : decode cX5_contribution 10 = .ok (.getfield 47, 3) := by decide +kernel
theorem dX5_contribution_13 : decode cX5_contribution 13 = .ok (.iconst 0, 1) := by decide +kernel
theorem dX5_contribution_14 : decode cX5_contribution 14 = .ok (.aload_n 0, 1) := by decide +kernel
theorem dX5_contribution_15 : decode cX5_contribution 15 = .ok (.getfield 30, 3) := by decide +kernel
theorem dX5_contribution_18 : decode cX5_contribution 18 = .ok (.getfield 178, 3) := by decide +kernel
theorem dX5_contribution_21 : decode cX5_contribution 21 = .ok (.invokevirtual 228, 3) := by decide +kernel
theorem dX5_contribution_24 : decode cX5_contribution 24 = .ok (.aload_n 0, 1) := by decide +kernel
theorem dX5_contribution_25 : decode cX5_contribution 25 = .ok (.getfield 47, 3) := by decide +kernel
theorem dX5_contribution_28 : decode cX5_contribution 28 = .ok (.iconst 1, 1) := by decide +kernel
theorem dX5_contribution_29 : decode cX5_contribution 29 = .ok (.iload_n 1, 1) := by decide +kernel
theorem dX5_contribution_30 : decode cX5_contribution 30 = .ok (.ishl, 1) := by decide +kernel
theorem dX5_contribution_31 : decode cX5_contribution 31 = .ok (.aload_n 0, 1) := by decide +kernel
theorem dX5_contribution_32 : decode cX5_contribution 32 = .ok (.getfield 30, 3) := by decide +kernel
theorem dX5_contribution_35 : decode cX5_contribution 35 = .ok (.getfield 178, 3) := by decide +kernel
theorem dX5_contribution_38 : decode cX5_contribution 38 = .ok (.invokevirtual 228, 3) := by decide +kernel
theorem dX5_contribution_41 : decode cX5_contribution 41 = .ok (.isub, 1) := by decide +kernel
theorem dX5_contribution_42 : decode cX5_contribution 42 = .ok (.ireturn, 1) := by decide +kernel
set_option maxRecDepth 20000 in
theorem ggX5_bestRent_X5_requirePitch : GoodIn wsX5_bestRent wsX5_requirePitch := goodIn_ca (goodIn_r _ [9, 10, 11, 2, 12, 13, 14, 15, 16, 17, 183, 184, 185, 186, 187, 188, 189, 190, 191, 192, 193, 194, 195, 196, 197, 198, 199, 200, 201, 202, 203, 204, 205, 206, 207, 208] (by decide +kernel) (by decide +kernel)) (goodIn_sub (fun _ h => List.mem_cons_of_mem _ (List.mem_append_right _ h)) (by decide +kernel))
set_option maxRecDepth 20000 in
theorem gX5_bestRent_X5_requirePitch : GoodIn wsX5_bestRent (wsV RX5 99 RX5 yX5_requirePitch wsX5_requirePitch) := goodIn_app (goodIn_of _ (by decide +kernel)) ggX5_bestRent_X5_requirePitch
set_option maxRecDepth 20000 in
theorem ggX5_bestRent_X5_preparePlan : GoodIn wsX5_bestRent wsX5_preparePlan := goodIn_r _ [21, 22, 4, 2, 23, 24, 25, 26, 27, 28, 29, 30, 31, 32, 33, 34, 35, 36, 37, 15, 38, 17, 39, 40, 41, 42, 43, 44, 45, 46, 47, 48, 49, 50, 51, 52, 53, 54, 55, 56, 57, 58, 59, 60, 61, 62, 63, 64, 65, 66, 67, 68, 69, 70, 71, 72, 73, 74, 75, 76, 77, 78, 79, 80, 81, 82, 83, 84, 85, 86, 87, 88, 89, 90, 91, 92, 93, 94, 95, 96, 97, 98, 99, 100, 101, 102, 103, 104, 105, 106, 107, 108, 109, 110, 111, 112, 113, 114, 115, 116, 117, 118, 119, 120, 121, 122, 123, 124, 125, 126, 127, 128, 129, 130, 131, 132, 133, 134, 135, 136, 137, 138, 139, 140, 141, 142, 143, 144, 145, 146, 183, 184, 185, 186, 187, 188, 189, 190, 191, 192, 193, 194, 209, 210, 211, 212, 213, 214, 215, 216, 217, 218, 195, 196, 197, 198, 199, 200, 201, 202, 203, 204, 205, 206, 207, 208] (by decide +kernel) (by decide +kernel)
set_option maxRecDepth 20000 in
theorem gX5_bestRent_X5_preparePlan : GoodIn wsX5_bestRent (wsV RX5 225 RX5 yX5_preparePlan wsX5_preparePlan) := goodIn_app (goodIn_of _ (by decide +kernel)) ggX5_bestRent_X5_preparePlan
set_option maxRecDepth 20000 in
theorem ggX5_bestRent_X2_copyFrom : GoodIn wsX5_bestRent wsX2_copyFrom := goodIn_r _ [38, 17, 39, 40, 41, 42, 43, 44, 45, 46, 47, 48, 49, 50, 51, 52, 53, 54, 55, 195, 196, 197, 198, 199, 200, 201, 202, 203, 204, 205, 206, 207, 208] (by decide +kernel) (by decide +kernel)
set_option maxRecDepth 20000 in
theorem gX5_bestRent_X2_copyFrom : GoodIn wsX5_bestRent (wsV RX5 93 RX2 yX2_copyFrom wsX2_copyFrom) := goodIn_app (goodIn_of _ (by decide +kernel)) ggX5_bestRent_X2_copyFrom
set_option maxRecDepth 20000 in
theorem ggX5_bestRent_X2_turnAround : GoodIn wsX5_bestRent wsX2_turnAround := goodIn_r _ [151, 17, 39, 44, 45, 152, 153, 154, 15, 155, 46, 156, 157, 158, 159, 53, 48, 55, 160, 161, 162, 163, 164, 165, 166, 167, 102, 84, 80, 85, 54, 168, 105, 106, 107, 50, 108, 109, 110, 111, 195, 196, 197, 198, 199, 200, 201, 202, 203, 204, 205, 206, 207, 208] (by decide +kernel) (by decide +kernel)
set_option maxRecDepth 20000 in
theorem gX5_bestRent_X2_turnAround : GoodIn wsX5_bestRent (wsV RX5 237 RX2 yX2_turnAround wsX2_turnAround) := goodIn_app (goodIn_of _ (by decide +kernel)) ggX5_bestRent_X2_turnAround
set_option maxRecDepth 20000 in
theorem ggX5_bestRent_X3_plan : GoodIn wsX5_bestRent wsX3_plan := goodIn_r _ [27, 28, 29, 30, 31, 32, 33, 34, 35, 36, 37, 15, 38, 17, 39, 40, 41, 42, 43, 44, 45, 46, 47, 48, 49, 50, 51, 52, 53, 54, 55, 56, 57, 58, 26, 59, 60, 61, 62, 63, 64, 65, 66, 67, 68, 69, 70, 71, 72, 73, 74, 75, 76, 77, 78, 79, 80, 81, 82, 83, 84, 85, 86, 87, 88, 89, 90, 91, 92, 93, 94, 95, 96, 97, 98, 99, 100, 101, 102, 103, 104, 105, 106, 107, 108, 109, 110, 111, 112, 113, 114, 115, 116, 117, 118, 119, 120, 121, 122, 123, 124, 125, 126, 127, 128, 129, 130, 131, 132, 133, 134, 135, 136, 137, 138, 139, 140, 141, 142, 143, 144, 145, 146, 209, 210, 211, 212, 213, 214, 215, 216, 217, 218, 195, 196, 197, 198, 199, 200, 201, 202, 203, 204, 205, 206, 207, 208] (by decide +kernel) (by decide +kernel)
set_option maxRecDepth 20000 in
theorem gX5_bestRent_X3_plan : GoodIn wsX5_bestRent (wsV RX5 231 RX3 yX3_plan wsX3_plan) := goodIn_app (goodIn_of _ (by decide +kernel)) ggX5_bestRent_X3_plan
set_option maxRecDepth 20000 in
theorem ggX5_bestRent_X3_dearestRent : GoodIn wsX5_bestRent wsX3_dearestRent := goodIn_r _ [172, 28, 82, 29, 76, 173, 174, 83, 84, 80, 85, 175, 176, 177, 26, 178, 30, 31, 34, 78, 79, 81, 112, 113, 114, 115, 61, 116, 91, 92, 15, 93, 17, 39, 123, 124, 125, 126, 32, 33, 179, 180, 181, 182, 86, 87, 88, 89, 48, 90, 103, 99, 100, 101, 102, 44, 104, 105, 106, 107, 50, 108, 109, 110, 111, 45, 209, 210, 211, 212, 213, 214, 215, 216, 217, 218, 195, 196, 197, 198, 199, 200, 201, 202, 203, 204, 205, 206, 207, 208] (by decide +kernel) (by decide +kernel)
set_option maxRecDepth 20000 in
theorem gX5_bestRent_X3_dearestRent : GoodIn wsX5_bestRent (wsV RX5 240 RX3 yX3_dearestRent wsX3_dearestRent) := goodIn_app (goodIn_of _ (by decide +kernel)) ggX5_bestRent_X3_dearestRent
theorem dX5_bestRent_0 : decode cX5_bestRent 0 = .ok (.aload_n 0, 1) := by decide +kernel
theorem dX5_bestRent_1 : decode cX5_bestRent 1 = .ok (.iload_n 1, 1) := by decide +kernel
theorem dX5_bestRent_2 : decode cX5_bestRent 2 = .ok (.invokevirtual 99, 3) := by decide +kernel
theorem dX5_bestRent_5 : decode cX5_bestRent 5 = .ok (.aload_n 0, 1) := by decide +kernel
theorem dX5_bestRent_6 : decode cX5_bestRent 6 = .ok (.invokevirtual 225, 3) := by decide +kernel
theorem dX5_bestRent_9 : decode cX5_bestRent 9 = .ok (.aload_n 0, 1) := by decide +kernel
theorem dX5_bestRent_10 : decode cX5_bestRent 10 = .ok (.getfield 34, 3) := by decide +kernel
theorem dX5_bestRent_13 : decode cX5_bestRent 13 = .ok (.aload_n 0, 1) := by decide +kernel
theorem dX5_bestRent_14 : decode cX5_bestRent 14 = .ok (.getfield 30, 3) := by decide +kernel
theorem dX5_bestRent_17 : decode cX5_bestRent 17 = .ok (.invokevirtual 93, 3) := by decide +kernel
theorem dX5_bestRent_20 : decode cX5_bestRent 20 = .ok (.aload_n 0, 1) := by decide +kernel
theorem dX5_bestRent_21 : decode cX5_bestRent 21 = .ok (.getfield 34, 3) := by decide +kernel
theorem dX5_bestRent_24 : decode cX5_bestRent 24 = .ok (.invokevirtual 237, 3) := by decide +kernel
theorem dX5_bestRent_27 : decode cX5_bestRent 27 = .ok (.aload_n 0, 1) := by decide +kernel
theorem dX5_bestRent_28 : decode cX5_bestRent 28 = .ok (.getfield 51, 3) := by decide +kernel
theorem dX5_bestRent_31 : decode cX5_bestRent 31 = .ok (.aload_n 0, 1) := by decide +kernel
theorem dX5_bestRent_32 : decode cX5_bestRent 32 = .ok (.getfield 34, 3) := by decide +kernel
theorem dX5_bestRent_35 : decode cX5_bestRent 35 = .ok (.invokevirtual 231, 3) := by decide +kernel
theorem dX5_bestRent_38 : decode cX5_bestRent 38 = .ok (.aload_n 0, 1) := by decide +kernel
theorem dX5_bestRent_39 : decode cX5_bestRent 39 = .ok (.getfield 47, 3) := by decide +kernel
theorem dX5_bestRent_42 : decode cX5_bestRent 42 = .ok (.iload_n 1, 1) := by decide +kernel
theorem dX5_bestRent_43 : decode cX5_bestRent 43 = .ok (.aload_n 0, 1) := by decide +kernel
theorem dX5_bestRent_44 : decode cX5_bestRent 44 = .ok (.getfield 51, 3) := by decide +kernel
theorem dX5_bestRent_47 : decode cX5_bestRent 47 = .ok (.invokevirtual 240, 3) := by decide +kernel
theorem dX5_bestRent_50 : decode cX5_bestRent 50 = .ok (.ireturn, 1) := by decide +kernel
set_option maxRecDepth 20000 in
theorem ggX5_firstCome_X5_readQueue : GoodIn wsX5_firstCome wsX5_readQueue := goodIn_r _ [10, 11, 4, 5, 12, 13, 14, 15, 16, 17, 115, 116, 117, 118, 119, 120, 121, 122, 123, 124, 125, 126, 127, 128, 129, 130, 131, 132, 133, 134, 135, 136, 137, 138, 139, 140] (by decide +kernel) (by decide +kernel)
set_option maxRecDepth 20000 in
theorem gX5_firstCome_X5_readQueue : GoodIn wsX5_firstCome (wsV RX5 244 RX5 yX5_readQueue wsX5_readQueue) := goodIn_app (goodIn_of _ (by decide +kernel)) ggX5_firstCome_X5_readQueue
set_option maxRecDepth 20000 in
theorem ggX5_firstCome_X2_copyFrom : GoodIn wsX5_firstCome wsX2_copyFrom := goodIn_r _ [21, 22, 23, 24, 25, 26, 27, 28, 29, 17, 30, 31, 32, 33, 34, 35, 36, 37, 38, 127, 128, 129, 130, 131, 132, 133, 134, 135, 136, 137, 138, 139, 140] (by decide +kernel) (by decide +kernel)
set_option maxRecDepth 20000 in
theorem gX5_firstCome_X2_copyFrom : GoodIn wsX5_firstCome (wsV RX5 93 RX2 yX2_copyFrom wsX2_copyFrom) := goodIn_app (goodIn_of _ (by decide +kernel)) ggX5_firstCome_X2_copyFrom
set_option maxRecDepth 20000 in
theorem ggX5_firstCome_X2_unseatAll : GoodIn wsX5_firstCome wsX2_unseatAll := goodIn_r _ [42, 17, 43, 44, 45, 15, 46, 36, 31, 38, 47, 48, 49, 50, 51, 52, 53, 54, 22, 55, 56, 57, 58, 37, 59, 60, 61, 62, 33, 63, 64, 65, 66, 29, 127, 128, 129, 130, 131, 132, 133, 134, 135, 136, 137, 138, 139, 140] (by decide +kernel) (by decide +kernel)
set_option maxRecDepth 20000 in
theorem gX5_firstCome_X2_unseatAll : GoodIn wsX5_firstCome (wsV RX5 215 RX2 yX2_unseatAll wsX2_unseatAll) := goodIn_app (goodIn_of _ (by decide +kernel)) ggX5_firstCome_X2_unseatAll
set_option maxRecDepth 20000 in
theorem ggX5_firstCome_X2_seatDearest : GoodIn wsX5_firstCome wsX2_seatDearest := goodIn_r _ [70, 71, 72, 73, 15, 74, 22, 75, 76, 77, 78, 31, 55, 56, 57, 58, 28, 79, 80, 81, 82, 38, 35, 47, 48, 49, 50, 36, 83, 84, 85, 86, 87, 88, 89, 90, 23, 91, 92, 93, 94, 37, 95, 96, 97, 98, 32, 59, 60, 61, 62, 33, 63, 64, 65, 66, 29, 99, 100, 101, 102, 103, 104, 105, 106, 34, 30, 107, 108, 109, 110, 51, 52, 53, 54, 127, 128, 129, 130, 131, 132, 133, 134, 135, 136, 137, 138, 139, 140] (by decide +kernel) (by decide +kernel)
set_option maxRecDepth 20000 in
theorem gX5_firstCome_X2_seatDearest : GoodIn wsX5_firstCome (wsV RX5 250 RX2 yX2_seatDearest wsX2_seatDearest) := goodIn_app (goodIn_of _ (by decide +kernel)) ggX5_firstCome_X2_seatDearest
set_option maxRecDepth 20000 in
theorem ggX5_firstCome_X2_totalRent : GoodIn wsX5_firstCome wsX2_totalRent := goodIn_r _ [114, 17, 36, 47, 48, 49, 15, 50, 75, 76, 77, 78, 31, 22, 55, 56, 57, 58, 28, 127, 128, 129, 130, 131, 132, 133, 134, 135, 136, 137, 138, 139, 140] (by decide +kernel) (by decide +kernel)
set_option maxRecDepth 20000 in
theorem gX5_firstCome_X2_totalRent : GoodIn wsX5_firstCome (wsV RX5 205 RX2 yX2_totalRent wsX2_totalRent) := goodIn_app (goodIn_of _ (by decide +kernel)) ggX5_firstCome_X2_totalRent
theorem dX5_firstCome_0 : decode cX5_firstCome 0 = .ok (.aload_n 0, 1) := by decide +kernel
theorem dX5_firstCome_1 : decode cX5_firstCome 1 = .ok (.lload_n 1, 1) := by decide +kernel
theorem dX5_firstCome_2 : decode cX5_firstCome 2 = .ok (.invokevirtual 244, 3) := by decide +kernel
theorem dX5_firstCome_5 : decode cX5_firstCome 5 = .ok (.istore_n 3, 1) := by decide +kernel
theorem dX5_firstCome_6 : decode cX5_firstCome 6 = .ok (.iload_n 3, 1) := by decide +kernel
theorem dX5_firstCome_7 : decode cX5_firstCome 7 = .ok (.ifCond .ge 13, 3) := by decide +kernel
theorem dX5_firstCome_10 : decode cX5_firstCome 10 = .ok (.new 79, 3) := by decide +kernel
theorem dX5_firstCome_13 : decode cX5_firstCome 13 = .ok (.dup, 1) := by decide +kernel
theorem dX5_firstCome_14 : decode cX5_firstCome 14 = .ok (.ldc 248, 2) := by decide +kernel
theorem dX5_firstCome_16 : decode cX5_firstCome 16 = .ok (.invokespecial 83, 3) := by decide +kernel
theorem dX5_firstCome_19 : decode cX5_firstCome 19 = .ok (.athrow, 1) := by decide +kernel
theorem dX5_firstCome_20 : decode cX5_firstCome 20 = .ok (.aload_n 0, 1) := by decide +kernel
theorem dX5_firstCome_21 : decode cX5_firstCome 21 = .ok (.getfield 34, 3) := by decide +kernel
theorem dX5_firstCome_24 : decode cX5_firstCome 24 = .ok (.aload_n 0, 1) := by decide +kernel
theorem dX5_firstCome_25 : decode cX5_firstCome 25 = .ok (.getfield 30, 3) := by decide +kernel
theorem dX5_firstCome_28 : decode cX5_firstCome 28 = .ok (.invokevirtual 93, 3) := by decide +kernel
theorem dX5_firstCome_31 : decode cX5_firstCome 31 = .ok (.aload_n 0, 1) := by decide +kernel
theorem dX5_firstCome_32 : decode cX5_firstCome 32 = .ok (.getfield 34, 3) := by decide +kernel
theorem dX5_firstCome_35 : decode cX5_firstCome 35 = .ok (.invokevirtual 215, 3) := by decide +kernel
theorem dX5_firstCome_38 : decode cX5_firstCome 38 = .ok (.iload_n 3, 1) := by decide +kernel
theorem dX5_firstCome_39 : decode cX5_firstCome 39 = .ok (.iconst 1, 1) := by decide +kernel
theorem dX5_firstCome_40 : decode cX5_firstCome 40 = .ok (.isub, 1) := by decide +kernel
theorem dX5_firstCome_41 : decode cX5_firstCome 41 = .ok (.istore 4, 2) := by decide +kernel
theorem dX5_firstCome_43 : decode cX5_firstCome 43 = .ok (.iload 4, 2) := by decide +kernel
theorem dX5_firstCome_45 : decode cX5_firstCome 45 = .ok (.ifCond .lt 23, 3) := by decide +kernel
theorem dX5_firstCome_48 : decode cX5_firstCome 48 = .ok (.aload_n 0, 1) := by decide +kernel
theorem dX5_firstCome_49 : decode cX5_firstCome 49 = .ok (.getfield 34, 3) := by decide +kernel
theorem dX5_firstCome_52 : decode cX5_firstCome 52 = .ok (.aload_n 0, 1) := by decide +kernel
theorem dX5_firstCome_53 : decode cX5_firstCome 53 = .ok (.getfield 61, 3) := by decide +kernel
theorem dX5_firstCome_56 : decode cX5_firstCome 56 = .ok (.iload 4, 2) := by decide +kernel
theorem dX5_firstCome_58 : decode cX5_firstCome 58 = .ok (.iaload, 1) := by decide +kernel
theorem dX5_firstCome_59 : decode cX5_firstCome 59 = .ok (.invokevirtual 250, 3) := by decide +kernel
theorem dX5_firstCome_62 : decode cX5_firstCome 62 = .ok (.iinc 4 (-1), 3) := by decide +kernel
theorem dX5_firstCome_65 : decode cX5_firstCome 65 = .ok (.goto (-22), 3) := by decide +kernel
theorem dX5_firstCome_68 : decode cX5_firstCome 68 = .ok (.aload_n 0, 1) := by decide +kernel
theorem dX5_firstCome_69 : decode cX5_firstCome 69 = .ok (.getfield 34, 3) := by decide +kernel
theorem dX5_firstCome_72 : decode cX5_firstCome 72 = .ok (.invokevirtual 205, 3) := by decide +kernel
theorem dX5_firstCome_75 : decode cX5_firstCome 75 = .ok (.ireturn, 1) := by decide +kernel
set_option maxRecDepth 20000 in
theorem ggX5_readQueue_X2_hasTrader : GoodIn wsX5_readQueue wsX2_hasTrader := goodIn_r _ [8, 9, 22, 23, 24, 25, 26, 27, 28, 29, 30, 31, 32, 33, 34, 35] (by decide +kernel) (by decide +kernel)
set_option maxRecDepth 20000 in
theorem gX5_readQueue_X2_hasTrader : GoodIn wsX5_readQueue (wsV RX5 255 RX2 yX2_hasTrader wsX2_hasTrader) := goodIn_app (goodIn_of _ (by decide +kernel)) ggX5_readQueue_X2_hasTrader
theorem dX5_readQueue_0 : decode cX5_readQueue 0 = .ok (.lload_n 1, 1) := by decide +kernel
theorem dX5_readQueue_1 : decode cX5_readQueue 1 = .ok (.lconst 0, 1) := by decide +kernel
theorem dX5_readQueue_2 : decode cX5_readQueue 2 = .ok (.lcmp, 1) := by decide +kernel
theorem dX5_readQueue_3 : decode cX5_readQueue 3 = .ok (.ifCond .ge 5, 3) := by decide +kernel
theorem dX5_readQueue_6 : decode cX5_readQueue 6 = .ok (.iconst (-1), 1) := by decide +kernel
theorem dX5_readQueue_7 : decode cX5_readQueue 7 = .ok (.ireturn, 1) := by decide +kernel
theorem dX5_readQueue_8 : decode cX5_readQueue 8 = .ok (.iconst 0, 1) := by decide +kernel
theorem dX5_readQueue_9 : decode cX5_readQueue 9 = .ok (.istore_n 3, 1) := by decide +kernel
theorem dX5_readQueue_10 : decode cX5_readQueue 10 = .ok (.iconst 0, 1) := by decide +kernel
theorem dX5_readQueue_11 : decode cX5_readQueue 11 = .ok (.istore 4, 2) := by decide +kernel
theorem dX5_readQueue_13 : decode cX5_readQueue 13 = .ok (.lload_n 1, 1) := by decide +kernel
theorem dX5_readQueue_14 : decode cX5_readQueue 14 = .ok (.lstore 5, 2) := by decide +kernel
theorem dX5_readQueue_16 : decode cX5_readQueue 16 = .ok (.lload 5, 2) := by decide +kernel
theorem dX5_readQueue_18 : decode cX5_readQueue 18 = .ok (.lconst 0, 1) := by decide +kernel
theorem dX5_readQueue_19 : decode cX5_readQueue 19 = .ok (.lcmp, 1) := by decide +kernel
theorem dX5_readQueue_20 : decode cX5_readQueue 20 = .ok (.ifCond .le 74, 3) := by decide +kernel
theorem dX5_readQueue_23 : decode cX5_readQueue 23 = .ok (.lload 5, 2) := by decide +kernel
theorem dX5_readQueue_25 : decode cX5_readQueue 25 = .ok (.ldc2_w 253, 3) := by decide +kernel
theorem dX5_readQueue_28 : decode cX5_readQueue 28 = .ok (.lrem, 1) := by decide +kernel
theorem dX5_readQueue_29 : decode cX5_readQueue 29 = .ok (.l2i, 1) := by decide +kernel
theorem dX5_readQueue_30 : decode cX5_readQueue 30 = .ok (.iconst 1, 1) := by decide +kernel
theorem dX5_readQueue_31 : decode cX5_readQueue 31 = .ok (.isub, 1) := by decide +kernel
theorem dX5_readQueue_32 : decode cX5_readQueue 32 = .ok (.istore 7, 2) := by decide +kernel
theorem dX5_readQueue_34 : decode cX5_readQueue 34 = .ok (.aload_n 0, 1) := by decide +kernel
theorem dX5_readQueue_35 : decode cX5_readQueue 35 = .ok (.getfield 30, 3) := by decide +kernel
theorem dX5_readQueue_38 : decode cX5_readQueue 38 = .ok (.iload 7, 2) := by decide +kernel
theorem dX5_readQueue_40 : decode cX5_readQueue 40 = .ok (.invokevirtual 255, 3) := by decide +kernel
theorem dX5_readQueue_43 : decode cX5_readQueue 43 = .ok (.ifCond .eq 19, 3) := by decide +kernel
theorem dX5_readQueue_46 : decode cX5_readQueue 46 = .ok (.iload_n 3, 1) := by decide +kernel
theorem dX5_readQueue_47 : decode cX5_readQueue 47 = .ok (.iload 7, 2) := by decide +kernel
theorem dX5_readQueue_49 : decode cX5_readQueue 49 = .ok (.ishr, 1) := by decide +kernel
theorem dX5_readQueue_50 : decode cX5_readQueue 50 = .ok (.iconst 1, 1) := by decide +kernel
theorem dX5_readQueue_51 : decode cX5_readQueue 51 = .ok (.iand, 1) := by decide +kernel
theorem dX5_readQueue_52 : decode cX5_readQueue 52 = .ok (.ifCond .ne 10, 3) := by decide +kernel
theorem dX5_readQueue_55 : decode cX5_readQueue 55 = .ok (.iload 4, 2) := by decide +kernel
theorem dX5_readQueue_57 : decode cX5_readQueue 57 = .ok (.bipush 8, 2) := by decide +kernel
theorem dX5_readQueue_59 : decode cX5_readQueue 59 = .ok (.if_icmp .lt 5, 3) := by decide +kernel
theorem dX5_readQueue_62 : decode cX5_readQueue 62 = .ok (.iconst (-1), 1) := by decide +kernel
theorem dX5_readQueue_63 : decode cX5_readQueue 63 = .ok (.ireturn, 1) := by decide +kernel
theorem dX5_readQueue_64 : decode cX5_readQueue 64 = .ok (.iload_n 3, 1) := by decide +kernel
theorem dX5_readQueue_65 : decode cX5_readQueue 65 = .ok (.iconst 1, 1) := by decide +kernel
theorem dX5_readQueue_66 : decode cX5_readQueue 66 = .ok (.iload 7, 2) := by decide +kernel
theorem dX5_readQueue_68 : decode cX5_readQueue 68 = .ok (.ishl, 1) := by decide +kernel
theorem dX5_readQueue_69 : decode cX5_readQueue 69 = .ok (.ior, 1) := by decide +kernel
theorem dX5_readQueue_70 : decode cX5_readQueue 70 = .ok (.istore_n 3, 1) := by decide +kernel
theorem dX5_readQueue_71 : decode cX5_readQueue 71 = .ok (.aload_n 0, 1) := by decide +kernel
theorem dX5_readQueue_72 : decode cX5_readQueue 72 = .ok (.getfield 61, 3) := by decide +kernel
theorem dX5_readQueue_75 : decode cX5_readQueue 75 = .ok (.iload 4, 2) := by decide +kernel
theorem dX5_readQueue_77 : decode cX5_readQueue 77 = .ok (.iload 7, 2) := by decide +kernel
theorem dX5_readQueue_79 : decode cX5_readQueue 79 = .ok (.iastore, 1) := by decide +kernel
theorem dX5_readQueue_80 : decode cX5_readQueue 80 = .ok (.iinc 4 1, 3) := by decide +kernel
theorem dX5_readQueue_83 : decode cX5_readQueue 83 = .ok (.lload 5, 2) := by decide +kernel
theorem dX5_readQueue_85 : decode cX5_readQueue 85 = .ok (.ldc2_w 253, 3) := by decide +kernel
theorem dX5_readQueue_88 : decode cX5_readQueue 88 = .ok (.ldiv, 1) := by decide +kernel
theorem dX5_readQueue_89 : decode cX5_readQueue 89 = .ok (.lstore 5, 2) := by decide +kernel
theorem dX5_readQueue_91 : decode cX5_readQueue 91 = .ok (.goto (-75), 3) := by decide +kernel
theorem dX5_readQueue_94 : decode cX5_readQueue 94 = .ok (.iload 4, 2) := by decide +kernel
theorem dX5_readQueue_96 : decode cX5_readQueue 96 = .ok (.ireturn, 1) := by decide +kernel
set_option maxRecDepth 20000 in
theorem ggX5_insertionIncome_X5_requireNewcomer : GoodIn wsX5_insertionIncome wsX5_requireNewcomer := goodIn_ca (goodIn_ca (goodIn_ca (goodIn_r _ [8, 9, 10, 11, 12, 2, 13, 14, 15, 7, 16, 17, 18, 19, 20, 21, 22, 23, 24, 25, 26, 27, 28, 29, 30, 31, 32, 165, 166, 167, 168, 169, 170, 171, 172, 173, 174, 175, 176, 184, 185, 186, 187, 188, 189, 190, 191, 192, 193, 194, 195, 196, 197] (by decide +kernel) (by decide +kernel)) (goodIn_sub (fun _ h => List.mem_cons_of_mem _ (List.mem_append_left _ (List.mem_append_left _ (List.mem_append_right _ h)))) (by decide +kernel))) (goodIn_sub (fun _ h => List.mem_cons_of_mem _ (List.mem_append_left _ (List.mem_append_right _ h))) (by decide +kernel))) (goodIn_sub (fun _ h => List.mem_cons_of_mem _ (List.mem_append_right _ h)) (by decide +kernel))
set_option maxRecDepth 20000 in
theorem gX5_insertionIncome_X5_requireNewcomer : GoodIn wsX5_insertionIncome (wsV RX5 258 RX5 yX5_requireNewcomer wsX5_requireNewcomer) := goodIn_app (goodIn_of _ (by decide +kernel)) ggX5_insertionIncome_X5_requireNewcomer
set_option maxRecDepth 20000 in
theorem ggX5_insertionIncome_X1_search : GoodIn wsX5_insertionIncome wsX1_search := goodIn_r _ [37, 38, 39, 40, 41, 42, 43, 44, 45, 46, 47, 48, 49, 50, 22, 51, 52, 53, 54, 55, 56, 24, 57, 58, 59, 60, 61, 62, 32, 63, 64, 65, 66, 67, 36, 68, 69, 70, 71, 72, 73, 74, 75, 76, 77, 78, 79, 80, 81, 82, 83, 84, 85, 86, 87, 88, 89, 90, 91, 29, 30, 31, 92, 93, 94, 95, 96, 97, 98, 99, 100, 101, 102, 103, 104, 105, 106, 107, 108, 109, 110, 111, 112, 113, 114, 115, 116, 117, 118, 119, 120, 121, 122, 123, 124, 125, 126, 127, 128, 129, 130, 131, 132, 133, 134, 135, 136, 137, 138, 139, 140, 141, 142, 143, 144, 145, 146, 147, 148, 149, 150, 151, 152, 153, 154, 155, 156, 157, 158, 159, 160, 161, 162, 163, 164, 177, 178, 179, 180, 181, 182, 183, 184, 185, 186, 187, 188, 189, 190, 191, 192, 193, 194, 195, 196, 197] (by decide +kernel) (by decide +kernel)
set_option maxRecDepth 20000 in
theorem gX5_insertionIncome_X1_search : GoodIn wsX5_insertionIncome (wsV RX5 261 RX1 yX1_search wsX1_search) := goodIn_app (goodIn_of _ (by decide +kernel)) ggX5_insertionIncome_X1_search
theorem dX5_insertionIncome_0 : decode cX5_insertionIncome 0 = .ok (.aload_n 0, 1) := by decide +kernel
theorem dX5_insertionIncome_1 : decode cX5_insertionIncome 1 = .ok (.iload_n 1, 1) := by decide +kernel
theorem dX5_insertionIncome_2 : decode cX5_insertionIncome 2 = .ok (.iload_n 2, 1) := by decide +kernel
theorem dX5_insertionIncome_3 : decode cX5_insertionIncome 3 = .ok (.invokevirtual 258, 3) := by decide +kernel
theorem dX5_insertionIncome_6 : decode cX5_insertionIncome 6 = .ok (.aload_n 0, 1) := by decide +kernel
theorem dX5_insertionIncome_7 : decode cX5_insertionIncome 7 = .ok (.getfield 57, 3) := by decide +kernel
theorem dX5_insertionIncome_10 : decode cX5_insertionIncome 10 = .ok (.aload_n 0, 1) := by decide +kernel
theorem dX5_insertionIncome_11 : decode cX5_insertionIncome 11 = .ok (.getfield 30, 3) := by decide +kernel
theorem dX5_insertionIncome_14 : decode cX5_insertionIncome 14 = .ok (.iload_n 1, 1) := by decide +kernel
theorem dX5_insertionIncome_15 : decode cX5_insertionIncome 15 = .ok (.iload_n 2, 1) := by decide +kernel
theorem dX5_insertionIncome_16 : decode cX5_insertionIncome 16 = .ok (.invokevirtual 261, 3) := by decide +kernel
theorem dX5_insertionIncome_19 : decode cX5_insertionIncome 19 = .ok (.aload_n 0, 1) := by decide +kernel
theorem dX5_insertionIncome_20 : decode cX5_insertionIncome 20 = .ok (.getfield 57, 3) := by decide +kernel
theorem dX5_insertionIncome_23 : decode cX5_insertionIncome 23 = .ok (.getfield 265, 3) := by decide +kernel
theorem dX5_insertionIncome_26 : decode cX5_insertionIncome 26 = .ok (.ireturn, 1) := by decide +kernel
set_option maxRecDepth 20000 in
theorem ggX5_insert_X5_requireNewcomer : GoodIn wsX5_insert wsX5_requireNewcomer := goodIn_ca (goodIn_ca (goodIn_ca (goodIn_r _ [13, 14, 15, 1, 2, 4, 16, 17, 18, 12, 19, 20, 21, 22, 23, 24, 25, 26, 27, 28, 29, 30, 31, 32, 33, 34, 35, 178, 179, 180, 181, 182, 183, 184, 185, 186, 187, 188, 189, 197, 198, 199, 200, 201, 202, 203, 204, 205, 206, 207, 208, 209, 210] (by decide +kernel) (by decide +kernel)) (goodIn_sub (fun _ h => List.mem_cons_of_mem _ (List.mem_append_left _ (List.mem_append_right _ h))) (by decide +kernel))) (goodIn_sub (fun _ h => List.mem_cons_of_mem _ (List.mem_append_left _ (List.mem_append_left _ (List.mem_append_right _ h)))) (by decide +kernel))) (goodIn_sub (fun _ h => List.mem_cons_of_mem _ (List.mem_append_right _ h)) (by decide +kernel))
set_option maxRecDepth 20000 in
theorem gX5_insert_X5_requireNewcomer : GoodIn wsX5_insert (wsV RX5 258 RX5 yX5_requireNewcomer wsX5_requireNewcomer) := goodIn_app (goodIn_of _ (by decide +kernel)) ggX5_insert_X5_requireNewcomer
set_option maxRecDepth 20000 in
theorem ggX5_insert_X1_search : GoodIn wsX5_insert wsX1_search := goodIn_r _ [40, 41, 42, 43, 44, 45, 46, 47, 48, 49, 50, 51, 52, 53, 25, 54, 55, 56, 57, 58, 59, 27, 60, 61, 62, 63, 64, 65, 35, 66, 67, 68, 69, 70, 39, 71, 72, 73, 74, 75, 76, 77, 78, 79, 80, 81, 82, 83, 84, 85, 86, 87, 88, 89, 90, 91, 92, 93, 94, 32, 33, 34, 95, 96, 97, 98, 99, 100, 101, 102, 103, 104, 105, 106, 107, 108, 109, 110, 111, 112, 113, 114, 115, 116, 117, 118, 119, 120, 121, 122, 123, 124, 125, 126, 127, 128, 129, 130, 131, 132, 133, 134, 135, 136, 137, 138, 139, 140, 141, 142, 143, 144, 145, 146, 147, 148, 149, 150, 151, 152, 153, 154, 155, 156, 157, 158, 159, 160, 161, 162, 163, 164, 165, 166, 167, 190, 191, 192, 193, 194, 195, 196, 197, 198, 199, 200, 201, 202, 203, 204, 205, 206, 207, 208, 209, 210] (by decide +kernel) (by decide +kernel)
set_option maxRecDepth 20000 in
theorem gX5_insert_X1_search : GoodIn wsX5_insert (wsV RX5 261 RX1 yX1_search wsX1_search) := goodIn_app (goodIn_of _ (by decide +kernel)) ggX5_insert_X1_search
set_option maxRecDepth 20000 in
theorem ggX5_insert_X0_remember : GoodIn wsX5_insert wsX0_remember := goodIn_r _ [172, 173, 174, 175, 176, 52, 53, 25, 54, 55, 56, 57, 45, 46, 47, 58, 59, 27, 60, 61, 62, 63, 64, 65, 35, 66, 67, 211, 212, 213, 197, 198, 199, 200, 201, 202, 203, 204, 205, 206, 207, 208, 209, 210] (by decide +kernel) (by decide +kernel)
set_option maxRecDepth 20000 in
theorem gX5_insert_X0_remember : GoodIn wsX5_insert (wsV RX5 89 RX0 yX0_remember wsX0_remember) := goodIn_app (goodIn_of _ (by decide +kernel)) ggX5_insert_X0_remember
set_option maxRecDepth 20000 in
theorem ggX5_insert_X2_copyFrom : GoodIn wsX5_insert wsX2_copyFrom := goodIn_r _ [54, 55, 56, 57, 45, 46, 47, 58, 59, 27, 60, 61, 62, 63, 64, 65, 35, 66, 67, 197, 198, 199, 200, 201, 202, 203, 204, 205, 206, 207, 208, 209, 210] (by decide +kernel) (by decide +kernel)
set_option maxRecDepth 20000 in
theorem gX5_insert_X2_copyFrom : GoodIn wsX5_insert (wsV RX5 93 RX2 yX2_copyFrom wsX2_copyFrom) := goodIn_app (goodIn_of _ (by decide +kernel)) ggX5_insert_X2_copyFrom
theorem dX5_insert_0 : decode cX5_insert 0 = .ok (.aload_n 0, 1) := by decide +kernel
theorem dX5_insert_1 : decode cX5_insert 1 = .ok (.iload_n 1, 1) := by decide +kernel
theorem dX5_insert_2 : decode cX5_insert 2 = .ok (.iload_n 2, 1) := by decide +kernel
theorem dX5_insert_3 : decode cX5_insert 3 = .ok (.invokevirtual 258, 3) := by decide +kernel
theorem dX5_insert_6 : decode cX5_insert 6 = .ok (.aload_n 0, 1) := by decide +kernel
theorem dX5_insert_7 : decode cX5_insert 7 = .ok (.getfield 57, 3) := by decide +kernel
theorem dX5_insert_10 : decode cX5_insert 10 = .ok (.aload_n 0, 1) := by decide +kernel
theorem dX5_insert_11 : decode cX5_insert 11 = .ok (.getfield 30, 3) := by decide +kernel
theorem dX5_insert_14 : decode cX5_insert 14 = .ok (.iload_n 1, 1) := by decide +kernel
theorem dX5_insert_15 : decode cX5_insert 15 = .ok (.iload_n 2, 1) := by decide +kernel
theorem dX5_insert_16 : decode cX5_insert 16 = .ok (.invokevirtual 261, 3) := by decide +kernel
theorem dX5_insert_19 : decode cX5_insert 19 = .ok (.aload_n 0, 1) := by decide +kernel
theorem dX5_insert_20 : decode cX5_insert 20 = .ok (.getfield 57, 3) := by decide +kernel
theorem dX5_insert_23 : decode cX5_insert 23 = .ok (.getfield 265, 3) := by decide +kernel
theorem dX5_insert_26 : decode cX5_insert 26 = .ok (.ifCond .ge 14, 3) := by decide +kernel
theorem dX5_insert_29 : decode cX5_insert 29 = .ok (.new 68, 3) := by decide +kernel
theorem dX5_insert_32 : decode cX5_insert 32 = .ok (.dup, 1) := by decide +kernel
theorem dX5_insert_33 : decode cX5_insert 33 = .ok (.ldc_w 268, 3) := by decide +kernel
theorem dX5_insert_36 : decode cX5_insert 36 = .ok (.invokespecial 72, 3) := by decide +kernel
theorem dX5_insert_39 : decode cX5_insert 39 = .ok (.athrow, 1) := by decide +kernel
theorem dX5_insert_40 : decode cX5_insert 40 = .ok (.aload_n 0, 1) := by decide +kernel
theorem dX5_insert_41 : decode cX5_insert 41 = .ok (.getfield 40, 3) := by decide +kernel
theorem dX5_insert_44 : decode cX5_insert 44 = .ok (.aload_n 0, 1) := by decide +kernel
theorem dX5_insert_45 : decode cX5_insert 45 = .ok (.getfield 30, 3) := by decide +kernel
theorem dX5_insert_48 : decode cX5_insert 48 = .ok (.invokevirtual 89, 3) := by decide +kernel
theorem dX5_insert_51 : decode cX5_insert 51 = .ok (.aload_n 0, 1) := by decide +kernel
theorem dX5_insert_52 : decode cX5_insert 52 = .ok (.getfield 30, 3) := by decide +kernel
theorem dX5_insert_55 : decode cX5_insert 55 = .ok (.aload_n 0, 1) := by decide +kernel
theorem dX5_insert_56 : decode cX5_insert 56 = .ok (.getfield 57, 3) := by decide +kernel
theorem dX5_insert_59 : decode cX5_insert 59 = .ok (.getfield 270, 3) := by decide +kernel
theorem dX5_insert_62 : decode cX5_insert 62 = .ok (.invokevirtual 93, 3) := by decide +kernel
theorem dX5_insert_65 : decode cX5_insert 65 = .ok (.aload_n 0, 1) := by decide +kernel
theorem dX5_insert_66 : decode cX5_insert 66 = .ok (.getfield 57, 3) := by decide +kernel
theorem dX5_insert_69 : decode cX5_insert 69 = .ok (.getfield 273, 3) := by decide +kernel
theorem dX5_insert_72 : decode cX5_insert 72 = .ok (.ireturn, 1) := by decide +kernel
set_option maxRecDepth 20000 in
theorem ggX5_undo_X0_takeBack : GoodIn wsX5_undo wsX0_takeBack := goodIn_r _ [11, 12, 13, 14, 15, 16, 17, 18, 19, 20, 21, 22, 23, 24, 25, 26, 27, 28, 29, 30, 31, 32, 33, 34, 35, 36, 37, 50, 51, 52, 53, 54, 55, 56, 57, 58, 59, 60, 61, 62, 63, 64, 65, 66] (by decide +kernel) (by decide +kernel)
set_option maxRecDepth 20000 in
theorem gX5_undo_X0_takeBack : GoodIn wsX5_undo (wsV RX5 281 RX0 yX0_takeBack wsX0_takeBack) := goodIn_app (goodIn_of _ (by decide +kernel)) ggX5_undo_X0_takeBack
theorem dX5_undo_0 : decode cX5_undo 0 = .ok (.aload_n 0, 1) := by decide +kernel
theorem dX5_undo_1 : decode cX5_undo 1 = .ok (.getfield 40, 3) := by decide +kernel
theorem dX5_undo_4 : decode cX5_undo 4 = .ok (.getfield 276, 3) := by decide +kernel
theorem dX5_undo_7 : decode cX5_undo 7 = .ok (.ifCond .ne 14, 3) := by decide +kernel
theorem dX5_undo_10 : decode cX5_undo 10 = .ok (.new 68, 3) := by decide +kernel
theorem dX5_undo_13 : decode cX5_undo 13 = .ok (.dup, 1) := by decide +kernel
theorem dX5_undo_14 : decode cX5_undo 14 = .ok (.ldc_w 279, 3) := by decide +kernel
theorem dX5_undo_17 : decode cX5_undo 17 = .ok (.invokespecial 72, 3) := by decide +kernel
theorem dX5_undo_20 : decode cX5_undo 20 = .ok (.athrow, 1) := by decide +kernel
theorem dX5_undo_21 : decode cX5_undo 21 = .ok (.aload_n 0, 1) := by decide +kernel
theorem dX5_undo_22 : decode cX5_undo 22 = .ok (.getfield 40, 3) := by decide +kernel
theorem dX5_undo_25 : decode cX5_undo 25 = .ok (.aload_n 0, 1) := by decide +kernel
theorem dX5_undo_26 : decode cX5_undo 26 = .ok (.getfield 30, 3) := by decide +kernel
theorem dX5_undo_29 : decode cX5_undo 29 = .ok (.invokevirtual 281, 3) := by decide +kernel
theorem dX5_undo_32 : decode cX5_undo 32 = .ok (.aload_n 0, 1) := by decide +kernel
theorem dX5_undo_33 : decode cX5_undo 33 = .ok (.iconst 0, 1) := by decide +kernel
theorem dX5_undo_34 : decode cX5_undo 34 = .ok (.putfield 64, 3) := by decide +kernel
theorem dX5_undo_37 : decode cX5_undo 37 = .ok (.aload_n 0, 1) := by decide +kernel
theorem dX5_undo_38 : decode cX5_undo 38 = .ok (.getfield 40, 3) := by decide +kernel
theorem dX5_undo_41 : decode cX5_undo 41 = .ok (.getfield 276, 3) := by decide +kernel
theorem dX5_undo_44 : decode cX5_undo 44 = .ok (.ireturn, 1) := by decide +kernel
set_option maxRecDepth 20000 in
theorem ggX5_requirePitch_X2_hasPitch : GoodIn wsX5_requirePitch wsX2_hasPitch := goodIn_r _ [8, 9, 22, 23, 24, 25, 26, 27, 28, 29, 30, 31, 32, 33, 34, 35] (by decide +kernel) (by decide +kernel)
set_option maxRecDepth 20000 in
theorem gX5_requirePitch_X2_hasPitch : GoodIn wsX5_requirePitch (wsV RX5 284 RX2 yX2_hasPitch wsX2_hasPitch) := goodIn_app (goodIn_of _ (by decide +kernel)) ggX5_requirePitch_X2_hasPitch
theorem dX5_requirePitch_0 : decode cX5_requirePitch 0 = .ok (.aload_n 0, 1) := by decide +kernel
theorem dX5_requirePitch_1 : decode cX5_requirePitch 1 = .ok (.getfield 30, 3) := by decide +kernel
theorem dX5_requirePitch_4 : decode cX5_requirePitch 4 = .ok (.iload_n 1, 1) := by decide +kernel
theorem dX5_requirePitch_5 : decode cX5_requirePitch 5 = .ok (.invokevirtual 284, 3) := by decide +kernel
theorem dX5_requirePitch_8 : decode cX5_requirePitch 8 = .ok (.ifCond .ne 14, 3) := by decide +kernel
theorem dX5_requirePitch_11 : decode cX5_requirePitch 11 = .ok (.new 287, 3) := by decide +kernel
theorem dX5_requirePitch_14 : decode cX5_requirePitch 14 = .ok (.dup, 1) := by decide +kernel
theorem dX5_requirePitch_15 : decode cX5_requirePitch 15 = .ok (.ldc_w 289, 3) := by decide +kernel
theorem dX5_requirePitch_18 : decode cX5_requirePitch 18 = .ok (.invokespecial 291, 3) := by decide +kernel
theorem dX5_requirePitch_21 : decode cX5_requirePitch 21 = .ok (.athrow, 1) := by decide +kernel
theorem dX5_requirePitch_22 : decode cX5_requirePitch 22 = .ok (.return_, 1) := by decide +kernel
set_option maxRecDepth 20000 in
theorem ggX5_requireTrader_X2_hasTrader : GoodIn wsX5_requireTrader wsX2_hasTrader := goodIn_r _ [8, 9, 22, 23, 24, 25, 26, 27, 28, 29, 30, 31, 32, 33, 34, 35] (by decide +kernel) (by decide +kernel)
set_option maxRecDepth 20000 in
theorem gX5_requireTrader_X2_hasTrader : GoodIn wsX5_requireTrader (wsV RX5 255 RX2 yX2_hasTrader wsX2_hasTrader) := goodIn_app (goodIn_of _ (by decide +kernel)) ggX5_requireTrader_X2_hasTrader
theorem dX5_requireTrader_0 : decode cX5_requireTrader 0 = .ok (.aload_n 0, 1) := by decide +kernel
theorem dX5_requireTrader_1 : decode cX5_requireTrader 1 = .ok (.getfield 30, 3) := by decide +kernel
theorem dX5_requireTrader_4 : decode cX5_requireTrader 4 = .ok (.iload_n 1, 1) := by decide +kernel
theorem dX5_requireTrader_5 : decode cX5_requireTrader 5 = .ok (.invokevirtual 255, 3) := by decide +kernel
theorem dX5_requireTrader_8 : decode cX5_requireTrader 8 = .ok (.ifCond .ne 14, 3) := by decide +kernel
theorem dX5_requireTrader_11 : decode cX5_requireTrader 11 = .ok (.new 287, 3) := by decide +kernel
theorem dX5_requireTrader_14 : decode cX5_requireTrader 14 = .ok (.dup, 1) := by decide +kernel
theorem dX5_requireTrader_15 : decode cX5_requireTrader 15 = .ok (.ldc_w 292, 3) := by decide +kernel
theorem dX5_requireTrader_18 : decode cX5_requireTrader 18 = .ok (.invokespecial 291, 3) := by decide +kernel
theorem dX5_requireTrader_21 : decode cX5_requireTrader 21 = .ok (.athrow, 1) := by decide +kernel
theorem dX5_requireTrader_22 : decode cX5_requireTrader 22 = .ok (.return_, 1) := by decide +kernel
set_option maxRecDepth 20000 in
theorem ggX5_requireTrades_X5_isNoTrade : GoodIn wsX5_requireTrades wsX5_isNoTrade := goodIn_r _ [6, 7, 8, 5, 9] (by decide +kernel) (by decide +kernel)
set_option maxRecDepth 20000 in
theorem gX5_requireTrades_X5_isNoTrade : GoodIn wsX5_requireTrades (va_wsS RX5 143 yX5_isNoTrade wsX5_isNoTrade) := goodIn_app (goodIn_of _ (by decide +kernel)) ggX5_requireTrades_X5_isNoTrade
theorem dX5_requireTrades_0 : decode cX5_requireTrades 0 = .ok (.iload_n 0, 1) := by decide +kernel
theorem dX5_requireTrades_1 : decode cX5_requireTrades 1 = .ok (.invokestatic 143, 3) := by decide +kernel
theorem dX5_requireTrades_4 : decode cX5_requireTrades 4 = .ok (.ifCond .ne 10, 3) := by decide +kernel
theorem dX5_requireTrades_7 : decode cX5_requireTrades 7 = .ok (.iload_n 1, 1) := by decide +kernel
theorem dX5_requireTrades_8 : decode cX5_requireTrades 8 = .ok (.invokestatic 143, 3) := by decide +kernel
theorem dX5_requireTrades_11 : decode cX5_requireTrades 11 = .ok (.ifCond .eq 14, 3) := by decide +kernel
theorem dX5_requireTrades_14 : decode cX5_requireTrades 14 = .ok (.new 79, 3) := by decide +kernel
theorem dX5_requireTrades_17 : decode cX5_requireTrades 17 = .ok (.dup, 1) := by decide +kernel
theorem dX5_requireTrades_18 : decode cX5_requireTrades 18 = .ok (.ldc_w 294, 3) := by decide +kernel
theorem dX5_requireTrades_21 : decode cX5_requireTrades 21 = .ok (.invokespecial 83, 3) := by decide +kernel
theorem dX5_requireTrades_24 : decode cX5_requireTrades 24 = .ok (.athrow, 1) := by decide +kernel
theorem dX5_requireTrades_25 : decode cX5_requireTrades 25 = .ok (.return_, 1) := by decide +kernel
set_option maxRecDepth 20000 in
theorem ggX5_requireNewcomer_X5_requireTrader : GoodIn wsX5_requireNewcomer wsX5_requireTrader := goodIn_ca (goodIn_r _ [10, 11, 12, 5, 13, 14, 15, 16, 17, 18, 27, 28, 29, 30, 31, 32, 33, 34, 35, 36, 37, 38, 39, 40, 41, 42, 43, 44, 45, 46, 47, 48, 49, 50, 51, 52] (by decide +kernel) (by decide +kernel)) (goodIn_sub (fun _ h => List.mem_cons_of_mem _ (List.mem_append_right _ h)) (by decide +kernel))
set_option maxRecDepth 20000 in
theorem gX5_requireNewcomer_X5_requireTrader : GoodIn wsX5_requireNewcomer (wsV RX5 134 RX5 yX5_requireTrader wsX5_requireTrader) := goodIn_app (goodIn_of _ (by decide +kernel)) ggX5_requireNewcomer_X5_requireTrader
set_option maxRecDepth 20000 in
theorem ggX5_requireNewcomer_X5_isOutside : GoodIn wsX5_requireNewcomer wsX5_isOutside := goodIn_r _ [21] (by decide +kernel) (by decide +kernel)
set_option maxRecDepth 20000 in
theorem gX5_requireNewcomer_X5_isOutside : GoodIn wsX5_requireNewcomer (va_wsS RX5 112 yX5_isOutside wsX5_isOutside) := goodIn_app (goodIn_of _ (by decide +kernel)) ggX5_requireNewcomer_X5_isOutside
set_option maxRecDepth 20000 in
theorem ggX5_requireNewcomer_X2_isSeated : GoodIn wsX5_requireNewcomer wsX2_isSeated := goodIn_r _ [25, 26, 39, 40, 41, 42, 43, 44, 45, 46, 47, 48, 49, 50, 51, 52] (by decide +kernel) (by decide +kernel)
set_option maxRecDepth 20000 in
theorem gX5_requireNewcomer_X2_isSeated : GoodIn wsX5_requireNewcomer (wsV RX5 195 RX2 yX2_isSeated wsX2_isSeated) := goodIn_app (goodIn_of _ (by decide +kernel)) ggX5_requireNewcomer_X2_isSeated
theorem dX5_requireNewcomer_0 : decode cX5_requireNewcomer 0 = .ok (.aload_n 0, 1) := by decide +kernel
theorem dX5_requireNewcomer_1 : decode cX5_requireNewcomer 1 = .ok (.iload_n 1, 1) := by decide +kernel
theorem dX5_requireNewcomer_2 : decode cX5_requireNewcomer 2 = .ok (.invokevirtual 134, 3) := by decide +kernel
theorem dX5_requireNewcomer_5 : decode cX5_requireNewcomer 5 = .ok (.iload_n 2, 1) := by decide +kernel
theorem dX5_requireNewcomer_6 : decode cX5_requireNewcomer 6 = .ok (.iconst 0, 1) := by decide +kernel
theorem dX5_requireNewcomer_7 : decode cX5_requireNewcomer 7 = .ok (.iconst 2, 1) := by decide +kernel
theorem dX5_requireNewcomer_8 : decode cX5_requireNewcomer 8 = .ok (.invokestatic 112, 3) := by decide +kernel
theorem dX5_requireNewcomer_11 : decode cX5_requireNewcomer 11 = .ok (.ifCond .eq 14, 3) := by decide +kernel
theorem dX5_requireNewcomer_14 : decode cX5_requireNewcomer 14 = .ok (.new 79, 3) := by decide +kernel
theorem dX5_requireNewcomer_17 : decode cX5_requireNewcomer 17 = .ok (.dup, 1) := by decide +kernel
theorem dX5_requireNewcomer_18 : decode cX5_requireNewcomer 18 = .ok (.ldc_w 296, 3) := by decide +kernel
theorem dX5_requireNewcomer_21 : decode cX5_requireNewcomer 21 = .ok (.invokespecial 83, 3) := by decide +kernel
theorem dX5_requireNewcomer_24 : decode cX5_requireNewcomer 24 = .ok (.athrow, 1) := by decide +kernel
theorem dX5_requireNewcomer_25 : decode cX5_requireNewcomer 25 = .ok (.aload_n 0, 1) := by decide +kernel
theorem dX5_requireNewcomer_26 : decode cX5_requireNewcomer 26 = .ok (.getfield 30, 3) := by decide +kernel
theorem dX5_requireNewcomer_29 : decode cX5_requireNewcomer 29 = .ok (.iload_n 1, 1) := by decide +kernel
theorem dX5_requireNewcomer_30 : decode cX5_requireNewcomer 30 = .ok (.invokevirtual 195, 3) := by decide +kernel
theorem dX5_requireNewcomer_33 : decode cX5_requireNewcomer 33 = .ok (.ifCond .eq 14, 3) := by decide +kernel
theorem dX5_requireNewcomer_36 : decode cX5_requireNewcomer 36 = .ok (.new 68, 3) := by decide +kernel
theorem dX5_requireNewcomer_39 : decode cX5_requireNewcomer 39 = .ok (.dup, 1) := by decide +kernel
theorem dX5_requireNewcomer_40 : decode cX5_requireNewcomer 40 = .ok (.ldc_w 298, 3) := by decide +kernel
theorem dX5_requireNewcomer_43 : decode cX5_requireNewcomer 43 = .ok (.invokespecial 72, 3) := by decide +kernel
theorem dX5_requireNewcomer_46 : decode cX5_requireNewcomer 46 = .ok (.athrow, 1) := by decide +kernel
theorem dX5_requireNewcomer_47 : decode cX5_requireNewcomer 47 = .ok (.return_, 1) := by decide +kernel
set_option maxRecDepth 20000 in
theorem ggX5_isNoTrade_X5_isOutside : GoodIn wsX5_isNoTrade wsX5_isOutside := goodIn_r _ [4] (by decide +kernel) (by decide +kernel)
set_option maxRecDepth 20000 in
theorem gX5_isNoTrade_X5_isOutside : GoodIn wsX5_isNoTrade (va_wsS RX5 112 yX5_isOutside wsX5_isOutside) := goodIn_app (goodIn_of _ (by decide +kernel)) ggX5_isNoTrade_X5_isOutside
theorem dX5_isNoTrade_0 : decode cX5_isNoTrade 0 = .ok (.iload_n 0, 1) := by decide +kernel
theorem dX5_isNoTrade_1 : decode cX5_isNoTrade 1 = .ok (.iconst 0, 1) := by decide +kernel
theorem dX5_isNoTrade_2 : decode cX5_isNoTrade 2 = .ok (.bipush 7, 2) := by decide +kernel
theorem dX5_isNoTrade_4 : decode cX5_isNoTrade 4 = .ok (.invokestatic 112, 3) := by decide +kernel
theorem dX5_isNoTrade_7 : decode cX5_isNoTrade 7 = .ok (.ireturn, 1) := by decide +kernel
theorem dX5_isOutside_0 : decode cX5_isOutside 0 = .ok (.iload_n 0, 1) := by decide +kernel
theorem dX5_isOutside_1 : decode cX5_isOutside 1 = .ok (.iload_n 1, 1) := by decide +kernel
theorem dX5_isOutside_2 : decode cX5_isOutside 2 = .ok (.if_icmp .lt 8, 3) := by decide +kernel
theorem dX5_isOutside_5 : decode cX5_isOutside 5 = .ok (.iload_n 0, 1) := by decide +kernel
theorem dX5_isOutside_6 : decode cX5_isOutside 6 = .ok (.iload_n 2, 1) := by decide +kernel
theorem dX5_isOutside_7 : decode cX5_isOutside 7 = .ok (.if_icmp .le 7, 3) := by decide +kernel
theorem dX5_isOutside_10 : decode cX5_isOutside 10 = .ok (.iconst 1, 1) := by decide +kernel
theorem dX5_isOutside_11 : decode cX5_isOutside 11 = .ok (.goto 4, 3) := by decide +kernel
theorem dX5_isOutside_14 : decode cX5_isOutside 14 = .ok (.iconst 0, 1) := by decide +kernel
theorem dX5_isOutside_15 : decode cX5_isOutside 15 = .ok (.ireturn, 1) := by decide +kernel
theorem dX6_init_0 : decode cX6_init 0 = .ok (.aload_n 0, 1) := by decide +kernel
theorem dX6_init_1 : decode cX6_init 1 = .ok (.invokespecial 1, 3) := by decide +kernel
theorem dX6_init_4 : decode cX6_init 4 = .ok (.aload_n 0, 1) := by decide +kernel
theorem dX6_init_5 : decode cX6_init 5 = .ok (.sipush 180, 3) := by decide +kernel
theorem dX6_init_8 : decode cX6_init 8 = .ok (.newarray .int, 2) := by decide +kernel
theorem dX6_init_10 : decode cX6_init 10 = .ok (.putfield 7, 3) := by decide +kernel
theorem dX6_init_13 : decode cX6_init 13 = .ok (.aload_n 0, 1) := by decide +kernel
theorem dX6_init_14 : decode cX6_init 14 = .ok (.sipush 180, 3) := by decide +kernel
theorem dX6_init_17 : decode cX6_init 17 = .ok (.newarray .int, 2) := by decide +kernel
theorem dX6_init_19 : decode cX6_init 19 = .ok (.putfield 13, 3) := by decide +kernel
theorem dX6_init_22 : decode cX6_init 22 = .ok (.aload_n 0, 1) := by decide +kernel
theorem dX6_init_23 : decode cX6_init 23 = .ok (.sipush 1080, 3) := by decide +kernel
theorem dX6_init_26 : decode cX6_init 26 = .ok (.newarray .int, 2) := by decide +kernel
theorem dX6_init_28 : decode cX6_init 28 = .ok (.putfield 16, 3) := by decide +kernel
theorem dX6_init_31 : decode cX6_init 31 = .ok (.aload_n 0, 1) := by decide +kernel
theorem dX6_init_32 : decode cX6_init 32 = .ok (.sipush 600, 3) := by decide +kernel
theorem dX6_init_35 : decode cX6_init 35 = .ok (.newarray .int, 2) := by decide +kernel
theorem dX6_init_37 : decode cX6_init 37 = .ok (.putfield 19, 3) := by decide +kernel
theorem dX6_init_40 : decode cX6_init 40 = .ok (.aload_n 0, 1) := by decide +kernel
theorem dX6_init_41 : decode cX6_init 41 = .ok (.iconst (-1), 1) := by decide +kernel
theorem dX6_init_42 : decode cX6_init 42 = .ok (.putfield 22, 3) := by decide +kernel
theorem dX6_init_45 : decode cX6_init 45 = .ok (.aload_n 0, 1) := by decide +kernel
theorem dX6_init_46 : decode cX6_init 46 = .ok (.ldc 26, 2) := by decide +kernel
theorem dX6_init_48 : decode cX6_init 48 = .ok (.newarray .int, 2) := by decide +kernel
theorem dX6_init_50 : decode cX6_init 50 = .ok (.putfield 27, 3) := by decide +kernel
theorem dX6_init_53 : decode cX6_init 53 = .ok (.aload_n 0, 1) := by decide +kernel
theorem dX6_init_54 : decode cX6_init 54 = .ok (.sipush 192, 3) := by decide +kernel
theorem dX6_init_57 : decode cX6_init 57 = .ok (.newarray .int, 2) := by decide +kernel
theorem dX6_init_59 : decode cX6_init 59 = .ok (.putfield 30, 3) := by decide +kernel
theorem dX6_init_62 : decode cX6_init 62 = .ok (.aload_n 0, 1) := by decide +kernel
theorem dX6_init_63 : decode cX6_init 63 = .ok (.sipush 192, 3) := by decide +kernel
theorem dX6_init_66 : decode cX6_init 66 = .ok (.newarray .int, 2) := by decide +kernel
theorem dX6_init_68 : decode cX6_init 68 = .ok (.putfield 33, 3) := by decide +kernel
theorem dX6_init_71 : decode cX6_init 71 = .ok (.aload_n 0, 1) := by decide +kernel
theorem dX6_init_72 : decode cX6_init 72 = .ok (.sipush 192, 3) := by decide +kernel
theorem dX6_init_75 : decode cX6_init 75 = .ok (.newarray .int, 2) := by decide +kernel
theorem dX6_init_77 : decode cX6_init 77 = .ok (.putfield 36, 3) := by decide +kernel
theorem dX6_init_80 : decode cX6_init 80 = .ok (.aload_n 0, 1) := by decide +kernel
theorem dX6_init_81 : decode cX6_init 81 = .ok (.sipush 1000, 3) := by decide +kernel
theorem dX6_init_84 : decode cX6_init 84 = .ok (.newarray .boolean, 2) := by decide +kernel
theorem dX6_init_86 : decode cX6_init 86 = .ok (.putfield 39, 3) := by decide +kernel
theorem dX6_init_89 : decode cX6_init 89 = .ok (.aload_n 0, 1) := by decide +kernel
theorem dX6_init_90 : decode cX6_init 90 = .ok (.bipush 8, 2) := by decide +kernel
theorem dX6_init_92 : decode cX6_init 92 = .ok (.newarray .int, 2) := by decide +kernel
theorem dX6_init_94 : decode cX6_init 94 = .ok (.putfield 43, 3) := by decide +kernel
theorem dX6_init_97 : decode cX6_init 97 = .ok (.aload_n 0, 1) := by decide +kernel
theorem dX6_init_98 : decode cX6_init 98 = .ok (.bipush 24, 2) := by decide +kernel
theorem dX6_init_100 : decode cX6_init 100 = .ok (.newarray .int, 2) := by decide +kernel
theorem dX6_init_102 : decode cX6_init 102 = .ok (.putfield 46, 3) := by decide +kernel
theorem dX6_init_105 : decode cX6_init 105 = .ok (.aload_n 0, 1) := by decide +kernel
theorem dX6_init_106 : decode cX6_init 106 = .ok (.bipush 8, 2) := by decide +kernel
theorem dX6_init_108 : decode cX6_init 108 = .ok (.newarray .int, 2) := by decide +kernel
theorem dX6_init_110 : decode cX6_init 110 = .ok (.putfield 49, 3) := by decide +kernel
theorem dX6_init_113 : decode cX6_init 113 = .ok (.aload_n 0, 1) := by decide +kernel
theorem dX6_init_114 : decode cX6_init 114 = .ok (.bipush 24, 2) := by decide +kernel
theorem dX6_init_116 : decode cX6_init 116 = .ok (.newarray .int, 2) := by decide +kernel
theorem dX6_init_118 : decode cX6_init 118 = .ok (.putfield 52, 3) := by decide +kernel
theorem dX6_init_121 : decode cX6_init 121 = .ok (.aload_n 0, 1) := by decide +kernel
theorem dX6_init_122 : decode cX6_init 122 = .ok (.iconst 3, 1) := by decide +kernel
theorem dX6_init_123 : decode cX6_init 123 = .ok (.newarray .int, 2) := by decide +kernel
theorem dX6_init_125 : decode cX6_init 125 = .ok (.putfield 55, 3) := by decide +kernel
theorem dX6_init_128 : decode cX6_init 128 = .ok (.iconst 0, 1) := by decide +kernel
theorem dX6_init_129 : decode cX6_init 129 = .ok (.istore_n 1, 1) := by decide +kernel
theorem dX6_init_130 : decode cX6_init 130 = .ok (.iload_n 1, 1) := by decide +kernel
theorem dX6_init_131 : decode cX6_init 131 = .ok (.bipush 8, 2) := by decide +kernel
theorem dX6_init_133 : decode cX6_init 133 = .ok (.if_icmp .ge 19, 3) := by decide +kernel
theorem dX6_init_136 : decode cX6_init 136 = .ok (.aload_n 0, 1) := by decide +kernel
theorem dX6_init_137 : decode cX6_init 137 = .ok (.getfield 7, 3) := by decide +kernel
theorem dX6_init_140 : decode cX6_init 140 = .ok (.bipush 107, 2) := by decide +kernel
theorem dX6_init_142 : decode cX6_init 142 = .ok (.iload_n 1, 1) := by decide +kernel
theorem dX6_init_143 : decode cX6_init 143 = .ok (.iadd, 1) := by decide +kernel
theorem dX6_init_144 : decode cX6_init 144 = .ok (.iconst (-1), 1) := by decide +kernel
theorem dX6_init_145 : decode cX6_init 145 = .ok (.iastore, 1) := by decide +kernel
theorem dX6_init_146 : decode cX6_init 146 = .ok (.iinc 1 1, 3) := by decide +kernel
theorem dX6_init_149 : decode cX6_init 149 = .ok (.goto (-19), 3) := by decide +kernel
theorem dX6_init_152 : decode cX6_init 152 = .ok (.return_, 1) := by decide +kernel
theorem dX6_thrown_0 : decode cX6_thrown 0 = .ok (.aload_n 0, 1) := by decide +kernel
theorem dX6_thrown_1 : decode cX6_thrown 1 = .ok (.getfield 58, 3) := by decide +kernel
theorem dX6_thrown_4 : decode cX6_thrown 4 = .ok (.ireturn, 1) := by decide +kernel
theorem dX6_isIn_0 : decode cX6_isIn 0 = .ok (.lload_n 0, 1) := by decide +kernel
theorem dX6_isIn_1 : decode cX6_isIn 1 = .ok (.lload_n 2, 1) := by decide +kernel
theorem dX6_isIn_2 : decode cX6_isIn 2 = .ok (.lcmp, 1) := by decide +kernel
theorem dX6_isIn_3 : decode cX6_isIn 3 = .ok (.ifCond .lt 14, 3) := by decide +kernel
theorem dX6_isIn_6 : decode cX6_isIn 6 = .ok (.lload_n 0, 1) := by decide +kernel
theorem dX6_isIn_7 : decode cX6_isIn 7 = .ok (.lload 4, 2) := by decide +kernel
theorem dX6_isIn_9 : decode cX6_isIn 9 = .ok (.lcmp, 1) := by decide +kernel
theorem dX6_isIn_10 : decode cX6_isIn 10 = .ok (.ifCond .gt 7, 3) := by decide +kernel
theorem dX6_isIn_13 : decode cX6_isIn 13 = .ok (.iconst 1, 1) := by decide +kernel
theorem dX6_isIn_14 : decode cX6_isIn 14 = .ok (.goto 4, 3) := by decide +kernel
theorem dX6_isIn_17 : decode cX6_isIn 17 = .ok (.iconst 0, 1) := by decide +kernel
theorem dX6_isIn_18 : decode cX6_isIn 18 = .ok (.ireturn, 1) := by decide +kernel
theorem dX6_keeps_0 : decode cX6_keeps 0 = .ok (.aload_n 0, 1) := by decide +kernel
theorem dX6_keeps_1 : decode cX6_keeps 1 = .ok (.getfield 61, 3) := by decide +kernel
theorem dX6_keeps_4 : decode cX6_keeps 4 = .ok (.bipush 6, 2) := by decide +kernel
theorem dX6_keeps_6 : decode cX6_keeps 6 = .ok (.if_icmp .ne 44, 3) := by decide +kernel
theorem dX6_keeps_9 : decode cX6_keeps 9 = .ok (.iconst 0, 1) := by decide +kernel
theorem dX6_keeps_10 : decode cX6_keeps 10 = .ok (.istore_n 1, 1) := by decide +kernel
theorem dX6_keeps_11 : decode cX6_keeps 11 = .ok (.iload_n 1, 1) := by decide +kernel
theorem dX6_keeps_12 : decode cX6_keeps 12 = .ok (.sipush 900, 3) := by decide +kernel
theorem dX6_keeps_15 : decode cX6_keeps 15 = .ok (.if_icmp .ge 25, 3) := by decide +kernel
theorem dX6_keeps_18 : decode cX6_keeps 18 = .ok (.aload_n 0, 1) := by decide +kernel
theorem dX6_keeps_19 : decode cX6_keeps 19 = .ok (.getfield 16, 3) := by decide +kernel
theorem dX6_keeps_22 : decode cX6_keeps 22 = .ok (.iload_n 1, 1) := by decide +kernel
theorem dX6_keeps_23 : decode cX6_keeps 23 = .ok (.aload_n 0, 1) := by decide +kernel
theorem dX6_keeps_24 : decode cX6_keeps 24 = .ok (.getfield 16, 3) := by decide +kernel
theorem dX6_keeps_27 : decode cX6_keeps 27 = .ok (.iload_n 1, 1) := by decide +kernel
theorem dX6_keeps_28 : decode cX6_keeps 28 = .ok (.sipush 180, 3) := by decide +kernel
theorem dX6_keeps_31 : decode cX6_keeps 31 = .ok (.iadd, 1) := by decide +kernel
theorem dX6_keeps_32 : decode cX6_keeps 32 = .ok (.iaload, 1) := by decide +kernel
theorem dX6_keeps_33 : decode cX6_keeps 33 = .ok (.iastore, 1) := by decide +kernel
theorem dX6_keeps_34 : decode cX6_keeps 34 = .ok (.iinc 1 1, 3) := by decide +kernel
theorem dX6_keeps_37 : decode cX6_keeps 37 = .ok (.goto (-26), 3) := by decide +kernel
theorem dX6_keeps_40 : decode cX6_keeps 40 = .ok (.aload_n 0, 1) := by decide +kernel
theorem dX6_keeps_41 : decode cX6_keeps 41 = .ok (.dup, 1) := by decide +kernel
theorem dX6_keeps_42 : decode cX6_keeps 42 = .ok (.getfield 61, 3) := by decide +kernel
theorem dX6_keeps_45 : decode cX6_keeps 45 = .ok (.iconst 1, 1) := by decide +kernel
theorem dX6_keeps_46 : decode cX6_keeps 46 = .ok (.isub, 1) := by decide +kernel
theorem dX6_keeps_47 : decode cX6_keeps 47 = .ok (.putfield 61, 3) := by decide +kernel
theorem dX6_keeps_50 : decode cX6_keeps 50 = .ok (.iconst 0, 1) := by decide +kernel
theorem dX6_keeps_51 : decode cX6_keeps 51 = .ok (.istore_n 1, 1) := by decide +kernel
theorem dX6_keeps_52 : decode cX6_keeps 52 = .ok (.iload_n 1, 1) := by decide +kernel
theorem dX6_keeps_53 : decode cX6_keeps 53 = .ok (.sipush 180, 3) := by decide +kernel
theorem dX6_keeps_56 : decode cX6_keeps 56 = .ok (.if_icmp .ge 30, 3) := by decide +kernel
theorem dX6_keeps_59 : decode cX6_keeps 59 = .ok (.aload_n 0, 1) := by decide +kernel
theorem dX6_keeps_60 : decode cX6_keeps 60 = .ok (.getfield 16, 3) := by decide +kernel
theorem dX6_keeps_63 : decode cX6_keeps 63 = .ok (.sipush 180, 3) := by decide +kernel
theorem dX6_keeps_66 : decode cX6_keeps 66 = .ok (.aload_n 0, 1) := by decide +kernel
theorem dX6_keeps_67 : decode cX6_keeps 67 = .ok (.getfield 61, 3) := by decide +kernel
theorem dX6_keeps_70 : decode cX6_keeps 70 = .ok (.imul, 1) := by decide +kernel
theorem dX6_keeps_71 : decode cX6_keeps 71 = .ok (.iload_n 1, 1) := by decide +kernel
theorem dX6_keeps_72 : decode cX6_keeps 72 = .ok (.iadd, 1) := by decide +kernel
theorem dX6_keeps_73 : decode cX6_keeps 73 = .ok (.aload_n 0, 1) := by decide +kernel
theorem dX6_keeps_74 : decode cX6_keeps 74 = .ok (.getfield 7, 3) := by decide +kernel
theorem dX6_keeps_77 : decode cX6_keeps 77 = .ok (.iload_n 1, 1) := by decide +kernel
theorem dX6_keeps_78 : decode cX6_keeps 78 = .ok (.iaload, 1) := by decide +kernel
theorem dX6_keeps_79 : decode cX6_keeps 79 = .ok (.iastore, 1) := by decide +kernel
theorem dX6_keeps_80 : decode cX6_keeps 80 = .ok (.iinc 1 1, 3) := by decide +kernel
theorem dX6_keeps_83 : decode cX6_keeps 83 = .ok (.goto (-31), 3) := by decide +kernel
theorem dX6_keeps_86 : decode cX6_keeps 86 = .ok (.aload_n 0, 1) := by decide +kernel
theorem dX6_keeps_87 : decode cX6_keeps 87 = .ok (.dup, 1) := by decide +kernel
theorem dX6_keeps_88 : decode cX6_keeps 88 = .ok (.getfield 61, 3) := by decide +kernel
theorem dX6_keeps_91 : decode cX6_keeps 91 = .ok (.iconst 1, 1) := by decide +kernel
theorem dX6_keeps_92 : decode cX6_keeps 92 = .ok (.iadd, 1) := by decide +kernel
theorem dX6_keeps_93 : decode cX6_keeps 93 = .ok (.putfield 61, 3) := by decide +kernel
theorem dX6_keeps_96 : decode cX6_keeps 96 = .ok (.return_, 1) := by decide +kernel
theorem dX6_undo_0 : decode cX6_undo 0 = .ok (.aload_n 0, 1) := by decide +kernel
theorem dX6_undo_1 : decode cX6_undo 1 = .ok (.aload_n 0, 1) := by decide +kernel
theorem dX6_undo_2 : decode cX6_undo 2 = .ok (.getfield 61, 3) := by decide +kernel
theorem dX6_undo_5 : decode cX6_undo 5 = .ok (.ifCond .ne 7, 3) := by decide +kernel
theorem dX6_undo_8 : decode cX6_undo 8 = .ok (.iconst 1, 1) := by decide +kernel
theorem dX6_undo_9 : decode cX6_undo 9 = .ok (.goto 4, 3) := by decide +kernel
theorem dX6_undo_12 : decode cX6_undo 12 = .ok (.iconst 0, 1) := by decide +kernel
theorem dX6_undo_13 : decode cX6_undo 13 = .ok (.putfield 58, 3) := by decide +kernel
theorem dX6_undo_16 : decode cX6_undo 16 = .ok (.aload_n 0, 1) := by decide +kernel
theorem dX6_undo_17 : decode cX6_undo 17 = .ok (.getfield 58, 3) := by decide +kernel
theorem dX6_undo_20 : decode cX6_undo 20 = .ok (.ifCond .le 5, 3) := by decide +kernel
theorem dX6_undo_23 : decode cX6_undo 23 = .ok (.iconst 0, 1) := by decide +kernel
theorem dX6_undo_24 : decode cX6_undo 24 = .ok (.ireturn, 1) := by decide +kernel
theorem dX6_undo_25 : decode cX6_undo 25 = .ok (.aload_n 0, 1) := by decide +kernel
theorem dX6_undo_26 : decode cX6_undo 26 = .ok (.dup, 1) := by decide +kernel
theorem dX6_undo_27 : decode cX6_undo 27 = .ok (.getfield 61, 3) := by decide +kernel
theorem dX6_undo_30 : decode cX6_undo 30 = .ok (.iconst 1, 1) := by decide +kernel
theorem dX6_undo_31 : decode cX6_undo 31 = .ok (.isub, 1) := by decide +kernel
theorem dX6_undo_32 : decode cX6_undo 32 = .ok (.putfield 61, 3) := by decide +kernel
theorem dX6_undo_35 : decode cX6_undo 35 = .ok (.iconst 0, 1) := by decide +kernel
theorem dX6_undo_36 : decode cX6_undo 36 = .ok (.istore_n 1, 1) := by decide +kernel
theorem dX6_undo_37 : decode cX6_undo 37 = .ok (.iload_n 1, 1) := by decide +kernel
theorem dX6_undo_38 : decode cX6_undo 38 = .ok (.sipush 180, 3) := by decide +kernel
theorem dX6_undo_41 : decode cX6_undo 41 = .ok (.if_icmp .ge 30, 3) := by decide +kernel
theorem dX6_undo_44 : decode cX6_undo 44 = .ok (.aload_n 0, 1) := by decide +kernel
theorem dX6_undo_45 : decode cX6_undo 45 = .ok (.getfield 7, 3) := by decide +kernel
theorem dX6_undo_48 : decode cX6_undo 48 = .ok (.iload_n 1, 1) := by decide +kernel
theorem dX6_undo_49 : decode cX6_undo 49 = .ok (.aload_n 0, 1) := by decide +kernel
theorem dX6_undo_50 : decode cX6_undo 50 = .ok (.getfield 16, 3) := by decide +kernel
theorem dX6_undo_53 : decode cX6_undo 53 = .ok (.sipush 180, 3) := by decide +kernel
theorem dX6_undo_56 : decode cX6_undo 56 = .ok (.aload_n 0, 1) := by decide +kernel
theorem dX6_undo_57 : decode cX6_undo 57 = .ok (.getfield 61, 3) := by decide +kernel
theorem dX6_undo_60 : decode cX6_undo 60 = .ok (.imul, 1) := by decide +kernel
theorem dX6_undo_61 : decode cX6_undo 61 = .ok (.iload_n 1, 1) := by decide +kernel
theorem dX6_undo_62 : decode cX6_undo 62 = .ok (.iadd, 1) := by decide +kernel
theorem dX6_undo_63 : decode cX6_undo 63 = .ok (.iaload, 1) := by decide +kernel
theorem dX6_undo_64 : decode cX6_undo 64 = .ok (.iastore, 1) := by decide +kernel
theorem dX6_undo_65 : decode cX6_undo 65 = .ok (.iinc 1 1, 3) := by decide +kernel
theorem dX6_undo_68 : decode cX6_undo 68 = .ok (.goto (-31), 3) := by decide +kernel
theorem dX6_undo_71 : decode cX6_undo 71 = .ok (.aload_n 0, 1) := by decide +kernel
theorem dX6_undo_72 : decode cX6_undo 72 = .ok (.getfield 61, 3) := by decide +kernel
theorem dX6_undo_75 : decode cX6_undo 75 = .ok (.ireturn, 1) := by decide +kernel
theorem dX6_append_0 : decode cX6_append 0 = .ok (.aload_n 0, 1) := by decide +kernel
theorem dX6_append_1 : decode cX6_append 1 = .ok (.aload_n 0, 1) := by decide +kernel
theorem dX6_append_2 : decode cX6_append 2 = .ok (.getfield 64, 3) := by decide +kernel
theorem dX6_append_5 : decode cX6_append 5 = .ok (.bipush 20, 2) := by decide +kernel
theorem dX6_append_7 : decode cX6_append 7 = .ok (.iadd, 1) := by decide +kernel
theorem dX6_append_8 : decode cX6_append 8 = .ok (.sipush 600, 3) := by decide +kernel
theorem dX6_append_11 : decode cX6_append 11 = .ok (.if_icmp .le 7, 3) := by decide +kernel
theorem dX6_append_14 : decode cX6_append 14 = .ok (.iconst 1, 1) := by decide +kernel
theorem dX6_append_15 : decode cX6_append 15 = .ok (.goto 4, 3) := by decide +kernel
theorem dX6_append_18 : decode cX6_append 18 = .ok (.iconst 0, 1) := by decide +kernel
theorem dX6_append_19 : decode cX6_append 19 = .ok (.putfield 58, 3) := by decide +kernel
theorem dX6_append_22 : decode cX6_append 22 = .ok (.aload_n 0, 1) := by decide +kernel
theorem dX6_append_23 : decode cX6_append 23 = .ok (.getfield 58, 3) := by decide +kernel
theorem dX6_append_26 : decode cX6_append 26 = .ok (.ifCond .le 5, 3) := by decide +kernel
theorem dX6_append_29 : decode cX6_append 29 = .ok (.iconst 0, 1) := by decide +kernel
theorem dX6_append_30 : decode cX6_append 30 = .ok (.ireturn, 1) := by decide +kernel
theorem dX6_append_31 : decode cX6_append 31 = .ok (.iconst 0, 1) := by decide +kernel
theorem dX6_append_32 : decode cX6_append 32 = .ok (.istore 6, 2) := by decide +kernel
theorem dX6_append_34 : decode cX6_append 34 = .ok (.iload 6, 2) := by decide +kernel
theorem dX6_append_36 : decode cX6_append 36 = .ok (.bipush 20, 2) := by decide +kernel
theorem dX6_append_38 : decode cX6_append 38 = .ok (.if_icmp .ge 93, 3) := by decide +kernel
theorem dX6_append_41 : decode cX6_append 41 = .ok (.iload 6, 2) := by decide +kernel
theorem dX6_append_43 : decode cX6_append 43 = .ok (.iconst 4, 1) := by decide +kernel
theorem dX6_append_44 : decode cX6_append 44 = .ok (.if_icmp .ge 7, 3) := by decide +kernel
theorem dX6_append_47 : decode cX6_append 47 = .ok (.iload_n 1, 1) := by decide +kernel
theorem dX6_append_48 : decode cX6_append 48 = .ok (.goto 39, 3) := by decide +kernel
theorem dX6_append_51 : decode cX6_append 51 = .ok (.iload 6, 2) := by decide +kernel
theorem dX6_append_53 : decode cX6_append 53 = .ok (.bipush 8, 2) := by decide +kernel
theorem dX6_append_55 : decode cX6_append 55 = .ok (.if_icmp .ge 7, 3) := by decide +kernel
theorem dX6_append_58 : decode cX6_append 58 = .ok (.iload_n 2, 1) := by decide +kernel
theorem dX6_append_59 : decode cX6_append 59 = .ok (.goto 28, 3) := by decide +kernel
theorem dX6_append_62 : decode cX6_append 62 = .ok (.iload 6, 2) := by decide +kernel
theorem dX6_append_64 : decode cX6_append 64 = .ok (.bipush 12, 2) := by decide +kernel
theorem dX6_append_66 : decode cX6_append 66 = .ok (.if_icmp .ge 7, 3) := by decide +kernel
theorem dX6_append_69 : decode cX6_append 69 = .ok (.iload_n 3, 1) := by decide +kernel
theorem dX6_append_70 : decode cX6_append 70 = .ok (.goto 17, 3) := by decide +kernel
theorem dX6_append_73 : decode cX6_append 73 = .ok (.iload 6, 2) := by decide +kernel
theorem dX6_append_75 : decode cX6_append 75 = .ok (.bipush 16, 2) := by decide +kernel
theorem dX6_append_77 : decode cX6_append 77 = .ok (.if_icmp .ge 8, 3) := by decide +kernel
theorem dX6_append_80 : decode cX6_append 80 = .ok (.iload 4, 2) := by decide +kernel
theorem dX6_append_82 : decode cX6_append 82 = .ok (.goto 5, 3) := by decide +kernel
theorem dX6_append_85 : decode cX6_append 85 = .ok (.iload 5, 2) := by decide +kernel
theorem dX6_append_87 : decode cX6_append 87 = .ok (.istore 7, 2) := by decide +kernel
theorem dX6_append_89 : decode cX6_append 89 = .ok (.aload_n 0, 1) := by decide +kernel
theorem dX6_append_90 : decode cX6_append 90 = .ok (.getfield 19, 3) := by decide +kernel
theorem dX6_append_93 : decode cX6_append 93 = .ok (.aload_n 0, 1) := by decide +kernel
theorem dX6_append_94 : decode cX6_append 94 = .ok (.getfield 64, 3) := by decide +kernel
theorem dX6_append_97 : decode cX6_append 97 = .ok (.iload 7, 2) := by decide +kernel
theorem dX6_append_99 : decode cX6_append 99 = .ok (.bipush 24, 2) := by decide +kernel
theorem dX6_append_101 : decode cX6_append 101 = .ok (.bipush 8, 2) := by decide +kernel
theorem dX6_append_103 : decode cX6_append 103 = .ok (.iload 6, 2) := by decide +kernel
theorem dX6_append_105 : decode cX6_append 105 = .ok (.iconst 4, 1) := by decide +kernel
theorem dX6_append_106 : decode cX6_append 106 = .ok (.irem, 1) := by decide +kernel
theorem dX6_append_107 : decode cX6_append 107 = .ok (.imul, 1) := by decide +kernel
theorem dX6_append_108 : decode cX6_append 108 = .ok (.isub, 1) := by decide +kernel
theorem dX6_append_109 : decode cX6_append 109 = .ok (.ishr, 1) := by decide +kernel
theorem dX6_append_110 : decode cX6_append 110 = .ok (.sipush 255, 3) := by decide +kernel
theorem dX6_append_113 : decode cX6_append 113 = .ok (.iand, 1) := by decide +kernel
theorem dX6_append_114 : decode cX6_append 114 = .ok (.iastore, 1) := by decide +kernel
theorem dX6_append_115 : decode cX6_append 115 = .ok (.aload_n 0, 1) := by decide +kernel
theorem dX6_append_116 : decode cX6_append 116 = .ok (.dup, 1) := by decide +kernel
theorem dX6_append_117 : decode cX6_append 117 = .ok (.getfield 64, 3) := by decide +kernel
theorem dX6_append_120 : decode cX6_append 120 = .ok (.iconst 1, 1) := by decide +kernel
theorem dX6_append_121 : decode cX6_append 121 = .ok (.iadd, 1) := by decide +kernel
theorem dX6_append_122 : decode cX6_append 122 = .ok (.putfield 64, 3) := by decide +kernel
theorem dX6_append_125 : decode cX6_append 125 = .ok (.iinc 6 1, 3) := by decide +kernel
theorem dX6_append_128 : decode cX6_append 128 = .ok (.goto (-94), 3) := by decide +kernel
theorem dX6_append_131 : decode cX6_append 131 = .ok (.aload_n 0, 1) := by decide +kernel
theorem dX6_append_132 : decode cX6_append 132 = .ok (.getfield 64, 3) := by decide +kernel
theorem dX6_append_135 : decode cX6_append 135 = .ok (.ireturn, 1) := by decide +kernel
theorem dX6_see_0 : decode cX6_see 0 = .ok (.iload_n 1, 1) := by decide +kernel
theorem dX6_see_1 : decode cX6_see 1 = .ok (.aload_n 0, 1) := by decide +kernel
theorem dX6_see_2 : decode cX6_see 2 = .ok (.getfield 67, 3) := by decide +kernel
theorem dX6_see_5 : decode cX6_see 5 = .ok (.if_icmp .ge 12, 3) := by decide +kernel
theorem dX6_see_8 : decode cX6_see 8 = .ok (.aload_n 0, 1) := by decide +kernel
theorem dX6_see_9 : decode cX6_see 9 = .ok (.getfield 19, 3) := by decide +kernel
theorem dX6_see_12 : decode cX6_see 12 = .ok (.iload_n 1, 1) := by decide +kernel
theorem dX6_see_13 : decode cX6_see 13 = .ok (.iaload, 1) := by decide +kernel
theorem dX6_see_14 : decode cX6_see 14 = .ok (.goto 4, 3) := by decide +kernel
theorem dX6_see_17 : decode cX6_see 17 = .ok (.iconst (-1), 1) := by decide +kernel
theorem dX6_see_18 : decode cX6_see 18 = .ok (.ireturn, 1) := by decide +kernel
set_option maxRecDepth 20000 in
theorem ggX6_isSmall_X6_isIn : GoodIn wsX6_isSmall wsX6_isIn := goodIn_r _ [6] (by decide +kernel) (by decide +kernel)
set_option maxRecDepth 20000 in
theorem gX6_isSmall_X6_isIn : GoodIn wsX6_isSmall (va_wsS RX6 74 yX6_isIn wsX6_isIn) := goodIn_app (goodIn_of _ (by decide +kernel)) ggX6_isSmall_X6_isIn
theorem dX6_isSmall_0 : decode cX6_isSmall 0 = .ok (.iload_n 0, 1) := by decide +kernel
theorem dX6_isSmall_1 : decode cX6_isSmall 1 = .ok (.i2l, 1) := by decide +kernel
theorem dX6_isSmall_2 : decode cX6_isSmall 2 = .ok (.ldc2_w 70, 3) := by decide +kernel
theorem dX6_isSmall_5 : decode cX6_isSmall 5 = .ok (.ldc2_w 72, 3) := by decide +kernel
theorem dX6_isSmall_8 : decode cX6_isSmall 8 = .ok (.invokestatic 74, 3) := by decide +kernel
theorem dX6_isSmall_11 : decode cX6_isSmall 11 = .ok (.ireturn, 1) := by decide +kernel
set_option maxRecDepth 20000 in
theorem ggX6_isDigit_X6_isIn : GoodIn wsX6_isDigit wsX6_isIn := goodIn_r _ [6] (by decide +kernel) (by decide +kernel)
set_option maxRecDepth 20000 in
theorem gX6_isDigit_X6_isIn : GoodIn wsX6_isDigit (va_wsS RX6 74 yX6_isIn wsX6_isIn) := goodIn_app (goodIn_of _ (by decide +kernel)) ggX6_isDigit_X6_isIn
theorem dX6_isDigit_0 : decode cX6_isDigit 0 = .ok (.iload_n 0, 1) := by decide +kernel
theorem dX6_isDigit_1 : decode cX6_isDigit 1 = .ok (.i2l, 1) := by decide +kernel
theorem dX6_isDigit_2 : decode cX6_isDigit 2 = .ok (.ldc2_w 78, 3) := by decide +kernel
theorem dX6_isDigit_5 : decode cX6_isDigit 5 = .ok (.ldc2_w 80, 3) := by decide +kernel
theorem dX6_isDigit_8 : decode cX6_isDigit 8 = .ok (.invokestatic 74, 3) := by decide +kernel
theorem dX6_isDigit_11 : decode cX6_isDigit 11 = .ok (.ireturn, 1) := by decide +kernel
set_option maxRecDepth 20000 in
theorem ggX6_keyAt_J0_length_8abf5 : GoodIn wsX6_keyAt wsJ0_length_8abf5 := goodIn_r _ [8, 9, 10, 11, 12, 7, 13, 14, 15] (by decide +kernel) (by decide +kernel)
set_option maxRecDepth 20000 in
theorem gX6_keyAt_J0_length_8abf5 : GoodIn wsX6_keyAt (wsV RX6 84 RJ0 yJ0_length_8abf5 wsJ0_length_8abf5) := goodIn_app (goodIn_of _ (by decide +kernel)) ggX6_keyAt_J0_length_8abf5
set_option maxRecDepth 20000 in
theorem ggX6_keyAt_J0_charAt_5068e : GoodIn wsX6_keyAt wsJ0_charAt_5068e := goodIn_r _ [19, 9, 20, 21, 22, 7, 23, 14, 15, 24, 25, 26, 27, 28, 29, 30, 31, 32, 33, 34, 35, 36, 37, 38, 39, 40, 41, 42, 43, 44, 45, 46, 47, 48, 49, 50, 51, 52] (by decide +kernel) (by decide +kernel)
set_option maxRecDepth 20000 in
theorem gX6_keyAt_J0_charAt_5068e : GoodIn wsX6_keyAt (wsV RX6 90 RJ0 yJ0_charAt_5068e wsJ0_charAt_5068e) := goodIn_app (goodIn_of _ (by decide +kernel)) ggX6_keyAt_J0_charAt_5068e
theorem dX6_keyAt_0 : decode cX6_keyAt 0 = .ok (.iconst 0, 1) := by decide +kernel
theorem dX6_keyAt_1 : decode cX6_keyAt 1 = .ok (.istore_n 1, 1) := by decide +kernel
theorem dX6_keyAt_2 : decode cX6_keyAt 2 = .ok (.iconst 1, 1) := by decide +kernel
theorem dX6_keyAt_3 : decode cX6_keyAt 3 = .ok (.istore_n 2, 1) := by decide +kernel
theorem dX6_keyAt_4 : decode cX6_keyAt 4 = .ok (.iload_n 2, 1) := by decide +kernel
theorem dX6_keyAt_5 : decode cX6_keyAt 5 = .ok (.ldc 82, 2) := by decide +kernel
theorem dX6_keyAt_7 : decode cX6_keyAt 7 = .ok (.invokevirtual 84, 3) := by decide +kernel
theorem dX6_keyAt_10 : decode cX6_keyAt 10 = .ok (.if_icmp .ge 113, 3) := by decide +kernel
theorem dX6_keyAt_13 : decode cX6_keyAt 13 = .ok (.iconst 0, 1) := by decide +kernel
theorem dX6_keyAt_14 : decode cX6_keyAt 14 = .ok (.istore_n 3, 1) := by decide +kernel
theorem dX6_keyAt_15 : decode cX6_keyAt 15 = .ok (.ldc 82, 2) := by decide +kernel
theorem dX6_keyAt_17 : decode cX6_keyAt 17 = .ok (.iload_n 2, 1) := by decide +kernel
theorem dX6_keyAt_18 : decode cX6_keyAt 18 = .ok (.iload_n 3, 1) := by decide +kernel
theorem dX6_keyAt_19 : decode cX6_keyAt 19 = .ok (.iadd, 1) := by decide +kernel
theorem dX6_keyAt_20 : decode cX6_keyAt 20 = .ok (.invokevirtual 90, 3) := by decide +kernel
theorem dX6_keyAt_23 : decode cX6_keyAt 23 = .ok (.bipush 32, 2) := by decide +kernel
theorem dX6_keyAt_25 : decode cX6_keyAt 25 = .ok (.if_icmp .eq 44, 3) := by decide +kernel
theorem dX6_keyAt_28 : decode cX6_keyAt 28 = .ok (.aload_n 0, 1) := by decide +kernel
theorem dX6_keyAt_29 : decode cX6_keyAt 29 = .ok (.getfield 94, 3) := by decide +kernel
theorem dX6_keyAt_32 : decode cX6_keyAt 32 = .ok (.iload_n 3, 1) := by decide +kernel
theorem dX6_keyAt_33 : decode cX6_keyAt 33 = .ok (.iadd, 1) := by decide +kernel
theorem dX6_keyAt_34 : decode cX6_keyAt 34 = .ok (.aload_n 0, 1) := by decide +kernel
theorem dX6_keyAt_35 : decode cX6_keyAt 35 = .ok (.getfield 97, 3) := by decide +kernel
theorem dX6_keyAt_38 : decode cX6_keyAt 38 = .ok (.if_icmp .ge 31, 3) := by decide +kernel
theorem dX6_keyAt_41 : decode cX6_keyAt 41 = .ok (.aload_n 0, 1) := by decide +kernel
theorem dX6_keyAt_42 : decode cX6_keyAt 42 = .ok (.getfield 19, 3) := by decide +kernel
theorem dX6_keyAt_45 : decode cX6_keyAt 45 = .ok (.aload_n 0, 1) := by decide +kernel
theorem dX6_keyAt_46 : decode cX6_keyAt 46 = .ok (.getfield 94, 3) := by decide +kernel
theorem dX6_keyAt_49 : decode cX6_keyAt 49 = .ok (.iload_n 3, 1) := by decide +kernel
theorem dX6_keyAt_50 : decode cX6_keyAt 50 = .ok (.iadd, 1) := by decide +kernel
theorem dX6_keyAt_51 : decode cX6_keyAt 51 = .ok (.iaload, 1) := by decide +kernel
theorem dX6_keyAt_52 : decode cX6_keyAt 52 = .ok (.ldc 82, 2) := by decide +kernel
theorem dX6_keyAt_54 : decode cX6_keyAt 54 = .ok (.iload_n 2, 1) := by decide +kernel
theorem dX6_keyAt_55 : decode cX6_keyAt 55 = .ok (.iload_n 3, 1) := by decide +kernel
theorem dX6_keyAt_56 : decode cX6_keyAt 56 = .ok (.iadd, 1) := by decide +kernel
theorem dX6_keyAt_57 : decode cX6_keyAt 57 = .ok (.invokevirtual 90, 3) := by decide +kernel
theorem dX6_keyAt_60 : decode cX6_keyAt 60 = .ok (.if_icmp .ne 9, 3) := by decide +kernel
theorem dX6_keyAt_63 : decode cX6_keyAt 63 = .ok (.iinc 3 1, 3) := by decide +kernel
theorem dX6_keyAt_66 : decode cX6_keyAt 66 = .ok (.goto (-51), 3) := by decide +kernel
theorem dX6_keyAt_69 : decode cX6_keyAt 69 = .ok (.ldc 82, 2) := by decide +kernel
theorem dX6_keyAt_71 : decode cX6_keyAt 71 = .ok (.iload_n 2, 1) := by decide +kernel
theorem dX6_keyAt_72 : decode cX6_keyAt 72 = .ok (.iload_n 3, 1) := by decide +kernel
theorem dX6_keyAt_73 : decode cX6_keyAt 73 = .ok (.iadd, 1) := by decide +kernel
theorem dX6_keyAt_74 : decode cX6_keyAt 74 = .ok (.invokevirtual 90, 3) := by decide +kernel
theorem dX6_keyAt_77 : decode cX6_keyAt 77 = .ok (.bipush 32, 2) := by decide +kernel
theorem dX6_keyAt_79 : decode cX6_keyAt 79 = .ok (.if_icmp .ne 18, 3) := by decide +kernel
theorem dX6_keyAt_82 : decode cX6_keyAt 82 = .ok (.aload_n 0, 1) := by decide +kernel
theorem dX6_keyAt_83 : decode cX6_keyAt 83 = .ok (.getfield 94, 3) := by decide +kernel
theorem dX6_keyAt_86 : decode cX6_keyAt 86 = .ok (.iload_n 3, 1) := by decide +kernel
theorem dX6_keyAt_87 : decode cX6_keyAt 87 = .ok (.iadd, 1) := by decide +kernel
theorem dX6_keyAt_88 : decode cX6_keyAt 88 = .ok (.aload_n 0, 1) := by decide +kernel
theorem dX6_keyAt_89 : decode cX6_keyAt 89 = .ok (.getfield 97, 3) := by decide +kernel
theorem dX6_keyAt_92 : decode cX6_keyAt 92 = .ok (.if_icmp .ne 5, 3) := by decide +kernel
theorem dX6_keyAt_95 : decode cX6_keyAt 95 = .ok (.iload_n 1, 1) := by decide +kernel
theorem dX6_keyAt_96 : decode cX6_keyAt 96 = .ok (.ireturn, 1) := by decide +kernel
theorem dX6_keyAt_97 : decode cX6_keyAt 97 = .ok (.ldc 82, 2) := by decide +kernel
theorem dX6_keyAt_99 : decode cX6_keyAt 99 = .ok (.iload_n 2, 1) := by decide +kernel
theorem dX6_keyAt_100 : decode cX6_keyAt 100 = .ok (.invokevirtual 90, 3) := by decide +kernel
theorem dX6_keyAt_103 : decode cX6_keyAt 103 = .ok (.bipush 32, 2) := by decide +kernel
theorem dX6_keyAt_105 : decode cX6_keyAt 105 = .ok (.if_icmp .eq 9, 3) := by decide +kernel
theorem dX6_keyAt_108 : decode cX6_keyAt 108 = .ok (.iinc 2 1, 3) := by decide +kernel
theorem dX6_keyAt_111 : decode cX6_keyAt 111 = .ok (.goto (-14), 3) := by decide +kernel
theorem dX6_keyAt_114 : decode cX6_keyAt 114 = .ok (.iinc 2 1, 3) := by decide +kernel
theorem dX6_keyAt_117 : decode cX6_keyAt 117 = .ok (.iinc 1 1, 3) := by decide +kernel
theorem dX6_keyAt_120 : decode cX6_keyAt 120 = .ok (.goto (-116), 3) := by decide +kernel
theorem dX6_keyAt_123 : decode cX6_keyAt 123 = .ok (.bipush 8, 2) := by decide +kernel
theorem dX6_keyAt_125 : decode cX6_keyAt 125 = .ok (.ireturn, 1) := by decide +kernel
set_option maxRecDepth 20000 in
theorem ggX6_next_X6_see : GoodIn wsX6_next wsX6_see := goodIn_r _ [13, 3, 14, 80, 81, 82, 83, 84, 85, 86, 87, 88, 89, 90, 91, 92, 93, 94, 95, 96, 97, 98, 99, 100, 101, 102, 103, 104, 105, 106, 107] (by decide +kernel) (by decide +kernel)
set_option maxRecDepth 20000 in
theorem gX6_next_X6_see : GoodIn wsX6_next (wsV RX6 100 RX6 yX6_see wsX6_see) := goodIn_app (goodIn_of _ (by decide +kernel)) ggX6_next_X6_see
set_option maxRecDepth 20000 in
theorem ggX6_next_X6_isSmall : GoodIn wsX6_next wsX6_isSmall := goodIn_r _ [17, 18, 19, 20, 21, 12, 22] (by decide +kernel) (by decide +kernel)
set_option maxRecDepth 20000 in
theorem gX6_next_X6_isSmall : GoodIn wsX6_next (va_wsS RX6 107 yX6_isSmall wsX6_isSmall) := goodIn_app (goodIn_of _ (by decide +kernel)) ggX6_next_X6_isSmall
set_option maxRecDepth 20000 in
theorem ggX6_next_X6_keyAt : GoodIn wsX6_next wsX6_keyAt := goodIn_r _ [26, 2, 1, 14, 27, 28, 29, 30, 31, 32, 33, 34, 35, 36, 37, 38, 39, 40, 41, 42, 43, 44, 45, 46, 47, 48, 49, 50, 51, 52, 53, 54, 55, 56, 57, 58, 59, 60, 61, 62, 63, 64, 65, 66, 67, 68, 69, 70, 71, 72, 73, 74, 75, 80, 81, 82, 83, 84, 85, 86, 87, 88, 89, 90, 91, 92, 93, 94, 95, 96, 97, 98, 99, 100, 101, 102, 103, 104, 105, 106, 107] (by decide +kernel) (by decide +kernel)
set_option maxRecDepth 20000 in
theorem gX6_next_X6_keyAt : GoodIn wsX6_next (wsV RX6 111 RX6 yX6_keyAt wsX6_keyAt) := goodIn_app (goodIn_of _ (by decide +kernel)) ggX6_next_X6_keyAt
set_option maxRecDepth 20000 in
theorem ggX6_next_X6_isDigit : GoodIn wsX6_next wsX6_isDigit := goodIn_r _ [78, 8, 79, 20, 21, 12, 22] (by decide +kernel) (by decide +kernel)
set_option maxRecDepth 20000 in
theorem gX6_next_X6_isDigit : GoodIn wsX6_next (va_wsS RX6 114 yX6_isDigit wsX6_isDigit) := goodIn_app (goodIn_of _ (by decide +kernel)) ggX6_next_X6_isDigit
theorem dX6_next_0 : decode cX6_next 0 = .ok (.aload_n 0, 1) := by decide +kernel
theorem dX6_next_1 : decode cX6_next 1 = .ok (.aload_n 0, 1) := by decide +kernel
theorem dX6_next_2 : decode cX6_next 2 = .ok (.getfield 97, 3) := by decide +kernel
theorem dX6_next_5 : decode cX6_next 5 = .ok (.putfield 94, 3) := by decide +kernel
theorem dX6_next_8 : decode cX6_next 8 = .ok (.aload_n 0, 1) := by decide +kernel
theorem dX6_next_9 : decode cX6_next 9 = .ok (.aload_n 0, 1) := by decide +kernel
theorem dX6_next_10 : decode cX6_next 10 = .ok (.getfield 94, 3) := by decide +kernel
theorem dX6_next_13 : decode cX6_next 13 = .ok (.invokevirtual 100, 3) := by decide +kernel
theorem dX6_next_16 : decode cX6_next 16 = .ok (.bipush 32, 2) := by decide +kernel
theorem dX6_next_18 : decode cX6_next 18 = .ok (.if_icmp .ne 16, 3) := by decide +kernel
theorem dX6_next_21 : decode cX6_next 21 = .ok (.aload_n 0, 1) := by decide +kernel
theorem dX6_next_22 : decode cX6_next 22 = .ok (.dup, 1) := by decide +kernel
theorem dX6_next_23 : decode cX6_next 23 = .ok (.getfield 94, 3) := by decide +kernel
theorem dX6_next_26 : decode cX6_next 26 = .ok (.iconst 1, 1) := by decide +kernel
theorem dX6_next_27 : decode cX6_next 27 = .ok (.iadd, 1) := by decide +kernel
theorem dX6_next_28 : decode cX6_next 28 = .ok (.putfield 94, 3) := by decide +kernel
theorem dX6_next_31 : decode cX6_next 31 = .ok (.goto (-23), 3) := by decide +kernel
theorem dX6_next_34 : decode cX6_next 34 = .ok (.aload_n 0, 1) := by decide +kernel
theorem dX6_next_35 : decode cX6_next 35 = .ok (.aload_n 0, 1) := by decide +kernel
theorem dX6_next_36 : decode cX6_next 36 = .ok (.getfield 94, 3) := by decide +kernel
theorem dX6_next_39 : decode cX6_next 39 = .ok (.putfield 97, 3) := by decide +kernel
theorem dX6_next_42 : decode cX6_next 42 = .ok (.aload_n 0, 1) := by decide +kernel
theorem dX6_next_43 : decode cX6_next 43 = .ok (.getfield 94, 3) := by decide +kernel
theorem dX6_next_46 : decode cX6_next 46 = .ok (.aload_n 0, 1) := by decide +kernel
theorem dX6_next_47 : decode cX6_next 47 = .ok (.getfield 67, 3) := by decide +kernel
theorem dX6_next_50 : decode cX6_next 50 = .ok (.if_icmp .lt 12, 3) := by decide +kernel
theorem dX6_next_53 : decode cX6_next 53 = .ok (.aload_n 0, 1) := by decide +kernel
theorem dX6_next_54 : decode cX6_next 54 = .ok (.bipush 11, 2) := by decide +kernel
theorem dX6_next_56 : decode cX6_next 56 = .ok (.putfield 104, 3) := by decide +kernel
theorem dX6_next_59 : decode cX6_next 59 = .ok (.goto 181, 3) := by decide +kernel
theorem dX6_next_62 : decode cX6_next 62 = .ok (.aload_n 0, 1) := by decide +kernel
theorem dX6_next_63 : decode cX6_next 63 = .ok (.aload_n 0, 1) := by decide +kernel
theorem dX6_next_64 : decode cX6_next 64 = .ok (.getfield 94, 3) := by decide +kernel
theorem dX6_next_67 : decode cX6_next 67 = .ok (.invokevirtual 100, 3) := by decide +kernel
theorem dX6_next_70 : decode cX6_next 70 = .ok (.invokestatic 107, 3) := by decide +kernel
theorem dX6_next_73 : decode cX6_next 73 = .ok (.ifCond .eq 41, 3) := by decide +kernel
theorem dX6_next_76 : decode cX6_next 76 = .ok (.aload_n 0, 1) := by decide +kernel
theorem dX6_next_77 : decode cX6_next 77 = .ok (.aload_n 0, 1) := by decide +kernel
theorem dX6_next_78 : decode cX6_next 78 = .ok (.getfield 97, 3) := by decide +kernel
theorem dX6_next_81 : decode cX6_next 81 = .ok (.invokevirtual 100, 3) := by decide +kernel
theorem dX6_next_84 : decode cX6_next 84 = .ok (.invokestatic 107, 3) := by decide +kernel
theorem dX6_next_87 : decode cX6_next 87 = .ok (.ifCond .eq 16, 3) := by decide +kernel
theorem dX6_next_90 : decode cX6_next 90 = .ok (.aload_n 0, 1) := by decide +kernel
theorem dX6_next_91 : decode cX6_next 91 = .ok (.dup, 1) := by decide +kernel
theorem dX6_next_92 : decode cX6_next 92 = .ok (.getfield 97, 3) := by decide +kernel
theorem dX6_next_95 : decode cX6_next 95 = .ok (.iconst 1, 1) := by decide +kernel
theorem dX6_next_96 : decode cX6_next 96 = .ok (.iadd, 1) := by decide +kernel
theorem dX6_next_97 : decode cX6_next 97 = .ok (.putfield 97, 3) := by decide +kernel
theorem dX6_next_100 : decode cX6_next 100 = .ok (.goto (-24), 3) := by decide +kernel
theorem dX6_next_103 : decode cX6_next 103 = .ok (.aload_n 0, 1) := by decide +kernel
theorem dX6_next_104 : decode cX6_next 104 = .ok (.aload_n 0, 1) := by decide +kernel
theorem dX6_next_105 : decode cX6_next 105 = .ok (.invokevirtual 111, 3) := by decide +kernel
theorem dX6_next_108 : decode cX6_next 108 = .ok (.putfield 104, 3) := by decide +kernel
theorem dX6_next_111 : decode cX6_next 111 = .ok (.goto 129, 3) := by decide +kernel
theorem dX6_next_114 : decode cX6_next 114 = .ok (.aload_n 0, 1) := by decide +kernel
theorem dX6_next_115 : decode cX6_next 115 = .ok (.aload_n 0, 1) := by decide +kernel
theorem dX6_next_116 : decode cX6_next 116 = .ok (.getfield 94, 3) := by decide +kernel
theorem dX6_next_119 : decode cX6_next 119 = .ok (.invokevirtual 100, 3) := by decide +kernel
theorem dX6_next_122 : decode cX6_next 122 = .ok (.invokestatic 114, 3) := by decide +kernel
theorem dX6_next_125 : decode cX6_next 125 = .ok (.ifCond .eq 81, 3) := by decide +kernel
theorem dX6_next_128 : decode cX6_next 128 = .ok (.aload_n 0, 1) := by decide +kernel
theorem dX6_next_129 : decode cX6_next 129 = .ok (.lconst 0, 1) := by decide +kernel
theorem dX6_next_130 : decode cX6_next 130 = .ok (.putfield 117, 3) := by decide +kernel
theorem dX6_next_133 : decode cX6_next 133 = .ok (.aload_n 0, 1) := by decide +kernel
theorem dX6_next_134 : decode cX6_next 134 = .ok (.aload_n 0, 1) := by decide +kernel
theorem dX6_next_135 : decode cX6_next 135 = .ok (.getfield 97, 3) := by decide +kernel
theorem dX6_next_138 : decode cX6_next 138 = .ok (.invokevirtual 100, 3) := by decide +kernel
theorem dX6_next_141 : decode cX6_next 141 = .ok (.invokestatic 114, 3) := by decide +kernel
theorem dX6_next_144 : decode cX6_next 144 = .ok (.ifCond .eq 53, 3) := by decide +kernel
theorem dX6_next_147 : decode cX6_next 147 = .ok (.aload_n 0, 1) := by decide +kernel
theorem dX6_next_148 : decode cX6_next 148 = .ok (.getfield 117, 3) := by decide +kernel
theorem dX6_next_151 : decode cX6_next 151 = .ok (.ldc2_w 121, 3) := by decide +kernel
theorem dX6_next_154 : decode cX6_next 154 = .ok (.lcmp, 1) := by decide +kernel
theorem dX6_next_155 : decode cX6_next 155 = .ok (.ifCond .ge 29, 3) := by decide +kernel
theorem dX6_next_158 : decode cX6_next 158 = .ok (.aload_n 0, 1) := by decide +kernel
theorem dX6_next_159 : decode cX6_next 159 = .ok (.ldc2_w 123, 3) := by decide +kernel
theorem dX6_next_162 : decode cX6_next 162 = .ok (.aload_n 0, 1) := by decide +kernel
theorem dX6_next_163 : decode cX6_next 163 = .ok (.getfield 117, 3) := by decide +kernel
theorem dX6_next_166 : decode cX6_next 166 = .ok (.lmul, 1) := by decide +kernel
theorem dX6_next_167 : decode cX6_next 167 = .ok (.aload_n 0, 1) := by decide +kernel
theorem dX6_next_168 : decode cX6_next 168 = .ok (.aload_n 0, 1) := by decide +kernel
theorem dX6_next_169 : decode cX6_next 169 = .ok (.getfield 97, 3) := by decide +kernel
theorem dX6_next_172 : decode cX6_next 172 = .ok (.invokevirtual 100, 3) := by decide +kernel
theorem dX6_next_175 : decode cX6_next 175 = .ok (.i2l, 1) := by decide +kernel
theorem dX6_next_176 : decode cX6_next 176 = .ok (.ladd, 1) := by decide +kernel
theorem dX6_next_177 : decode cX6_next 177 = .ok (.ldc2_w 78, 3) := by decide +kernel
theorem dX6_next_180 : decode cX6_next 180 = .ok (.lsub, 1) := by decide +kernel
theorem dX6_next_181 : decode cX6_next 181 = .ok (.putfield 117, 3) := by decide +kernel
theorem dX6_next_184 : decode cX6_next 184 = .ok (.aload_n 0, 1) := by decide +kernel
theorem dX6_next_185 : decode cX6_next 185 = .ok (.dup, 1) := by decide +kernel
theorem dX6_next_186 : decode cX6_next 186 = .ok (.getfield 97, 3) := by decide +kernel
theorem dX6_next_189 : decode cX6_next 189 = .ok (.iconst 1, 1) := by decide +kernel
theorem dX6_next_190 : decode cX6_next 190 = .ok (.iadd, 1) := by decide +kernel
theorem dX6_next_191 : decode cX6_next 191 = .ok (.putfield 97, 3) := by decide +kernel
theorem dX6_next_194 : decode cX6_next 194 = .ok (.goto (-61), 3) := by decide +kernel
theorem dX6_next_197 : decode cX6_next 197 = .ok (.aload_n 0, 1) := by decide +kernel
theorem dX6_next_198 : decode cX6_next 198 = .ok (.bipush 9, 2) := by decide +kernel
theorem dX6_next_200 : decode cX6_next 200 = .ok (.putfield 104, 3) := by decide +kernel
theorem dX6_next_203 : decode cX6_next 203 = .ok (.goto 37, 3) := by decide +kernel
theorem dX6_next_206 : decode cX6_next 206 = .ok (.aload_n 0, 1) := by decide +kernel
theorem dX6_next_207 : decode cX6_next 207 = .ok (.dup, 1) := by decide +kernel
theorem dX6_next_208 : decode cX6_next 208 = .ok (.getfield 97, 3) := by decide +kernel
theorem dX6_next_211 : decode cX6_next 211 = .ok (.iconst 1, 1) := by decide +kernel
theorem dX6_next_212 : decode cX6_next 212 = .ok (.iadd, 1) := by decide +kernel
theorem dX6_next_213 : decode cX6_next 213 = .ok (.putfield 97, 3) := by decide +kernel
theorem dX6_next_216 : decode cX6_next 216 = .ok (.aload_n 0, 1) := by decide +kernel
theorem dX6_next_217 : decode cX6_next 217 = .ok (.aload_n 0, 1) := by decide +kernel
theorem dX6_next_218 : decode cX6_next 218 = .ok (.aload_n 0, 1) := by decide +kernel
theorem dX6_next_219 : decode cX6_next 219 = .ok (.getfield 94, 3) := by decide +kernel
theorem dX6_next_222 : decode cX6_next 222 = .ok (.invokevirtual 100, 3) := by decide +kernel
theorem dX6_next_225 : decode cX6_next 225 = .ok (.bipush 59, 2) := by decide +kernel
theorem dX6_next_227 : decode cX6_next 227 = .ok (.if_icmp .ne 8, 3) := by decide +kernel
theorem dX6_next_230 : decode cX6_next 230 = .ok (.bipush 10, 2) := by decide +kernel
theorem dX6_next_232 : decode cX6_next 232 = .ok (.goto 5, 3) := by decide +kernel
theorem dX6_next_235 : decode cX6_next 235 = .ok (.bipush 12, 2) := by decide +kernel
theorem dX6_next_237 : decode cX6_next 237 = .ok (.putfield 104, 3) := by decide +kernel
theorem dX6_next_240 : decode cX6_next 240 = .ok (.return_, 1) := by decide +kernel
theorem dX6_fails_0 : decode cX6_fails 0 = .ok (.aload_n 0, 1) := by decide +kernel
theorem dX6_fails_1 : decode cX6_fails 1 = .ok (.getfield 125, 3) := by decide +kernel
theorem dX6_fails_4 : decode cX6_fails 4 = .ok (.ifCond .eq 4, 3) := by decide +kernel
theorem dX6_fails_7 : decode cX6_fails 7 = .ok (.return_, 1) := by decide +kernel
theorem dX6_fails_8 : decode cX6_fails 8 = .ok (.aload_n 0, 1) := by decide +kernel
theorem dX6_fails_9 : decode cX6_fails 9 = .ok (.iload_n 1, 1) := by decide +kernel
theorem dX6_fails_10 : decode cX6_fails 10 = .ok (.putfield 125, 3) := by decide +kernel
theorem dX6_fails_13 : decode cX6_fails 13 = .ok (.aload_n 0, 1) := by decide +kernel
theorem dX6_fails_14 : decode cX6_fails 14 = .ok (.aload_n 0, 1) := by decide +kernel
theorem dX6_fails_15 : decode cX6_fails 15 = .ok (.getfield 94, 3) := by decide +kernel
theorem dX6_fails_18 : decode cX6_fails 18 = .ok (.putfield 128, 3) := by decide +kernel
theorem dX6_fails_21 : decode cX6_fails 21 = .ok (.return_, 1) := by decide +kernel
theorem dX6_is_0 : decode cX6_is 0 = .ok (.aload_n 0, 1) := by decide +kernel
theorem dX6_is_1 : decode cX6_is 1 = .ok (.getfield 125, 3) := by decide +kernel
theorem dX6_is_4 : decode cX6_is 4 = .ok (.ifCond .ne 15, 3) := by decide +kernel
theorem dX6_is_7 : decode cX6_is 7 = .ok (.aload_n 0, 1) := by decide +kernel
theorem dX6_is_8 : decode cX6_is 8 = .ok (.getfield 104, 3) := by decide +kernel
theorem dX6_is_11 : decode cX6_is 11 = .ok (.iload_n 1, 1) := by decide +kernel
theorem dX6_is_12 : decode cX6_is 12 = .ok (.if_icmp .ne 7, 3) := by decide +kernel
theorem dX6_is_15 : decode cX6_is 15 = .ok (.iconst 1, 1) := by decide +kernel
theorem dX6_is_16 : decode cX6_is 16 = .ok (.goto 4, 3) := by decide +kernel
theorem dX6_is_19 : decode cX6_is 19 = .ok (.iconst 0, 1) := by decide +kernel
theorem dX6_is_20 : decode cX6_is 20 = .ok (.ireturn, 1) := by decide +kernel
set_option maxRecDepth 20000 in
theorem ggX6_eats_X6_is : GoodIn wsX6_eats wsX6_is := goodIn_r _ [5, 6, 7, 89, 90, 91, 92, 93, 94, 95, 96, 97, 98, 99, 100, 101, 102, 103, 104, 105, 106, 107, 108, 109, 110, 111, 112, 113, 114, 115, 116] (by decide +kernel) (by decide +kernel)
set_option maxRecDepth 20000 in
theorem gX6_eats_X6_is : GoodIn wsX6_eats (wsV RX6 131 RX6 yX6_is wsX6_is) := goodIn_app (goodIn_of _ (by decide +kernel)) ggX6_eats_X6_is
set_option maxRecDepth 20000 in
theorem ggX6_eats_X6_next : GoodIn wsX6_eats wsX6_next := goodIn_r _ [11, 12, 13, 14, 7, 15, 16, 17, 18, 19, 20, 21, 4, 22, 23, 24, 25, 26, 27, 28, 29, 30, 31, 32, 33, 34, 35, 36, 37, 38, 39, 40, 41, 42, 43, 44, 45, 46, 47, 48, 49, 50, 51, 52, 53, 54, 55, 56, 57, 58, 59, 60, 61, 62, 63, 64, 65, 66, 67, 68, 69, 70, 71, 72, 73, 74, 75, 76, 77, 78, 79, 80, 81, 82, 83, 84, 85, 86, 87, 88, 89, 90, 91, 92, 93, 94, 95, 96, 97, 98, 99, 100, 101, 102, 103, 104, 105, 106, 107, 108, 109, 110, 111, 112, 113, 114, 115, 116] (by decide +kernel) (by decide +kernel)
set_option maxRecDepth 20000 in
theorem gX6_eats_X6_next : GoodIn wsX6_eats (wsV RX6 134 RX6 yX6_next wsX6_next) := goodIn_app (goodIn_of _ (by decide +kernel)) ggX6_eats_X6_next
theorem dX6_eats_0 : decode cX6_eats 0 = .ok (.aload_n 0, 1) := by decide +kernel
theorem dX6_eats_1 : decode cX6_eats 1 = .ok (.iload_n 1, 1) := by decide +kernel
theorem dX6_eats_2 : decode cX6_eats 2 = .ok (.invokevirtual 131, 3) := by decide +kernel
theorem dX6_eats_5 : decode cX6_eats 5 = .ok (.ifCond .ne 5, 3) := by decide +kernel
theorem dX6_eats_8 : decode cX6_eats 8 = .ok (.iconst 0, 1) := by decide +kernel
theorem dX6_eats_9 : decode cX6_eats 9 = .ok (.ireturn, 1) := by decide +kernel
theorem dX6_eats_10 : decode cX6_eats 10 = .ok (.aload_n 0, 1) := by decide +kernel
theorem dX6_eats_11 : decode cX6_eats 11 = .ok (.invokevirtual 134, 3) := by decide +kernel
theorem dX6_eats_14 : decode cX6_eats 14 = .ok (.iconst 1, 1) := by decide +kernel
theorem dX6_eats_15 : decode cX6_eats 15 = .ok (.ireturn, 1) := by decide +kernel
set_option maxRecDepth 20000 in
theorem ggX6_needs_X6_eats : GoodIn wsX6_needs wsX6_eats := goodIn_r _ [5, 6, 7, 8, 4, 9, 10, 11, 12, 13, 14, 15, 16, 17, 18, 19, 20, 21, 22, 23, 24, 25, 26, 27, 28, 29, 30, 31, 32, 33, 34, 35, 36, 37, 38, 39, 40, 41, 42, 43, 44, 45, 46, 47, 48, 49, 50, 51, 52, 53, 54, 55, 56, 57, 58, 59, 60, 61, 62, 63, 64, 65, 66, 67, 68, 69, 70, 71, 72, 73, 74, 75, 76, 77, 78, 79, 80, 81, 82, 83, 84, 85, 86, 87, 88, 89, 90, 91, 92, 98, 99, 100, 101, 102, 103, 104, 105, 106, 107, 108, 109, 110, 111, 112, 113, 114, 115, 116, 117, 118, 119, 120, 121, 122, 123, 124, 125] (by decide +kernel) (by decide +kernel)
set_option maxRecDepth 20000 in
theorem gX6_needs_X6_eats : GoodIn wsX6_needs (wsV RX6 137 RX6 yX6_eats wsX6_eats) := goodIn_app (goodIn_of _ (by decide +kernel)) ggX6_needs_X6_eats
set_option maxRecDepth 20000 in
theorem ggX6_needs_X6_fails : GoodIn wsX6_needs wsX6_fails := goodIn_r _ [96, 10, 17, 97, 98, 99, 100, 101, 102, 103, 104, 105, 106, 107, 108, 109, 110, 111, 112, 113, 114, 115, 116, 117, 118, 119, 120, 121, 122, 123, 124, 125] (by decide +kernel) (by decide +kernel)
set_option maxRecDepth 20000 in
theorem gX6_needs_X6_fails : GoodIn wsX6_needs (wsV RX6 140 RX6 yX6_fails wsX6_fails) := goodIn_app (goodIn_of _ (by decide +kernel)) ggX6_needs_X6_fails
theorem dX6_needs_0 : decode cX6_needs 0 = .ok (.aload_n 0, 1) := by decide +kernel
theorem dX6_needs_1 : decode cX6_needs 1 = .ok (.iload_n 1, 1) := by decide +kernel
theorem dX6_needs_2 : decode cX6_needs 2 = .ok (.invokevirtual 137, 3) := by decide +kernel
theorem dX6_needs_5 : decode cX6_needs 5 = .ok (.ifCond .ne 9, 3) := by decide +kernel
theorem dX6_needs_8 : decode cX6_needs 8 = .ok (.aload_n 0, 1) := by decide +kernel
theorem dX6_needs_9 : decode cX6_needs 9 = .ok (.bipush (-2), 2) := by decide +kernel
theorem dX6_needs_11 : decode cX6_needs 11 = .ok (.invokevirtual 140, 3) := by decide +kernel
theorem dX6_needs_14 : decode cX6_needs 14 = .ok (.return_, 1) := by decide +kernel
set_option maxRecDepth 20000 in
theorem ggX6_takes_X6_is : GoodIn wsX6_takes wsX6_is := goodIn_r _ [7, 2, 8, 94, 95, 96, 97, 98, 99, 100, 101, 102, 103, 104, 105, 106, 107, 108, 109, 110, 111, 112, 113, 114, 115, 116, 117, 118, 119, 120, 121] (by decide +kernel) (by decide +kernel)
set_option maxRecDepth 20000 in
theorem gX6_takes_X6_is : GoodIn wsX6_takes (wsV RX6 131 RX6 yX6_is wsX6_is) := goodIn_app (goodIn_of _ (by decide +kernel)) ggX6_takes_X6_is
set_option maxRecDepth 20000 in
theorem ggX6_takes_X6_fails : GoodIn wsX6_takes wsX6_fails := goodIn_r _ [12, 2, 13, 14, 94, 95, 96, 97, 98, 99, 100, 101, 102, 103, 104, 105, 106, 107, 108, 109, 110, 111, 112, 113, 114, 115, 116, 117, 118, 119, 120, 121] (by decide +kernel) (by decide +kernel)
set_option maxRecDepth 20000 in
theorem gX6_takes_X6_fails : GoodIn wsX6_takes (wsV RX6 140 RX6 yX6_fails wsX6_fails) := goodIn_app (goodIn_of _ (by decide +kernel)) ggX6_takes_X6_fails
set_option maxRecDepth 20000 in
theorem ggX6_takes_X6_isIn : GoodIn wsX6_takes wsX6_isIn := goodIn_r _ [17] (by decide +kernel) (by decide +kernel)
set_option maxRecDepth 20000 in
theorem gX6_takes_X6_isIn : GoodIn wsX6_takes (va_wsS RX6 74 yX6_isIn wsX6_isIn) := goodIn_app (goodIn_of _ (by decide +kernel)) ggX6_takes_X6_isIn
set_option maxRecDepth 20000 in
theorem ggX6_takes_X6_next : GoodIn wsX6_takes wsX6_next := goodIn_r _ [21, 22, 13, 23, 8, 1, 24, 25, 26, 27, 28, 29, 6, 30, 31, 32, 33, 34, 35, 36, 15, 16, 17, 37, 38, 39, 40, 41, 42, 43, 44, 45, 46, 47, 48, 49, 50, 51, 52, 53, 54, 55, 56, 57, 58, 59, 60, 61, 62, 63, 64, 65, 66, 67, 68, 69, 70, 71, 72, 73, 74, 75, 76, 77, 78, 79, 80, 81, 82, 83, 84, 85, 86, 87, 88, 89, 90, 91, 92, 93, 94, 95, 96, 97, 98, 99, 100, 101, 102, 103, 104, 105, 106, 107, 108, 109, 110, 111, 112, 113, 114, 115, 116, 117, 118, 119, 120, 121] (by decide +kernel) (by decide +kernel)
