theorem dX6_canSwap_76 : decode cX6_canSwap 76 = .ok (.bipush 107, 2) := by decide +kernel
theorem dX6_canSwap_78 : decode cX6_canSwap 78 = .ok (.iload_n 2, 1) := by decide +kernel
theorem dX6_canSwap_79 : decode cX6_canSwap 79 = .ok (.iadd, 1) := by decide +kernel
theorem dX6_canSwap_80 : decode cX6_canSwap 80 = .ok (.iaload, 1) := by decide +kernel
theorem dX6_canSwap_81 : decode cX6_canSwap 81 = .ok (.goto 29, 3) := by decide +kernel
theorem dX6_canSwap_84 : decode cX6_canSwap 84 = .ok (.iload_n 3, 1) := by decide +kernel
theorem dX6_canSwap_85 : decode cX6_canSwap 85 = .ok (.iload_n 2, 1) := by decide +kernel
theorem dX6_canSwap_86 : decode cX6_canSwap 86 = .ok (.if_icmp .ne 15, 3) := by decide +kernel
theorem dX6_canSwap_89 : decode cX6_canSwap 89 = .ok (.aload_n 0, 1) := by decide +kernel
theorem dX6_canSwap_90 : decode cX6_canSwap 90 = .ok (.getfield 7, 3) := by decide +kernel
theorem dX6_canSwap_93 : decode cX6_canSwap 93 = .ok (.bipush 107, 2) := by decide +kernel
theorem dX6_canSwap_95 : decode cX6_canSwap 95 = .ok (.iload_n 1, 1) := by decide +kernel
theorem dX6_canSwap_96 : decode cX6_canSwap 96 = .ok (.iadd, 1) := by decide +kernel
theorem dX6_canSwap_97 : decode cX6_canSwap 97 = .ok (.iaload, 1) := by decide +kernel
theorem dX6_canSwap_98 : decode cX6_canSwap 98 = .ok (.goto 12, 3) := by decide +kernel
theorem dX6_canSwap_101 : decode cX6_canSwap 101 = .ok (.aload_n 0, 1) := by decide +kernel
theorem dX6_canSwap_102 : decode cX6_canSwap 102 = .ok (.getfield 7, 3) := by decide +kernel
theorem dX6_canSwap_105 : decode cX6_canSwap 105 = .ok (.bipush 107, 2) := by decide +kernel
theorem dX6_canSwap_107 : decode cX6_canSwap 107 = .ok (.iload_n 3, 1) := by decide +kernel
theorem dX6_canSwap_108 : decode cX6_canSwap 108 = .ok (.iadd, 1) := by decide +kernel
theorem dX6_canSwap_109 : decode cX6_canSwap 109 = .ok (.iaload, 1) := by decide +kernel
theorem dX6_canSwap_110 : decode cX6_canSwap 110 = .ok (.iastore, 1) := by decide +kernel
theorem dX6_canSwap_111 : decode cX6_canSwap 111 = .ok (.aload_n 0, 1) := by decide +kernel
theorem dX6_canSwap_112 : decode cX6_canSwap 112 = .ok (.getfield 43, 3) := by decide +kernel
theorem dX6_canSwap_115 : decode cX6_canSwap 115 = .ok (.iload_n 3, 1) := by decide +kernel
theorem dX6_canSwap_116 : decode cX6_canSwap 116 = .ok (.iaload, 1) := by decide +kernel
theorem dX6_canSwap_117 : decode cX6_canSwap 117 = .ok (.iconst (-1), 1) := by decide +kernel
theorem dX6_canSwap_118 : decode cX6_canSwap 118 = .ok (.if_icmp .ne 6, 3) := by decide +kernel
theorem dX6_canSwap_121 : decode cX6_canSwap 121 = .ok (.goto 31, 3) := by decide +kernel
theorem dX6_canSwap_124 : decode cX6_canSwap 124 = .ok (.aload_n 0, 1) := by decide +kernel
theorem dX6_canSwap_125 : decode cX6_canSwap 125 = .ok (.iload_n 3, 1) := by decide +kernel
theorem dX6_canSwap_126 : decode cX6_canSwap 126 = .ok (.aload_n 0, 1) := by decide +kernel
theorem dX6_canSwap_127 : decode cX6_canSwap 127 = .ok (.getfield 43, 3) := by decide +kernel
theorem dX6_canSwap_130 : decode cX6_canSwap 130 = .ok (.iload_n 3, 1) := by decide +kernel
theorem dX6_canSwap_131 : decode cX6_canSwap 131 = .ok (.iaload, 1) := by decide +kernel
theorem dX6_canSwap_132 : decode cX6_canSwap 132 = .ok (.invokevirtual 288, 3) := by decide +kernel
theorem dX6_canSwap_135 : decode cX6_canSwap 135 = .ok (.ifCond .ne 5, 3) := by decide +kernel
theorem dX6_canSwap_138 : decode cX6_canSwap 138 = .ok (.iconst 0, 1) := by decide +kernel
theorem dX6_canSwap_139 : decode cX6_canSwap 139 = .ok (.ireturn, 1) := by decide +kernel
theorem dX6_canSwap_140 : decode cX6_canSwap 140 = .ok (.aload_n 0, 1) := by decide +kernel
theorem dX6_canSwap_141 : decode cX6_canSwap 141 = .ok (.iload_n 3, 1) := by decide +kernel
theorem dX6_canSwap_142 : decode cX6_canSwap 142 = .ok (.aload_n 0, 1) := by decide +kernel
theorem dX6_canSwap_143 : decode cX6_canSwap 143 = .ok (.getfield 43, 3) := by decide +kernel
theorem dX6_canSwap_146 : decode cX6_canSwap 146 = .ok (.iload_n 3, 1) := by decide +kernel
theorem dX6_canSwap_147 : decode cX6_canSwap 147 = .ok (.iaload, 1) := by decide +kernel
theorem dX6_canSwap_148 : decode cX6_canSwap 148 = .ok (.iload_n 3, 1) := by decide +kernel
theorem dX6_canSwap_149 : decode cX6_canSwap 149 = .ok (.invokevirtual 291, 3) := by decide +kernel
theorem dX6_canSwap_152 : decode cX6_canSwap 152 = .ok (.iinc 3 1, 3) := by decide +kernel
theorem dX6_canSwap_155 : decode cX6_canSwap 155 = .ok (.goto (-99), 3) := by decide +kernel
theorem dX6_canSwap_158 : decode cX6_canSwap 158 = .ok (.aload_n 0, 1) := by decide +kernel
theorem dX6_canSwap_159 : decode cX6_canSwap 159 = .ok (.invokevirtual 272, 3) := by decide +kernel
theorem dX6_canSwap_162 : decode cX6_canSwap 162 = .ok (.ireturn, 1) := by decide +kernel
set_option maxRecDepth 20000 in
theorem ggX6_swap_X6_isTrader : GoodIn wsX6_swap wsX6_isTrader := goodIn_r _ [7, 2, 8, 9, 6, 10, 59, 60, 61, 62, 63, 64, 65, 66, 67, 68, 69, 70, 71, 72, 73, 74, 75, 76, 77, 78, 79, 80, 81, 82, 83, 84, 85, 86] (by decide +kernel) (by decide +kernel)
set_option maxRecDepth 20000 in
theorem gX6_swap_X6_isTrader : GoodIn wsX6_swap (wsV RX6 178 RX6 yX6_isTrader wsX6_isTrader) := goodIn_app (goodIn_of _ (by decide +kernel)) ggX6_swap_X6_isTrader
set_option maxRecDepth 20000 in
theorem ggX6_swap_X6_canSwap : GoodIn wsX6_swap wsX6_canSwap := goodIn_r _ [14, 2, 15, 16, 17, 18, 19, 6, 20, 21, 22, 23, 24, 25, 26, 27, 28, 29, 30, 31, 32, 33, 34, 35, 36, 37, 38, 39, 40, 41, 42, 43, 44, 45, 46, 47, 48, 59, 60, 61, 62, 63, 64, 65, 66, 67, 68, 69, 70, 71, 72, 73, 74, 75, 76, 77, 78, 79, 80, 81, 82, 83, 84, 85, 86] (by decide +kernel) (by decide +kernel)
set_option maxRecDepth 20000 in
theorem gX6_swap_X6_canSwap : GoodIn wsX6_swap (wsV RX6 295 RX6 yX6_canSwap wsX6_canSwap) := goodIn_app (goodIn_of _ (by decide +kernel)) ggX6_swap_X6_canSwap
set_option maxRecDepth 20000 in
theorem ggX6_swap_X6_keeps : GoodIn wsX6_swap wsX6_keeps := goodIn_r _ [52, 53, 54, 2, 59, 60, 61, 62, 63, 64, 65, 66, 67, 68, 69, 70, 71, 72, 73, 74, 75, 76, 77, 78, 79, 80, 81, 82, 83, 84, 85, 86] (by decide +kernel) (by decide +kernel)
set_option maxRecDepth 20000 in
theorem gX6_swap_X6_keeps : GoodIn wsX6_swap (wsV RX6 170 RX6 yX6_keeps wsX6_keeps) := goodIn_app (goodIn_of _ (by decide +kernel)) ggX6_swap_X6_keeps
set_option maxRecDepth 20000 in
theorem ggX6_swap_X6_incomeNow : GoodIn wsX6_swap wsX6_incomeNow := goodIn_r _ [58, 2, 25, 26, 27, 6, 28, 59, 60, 61, 62, 63, 64, 65, 66, 67, 68, 69, 70, 71, 72, 73, 74, 75, 76, 77, 78, 79, 80, 81, 82, 83, 84, 85, 86] (by decide +kernel) (by decide +kernel)
set_option maxRecDepth 20000 in
theorem gX6_swap_X6_incomeNow : GoodIn wsX6_swap (wsV RX6 234 RX6 yX6_incomeNow wsX6_incomeNow) := goodIn_app (goodIn_of _ (by decide +kernel)) ggX6_swap_X6_incomeNow
theorem dX6_swap_0 : decode cX6_swap 0 = .ok (.aload_n 0, 1) := by decide +kernel
theorem dX6_swap_1 : decode cX6_swap 1 = .ok (.aload_n 0, 1) := by decide +kernel
theorem dX6_swap_2 : decode cX6_swap 2 = .ok (.iload_n 1, 1) := by decide +kernel
theorem dX6_swap_3 : decode cX6_swap 3 = .ok (.invokevirtual 178, 3) := by decide +kernel
theorem dX6_swap_6 : decode cX6_swap 6 = .ok (.ifCond .eq 11, 3) := by decide +kernel
theorem dX6_swap_9 : decode cX6_swap 9 = .ok (.aload_n 0, 1) := by decide +kernel
theorem dX6_swap_10 : decode cX6_swap 10 = .ok (.iload_n 2, 1) := by decide +kernel
theorem dX6_swap_11 : decode cX6_swap 11 = .ok (.invokevirtual 178, 3) := by decide +kernel
theorem dX6_swap_14 : decode cX6_swap 14 = .ok (.ifCond .ne 7, 3) := by decide +kernel
theorem dX6_swap_17 : decode cX6_swap 17 = .ok (.iconst 1, 1) := by decide +kernel
theorem dX6_swap_18 : decode cX6_swap 18 = .ok (.goto 17, 3) := by decide +kernel
theorem dX6_swap_21 : decode cX6_swap 21 = .ok (.aload_n 0, 1) := by decide +kernel
theorem dX6_swap_22 : decode cX6_swap 22 = .ok (.iload_n 1, 1) := by decide +kernel
theorem dX6_swap_23 : decode cX6_swap 23 = .ok (.iload_n 2, 1) := by decide +kernel
theorem dX6_swap_24 : decode cX6_swap 24 = .ok (.invokevirtual 295, 3) := by decide +kernel
theorem dX6_swap_27 : decode cX6_swap 27 = .ok (.ifCond .ne 7, 3) := by decide +kernel
theorem dX6_swap_30 : decode cX6_swap 30 = .ok (.iconst 2, 1) := by decide +kernel
theorem dX6_swap_31 : decode cX6_swap 31 = .ok (.goto 4, 3) := by decide +kernel
theorem dX6_swap_34 : decode cX6_swap 34 = .ok (.iconst 0, 1) := by decide +kernel
theorem dX6_swap_35 : decode cX6_swap 35 = .ok (.putfield 58, 3) := by decide +kernel
theorem dX6_swap_38 : decode cX6_swap 38 = .ok (.aload_n 0, 1) := by decide +kernel
theorem dX6_swap_39 : decode cX6_swap 39 = .ok (.getfield 58, 3) := by decide +kernel
theorem dX6_swap_42 : decode cX6_swap 42 = .ok (.ifCond .le 5, 3) := by decide +kernel
theorem dX6_swap_45 : decode cX6_swap 45 = .ok (.iconst 0, 1) := by decide +kernel
theorem dX6_swap_46 : decode cX6_swap 46 = .ok (.ireturn, 1) := by decide +kernel
theorem dX6_swap_47 : decode cX6_swap 47 = .ok (.aload_n 0, 1) := by decide +kernel
theorem dX6_swap_48 : decode cX6_swap 48 = .ok (.invokevirtual 170, 3) := by decide +kernel
theorem dX6_swap_51 : decode cX6_swap 51 = .ok (.aload_n 0, 1) := by decide +kernel
theorem dX6_swap_52 : decode cX6_swap 52 = .ok (.getfield 7, 3) := by decide +kernel
theorem dX6_swap_55 : decode cX6_swap 55 = .ok (.bipush 107, 2) := by decide +kernel
theorem dX6_swap_57 : decode cX6_swap 57 = .ok (.iload_n 1, 1) := by decide +kernel
theorem dX6_swap_58 : decode cX6_swap 58 = .ok (.iadd, 1) := by decide +kernel
theorem dX6_swap_59 : decode cX6_swap 59 = .ok (.iaload, 1) := by decide +kernel
theorem dX6_swap_60 : decode cX6_swap 60 = .ok (.istore_n 3, 1) := by decide +kernel
theorem dX6_swap_61 : decode cX6_swap 61 = .ok (.aload_n 0, 1) := by decide +kernel
theorem dX6_swap_62 : decode cX6_swap 62 = .ok (.getfield 7, 3) := by decide +kernel
theorem dX6_swap_65 : decode cX6_swap 65 = .ok (.bipush 107, 2) := by decide +kernel
theorem dX6_swap_67 : decode cX6_swap 67 = .ok (.iload_n 1, 1) := by decide +kernel
theorem dX6_swap_68 : decode cX6_swap 68 = .ok (.iadd, 1) := by decide +kernel
theorem dX6_swap_69 : decode cX6_swap 69 = .ok (.aload_n 0, 1) := by decide +kernel
theorem dX6_swap_70 : decode cX6_swap 70 = .ok (.getfield 7, 3) := by decide +kernel
theorem dX6_swap_73 : decode cX6_swap 73 = .ok (.bipush 107, 2) := by decide +kernel
theorem dX6_swap_75 : decode cX6_swap 75 = .ok (.iload_n 2, 1) := by decide +kernel
theorem dX6_swap_76 : decode cX6_swap 76 = .ok (.iadd, 1) := by decide +kernel
theorem dX6_swap_77 : decode cX6_swap 77 = .ok (.iaload, 1) := by decide +kernel
theorem dX6_swap_78 : decode cX6_swap 78 = .ok (.iastore, 1) := by decide +kernel
theorem dX6_swap_79 : decode cX6_swap 79 = .ok (.aload_n 0, 1) := by decide +kernel
theorem dX6_swap_80 : decode cX6_swap 80 = .ok (.getfield 7, 3) := by decide +kernel
theorem dX6_swap_83 : decode cX6_swap 83 = .ok (.bipush 107, 2) := by decide +kernel
theorem dX6_swap_85 : decode cX6_swap 85 = .ok (.iload_n 2, 1) := by decide +kernel
theorem dX6_swap_86 : decode cX6_swap 86 = .ok (.iadd, 1) := by decide +kernel
theorem dX6_swap_87 : decode cX6_swap 87 = .ok (.iload_n 3, 1) := by decide +kernel
theorem dX6_swap_88 : decode cX6_swap 88 = .ok (.iastore, 1) := by decide +kernel
theorem dX6_swap_89 : decode cX6_swap 89 = .ok (.aload_n 0, 1) := by decide +kernel
theorem dX6_swap_90 : decode cX6_swap 90 = .ok (.invokevirtual 234, 3) := by decide +kernel
theorem dX6_swap_93 : decode cX6_swap 93 = .ok (.ireturn, 1) := by decide +kernel
set_option maxRecDepth 20000 in
theorem ggX6_seeks_X6_compares : GoodIn wsX6_seeks wsX6_compares := goodIn_r _ [9, 3, 4, 10, 11, 12, 13, 14, 15, 16, 17, 8, 18, 19, 20, 21, 22, 23, 24, 25, 26, 27, 28, 29, 30, 31, 32, 33, 34, 54, 55, 56, 57, 58, 59, 60, 61, 62, 63, 64, 65, 66, 67, 68, 69, 70, 71, 72, 73, 74, 75, 76, 77, 78, 79, 80, 81] (by decide +kernel) (by decide +kernel)
set_option maxRecDepth 20000 in
theorem gX6_seeks_X6_compares : GoodIn wsX6_seeks (wsV RX6 301 RX6 yX6_compares wsX6_compares) := goodIn_app (goodIn_of _ (by decide +kernel)) ggX6_seeks_X6_compares
set_option maxRecDepth 20000 in
theorem ggX6_seeks_X6_fits : GoodIn wsX6_seeks wsX6_fits := goodIn_r _ [38, 3, 39, 40, 41, 8, 42, 27, 28, 29, 30, 43, 44, 45, 46, 14, 54, 55, 56, 57, 58, 59, 60, 61, 62, 63, 64, 65, 66, 67, 68, 69, 70, 71, 72, 73, 74, 75, 76, 77, 78, 79, 80, 81] (by decide +kernel) (by decide +kernel)
set_option maxRecDepth 20000 in
theorem gX6_seeks_X6_fits : GoodIn wsX6_seeks (wsV RX6 288 RX6 yX6_fits wsX6_fits) := goodIn_app (goodIn_of _ (by decide +kernel)) ggX6_seeks_X6_fits
set_option maxRecDepth 20000 in
theorem ggX6_seeks_X6_lays : GoodIn wsX6_seeks wsX6_lays := goodIn_r _ [50, 3, 14, 54, 55, 56, 57, 58, 59, 60, 61, 62, 63, 64, 65, 66, 67, 68, 69, 70, 71, 72, 73, 74, 75, 76, 77, 78, 79, 80, 81] (by decide +kernel) (by decide +kernel)
set_option maxRecDepth 20000 in
theorem gX6_seeks_X6_lays : GoodIn wsX6_seeks (wsV RX6 291 RX6 yX6_lays wsX6_lays) := goodIn_app (goodIn_of _ (by decide +kernel)) ggX6_seeks_X6_lays
set_option maxRecDepth 20000 in
theorem ggX6_seeks_X6_seeks : GoodIn wsX6_seeks wsX6_seeks := goodIn_r _ [0, 1, 2, 3, 4, 5, 6, 7, 8, 9, 10, 11, 12, 13, 14, 15, 16, 17, 18, 19, 20, 21, 22, 23, 24, 25, 26, 27, 28, 29, 30, 31, 32, 33, 34, 35, 36, 37, 38, 39, 40, 41, 42, 43, 44, 45, 46, 47, 48, 49, 50, 51, 52, 53, 54, 55, 56, 57, 58, 59, 60, 61, 62, 63, 64, 65, 66, 67, 68, 69, 70, 71, 72, 73, 74, 75, 76, 77, 78, 79, 80, 81] (by decide +kernel) (by decide +kernel)
set_option maxRecDepth 20000 in
theorem gX6_seeks_X6_seeks : GoodIn wsX6_seeks (wsV RX6 304 RX6 yX6_seeks wsX6_seeks) := goodIn_app (goodIn_of _ (by decide +kernel)) ggX6_seeks_X6_seeks
theorem dX6_seeks_0 : decode cX6_seeks 0 = .ok (.iload_n 1, 1) := by decide +kernel
theorem dX6_seeks_1 : decode cX6_seeks 1 = .ok (.aload_n 0, 1) := by decide +kernel
theorem dX6_seeks_2 : decode cX6_seeks 2 = .ok (.getfield 298, 3) := by decide +kernel
theorem dX6_seeks_5 : decode cX6_seeks 5 = .ok (.if_icmp .ne 8, 3) := by decide +kernel
theorem dX6_seeks_8 : decode cX6_seeks 8 = .ok (.aload_n 0, 1) := by decide +kernel
theorem dX6_seeks_9 : decode cX6_seeks 9 = .ok (.invokevirtual 301, 3) := by decide +kernel
theorem dX6_seeks_12 : decode cX6_seeks 12 = .ok (.return_, 1) := by decide +kernel
theorem dX6_seeks_13 : decode cX6_seeks 13 = .ok (.aload_n 0, 1) := by decide +kernel
theorem dX6_seeks_14 : decode cX6_seeks 14 = .ok (.getfield 55, 3) := by decide +kernel
theorem dX6_seeks_17 : decode cX6_seeks 17 = .ok (.iload_n 1, 1) := by decide +kernel
theorem dX6_seeks_18 : decode cX6_seeks 18 = .ok (.iaload, 1) := by decide +kernel
theorem dX6_seeks_19 : decode cX6_seeks 19 = .ok (.istore_n 2, 1) := by decide +kernel
theorem dX6_seeks_20 : decode cX6_seeks 20 = .ok (.iconst 0, 1) := by decide +kernel
theorem dX6_seeks_21 : decode cX6_seeks 21 = .ok (.istore_n 3, 1) := by decide +kernel
theorem dX6_seeks_22 : decode cX6_seeks 22 = .ok (.iload_n 3, 1) := by decide +kernel
theorem dX6_seeks_23 : decode cX6_seeks 23 = .ok (.aload_n 0, 1) := by decide +kernel
theorem dX6_seeks_24 : decode cX6_seeks 24 = .ok (.getfield 7, 3) := by decide +kernel
theorem dX6_seeks_27 : decode cX6_seeks 27 = .ok (.iconst 1, 1) := by decide +kernel
theorem dX6_seeks_28 : decode cX6_seeks 28 = .ok (.iaload, 1) := by decide +kernel
theorem dX6_seeks_29 : decode cX6_seeks 29 = .ok (.if_icmp .ge 49, 3) := by decide +kernel
theorem dX6_seeks_32 : decode cX6_seeks 32 = .ok (.aload_n 0, 1) := by decide +kernel
theorem dX6_seeks_33 : decode cX6_seeks 33 = .ok (.iload_n 2, 1) := by decide +kernel
theorem dX6_seeks_34 : decode cX6_seeks 34 = .ok (.iload_n 3, 1) := by decide +kernel
theorem dX6_seeks_35 : decode cX6_seeks 35 = .ok (.invokevirtual 288, 3) := by decide +kernel
theorem dX6_seeks_38 : decode cX6_seeks 38 = .ok (.ifCond .ne 6, 3) := by decide +kernel
theorem dX6_seeks_41 : decode cX6_seeks 41 = .ok (.goto 31, 3) := by decide +kernel
theorem dX6_seeks_44 : decode cX6_seeks 44 = .ok (.aload_n 0, 1) := by decide +kernel
theorem dX6_seeks_45 : decode cX6_seeks 45 = .ok (.iload_n 2, 1) := by decide +kernel
theorem dX6_seeks_46 : decode cX6_seeks 46 = .ok (.iload_n 3, 1) := by decide +kernel
theorem dX6_seeks_47 : decode cX6_seeks 47 = .ok (.iload_n 2, 1) := by decide +kernel
theorem dX6_seeks_48 : decode cX6_seeks 48 = .ok (.invokevirtual 291, 3) := by decide +kernel
theorem dX6_seeks_51 : decode cX6_seeks 51 = .ok (.aload_n 0, 1) := by decide +kernel
theorem dX6_seeks_52 : decode cX6_seeks 52 = .ok (.getfield 43, 3) := by decide +kernel
theorem dX6_seeks_55 : decode cX6_seeks 55 = .ok (.iload_n 2, 1) := by decide +kernel
theorem dX6_seeks_56 : decode cX6_seeks 56 = .ok (.iload_n 3, 1) := by decide +kernel
theorem dX6_seeks_57 : decode cX6_seeks 57 = .ok (.iastore, 1) := by decide +kernel
theorem dX6_seeks_58 : decode cX6_seeks 58 = .ok (.aload_n 0, 1) := by decide +kernel
theorem dX6_seeks_59 : decode cX6_seeks 59 = .ok (.iload_n 1, 1) := by decide +kernel
theorem dX6_seeks_60 : decode cX6_seeks 60 = .ok (.iconst 1, 1) := by decide +kernel
theorem dX6_seeks_61 : decode cX6_seeks 61 = .ok (.iadd, 1) := by decide +kernel
theorem dX6_seeks_62 : decode cX6_seeks 62 = .ok (.invokevirtual 304, 3) := by decide +kernel
theorem dX6_seeks_65 : decode cX6_seeks 65 = .ok (.aload_n 0, 1) := by decide +kernel
theorem dX6_seeks_66 : decode cX6_seeks 66 = .ok (.iload_n 2, 1) := by decide +kernel
theorem dX6_seeks_67 : decode cX6_seeks 67 = .ok (.iload_n 3, 1) := by decide +kernel
theorem dX6_seeks_68 : decode cX6_seeks 68 = .ok (.iconst (-1), 1) := by decide +kernel
theorem dX6_seeks_69 : decode cX6_seeks 69 = .ok (.invokevirtual 291, 3) := by decide +kernel
theorem dX6_seeks_72 : decode cX6_seeks 72 = .ok (.iinc 3 1, 3) := by decide +kernel
theorem dX6_seeks_75 : decode cX6_seeks 75 = .ok (.goto (-53), 3) := by decide +kernel
theorem dX6_seeks_78 : decode cX6_seeks 78 = .ok (.return_, 1) := by decide +kernel
set_option maxRecDepth 20000 in
theorem ggX6_triesMoving_X6_lays : GoodIn wsX6_triesMoving wsX6_lays := goodIn_r _ [10, 3, 1, 55, 56, 57, 58, 59, 60, 61, 62, 63, 64, 65, 66, 67, 68, 69, 70, 71, 72, 73, 74, 75, 76, 77, 78, 79, 80, 81, 82] (by decide +kernel) (by decide +kernel)
set_option maxRecDepth 20000 in
theorem gX6_triesMoving_X6_lays : GoodIn wsX6_triesMoving (wsV RX6 291 RX6 yX6_lays wsX6_lays) := goodIn_app (goodIn_of _ (by decide +kernel)) ggX6_triesMoving_X6_lays
set_option maxRecDepth 20000 in
theorem ggX6_triesMoving_X6_seeks : GoodIn wsX6_triesMoving wsX6_seeks := goodIn_r _ [14, 4, 5, 3, 2, 15, 16, 17, 9, 18, 19, 20, 21, 22, 1, 23, 24, 25, 26, 27, 28, 29, 30, 31, 32, 33, 34, 35, 36, 37, 38, 39, 40, 41, 42, 43, 44, 45, 46, 47, 48, 49, 50, 51, 52, 53, 54, 6, 7, 8, 10, 11, 12, 13, 55, 56, 57, 58, 59, 60, 61, 62, 63, 64, 65, 66, 67, 68, 69, 70, 71, 72, 73, 74, 75, 76, 77, 78, 79, 80, 81, 82] (by decide +kernel) (by decide +kernel)
set_option maxRecDepth 20000 in
theorem gX6_triesMoving_X6_seeks : GoodIn wsX6_triesMoving (wsV RX6 304 RX6 yX6_seeks wsX6_seeks) := goodIn_app (goodIn_of _ (by decide +kernel)) ggX6_triesMoving_X6_seeks
theorem dX6_triesMoving_0 : decode cX6_triesMoving 0 = .ok (.iconst 0, 1) := by decide +kernel
theorem dX6_triesMoving_1 : decode cX6_triesMoving 1 = .ok (.istore_n 1, 1) := by decide +kernel
theorem dX6_triesMoving_2 : decode cX6_triesMoving 2 = .ok (.iload_n 1, 1) := by decide +kernel
theorem dX6_triesMoving_3 : decode cX6_triesMoving 3 = .ok (.bipush 24, 2) := by decide +kernel
theorem dX6_triesMoving_5 : decode cX6_triesMoving 5 = .ok (.if_icmp .ge 16, 3) := by decide +kernel
theorem dX6_triesMoving_8 : decode cX6_triesMoving 8 = .ok (.aload_n 0, 1) := by decide +kernel
theorem dX6_triesMoving_9 : decode cX6_triesMoving 9 = .ok (.getfield 46, 3) := by decide +kernel
theorem dX6_triesMoving_12 : decode cX6_triesMoving 12 = .ok (.iload_n 1, 1) := by decide +kernel
theorem dX6_triesMoving_13 : decode cX6_triesMoving 13 = .ok (.iconst (-1), 1) := by decide +kernel
theorem dX6_triesMoving_14 : decode cX6_triesMoving 14 = .ok (.iastore, 1) := by decide +kernel
theorem dX6_triesMoving_15 : decode cX6_triesMoving 15 = .ok (.iinc 1 1, 3) := by decide +kernel
theorem dX6_triesMoving_18 : decode cX6_triesMoving 18 = .ok (.goto (-16), 3) := by decide +kernel
theorem dX6_triesMoving_21 : decode cX6_triesMoving 21 = .ok (.iconst 0, 1) := by decide +kernel
theorem dX6_triesMoving_22 : decode cX6_triesMoving 22 = .ok (.istore_n 1, 1) := by decide +kernel
theorem dX6_triesMoving_23 : decode cX6_triesMoving 23 = .ok (.iload_n 1, 1) := by decide +kernel
theorem dX6_triesMoving_24 : decode cX6_triesMoving 24 = .ok (.bipush 8, 2) := by decide +kernel
theorem dX6_triesMoving_26 : decode cX6_triesMoving 26 = .ok (.if_icmp .ge 88, 3) := by decide +kernel
theorem dX6_triesMoving_29 : decode cX6_triesMoving 29 = .ok (.aload_n 0, 1) := by decide +kernel
theorem dX6_triesMoving_30 : decode cX6_triesMoving 30 = .ok (.getfield 43, 3) := by decide +kernel
theorem dX6_triesMoving_33 : decode cX6_triesMoving 33 = .ok (.iload_n 1, 1) := by decide +kernel
theorem dX6_triesMoving_34 : decode cX6_triesMoving 34 = .ok (.aload_n 0, 1) := by decide +kernel
theorem dX6_triesMoving_35 : decode cX6_triesMoving 35 = .ok (.getfield 7, 3) := by decide +kernel
theorem dX6_triesMoving_38 : decode cX6_triesMoving 38 = .ok (.bipush 107, 2) := by decide +kernel
theorem dX6_triesMoving_40 : decode cX6_triesMoving 40 = .ok (.iload_n 1, 1) := by decide +kernel
theorem dX6_triesMoving_41 : decode cX6_triesMoving 41 = .ok (.iadd, 1) := by decide +kernel
theorem dX6_triesMoving_42 : decode cX6_triesMoving 42 = .ok (.iaload, 1) := by decide +kernel
theorem dX6_triesMoving_43 : decode cX6_triesMoving 43 = .ok (.iastore, 1) := by decide +kernel
theorem dX6_triesMoving_44 : decode cX6_triesMoving 44 = .ok (.iconst 0, 1) := by decide +kernel
theorem dX6_triesMoving_45 : decode cX6_triesMoving 45 = .ok (.istore_n 2, 1) := by decide +kernel
theorem dX6_triesMoving_46 : decode cX6_triesMoving 46 = .ok (.iconst 0, 1) := by decide +kernel
theorem dX6_triesMoving_47 : decode cX6_triesMoving 47 = .ok (.istore_n 3, 1) := by decide +kernel
theorem dX6_triesMoving_48 : decode cX6_triesMoving 48 = .ok (.iload_n 3, 1) := by decide +kernel
theorem dX6_triesMoving_49 : decode cX6_triesMoving 49 = .ok (.aload_n 0, 1) := by decide +kernel
theorem dX6_triesMoving_50 : decode cX6_triesMoving 50 = .ok (.getfield 298, 3) := by decide +kernel
theorem dX6_triesMoving_53 : decode cX6_triesMoving 53 = .ok (.if_icmp .ge 29, 3) := by decide +kernel
theorem dX6_triesMoving_56 : decode cX6_triesMoving 56 = .ok (.iload_n 2, 1) := by decide +kernel
theorem dX6_triesMoving_57 : decode cX6_triesMoving 57 = .ok (.ifCond .ne 13, 3) := by decide +kernel
theorem dX6_triesMoving_60 : decode cX6_triesMoving 60 = .ok (.aload_n 0, 1) := by decide +kernel
theorem dX6_triesMoving_61 : decode cX6_triesMoving 61 = .ok (.getfield 55, 3) := by decide +kernel
theorem dX6_triesMoving_64 : decode cX6_triesMoving 64 = .ok (.iload_n 3, 1) := by decide +kernel
theorem dX6_triesMoving_65 : decode cX6_triesMoving 65 = .ok (.iaload, 1) := by decide +kernel
theorem dX6_triesMoving_66 : decode cX6_triesMoving 66 = .ok (.iload_n 1, 1) := by decide +kernel
theorem dX6_triesMoving_67 : decode cX6_triesMoving 67 = .ok (.if_icmp .ne 7, 3) := by decide +kernel
theorem dX6_triesMoving_70 : decode cX6_triesMoving 70 = .ok (.iconst 1, 1) := by decide +kernel
theorem dX6_triesMoving_71 : decode cX6_triesMoving 71 = .ok (.goto 4, 3) := by decide +kernel
theorem dX6_triesMoving_74 : decode cX6_triesMoving 74 = .ok (.iconst 0, 1) := by decide +kernel
theorem dX6_triesMoving_75 : decode cX6_triesMoving 75 = .ok (.istore_n 2, 1) := by decide +kernel
theorem dX6_triesMoving_76 : decode cX6_triesMoving 76 = .ok (.iinc 3 1, 3) := by decide +kernel
theorem dX6_triesMoving_79 : decode cX6_triesMoving 79 = .ok (.goto (-31), 3) := by decide +kernel
theorem dX6_triesMoving_82 : decode cX6_triesMoving 82 = .ok (.aload_n 0, 1) := by decide +kernel
theorem dX6_triesMoving_83 : decode cX6_triesMoving 83 = .ok (.getfield 43, 3) := by decide +kernel
theorem dX6_triesMoving_86 : decode cX6_triesMoving 86 = .ok (.iload_n 1, 1) := by decide +kernel
theorem dX6_triesMoving_87 : decode cX6_triesMoving 87 = .ok (.iaload, 1) := by decide +kernel
theorem dX6_triesMoving_88 : decode cX6_triesMoving 88 = .ok (.iconst (-1), 1) := by decide +kernel
theorem dX6_triesMoving_89 : decode cX6_triesMoving 89 = .ok (.if_icmp .eq 19, 3) := by decide +kernel
theorem dX6_triesMoving_92 : decode cX6_triesMoving 92 = .ok (.iload_n 2, 1) := by decide +kernel
theorem dX6_triesMoving_93 : decode cX6_triesMoving 93 = .ok (.ifCond .ne 15, 3) := by decide +kernel
theorem dX6_triesMoving_96 : decode cX6_triesMoving 96 = .ok (.aload_n 0, 1) := by decide +kernel
theorem dX6_triesMoving_97 : decode cX6_triesMoving 97 = .ok (.iload_n 1, 1) := by decide +kernel
theorem dX6_triesMoving_98 : decode cX6_triesMoving 98 = .ok (.aload_n 0, 1) := by decide +kernel
theorem dX6_triesMoving_99 : decode cX6_triesMoving 99 = .ok (.getfield 43, 3) := by decide +kernel
theorem dX6_triesMoving_102 : decode cX6_triesMoving 102 = .ok (.iload_n 1, 1) := by decide +kernel
theorem dX6_triesMoving_103 : decode cX6_triesMoving 103 = .ok (.iaload, 1) := by decide +kernel
theorem dX6_triesMoving_104 : decode cX6_triesMoving 104 = .ok (.iload_n 1, 1) := by decide +kernel
theorem dX6_triesMoving_105 : decode cX6_triesMoving 105 = .ok (.invokevirtual 291, 3) := by decide +kernel
theorem dX6_triesMoving_108 : decode cX6_triesMoving 108 = .ok (.iinc 1 1, 3) := by decide +kernel
theorem dX6_triesMoving_111 : decode cX6_triesMoving 111 = .ok (.goto (-88), 3) := by decide +kernel
theorem dX6_triesMoving_114 : decode cX6_triesMoving 114 = .ok (.aload_n 0, 1) := by decide +kernel
theorem dX6_triesMoving_115 : decode cX6_triesMoving 115 = .ok (.iconst 0, 1) := by decide +kernel
theorem dX6_triesMoving_116 : decode cX6_triesMoving 116 = .ok (.invokevirtual 304, 3) := by decide +kernel
theorem dX6_triesMoving_119 : decode cX6_triesMoving 119 = .ok (.return_, 1) := by decide +kernel
set_option maxRecDepth 20000 in
theorem ggX6_seeksInsertion_X6_triesMoving : GoodIn wsX6_seeksInsertion wsX6_triesMoving := goodIn_r _ [10, 11, 12, 5, 4, 3, 13, 14, 15, 9, 16, 17, 18, 19, 20, 21, 22, 23, 24, 1, 2, 25, 26, 27, 28, 29, 30, 31, 32, 33, 34, 35, 36, 37, 38, 39, 40, 41, 42, 43, 44, 45, 46, 47, 48, 49, 50, 51, 52, 53, 54, 55, 56, 57, 58, 59, 60, 61, 62, 63, 64, 65, 66, 67, 68, 69, 70, 71, 72, 73, 74, 75, 76, 77, 78, 79, 80, 81, 82, 83, 84, 85, 86] (by decide +kernel) (by decide +kernel)
set_option maxRecDepth 20000 in
theorem gX6_seeksInsertion_X6_triesMoving : GoodIn wsX6_seeksInsertion (wsV RX6 307 RX6 yX6_triesMoving wsX6_triesMoving) := goodIn_app (goodIn_of _ (by decide +kernel)) ggX6_seeksInsertion_X6_triesMoving
theorem dX6_seeksInsertion_0 : decode cX6_seeksInsertion 0 = .ok (.aload_n 0, 1) := by decide +kernel
theorem dX6_seeksInsertion_1 : decode cX6_seeksInsertion 1 = .ok (.iconst (-1), 1) := by decide +kernel
theorem dX6_seeksInsertion_2 : decode cX6_seeksInsertion 2 = .ok (.putfield 276, 3) := by decide +kernel
theorem dX6_seeksInsertion_5 : decode cX6_seeksInsertion 5 = .ok (.aload_n 0, 1) := by decide +kernel
theorem dX6_seeksInsertion_6 : decode cX6_seeksInsertion 6 = .ok (.iconst 0, 1) := by decide +kernel
theorem dX6_seeksInsertion_7 : decode cX6_seeksInsertion 7 = .ok (.putfield 279, 3) := by decide +kernel
theorem dX6_seeksInsertion_10 : decode cX6_seeksInsertion 10 = .ok (.aload_n 0, 1) := by decide +kernel
theorem dX6_seeksInsertion_11 : decode cX6_seeksInsertion 11 = .ok (.getfield 55, 3) := by decide +kernel
theorem dX6_seeksInsertion_14 : decode cX6_seeksInsertion 14 = .ok (.iconst 0, 1) := by decide +kernel
theorem dX6_seeksInsertion_15 : decode cX6_seeksInsertion 15 = .ok (.iload_n 1, 1) := by decide +kernel
theorem dX6_seeksInsertion_16 : decode cX6_seeksInsertion 16 = .ok (.iastore, 1) := by decide +kernel
theorem dX6_seeksInsertion_17 : decode cX6_seeksInsertion 17 = .ok (.aload_n 0, 1) := by decide +kernel
theorem dX6_seeksInsertion_18 : decode cX6_seeksInsertion 18 = .ok (.iconst 1, 1) := by decide +kernel
theorem dX6_seeksInsertion_19 : decode cX6_seeksInsertion 19 = .ok (.putfield 298, 3) := by decide +kernel
theorem dX6_seeksInsertion_22 : decode cX6_seeksInsertion 22 = .ok (.aload_n 0, 1) := by decide +kernel
theorem dX6_seeksInsertion_23 : decode cX6_seeksInsertion 23 = .ok (.invokevirtual 307, 3) := by decide +kernel
theorem dX6_seeksInsertion_26 : decode cX6_seeksInsertion 26 = .ok (.iconst 0, 1) := by decide +kernel
theorem dX6_seeksInsertion_27 : decode cX6_seeksInsertion 27 = .ok (.istore_n 3, 1) := by decide +kernel
theorem dX6_seeksInsertion_28 : decode cX6_seeksInsertion 28 = .ok (.iload_n 3, 1) := by decide +kernel
theorem dX6_seeksInsertion_29 : decode cX6_seeksInsertion 29 = .ok (.aload_n 0, 1) := by decide +kernel
theorem dX6_seeksInsertion_30 : decode cX6_seeksInsertion 30 = .ok (.getfield 7, 3) := by decide +kernel
theorem dX6_seeksInsertion_33 : decode cX6_seeksInsertion 33 = .ok (.bipush 74, 2) := by decide +kernel
theorem dX6_seeksInsertion_35 : decode cX6_seeksInsertion 35 = .ok (.iaload, 1) := by decide +kernel
theorem dX6_seeksInsertion_36 : decode cX6_seeksInsertion 36 = .ok (.if_icmp .ge 107, 3) := by decide +kernel
theorem dX6_seeksInsertion_39 : decode cX6_seeksInsertion 39 = .ok (.iload_n 2, 1) := by decide +kernel
theorem dX6_seeksInsertion_40 : decode cX6_seeksInsertion 40 = .ok (.ifCond .le 103, 3) := by decide +kernel
theorem dX6_seeksInsertion_43 : decode cX6_seeksInsertion 43 = .ok (.aload_n 0, 1) := by decide +kernel
theorem dX6_seeksInsertion_44 : decode cX6_seeksInsertion 44 = .ok (.getfield 7, 3) := by decide +kernel
theorem dX6_seeksInsertion_47 : decode cX6_seeksInsertion 47 = .ok (.bipush 107, 2) := by decide +kernel
theorem dX6_seeksInsertion_49 : decode cX6_seeksInsertion 49 = .ok (.iload_n 3, 1) := by decide +kernel
theorem dX6_seeksInsertion_50 : decode cX6_seeksInsertion 50 = .ok (.iadd, 1) := by decide +kernel
theorem dX6_seeksInsertion_51 : decode cX6_seeksInsertion 51 = .ok (.iaload, 1) := by decide +kernel
theorem dX6_seeksInsertion_52 : decode cX6_seeksInsertion 52 = .ok (.iconst (-1), 1) := by decide +kernel
theorem dX6_seeksInsertion_53 : decode cX6_seeksInsertion 53 = .ok (.if_icmp .ne 6, 3) := by decide +kernel
theorem dX6_seeksInsertion_56 : decode cX6_seeksInsertion 56 = .ok (.goto 81, 3) := by decide +kernel
theorem dX6_seeksInsertion_59 : decode cX6_seeksInsertion 59 = .ok (.aload_n 0, 1) := by decide +kernel
theorem dX6_seeksInsertion_60 : decode cX6_seeksInsertion 60 = .ok (.getfield 55, 3) := by decide +kernel
theorem dX6_seeksInsertion_63 : decode cX6_seeksInsertion 63 = .ok (.iconst 1, 1) := by decide +kernel
theorem dX6_seeksInsertion_64 : decode cX6_seeksInsertion 64 = .ok (.iload_n 3, 1) := by decide +kernel
theorem dX6_seeksInsertion_65 : decode cX6_seeksInsertion 65 = .ok (.iastore, 1) := by decide +kernel
theorem dX6_seeksInsertion_66 : decode cX6_seeksInsertion 66 = .ok (.aload_n 0, 1) := by decide +kernel
theorem dX6_seeksInsertion_67 : decode cX6_seeksInsertion 67 = .ok (.iconst 2, 1) := by decide +kernel
theorem dX6_seeksInsertion_68 : decode cX6_seeksInsertion 68 = .ok (.putfield 298, 3) := by decide +kernel
theorem dX6_seeksInsertion_71 : decode cX6_seeksInsertion 71 = .ok (.aload_n 0, 1) := by decide +kernel
theorem dX6_seeksInsertion_72 : decode cX6_seeksInsertion 72 = .ok (.invokevirtual 307, 3) := by decide +kernel
theorem dX6_seeksInsertion_75 : decode cX6_seeksInsertion 75 = .ok (.iload_n 3, 1) := by decide +kernel
theorem dX6_seeksInsertion_76 : decode cX6_seeksInsertion 76 = .ok (.iconst 1, 1) := by decide +kernel
theorem dX6_seeksInsertion_77 : decode cX6_seeksInsertion 77 = .ok (.iadd, 1) := by decide +kernel
theorem dX6_seeksInsertion_78 : decode cX6_seeksInsertion 78 = .ok (.istore 4, 2) := by decide +kernel
theorem dX6_seeksInsertion_80 : decode cX6_seeksInsertion 80 = .ok (.iload 4, 2) := by decide +kernel
theorem dX6_seeksInsertion_82 : decode cX6_seeksInsertion 82 = .ok (.aload_n 0, 1) := by decide +kernel
theorem dX6_seeksInsertion_83 : decode cX6_seeksInsertion 83 = .ok (.getfield 7, 3) := by decide +kernel
theorem dX6_seeksInsertion_86 : decode cX6_seeksInsertion 86 = .ok (.bipush 74, 2) := by decide +kernel
theorem dX6_seeksInsertion_88 : decode cX6_seeksInsertion 88 = .ok (.iaload, 1) := by decide +kernel
theorem dX6_seeksInsertion_89 : decode cX6_seeksInsertion 89 = .ok (.if_icmp .ge 48, 3) := by decide +kernel
theorem dX6_seeksInsertion_92 : decode cX6_seeksInsertion 92 = .ok (.iload_n 2, 1) := by decide +kernel
theorem dX6_seeksInsertion_93 : decode cX6_seeksInsertion 93 = .ok (.iconst 1, 1) := by decide +kernel
theorem dX6_seeksInsertion_94 : decode cX6_seeksInsertion 94 = .ok (.if_icmp .le 43, 3) := by decide +kernel
theorem dX6_seeksInsertion_97 : decode cX6_seeksInsertion 97 = .ok (.aload_n 0, 1) := by decide +kernel
theorem dX6_seeksInsertion_98 : decode cX6_seeksInsertion 98 = .ok (.getfield 7, 3) := by decide +kernel
theorem dX6_seeksInsertion_101 : decode cX6_seeksInsertion 101 = .ok (.bipush 107, 2) := by decide +kernel
theorem dX6_seeksInsertion_103 : decode cX6_seeksInsertion 103 = .ok (.iload 4, 2) := by decide +kernel
theorem dX6_seeksInsertion_105 : decode cX6_seeksInsertion 105 = .ok (.iadd, 1) := by decide +kernel
theorem dX6_seeksInsertion_106 : decode cX6_seeksInsertion 106 = .ok (.iaload, 1) := by decide +kernel
theorem dX6_seeksInsertion_107 : decode cX6_seeksInsertion 107 = .ok (.iconst (-1), 1) := by decide +kernel
theorem dX6_seeksInsertion_108 : decode cX6_seeksInsertion 108 = .ok (.if_icmp .ne 6, 3) := by decide +kernel
theorem dX6_seeksInsertion_111 : decode cX6_seeksInsertion 111 = .ok (.goto 20, 3) := by decide +kernel
theorem dX6_seeksInsertion_114 : decode cX6_seeksInsertion 114 = .ok (.aload_n 0, 1) := by decide +kernel
theorem dX6_seeksInsertion_115 : decode cX6_seeksInsertion 115 = .ok (.getfield 55, 3) := by decide +kernel
theorem dX6_seeksInsertion_118 : decode cX6_seeksInsertion 118 = .ok (.iconst 2, 1) := by decide +kernel
theorem dX6_seeksInsertion_119 : decode cX6_seeksInsertion 119 = .ok (.iload 4, 2) := by decide +kernel
theorem dX6_seeksInsertion_121 : decode cX6_seeksInsertion 121 = .ok (.iastore, 1) := by decide +kernel
theorem dX6_seeksInsertion_122 : decode cX6_seeksInsertion 122 = .ok (.aload_n 0, 1) := by decide +kernel
theorem dX6_seeksInsertion_123 : decode cX6_seeksInsertion 123 = .ok (.iconst 3, 1) := by decide +kernel
theorem dX6_seeksInsertion_124 : decode cX6_seeksInsertion 124 = .ok (.putfield 298, 3) := by decide +kernel
theorem dX6_seeksInsertion_127 : decode cX6_seeksInsertion 127 = .ok (.aload_n 0, 1) := by decide +kernel
theorem dX6_seeksInsertion_128 : decode cX6_seeksInsertion 128 = .ok (.invokevirtual 307, 3) := by decide +kernel
theorem dX6_seeksInsertion_131 : decode cX6_seeksInsertion 131 = .ok (.iinc 4 1, 3) := by decide +kernel
theorem dX6_seeksInsertion_134 : decode cX6_seeksInsertion 134 = .ok (.goto (-54), 3) := by decide +kernel
theorem dX6_seeksInsertion_137 : decode cX6_seeksInsertion 137 = .ok (.iinc 3 1, 3) := by decide +kernel
theorem dX6_seeksInsertion_140 : decode cX6_seeksInsertion 140 = .ok (.goto (-112), 3) := by decide +kernel
theorem dX6_seeksInsertion_143 : decode cX6_seeksInsertion 143 = .ok (.return_, 1) := by decide +kernel
set_option maxRecDepth 20000 in
theorem ggX6_refusesInsertion_X6_isTrader : GoodIn wsX6_refusesInsertion wsX6_isTrader := goodIn_r _ [7, 2, 8, 9, 6, 10, 11, 12, 13, 14, 15, 16, 17, 18, 19, 20, 21, 22, 23, 24, 25, 26, 27, 28, 29, 30, 31, 32, 33, 34, 35, 36, 37, 38] (by decide +kernel) (by decide +kernel)
set_option maxRecDepth 20000 in
theorem gX6_refusesInsertion_X6_isTrader : GoodIn wsX6_refusesInsertion (wsV RX6 178 RX6 yX6_isTrader wsX6_isTrader) := goodIn_app (goodIn_of _ (by decide +kernel)) ggX6_refusesInsertion_X6_isTrader
set_option maxRecDepth 20000 in
theorem ggX6_refusesInsertion_X6_isIn : GoodIn wsX6_refusesInsertion wsX6_isIn := goodIn_r _ [10] (by decide +kernel) (by decide +kernel)
set_option maxRecDepth 20000 in
theorem gX6_refusesInsertion_X6_isIn : GoodIn wsX6_refusesInsertion (va_wsS RX6 74 yX6_isIn wsX6_isIn) := goodIn_app (goodIn_of _ (by decide +kernel)) ggX6_refusesInsertion_X6_isIn
theorem dX6_refusesInsertion_0 : decode cX6_refusesInsertion 0 = .ok (.aload_n 0, 1) := by decide +kernel
theorem dX6_refusesInsertion_1 : decode cX6_refusesInsertion 1 = .ok (.iload_n 1, 1) := by decide +kernel
theorem dX6_refusesInsertion_2 : decode cX6_refusesInsertion 2 = .ok (.invokevirtual 178, 3) := by decide +kernel
theorem dX6_refusesInsertion_5 : decode cX6_refusesInsertion 5 = .ok (.ifCond .ne 7, 3) := by decide +kernel
theorem dX6_refusesInsertion_8 : decode cX6_refusesInsertion 8 = .ok (.iconst 1, 1) := by decide +kernel
theorem dX6_refusesInsertion_9 : decode cX6_refusesInsertion 9 = .ok (.goto 37, 3) := by decide +kernel
theorem dX6_refusesInsertion_12 : decode cX6_refusesInsertion 12 = .ok (.iload_n 2, 1) := by decide +kernel
theorem dX6_refusesInsertion_13 : decode cX6_refusesInsertion 13 = .ok (.i2l, 1) := by decide +kernel
theorem dX6_refusesInsertion_14 : decode cX6_refusesInsertion 14 = .ok (.lconst 0, 1) := by decide +kernel
theorem dX6_refusesInsertion_15 : decode cX6_refusesInsertion 15 = .ok (.ldc2_w 310, 3) := by decide +kernel
theorem dX6_refusesInsertion_18 : decode cX6_refusesInsertion 18 = .ok (.invokestatic 74, 3) := by decide +kernel
theorem dX6_refusesInsertion_21 : decode cX6_refusesInsertion 21 = .ok (.ifCond .ne 7, 3) := by decide +kernel
theorem dX6_refusesInsertion_24 : decode cX6_refusesInsertion 24 = .ok (.iconst 2, 1) := by decide +kernel
theorem dX6_refusesInsertion_25 : decode cX6_refusesInsertion 25 = .ok (.goto 21, 3) := by decide +kernel
theorem dX6_refusesInsertion_28 : decode cX6_refusesInsertion 28 = .ok (.aload_n 0, 1) := by decide +kernel
theorem dX6_refusesInsertion_29 : decode cX6_refusesInsertion 29 = .ok (.getfield 7, 3) := by decide +kernel
theorem dX6_refusesInsertion_32 : decode cX6_refusesInsertion 32 = .ok (.bipush 107, 2) := by decide +kernel
theorem dX6_refusesInsertion_34 : decode cX6_refusesInsertion 34 = .ok (.iload_n 1, 1) := by decide +kernel
theorem dX6_refusesInsertion_35 : decode cX6_refusesInsertion 35 = .ok (.iadd, 1) := by decide +kernel
theorem dX6_refusesInsertion_36 : decode cX6_refusesInsertion 36 = .ok (.iaload, 1) := by decide +kernel
theorem dX6_refusesInsertion_37 : decode cX6_refusesInsertion 37 = .ok (.iconst (-1), 1) := by decide +kernel
theorem dX6_refusesInsertion_38 : decode cX6_refusesInsertion 38 = .ok (.if_icmp .eq 7, 3) := by decide +kernel
theorem dX6_refusesInsertion_41 : decode cX6_refusesInsertion 41 = .ok (.iconst 3, 1) := by decide +kernel
theorem dX6_refusesInsertion_42 : decode cX6_refusesInsertion 42 = .ok (.goto 4, 3) := by decide +kernel
theorem dX6_refusesInsertion_45 : decode cX6_refusesInsertion 45 = .ok (.iconst 0, 1) := by decide +kernel
theorem dX6_refusesInsertion_46 : decode cX6_refusesInsertion 46 = .ok (.ireturn, 1) := by decide +kernel
set_option maxRecDepth 20000 in
theorem ggX6_insertionIncome_X6_refusesInsertion : GoodIn wsX6_insertionIncome wsX6_refusesInsertion := goodIn_r _ [7, 8, 9, 10, 11, 12, 6, 13, 14, 15, 16, 76, 77, 78, 79, 80, 81, 82, 83, 84, 85, 86, 87, 88, 89, 90, 91, 92, 93, 94, 95, 96, 97, 98, 99, 100, 101, 102, 103] (by decide +kernel) (by decide +kernel)
set_option maxRecDepth 20000 in
theorem gX6_insertionIncome_X6_refusesInsertion : GoodIn wsX6_insertionIncome (wsV RX6 312 RX6 yX6_refusesInsertion wsX6_refusesInsertion) := goodIn_app (goodIn_of _ (by decide +kernel)) ggX6_insertionIncome_X6_refusesInsertion
set_option maxRecDepth 20000 in
theorem ggX6_insertionIncome_X6_seeksInsertion : GoodIn wsX6_insertionIncome wsX6_seeksInsertion := goodIn_r _ [20, 2, 21, 22, 23, 9, 24, 25, 26, 6, 27, 28, 29, 30, 31, 32, 33, 34, 35, 36, 37, 38, 39, 40, 41, 42, 43, 44, 45, 46, 47, 48, 49, 50, 51, 52, 53, 54, 55, 56, 57, 58, 59, 60, 61, 62, 63, 64, 65, 66, 67, 68, 69, 70, 71, 72, 73, 74, 75, 76, 77, 78, 79, 80, 81, 82, 83, 84, 85, 86, 87, 88, 89, 90, 91, 92, 93, 94, 95, 96, 97, 98, 99, 100, 101, 102, 103] (by decide +kernel) (by decide +kernel)
set_option maxRecDepth 20000 in
theorem gX6_insertionIncome_X6_seeksInsertion : GoodIn wsX6_insertionIncome (wsV RX6 315 RX6 yX6_seeksInsertion wsX6_seeksInsertion) := goodIn_app (goodIn_of _ (by decide +kernel)) ggX6_insertionIncome_X6_seeksInsertion
theorem dX6_insertionIncome_0 : decode cX6_insertionIncome 0 = .ok (.aload_n 0, 1) := by decide +kernel
theorem dX6_insertionIncome_1 : decode cX6_insertionIncome 1 = .ok (.aload_n 0, 1) := by decide +kernel
theorem dX6_insertionIncome_2 : decode cX6_insertionIncome 2 = .ok (.iload_n 1, 1) := by decide +kernel
theorem dX6_insertionIncome_3 : decode cX6_insertionIncome 3 = .ok (.iload_n 2, 1) := by decide +kernel
theorem dX6_insertionIncome_4 : decode cX6_insertionIncome 4 = .ok (.invokevirtual 312, 3) := by decide +kernel
theorem dX6_insertionIncome_7 : decode cX6_insertionIncome 7 = .ok (.putfield 58, 3) := by decide +kernel
theorem dX6_insertionIncome_10 : decode cX6_insertionIncome 10 = .ok (.aload_n 0, 1) := by decide +kernel
theorem dX6_insertionIncome_11 : decode cX6_insertionIncome 11 = .ok (.getfield 58, 3) := by decide +kernel
theorem dX6_insertionIncome_14 : decode cX6_insertionIncome 14 = .ok (.ifCond .le 5, 3) := by decide +kernel
theorem dX6_insertionIncome_17 : decode cX6_insertionIncome 17 = .ok (.iconst 0, 1) := by decide +kernel
theorem dX6_insertionIncome_18 : decode cX6_insertionIncome 18 = .ok (.ireturn, 1) := by decide +kernel
theorem dX6_insertionIncome_19 : decode cX6_insertionIncome 19 = .ok (.aload_n 0, 1) := by decide +kernel
theorem dX6_insertionIncome_20 : decode cX6_insertionIncome 20 = .ok (.iload_n 1, 1) := by decide +kernel
theorem dX6_insertionIncome_21 : decode cX6_insertionIncome 21 = .ok (.iload_n 2, 1) := by decide +kernel
theorem dX6_insertionIncome_22 : decode cX6_insertionIncome 22 = .ok (.invokevirtual 315, 3) := by decide +kernel
theorem dX6_insertionIncome_25 : decode cX6_insertionIncome 25 = .ok (.aload_n 0, 1) := by decide +kernel
theorem dX6_insertionIncome_26 : decode cX6_insertionIncome 26 = .ok (.getfield 276, 3) := by decide +kernel
theorem dX6_insertionIncome_29 : decode cX6_insertionIncome 29 = .ok (.ireturn, 1) := by decide +kernel
set_option maxRecDepth 20000 in
theorem ggX6_insert_X6_refusesInsertion : GoodIn wsX6_insert wsX6_refusesInsertion := goodIn_r _ [10, 11, 3, 12, 13, 14, 9, 15, 16, 17, 18, 82, 83, 84, 85, 86, 87, 88, 89, 90, 91, 92, 93, 94, 95, 96, 97, 98, 99, 100, 101, 102, 103, 104, 105, 106, 107, 108, 109] (by decide +kernel) (by decide +kernel)
set_option maxRecDepth 20000 in
theorem gX6_insert_X6_refusesInsertion : GoodIn wsX6_insert (wsV RX6 312 RX6 yX6_refusesInsertion wsX6_refusesInsertion) := goodIn_app (goodIn_of _ (by decide +kernel)) ggX6_insert_X6_refusesInsertion
set_option maxRecDepth 20000 in
theorem ggX6_insert_X6_seeksInsertion : GoodIn wsX6_insert wsX6_seeksInsertion := goodIn_r _ [22, 2, 5, 23, 24, 3, 25, 26, 27, 9, 28, 29, 30, 31, 32, 33, 34, 35, 36, 37, 38, 39, 40, 41, 42, 4, 43, 44, 45, 46, 47, 48, 49, 50, 51, 52, 53, 54, 55, 56, 57, 58, 59, 60, 61, 62, 63, 64, 65, 66, 67, 68, 69, 70, 71, 72, 73, 74, 75, 82, 83, 84, 85, 86, 87, 88, 89, 90, 91, 92, 93, 94, 95, 96, 97, 98, 99, 100, 101, 102, 103, 104, 105, 106, 107, 108, 109] (by decide +kernel) (by decide +kernel)
set_option maxRecDepth 20000 in
theorem gX6_insert_X6_seeksInsertion : GoodIn wsX6_insert (wsV RX6 315 RX6 yX6_seeksInsertion wsX6_seeksInsertion) := goodIn_app (goodIn_of _ (by decide +kernel)) ggX6_insert_X6_seeksInsertion
set_option maxRecDepth 20000 in
theorem ggX6_insert_X6_keeps : GoodIn wsX6_insert wsX6_keeps := goodIn_r _ [79, 80, 81, 3, 82, 83, 84, 85, 86, 87, 88, 89, 90, 91, 92, 93, 94, 95, 96, 97, 98, 99, 100, 101, 102, 103, 104, 105, 106, 107, 108, 109] (by decide +kernel) (by decide +kernel)
set_option maxRecDepth 20000 in
theorem gX6_insert_X6_keeps : GoodIn wsX6_insert (wsV RX6 170 RX6 yX6_keeps wsX6_keeps) := goodIn_app (goodIn_of _ (by decide +kernel)) ggX6_insert_X6_keeps
theorem dX6_insert_0 : decode cX6_insert 0 = .ok (.aload_n 0, 1) := by decide +kernel
theorem dX6_insert_1 : decode cX6_insert 1 = .ok (.aload_n 0, 1) := by decide +kernel
theorem dX6_insert_2 : decode cX6_insert 2 = .ok (.iload_n 1, 1) := by decide +kernel
theorem dX6_insert_3 : decode cX6_insert 3 = .ok (.iload_n 2, 1) := by decide +kernel
theorem dX6_insert_4 : decode cX6_insert 4 = .ok (.invokevirtual 312, 3) := by decide +kernel
theorem dX6_insert_7 : decode cX6_insert 7 = .ok (.putfield 58, 3) := by decide +kernel
theorem dX6_insert_10 : decode cX6_insert 10 = .ok (.aload_n 0, 1) := by decide +kernel
theorem dX6_insert_11 : decode cX6_insert 11 = .ok (.getfield 58, 3) := by decide +kernel
theorem dX6_insert_14 : decode cX6_insert 14 = .ok (.ifCond .le 5, 3) := by decide +kernel
theorem dX6_insert_17 : decode cX6_insert 17 = .ok (.iconst 0, 1) := by decide +kernel
theorem dX6_insert_18 : decode cX6_insert 18 = .ok (.ireturn, 1) := by decide +kernel
theorem dX6_insert_19 : decode cX6_insert 19 = .ok (.aload_n 0, 1) := by decide +kernel
theorem dX6_insert_20 : decode cX6_insert 20 = .ok (.iload_n 1, 1) := by decide +kernel
theorem dX6_insert_21 : decode cX6_insert 21 = .ok (.iload_n 2, 1) := by decide +kernel
theorem dX6_insert_22 : decode cX6_insert 22 = .ok (.invokevirtual 315, 3) := by decide +kernel
theorem dX6_insert_25 : decode cX6_insert 25 = .ok (.aload_n 0, 1) := by decide +kernel
theorem dX6_insert_26 : decode cX6_insert 26 = .ok (.aload_n 0, 1) := by decide +kernel
theorem dX6_insert_27 : decode cX6_insert 27 = .ok (.getfield 276, 3) := by decide +kernel
theorem dX6_insert_30 : decode cX6_insert 30 = .ok (.iconst (-1), 1) := by decide +kernel
theorem dX6_insert_31 : decode cX6_insert 31 = .ok (.if_icmp .ne 7, 3) := by decide +kernel
theorem dX6_insert_34 : decode cX6_insert 34 = .ok (.iconst 3, 1) := by decide +kernel
theorem dX6_insert_35 : decode cX6_insert 35 = .ok (.goto 4, 3) := by decide +kernel
theorem dX6_insert_38 : decode cX6_insert 38 = .ok (.iconst 0, 1) := by decide +kernel
theorem dX6_insert_39 : decode cX6_insert 39 = .ok (.putfield 58, 3) := by decide +kernel
theorem dX6_insert_42 : decode cX6_insert 42 = .ok (.aload_n 0, 1) := by decide +kernel
theorem dX6_insert_43 : decode cX6_insert 43 = .ok (.getfield 58, 3) := by decide +kernel
theorem dX6_insert_46 : decode cX6_insert 46 = .ok (.ifCond .le 5, 3) := by decide +kernel
theorem dX6_insert_49 : decode cX6_insert 49 = .ok (.iconst 0, 1) := by decide +kernel
theorem dX6_insert_50 : decode cX6_insert 50 = .ok (.ireturn, 1) := by decide +kernel
theorem dX6_insert_51 : decode cX6_insert 51 = .ok (.aload_n 0, 1) := by decide +kernel
theorem dX6_insert_52 : decode cX6_insert 52 = .ok (.invokevirtual 170, 3) := by decide +kernel
theorem dX6_insert_55 : decode cX6_insert 55 = .ok (.iconst 0, 1) := by decide +kernel
theorem dX6_insert_56 : decode cX6_insert 56 = .ok (.istore_n 3, 1) := by decide +kernel
theorem dX6_insert_57 : decode cX6_insert 57 = .ok (.iload_n 3, 1) := by decide +kernel
theorem dX6_insert_58 : decode cX6_insert 58 = .ok (.bipush 8, 2) := by decide +kernel
theorem dX6_insert_60 : decode cX6_insert 60 = .ok (.if_icmp .ge 24, 3) := by decide +kernel
theorem dX6_insert_63 : decode cX6_insert 63 = .ok (.aload_n 0, 1) := by decide +kernel
theorem dX6_insert_64 : decode cX6_insert 64 = .ok (.getfield 7, 3) := by decide +kernel
theorem dX6_insert_67 : decode cX6_insert 67 = .ok (.bipush 107, 2) := by decide +kernel
theorem dX6_insert_69 : decode cX6_insert 69 = .ok (.iload_n 3, 1) := by decide +kernel
theorem dX6_insert_70 : decode cX6_insert 70 = .ok (.iadd, 1) := by decide +kernel
theorem dX6_insert_71 : decode cX6_insert 71 = .ok (.aload_n 0, 1) := by decide +kernel
theorem dX6_insert_72 : decode cX6_insert 72 = .ok (.getfield 49, 3) := by decide +kernel
theorem dX6_insert_75 : decode cX6_insert 75 = .ok (.iload_n 3, 1) := by decide +kernel
theorem dX6_insert_76 : decode cX6_insert 76 = .ok (.iaload, 1) := by decide +kernel
theorem dX6_insert_77 : decode cX6_insert 77 = .ok (.iastore, 1) := by decide +kernel
theorem dX6_insert_78 : decode cX6_insert 78 = .ok (.iinc 3 1, 3) := by decide +kernel
theorem dX6_insert_81 : decode cX6_insert 81 = .ok (.goto (-24), 3) := by decide +kernel
theorem dX6_insert_84 : decode cX6_insert 84 = .ok (.aload_n 0, 1) := by decide +kernel
theorem dX6_insert_85 : decode cX6_insert 85 = .ok (.getfield 279, 3) := by decide +kernel
theorem dX6_insert_88 : decode cX6_insert 88 = .ok (.ireturn, 1) := by decide +kernel
theorem dJ9_max_7cf53_0 : decode cJ9_max_7cf53 0 = .ok (.iload_n 0, 1) := by decide +kernel
theorem dJ9_max_7cf53_1 : decode cJ9_max_7cf53 1 = .ok (.iload_n 1, 1) := by decide +kernel
theorem dJ9_max_7cf53_2 : decode cJ9_max_7cf53 2 = .ok (.if_icmp .lt 7, 3) := by decide +kernel
theorem dJ9_max_7cf53_5 : decode cJ9_max_7cf53 5 = .ok (.iload_n 0, 1) := by decide +kernel
theorem dJ9_max_7cf53_6 : decode cJ9_max_7cf53 6 = .ok (.goto 4, 3) := by decide +kernel
theorem dJ9_max_7cf53_9 : decode cJ9_max_7cf53 9 = .ok (.iload_n 1, 1) := by decide +kernel
theorem dJ9_max_7cf53_10 : decode cJ9_max_7cf53 10 = .ok (.ireturn, 1) := by decide +kernel
theorem dJ9_min_7cf53_0 : decode cJ9_min_7cf53 0 = .ok (.iload_n 0, 1) := by decide +kernel
theorem dJ9_min_7cf53_1 : decode cJ9_min_7cf53 1 = .ok (.iload_n 1, 1) := by decide +kernel
theorem dJ9_min_7cf53_2 : decode cJ9_min_7cf53 2 = .ok (.if_icmp .gt 7, 3) := by decide +kernel
theorem dJ9_min_7cf53_5 : decode cJ9_min_7cf53 5 = .ok (.iload_n 0, 1) := by decide +kernel
theorem dJ9_min_7cf53_6 : decode cJ9_min_7cf53 6 = .ok (.goto 4, 3) := by decide +kernel
theorem dJ9_min_7cf53_9 : decode cJ9_min_7cf53 9 = .ok (.iload_n 1, 1) := by decide +kernel
theorem dJ9_min_7cf53_10 : decode cJ9_min_7cf53 10 = .ok (.ireturn, 1) := by decide +kernel
set_option maxRecDepth 20000 in
theorem ggJ0_length_8abf5_J0_coder_7d493 : GoodIn wsJ0_length_8abf5 wsJ0_coder_7d493 := goodIn_r _ [6, 7, 8] (by decide +kernel) (by decide +kernel)
set_option maxRecDepth 20000 in
theorem gJ0_length_8abf5_J0_coder_7d493 : GoodIn wsJ0_length_8abf5 (wsV RJ0 335 RJ0 yJ0_coder_7d493 wsJ0_coder_7d493) := goodIn_app (goodIn_of _ (by decide +kernel)) ggJ0_length_8abf5_J0_coder_7d493
theorem dJ0_length_8abf5_0 : decode cJ0_length_8abf5 0 = .ok (.aload_n 0, 1) := by decide +kernel
theorem dJ0_length_8abf5_1 : decode cJ0_length_8abf5 1 = .ok (.getfield 9, 3) := by decide +kernel
theorem dJ0_length_8abf5_4 : decode cJ0_length_8abf5 4 = .ok (.arraylength, 1) := by decide +kernel
theorem dJ0_length_8abf5_5 : decode cJ0_length_8abf5 5 = .ok (.aload_n 0, 1) := by decide +kernel
theorem dJ0_length_8abf5_6 : decode cJ0_length_8abf5 6 = .ok (.invokevirtual 335, 3) := by decide +kernel
theorem dJ0_length_8abf5_9 : decode cJ0_length_8abf5 9 = .ok (.ishr, 1) := by decide +kernel
theorem dJ0_length_8abf5_10 : decode cJ0_length_8abf5 10 = .ok (.ireturn, 1) := by decide +kernel
set_option maxRecDepth 20000 in
theorem ggJ0_charAt_5068e_J0_isLatin1_aae02 : GoodIn wsJ0_charAt_5068e wsJ0_isLatin1_aae02 := goodIn_r _ [6, 7, 8] (by decide +kernel) (by decide +kernel)
set_option maxRecDepth 20000 in
theorem gJ0_charAt_5068e_J0_isLatin1_aae02 : GoodIn wsJ0_charAt_5068e (wsV RJ0 492 RJ0 yJ0_isLatin1_aae02 wsJ0_isLatin1_aae02) := goodIn_app (goodIn_of _ (by decide +kernel)) ggJ0_charAt_5068e_J0_isLatin1_aae02
set_option maxRecDepth 20000 in
theorem ggJ0_charAt_5068e_J1_charAt_3b067 : GoodIn wsJ0_charAt_5068e wsJ1_charAt_3b067 := goodIn_r _ [12, 13, 14, 5, 15, 16, 17, 18, 19, 20] (by decide +kernel) (by decide +kernel)
set_option maxRecDepth 20000 in
theorem gJ0_charAt_5068e_J1_charAt_3b067 : GoodIn wsJ0_charAt_5068e (va_wsS RJ0 495 yJ1_charAt_3b067 wsJ1_charAt_3b067) := goodIn_app (goodIn_of _ (by decide +kernel)) ggJ0_charAt_5068e_J1_charAt_3b067
set_option maxRecDepth 20000 in
theorem ggJ0_charAt_5068e_J2_charAt_3b067 : GoodIn wsJ0_charAt_5068e wsJ2_charAt_3b067 := goodIn_r _ [24, 25, 26, 23, 27, 28, 29, 30, 31, 14, 5, 15, 16, 17, 18, 19, 20, 32, 33, 34, 35, 36, 37] (by decide +kernel) (by decide +kernel)
set_option maxRecDepth 20000 in
theorem gJ0_charAt_5068e_J2_charAt_3b067 : GoodIn wsJ0_charAt_5068e (va_wsS RJ0 498 yJ2_charAt_3b067 wsJ2_charAt_3b067) := goodIn_app (goodIn_of _ (by decide +kernel)) ggJ0_charAt_5068e_J2_charAt_3b067
theorem dJ0_charAt_5068e_0 : decode cJ0_charAt_5068e 0 = .ok (.aload_n 0, 1) := by decide +kernel
theorem dJ0_charAt_5068e_1 : decode cJ0_charAt_5068e 1 = .ok (.invokevirtual 492, 3) := by decide +kernel
theorem dJ0_charAt_5068e_4 : decode cJ0_charAt_5068e 4 = .ok (.ifCond .eq 12, 3) := by decide +kernel
theorem dJ0_charAt_5068e_7 : decode cJ0_charAt_5068e 7 = .ok (.aload_n 0, 1) := by decide +kernel
theorem dJ0_charAt_5068e_8 : decode cJ0_charAt_5068e 8 = .ok (.getfield 9, 3) := by decide +kernel
theorem dJ0_charAt_5068e_11 : decode cJ0_charAt_5068e 11 = .ok (.iload_n 1, 1) := by decide +kernel
theorem dJ0_charAt_5068e_12 : decode cJ0_charAt_5068e 12 = .ok (.invokestatic 495, 3) := by decide +kernel
theorem dJ0_charAt_5068e_15 : decode cJ0_charAt_5068e 15 = .ok (.ireturn, 1) := by decide +kernel
theorem dJ0_charAt_5068e_16 : decode cJ0_charAt_5068e 16 = .ok (.aload_n 0, 1) := by decide +kernel
theorem dJ0_charAt_5068e_17 : decode cJ0_charAt_5068e 17 = .ok (.getfield 9, 3) := by decide +kernel
theorem dJ0_charAt_5068e_20 : decode cJ0_charAt_5068e 20 = .ok (.iload_n 1, 1) := by decide +kernel
theorem dJ0_charAt_5068e_21 : decode cJ0_charAt_5068e 21 = .ok (.invokestatic 498, 3) := by decide +kernel
theorem dJ0_charAt_5068e_24 : decode cJ0_charAt_5068e 24 = .ok (.ireturn, 1) := by decide +kernel
theorem dJ0_coder_7d493_0 : decode cJ0_coder_7d493 0 = .ok (.getstatic 38, 3) := by decide +kernel
theorem dJ0_coder_7d493_3 : decode cJ0_coder_7d493 3 = .ok (.ifCond .eq 10, 3) := by decide +kernel
theorem dJ0_coder_7d493_6 : decode cJ0_coder_7d493 6 = .ok (.aload_n 0, 1) := by decide +kernel
theorem dJ0_coder_7d493_7 : decode cJ0_coder_7d493 7 = .ok (.getfield 15, 3) := by decide +kernel
theorem dJ0_coder_7d493_10 : decode cJ0_coder_7d493 10 = .ok (.goto 4, 3) := by decide +kernel
theorem dJ0_coder_7d493_13 : decode cJ0_coder_7d493 13 = .ok (.iconst 1, 1) := by decide +kernel
theorem dJ0_coder_7d493_14 : decode cJ0_coder_7d493 14 = .ok (.ireturn, 1) := by decide +kernel
theorem dJ0_isLatin1_aae02_0 : decode cJ0_isLatin1_aae02 0 = .ok (.getstatic 38, 3) := by decide +kernel
theorem dJ0_isLatin1_aae02_3 : decode cJ0_isLatin1_aae02 3 = .ok (.ifCond .eq 14, 3) := by decide +kernel
theorem dJ0_isLatin1_aae02_6 : decode cJ0_isLatin1_aae02 6 = .ok (.aload_n 0, 1) := by decide +kernel
theorem dJ0_isLatin1_aae02_7 : decode cJ0_isLatin1_aae02 7 = .ok (.getfield 15, 3) := by decide +kernel
theorem dJ0_isLatin1_aae02_10 : decode cJ0_isLatin1_aae02 10 = .ok (.ifCond .ne 7, 3) := by decide +kernel
theorem dJ0_isLatin1_aae02_13 : decode cJ0_isLatin1_aae02 13 = .ok (.iconst 1, 1) := by decide +kernel
theorem dJ0_isLatin1_aae02_14 : decode cJ0_isLatin1_aae02 14 = .ok (.goto 4, 3) := by decide +kernel
theorem dJ0_isLatin1_aae02_17 : decode cJ0_isLatin1_aae02 17 = .ok (.iconst 0, 1) := by decide +kernel
theorem dJ0_isLatin1_aae02_18 : decode cJ0_isLatin1_aae02 18 = .ok (.ireturn, 1) := by decide +kernel
set_option maxRecDepth 20000 in
theorem ggJ0_checkIndex_df160_J3_checkIndex_8e157 : GoodIn wsJ0_checkIndex_df160 wsJ3_checkIndex_8e157 := goodIn_r _ [5] (by decide +kernel) (by decide +kernel)
set_option maxRecDepth 20000 in
theorem gJ0_checkIndex_df160_J3_checkIndex_8e157 : GoodIn wsJ0_checkIndex_df160 (va_wsS RJ0 1059 yJ3_checkIndex_8e157 wsJ3_checkIndex_8e157) := goodIn_app (goodIn_of _ (by decide +kernel)) ggJ0_checkIndex_df160_J3_checkIndex_8e157
theorem dJ0_checkIndex_df160_0 : decode cJ0_checkIndex_df160 0 = .ok (.iload_n 0, 1) := by decide +kernel
theorem dJ0_checkIndex_df160_1 : decode cJ0_checkIndex_df160 1 = .ok (.iload_n 1, 1) := by decide +kernel
theorem dJ0_checkIndex_df160_2 : decode cJ0_checkIndex_df160 2 = .ok (.getstatic 1053, 3) := by decide +kernel
theorem dJ0_checkIndex_df160_5 : decode cJ0_checkIndex_df160 5 = .ok (.invokestatic 1059, 3) := by decide +kernel
theorem dJ0_checkIndex_df160_8 : decode cJ0_checkIndex_df160 8 = .ok (.pop, 1) := by decide +kernel
theorem dJ0_checkIndex_df160_9 : decode cJ0_checkIndex_df160 9 = .ok (.return_, 1) := by decide +kernel
set_option maxRecDepth 20000 in
theorem ggJ1_charAt_3b067_J0_checkIndex_df160 : GoodIn wsJ1_charAt_3b067 wsJ0_checkIndex_df160 := goodIn_r _ [4, 5, 6, 7, 8, 9] (by decide +kernel) (by decide +kernel)
set_option maxRecDepth 20000 in
theorem gJ1_charAt_3b067_J0_checkIndex_df160 : GoodIn wsJ1_charAt_3b067 (va_wsS RJ1 9 yJ0_checkIndex_df160 wsJ0_checkIndex_df160) := goodIn_app (goodIn_of _ (by decide +kernel)) ggJ1_charAt_3b067_J0_checkIndex_df160
theorem dJ1_charAt_3b067_0 : decode cJ1_charAt_3b067 0 = .ok (.iload_n 1, 1) := by decide +kernel
theorem dJ1_charAt_3b067_1 : decode cJ1_charAt_3b067 1 = .ok (.aload_n 0, 1) := by decide +kernel
theorem dJ1_charAt_3b067_2 : decode cJ1_charAt_3b067 2 = .ok (.arraylength, 1) := by decide +kernel
theorem dJ1_charAt_3b067_3 : decode cJ1_charAt_3b067 3 = .ok (.invokestatic 9, 3) := by decide +kernel
theorem dJ1_charAt_3b067_6 : decode cJ1_charAt_3b067 6 = .ok (.aload_n 0, 1) := by decide +kernel
theorem dJ1_charAt_3b067_7 : decode cJ1_charAt_3b067 7 = .ok (.iload_n 1, 1) := by decide +kernel
theorem dJ1_charAt_3b067_8 : decode cJ1_charAt_3b067 8 = .ok (.baload, 1) := by decide +kernel
theorem dJ1_charAt_3b067_9 : decode cJ1_charAt_3b067 9 = .ok (.sipush 255, 3) := by decide +kernel
theorem dJ1_charAt_3b067_12 : decode cJ1_charAt_3b067 12 = .ok (.iand, 1) := by decide +kernel
theorem dJ1_charAt_3b067_13 : decode cJ1_charAt_3b067 13 = .ok (.i2c, 1) := by decide +kernel
theorem dJ1_charAt_3b067_14 : decode cJ1_charAt_3b067 14 = .ok (.ireturn, 1) := by decide +kernel
set_option maxRecDepth 20000 in
theorem ggJ2_getChar_3b067_J2_length_9d52b : GoodIn wsJ2_getChar_3b067 wsJ2_length_9d52b := goodIn_r _ [7] (by decide +kernel) (by decide +kernel)
set_option maxRecDepth 20000 in
theorem gJ2_getChar_3b067_J2_length_9d52b : GoodIn wsJ2_getChar_3b067 (va_wsS RJ2 48 yJ2_length_9d52b wsJ2_length_9d52b) := goodIn_app (goodIn_of _ (by decide +kernel)) ggJ2_getChar_3b067_J2_length_9d52b
theorem dJ2_getChar_3b067_0 : decode cJ2_getChar_3b067 0 = .ok (.getstatic 44, 3) := by decide +kernel
theorem dJ2_getChar_3b067_3 : decode cJ2_getChar_3b067 3 = .ok (.ifCond .ne 25, 3) := by decide +kernel
theorem dJ2_getChar_3b067_6 : decode cJ2_getChar_3b067 6 = .ok (.iload_n 1, 1) := by decide +kernel
theorem dJ2_getChar_3b067_7 : decode cJ2_getChar_3b067 7 = .ok (.ifCond .lt 11, 3) := by decide +kernel
theorem dJ2_getChar_3b067_10 : decode cJ2_getChar_3b067 10 = .ok (.iload_n 1, 1) := by decide +kernel
theorem dJ2_getChar_3b067_11 : decode cJ2_getChar_3b067 11 = .ok (.aload_n 0, 1) := by decide +kernel
theorem dJ2_getChar_3b067_12 : decode cJ2_getChar_3b067 12 = .ok (.invokestatic 48, 3) := by decide +kernel
theorem dJ2_getChar_3b067_15 : decode cJ2_getChar_3b067 15 = .ok (.if_icmp .lt 13, 3) := by decide +kernel
theorem dJ2_getChar_3b067_18 : decode cJ2_getChar_3b067 18 = .ok (.new 52, 3) := by decide +kernel
theorem dJ2_getChar_3b067_21 : decode cJ2_getChar_3b067 21 = .ok (.dup, 1) := by decide +kernel
theorem dJ2_getChar_3b067_22 : decode cJ2_getChar_3b067 22 = .ok (.ldc 54, 2) := by decide +kernel
theorem dJ2_getChar_3b067_24 : decode cJ2_getChar_3b067 24 = .ok (.invokespecial 56, 3) := by decide +kernel
theorem dJ2_getChar_3b067_27 : decode cJ2_getChar_3b067 27 = .ok (.athrow, 1) := by decide +kernel
theorem dJ2_getChar_3b067_28 : decode cJ2_getChar_3b067 28 = .ok (.iload_n 1, 1) := by decide +kernel
theorem dJ2_getChar_3b067_29 : decode cJ2_getChar_3b067 29 = .ok (.iconst 1, 1) := by decide +kernel
theorem dJ2_getChar_3b067_30 : decode cJ2_getChar_3b067 30 = .ok (.ishl, 1) := by decide +kernel
theorem dJ2_getChar_3b067_31 : decode cJ2_getChar_3b067 31 = .ok (.istore_n 1, 1) := by decide +kernel
theorem dJ2_getChar_3b067_32 : decode cJ2_getChar_3b067 32 = .ok (.aload_n 0, 1) := by decide +kernel
theorem dJ2_getChar_3b067_33 : decode cJ2_getChar_3b067 33 = .ok (.iload_n 1, 1) := by decide +kernel
theorem dJ2_getChar_3b067_34 : decode cJ2_getChar_3b067 34 = .ok (.iinc 1 1, 3) := by decide +kernel
theorem dJ2_getChar_3b067_37 : decode cJ2_getChar_3b067 37 = .ok (.baload, 1) := by decide +kernel
theorem dJ2_getChar_3b067_38 : decode cJ2_getChar_3b067 38 = .ok (.sipush 255, 3) := by decide +kernel
theorem dJ2_getChar_3b067_41 : decode cJ2_getChar_3b067 41 = .ok (.iand, 1) := by decide +kernel
theorem dJ2_getChar_3b067_42 : decode cJ2_getChar_3b067 42 = .ok (.getstatic 59, 3) := by decide +kernel
theorem dJ2_getChar_3b067_45 : decode cJ2_getChar_3b067 45 = .ok (.ishl, 1) := by decide +kernel
theorem dJ2_getChar_3b067_46 : decode cJ2_getChar_3b067 46 = .ok (.aload_n 0, 1) := by decide +kernel
theorem dJ2_getChar_3b067_47 : decode cJ2_getChar_3b067 47 = .ok (.iload_n 1, 1) := by decide +kernel
theorem dJ2_getChar_3b067_48 : decode cJ2_getChar_3b067 48 = .ok (.baload, 1) := by decide +kernel
theorem dJ2_getChar_3b067_49 : decode cJ2_getChar_3b067 49 = .ok (.sipush 255, 3) := by decide +kernel
theorem dJ2_getChar_3b067_52 : decode cJ2_getChar_3b067 52 = .ok (.iand, 1) := by decide +kernel
theorem dJ2_getChar_3b067_53 : decode cJ2_getChar_3b067 53 = .ok (.getstatic 63, 3) := by decide +kernel
theorem dJ2_getChar_3b067_56 : decode cJ2_getChar_3b067 56 = .ok (.ishl, 1) := by decide +kernel
theorem dJ2_getChar_3b067_57 : decode cJ2_getChar_3b067 57 = .ok (.ior, 1) := by decide +kernel
theorem dJ2_getChar_3b067_58 : decode cJ2_getChar_3b067 58 = .ok (.i2c, 1) := by decide +kernel
theorem dJ2_getChar_3b067_59 : decode cJ2_getChar_3b067 59 = .ok (.ireturn, 1) := by decide +kernel
theorem dJ2_length_9d52b_0 : decode cJ2_length_9d52b 0 = .ok (.aload_n 0, 1) := by decide +kernel
theorem dJ2_length_9d52b_1 : decode cJ2_length_9d52b 1 = .ok (.arraylength, 1) := by decide +kernel
theorem dJ2_length_9d52b_2 : decode cJ2_length_9d52b 2 = .ok (.iconst 1, 1) := by decide +kernel
theorem dJ2_length_9d52b_3 : decode cJ2_length_9d52b 3 = .ok (.ishr, 1) := by decide +kernel
theorem dJ2_length_9d52b_4 : decode cJ2_length_9d52b 4 = .ok (.ireturn, 1) := by decide +kernel
set_option maxRecDepth 20000 in
theorem ggJ2_charAt_3b067_J2_checkIndex_2214a : GoodIn wsJ2_charAt_3b067 wsJ2_checkIndex_2214a := goodIn_r _ [4, 5, 6, 3, 7, 8, 9, 10, 11, 12, 13, 14, 15, 16] (by decide +kernel) (by decide +kernel)
set_option maxRecDepth 20000 in
theorem gJ2_charAt_3b067_J2_checkIndex_2214a : GoodIn wsJ2_charAt_3b067 (va_wsS RJ2 67 yJ2_checkIndex_2214a wsJ2_checkIndex_2214a) := goodIn_app (goodIn_of _ (by decide +kernel)) ggJ2_charAt_3b067_J2_checkIndex_2214a
set_option maxRecDepth 20000 in
theorem ggJ2_charAt_3b067_J2_getChar_3b067 : GoodIn wsJ2_charAt_3b067 wsJ2_getChar_3b067 := goodIn_r _ [19, 20, 21, 22, 5, 6, 3, 7] (by decide +kernel) (by decide +kernel)
set_option maxRecDepth 20000 in
theorem gJ2_charAt_3b067_J2_getChar_3b067 : GoodIn wsJ2_charAt_3b067 (va_wsS RJ2 71 yJ2_getChar_3b067 wsJ2_getChar_3b067) := goodIn_app (goodIn_of _ (by decide +kernel)) ggJ2_charAt_3b067_J2_getChar_3b067
theorem dJ2_charAt_3b067_0 : decode cJ2_charAt_3b067 0 = .ok (.iload_n 1, 1) := by decide +kernel
theorem dJ2_charAt_3b067_1 : decode cJ2_charAt_3b067 1 = .ok (.aload_n 0, 1) := by decide +kernel
theorem dJ2_charAt_3b067_2 : decode cJ2_charAt_3b067 2 = .ok (.invokestatic 67, 3) := by decide +kernel
theorem dJ2_charAt_3b067_5 : decode cJ2_charAt_3b067 5 = .ok (.aload_n 0, 1) := by decide +kernel
theorem dJ2_charAt_3b067_6 : decode cJ2_charAt_3b067 6 = .ok (.iload_n 1, 1) := by decide +kernel
theorem dJ2_charAt_3b067_7 : decode cJ2_charAt_3b067 7 = .ok (.invokestatic 71, 3) := by decide +kernel
theorem dJ2_charAt_3b067_10 : decode cJ2_charAt_3b067 10 = .ok (.ireturn, 1) := by decide +kernel
set_option maxRecDepth 20000 in
theorem ggJ2_checkIndex_2214a_J2_length_9d52b : GoodIn wsJ2_checkIndex_2214a wsJ2_length_9d52b := goodIn_r _ [4] (by decide +kernel) (by decide +kernel)
set_option maxRecDepth 20000 in
theorem gJ2_checkIndex_2214a_J2_length_9d52b : GoodIn wsJ2_checkIndex_2214a (va_wsS RJ2 48 yJ2_length_9d52b wsJ2_length_9d52b) := goodIn_app (goodIn_of _ (by decide +kernel)) ggJ2_checkIndex_2214a_J2_length_9d52b
set_option maxRecDepth 20000 in
theorem ggJ2_checkIndex_2214a_J0_checkIndex_df160 : GoodIn wsJ2_checkIndex_2214a wsJ0_checkIndex_df160 := goodIn_r _ [8, 9, 10, 11, 12, 13] (by decide +kernel) (by decide +kernel)
set_option maxRecDepth 20000 in
theorem gJ2_checkIndex_2214a_J0_checkIndex_df160 : GoodIn wsJ2_checkIndex_2214a (va_wsS RJ2 414 yJ0_checkIndex_df160 wsJ0_checkIndex_df160) := goodIn_app (goodIn_of _ (by decide +kernel)) ggJ2_checkIndex_2214a_J0_checkIndex_df160
theorem dJ2_checkIndex_2214a_0 : decode cJ2_checkIndex_2214a 0 = .ok (.iload_n 0, 1) := by decide +kernel
theorem dJ2_checkIndex_2214a_1 : decode cJ2_checkIndex_2214a 1 = .ok (.aload_n 1, 1) := by decide +kernel
theorem dJ2_checkIndex_2214a_2 : decode cJ2_checkIndex_2214a 2 = .ok (.invokestatic 48, 3) := by decide +kernel
theorem dJ2_checkIndex_2214a_5 : decode cJ2_checkIndex_2214a 5 = .ok (.invokestatic 414, 3) := by decide +kernel
theorem dJ2_checkIndex_2214a_8 : decode cJ2_checkIndex_2214a 8 = .ok (.return_, 1) := by decide +kernel
theorem dJ3_checkIndex_8e157_0 : decode cJ3_checkIndex_8e157 0 = .ok (.iload_n 0, 1) := by decide +kernel
theorem dJ3_checkIndex_8e157_1 : decode cJ3_checkIndex_8e157 1 = .ok (.ifCond .lt 8, 3) := by decide +kernel
theorem dJ3_checkIndex_8e157_4 : decode cJ3_checkIndex_8e157 4 = .ok (.iload_n 0, 1) := by decide +kernel
theorem dJ3_checkIndex_8e157_5 : decode cJ3_checkIndex_8e157 5 = .ok (.iload_n 1, 1) := by decide +kernel
theorem dJ3_checkIndex_8e157_6 : decode cJ3_checkIndex_8e157 6 = .ok (.if_icmp .lt 10, 3) := by decide +kernel
theorem dJ3_checkIndex_8e157_9 : decode cJ3_checkIndex_8e157 9 = .ok (.aload_n 2, 1) := by decide +kernel
theorem dJ3_checkIndex_8e157_10 : decode cJ3_checkIndex_8e157 10 = .ok (.iload_n 0, 1) := by decide +kernel
theorem dJ3_checkIndex_8e157_11 : decode cJ3_checkIndex_8e157 11 = .ok (.iload_n 1, 1) := by decide +kernel
theorem dJ3_checkIndex_8e157_12 : decode cJ3_checkIndex_8e157 12 = .ok (.invokestatic 95, 3) := by decide +kernel
theorem dJ3_checkIndex_8e157_15 : decode cJ3_checkIndex_8e157 15 = .ok (.athrow, 1) := by decide +kernel
theorem dJ3_checkIndex_8e157_16 : decode cJ3_checkIndex_8e157 16 = .ok (.iload_n 0, 1) := by decide +kernel
theorem dJ3_checkIndex_8e157_17 : decode cJ3_checkIndex_8e157 17 = .ok (.ireturn, 1) := by decide +kernel
abbrev vwCl : List vw_C := [(RX0, TX0, 3), (RX1, TX1, 7), (RX2, TX2, 14), (RX3, TX3, 10), (RX4, TX4, 6), (RX5, TX5, 12), (RX6, TX6, 28)]
