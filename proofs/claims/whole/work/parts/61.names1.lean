theorem dX6_init_90 : decode cX6_init 90 = .ok (.bipush 8, 2) := by decide +kernel
theorem dX6_init_92 : decode cX6_init 92 = .ok (.newarray .int, 2) := by decide +kernel
theorem dX6_init_94 : decode cX6_init 94 = .ok (.putfield 43, 3) := by decide +kernel
theorem dX6_init_97 : decode cX6_init 97 = .ok (.aload_n 0, 1) := by decide +kernel
theorem dX6_init_98 : decode cX6_init 98 = .ok (.bipush 24, 2) := by decide +kernel
theorem dX6_init_100 : decode cX6_init 100 = .ok (.newarray .int, 2) := by decide +kernel
theorem dX6_init_102 : decode cX6_init 102 = .ok (.putfield 46, 3) := by decide +kernel
theorem dX6_init_105 : decode cX6_init 105 = .ok (.aload_n 0, 1) := by decide +kernel
theorem dX6_init_106 : decode cX6_init 106 = .ok (.bipush 8, 2) := by decide +kernel
theorem dX6_init_108 : decode cX6_init 108 = .ok (.newarray .int, 2) := by decide +kernel
theorem dX6_init_110 : decode cX6_init 110 = .ok (.putfield 49, 3) := by decide +kernel
theorem dX6_init_113 : decode cX6_init 113 = .ok (.aload_n 0, 1) := by decide +kernel
theorem dX6_init_114 : decode cX6_init 114 = .ok (.bipush 24, 2) := by decide +kernel
theorem dX6_init_116 : decode cX6_init 116 = .ok (.newarray .int, 2) := by decide +kernel
theorem dX6_init_118 : decode cX6_init 118 = .ok (.putfield 52, 3) := by decide +kernel
theorem dX6_init_121 : decode cX6_init 121 = .ok (.aload_n 0, 1) := by decide +kernel
theorem dX6_init_122 : decode cX6_init 122 = .ok (.iconst 3, 1) := by decide +kernel
theorem dX6_init_123 : decode cX6_init 123 = .ok (.newarray .int, 2) := by decide +kernel
theorem dX6_init_125 : decode cX6_init 125 = .ok (.putfield 55, 3) := by decide +kernel
theorem dX6_init_128 : decode cX6_init 128 = .ok (.iconst 0, 1) := by decide +kernel
theorem dX6_init_129 : decode cX6_init 129 = .ok (.istore_n 1, 1) := by decide +kernel
theorem dX6_init_130 : decode cX6_init 130 = .ok (.iload_n 1, 1) := by decide +kernel
theorem dX6_init_131 : decode cX6_init 131 = .ok (.bipush 8, 2) := by decide +kernel
theorem dX6_init_133 : decode cX6_init 133 = .ok (.if_icmp .ge 19, 3) := by decide +kernel
theorem dX6_init_136 : decode cX6_init 136 = .ok (.aload_n 0, 1) := by decide +kernel
theorem dX6_init_137 : decode cX6_init 137 = .ok (.getfield 7, 3) := by decide +kernel
theorem dX6_init_140 : decode cX6_init 140 = .ok (.bipush 107, 2) := by decide +kernel
theorem dX6_init_142 : decode cX6_init 142 = .ok (.iload_n 1, 1) := by decide +kernel
theorem dX6_init_143 : decode cX6_init 143 = .ok (.iadd, 1) := by decide +kernel
theorem dX6_init_144 : decode cX6_init 144 = .ok (.iconst (-1), 1) := by decide +kernel
theorem dX6_init_145 : decode cX6_init 145 = .ok (.iastore, 1) := by decide +kernel
theorem dX6_init_146 : decode cX6_init 146 = .ok (.iinc 1 1, 3) := by decide +kernel
theorem dX6_init_149 : decode cX6_init 149 = .ok (.goto (-19), 3) := by decide +kernel
theorem dX6_init_152 : decode cX6_init 152 = .ok (.return_, 1) := by decide +kernel
theorem dX6_thrown_0 : decode cX6_thrown 0 = .ok (.aload_n 0, 1) := by decide +kernel
theorem dX6_thrown_1 : decode cX6_thrown 1 = .ok (.getfield 58, 3) := by decide +kernel
theorem dX6_thrown_4 : decode cX6_thrown 4 = .ok (.ireturn, 1) := by decide +kernel
theorem dX6_isIn_0 : decode cX6_isIn 0 = .ok (.lload_n 0, 1) := by decide +kernel
theorem dX6_isIn_1 : decode cX6_isIn 1 = .ok (.lload_n 2, 1) := by decide +kernel
theorem dX6_isIn_2 : decode cX6_isIn 2 = .ok (.lcmp, 1) := by decide +kernel
theorem dX6_isIn_3 : decode cX6_isIn 3 = .ok (.ifCond .lt 14, 3) := by decide +kernel
theorem dX6_isIn_6 : decode cX6_isIn 6 = .ok (.lload_n 0, 1) := by decide +kernel
theorem dX6_isIn_7 : decode cX6_isIn 7 = .ok (.lload 4, 2) := by decide +kernel
theorem dX6_isIn_9 : decode cX6_isIn 9 = .ok (.lcmp, 1) := by decide +kernel
theorem dX6_isIn_10 : decode cX6_isIn 10 = .ok (.ifCond .gt 7, 3) := by decide +kernel
theorem dX6_isIn_13 : decode cX6_isIn 13 = .ok (.iconst 1, 1) := by decide +kernel
theorem dX6_isIn_14 : decode cX6_isIn 14 = .ok (.goto 4, 3) := by decide +kernel
theorem dX6_isIn_17 : decode cX6_isIn 17 = .ok (.iconst 0, 1) := by decide +kernel
theorem dX6_isIn_18 : decode cX6_isIn 18 = .ok (.ireturn, 1) := by decide +kernel
theorem dX6_keeps_0 : decode cX6_keeps 0 = .ok (.aload_n 0, 1) := by decide +kernel
theorem dX6_keeps_1 : decode cX6_keeps 1 = .ok (.getfield 61, 3) := by decide +kernel
theorem dX6_keeps_4 : decode cX6_keeps 4 = .ok (.bipush 6, 2) := by decide +kernel
theorem dX6_keeps_6 : decode cX6_keeps 6 = .ok (.if_icmp .ne 44, 3) := by decide +kernel
theorem dX6_keeps_9 : decode cX6_keeps 9 = .ok (.iconst 0, 1) := by decide +kernel
theorem dX6_keeps_10 : decode cX6_keeps 10 = .ok (.istore_n 1, 1) := by decide +kernel
theorem dX6_keeps_11 : decode cX6_keeps 11 = .ok (.iload_n 1, 1) := by decide +kernel
theorem dX6_keeps_12 : decode cX6_keeps 12 = .ok (.sipush 900, 3) := by decide +kernel
theorem dX6_keeps_15 : decode cX6_keeps 15 = .ok (.if_icmp .ge 25, 3) := by decide +kernel
theorem dX6_keeps_18 : decode cX6_keeps 18 = .ok (.aload_n 0, 1) := by decide +kernel
theorem dX6_keeps_19 : decode cX6_keeps 19 = .ok (.getfield 16, 3) := by decide +kernel
theorem dX6_keeps_22 : decode cX6_keeps 22 = .ok (.iload_n 1, 1) := by decide +kernel
theorem dX6_keeps_23 : decode cX6_keeps 23 = .ok (.aload_n 0, 1) := by decide +kernel
theorem dX6_keeps_24 : decode cX6_keeps 24 = .ok (.getfield 16, 3) := by decide +kernel
theorem dX6_keeps_27 : decode cX6_keeps 27 = .ok (.iload_n 1, 1) := by decide +kernel
theorem dX6_keeps_28 : decode cX6_keeps 28 = .ok (.sipush 180, 3) := by decide +kernel
theorem dX6_keeps_31 : decode cX6_keeps 31 = .ok (.iadd, 1) := by decide +kernel
theorem dX6_keeps_32 : decode cX6_keeps 32 = .ok (.iaload, 1) := by decide +kernel
theorem dX6_keeps_33 : decode cX6_keeps 33 = .ok (.iastore, 1) := by decide +kernel
theorem dX6_keeps_34 : decode cX6_keeps 34 = .ok (.iinc 1 1, 3) := by decide +kernel
theorem dX6_keeps_37 : decode cX6_keeps 37 = .ok (.goto (-26), 3) := by decide +kernel
theorem dX6_keeps_40 : decode cX6_keeps 40 = .ok (.aload_n 0, 1) := by decide +kernel
theorem dX6_keeps_41 : decode cX6_keeps 41 = .ok (.dup, 1) := by decide +kernel
theorem dX6_keeps_42 : decode cX6_keeps 42 = .ok (.getfield 61, 3) := by decide +kernel
theorem dX6_keeps_45 : decode cX6_keeps 45 = .ok (.iconst 1, 1) := by decide +kernel
theorem dX6_keeps_46 : decode cX6_keeps 46 = .ok (.isub, 1) := by decide +kernel
theorem dX6_keeps_47 : decode cX6_keeps 47 = .ok (.putfield 61, 3) := by decide +kernel
theorem dX6_keeps_50 : decode cX6_keeps 50 = .ok (.iconst 0, 1) := by decide +kernel
theorem dX6_keeps_51 : decode cX6_keeps 51 = .ok (.istore_n 1, 1) := by decide +kernel
theorem dX6_keeps_52 : decode cX6_keeps 52 = .ok (.iload_n 1, 1) := by decide +kernel
theorem dX6_keeps_53 : decode cX6_keeps 53 = .ok (.sipush 180, 3) := by decide +kernel
theorem dX6_keeps_56 : decode cX6_keeps 56 = .ok (.if_icmp .ge 30, 3) := by decide +kernel
theorem dX6_keeps_59 : decode cX6_keeps 59 = .ok (.aload_n 0, 1) := by decide +kernel
theorem dX6_keeps_60 : decode cX6_keeps 60 = .ok (.getfield 16, 3) := by decide +kernel
theorem dX6_keeps_63 : decode cX6_keeps 63 = .ok (.sipush 180, 3) := by decide +kernel
theorem dX6_keeps_66 : decode cX6_keeps 66 = .ok (.aload_n 0, 1) := by decide +kernel
theorem dX6_keeps_67 : decode cX6_keeps 67 = .ok (.getfield 61, 3) := by decide +kernel
theorem dX6_keeps_70 : decode cX6_keeps 70 = .ok (.imul, 1) := by decide +kernel
theorem dX6_keeps_71 : decode cX6_keeps 71 = .ok (.iload_n 1, 1) := by decide +kernel
theorem dX6_keeps_72 : decode cX6_keeps 72 = .ok (.iadd, 1) := by decide +kernel
theorem dX6_keeps_73 : decode cX6_keeps 73 = .ok (.aload_n 0, 1) := by decide +kernel
theorem dX6_keeps_74 : decode cX6_keeps 74 = .ok (.getfield 7, 3) := by decide +kernel
theorem dX6_keeps_77 : decode cX6_keeps 77 = .ok (.iload_n 1, 1) := by decide +kernel
theorem dX6_keeps_78 : decode cX6_keeps 78 = .ok (.iaload, 1) := by decide +kernel
theorem dX6_keeps_79 : decode cX6_keeps 79 = .ok (.iastore, 1) := by decide +kernel
theorem dX6_keeps_80 : decode cX6_keeps 80 = .ok (.iinc 1 1, 3) := by decide +kernel
theorem dX6_keeps_83 : decode cX6_keeps 83 = .ok (.goto (-31), 3) := by decide +kernel
theorem dX6_keeps_86 : decode cX6_keeps 86 = .ok (.aload_n 0, 1) := by decide +kernel
theorem dX6_keeps_87 : decode cX6_keeps 87 = .ok (.dup, 1) := by decide +kernel
theorem dX6_keeps_88 : decode cX6_keeps 88 = .ok (.getfield 61, 3) := by decide +kernel
theorem dX6_keeps_91 : decode cX6_keeps 91 = .ok (.iconst 1, 1) := by decide +kernel
theorem dX6_keeps_92 : decode cX6_keeps 92 = .ok (.iadd, 1) := by decide +kernel
theorem dX6_keeps_93 : decode cX6_keeps 93 = .ok (.putfield 61, 3) := by decide +kernel
theorem dX6_keeps_96 : decode cX6_keeps 96 = .ok (.return_, 1) := by decide +kernel
theorem dX6_undo_0 : decode cX6_undo 0 = .ok (.aload_n 0, 1) := by decide +kernel
theorem dX6_undo_1 : decode cX6_undo 1 = .ok (.aload_n 0, 1) := by decide +kernel
theorem dX6_undo_2 : decode cX6_undo 2 = .ok (.getfield 61, 3) := by decide +kernel
theorem dX6_undo_5 : decode cX6_undo 5 = .ok (.ifCond .ne 7, 3) := by decide +kernel
theorem dX6_undo_8 : decode cX6_undo 8 = .ok (.iconst 1, 1) := by decide +kernel
theorem dX6_undo_9 : decode cX6_undo 9 = .ok (.goto 4, 3) := by decide +kernel
theorem dX6_undo_12 : decode cX6_undo 12 = .ok (.iconst 0, 1) := by decide +kernel
theorem dX6_undo_13 : decode cX6_undo 13 = .ok (.putfield 58, 3) := by decide +kernel
theorem dX6_undo_16 : decode cX6_undo 16 = .ok (.aload_n 0, 1) := by decide +kernel
theorem dX6_undo_17 : decode cX6_undo 17 = .ok (.getfield 58, 3) := by decide +kernel
theorem dX6_undo_20 : decode cX6_undo 20 = .ok (.ifCond .le 5, 3) := by decide +kernel
theorem dX6_undo_23 : decode cX6_undo 23 = .ok (.iconst 0, 1) := by decide +kernel
theorem dX6_undo_24 : decode cX6_undo 24 = .ok (.ireturn, 1) := by decide +kernel
theorem dX6_undo_25 : decode cX6_undo 25 = .ok (.aload_n 0, 1) := by decide +kernel
theorem dX6_undo_26 : decode cX6_undo 26 = .ok (.dup, 1) := by decide +kernel
theorem dX6_undo_27 : decode cX6_undo 27 = .ok (.getfield 61, 3) := by decide +kernel
theorem dX6_undo_30 : decode cX6_undo 30 = .ok (.iconst 1, 1) := by decide +kernel
theorem dX6_undo_31 : decode cX6_undo 31 = .ok (.isub, 1) := by decide +kernel
theorem dX6_undo_32 : decode cX6_undo 32 = .ok (.putfield 61, 3) := by decide +kernel
theorem dX6_undo_35 : decode cX6_undo 35 = .ok (.iconst 0, 1) := by decide +kernel
theorem dX6_undo_36 : decode cX6_undo 36 = .ok (.istore_n 1, 1) := by decide +kernel
theorem dX6_undo_37 : decode cX6_undo 37 = .ok (.iload_n 1, 1) := by decide +kernel
theorem dX6_undo_38 : decode cX6_undo 38 = .ok (.sipush 180, 3) := by decide +kernel
theorem dX6_undo_41 : decode cX6_undo 41 = .ok (.if_icmp .ge 30, 3) := by decide +kernel
theorem dX6_undo_44 : decode cX6_undo 44 = .ok (.aload_n 0, 1) := by decide +kernel
theorem dX6_undo_45 : decode cX6_undo 45 = .ok (.getfield 7, 3) := by decide +kernel
theorem dX6_undo_48 : decode cX6_undo 48 = .ok (.iload_n 1, 1) := by decide +kernel
theorem dX6_undo_49 : decode cX6_undo 49 = .ok (.aload_n 0, 1) := by decide +kernel
theorem dX6_undo_50 : decode cX6_undo 50 = .ok (.getfield 16, 3) := by decide +kernel
theorem dX6_undo_53 : decode cX6_undo 53 = .ok (.sipush 180, 3) := by decide +kernel
theorem dX6_undo_56 : decode cX6_undo 56 = .ok (.aload_n 0, 1) := by decide +kernel
theorem dX6_undo_57 : decode cX6_undo 57 = .ok (.getfield 61, 3) := by decide +kernel
theorem dX6_undo_60 : decode cX6_undo 60 = .ok (.imul, 1) := by decide +kernel
theorem dX6_undo_61 : decode cX6_undo 61 = .ok (.iload_n 1, 1) := by decide +kernel
theorem dX6_undo_62 : decode cX6_undo 62 = .ok (.iadd, 1) := by decide +kernel
theorem dX6_undo_63 : decode cX6_undo 63 = .ok (.iaload, 1) := by decide +kernel
theorem dX6_undo_64 : decode cX6_undo 64 = .ok (.iastore, 1) := by decide +kernel
theorem dX6_undo_65 : decode cX6_undo 65 = .ok (.iinc 1 1, 3) := by decide +kernel
theorem dX6_undo_68 : decode cX6_undo 68 = .ok (.goto (-31), 3) := by decide +kernel
theorem dX6_undo_71 : decode cX6_undo 71 = .ok (.aload_n 0, 1) := by decide +kernel
theorem dX6_undo_72 : decode cX6_undo 72 = .ok (.getfield 61, 3) := by decide +kernel
theorem dX6_undo_75 : decode cX6_undo 75 = .ok (.ireturn, 1) := by decide +kernel
theorem dX6_append_0 : decode cX6_append 0 = .ok (.aload_n 0, 1) := by decide +kernel
theorem dX6_append_1 : decode cX6_append 1 = .ok (.aload_n 0, 1) := by decide +kernel
theorem dX6_append_2 : decode cX6_append 2 = .ok (.getfield 64, 3) := by decide +kernel
theorem dX6_append_5 : decode cX6_append 5 = .ok (.bipush 20, 2) := by decide +kernel
theorem dX6_append_7 : decode cX6_append 7 = .ok (.iadd, 1) := by decide +kernel
theorem dX6_append_8 : decode cX6_append 8 = .ok (.sipush 600, 3) := by decide +kernel
theorem dX6_append_11 : decode cX6_append 11 = .ok (.if_icmp .le 7, 3) := by decide +kernel
theorem dX6_append_14 : decode cX6_append 14 = .ok (.iconst 1, 1) := by decide +kernel
theorem dX6_append_15 : decode cX6_append 15 = .ok (.goto 4, 3) := by decide +kernel
theorem dX6_append_18 : decode cX6_append 18 = .ok (.iconst 0, 1) := by decide +kernel
theorem dX6_append_19 : decode cX6_append 19 = .ok (.putfield 58, 3) := by decide +kernel
theorem dX6_append_22 : decode cX6_append 22 = .ok (.aload_n 0, 1) := by decide +kernel
theorem dX6_append_23 : decode cX6_append 23 = .ok (.getfield 58, 3) := by decide +kernel
theorem dX6_append_26 : decode cX6_append 26 = .ok (.ifCond .le 5, 3) := by decide +kernel
theorem dX6_append_29 : decode cX6_append 29 = .ok (.iconst 0, 1) := by decide +kernel
theorem dX6_append_30 : decode cX6_append 30 = .ok (.ireturn, 1) := by decide +kernel
theorem dX6_append_31 : decode cX6_append 31 = .ok (.iconst 0, 1) := by decide +kernel
theorem dX6_append_32 : decode cX6_append 32 = .ok (.istore 6, 2) := by decide +kernel
theorem dX6_append_34 : decode cX6_append 34 = .ok (.iload 6, 2) := by decide +kernel
theorem dX6_append_36 : decode cX6_append 36 = .ok (.bipush 20, 2) := by decide +kernel
theorem dX6_append_38 : decode cX6_append 38 = .ok (.if_icmp .ge 93, 3) := by decide +kernel
theorem dX6_append_41 : decode cX6_append 41 = .ok (.iload 6, 2) := by decide +kernel
theorem dX6_append_43 : decode cX6_append 43 = .ok (.iconst 4, 1) := by decide +kernel
theorem dX6_append_44 : decode cX6_append 44 = .ok (.if_icmp .ge 7, 3) := by decide +kernel
theorem dX6_append_47 : decode cX6_append 47 = .ok (.iload_n 1, 1) := by decide +kernel
theorem dX6_append_48 : decode cX6_append 48 = .ok (.goto 39, 3) := by decide +kernel
theorem dX6_append_51 : decode cX6_append 51 = .ok (.iload 6, 2) := by decide +kernel
theorem dX6_append_53 : decode cX6_append 53 = .ok (.bipush 8, 2) := by decide +kernel
theorem dX6_append_55 : decode cX6_append 55 = .ok (.if_icmp .ge 7, 3) := by decide +kernel
theorem dX6_append_58 : decode cX6_append 58 = .ok (.iload_n 2, 1) := by decide +kernel
theorem dX6_append_59 : decode cX6_append 59 = .ok (.goto 28, 3) := by decide +kernel
theorem dX6_append_62 : decode cX6_append 62 = .ok (.iload 6, 2) := by decide +kernel
theorem dX6_append_64 : decode cX6_append 64 = .ok (.bipush 12, 2) := by decide +kernel
theorem dX6_append_66 : decode cX6_append 66 = .ok (.if_icmp .ge 7, 3) := by decide +kernel
theorem dX6_append_69 : decode cX6_append 69 = .ok (.iload_n 3, 1) := by decide +kernel
theorem dX6_append_70 : decode cX6_append 70 = .ok (.goto 17, 3) := by decide +kernel
theorem dX6_append_73 : decode cX6_append 73 = .ok (.iload 6, 2) := by decide +kernel
theorem dX6_append_75 : decode cX6_append 75 = .ok (.bipush 16, 2) := by decide +kernel
theorem dX6_append_77 : decode cX6_append 77 = .ok (.if_icmp .ge 8, 3) := by decide +kernel
theorem dX6_append_80 : decode cX6_append 80 = .ok (.iload 4, 2) := by decide +kernel
theorem dX6_append_82 : decode cX6_append 82 = .ok (.goto 5, 3) := by decide +kernel
theorem dX6_append_85 : decode cX6_append 85 = .ok (.iload 5, 2) := by decide +kernel
theorem dX6_append_87 : decode cX6_append 87 = .ok (.istore 7, 2) := by decide +kernel
theorem dX6_append_89 : decode cX6_append 89 = .ok (.aload_n 0, 1) := by decide +kernel
theorem dX6_append_90 : decode cX6_append 90 = .ok (.getfield 19, 3) := by decide +kernel
theorem dX6_append_93 : decode cX6_append 93 = .ok (.aload_n 0, 1) := by decide +kernel
theorem dX6_append_94 : decode cX6_append 94 = .ok (.getfield 64, 3) := by decide +kernel
theorem dX6_append_97 : decode cX6_append 97 = .ok (.iload 7, 2) := by decide +kernel
theorem dX6_append_99 : decode cX6_append 99 = .ok (.bipush 24, 2) := by decide +kernel
theorem dX6_append_101 : decode cX6_append 101 = .ok (.bipush 8, 2) := by decide +kernel
theorem dX6_append_103 : decode cX6_append 103 = .ok (.iload 6, 2) := by decide +kernel
theorem dX6_append_105 : decode cX6_append 105 = .ok (.iconst 4, 1) := by decide +kernel
theorem dX6_append_106 : decode cX6_append 106 = .ok (.irem, 1) := by decide +kernel
theorem dX6_append_107 : decode cX6_append 107 = .ok (.imul, 1) := by decide +kernel
theorem dX6_append_108 : decode cX6_append 108 = .ok (.isub, 1) := by decide +kernel
theorem dX6_append_109 : decode cX6_append 109 = .ok (.ishr, 1) := by decide +kernel
theorem dX6_append_110 : decode cX6_append 110 = .ok (.sipush 255, 3) := by decide +kernel
theorem dX6_append_113 : decode cX6_append 113 = .ok (.iand, 1) := by decide +kernel
theorem dX6_append_114 : decode cX6_append 114 = .ok (.iastore, 1) := by decide +kernel
theorem dX6_append_115 : decode cX6_append 115 = .ok (.aload_n 0, 1) := by decide +kernel
theorem dX6_append_116 : decode cX6_append 116 = .ok (.dup, 1) := by decide +kernel
theorem dX6_append_117 : decode cX6_append 117 = .ok (.getfield 64, 3) := by decide +kernel
theorem dX6_append_120 : decode cX6_append 120 = .ok (.iconst 1, 1) := by decide +kernel
theorem dX6_append_121 : decode cX6_append 121 = .ok (.iadd, 1) := by decide +kernel
theorem dX6_append_122 : decode cX6_append 122 = .ok (.putfield 64, 3) := by decide +kernel
theorem dX6_append_125 : decode cX6_append 125 = .ok (.iinc 6 1, 3) := by decide +kernel
theorem dX6_append_128 : decode cX6_append 128 = .ok (.goto (-94), 3) := by decide +kernel
theorem dX6_append_131 : decode cX6_append 131 = .ok (.aload_n 0, 1) := by decide +kernel
theorem dX6_append_132 : decode cX6_append 132 = .ok (.getfield 64, 3) := by decide +kernel
theorem dX6_append_135 : decode cX6_append 135 = .ok (.ireturn, 1) := by decide +kernel
theorem dX6_see_0 : decode cX6_see 0 = .ok (.iload_n 1, 1) := by decide +kernel
theorem dX6_see_1 : decode cX6_see 1 = .ok (.aload_n 0, 1) := by decide +kernel
theorem dX6_see_2 : decode cX6_see 2 = .ok (.getfield 67, 3) := by decide +kernel
theorem dX6_see_5 : decode cX6_see 5 = .ok (.if_icmp .ge 12, 3) := by decide +kernel
theorem dX6_see_8 : decode cX6_see 8 = .ok (.aload_n 0, 1) := by decide +kernel
theorem dX6_see_9 : decode cX6_see 9 = .ok (.getfield 19, 3) := by decide +kernel
theorem dX6_see_12 : decode cX6_see 12 = .ok (.iload_n 1, 1) := by decide +kernel
theorem dX6_see_13 : decode cX6_see 13 = .ok (.iaload, 1) := by decide +kernel
theorem dX6_see_14 : decode cX6_see 14 = .ok (.goto 4, 3) := by decide +kernel
theorem dX6_see_17 : decode cX6_see 17 = .ok (.iconst (-1), 1) := by decide +kernel
theorem dX6_see_18 : decode cX6_see 18 = .ok (.ireturn, 1) := by decide +kernel
theorem dX6_isSmall_0 : decode cX6_isSmall 0 = .ok (.iload_n 0, 1) := by decide +kernel
theorem dX6_isSmall_1 : decode cX6_isSmall 1 = .ok (.i2l, 1) := by decide +kernel
theorem dX6_isSmall_2 : decode cX6_isSmall 2 = .ok (.ldc2_w 70, 3) := by decide +kernel
theorem dX6_isSmall_5 : decode cX6_isSmall 5 = .ok (.ldc2_w 72, 3) := by decide +kernel
theorem dX6_isSmall_8 : decode cX6_isSmall 8 = .ok (.invokestatic 74, 3) := by decide +kernel
theorem dX6_isSmall_11 : decode cX6_isSmall 11 = .ok (.ireturn, 1) := by decide +kernel
theorem dX6_isDigit_0 : decode cX6_isDigit 0 = .ok (.iload_n 0, 1) := by decide +kernel
theorem dX6_isDigit_1 : decode cX6_isDigit 1 = .ok (.i2l, 1) := by decide +kernel
theorem dX6_isDigit_2 : decode cX6_isDigit 2 = .ok (.ldc2_w 78, 3) := by decide +kernel
theorem dX6_isDigit_5 : decode cX6_isDigit 5 = .ok (.ldc2_w 80, 3) := by decide +kernel
theorem dX6_isDigit_8 : decode cX6_isDigit 8 = .ok (.invokestatic 74, 3) := by decide +kernel
theorem dX6_isDigit_11 : decode cX6_isDigit 11 = .ok (.ireturn, 1) := by decide +kernel
theorem dX6_keyAt_0 : decode cX6_keyAt 0 = .ok (.iconst 0, 1) := by decide +kernel
theorem dX6_keyAt_1 : decode cX6_keyAt 1 = .ok (.istore_n 1, 1) := by decide +kernel
theorem dX6_keyAt_2 : decode cX6_keyAt 2 = .ok (.iconst 1, 1) := by decide +kernel
theorem dX6_keyAt_3 : decode cX6_keyAt 3 = .ok (.istore_n 2, 1) := by decide +kernel
theorem dX6_keyAt_4 : decode cX6_keyAt 4 = .ok (.iload_n 2, 1) := by decide +kernel
theorem dX6_keyAt_5 : decode cX6_keyAt 5 = .ok (.ldc 82, 2) := by decide +kernel
theorem dX6_keyAt_7 : decode cX6_keyAt 7 = .ok (.invokevirtual 84, 3) := by decide +kernel
theorem dX6_keyAt_10 : decode cX6_keyAt 10 = .ok (.if_icmp .ge 113, 3) := by decide +kernel
theorem dX6_keyAt_13 : decode cX6_keyAt 13 = .ok (.iconst 0, 1) := by decide +kernel
theorem dX6_keyAt_14 : decode cX6_keyAt 14 = .ok (.istore_n 3, 1) := by decide +kernel
theorem dX6_keyAt_15 : decode cX6_keyAt 15 = .ok (.ldc 82, 2) := by decide +kernel
theorem dX6_keyAt_17 : decode cX6_keyAt 17 = .ok (.iload_n 2, 1) := by decide +kernel
theorem dX6_keyAt_18 : decode cX6_keyAt 18 = .ok (.iload_n 3, 1) := by decide +kernel
theorem dX6_keyAt_19 : decode cX6_keyAt 19 = .ok (.iadd, 1) := by decide +kernel
theorem dX6_keyAt_20 : decode cX6_keyAt 20 = .ok (.invokevirtual 90, 3) := by decide +kernel
theorem dX6_keyAt_23 : decode cX6_keyAt 23 = .ok (.bipush 32, 2) := by decide +kernel
theorem dX6_keyAt_25 : decode cX6_keyAt 25 = .ok (.if_icmp .eq 44, 3) := by decide +kernel
theorem dX6_keyAt_28 : decode cX6_keyAt 28 = .ok (.aload_n 0, 1) := by decide +kernel
theorem dX6_keyAt_29 : decode cX6_keyAt 29 = .ok (.getfield 94, 3) := by decide +kernel
theorem dX6_keyAt_32 : decode cX6_keyAt 32 = .ok (.iload_n 3, 1) := by decide +kernel
theorem dX6_keyAt_33 : decode cX6_keyAt 33 = .ok (.iadd, 1) := by decide +kernel
theorem dX6_keyAt_34 : decode cX6_keyAt 34 = .ok (.aload_n 0, 1) := by decide +kernel
theorem dX6_keyAt_35 : decode cX6_keyAt 35 = .ok (.getfield 97, 3) := by decide +kernel
theorem dX6_keyAt_38 : decode cX6_keyAt 38 = .ok (.if_icmp .ge 31, 3) := by decide +kernel
theorem dX6_keyAt_41 : decode cX6_keyAt 41 = .ok (.aload_n 0, 1) := by decide +kernel
theorem dX6_keyAt_42 : decode cX6_keyAt 42 = .ok (.getfield 19, 3) := by decide +kernel
theorem dX6_keyAt_45 : decode cX6_keyAt 45 = .ok (.aload_n 0, 1) := by decide +kernel
theorem dX6_keyAt_46 : decode cX6_keyAt 46 = .ok (.getfield 94, 3) := by decide +kernel
theorem dX6_keyAt_49 : decode cX6_keyAt 49 = .ok (.iload_n 3, 1) := by decide +kernel
theorem dX6_keyAt_50 : decode cX6_keyAt 50 = .ok (.iadd, 1) := by decide +kernel
theorem dX6_keyAt_51 : decode cX6_keyAt 51 = .ok (.iaload, 1) := by decide +kernel
theorem dX6_keyAt_52 : decode cX6_keyAt 52 = .ok (.ldc 82, 2) := by decide +kernel
theorem dX6_keyAt_54 : decode cX6_keyAt 54 = .ok (.iload_n 2, 1) := by decide +kernel
theorem dX6_keyAt_55 : decode cX6_keyAt 55 = .ok (.iload_n 3, 1) := by decide +kernel
theorem dX6_keyAt_56 : decode cX6_keyAt 56 = .ok (.iadd, 1) := by decide +kernel
theorem dX6_keyAt_57 : decode cX6_keyAt 57 = .ok (.invokevirtual 90, 3) := by decide +kernel
theorem dX6_keyAt_60 : decode cX6_keyAt 60 = .ok (.if_icmp .ne 9, 3) := by decide +kernel
theorem dX6_keyAt_63 : decode cX6_keyAt 63 = .ok (.iinc 3 1, 3) := by decide +kernel
theorem dX6_keyAt_66 : decode cX6_keyAt 66 = .ok (.goto (-51), 3) := by decide +kernel
theorem dX6_keyAt_69 : decode cX6_keyAt 69 = .ok (.ldc 82, 2) := by decide +kernel
theorem dX6_keyAt_71 : decode cX6_keyAt 71 = .ok (.iload_n 2, 1) := by decide +kernel
theorem dX6_keyAt_72 : decode cX6_keyAt 72 = .ok (.iload_n 3, 1) := by decide +kernel
theorem dX6_keyAt_73 : decode cX6_keyAt 73 = .ok (.iadd, 1) := by decide +kernel
theorem dX6_keyAt_74 : decode cX6_keyAt 74 = .ok (.invokevirtual 90, 3) := by decide +kernel
theorem dX6_keyAt_77 : decode cX6_keyAt 77 = .ok (.bipush 32, 2) := by decide +kernel
theorem dX6_keyAt_79 : decode cX6_keyAt 79 = .ok (.if_icmp .ne 18, 3) := by decide +kernel
theorem dX6_keyAt_82 : decode cX6_keyAt 82 = .ok (.aload_n 0, 1) := by decide +kernel
theorem dX6_keyAt_83 : decode cX6_keyAt 83 = .ok (.getfield 94, 3) := by decide +kernel
theorem dX6_keyAt_86 : decode cX6_keyAt 86 = .ok (.iload_n 3, 1) := by decide +kernel
theorem dX6_keyAt_87 : decode cX6_keyAt 87 = .ok (.iadd, 1) := by decide +kernel
theorem dX6_keyAt_88 : decode cX6_keyAt 88 = .ok (.aload_n 0, 1) := by decide +kernel
theorem dX6_keyAt_89 : decode cX6_keyAt 89 = .ok (.getfield 97, 3) := by decide +kernel
theorem dX6_keyAt_92 : decode cX6_keyAt 92 = .ok (.if_icmp .ne 5, 3) := by decide +kernel
theorem dX6_keyAt_95 : decode cX6_keyAt 95 = .ok (.iload_n 1, 1) := by decide +kernel
theorem dX6_keyAt_96 : decode cX6_keyAt 96 = .ok (.ireturn, 1) := by decide +kernel
theorem dX6_keyAt_97 : decode cX6_keyAt 97 = .ok (.ldc 82, 2) := by decide +kernel
theorem dX6_keyAt_99 : decode cX6_keyAt 99 = .ok (.iload_n 2, 1) := by decide +kernel
theorem dX6_keyAt_100 : decode cX6_keyAt 100 = .ok (.invokevirtual 90, 3) := by decide +kernel
theorem dX6_keyAt_103 : decode cX6_keyAt 103 = .ok (.bipush 32, 2) := by decide +kernel
theorem dX6_keyAt_105 : decode cX6_keyAt 105 = .ok (.if_icmp .eq 9, 3) := by decide +kernel
theorem dX6_keyAt_108 : decode cX6_keyAt 108 = .ok (.iinc 2 1, 3) := by decide +kernel
theorem dX6_keyAt_111 : decode cX6_keyAt 111 = .ok (.goto (-14), 3) := by decide +kernel
theorem dX6_keyAt_114 : decode cX6_keyAt 114 = .ok (.iinc 2 1, 3) := by decide +kernel
theorem dX6_keyAt_117 : decode cX6_keyAt 117 = .ok (.iinc 1 1, 3) := by decide +kernel
theorem dX6_keyAt_120 : decode cX6_keyAt 120 = .ok (.goto (-116), 3) := by decide +kernel
theorem dX6_keyAt_123 : decode cX6_keyAt 123 = .ok (.bipush 8, 2) := by decide +kernel
theorem dX6_keyAt_125 : decode cX6_keyAt 125 = .ok (.ireturn, 1) := by decide +kernel
theorem dX6_next_0 : decode cX6_next 0 = .ok (.aload_n 0, 1) := by decide +kernel
theorem dX6_next_1 : decode cX6_next 1 = .ok (.aload_n 0, 1) := by decide +kernel
theorem dX6_next_2 : decode cX6_next 2 = .ok (.getfield 97, 3) := by decide +kernel
theorem dX6_next_5 : decode cX6_next 5 = .ok (.putfield 94, 3) := by decide +kernel
theorem dX6_next_8 : decode cX6_next 8 = .ok (.aload_n 0, 1) := by decide +kernel
theorem dX6_next_9 : decode cX6_next 9 = .ok (.aload_n 0, 1) := by decide +kernel
theorem dX6_next_10 : decode cX6_next 10 = .ok (.getfield 94, 3) := by decide +kernel
theorem dX6_next_13 : decode cX6_next 13 = .ok (.invokevirtual 100, 3) := by decide +kernel
theorem dX6_next_16 : decode cX6_next 16 = .ok (.bipush 32, 2) := by decide +kernel
theorem dX6_next_18 : decode cX6_next 18 = .ok (.if_icmp .ne 16, 3) := by decide +kernel
theorem dX6_next_21 : decode cX6_next 21 = .ok (.aload_n 0, 1) := by decide +kernel
theorem dX6_next_22 : decode cX6_next 22 = .ok (.dup, 1) := by decide +kernel
theorem dX6_next_23 : decode cX6_next 23 = .ok (.getfield 94, 3) := by decide +kernel
theorem dX6_next_26 : decode cX6_next 26 = .ok (.iconst 1, 1) := by decide +kernel
theorem dX6_next_27 : decode cX6_next 27 = .ok (.iadd, 1) := by decide +kernel
theorem dX6_next_28 : decode cX6_next 28 = .ok (.putfield 94, 3) := by decide +kernel
theorem dX6_next_31 : decode cX6_next 31 = .ok (.goto (-23), 3) := by decide +kernel
theorem dX6_next_34 : decode cX6_next 34 = .ok (.aload_n 0, 1) := by decide +kernel
theorem dX6_next_35 : decode cX6_next 35 = .ok (.aload_n 0, 1) := by decide +kernel
theorem dX6_next_36 : decode cX6_next 36 = .ok (.getfield 94, 3) := by decide +kernel
theorem dX6_next_39 : decode cX6_next 39 = .ok (.putfield 97, 3) := by decide +kernel
theorem dX6_next_42 : decode cX6_next 42 = .ok (.aload_n 0, 1) := by decide +kernel
theorem dX6_next_43 : decode cX6_next 43 = .ok (.getfield 94, 3) := by decide +kernel
theorem dX6_next_46 : decode cX6_next 46 = .ok (.aload_n 0, 1) := by decide +kernel
theorem dX6_next_47 : decode cX6_next 47 = .ok (.getfield 67, 3) := by decide +kernel
theorem dX6_next_50 : decode cX6_next 50 = .ok (.if_icmp .lt 12, 3) := by decide +kernel
theorem dX6_next_53 : decode cX6_next 53 = .ok (.aload_n 0, 1) := by decide +kernel
theorem dX6_next_54 : decode cX6_next 54 = .ok (.bipush 11, 2) := by decide +kernel
theorem dX6_next_56 : decode cX6_next 56 = .ok (.putfield 104, 3) := by decide +kernel
theorem dX6_next_59 : decode cX6_next 59 = .ok (.goto 181, 3) := by decide +kernel
theorem dX6_next_62 : decode cX6_next 62 = .ok (.aload_n 0, 1) := by decide +kernel
theorem dX6_next_63 : decode cX6_next 63 = .ok (.aload_n 0, 1) := by decide +kernel
theorem dX6_next_64 : decode cX6_next 64 = .ok (.getfield 94, 3) := by decide +kernel
theorem dX6_next_67 : decode cX6_next 67 = .ok (.invokevirtual 100, 3) := by decide +kernel
theorem dX6_next_70 : decode cX6_next 70 = .ok (.invokestatic 107, 3) := by decide +kernel
theorem dX6_next_73 : decode cX6_next 73 = .ok (.ifCond .eq 41, 3) := by decide +kernel
theorem dX6_next_76 : decode cX6_next 76 = .ok (.aload_n 0, 1) := by decide +kernel
theorem dX6_next_77 : decode cX6_next 77 = .ok (.aload_n 0, 1) := by decide +kernel
theorem dX6_next_78 : decode cX6_next 78 = .ok (.getfield 97, 3) := by decide +kernel
theorem dX6_next_81 : decode cX6_next 81 = .ok (.invokevirtual 100, 3) := by decide +kernel
theorem dX6_next_84 : decode cX6_next 84 = .ok (.invokestatic 107, 3) := by decide +kernel
theorem dX6_next_87 : decode cX6_next 87 = .ok (.ifCond .eq 16, 3) := by decide +kernel
theorem dX6_next_90 : decode cX6_next 90 = .ok (.aload_n 0, 1) := by decide +kernel
theorem dX6_next_91 : decode cX6_next 91 = .ok (.dup, 1) := by decide +kernel
theorem dX6_next_92 : decode cX6_next 92 = .ok (.getfield 97, 3) := by decide +kernel
theorem dX6_next_95 : decode cX6_next 95 = .ok (.iconst 1, 1) := by decide +kernel
theorem dX6_next_96 : decode cX6_next 96 = .ok (.iadd, 1) := by decide +kernel
theorem dX6_next_97 : decode cX6_next 97 = .ok (.putfield 97, 3) := by decide +kernel
theorem dX6_next_100 : decode cX6_next 100 = .ok (.goto (-24), 3) := by decide +kernel
theorem dX6_next_103 : decode cX6_next 103 = .ok (.aload_n 0, 1) := by decide +kernel
theorem dX6_next_104 : decode cX6_next 104 = .ok (.aload_n 0, 1) := by decide +kernel
theorem dX6_next_105 : decode cX6_next 105 = .ok (.invokevirtual 111, 3) := by decide +kernel
theorem dX6_next_108 : decode cX6_next 108 = .ok (.putfield 104, 3) := by decide +kernel
theorem dX6_next_111 : decode cX6_next 111 = .ok (.goto 129, 3) := by decide +kernel
theorem dX6_next_114 : decode cX6_next 114 = .ok (.aload_n 0, 1) := by decide +kernel
theorem dX6_next_115 : decode cX6_next 115 = .ok (.aload_n 0, 1) := by decide +kernel
theorem dX6_next_116 : decode cX6_next 116 = .ok (.getfield 94, 3) := by decide +kernel
theorem dX6_next_119 : decode cX6_next 119 = .ok (.invokevirtual 100, 3) := by decide +kernel
theorem dX6_next_122 : decode cX6_next 122 = .ok (.invokestatic 114, 3) := by decide +kernel
theorem dX6_next_125 : decode cX6_next 125 = .ok (.ifCond .eq 81, 3) := by decide +kernel
theorem dX6_next_128 : decode cX6_next 128 = .ok (.aload_n 0, 1) := by decide +kernel
theorem dX6_next_129 : decode cX6_next 129 = .ok (.lconst 0, 1) := by decide +kernel
theorem dX6_next_130 : decode cX6_next 130 = .ok (.putfield 117, 3) := by decide +kernel
theorem dX6_next_133 : decode cX6_next 133 = .ok (.aload_n 0, 1) := by decide +kernel
theorem dX6_next_134 : decode cX6_next 134 = .ok (.aload_n 0, 1) := by decide +kernel
theorem dX6_next_135 : decode cX6_next 135 = .ok (.getfield 97, 3) := by decide +kernel
theorem dX6_next_138 : decode cX6_next 138 = .ok (.invokevirtual 100, 3) := by decide +kernel
theorem dX6_next_141 : decode cX6_next 141 = .ok (.invokestatic 114, 3) := by decide +kernel
theorem dX6_next_144 : decode cX6_next 144 = .ok (.ifCond .eq 53, 3) := by decide +kernel
theorem dX6_next_147 : decode cX6_next 147 = .ok (.aload_n 0, 1) := by decide +kernel
theorem dX6_next_148 : decode cX6_next 148 = .ok (.getfield 117, 3) := by decide +kernel
theorem dX6_next_151 : decode cX6_next 151 = .ok (.ldc2_w 121, 3) := by decide +kernel
theorem dX6_next_154 : decode cX6_next 154 = .ok (.lcmp, 1) := by decide +kernel
theorem dX6_next_155 : decode cX6_next 155 = .ok (.ifCond .ge 29, 3) := by decide +kernel
theorem dX6_next_158 : decode cX6_next 158 = .ok (.aload_n 0, 1) := by decide +kernel
theorem dX6_next_159 : decode cX6_next 159 = .ok (.ldc2_w 123, 3) := by decide +kernel
theorem dX6_next_162 : decode cX6_next 162 = .ok (.aload_n 0, 1) := by decide +kernel
theorem dX6_next_163 : decode cX6_next 163 = .ok (.getfield 117, 3) := by decide +kernel
theorem dX6_next_166 : decode cX6_next 166 = .ok (.lmul, 1) := by decide +kernel
theorem dX6_next_167 : decode cX6_next 167 = .ok (.aload_n 0, 1) := by decide +kernel
theorem dX6_next_168 : decode cX6_next 168 = .ok (.aload_n 0, 1) := by decide +kernel
theorem dX6_next_169 : decode cX6_next 169 = .ok (.getfield 97, 3) := by decide +kernel
theorem dX6_next_172 : decode cX6_next 172 = .ok (.invokevirtual 100, 3) := by decide +kernel
theorem dX6_next_175 : decode cX6_next 175 = .ok (.i2l, 1) := by decide +kernel
theorem dX6_next_176 : decode cX6_next 176 = .ok (.ladd, 1) := by decide +kernel
theorem dX6_next_177 : decode cX6_next 177 = .ok (.ldc2_w 78, 3) := by decide +kernel
theorem dX6_next_180 : decode cX6_next 180 = .ok (.lsub, 1) := by decide +kernel
theorem dX6_next_181 : decode cX6_next 181 = .ok (.putfield 117, 3) := by decide +kernel
theorem dX6_next_184 : decode cX6_next 184 = .ok (.aload_n 0, 1) := by decide +kernel
theorem dX6_next_185 : decode cX6_next 185 = .ok (.dup, 1) := by decide +kernel
theorem dX6_next_186 : decode cX6_next 186 = .ok (.getfield 97, 3) := by decide +kernel
theorem dX6_next_189 : decode cX6_next 189 = .ok (.iconst 1, 1) := by decide +kernel
theorem dX6_next_190 : decode cX6_next 190 = .ok (.iadd, 1) := by decide +kernel
theorem dX6_next_191 : decode cX6_next 191 = .ok (.putfield 97, 3) := by decide +kernel
theorem dX6_next_194 : decode cX6_next 194 = .ok (.goto (-61), 3) := by decide +kernel
theorem dX6_next_197 : decode cX6_next 197 = .ok (.aload_n 0, 1) := by decide +kernel
theorem dX6_next_198 : decode cX6_next 198 = .ok (.bipush 9, 2) := by decide +kernel
theorem dX6_next_200 : decode cX6_next 200 = .ok (.putfield 104, 3) := by decide +kernel
theorem dX6_next_203 : decode cX6_next 203 = .ok (.goto 37, 3) := by decide +kernel
theorem dX6_next_206 : decode cX6_next 206 = .ok (.aload_n 0, 1) := by decide +kernel
theorem dX6_next_207 : decode cX6_next 207 = .ok (.dup, 1) := by decide +kernel
theorem dX6_next_208 : decode cX6_next 208 = .ok (.getfield 97, 3) := by decide +kernel
theorem dX6_next_211 : decode cX6_next 211 = .ok (.iconst 1, 1) := by decide +kernel
theorem dX6_next_212 : decode cX6_next 212 = .ok (.iadd, 1) := by decide +kernel
theorem dX6_next_213 : decode cX6_next 213 = .ok (.putfield 97, 3) := by decide +kernel
theorem dX6_next_216 : decode cX6_next 216 = .ok (.aload_n 0, 1) := by decide +kernel
theorem dX6_next_217 : decode cX6_next 217 = .ok (.aload_n 0, 1) := by decide +kernel
theorem dX6_next_218 : decode cX6_next 218 = .ok (.aload_n 0, 1) := by decide +kernel
theorem dX6_next_219 : decode cX6_next 219 = .ok (.getfield 94, 3) := by decide +kernel
theorem dX6_next_222 : decode cX6_next 222 = .ok (.invokevirtual 100, 3) := by decide +kernel
theorem dX6_next_225 : decode cX6_next 225 = .ok (.bipush 59, 2) := by decide +kernel
theorem dX6_next_227 : decode cX6_next 227 = .ok (.if_icmp .ne 8, 3) := by decide +kernel
theorem dX6_next_230 : decode cX6_next 230 = .ok (.bipush 10, 2) := by decide +kernel
theorem dX6_next_232 : decode cX6_next 232 = .ok (.goto 5, 3) := by decide +kernel
theorem dX6_next_235 : decode cX6_next 235 = .ok (.bipush 12, 2) := by decide +kernel
theorem dX6_next_237 : decode cX6_next 237 = .ok (.putfield 104, 3) := by decide +kernel
theorem dX6_next_240 : decode cX6_next 240 = .ok (.return_, 1) := by decide +kernel
theorem dX6_fails_0 : decode cX6_fails 0 = .ok (.aload_n 0, 1) := by decide +kernel
theorem dX6_fails_1 : decode cX6_fails 1 = .ok (.getfield 125, 3) := by decide +kernel
theorem dX6_fails_4 : decode cX6_fails 4 = .ok (.ifCond .eq 4, 3) := by decide +kernel
theorem dX6_fails_7 : decode cX6_fails 7 = .ok (.return_, 1) := by decide +kernel
theorem dX6_fails_8 : decode cX6_fails 8 = .ok (.aload_n 0, 1) := by decide +kernel
theorem dX6_fails_9 : decode cX6_fails 9 = .ok (.iload_n 1, 1) := by decide +kernel
theorem dX6_fails_10 : decode cX6_fails 10 = .ok (.putfield 125, 3) := by decide +kernel
theorem dX6_fails_13 : decode cX6_fails 13 = .ok (.aload_n 0, 1) := by decide +kernel
theorem dX6_fails_14 : decode cX6_fails 14 = .ok (.aload_n 0, 1) := by decide +kernel
theorem dX6_fails_15 : decode cX6_fails 15 = .ok (.getfield 94, 3) := by decide +kernel
theorem dX6_fails_18 : decode cX6_fails 18 = .ok (.putfield 128, 3) := by decide +kernel
theorem dX6_fails_21 : decode cX6_fails 21 = .ok (.return_, 1) := by decide +kernel
theorem dX6_is_0 : decode cX6_is 0 = .ok (.aload_n 0, 1) := by decide +kernel
theorem dX6_is_1 : decode cX6_is 1 = .ok (.getfield 125, 3) := by decide +kernel
theorem dX6_is_4 : decode cX6_is 4 = .ok (.ifCond .ne 15, 3) := by decide +kernel
theorem dX6_is_7 : decode cX6_is 7 = .ok (.aload_n 0, 1) := by decide +kernel
theorem dX6_is_8 : decode cX6_is 8 = .ok (.getfield 104, 3) := by decide +kernel
theorem dX6_is_11 : decode cX6_is 11 = .ok (.iload_n 1, 1) := by decide +kernel
theorem dX6_is_12 : decode cX6_is 12 = .ok (.if_icmp .ne 7, 3) := by decide +kernel
theorem dX6_is_15 : decode cX6_is 15 = .ok (.iconst 1, 1) := by decide +kernel
theorem dX6_is_16 : decode cX6_is 16 = .ok (.goto 4, 3) := by decide +kernel
theorem dX6_is_19 : decode cX6_is 19 = .ok (.iconst 0, 1) := by decide +kernel
theorem dX6_is_20 : decode cX6_is 20 = .ok (.ireturn, 1) := by decide +kernel
theorem dX6_eats_0 : decode cX6_eats 0 = .ok (.aload_n 0, 1) := by decide +kernel
theorem dX6_eats_1 : decode cX6_eats 1 = .ok (.iload_n 1, 1) := by decide +kernel
theorem dX6_eats_2 : decode cX6_eats 2 = .ok (.invokevirtual 131, 3) := by decide +kernel
theorem dX6_eats_5 : decode cX6_eats 5 = .ok (.ifCond .ne 5, 3) := by decide +kernel
theorem dX6_eats_8 : decode cX6_eats 8 = .ok (.iconst 0, 1) := by decide +kernel
theorem dX6_eats_9 : decode cX6_eats 9 = .ok (.ireturn, 1) := by decide +kernel
theorem dX6_eats_10 : decode cX6_eats 10 = .ok (.aload_n 0, 1) := by decide +kernel
theorem dX6_eats_11 : decode cX6_eats 11 = .ok (.invokevirtual 134, 3) := by decide +kernel
theorem dX6_eats_14 : decode cX6_eats 14 = .ok (.iconst 1, 1) := by decide +kernel
theorem dX6_eats_15 : decode cX6_eats 15 = .ok (.ireturn, 1) := by decide +kernel
theorem dX6_needs_0 : decode cX6_needs 0 = .ok (.aload_n 0, 1) := by decide +kernel
theorem dX6_needs_1 : decode cX6_needs 1 = .ok (.iload_n 1, 1) := by decide +kernel
theorem dX6_needs_2 : decode cX6_needs 2 = .ok (.invokevirtual 137, 3) := by decide +kernel
theorem dX6_needs_5 : decode cX6_needs 5 = .ok (.ifCond .ne 9, 3) := by decide +kernel
theorem dX6_needs_8 : decode cX6_needs 8 = .ok (.aload_n 0, 1) := by decide +kernel
theorem dX6_needs_9 : decode cX6_needs 9 = .ok (.bipush (-2), 2) := by decide +kernel
theorem dX6_needs_11 : decode cX6_needs 11 = .ok (.invokevirtual 140, 3) := by decide +kernel
theorem dX6_needs_14 : decode cX6_needs 14 = .ok (.return_, 1) := by decide +kernel
theorem dX6_takes_0 : decode cX6_takes 0 = .ok (.aload_n 0, 1) := by decide +kernel
theorem dX6_takes_1 : decode cX6_takes 1 = .ok (.bipush 9, 2) := by decide +kernel
theorem dX6_takes_3 : decode cX6_takes 3 = .ok (.invokevirtual 131, 3) := by decide +kernel
theorem dX6_takes_6 : decode cX6_takes 6 = .ok (.ifCond .ne 12, 3) := by decide +kernel
theorem dX6_takes_9 : decode cX6_takes 9 = .ok (.aload_n 0, 1) := by decide +kernel
theorem dX6_takes_10 : decode cX6_takes 10 = .ok (.bipush (-2), 2) := by decide +kernel
theorem dX6_takes_12 : decode cX6_takes 12 = .ok (.invokevirtual 140, 3) := by decide +kernel
theorem dX6_takes_15 : decode cX6_takes 15 = .ok (.goto 23, 3) := by decide +kernel
theorem dX6_takes_18 : decode cX6_takes 18 = .ok (.aload_n 0, 1) := by decide +kernel
theorem dX6_takes_19 : decode cX6_takes 19 = .ok (.getfield 117, 3) := by decide +kernel
theorem dX6_takes_22 : decode cX6_takes 22 = .ok (.iload_n 1, 1) := by decide +kernel
theorem dX6_takes_23 : decode cX6_takes 23 = .ok (.i2l, 1) := by decide +kernel
theorem dX6_takes_24 : decode cX6_takes 24 = .ok (.iload_n 2, 1) := by decide +kernel
theorem dX6_takes_25 : decode cX6_takes 25 = .ok (.i2l, 1) := by decide +kernel
theorem dX6_takes_26 : decode cX6_takes 26 = .ok (.invokestatic 74, 3) := by decide +kernel
theorem dX6_takes_29 : decode cX6_takes 29 = .ok (.ifCond .ne 9, 3) := by decide +kernel
theorem dX6_takes_32 : decode cX6_takes 32 = .ok (.aload_n 0, 1) := by decide +kernel
theorem dX6_takes_33 : decode cX6_takes 33 = .ok (.bipush (-3), 2) := by decide +kernel
theorem dX6_takes_35 : decode cX6_takes 35 = .ok (.invokevirtual 140, 3) := by decide +kernel
theorem dX6_takes_38 : decode cX6_takes 38 = .ok (.aload_n 0, 1) := by decide +kernel
theorem dX6_takes_39 : decode cX6_takes 39 = .ok (.getfield 117, 3) := by decide +kernel
theorem dX6_takes_42 : decode cX6_takes 42 = .ok (.l2i, 1) := by decide +kernel
theorem dX6_takes_43 : decode cX6_takes 43 = .ok (.istore_n 3, 1) := by decide +kernel
theorem dX6_takes_44 : decode cX6_takes 44 = .ok (.aload_n 0, 1) := by decide +kernel
theorem dX6_takes_45 : decode cX6_takes 45 = .ok (.getfield 125, 3) := by decide +kernel
theorem dX6_takes_48 : decode cX6_takes 48 = .ok (.ifCond .ne 7, 3) := by decide +kernel
theorem dX6_takes_51 : decode cX6_takes 51 = .ok (.aload_n 0, 1) := by decide +kernel
theorem dX6_takes_52 : decode cX6_takes 52 = .ok (.invokevirtual 134, 3) := by decide +kernel
theorem dX6_takes_55 : decode cX6_takes 55 = .ok (.iload_n 3, 1) := by decide +kernel
theorem dX6_takes_56 : decode cX6_takes 56 = .ok (.ireturn, 1) := by decide +kernel
theorem dX6_readsRow_0 : decode cX6_readsRow 0 = .ok (.aload_n 0, 1) := by decide +kernel
theorem dX6_readsRow_1 : decode cX6_readsRow 1 = .ok (.getfield 13, 3) := by decide +kernel
theorem dX6_readsRow_4 : decode cX6_readsRow 4 = .ok (.iconst 0, 1) := by decide +kernel
theorem dX6_readsRow_5 : decode cX6_readsRow 5 = .ok (.iaload, 1) := by decide +kernel
theorem dX6_readsRow_6 : decode cX6_readsRow 6 = .ok (.istore_n 1, 1) := by decide +kernel
theorem dX6_readsRow_7 : decode cX6_readsRow 7 = .ok (.iload_n 1, 1) := by decide +kernel
theorem dX6_readsRow_8 : decode cX6_readsRow 8 = .ok (.iconst 4, 1) := by decide +kernel
theorem dX6_readsRow_9 : decode cX6_readsRow 9 = .ok (.if_icmp .ne 9, 3) := by decide +kernel
theorem dX6_readsRow_12 : decode cX6_readsRow 12 = .ok (.aload_n 0, 1) := by decide +kernel
theorem dX6_readsRow_13 : decode cX6_readsRow 13 = .ok (.bipush (-4), 2) := by decide +kernel
theorem dX6_readsRow_15 : decode cX6_readsRow 15 = .ok (.invokevirtual 140, 3) := by decide +kernel
theorem dX6_readsRow_18 : decode cX6_readsRow 18 = .ok (.aload_n 0, 1) := by decide +kernel
theorem dX6_readsRow_19 : decode cX6_readsRow 19 = .ok (.getfield 125, 3) := by decide +kernel
theorem dX6_readsRow_22 : decode cX6_readsRow 22 = .ok (.ifCond .eq 4, 3) := by decide +kernel
theorem dX6_readsRow_25 : decode cX6_readsRow 25 = .ok (.return_, 1) := by decide +kernel
theorem dX6_readsRow_26 : decode cX6_readsRow 26 = .ok (.aload_n 0, 1) := by decide +kernel
theorem dX6_readsRow_27 : decode cX6_readsRow 27 = .ok (.invokevirtual 134, 3) := by decide +kernel
theorem dX6_readsRow_30 : decode cX6_readsRow 30 = .ok (.iconst 0, 1) := by decide +kernel
theorem dX6_readsRow_31 : decode cX6_readsRow 31 = .ok (.istore_n 2, 1) := by decide +kernel
theorem dX6_readsRow_32 : decode cX6_readsRow 32 = .ok (.aload_n 0, 1) := by decide +kernel
theorem dX6_readsRow_33 : decode cX6_readsRow 33 = .ok (.getfield 125, 3) := by decide +kernel
theorem dX6_readsRow_36 : decode cX6_readsRow 36 = .ok (.ifCond .ne 141, 3) := by decide +kernel
theorem dX6_readsRow_39 : decode cX6_readsRow 39 = .ok (.iload_n 2, 1) := by decide +kernel
theorem dX6_readsRow_40 : decode cX6_readsRow 40 = .ok (.ifCond .eq 12, 3) := by decide +kernel
theorem dX6_readsRow_43 : decode cX6_readsRow 43 = .ok (.aload_n 0, 1) := by decide +kernel
theorem dX6_readsRow_44 : decode cX6_readsRow 44 = .ok (.getfield 104, 3) := by decide +kernel
theorem dX6_readsRow_47 : decode cX6_readsRow 47 = .ok (.bipush 9, 2) := by decide +kernel
theorem dX6_readsRow_49 : decode cX6_readsRow 49 = .ok (.if_icmp .ne 128, 3) := by decide +kernel
theorem dX6_readsRow_52 : decode cX6_readsRow 52 = .ok (.aload_n 0, 1) := by decide +kernel
theorem dX6_readsRow_53 : decode cX6_readsRow 53 = .ok (.getfield 13, 3) := by decide +kernel
theorem dX6_readsRow_56 : decode cX6_readsRow 56 = .ok (.iconst 1, 1) := by decide +kernel
theorem dX6_readsRow_57 : decode cX6_readsRow 57 = .ok (.iaload, 1) := by decide +kernel
theorem dX6_readsRow_58 : decode cX6_readsRow 58 = .ok (.istore_n 3, 1) := by decide +kernel
theorem dX6_readsRow_59 : decode cX6_readsRow 59 = .ok (.aload_n 0, 1) := by decide +kernel
theorem dX6_readsRow_60 : decode cX6_readsRow 60 = .ok (.bipush 9, 2) := by decide +kernel
theorem dX6_readsRow_62 : decode cX6_readsRow 62 = .ok (.invokevirtual 131, 3) := by decide +kernel
theorem dX6_readsRow_65 : decode cX6_readsRow 65 = .ok (.ifCond .eq 35, 3) := by decide +kernel
theorem dX6_readsRow_68 : decode cX6_readsRow 68 = .ok (.aload_n 0, 1) := by decide +kernel
theorem dX6_readsRow_69 : decode cX6_readsRow 69 = .ok (.getfield 117, 3) := by decide +kernel
theorem dX6_readsRow_72 : decode cX6_readsRow 72 = .ok (.lconst 1, 1) := by decide +kernel
theorem dX6_readsRow_73 : decode cX6_readsRow 73 = .ok (.ldc2_w 144, 3) := by decide +kernel
theorem dX6_readsRow_76 : decode cX6_readsRow 76 = .ok (.invokestatic 74, 3) := by decide +kernel
theorem dX6_readsRow_79 : decode cX6_readsRow 79 = .ok (.ifCond .eq 21, 3) := by decide +kernel
theorem dX6_readsRow_82 : decode cX6_readsRow 82 = .ok (.iload_n 2, 1) := by decide +kernel
theorem dX6_readsRow_83 : decode cX6_readsRow 83 = .ok (.bipush 12, 2) := by decide +kernel
theorem dX6_readsRow_85 : decode cX6_readsRow 85 = .ok (.if_icmp .eq 9, 3) := by decide +kernel
theorem dX6_readsRow_88 : decode cX6_readsRow 88 = .ok (.iload_n 3, 1) := by decide +kernel
theorem dX6_readsRow_89 : decode cX6_readsRow 89 = .ok (.bipush 24, 2) := by decide +kernel
theorem dX6_readsRow_91 : decode cX6_readsRow 91 = .ok (.if_icmp .ne 9, 3) := by decide +kernel
theorem dX6_readsRow_94 : decode cX6_readsRow 94 = .ok (.aload_n 0, 1) := by decide +kernel
theorem dX6_readsRow_95 : decode cX6_readsRow 95 = .ok (.bipush (-4), 2) := by decide +kernel
theorem dX6_readsRow_97 : decode cX6_readsRow 97 = .ok (.invokevirtual 140, 3) := by decide +kernel
theorem dX6_readsRow_100 : decode cX6_readsRow 100 = .ok (.aload_n 0, 1) := by decide +kernel
theorem dX6_readsRow_101 : decode cX6_readsRow 101 = .ok (.iconst 1, 1) := by decide +kernel
theorem dX6_readsRow_102 : decode cX6_readsRow 102 = .ok (.sipush 999, 3) := by decide +kernel
theorem dX6_readsRow_105 : decode cX6_readsRow 105 = .ok (.invokevirtual 146, 3) := by decide +kernel
theorem dX6_readsRow_108 : decode cX6_readsRow 108 = .ok (.istore 4, 2) := by decide +kernel
theorem dX6_readsRow_110 : decode cX6_readsRow 110 = .ok (.aload_n 0, 1) := by decide +kernel
theorem dX6_readsRow_111 : decode cX6_readsRow 111 = .ok (.getfield 125, 3) := by decide +kernel
theorem dX6_readsRow_114 : decode cX6_readsRow 114 = .ok (.ifCond .eq 4, 3) := by decide +kernel
theorem dX6_readsRow_117 : decode cX6_readsRow 117 = .ok (.return_, 1) := by decide +kernel
theorem dX6_readsRow_118 : decode cX6_readsRow 118 = .ok (.aload_n 0, 1) := by decide +kernel
theorem dX6_readsRow_119 : decode cX6_readsRow 119 = .ok (.getfield 13, 3) := by decide +kernel
theorem dX6_readsRow_122 : decode cX6_readsRow 122 = .ok (.iconst 2, 1) := by decide +kernel
theorem dX6_readsRow_123 : decode cX6_readsRow 123 = .ok (.iload_n 3, 1) := by decide +kernel
theorem dX6_readsRow_124 : decode cX6_readsRow 124 = .ok (.iadd, 1) := by decide +kernel
theorem dX6_readsRow_125 : decode cX6_readsRow 125 = .ok (.iload 4, 2) := by decide +kernel
theorem dX6_readsRow_127 : decode cX6_readsRow 127 = .ok (.iastore, 1) := by decide +kernel
theorem dX6_readsRow_128 : decode cX6_readsRow 128 = .ok (.aload_n 0, 1) := by decide +kernel
theorem dX6_readsRow_129 : decode cX6_readsRow 129 = .ok (.getfield 13, 3) := by decide +kernel
theorem dX6_readsRow_132 : decode cX6_readsRow 132 = .ok (.bipush 26, 2) := by decide +kernel
theorem dX6_readsRow_134 : decode cX6_readsRow 134 = .ok (.iload_n 3, 1) := by decide +kernel
theorem dX6_readsRow_135 : decode cX6_readsRow 135 = .ok (.iadd, 1) := by decide +kernel
theorem dX6_readsRow_136 : decode cX6_readsRow 136 = .ok (.aload_n 0, 1) := by decide +kernel
theorem dX6_readsRow_137 : decode cX6_readsRow 137 = .ok (.bipush 7, 2) := by decide +kernel
theorem dX6_readsRow_139 : decode cX6_readsRow 139 = .ok (.invokevirtual 137, 3) := by decide +kernel
theorem dX6_readsRow_142 : decode cX6_readsRow 142 = .ok (.ifCond .eq 7, 3) := by decide +kernel
theorem dX6_readsRow_145 : decode cX6_readsRow 145 = .ok (.iconst 1, 1) := by decide +kernel
theorem dX6_readsRow_146 : decode cX6_readsRow 146 = .ok (.goto 4, 3) := by decide +kernel
theorem dX6_readsRow_149 : decode cX6_readsRow 149 = .ok (.iconst 0, 1) := by decide +kernel
theorem dX6_readsRow_150 : decode cX6_readsRow 150 = .ok (.iastore, 1) := by decide +kernel
theorem dX6_readsRow_151 : decode cX6_readsRow 151 = .ok (.aload_n 0, 1) := by decide +kernel
theorem dX6_readsRow_152 : decode cX6_readsRow 152 = .ok (.getfield 13, 3) := by decide +kernel
theorem dX6_readsRow_155 : decode cX6_readsRow 155 = .ok (.bipush 50, 2) := by decide +kernel
theorem dX6_readsRow_157 : decode cX6_readsRow 157 = .ok (.iload_n 3, 1) := by decide +kernel
theorem dX6_readsRow_158 : decode cX6_readsRow 158 = .ok (.iadd, 1) := by decide +kernel
theorem dX6_readsRow_159 : decode cX6_readsRow 159 = .ok (.iload_n 1, 1) := by decide +kernel
theorem dX6_readsRow_160 : decode cX6_readsRow 160 = .ok (.iastore, 1) := by decide +kernel
theorem dX6_readsRow_161 : decode cX6_readsRow 161 = .ok (.aload_n 0, 1) := by decide +kernel
theorem dX6_readsRow_162 : decode cX6_readsRow 162 = .ok (.getfield 13, 3) := by decide +kernel
theorem dX6_readsRow_165 : decode cX6_readsRow 165 = .ok (.iconst 1, 1) := by decide +kernel
theorem dX6_readsRow_166 : decode cX6_readsRow 166 = .ok (.dup2, 1) := by decide +kernel
theorem dX6_readsRow_167 : decode cX6_readsRow 167 = .ok (.iaload, 1) := by decide +kernel
theorem dX6_readsRow_168 : decode cX6_readsRow 168 = .ok (.iconst 1, 1) := by decide +kernel
theorem dX6_readsRow_169 : decode cX6_readsRow 169 = .ok (.iadd, 1) := by decide +kernel
theorem dX6_readsRow_170 : decode cX6_readsRow 170 = .ok (.iastore, 1) := by decide +kernel
theorem dX6_readsRow_171 : decode cX6_readsRow 171 = .ok (.iinc 2 1, 3) := by decide +kernel
theorem dX6_readsRow_174 : decode cX6_readsRow 174 = .ok (.goto (-142), 3) := by decide +kernel
theorem dX6_readsRow_177 : decode cX6_readsRow 177 = .ok (.aload_n 0, 1) := by decide +kernel
theorem dX6_readsRow_178 : decode cX6_readsRow 178 = .ok (.getfield 13, 3) := by decide +kernel
theorem dX6_readsRow_181 : decode cX6_readsRow 181 = .ok (.iconst 0, 1) := by decide +kernel
theorem dX6_readsRow_182 : decode cX6_readsRow 182 = .ok (.dup2, 1) := by decide +kernel
theorem dX6_readsRow_183 : decode cX6_readsRow 183 = .ok (.iaload, 1) := by decide +kernel
theorem dX6_readsRow_184 : decode cX6_readsRow 184 = .ok (.iconst 1, 1) := by decide +kernel
theorem dX6_readsRow_185 : decode cX6_readsRow 185 = .ok (.iadd, 1) := by decide +kernel
theorem dX6_readsRow_186 : decode cX6_readsRow 186 = .ok (.iastore, 1) := by decide +kernel
theorem dX6_readsRow_187 : decode cX6_readsRow 187 = .ok (.return_, 1) := by decide +kernel
theorem dX6_readsTrader_0 : decode cX6_readsTrader 0 = .ok (.aload_n 0, 1) := by decide +kernel
theorem dX6_readsTrader_1 : decode cX6_readsTrader 1 = .ok (.getfield 13, 3) := by decide +kernel
theorem dX6_readsTrader_4 : decode cX6_readsTrader 4 = .ok (.bipush 74, 2) := by decide +kernel
theorem dX6_readsTrader_6 : decode cX6_readsTrader 6 = .ok (.iaload, 1) := by decide +kernel
theorem dX6_readsTrader_7 : decode cX6_readsTrader 7 = .ok (.istore_n 1, 1) := by decide +kernel
theorem dX6_readsTrader_8 : decode cX6_readsTrader 8 = .ok (.iload_n 1, 1) := by decide +kernel
theorem dX6_readsTrader_9 : decode cX6_readsTrader 9 = .ok (.bipush 8, 2) := by decide +kernel
theorem dX6_readsTrader_11 : decode cX6_readsTrader 11 = .ok (.if_icmp .ne 9, 3) := by decide +kernel
theorem dX6_readsTrader_14 : decode cX6_readsTrader 14 = .ok (.aload_n 0, 1) := by decide +kernel
theorem dX6_readsTrader_15 : decode cX6_readsTrader 15 = .ok (.bipush (-4), 2) := by decide +kernel
theorem dX6_readsTrader_17 : decode cX6_readsTrader 17 = .ok (.invokevirtual 140, 3) := by decide +kernel
theorem dX6_readsTrader_20 : decode cX6_readsTrader 20 = .ok (.aload_n 0, 1) := by decide +kernel
theorem dX6_readsTrader_21 : decode cX6_readsTrader 21 = .ok (.getfield 125, 3) := by decide +kernel
theorem dX6_readsTrader_24 : decode cX6_readsTrader 24 = .ok (.ifCond .eq 4, 3) := by decide +kernel
theorem dX6_readsTrader_27 : decode cX6_readsTrader 27 = .ok (.return_, 1) := by decide +kernel
theorem dX6_readsTrader_28 : decode cX6_readsTrader 28 = .ok (.aload_n 0, 1) := by decide +kernel
theorem dX6_readsTrader_29 : decode cX6_readsTrader 29 = .ok (.invokevirtual 134, 3) := by decide +kernel
theorem dX6_readsTrader_32 : decode cX6_readsTrader 32 = .ok (.aload_n 0, 1) := by decide +kernel
theorem dX6_readsTrader_33 : decode cX6_readsTrader 33 = .ok (.iconst 0, 1) := by decide +kernel
theorem dX6_readsTrader_34 : decode cX6_readsTrader 34 = .ok (.bipush 7, 2) := by decide +kernel
theorem dX6_readsTrader_36 : decode cX6_readsTrader 36 = .ok (.invokevirtual 146, 3) := by decide +kernel
theorem dX6_readsTrader_39 : decode cX6_readsTrader 39 = .ok (.istore_n 2, 1) := by decide +kernel
theorem dX6_readsTrader_40 : decode cX6_readsTrader 40 = .ok (.aload_n 0, 1) := by decide +kernel
theorem dX6_readsTrader_41 : decode cX6_readsTrader 41 = .ok (.iconst 2, 1) := by decide +kernel
theorem dX6_readsTrader_42 : decode cX6_readsTrader 42 = .ok (.invokevirtual 150, 3) := by decide +kernel
theorem dX6_readsTrader_45 : decode cX6_readsTrader 45 = .ok (.aload_n 0, 1) := by decide +kernel
theorem dX6_readsTrader_46 : decode cX6_readsTrader 46 = .ok (.iconst 1, 1) := by decide +kernel
theorem dX6_readsTrader_47 : decode cX6_readsTrader 47 = .ok (.iconst 3, 1) := by decide +kernel
theorem dX6_readsTrader_48 : decode cX6_readsTrader 48 = .ok (.invokevirtual 146, 3) := by decide +kernel
theorem dX6_readsTrader_51 : decode cX6_readsTrader 51 = .ok (.istore_n 3, 1) := by decide +kernel
theorem dX6_readsTrader_52 : decode cX6_readsTrader 52 = .ok (.aload_n 0, 1) := by decide +kernel
theorem dX6_readsTrader_53 : decode cX6_readsTrader 53 = .ok (.iconst 3, 1) := by decide +kernel
theorem dX6_readsTrader_54 : decode cX6_readsTrader 54 = .ok (.invokevirtual 150, 3) := by decide +kernel
theorem dX6_readsTrader_57 : decode cX6_readsTrader 57 = .ok (.aload_n 0, 1) := by decide +kernel
theorem dX6_readsTrader_58 : decode cX6_readsTrader 58 = .ok (.iconst 1, 1) := by decide +kernel
theorem dX6_readsTrader_59 : decode cX6_readsTrader 59 = .ok (.sipush 9999, 3) := by decide +kernel
theorem dX6_readsTrader_62 : decode cX6_readsTrader 62 = .ok (.invokevirtual 146, 3) := by decide +kernel
theorem dX6_readsTrader_65 : decode cX6_readsTrader 65 = .ok (.istore 4, 2) := by decide +kernel
theorem dX6_readsTrader_67 : decode cX6_readsTrader 67 = .ok (.aload_n 0, 1) := by decide +kernel
theorem dX6_readsTrader_68 : decode cX6_readsTrader 68 = .ok (.getfield 125, 3) := by decide +kernel
theorem dX6_readsTrader_71 : decode cX6_readsTrader 71 = .ok (.ifCond .eq 4, 3) := by decide +kernel
theorem dX6_readsTrader_74 : decode cX6_readsTrader 74 = .ok (.return_, 1) := by decide +kernel
theorem dX6_readsTrader_75 : decode cX6_readsTrader 75 = .ok (.aload_n 0, 1) := by decide +kernel
theorem dX6_readsTrader_76 : decode cX6_readsTrader 76 = .ok (.getfield 13, 3) := by decide +kernel
theorem dX6_readsTrader_79 : decode cX6_readsTrader 79 = .ok (.bipush 75, 2) := by decide +kernel
theorem dX6_readsTrader_81 : decode cX6_readsTrader 81 = .ok (.iload_n 1, 1) := by decide +kernel
theorem dX6_readsTrader_82 : decode cX6_readsTrader 82 = .ok (.iadd, 1) := by decide +kernel
theorem dX6_readsTrader_83 : decode cX6_readsTrader 83 = .ok (.iload_n 2, 1) := by decide +kernel
theorem dX6_readsTrader_84 : decode cX6_readsTrader 84 = .ok (.iastore, 1) := by decide +kernel
theorem dX6_readsTrader_85 : decode cX6_readsTrader 85 = .ok (.aload_n 0, 1) := by decide +kernel
theorem dX6_readsTrader_86 : decode cX6_readsTrader 86 = .ok (.getfield 13, 3) := by decide +kernel
theorem dX6_readsTrader_89 : decode cX6_readsTrader 89 = .ok (.bipush 83, 2) := by decide +kernel
theorem dX6_readsTrader_91 : decode cX6_readsTrader 91 = .ok (.iload_n 1, 1) := by decide +kernel
theorem dX6_readsTrader_92 : decode cX6_readsTrader 92 = .ok (.iadd, 1) := by decide +kernel
theorem dX6_readsTrader_93 : decode cX6_readsTrader 93 = .ok (.iload_n 3, 1) := by decide +kernel
theorem dX6_readsTrader_94 : decode cX6_readsTrader 94 = .ok (.iastore, 1) := by decide +kernel
theorem dX6_readsTrader_95 : decode cX6_readsTrader 95 = .ok (.aload_n 0, 1) := by decide +kernel
theorem dX6_readsTrader_96 : decode cX6_readsTrader 96 = .ok (.getfield 13, 3) := by decide +kernel
theorem dX6_readsTrader_99 : decode cX6_readsTrader 99 = .ok (.bipush 91, 2) := by decide +kernel
theorem dX6_readsTrader_101 : decode cX6_readsTrader 101 = .ok (.iload_n 1, 1) := by decide +kernel
theorem dX6_readsTrader_102 : decode cX6_readsTrader 102 = .ok (.iadd, 1) := by decide +kernel
theorem dX6_readsTrader_103 : decode cX6_readsTrader 103 = .ok (.iload 4, 2) := by decide +kernel
theorem dX6_readsTrader_105 : decode cX6_readsTrader 105 = .ok (.iastore, 1) := by decide +kernel
theorem dX6_readsTrader_106 : decode cX6_readsTrader 106 = .ok (.aload_n 0, 1) := by decide +kernel
theorem dX6_readsTrader_107 : decode cX6_readsTrader 107 = .ok (.getfield 13, 3) := by decide +kernel
theorem dX6_readsTrader_110 : decode cX6_readsTrader 110 = .ok (.bipush 99, 2) := by decide +kernel
theorem dX6_readsTrader_112 : decode cX6_readsTrader 112 = .ok (.iload_n 1, 1) := by decide +kernel
theorem dX6_readsTrader_113 : decode cX6_readsTrader 113 = .ok (.iadd, 1) := by decide +kernel
theorem dX6_readsTrader_114 : decode cX6_readsTrader 114 = .ok (.aload_n 0, 1) := by decide +kernel
theorem dX6_readsTrader_115 : decode cX6_readsTrader 115 = .ok (.iconst 4, 1) := by decide +kernel
theorem dX6_readsTrader_116 : decode cX6_readsTrader 116 = .ok (.invokevirtual 137, 3) := by decide +kernel
theorem dX6_readsTrader_119 : decode cX6_readsTrader 119 = .ok (.ifCond .eq 7, 3) := by decide +kernel
theorem dX6_readsTrader_122 : decode cX6_readsTrader 122 = .ok (.iconst 1, 1) := by decide +kernel
theorem dX6_readsTrader_123 : decode cX6_readsTrader 123 = .ok (.goto 4, 3) := by decide +kernel
theorem dX6_readsTrader_126 : decode cX6_readsTrader 126 = .ok (.iconst 0, 1) := by decide +kernel
theorem dX6_readsTrader_127 : decode cX6_readsTrader 127 = .ok (.iastore, 1) := by decide +kernel
theorem dX6_readsTrader_128 : decode cX6_readsTrader 128 = .ok (.aload_n 0, 1) := by decide +kernel
theorem dX6_readsTrader_129 : decode cX6_readsTrader 129 = .ok (.getfield 13, 3) := by decide +kernel
theorem dX6_readsTrader_132 : decode cX6_readsTrader 132 = .ok (.bipush 74, 2) := by decide +kernel
theorem dX6_readsTrader_134 : decode cX6_readsTrader 134 = .ok (.dup2, 1) := by decide +kernel
theorem dX6_readsTrader_135 : decode cX6_readsTrader 135 = .ok (.iaload, 1) := by decide +kernel
theorem dX6_readsTrader_136 : decode cX6_readsTrader 136 = .ok (.iconst 1, 1) := by decide +kernel
theorem dX6_readsTrader_137 : decode cX6_readsTrader 137 = .ok (.iadd, 1) := by decide +kernel
theorem dX6_readsTrader_138 : decode cX6_readsTrader 138 = .ok (.iastore, 1) := by decide +kernel
theorem dX6_readsTrader_139 : decode cX6_readsTrader 139 = .ok (.return_, 1) := by decide +kernel
theorem dX6_readsStatement_0 : decode cX6_readsStatement 0 = .ok (.aload_n 0, 1) := by decide +kernel
theorem dX6_readsStatement_1 : decode cX6_readsStatement 1 = .ok (.iconst 0, 1) := by decide +kernel
theorem dX6_readsStatement_2 : decode cX6_readsStatement 2 = .ok (.invokevirtual 131, 3) := by decide +kernel
theorem dX6_readsStatement_5 : decode cX6_readsStatement 5 = .ok (.ifCond .eq 10, 3) := by decide +kernel
theorem dX6_readsStatement_8 : decode cX6_readsStatement 8 = .ok (.aload_n 0, 1) := by decide +kernel
theorem dX6_readsStatement_9 : decode cX6_readsStatement 9 = .ok (.invokevirtual 153, 3) := by decide +kernel
theorem dX6_readsStatement_12 : decode cX6_readsStatement 12 = .ok (.goto 94, 3) := by decide +kernel
theorem dX6_readsStatement_15 : decode cX6_readsStatement 15 = .ok (.aload_n 0, 1) := by decide +kernel
theorem dX6_readsStatement_16 : decode cX6_readsStatement 16 = .ok (.iconst 1, 1) := by decide +kernel
theorem dX6_readsStatement_17 : decode cX6_readsStatement 17 = .ok (.invokevirtual 131, 3) := by decide +kernel
theorem dX6_readsStatement_20 : decode cX6_readsStatement 20 = .ok (.ifCond .eq 10, 3) := by decide +kernel
theorem dX6_readsStatement_23 : decode cX6_readsStatement 23 = .ok (.aload_n 0, 1) := by decide +kernel
theorem dX6_readsStatement_24 : decode cX6_readsStatement 24 = .ok (.invokevirtual 156, 3) := by decide +kernel
theorem dX6_readsStatement_27 : decode cX6_readsStatement 27 = .ok (.goto 79, 3) := by decide +kernel
theorem dX6_readsStatement_30 : decode cX6_readsStatement 30 = .ok (.aload_n 0, 1) := by decide +kernel
theorem dX6_readsStatement_31 : decode cX6_readsStatement 31 = .ok (.iconst 5, 1) := by decide +kernel
theorem dX6_readsStatement_32 : decode cX6_readsStatement 32 = .ok (.invokevirtual 137, 3) := by decide +kernel
theorem dX6_readsStatement_35 : decode cX6_readsStatement 35 = .ok (.ifCond .eq 39, 3) := by decide +kernel
theorem dX6_readsStatement_38 : decode cX6_readsStatement 38 = .ok (.aload_n 0, 1) := by decide +kernel
theorem dX6_readsStatement_39 : decode cX6_readsStatement 39 = .ok (.iconst 0, 1) := by decide +kernel
theorem dX6_readsStatement_40 : decode cX6_readsStatement 40 = .ok (.bipush 7, 2) := by decide +kernel
theorem dX6_readsStatement_42 : decode cX6_readsStatement 42 = .ok (.invokevirtual 146, 3) := by decide +kernel
theorem dX6_readsStatement_45 : decode cX6_readsStatement 45 = .ok (.istore_n 1, 1) := by decide +kernel
theorem dX6_readsStatement_46 : decode cX6_readsStatement 46 = .ok (.aload_n 0, 1) := by decide +kernel
theorem dX6_readsStatement_47 : decode cX6_readsStatement 47 = .ok (.iconst 0, 1) := by decide +kernel
theorem dX6_readsStatement_48 : decode cX6_readsStatement 48 = .ok (.bipush 7, 2) := by decide +kernel
theorem dX6_readsStatement_50 : decode cX6_readsStatement 50 = .ok (.invokevirtual 146, 3) := by decide +kernel
theorem dX6_readsStatement_53 : decode cX6_readsStatement 53 = .ok (.istore_n 2, 1) := by decide +kernel
theorem dX6_readsStatement_54 : decode cX6_readsStatement 54 = .ok (.aload_n 0, 1) := by decide +kernel
theorem dX6_readsStatement_55 : decode cX6_readsStatement 55 = .ok (.getfield 125, 3) := by decide +kernel
theorem dX6_readsStatement_58 : decode cX6_readsStatement 58 = .ok (.ifCond .ne 13, 3) := by decide +kernel
theorem dX6_readsStatement_61 : decode cX6_readsStatement 61 = .ok (.aload_n 0, 1) := by decide +kernel
theorem dX6_readsStatement_62 : decode cX6_readsStatement 62 = .ok (.getfield 13, 3) := by decide +kernel
theorem dX6_readsStatement_65 : decode cX6_readsStatement 65 = .ok (.iload_n 1, 1) := by decide +kernel
theorem dX6_readsStatement_66 : decode cX6_readsStatement 66 = .ok (.iload_n 2, 1) := by decide +kernel
theorem dX6_readsStatement_67 : decode cX6_readsStatement 67 = .ok (.iconst 1, 1) := by decide +kernel
theorem dX6_readsStatement_68 : decode cX6_readsStatement 68 = .ok (.invokestatic 159, 3) := by decide +kernel
theorem dX6_readsStatement_71 : decode cX6_readsStatement 71 = .ok (.goto 35, 3) := by decide +kernel
theorem dX6_readsStatement_74 : decode cX6_readsStatement 74 = .ok (.aload_n 0, 1) := by decide +kernel
theorem dX6_readsStatement_75 : decode cX6_readsStatement 75 = .ok (.bipush 6, 2) := by decide +kernel
theorem dX6_readsStatement_77 : decode cX6_readsStatement 77 = .ok (.invokevirtual 137, 3) := by decide +kernel
theorem dX6_readsStatement_80 : decode cX6_readsStatement 80 = .ok (.ifCond .eq 20, 3) := by decide +kernel
theorem dX6_readsStatement_83 : decode cX6_readsStatement 83 = .ok (.aload_n 0, 1) := by decide +kernel
theorem dX6_readsStatement_84 : decode cX6_readsStatement 84 = .ok (.getfield 13, 3) := by decide +kernel
theorem dX6_readsStatement_87 : decode cX6_readsStatement 87 = .ok (.sipush 179, 3) := by decide +kernel
theorem dX6_readsStatement_90 : decode cX6_readsStatement 90 = .ok (.aload_n 0, 1) := by decide +kernel
theorem dX6_readsStatement_91 : decode cX6_readsStatement 91 = .ok (.iconst 0, 1) := by decide +kernel
theorem dX6_readsStatement_92 : decode cX6_readsStatement 92 = .ok (.iconst 4, 1) := by decide +kernel
theorem dX6_readsStatement_93 : decode cX6_readsStatement 93 = .ok (.invokevirtual 146, 3) := by decide +kernel
theorem dX6_readsStatement_96 : decode cX6_readsStatement 96 = .ok (.iastore, 1) := by decide +kernel
theorem dX6_readsStatement_97 : decode cX6_readsStatement 97 = .ok (.goto 9, 3) := by decide +kernel
theorem dX6_readsStatement_100 : decode cX6_readsStatement 100 = .ok (.aload_n 0, 1) := by decide +kernel
theorem dX6_readsStatement_101 : decode cX6_readsStatement 101 = .ok (.bipush (-2), 2) := by decide +kernel
theorem dX6_readsStatement_103 : decode cX6_readsStatement 103 = .ok (.invokevirtual 140, 3) := by decide +kernel
theorem dX6_readsStatement_106 : decode cX6_readsStatement 106 = .ok (.aload_n 0, 1) := by decide +kernel
theorem dX6_readsStatement_107 : decode cX6_readsStatement 107 = .ok (.bipush 10, 2) := by decide +kernel
theorem dX6_readsStatement_109 : decode cX6_readsStatement 109 = .ok (.invokevirtual 150, 3) := by decide +kernel
theorem dX6_readsStatement_112 : decode cX6_readsStatement 112 = .ok (.return_, 1) := by decide +kernel
theorem dX6_clashes_0 : decode cX6_clashes 0 = .ok (.aload_n 0, 1) := by decide +kernel
theorem dX6_clashes_1 : decode cX6_clashes 1 = .ok (.bipush 115, 2) := by decide +kernel
theorem dX6_clashes_3 : decode cX6_clashes 3 = .ok (.bipush 8, 2) := by decide +kernel
theorem dX6_clashes_5 : decode cX6_clashes 5 = .ok (.iload_n 1, 1) := by decide +kernel
theorem dX6_clashes_6 : decode cX6_clashes 6 = .ok (.imul, 1) := by decide +kernel
theorem dX6_clashes_7 : decode cX6_clashes 7 = .ok (.iadd, 1) := by decide +kernel
theorem dX6_clashes_8 : decode cX6_clashes 8 = .ok (.iload_n 2, 1) := by decide +kernel
theorem dX6_clashes_9 : decode cX6_clashes 9 = .ok (.iadd, 1) := by decide +kernel
theorem dX6_clashes_10 : decode cX6_clashes 10 = .ok (.iload_n 3, 1) := by decide +kernel
theorem dX6_clashes_11 : decode cX6_clashes 11 = .ok (.iastore, 1) := by decide +kernel
theorem dX6_clashes_12 : decode cX6_clashes 12 = .ok (.aload_n 0, 1) := by decide +kernel
theorem dX6_clashes_13 : decode cX6_clashes 13 = .ok (.bipush 115, 2) := by decide +kernel
theorem dX6_clashes_15 : decode cX6_clashes 15 = .ok (.bipush 8, 2) := by decide +kernel
theorem dX6_clashes_17 : decode cX6_clashes 17 = .ok (.iload_n 2, 1) := by decide +kernel
theorem dX6_clashes_18 : decode cX6_clashes 18 = .ok (.imul, 1) := by decide +kernel
theorem dX6_clashes_19 : decode cX6_clashes 19 = .ok (.iadd, 1) := by decide +kernel
theorem dX6_clashes_20 : decode cX6_clashes 20 = .ok (.iload_n 1, 1) := by decide +kernel
theorem dX6_clashes_21 : decode cX6_clashes 21 = .ok (.iadd, 1) := by decide +kernel
theorem dX6_clashes_22 : decode cX6_clashes 22 = .ok (.iload_n 3, 1) := by decide +kernel
theorem dX6_clashes_23 : decode cX6_clashes 23 = .ok (.iastore, 1) := by decide +kernel
theorem dX6_clashes_24 : decode cX6_clashes 24 = .ok (.return_, 1) := by decide +kernel
theorem dX6_load_0 : decode cX6_load 0 = .ok (.aload_n 0, 1) := by decide +kernel
theorem dX6_load_1 : decode cX6_load 1 = .ok (.iload_n 1, 1) := by decide +kernel
theorem dX6_load_2 : decode cX6_load 2 = .ok (.i2l, 1) := by decide +kernel
theorem dX6_load_3 : decode cX6_load 3 = .ok (.lconst 0, 1) := by decide +kernel
theorem dX6_load_4 : decode cX6_load 4 = .ok (.aload_n 0, 1) := by decide +kernel
theorem dX6_load_5 : decode cX6_load 5 = .ok (.getfield 64, 3) := by decide +kernel
theorem dX6_load_8 : decode cX6_load 8 = .ok (.i2l, 1) := by decide +kernel
theorem dX6_load_9 : decode cX6_load 9 = .ok (.invokestatic 74, 3) := by decide +kernel
theorem dX6_load_12 : decode cX6_load 12 = .ok (.ifCond .eq 7, 3) := by decide +kernel
theorem dX6_load_15 : decode cX6_load 15 = .ok (.iconst 0, 1) := by decide +kernel
theorem dX6_load_16 : decode cX6_load 16 = .ok (.goto 4, 3) := by decide +kernel
theorem dX6_load_19 : decode cX6_load 19 = .ok (.iconst 1, 1) := by decide +kernel
theorem dX6_load_20 : decode cX6_load 20 = .ok (.putfield 58, 3) := by decide +kernel
theorem dX6_load_23 : decode cX6_load 23 = .ok (.aload_n 0, 1) := by decide +kernel
theorem dX6_load_24 : decode cX6_load 24 = .ok (.getfield 58, 3) := by decide +kernel
theorem dX6_load_27 : decode cX6_load 27 = .ok (.ifCond .le 5, 3) := by decide +kernel
theorem dX6_load_30 : decode cX6_load 30 = .ok (.iconst 0, 1) := by decide +kernel
theorem dX6_load_31 : decode cX6_load 31 = .ok (.ireturn, 1) := by decide +kernel
theorem dX6_load_32 : decode cX6_load 32 = .ok (.aload_n 0, 1) := by decide +kernel
theorem dX6_load_33 : decode cX6_load 33 = .ok (.iload_n 1, 1) := by decide +kernel
theorem dX6_load_34 : decode cX6_load 34 = .ok (.putfield 67, 3) := by decide +kernel
theorem dX6_load_37 : decode cX6_load 37 = .ok (.aload_n 0, 1) := by decide +kernel
theorem dX6_load_38 : decode cX6_load 38 = .ok (.iconst 0, 1) := by decide +kernel
theorem dX6_load_39 : decode cX6_load 39 = .ok (.putfield 64, 3) := by decide +kernel
theorem dX6_load_42 : decode cX6_load 42 = .ok (.aload_n 0, 1) := by decide +kernel
theorem dX6_load_43 : decode cX6_load 43 = .ok (.iconst 0, 1) := by decide +kernel
theorem dX6_load_44 : decode cX6_load 44 = .ok (.putfield 97, 3) := by decide +kernel
theorem dX6_load_47 : decode cX6_load 47 = .ok (.aload_n 0, 1) := by decide +kernel
theorem dX6_load_48 : decode cX6_load 48 = .ok (.iconst 0, 1) := by decide +kernel
theorem dX6_load_49 : decode cX6_load 49 = .ok (.putfield 125, 3) := by decide +kernel
theorem dX6_load_52 : decode cX6_load 52 = .ok (.iconst 0, 1) := by decide +kernel
theorem dX6_load_53 : decode cX6_load 53 = .ok (.istore_n 2, 1) := by decide +kernel
theorem dX6_load_54 : decode cX6_load 54 = .ok (.iload_n 2, 1) := by decide +kernel
theorem dX6_load_55 : decode cX6_load 55 = .ok (.sipush 180, 3) := by decide +kernel
theorem dX6_load_58 : decode cX6_load 58 = .ok (.if_icmp .ge 34, 3) := by decide +kernel
theorem dX6_load_61 : decode cX6_load 61 = .ok (.aload_n 0, 1) := by decide +kernel
theorem dX6_load_62 : decode cX6_load 62 = .ok (.getfield 13, 3) := by decide +kernel
theorem dX6_load_65 : decode cX6_load 65 = .ok (.iload_n 2, 1) := by decide +kernel
theorem dX6_load_66 : decode cX6_load 66 = .ok (.iload_n 2, 1) := by decide +kernel
theorem dX6_load_67 : decode cX6_load 67 = .ok (.i2l, 1) := by decide +kernel
theorem dX6_load_68 : decode cX6_load 68 = .ok (.ldc2_w 163, 3) := by decide +kernel
theorem dX6_load_71 : decode cX6_load 71 = .ok (.ldc2_w 165, 3) := by decide +kernel
theorem dX6_load_74 : decode cX6_load 74 = .ok (.invokestatic 74, 3) := by decide +kernel
theorem dX6_load_77 : decode cX6_load 77 = .ok (.ifCond .eq 7, 3) := by decide +kernel
theorem dX6_load_80 : decode cX6_load 80 = .ok (.iconst (-1), 1) := by decide +kernel
theorem dX6_load_81 : decode cX6_load 81 = .ok (.goto 4, 3) := by decide +kernel
theorem dX6_load_84 : decode cX6_load 84 = .ok (.iconst 0, 1) := by decide +kernel
theorem dX6_load_85 : decode cX6_load 85 = .ok (.iastore, 1) := by decide +kernel
theorem dX6_load_86 : decode cX6_load 86 = .ok (.iinc 2 1, 3) := by decide +kernel
theorem dX6_load_89 : decode cX6_load 89 = .ok (.goto (-35), 3) := by decide +kernel
theorem dX6_load_92 : decode cX6_load 92 = .ok (.aload_n 0, 1) := by decide +kernel
theorem dX6_load_93 : decode cX6_load 93 = .ok (.invokevirtual 134, 3) := by decide +kernel
theorem dX6_load_96 : decode cX6_load 96 = .ok (.iconst 0, 1) := by decide +kernel
theorem dX6_load_97 : decode cX6_load 97 = .ok (.istore_n 2, 1) := by decide +kernel
theorem dX6_load_98 : decode cX6_load 98 = .ok (.aload_n 0, 1) := by decide +kernel
theorem dX6_load_99 : decode cX6_load 99 = .ok (.getfield 125, 3) := by decide +kernel
theorem dX6_load_102 : decode cX6_load 102 = .ok (.ifCond .ne 22, 3) := by decide +kernel
theorem dX6_load_105 : decode cX6_load 105 = .ok (.aload_n 0, 1) := by decide +kernel
theorem dX6_load_106 : decode cX6_load 106 = .ok (.getfield 104, 3) := by decide +kernel
theorem dX6_load_109 : decode cX6_load 109 = .ok (.bipush 11, 2) := by decide +kernel
theorem dX6_load_111 : decode cX6_load 111 = .ok (.if_icmp .eq 13, 3) := by decide +kernel
theorem dX6_load_114 : decode cX6_load 114 = .ok (.aload_n 0, 1) := by decide +kernel
theorem dX6_load_115 : decode cX6_load 115 = .ok (.invokevirtual 167, 3) := by decide +kernel
theorem dX6_load_118 : decode cX6_load 118 = .ok (.iinc 2 1, 3) := by decide +kernel
theorem dX6_load_121 : decode cX6_load 121 = .ok (.goto (-23), 3) := by decide +kernel
theorem dX6_load_124 : decode cX6_load 124 = .ok (.aload_n 0, 1) := by decide +kernel
theorem dX6_load_125 : decode cX6_load 125 = .ok (.aload_n 0, 1) := by decide +kernel
theorem dX6_load_126 : decode cX6_load 126 = .ok (.getfield 125, 3) := by decide +kernel
theorem dX6_load_129 : decode cX6_load 129 = .ok (.ifCond .ne 7, 3) := by decide +kernel
theorem dX6_load_132 : decode cX6_load 132 = .ok (.iconst (-1), 1) := by decide +kernel
theorem dX6_load_133 : decode cX6_load 133 = .ok (.goto 7, 3) := by decide +kernel
theorem dX6_load_136 : decode cX6_load 136 = .ok (.aload_n 0, 1) := by decide +kernel
theorem dX6_load_137 : decode cX6_load 137 = .ok (.getfield 128, 3) := by decide +kernel
theorem dX6_load_140 : decode cX6_load 140 = .ok (.putfield 22, 3) := by decide +kernel
theorem dX6_load_143 : decode cX6_load 143 = .ok (.aload_n 0, 1) := by decide +kernel
theorem dX6_load_144 : decode cX6_load 144 = .ok (.getfield 125, 3) := by decide +kernel
theorem dX6_load_147 : decode cX6_load 147 = .ok (.ifCond .eq 8, 3) := by decide +kernel
theorem dX6_load_150 : decode cX6_load 150 = .ok (.aload_n 0, 1) := by decide +kernel
theorem dX6_load_151 : decode cX6_load 151 = .ok (.getfield 125, 3) := by decide +kernel
theorem dX6_load_154 : decode cX6_load 154 = .ok (.ireturn, 1) := by decide +kernel
theorem dX6_load_155 : decode cX6_load 155 = .ok (.aload_n 0, 1) := by decide +kernel
theorem dX6_load_156 : decode cX6_load 156 = .ok (.invokevirtual 170, 3) := by decide +kernel
theorem dX6_load_159 : decode cX6_load 159 = .ok (.iconst 0, 1) := by decide +kernel
theorem dX6_load_160 : decode cX6_load 160 = .ok (.istore_n 3, 1) := by decide +kernel
theorem dX6_load_161 : decode cX6_load 161 = .ok (.iload_n 3, 1) := by decide +kernel
theorem dX6_load_162 : decode cX6_load 162 = .ok (.sipush 180, 3) := by decide +kernel
theorem dX6_load_165 : decode cX6_load 165 = .ok (.if_icmp .ge 21, 3) := by decide +kernel
theorem dX6_load_168 : decode cX6_load 168 = .ok (.aload_n 0, 1) := by decide +kernel
theorem dX6_load_169 : decode cX6_load 169 = .ok (.getfield 7, 3) := by decide +kernel
theorem dX6_load_172 : decode cX6_load 172 = .ok (.iload_n 3, 1) := by decide +kernel
theorem dX6_load_173 : decode cX6_load 173 = .ok (.aload_n 0, 1) := by decide +kernel
theorem dX6_load_174 : decode cX6_load 174 = .ok (.getfield 13, 3) := by decide +kernel
theorem dX6_load_177 : decode cX6_load 177 = .ok (.iload_n 3, 1) := by decide +kernel
theorem dX6_load_178 : decode cX6_load 178 = .ok (.iaload, 1) := by decide +kernel
theorem dX6_load_179 : decode cX6_load 179 = .ok (.iastore, 1) := by decide +kernel
theorem dX6_load_180 : decode cX6_load 180 = .ok (.iinc 3 1, 3) := by decide +kernel
theorem dX6_load_183 : decode cX6_load 183 = .ok (.goto (-22), 3) := by decide +kernel
theorem dX6_load_186 : decode cX6_load 186 = .ok (.iload_n 2, 1) := by decide +kernel
theorem dX6_load_187 : decode cX6_load 187 = .ok (.ireturn, 1) := by decide +kernel
theorem dX6_errorPosition_0 : decode cX6_errorPosition 0 = .ok (.aload_n 0, 1) := by decide +kernel
theorem dX6_errorPosition_1 : decode cX6_errorPosition 1 = .ok (.iconst 0, 1) := by decide +kernel
theorem dX6_errorPosition_2 : decode cX6_errorPosition 2 = .ok (.putfield 58, 3) := by decide +kernel
theorem dX6_errorPosition_5 : decode cX6_errorPosition 5 = .ok (.aload_n 0, 1) := by decide +kernel
theorem dX6_errorPosition_6 : decode cX6_errorPosition 6 = .ok (.getfield 22, 3) := by decide +kernel
theorem dX6_errorPosition_9 : decode cX6_errorPosition 9 = .ok (.ireturn, 1) := by decide +kernel
theorem dX6_isPitch_0 : decode cX6_isPitch 0 = .ok (.iload_n 1, 1) := by decide +kernel
theorem dX6_isPitch_1 : decode cX6_isPitch 1 = .ok (.i2l, 1) := by decide +kernel
theorem dX6_isPitch_2 : decode cX6_isPitch 2 = .ok (.lconst 0, 1) := by decide +kernel
theorem dX6_isPitch_3 : decode cX6_isPitch 3 = .ok (.aload_n 0, 1) := by decide +kernel
theorem dX6_isPitch_4 : decode cX6_isPitch 4 = .ok (.getfield 7, 3) := by decide +kernel
theorem dX6_isPitch_7 : decode cX6_isPitch 7 = .ok (.iconst 1, 1) := by decide +kernel
theorem dX6_isPitch_8 : decode cX6_isPitch 8 = .ok (.iaload, 1) := by decide +kernel
theorem dX6_isPitch_9 : decode cX6_isPitch 9 = .ok (.iconst 1, 1) := by decide +kernel
theorem dX6_isPitch_10 : decode cX6_isPitch 10 = .ok (.isub, 1) := by decide +kernel
theorem dX6_isPitch_11 : decode cX6_isPitch 11 = .ok (.i2l, 1) := by decide +kernel
theorem dX6_isPitch_12 : decode cX6_isPitch 12 = .ok (.invokestatic 74, 3) := by decide +kernel
theorem dX6_isPitch_15 : decode cX6_isPitch 15 = .ok (.ireturn, 1) := by decide +kernel
theorem dX6_isTrader_0 : decode cX6_isTrader 0 = .ok (.iload_n 1, 1) := by decide +kernel
theorem dX6_isTrader_1 : decode cX6_isTrader 1 = .ok (.i2l, 1) := by decide +kernel
theorem dX6_isTrader_2 : decode cX6_isTrader 2 = .ok (.lconst 0, 1) := by decide +kernel
theorem dX6_isTrader_3 : decode cX6_isTrader 3 = .ok (.aload_n 0, 1) := by decide +kernel
theorem dX6_isTrader_4 : decode cX6_isTrader 4 = .ok (.getfield 7, 3) := by decide +kernel
theorem dX6_isTrader_7 : decode cX6_isTrader 7 = .ok (.bipush 74, 2) := by decide +kernel
theorem dX6_isTrader_9 : decode cX6_isTrader 9 = .ok (.iaload, 1) := by decide +kernel
theorem dX6_isTrader_10 : decode cX6_isTrader 10 = .ok (.iconst 1, 1) := by decide +kernel
theorem dX6_isTrader_11 : decode cX6_isTrader 11 = .ok (.isub, 1) := by decide +kernel
theorem dX6_isTrader_12 : decode cX6_isTrader 12 = .ok (.i2l, 1) := by decide +kernel
theorem dX6_isTrader_13 : decode cX6_isTrader 13 = .ok (.invokestatic 74, 3) := by decide +kernel
theorem dX6_isTrader_16 : decode cX6_isTrader 16 = .ok (.ireturn, 1) := by decide +kernel
theorem dX6_areTrades_0 : decode cX6_areTrades 0 = .ok (.iload_n 0, 1) := by decide +kernel
theorem dX6_areTrades_1 : decode cX6_areTrades 1 = .ok (.i2l, 1) := by decide +kernel
theorem dX6_areTrades_2 : decode cX6_areTrades 2 = .ok (.lconst 0, 1) := by decide +kernel
theorem dX6_areTrades_3 : decode cX6_areTrades 3 = .ok (.ldc2_w 173, 3) := by decide +kernel
theorem dX6_areTrades_6 : decode cX6_areTrades 6 = .ok (.invokestatic 74, 3) := by decide +kernel
theorem dX6_areTrades_9 : decode cX6_areTrades 9 = .ok (.ifCond .eq 19, 3) := by decide +kernel
theorem dX6_areTrades_12 : decode cX6_areTrades 12 = .ok (.iload_n 1, 1) := by decide +kernel
theorem dX6_areTrades_13 : decode cX6_areTrades 13 = .ok (.i2l, 1) := by decide +kernel
theorem dX6_areTrades_14 : decode cX6_areTrades 14 = .ok (.lconst 0, 1) := by decide +kernel
theorem dX6_areTrades_15 : decode cX6_areTrades 15 = .ok (.ldc2_w 173, 3) := by decide +kernel
theorem dX6_areTrades_18 : decode cX6_areTrades 18 = .ok (.invokestatic 74, 3) := by decide +kernel
theorem dX6_areTrades_21 : decode cX6_areTrades 21 = .ok (.ifCond .eq 7, 3) := by decide +kernel
theorem dX6_areTrades_24 : decode cX6_areTrades 24 = .ok (.iconst 1, 1) := by decide +kernel
theorem dX6_areTrades_25 : decode cX6_areTrades 25 = .ok (.goto 4, 3) := by decide +kernel
theorem dX6_areTrades_28 : decode cX6_areTrades 28 = .ok (.iconst 0, 1) := by decide +kernel
theorem dX6_areTrades_29 : decode cX6_areTrades 29 = .ok (.ireturn, 1) := by decide +kernel
theorem dX6_pitchCount_0 : decode cX6_pitchCount 0 = .ok (.aload_n 0, 1) := by decide +kernel
theorem dX6_pitchCount_1 : decode cX6_pitchCount 1 = .ok (.iconst 0, 1) := by decide +kernel
theorem dX6_pitchCount_2 : decode cX6_pitchCount 2 = .ok (.putfield 58, 3) := by decide +kernel
theorem dX6_pitchCount_5 : decode cX6_pitchCount 5 = .ok (.aload_n 0, 1) := by decide +kernel
theorem dX6_pitchCount_6 : decode cX6_pitchCount 6 = .ok (.getfield 7, 3) := by decide +kernel
theorem dX6_pitchCount_9 : decode cX6_pitchCount 9 = .ok (.iconst 1, 1) := by decide +kernel
theorem dX6_pitchCount_10 : decode cX6_pitchCount 10 = .ok (.iaload, 1) := by decide +kernel
theorem dX6_pitchCount_11 : decode cX6_pitchCount 11 = .ok (.ireturn, 1) := by decide +kernel
theorem dX6_pitchValue_0 : decode cX6_pitchValue 0 = .ok (.aload_n 0, 1) := by decide +kernel
theorem dX6_pitchValue_1 : decode cX6_pitchValue 1 = .ok (.aload_n 0, 1) := by decide +kernel
theorem dX6_pitchValue_2 : decode cX6_pitchValue 2 = .ok (.iload_n 2, 1) := by decide +kernel
theorem dX6_pitchValue_3 : decode cX6_pitchValue 3 = .ok (.invokevirtual 175, 3) := by decide +kernel
theorem dX6_pitchValue_6 : decode cX6_pitchValue 6 = .ok (.ifCond .eq 7, 3) := by decide +kernel
theorem dX6_pitchValue_9 : decode cX6_pitchValue 9 = .ok (.iconst 0, 1) := by decide +kernel
theorem dX6_pitchValue_10 : decode cX6_pitchValue 10 = .ok (.goto 4, 3) := by decide +kernel
theorem dX6_pitchValue_13 : decode cX6_pitchValue 13 = .ok (.iconst 1, 1) := by decide +kernel
theorem dX6_pitchValue_14 : decode cX6_pitchValue 14 = .ok (.putfield 58, 3) := by decide +kernel
theorem dX6_pitchValue_17 : decode cX6_pitchValue 17 = .ok (.aload_n 0, 1) := by decide +kernel
theorem dX6_pitchValue_18 : decode cX6_pitchValue 18 = .ok (.getfield 58, 3) := by decide +kernel
theorem dX6_pitchValue_21 : decode cX6_pitchValue 21 = .ok (.ifCond .le 7, 3) := by decide +kernel
theorem dX6_pitchValue_24 : decode cX6_pitchValue 24 = .ok (.iconst 0, 1) := by decide +kernel
theorem dX6_pitchValue_25 : decode cX6_pitchValue 25 = .ok (.goto 11, 3) := by decide +kernel
theorem dX6_pitchValue_28 : decode cX6_pitchValue 28 = .ok (.aload_n 0, 1) := by decide +kernel
theorem dX6_pitchValue_29 : decode cX6_pitchValue 29 = .ok (.getfield 7, 3) := by decide +kernel
theorem dX6_pitchValue_32 : decode cX6_pitchValue 32 = .ok (.iload_n 1, 1) := by decide +kernel
theorem dX6_pitchValue_33 : decode cX6_pitchValue 33 = .ok (.iload_n 2, 1) := by decide +kernel
theorem dX6_pitchValue_34 : decode cX6_pitchValue 34 = .ok (.iadd, 1) := by decide +kernel
theorem dX6_pitchValue_35 : decode cX6_pitchValue 35 = .ok (.iaload, 1) := by decide +kernel
theorem dX6_pitchValue_36 : decode cX6_pitchValue 36 = .ok (.ireturn, 1) := by decide +kernel
theorem dX6_traderValue_0 : decode cX6_traderValue 0 = .ok (.aload_n 0, 1) := by decide +kernel
theorem dX6_traderValue_1 : decode cX6_traderValue 1 = .ok (.aload_n 0, 1) := by decide +kernel
theorem dX6_traderValue_2 : decode cX6_traderValue 2 = .ok (.iload_n 2, 1) := by decide +kernel
theorem dX6_traderValue_3 : decode cX6_traderValue 3 = .ok (.invokevirtual 178, 3) := by decide +kernel
theorem dX6_traderValue_6 : decode cX6_traderValue 6 = .ok (.ifCond .eq 7, 3) := by decide +kernel
theorem dX6_traderValue_9 : decode cX6_traderValue 9 = .ok (.iconst 0, 1) := by decide +kernel
theorem dX6_traderValue_10 : decode cX6_traderValue 10 = .ok (.goto 4, 3) := by decide +kernel
theorem dX6_traderValue_13 : decode cX6_traderValue 13 = .ok (.iconst 1, 1) := by decide +kernel
theorem dX6_traderValue_14 : decode cX6_traderValue 14 = .ok (.putfield 58, 3) := by decide +kernel
theorem dX6_traderValue_17 : decode cX6_traderValue 17 = .ok (.aload_n 0, 1) := by decide +kernel
theorem dX6_traderValue_18 : decode cX6_traderValue 18 = .ok (.getfield 58, 3) := by decide +kernel
theorem dX6_traderValue_21 : decode cX6_traderValue 21 = .ok (.ifCond .le 7, 3) := by decide +kernel
theorem dX6_traderValue_24 : decode cX6_traderValue 24 = .ok (.iconst 0, 1) := by decide +kernel
theorem dX6_traderValue_25 : decode cX6_traderValue 25 = .ok (.goto 11, 3) := by decide +kernel
theorem dX6_traderValue_28 : decode cX6_traderValue 28 = .ok (.aload_n 0, 1) := by decide +kernel
theorem dX6_traderValue_29 : decode cX6_traderValue 29 = .ok (.getfield 7, 3) := by decide +kernel
theorem dX6_traderValue_32 : decode cX6_traderValue 32 = .ok (.iload_n 1, 1) := by decide +kernel
theorem dX6_traderValue_33 : decode cX6_traderValue 33 = .ok (.iload_n 2, 1) := by decide +kernel
theorem dX6_traderValue_34 : decode cX6_traderValue 34 = .ok (.iadd, 1) := by decide +kernel
theorem dX6_traderValue_35 : decode cX6_traderValue 35 = .ok (.iaload, 1) := by decide +kernel
theorem dX6_traderValue_36 : decode cX6_traderValue 36 = .ok (.ireturn, 1) := by decide +kernel
theorem dX6_row_0 : decode cX6_row 0 = .ok (.aload_n 0, 1) := by decide +kernel
theorem dX6_row_1 : decode cX6_row 1 = .ok (.bipush 50, 2) := by decide +kernel
theorem dX6_row_3 : decode cX6_row 3 = .ok (.iload_n 1, 1) := by decide +kernel
theorem dX6_row_4 : decode cX6_row 4 = .ok (.invokevirtual 181, 3) := by decide +kernel
theorem dX6_row_7 : decode cX6_row 7 = .ok (.ireturn, 1) := by decide +kernel
theorem dX6_rent_0 : decode cX6_rent 0 = .ok (.aload_n 0, 1) := by decide +kernel
theorem dX6_rent_1 : decode cX6_rent 1 = .ok (.iconst 2, 1) := by decide +kernel
theorem dX6_rent_2 : decode cX6_rent 2 = .ok (.iload_n 1, 1) := by decide +kernel
theorem dX6_rent_3 : decode cX6_rent 3 = .ok (.invokevirtual 181, 3) := by decide +kernel
theorem dX6_rent_6 : decode cX6_rent 6 = .ok (.ireturn, 1) := by decide +kernel
theorem dX6_isRoofed_0 : decode cX6_isRoofed 0 = .ok (.aload_n 0, 1) := by decide +kernel
theorem dX6_isRoofed_1 : decode cX6_isRoofed 1 = .ok (.bipush 26, 2) := by decide +kernel
theorem dX6_isRoofed_3 : decode cX6_isRoofed 3 = .ok (.iload_n 1, 1) := by decide +kernel
theorem dX6_isRoofed_4 : decode cX6_isRoofed 4 = .ok (.invokevirtual 181, 3) := by decide +kernel
theorem dX6_isRoofed_7 : decode cX6_isRoofed 7 = .ok (.iconst 1, 1) := by decide +kernel
theorem dX6_isRoofed_8 : decode cX6_isRoofed 8 = .ok (.if_icmp .ne 7, 3) := by decide +kernel
theorem dX6_isRoofed_11 : decode cX6_isRoofed 11 = .ok (.iconst 1, 1) := by decide +kernel
theorem dX6_isRoofed_12 : decode cX6_isRoofed 12 = .ok (.goto 4, 3) := by decide +kernel
theorem dX6_isRoofed_15 : decode cX6_isRoofed 15 = .ok (.iconst 0, 1) := by decide +kernel
theorem dX6_isRoofed_16 : decode cX6_isRoofed 16 = .ok (.ireturn, 1) := by decide +kernel
theorem dX6_traderCount_0 : decode cX6_traderCount 0 = .ok (.aload_n 0, 1) := by decide +kernel
theorem dX6_traderCount_1 : decode cX6_traderCount 1 = .ok (.iconst 0, 1) := by decide +kernel
theorem dX6_traderCount_2 : decode cX6_traderCount 2 = .ok (.putfield 58, 3) := by decide +kernel
theorem dX6_traderCount_5 : decode cX6_traderCount 5 = .ok (.aload_n 0, 1) := by decide +kernel
theorem dX6_traderCount_6 : decode cX6_traderCount 6 = .ok (.getfield 7, 3) := by decide +kernel
theorem dX6_traderCount_9 : decode cX6_traderCount 9 = .ok (.bipush 74, 2) := by decide +kernel
theorem dX6_traderCount_11 : decode cX6_traderCount 11 = .ok (.iaload, 1) := by decide +kernel
theorem dX6_traderCount_12 : decode cX6_traderCount 12 = .ok (.ireturn, 1) := by decide +kernel
theorem dX6_trade_0 : decode cX6_trade 0 = .ok (.aload_n 0, 1) := by decide +kernel
theorem dX6_trade_1 : decode cX6_trade 1 = .ok (.bipush 75, 2) := by decide +kernel
theorem dX6_trade_3 : decode cX6_trade 3 = .ok (.iload_n 1, 1) := by decide +kernel
theorem dX6_trade_4 : decode cX6_trade 4 = .ok (.invokevirtual 184, 3) := by decide +kernel
theorem dX6_trade_7 : decode cX6_trade 7 = .ok (.ireturn, 1) := by decide +kernel
theorem dX6_frontage_0 : decode cX6_frontage 0 = .ok (.aload_n 0, 1) := by decide +kernel
theorem dX6_frontage_1 : decode cX6_frontage 1 = .ok (.bipush 83, 2) := by decide +kernel
theorem dX6_frontage_3 : decode cX6_frontage 3 = .ok (.iload_n 1, 1) := by decide +kernel
theorem dX6_frontage_4 : decode cX6_frontage 4 = .ok (.invokevirtual 184, 3) := by decide +kernel
theorem dX6_frontage_7 : decode cX6_frontage 7 = .ok (.ireturn, 1) := by decide +kernel
theorem dX6_start_0 : decode cX6_start 0 = .ok (.aload_n 0, 1) := by decide +kernel
theorem dX6_start_1 : decode cX6_start 1 = .ok (.bipush 107, 2) := by decide +kernel
theorem dX6_start_3 : decode cX6_start 3 = .ok (.iload_n 1, 1) := by decide +kernel
theorem dX6_start_4 : decode cX6_start 4 = .ok (.invokevirtual 184, 3) := by decide +kernel
theorem dX6_start_7 : decode cX6_start 7 = .ok (.ireturn, 1) := by decide +kernel
theorem dX6_isOn_0 : decode cX6_isOn 0 = .ok (.aload_n 0, 1) := by decide +kernel
theorem dX6_isOn_1 : decode cX6_isOn 1 = .ok (.getfield 7, 3) := by decide +kernel
theorem dX6_isOn_4 : decode cX6_isOn 4 = .ok (.bipush 107, 2) := by decide +kernel
theorem dX6_isOn_6 : decode cX6_isOn 6 = .ok (.iload_n 1, 1) := by decide +kernel
theorem dX6_isOn_7 : decode cX6_isOn 7 = .ok (.iadd, 1) := by decide +kernel
theorem dX6_isOn_8 : decode cX6_isOn 8 = .ok (.iaload, 1) := by decide +kernel
theorem dX6_isOn_9 : decode cX6_isOn 9 = .ok (.iconst (-1), 1) := by decide +kernel
theorem dX6_isOn_10 : decode cX6_isOn 10 = .ok (.if_icmp .eq 47, 3) := by decide +kernel
theorem dX6_isOn_13 : decode cX6_isOn 13 = .ok (.iload_n 2, 1) := by decide +kernel
theorem dX6_isOn_14 : decode cX6_isOn 14 = .ok (.i2l, 1) := by decide +kernel
theorem dX6_isOn_15 : decode cX6_isOn 15 = .ok (.aload_n 0, 1) := by decide +kernel
theorem dX6_isOn_16 : decode cX6_isOn 16 = .ok (.getfield 7, 3) := by decide +kernel
theorem dX6_isOn_19 : decode cX6_isOn 19 = .ok (.bipush 107, 2) := by decide +kernel
theorem dX6_isOn_21 : decode cX6_isOn 21 = .ok (.iload_n 1, 1) := by decide +kernel
theorem dX6_isOn_22 : decode cX6_isOn 22 = .ok (.iadd, 1) := by decide +kernel
theorem dX6_isOn_23 : decode cX6_isOn 23 = .ok (.iaload, 1) := by decide +kernel
theorem dX6_isOn_24 : decode cX6_isOn 24 = .ok (.i2l, 1) := by decide +kernel
theorem dX6_isOn_25 : decode cX6_isOn 25 = .ok (.aload_n 0, 1) := by decide +kernel
theorem dX6_isOn_26 : decode cX6_isOn 26 = .ok (.getfield 7, 3) := by decide +kernel
theorem dX6_isOn_29 : decode cX6_isOn 29 = .ok (.bipush 107, 2) := by decide +kernel
theorem dX6_isOn_31 : decode cX6_isOn 31 = .ok (.iload_n 1, 1) := by decide +kernel
theorem dX6_isOn_32 : decode cX6_isOn 32 = .ok (.iadd, 1) := by decide +kernel
theorem dX6_isOn_33 : decode cX6_isOn 33 = .ok (.iaload, 1) := by decide +kernel
theorem dX6_isOn_34 : decode cX6_isOn 34 = .ok (.aload_n 0, 1) := by decide +kernel
theorem dX6_isOn_35 : decode cX6_isOn 35 = .ok (.getfield 7, 3) := by decide +kernel
theorem dX6_isOn_38 : decode cX6_isOn 38 = .ok (.bipush 83, 2) := by decide +kernel
theorem dX6_isOn_40 : decode cX6_isOn 40 = .ok (.iload_n 1, 1) := by decide +kernel
theorem dX6_isOn_41 : decode cX6_isOn 41 = .ok (.iadd, 1) := by decide +kernel
theorem dX6_isOn_42 : decode cX6_isOn 42 = .ok (.iaload, 1) := by decide +kernel
theorem dX6_isOn_43 : decode cX6_isOn 43 = .ok (.iadd, 1) := by decide +kernel
theorem dX6_isOn_44 : decode cX6_isOn 44 = .ok (.iconst 1, 1) := by decide +kernel
theorem dX6_isOn_45 : decode cX6_isOn 45 = .ok (.isub, 1) := by decide +kernel
theorem dX6_isOn_46 : decode cX6_isOn 46 = .ok (.i2l, 1) := by decide +kernel
theorem dX6_isOn_47 : decode cX6_isOn 47 = .ok (.invokestatic 74, 3) := by decide +kernel
theorem dX6_isOn_50 : decode cX6_isOn 50 = .ok (.ifCond .eq 7, 3) := by decide +kernel
theorem dX6_isOn_53 : decode cX6_isOn 53 = .ok (.iconst 1, 1) := by decide +kernel
theorem dX6_isOn_54 : decode cX6_isOn 54 = .ok (.goto 4, 3) := by decide +kernel
theorem dX6_isOn_57 : decode cX6_isOn 57 = .ok (.iconst 0, 1) := by decide +kernel
theorem dX6_isOn_58 : decode cX6_isOn 58 = .ok (.ireturn, 1) := by decide +kernel
theorem dX6_on_0 : decode cX6_on 0 = .ok (.iconst 0, 1) := by decide +kernel
theorem dX6_on_1 : decode cX6_on 1 = .ok (.istore_n 2, 1) := by decide +kernel
theorem dX6_on_2 : decode cX6_on 2 = .ok (.iload_n 2, 1) := by decide +kernel
theorem dX6_on_3 : decode cX6_on 3 = .ok (.aload_n 0, 1) := by decide +kernel
theorem dX6_on_4 : decode cX6_on 4 = .ok (.getfield 7, 3) := by decide +kernel
theorem dX6_on_7 : decode cX6_on 7 = .ok (.bipush 74, 2) := by decide +kernel
theorem dX6_on_9 : decode cX6_on 9 = .ok (.iaload, 1) := by decide +kernel
theorem dX6_on_10 : decode cX6_on 10 = .ok (.if_icmp .ge 20, 3) := by decide +kernel
theorem dX6_on_13 : decode cX6_on 13 = .ok (.aload_n 0, 1) := by decide +kernel
theorem dX6_on_14 : decode cX6_on 14 = .ok (.iload_n 2, 1) := by decide +kernel
theorem dX6_on_15 : decode cX6_on 15 = .ok (.iload_n 1, 1) := by decide +kernel
theorem dX6_on_16 : decode cX6_on 16 = .ok (.invokevirtual 187, 3) := by decide +kernel
theorem dX6_on_19 : decode cX6_on 19 = .ok (.ifCond .eq 5, 3) := by decide +kernel
theorem dX6_on_22 : decode cX6_on 22 = .ok (.iload_n 2, 1) := by decide +kernel
theorem dX6_on_23 : decode cX6_on 23 = .ok (.ireturn, 1) := by decide +kernel
theorem dX6_on_24 : decode cX6_on 24 = .ok (.iinc 2 1, 3) := by decide +kernel
theorem dX6_on_27 : decode cX6_on 27 = .ok (.goto (-25), 3) := by decide +kernel
theorem dX6_on_30 : decode cX6_on 30 = .ok (.iconst (-1), 1) := by decide +kernel
theorem dX6_on_31 : decode cX6_on 31 = .ok (.ireturn, 1) := by decide +kernel
theorem dX6_traderAt_0 : decode cX6_traderAt 0 = .ok (.aload_n 0, 1) := by decide +kernel
theorem dX6_traderAt_1 : decode cX6_traderAt 1 = .ok (.aload_n 0, 1) := by decide +kernel
theorem dX6_traderAt_2 : decode cX6_traderAt 2 = .ok (.iload_n 1, 1) := by decide +kernel
theorem dX6_traderAt_3 : decode cX6_traderAt 3 = .ok (.invokevirtual 175, 3) := by decide +kernel
theorem dX6_traderAt_6 : decode cX6_traderAt 6 = .ok (.ifCond .eq 7, 3) := by decide +kernel
theorem dX6_traderAt_9 : decode cX6_traderAt 9 = .ok (.iconst 0, 1) := by decide +kernel
theorem dX6_traderAt_10 : decode cX6_traderAt 10 = .ok (.goto 4, 3) := by decide +kernel
theorem dX6_traderAt_13 : decode cX6_traderAt 13 = .ok (.iconst 1, 1) := by decide +kernel
theorem dX6_traderAt_14 : decode cX6_traderAt 14 = .ok (.putfield 58, 3) := by decide +kernel
theorem dX6_traderAt_17 : decode cX6_traderAt 17 = .ok (.aload_n 0, 1) := by decide +kernel
theorem dX6_traderAt_18 : decode cX6_traderAt 18 = .ok (.getfield 58, 3) := by decide +kernel
theorem dX6_traderAt_21 : decode cX6_traderAt 21 = .ok (.ifCond .le 7, 3) := by decide +kernel
theorem dX6_traderAt_24 : decode cX6_traderAt 24 = .ok (.iconst 0, 1) := by decide +kernel
theorem dX6_traderAt_25 : decode cX6_traderAt 25 = .ok (.goto 8, 3) := by decide +kernel
theorem dX6_traderAt_28 : decode cX6_traderAt 28 = .ok (.aload_n 0, 1) := by decide +kernel
theorem dX6_traderAt_29 : decode cX6_traderAt 29 = .ok (.iload_n 1, 1) := by decide +kernel
theorem dX6_traderAt_30 : decode cX6_traderAt 30 = .ok (.invokevirtual 191, 3) := by decide +kernel
theorem dX6_traderAt_33 : decode cX6_traderAt 33 = .ok (.ireturn, 1) := by decide +kernel
theorem dX6_rentOf_0 : decode cX6_rentOf 0 = .ok (.iconst 0, 1) := by decide +kernel
theorem dX6_rentOf_1 : decode cX6_rentOf 1 = .ok (.istore_n 3, 1) := by decide +kernel
theorem dX6_rentOf_2 : decode cX6_rentOf 2 = .ok (.iconst 0, 1) := by decide +kernel
theorem dX6_rentOf_3 : decode cX6_rentOf 3 = .ok (.istore 4, 2) := by decide +kernel
theorem dX6_rentOf_5 : decode cX6_rentOf 5 = .ok (.iload 4, 2) := by decide +kernel
theorem dX6_rentOf_7 : decode cX6_rentOf 7 = .ok (.aload_n 0, 1) := by decide +kernel
theorem dX6_rentOf_8 : decode cX6_rentOf 8 = .ok (.getfield 7, 3) := by decide +kernel
theorem dX6_rentOf_11 : decode cX6_rentOf 11 = .ok (.bipush 83, 2) := by decide +kernel
theorem dX6_rentOf_13 : decode cX6_rentOf 13 = .ok (.iload_n 1, 1) := by decide +kernel
theorem dX6_rentOf_14 : decode cX6_rentOf 14 = .ok (.iadd, 1) := by decide +kernel
theorem dX6_rentOf_15 : decode cX6_rentOf 15 = .ok (.iaload, 1) := by decide +kernel
theorem dX6_rentOf_16 : decode cX6_rentOf 16 = .ok (.if_icmp .ge 23, 3) := by decide +kernel
theorem dX6_rentOf_19 : decode cX6_rentOf 19 = .ok (.iload_n 3, 1) := by decide +kernel
theorem dX6_rentOf_20 : decode cX6_rentOf 20 = .ok (.aload_n 0, 1) := by decide +kernel
theorem dX6_rentOf_21 : decode cX6_rentOf 21 = .ok (.getfield 7, 3) := by decide +kernel
theorem dX6_rentOf_24 : decode cX6_rentOf 24 = .ok (.iconst 2, 1) := by decide +kernel
theorem dX6_rentOf_25 : decode cX6_rentOf 25 = .ok (.iload_n 2, 1) := by decide +kernel
theorem dX6_rentOf_26 : decode cX6_rentOf 26 = .ok (.iadd, 1) := by decide +kernel
theorem dX6_rentOf_27 : decode cX6_rentOf 27 = .ok (.iload 4, 2) := by decide +kernel
theorem dX6_rentOf_29 : decode cX6_rentOf 29 = .ok (.iadd, 1) := by decide +kernel
theorem dX6_rentOf_30 : decode cX6_rentOf 30 = .ok (.iaload, 1) := by decide +kernel
theorem dX6_rentOf_31 : decode cX6_rentOf 31 = .ok (.iadd, 1) := by decide +kernel
theorem dX6_rentOf_32 : decode cX6_rentOf 32 = .ok (.istore_n 3, 1) := by decide +kernel
theorem dX6_rentOf_33 : decode cX6_rentOf 33 = .ok (.iinc 4 1, 3) := by decide +kernel
theorem dX6_rentOf_36 : decode cX6_rentOf 36 = .ok (.goto (-31), 3) := by decide +kernel
theorem dX6_rentOf_39 : decode cX6_rentOf 39 = .ok (.iload_n 3, 1) := by decide +kernel
theorem dX6_rentOf_40 : decode cX6_rentOf 40 = .ok (.ireturn, 1) := by decide +kernel
theorem dX6_bare_0 : decode cX6_bare 0 = .ok (.iconst 0, 1) := by decide +kernel
theorem dX6_bare_1 : decode cX6_bare 1 = .ok (.istore_n 3, 1) := by decide +kernel
theorem dX6_bare_2 : decode cX6_bare 2 = .ok (.iconst 0, 1) := by decide +kernel
theorem dX6_bare_3 : decode cX6_bare 3 = .ok (.istore 4, 2) := by decide +kernel
theorem dX6_bare_5 : decode cX6_bare 5 = .ok (.iload 4, 2) := by decide +kernel
theorem dX6_bare_7 : decode cX6_bare 7 = .ok (.aload_n 0, 1) := by decide +kernel
theorem dX6_bare_8 : decode cX6_bare 8 = .ok (.getfield 7, 3) := by decide +kernel
theorem dX6_bare_11 : decode cX6_bare 11 = .ok (.bipush 83, 2) := by decide +kernel
theorem dX6_bare_13 : decode cX6_bare 13 = .ok (.iload_n 1, 1) := by decide +kernel
theorem dX6_bare_14 : decode cX6_bare 14 = .ok (.iadd, 1) := by decide +kernel
theorem dX6_bare_15 : decode cX6_bare 15 = .ok (.iaload, 1) := by decide +kernel
theorem dX6_bare_16 : decode cX6_bare 16 = .ok (.if_icmp .ge 44, 3) := by decide +kernel
theorem dX6_bare_19 : decode cX6_bare 19 = .ok (.iload_n 3, 1) := by decide +kernel
theorem dX6_bare_20 : decode cX6_bare 20 = .ok (.aload_n 0, 1) := by decide +kernel
theorem dX6_bare_21 : decode cX6_bare 21 = .ok (.getfield 7, 3) := by decide +kernel
theorem dX6_bare_24 : decode cX6_bare 24 = .ok (.bipush 99, 2) := by decide +kernel
theorem dX6_bare_26 : decode cX6_bare 26 = .ok (.iload_n 1, 1) := by decide +kernel
theorem dX6_bare_27 : decode cX6_bare 27 = .ok (.iadd, 1) := by decide +kernel
theorem dX6_bare_28 : decode cX6_bare 28 = .ok (.iaload, 1) := by decide +kernel
theorem dX6_bare_29 : decode cX6_bare 29 = .ok (.aload_n 0, 1) := by decide +kernel
theorem dX6_bare_30 : decode cX6_bare 30 = .ok (.getfield 7, 3) := by decide +kernel
theorem dX6_bare_33 : decode cX6_bare 33 = .ok (.bipush 99, 2) := by decide +kernel
theorem dX6_bare_35 : decode cX6_bare 35 = .ok (.iload_n 1, 1) := by decide +kernel
theorem dX6_bare_36 : decode cX6_bare 36 = .ok (.iadd, 1) := by decide +kernel
theorem dX6_bare_37 : decode cX6_bare 37 = .ok (.iaload, 1) := by decide +kernel
theorem dX6_bare_38 : decode cX6_bare 38 = .ok (.aload_n 0, 1) := by decide +kernel
theorem dX6_bare_39 : decode cX6_bare 39 = .ok (.getfield 7, 3) := by decide +kernel
theorem dX6_bare_42 : decode cX6_bare 42 = .ok (.bipush 26, 2) := by decide +kernel
theorem dX6_bare_44 : decode cX6_bare 44 = .ok (.iload_n 2, 1) := by decide +kernel
theorem dX6_bare_45 : decode cX6_bare 45 = .ok (.iadd, 1) := by decide +kernel
theorem dX6_bare_46 : decode cX6_bare 46 = .ok (.iload 4, 2) := by decide +kernel
theorem dX6_bare_48 : decode cX6_bare 48 = .ok (.iadd, 1) := by decide +kernel
theorem dX6_bare_49 : decode cX6_bare 49 = .ok (.iaload, 1) := by decide +kernel
theorem dX6_bare_50 : decode cX6_bare 50 = .ok (.imul, 1) := by decide +kernel
theorem dX6_bare_51 : decode cX6_bare 51 = .ok (.isub, 1) := by decide +kernel
theorem dX6_bare_52 : decode cX6_bare 52 = .ok (.iadd, 1) := by decide +kernel
theorem dX6_bare_53 : decode cX6_bare 53 = .ok (.istore_n 3, 1) := by decide +kernel
theorem dX6_bare_54 : decode cX6_bare 54 = .ok (.iinc 4 1, 3) := by decide +kernel
theorem dX6_bare_57 : decode cX6_bare 57 = .ok (.goto (-52), 3) := by decide +kernel
theorem dX6_bare_60 : decode cX6_bare 60 = .ok (.iload_n 3, 1) := by decide +kernel
theorem dX6_bare_61 : decode cX6_bare 61 = .ok (.ireturn, 1) := by decide +kernel
theorem dX6_isRoom_0 : decode cX6_isRoom 0 = .ok (.iload_n 2, 1) := by decide +kernel
theorem dX6_isRoom_1 : decode cX6_isRoom 1 = .ok (.aload_n 0, 1) := by decide +kernel
theorem dX6_isRoom_2 : decode cX6_isRoom 2 = .ok (.getfield 7, 3) := by decide +kernel
theorem dX6_isRoom_5 : decode cX6_isRoom 5 = .ok (.bipush 83, 2) := by decide +kernel
theorem dX6_isRoom_7 : decode cX6_isRoom 7 = .ok (.iload_n 1, 1) := by decide +kernel
theorem dX6_isRoom_8 : decode cX6_isRoom 8 = .ok (.iadd, 1) := by decide +kernel
theorem dX6_isRoom_9 : decode cX6_isRoom 9 = .ok (.iaload, 1) := by decide +kernel
theorem dX6_isRoom_10 : decode cX6_isRoom 10 = .ok (.iadd, 1) := by decide +kernel
theorem dX6_isRoom_11 : decode cX6_isRoom 11 = .ok (.iconst 1, 1) := by decide +kernel
theorem dX6_isRoom_12 : decode cX6_isRoom 12 = .ok (.isub, 1) := by decide +kernel
theorem dX6_isRoom_13 : decode cX6_isRoom 13 = .ok (.istore_n 3, 1) := by decide +kernel
theorem dX6_isRoom_14 : decode cX6_isRoom 14 = .ok (.iload_n 3, 1) := by decide +kernel
theorem dX6_isRoom_15 : decode cX6_isRoom 15 = .ok (.aload_n 0, 1) := by decide +kernel
theorem dX6_isRoom_16 : decode cX6_isRoom 16 = .ok (.getfield 7, 3) := by decide +kernel
theorem dX6_isRoom_19 : decode cX6_isRoom 19 = .ok (.iconst 1, 1) := by decide +kernel
theorem dX6_isRoom_20 : decode cX6_isRoom 20 = .ok (.iaload, 1) := by decide +kernel
theorem dX6_isRoom_21 : decode cX6_isRoom 21 = .ok (.if_icmp .ge 28, 3) := by decide +kernel
theorem dX6_isRoom_24 : decode cX6_isRoom 24 = .ok (.aload_n 0, 1) := by decide +kernel
theorem dX6_isRoom_25 : decode cX6_isRoom 25 = .ok (.getfield 7, 3) := by decide +kernel
theorem dX6_isRoom_28 : decode cX6_isRoom 28 = .ok (.bipush 50, 2) := by decide +kernel
theorem dX6_isRoom_30 : decode cX6_isRoom 30 = .ok (.iload_n 3, 1) := by decide +kernel
theorem dX6_isRoom_31 : decode cX6_isRoom 31 = .ok (.iadd, 1) := by decide +kernel
theorem dX6_isRoom_32 : decode cX6_isRoom 32 = .ok (.iaload, 1) := by decide +kernel
theorem dX6_isRoom_33 : decode cX6_isRoom 33 = .ok (.aload_n 0, 1) := by decide +kernel
theorem dX6_isRoom_34 : decode cX6_isRoom 34 = .ok (.getfield 7, 3) := by decide +kernel
theorem dX6_isRoom_37 : decode cX6_isRoom 37 = .ok (.bipush 50, 2) := by decide +kernel
theorem dX6_isRoom_39 : decode cX6_isRoom 39 = .ok (.iload_n 2, 1) := by decide +kernel
theorem dX6_isRoom_40 : decode cX6_isRoom 40 = .ok (.iadd, 1) := by decide +kernel
theorem dX6_isRoom_41 : decode cX6_isRoom 41 = .ok (.iaload, 1) := by decide +kernel
theorem dX6_isRoom_42 : decode cX6_isRoom 42 = .ok (.if_icmp .ne 7, 3) := by decide +kernel
theorem dX6_isRoom_45 : decode cX6_isRoom 45 = .ok (.iconst 1, 1) := by decide +kernel
theorem dX6_isRoom_46 : decode cX6_isRoom 46 = .ok (.goto 4, 3) := by decide +kernel
theorem dX6_isRoom_49 : decode cX6_isRoom 49 = .ok (.iconst 0, 1) := by decide +kernel
theorem dX6_isRoom_50 : decode cX6_isRoom 50 = .ok (.ireturn, 1) := by decide +kernel
theorem dX6_usedCovers_0 : decode cX6_usedCovers 0 = .ok (.iconst 0, 1) := by decide +kernel
theorem dX6_usedCovers_1 : decode cX6_usedCovers 1 = .ok (.istore_n 1, 1) := by decide +kernel
theorem dX6_usedCovers_2 : decode cX6_usedCovers 2 = .ok (.iconst 0, 1) := by decide +kernel
theorem dX6_usedCovers_3 : decode cX6_usedCovers 3 = .ok (.istore_n 2, 1) := by decide +kernel
theorem dX6_usedCovers_4 : decode cX6_usedCovers 4 = .ok (.iload_n 2, 1) := by decide +kernel
theorem dX6_usedCovers_5 : decode cX6_usedCovers 5 = .ok (.aload_n 0, 1) := by decide +kernel
theorem dX6_usedCovers_6 : decode cX6_usedCovers 6 = .ok (.getfield 7, 3) := by decide +kernel
theorem dX6_usedCovers_9 : decode cX6_usedCovers 9 = .ok (.bipush 74, 2) := by decide +kernel
theorem dX6_usedCovers_11 : decode cX6_usedCovers 11 = .ok (.iaload, 1) := by decide +kernel
theorem dX6_usedCovers_12 : decode cX6_usedCovers 12 = .ok (.if_icmp .ge 43, 3) := by decide +kernel
theorem dX6_usedCovers_15 : decode cX6_usedCovers 15 = .ok (.iload_n 1, 1) := by decide +kernel
theorem dX6_usedCovers_16 : decode cX6_usedCovers 16 = .ok (.aload_n 0, 1) := by decide +kernel
theorem dX6_usedCovers_17 : decode cX6_usedCovers 17 = .ok (.getfield 7, 3) := by decide +kernel
theorem dX6_usedCovers_20 : decode cX6_usedCovers 20 = .ok (.bipush 107, 2) := by decide +kernel
theorem dX6_usedCovers_22 : decode cX6_usedCovers 22 = .ok (.iload_n 2, 1) := by decide +kernel
theorem dX6_usedCovers_23 : decode cX6_usedCovers 23 = .ok (.iadd, 1) := by decide +kernel
theorem dX6_usedCovers_24 : decode cX6_usedCovers 24 = .ok (.iaload, 1) := by decide +kernel
theorem dX6_usedCovers_25 : decode cX6_usedCovers 25 = .ok (.iconst (-1), 1) := by decide +kernel
theorem dX6_usedCovers_26 : decode cX6_usedCovers 26 = .ok (.if_icmp .ne 7, 3) := by decide +kernel
theorem dX6_usedCovers_29 : decode cX6_usedCovers 29 = .ok (.iconst 0, 1) := by decide +kernel
theorem dX6_usedCovers_30 : decode cX6_usedCovers 30 = .ok (.goto 17, 3) := by decide +kernel
theorem dX6_usedCovers_33 : decode cX6_usedCovers 33 = .ok (.aload_n 0, 1) := by decide +kernel
theorem dX6_usedCovers_34 : decode cX6_usedCovers 34 = .ok (.iload_n 2, 1) := by decide +kernel
theorem dX6_usedCovers_35 : decode cX6_usedCovers 35 = .ok (.aload_n 0, 1) := by decide +kernel
theorem dX6_usedCovers_36 : decode cX6_usedCovers 36 = .ok (.getfield 7, 3) := by decide +kernel
theorem dX6_usedCovers_39 : decode cX6_usedCovers 39 = .ok (.bipush 107, 2) := by decide +kernel
theorem dX6_usedCovers_41 : decode cX6_usedCovers 41 = .ok (.iload_n 2, 1) := by decide +kernel
theorem dX6_usedCovers_42 : decode cX6_usedCovers 42 = .ok (.iadd, 1) := by decide +kernel
theorem dX6_usedCovers_43 : decode cX6_usedCovers 43 = .ok (.iaload, 1) := by decide +kernel
theorem dX6_usedCovers_44 : decode cX6_usedCovers 44 = .ok (.invokevirtual 194, 3) := by decide +kernel
theorem dX6_usedCovers_47 : decode cX6_usedCovers 47 = .ok (.iadd, 1) := by decide +kernel
theorem dX6_usedCovers_48 : decode cX6_usedCovers 48 = .ok (.istore_n 1, 1) := by decide +kernel
theorem dX6_usedCovers_49 : decode cX6_usedCovers 49 = .ok (.iinc 2 1, 3) := by decide +kernel
theorem dX6_usedCovers_52 : decode cX6_usedCovers 52 = .ok (.goto (-48), 3) := by decide +kernel
theorem dX6_usedCovers_55 : decode cX6_usedCovers 55 = .ok (.iload_n 1, 1) := by decide +kernel
theorem dX6_usedCovers_56 : decode cX6_usedCovers 56 = .ok (.ireturn, 1) := by decide +kernel
theorem dX6_doClash_0 : decode cX6_doClash 0 = .ok (.aload_n 0, 1) := by decide +kernel
theorem dX6_doClash_1 : decode cX6_doClash 1 = .ok (.getfield 7, 3) := by decide +kernel
theorem dX6_doClash_4 : decode cX6_doClash 4 = .ok (.bipush 115, 2) := by decide +kernel
theorem dX6_doClash_6 : decode cX6_doClash 6 = .ok (.bipush 8, 2) := by decide +kernel
theorem dX6_doClash_8 : decode cX6_doClash 8 = .ok (.aload_n 0, 1) := by decide +kernel
theorem dX6_doClash_9 : decode cX6_doClash 9 = .ok (.getfield 7, 3) := by decide +kernel
theorem dX6_doClash_12 : decode cX6_doClash 12 = .ok (.bipush 75, 2) := by decide +kernel
theorem dX6_doClash_14 : decode cX6_doClash 14 = .ok (.iload_n 1, 1) := by decide +kernel
theorem dX6_doClash_15 : decode cX6_doClash 15 = .ok (.iadd, 1) := by decide +kernel
theorem dX6_doClash_16 : decode cX6_doClash 16 = .ok (.iaload, 1) := by decide +kernel
theorem dX6_doClash_17 : decode cX6_doClash 17 = .ok (.imul, 1) := by decide +kernel
theorem dX6_doClash_18 : decode cX6_doClash 18 = .ok (.iadd, 1) := by decide +kernel
theorem dX6_doClash_19 : decode cX6_doClash 19 = .ok (.aload_n 0, 1) := by decide +kernel
theorem dX6_doClash_20 : decode cX6_doClash 20 = .ok (.getfield 7, 3) := by decide +kernel
theorem dX6_doClash_23 : decode cX6_doClash 23 = .ok (.bipush 75, 2) := by decide +kernel
theorem dX6_doClash_25 : decode cX6_doClash 25 = .ok (.iload_n 2, 1) := by decide +kernel
theorem dX6_doClash_26 : decode cX6_doClash 26 = .ok (.iadd, 1) := by decide +kernel
theorem dX6_doClash_27 : decode cX6_doClash 27 = .ok (.iaload, 1) := by decide +kernel
theorem dX6_doClash_28 : decode cX6_doClash 28 = .ok (.iadd, 1) := by decide +kernel
theorem dX6_doClash_29 : decode cX6_doClash 29 = .ok (.iaload, 1) := by decide +kernel
theorem dX6_doClash_30 : decode cX6_doClash 30 = .ok (.iconst 1, 1) := by decide +kernel
theorem dX6_doClash_31 : decode cX6_doClash 31 = .ok (.if_icmp .ne 7, 3) := by decide +kernel
theorem dX6_doClash_34 : decode cX6_doClash 34 = .ok (.iconst 1, 1) := by decide +kernel
theorem dX6_doClash_35 : decode cX6_doClash 35 = .ok (.goto 4, 3) := by decide +kernel
theorem dX6_doClash_38 : decode cX6_doClash 38 = .ok (.iconst 0, 1) := by decide +kernel
theorem dX6_doClash_39 : decode cX6_doClash 39 = .ok (.ireturn, 1) := by decide +kernel
theorem dX6_setRent_0 : decode cX6_setRent 0 = .ok (.aload_n 0, 1) := by decide +kernel
theorem dX6_setRent_1 : decode cX6_setRent 1 = .ok (.aload_n 0, 1) := by decide +kernel
theorem dX6_setRent_2 : decode cX6_setRent 2 = .ok (.iload_n 1, 1) := by decide +kernel
theorem dX6_setRent_3 : decode cX6_setRent 3 = .ok (.invokevirtual 175, 3) := by decide +kernel
theorem dX6_setRent_6 : decode cX6_setRent 6 = .ok (.ifCond .ne 7, 3) := by decide +kernel
theorem dX6_setRent_9 : decode cX6_setRent 9 = .ok (.iconst 1, 1) := by decide +kernel
theorem dX6_setRent_10 : decode cX6_setRent 10 = .ok (.goto 20, 3) := by decide +kernel
theorem dX6_setRent_13 : decode cX6_setRent 13 = .ok (.iload_n 2, 1) := by decide +kernel
theorem dX6_setRent_14 : decode cX6_setRent 14 = .ok (.i2l, 1) := by decide +kernel
theorem dX6_setRent_15 : decode cX6_setRent 15 = .ok (.lconst 1, 1) := by decide +kernel
theorem dX6_setRent_16 : decode cX6_setRent 16 = .ok (.ldc2_w 144, 3) := by decide +kernel
theorem dX6_setRent_19 : decode cX6_setRent 19 = .ok (.invokestatic 74, 3) := by decide +kernel
theorem dX6_setRent_22 : decode cX6_setRent 22 = .ok (.ifCond .ne 7, 3) := by decide +kernel
theorem dX6_setRent_25 : decode cX6_setRent 25 = .ok (.iconst 2, 1) := by decide +kernel
theorem dX6_setRent_26 : decode cX6_setRent 26 = .ok (.goto 4, 3) := by decide +kernel
theorem dX6_setRent_29 : decode cX6_setRent 29 = .ok (.iconst 0, 1) := by decide +kernel
theorem dX6_setRent_30 : decode cX6_setRent 30 = .ok (.putfield 58, 3) := by decide +kernel
theorem dX6_setRent_33 : decode cX6_setRent 33 = .ok (.aload_n 0, 1) := by decide +kernel
theorem dX6_setRent_34 : decode cX6_setRent 34 = .ok (.getfield 58, 3) := by decide +kernel
theorem dX6_setRent_37 : decode cX6_setRent 37 = .ok (.ifCond .le 5, 3) := by decide +kernel
theorem dX6_setRent_40 : decode cX6_setRent 40 = .ok (.iconst 0, 1) := by decide +kernel
theorem dX6_setRent_41 : decode cX6_setRent 41 = .ok (.ireturn, 1) := by decide +kernel
theorem dX6_setRent_42 : decode cX6_setRent 42 = .ok (.aload_n 0, 1) := by decide +kernel
theorem dX6_setRent_43 : decode cX6_setRent 43 = .ok (.invokevirtual 170, 3) := by decide +kernel
theorem dX6_setRent_46 : decode cX6_setRent 46 = .ok (.aload_n 0, 1) := by decide +kernel
theorem dX6_setRent_47 : decode cX6_setRent 47 = .ok (.getfield 7, 3) := by decide +kernel
theorem dX6_setRent_50 : decode cX6_setRent 50 = .ok (.iconst 2, 1) := by decide +kernel
theorem dX6_setRent_51 : decode cX6_setRent 51 = .ok (.iload_n 1, 1) := by decide +kernel
theorem dX6_setRent_52 : decode cX6_setRent 52 = .ok (.iadd, 1) := by decide +kernel
theorem dX6_setRent_53 : decode cX6_setRent 53 = .ok (.iload_n 2, 1) := by decide +kernel
theorem dX6_setRent_54 : decode cX6_setRent 54 = .ok (.iastore, 1) := by decide +kernel
theorem dX6_setRent_55 : decode cX6_setRent 55 = .ok (.aload_n 0, 1) := by decide +kernel
theorem dX6_setRent_56 : decode cX6_setRent 56 = .ok (.iload_n 1, 1) := by decide +kernel
theorem dX6_setRent_57 : decode cX6_setRent 57 = .ok (.invokevirtual 191, 3) := by decide +kernel
theorem dX6_setRent_60 : decode cX6_setRent 60 = .ok (.istore_n 3, 1) := by decide +kernel
theorem dX6_setRent_61 : decode cX6_setRent 61 = .ok (.iload_n 3, 1) := by decide +kernel
theorem dX6_setRent_62 : decode cX6_setRent 62 = .ok (.iconst (-1), 1) := by decide +kernel
theorem dX6_setRent_63 : decode cX6_setRent 63 = .ok (.if_icmp .eq 29, 3) := by decide +kernel
theorem dX6_setRent_66 : decode cX6_setRent 66 = .ok (.aload_n 0, 1) := by decide +kernel
theorem dX6_setRent_67 : decode cX6_setRent 67 = .ok (.iload_n 3, 1) := by decide +kernel
theorem dX6_setRent_68 : decode cX6_setRent 68 = .ok (.aload_n 0, 1) := by decide +kernel
theorem dX6_setRent_69 : decode cX6_setRent 69 = .ok (.getfield 7, 3) := by decide +kernel
theorem dX6_setRent_72 : decode cX6_setRent 72 = .ok (.bipush 107, 2) := by decide +kernel
theorem dX6_setRent_74 : decode cX6_setRent 74 = .ok (.iload_n 3, 1) := by decide +kernel
theorem dX6_setRent_75 : decode cX6_setRent 75 = .ok (.iadd, 1) := by decide +kernel
theorem dX6_setRent_76 : decode cX6_setRent 76 = .ok (.iaload, 1) := by decide +kernel
theorem dX6_setRent_77 : decode cX6_setRent 77 = .ok (.invokevirtual 197, 3) := by decide +kernel
theorem dX6_setRent_80 : decode cX6_setRent 80 = .ok (.aload_n 0, 1) := by decide +kernel
theorem dX6_setRent_81 : decode cX6_setRent 81 = .ok (.getfield 7, 3) := by decide +kernel
theorem dX6_setRent_84 : decode cX6_setRent 84 = .ok (.bipush 91, 2) := by decide +kernel
theorem dX6_setRent_86 : decode cX6_setRent 86 = .ok (.iload_n 3, 1) := by decide +kernel
theorem dX6_setRent_87 : decode cX6_setRent 87 = .ok (.iadd, 1) := by decide +kernel
theorem dX6_setRent_88 : decode cX6_setRent 88 = .ok (.iaload, 1) := by decide +kernel
theorem dX6_setRent_89 : decode cX6_setRent 89 = .ok (.if_icmp .gt 5, 3) := by decide +kernel
theorem dX6_setRent_92 : decode cX6_setRent 92 = .ok (.iconst (-1), 1) := by decide +kernel
theorem dX6_setRent_93 : decode cX6_setRent 93 = .ok (.ireturn, 1) := by decide +kernel
theorem dX6_setRent_94 : decode cX6_setRent 94 = .ok (.aload_n 0, 1) := by decide +kernel
theorem dX6_setRent_95 : decode cX6_setRent 95 = .ok (.getfield 7, 3) := by decide +kernel
theorem dX6_setRent_98 : decode cX6_setRent 98 = .ok (.bipush 107, 2) := by decide +kernel
theorem dX6_setRent_100 : decode cX6_setRent 100 = .ok (.iload_n 3, 1) := by decide +kernel
theorem dX6_setRent_101 : decode cX6_setRent 101 = .ok (.iadd, 1) := by decide +kernel
theorem dX6_setRent_102 : decode cX6_setRent 102 = .ok (.iconst (-1), 1) := by decide +kernel
theorem dX6_setRent_103 : decode cX6_setRent 103 = .ok (.iastore, 1) := by decide +kernel
theorem dX6_setRent_104 : decode cX6_setRent 104 = .ok (.iload_n 3, 1) := by decide +kernel
theorem dX6_setRent_105 : decode cX6_setRent 105 = .ok (.ireturn, 1) := by decide +kernel
theorem dX6_addTrader_0 : decode cX6_addTrader 0 = .ok (.aload_n 0, 1) := by decide +kernel
theorem dX6_addTrader_1 : decode cX6_addTrader 1 = .ok (.iload_n 1, 1) := by decide +kernel
theorem dX6_addTrader_2 : decode cX6_addTrader 2 = .ok (.i2l, 1) := by decide +kernel
theorem dX6_addTrader_3 : decode cX6_addTrader 3 = .ok (.lconst 0, 1) := by decide +kernel
theorem dX6_addTrader_4 : decode cX6_addTrader 4 = .ok (.ldc2_w 173, 3) := by decide +kernel
theorem dX6_addTrader_7 : decode cX6_addTrader 7 = .ok (.invokestatic 74, 3) := by decide +kernel
theorem dX6_addTrader_10 : decode cX6_addTrader 10 = .ok (.ifCond .eq 27, 3) := by decide +kernel
theorem dX6_addTrader_13 : decode cX6_addTrader 13 = .ok (.iload_n 2, 1) := by decide +kernel
theorem dX6_addTrader_14 : decode cX6_addTrader 14 = .ok (.i2l, 1) := by decide +kernel
theorem dX6_addTrader_15 : decode cX6_addTrader 15 = .ok (.lconst 1, 1) := by decide +kernel
theorem dX6_addTrader_16 : decode cX6_addTrader 16 = .ok (.ldc2_w 200, 3) := by decide +kernel
theorem dX6_addTrader_19 : decode cX6_addTrader 19 = .ok (.invokestatic 74, 3) := by decide +kernel
theorem dX6_addTrader_22 : decode cX6_addTrader 22 = .ok (.ifCond .eq 15, 3) := by decide +kernel
theorem dX6_addTrader_25 : decode cX6_addTrader 25 = .ok (.iload_n 3, 1) := by decide +kernel
theorem dX6_addTrader_26 : decode cX6_addTrader 26 = .ok (.i2l, 1) := by decide +kernel
theorem dX6_addTrader_27 : decode cX6_addTrader 27 = .ok (.lconst 1, 1) := by decide +kernel
theorem dX6_addTrader_28 : decode cX6_addTrader 28 = .ok (.ldc2_w 202, 3) := by decide +kernel
theorem dX6_addTrader_31 : decode cX6_addTrader 31 = .ok (.invokestatic 74, 3) := by decide +kernel
theorem dX6_addTrader_34 : decode cX6_addTrader 34 = .ok (.ifCond .ne 7, 3) := by decide +kernel
theorem dX6_addTrader_37 : decode cX6_addTrader 37 = .ok (.iconst 1, 1) := by decide +kernel
theorem dX6_addTrader_38 : decode cX6_addTrader 38 = .ok (.goto 20, 3) := by decide +kernel
theorem dX6_addTrader_41 : decode cX6_addTrader 41 = .ok (.aload_n 0, 1) := by decide +kernel
theorem dX6_addTrader_42 : decode cX6_addTrader 42 = .ok (.getfield 7, 3) := by decide +kernel
theorem dX6_addTrader_45 : decode cX6_addTrader 45 = .ok (.bipush 74, 2) := by decide +kernel
theorem dX6_addTrader_47 : decode cX6_addTrader 47 = .ok (.iaload, 1) := by decide +kernel
theorem dX6_addTrader_48 : decode cX6_addTrader 48 = .ok (.bipush 8, 2) := by decide +kernel
theorem dX6_addTrader_50 : decode cX6_addTrader 50 = .ok (.if_icmp .ne 7, 3) := by decide +kernel
theorem dX6_addTrader_53 : decode cX6_addTrader 53 = .ok (.iconst 2, 1) := by decide +kernel
theorem dX6_addTrader_54 : decode cX6_addTrader 54 = .ok (.goto 4, 3) := by decide +kernel
theorem dX6_addTrader_57 : decode cX6_addTrader 57 = .ok (.iconst 0, 1) := by decide +kernel
theorem dX6_addTrader_58 : decode cX6_addTrader 58 = .ok (.putfield 58, 3) := by decide +kernel
theorem dX6_addTrader_61 : decode cX6_addTrader 61 = .ok (.aload_n 0, 1) := by decide +kernel
theorem dX6_addTrader_62 : decode cX6_addTrader 62 = .ok (.getfield 58, 3) := by decide +kernel
theorem dX6_addTrader_65 : decode cX6_addTrader 65 = .ok (.ifCond .le 5, 3) := by decide +kernel
theorem dX6_addTrader_68 : decode cX6_addTrader 68 = .ok (.iconst 0, 1) := by decide +kernel
theorem dX6_addTrader_69 : decode cX6_addTrader 69 = .ok (.ireturn, 1) := by decide +kernel
theorem dX6_addTrader_70 : decode cX6_addTrader 70 = .ok (.aload_n 0, 1) := by decide +kernel
theorem dX6_addTrader_71 : decode cX6_addTrader 71 = .ok (.invokevirtual 170, 3) := by decide +kernel
theorem dX6_addTrader_74 : decode cX6_addTrader 74 = .ok (.aload_n 0, 1) := by decide +kernel
theorem dX6_addTrader_75 : decode cX6_addTrader 75 = .ok (.getfield 7, 3) := by decide +kernel
theorem dX6_addTrader_78 : decode cX6_addTrader 78 = .ok (.bipush 74, 2) := by decide +kernel
theorem dX6_addTrader_80 : decode cX6_addTrader 80 = .ok (.iaload, 1) := by decide +kernel
theorem dX6_addTrader_81 : decode cX6_addTrader 81 = .ok (.istore 5, 2) := by decide +kernel
theorem dX6_addTrader_83 : decode cX6_addTrader 83 = .ok (.aload_n 0, 1) := by decide +kernel
theorem dX6_addTrader_84 : decode cX6_addTrader 84 = .ok (.getfield 7, 3) := by decide +kernel
theorem dX6_addTrader_87 : decode cX6_addTrader 87 = .ok (.bipush 75, 2) := by decide +kernel
theorem dX6_addTrader_89 : decode cX6_addTrader 89 = .ok (.iload 5, 2) := by decide +kernel
theorem dX6_addTrader_91 : decode cX6_addTrader 91 = .ok (.iadd, 1) := by decide +kernel
theorem dX6_addTrader_92 : decode cX6_addTrader 92 = .ok (.iload_n 1, 1) := by decide +kernel
theorem dX6_addTrader_93 : decode cX6_addTrader 93 = .ok (.iastore, 1) := by decide +kernel
theorem dX6_addTrader_94 : decode cX6_addTrader 94 = .ok (.aload_n 0, 1) := by decide +kernel
theorem dX6_addTrader_95 : decode cX6_addTrader 95 = .ok (.getfield 7, 3) := by decide +kernel
theorem dX6_addTrader_98 : decode cX6_addTrader 98 = .ok (.bipush 83, 2) := by decide +kernel
theorem dX6_addTrader_100 : decode cX6_addTrader 100 = .ok (.iload 5, 2) := by decide +kernel
theorem dX6_addTrader_102 : decode cX6_addTrader 102 = .ok (.iadd, 1) := by decide +kernel
theorem dX6_addTrader_103 : decode cX6_addTrader 103 = .ok (.iload_n 2, 1) := by decide +kernel
theorem dX6_addTrader_104 : decode cX6_addTrader 104 = .ok (.iastore, 1) := by decide +kernel
theorem dX6_addTrader_105 : decode cX6_addTrader 105 = .ok (.aload_n 0, 1) := by decide +kernel
theorem dX6_addTrader_106 : decode cX6_addTrader 106 = .ok (.getfield 7, 3) := by decide +kernel
theorem dX6_addTrader_109 : decode cX6_addTrader 109 = .ok (.bipush 91, 2) := by decide +kernel
theorem dX6_addTrader_111 : decode cX6_addTrader 111 = .ok (.iload 5, 2) := by decide +kernel
theorem dX6_addTrader_113 : decode cX6_addTrader 113 = .ok (.iadd, 1) := by decide +kernel
theorem dX6_addTrader_114 : decode cX6_addTrader 114 = .ok (.iload_n 3, 1) := by decide +kernel
theorem dX6_addTrader_115 : decode cX6_addTrader 115 = .ok (.iastore, 1) := by decide +kernel
theorem dX6_addTrader_116 : decode cX6_addTrader 116 = .ok (.aload_n 0, 1) := by decide +kernel
theorem dX6_addTrader_117 : decode cX6_addTrader 117 = .ok (.getfield 7, 3) := by decide +kernel
theorem dX6_addTrader_120 : decode cX6_addTrader 120 = .ok (.bipush 99, 2) := by decide +kernel
theorem dX6_addTrader_122 : decode cX6_addTrader 122 = .ok (.iload 5, 2) := by decide +kernel
theorem dX6_addTrader_124 : decode cX6_addTrader 124 = .ok (.iadd, 1) := by decide +kernel
theorem dX6_addTrader_125 : decode cX6_addTrader 125 = .ok (.iload 4, 2) := by decide +kernel
theorem dX6_addTrader_127 : decode cX6_addTrader 127 = .ok (.ifCond .eq 7, 3) := by decide +kernel
theorem dX6_addTrader_130 : decode cX6_addTrader 130 = .ok (.iconst 1, 1) := by decide +kernel
theorem dX6_addTrader_131 : decode cX6_addTrader 131 = .ok (.goto 4, 3) := by decide +kernel
theorem dX6_addTrader_134 : decode cX6_addTrader 134 = .ok (.iconst 0, 1) := by decide +kernel
theorem dX6_addTrader_135 : decode cX6_addTrader 135 = .ok (.iastore, 1) := by decide +kernel
theorem dX6_addTrader_136 : decode cX6_addTrader 136 = .ok (.aload_n 0, 1) := by decide +kernel
theorem dX6_addTrader_137 : decode cX6_addTrader 137 = .ok (.getfield 7, 3) := by decide +kernel
theorem dX6_addTrader_140 : decode cX6_addTrader 140 = .ok (.bipush 74, 2) := by decide +kernel
theorem dX6_addTrader_142 : decode cX6_addTrader 142 = .ok (.dup2, 1) := by decide +kernel
theorem dX6_addTrader_143 : decode cX6_addTrader 143 = .ok (.iaload, 1) := by decide +kernel
theorem dX6_addTrader_144 : decode cX6_addTrader 144 = .ok (.iconst 1, 1) := by decide +kernel
theorem dX6_addTrader_145 : decode cX6_addTrader 145 = .ok (.iadd, 1) := by decide +kernel
theorem dX6_addTrader_146 : decode cX6_addTrader 146 = .ok (.iastore, 1) := by decide +kernel
theorem dX6_addTrader_147 : decode cX6_addTrader 147 = .ok (.iload 5, 2) := by decide +kernel
theorem dX6_addTrader_149 : decode cX6_addTrader 149 = .ok (.ireturn, 1) := by decide +kernel
theorem dX6_clash_0 : decode cX6_clash 0 = .ok (.aload_n 0, 1) := by decide +kernel
theorem dX6_clash_1 : decode cX6_clash 1 = .ok (.iload_n 1, 1) := by decide +kernel
theorem dX6_clash_2 : decode cX6_clash 2 = .ok (.iload_n 2, 1) := by decide +kernel
theorem dX6_clash_3 : decode cX6_clash 3 = .ok (.invokestatic 204, 3) := by decide +kernel
theorem dX6_clash_6 : decode cX6_clash 6 = .ok (.ifCond .eq 7, 3) := by decide +kernel
theorem dX6_clash_9 : decode cX6_clash 9 = .ok (.iconst 0, 1) := by decide +kernel
theorem dX6_clash_10 : decode cX6_clash 10 = .ok (.goto 4, 3) := by decide +kernel
theorem dX6_clash_13 : decode cX6_clash 13 = .ok (.iconst 1, 1) := by decide +kernel
theorem dX6_clash_14 : decode cX6_clash 14 = .ok (.putfield 58, 3) := by decide +kernel
theorem dX6_clash_17 : decode cX6_clash 17 = .ok (.aload_n 0, 1) := by decide +kernel
theorem dX6_clash_18 : decode cX6_clash 18 = .ok (.getfield 58, 3) := by decide +kernel
theorem dX6_clash_21 : decode cX6_clash 21 = .ok (.ifCond .ne 25, 3) := by decide +kernel
theorem dX6_clash_24 : decode cX6_clash 24 = .ok (.aload_n 0, 1) := by decide +kernel
theorem dX6_clash_25 : decode cX6_clash 25 = .ok (.getfield 7, 3) := by decide +kernel
theorem dX6_clash_28 : decode cX6_clash 28 = .ok (.bipush 115, 2) := by decide +kernel
theorem dX6_clash_30 : decode cX6_clash 30 = .ok (.bipush 8, 2) := by decide +kernel
theorem dX6_clash_32 : decode cX6_clash 32 = .ok (.iload_n 1, 1) := by decide +kernel
theorem dX6_clash_33 : decode cX6_clash 33 = .ok (.imul, 1) := by decide +kernel
theorem dX6_clash_34 : decode cX6_clash 34 = .ok (.iadd, 1) := by decide +kernel
theorem dX6_clash_35 : decode cX6_clash 35 = .ok (.iload_n 2, 1) := by decide +kernel
theorem dX6_clash_36 : decode cX6_clash 36 = .ok (.iadd, 1) := by decide +kernel
theorem dX6_clash_37 : decode cX6_clash 37 = .ok (.iaload, 1) := by decide +kernel
theorem dX6_clash_38 : decode cX6_clash 38 = .ok (.iconst 1, 1) := by decide +kernel
theorem dX6_clash_39 : decode cX6_clash 39 = .ok (.if_icmp .ne 7, 3) := by decide +kernel
theorem dX6_clash_42 : decode cX6_clash 42 = .ok (.iconst 1, 1) := by decide +kernel
theorem dX6_clash_43 : decode cX6_clash 43 = .ok (.goto 4, 3) := by decide +kernel
theorem dX6_clash_46 : decode cX6_clash 46 = .ok (.iconst 0, 1) := by decide +kernel
theorem dX6_clash_47 : decode cX6_clash 47 = .ok (.ireturn, 1) := by decide +kernel
theorem dX6_areBeside_0 : decode cX6_areBeside 0 = .ok (.iconst 0, 1) := by decide +kernel
theorem dX6_areBeside_1 : decode cX6_areBeside 1 = .ok (.istore_n 3, 1) := by decide +kernel
theorem dX6_areBeside_2 : decode cX6_areBeside 2 = .ok (.iload_n 3, 1) := by decide +kernel
theorem dX6_areBeside_3 : decode cX6_areBeside 3 = .ok (.iconst 1, 1) := by decide +kernel
theorem dX6_areBeside_4 : decode cX6_areBeside 4 = .ok (.iadd, 1) := by decide +kernel
theorem dX6_areBeside_5 : decode cX6_areBeside 5 = .ok (.aload_n 0, 1) := by decide +kernel
theorem dX6_areBeside_6 : decode cX6_areBeside 6 = .ok (.getfield 7, 3) := by decide +kernel
theorem dX6_areBeside_9 : decode cX6_areBeside 9 = .ok (.iconst 1, 1) := by decide +kernel
theorem dX6_areBeside_10 : decode cX6_areBeside 10 = .ok (.iaload, 1) := by decide +kernel
theorem dX6_areBeside_11 : decode cX6_areBeside 11 = .ok (.if_icmp .ge 128, 3) := by decide +kernel
theorem dX6_areBeside_14 : decode cX6_areBeside 14 = .ok (.aload_n 0, 1) := by decide +kernel
theorem dX6_areBeside_15 : decode cX6_areBeside 15 = .ok (.iload_n 3, 1) := by decide +kernel
theorem dX6_areBeside_16 : decode cX6_areBeside 16 = .ok (.invokevirtual 191, 3) := by decide +kernel
theorem dX6_areBeside_19 : decode cX6_areBeside 19 = .ok (.istore 4, 2) := by decide +kernel
theorem dX6_areBeside_21 : decode cX6_areBeside 21 = .ok (.aload_n 0, 1) := by decide +kernel
theorem dX6_areBeside_22 : decode cX6_areBeside 22 = .ok (.iload_n 3, 1) := by decide +kernel
theorem dX6_areBeside_23 : decode cX6_areBeside 23 = .ok (.iconst 1, 1) := by decide +kernel
theorem dX6_areBeside_24 : decode cX6_areBeside 24 = .ok (.iadd, 1) := by decide +kernel
theorem dX6_areBeside_25 : decode cX6_areBeside 25 = .ok (.invokevirtual 191, 3) := by decide +kernel
theorem dX6_areBeside_28 : decode cX6_areBeside 28 = .ok (.istore 5, 2) := by decide +kernel
theorem dX6_areBeside_30 : decode cX6_areBeside 30 = .ok (.aload_n 0, 1) := by decide +kernel
theorem dX6_areBeside_31 : decode cX6_areBeside 31 = .ok (.getfield 7, 3) := by decide +kernel
theorem dX6_areBeside_34 : decode cX6_areBeside 34 = .ok (.bipush 50, 2) := by decide +kernel
theorem dX6_areBeside_36 : decode cX6_areBeside 36 = .ok (.iload_n 3, 1) := by decide +kernel
theorem dX6_areBeside_37 : decode cX6_areBeside 37 = .ok (.iadd, 1) := by decide +kernel
theorem dX6_areBeside_38 : decode cX6_areBeside 38 = .ok (.iaload, 1) := by decide +kernel
theorem dX6_areBeside_39 : decode cX6_areBeside 39 = .ok (.aload_n 0, 1) := by decide +kernel
theorem dX6_areBeside_40 : decode cX6_areBeside 40 = .ok (.getfield 7, 3) := by decide +kernel
theorem dX6_areBeside_43 : decode cX6_areBeside 43 = .ok (.bipush 50, 2) := by decide +kernel
theorem dX6_areBeside_45 : decode cX6_areBeside 45 = .ok (.iload_n 3, 1) := by decide +kernel
theorem dX6_areBeside_46 : decode cX6_areBeside 46 = .ok (.iadd, 1) := by decide +kernel
theorem dX6_areBeside_47 : decode cX6_areBeside 47 = .ok (.iconst 1, 1) := by decide +kernel
theorem dX6_areBeside_48 : decode cX6_areBeside 48 = .ok (.iadd, 1) := by decide +kernel
theorem dX6_areBeside_49 : decode cX6_areBeside 49 = .ok (.iaload, 1) := by decide +kernel
theorem dX6_areBeside_50 : decode cX6_areBeside 50 = .ok (.if_icmp .ne 83, 3) := by decide +kernel
theorem dX6_areBeside_53 : decode cX6_areBeside 53 = .ok (.iload 4, 2) := by decide +kernel
theorem dX6_areBeside_55 : decode cX6_areBeside 55 = .ok (.iconst (-1), 1) := by decide +kernel
theorem dX6_areBeside_56 : decode cX6_areBeside 56 = .ok (.if_icmp .eq 77, 3) := by decide +kernel
theorem dX6_areBeside_59 : decode cX6_areBeside 59 = .ok (.iload 5, 2) := by decide +kernel
theorem dX6_areBeside_61 : decode cX6_areBeside 61 = .ok (.iconst (-1), 1) := by decide +kernel
theorem dX6_areBeside_62 : decode cX6_areBeside 62 = .ok (.if_icmp .eq 71, 3) := by decide +kernel
theorem dX6_areBeside_65 : decode cX6_areBeside 65 = .ok (.iload 4, 2) := by decide +kernel
theorem dX6_areBeside_67 : decode cX6_areBeside 67 = .ok (.iload 5, 2) := by decide +kernel
theorem dX6_areBeside_69 : decode cX6_areBeside 69 = .ok (.if_icmp .ne 6, 3) := by decide +kernel
theorem dX6_areBeside_72 : decode cX6_areBeside 72 = .ok (.goto 61, 3) := by decide +kernel
theorem dX6_areBeside_75 : decode cX6_areBeside 75 = .ok (.aload_n 0, 1) := by decide +kernel
theorem dX6_areBeside_76 : decode cX6_areBeside 76 = .ok (.getfield 7, 3) := by decide +kernel
theorem dX6_areBeside_79 : decode cX6_areBeside 79 = .ok (.bipush 75, 2) := by decide +kernel
theorem dX6_areBeside_81 : decode cX6_areBeside 81 = .ok (.iload 4, 2) := by decide +kernel
theorem dX6_areBeside_83 : decode cX6_areBeside 83 = .ok (.iadd, 1) := by decide +kernel
theorem dX6_areBeside_84 : decode cX6_areBeside 84 = .ok (.iaload, 1) := by decide +kernel
theorem dX6_areBeside_85 : decode cX6_areBeside 85 = .ok (.iload_n 1, 1) := by decide +kernel
theorem dX6_areBeside_86 : decode cX6_areBeside 86 = .ok (.if_icmp .ne 17, 3) := by decide +kernel
theorem dX6_areBeside_89 : decode cX6_areBeside 89 = .ok (.aload_n 0, 1) := by decide +kernel
theorem dX6_areBeside_90 : decode cX6_areBeside 90 = .ok (.getfield 7, 3) := by decide +kernel
theorem dX6_areBeside_93 : decode cX6_areBeside 93 = .ok (.bipush 75, 2) := by decide +kernel
theorem dX6_areBeside_95 : decode cX6_areBeside 95 = .ok (.iload 5, 2) := by decide +kernel
theorem dX6_areBeside_97 : decode cX6_areBeside 97 = .ok (.iadd, 1) := by decide +kernel
theorem dX6_areBeside_98 : decode cX6_areBeside 98 = .ok (.iaload, 1) := by decide +kernel
theorem dX6_areBeside_99 : decode cX6_areBeside 99 = .ok (.iload_n 2, 1) := by decide +kernel
theorem dX6_areBeside_100 : decode cX6_areBeside 100 = .ok (.if_icmp .eq 31, 3) := by decide +kernel
theorem dX6_areBeside_103 : decode cX6_areBeside 103 = .ok (.aload_n 0, 1) := by decide +kernel
theorem dX6_areBeside_104 : decode cX6_areBeside 104 = .ok (.getfield 7, 3) := by decide +kernel
theorem dX6_areBeside_107 : decode cX6_areBeside 107 = .ok (.bipush 75, 2) := by decide +kernel
theorem dX6_areBeside_109 : decode cX6_areBeside 109 = .ok (.iload 4, 2) := by decide +kernel
theorem dX6_areBeside_111 : decode cX6_areBeside 111 = .ok (.iadd, 1) := by decide +kernel
theorem dX6_areBeside_112 : decode cX6_areBeside 112 = .ok (.iaload, 1) := by decide +kernel
theorem dX6_areBeside_113 : decode cX6_areBeside 113 = .ok (.iload_n 2, 1) := by decide +kernel
theorem dX6_areBeside_114 : decode cX6_areBeside 114 = .ok (.if_icmp .ne 19, 3) := by decide +kernel
theorem dX6_areBeside_117 : decode cX6_areBeside 117 = .ok (.aload_n 0, 1) := by decide +kernel
theorem dX6_areBeside_118 : decode cX6_areBeside 118 = .ok (.getfield 7, 3) := by decide +kernel
theorem dX6_areBeside_121 : decode cX6_areBeside 121 = .ok (.bipush 75, 2) := by decide +kernel
theorem dX6_areBeside_123 : decode cX6_areBeside 123 = .ok (.iload 5, 2) := by decide +kernel
theorem dX6_areBeside_125 : decode cX6_areBeside 125 = .ok (.iadd, 1) := by decide +kernel
theorem dX6_areBeside_126 : decode cX6_areBeside 126 = .ok (.iaload, 1) := by decide +kernel
theorem dX6_areBeside_127 : decode cX6_areBeside 127 = .ok (.iload_n 1, 1) := by decide +kernel
theorem dX6_areBeside_128 : decode cX6_areBeside 128 = .ok (.if_icmp .ne 5, 3) := by decide +kernel
theorem dX6_areBeside_131 : decode cX6_areBeside 131 = .ok (.iconst 1, 1) := by decide +kernel
theorem dX6_areBeside_132 : decode cX6_areBeside 132 = .ok (.ireturn, 1) := by decide +kernel
theorem dX6_areBeside_133 : decode cX6_areBeside 133 = .ok (.iinc 3 1, 3) := by decide +kernel
theorem dX6_areBeside_136 : decode cX6_areBeside 136 = .ok (.goto (-134), 3) := by decide +kernel
theorem dX6_areBeside_139 : decode cX6_areBeside 139 = .ok (.iconst 0, 1) := by decide +kernel
theorem dX6_areBeside_140 : decode cX6_areBeside 140 = .ok (.ireturn, 1) := by decide +kernel
theorem dX6_setClash_0 : decode cX6_setClash 0 = .ok (.aload_n 0, 1) := by decide +kernel
theorem dX6_setClash_1 : decode cX6_setClash 1 = .ok (.iload_n 1, 1) := by decide +kernel
theorem dX6_setClash_2 : decode cX6_setClash 2 = .ok (.iload_n 2, 1) := by decide +kernel
theorem dX6_setClash_3 : decode cX6_setClash 3 = .ok (.invokestatic 204, 3) := by decide +kernel
theorem dX6_setClash_6 : decode cX6_setClash 6 = .ok (.ifCond .ne 7, 3) := by decide +kernel
theorem dX6_setClash_9 : decode cX6_setClash 9 = .ok (.iconst 1, 1) := by decide +kernel
theorem dX6_setClash_10 : decode cX6_setClash 10 = .ok (.goto 21, 3) := by decide +kernel
theorem dX6_setClash_13 : decode cX6_setClash 13 = .ok (.iload_n 3, 1) := by decide +kernel
theorem dX6_setClash_14 : decode cX6_setClash 14 = .ok (.ifCond .eq 16, 3) := by decide +kernel
theorem dX6_setClash_17 : decode cX6_setClash 17 = .ok (.aload_n 0, 1) := by decide +kernel
theorem dX6_setClash_18 : decode cX6_setClash 18 = .ok (.iload_n 1, 1) := by decide +kernel
theorem dX6_setClash_19 : decode cX6_setClash 19 = .ok (.iload_n 2, 1) := by decide +kernel
theorem dX6_setClash_20 : decode cX6_setClash 20 = .ok (.invokevirtual 207, 3) := by decide +kernel
theorem dX6_setClash_23 : decode cX6_setClash 23 = .ok (.ifCond .eq 7, 3) := by decide +kernel
theorem dX6_setClash_26 : decode cX6_setClash 26 = .ok (.iconst 2, 1) := by decide +kernel
theorem dX6_setClash_27 : decode cX6_setClash 27 = .ok (.goto 4, 3) := by decide +kernel
theorem dX6_setClash_30 : decode cX6_setClash 30 = .ok (.iconst 0, 1) := by decide +kernel
theorem dX6_setClash_31 : decode cX6_setClash 31 = .ok (.putfield 58, 3) := by decide +kernel
theorem dX6_setClash_34 : decode cX6_setClash 34 = .ok (.aload_n 0, 1) := by decide +kernel
theorem dX6_setClash_35 : decode cX6_setClash 35 = .ok (.getfield 58, 3) := by decide +kernel
theorem dX6_setClash_38 : decode cX6_setClash 38 = .ok (.ifCond .le 4, 3) := by decide +kernel
theorem dX6_setClash_41 : decode cX6_setClash 41 = .ok (.return_, 1) := by decide +kernel
theorem dX6_setClash_42 : decode cX6_setClash 42 = .ok (.aload_n 0, 1) := by decide +kernel
theorem dX6_setClash_43 : decode cX6_setClash 43 = .ok (.invokevirtual 170, 3) := by decide +kernel
theorem dX6_setClash_46 : decode cX6_setClash 46 = .ok (.aload_n 0, 1) := by decide +kernel
theorem dX6_setClash_47 : decode cX6_setClash 47 = .ok (.getfield 7, 3) := by decide +kernel
theorem dX6_setClash_50 : decode cX6_setClash 50 = .ok (.iload_n 1, 1) := by decide +kernel
theorem dX6_setClash_51 : decode cX6_setClash 51 = .ok (.iload_n 2, 1) := by decide +kernel
theorem dX6_setClash_52 : decode cX6_setClash 52 = .ok (.iload_n 3, 1) := by decide +kernel
theorem dX6_setClash_53 : decode cX6_setClash 53 = .ok (.ifCond .eq 7, 3) := by decide +kernel
theorem dX6_setClash_56 : decode cX6_setClash 56 = .ok (.iconst 1, 1) := by decide +kernel
theorem dX6_setClash_57 : decode cX6_setClash 57 = .ok (.goto 4, 3) := by decide +kernel
theorem dX6_setClash_60 : decode cX6_setClash 60 = .ok (.iconst 0, 1) := by decide +kernel
theorem dX6_setClash_61 : decode cX6_setClash 61 = .ok (.invokestatic 159, 3) := by decide +kernel
theorem dX6_setClash_64 : decode cX6_setClash 64 = .ok (.return_, 1) := by decide +kernel
theorem dX6_setCovers_0 : decode cX6_setCovers 0 = .ok (.aload_n 0, 1) := by decide +kernel
theorem dX6_setCovers_1 : decode cX6_setCovers 1 = .ok (.iload_n 1, 1) := by decide +kernel
theorem dX6_setCovers_2 : decode cX6_setCovers 2 = .ok (.i2l, 1) := by decide +kernel
theorem dX6_setCovers_3 : decode cX6_setCovers 3 = .ok (.lconst 0, 1) := by decide +kernel
theorem dX6_setCovers_4 : decode cX6_setCovers 4 = .ok (.ldc2_w 210, 3) := by decide +kernel
theorem dX6_setCovers_7 : decode cX6_setCovers 7 = .ok (.invokestatic 74, 3) := by decide +kernel
theorem dX6_setCovers_10 : decode cX6_setCovers 10 = .ok (.ifCond .ne 7, 3) := by decide +kernel
theorem dX6_setCovers_13 : decode cX6_setCovers 13 = .ok (.iconst 1, 1) := by decide +kernel
theorem dX6_setCovers_14 : decode cX6_setCovers 14 = .ok (.goto 16, 3) := by decide +kernel
theorem dX6_setCovers_17 : decode cX6_setCovers 17 = .ok (.iload_n 1, 1) := by decide +kernel
theorem dX6_setCovers_18 : decode cX6_setCovers 18 = .ok (.aload_n 0, 1) := by decide +kernel
theorem dX6_setCovers_19 : decode cX6_setCovers 19 = .ok (.invokevirtual 212, 3) := by decide +kernel
theorem dX6_setCovers_22 : decode cX6_setCovers 22 = .ok (.if_icmp .ge 7, 3) := by decide +kernel
theorem dX6_setCovers_25 : decode cX6_setCovers 25 = .ok (.iconst 2, 1) := by decide +kernel
theorem dX6_setCovers_26 : decode cX6_setCovers 26 = .ok (.goto 4, 3) := by decide +kernel
theorem dX6_setCovers_29 : decode cX6_setCovers 29 = .ok (.iconst 0, 1) := by decide +kernel
theorem dX6_setCovers_30 : decode cX6_setCovers 30 = .ok (.putfield 58, 3) := by decide +kernel
theorem dX6_setCovers_33 : decode cX6_setCovers 33 = .ok (.aload_n 0, 1) := by decide +kernel
theorem dX6_setCovers_34 : decode cX6_setCovers 34 = .ok (.getfield 58, 3) := by decide +kernel
theorem dX6_setCovers_37 : decode cX6_setCovers 37 = .ok (.ifCond .le 5, 3) := by decide +kernel
theorem dX6_setCovers_40 : decode cX6_setCovers 40 = .ok (.iconst 0, 1) := by decide +kernel
theorem dX6_setCovers_41 : decode cX6_setCovers 41 = .ok (.ireturn, 1) := by decide +kernel
theorem dX6_setCovers_42 : decode cX6_setCovers 42 = .ok (.aload_n 0, 1) := by decide +kernel
theorem dX6_setCovers_43 : decode cX6_setCovers 43 = .ok (.invokevirtual 170, 3) := by decide +kernel
theorem dX6_setCovers_46 : decode cX6_setCovers 46 = .ok (.aload_n 0, 1) := by decide +kernel
theorem dX6_setCovers_47 : decode cX6_setCovers 47 = .ok (.getfield 7, 3) := by decide +kernel
theorem dX6_setCovers_50 : decode cX6_setCovers 50 = .ok (.sipush 179, 3) := by decide +kernel
theorem dX6_setCovers_53 : decode cX6_setCovers 53 = .ok (.iaload, 1) := by decide +kernel
theorem dX6_setCovers_54 : decode cX6_setCovers 54 = .ok (.istore_n 2, 1) := by decide +kernel
theorem dX6_setCovers_55 : decode cX6_setCovers 55 = .ok (.aload_n 0, 1) := by decide +kernel
theorem dX6_setCovers_56 : decode cX6_setCovers 56 = .ok (.getfield 7, 3) := by decide +kernel
theorem dX6_setCovers_59 : decode cX6_setCovers 59 = .ok (.sipush 179, 3) := by decide +kernel
theorem dX6_setCovers_62 : decode cX6_setCovers 62 = .ok (.iload_n 1, 1) := by decide +kernel
theorem dX6_setCovers_63 : decode cX6_setCovers 63 = .ok (.iastore, 1) := by decide +kernel
theorem dX6_setCovers_64 : decode cX6_setCovers 64 = .ok (.iload_n 2, 1) := by decide +kernel
theorem dX6_setCovers_65 : decode cX6_setCovers 65 = .ok (.ireturn, 1) := by decide +kernel
theorem dX6_isFree_0 : decode cX6_isFree 0 = .ok (.iconst 0, 1) := by decide +kernel
theorem dX6_isFree_1 : decode cX6_isFree 1 = .ok (.istore_n 3, 1) := by decide +kernel
theorem dX6_isFree_2 : decode cX6_isFree 2 = .ok (.iload_n 3, 1) := by decide +kernel
theorem dX6_isFree_3 : decode cX6_isFree 3 = .ok (.aload_n 0, 1) := by decide +kernel
theorem dX6_isFree_4 : decode cX6_isFree 4 = .ok (.getfield 7, 3) := by decide +kernel
theorem dX6_isFree_7 : decode cX6_isFree 7 = .ok (.bipush 83, 2) := by decide +kernel
theorem dX6_isFree_9 : decode cX6_isFree 9 = .ok (.iload_n 1, 1) := by decide +kernel
theorem dX6_isFree_10 : decode cX6_isFree 10 = .ok (.iadd, 1) := by decide +kernel
theorem dX6_isFree_11 : decode cX6_isFree 11 = .ok (.iaload, 1) := by decide +kernel
theorem dX6_isFree_12 : decode cX6_isFree 12 = .ok (.if_icmp .ge 22, 3) := by decide +kernel
theorem dX6_isFree_15 : decode cX6_isFree 15 = .ok (.aload_n 0, 1) := by decide +kernel
theorem dX6_isFree_16 : decode cX6_isFree 16 = .ok (.iload_n 2, 1) := by decide +kernel
theorem dX6_isFree_17 : decode cX6_isFree 17 = .ok (.iload_n 3, 1) := by decide +kernel
theorem dX6_isFree_18 : decode cX6_isFree 18 = .ok (.iadd, 1) := by decide +kernel
theorem dX6_isFree_19 : decode cX6_isFree 19 = .ok (.invokevirtual 191, 3) := by decide +kernel
theorem dX6_isFree_22 : decode cX6_isFree 22 = .ok (.iconst (-1), 1) := by decide +kernel
theorem dX6_isFree_23 : decode cX6_isFree 23 = .ok (.if_icmp .eq 5, 3) := by decide +kernel
theorem dX6_isFree_26 : decode cX6_isFree 26 = .ok (.iconst 0, 1) := by decide +kernel
theorem dX6_isFree_27 : decode cX6_isFree 27 = .ok (.ireturn, 1) := by decide +kernel
theorem dX6_isFree_28 : decode cX6_isFree 28 = .ok (.iinc 3 1, 3) := by decide +kernel
theorem dX6_isFree_31 : decode cX6_isFree 31 = .ok (.goto (-29), 3) := by decide +kernel
theorem dX6_isFree_34 : decode cX6_isFree 34 = .ok (.iconst 1, 1) := by decide +kernel
theorem dX6_isFree_35 : decode cX6_isFree 35 = .ok (.ireturn, 1) := by decide +kernel
theorem dX6_clashesAt_0 : decode cX6_clashesAt 0 = .ok (.aload_n 0, 1) := by decide +kernel
theorem dX6_clashesAt_1 : decode cX6_clashesAt 1 = .ok (.iload_n 3, 1) := by decide +kernel
theorem dX6_clashesAt_2 : decode cX6_clashesAt 2 = .ok (.invokevirtual 175, 3) := by decide +kernel
theorem dX6_clashesAt_5 : decode cX6_clashesAt 5 = .ok (.ifCond .eq 50, 3) := by decide +kernel
theorem dX6_clashesAt_8 : decode cX6_clashesAt 8 = .ok (.aload_n 0, 1) := by decide +kernel
theorem dX6_clashesAt_9 : decode cX6_clashesAt 9 = .ok (.getfield 7, 3) := by decide +kernel
theorem dX6_clashesAt_12 : decode cX6_clashesAt 12 = .ok (.bipush 50, 2) := by decide +kernel
theorem dX6_clashesAt_14 : decode cX6_clashesAt 14 = .ok (.iload_n 3, 1) := by decide +kernel
theorem dX6_clashesAt_15 : decode cX6_clashesAt 15 = .ok (.iadd, 1) := by decide +kernel
theorem dX6_clashesAt_16 : decode cX6_clashesAt 16 = .ok (.iaload, 1) := by decide +kernel
theorem dX6_clashesAt_17 : decode cX6_clashesAt 17 = .ok (.aload_n 0, 1) := by decide +kernel
theorem dX6_clashesAt_18 : decode cX6_clashesAt 18 = .ok (.getfield 7, 3) := by decide +kernel
theorem dX6_clashesAt_21 : decode cX6_clashesAt 21 = .ok (.bipush 50, 2) := by decide +kernel
theorem dX6_clashesAt_23 : decode cX6_clashesAt 23 = .ok (.iload_n 2, 1) := by decide +kernel
theorem dX6_clashesAt_24 : decode cX6_clashesAt 24 = .ok (.iadd, 1) := by decide +kernel
theorem dX6_clashesAt_25 : decode cX6_clashesAt 25 = .ok (.iaload, 1) := by decide +kernel
theorem dX6_clashesAt_26 : decode cX6_clashesAt 26 = .ok (.if_icmp .ne 29, 3) := by decide +kernel
theorem dX6_clashesAt_29 : decode cX6_clashesAt 29 = .ok (.aload_n 0, 1) := by decide +kernel
theorem dX6_clashesAt_30 : decode cX6_clashesAt 30 = .ok (.iload_n 3, 1) := by decide +kernel
theorem dX6_clashesAt_31 : decode cX6_clashesAt 31 = .ok (.invokevirtual 191, 3) := by decide +kernel
theorem dX6_clashesAt_34 : decode cX6_clashesAt 34 = .ok (.iconst (-1), 1) := by decide +kernel
theorem dX6_clashesAt_35 : decode cX6_clashesAt 35 = .ok (.if_icmp .eq 20, 3) := by decide +kernel
theorem dX6_clashesAt_38 : decode cX6_clashesAt 38 = .ok (.aload_n 0, 1) := by decide +kernel
theorem dX6_clashesAt_39 : decode cX6_clashesAt 39 = .ok (.iload_n 1, 1) := by decide +kernel
theorem dX6_clashesAt_40 : decode cX6_clashesAt 40 = .ok (.aload_n 0, 1) := by decide +kernel
theorem dX6_clashesAt_41 : decode cX6_clashesAt 41 = .ok (.iload_n 3, 1) := by decide +kernel
theorem dX6_clashesAt_42 : decode cX6_clashesAt 42 = .ok (.invokevirtual 191, 3) := by decide +kernel
theorem dX6_clashesAt_45 : decode cX6_clashesAt 45 = .ok (.invokevirtual 215, 3) := by decide +kernel
theorem dX6_clashesAt_48 : decode cX6_clashesAt 48 = .ok (.ifCond .eq 7, 3) := by decide +kernel
theorem dX6_clashesAt_51 : decode cX6_clashesAt 51 = .ok (.iconst 1, 1) := by decide +kernel
theorem dX6_clashesAt_52 : decode cX6_clashesAt 52 = .ok (.goto 4, 3) := by decide +kernel
theorem dX6_clashesAt_55 : decode cX6_clashesAt 55 = .ok (.iconst 0, 1) := by decide +kernel
theorem dX6_clashesAt_56 : decode cX6_clashesAt 56 = .ok (.ireturn, 1) := by decide +kernel
theorem dX6_hinders_0 : decode cX6_hinders 0 = .ok (.aload_n 0, 1) := by decide +kernel
theorem dX6_hinders_1 : decode cX6_hinders 1 = .ok (.getfield 7, 3) := by decide +kernel
theorem dX6_hinders_4 : decode cX6_hinders 4 = .ok (.bipush 107, 2) := by decide +kernel
theorem dX6_hinders_6 : decode cX6_hinders 6 = .ok (.iload_n 1, 1) := by decide +kernel
theorem dX6_hinders_7 : decode cX6_hinders 7 = .ok (.iadd, 1) := by decide +kernel
theorem dX6_hinders_8 : decode cX6_hinders 8 = .ok (.iaload, 1) := by decide +kernel
theorem dX6_hinders_9 : decode cX6_hinders 9 = .ok (.iconst (-1), 1) := by decide +kernel
theorem dX6_hinders_10 : decode cX6_hinders 10 = .ok (.if_icmp .eq 5, 3) := by decide +kernel
theorem dX6_hinders_13 : decode cX6_hinders 13 = .ok (.iconst 1, 1) := by decide +kernel
theorem dX6_hinders_14 : decode cX6_hinders 14 = .ok (.ireturn, 1) := by decide +kernel
theorem dX6_hinders_15 : decode cX6_hinders 15 = .ok (.aload_n 0, 1) := by decide +kernel
theorem dX6_hinders_16 : decode cX6_hinders 16 = .ok (.iload_n 1, 1) := by decide +kernel
theorem dX6_hinders_17 : decode cX6_hinders 17 = .ok (.iload_n 2, 1) := by decide +kernel
theorem dX6_hinders_18 : decode cX6_hinders 18 = .ok (.invokevirtual 218, 3) := by decide +kernel
theorem dX6_hinders_21 : decode cX6_hinders 21 = .ok (.ifCond .ne 5, 3) := by decide +kernel
theorem dX6_hinders_24 : decode cX6_hinders 24 = .ok (.iconst 2, 1) := by decide +kernel
theorem dX6_hinders_25 : decode cX6_hinders 25 = .ok (.ireturn, 1) := by decide +kernel
theorem dX6_hinders_26 : decode cX6_hinders 26 = .ok (.aload_n 0, 1) := by decide +kernel
theorem dX6_hinders_27 : decode cX6_hinders 27 = .ok (.iload_n 1, 1) := by decide +kernel
theorem dX6_hinders_28 : decode cX6_hinders 28 = .ok (.iload_n 2, 1) := by decide +kernel
theorem dX6_hinders_29 : decode cX6_hinders 29 = .ok (.invokevirtual 221, 3) := by decide +kernel
theorem dX6_hinders_32 : decode cX6_hinders 32 = .ok (.ifCond .ne 5, 3) := by decide +kernel
theorem dX6_hinders_35 : decode cX6_hinders 35 = .ok (.iconst 3, 1) := by decide +kernel
theorem dX6_hinders_36 : decode cX6_hinders 36 = .ok (.ireturn, 1) := by decide +kernel
theorem dX6_hinders_37 : decode cX6_hinders 37 = .ok (.aload_n 0, 1) := by decide +kernel
theorem dX6_hinders_38 : decode cX6_hinders 38 = .ok (.iload_n 1, 1) := by decide +kernel
theorem dX6_hinders_39 : decode cX6_hinders 39 = .ok (.iload_n 2, 1) := by decide +kernel
theorem dX6_hinders_40 : decode cX6_hinders 40 = .ok (.invokevirtual 197, 3) := by decide +kernel
theorem dX6_hinders_43 : decode cX6_hinders 43 = .ok (.aload_n 0, 1) := by decide +kernel
theorem dX6_hinders_44 : decode cX6_hinders 44 = .ok (.getfield 7, 3) := by decide +kernel
theorem dX6_hinders_47 : decode cX6_hinders 47 = .ok (.bipush 91, 2) := by decide +kernel
theorem dX6_hinders_49 : decode cX6_hinders 49 = .ok (.iload_n 1, 1) := by decide +kernel
theorem dX6_hinders_50 : decode cX6_hinders 50 = .ok (.iadd, 1) := by decide +kernel
theorem dX6_hinders_51 : decode cX6_hinders 51 = .ok (.iaload, 1) := by decide +kernel
theorem dX6_hinders_52 : decode cX6_hinders 52 = .ok (.if_icmp .le 5, 3) := by decide +kernel
theorem dX6_hinders_55 : decode cX6_hinders 55 = .ok (.iconst 4, 1) := by decide +kernel
theorem dX6_hinders_56 : decode cX6_hinders 56 = .ok (.ireturn, 1) := by decide +kernel
theorem dX6_hinders_57 : decode cX6_hinders 57 = .ok (.aload_n 0, 1) := by decide +kernel
theorem dX6_hinders_58 : decode cX6_hinders 58 = .ok (.invokevirtual 212, 3) := by decide +kernel
theorem dX6_hinders_61 : decode cX6_hinders 61 = .ok (.aload_n 0, 1) := by decide +kernel
theorem dX6_hinders_62 : decode cX6_hinders 62 = .ok (.iload_n 1, 1) := by decide +kernel
theorem dX6_hinders_63 : decode cX6_hinders 63 = .ok (.iload_n 2, 1) := by decide +kernel
theorem dX6_hinders_64 : decode cX6_hinders 64 = .ok (.invokevirtual 194, 3) := by decide +kernel
theorem dX6_hinders_67 : decode cX6_hinders 67 = .ok (.iadd, 1) := by decide +kernel
theorem dX6_hinders_68 : decode cX6_hinders 68 = .ok (.aload_n 0, 1) := by decide +kernel
theorem dX6_hinders_69 : decode cX6_hinders 69 = .ok (.getfield 7, 3) := by decide +kernel
theorem dX6_hinders_72 : decode cX6_hinders 72 = .ok (.sipush 179, 3) := by decide +kernel
theorem dX6_hinders_75 : decode cX6_hinders 75 = .ok (.iaload, 1) := by decide +kernel
theorem dX6_hinders_76 : decode cX6_hinders 76 = .ok (.if_icmp .le 5, 3) := by decide +kernel
theorem dX6_hinders_79 : decode cX6_hinders 79 = .ok (.iconst 5, 1) := by decide +kernel
theorem dX6_hinders_80 : decode cX6_hinders 80 = .ok (.ireturn, 1) := by decide +kernel
theorem dX6_hinders_81 : decode cX6_hinders 81 = .ok (.aload_n 0, 1) := by decide +kernel
theorem dX6_hinders_82 : decode cX6_hinders 82 = .ok (.iload_n 1, 1) := by decide +kernel
theorem dX6_hinders_83 : decode cX6_hinders 83 = .ok (.iload_n 2, 1) := by decide +kernel
theorem dX6_hinders_84 : decode cX6_hinders 84 = .ok (.iload_n 2, 1) := by decide +kernel
theorem dX6_hinders_85 : decode cX6_hinders 85 = .ok (.iconst 1, 1) := by decide +kernel
theorem dX6_hinders_86 : decode cX6_hinders 86 = .ok (.isub, 1) := by decide +kernel
theorem dX6_hinders_87 : decode cX6_hinders 87 = .ok (.invokevirtual 224, 3) := by decide +kernel
theorem dX6_hinders_90 : decode cX6_hinders 90 = .ok (.ifCond .ne 23, 3) := by decide +kernel
theorem dX6_hinders_93 : decode cX6_hinders 93 = .ok (.aload_n 0, 1) := by decide +kernel
theorem dX6_hinders_94 : decode cX6_hinders 94 = .ok (.iload_n 1, 1) := by decide +kernel
theorem dX6_hinders_95 : decode cX6_hinders 95 = .ok (.iload_n 2, 1) := by decide +kernel
theorem dX6_hinders_96 : decode cX6_hinders 96 = .ok (.iload_n 2, 1) := by decide +kernel
theorem dX6_hinders_97 : decode cX6_hinders 97 = .ok (.aload_n 0, 1) := by decide +kernel
theorem dX6_hinders_98 : decode cX6_hinders 98 = .ok (.getfield 7, 3) := by decide +kernel
theorem dX6_hinders_101 : decode cX6_hinders 101 = .ok (.bipush 83, 2) := by decide +kernel
theorem dX6_hinders_103 : decode cX6_hinders 103 = .ok (.iload_n 1, 1) := by decide +kernel
theorem dX6_hinders_104 : decode cX6_hinders 104 = .ok (.iadd, 1) := by decide +kernel
theorem dX6_hinders_105 : decode cX6_hinders 105 = .ok (.iaload, 1) := by decide +kernel
theorem dX6_hinders_106 : decode cX6_hinders 106 = .ok (.iadd, 1) := by decide +kernel
theorem dX6_hinders_107 : decode cX6_hinders 107 = .ok (.invokevirtual 224, 3) := by decide +kernel
theorem dX6_hinders_110 : decode cX6_hinders 110 = .ok (.ifCond .eq 8, 3) := by decide +kernel
theorem dX6_hinders_113 : decode cX6_hinders 113 = .ok (.bipush 6, 2) := by decide +kernel
theorem dX6_hinders_115 : decode cX6_hinders 115 = .ok (.goto 4, 3) := by decide +kernel
theorem dX6_hinders_118 : decode cX6_hinders 118 = .ok (.iconst 0, 1) := by decide +kernel
theorem dX6_hinders_119 : decode cX6_hinders 119 = .ok (.ireturn, 1) := by decide +kernel
theorem dX6_obstacle_0 : decode cX6_obstacle 0 = .ok (.aload_n 0, 1) := by decide +kernel
theorem dX6_obstacle_1 : decode cX6_obstacle 1 = .ok (.aload_n 0, 1) := by decide +kernel
theorem dX6_obstacle_2 : decode cX6_obstacle 2 = .ok (.iload_n 1, 1) := by decide +kernel
theorem dX6_obstacle_3 : decode cX6_obstacle 3 = .ok (.invokevirtual 178, 3) := by decide +kernel
theorem dX6_obstacle_6 : decode cX6_obstacle 6 = .ok (.ifCond .eq 15, 3) := by decide +kernel
theorem dX6_obstacle_9 : decode cX6_obstacle 9 = .ok (.aload_n 0, 1) := by decide +kernel
theorem dX6_obstacle_10 : decode cX6_obstacle 10 = .ok (.iload_n 2, 1) := by decide +kernel
theorem dX6_obstacle_11 : decode cX6_obstacle 11 = .ok (.invokevirtual 175, 3) := by decide +kernel
theorem dX6_obstacle_14 : decode cX6_obstacle 14 = .ok (.ifCond .eq 7, 3) := by decide +kernel
theorem dX6_obstacle_17 : decode cX6_obstacle 17 = .ok (.iconst 0, 1) := by decide +kernel
theorem dX6_obstacle_18 : decode cX6_obstacle 18 = .ok (.goto 4, 3) := by decide +kernel
theorem dX6_obstacle_21 : decode cX6_obstacle 21 = .ok (.iconst 1, 1) := by decide +kernel
theorem dX6_obstacle_22 : decode cX6_obstacle 22 = .ok (.putfield 58, 3) := by decide +kernel
theorem dX6_obstacle_25 : decode cX6_obstacle 25 = .ok (.aload_n 0, 1) := by decide +kernel
theorem dX6_obstacle_26 : decode cX6_obstacle 26 = .ok (.getfield 58, 3) := by decide +kernel
theorem dX6_obstacle_29 : decode cX6_obstacle 29 = .ok (.ifCond .le 7, 3) := by decide +kernel
theorem dX6_obstacle_32 : decode cX6_obstacle 32 = .ok (.iconst 0, 1) := by decide +kernel
theorem dX6_obstacle_33 : decode cX6_obstacle 33 = .ok (.goto 9, 3) := by decide +kernel
theorem dX6_obstacle_36 : decode cX6_obstacle 36 = .ok (.aload_n 0, 1) := by decide +kernel
theorem dX6_obstacle_37 : decode cX6_obstacle 37 = .ok (.iload_n 1, 1) := by decide +kernel
theorem dX6_obstacle_38 : decode cX6_obstacle 38 = .ok (.iload_n 2, 1) := by decide +kernel
theorem dX6_obstacle_39 : decode cX6_obstacle 39 = .ok (.invokevirtual 228, 3) := by decide +kernel
theorem dX6_obstacle_42 : decode cX6_obstacle 42 = .ok (.ireturn, 1) := by decide +kernel
theorem dX6_place_0 : decode cX6_place 0 = .ok (.aload_n 0, 1) := by decide +kernel
theorem dX6_place_1 : decode cX6_place 1 = .ok (.aload_n 0, 1) := by decide +kernel
theorem dX6_place_2 : decode cX6_place 2 = .ok (.iload_n 1, 1) := by decide +kernel
theorem dX6_place_3 : decode cX6_place 3 = .ok (.invokevirtual 178, 3) := by decide +kernel
theorem dX6_place_6 : decode cX6_place 6 = .ok (.ifCond .eq 11, 3) := by decide +kernel
theorem dX6_place_9 : decode cX6_place 9 = .ok (.aload_n 0, 1) := by decide +kernel
theorem dX6_place_10 : decode cX6_place 10 = .ok (.iload_n 2, 1) := by decide +kernel
theorem dX6_place_11 : decode cX6_place 11 = .ok (.invokevirtual 175, 3) := by decide +kernel
theorem dX6_place_14 : decode cX6_place 14 = .ok (.ifCond .ne 7, 3) := by decide +kernel
theorem dX6_place_17 : decode cX6_place 17 = .ok (.iconst 1, 1) := by decide +kernel
theorem dX6_place_18 : decode cX6_place 18 = .ok (.goto 17, 3) := by decide +kernel
theorem dX6_place_21 : decode cX6_place 21 = .ok (.aload_n 0, 1) := by decide +kernel
theorem dX6_place_22 : decode cX6_place 22 = .ok (.iload_n 1, 1) := by decide +kernel
theorem dX6_place_23 : decode cX6_place 23 = .ok (.iload_n 2, 1) := by decide +kernel
theorem dX6_place_24 : decode cX6_place 24 = .ok (.invokevirtual 228, 3) := by decide +kernel
theorem dX6_place_27 : decode cX6_place 27 = .ok (.ifCond .eq 7, 3) := by decide +kernel
theorem dX6_place_30 : decode cX6_place 30 = .ok (.iconst 2, 1) := by decide +kernel
theorem dX6_place_31 : decode cX6_place 31 = .ok (.goto 4, 3) := by decide +kernel
theorem dX6_place_34 : decode cX6_place 34 = .ok (.iconst 0, 1) := by decide +kernel
theorem dX6_place_35 : decode cX6_place 35 = .ok (.putfield 58, 3) := by decide +kernel
theorem dX6_place_38 : decode cX6_place 38 = .ok (.aload_n 0, 1) := by decide +kernel
theorem dX6_place_39 : decode cX6_place 39 = .ok (.getfield 58, 3) := by decide +kernel
theorem dX6_place_42 : decode cX6_place 42 = .ok (.ifCond .le 5, 3) := by decide +kernel
theorem dX6_place_45 : decode cX6_place 45 = .ok (.iconst 0, 1) := by decide +kernel
theorem dX6_place_46 : decode cX6_place 46 = .ok (.ireturn, 1) := by decide +kernel
theorem dX6_place_47 : decode cX6_place 47 = .ok (.aload_n 0, 1) := by decide +kernel
theorem dX6_place_48 : decode cX6_place 48 = .ok (.invokevirtual 170, 3) := by decide +kernel
theorem dX6_place_51 : decode cX6_place 51 = .ok (.aload_n 0, 1) := by decide +kernel
theorem dX6_place_52 : decode cX6_place 52 = .ok (.getfield 7, 3) := by decide +kernel
theorem dX6_place_55 : decode cX6_place 55 = .ok (.bipush 107, 2) := by decide +kernel
theorem dX6_place_57 : decode cX6_place 57 = .ok (.iload_n 1, 1) := by decide +kernel
theorem dX6_place_58 : decode cX6_place 58 = .ok (.iadd, 1) := by decide +kernel
theorem dX6_place_59 : decode cX6_place 59 = .ok (.iload_n 2, 1) := by decide +kernel
theorem dX6_place_60 : decode cX6_place 60 = .ok (.iastore, 1) := by decide +kernel
theorem dX6_place_61 : decode cX6_place 61 = .ok (.aload_n 0, 1) := by decide +kernel
theorem dX6_place_62 : decode cX6_place 62 = .ok (.iload_n 1, 1) := by decide +kernel
theorem dX6_place_63 : decode cX6_place 63 = .ok (.iload_n 2, 1) := by decide +kernel
theorem dX6_place_64 : decode cX6_place 64 = .ok (.invokevirtual 197, 3) := by decide +kernel
theorem dX6_place_67 : decode cX6_place 67 = .ok (.ireturn, 1) := by decide +kernel
theorem dX6_remove_0 : decode cX6_remove 0 = .ok (.aload_n 0, 1) := by decide +kernel
theorem dX6_remove_1 : decode cX6_remove 1 = .ok (.aload_n 0, 1) := by decide +kernel
theorem dX6_remove_2 : decode cX6_remove 2 = .ok (.iload_n 1, 1) := by decide +kernel
theorem dX6_remove_3 : decode cX6_remove 3 = .ok (.invokevirtual 178, 3) := by decide +kernel
theorem dX6_remove_6 : decode cX6_remove 6 = .ok (.ifCond .ne 7, 3) := by decide +kernel
theorem dX6_remove_9 : decode cX6_remove 9 = .ok (.iconst 1, 1) := by decide +kernel
theorem dX6_remove_10 : decode cX6_remove 10 = .ok (.goto 21, 3) := by decide +kernel
theorem dX6_remove_13 : decode cX6_remove 13 = .ok (.aload_n 0, 1) := by decide +kernel
theorem dX6_remove_14 : decode cX6_remove 14 = .ok (.getfield 7, 3) := by decide +kernel
theorem dX6_remove_17 : decode cX6_remove 17 = .ok (.bipush 107, 2) := by decide +kernel
theorem dX6_remove_19 : decode cX6_remove 19 = .ok (.iload_n 1, 1) := by decide +kernel
theorem dX6_remove_20 : decode cX6_remove 20 = .ok (.iadd, 1) := by decide +kernel
theorem dX6_remove_21 : decode cX6_remove 21 = .ok (.iaload, 1) := by decide +kernel
theorem dX6_remove_22 : decode cX6_remove 22 = .ok (.iconst (-1), 1) := by decide +kernel
theorem dX6_remove_23 : decode cX6_remove 23 = .ok (.if_icmp .ne 7, 3) := by decide +kernel
theorem dX6_remove_26 : decode cX6_remove 26 = .ok (.iconst 2, 1) := by decide +kernel
theorem dX6_remove_27 : decode cX6_remove 27 = .ok (.goto 4, 3) := by decide +kernel
theorem dX6_remove_30 : decode cX6_remove 30 = .ok (.iconst 0, 1) := by decide +kernel
theorem dX6_remove_31 : decode cX6_remove 31 = .ok (.putfield 58, 3) := by decide +kernel
theorem dX6_remove_34 : decode cX6_remove 34 = .ok (.aload_n 0, 1) := by decide +kernel
theorem dX6_remove_35 : decode cX6_remove 35 = .ok (.getfield 58, 3) := by decide +kernel
theorem dX6_remove_38 : decode cX6_remove 38 = .ok (.ifCond .le 5, 3) := by decide +kernel
theorem dX6_remove_41 : decode cX6_remove 41 = .ok (.iconst 0, 1) := by decide +kernel
theorem dX6_remove_42 : decode cX6_remove 42 = .ok (.ireturn, 1) := by decide +kernel
theorem dX6_remove_43 : decode cX6_remove 43 = .ok (.aload_n 0, 1) := by decide +kernel
theorem dX6_remove_44 : decode cX6_remove 44 = .ok (.invokevirtual 170, 3) := by decide +kernel
theorem dX6_remove_47 : decode cX6_remove 47 = .ok (.aload_n 0, 1) := by decide +kernel
theorem dX6_remove_48 : decode cX6_remove 48 = .ok (.getfield 7, 3) := by decide +kernel
theorem dX6_remove_51 : decode cX6_remove 51 = .ok (.bipush 107, 2) := by decide +kernel
theorem dX6_remove_53 : decode cX6_remove 53 = .ok (.iload_n 1, 1) := by decide +kernel
theorem dX6_remove_54 : decode cX6_remove 54 = .ok (.iadd, 1) := by decide +kernel
theorem dX6_remove_55 : decode cX6_remove 55 = .ok (.iaload, 1) := by decide +kernel
theorem dX6_remove_56 : decode cX6_remove 56 = .ok (.istore_n 2, 1) := by decide +kernel
theorem dX6_remove_57 : decode cX6_remove 57 = .ok (.aload_n 0, 1) := by decide +kernel
theorem dX6_remove_58 : decode cX6_remove 58 = .ok (.getfield 7, 3) := by decide +kernel
theorem dX6_remove_61 : decode cX6_remove 61 = .ok (.bipush 107, 2) := by decide +kernel
theorem dX6_remove_63 : decode cX6_remove 63 = .ok (.iload_n 1, 1) := by decide +kernel
theorem dX6_remove_64 : decode cX6_remove 64 = .ok (.iadd, 1) := by decide +kernel
theorem dX6_remove_65 : decode cX6_remove 65 = .ok (.iconst (-1), 1) := by decide +kernel
theorem dX6_remove_66 : decode cX6_remove 66 = .ok (.iastore, 1) := by decide +kernel
theorem dX6_remove_67 : decode cX6_remove 67 = .ok (.iload_n 2, 1) := by decide +kernel
theorem dX6_remove_68 : decode cX6_remove 68 = .ok (.ireturn, 1) := by decide +kernel
theorem dX6_placed_0 : decode cX6_placed 0 = .ok (.iconst 0, 1) := by decide +kernel
theorem dX6_placed_1 : decode cX6_placed 1 = .ok (.istore_n 1, 1) := by decide +kernel
theorem dX6_placed_2 : decode cX6_placed 2 = .ok (.iconst 0, 1) := by decide +kernel
theorem dX6_placed_3 : decode cX6_placed 3 = .ok (.istore_n 2, 1) := by decide +kernel
theorem dX6_placed_4 : decode cX6_placed 4 = .ok (.iload_n 2, 1) := by decide +kernel
theorem dX6_placed_5 : decode cX6_placed 5 = .ok (.bipush 8, 2) := by decide +kernel
theorem dX6_placed_7 : decode cX6_placed 7 = .ok (.if_icmp .ge 30, 3) := by decide +kernel
theorem dX6_placed_10 : decode cX6_placed 10 = .ok (.iload_n 1, 1) := by decide +kernel
theorem dX6_placed_11 : decode cX6_placed 11 = .ok (.aload_n 0, 1) := by decide +kernel
theorem dX6_placed_12 : decode cX6_placed 12 = .ok (.getfield 7, 3) := by decide +kernel
theorem dX6_placed_15 : decode cX6_placed 15 = .ok (.bipush 107, 2) := by decide +kernel
theorem dX6_placed_17 : decode cX6_placed 17 = .ok (.iload_n 2, 1) := by decide +kernel
theorem dX6_placed_18 : decode cX6_placed 18 = .ok (.iadd, 1) := by decide +kernel
theorem dX6_placed_19 : decode cX6_placed 19 = .ok (.iaload, 1) := by decide +kernel
theorem dX6_placed_20 : decode cX6_placed 20 = .ok (.iconst (-1), 1) := by decide +kernel
theorem dX6_placed_21 : decode cX6_placed 21 = .ok (.if_icmp .ne 7, 3) := by decide +kernel
theorem dX6_placed_24 : decode cX6_placed 24 = .ok (.iconst 0, 1) := by decide +kernel
theorem dX6_placed_25 : decode cX6_placed 25 = .ok (.goto 4, 3) := by decide +kernel
theorem dX6_placed_28 : decode cX6_placed 28 = .ok (.iconst 1, 1) := by decide +kernel
theorem dX6_placed_29 : decode cX6_placed 29 = .ok (.iadd, 1) := by decide +kernel
theorem dX6_placed_30 : decode cX6_placed 30 = .ok (.istore_n 1, 1) := by decide +kernel
theorem dX6_placed_31 : decode cX6_placed 31 = .ok (.iinc 2 1, 3) := by decide +kernel
theorem dX6_placed_34 : decode cX6_placed 34 = .ok (.goto (-30), 3) := by decide +kernel
theorem dX6_placed_37 : decode cX6_placed 37 = .ok (.iload_n 1, 1) := by decide +kernel
theorem dX6_placed_38 : decode cX6_placed 38 = .ok (.ireturn, 1) := by decide +kernel
theorem dX6_clear_0 : decode cX6_clear 0 = .ok (.aload_n 0, 1) := by decide +kernel
theorem dX6_clear_1 : decode cX6_clear 1 = .ok (.iconst 0, 1) := by decide +kernel
theorem dX6_clear_2 : decode cX6_clear 2 = .ok (.putfield 58, 3) := by decide +kernel
theorem dX6_clear_5 : decode cX6_clear 5 = .ok (.aload_n 0, 1) := by decide +kernel
theorem dX6_clear_6 : decode cX6_clear 6 = .ok (.invokevirtual 170, 3) := by decide +kernel
theorem dX6_clear_9 : decode cX6_clear 9 = .ok (.aload_n 0, 1) := by decide +kernel
theorem dX6_clear_10 : decode cX6_clear 10 = .ok (.invokevirtual 231, 3) := by decide +kernel
theorem dX6_clear_13 : decode cX6_clear 13 = .ok (.istore_n 1, 1) := by decide +kernel
theorem dX6_clear_14 : decode cX6_clear 14 = .ok (.iconst 0, 1) := by decide +kernel
theorem dX6_clear_15 : decode cX6_clear 15 = .ok (.istore_n 2, 1) := by decide +kernel
theorem dX6_clear_16 : decode cX6_clear 16 = .ok (.iload_n 2, 1) := by decide +kernel
theorem dX6_clear_17 : decode cX6_clear 17 = .ok (.bipush 8, 2) := by decide +kernel
theorem dX6_clear_19 : decode cX6_clear 19 = .ok (.if_icmp .ge 19, 3) := by decide +kernel
theorem dX6_clear_22 : decode cX6_clear 22 = .ok (.aload_n 0, 1) := by decide +kernel
theorem dX6_clear_23 : decode cX6_clear 23 = .ok (.getfield 7, 3) := by decide +kernel
theorem dX6_clear_26 : decode cX6_clear 26 = .ok (.bipush 107, 2) := by decide +kernel
theorem dX6_clear_28 : decode cX6_clear 28 = .ok (.iload_n 2, 1) := by decide +kernel
theorem dX6_clear_29 : decode cX6_clear 29 = .ok (.iadd, 1) := by decide +kernel
theorem dX6_clear_30 : decode cX6_clear 30 = .ok (.iconst (-1), 1) := by decide +kernel
theorem dX6_clear_31 : decode cX6_clear 31 = .ok (.iastore, 1) := by decide +kernel
theorem dX6_clear_32 : decode cX6_clear 32 = .ok (.iinc 2 1, 3) := by decide +kernel
theorem dX6_clear_35 : decode cX6_clear 35 = .ok (.goto (-19), 3) := by decide +kernel
theorem dX6_clear_38 : decode cX6_clear 38 = .ok (.iload_n 1, 1) := by decide +kernel
theorem dX6_clear_39 : decode cX6_clear 39 = .ok (.ireturn, 1) := by decide +kernel
theorem dX6_incomeNow_0 : decode cX6_incomeNow 0 = .ok (.iconst 0, 1) := by decide +kernel
theorem dX6_incomeNow_1 : decode cX6_incomeNow 1 = .ok (.istore_n 1, 1) := by decide +kernel
theorem dX6_incomeNow_2 : decode cX6_incomeNow 2 = .ok (.iconst 0, 1) := by decide +kernel
theorem dX6_incomeNow_3 : decode cX6_incomeNow 3 = .ok (.istore_n 2, 1) := by decide +kernel
theorem dX6_incomeNow_4 : decode cX6_incomeNow 4 = .ok (.iload_n 2, 1) := by decide +kernel
theorem dX6_incomeNow_5 : decode cX6_incomeNow 5 = .ok (.aload_n 0, 1) := by decide +kernel
theorem dX6_incomeNow_6 : decode cX6_incomeNow 6 = .ok (.getfield 7, 3) := by decide +kernel
theorem dX6_incomeNow_9 : decode cX6_incomeNow 9 = .ok (.bipush 74, 2) := by decide +kernel
theorem dX6_incomeNow_11 : decode cX6_incomeNow 11 = .ok (.iaload, 1) := by decide +kernel
theorem dX6_incomeNow_12 : decode cX6_incomeNow 12 = .ok (.if_icmp .ge 43, 3) := by decide +kernel
theorem dX6_incomeNow_15 : decode cX6_incomeNow 15 = .ok (.iload_n 1, 1) := by decide +kernel
theorem dX6_incomeNow_16 : decode cX6_incomeNow 16 = .ok (.aload_n 0, 1) := by decide +kernel
theorem dX6_incomeNow_17 : decode cX6_incomeNow 17 = .ok (.getfield 7, 3) := by decide +kernel
theorem dX6_incomeNow_20 : decode cX6_incomeNow 20 = .ok (.bipush 107, 2) := by decide +kernel
theorem dX6_incomeNow_22 : decode cX6_incomeNow 22 = .ok (.iload_n 2, 1) := by decide +kernel
theorem dX6_incomeNow_23 : decode cX6_incomeNow 23 = .ok (.iadd, 1) := by decide +kernel
theorem dX6_incomeNow_24 : decode cX6_incomeNow 24 = .ok (.iaload, 1) := by decide +kernel
theorem dX6_incomeNow_25 : decode cX6_incomeNow 25 = .ok (.iconst (-1), 1) := by decide +kernel
theorem dX6_incomeNow_26 : decode cX6_incomeNow 26 = .ok (.if_icmp .ne 7, 3) := by decide +kernel
theorem dX6_incomeNow_29 : decode cX6_incomeNow 29 = .ok (.iconst 0, 1) := by decide +kernel
theorem dX6_incomeNow_30 : decode cX6_incomeNow 30 = .ok (.goto 17, 3) := by decide +kernel
theorem dX6_incomeNow_33 : decode cX6_incomeNow 33 = .ok (.aload_n 0, 1) := by decide +kernel
theorem dX6_incomeNow_34 : decode cX6_incomeNow 34 = .ok (.iload_n 2, 1) := by decide +kernel
theorem dX6_incomeNow_35 : decode cX6_incomeNow 35 = .ok (.aload_n 0, 1) := by decide +kernel
theorem dX6_incomeNow_36 : decode cX6_incomeNow 36 = .ok (.getfield 7, 3) := by decide +kernel
theorem dX6_incomeNow_39 : decode cX6_incomeNow 39 = .ok (.bipush 107, 2) := by decide +kernel
theorem dX6_incomeNow_41 : decode cX6_incomeNow 41 = .ok (.iload_n 2, 1) := by decide +kernel
theorem dX6_incomeNow_42 : decode cX6_incomeNow 42 = .ok (.iadd, 1) := by decide +kernel
theorem dX6_incomeNow_43 : decode cX6_incomeNow 43 = .ok (.iaload, 1) := by decide +kernel
theorem dX6_incomeNow_44 : decode cX6_incomeNow 44 = .ok (.invokevirtual 197, 3) := by decide +kernel
theorem dX6_incomeNow_47 : decode cX6_incomeNow 47 = .ok (.iadd, 1) := by decide +kernel
theorem dX6_incomeNow_48 : decode cX6_incomeNow 48 = .ok (.istore_n 1, 1) := by decide +kernel
theorem dX6_incomeNow_49 : decode cX6_incomeNow 49 = .ok (.iinc 2 1, 3) := by decide +kernel
theorem dX6_incomeNow_52 : decode cX6_incomeNow 52 = .ok (.goto (-48), 3) := by decide +kernel
theorem dX6_incomeNow_55 : decode cX6_incomeNow 55 = .ok (.iload_n 1, 1) := by decide +kernel
theorem dX6_incomeNow_56 : decode cX6_incomeNow 56 = .ok (.ireturn, 1) := by decide +kernel
theorem dX6_income_0 : decode cX6_income 0 = .ok (.aload_n 0, 1) := by decide +kernel
theorem dX6_income_1 : decode cX6_income 1 = .ok (.iconst 0, 1) := by decide +kernel
theorem dX6_income_2 : decode cX6_income 2 = .ok (.putfield 58, 3) := by decide +kernel
theorem dX6_income_5 : decode cX6_income 5 = .ok (.aload_n 0, 1) := by decide +kernel
theorem dX6_income_6 : decode cX6_income 6 = .ok (.invokevirtual 234, 3) := by decide +kernel
theorem dX6_income_9 : decode cX6_income 9 = .ok (.ireturn, 1) := by decide +kernel
theorem dX6_coversUsed_0 : decode cX6_coversUsed 0 = .ok (.aload_n 0, 1) := by decide +kernel
theorem dX6_coversUsed_1 : decode cX6_coversUsed 1 = .ok (.iconst 0, 1) := by decide +kernel
theorem dX6_coversUsed_2 : decode cX6_coversUsed 2 = .ok (.putfield 58, 3) := by decide +kernel
theorem dX6_coversUsed_5 : decode cX6_coversUsed 5 = .ok (.aload_n 0, 1) := by decide +kernel
theorem dX6_coversUsed_6 : decode cX6_coversUsed 6 = .ok (.invokevirtual 212, 3) := by decide +kernel
theorem dX6_coversUsed_9 : decode cX6_coversUsed 9 = .ok (.ireturn, 1) := by decide +kernel
theorem dX6_isSheltered_0 : decode cX6_isSheltered 0 = .ok (.iconst 1, 1) := by decide +kernel
theorem dX6_isSheltered_1 : decode cX6_isSheltered 1 = .ok (.istore_n 2, 1) := by decide +kernel
theorem dX6_isSheltered_2 : decode cX6_isSheltered 2 = .ok (.iconst 0, 1) := by decide +kernel
theorem dX6_isSheltered_3 : decode cX6_isSheltered 3 = .ok (.istore_n 3, 1) := by decide +kernel
theorem dX6_isSheltered_4 : decode cX6_isSheltered 4 = .ok (.iload_n 3, 1) := by decide +kernel
theorem dX6_isSheltered_5 : decode cX6_isSheltered 5 = .ok (.aload_n 0, 1) := by decide +kernel
theorem dX6_isSheltered_6 : decode cX6_isSheltered 6 = .ok (.getfield 7, 3) := by decide +kernel
theorem dX6_isSheltered_9 : decode cX6_isSheltered 9 = .ok (.bipush 83, 2) := by decide +kernel
theorem dX6_isSheltered_11 : decode cX6_isSheltered 11 = .ok (.iload_n 1, 1) := by decide +kernel
theorem dX6_isSheltered_12 : decode cX6_isSheltered 12 = .ok (.iadd, 1) := by decide +kernel
theorem dX6_isSheltered_13 : decode cX6_isSheltered 13 = .ok (.iaload, 1) := by decide +kernel
theorem dX6_isSheltered_14 : decode cX6_isSheltered 14 = .ok (.if_icmp .ge 42, 3) := by decide +kernel
theorem dX6_isSheltered_17 : decode cX6_isSheltered 17 = .ok (.iload_n 2, 1) := by decide +kernel
theorem dX6_isSheltered_18 : decode cX6_isSheltered 18 = .ok (.ifCond .eq 30, 3) := by decide +kernel
theorem dX6_isSheltered_21 : decode cX6_isSheltered 21 = .ok (.aload_n 0, 1) := by decide +kernel
theorem dX6_isSheltered_22 : decode cX6_isSheltered 22 = .ok (.getfield 7, 3) := by decide +kernel
theorem dX6_isSheltered_25 : decode cX6_isSheltered 25 = .ok (.bipush 26, 2) := by decide +kernel
theorem dX6_isSheltered_27 : decode cX6_isSheltered 27 = .ok (.aload_n 0, 1) := by decide +kernel
theorem dX6_isSheltered_28 : decode cX6_isSheltered 28 = .ok (.getfield 7, 3) := by decide +kernel
theorem dX6_isSheltered_31 : decode cX6_isSheltered 31 = .ok (.bipush 107, 2) := by decide +kernel
theorem dX6_isSheltered_33 : decode cX6_isSheltered 33 = .ok (.iload_n 1, 1) := by decide +kernel
theorem dX6_isSheltered_34 : decode cX6_isSheltered 34 = .ok (.iadd, 1) := by decide +kernel
theorem dX6_isSheltered_35 : decode cX6_isSheltered 35 = .ok (.iaload, 1) := by decide +kernel
theorem dX6_isSheltered_36 : decode cX6_isSheltered 36 = .ok (.iadd, 1) := by decide +kernel
theorem dX6_isSheltered_37 : decode cX6_isSheltered 37 = .ok (.iload_n 3, 1) := by decide +kernel
theorem dX6_isSheltered_38 : decode cX6_isSheltered 38 = .ok (.iadd, 1) := by decide +kernel
theorem dX6_isSheltered_39 : decode cX6_isSheltered 39 = .ok (.iaload, 1) := by decide +kernel
theorem dX6_isSheltered_40 : decode cX6_isSheltered 40 = .ok (.iconst 1, 1) := by decide +kernel
theorem dX6_isSheltered_41 : decode cX6_isSheltered 41 = .ok (.if_icmp .ne 7, 3) := by decide +kernel
theorem dX6_isSheltered_44 : decode cX6_isSheltered 44 = .ok (.iconst 1, 1) := by decide +kernel
theorem dX6_isSheltered_45 : decode cX6_isSheltered 45 = .ok (.goto 4, 3) := by decide +kernel
theorem dX6_isSheltered_48 : decode cX6_isSheltered 48 = .ok (.iconst 0, 1) := by decide +kernel
theorem dX6_isSheltered_49 : decode cX6_isSheltered 49 = .ok (.istore_n 2, 1) := by decide +kernel
theorem dX6_isSheltered_50 : decode cX6_isSheltered 50 = .ok (.iinc 3 1, 3) := by decide +kernel
theorem dX6_isSheltered_53 : decode cX6_isSheltered 53 = .ok (.goto (-49), 3) := by decide +kernel
theorem dX6_isSheltered_56 : decode cX6_isSheltered 56 = .ok (.iload_n 2, 1) := by decide +kernel
theorem dX6_isSheltered_57 : decode cX6_isSheltered 57 = .ok (.ifCond .ne 16, 3) := by decide +kernel
theorem dX6_isSheltered_60 : decode cX6_isSheltered 60 = .ok (.aload_n 0, 1) := by decide +kernel
theorem dX6_isSheltered_61 : decode cX6_isSheltered 61 = .ok (.getfield 7, 3) := by decide +kernel
theorem dX6_isSheltered_64 : decode cX6_isSheltered 64 = .ok (.bipush 99, 2) := by decide +kernel
theorem dX6_isSheltered_66 : decode cX6_isSheltered 66 = .ok (.iload_n 1, 1) := by decide +kernel
theorem dX6_isSheltered_67 : decode cX6_isSheltered 67 = .ok (.iadd, 1) := by decide +kernel
theorem dX6_isSheltered_68 : decode cX6_isSheltered 68 = .ok (.iaload, 1) := by decide +kernel
theorem dX6_isSheltered_69 : decode cX6_isSheltered 69 = .ok (.iconst 1, 1) := by decide +kernel
theorem dX6_isSheltered_70 : decode cX6_isSheltered 70 = .ok (.if_icmp .ne 7, 3) := by decide +kernel
theorem dX6_isSheltered_73 : decode cX6_isSheltered 73 = .ok (.iconst 1, 1) := by decide +kernel
theorem dX6_isSheltered_74 : decode cX6_isSheltered 74 = .ok (.goto 4, 3) := by decide +kernel
theorem dX6_isSheltered_77 : decode cX6_isSheltered 77 = .ok (.iconst 0, 1) := by decide +kernel
theorem dX6_isSheltered_78 : decode cX6_isSheltered 78 = .ok (.ireturn, 1) := by decide +kernel
theorem dX6_expectedIncome_0 : decode cX6_expectedIncome 0 = .ok (.aload_n 0, 1) := by decide +kernel
theorem dX6_expectedIncome_1 : decode cX6_expectedIncome 1 = .ok (.dload_n 1, 1) := by decide +kernel
theorem dX6_expectedIncome_2 : decode cX6_expectedIncome 2 = .ok (.dconst 0, 1) := by decide +kernel
theorem dX6_expectedIncome_3 : decode cX6_expectedIncome 3 = .ok (.dcmp .l, 1) := by decide +kernel
theorem dX6_expectedIncome_4 : decode cX6_expectedIncome 4 = .ok (.ifCond .lt 13, 3) := by decide +kernel
theorem dX6_expectedIncome_7 : decode cX6_expectedIncome 7 = .ok (.dload_n 1, 1) := by decide +kernel
theorem dX6_expectedIncome_8 : decode cX6_expectedIncome 8 = .ok (.dconst 1, 1) := by decide +kernel
theorem dX6_expectedIncome_9 : decode cX6_expectedIncome 9 = .ok (.dcmp .g, 1) := by decide +kernel
theorem dX6_expectedIncome_10 : decode cX6_expectedIncome 10 = .ok (.ifCond .gt 7, 3) := by decide +kernel
theorem dX6_expectedIncome_13 : decode cX6_expectedIncome 13 = .ok (.iconst 0, 1) := by decide +kernel
theorem dX6_expectedIncome_14 : decode cX6_expectedIncome 14 = .ok (.goto 4, 3) := by decide +kernel
theorem dX6_expectedIncome_17 : decode cX6_expectedIncome 17 = .ok (.iconst 1, 1) := by decide +kernel
theorem dX6_expectedIncome_18 : decode cX6_expectedIncome 18 = .ok (.putfield 58, 3) := by decide +kernel
theorem dX6_expectedIncome_21 : decode cX6_expectedIncome 21 = .ok (.dconst 0, 1) := by decide +kernel
theorem dX6_expectedIncome_22 : decode cX6_expectedIncome 22 = .ok (.dstore_n 3, 1) := by decide +kernel
theorem dX6_expectedIncome_23 : decode cX6_expectedIncome 23 = .ok (.iconst 0, 1) := by decide +kernel
theorem dX6_expectedIncome_24 : decode cX6_expectedIncome 24 = .ok (.istore 5, 2) := by decide +kernel
theorem dX6_expectedIncome_26 : decode cX6_expectedIncome 26 = .ok (.iload 5, 2) := by decide +kernel
theorem dX6_expectedIncome_28 : decode cX6_expectedIncome 28 = .ok (.aload_n 0, 1) := by decide +kernel
theorem dX6_expectedIncome_29 : decode cX6_expectedIncome 29 = .ok (.getfield 7, 3) := by decide +kernel
theorem dX6_expectedIncome_32 : decode cX6_expectedIncome 32 = .ok (.bipush 74, 2) := by decide +kernel
theorem dX6_expectedIncome_34 : decode cX6_expectedIncome 34 = .ok (.iaload, 1) := by decide +kernel
theorem dX6_expectedIncome_35 : decode cX6_expectedIncome 35 = .ok (.if_icmp .ge 86, 3) := by decide +kernel
theorem dX6_expectedIncome_38 : decode cX6_expectedIncome 38 = .ok (.aload_n 0, 1) := by decide +kernel
theorem dX6_expectedIncome_39 : decode cX6_expectedIncome 39 = .ok (.getfield 58, 3) := by decide +kernel
theorem dX6_expectedIncome_42 : decode cX6_expectedIncome 42 = .ok (.ifCond .ne 79, 3) := by decide +kernel
theorem dX6_expectedIncome_45 : decode cX6_expectedIncome 45 = .ok (.aload_n 0, 1) := by decide +kernel
theorem dX6_expectedIncome_46 : decode cX6_expectedIncome 46 = .ok (.getfield 7, 3) := by decide +kernel
theorem dX6_expectedIncome_49 : decode cX6_expectedIncome 49 = .ok (.bipush 107, 2) := by decide +kernel
theorem dX6_expectedIncome_51 : decode cX6_expectedIncome 51 = .ok (.iload 5, 2) := by decide +kernel
theorem dX6_expectedIncome_53 : decode cX6_expectedIncome 53 = .ok (.iadd, 1) := by decide +kernel
theorem dX6_expectedIncome_54 : decode cX6_expectedIncome 54 = .ok (.iaload, 1) := by decide +kernel
theorem dX6_expectedIncome_55 : decode cX6_expectedIncome 55 = .ok (.iconst (-1), 1) := by decide +kernel
theorem dX6_expectedIncome_56 : decode cX6_expectedIncome 56 = .ok (.if_icmp .ne 6, 3) := by decide +kernel
theorem dX6_expectedIncome_59 : decode cX6_expectedIncome 59 = .ok (.goto 56, 3) := by decide +kernel
theorem dX6_expectedIncome_62 : decode cX6_expectedIncome 62 = .ok (.aload_n 0, 1) := by decide +kernel
theorem dX6_expectedIncome_63 : decode cX6_expectedIncome 63 = .ok (.iload 5, 2) := by decide +kernel
theorem dX6_expectedIncome_65 : decode cX6_expectedIncome 65 = .ok (.aload_n 0, 1) := by decide +kernel
theorem dX6_expectedIncome_66 : decode cX6_expectedIncome 66 = .ok (.getfield 7, 3) := by decide +kernel
theorem dX6_expectedIncome_69 : decode cX6_expectedIncome 69 = .ok (.bipush 107, 2) := by decide +kernel
theorem dX6_expectedIncome_71 : decode cX6_expectedIncome 71 = .ok (.iload 5, 2) := by decide +kernel
theorem dX6_expectedIncome_73 : decode cX6_expectedIncome 73 = .ok (.iadd, 1) := by decide +kernel
theorem dX6_expectedIncome_74 : decode cX6_expectedIncome 74 = .ok (.iaload, 1) := by decide +kernel
theorem dX6_expectedIncome_75 : decode cX6_expectedIncome 75 = .ok (.invokevirtual 197, 3) := by decide +kernel
theorem dX6_expectedIncome_78 : decode cX6_expectedIncome 78 = .ok (.istore 6, 2) := by decide +kernel
theorem dX6_expectedIncome_80 : decode cX6_expectedIncome 80 = .ok (.dload_n 3, 1) := by decide +kernel
theorem dX6_expectedIncome_81 : decode cX6_expectedIncome 81 = .ok (.aload_n 0, 1) := by decide +kernel
theorem dX6_expectedIncome_82 : decode cX6_expectedIncome 82 = .ok (.iload 5, 2) := by decide +kernel
theorem dX6_expectedIncome_84 : decode cX6_expectedIncome 84 = .ok (.invokevirtual 237, 3) := by decide +kernel
theorem dX6_expectedIncome_87 : decode cX6_expectedIncome 87 = .ok (.ifCond .eq 9, 3) := by decide +kernel
theorem dX6_expectedIncome_90 : decode cX6_expectedIncome 90 = .ok (.iload 6, 2) := by decide +kernel
theorem dX6_expectedIncome_92 : decode cX6_expectedIncome 92 = .ok (.i2d, 1) := by decide +kernel
theorem dX6_expectedIncome_93 : decode cX6_expectedIncome 93 = .ok (.goto 20, 3) := by decide +kernel
theorem dX6_expectedIncome_96 : decode cX6_expectedIncome 96 = .ok (.iload 6, 2) := by decide +kernel
theorem dX6_expectedIncome_98 : decode cX6_expectedIncome 98 = .ok (.i2d, 1) := by decide +kernel
theorem dX6_expectedIncome_99 : decode cX6_expectedIncome 99 = .ok (.dconst 1, 1) := by decide +kernel
theorem dX6_expectedIncome_100 : decode cX6_expectedIncome 100 = .ok (.dload_n 1, 1) := by decide +kernel
theorem dX6_expectedIncome_101 : decode cX6_expectedIncome 101 = .ok (.dsub, 1) := by decide +kernel
theorem dX6_expectedIncome_102 : decode cX6_expectedIncome 102 = .ok (.dmul, 1) := by decide +kernel
theorem dX6_expectedIncome_103 : decode cX6_expectedIncome 103 = .ok (.iload 6, 2) := by decide +kernel
theorem dX6_expectedIncome_105 : decode cX6_expectedIncome 105 = .ok (.i2d, 1) := by decide +kernel
theorem dX6_expectedIncome_106 : decode cX6_expectedIncome 106 = .ok (.ldc2_w 240, 3) := by decide +kernel
theorem dX6_expectedIncome_109 : decode cX6_expectedIncome 109 = .ok (.dmul, 1) := by decide +kernel
theorem dX6_expectedIncome_110 : decode cX6_expectedIncome 110 = .ok (.dload_n 1, 1) := by decide +kernel
theorem dX6_expectedIncome_111 : decode cX6_expectedIncome 111 = .ok (.dmul, 1) := by decide +kernel
theorem dX6_expectedIncome_112 : decode cX6_expectedIncome 112 = .ok (.dadd, 1) := by decide +kernel
theorem dX6_expectedIncome_113 : decode cX6_expectedIncome 113 = .ok (.dadd, 1) := by decide +kernel
theorem dX6_expectedIncome_114 : decode cX6_expectedIncome 114 = .ok (.dstore_n 3, 1) := by decide +kernel
theorem dX6_expectedIncome_115 : decode cX6_expectedIncome 115 = .ok (.iinc 5 1, 3) := by decide +kernel
theorem dX6_expectedIncome_118 : decode cX6_expectedIncome 118 = .ok (.goto (-92), 3) := by decide +kernel
theorem dX6_expectedIncome_121 : decode cX6_expectedIncome 121 = .ok (.dload_n 3, 1) := by decide +kernel
theorem dX6_expectedIncome_122 : decode cX6_expectedIncome 122 = .ok (.dreturn, 1) := by decide +kernel
theorem dX6_at_0 : decode cX6_at 0 = .ok (.iload_n 0, 1) := by decide +kernel
theorem dX6_at_1 : decode cX6_at 1 = .ok (.sipush 256, 3) := by decide +kernel
theorem dX6_at_4 : decode cX6_at 4 = .ok (.imul, 1) := by decide +kernel
theorem dX6_at_5 : decode cX6_at 5 = .ok (.iload_n 1, 1) := by decide +kernel
theorem dX6_at_6 : decode cX6_at 6 = .ok (.iadd, 1) := by decide +kernel
theorem dX6_at_7 : decode cX6_at 7 = .ok (.bipush 9, 2) := by decide +kernel
theorem dX6_at_9 : decode cX6_at 9 = .ok (.imul, 1) := by decide +kernel
theorem dX6_at_10 : decode cX6_at 10 = .ok (.iload_n 2, 1) := by decide +kernel
theorem dX6_at_11 : decode cX6_at 11 = .ok (.iadd, 1) := by decide +kernel
theorem dX6_at_12 : decode cX6_at 12 = .ok (.bipush 6, 2) := by decide +kernel
theorem dX6_at_14 : decode cX6_at 14 = .ok (.imul, 1) := by decide +kernel
theorem dX6_at_15 : decode cX6_at 15 = .ok (.iload_n 3, 1) := by decide +kernel
theorem dX6_at_16 : decode cX6_at 16 = .ok (.iadd, 1) := by decide +kernel
theorem dX6_at_17 : decode cX6_at 17 = .ok (.ireturn, 1) := by decide +kernel
theorem dX6_isSameRow_0 : decode cX6_isSameRow 0 = .ok (.iload_n 2, 1) := by decide +kernel
theorem dX6_isSameRow_1 : decode cX6_isSameRow 1 = .ok (.aload_n 0, 1) := by decide +kernel
theorem dX6_isSameRow_2 : decode cX6_isSameRow 2 = .ok (.getfield 7, 3) := by decide +kernel
theorem dX6_isSameRow_5 : decode cX6_isSameRow 5 = .ok (.iconst 1, 1) := by decide +kernel
theorem dX6_isSameRow_6 : decode cX6_isSameRow 6 = .ok (.iaload, 1) := by decide +kernel
theorem dX6_isSameRow_7 : decode cX6_isSameRow 7 = .ok (.if_icmp .ge 28, 3) := by decide +kernel
theorem dX6_isSameRow_10 : decode cX6_isSameRow 10 = .ok (.aload_n 0, 1) := by decide +kernel
theorem dX6_isSameRow_11 : decode cX6_isSameRow 11 = .ok (.getfield 7, 3) := by decide +kernel
theorem dX6_isSameRow_14 : decode cX6_isSameRow 14 = .ok (.bipush 50, 2) := by decide +kernel
theorem dX6_isSameRow_16 : decode cX6_isSameRow 16 = .ok (.iload_n 1, 1) := by decide +kernel
theorem dX6_isSameRow_17 : decode cX6_isSameRow 17 = .ok (.iadd, 1) := by decide +kernel
theorem dX6_isSameRow_18 : decode cX6_isSameRow 18 = .ok (.iaload, 1) := by decide +kernel
theorem dX6_isSameRow_19 : decode cX6_isSameRow 19 = .ok (.aload_n 0, 1) := by decide +kernel
theorem dX6_isSameRow_20 : decode cX6_isSameRow 20 = .ok (.getfield 7, 3) := by decide +kernel
theorem dX6_isSameRow_23 : decode cX6_isSameRow 23 = .ok (.bipush 50, 2) := by decide +kernel
theorem dX6_isSameRow_25 : decode cX6_isSameRow 25 = .ok (.iload_n 2, 1) := by decide +kernel
theorem dX6_isSameRow_26 : decode cX6_isSameRow 26 = .ok (.iadd, 1) := by decide +kernel
theorem dX6_isSameRow_27 : decode cX6_isSameRow 27 = .ok (.iaload, 1) := by decide +kernel
theorem dX6_isSameRow_28 : decode cX6_isSameRow 28 = .ok (.if_icmp .ne 7, 3) := by decide +kernel
theorem dX6_isSameRow_31 : decode cX6_isSameRow 31 = .ok (.iconst 1, 1) := by decide +kernel
theorem dX6_isSameRow_32 : decode cX6_isSameRow 32 = .ok (.goto 4, 3) := by decide +kernel
theorem dX6_isSameRow_35 : decode cX6_isSameRow 35 = .ok (.iconst 0, 1) := by decide +kernel
theorem dX6_isSameRow_36 : decode cX6_isSameRow 36 = .ok (.ireturn, 1) := by decide +kernel
theorem dX6_laysBlocks_0 : decode cX6_laysBlocks 0 = .ok (.iconst 0, 1) := by decide +kernel
theorem dX6_laysBlocks_1 : decode cX6_laysBlocks 1 = .ok (.istore_n 1, 1) := by decide +kernel
theorem dX6_laysBlocks_2 : decode cX6_laysBlocks 2 = .ok (.iload_n 1, 1) := by decide +kernel
theorem dX6_laysBlocks_3 : decode cX6_laysBlocks 3 = .ok (.aload_n 0, 1) := by decide +kernel
theorem dX6_laysBlocks_4 : decode cX6_laysBlocks 4 = .ok (.getfield 7, 3) := by decide +kernel
theorem dX6_laysBlocks_7 : decode cX6_laysBlocks 7 = .ok (.bipush 74, 2) := by decide +kernel
theorem dX6_laysBlocks_9 : decode cX6_laysBlocks 9 = .ok (.iaload, 1) := by decide +kernel
theorem dX6_laysBlocks_10 : decode cX6_laysBlocks 10 = .ok (.if_icmp .ge 133, 3) := by decide +kernel
theorem dX6_laysBlocks_13 : decode cX6_laysBlocks 13 = .ok (.iconst 0, 1) := by decide +kernel
theorem dX6_laysBlocks_14 : decode cX6_laysBlocks 14 = .ok (.istore_n 2, 1) := by decide +kernel
theorem dX6_laysBlocks_15 : decode cX6_laysBlocks 15 = .ok (.iload_n 2, 1) := by decide +kernel
theorem dX6_laysBlocks_16 : decode cX6_laysBlocks 16 = .ok (.aload_n 0, 1) := by decide +kernel
theorem dX6_laysBlocks_17 : decode cX6_laysBlocks 17 = .ok (.getfield 7, 3) := by decide +kernel
theorem dX6_laysBlocks_20 : decode cX6_laysBlocks 20 = .ok (.iconst 1, 1) := by decide +kernel
theorem dX6_laysBlocks_21 : decode cX6_laysBlocks 21 = .ok (.iaload, 1) := by decide +kernel
theorem dX6_laysBlocks_22 : decode cX6_laysBlocks 22 = .ok (.if_icmp .ge 115, 3) := by decide +kernel
theorem dX6_laysBlocks_25 : decode cX6_laysBlocks 25 = .ok (.bipush 24, 2) := by decide +kernel
theorem dX6_laysBlocks_27 : decode cX6_laysBlocks 27 = .ok (.iload_n 1, 1) := by decide +kernel
theorem dX6_laysBlocks_28 : decode cX6_laysBlocks 28 = .ok (.imul, 1) := by decide +kernel
theorem dX6_laysBlocks_29 : decode cX6_laysBlocks 29 = .ok (.iload_n 2, 1) := by decide +kernel
theorem dX6_laysBlocks_30 : decode cX6_laysBlocks 30 = .ok (.iadd, 1) := by decide +kernel
theorem dX6_laysBlocks_31 : decode cX6_laysBlocks 31 = .ok (.istore_n 3, 1) := by decide +kernel
theorem dX6_laysBlocks_32 : decode cX6_laysBlocks 32 = .ok (.aload_n 0, 1) := by decide +kernel
theorem dX6_laysBlocks_33 : decode cX6_laysBlocks 33 = .ok (.getfield 30, 3) := by decide +kernel
theorem dX6_laysBlocks_36 : decode cX6_laysBlocks 36 = .ok (.iload_n 3, 1) := by decide +kernel
theorem dX6_laysBlocks_37 : decode cX6_laysBlocks 37 = .ok (.aload_n 0, 1) := by decide +kernel
theorem dX6_laysBlocks_38 : decode cX6_laysBlocks 38 = .ok (.iload_n 1, 1) := by decide +kernel
theorem dX6_laysBlocks_39 : decode cX6_laysBlocks 39 = .ok (.iload_n 2, 1) := by decide +kernel
theorem dX6_laysBlocks_40 : decode cX6_laysBlocks 40 = .ok (.invokevirtual 218, 3) := by decide +kernel
theorem dX6_laysBlocks_43 : decode cX6_laysBlocks 43 = .ok (.ifCond .eq 30, 3) := by decide +kernel
theorem dX6_laysBlocks_46 : decode cX6_laysBlocks 46 = .ok (.aload_n 0, 1) := by decide +kernel
theorem dX6_laysBlocks_47 : decode cX6_laysBlocks 47 = .ok (.iload_n 1, 1) := by decide +kernel
theorem dX6_laysBlocks_48 : decode cX6_laysBlocks 48 = .ok (.iload_n 2, 1) := by decide +kernel
theorem dX6_laysBlocks_49 : decode cX6_laysBlocks 49 = .ok (.invokevirtual 197, 3) := by decide +kernel
theorem dX6_laysBlocks_52 : decode cX6_laysBlocks 52 = .ok (.aload_n 0, 1) := by decide +kernel
theorem dX6_laysBlocks_53 : decode cX6_laysBlocks 53 = .ok (.getfield 7, 3) := by decide +kernel
theorem dX6_laysBlocks_56 : decode cX6_laysBlocks 56 = .ok (.bipush 91, 2) := by decide +kernel
theorem dX6_laysBlocks_58 : decode cX6_laysBlocks 58 = .ok (.iload_n 1, 1) := by decide +kernel
theorem dX6_laysBlocks_59 : decode cX6_laysBlocks 59 = .ok (.iadd, 1) := by decide +kernel
theorem dX6_laysBlocks_60 : decode cX6_laysBlocks 60 = .ok (.iaload, 1) := by decide +kernel
theorem dX6_laysBlocks_61 : decode cX6_laysBlocks 61 = .ok (.if_icmp .gt 12, 3) := by decide +kernel
theorem dX6_laysBlocks_64 : decode cX6_laysBlocks 64 = .ok (.aload_n 0, 1) := by decide +kernel
theorem dX6_laysBlocks_65 : decode cX6_laysBlocks 65 = .ok (.iload_n 1, 1) := by decide +kernel
theorem dX6_laysBlocks_66 : decode cX6_laysBlocks 66 = .ok (.iload_n 2, 1) := by decide +kernel
theorem dX6_laysBlocks_67 : decode cX6_laysBlocks 67 = .ok (.invokevirtual 197, 3) := by decide +kernel
theorem dX6_laysBlocks_70 : decode cX6_laysBlocks 70 = .ok (.goto 4, 3) := by decide +kernel
theorem dX6_laysBlocks_73 : decode cX6_laysBlocks 73 = .ok (.iconst (-1), 1) := by decide +kernel
theorem dX6_laysBlocks_74 : decode cX6_laysBlocks 74 = .ok (.iastore, 1) := by decide +kernel
theorem dX6_laysBlocks_75 : decode cX6_laysBlocks 75 = .ok (.aload_n 0, 1) := by decide +kernel
theorem dX6_laysBlocks_76 : decode cX6_laysBlocks 76 = .ok (.getfield 30, 3) := by decide +kernel
theorem dX6_laysBlocks_79 : decode cX6_laysBlocks 79 = .ok (.iload_n 3, 1) := by decide +kernel
theorem dX6_laysBlocks_80 : decode cX6_laysBlocks 80 = .ok (.iaload, 1) := by decide +kernel
theorem dX6_laysBlocks_81 : decode cX6_laysBlocks 81 = .ok (.iconst (-1), 1) := by decide +kernel
theorem dX6_laysBlocks_82 : decode cX6_laysBlocks 82 = .ok (.if_icmp .ne 6, 3) := by decide +kernel
theorem dX6_laysBlocks_85 : decode cX6_laysBlocks 85 = .ok (.goto 46, 3) := by decide +kernel
theorem dX6_laysBlocks_88 : decode cX6_laysBlocks 88 = .ok (.aload_n 0, 1) := by decide +kernel
theorem dX6_laysBlocks_89 : decode cX6_laysBlocks 89 = .ok (.getfield 33, 3) := by decide +kernel
theorem dX6_laysBlocks_92 : decode cX6_laysBlocks 92 = .ok (.iload_n 3, 1) := by decide +kernel
theorem dX6_laysBlocks_93 : decode cX6_laysBlocks 93 = .ok (.aload_n 0, 1) := by decide +kernel
theorem dX6_laysBlocks_94 : decode cX6_laysBlocks 94 = .ok (.iload_n 1, 1) := by decide +kernel
theorem dX6_laysBlocks_95 : decode cX6_laysBlocks 95 = .ok (.iload_n 2, 1) := by decide +kernel
theorem dX6_laysBlocks_96 : decode cX6_laysBlocks 96 = .ok (.invokevirtual 194, 3) := by decide +kernel
theorem dX6_laysBlocks_99 : decode cX6_laysBlocks 99 = .ok (.iastore, 1) := by decide +kernel
theorem dX6_laysBlocks_100 : decode cX6_laysBlocks 100 = .ok (.aload_n 0, 1) := by decide +kernel
theorem dX6_laysBlocks_101 : decode cX6_laysBlocks 101 = .ok (.getfield 36, 3) := by decide +kernel
theorem dX6_laysBlocks_104 : decode cX6_laysBlocks 104 = .ok (.iload_n 3, 1) := by decide +kernel
theorem dX6_laysBlocks_105 : decode cX6_laysBlocks 105 = .ok (.aload_n 0, 1) := by decide +kernel
theorem dX6_laysBlocks_106 : decode cX6_laysBlocks 106 = .ok (.iload_n 2, 1) := by decide +kernel
theorem dX6_laysBlocks_107 : decode cX6_laysBlocks 107 = .ok (.iload_n 2, 1) := by decide +kernel
theorem dX6_laysBlocks_108 : decode cX6_laysBlocks 108 = .ok (.aload_n 0, 1) := by decide +kernel
theorem dX6_laysBlocks_109 : decode cX6_laysBlocks 109 = .ok (.getfield 7, 3) := by decide +kernel
theorem dX6_laysBlocks_112 : decode cX6_laysBlocks 112 = .ok (.bipush 83, 2) := by decide +kernel
theorem dX6_laysBlocks_114 : decode cX6_laysBlocks 114 = .ok (.iload_n 1, 1) := by decide +kernel
theorem dX6_laysBlocks_115 : decode cX6_laysBlocks 115 = .ok (.iadd, 1) := by decide +kernel
theorem dX6_laysBlocks_116 : decode cX6_laysBlocks 116 = .ok (.iaload, 1) := by decide +kernel
theorem dX6_laysBlocks_117 : decode cX6_laysBlocks 117 = .ok (.iadd, 1) := by decide +kernel
theorem dX6_laysBlocks_118 : decode cX6_laysBlocks 118 = .ok (.invokevirtual 242, 3) := by decide +kernel
theorem dX6_laysBlocks_121 : decode cX6_laysBlocks 121 = .ok (.ifCond .eq 7, 3) := by decide +kernel
theorem dX6_laysBlocks_124 : decode cX6_laysBlocks 124 = .ok (.iload_n 1, 1) := by decide +kernel
theorem dX6_laysBlocks_125 : decode cX6_laysBlocks 125 = .ok (.goto 5, 3) := by decide +kernel
theorem dX6_laysBlocks_128 : decode cX6_laysBlocks 128 = .ok (.bipush 8, 2) := by decide +kernel
theorem dX6_laysBlocks_130 : decode cX6_laysBlocks 130 = .ok (.iastore, 1) := by decide +kernel
theorem dX6_laysBlocks_131 : decode cX6_laysBlocks 131 = .ok (.iinc 2 1, 3) := by decide +kernel
theorem dX6_laysBlocks_134 : decode cX6_laysBlocks 134 = .ok (.goto (-119), 3) := by decide +kernel
theorem dX6_laysBlocks_137 : decode cX6_laysBlocks 137 = .ok (.iinc 1 1, 3) := by decide +kernel
theorem dX6_laysBlocks_140 : decode cX6_laysBlocks 140 = .ok (.goto (-138), 3) := by decide +kernel
theorem dX6_laysBlocks_143 : decode cX6_laysBlocks 143 = .ok (.return_, 1) := by decide +kernel
theorem dX6_begun_0 : decode cX6_begun 0 = .ok (.bipush 24, 2) := by decide +kernel
theorem dX6_begun_2 : decode cX6_begun 2 = .ok (.iload_n 1, 1) := by decide +kernel
theorem dX6_begun_3 : decode cX6_begun 3 = .ok (.imul, 1) := by decide +kernel
theorem dX6_begun_4 : decode cX6_begun 4 = .ok (.iload_n 2, 1) := by decide +kernel
theorem dX6_begun_5 : decode cX6_begun 5 = .ok (.iadd, 1) := by decide +kernel
theorem dX6_begun_6 : decode cX6_begun 6 = .ok (.istore 6, 2) := by decide +kernel
theorem dX6_begun_8 : decode cX6_begun 8 = .ok (.iload_n 3, 1) := by decide +kernel
theorem dX6_begun_9 : decode cX6_begun 9 = .ok (.iload_n 1, 1) := by decide +kernel
theorem dX6_begun_10 : decode cX6_begun 10 = .ok (.ishr, 1) := by decide +kernel
theorem dX6_begun_11 : decode cX6_begun 11 = .ok (.iconst 1, 1) := by decide +kernel
theorem dX6_begun_12 : decode cX6_begun 12 = .ok (.iand, 1) := by decide +kernel
theorem dX6_begun_13 : decode cX6_begun 13 = .ok (.iconst 1, 1) := by decide +kernel
theorem dX6_begun_14 : decode cX6_begun 14 = .ok (.if_icmp .eq 26, 3) := by decide +kernel
theorem dX6_begun_17 : decode cX6_begun 17 = .ok (.aload_n 0, 1) := by decide +kernel
theorem dX6_begun_18 : decode cX6_begun 18 = .ok (.getfield 30, 3) := by decide +kernel
theorem dX6_begun_21 : decode cX6_begun 21 = .ok (.iload 6, 2) := by decide +kernel
theorem dX6_begun_23 : decode cX6_begun 23 = .ok (.iaload, 1) := by decide +kernel
theorem dX6_begun_24 : decode cX6_begun 24 = .ok (.iconst (-1), 1) := by decide +kernel
theorem dX6_begun_25 : decode cX6_begun 25 = .ok (.if_icmp .eq 15, 3) := by decide +kernel
theorem dX6_begun_28 : decode cX6_begun 28 = .ok (.aload_n 0, 1) := by decide +kernel
theorem dX6_begun_29 : decode cX6_begun 29 = .ok (.getfield 33, 3) := by decide +kernel
theorem dX6_begun_32 : decode cX6_begun 32 = .ok (.iload 6, 2) := by decide +kernel
theorem dX6_begun_34 : decode cX6_begun 34 = .ok (.iaload, 1) := by decide +kernel
theorem dX6_begun_35 : decode cX6_begun 35 = .ok (.iload 5, 2) := by decide +kernel
theorem dX6_begun_37 : decode cX6_begun 37 = .ok (.if_icmp .le 5, 3) := by decide +kernel
theorem dX6_begun_40 : decode cX6_begun 40 = .ok (.iconst (-1), 1) := by decide +kernel
theorem dX6_begun_41 : decode cX6_begun 41 = .ok (.ireturn, 1) := by decide +kernel
theorem dX6_begun_42 : decode cX6_begun 42 = .ok (.iload 4, 2) := by decide +kernel
theorem dX6_begun_44 : decode cX6_begun 44 = .ok (.bipush 8, 2) := by decide +kernel
theorem dX6_begun_46 : decode cX6_begun 46 = .ok (.if_icmp .ge 15, 3) := by decide +kernel
theorem dX6_begun_49 : decode cX6_begun 49 = .ok (.aload_n 0, 1) := by decide +kernel
theorem dX6_begun_50 : decode cX6_begun 50 = .ok (.iload 4, 2) := by decide +kernel
theorem dX6_begun_52 : decode cX6_begun 52 = .ok (.iload_n 1, 1) := by decide +kernel
theorem dX6_begun_53 : decode cX6_begun 53 = .ok (.invokevirtual 215, 3) := by decide +kernel
theorem dX6_begun_56 : decode cX6_begun 56 = .ok (.ifCond .eq 5, 3) := by decide +kernel
theorem dX6_begun_59 : decode cX6_begun 59 = .ok (.iconst (-1), 1) := by decide +kernel
theorem dX6_begun_60 : decode cX6_begun 60 = .ok (.ireturn, 1) := by decide +kernel
theorem dX6_begun_61 : decode cX6_begun 61 = .ok (.bipush 16, 2) := by decide +kernel
theorem dX6_begun_63 : decode cX6_begun 63 = .ok (.aload_n 0, 1) := by decide +kernel
theorem dX6_begun_64 : decode cX6_begun 64 = .ok (.getfield 30, 3) := by decide +kernel
theorem dX6_begun_67 : decode cX6_begun 67 = .ok (.iload 6, 2) := by decide +kernel
theorem dX6_begun_69 : decode cX6_begun 69 = .ok (.iaload, 1) := by decide +kernel
theorem dX6_begun_70 : decode cX6_begun 70 = .ok (.imul, 1) := by decide +kernel
theorem dX6_begun_71 : decode cX6_begun 71 = .ok (.iconst 1, 1) := by decide +kernel
theorem dX6_begun_72 : decode cX6_begun 72 = .ok (.iadd, 1) := by decide +kernel
theorem dX6_begun_73 : decode cX6_begun 73 = .ok (.aload_n 0, 1) := by decide +kernel
theorem dX6_begun_74 : decode cX6_begun 74 = .ok (.getfield 27, 3) := by decide +kernel
theorem dX6_begun_77 : decode cX6_begun 77 = .ok (.iload_n 2, 1) := by decide +kernel
theorem dX6_begun_78 : decode cX6_begun 78 = .ok (.aload_n 0, 1) := by decide +kernel
theorem dX6_begun_79 : decode cX6_begun 79 = .ok (.getfield 7, 3) := by decide +kernel
theorem dX6_begun_82 : decode cX6_begun 82 = .ok (.bipush 83, 2) := by decide +kernel
theorem dX6_begun_84 : decode cX6_begun 84 = .ok (.iload_n 1, 1) := by decide +kernel
theorem dX6_begun_85 : decode cX6_begun 85 = .ok (.iadd, 1) := by decide +kernel
theorem dX6_begun_86 : decode cX6_begun 86 = .ok (.iaload, 1) := by decide +kernel
theorem dX6_begun_87 : decode cX6_begun 87 = .ok (.iadd, 1) := by decide +kernel
theorem dX6_begun_88 : decode cX6_begun 88 = .ok (.iload_n 3, 1) := by decide +kernel
theorem dX6_begun_89 : decode cX6_begun 89 = .ok (.iconst 1, 1) := by decide +kernel
theorem dX6_begun_90 : decode cX6_begun 90 = .ok (.iload_n 1, 1) := by decide +kernel
theorem dX6_begun_91 : decode cX6_begun 91 = .ok (.ishl, 1) := by decide +kernel
theorem dX6_begun_92 : decode cX6_begun 92 = .ok (.ior, 1) := by decide +kernel
theorem dX6_begun_93 : decode cX6_begun 93 = .ok (.aload_n 0, 1) := by decide +kernel
theorem dX6_begun_94 : decode cX6_begun 94 = .ok (.getfield 36, 3) := by decide +kernel
theorem dX6_begun_97 : decode cX6_begun 97 = .ok (.iload 6, 2) := by decide +kernel
theorem dX6_begun_99 : decode cX6_begun 99 = .ok (.iaload, 1) := by decide +kernel
theorem dX6_begun_100 : decode cX6_begun 100 = .ok (.iload 5, 2) := by decide +kernel
theorem dX6_begun_102 : decode cX6_begun 102 = .ok (.aload_n 0, 1) := by decide +kernel
theorem dX6_begun_103 : decode cX6_begun 103 = .ok (.getfield 33, 3) := by decide +kernel
theorem dX6_begun_106 : decode cX6_begun 106 = .ok (.iload 6, 2) := by decide +kernel
theorem dX6_begun_108 : decode cX6_begun 108 = .ok (.iaload, 1) := by decide +kernel
theorem dX6_begun_109 : decode cX6_begun 109 = .ok (.isub, 1) := by decide +kernel
theorem dX6_begun_110 : decode cX6_begun 110 = .ok (.invokestatic 245, 3) := by decide +kernel
theorem dX6_begun_113 : decode cX6_begun 113 = .ok (.iaload, 1) := by decide +kernel
theorem dX6_begun_114 : decode cX6_begun 114 = .ok (.iadd, 1) := by decide +kernel
theorem dX6_begun_115 : decode cX6_begun 115 = .ok (.ireturn, 1) := by decide +kernel
theorem dX6_free_0 : decode cX6_free 0 = .ok (.aload_n 0, 1) := by decide +kernel
theorem dX6_free_1 : decode cX6_free 1 = .ok (.getfield 27, 3) := by decide +kernel
theorem dX6_free_4 : decode cX6_free 4 = .ok (.iload_n 1, 1) := by decide +kernel
theorem dX6_free_5 : decode cX6_free 5 = .ok (.iconst 1, 1) := by decide +kernel
theorem dX6_free_6 : decode cX6_free 6 = .ok (.iadd, 1) := by decide +kernel
theorem dX6_free_7 : decode cX6_free 7 = .ok (.iload_n 2, 1) := by decide +kernel
theorem dX6_free_8 : decode cX6_free 8 = .ok (.bipush 8, 2) := by decide +kernel
theorem dX6_free_10 : decode cX6_free 10 = .ok (.iload_n 3, 1) := by decide +kernel
theorem dX6_free_11 : decode cX6_free 11 = .ok (.invokestatic 245, 3) := by decide +kernel
theorem dX6_free_14 : decode cX6_free 14 = .ok (.iaload, 1) := by decide +kernel
theorem dX6_free_15 : decode cX6_free 15 = .ok (.ireturn, 1) := by decide +kernel
theorem dX6_plans_0 : decode cX6_plans 0 = .ok (.aload_n 0, 1) := by decide +kernel
theorem dX6_plans_1 : decode cX6_plans 1 = .ok (.invokevirtual 248, 3) := by decide +kernel
theorem dX6_plans_4 : decode cX6_plans 4 = .ok (.aload_n 0, 1) := by decide +kernel
theorem dX6_plans_5 : decode cX6_plans 5 = .ok (.getfield 7, 3) := by decide +kernel
theorem dX6_plans_8 : decode cX6_plans 8 = .ok (.iconst 1, 1) := by decide +kernel
theorem dX6_plans_9 : decode cX6_plans 9 = .ok (.iaload, 1) := by decide +kernel
theorem dX6_plans_10 : decode cX6_plans 10 = .ok (.istore_n 2, 1) := by decide +kernel
theorem dX6_plans_11 : decode cX6_plans 11 = .ok (.iconst 1, 1) := by decide +kernel
theorem dX6_plans_12 : decode cX6_plans 12 = .ok (.aload_n 0, 1) := by decide +kernel
theorem dX6_plans_13 : decode cX6_plans 13 = .ok (.getfield 7, 3) := by decide +kernel
theorem dX6_plans_16 : decode cX6_plans 16 = .ok (.bipush 74, 2) := by decide +kernel
theorem dX6_plans_18 : decode cX6_plans 18 = .ok (.iaload, 1) := by decide +kernel
theorem dX6_plans_19 : decode cX6_plans 19 = .ok (.ishl, 1) := by decide +kernel
theorem dX6_plans_20 : decode cX6_plans 20 = .ok (.istore_n 3, 1) := by decide +kernel
theorem dX6_plans_21 : decode cX6_plans 21 = .ok (.iconst 0, 1) := by decide +kernel
theorem dX6_plans_22 : decode cX6_plans 22 = .ok (.istore 4, 2) := by decide +kernel
theorem dX6_plans_24 : decode cX6_plans 24 = .ok (.iload 4, 2) := by decide +kernel
theorem dX6_plans_26 : decode cX6_plans 26 = .ok (.iload_n 3, 1) := by decide +kernel
theorem dX6_plans_27 : decode cX6_plans 27 = .ok (.if_icmp .ge 56, 3) := by decide +kernel
theorem dX6_plans_30 : decode cX6_plans 30 = .ok (.iconst 0, 1) := by decide +kernel
theorem dX6_plans_31 : decode cX6_plans 31 = .ok (.istore 5, 2) := by decide +kernel
theorem dX6_plans_33 : decode cX6_plans 33 = .ok (.iload 5, 2) := by decide +kernel
theorem dX6_plans_35 : decode cX6_plans 35 = .ok (.bipush 8, 2) := by decide +kernel
theorem dX6_plans_37 : decode cX6_plans 37 = .ok (.if_icmp .gt 40, 3) := by decide +kernel
theorem dX6_plans_40 : decode cX6_plans 40 = .ok (.iconst 0, 1) := by decide +kernel
theorem dX6_plans_41 : decode cX6_plans 41 = .ok (.istore 6, 2) := by decide +kernel
theorem dX6_plans_43 : decode cX6_plans 43 = .ok (.iload 6, 2) := by decide +kernel
theorem dX6_plans_45 : decode cX6_plans 45 = .ok (.iload_n 1, 1) := by decide +kernel
theorem dX6_plans_46 : decode cX6_plans 46 = .ok (.if_icmp .gt 25, 3) := by decide +kernel
theorem dX6_plans_49 : decode cX6_plans 49 = .ok (.aload_n 0, 1) := by decide +kernel
theorem dX6_plans_50 : decode cX6_plans 50 = .ok (.getfield 27, 3) := by decide +kernel
theorem dX6_plans_53 : decode cX6_plans 53 = .ok (.iload_n 2, 1) := by decide +kernel
theorem dX6_plans_54 : decode cX6_plans 54 = .ok (.iload 4, 2) := by decide +kernel
theorem dX6_plans_56 : decode cX6_plans 56 = .ok (.iload 5, 2) := by decide +kernel
theorem dX6_plans_58 : decode cX6_plans 58 = .ok (.iload 6, 2) := by decide +kernel
theorem dX6_plans_60 : decode cX6_plans 60 = .ok (.invokestatic 245, 3) := by decide +kernel
theorem dX6_plans_63 : decode cX6_plans 63 = .ok (.iconst 0, 1) := by decide +kernel
theorem dX6_plans_64 : decode cX6_plans 64 = .ok (.iastore, 1) := by decide +kernel
theorem dX6_plans_65 : decode cX6_plans 65 = .ok (.iinc 6 1, 3) := by decide +kernel
theorem dX6_plans_68 : decode cX6_plans 68 = .ok (.goto (-25), 3) := by decide +kernel
theorem dX6_plans_71 : decode cX6_plans 71 = .ok (.iinc 5 1, 3) := by decide +kernel
theorem dX6_plans_74 : decode cX6_plans 74 = .ok (.goto (-41), 3) := by decide +kernel
theorem dX6_plans_77 : decode cX6_plans 77 = .ok (.iinc 4 1, 3) := by decide +kernel
theorem dX6_plans_80 : decode cX6_plans 80 = .ok (.goto (-56), 3) := by decide +kernel
theorem dX6_plans_83 : decode cX6_plans 83 = .ok (.iload_n 2, 1) := by decide +kernel
theorem dX6_plans_84 : decode cX6_plans 84 = .ok (.iconst 1, 1) := by decide +kernel
theorem dX6_plans_85 : decode cX6_plans 85 = .ok (.isub, 1) := by decide +kernel
theorem dX6_plans_86 : decode cX6_plans 86 = .ok (.istore 4, 2) := by decide +kernel
theorem dX6_plans_88 : decode cX6_plans 88 = .ok (.iload 4, 2) := by decide +kernel
theorem dX6_plans_90 : decode cX6_plans 90 = .ok (.ifCond .lt 158, 3) := by decide +kernel
theorem dX6_plans_93 : decode cX6_plans 93 = .ok (.iconst 0, 1) := by decide +kernel
theorem dX6_plans_94 : decode cX6_plans 94 = .ok (.istore 5, 2) := by decide +kernel
theorem dX6_plans_96 : decode cX6_plans 96 = .ok (.iload 5, 2) := by decide +kernel
theorem dX6_plans_98 : decode cX6_plans 98 = .ok (.iload_n 3, 1) := by decide +kernel
theorem dX6_plans_99 : decode cX6_plans 99 = .ok (.if_icmp .ge 143, 3) := by decide +kernel
theorem dX6_plans_102 : decode cX6_plans 102 = .ok (.iconst 0, 1) := by decide +kernel
theorem dX6_plans_103 : decode cX6_plans 103 = .ok (.istore 6, 2) := by decide +kernel
theorem dX6_plans_105 : decode cX6_plans 105 = .ok (.iload 6, 2) := by decide +kernel
theorem dX6_plans_107 : decode cX6_plans 107 = .ok (.bipush 8, 2) := by decide +kernel
theorem dX6_plans_109 : decode cX6_plans 109 = .ok (.if_icmp .gt 127, 3) := by decide +kernel
theorem dX6_plans_112 : decode cX6_plans 112 = .ok (.iload 6, 2) := by decide +kernel
theorem dX6_plans_114 : decode cX6_plans 114 = .ok (.bipush 8, 2) := by decide +kernel
theorem dX6_plans_116 : decode cX6_plans 116 = .ok (.if_icmp .ge 16, 3) := by decide +kernel
theorem dX6_plans_119 : decode cX6_plans 119 = .ok (.iload 5, 2) := by decide +kernel
theorem dX6_plans_121 : decode cX6_plans 121 = .ok (.iload 6, 2) := by decide +kernel
theorem dX6_plans_123 : decode cX6_plans 123 = .ok (.ishr, 1) := by decide +kernel
theorem dX6_plans_124 : decode cX6_plans 124 = .ok (.iconst 1, 1) := by decide +kernel
theorem dX6_plans_125 : decode cX6_plans 125 = .ok (.iand, 1) := by decide +kernel
theorem dX6_plans_126 : decode cX6_plans 126 = .ok (.ifCond .ne 6, 3) := by decide +kernel
theorem dX6_plans_129 : decode cX6_plans 129 = .ok (.goto 101, 3) := by decide +kernel
theorem dX6_plans_132 : decode cX6_plans 132 = .ok (.iconst 0, 1) := by decide +kernel
theorem dX6_plans_133 : decode cX6_plans 133 = .ok (.istore 7, 2) := by decide +kernel
theorem dX6_plans_135 : decode cX6_plans 135 = .ok (.iload 7, 2) := by decide +kernel
theorem dX6_plans_137 : decode cX6_plans 137 = .ok (.iload_n 1, 1) := by decide +kernel
theorem dX6_plans_138 : decode cX6_plans 138 = .ok (.if_icmp .gt 92, 3) := by decide +kernel
theorem dX6_plans_141 : decode cX6_plans 141 = .ok (.aload_n 0, 1) := by decide +kernel
theorem dX6_plans_142 : decode cX6_plans 142 = .ok (.iload 4, 2) := by decide +kernel
theorem dX6_plans_144 : decode cX6_plans 144 = .ok (.iload 5, 2) := by decide +kernel
theorem dX6_plans_146 : decode cX6_plans 146 = .ok (.iload 7, 2) := by decide +kernel
theorem dX6_plans_148 : decode cX6_plans 148 = .ok (.invokevirtual 251, 3) := by decide +kernel
theorem dX6_plans_151 : decode cX6_plans 151 = .ok (.istore 8, 2) := by decide +kernel
theorem dX6_plans_153 : decode cX6_plans 153 = .ok (.iconst 0, 1) := by decide +kernel
theorem dX6_plans_154 : decode cX6_plans 154 = .ok (.istore 9, 2) := by decide +kernel
theorem dX6_plans_156 : decode cX6_plans 156 = .ok (.iload 9, 2) := by decide +kernel
theorem dX6_plans_158 : decode cX6_plans 158 = .ok (.aload_n 0, 1) := by decide +kernel
theorem dX6_plans_159 : decode cX6_plans 159 = .ok (.getfield 7, 3) := by decide +kernel
theorem dX6_plans_162 : decode cX6_plans 162 = .ok (.bipush 74, 2) := by decide +kernel
theorem dX6_plans_164 : decode cX6_plans 164 = .ok (.iaload, 1) := by decide +kernel
theorem dX6_plans_165 : decode cX6_plans 165 = .ok (.if_icmp .ge 41, 3) := by decide +kernel
theorem dX6_plans_168 : decode cX6_plans 168 = .ok (.aload_n 0, 1) := by decide +kernel
theorem dX6_plans_169 : decode cX6_plans 169 = .ok (.iload 9, 2) := by decide +kernel
theorem dX6_plans_171 : decode cX6_plans 171 = .ok (.iload 4, 2) := by decide +kernel
theorem dX6_plans_173 : decode cX6_plans 173 = .ok (.iload 5, 2) := by decide +kernel
theorem dX6_plans_175 : decode cX6_plans 175 = .ok (.iload 6, 2) := by decide +kernel
theorem dX6_plans_177 : decode cX6_plans 177 = .ok (.iload 7, 2) := by decide +kernel
theorem dX6_plans_179 : decode cX6_plans 179 = .ok (.invokevirtual 255, 3) := by decide +kernel
theorem dX6_plans_182 : decode cX6_plans 182 = .ok (.istore 10, 2) := by decide +kernel
theorem dX6_plans_184 : decode cX6_plans 184 = .ok (.iload 10, 2) := by decide +kernel
theorem dX6_plans_186 : decode cX6_plans 186 = .ok (.iload 8, 2) := by decide +kernel
theorem dX6_plans_188 : decode cX6_plans 188 = .ok (.if_icmp .le 8, 3) := by decide +kernel
theorem dX6_plans_191 : decode cX6_plans 191 = .ok (.iload 10, 2) := by decide +kernel
theorem dX6_plans_193 : decode cX6_plans 193 = .ok (.goto 5, 3) := by decide +kernel
theorem dX6_plans_196 : decode cX6_plans 196 = .ok (.iload 8, 2) := by decide +kernel
theorem dX6_plans_198 : decode cX6_plans 198 = .ok (.istore 8, 2) := by decide +kernel
theorem dX6_plans_200 : decode cX6_plans 200 = .ok (.iinc 9 1, 3) := by decide +kernel
theorem dX6_plans_203 : decode cX6_plans 203 = .ok (.goto (-47), 3) := by decide +kernel
theorem dX6_plans_206 : decode cX6_plans 206 = .ok (.aload_n 0, 1) := by decide +kernel
theorem dX6_plans_207 : decode cX6_plans 207 = .ok (.getfield 27, 3) := by decide +kernel
theorem dX6_plans_210 : decode cX6_plans 210 = .ok (.iload 4, 2) := by decide +kernel
theorem dX6_plans_212 : decode cX6_plans 212 = .ok (.iload 5, 2) := by decide +kernel
theorem dX6_plans_214 : decode cX6_plans 214 = .ok (.iload 6, 2) := by decide +kernel
theorem dX6_plans_216 : decode cX6_plans 216 = .ok (.iload 7, 2) := by decide +kernel
theorem dX6_plans_218 : decode cX6_plans 218 = .ok (.invokestatic 245, 3) := by decide +kernel
theorem dX6_plans_221 : decode cX6_plans 221 = .ok (.iload 8, 2) := by decide +kernel
theorem dX6_plans_223 : decode cX6_plans 223 = .ok (.iastore, 1) := by decide +kernel
theorem dX6_plans_224 : decode cX6_plans 224 = .ok (.iinc 7 1, 3) := by decide +kernel
theorem dX6_plans_227 : decode cX6_plans 227 = .ok (.goto (-92), 3) := by decide +kernel
theorem dX6_plans_230 : decode cX6_plans 230 = .ok (.iinc 6 1, 3) := by decide +kernel
theorem dX6_plans_233 : decode cX6_plans 233 = .ok (.goto (-128), 3) := by decide +kernel
theorem dX6_plans_236 : decode cX6_plans 236 = .ok (.iinc 5 1, 3) := by decide +kernel
theorem dX6_plans_239 : decode cX6_plans 239 = .ok (.goto (-143), 3) := by decide +kernel
theorem dX6_plans_242 : decode cX6_plans 242 = .ok (.iinc 4 (-1), 3) := by decide +kernel
theorem dX6_plans_245 : decode cX6_plans 245 = .ok (.goto (-157), 3) := by decide +kernel
theorem dX6_plans_248 : decode cX6_plans 248 = .ok (.aload_n 0, 1) := by decide +kernel
theorem dX6_plans_249 : decode cX6_plans 249 = .ok (.getfield 27, 3) := by decide +kernel
theorem dX6_plans_252 : decode cX6_plans 252 = .ok (.iconst 0, 1) := by decide +kernel
theorem dX6_plans_253 : decode cX6_plans 253 = .ok (.iconst 0, 1) := by decide +kernel
theorem dX6_plans_254 : decode cX6_plans 254 = .ok (.bipush 8, 2) := by decide +kernel
theorem dX6_plans_256 : decode cX6_plans 256 = .ok (.iload_n 1, 1) := by decide +kernel
theorem dX6_plans_257 : decode cX6_plans 257 = .ok (.invokestatic 245, 3) := by decide +kernel
theorem dX6_plans_260 : decode cX6_plans 260 = .ok (.iaload, 1) := by decide +kernel
theorem dX6_plans_261 : decode cX6_plans 261 = .ok (.bipush 16, 2) := by decide +kernel
theorem dX6_plans_263 : decode cX6_plans 263 = .ok (.idiv, 1) := by decide +kernel
theorem dX6_plans_264 : decode cX6_plans 264 = .ok (.ireturn, 1) := by decide +kernel
theorem dX6_bestIncome_0 : decode cX6_bestIncome 0 = .ok (.aload_n 0, 1) := by decide +kernel
theorem dX6_bestIncome_1 : decode cX6_bestIncome 1 = .ok (.iconst 0, 1) := by decide +kernel
theorem dX6_bestIncome_2 : decode cX6_bestIncome 2 = .ok (.putfield 58, 3) := by decide +kernel
theorem dX6_bestIncome_5 : decode cX6_bestIncome 5 = .ok (.aload_n 0, 1) := by decide +kernel
theorem dX6_bestIncome_6 : decode cX6_bestIncome 6 = .ok (.aload_n 0, 1) := by decide +kernel
theorem dX6_bestIncome_7 : decode cX6_bestIncome 7 = .ok (.getfield 7, 3) := by decide +kernel
theorem dX6_bestIncome_10 : decode cX6_bestIncome 10 = .ok (.sipush 179, 3) := by decide +kernel
theorem dX6_bestIncome_13 : decode cX6_bestIncome 13 = .ok (.iaload, 1) := by decide +kernel
theorem dX6_bestIncome_14 : decode cX6_bestIncome 14 = .ok (.invokevirtual 259, 3) := by decide +kernel
theorem dX6_bestIncome_17 : decode cX6_bestIncome 17 = .ok (.ireturn, 1) := by decide +kernel
theorem dX6_optimise_0 : decode cX6_optimise 0 = .ok (.aload_n 0, 1) := by decide +kernel
theorem dX6_optimise_1 : decode cX6_optimise 1 = .ok (.iconst 0, 1) := by decide +kernel
theorem dX6_optimise_2 : decode cX6_optimise 2 = .ok (.putfield 58, 3) := by decide +kernel
theorem dX6_optimise_5 : decode cX6_optimise 5 = .ok (.aload_n 0, 1) := by decide +kernel
theorem dX6_optimise_6 : decode cX6_optimise 6 = .ok (.invokevirtual 170, 3) := by decide +kernel
theorem dX6_optimise_9 : decode cX6_optimise 9 = .ok (.aload_n 0, 1) := by decide +kernel
theorem dX6_optimise_10 : decode cX6_optimise 10 = .ok (.aload_n 0, 1) := by decide +kernel
theorem dX6_optimise_11 : decode cX6_optimise 11 = .ok (.getfield 7, 3) := by decide +kernel
theorem dX6_optimise_14 : decode cX6_optimise 14 = .ok (.sipush 179, 3) := by decide +kernel
theorem dX6_optimise_17 : decode cX6_optimise 17 = .ok (.iaload, 1) := by decide +kernel
theorem dX6_optimise_18 : decode cX6_optimise 18 = .ok (.invokevirtual 259, 3) := by decide +kernel
theorem dX6_optimise_21 : decode cX6_optimise 21 = .ok (.pop, 1) := by decide +kernel
theorem dX6_optimise_22 : decode cX6_optimise 22 = .ok (.iconst 0, 1) := by decide +kernel
theorem dX6_optimise_23 : decode cX6_optimise 23 = .ok (.istore_n 1, 1) := by decide +kernel
theorem dX6_optimise_24 : decode cX6_optimise 24 = .ok (.iload_n 1, 1) := by decide +kernel
theorem dX6_optimise_25 : decode cX6_optimise 25 = .ok (.bipush 8, 2) := by decide +kernel
theorem dX6_optimise_27 : decode cX6_optimise 27 = .ok (.if_icmp .ge 19, 3) := by decide +kernel
theorem dX6_optimise_30 : decode cX6_optimise 30 = .ok (.aload_n 0, 1) := by decide +kernel
theorem dX6_optimise_31 : decode cX6_optimise 31 = .ok (.getfield 7, 3) := by decide +kernel
theorem dX6_optimise_34 : decode cX6_optimise 34 = .ok (.bipush 107, 2) := by decide +kernel
theorem dX6_optimise_36 : decode cX6_optimise 36 = .ok (.iload_n 1, 1) := by decide +kernel
theorem dX6_optimise_37 : decode cX6_optimise 37 = .ok (.iadd, 1) := by decide +kernel
theorem dX6_optimise_38 : decode cX6_optimise 38 = .ok (.iconst (-1), 1) := by decide +kernel
theorem dX6_optimise_39 : decode cX6_optimise 39 = .ok (.iastore, 1) := by decide +kernel
theorem dX6_optimise_40 : decode cX6_optimise 40 = .ok (.iinc 1 1, 3) := by decide +kernel
theorem dX6_optimise_43 : decode cX6_optimise 43 = .ok (.goto (-19), 3) := by decide +kernel
theorem dX6_optimise_46 : decode cX6_optimise 46 = .ok (.iconst 0, 1) := by decide +kernel
theorem dX6_optimise_47 : decode cX6_optimise 47 = .ok (.istore_n 1, 1) := by decide +kernel
theorem dX6_optimise_48 : decode cX6_optimise 48 = .ok (.bipush 8, 2) := by decide +kernel
theorem dX6_optimise_50 : decode cX6_optimise 50 = .ok (.istore_n 2, 1) := by decide +kernel
theorem dX6_optimise_51 : decode cX6_optimise 51 = .ok (.aload_n 0, 1) := by decide +kernel
theorem dX6_optimise_52 : decode cX6_optimise 52 = .ok (.getfield 7, 3) := by decide +kernel
theorem dX6_optimise_55 : decode cX6_optimise 55 = .ok (.sipush 179, 3) := by decide +kernel
theorem dX6_optimise_58 : decode cX6_optimise 58 = .ok (.iaload, 1) := by decide +kernel
theorem dX6_optimise_59 : decode cX6_optimise 59 = .ok (.istore_n 3, 1) := by decide +kernel
theorem dX6_optimise_60 : decode cX6_optimise 60 = .ok (.iconst 0, 1) := by decide +kernel
theorem dX6_optimise_61 : decode cX6_optimise 61 = .ok (.istore 4, 2) := by decide +kernel
theorem dX6_optimise_63 : decode cX6_optimise 63 = .ok (.iload 4, 2) := by decide +kernel
theorem dX6_optimise_65 : decode cX6_optimise 65 = .ok (.aload_n 0, 1) := by decide +kernel
theorem dX6_optimise_66 : decode cX6_optimise 66 = .ok (.getfield 7, 3) := by decide +kernel
theorem dX6_optimise_69 : decode cX6_optimise 69 = .ok (.iconst 1, 1) := by decide +kernel
theorem dX6_optimise_70 : decode cX6_optimise 70 = .ok (.iaload, 1) := by decide +kernel
theorem dX6_optimise_71 : decode cX6_optimise 71 = .ok (.if_icmp .ge 143, 3) := by decide +kernel
theorem dX6_optimise_74 : decode cX6_optimise 74 = .ok (.iconst 0, 1) := by decide +kernel
theorem dX6_optimise_75 : decode cX6_optimise 75 = .ok (.istore 5, 2) := by decide +kernel
theorem dX6_optimise_77 : decode cX6_optimise 77 = .ok (.iload 5, 2) := by decide +kernel
theorem dX6_optimise_79 : decode cX6_optimise 79 = .ok (.aload_n 0, 1) := by decide +kernel
theorem dX6_optimise_80 : decode cX6_optimise 80 = .ok (.getfield 7, 3) := by decide +kernel
theorem dX6_optimise_83 : decode cX6_optimise 83 = .ok (.bipush 74, 2) := by decide +kernel
theorem dX6_optimise_85 : decode cX6_optimise 85 = .ok (.iaload, 1) := by decide +kernel
theorem dX6_optimise_86 : decode cX6_optimise 86 = .ok (.if_icmp .ge 36, 3) := by decide +kernel
theorem dX6_optimise_89 : decode cX6_optimise 89 = .ok (.aload_n 0, 1) := by decide +kernel
theorem dX6_optimise_90 : decode cX6_optimise 90 = .ok (.iload 5, 2) := by decide +kernel
theorem dX6_optimise_92 : decode cX6_optimise 92 = .ok (.iload 4, 2) := by decide +kernel
theorem dX6_optimise_94 : decode cX6_optimise 94 = .ok (.iload_n 1, 1) := by decide +kernel
theorem dX6_optimise_95 : decode cX6_optimise 95 = .ok (.iload_n 2, 1) := by decide +kernel
theorem dX6_optimise_96 : decode cX6_optimise 96 = .ok (.iload_n 3, 1) := by decide +kernel
theorem dX6_optimise_97 : decode cX6_optimise 97 = .ok (.invokevirtual 255, 3) := by decide +kernel
theorem dX6_optimise_100 : decode cX6_optimise 100 = .ok (.aload_n 0, 1) := by decide +kernel
theorem dX6_optimise_101 : decode cX6_optimise 101 = .ok (.getfield 27, 3) := by decide +kernel
theorem dX6_optimise_104 : decode cX6_optimise 104 = .ok (.iload 4, 2) := by decide +kernel
theorem dX6_optimise_106 : decode cX6_optimise 106 = .ok (.iload_n 1, 1) := by decide +kernel
theorem dX6_optimise_107 : decode cX6_optimise 107 = .ok (.iload_n 2, 1) := by decide +kernel
theorem dX6_optimise_108 : decode cX6_optimise 108 = .ok (.iload_n 3, 1) := by decide +kernel
theorem dX6_optimise_109 : decode cX6_optimise 109 = .ok (.invokestatic 245, 3) := by decide +kernel
theorem dX6_optimise_112 : decode cX6_optimise 112 = .ok (.iaload, 1) := by decide +kernel
theorem dX6_optimise_113 : decode cX6_optimise 113 = .ok (.if_icmp .eq 9, 3) := by decide +kernel
theorem dX6_optimise_116 : decode cX6_optimise 116 = .ok (.iinc 5 1, 3) := by decide +kernel
theorem dX6_optimise_119 : decode cX6_optimise 119 = .ok (.goto (-42), 3) := by decide +kernel
theorem dX6_optimise_122 : decode cX6_optimise 122 = .ok (.iload 5, 2) := by decide +kernel
theorem dX6_optimise_124 : decode cX6_optimise 124 = .ok (.aload_n 0, 1) := by decide +kernel
theorem dX6_optimise_125 : decode cX6_optimise 125 = .ok (.getfield 7, 3) := by decide +kernel
theorem dX6_optimise_128 : decode cX6_optimise 128 = .ok (.bipush 74, 2) := by decide +kernel
theorem dX6_optimise_130 : decode cX6_optimise 130 = .ok (.iaload, 1) := by decide +kernel
theorem dX6_optimise_131 : decode cX6_optimise 131 = .ok (.if_icmp .ne 12, 3) := by decide +kernel
theorem dX6_optimise_134 : decode cX6_optimise 134 = .ok (.bipush 8, 2) := by decide +kernel
theorem dX6_optimise_136 : decode cX6_optimise 136 = .ok (.istore_n 2, 1) := by decide +kernel
theorem dX6_optimise_137 : decode cX6_optimise 137 = .ok (.iinc 4 1, 3) := by decide +kernel
theorem dX6_optimise_140 : decode cX6_optimise 140 = .ok (.goto (-77), 3) := by decide +kernel
theorem dX6_optimise_143 : decode cX6_optimise 143 = .ok (.iload_n 3, 1) := by decide +kernel
theorem dX6_optimise_144 : decode cX6_optimise 144 = .ok (.aload_n 0, 1) := by decide +kernel
theorem dX6_optimise_145 : decode cX6_optimise 145 = .ok (.iload 5, 2) := by decide +kernel
theorem dX6_optimise_147 : decode cX6_optimise 147 = .ok (.iload 4, 2) := by decide +kernel
theorem dX6_optimise_149 : decode cX6_optimise 149 = .ok (.invokevirtual 194, 3) := by decide +kernel
theorem dX6_optimise_152 : decode cX6_optimise 152 = .ok (.isub, 1) := by decide +kernel
theorem dX6_optimise_153 : decode cX6_optimise 153 = .ok (.istore_n 3, 1) := by decide +kernel
theorem dX6_optimise_154 : decode cX6_optimise 154 = .ok (.iload_n 1, 1) := by decide +kernel
theorem dX6_optimise_155 : decode cX6_optimise 155 = .ok (.iconst 1, 1) := by decide +kernel
theorem dX6_optimise_156 : decode cX6_optimise 156 = .ok (.iload 5, 2) := by decide +kernel
theorem dX6_optimise_158 : decode cX6_optimise 158 = .ok (.ishl, 1) := by decide +kernel
theorem dX6_optimise_159 : decode cX6_optimise 159 = .ok (.ior, 1) := by decide +kernel
theorem dX6_optimise_160 : decode cX6_optimise 160 = .ok (.istore_n 1, 1) := by decide +kernel
theorem dX6_optimise_161 : decode cX6_optimise 161 = .ok (.aload_n 0, 1) := by decide +kernel
theorem dX6_optimise_162 : decode cX6_optimise 162 = .ok (.getfield 7, 3) := by decide +kernel
theorem dX6_optimise_165 : decode cX6_optimise 165 = .ok (.bipush 107, 2) := by decide +kernel
theorem dX6_optimise_167 : decode cX6_optimise 167 = .ok (.iload 5, 2) := by decide +kernel
theorem dX6_optimise_169 : decode cX6_optimise 169 = .ok (.iadd, 1) := by decide +kernel
theorem dX6_optimise_170 : decode cX6_optimise 170 = .ok (.iload 4, 2) := by decide +kernel
theorem dX6_optimise_172 : decode cX6_optimise 172 = .ok (.iastore, 1) := by decide +kernel
theorem dX6_optimise_173 : decode cX6_optimise 173 = .ok (.iload 4, 2) := by decide +kernel
theorem dX6_optimise_175 : decode cX6_optimise 175 = .ok (.aload_n 0, 1) := by decide +kernel
theorem dX6_optimise_176 : decode cX6_optimise 176 = .ok (.getfield 7, 3) := by decide +kernel
theorem dX6_optimise_179 : decode cX6_optimise 179 = .ok (.bipush 83, 2) := by decide +kernel
theorem dX6_optimise_181 : decode cX6_optimise 181 = .ok (.iload 5, 2) := by decide +kernel
theorem dX6_optimise_183 : decode cX6_optimise 183 = .ok (.iadd, 1) := by decide +kernel
theorem dX6_optimise_184 : decode cX6_optimise 184 = .ok (.iaload, 1) := by decide +kernel
theorem dX6_optimise_185 : decode cX6_optimise 185 = .ok (.iadd, 1) := by decide +kernel
theorem dX6_optimise_186 : decode cX6_optimise 186 = .ok (.istore 6, 2) := by decide +kernel
theorem dX6_optimise_188 : decode cX6_optimise 188 = .ok (.aload_n 0, 1) := by decide +kernel
theorem dX6_optimise_189 : decode cX6_optimise 189 = .ok (.iload 4, 2) := by decide +kernel
theorem dX6_optimise_191 : decode cX6_optimise 191 = .ok (.iload 6, 2) := by decide +kernel
theorem dX6_optimise_193 : decode cX6_optimise 193 = .ok (.invokevirtual 242, 3) := by decide +kernel
theorem dX6_optimise_196 : decode cX6_optimise 196 = .ok (.ifCond .eq 8, 3) := by decide +kernel
theorem dX6_optimise_199 : decode cX6_optimise 199 = .ok (.iload 5, 2) := by decide +kernel
theorem dX6_optimise_201 : decode cX6_optimise 201 = .ok (.goto 5, 3) := by decide +kernel
theorem dX6_optimise_204 : decode cX6_optimise 204 = .ok (.bipush 8, 2) := by decide +kernel
theorem dX6_optimise_206 : decode cX6_optimise 206 = .ok (.istore_n 2, 1) := by decide +kernel
theorem dX6_optimise_207 : decode cX6_optimise 207 = .ok (.iload 6, 2) := by decide +kernel
theorem dX6_optimise_209 : decode cX6_optimise 209 = .ok (.istore 4, 2) := by decide +kernel
theorem dX6_optimise_211 : decode cX6_optimise 211 = .ok (.goto (-148), 3) := by decide +kernel
theorem dX6_optimise_214 : decode cX6_optimise 214 = .ok (.aload_n 0, 1) := by decide +kernel
theorem dX6_optimise_215 : decode cX6_optimise 215 = .ok (.invokevirtual 231, 3) := by decide +kernel
theorem dX6_optimise_218 : decode cX6_optimise 218 = .ok (.ireturn, 1) := by decide +kernel
theorem dX6_clashCost_0 : decode cX6_clashCost 0 = .ok (.aload_n 0, 1) := by decide +kernel
theorem dX6_clashCost_1 : decode cX6_clashCost 1 = .ok (.iload_n 1, 1) := by decide +kernel
theorem dX6_clashCost_2 : decode cX6_clashCost 2 = .ok (.iload_n 2, 1) := by decide +kernel
theorem dX6_clashCost_3 : decode cX6_clashCost 3 = .ok (.invokestatic 204, 3) := by decide +kernel
theorem dX6_clashCost_6 : decode cX6_clashCost 6 = .ok (.ifCond .eq 7, 3) := by decide +kernel
theorem dX6_clashCost_9 : decode cX6_clashCost 9 = .ok (.iconst 0, 1) := by decide +kernel
theorem dX6_clashCost_10 : decode cX6_clashCost 10 = .ok (.goto 4, 3) := by decide +kernel
theorem dX6_clashCost_13 : decode cX6_clashCost 13 = .ok (.iconst 1, 1) := by decide +kernel
theorem dX6_clashCost_14 : decode cX6_clashCost 14 = .ok (.putfield 58, 3) := by decide +kernel
theorem dX6_clashCost_17 : decode cX6_clashCost 17 = .ok (.aload_n 0, 1) := by decide +kernel
theorem dX6_clashCost_18 : decode cX6_clashCost 18 = .ok (.getfield 58, 3) := by decide +kernel
theorem dX6_clashCost_21 : decode cX6_clashCost 21 = .ok (.ifCond .gt 20, 3) := by decide +kernel
theorem dX6_clashCost_24 : decode cX6_clashCost 24 = .ok (.aload_n 0, 1) := by decide +kernel
theorem dX6_clashCost_25 : decode cX6_clashCost 25 = .ok (.getfield 7, 3) := by decide +kernel
theorem dX6_clashCost_28 : decode cX6_clashCost 28 = .ok (.bipush 115, 2) := by decide +kernel
theorem dX6_clashCost_30 : decode cX6_clashCost 30 = .ok (.bipush 8, 2) := by decide +kernel
theorem dX6_clashCost_32 : decode cX6_clashCost 32 = .ok (.iload_n 1, 1) := by decide +kernel
theorem dX6_clashCost_33 : decode cX6_clashCost 33 = .ok (.imul, 1) := by decide +kernel
theorem dX6_clashCost_34 : decode cX6_clashCost 34 = .ok (.iadd, 1) := by decide +kernel
theorem dX6_clashCost_35 : decode cX6_clashCost 35 = .ok (.iload_n 2, 1) := by decide +kernel
theorem dX6_clashCost_36 : decode cX6_clashCost 36 = .ok (.iadd, 1) := by decide +kernel
theorem dX6_clashCost_37 : decode cX6_clashCost 37 = .ok (.iaload, 1) := by decide +kernel
theorem dX6_clashCost_38 : decode cX6_clashCost 38 = .ok (.ifCond .ne 5, 3) := by decide +kernel
theorem dX6_clashCost_41 : decode cX6_clashCost 41 = .ok (.iconst 0, 1) := by decide +kernel
theorem dX6_clashCost_42 : decode cX6_clashCost 42 = .ok (.ireturn, 1) := by decide +kernel
theorem dX6_clashCost_43 : decode cX6_clashCost 43 = .ok (.aload_n 0, 1) := by decide +kernel
theorem dX6_clashCost_44 : decode cX6_clashCost 44 = .ok (.aload_n 0, 1) := by decide +kernel
theorem dX6_clashCost_45 : decode cX6_clashCost 45 = .ok (.getfield 7, 3) := by decide +kernel
theorem dX6_clashCost_48 : decode cX6_clashCost 48 = .ok (.sipush 179, 3) := by decide +kernel
theorem dX6_clashCost_51 : decode cX6_clashCost 51 = .ok (.iaload, 1) := by decide +kernel
theorem dX6_clashCost_52 : decode cX6_clashCost 52 = .ok (.invokevirtual 259, 3) := by decide +kernel
theorem dX6_clashCost_55 : decode cX6_clashCost 55 = .ok (.istore_n 3, 1) := by decide +kernel
theorem dX6_clashCost_56 : decode cX6_clashCost 56 = .ok (.aload_n 0, 1) := by decide +kernel
theorem dX6_clashCost_57 : decode cX6_clashCost 57 = .ok (.getfield 7, 3) := by decide +kernel
theorem dX6_clashCost_60 : decode cX6_clashCost 60 = .ok (.iload_n 1, 1) := by decide +kernel
theorem dX6_clashCost_61 : decode cX6_clashCost 61 = .ok (.iload_n 2, 1) := by decide +kernel
theorem dX6_clashCost_62 : decode cX6_clashCost 62 = .ok (.iconst 0, 1) := by decide +kernel
theorem dX6_clashCost_63 : decode cX6_clashCost 63 = .ok (.invokestatic 159, 3) := by decide +kernel
theorem dX6_clashCost_66 : decode cX6_clashCost 66 = .ok (.aload_n 0, 1) := by decide +kernel
theorem dX6_clashCost_67 : decode cX6_clashCost 67 = .ok (.aload_n 0, 1) := by decide +kernel
theorem dX6_clashCost_68 : decode cX6_clashCost 68 = .ok (.getfield 7, 3) := by decide +kernel
theorem dX6_clashCost_71 : decode cX6_clashCost 71 = .ok (.sipush 179, 3) := by decide +kernel
theorem dX6_clashCost_74 : decode cX6_clashCost 74 = .ok (.iaload, 1) := by decide +kernel
theorem dX6_clashCost_75 : decode cX6_clashCost 75 = .ok (.invokevirtual 259, 3) := by decide +kernel
theorem dX6_clashCost_78 : decode cX6_clashCost 78 = .ok (.istore 4, 2) := by decide +kernel
theorem dX6_clashCost_80 : decode cX6_clashCost 80 = .ok (.aload_n 0, 1) := by decide +kernel
theorem dX6_clashCost_81 : decode cX6_clashCost 81 = .ok (.getfield 7, 3) := by decide +kernel
theorem dX6_clashCost_84 : decode cX6_clashCost 84 = .ok (.iload_n 1, 1) := by decide +kernel
theorem dX6_clashCost_85 : decode cX6_clashCost 85 = .ok (.iload_n 2, 1) := by decide +kernel
theorem dX6_clashCost_86 : decode cX6_clashCost 86 = .ok (.iconst 1, 1) := by decide +kernel
theorem dX6_clashCost_87 : decode cX6_clashCost 87 = .ok (.invokestatic 159, 3) := by decide +kernel
theorem dX6_clashCost_90 : decode cX6_clashCost 90 = .ok (.iload 4, 2) := by decide +kernel
theorem dX6_clashCost_92 : decode cX6_clashCost 92 = .ok (.iload_n 3, 1) := by decide +kernel
theorem dX6_clashCost_93 : decode cX6_clashCost 93 = .ok (.isub, 1) := by decide +kernel
theorem dX6_clashCost_94 : decode cX6_clashCost 94 = .ok (.ireturn, 1) := by decide +kernel
theorem dX6_coverValue_0 : decode cX6_coverValue 0 = .ok (.aload_n 0, 1) := by decide +kernel
theorem dX6_coverValue_1 : decode cX6_coverValue 1 = .ok (.iconst 0, 1) := by decide +kernel
theorem dX6_coverValue_2 : decode cX6_coverValue 2 = .ok (.putfield 58, 3) := by decide +kernel
theorem dX6_coverValue_5 : decode cX6_coverValue 5 = .ok (.aload_n 0, 1) := by decide +kernel
theorem dX6_coverValue_6 : decode cX6_coverValue 6 = .ok (.aload_n 0, 1) := by decide +kernel
theorem dX6_coverValue_7 : decode cX6_coverValue 7 = .ok (.getfield 7, 3) := by decide +kernel
theorem dX6_coverValue_10 : decode cX6_coverValue 10 = .ok (.sipush 179, 3) := by decide +kernel
theorem dX6_coverValue_13 : decode cX6_coverValue 13 = .ok (.iaload, 1) := by decide +kernel
theorem dX6_coverValue_14 : decode cX6_coverValue 14 = .ok (.invokevirtual 259, 3) := by decide +kernel
theorem dX6_coverValue_17 : decode cX6_coverValue 17 = .ok (.istore_n 1, 1) := by decide +kernel
theorem dX6_coverValue_18 : decode cX6_coverValue 18 = .ok (.aload_n 0, 1) := by decide +kernel
theorem dX6_coverValue_19 : decode cX6_coverValue 19 = .ok (.aload_n 0, 1) := by decide +kernel
theorem dX6_coverValue_20 : decode cX6_coverValue 20 = .ok (.getfield 7, 3) := by decide +kernel
theorem dX6_coverValue_23 : decode cX6_coverValue 23 = .ok (.sipush 179, 3) := by decide +kernel
theorem dX6_coverValue_26 : decode cX6_coverValue 26 = .ok (.iaload, 1) := by decide +kernel
theorem dX6_coverValue_27 : decode cX6_coverValue 27 = .ok (.iconst 1, 1) := by decide +kernel
theorem dX6_coverValue_28 : decode cX6_coverValue 28 = .ok (.iadd, 1) := by decide +kernel
theorem dX6_coverValue_29 : decode cX6_coverValue 29 = .ok (.invokevirtual 259, 3) := by decide +kernel
theorem dX6_coverValue_32 : decode cX6_coverValue 32 = .ok (.iload_n 1, 1) := by decide +kernel
theorem dX6_coverValue_33 : decode cX6_coverValue 33 = .ok (.isub, 1) := by decide +kernel
theorem dX6_coverValue_34 : decode cX6_coverValue 34 = .ok (.ireturn, 1) := by decide +kernel
theorem dX6_contribution_0 : decode cX6_contribution 0 = .ok (.aload_n 0, 1) := by decide +kernel
theorem dX6_contribution_1 : decode cX6_contribution 1 = .ok (.aload_n 0, 1) := by decide +kernel
theorem dX6_contribution_2 : decode cX6_contribution 2 = .ok (.iload_n 1, 1) := by decide +kernel
theorem dX6_contribution_3 : decode cX6_contribution 3 = .ok (.invokevirtual 178, 3) := by decide +kernel
theorem dX6_contribution_6 : decode cX6_contribution 6 = .ok (.ifCond .eq 7, 3) := by decide +kernel
theorem dX6_contribution_9 : decode cX6_contribution 9 = .ok (.iconst 0, 1) := by decide +kernel
theorem dX6_contribution_10 : decode cX6_contribution 10 = .ok (.goto 4, 3) := by decide +kernel
theorem dX6_contribution_13 : decode cX6_contribution 13 = .ok (.iconst 1, 1) := by decide +kernel
theorem dX6_contribution_14 : decode cX6_contribution 14 = .ok (.putfield 58, 3) := by decide +kernel
theorem dX6_contribution_17 : decode cX6_contribution 17 = .ok (.aload_n 0, 1) := by decide +kernel
theorem dX6_contribution_18 : decode cX6_contribution 18 = .ok (.getfield 58, 3) := by decide +kernel
theorem dX6_contribution_21 : decode cX6_contribution 21 = .ok (.ifCond .le 5, 3) := by decide +kernel
theorem dX6_contribution_24 : decode cX6_contribution 24 = .ok (.iconst 0, 1) := by decide +kernel
theorem dX6_contribution_25 : decode cX6_contribution 25 = .ok (.ireturn, 1) := by decide +kernel
theorem dX6_contribution_26 : decode cX6_contribution 26 = .ok (.aload_n 0, 1) := by decide +kernel
theorem dX6_contribution_27 : decode cX6_contribution 27 = .ok (.aload_n 0, 1) := by decide +kernel
theorem dX6_contribution_28 : decode cX6_contribution 28 = .ok (.getfield 7, 3) := by decide +kernel
theorem dX6_contribution_31 : decode cX6_contribution 31 = .ok (.sipush 179, 3) := by decide +kernel
theorem dX6_contribution_34 : decode cX6_contribution 34 = .ok (.iaload, 1) := by decide +kernel
theorem dX6_contribution_35 : decode cX6_contribution 35 = .ok (.invokevirtual 259, 3) := by decide +kernel
theorem dX6_contribution_38 : decode cX6_contribution 38 = .ok (.aload_n 0, 1) := by decide +kernel
theorem dX6_contribution_39 : decode cX6_contribution 39 = .ok (.getfield 27, 3) := by decide +kernel
theorem dX6_contribution_42 : decode cX6_contribution 42 = .ok (.iconst 0, 1) := by decide +kernel
theorem dX6_contribution_43 : decode cX6_contribution 43 = .ok (.iconst 1, 1) := by decide +kernel
theorem dX6_contribution_44 : decode cX6_contribution 44 = .ok (.iload_n 1, 1) := by decide +kernel
theorem dX6_contribution_45 : decode cX6_contribution 45 = .ok (.ishl, 1) := by decide +kernel
theorem dX6_contribution_46 : decode cX6_contribution 46 = .ok (.bipush 8, 2) := by decide +kernel
theorem dX6_contribution_48 : decode cX6_contribution 48 = .ok (.aload_n 0, 1) := by decide +kernel
theorem dX6_contribution_49 : decode cX6_contribution 49 = .ok (.getfield 7, 3) := by decide +kernel
theorem dX6_contribution_52 : decode cX6_contribution 52 = .ok (.sipush 179, 3) := by decide +kernel
theorem dX6_contribution_55 : decode cX6_contribution 55 = .ok (.iaload, 1) := by decide +kernel
theorem dX6_contribution_56 : decode cX6_contribution 56 = .ok (.invokestatic 245, 3) := by decide +kernel
theorem dX6_contribution_59 : decode cX6_contribution 59 = .ok (.iaload, 1) := by decide +kernel
theorem dX6_contribution_60 : decode cX6_contribution 60 = .ok (.bipush 16, 2) := by decide +kernel
theorem dX6_contribution_62 : decode cX6_contribution 62 = .ok (.idiv, 1) := by decide +kernel
theorem dX6_contribution_63 : decode cX6_contribution 63 = .ok (.isub, 1) := by decide +kernel
theorem dX6_contribution_64 : decode cX6_contribution 64 = .ok (.ireturn, 1) := by decide +kernel
theorem dX6_laysEdges_0 : decode cX6_laysEdges 0 = .ok (.iconst 0, 1) := by decide +kernel
theorem dX6_laysEdges_1 : decode cX6_laysEdges 1 = .ok (.istore_n 2, 1) := by decide +kernel
theorem dX6_laysEdges_2 : decode cX6_laysEdges 2 = .ok (.iload_n 2, 1) := by decide +kernel
theorem dX6_laysEdges_3 : decode cX6_laysEdges 3 = .ok (.sipush 1000, 3) := by decide +kernel
theorem dX6_laysEdges_6 : decode cX6_laysEdges 6 = .ok (.if_icmp .ge 25, 3) := by decide +kernel
theorem dX6_laysEdges_9 : decode cX6_laysEdges 9 = .ok (.aload_n 0, 1) := by decide +kernel
theorem dX6_laysEdges_10 : decode cX6_laysEdges 10 = .ok (.getfield 39, 3) := by decide +kernel
theorem dX6_laysEdges_13 : decode cX6_laysEdges 13 = .ok (.iload_n 2, 1) := by decide +kernel
theorem dX6_laysEdges_14 : decode cX6_laysEdges 14 = .ok (.iload_n 2, 1) := by decide +kernel
theorem dX6_laysEdges_15 : decode cX6_laysEdges 15 = .ok (.iconst 1, 1) := by decide +kernel
theorem dX6_laysEdges_16 : decode cX6_laysEdges 16 = .ok (.if_icmp .ne 7, 3) := by decide +kernel
theorem dX6_laysEdges_19 : decode cX6_laysEdges 19 = .ok (.iconst 1, 1) := by decide +kernel
theorem dX6_laysEdges_20 : decode cX6_laysEdges 20 = .ok (.goto 4, 3) := by decide +kernel
theorem dX6_laysEdges_23 : decode cX6_laysEdges 23 = .ok (.iconst 0, 1) := by decide +kernel
theorem dX6_laysEdges_24 : decode cX6_laysEdges 24 = .ok (.bastore, 1) := by decide +kernel
theorem dX6_laysEdges_25 : decode cX6_laysEdges 25 = .ok (.iinc 2 1, 3) := by decide +kernel
theorem dX6_laysEdges_28 : decode cX6_laysEdges 28 = .ok (.goto (-26), 3) := by decide +kernel
theorem dX6_laysEdges_31 : decode cX6_laysEdges 31 = .ok (.iconst 0, 1) := by decide +kernel
theorem dX6_laysEdges_32 : decode cX6_laysEdges 32 = .ok (.istore_n 2, 1) := by decide +kernel
theorem dX6_laysEdges_33 : decode cX6_laysEdges 33 = .ok (.iload_n 2, 1) := by decide +kernel
theorem dX6_laysEdges_34 : decode cX6_laysEdges 34 = .ok (.aload_n 0, 1) := by decide +kernel
theorem dX6_laysEdges_35 : decode cX6_laysEdges 35 = .ok (.getfield 7, 3) := by decide +kernel
theorem dX6_laysEdges_38 : decode cX6_laysEdges 38 = .ok (.bipush 74, 2) := by decide +kernel
theorem dX6_laysEdges_40 : decode cX6_laysEdges 40 = .ok (.iaload, 1) := by decide +kernel
theorem dX6_laysEdges_41 : decode cX6_laysEdges 41 = .ok (.if_icmp .ge 125, 3) := by decide +kernel
theorem dX6_laysEdges_44 : decode cX6_laysEdges 44 = .ok (.iload_n 1, 1) := by decide +kernel
theorem dX6_laysEdges_45 : decode cX6_laysEdges 45 = .ok (.aload_n 0, 1) := by decide +kernel
theorem dX6_laysEdges_46 : decode cX6_laysEdges 46 = .ok (.getfield 7, 3) := by decide +kernel
theorem dX6_laysEdges_49 : decode cX6_laysEdges 49 = .ok (.bipush 83, 2) := by decide +kernel
theorem dX6_laysEdges_51 : decode cX6_laysEdges 51 = .ok (.iload_n 2, 1) := by decide +kernel
theorem dX6_laysEdges_52 : decode cX6_laysEdges 52 = .ok (.iadd, 1) := by decide +kernel
theorem dX6_laysEdges_53 : decode cX6_laysEdges 53 = .ok (.iaload, 1) := by decide +kernel
theorem dX6_laysEdges_54 : decode cX6_laysEdges 54 = .ok (.isub, 1) := by decide +kernel
theorem dX6_laysEdges_55 : decode cX6_laysEdges 55 = .ok (.iconst 1, 1) := by decide +kernel
theorem dX6_laysEdges_56 : decode cX6_laysEdges 56 = .ok (.iadd, 1) := by decide +kernel
theorem dX6_laysEdges_57 : decode cX6_laysEdges 57 = .ok (.istore_n 3, 1) := by decide +kernel
theorem dX6_laysEdges_58 : decode cX6_laysEdges 58 = .ok (.iload_n 3, 1) := by decide +kernel
theorem dX6_laysEdges_59 : decode cX6_laysEdges 59 = .ok (.iload_n 1, 1) := by decide +kernel
theorem dX6_laysEdges_60 : decode cX6_laysEdges 60 = .ok (.if_icmp .gt 100, 3) := by decide +kernel
theorem dX6_laysEdges_63 : decode cX6_laysEdges 63 = .ok (.iload_n 3, 1) := by decide +kernel
theorem dX6_laysEdges_64 : decode cX6_laysEdges 64 = .ok (.ifCond .lt 90, 3) := by decide +kernel
theorem dX6_laysEdges_67 : decode cX6_laysEdges 67 = .ok (.aload_n 0, 1) := by decide +kernel
theorem dX6_laysEdges_68 : decode cX6_laysEdges 68 = .ok (.iload_n 2, 1) := by decide +kernel
theorem dX6_laysEdges_69 : decode cX6_laysEdges 69 = .ok (.iload_n 3, 1) := by decide +kernel
theorem dX6_laysEdges_70 : decode cX6_laysEdges 70 = .ok (.invokevirtual 218, 3) := by decide +kernel
theorem dX6_laysEdges_73 : decode cX6_laysEdges 73 = .ok (.ifCond .eq 81, 3) := by decide +kernel
theorem dX6_laysEdges_76 : decode cX6_laysEdges 76 = .ok (.aload_n 0, 1) := by decide +kernel
theorem dX6_laysEdges_77 : decode cX6_laysEdges 77 = .ok (.getfield 7, 3) := by decide +kernel
theorem dX6_laysEdges_80 : decode cX6_laysEdges 80 = .ok (.bipush 50, 2) := by decide +kernel
theorem dX6_laysEdges_82 : decode cX6_laysEdges 82 = .ok (.iload_n 3, 1) := by decide +kernel
theorem dX6_laysEdges_83 : decode cX6_laysEdges 83 = .ok (.iadd, 1) := by decide +kernel
theorem dX6_laysEdges_84 : decode cX6_laysEdges 84 = .ok (.iaload, 1) := by decide +kernel
theorem dX6_laysEdges_85 : decode cX6_laysEdges 85 = .ok (.aload_n 0, 1) := by decide +kernel
theorem dX6_laysEdges_86 : decode cX6_laysEdges 86 = .ok (.getfield 7, 3) := by decide +kernel
theorem dX6_laysEdges_89 : decode cX6_laysEdges 89 = .ok (.bipush 50, 2) := by decide +kernel
theorem dX6_laysEdges_91 : decode cX6_laysEdges 91 = .ok (.iload_n 1, 1) := by decide +kernel
theorem dX6_laysEdges_92 : decode cX6_laysEdges 92 = .ok (.iadd, 1) := by decide +kernel
theorem dX6_laysEdges_93 : decode cX6_laysEdges 93 = .ok (.iaload, 1) := by decide +kernel
theorem dX6_laysEdges_94 : decode cX6_laysEdges 94 = .ok (.if_icmp .eq 6, 3) := by decide +kernel
theorem dX6_laysEdges_97 : decode cX6_laysEdges 97 = .ok (.goto 57, 3) := by decide +kernel
theorem dX6_laysEdges_100 : decode cX6_laysEdges 100 = .ok (.aload_n 0, 1) := by decide +kernel
theorem dX6_laysEdges_101 : decode cX6_laysEdges 101 = .ok (.getfield 7, 3) := by decide +kernel
theorem dX6_laysEdges_104 : decode cX6_laysEdges 104 = .ok (.bipush 91, 2) := by decide +kernel
theorem dX6_laysEdges_106 : decode cX6_laysEdges 106 = .ok (.iload_n 2, 1) := by decide +kernel
theorem dX6_laysEdges_107 : decode cX6_laysEdges 107 = .ok (.iadd, 1) := by decide +kernel
theorem dX6_laysEdges_108 : decode cX6_laysEdges 108 = .ok (.iaload, 1) := by decide +kernel
theorem dX6_laysEdges_109 : decode cX6_laysEdges 109 = .ok (.aload_n 0, 1) := by decide +kernel
theorem dX6_laysEdges_110 : decode cX6_laysEdges 110 = .ok (.iload_n 2, 1) := by decide +kernel
theorem dX6_laysEdges_111 : decode cX6_laysEdges 111 = .ok (.iload_n 3, 1) := by decide +kernel
theorem dX6_laysEdges_112 : decode cX6_laysEdges 112 = .ok (.invokevirtual 197, 3) := by decide +kernel
theorem dX6_laysEdges_115 : decode cX6_laysEdges 115 = .ok (.isub, 1) := by decide +kernel
theorem dX6_laysEdges_116 : decode cX6_laysEdges 116 = .ok (.aload_n 0, 1) := by decide +kernel
theorem dX6_laysEdges_117 : decode cX6_laysEdges 117 = .ok (.getfield 7, 3) := by decide +kernel
theorem dX6_laysEdges_120 : decode cX6_laysEdges 120 = .ok (.iconst 2, 1) := by decide +kernel
theorem dX6_laysEdges_121 : decode cX6_laysEdges 121 = .ok (.iload_n 1, 1) := by decide +kernel
theorem dX6_laysEdges_122 : decode cX6_laysEdges 122 = .ok (.iadd, 1) := by decide +kernel
theorem dX6_laysEdges_123 : decode cX6_laysEdges 123 = .ok (.iaload, 1) := by decide +kernel
theorem dX6_laysEdges_124 : decode cX6_laysEdges 124 = .ok (.iadd, 1) := by decide +kernel
theorem dX6_laysEdges_125 : decode cX6_laysEdges 125 = .ok (.istore 4, 2) := by decide +kernel
theorem dX6_laysEdges_127 : decode cX6_laysEdges 127 = .ok (.iload 4, 2) := by decide +kernel
theorem dX6_laysEdges_129 : decode cX6_laysEdges 129 = .ok (.ifCond .le 25, 3) := by decide +kernel
theorem dX6_laysEdges_132 : decode cX6_laysEdges 132 = .ok (.aload_n 0, 1) := by decide +kernel
theorem dX6_laysEdges_133 : decode cX6_laysEdges 133 = .ok (.getfield 39, 3) := by decide +kernel
theorem dX6_laysEdges_136 : decode cX6_laysEdges 136 = .ok (.iload 4, 2) := by decide +kernel
theorem dX6_laysEdges_138 : decode cX6_laysEdges 138 = .ok (.sipush 999, 3) := by decide +kernel
theorem dX6_laysEdges_141 : decode cX6_laysEdges 141 = .ok (.if_icmp .le 9, 3) := by decide +kernel
theorem dX6_laysEdges_144 : decode cX6_laysEdges 144 = .ok (.sipush 999, 3) := by decide +kernel
theorem dX6_laysEdges_147 : decode cX6_laysEdges 147 = .ok (.goto 5, 3) := by decide +kernel
theorem dX6_laysEdges_150 : decode cX6_laysEdges 150 = .ok (.iload 4, 2) := by decide +kernel
theorem dX6_laysEdges_152 : decode cX6_laysEdges 152 = .ok (.iconst 1, 1) := by decide +kernel
theorem dX6_laysEdges_153 : decode cX6_laysEdges 153 = .ok (.bastore, 1) := by decide +kernel
theorem dX6_laysEdges_154 : decode cX6_laysEdges 154 = .ok (.iinc 3 1, 3) := by decide +kernel
theorem dX6_laysEdges_157 : decode cX6_laysEdges 157 = .ok (.goto (-99), 3) := by decide +kernel
theorem dX6_laysEdges_160 : decode cX6_laysEdges 160 = .ok (.iinc 2 1, 3) := by decide +kernel
theorem dX6_laysEdges_163 : decode cX6_laysEdges 163 = .ok (.goto (-130), 3) := by decide +kernel
theorem dX6_laysEdges_166 : decode cX6_laysEdges 166 = .ok (.return_, 1) := by decide +kernel
theorem dX6_bestRent_0 : decode cX6_bestRent 0 = .ok (.aload_n 0, 1) := by decide +kernel
theorem dX6_bestRent_1 : decode cX6_bestRent 1 = .ok (.aload_n 0, 1) := by decide +kernel
theorem dX6_bestRent_2 : decode cX6_bestRent 2 = .ok (.iload_n 1, 1) := by decide +kernel
theorem dX6_bestRent_3 : decode cX6_bestRent 3 = .ok (.invokevirtual 175, 3) := by decide +kernel
theorem dX6_bestRent_6 : decode cX6_bestRent 6 = .ok (.ifCond .eq 7, 3) := by decide +kernel
theorem dX6_bestRent_9 : decode cX6_bestRent 9 = .ok (.iconst 0, 1) := by decide +kernel
theorem dX6_bestRent_10 : decode cX6_bestRent 10 = .ok (.goto 4, 3) := by decide +kernel
theorem dX6_bestRent_13 : decode cX6_bestRent 13 = .ok (.iconst 1, 1) := by decide +kernel
theorem dX6_bestRent_14 : decode cX6_bestRent 14 = .ok (.putfield 58, 3) := by decide +kernel
theorem dX6_bestRent_17 : decode cX6_bestRent 17 = .ok (.aload_n 0, 1) := by decide +kernel
theorem dX6_bestRent_18 : decode cX6_bestRent 18 = .ok (.getfield 58, 3) := by decide +kernel
theorem dX6_bestRent_21 : decode cX6_bestRent 21 = .ok (.ifCond .le 5, 3) := by decide +kernel
theorem dX6_bestRent_24 : decode cX6_bestRent 24 = .ok (.iconst 0, 1) := by decide +kernel
theorem dX6_bestRent_25 : decode cX6_bestRent 25 = .ok (.ireturn, 1) := by decide +kernel
theorem dX6_bestRent_26 : decode cX6_bestRent 26 = .ok (.aload_n 0, 1) := by decide +kernel
theorem dX6_bestRent_27 : decode cX6_bestRent 27 = .ok (.iload_n 1, 1) := by decide +kernel
theorem dX6_bestRent_28 : decode cX6_bestRent 28 = .ok (.invokevirtual 262, 3) := by decide +kernel
theorem dX6_bestRent_31 : decode cX6_bestRent 31 = .ok (.aload_n 0, 1) := by decide +kernel
theorem dX6_bestRent_32 : decode cX6_bestRent 32 = .ok (.getfield 7, 3) := by decide +kernel
theorem dX6_bestRent_35 : decode cX6_bestRent 35 = .ok (.iconst 2, 1) := by decide +kernel
theorem dX6_bestRent_36 : decode cX6_bestRent 36 = .ok (.iload_n 1, 1) := by decide +kernel
theorem dX6_bestRent_37 : decode cX6_bestRent 37 = .ok (.iadd, 1) := by decide +kernel
theorem dX6_bestRent_38 : decode cX6_bestRent 38 = .ok (.iaload, 1) := by decide +kernel
theorem dX6_bestRent_39 : decode cX6_bestRent 39 = .ok (.istore_n 2, 1) := by decide +kernel
theorem dX6_bestRent_40 : decode cX6_bestRent 40 = .ok (.iconst (-1), 1) := by decide +kernel
theorem dX6_bestRent_41 : decode cX6_bestRent 41 = .ok (.istore_n 3, 1) := by decide +kernel
theorem dX6_bestRent_42 : decode cX6_bestRent 42 = .ok (.iconst 0, 1) := by decide +kernel
theorem dX6_bestRent_43 : decode cX6_bestRent 43 = .ok (.istore 4, 2) := by decide +kernel
theorem dX6_bestRent_45 : decode cX6_bestRent 45 = .ok (.iconst 1, 1) := by decide +kernel
theorem dX6_bestRent_46 : decode cX6_bestRent 46 = .ok (.istore 5, 2) := by decide +kernel
theorem dX6_bestRent_48 : decode cX6_bestRent 48 = .ok (.iload 5, 2) := by decide +kernel
theorem dX6_bestRent_50 : decode cX6_bestRent 50 = .ok (.sipush 1000, 3) := by decide +kernel
theorem dX6_bestRent_53 : decode cX6_bestRent 53 = .ok (.if_icmp .ge 62, 3) := by decide +kernel
theorem dX6_bestRent_56 : decode cX6_bestRent 56 = .ok (.aload_n 0, 1) := by decide +kernel
theorem dX6_bestRent_57 : decode cX6_bestRent 57 = .ok (.getfield 39, 3) := by decide +kernel
theorem dX6_bestRent_60 : decode cX6_bestRent 60 = .ok (.iload 5, 2) := by decide +kernel
theorem dX6_bestRent_62 : decode cX6_bestRent 62 = .ok (.baload, 1) := by decide +kernel
theorem dX6_bestRent_63 : decode cX6_bestRent 63 = .ok (.ifCond .ne 6, 3) := by decide +kernel
theorem dX6_bestRent_66 : decode cX6_bestRent 66 = .ok (.goto 43, 3) := by decide +kernel
theorem dX6_bestRent_69 : decode cX6_bestRent 69 = .ok (.aload_n 0, 1) := by decide +kernel
theorem dX6_bestRent_70 : decode cX6_bestRent 70 = .ok (.getfield 7, 3) := by decide +kernel
theorem dX6_bestRent_73 : decode cX6_bestRent 73 = .ok (.iconst 2, 1) := by decide +kernel
theorem dX6_bestRent_74 : decode cX6_bestRent 74 = .ok (.iload_n 1, 1) := by decide +kernel
theorem dX6_bestRent_75 : decode cX6_bestRent 75 = .ok (.iadd, 1) := by decide +kernel
theorem dX6_bestRent_76 : decode cX6_bestRent 76 = .ok (.iload 5, 2) := by decide +kernel
theorem dX6_bestRent_78 : decode cX6_bestRent 78 = .ok (.iastore, 1) := by decide +kernel
theorem dX6_bestRent_79 : decode cX6_bestRent 79 = .ok (.aload_n 0, 1) := by decide +kernel
theorem dX6_bestRent_80 : decode cX6_bestRent 80 = .ok (.aload_n 0, 1) := by decide +kernel
theorem dX6_bestRent_81 : decode cX6_bestRent 81 = .ok (.getfield 7, 3) := by decide +kernel
theorem dX6_bestRent_84 : decode cX6_bestRent 84 = .ok (.sipush 179, 3) := by decide +kernel
theorem dX6_bestRent_87 : decode cX6_bestRent 87 = .ok (.iaload, 1) := by decide +kernel
theorem dX6_bestRent_88 : decode cX6_bestRent 88 = .ok (.invokevirtual 259, 3) := by decide +kernel
theorem dX6_bestRent_91 : decode cX6_bestRent 91 = .ok (.istore 6, 2) := by decide +kernel
theorem dX6_bestRent_93 : decode cX6_bestRent 93 = .ok (.iload 6, 2) := by decide +kernel
theorem dX6_bestRent_95 : decode cX6_bestRent 95 = .ok (.iload_n 3, 1) := by decide +kernel
theorem dX6_bestRent_96 : decode cX6_bestRent 96 = .ok (.if_icmp .gt 6, 3) := by decide +kernel
theorem dX6_bestRent_99 : decode cX6_bestRent 99 = .ok (.goto 10, 3) := by decide +kernel
theorem dX6_bestRent_102 : decode cX6_bestRent 102 = .ok (.iload 6, 2) := by decide +kernel
theorem dX6_bestRent_104 : decode cX6_bestRent 104 = .ok (.istore_n 3, 1) := by decide +kernel
theorem dX6_bestRent_105 : decode cX6_bestRent 105 = .ok (.iload 5, 2) := by decide +kernel
theorem dX6_bestRent_107 : decode cX6_bestRent 107 = .ok (.istore 4, 2) := by decide +kernel
theorem dX6_bestRent_109 : decode cX6_bestRent 109 = .ok (.iinc 5 1, 3) := by decide +kernel
theorem dX6_bestRent_112 : decode cX6_bestRent 112 = .ok (.goto (-64), 3) := by decide +kernel
theorem dX6_bestRent_115 : decode cX6_bestRent 115 = .ok (.aload_n 0, 1) := by decide +kernel
theorem dX6_bestRent_116 : decode cX6_bestRent 116 = .ok (.getfield 7, 3) := by decide +kernel
theorem dX6_bestRent_119 : decode cX6_bestRent 119 = .ok (.iconst 2, 1) := by decide +kernel
theorem dX6_bestRent_120 : decode cX6_bestRent 120 = .ok (.iload_n 1, 1) := by decide +kernel
theorem dX6_bestRent_121 : decode cX6_bestRent 121 = .ok (.iadd, 1) := by decide +kernel
theorem dX6_bestRent_122 : decode cX6_bestRent 122 = .ok (.iload_n 2, 1) := by decide +kernel
theorem dX6_bestRent_123 : decode cX6_bestRent 123 = .ok (.iastore, 1) := by decide +kernel
theorem dX6_bestRent_124 : decode cX6_bestRent 124 = .ok (.iload 4, 2) := by decide +kernel
theorem dX6_bestRent_126 : decode cX6_bestRent 126 = .ok (.ireturn, 1) := by decide +kernel
theorem dX6_takesStart_0 : decode cX6_takesStart 0 = .ok (.iconst (-1), 1) := by decide +kernel
theorem dX6_takesStart_1 : decode cX6_takesStart 1 = .ok (.istore_n 2, 1) := by decide +kernel
theorem dX6_takesStart_2 : decode cX6_takesStart 2 = .ok (.iconst 0, 1) := by decide +kernel
theorem dX6_takesStart_3 : decode cX6_takesStart 3 = .ok (.istore_n 3, 1) := by decide +kernel
theorem dX6_takesStart_4 : decode cX6_takesStart 4 = .ok (.iload_n 3, 1) := by decide +kernel
theorem dX6_takesStart_5 : decode cX6_takesStart 5 = .ok (.aload_n 0, 1) := by decide +kernel
theorem dX6_takesStart_6 : decode cX6_takesStart 6 = .ok (.getfield 7, 3) := by decide +kernel
theorem dX6_takesStart_9 : decode cX6_takesStart 9 = .ok (.iconst 1, 1) := by decide +kernel
theorem dX6_takesStart_10 : decode cX6_takesStart 10 = .ok (.iaload, 1) := by decide +kernel
theorem dX6_takesStart_11 : decode cX6_takesStart 11 = .ok (.if_icmp .ge 40, 3) := by decide +kernel
theorem dX6_takesStart_14 : decode cX6_takesStart 14 = .ok (.aload_n 0, 1) := by decide +kernel
theorem dX6_takesStart_15 : decode cX6_takesStart 15 = .ok (.iload_n 1, 1) := by decide +kernel
theorem dX6_takesStart_16 : decode cX6_takesStart 16 = .ok (.iload_n 3, 1) := by decide +kernel
theorem dX6_takesStart_17 : decode cX6_takesStart 17 = .ok (.invokevirtual 228, 3) := by decide +kernel
theorem dX6_takesStart_20 : decode cX6_takesStart 20 = .ok (.ifCond .ne 25, 3) := by decide +kernel
theorem dX6_takesStart_23 : decode cX6_takesStart 23 = .ok (.iload_n 2, 1) := by decide +kernel
theorem dX6_takesStart_24 : decode cX6_takesStart 24 = .ok (.iconst (-1), 1) := by decide +kernel
theorem dX6_takesStart_25 : decode cX6_takesStart 25 = .ok (.if_icmp .eq 18, 3) := by decide +kernel
theorem dX6_takesStart_28 : decode cX6_takesStart 28 = .ok (.aload_n 0, 1) := by decide +kernel
theorem dX6_takesStart_29 : decode cX6_takesStart 29 = .ok (.iload_n 1, 1) := by decide +kernel
theorem dX6_takesStart_30 : decode cX6_takesStart 30 = .ok (.iload_n 3, 1) := by decide +kernel
theorem dX6_takesStart_31 : decode cX6_takesStart 31 = .ok (.invokevirtual 197, 3) := by decide +kernel
theorem dX6_takesStart_34 : decode cX6_takesStart 34 = .ok (.aload_n 0, 1) := by decide +kernel
theorem dX6_takesStart_35 : decode cX6_takesStart 35 = .ok (.iload_n 1, 1) := by decide +kernel
theorem dX6_takesStart_36 : decode cX6_takesStart 36 = .ok (.iload_n 2, 1) := by decide +kernel
theorem dX6_takesStart_37 : decode cX6_takesStart 37 = .ok (.invokevirtual 197, 3) := by decide +kernel
theorem dX6_takesStart_40 : decode cX6_takesStart 40 = .ok (.if_icmp .le 5, 3) := by decide +kernel
theorem dX6_takesStart_43 : decode cX6_takesStart 43 = .ok (.iload_n 3, 1) := by decide +kernel
theorem dX6_takesStart_44 : decode cX6_takesStart 44 = .ok (.istore_n 2, 1) := by decide +kernel
theorem dX6_takesStart_45 : decode cX6_takesStart 45 = .ok (.iinc 3 1, 3) := by decide +kernel
theorem dX6_takesStart_48 : decode cX6_takesStart 48 = .ok (.goto (-44), 3) := by decide +kernel
theorem dX6_takesStart_51 : decode cX6_takesStart 51 = .ok (.iload_n 2, 1) := by decide +kernel
theorem dX6_takesStart_52 : decode cX6_takesStart 52 = .ok (.ireturn, 1) := by decide +kernel
theorem dX6_isOrder_0 : decode cX6_isOrder 0 = .ok (.iconst 0, 1) := by decide +kernel
theorem dX6_isOrder_1 : decode cX6_isOrder 1 = .ok (.istore_n 3, 1) := by decide +kernel
theorem dX6_isOrder_2 : decode cX6_isOrder 2 = .ok (.lload_n 1, 1) := by decide +kernel
theorem dX6_isOrder_3 : decode cX6_isOrder 3 = .ok (.lstore 4, 2) := by decide +kernel
theorem dX6_isOrder_5 : decode cX6_isOrder 5 = .ok (.lload 4, 2) := by decide +kernel
theorem dX6_isOrder_7 : decode cX6_isOrder 7 = .ok (.lconst 0, 1) := by decide +kernel
theorem dX6_isOrder_8 : decode cX6_isOrder 8 = .ok (.lcmp, 1) := by decide +kernel
theorem dX6_isOrder_9 : decode cX6_isOrder 9 = .ok (.ifCond .le 53, 3) := by decide +kernel
theorem dX6_isOrder_12 : decode cX6_isOrder 12 = .ok (.lload 4, 2) := by decide +kernel
theorem dX6_isOrder_14 : decode cX6_isOrder 14 = .ok (.ldc2_w 123, 3) := by decide +kernel
theorem dX6_isOrder_17 : decode cX6_isOrder 17 = .ok (.lrem, 1) := by decide +kernel
theorem dX6_isOrder_18 : decode cX6_isOrder 18 = .ok (.l2i, 1) := by decide +kernel
theorem dX6_isOrder_19 : decode cX6_isOrder 19 = .ok (.iconst 1, 1) := by decide +kernel
theorem dX6_isOrder_20 : decode cX6_isOrder 20 = .ok (.isub, 1) := by decide +kernel
theorem dX6_isOrder_21 : decode cX6_isOrder 21 = .ok (.istore 6, 2) := by decide +kernel
theorem dX6_isOrder_23 : decode cX6_isOrder 23 = .ok (.aload_n 0, 1) := by decide +kernel
theorem dX6_isOrder_24 : decode cX6_isOrder 24 = .ok (.iload 6, 2) := by decide +kernel
theorem dX6_isOrder_26 : decode cX6_isOrder 26 = .ok (.invokevirtual 178, 3) := by decide +kernel
theorem dX6_isOrder_29 : decode cX6_isOrder 29 = .ok (.ifCond .eq 13, 3) := by decide +kernel
theorem dX6_isOrder_32 : decode cX6_isOrder 32 = .ok (.iload_n 3, 1) := by decide +kernel
theorem dX6_isOrder_33 : decode cX6_isOrder 33 = .ok (.iload 6, 2) := by decide +kernel
theorem dX6_isOrder_35 : decode cX6_isOrder 35 = .ok (.ishr, 1) := by decide +kernel
theorem dX6_isOrder_36 : decode cX6_isOrder 36 = .ok (.iconst 1, 1) := by decide +kernel
theorem dX6_isOrder_37 : decode cX6_isOrder 37 = .ok (.iand, 1) := by decide +kernel
theorem dX6_isOrder_38 : decode cX6_isOrder 38 = .ok (.iconst 1, 1) := by decide +kernel
theorem dX6_isOrder_39 : decode cX6_isOrder 39 = .ok (.if_icmp .ne 5, 3) := by decide +kernel
theorem dX6_isOrder_42 : decode cX6_isOrder 42 = .ok (.iconst 0, 1) := by decide +kernel
theorem dX6_isOrder_43 : decode cX6_isOrder 43 = .ok (.ireturn, 1) := by decide +kernel
theorem dX6_isOrder_44 : decode cX6_isOrder 44 = .ok (.iload_n 3, 1) := by decide +kernel
theorem dX6_isOrder_45 : decode cX6_isOrder 45 = .ok (.iconst 1, 1) := by decide +kernel
theorem dX6_isOrder_46 : decode cX6_isOrder 46 = .ok (.iload 6, 2) := by decide +kernel
theorem dX6_isOrder_48 : decode cX6_isOrder 48 = .ok (.ishl, 1) := by decide +kernel
theorem dX6_isOrder_49 : decode cX6_isOrder 49 = .ok (.ior, 1) := by decide +kernel
theorem dX6_isOrder_50 : decode cX6_isOrder 50 = .ok (.istore_n 3, 1) := by decide +kernel
theorem dX6_isOrder_51 : decode cX6_isOrder 51 = .ok (.lload 4, 2) := by decide +kernel
theorem dX6_isOrder_53 : decode cX6_isOrder 53 = .ok (.ldc2_w 123, 3) := by decide +kernel
theorem dX6_isOrder_56 : decode cX6_isOrder 56 = .ok (.ldiv, 1) := by decide +kernel
theorem dX6_isOrder_57 : decode cX6_isOrder 57 = .ok (.lstore 4, 2) := by decide +kernel
theorem dX6_isOrder_59 : decode cX6_isOrder 59 = .ok (.goto (-54), 3) := by decide +kernel
theorem dX6_isOrder_62 : decode cX6_isOrder 62 = .ok (.lload_n 1, 1) := by decide +kernel
theorem dX6_isOrder_63 : decode cX6_isOrder 63 = .ok (.lconst 0, 1) := by decide +kernel
theorem dX6_isOrder_64 : decode cX6_isOrder 64 = .ok (.lcmp, 1) := by decide +kernel
theorem dX6_isOrder_65 : decode cX6_isOrder 65 = .ok (.ifCond .lt 7, 3) := by decide +kernel
theorem dX6_isOrder_68 : decode cX6_isOrder 68 = .ok (.iconst 1, 1) := by decide +kernel
theorem dX6_isOrder_69 : decode cX6_isOrder 69 = .ok (.goto 4, 3) := by decide +kernel
theorem dX6_isOrder_72 : decode cX6_isOrder 72 = .ok (.iconst 0, 1) := by decide +kernel
theorem dX6_isOrder_73 : decode cX6_isOrder 73 = .ok (.ireturn, 1) := by decide +kernel
theorem dX6_firstCome_0 : decode cX6_firstCome 0 = .ok (.aload_n 0, 1) := by decide +kernel
theorem dX6_firstCome_1 : decode cX6_firstCome 1 = .ok (.aload_n 0, 1) := by decide +kernel
theorem dX6_firstCome_2 : decode cX6_firstCome 2 = .ok (.lload_n 1, 1) := by decide +kernel
theorem dX6_firstCome_3 : decode cX6_firstCome 3 = .ok (.invokevirtual 265, 3) := by decide +kernel
theorem dX6_firstCome_6 : decode cX6_firstCome 6 = .ok (.ifCond .eq 7, 3) := by decide +kernel
theorem dX6_firstCome_9 : decode cX6_firstCome 9 = .ok (.iconst 0, 1) := by decide +kernel
theorem dX6_firstCome_10 : decode cX6_firstCome 10 = .ok (.goto 4, 3) := by decide +kernel
theorem dX6_firstCome_13 : decode cX6_firstCome 13 = .ok (.iconst 1, 1) := by decide +kernel
theorem dX6_firstCome_14 : decode cX6_firstCome 14 = .ok (.putfield 58, 3) := by decide +kernel
theorem dX6_firstCome_17 : decode cX6_firstCome 17 = .ok (.aload_n 0, 1) := by decide +kernel
theorem dX6_firstCome_18 : decode cX6_firstCome 18 = .ok (.getfield 58, 3) := by decide +kernel
theorem dX6_firstCome_21 : decode cX6_firstCome 21 = .ok (.ifCond .le 5, 3) := by decide +kernel
theorem dX6_firstCome_24 : decode cX6_firstCome 24 = .ok (.iconst 0, 1) := by decide +kernel
theorem dX6_firstCome_25 : decode cX6_firstCome 25 = .ok (.ireturn, 1) := by decide +kernel
theorem dX6_firstCome_26 : decode cX6_firstCome 26 = .ok (.iconst 0, 1) := by decide +kernel
theorem dX6_firstCome_27 : decode cX6_firstCome 27 = .ok (.istore_n 3, 1) := by decide +kernel
theorem dX6_firstCome_28 : decode cX6_firstCome 28 = .ok (.iload_n 3, 1) := by decide +kernel
theorem dX6_firstCome_29 : decode cX6_firstCome 29 = .ok (.bipush 8, 2) := by decide +kernel
theorem dX6_firstCome_31 : decode cX6_firstCome 31 = .ok (.if_icmp .ge 34, 3) := by decide +kernel
theorem dX6_firstCome_34 : decode cX6_firstCome 34 = .ok (.aload_n 0, 1) := by decide +kernel
theorem dX6_firstCome_35 : decode cX6_firstCome 35 = .ok (.getfield 49, 3) := by decide +kernel
theorem dX6_firstCome_38 : decode cX6_firstCome 38 = .ok (.iload_n 3, 1) := by decide +kernel
theorem dX6_firstCome_39 : decode cX6_firstCome 39 = .ok (.aload_n 0, 1) := by decide +kernel
theorem dX6_firstCome_40 : decode cX6_firstCome 40 = .ok (.getfield 7, 3) := by decide +kernel
theorem dX6_firstCome_43 : decode cX6_firstCome 43 = .ok (.bipush 107, 2) := by decide +kernel
theorem dX6_firstCome_45 : decode cX6_firstCome 45 = .ok (.iload_n 3, 1) := by decide +kernel
theorem dX6_firstCome_46 : decode cX6_firstCome 46 = .ok (.iadd, 1) := by decide +kernel
theorem dX6_firstCome_47 : decode cX6_firstCome 47 = .ok (.iaload, 1) := by decide +kernel
theorem dX6_firstCome_48 : decode cX6_firstCome 48 = .ok (.iastore, 1) := by decide +kernel
theorem dX6_firstCome_49 : decode cX6_firstCome 49 = .ok (.aload_n 0, 1) := by decide +kernel
theorem dX6_firstCome_50 : decode cX6_firstCome 50 = .ok (.getfield 7, 3) := by decide +kernel
theorem dX6_firstCome_53 : decode cX6_firstCome 53 = .ok (.bipush 107, 2) := by decide +kernel
theorem dX6_firstCome_55 : decode cX6_firstCome 55 = .ok (.iload_n 3, 1) := by decide +kernel
theorem dX6_firstCome_56 : decode cX6_firstCome 56 = .ok (.iadd, 1) := by decide +kernel
theorem dX6_firstCome_57 : decode cX6_firstCome 57 = .ok (.iconst (-1), 1) := by decide +kernel
theorem dX6_firstCome_58 : decode cX6_firstCome 58 = .ok (.iastore, 1) := by decide +kernel
theorem dX6_firstCome_59 : decode cX6_firstCome 59 = .ok (.iinc 3 1, 3) := by decide +kernel
theorem dX6_firstCome_62 : decode cX6_firstCome 62 = .ok (.goto (-34), 3) := by decide +kernel
theorem dX6_firstCome_65 : decode cX6_firstCome 65 = .ok (.lconst 1, 1) := by decide +kernel
theorem dX6_firstCome_66 : decode cX6_firstCome 66 = .ok (.lstore_n 3, 1) := by decide +kernel
theorem dX6_firstCome_67 : decode cX6_firstCome 67 = .ok (.lload_n 3, 1) := by decide +kernel
theorem dX6_firstCome_68 : decode cX6_firstCome 68 = .ok (.lload_n 1, 1) := by decide +kernel
theorem dX6_firstCome_69 : decode cX6_firstCome 69 = .ok (.ldc2_w 123, 3) := by decide +kernel
theorem dX6_firstCome_72 : decode cX6_firstCome 72 = .ok (.ldiv, 1) := by decide +kernel
theorem dX6_firstCome_73 : decode cX6_firstCome 73 = .ok (.lcmp, 1) := by decide +kernel
theorem dX6_firstCome_74 : decode cX6_firstCome 74 = .ok (.ifCond .gt 12, 3) := by decide +kernel
theorem dX6_firstCome_77 : decode cX6_firstCome 77 = .ok (.ldc2_w 123, 3) := by decide +kernel
theorem dX6_firstCome_80 : decode cX6_firstCome 80 = .ok (.lload_n 3, 1) := by decide +kernel
theorem dX6_firstCome_81 : decode cX6_firstCome 81 = .ok (.lmul, 1) := by decide +kernel
theorem dX6_firstCome_82 : decode cX6_firstCome 82 = .ok (.lstore_n 3, 1) := by decide +kernel
theorem dX6_firstCome_83 : decode cX6_firstCome 83 = .ok (.goto (-16), 3) := by decide +kernel
theorem dX6_firstCome_86 : decode cX6_firstCome 86 = .ok (.lload_n 3, 1) := by decide +kernel
theorem dX6_firstCome_87 : decode cX6_firstCome 87 = .ok (.lstore 5, 2) := by decide +kernel
theorem dX6_firstCome_89 : decode cX6_firstCome 89 = .ok (.lload 5, 2) := by decide +kernel
theorem dX6_firstCome_91 : decode cX6_firstCome 91 = .ok (.lconst 0, 1) := by decide +kernel
theorem dX6_firstCome_92 : decode cX6_firstCome 92 = .ok (.lcmp, 1) := by decide +kernel
theorem dX6_firstCome_93 : decode cX6_firstCome 93 = .ok (.ifCond .le 49, 3) := by decide +kernel
theorem dX6_firstCome_96 : decode cX6_firstCome 96 = .ok (.lload_n 1, 1) := by decide +kernel
theorem dX6_firstCome_97 : decode cX6_firstCome 97 = .ok (.lconst 0, 1) := by decide +kernel
theorem dX6_firstCome_98 : decode cX6_firstCome 98 = .ok (.lcmp, 1) := by decide +kernel
theorem dX6_firstCome_99 : decode cX6_firstCome 99 = .ok (.ifCond .le 43, 3) := by decide +kernel
theorem dX6_firstCome_102 : decode cX6_firstCome 102 = .ok (.lload_n 1, 1) := by decide +kernel
theorem dX6_firstCome_103 : decode cX6_firstCome 103 = .ok (.lload 5, 2) := by decide +kernel
theorem dX6_firstCome_105 : decode cX6_firstCome 105 = .ok (.ldiv, 1) := by decide +kernel
theorem dX6_firstCome_106 : decode cX6_firstCome 106 = .ok (.ldc2_w 123, 3) := by decide +kernel
theorem dX6_firstCome_109 : decode cX6_firstCome 109 = .ok (.lrem, 1) := by decide +kernel
theorem dX6_firstCome_110 : decode cX6_firstCome 110 = .ok (.l2i, 1) := by decide +kernel
theorem dX6_firstCome_111 : decode cX6_firstCome 111 = .ok (.iconst 1, 1) := by decide +kernel
theorem dX6_firstCome_112 : decode cX6_firstCome 112 = .ok (.isub, 1) := by decide +kernel
theorem dX6_firstCome_113 : decode cX6_firstCome 113 = .ok (.istore 7, 2) := by decide +kernel
theorem dX6_firstCome_115 : decode cX6_firstCome 115 = .ok (.aload_n 0, 1) := by decide +kernel
theorem dX6_firstCome_116 : decode cX6_firstCome 116 = .ok (.getfield 7, 3) := by decide +kernel
theorem dX6_firstCome_119 : decode cX6_firstCome 119 = .ok (.bipush 107, 2) := by decide +kernel
theorem dX6_firstCome_121 : decode cX6_firstCome 121 = .ok (.iload 7, 2) := by decide +kernel
theorem dX6_firstCome_123 : decode cX6_firstCome 123 = .ok (.iadd, 1) := by decide +kernel
theorem dX6_firstCome_124 : decode cX6_firstCome 124 = .ok (.aload_n 0, 1) := by decide +kernel
theorem dX6_firstCome_125 : decode cX6_firstCome 125 = .ok (.iload 7, 2) := by decide +kernel
theorem dX6_firstCome_127 : decode cX6_firstCome 127 = .ok (.invokevirtual 269, 3) := by decide +kernel
theorem dX6_firstCome_130 : decode cX6_firstCome 130 = .ok (.iastore, 1) := by decide +kernel
theorem dX6_firstCome_131 : decode cX6_firstCome 131 = .ok (.lload 5, 2) := by decide +kernel
theorem dX6_firstCome_133 : decode cX6_firstCome 133 = .ok (.ldc2_w 123, 3) := by decide +kernel
theorem dX6_firstCome_136 : decode cX6_firstCome 136 = .ok (.ldiv, 1) := by decide +kernel
theorem dX6_firstCome_137 : decode cX6_firstCome 137 = .ok (.lstore 5, 2) := by decide +kernel
theorem dX6_firstCome_139 : decode cX6_firstCome 139 = .ok (.goto (-50), 3) := by decide +kernel
theorem dX6_firstCome_142 : decode cX6_firstCome 142 = .ok (.aload_n 0, 1) := by decide +kernel
theorem dX6_firstCome_143 : decode cX6_firstCome 143 = .ok (.invokevirtual 234, 3) := by decide +kernel
theorem dX6_firstCome_146 : decode cX6_firstCome 146 = .ok (.istore 5, 2) := by decide +kernel
theorem dX6_firstCome_148 : decode cX6_firstCome 148 = .ok (.iconst 0, 1) := by decide +kernel
theorem dX6_firstCome_149 : decode cX6_firstCome 149 = .ok (.istore 6, 2) := by decide +kernel
theorem dX6_firstCome_151 : decode cX6_firstCome 151 = .ok (.iload 6, 2) := by decide +kernel
theorem dX6_firstCome_153 : decode cX6_firstCome 153 = .ok (.bipush 8, 2) := by decide +kernel
theorem dX6_firstCome_155 : decode cX6_firstCome 155 = .ok (.if_icmp .ge 26, 3) := by decide +kernel
theorem dX6_firstCome_158 : decode cX6_firstCome 158 = .ok (.aload_n 0, 1) := by decide +kernel
theorem dX6_firstCome_159 : decode cX6_firstCome 159 = .ok (.getfield 7, 3) := by decide +kernel
theorem dX6_firstCome_162 : decode cX6_firstCome 162 = .ok (.bipush 107, 2) := by decide +kernel
theorem dX6_firstCome_164 : decode cX6_firstCome 164 = .ok (.iload 6, 2) := by decide +kernel
theorem dX6_firstCome_166 : decode cX6_firstCome 166 = .ok (.iadd, 1) := by decide +kernel
theorem dX6_firstCome_167 : decode cX6_firstCome 167 = .ok (.aload_n 0, 1) := by decide +kernel
theorem dX6_firstCome_168 : decode cX6_firstCome 168 = .ok (.getfield 49, 3) := by decide +kernel
theorem dX6_firstCome_171 : decode cX6_firstCome 171 = .ok (.iload 6, 2) := by decide +kernel
theorem dX6_firstCome_173 : decode cX6_firstCome 173 = .ok (.iaload, 1) := by decide +kernel
theorem dX6_firstCome_174 : decode cX6_firstCome 174 = .ok (.iastore, 1) := by decide +kernel
theorem dX6_firstCome_175 : decode cX6_firstCome 175 = .ok (.iinc 6 1, 3) := by decide +kernel
theorem dX6_firstCome_178 : decode cX6_firstCome 178 = .ok (.goto (-27), 3) := by decide +kernel
theorem dX6_firstCome_181 : decode cX6_firstCome 181 = .ok (.iload 5, 2) := by decide +kernel
theorem dX6_firstCome_183 : decode cX6_firstCome 183 = .ok (.ireturn, 1) := by decide +kernel
theorem dX6_lays_0 : decode cX6_lays 0 = .ok (.iconst 0, 1) := by decide +kernel
theorem dX6_lays_1 : decode cX6_lays 1 = .ok (.istore 4, 2) := by decide +kernel
theorem dX6_lays_3 : decode cX6_lays 3 = .ok (.iload 4, 2) := by decide +kernel
theorem dX6_lays_5 : decode cX6_lays 5 = .ok (.aload_n 0, 1) := by decide +kernel
theorem dX6_lays_6 : decode cX6_lays 6 = .ok (.getfield 7, 3) := by decide +kernel
theorem dX6_lays_9 : decode cX6_lays 9 = .ok (.bipush 83, 2) := by decide +kernel
theorem dX6_lays_11 : decode cX6_lays 11 = .ok (.iload_n 1, 1) := by decide +kernel
theorem dX6_lays_12 : decode cX6_lays 12 = .ok (.iadd, 1) := by decide +kernel
theorem dX6_lays_13 : decode cX6_lays 13 = .ok (.iaload, 1) := by decide +kernel
theorem dX6_lays_14 : decode cX6_lays 14 = .ok (.if_icmp .ge 19, 3) := by decide +kernel
theorem dX6_lays_17 : decode cX6_lays 17 = .ok (.aload_n 0, 1) := by decide +kernel
theorem dX6_lays_18 : decode cX6_lays 18 = .ok (.getfield 46, 3) := by decide +kernel
theorem dX6_lays_21 : decode cX6_lays 21 = .ok (.iload_n 2, 1) := by decide +kernel
theorem dX6_lays_22 : decode cX6_lays 22 = .ok (.iload 4, 2) := by decide +kernel
theorem dX6_lays_24 : decode cX6_lays 24 = .ok (.iadd, 1) := by decide +kernel
theorem dX6_lays_25 : decode cX6_lays 25 = .ok (.iload_n 3, 1) := by decide +kernel
theorem dX6_lays_26 : decode cX6_lays 26 = .ok (.iastore, 1) := by decide +kernel
theorem dX6_lays_27 : decode cX6_lays 27 = .ok (.iinc 4 1, 3) := by decide +kernel
theorem dX6_lays_30 : decode cX6_lays 30 = .ok (.goto (-27), 3) := by decide +kernel
theorem dX6_lays_33 : decode cX6_lays 33 = .ok (.return_, 1) := by decide +kernel
theorem dX6_isClear_0 : decode cX6_isClear 0 = .ok (.iconst 0, 1) := by decide +kernel
theorem dX6_isClear_1 : decode cX6_isClear 1 = .ok (.istore_n 3, 1) := by decide +kernel
theorem dX6_isClear_2 : decode cX6_isClear 2 = .ok (.iload_n 3, 1) := by decide +kernel
theorem dX6_isClear_3 : decode cX6_isClear 3 = .ok (.aload_n 0, 1) := by decide +kernel
theorem dX6_isClear_4 : decode cX6_isClear 4 = .ok (.getfield 7, 3) := by decide +kernel
theorem dX6_isClear_7 : decode cX6_isClear 7 = .ok (.bipush 83, 2) := by decide +kernel
theorem dX6_isClear_9 : decode cX6_isClear 9 = .ok (.iload_n 1, 1) := by decide +kernel
theorem dX6_isClear_10 : decode cX6_isClear 10 = .ok (.iadd, 1) := by decide +kernel
theorem dX6_isClear_11 : decode cX6_isClear 11 = .ok (.iaload, 1) := by decide +kernel
theorem dX6_isClear_12 : decode cX6_isClear 12 = .ok (.if_icmp .ge 23, 3) := by decide +kernel
theorem dX6_isClear_15 : decode cX6_isClear 15 = .ok (.aload_n 0, 1) := by decide +kernel
theorem dX6_isClear_16 : decode cX6_isClear 16 = .ok (.getfield 46, 3) := by decide +kernel
theorem dX6_isClear_19 : decode cX6_isClear 19 = .ok (.iload_n 2, 1) := by decide +kernel
theorem dX6_isClear_20 : decode cX6_isClear 20 = .ok (.iload_n 3, 1) := by decide +kernel
theorem dX6_isClear_21 : decode cX6_isClear 21 = .ok (.iadd, 1) := by decide +kernel
theorem dX6_isClear_22 : decode cX6_isClear 22 = .ok (.iaload, 1) := by decide +kernel
theorem dX6_isClear_23 : decode cX6_isClear 23 = .ok (.iconst (-1), 1) := by decide +kernel
theorem dX6_isClear_24 : decode cX6_isClear 24 = .ok (.if_icmp .eq 5, 3) := by decide +kernel
theorem dX6_isClear_27 : decode cX6_isClear 27 = .ok (.iconst 0, 1) := by decide +kernel
theorem dX6_isClear_28 : decode cX6_isClear 28 = .ok (.ireturn, 1) := by decide +kernel
theorem dX6_isClear_29 : decode cX6_isClear 29 = .ok (.iinc 3 1, 3) := by decide +kernel
theorem dX6_isClear_32 : decode cX6_isClear 32 = .ok (.goto (-30), 3) := by decide +kernel
theorem dX6_isClear_35 : decode cX6_isClear 35 = .ok (.iconst 1, 1) := by decide +kernel
theorem dX6_isClear_36 : decode cX6_isClear 36 = .ok (.ireturn, 1) := by decide +kernel
theorem dX6_isSound_0 : decode cX6_isSound 0 = .ok (.iconst 0, 1) := by decide +kernel
theorem dX6_isSound_1 : decode cX6_isSound 1 = .ok (.istore_n 1, 1) := by decide +kernel
theorem dX6_isSound_2 : decode cX6_isSound 2 = .ok (.iconst 0, 1) := by decide +kernel
theorem dX6_isSound_3 : decode cX6_isSound 3 = .ok (.istore_n 2, 1) := by decide +kernel
theorem dX6_isSound_4 : decode cX6_isSound 4 = .ok (.iload_n 2, 1) := by decide +kernel
theorem dX6_isSound_5 : decode cX6_isSound 5 = .ok (.aload_n 0, 1) := by decide +kernel
theorem dX6_isSound_6 : decode cX6_isSound 6 = .ok (.getfield 7, 3) := by decide +kernel
theorem dX6_isSound_9 : decode cX6_isSound 9 = .ok (.bipush 74, 2) := by decide +kernel
theorem dX6_isSound_11 : decode cX6_isSound 11 = .ok (.iaload, 1) := by decide +kernel
theorem dX6_isSound_12 : decode cX6_isSound 12 = .ok (.if_icmp .ge 37, 3) := by decide +kernel
theorem dX6_isSound_15 : decode cX6_isSound 15 = .ok (.iload_n 1, 1) := by decide +kernel
theorem dX6_isSound_16 : decode cX6_isSound 16 = .ok (.aload_n 0, 1) := by decide +kernel
theorem dX6_isSound_17 : decode cX6_isSound 17 = .ok (.getfield 43, 3) := by decide +kernel
theorem dX6_isSound_20 : decode cX6_isSound 20 = .ok (.iload_n 2, 1) := by decide +kernel
theorem dX6_isSound_21 : decode cX6_isSound 21 = .ok (.iaload, 1) := by decide +kernel
theorem dX6_isSound_22 : decode cX6_isSound 22 = .ok (.iconst (-1), 1) := by decide +kernel
theorem dX6_isSound_23 : decode cX6_isSound 23 = .ok (.if_icmp .ne 7, 3) := by decide +kernel
theorem dX6_isSound_26 : decode cX6_isSound 26 = .ok (.iconst 0, 1) := by decide +kernel
theorem dX6_isSound_27 : decode cX6_isSound 27 = .ok (.goto 14, 3) := by decide +kernel
theorem dX6_isSound_30 : decode cX6_isSound 30 = .ok (.aload_n 0, 1) := by decide +kernel
theorem dX6_isSound_31 : decode cX6_isSound 31 = .ok (.iload_n 2, 1) := by decide +kernel
theorem dX6_isSound_32 : decode cX6_isSound 32 = .ok (.aload_n 0, 1) := by decide +kernel
theorem dX6_isSound_33 : decode cX6_isSound 33 = .ok (.getfield 43, 3) := by decide +kernel
theorem dX6_isSound_36 : decode cX6_isSound 36 = .ok (.iload_n 2, 1) := by decide +kernel
theorem dX6_isSound_37 : decode cX6_isSound 37 = .ok (.iaload, 1) := by decide +kernel
theorem dX6_isSound_38 : decode cX6_isSound 38 = .ok (.invokevirtual 194, 3) := by decide +kernel
theorem dX6_isSound_41 : decode cX6_isSound 41 = .ok (.iadd, 1) := by decide +kernel
theorem dX6_isSound_42 : decode cX6_isSound 42 = .ok (.istore_n 1, 1) := by decide +kernel
theorem dX6_isSound_43 : decode cX6_isSound 43 = .ok (.iinc 2 1, 3) := by decide +kernel
theorem dX6_isSound_46 : decode cX6_isSound 46 = .ok (.goto (-42), 3) := by decide +kernel
theorem dX6_isSound_49 : decode cX6_isSound 49 = .ok (.iload_n 1, 1) := by decide +kernel
theorem dX6_isSound_50 : decode cX6_isSound 50 = .ok (.aload_n 0, 1) := by decide +kernel
theorem dX6_isSound_51 : decode cX6_isSound 51 = .ok (.getfield 7, 3) := by decide +kernel
theorem dX6_isSound_54 : decode cX6_isSound 54 = .ok (.sipush 179, 3) := by decide +kernel
theorem dX6_isSound_57 : decode cX6_isSound 57 = .ok (.iaload, 1) := by decide +kernel
theorem dX6_isSound_58 : decode cX6_isSound 58 = .ok (.if_icmp .le 5, 3) := by decide +kernel
theorem dX6_isSound_61 : decode cX6_isSound 61 = .ok (.iconst 0, 1) := by decide +kernel
theorem dX6_isSound_62 : decode cX6_isSound 62 = .ok (.ireturn, 1) := by decide +kernel
theorem dX6_isSound_63 : decode cX6_isSound 63 = .ok (.iconst 0, 1) := by decide +kernel
theorem dX6_isSound_64 : decode cX6_isSound 64 = .ok (.istore_n 2, 1) := by decide +kernel
theorem dX6_isSound_65 : decode cX6_isSound 65 = .ok (.iload_n 2, 1) := by decide +kernel
theorem dX6_isSound_66 : decode cX6_isSound 66 = .ok (.iconst 1, 1) := by decide +kernel
theorem dX6_isSound_67 : decode cX6_isSound 67 = .ok (.iadd, 1) := by decide +kernel
theorem dX6_isSound_68 : decode cX6_isSound 68 = .ok (.aload_n 0, 1) := by decide +kernel
theorem dX6_isSound_69 : decode cX6_isSound 69 = .ok (.getfield 7, 3) := by decide +kernel
theorem dX6_isSound_72 : decode cX6_isSound 72 = .ok (.iconst 1, 1) := by decide +kernel
theorem dX6_isSound_73 : decode cX6_isSound 73 = .ok (.iaload, 1) := by decide +kernel
theorem dX6_isSound_74 : decode cX6_isSound 74 = .ok (.if_icmp .ge 78, 3) := by decide +kernel
theorem dX6_isSound_77 : decode cX6_isSound 77 = .ok (.aload_n 0, 1) := by decide +kernel
theorem dX6_isSound_78 : decode cX6_isSound 78 = .ok (.getfield 46, 3) := by decide +kernel
theorem dX6_isSound_81 : decode cX6_isSound 81 = .ok (.iload_n 2, 1) := by decide +kernel
theorem dX6_isSound_82 : decode cX6_isSound 82 = .ok (.iaload, 1) := by decide +kernel
theorem dX6_isSound_83 : decode cX6_isSound 83 = .ok (.istore_n 3, 1) := by decide +kernel
theorem dX6_isSound_84 : decode cX6_isSound 84 = .ok (.aload_n 0, 1) := by decide +kernel
theorem dX6_isSound_85 : decode cX6_isSound 85 = .ok (.getfield 46, 3) := by decide +kernel
theorem dX6_isSound_88 : decode cX6_isSound 88 = .ok (.iload_n 2, 1) := by decide +kernel
theorem dX6_isSound_89 : decode cX6_isSound 89 = .ok (.iconst 1, 1) := by decide +kernel
theorem dX6_isSound_90 : decode cX6_isSound 90 = .ok (.iadd, 1) := by decide +kernel
theorem dX6_isSound_91 : decode cX6_isSound 91 = .ok (.iaload, 1) := by decide +kernel
theorem dX6_isSound_92 : decode cX6_isSound 92 = .ok (.istore 4, 2) := by decide +kernel
theorem dX6_isSound_94 : decode cX6_isSound 94 = .ok (.aload_n 0, 1) := by decide +kernel
theorem dX6_isSound_95 : decode cX6_isSound 95 = .ok (.getfield 7, 3) := by decide +kernel
theorem dX6_isSound_98 : decode cX6_isSound 98 = .ok (.bipush 50, 2) := by decide +kernel
theorem dX6_isSound_100 : decode cX6_isSound 100 = .ok (.iload_n 2, 1) := by decide +kernel
theorem dX6_isSound_101 : decode cX6_isSound 101 = .ok (.iadd, 1) := by decide +kernel
theorem dX6_isSound_102 : decode cX6_isSound 102 = .ok (.iaload, 1) := by decide +kernel
theorem dX6_isSound_103 : decode cX6_isSound 103 = .ok (.aload_n 0, 1) := by decide +kernel
theorem dX6_isSound_104 : decode cX6_isSound 104 = .ok (.getfield 7, 3) := by decide +kernel
theorem dX6_isSound_107 : decode cX6_isSound 107 = .ok (.bipush 50, 2) := by decide +kernel
theorem dX6_isSound_109 : decode cX6_isSound 109 = .ok (.iload_n 2, 1) := by decide +kernel
theorem dX6_isSound_110 : decode cX6_isSound 110 = .ok (.iadd, 1) := by decide +kernel
theorem dX6_isSound_111 : decode cX6_isSound 111 = .ok (.iconst 1, 1) := by decide +kernel
theorem dX6_isSound_112 : decode cX6_isSound 112 = .ok (.iadd, 1) := by decide +kernel
theorem dX6_isSound_113 : decode cX6_isSound 113 = .ok (.iaload, 1) := by decide +kernel
theorem dX6_isSound_114 : decode cX6_isSound 114 = .ok (.if_icmp .ne 32, 3) := by decide +kernel
theorem dX6_isSound_117 : decode cX6_isSound 117 = .ok (.iload_n 3, 1) := by decide +kernel
theorem dX6_isSound_118 : decode cX6_isSound 118 = .ok (.iconst (-1), 1) := by decide +kernel
theorem dX6_isSound_119 : decode cX6_isSound 119 = .ok (.if_icmp .eq 27, 3) := by decide +kernel
theorem dX6_isSound_122 : decode cX6_isSound 122 = .ok (.iload 4, 2) := by decide +kernel
theorem dX6_isSound_124 : decode cX6_isSound 124 = .ok (.iconst (-1), 1) := by decide +kernel
theorem dX6_isSound_125 : decode cX6_isSound 125 = .ok (.if_icmp .eq 21, 3) := by decide +kernel
theorem dX6_isSound_128 : decode cX6_isSound 128 = .ok (.iload_n 3, 1) := by decide +kernel
theorem dX6_isSound_129 : decode cX6_isSound 129 = .ok (.iload 4, 2) := by decide +kernel
theorem dX6_isSound_131 : decode cX6_isSound 131 = .ok (.if_icmp .eq 15, 3) := by decide +kernel
theorem dX6_isSound_134 : decode cX6_isSound 134 = .ok (.aload_n 0, 1) := by decide +kernel
theorem dX6_isSound_135 : decode cX6_isSound 135 = .ok (.iload_n 3, 1) := by decide +kernel
theorem dX6_isSound_136 : decode cX6_isSound 136 = .ok (.iload 4, 2) := by decide +kernel
theorem dX6_isSound_138 : decode cX6_isSound 138 = .ok (.invokevirtual 215, 3) := by decide +kernel
theorem dX6_isSound_141 : decode cX6_isSound 141 = .ok (.ifCond .eq 5, 3) := by decide +kernel
theorem dX6_isSound_144 : decode cX6_isSound 144 = .ok (.iconst 0, 1) := by decide +kernel
theorem dX6_isSound_145 : decode cX6_isSound 145 = .ok (.ireturn, 1) := by decide +kernel
theorem dX6_isSound_146 : decode cX6_isSound 146 = .ok (.iinc 2 1, 3) := by decide +kernel
theorem dX6_isSound_149 : decode cX6_isSound 149 = .ok (.goto (-84), 3) := by decide +kernel
theorem dX6_isSound_152 : decode cX6_isSound 152 = .ok (.iconst 1, 1) := by decide +kernel
theorem dX6_isSound_153 : decode cX6_isSound 153 = .ok (.ireturn, 1) := by decide +kernel
theorem dX6_isAhead_0 : decode cX6_isAhead 0 = .ok (.iconst 0, 1) := by decide +kernel
theorem dX6_isAhead_1 : decode cX6_isAhead 1 = .ok (.istore_n 1, 1) := by decide +kernel
theorem dX6_isAhead_2 : decode cX6_isAhead 2 = .ok (.iload_n 1, 1) := by decide +kernel
theorem dX6_isAhead_3 : decode cX6_isAhead 3 = .ok (.aload_n 0, 1) := by decide +kernel
theorem dX6_isAhead_4 : decode cX6_isAhead 4 = .ok (.getfield 7, 3) := by decide +kernel
theorem dX6_isAhead_7 : decode cX6_isAhead 7 = .ok (.iconst 1, 1) := by decide +kernel
theorem dX6_isAhead_8 : decode cX6_isAhead 8 = .ok (.iaload, 1) := by decide +kernel
theorem dX6_isAhead_9 : decode cX6_isAhead 9 = .ok (.if_icmp .ge 69, 3) := by decide +kernel
theorem dX6_isAhead_12 : decode cX6_isAhead 12 = .ok (.aload_n 0, 1) := by decide +kernel
theorem dX6_isAhead_13 : decode cX6_isAhead 13 = .ok (.getfield 46, 3) := by decide +kernel
theorem dX6_isAhead_16 : decode cX6_isAhead 16 = .ok (.iload_n 1, 1) := by decide +kernel
theorem dX6_isAhead_17 : decode cX6_isAhead 17 = .ok (.iaload, 1) := by decide +kernel
theorem dX6_isAhead_18 : decode cX6_isAhead 18 = .ok (.iconst (-1), 1) := by decide +kernel
theorem dX6_isAhead_19 : decode cX6_isAhead 19 = .ok (.if_icmp .ne 8, 3) := by decide +kernel
theorem dX6_isAhead_22 : decode cX6_isAhead 22 = .ok (.bipush 8, 2) := by decide +kernel
theorem dX6_isAhead_24 : decode cX6_isAhead 24 = .ok (.goto 9, 3) := by decide +kernel
theorem dX6_isAhead_27 : decode cX6_isAhead 27 = .ok (.aload_n 0, 1) := by decide +kernel
theorem dX6_isAhead_28 : decode cX6_isAhead 28 = .ok (.getfield 46, 3) := by decide +kernel
theorem dX6_isAhead_31 : decode cX6_isAhead 31 = .ok (.iload_n 1, 1) := by decide +kernel
theorem dX6_isAhead_32 : decode cX6_isAhead 32 = .ok (.iaload, 1) := by decide +kernel
theorem dX6_isAhead_33 : decode cX6_isAhead 33 = .ok (.istore_n 2, 1) := by decide +kernel
theorem dX6_isAhead_34 : decode cX6_isAhead 34 = .ok (.aload_n 0, 1) := by decide +kernel
theorem dX6_isAhead_35 : decode cX6_isAhead 35 = .ok (.getfield 52, 3) := by decide +kernel
theorem dX6_isAhead_38 : decode cX6_isAhead 38 = .ok (.iload_n 1, 1) := by decide +kernel
theorem dX6_isAhead_39 : decode cX6_isAhead 39 = .ok (.iaload, 1) := by decide +kernel
theorem dX6_isAhead_40 : decode cX6_isAhead 40 = .ok (.iconst (-1), 1) := by decide +kernel
theorem dX6_isAhead_41 : decode cX6_isAhead 41 = .ok (.if_icmp .ne 8, 3) := by decide +kernel
theorem dX6_isAhead_44 : decode cX6_isAhead 44 = .ok (.bipush 8, 2) := by decide +kernel
theorem dX6_isAhead_46 : decode cX6_isAhead 46 = .ok (.goto 9, 3) := by decide +kernel
theorem dX6_isAhead_49 : decode cX6_isAhead 49 = .ok (.aload_n 0, 1) := by decide +kernel
theorem dX6_isAhead_50 : decode cX6_isAhead 50 = .ok (.getfield 52, 3) := by decide +kernel
theorem dX6_isAhead_53 : decode cX6_isAhead 53 = .ok (.iload_n 1, 1) := by decide +kernel
theorem dX6_isAhead_54 : decode cX6_isAhead 54 = .ok (.iaload, 1) := by decide +kernel
theorem dX6_isAhead_55 : decode cX6_isAhead 55 = .ok (.istore_n 3, 1) := by decide +kernel
theorem dX6_isAhead_56 : decode cX6_isAhead 56 = .ok (.iload_n 2, 1) := by decide +kernel
theorem dX6_isAhead_57 : decode cX6_isAhead 57 = .ok (.iload_n 3, 1) := by decide +kernel
theorem dX6_isAhead_58 : decode cX6_isAhead 58 = .ok (.if_icmp .eq 14, 3) := by decide +kernel
theorem dX6_isAhead_61 : decode cX6_isAhead 61 = .ok (.iload_n 2, 1) := by decide +kernel
theorem dX6_isAhead_62 : decode cX6_isAhead 62 = .ok (.iload_n 3, 1) := by decide +kernel
theorem dX6_isAhead_63 : decode cX6_isAhead 63 = .ok (.if_icmp .ge 7, 3) := by decide +kernel
theorem dX6_isAhead_66 : decode cX6_isAhead 66 = .ok (.iconst 1, 1) := by decide +kernel
theorem dX6_isAhead_67 : decode cX6_isAhead 67 = .ok (.goto 4, 3) := by decide +kernel
theorem dX6_isAhead_70 : decode cX6_isAhead 70 = .ok (.iconst 0, 1) := by decide +kernel
theorem dX6_isAhead_71 : decode cX6_isAhead 71 = .ok (.ireturn, 1) := by decide +kernel
theorem dX6_isAhead_72 : decode cX6_isAhead 72 = .ok (.iinc 1 1, 3) := by decide +kernel
theorem dX6_isAhead_75 : decode cX6_isAhead 75 = .ok (.goto (-73), 3) := by decide +kernel
theorem dX6_isAhead_78 : decode cX6_isAhead 78 = .ok (.iconst 0, 1) := by decide +kernel
theorem dX6_isAhead_79 : decode cX6_isAhead 79 = .ok (.ireturn, 1) := by decide +kernel
theorem dX6_compares_0 : decode cX6_compares 0 = .ok (.aload_n 0, 1) := by decide +kernel
theorem dX6_compares_1 : decode cX6_compares 1 = .ok (.invokevirtual 272, 3) := by decide +kernel
theorem dX6_compares_4 : decode cX6_compares 4 = .ok (.ifCond .ne 4, 3) := by decide +kernel
theorem dX6_compares_7 : decode cX6_compares 7 = .ok (.return_, 1) := by decide +kernel
theorem dX6_compares_8 : decode cX6_compares 8 = .ok (.iconst 0, 1) := by decide +kernel
theorem dX6_compares_9 : decode cX6_compares 9 = .ok (.istore_n 1, 1) := by decide +kernel
theorem dX6_compares_10 : decode cX6_compares 10 = .ok (.iconst 0, 1) := by decide +kernel
theorem dX6_compares_11 : decode cX6_compares 11 = .ok (.istore_n 2, 1) := by decide +kernel
theorem dX6_compares_12 : decode cX6_compares 12 = .ok (.iconst 0, 1) := by decide +kernel
theorem dX6_compares_13 : decode cX6_compares 13 = .ok (.istore_n 3, 1) := by decide +kernel
theorem dX6_compares_14 : decode cX6_compares 14 = .ok (.iload_n 3, 1) := by decide +kernel
theorem dX6_compares_15 : decode cX6_compares 15 = .ok (.aload_n 0, 1) := by decide +kernel
theorem dX6_compares_16 : decode cX6_compares 16 = .ok (.getfield 7, 3) := by decide +kernel
theorem dX6_compares_19 : decode cX6_compares 19 = .ok (.bipush 74, 2) := by decide +kernel
theorem dX6_compares_21 : decode cX6_compares 21 = .ok (.iaload, 1) := by decide +kernel
theorem dX6_compares_22 : decode cX6_compares 22 = .ok (.if_icmp .ge 76, 3) := by decide +kernel
theorem dX6_compares_25 : decode cX6_compares 25 = .ok (.iload_n 1, 1) := by decide +kernel
theorem dX6_compares_26 : decode cX6_compares 26 = .ok (.aload_n 0, 1) := by decide +kernel
theorem dX6_compares_27 : decode cX6_compares 27 = .ok (.getfield 43, 3) := by decide +kernel
theorem dX6_compares_30 : decode cX6_compares 30 = .ok (.iload_n 3, 1) := by decide +kernel
theorem dX6_compares_31 : decode cX6_compares 31 = .ok (.iaload, 1) := by decide +kernel
theorem dX6_compares_32 : decode cX6_compares 32 = .ok (.iconst (-1), 1) := by decide +kernel
theorem dX6_compares_33 : decode cX6_compares 33 = .ok (.if_icmp .ne 7, 3) := by decide +kernel
theorem dX6_compares_36 : decode cX6_compares 36 = .ok (.iconst 0, 1) := by decide +kernel
theorem dX6_compares_37 : decode cX6_compares 37 = .ok (.goto 14, 3) := by decide +kernel
theorem dX6_compares_40 : decode cX6_compares 40 = .ok (.aload_n 0, 1) := by decide +kernel
theorem dX6_compares_41 : decode cX6_compares 41 = .ok (.iload_n 3, 1) := by decide +kernel
theorem dX6_compares_42 : decode cX6_compares 42 = .ok (.aload_n 0, 1) := by decide +kernel
theorem dX6_compares_43 : decode cX6_compares 43 = .ok (.getfield 43, 3) := by decide +kernel
theorem dX6_compares_46 : decode cX6_compares 46 = .ok (.iload_n 3, 1) := by decide +kernel
theorem dX6_compares_47 : decode cX6_compares 47 = .ok (.iaload, 1) := by decide +kernel
theorem dX6_compares_48 : decode cX6_compares 48 = .ok (.invokevirtual 197, 3) := by decide +kernel
theorem dX6_compares_51 : decode cX6_compares 51 = .ok (.iadd, 1) := by decide +kernel
theorem dX6_compares_52 : decode cX6_compares 52 = .ok (.istore_n 1, 1) := by decide +kernel
theorem dX6_compares_53 : decode cX6_compares 53 = .ok (.iload_n 2, 1) := by decide +kernel
theorem dX6_compares_54 : decode cX6_compares 54 = .ok (.aload_n 0, 1) := by decide +kernel
theorem dX6_compares_55 : decode cX6_compares 55 = .ok (.getfield 7, 3) := by decide +kernel
theorem dX6_compares_58 : decode cX6_compares 58 = .ok (.bipush 107, 2) := by decide +kernel
theorem dX6_compares_60 : decode cX6_compares 60 = .ok (.iload_n 3, 1) := by decide +kernel
theorem dX6_compares_61 : decode cX6_compares 61 = .ok (.iadd, 1) := by decide +kernel
theorem dX6_compares_62 : decode cX6_compares 62 = .ok (.iaload, 1) := by decide +kernel
theorem dX6_compares_63 : decode cX6_compares 63 = .ok (.iconst (-1), 1) := by decide +kernel
theorem dX6_compares_64 : decode cX6_compares 64 = .ok (.if_icmp .eq 25, 3) := by decide +kernel
theorem dX6_compares_67 : decode cX6_compares 67 = .ok (.aload_n 0, 1) := by decide +kernel
theorem dX6_compares_68 : decode cX6_compares 68 = .ok (.getfield 43, 3) := by decide +kernel
theorem dX6_compares_71 : decode cX6_compares 71 = .ok (.iload_n 3, 1) := by decide +kernel
theorem dX6_compares_72 : decode cX6_compares 72 = .ok (.iaload, 1) := by decide +kernel
theorem dX6_compares_73 : decode cX6_compares 73 = .ok (.aload_n 0, 1) := by decide +kernel
theorem dX6_compares_74 : decode cX6_compares 74 = .ok (.getfield 7, 3) := by decide +kernel
theorem dX6_compares_77 : decode cX6_compares 77 = .ok (.bipush 107, 2) := by decide +kernel
theorem dX6_compares_79 : decode cX6_compares 79 = .ok (.iload_n 3, 1) := by decide +kernel
theorem dX6_compares_80 : decode cX6_compares 80 = .ok (.iadd, 1) := by decide +kernel
theorem dX6_compares_81 : decode cX6_compares 81 = .ok (.iaload, 1) := by decide +kernel
theorem dX6_compares_82 : decode cX6_compares 82 = .ok (.if_icmp .eq 7, 3) := by decide +kernel
theorem dX6_compares_85 : decode cX6_compares 85 = .ok (.iconst 1, 1) := by decide +kernel
theorem dX6_compares_86 : decode cX6_compares 86 = .ok (.goto 4, 3) := by decide +kernel
theorem dX6_compares_89 : decode cX6_compares 89 = .ok (.iconst 0, 1) := by decide +kernel
theorem dX6_compares_90 : decode cX6_compares 90 = .ok (.iadd, 1) := by decide +kernel
theorem dX6_compares_91 : decode cX6_compares 91 = .ok (.istore_n 2, 1) := by decide +kernel
theorem dX6_compares_92 : decode cX6_compares 92 = .ok (.iinc 3 1, 3) := by decide +kernel
theorem dX6_compares_95 : decode cX6_compares 95 = .ok (.goto (-81), 3) := by decide +kernel
theorem dX6_compares_98 : decode cX6_compares 98 = .ok (.iload_n 1, 1) := by decide +kernel
theorem dX6_compares_99 : decode cX6_compares 99 = .ok (.aload_n 0, 1) := by decide +kernel
theorem dX6_compares_100 : decode cX6_compares 100 = .ok (.getfield 276, 3) := by decide +kernel
theorem dX6_compares_103 : decode cX6_compares 103 = .ok (.if_icmp .lt 34, 3) := by decide +kernel
theorem dX6_compares_106 : decode cX6_compares 106 = .ok (.iload_n 1, 1) := by decide +kernel
theorem dX6_compares_107 : decode cX6_compares 107 = .ok (.aload_n 0, 1) := by decide +kernel
theorem dX6_compares_108 : decode cX6_compares 108 = .ok (.getfield 276, 3) := by decide +kernel
theorem dX6_compares_111 : decode cX6_compares 111 = .ok (.if_icmp .ne 30, 3) := by decide +kernel
theorem dX6_compares_114 : decode cX6_compares 114 = .ok (.iload_n 2, 1) := by decide +kernel
theorem dX6_compares_115 : decode cX6_compares 115 = .ok (.aload_n 0, 1) := by decide +kernel
theorem dX6_compares_116 : decode cX6_compares 116 = .ok (.getfield 279, 3) := by decide +kernel
theorem dX6_compares_119 : decode cX6_compares 119 = .ok (.if_icmp .gt 18, 3) := by decide +kernel
theorem dX6_compares_122 : decode cX6_compares 122 = .ok (.iload_n 2, 1) := by decide +kernel
theorem dX6_compares_123 : decode cX6_compares 123 = .ok (.aload_n 0, 1) := by decide +kernel
theorem dX6_compares_124 : decode cX6_compares 124 = .ok (.getfield 279, 3) := by decide +kernel
theorem dX6_compares_127 : decode cX6_compares 127 = .ok (.if_icmp .ne 14, 3) := by decide +kernel
theorem dX6_compares_130 : decode cX6_compares 130 = .ok (.aload_n 0, 1) := by decide +kernel
theorem dX6_compares_131 : decode cX6_compares 131 = .ok (.invokevirtual 282, 3) := by decide +kernel
theorem dX6_compares_134 : decode cX6_compares 134 = .ok (.ifCond .ne 7, 3) := by decide +kernel
theorem dX6_compares_137 : decode cX6_compares 137 = .ok (.iconst 1, 1) := by decide +kernel
theorem dX6_compares_138 : decode cX6_compares 138 = .ok (.goto 4, 3) := by decide +kernel
theorem dX6_compares_141 : decode cX6_compares 141 = .ok (.iconst 0, 1) := by decide +kernel
theorem dX6_compares_142 : decode cX6_compares 142 = .ok (.istore_n 3, 1) := by decide +kernel
theorem dX6_compares_143 : decode cX6_compares 143 = .ok (.aload_n 0, 1) := by decide +kernel
theorem dX6_compares_144 : decode cX6_compares 144 = .ok (.getfield 276, 3) := by decide +kernel
theorem dX6_compares_147 : decode cX6_compares 147 = .ok (.iconst (-1), 1) := by decide +kernel
theorem dX6_compares_148 : decode cX6_compares 148 = .ok (.if_icmp .eq 8, 3) := by decide +kernel
theorem dX6_compares_151 : decode cX6_compares 151 = .ok (.iload_n 3, 1) := by decide +kernel
theorem dX6_compares_152 : decode cX6_compares 152 = .ok (.ifCond .eq 4, 3) := by decide +kernel
theorem dX6_compares_155 : decode cX6_compares 155 = .ok (.return_, 1) := by decide +kernel
theorem dX6_compares_156 : decode cX6_compares 156 = .ok (.aload_n 0, 1) := by decide +kernel
theorem dX6_compares_157 : decode cX6_compares 157 = .ok (.iload_n 1, 1) := by decide +kernel
theorem dX6_compares_158 : decode cX6_compares 158 = .ok (.putfield 276, 3) := by decide +kernel
theorem dX6_compares_161 : decode cX6_compares 161 = .ok (.aload_n 0, 1) := by decide +kernel
theorem dX6_compares_162 : decode cX6_compares 162 = .ok (.iload_n 2, 1) := by decide +kernel
theorem dX6_compares_163 : decode cX6_compares 163 = .ok (.putfield 279, 3) := by decide +kernel
theorem dX6_compares_166 : decode cX6_compares 166 = .ok (.iconst 0, 1) := by decide +kernel
theorem dX6_compares_167 : decode cX6_compares 167 = .ok (.istore 4, 2) := by decide +kernel
theorem dX6_compares_169 : decode cX6_compares 169 = .ok (.iload 4, 2) := by decide +kernel
theorem dX6_compares_171 : decode cX6_compares 171 = .ok (.bipush 8, 2) := by decide +kernel
theorem dX6_compares_173 : decode cX6_compares 173 = .ok (.if_icmp .ge 23, 3) := by decide +kernel
theorem dX6_compares_176 : decode cX6_compares 176 = .ok (.aload_n 0, 1) := by decide +kernel
theorem dX6_compares_177 : decode cX6_compares 177 = .ok (.getfield 49, 3) := by decide +kernel
theorem dX6_compares_180 : decode cX6_compares 180 = .ok (.iload 4, 2) := by decide +kernel
theorem dX6_compares_182 : decode cX6_compares 182 = .ok (.aload_n 0, 1) := by decide +kernel
theorem dX6_compares_183 : decode cX6_compares 183 = .ok (.getfield 43, 3) := by decide +kernel
theorem dX6_compares_186 : decode cX6_compares 186 = .ok (.iload 4, 2) := by decide +kernel
theorem dX6_compares_188 : decode cX6_compares 188 = .ok (.iaload, 1) := by decide +kernel
theorem dX6_compares_189 : decode cX6_compares 189 = .ok (.iastore, 1) := by decide +kernel
theorem dX6_compares_190 : decode cX6_compares 190 = .ok (.iinc 4 1, 3) := by decide +kernel
theorem dX6_compares_193 : decode cX6_compares 193 = .ok (.goto (-24), 3) := by decide +kernel
theorem dX6_compares_196 : decode cX6_compares 196 = .ok (.iconst 0, 1) := by decide +kernel
theorem dX6_compares_197 : decode cX6_compares 197 = .ok (.istore 4, 2) := by decide +kernel
theorem dX6_compares_199 : decode cX6_compares 199 = .ok (.iload 4, 2) := by decide +kernel
theorem dX6_compares_201 : decode cX6_compares 201 = .ok (.bipush 24, 2) := by decide +kernel
theorem dX6_compares_203 : decode cX6_compares 203 = .ok (.if_icmp .ge 23, 3) := by decide +kernel
theorem dX6_compares_206 : decode cX6_compares 206 = .ok (.aload_n 0, 1) := by decide +kernel
theorem dX6_compares_207 : decode cX6_compares 207 = .ok (.getfield 52, 3) := by decide +kernel
theorem dX6_compares_210 : decode cX6_compares 210 = .ok (.iload 4, 2) := by decide +kernel
theorem dX6_compares_212 : decode cX6_compares 212 = .ok (.aload_n 0, 1) := by decide +kernel
theorem dX6_compares_213 : decode cX6_compares 213 = .ok (.getfield 46, 3) := by decide +kernel
theorem dX6_compares_216 : decode cX6_compares 216 = .ok (.iload 4, 2) := by decide +kernel
theorem dX6_compares_218 : decode cX6_compares 218 = .ok (.iaload, 1) := by decide +kernel
theorem dX6_compares_219 : decode cX6_compares 219 = .ok (.iastore, 1) := by decide +kernel
theorem dX6_compares_220 : decode cX6_compares 220 = .ok (.iinc 4 1, 3) := by decide +kernel
theorem dX6_compares_223 : decode cX6_compares 223 = .ok (.goto (-24), 3) := by decide +kernel
theorem dX6_compares_226 : decode cX6_compares 226 = .ok (.return_, 1) := by decide +kernel
theorem dX6_fits_0 : decode cX6_fits 0 = .ok (.aload_n 0, 1) := by decide +kernel
theorem dX6_fits_1 : decode cX6_fits 1 = .ok (.iload_n 1, 1) := by decide +kernel
theorem dX6_fits_2 : decode cX6_fits 2 = .ok (.iload_n 2, 1) := by decide +kernel
theorem dX6_fits_3 : decode cX6_fits 3 = .ok (.invokevirtual 218, 3) := by decide +kernel
theorem dX6_fits_6 : decode cX6_fits 6 = .ok (.ifCond .eq 34, 3) := by decide +kernel
theorem dX6_fits_9 : decode cX6_fits 9 = .ok (.aload_n 0, 1) := by decide +kernel
theorem dX6_fits_10 : decode cX6_fits 10 = .ok (.iload_n 1, 1) := by decide +kernel
theorem dX6_fits_11 : decode cX6_fits 11 = .ok (.iload_n 2, 1) := by decide +kernel
theorem dX6_fits_12 : decode cX6_fits 12 = .ok (.invokevirtual 197, 3) := by decide +kernel
theorem dX6_fits_15 : decode cX6_fits 15 = .ok (.aload_n 0, 1) := by decide +kernel
theorem dX6_fits_16 : decode cX6_fits 16 = .ok (.getfield 7, 3) := by decide +kernel
theorem dX6_fits_19 : decode cX6_fits 19 = .ok (.bipush 91, 2) := by decide +kernel
theorem dX6_fits_21 : decode cX6_fits 21 = .ok (.iload_n 1, 1) := by decide +kernel
theorem dX6_fits_22 : decode cX6_fits 22 = .ok (.iadd, 1) := by decide +kernel
theorem dX6_fits_23 : decode cX6_fits 23 = .ok (.iaload, 1) := by decide +kernel
theorem dX6_fits_24 : decode cX6_fits 24 = .ok (.if_icmp .gt 16, 3) := by decide +kernel
theorem dX6_fits_27 : decode cX6_fits 27 = .ok (.aload_n 0, 1) := by decide +kernel
theorem dX6_fits_28 : decode cX6_fits 28 = .ok (.iload_n 1, 1) := by decide +kernel
theorem dX6_fits_29 : decode cX6_fits 29 = .ok (.iload_n 2, 1) := by decide +kernel
theorem dX6_fits_30 : decode cX6_fits 30 = .ok (.invokevirtual 285, 3) := by decide +kernel
theorem dX6_fits_33 : decode cX6_fits 33 = .ok (.ifCond .eq 7, 3) := by decide +kernel
theorem dX6_fits_36 : decode cX6_fits 36 = .ok (.iconst 1, 1) := by decide +kernel
theorem dX6_fits_37 : decode cX6_fits 37 = .ok (.goto 4, 3) := by decide +kernel
theorem dX6_fits_40 : decode cX6_fits 40 = .ok (.iconst 0, 1) := by decide +kernel
theorem dX6_fits_41 : decode cX6_fits 41 = .ok (.ireturn, 1) := by decide +kernel
theorem dX6_canSwap_0 : decode cX6_canSwap 0 = .ok (.iload_n 1, 1) := by decide +kernel
theorem dX6_canSwap_1 : decode cX6_canSwap 1 = .ok (.iload_n 2, 1) := by decide +kernel
theorem dX6_canSwap_2 : decode cX6_canSwap 2 = .ok (.if_icmp .eq 29, 3) := by decide +kernel
theorem dX6_canSwap_5 : decode cX6_canSwap 5 = .ok (.aload_n 0, 1) := by decide +kernel
theorem dX6_canSwap_6 : decode cX6_canSwap 6 = .ok (.getfield 7, 3) := by decide +kernel
theorem dX6_canSwap_9 : decode cX6_canSwap 9 = .ok (.bipush 107, 2) := by decide +kernel
theorem dX6_canSwap_11 : decode cX6_canSwap 11 = .ok (.iload_n 1, 1) := by decide +kernel
theorem dX6_canSwap_12 : decode cX6_canSwap 12 = .ok (.iadd, 1) := by decide +kernel
theorem dX6_canSwap_13 : decode cX6_canSwap 13 = .ok (.iaload, 1) := by decide +kernel
theorem dX6_canSwap_14 : decode cX6_canSwap 14 = .ok (.iconst (-1), 1) := by decide +kernel
theorem dX6_canSwap_15 : decode cX6_canSwap 15 = .ok (.if_icmp .eq 16, 3) := by decide +kernel
theorem dX6_canSwap_18 : decode cX6_canSwap 18 = .ok (.aload_n 0, 1) := by decide +kernel
theorem dX6_canSwap_19 : decode cX6_canSwap 19 = .ok (.getfield 7, 3) := by decide +kernel
theorem dX6_canSwap_22 : decode cX6_canSwap 22 = .ok (.bipush 107, 2) := by decide +kernel
theorem dX6_canSwap_24 : decode cX6_canSwap 24 = .ok (.iload_n 2, 1) := by decide +kernel
theorem dX6_canSwap_25 : decode cX6_canSwap 25 = .ok (.iadd, 1) := by decide +kernel
theorem dX6_canSwap_26 : decode cX6_canSwap 26 = .ok (.iaload, 1) := by decide +kernel
theorem dX6_canSwap_27 : decode cX6_canSwap 27 = .ok (.iconst (-1), 1) := by decide +kernel
theorem dX6_canSwap_28 : decode cX6_canSwap 28 = .ok (.if_icmp .ne 5, 3) := by decide +kernel
theorem dX6_canSwap_31 : decode cX6_canSwap 31 = .ok (.iconst 0, 1) := by decide +kernel
theorem dX6_canSwap_32 : decode cX6_canSwap 32 = .ok (.ireturn, 1) := by decide +kernel
theorem dX6_canSwap_33 : decode cX6_canSwap 33 = .ok (.iconst 0, 1) := by decide +kernel
theorem dX6_canSwap_34 : decode cX6_canSwap 34 = .ok (.istore_n 3, 1) := by decide +kernel
theorem dX6_canSwap_35 : decode cX6_canSwap 35 = .ok (.iload_n 3, 1) := by decide +kernel
theorem dX6_canSwap_36 : decode cX6_canSwap 36 = .ok (.bipush 24, 2) := by decide +kernel
theorem dX6_canSwap_38 : decode cX6_canSwap 38 = .ok (.if_icmp .ge 16, 3) := by decide +kernel
theorem dX6_canSwap_41 : decode cX6_canSwap 41 = .ok (.aload_n 0, 1) := by decide +kernel
theorem dX6_canSwap_42 : decode cX6_canSwap 42 = .ok (.getfield 46, 3) := by decide +kernel
theorem dX6_canSwap_45 : decode cX6_canSwap 45 = .ok (.iload_n 3, 1) := by decide +kernel
theorem dX6_canSwap_46 : decode cX6_canSwap 46 = .ok (.iconst (-1), 1) := by decide +kernel
theorem dX6_canSwap_47 : decode cX6_canSwap 47 = .ok (.iastore, 1) := by decide +kernel
theorem dX6_canSwap_48 : decode cX6_canSwap 48 = .ok (.iinc 3 1, 3) := by decide +kernel
theorem dX6_canSwap_51 : decode cX6_canSwap 51 = .ok (.goto (-16), 3) := by decide +kernel
theorem dX6_canSwap_54 : decode cX6_canSwap 54 = .ok (.iconst 0, 1) := by decide +kernel
theorem dX6_canSwap_55 : decode cX6_canSwap 55 = .ok (.istore_n 3, 1) := by decide +kernel
theorem dX6_canSwap_56 : decode cX6_canSwap 56 = .ok (.iload_n 3, 1) := by decide +kernel
theorem dX6_canSwap_57 : decode cX6_canSwap 57 = .ok (.bipush 8, 2) := by decide +kernel
theorem dX6_canSwap_59 : decode cX6_canSwap 59 = .ok (.if_icmp .ge 99, 3) := by decide +kernel
theorem dX6_canSwap_62 : decode cX6_canSwap 62 = .ok (.aload_n 0, 1) := by decide +kernel
theorem dX6_canSwap_63 : decode cX6_canSwap 63 = .ok (.getfield 43, 3) := by decide +kernel
theorem dX6_canSwap_66 : decode cX6_canSwap 66 = .ok (.iload_n 3, 1) := by decide +kernel
theorem dX6_canSwap_67 : decode cX6_canSwap 67 = .ok (.iload_n 3, 1) := by decide +kernel
theorem dX6_canSwap_68 : decode cX6_canSwap 68 = .ok (.iload_n 1, 1) := by decide +kernel
theorem dX6_canSwap_69 : decode cX6_canSwap 69 = .ok (.if_icmp .ne 15, 3) := by decide +kernel
theorem dX6_canSwap_72 : decode cX6_canSwap 72 = .ok (.aload_n 0, 1) := by decide +kernel
theorem dX6_canSwap_73 : decode cX6_canSwap 73 = .ok (.getfield 7, 3) := by decide +kernel
theorem dX6_canSwap_76 : decode cX6_canSwap 76 = .ok (.bipush 107, 2) := by decide +kernel
theorem dX6_canSwap_78 : decode cX6_canSwap 78 = .ok (.iload_n 2, 1) := by decide +kernel
theorem dX6_canSwap_79 : decode cX6_canSwap 79 = .ok (.iadd, 1) := by decide +kernel
theorem dX6_canSwap_80 : decode cX6_canSwap 80 = .ok (.iaload, 1) := by decide +kernel
theorem dX6_canSwap_81 : decode cX6_canSwap 81 = .ok (.goto 29, 3) := by decide +kernel
theorem dX6_canSwap_84 : decode cX6_canSwap 84 = .ok (.iload_n 3, 1) := by decide +kernel
theorem dX6_canSwap_85 : decode cX6_canSwap 85 = .ok (.iload_n 2, 1) := by decide +kernel
theorem dX6_canSwap_86 : decode cX6_canSwap 86 = .ok (.if_icmp .ne 15, 3) := by decide +kernel
theorem dX6_canSwap_89 : decode cX6_canSwap 89 = .ok (.aload_n 0, 1) := by decide +kernel
theorem dX6_canSwap_90 : decode cX6_canSwap 90 = .ok (.getfield 7, 3) := by decide +kernel
theorem dX6_canSwap_93 : decode cX6_canSwap 93 = .ok (.bipush 107, 2) := by decide +kernel
theorem dX6_canSwap_95 : decode cX6_canSwap 95 = .ok (.iload_n 1, 1) := by decide +kernel
theorem dX6_canSwap_96 : decode cX6_canSwap 96 = .ok (.iadd, 1) := by decide +kernel
theorem dX6_canSwap_97 : decode cX6_canSwap 97 = .ok (.iaload, 1) := by decide +kernel
theorem dX6_canSwap_98 : decode cX6_canSwap 98 = .ok (.goto 12, 3) := by decide +kernel
theorem dX6_canSwap_101 : decode cX6_canSwap 101 = .ok (.aload_n 0, 1) := by decide +kernel
theorem dX6_canSwap_102 : decode cX6_canSwap 102 = .ok (.getfield 7, 3) := by decide +kernel
theorem dX6_canSwap_105 : decode cX6_canSwap 105 = .ok (.bipush 107, 2) := by decide +kernel
theorem dX6_canSwap_107 : decode cX6_canSwap 107 = .ok (.iload_n 3, 1) := by decide +kernel
theorem dX6_canSwap_108 : decode cX6_canSwap 108 = .ok (.iadd, 1) := by decide +kernel
theorem dX6_canSwap_109 : decode cX6_canSwap 109 = .ok (.iaload, 1) := by decide +kernel
theorem dX6_canSwap_110 : decode cX6_canSwap 110 = .ok (.iastore, 1) := by decide +kernel
theorem dX6_canSwap_111 : decode cX6_canSwap 111 = .ok (.aload_n 0, 1) := by decide +kernel
theorem dX6_canSwap_112 : decode cX6_canSwap 112 = .ok (.getfield 43, 3) := by decide +kernel
theorem dX6_canSwap_115 : decode cX6_canSwap 115 = .ok (.iload_n 3, 1) := by decide +kernel
theorem dX6_canSwap_116 : decode cX6_canSwap 116 = .ok (.iaload, 1) := by decide +kernel
theorem dX6_canSwap_117 : decode cX6_canSwap 117 = .ok (.iconst (-1), 1) := by decide +kernel
theorem dX6_canSwap_118 : decode cX6_canSwap 118 = .ok (.if_icmp .ne 6, 3) := by decide +kernel
theorem dX6_canSwap_121 : decode cX6_canSwap 121 = .ok (.goto 31, 3) := by decide +kernel
theorem dX6_canSwap_124 : decode cX6_canSwap 124 = .ok (.aload_n 0, 1) := by decide +kernel
theorem dX6_canSwap_125 : decode cX6_canSwap 125 = .ok (.iload_n 3, 1) := by decide +kernel
theorem dX6_canSwap_126 : decode cX6_canSwap 126 = .ok (.aload_n 0, 1) := by decide +kernel
theorem dX6_canSwap_127 : decode cX6_canSwap 127 = .ok (.getfield 43, 3) := by decide +kernel
theorem dX6_canSwap_130 : decode cX6_canSwap 130 = .ok (.iload_n 3, 1) := by decide +kernel
theorem dX6_canSwap_131 : decode cX6_canSwap 131 = .ok (.iaload, 1) := by decide +kernel
theorem dX6_canSwap_132 : decode cX6_canSwap 132 = .ok (.invokevirtual 288, 3) := by decide +kernel
theorem dX6_canSwap_135 : decode cX6_canSwap 135 = .ok (.ifCond .ne 5, 3) := by decide +kernel
theorem dX6_canSwap_138 : decode cX6_canSwap 138 = .ok (.iconst 0, 1) := by decide +kernel
theorem dX6_canSwap_139 : decode cX6_canSwap 139 = .ok (.ireturn, 1) := by decide +kernel
theorem dX6_canSwap_140 : decode cX6_canSwap 140 = .ok (.aload_n 0, 1) := by decide +kernel
theorem dX6_canSwap_141 : decode cX6_canSwap 141 = .ok (.iload_n 3, 1) := by decide +kernel
theorem dX6_canSwap_142 : decode cX6_canSwap 142 = .ok (.aload_n 0, 1) := by decide +kernel
theorem dX6_canSwap_143 : decode cX6_canSwap 143 = .ok (.getfield 43, 3) := by decide +kernel
theorem dX6_canSwap_146 : decode cX6_canSwap 146 = .ok (.iload_n 3, 1) := by decide +kernel
theorem dX6_canSwap_147 : decode cX6_canSwap 147 = .ok (.iaload, 1) := by decide +kernel
theorem dX6_canSwap_148 : decode cX6_canSwap 148 = .ok (.iload_n 3, 1) := by decide +kernel
theorem dX6_canSwap_149 : decode cX6_canSwap 149 = .ok (.invokevirtual 291, 3) := by decide +kernel
theorem dX6_canSwap_152 : decode cX6_canSwap 152 = .ok (.iinc 3 1, 3) := by decide +kernel
theorem dX6_canSwap_155 : decode cX6_canSwap 155 = .ok (.goto (-99), 3) := by decide +kernel
theorem dX6_canSwap_158 : decode cX6_canSwap 158 = .ok (.aload_n 0, 1) := by decide +kernel
theorem dX6_canSwap_159 : decode cX6_canSwap 159 = .ok (.invokevirtual 272, 3) := by decide +kernel
theorem dX6_canSwap_162 : decode cX6_canSwap 162 = .ok (.ireturn, 1) := by decide +kernel
theorem dX6_swap_0 : decode cX6_swap 0 = .ok (.aload_n 0, 1) := by decide +kernel
theorem dX6_swap_1 : decode cX6_swap 1 = .ok (.aload_n 0, 1) := by decide +kernel
theorem dX6_swap_2 : decode cX6_swap 2 = .ok (.iload_n 1, 1) := by decide +kernel
theorem dX6_swap_3 : decode cX6_swap 3 = .ok (.invokevirtual 178, 3) := by decide +kernel
theorem dX6_swap_6 : decode cX6_swap 6 = .ok (.ifCond .eq 11, 3) := by decide +kernel
theorem dX6_swap_9 : decode cX6_swap 9 = .ok (.aload_n 0, 1) := by decide +kernel
theorem dX6_swap_10 : decode cX6_swap 10 = .ok (.iload_n 2, 1) := by decide +kernel
theorem dX6_swap_11 : decode cX6_swap 11 = .ok (.invokevirtual 178, 3) := by decide +kernel
theorem dX6_swap_14 : decode cX6_swap 14 = .ok (.ifCond .ne 7, 3) := by decide +kernel
theorem dX6_swap_17 : decode cX6_swap 17 = .ok (.iconst 1, 1) := by decide +kernel
theorem dX6_swap_18 : decode cX6_swap 18 = .ok (.goto 17, 3) := by decide +kernel
theorem dX6_swap_21 : decode cX6_swap 21 = .ok (.aload_n 0, 1) := by decide +kernel
theorem dX6_swap_22 : decode cX6_swap 22 = .ok (.iload_n 1, 1) := by decide +kernel
theorem dX6_swap_23 : decode cX6_swap 23 = .ok (.iload_n 2, 1) := by decide +kernel
theorem dX6_swap_24 : decode cX6_swap 24 = .ok (.invokevirtual 295, 3) := by decide +kernel
theorem dX6_swap_27 : decode cX6_swap 27 = .ok (.ifCond .ne 7, 3) := by decide +kernel
theorem dX6_swap_30 : decode cX6_swap 30 = .ok (.iconst 2, 1) := by decide +kernel
theorem dX6_swap_31 : decode cX6_swap 31 = .ok (.goto 4, 3) := by decide +kernel
theorem dX6_swap_34 : decode cX6_swap 34 = .ok (.iconst 0, 1) := by decide +kernel
theorem dX6_swap_35 : decode cX6_swap 35 = .ok (.putfield 58, 3) := by decide +kernel
theorem dX6_swap_38 : decode cX6_swap 38 = .ok (.aload_n 0, 1) := by decide +kernel
theorem dX6_swap_39 : decode cX6_swap 39 = .ok (.getfield 58, 3) := by decide +kernel
theorem dX6_swap_42 : decode cX6_swap 42 = .ok (.ifCond .le 5, 3) := by decide +kernel
theorem dX6_swap_45 : decode cX6_swap 45 = .ok (.iconst 0, 1) := by decide +kernel
theorem dX6_swap_46 : decode cX6_swap 46 = .ok (.ireturn, 1) := by decide +kernel
theorem dX6_swap_47 : decode cX6_swap 47 = .ok (.aload_n 0, 1) := by decide +kernel
theorem dX6_swap_48 : decode cX6_swap 48 = .ok (.invokevirtual 170, 3) := by decide +kernel
theorem dX6_swap_51 : decode cX6_swap 51 = .ok (.aload_n 0, 1) := by decide +kernel
theorem dX6_swap_52 : decode cX6_swap 52 = .ok (.getfield 7, 3) := by decide +kernel
theorem dX6_swap_55 : decode cX6_swap 55 = .ok (.bipush 107, 2) := by decide +kernel
theorem dX6_swap_57 : decode cX6_swap 57 = .ok (.iload_n 1, 1) := by decide +kernel
theorem dX6_swap_58 : decode cX6_swap 58 = .ok (.iadd, 1) := by decide +kernel
theorem dX6_swap_59 : decode cX6_swap 59 = .ok (.iaload, 1) := by decide +kernel
theorem dX6_swap_60 : decode cX6_swap 60 = .ok (.istore_n 3, 1) := by decide +kernel
theorem dX6_swap_61 : decode cX6_swap 61 = .ok (.aload_n 0, 1) := by decide +kernel
theorem dX6_swap_62 : decode cX6_swap 62 = .ok (.getfield 7, 3) := by decide +kernel
theorem dX6_swap_65 : decode cX6_swap 65 = .ok (.bipush 107, 2) := by decide +kernel
theorem dX6_swap_67 : decode cX6_swap 67 = .ok (.iload_n 1, 1) := by decide +kernel
theorem dX6_swap_68 : decode cX6_swap 68 = .ok (.iadd, 1) := by decide +kernel
theorem dX6_swap_69 : decode cX6_swap 69 = .ok (.aload_n 0, 1) := by decide +kernel
theorem dX6_swap_70 : decode cX6_swap 70 = .ok (.getfield 7, 3) := by decide +kernel
theorem dX6_swap_73 : decode cX6_swap 73 = .ok (.bipush 107, 2) := by decide +kernel
theorem dX6_swap_75 : decode cX6_swap 75 = .ok (.iload_n 2, 1) := by decide +kernel
theorem dX6_swap_76 : decode cX6_swap 76 = .ok (.iadd, 1) := by decide +kernel
theorem dX6_swap_77 : decode cX6_swap 77 = .ok (.iaload, 1) := by decide +kernel
theorem dX6_swap_78 : decode cX6_swap 78 = .ok (.iastore, 1) := by decide +kernel
theorem dX6_swap_79 : decode cX6_swap 79 = .ok (.aload_n 0, 1) := by decide +kernel
theorem dX6_swap_80 : decode cX6_swap 80 = .ok (.getfield 7, 3) := by decide +kernel
theorem dX6_swap_83 : decode cX6_swap 83 = .ok (.bipush 107, 2) := by decide +kernel
theorem dX6_swap_85 : decode cX6_swap 85 = .ok (.iload_n 2, 1) := by decide +kernel
theorem dX6_swap_86 : decode cX6_swap 86 = .ok (.iadd, 1) := by decide +kernel
theorem dX6_swap_87 : decode cX6_swap 87 = .ok (.iload_n 3, 1) := by decide +kernel
theorem dX6_swap_88 : decode cX6_swap 88 = .ok (.iastore, 1) := by decide +kernel
theorem dX6_swap_89 : decode cX6_swap 89 = .ok (.aload_n 0, 1) := by decide +kernel
theorem dX6_swap_90 : decode cX6_swap 90 = .ok (.invokevirtual 234, 3) := by decide +kernel
theorem dX6_swap_93 : decode cX6_swap 93 = .ok (.ireturn, 1) := by decide +kernel
theorem dX6_seeks_0 : decode cX6_seeks 0 = .ok (.iload_n 1, 1) := by decide +kernel
theorem dX6_seeks_1 : decode cX6_seeks 1 = .ok (.aload_n 0, 1) := by decide +kernel
theorem dX6_seeks_2 : decode cX6_seeks 2 = .ok (.getfield 298, 3) := by decide +kernel
theorem dX6_seeks_5 : decode cX6_seeks 5 = .ok (.if_icmp .ne 8, 3) := by decide +kernel
theorem dX6_seeks_8 : decode cX6_seeks 8 = .ok (.aload_n 0, 1) := by decide +kernel
theorem dX6_seeks_9 : decode cX6_seeks 9 = .ok (.invokevirtual 301, 3) := by decide +kernel
theorem dX6_seeks_12 : decode cX6_seeks 12 = .ok (.return_, 1) := by decide +kernel
theorem dX6_seeks_13 : decode cX6_seeks 13 = .ok (.aload_n 0, 1) := by decide +kernel
theorem dX6_seeks_14 : decode cX6_seeks 14 = .ok (.getfield 55, 3) := by decide +kernel
theorem dX6_seeks_17 : decode cX6_seeks 17 = .ok (.iload_n 1, 1) := by decide +kernel
theorem dX6_seeks_18 : decode cX6_seeks 18 = .ok (.iaload, 1) := by decide +kernel
theorem dX6_seeks_19 : decode cX6_seeks 19 = .ok (.istore_n 2, 1) := by decide +kernel
theorem dX6_seeks_20 : decode cX6_seeks 20 = .ok (.iconst 0, 1) := by decide +kernel
theorem dX6_seeks_21 : decode cX6_seeks 21 = .ok (.istore_n 3, 1) := by decide +kernel
theorem dX6_seeks_22 : decode cX6_seeks 22 = .ok (.iload_n 3, 1) := by decide +kernel
theorem dX6_seeks_23 : decode cX6_seeks 23 = .ok (.aload_n 0, 1) := by decide +kernel
theorem dX6_seeks_24 : decode cX6_seeks 24 = .ok (.getfield 7, 3) := by decide +kernel
theorem dX6_seeks_27 : decode cX6_seeks 27 = .ok (.iconst 1, 1) := by decide +kernel
theorem dX6_seeks_28 : decode cX6_seeks 28 = .ok (.iaload, 1) := by decide +kernel
theorem dX6_seeks_29 : decode cX6_seeks 29 = .ok (.if_icmp .ge 49, 3) := by decide +kernel
theorem dX6_seeks_32 : decode cX6_seeks 32 = .ok (.aload_n 0, 1) := by decide +kernel
theorem dX6_seeks_33 : decode cX6_seeks 33 = .ok (.iload_n 2, 1) := by decide +kernel
theorem dX6_seeks_34 : decode cX6_seeks 34 = .ok (.iload_n 3, 1) := by decide +kernel
theorem dX6_seeks_35 : decode cX6_seeks 35 = .ok (.invokevirtual 288, 3) := by decide +kernel
theorem dX6_seeks_38 : decode cX6_seeks 38 = .ok (.ifCond .ne 6, 3) := by decide +kernel
theorem dX6_seeks_41 : decode cX6_seeks 41 = .ok (.goto 31, 3) := by decide +kernel
theorem dX6_seeks_44 : decode cX6_seeks 44 = .ok (.aload_n 0, 1) := by decide +kernel
theorem dX6_seeks_45 : decode cX6_seeks 45 = .ok (.iload_n 2, 1) := by decide +kernel
theorem dX6_seeks_46 : decode cX6_seeks 46 = .ok (.iload_n 3, 1) := by decide +kernel
theorem dX6_seeks_47 : decode cX6_seeks 47 = .ok (.iload_n 2, 1) := by decide +kernel
theorem dX6_seeks_48 : decode cX6_seeks 48 = .ok (.invokevirtual 291, 3) := by decide +kernel
theorem dX6_seeks_51 : decode cX6_seeks 51 = .ok (.aload_n 0, 1) := by decide +kernel
theorem dX6_seeks_52 : decode cX6_seeks 52 = .ok (.getfield 43, 3) := by decide +kernel
theorem dX6_seeks_55 : decode cX6_seeks 55 = .ok (.iload_n 2, 1) := by decide +kernel
theorem dX6_seeks_56 : decode cX6_seeks 56 = .ok (.iload_n 3, 1) := by decide +kernel
theorem dX6_seeks_57 : decode cX6_seeks 57 = .ok (.iastore, 1) := by decide +kernel
theorem dX6_seeks_58 : decode cX6_seeks 58 = .ok (.aload_n 0, 1) := by decide +kernel
theorem dX6_seeks_59 : decode cX6_seeks 59 = .ok (.iload_n 1, 1) := by decide +kernel
theorem dX6_seeks_60 : decode cX6_seeks 60 = .ok (.iconst 1, 1) := by decide +kernel
theorem dX6_seeks_61 : decode cX6_seeks 61 = .ok (.iadd, 1) := by decide +kernel
theorem dX6_seeks_62 : decode cX6_seeks 62 = .ok (.invokevirtual 304, 3) := by decide +kernel
theorem dX6_seeks_65 : decode cX6_seeks 65 = .ok (.aload_n 0, 1) := by decide +kernel
theorem dX6_seeks_66 : decode cX6_seeks 66 = .ok (.iload_n 2, 1) := by decide +kernel
theorem dX6_seeks_67 : decode cX6_seeks 67 = .ok (.iload_n 3, 1) := by decide +kernel
theorem dX6_seeks_68 : decode cX6_seeks 68 = .ok (.iconst (-1), 1) := by decide +kernel
theorem dX6_seeks_69 : decode cX6_seeks 69 = .ok (.invokevirtual 291, 3) := by decide +kernel
theorem dX6_seeks_72 : decode cX6_seeks 72 = .ok (.iinc 3 1, 3) := by decide +kernel
theorem dX6_seeks_75 : decode cX6_seeks 75 = .ok (.goto (-53), 3) := by decide +kernel
theorem dX6_seeks_78 : decode cX6_seeks 78 = .ok (.return_, 1) := by decide +kernel
theorem dX6_triesMoving_0 : decode cX6_triesMoving 0 = .ok (.iconst 0, 1) := by decide +kernel
theorem dX6_triesMoving_1 : decode cX6_triesMoving 1 = .ok (.istore_n 1, 1) := by decide +kernel
theorem dX6_triesMoving_2 : decode cX6_triesMoving 2 = .ok (.iload_n 1, 1) := by decide +kernel
theorem dX6_triesMoving_3 : decode cX6_triesMoving 3 = .ok (.bipush 24, 2) := by decide +kernel
theorem dX6_triesMoving_5 : decode cX6_triesMoving 5 = .ok (.if_icmp .ge 16, 3) := by decide +kernel
theorem dX6_triesMoving_8 : decode cX6_triesMoving 8 = .ok (.aload_n 0, 1) := by decide +kernel
theorem dX6_triesMoving_9 : decode cX6_triesMoving 9 = .ok (.getfield 46, 3) := by decide +kernel
theorem dX6_triesMoving_12 : decode cX6_triesMoving 12 = .ok (.iload_n 1, 1) := by decide +kernel
theorem dX6_triesMoving_13 : decode cX6_triesMoving 13 = .ok (.iconst (-1), 1) := by decide +kernel
theorem dX6_triesMoving_14 : decode cX6_triesMoving 14 = .ok (.iastore, 1) := by decide +kernel
theorem dX6_triesMoving_15 : decode cX6_triesMoving 15 = .ok (.iinc 1 1, 3) := by decide +kernel
theorem dX6_triesMoving_18 : decode cX6_triesMoving 18 = .ok (.goto (-16), 3) := by decide +kernel
theorem dX6_triesMoving_21 : decode cX6_triesMoving 21 = .ok (.iconst 0, 1) := by decide +kernel
theorem dX6_triesMoving_22 : decode cX6_triesMoving 22 = .ok (.istore_n 1, 1) := by decide +kernel
theorem dX6_triesMoving_23 : decode cX6_triesMoving 23 = .ok (.iload_n 1, 1) := by decide +kernel
theorem dX6_triesMoving_24 : decode cX6_triesMoving 24 = .ok (.bipush 8, 2) := by decide +kernel
theorem dX6_triesMoving_26 : decode cX6_triesMoving 26 = .ok (.if_icmp .ge 88, 3) := by decide +kernel
theorem dX6_triesMoving_29 : decode cX6_triesMoving 29 = .ok (.aload_n 0, 1) := by decide +kernel
theorem dX6_triesMoving_30 : decode cX6_triesMoving 30 = .ok (.getfield 43, 3) := by decide +kernel
theorem dX6_triesMoving_33 : decode cX6_triesMoving 33 = .ok (.iload_n 1, 1) := by decide +kernel
theorem dX6_triesMoving_34 : decode cX6_triesMoving 34 = .ok (.aload_n 0, 1) := by decide +kernel
theorem dX6_triesMoving_35 : decode cX6_triesMoving 35 = .ok (.getfield 7, 3) := by decide +kernel
theorem dX6_triesMoving_38 : decode cX6_triesMoving 38 = .ok (.bipush 107, 2) := by decide +kernel
theorem dX6_triesMoving_40 : decode cX6_triesMoving 40 = .ok (.iload_n 1, 1) := by decide +kernel
theorem dX6_triesMoving_41 : decode cX6_triesMoving 41 = .ok (.iadd, 1) := by decide +kernel
theorem dX6_triesMoving_42 : decode cX6_triesMoving 42 = .ok (.iaload, 1) := by decide +kernel
theorem dX6_triesMoving_43 : decode cX6_triesMoving 43 = .ok (.iastore, 1) := by decide +kernel
theorem dX6_triesMoving_44 : decode cX6_triesMoving 44 = .ok (.iconst 0, 1) := by decide +kernel
theorem dX6_triesMoving_45 : decode cX6_triesMoving 45 = .ok (.istore_n 2, 1) := by decide +kernel
theorem dX6_triesMoving_46 : decode cX6_triesMoving 46 = .ok (.iconst 0, 1) := by decide +kernel
theorem dX6_triesMoving_47 : decode cX6_triesMoving 47 = .ok (.istore_n 3, 1) := by decide +kernel
theorem dX6_triesMoving_48 : decode cX6_triesMoving 48 = .ok (.iload_n 3, 1) := by decide +kernel
theorem dX6_triesMoving_49 : decode cX6_triesMoving 49 = .ok (.aload_n 0, 1) := by decide +kernel
theorem dX6_triesMoving_50 : decode cX6_triesMoving 50 = .ok (.getfield 298, 3) := by decide +kernel
theorem dX6_triesMoving_53 : decode cX6_triesMoving 53 = .ok (.if_icmp .ge 29, 3) := by decide +kernel
theorem dX6_triesMoving_56 : decode cX6_triesMoving 56 = .ok (.iload_n 2, 1) := by decide +kernel
theorem dX6_triesMoving_57 : decode cX6_triesMoving 57 = .ok (.ifCond .ne 13, 3) := by decide +kernel
theorem dX6_triesMoving_60 : decode cX6_triesMoving 60 = .ok (.aload_n 0, 1) := by decide +kernel
theorem dX6_triesMoving_61 : decode cX6_triesMoving 61 = .ok (.getfield 55, 3) := by decide +kernel
theorem dX6_triesMoving_64 : decode cX6_triesMoving 64 = .ok (.iload_n 3, 1) := by decide +kernel
theorem dX6_triesMoving_65 : decode cX6_triesMoving 65 = .ok (.iaload, 1) := by decide +kernel
theorem dX6_triesMoving_66 : decode cX6_triesMoving 66 = .ok (.iload_n 1, 1) := by decide +kernel
theorem dX6_triesMoving_67 : decode cX6_triesMoving 67 = .ok (.if_icmp .ne 7, 3) := by decide +kernel
theorem dX6_triesMoving_70 : decode cX6_triesMoving 70 = .ok (.iconst 1, 1) := by decide +kernel
theorem dX6_triesMoving_71 : decode cX6_triesMoving 71 = .ok (.goto 4, 3) := by decide +kernel
theorem dX6_triesMoving_74 : decode cX6_triesMoving 74 = .ok (.iconst 0, 1) := by decide +kernel
theorem dX6_triesMoving_75 : decode cX6_triesMoving 75 = .ok (.istore_n 2, 1) := by decide +kernel
theorem dX6_triesMoving_76 : decode cX6_triesMoving 76 = .ok (.iinc 3 1, 3) := by decide +kernel
theorem dX6_triesMoving_79 : decode cX6_triesMoving 79 = .ok (.goto (-31), 3) := by decide +kernel
theorem dX6_triesMoving_82 : decode cX6_triesMoving 82 = .ok (.aload_n 0, 1) := by decide +kernel
theorem dX6_triesMoving_83 : decode cX6_triesMoving 83 = .ok (.getfield 43, 3) := by decide +kernel
theorem dX6_triesMoving_86 : decode cX6_triesMoving 86 = .ok (.iload_n 1, 1) := by decide +kernel
theorem dX6_triesMoving_87 : decode cX6_triesMoving 87 = .ok (.iaload, 1) := by decide +kernel
theorem dX6_triesMoving_88 : decode cX6_triesMoving 88 = .ok (.iconst (-1), 1) := by decide +kernel
theorem dX6_triesMoving_89 : decode cX6_triesMoving 89 = .ok (.if_icmp .eq 19, 3) := by decide +kernel
theorem dX6_triesMoving_92 : decode cX6_triesMoving 92 = .ok (.iload_n 2, 1) := by decide +kernel
theorem dX6_triesMoving_93 : decode cX6_triesMoving 93 = .ok (.ifCond .ne 15, 3) := by decide +kernel
theorem dX6_triesMoving_96 : decode cX6_triesMoving 96 = .ok (.aload_n 0, 1) := by decide +kernel
theorem dX6_triesMoving_97 : decode cX6_triesMoving 97 = .ok (.iload_n 1, 1) := by decide +kernel
theorem dX6_triesMoving_98 : decode cX6_triesMoving 98 = .ok (.aload_n 0, 1) := by decide +kernel
theorem dX6_triesMoving_99 : decode cX6_triesMoving 99 = .ok (.getfield 43, 3) := by decide +kernel
theorem dX6_triesMoving_102 : decode cX6_triesMoving 102 = .ok (.iload_n 1, 1) := by decide +kernel
theorem dX6_triesMoving_103 : decode cX6_triesMoving 103 = .ok (.iaload, 1) := by decide +kernel
theorem dX6_triesMoving_104 : decode cX6_triesMoving 104 = .ok (.iload_n 1, 1) := by decide +kernel
theorem dX6_triesMoving_105 : decode cX6_triesMoving 105 = .ok (.invokevirtual 291, 3) := by decide +kernel
theorem dX6_triesMoving_108 : decode cX6_triesMoving 108 = .ok (.iinc 1 1, 3) := by decide +kernel
theorem dX6_triesMoving_111 : decode cX6_triesMoving 111 = .ok (.goto (-88), 3) := by decide +kernel
theorem dX6_triesMoving_114 : decode cX6_triesMoving 114 = .ok (.aload_n 0, 1) := by decide +kernel
theorem dX6_triesMoving_115 : decode cX6_triesMoving 115 = .ok (.iconst 0, 1) := by decide +kernel
theorem dX6_triesMoving_116 : decode cX6_triesMoving 116 = .ok (.invokevirtual 304, 3) := by decide +kernel
theorem dX6_triesMoving_119 : decode cX6_triesMoving 119 = .ok (.return_, 1) := by decide +kernel
theorem dX6_seeksInsertion_0 : decode cX6_seeksInsertion 0 = .ok (.aload_n 0, 1) := by decide +kernel
theorem dX6_seeksInsertion_1 : decode cX6_seeksInsertion 1 = .ok (.iconst (-1), 1) := by decide +kernel
theorem dX6_seeksInsertion_2 : decode cX6_seeksInsertion 2 = .ok (.putfield 276, 3) := by decide +kernel
theorem dX6_seeksInsertion_5 : decode cX6_seeksInsertion 5 = .ok (.aload_n 0, 1) := by decide +kernel
theorem dX6_seeksInsertion_6 : decode cX6_seeksInsertion 6 = .ok (.iconst 0, 1) := by decide +kernel
theorem dX6_seeksInsertion_7 : decode cX6_seeksInsertion 7 = .ok (.putfield 279, 3) := by decide +kernel
theorem dX6_seeksInsertion_10 : decode cX6_seeksInsertion 10 = .ok (.aload_n 0, 1) := by decide +kernel
theorem dX6_seeksInsertion_11 : decode cX6_seeksInsertion 11 = .ok (.getfield 55, 3) := by decide +kernel
theorem dX6_seeksInsertion_14 : decode cX6_seeksInsertion 14 = .ok (.iconst 0, 1) := by decide +kernel
theorem dX6_seeksInsertion_15 : decode cX6_seeksInsertion 15 = .ok (.iload_n 1, 1) := by decide +kernel
theorem dX6_seeksInsertion_16 : decode cX6_seeksInsertion 16 = .ok (.iastore, 1) := by decide +kernel
theorem dX6_seeksInsertion_17 : decode cX6_seeksInsertion 17 = .ok (.aload_n 0, 1) := by decide +kernel
theorem dX6_seeksInsertion_18 : decode cX6_seeksInsertion 18 = .ok (.iconst 1, 1) := by decide +kernel
theorem dX6_seeksInsertion_19 : decode cX6_seeksInsertion 19 = .ok (.putfield 298, 3) := by decide +kernel
theorem dX6_seeksInsertion_22 : decode cX6_seeksInsertion 22 = .ok (.aload_n 0, 1) := by decide +kernel
theorem dX6_seeksInsertion_23 : decode cX6_seeksInsertion 23 = .ok (.invokevirtual 307, 3) := by decide +kernel
theorem dX6_seeksInsertion_26 : decode cX6_seeksInsertion 26 = .ok (.iconst 0, 1) := by decide +kernel
theorem dX6_seeksInsertion_27 : decode cX6_seeksInsertion 27 = .ok (.istore_n 3, 1) := by decide +kernel
theorem dX6_seeksInsertion_28 : decode cX6_seeksInsertion 28 = .ok (.iload_n 3, 1) := by decide +kernel
theorem dX6_seeksInsertion_29 : decode cX6_seeksInsertion 29 = .ok (.aload_n 0, 1) := by decide +kernel
theorem dX6_seeksInsertion_30 : decode cX6_seeksInsertion 30 = .ok (.getfield 7, 3) := by decide +kernel
theorem dX6_seeksInsertion_33 : decode cX6_seeksInsertion 33 = .ok (.bipush 74, 2) := by decide +kernel
theorem dX6_seeksInsertion_35 : decode cX6_seeksInsertion 35 = .ok (.iaload, 1) := by decide +kernel
theorem dX6_seeksInsertion_36 : decode cX6_seeksInsertion 36 = .ok (.if_icmp .ge 107, 3) := by decide +kernel
theorem dX6_seeksInsertion_39 : decode cX6_seeksInsertion 39 = .ok (.iload_n 2, 1) := by decide +kernel
theorem dX6_seeksInsertion_40 : decode cX6_seeksInsertion 40 = .ok (.ifCond .le 103, 3) := by decide +kernel
theorem dX6_seeksInsertion_43 : decode cX6_seeksInsertion 43 = .ok (.aload_n 0, 1) := by decide +kernel
theorem dX6_seeksInsertion_44 : decode cX6_seeksInsertion 44 = .ok (.getfield 7, 3) := by decide +kernel
theorem dX6_seeksInsertion_47 : decode cX6_seeksInsertion 47 = .ok (.bipush 107, 2) := by decide +kernel
theorem dX6_seeksInsertion_49 : decode cX6_seeksInsertion 49 = .ok (.iload_n 3, 1) := by decide +kernel
theorem dX6_seeksInsertion_50 : decode cX6_seeksInsertion 50 = .ok (.iadd, 1) := by decide +kernel
theorem dX6_seeksInsertion_51 : decode cX6_seeksInsertion 51 = .ok (.iaload, 1) := by decide +kernel
theorem dX6_seeksInsertion_52 : decode cX6_seeksInsertion 52 = .ok (.iconst (-1), 1) := by decide +kernel
theorem dX6_seeksInsertion_53 : decode cX6_seeksInsertion 53 = .ok (.if_icmp .ne 6, 3) := by decide +kernel
theorem dX6_seeksInsertion_56 : decode cX6_seeksInsertion 56 = .ok (.goto 81, 3) := by decide +kernel
theorem dX6_seeksInsertion_59 : decode cX6_seeksInsertion 59 = .ok (.aload_n 0, 1) := by decide +kernel
theorem dX6_seeksInsertion_60 : decode cX6_seeksInsertion 60 = .ok (.getfield 55, 3) := by decide +kernel
theorem dX6_seeksInsertion_63 : decode cX6_seeksInsertion 63 = .ok (.iconst 1, 1) := by decide +kernel
theorem dX6_seeksInsertion_64 : decode cX6_seeksInsertion 64 = .ok (.iload_n 3, 1) := by decide +kernel
theorem dX6_seeksInsertion_65 : decode cX6_seeksInsertion 65 = .ok (.iastore, 1) := by decide +kernel
theorem dX6_seeksInsertion_66 : decode cX6_seeksInsertion 66 = .ok (.aload_n 0, 1) := by decide +kernel
theorem dX6_seeksInsertion_67 : decode cX6_seeksInsertion 67 = .ok (.iconst 2, 1) := by decide +kernel
theorem dX6_seeksInsertion_68 : decode cX6_seeksInsertion 68 = .ok (.putfield 298, 3) := by decide +kernel
theorem dX6_seeksInsertion_71 : decode cX6_seeksInsertion 71 = .ok (.aload_n 0, 1) := by decide +kernel
theorem dX6_seeksInsertion_72 : decode cX6_seeksInsertion 72 = .ok (.invokevirtual 307, 3) := by decide +kernel
theorem dX6_seeksInsertion_75 : decode cX6_seeksInsertion 75 = .ok (.iload_n 3, 1) := by decide +kernel
theorem dX6_seeksInsertion_76 : decode cX6_seeksInsertion 76 = .ok (.iconst 1, 1) := by decide +kernel
theorem dX6_seeksInsertion_77 : decode cX6_seeksInsertion 77 = .ok (.iadd, 1) := by decide +kernel
theorem dX6_seeksInsertion_78 : decode cX6_seeksInsertion 78 = .ok (.istore 4, 2) := by decide +kernel
theorem dX6_seeksInsertion_80 : decode cX6_seeksInsertion 80 = .ok (.iload 4, 2) := by decide +kernel
theorem dX6_seeksInsertion_82 : decode cX6_seeksInsertion 82 = .ok (.aload_n 0, 1) := by decide +kernel
theorem dX6_seeksInsertion_83 : decode cX6_seeksInsertion 83 = .ok (.getfield 7, 3) := by decide +kernel
theorem dX6_seeksInsertion_86 : decode cX6_seeksInsertion 86 = .ok (.bipush 74, 2) := by decide +kernel
theorem dX6_seeksInsertion_88 : decode cX6_seeksInsertion 88 = .ok (.iaload, 1) := by decide +kernel
theorem dX6_seeksInsertion_89 : decode cX6_seeksInsertion 89 = .ok (.if_icmp .ge 48, 3) := by decide +kernel
theorem dX6_seeksInsertion_92 : decode cX6_seeksInsertion 92 = .ok (.iload_n 2, 1) := by decide +kernel
theorem dX6_seeksInsertion_93 : decode cX6_seeksInsertion 93 = .ok (.iconst 1, 1) := by decide +kernel
theorem dX6_seeksInsertion_94 : decode cX6_seeksInsertion 94 = .ok (.if_icmp .le 43, 3) := by decide +kernel
theorem dX6_seeksInsertion_97 : decode cX6_seeksInsertion 97 = .ok (.aload_n 0, 1) := by decide +kernel
theorem dX6_seeksInsertion_98 : decode cX6_seeksInsertion 98 = .ok (.getfield 7, 3) := by decide +kernel
theorem dX6_seeksInsertion_101 : decode cX6_seeksInsertion 101 = .ok (.bipush 107, 2) := by decide +kernel
theorem dX6_seeksInsertion_103 : decode cX6_seeksInsertion 103 = .ok (.iload 4, 2) := by decide +kernel
theorem dX6_seeksInsertion_105 : decode cX6_seeksInsertion 105 = .ok (.iadd, 1) := by decide +kernel
theorem dX6_seeksInsertion_106 : decode cX6_seeksInsertion 106 = .ok (.iaload, 1) := by decide +kernel
theorem dX6_seeksInsertion_107 : decode cX6_seeksInsertion 107 = .ok (.iconst (-1), 1) := by decide +kernel
theorem dX6_seeksInsertion_108 : decode cX6_seeksInsertion 108 = .ok (.if_icmp .ne 6, 3) := by decide +kernel
theorem dX6_seeksInsertion_111 : decode cX6_seeksInsertion 111 = .ok (.goto 20, 3) := by decide +kernel
theorem dX6_seeksInsertion_114 : decode cX6_seeksInsertion 114 = .ok (.aload_n 0, 1) := by decide +kernel
theorem dX6_seeksInsertion_115 : decode cX6_seeksInsertion 115 = .ok (.getfield 55, 3) := by decide +kernel
theorem dX6_seeksInsertion_118 : decode cX6_seeksInsertion 118 = .ok (.iconst 2, 1) := by decide +kernel
theorem dX6_seeksInsertion_119 : decode cX6_seeksInsertion 119 = .ok (.iload 4, 2) := by decide +kernel
theorem dX6_seeksInsertion_121 : decode cX6_seeksInsertion 121 = .ok (.iastore, 1) := by decide +kernel
theorem dX6_seeksInsertion_122 : decode cX6_seeksInsertion 122 = .ok (.aload_n 0, 1) := by decide +kernel
theorem dX6_seeksInsertion_123 : decode cX6_seeksInsertion 123 = .ok (.iconst 3, 1) := by decide +kernel
theorem dX6_seeksInsertion_124 : decode cX6_seeksInsertion 124 = .ok (.putfield 298, 3) := by decide +kernel
theorem dX6_seeksInsertion_127 : decode cX6_seeksInsertion 127 = .ok (.aload_n 0, 1) := by decide +kernel
theorem dX6_seeksInsertion_128 : decode cX6_seeksInsertion 128 = .ok (.invokevirtual 307, 3) := by decide +kernel
theorem dX6_seeksInsertion_131 : decode cX6_seeksInsertion 131 = .ok (.iinc 4 1, 3) := by decide +kernel
theorem dX6_seeksInsertion_134 : decode cX6_seeksInsertion 134 = .ok (.goto (-54), 3) := by decide +kernel
theorem dX6_seeksInsertion_137 : decode cX6_seeksInsertion 137 = .ok (.iinc 3 1, 3) := by decide +kernel
theorem dX6_seeksInsertion_140 : decode cX6_seeksInsertion 140 = .ok (.goto (-112), 3) := by decide +kernel
theorem dX6_seeksInsertion_143 : decode cX6_seeksInsertion 143 = .ok (.return_, 1) := by decide +kernel
theorem dX6_refusesInsertion_0 : decode cX6_refusesInsertion 0 = .ok (.aload_n 0, 1) := by decide +kernel
theorem dX6_refusesInsertion_1 : decode cX6_refusesInsertion 1 = .ok (.iload_n 1, 1) := by decide +kernel
theorem dX6_refusesInsertion_2 : decode cX6_refusesInsertion 2 = .ok (.invokevirtual 178, 3) := by decide +kernel
theorem dX6_refusesInsertion_5 : decode cX6_refusesInsertion 5 = .ok (.ifCond .ne 7, 3) := by decide +kernel
theorem dX6_refusesInsertion_8 : decode cX6_refusesInsertion 8 = .ok (.iconst 1, 1) := by decide +kernel
theorem dX6_refusesInsertion_9 : decode cX6_refusesInsertion 9 = .ok (.goto 37, 3) := by decide +kernel
theorem dX6_refusesInsertion_12 : decode cX6_refusesInsertion 12 = .ok (.iload_n 2, 1) := by decide +kernel
theorem dX6_refusesInsertion_13 : decode cX6_refusesInsertion 13 = .ok (.i2l, 1) := by decide +kernel
theorem dX6_refusesInsertion_14 : decode cX6_refusesInsertion 14 = .ok (.lconst 0, 1) := by decide +kernel
theorem dX6_refusesInsertion_15 : decode cX6_refusesInsertion 15 = .ok (.ldc2_w 310, 3) := by decide +kernel
theorem dX6_refusesInsertion_18 : decode cX6_refusesInsertion 18 = .ok (.invokestatic 74, 3) := by decide +kernel
theorem dX6_refusesInsertion_21 : decode cX6_refusesInsertion 21 = .ok (.ifCond .ne 7, 3) := by decide +kernel
theorem dX6_refusesInsertion_24 : decode cX6_refusesInsertion 24 = .ok (.iconst 2, 1) := by decide +kernel
theorem dX6_refusesInsertion_25 : decode cX6_refusesInsertion 25 = .ok (.goto 21, 3) := by decide +kernel
theorem dX6_refusesInsertion_28 : decode cX6_refusesInsertion 28 = .ok (.aload_n 0, 1) := by decide +kernel
theorem dX6_refusesInsertion_29 : decode cX6_refusesInsertion 29 = .ok (.getfield 7, 3) := by decide +kernel
theorem dX6_refusesInsertion_32 : decode cX6_refusesInsertion 32 = .ok (.bipush 107, 2) := by decide +kernel
theorem dX6_refusesInsertion_34 : decode cX6_refusesInsertion 34 = .ok (.iload_n 1, 1) := by decide +kernel
theorem dX6_refusesInsertion_35 : decode cX6_refusesInsertion 35 = .ok (.iadd, 1) := by decide +kernel
theorem dX6_refusesInsertion_36 : decode cX6_refusesInsertion 36 = .ok (.iaload, 1) := by decide +kernel
theorem dX6_refusesInsertion_37 : decode cX6_refusesInsertion 37 = .ok (.iconst (-1), 1) := by decide +kernel
theorem dX6_refusesInsertion_38 : decode cX6_refusesInsertion 38 = .ok (.if_icmp .eq 7, 3) := by decide +kernel
theorem dX6_refusesInsertion_41 : decode cX6_refusesInsertion 41 = .ok (.iconst 3, 1) := by decide +kernel
theorem dX6_refusesInsertion_42 : decode cX6_refusesInsertion 42 = .ok (.goto 4, 3) := by decide +kernel
theorem dX6_refusesInsertion_45 : decode cX6_refusesInsertion 45 = .ok (.iconst 0, 1) := by decide +kernel
theorem dX6_refusesInsertion_46 : decode cX6_refusesInsertion 46 = .ok (.ireturn, 1) := by decide +kernel
theorem dX6_insertionIncome_0 : decode cX6_insertionIncome 0 = .ok (.aload_n 0, 1) := by decide +kernel
theorem dX6_insertionIncome_1 : decode cX6_insertionIncome 1 = .ok (.aload_n 0, 1) := by decide +kernel
theorem dX6_insertionIncome_2 : decode cX6_insertionIncome 2 = .ok (.iload_n 1, 1) := by decide +kernel
theorem dX6_insertionIncome_3 : decode cX6_insertionIncome 3 = .ok (.iload_n 2, 1) := by decide +kernel
theorem dX6_insertionIncome_4 : decode cX6_insertionIncome 4 = .ok (.invokevirtual 312, 3) := by decide +kernel
theorem dX6_insertionIncome_7 : decode cX6_insertionIncome 7 = .ok (.putfield 58, 3) := by decide +kernel
theorem dX6_insertionIncome_10 : decode cX6_insertionIncome 10 = .ok (.aload_n 0, 1) := by decide +kernel
theorem dX6_insertionIncome_11 : decode cX6_insertionIncome 11 = .ok (.getfield 58, 3) := by decide +kernel
theorem dX6_insertionIncome_14 : decode cX6_insertionIncome 14 = .ok (.ifCond .le 5, 3) := by decide +kernel
theorem dX6_insertionIncome_17 : decode cX6_insertionIncome 17 = .ok (.iconst 0, 1) := by decide +kernel
theorem dX6_insertionIncome_18 : decode cX6_insertionIncome 18 = .ok (.ireturn, 1) := by decide +kernel
theorem dX6_insertionIncome_19 : decode cX6_insertionIncome 19 = .ok (.aload_n 0, 1) := by decide +kernel
theorem dX6_insertionIncome_20 : decode cX6_insertionIncome 20 = .ok (.iload_n 1, 1) := by decide +kernel
theorem dX6_insertionIncome_21 : decode cX6_insertionIncome 21 = .ok (.iload_n 2, 1) := by decide +kernel
theorem dX6_insertionIncome_22 : decode cX6_insertionIncome 22 = .ok (.invokevirtual 315, 3) := by decide +kernel
theorem dX6_insertionIncome_25 : decode cX6_insertionIncome 25 = .ok (.aload_n 0, 1) := by decide +kernel
theorem dX6_insertionIncome_26 : decode cX6_insertionIncome 26 = .ok (.getfield 276, 3) := by decide +kernel
theorem dX6_insertionIncome_29 : decode cX6_insertionIncome 29 = .ok (.ireturn, 1) := by decide +kernel
theorem dX6_insert_0 : decode cX6_insert 0 = .ok (.aload_n 0, 1) := by decide +kernel
theorem dX6_insert_1 : decode cX6_insert 1 = .ok (.aload_n 0, 1) := by decide +kernel
theorem dX6_insert_2 : decode cX6_insert 2 = .ok (.iload_n 1, 1) := by decide +kernel
theorem dX6_insert_3 : decode cX6_insert 3 = .ok (.iload_n 2, 1) := by decide +kernel
theorem dX6_insert_4 : decode cX6_insert 4 = .ok (.invokevirtual 312, 3) := by decide +kernel
theorem dX6_insert_7 : decode cX6_insert 7 = .ok (.putfield 58, 3) := by decide +kernel
theorem dX6_insert_10 : decode cX6_insert 10 = .ok (.aload_n 0, 1) := by decide +kernel
theorem dX6_insert_11 : decode cX6_insert 11 = .ok (.getfield 58, 3) := by decide +kernel
theorem dX6_insert_14 : decode cX6_insert 14 = .ok (.ifCond .le 5, 3) := by decide +kernel
theorem dX6_insert_17 : decode cX6_insert 17 = .ok (.iconst 0, 1) := by decide +kernel
theorem dX6_insert_18 : decode cX6_insert 18 = .ok (.ireturn, 1) := by decide +kernel
theorem dX6_insert_19 : decode cX6_insert 19 = .ok (.aload_n 0, 1) := by decide +kernel
theorem dX6_insert_20 : decode cX6_insert 20 = .ok (.iload_n 1, 1) := by decide +kernel
theorem dX6_insert_21 : decode cX6_insert 21 = .ok (.iload_n 2, 1) := by decide +kernel
theorem dX6_insert_22 : decode cX6_insert 22 = .ok (.invokevirtual 315, 3) := by decide +kernel
theorem dX6_insert_25 : decode cX6_insert 25 = .ok (.aload_n 0, 1) := by decide +kernel
theorem dX6_insert_26 : decode cX6_insert 26 = .ok (.aload_n 0, 1) := by decide +kernel
theorem dX6_insert_27 : decode cX6_insert 27 = .ok (.getfield 276, 3) := by decide +kernel
theorem dX6_insert_30 : decode cX6_insert 30 = .ok (.iconst (-1), 1) := by decide +kernel
theorem dX6_insert_31 : decode cX6_insert 31 = .ok (.if_icmp .ne 7, 3) := by decide +kernel
theorem dX6_insert_34 : decode cX6_insert 34 = .ok (.iconst 3, 1) := by decide +kernel
theorem dX6_insert_35 : decode cX6_insert 35 = .ok (.goto 4, 3) := by decide +kernel
theorem dX6_insert_38 : decode cX6_insert 38 = .ok (.iconst 0, 1) := by decide +kernel
theorem dX6_insert_39 : decode cX6_insert 39 = .ok (.putfield 58, 3) := by decide +kernel
theorem dX6_insert_42 : decode cX6_insert 42 = .ok (.aload_n 0, 1) := by decide +kernel
theorem dX6_insert_43 : decode cX6_insert 43 = .ok (.getfield 58, 3) := by decide +kernel
theorem dX6_insert_46 : decode cX6_insert 46 = .ok (.ifCond .le 5, 3) := by decide +kernel
theorem dX6_insert_49 : decode cX6_insert 49 = .ok (.iconst 0, 1) := by decide +kernel
theorem dX6_insert_50 : decode cX6_insert 50 = .ok (.ireturn, 1) := by decide +kernel
theorem dX6_insert_51 : decode cX6_insert 51 = .ok (.aload_n 0, 1) := by decide +kernel
theorem dX6_insert_52 : decode cX6_insert 52 = .ok (.invokevirtual 170, 3) := by decide +kernel
theorem dX6_insert_55 : decode cX6_insert 55 = .ok (.iconst 0, 1) := by decide +kernel
theorem dX6_insert_56 : decode cX6_insert 56 = .ok (.istore_n 3, 1) := by decide +kernel
theorem dX6_insert_57 : decode cX6_insert 57 = .ok (.iload_n 3, 1) := by decide +kernel
theorem dX6_insert_58 : decode cX6_insert 58 = .ok (.bipush 8, 2) := by decide +kernel
theorem dX6_insert_60 : decode cX6_insert 60 = .ok (.if_icmp .ge 24, 3) := by decide +kernel
theorem dX6_insert_63 : decode cX6_insert 63 = .ok (.aload_n 0, 1) := by decide +kernel
theorem dX6_insert_64 : decode cX6_insert 64 = .ok (.getfield 7, 3) := by decide +kernel
theorem dX6_insert_67 : decode cX6_insert 67 = .ok (.bipush 107, 2) := by decide +kernel
theorem dX6_insert_69 : decode cX6_insert 69 = .ok (.iload_n 3, 1) := by decide +kernel
theorem dX6_insert_70 : decode cX6_insert 70 = .ok (.iadd, 1) := by decide +kernel
theorem dX6_insert_71 : decode cX6_insert 71 = .ok (.aload_n 0, 1) := by decide +kernel
theorem dX6_insert_72 : decode cX6_insert 72 = .ok (.getfield 49, 3) := by decide +kernel
theorem dX6_insert_75 : decode cX6_insert 75 = .ok (.iload_n 3, 1) := by decide +kernel
theorem dX6_insert_76 : decode cX6_insert 76 = .ok (.iaload, 1) := by decide +kernel
theorem dX6_insert_77 : decode cX6_insert 77 = .ok (.iastore, 1) := by decide +kernel
theorem dX6_insert_78 : decode cX6_insert 78 = .ok (.iinc 3 1, 3) := by decide +kernel
theorem dX6_insert_81 : decode cX6_insert 81 = .ok (.goto (-24), 3) := by decide +kernel
theorem dX6_insert_84 : decode cX6_insert 84 = .ok (.aload_n 0, 1) := by decide +kernel
theorem dX6_insert_85 : decode cX6_insert 85 = .ok (.getfield 279, 3) := by decide +kernel
theorem dX6_insert_88 : decode cX6_insert 88 = .ok (.ireturn, 1) := by decide +kernel
theorem dJ9_max_7cf53_0 : decode cJ9_max_7cf53 0 = .ok (.iload_n 0, 1) := by decide +kernel
theorem dJ9_max_7cf53_1 : decode cJ9_max_7cf53 1 = .ok (.iload_n 1, 1) := by decide +kernel
theorem dJ9_max_7cf53_2 : decode cJ9_max_7cf53 2 = .ok (.if_icmp .lt 7, 3) := by decide +kernel
theorem dJ9_max_7cf53_5 : decode cJ9_max_7cf53 5 = .ok (.iload_n 0, 1) := by decide +kernel
theorem dJ9_max_7cf53_6 : decode cJ9_max_7cf53 6 = .ok (.goto 4, 3) := by decide +kernel
theorem dJ9_max_7cf53_9 : decode cJ9_max_7cf53 9 = .ok (.iload_n 1, 1) := by decide +kernel
theorem dJ9_max_7cf53_10 : decode cJ9_max_7cf53 10 = .ok (.ireturn, 1) := by decide +kernel
theorem dJ9_min_7cf53_0 : decode cJ9_min_7cf53 0 = .ok (.iload_n 0, 1) := by decide +kernel
theorem dJ9_min_7cf53_1 : decode cJ9_min_7cf53 1 = .ok (.iload_n 1, 1) := by decide +kernel
theorem dJ9_min_7cf53_2 : decode cJ9_min_7cf53 2 = .ok (.if_icmp .gt 7, 3) := by decide +kernel
theorem dJ9_min_7cf53_5 : decode cJ9_min_7cf53 5 = .ok (.iload_n 0, 1) := by decide +kernel
theorem dJ9_min_7cf53_6 : decode cJ9_min_7cf53 6 = .ok (.goto 4, 3) := by decide +kernel
theorem dJ9_min_7cf53_9 : decode cJ9_min_7cf53 9 = .ok (.iload_n 1, 1) := by decide +kernel
theorem dJ9_min_7cf53_10 : decode cJ9_min_7cf53 10 = .ok (.ireturn, 1) := by decide +kernel
theorem dJ0_length_8abf5_0 : decode cJ0_length_8abf5 0 = .ok (.aload_n 0, 1) := by decide +kernel
theorem dJ0_length_8abf5_1 : decode cJ0_length_8abf5 1 = .ok (.getfield 9, 3) := by decide +kernel
theorem dJ0_length_8abf5_4 : decode cJ0_length_8abf5 4 = .ok (.arraylength, 1) := by decide +kernel
theorem dJ0_length_8abf5_5 : decode cJ0_length_8abf5 5 = .ok (.aload_n 0, 1) := by decide +kernel
theorem dJ0_length_8abf5_6 : decode cJ0_length_8abf5 6 = .ok (.invokevirtual 335, 3) := by decide +kernel
theorem dJ0_length_8abf5_9 : decode cJ0_length_8abf5 9 = .ok (.ishr, 1) := by decide +kernel
theorem dJ0_length_8abf5_10 : decode cJ0_length_8abf5 10 = .ok (.ireturn, 1) := by decide +kernel
theorem dJ0_charAt_5068e_0 : decode cJ0_charAt_5068e 0 = .ok (.aload_n 0, 1) := by decide +kernel
theorem dJ0_charAt_5068e_1 : decode cJ0_charAt_5068e 1 = .ok (.invokevirtual 492, 3) := by decide +kernel
theorem dJ0_charAt_5068e_4 : decode cJ0_charAt_5068e 4 = .ok (.ifCond .eq 12, 3) := by decide +kernel
theorem dJ0_charAt_5068e_7 : decode cJ0_charAt_5068e 7 = .ok (.aload_n 0, 1) := by decide +kernel
theorem dJ0_charAt_5068e_8 : decode cJ0_charAt_5068e 8 = .ok (.getfield 9, 3) := by decide +kernel
theorem dJ0_charAt_5068e_11 : decode cJ0_charAt_5068e 11 = .ok (.iload_n 1, 1) := by decide +kernel
theorem dJ0_charAt_5068e_12 : decode cJ0_charAt_5068e 12 = .ok (.invokestatic 495, 3) := by decide +kernel
theorem dJ0_charAt_5068e_15 : decode cJ0_charAt_5068e 15 = .ok (.ireturn, 1) := by decide +kernel
theorem dJ0_charAt_5068e_16 : decode cJ0_charAt_5068e 16 = .ok (.aload_n 0, 1) := by decide +kernel
theorem dJ0_charAt_5068e_17 : decode cJ0_charAt_5068e 17 = .ok (.getfield 9, 3) := by decide +kernel
theorem dJ0_charAt_5068e_20 : decode cJ0_charAt_5068e 20 = .ok (.iload_n 1, 1) := by decide +kernel
theorem dJ0_charAt_5068e_21 : decode cJ0_charAt_5068e 21 = .ok (.invokestatic 498, 3) := by decide +kernel
theorem dJ0_charAt_5068e_24 : decode cJ0_charAt_5068e 24 = .ok (.ireturn, 1) := by decide +kernel
theorem dJ0_coder_7d493_0 : decode cJ0_coder_7d493 0 = .ok (.getstatic 38, 3) := by decide +kernel
theorem dJ0_coder_7d493_3 : decode cJ0_coder_7d493 3 = .ok (.ifCond .eq 10, 3) := by decide +kernel
theorem dJ0_coder_7d493_6 : decode cJ0_coder_7d493 6 = .ok (.aload_n 0, 1) := by decide +kernel
theorem dJ0_coder_7d493_7 : decode cJ0_coder_7d493 7 = .ok (.getfield 15, 3) := by decide +kernel
theorem dJ0_coder_7d493_10 : decode cJ0_coder_7d493 10 = .ok (.goto 4, 3) := by decide +kernel
theorem dJ0_coder_7d493_13 : decode cJ0_coder_7d493 13 = .ok (.iconst 1, 1) := by decide +kernel
theorem dJ0_coder_7d493_14 : decode cJ0_coder_7d493 14 = .ok (.ireturn, 1) := by decide +kernel
theorem dJ0_isLatin1_aae02_0 : decode cJ0_isLatin1_aae02 0 = .ok (.getstatic 38, 3) := by decide +kernel
theorem dJ0_isLatin1_aae02_3 : decode cJ0_isLatin1_aae02 3 = .ok (.ifCond .eq 14, 3) := by decide +kernel
theorem dJ0_isLatin1_aae02_6 : decode cJ0_isLatin1_aae02 6 = .ok (.aload_n 0, 1) := by decide +kernel
theorem dJ0_isLatin1_aae02_7 : decode cJ0_isLatin1_aae02 7 = .ok (.getfield 15, 3) := by decide +kernel
theorem dJ0_isLatin1_aae02_10 : decode cJ0_isLatin1_aae02 10 = .ok (.ifCond .ne 7, 3) := by decide +kernel
theorem dJ0_isLatin1_aae02_13 : decode cJ0_isLatin1_aae02 13 = .ok (.iconst 1, 1) := by decide +kernel
theorem dJ0_isLatin1_aae02_14 : decode cJ0_isLatin1_aae02 14 = .ok (.goto 4, 3) := by decide +kernel
theorem dJ0_isLatin1_aae02_17 : decode cJ0_isLatin1_aae02 17 = .ok (.iconst 0, 1) := by decide +kernel
theorem dJ0_isLatin1_aae02_18 : decode cJ0_isLatin1_aae02 18 = .ok (.ireturn, 1) := by decide +kernel
theorem dJ0_checkIndex_df160_0 : decode cJ0_checkIndex_df160 0 = .ok (.iload_n 0, 1) := by decide +kernel
theorem dJ0_checkIndex_df160_1 : decode cJ0_checkIndex_df160 1 = .ok (.iload_n 1, 1) := by decide +kernel
theorem dJ0_checkIndex_df160_2 : decode cJ0_checkIndex_df160 2 = .ok (.getstatic 1053, 3) := by decide +kernel
theorem dJ0_checkIndex_df160_5 : decode cJ0_checkIndex_df160 5 = .ok (.invokestatic 1059, 3) := by decide +kernel
theorem dJ0_checkIndex_df160_8 : decode cJ0_checkIndex_df160 8 = .ok (.pop, 1) := by decide +kernel
theorem dJ0_checkIndex_df160_9 : decode cJ0_checkIndex_df160 9 = .ok (.return_, 1) := by decide +kernel
theorem dJ1_charAt_3b067_0 : decode cJ1_charAt_3b067 0 = .ok (.iload_n 1, 1) := by decide +kernel
theorem dJ1_charAt_3b067_1 : decode cJ1_charAt_3b067 1 = .ok (.aload_n 0, 1) := by decide +kernel
theorem dJ1_charAt_3b067_2 : decode cJ1_charAt_3b067 2 = .ok (.arraylength, 1) := by decide +kernel
theorem dJ1_charAt_3b067_3 : decode cJ1_charAt_3b067 3 = .ok (.invokestatic 9, 3) := by decide +kernel
theorem dJ1_charAt_3b067_6 : decode cJ1_charAt_3b067 6 = .ok (.aload_n 0, 1) := by decide +kernel
theorem dJ1_charAt_3b067_7 : decode cJ1_charAt_3b067 7 = .ok (.iload_n 1, 1) := by decide +kernel
theorem dJ1_charAt_3b067_8 : decode cJ1_charAt_3b067 8 = .ok (.baload, 1) := by decide +kernel
theorem dJ1_charAt_3b067_9 : decode cJ1_charAt_3b067 9 = .ok (.sipush 255, 3) := by decide +kernel
theorem dJ1_charAt_3b067_12 : decode cJ1_charAt_3b067 12 = .ok (.iand, 1) := by decide +kernel
theorem dJ1_charAt_3b067_13 : decode cJ1_charAt_3b067 13 = .ok (.i2c, 1) := by decide +kernel
theorem dJ1_charAt_3b067_14 : decode cJ1_charAt_3b067 14 = .ok (.ireturn, 1) := by decide +kernel
theorem dJ2_getChar_3b067_0 : decode cJ2_getChar_3b067 0 = .ok (.getstatic 44, 3) := by decide +kernel
theorem dJ2_getChar_3b067_3 : decode cJ2_getChar_3b067 3 = .ok (.ifCond .ne 25, 3) := by decide +kernel
theorem dJ2_getChar_3b067_6 : decode cJ2_getChar_3b067 6 = .ok (.iload_n 1, 1) := by decide +kernel
theorem dJ2_getChar_3b067_7 : decode cJ2_getChar_3b067 7 = .ok (.ifCond .lt 11, 3) := by decide +kernel
theorem dJ2_getChar_3b067_10 : decode cJ2_getChar_3b067 10 = .ok (.iload_n 1, 1) := by decide +kernel
theorem dJ2_getChar_3b067_11 : decode cJ2_getChar_3b067 11 = .ok (.aload_n 0, 1) := by decide +kernel
theorem dJ2_getChar_3b067_12 : decode cJ2_getChar_3b067 12 = .ok (.invokestatic 48, 3) := by decide +kernel
theorem dJ2_getChar_3b067_15 : decode cJ2_getChar_3b067 15 = .ok (.if_icmp .lt 13, 3) := by decide +kernel
theorem dJ2_getChar_3b067_18 : decode cJ2_getChar_3b067 18 = .ok (.new 52, 3) := by decide +kernel
theorem dJ2_getChar_3b067_21 : decode cJ2_getChar_3b067 21 = .ok (.dup, 1) := by decide +kernel
theorem dJ2_getChar_3b067_22 : decode cJ2_getChar_3b067 22 = .ok (.ldc 54, 2) := by decide +kernel
theorem dJ2_getChar_3b067_24 : decode cJ2_getChar_3b067 24 = .ok (.invokespecial 56, 3) := by decide +kernel
theorem dJ2_getChar_3b067_27 : decode cJ2_getChar_3b067 27 = .ok (.athrow, 1) := by decide +kernel
theorem dJ2_getChar_3b067_28 : decode cJ2_getChar_3b067 28 = .ok (.iload_n 1, 1) := by decide +kernel
theorem dJ2_getChar_3b067_29 : decode cJ2_getChar_3b067 29 = .ok (.iconst 1, 1) := by decide +kernel
theorem dJ2_getChar_3b067_30 : decode cJ2_getChar_3b067 30 = .ok (.ishl, 1) := by decide +kernel
theorem dJ2_getChar_3b067_31 : decode cJ2_getChar_3b067 31 = .ok (.istore_n 1, 1) := by decide +kernel
theorem dJ2_getChar_3b067_32 : decode cJ2_getChar_3b067 32 = .ok (.aload_n 0, 1) := by decide +kernel
theorem dJ2_getChar_3b067_33 : decode cJ2_getChar_3b067 33 = .ok (.iload_n 1, 1) := by decide +kernel
theorem dJ2_getChar_3b067_34 : decode cJ2_getChar_3b067 34 = .ok (.iinc 1 1, 3) := by decide +kernel
theorem dJ2_getChar_3b067_37 : decode cJ2_getChar_3b067 37 = .ok (.baload, 1) := by decide +kernel
theorem dJ2_getChar_3b067_38 : decode cJ2_getChar_3b067 38 = .ok (.sipush 255, 3) := by decide +kernel
theorem dJ2_getChar_3b067_41 : decode cJ2_getChar_3b067 41 = .ok (.iand, 1) := by decide +kernel
theorem dJ2_getChar_3b067_42 : decode cJ2_getChar_3b067 42 = .ok (.getstatic 59, 3) := by decide +kernel
theorem dJ2_getChar_3b067_45 : decode cJ2_getChar_3b067 45 = .ok (.ishl, 1) := by decide +kernel
theorem dJ2_getChar_3b067_46 : decode cJ2_getChar_3b067 46 = .ok (.aload_n 0, 1) := by decide +kernel
theorem dJ2_getChar_3b067_47 : decode cJ2_getChar_3b067 47 = .ok (.iload_n 1, 1) := by decide +kernel
theorem dJ2_getChar_3b067_48 : decode cJ2_getChar_3b067 48 = .ok (.baload, 1) := by decide +kernel
theorem dJ2_getChar_3b067_49 : decode cJ2_getChar_3b067 49 = .ok (.sipush 255, 3) := by decide +kernel
theorem dJ2_getChar_3b067_52 : decode cJ2_getChar_3b067 52 = .ok (.iand, 1) := by decide +kernel
theorem dJ2_getChar_3b067_53 : decode cJ2_getChar_3b067 53 = .ok (.getstatic 63, 3) := by decide +kernel
theorem dJ2_getChar_3b067_56 : decode cJ2_getChar_3b067 56 = .ok (.ishl, 1) := by decide +kernel
theorem dJ2_getChar_3b067_57 : decode cJ2_getChar_3b067 57 = .ok (.ior, 1) := by decide +kernel
theorem dJ2_getChar_3b067_58 : decode cJ2_getChar_3b067 58 = .ok (.i2c, 1) := by decide +kernel
theorem dJ2_getChar_3b067_59 : decode cJ2_getChar_3b067 59 = .ok (.ireturn, 1) := by decide +kernel
theorem dJ2_length_9d52b_0 : decode cJ2_length_9d52b 0 = .ok (.aload_n 0, 1) := by decide +kernel
theorem dJ2_length_9d52b_1 : decode cJ2_length_9d52b 1 = .ok (.arraylength, 1) := by decide +kernel
theorem dJ2_length_9d52b_2 : decode cJ2_length_9d52b 2 = .ok (.iconst 1, 1) := by decide +kernel
theorem dJ2_length_9d52b_3 : decode cJ2_length_9d52b 3 = .ok (.ishr, 1) := by decide +kernel
theorem dJ2_length_9d52b_4 : decode cJ2_length_9d52b 4 = .ok (.ireturn, 1) := by decide +kernel
theorem dJ2_charAt_3b067_0 : decode cJ2_charAt_3b067 0 = .ok (.iload_n 1, 1) := by decide +kernel
theorem dJ2_charAt_3b067_1 : decode cJ2_charAt_3b067 1 = .ok (.aload_n 0, 1) := by decide +kernel
theorem dJ2_charAt_3b067_2 : decode cJ2_charAt_3b067 2 = .ok (.invokestatic 67, 3) := by decide +kernel
theorem dJ2_charAt_3b067_5 : decode cJ2_charAt_3b067 5 = .ok (.aload_n 0, 1) := by decide +kernel
theorem dJ2_charAt_3b067_6 : decode cJ2_charAt_3b067 6 = .ok (.iload_n 1, 1) := by decide +kernel
theorem dJ2_charAt_3b067_7 : decode cJ2_charAt_3b067 7 = .ok (.invokestatic 71, 3) := by decide +kernel
theorem dJ2_charAt_3b067_10 : decode cJ2_charAt_3b067 10 = .ok (.ireturn, 1) := by decide +kernel
theorem dJ2_checkIndex_2214a_0 : decode cJ2_checkIndex_2214a 0 = .ok (.iload_n 0, 1) := by decide +kernel
theorem dJ2_checkIndex_2214a_1 : decode cJ2_checkIndex_2214a 1 = .ok (.aload_n 1, 1) := by decide +kernel
theorem dJ2_checkIndex_2214a_2 : decode cJ2_checkIndex_2214a 2 = .ok (.invokestatic 48, 3) := by decide +kernel
theorem dJ2_checkIndex_2214a_5 : decode cJ2_checkIndex_2214a 5 = .ok (.invokestatic 414, 3) := by decide +kernel
theorem dJ2_checkIndex_2214a_8 : decode cJ2_checkIndex_2214a 8 = .ok (.return_, 1) := by decide +kernel
theorem dJ3_checkIndex_8e157_0 : decode cJ3_checkIndex_8e157 0 = .ok (.iload_n 0, 1) := by decide +kernel
theorem dJ3_checkIndex_8e157_1 : decode cJ3_checkIndex_8e157 1 = .ok (.ifCond .lt 8, 3) := by decide +kernel
theorem dJ3_checkIndex_8e157_4 : decode cJ3_checkIndex_8e157 4 = .ok (.iload_n 0, 1) := by decide +kernel
theorem dJ3_checkIndex_8e157_5 : decode cJ3_checkIndex_8e157 5 = .ok (.iload_n 1, 1) := by decide +kernel
theorem dJ3_checkIndex_8e157_6 : decode cJ3_checkIndex_8e157 6 = .ok (.if_icmp .lt 10, 3) := by decide +kernel
theorem dJ3_checkIndex_8e157_9 : decode cJ3_checkIndex_8e157 9 = .ok (.aload_n 2, 1) := by decide +kernel
theorem dJ3_checkIndex_8e157_10 : decode cJ3_checkIndex_8e157 10 = .ok (.iload_n 0, 1) := by decide +kernel
theorem dJ3_checkIndex_8e157_11 : decode cJ3_checkIndex_8e157 11 = .ok (.iload_n 1, 1) := by decide +kernel
theorem dJ3_checkIndex_8e157_12 : decode cJ3_checkIndex_8e157 12 = .ok (.invokestatic 95, 3) := by decide +kernel
theorem dJ3_checkIndex_8e157_15 : decode cJ3_checkIndex_8e157 15 = .ok (.athrow, 1) := by decide +kernel
theorem dJ3_checkIndex_8e157_16 : decode cJ3_checkIndex_8e157 16 = .ok (.iload_n 0, 1) := by decide +kernel
theorem dJ3_checkIndex_8e157_17 : decode cJ3_checkIndex_8e157 17 = .ok (.ireturn, 1) := by decide +kernel
abbrev vwCl : List vw_C := [(RX0, TX0, 3), (RX1, TX1, 7), (RX2, TX2, 14), (RX3, TX3, 10), (RX4, TX4, 6), (RX5, TX5, 12), (RX6, TX6, 28)]
