theorem dX7_best_46 : decode cX7_best 46 = .ok (.istore 7, 2) := by decide +kernel
theorem dX7_best_48 : decode cX7_best 48 = .ok (.iload 7, 2) := by decide +kernel
theorem dX7_best_50 : decode cX7_best 50 = .ok (.aload_n 0, 1) := by decide +kernel
theorem dX7_best_51 : decode cX7_best 51 = .ok (.getfield 104, 3) := by decide +kernel
theorem dX7_best_54 : decode cX7_best 54 = .ok (.if_icmp .ge 97, 3) := by decide +kernel
theorem dX7_best_57 : decode cX7_best 57 = .ok (.aload_n 0, 1) := by decide +kernel
theorem dX7_best_58 : decode cX7_best 58 = .ok (.iload 7, 2) := by decide +kernel
theorem dX7_best_60 : decode cX7_best 60 = .ok (.iload 5, 2) := by decide +kernel
theorem dX7_best_62 : decode cX7_best 62 = .ok (.iload 6, 2) := by decide +kernel
theorem dX7_best_64 : decode cX7_best 64 = .ok (.invokevirtual 196, 3) := by decide +kernel
theorem dX7_best_67 : decode cX7_best 67 = .ok (.ifCond .eq 78, 3) := by decide +kernel
theorem dX7_best_70 : decode cX7_best 70 = .ok (.aload_n 0, 1) := by decide +kernel
theorem dX7_best_71 : decode cX7_best 71 = .ok (.getfield 63, 3) := by decide +kernel
theorem dX7_best_74 : decode cX7_best 74 = .ok (.aload_n 0, 1) := by decide +kernel
theorem dX7_best_75 : decode cX7_best 75 = .ok (.getfield 193, 3) := by decide +kernel
theorem dX7_best_78 : decode cX7_best 78 = .ok (.aload_n 0, 1) := by decide +kernel
theorem dX7_best_79 : decode cX7_best 79 = .ok (.getfield 42, 3) := by decide +kernel
theorem dX7_best_82 : decode cX7_best 82 = .ok (.iload 7, 2) := by decide +kernel
theorem dX7_best_84 : decode cX7_best 84 = .ok (.iaload, 1) := by decide +kernel
theorem dX7_best_85 : decode cX7_best 85 = .ok (.iastore, 1) := by decide +kernel
theorem dX7_best_86 : decode cX7_best 86 = .ok (.aload_n 0, 1) := by decide +kernel
theorem dX7_best_87 : decode cX7_best 87 = .ok (.getfield 66, 3) := by decide +kernel
theorem dX7_best_90 : decode cX7_best 90 = .ok (.aload_n 0, 1) := by decide +kernel
theorem dX7_best_91 : decode cX7_best 91 = .ok (.getfield 193, 3) := by decide +kernel
theorem dX7_best_94 : decode cX7_best 94 = .ok (.aload_n 0, 1) := by decide +kernel
theorem dX7_best_95 : decode cX7_best 95 = .ok (.getfield 45, 3) := by decide +kernel
theorem dX7_best_98 : decode cX7_best 98 = .ok (.iload 7, 2) := by decide +kernel
theorem dX7_best_100 : decode cX7_best 100 = .ok (.iaload, 1) := by decide +kernel
theorem dX7_best_101 : decode cX7_best 101 = .ok (.iastore, 1) := by decide +kernel
theorem dX7_best_102 : decode cX7_best 102 = .ok (.aload_n 0, 1) := by decide +kernel
theorem dX7_best_103 : decode cX7_best 103 = .ok (.getfield 69, 3) := by decide +kernel
theorem dX7_best_106 : decode cX7_best 106 = .ok (.aload_n 0, 1) := by decide +kernel
theorem dX7_best_107 : decode cX7_best 107 = .ok (.getfield 193, 3) := by decide +kernel
theorem dX7_best_110 : decode cX7_best 110 = .ok (.aload_n 0, 1) := by decide +kernel
theorem dX7_best_111 : decode cX7_best 111 = .ok (.getfield 48, 3) := by decide +kernel
theorem dX7_best_114 : decode cX7_best 114 = .ok (.iload 7, 2) := by decide +kernel
theorem dX7_best_116 : decode cX7_best 116 = .ok (.iaload, 1) := by decide +kernel
theorem dX7_best_117 : decode cX7_best 117 = .ok (.iastore, 1) := by decide +kernel
theorem dX7_best_118 : decode cX7_best 118 = .ok (.aload_n 0, 1) := by decide +kernel
theorem dX7_best_119 : decode cX7_best 119 = .ok (.getfield 72, 3) := by decide +kernel
theorem dX7_best_122 : decode cX7_best 122 = .ok (.aload_n 0, 1) := by decide +kernel
theorem dX7_best_123 : decode cX7_best 123 = .ok (.getfield 193, 3) := by decide +kernel
theorem dX7_best_126 : decode cX7_best 126 = .ok (.aload_n 0, 1) := by decide +kernel
theorem dX7_best_127 : decode cX7_best 127 = .ok (.iload 7, 2) := by decide +kernel
theorem dX7_best_129 : decode cX7_best 129 = .ok (.iload 5, 2) := by decide +kernel
theorem dX7_best_131 : decode cX7_best 131 = .ok (.invokevirtual 166, 3) := by decide +kernel
theorem dX7_best_134 : decode cX7_best 134 = .ok (.iastore, 1) := by decide +kernel
theorem dX7_best_135 : decode cX7_best 135 = .ok (.aload_n 0, 1) := by decide +kernel
theorem dX7_best_136 : decode cX7_best 136 = .ok (.dup, 1) := by decide +kernel
theorem dX7_best_137 : decode cX7_best 137 = .ok (.getfield 193, 3) := by decide +kernel
theorem dX7_best_140 : decode cX7_best 140 = .ok (.iconst 1, 1) := by decide +kernel
theorem dX7_best_141 : decode cX7_best 141 = .ok (.iadd, 1) := by decide +kernel
theorem dX7_best_142 : decode cX7_best 142 = .ok (.putfield 193, 3) := by decide +kernel
theorem dX7_best_145 : decode cX7_best 145 = .ok (.iinc 7 1, 3) := by decide +kernel
theorem dX7_best_148 : decode cX7_best 148 = .ok (.goto (-100), 3) := by decide +kernel
theorem dX7_best_151 : decode cX7_best 151 = .ok (.aload_n 0, 1) := by decide +kernel
theorem dX7_best_152 : decode cX7_best 152 = .ok (.getfield 193, 3) := by decide +kernel
theorem dX7_best_155 : decode cX7_best 155 = .ok (.ireturn, 1) := by decide +kernel
theorem dX7_move_0 : decode cX7_move 0 = .ok (.aload_n 0, 1) := by decide +kernel
theorem dX7_move_1 : decode cX7_move 1 = .ok (.iconst 0, 1) := by decide +kernel
theorem dX7_move_2 : decode cX7_move 2 = .ok (.putfield 81, 3) := by decide +kernel
theorem dX7_move_5 : decode cX7_move 5 = .ok (.iload_n 1, 1) := by decide +kernel
theorem dX7_move_6 : decode cX7_move 6 = .ok (.iconst 0, 1) := by decide +kernel
theorem dX7_move_7 : decode cX7_move 7 = .ok (.aload_n 0, 1) := by decide +kernel
theorem dX7_move_8 : decode cX7_move 8 = .ok (.getfield 193, 3) := by decide +kernel
theorem dX7_move_11 : decode cX7_move 11 = .ok (.iconst 1, 1) := by decide +kernel
theorem dX7_move_12 : decode cX7_move 12 = .ok (.isub, 1) := by decide +kernel
theorem dX7_move_13 : decode cX7_move 13 = .ok (.invokestatic 84, 3) := by decide +kernel
theorem dX7_move_16 : decode cX7_move 16 = .ok (.ifCond .ne 5, 3) := by decide +kernel
theorem dX7_move_19 : decode cX7_move 19 = .ok (.iconst (-1), 1) := by decide +kernel
theorem dX7_move_20 : decode cX7_move 20 = .ok (.ireturn, 1) := by decide +kernel
theorem dX7_move_21 : decode cX7_move 21 = .ok (.iload_n 2, 1) := by decide +kernel
theorem dX7_move_22 : decode cX7_move 22 = .ok (.ifCond .ne 12, 3) := by decide +kernel
theorem dX7_move_25 : decode cX7_move 25 = .ok (.aload_n 0, 1) := by decide +kernel
theorem dX7_move_26 : decode cX7_move 26 = .ok (.getfield 63, 3) := by decide +kernel
theorem dX7_move_29 : decode cX7_move 29 = .ok (.iload_n 1, 1) := by decide +kernel
theorem dX7_move_30 : decode cX7_move 30 = .ok (.iaload, 1) := by decide +kernel
theorem dX7_move_31 : decode cX7_move 31 = .ok (.goto 46, 3) := by decide +kernel
theorem dX7_move_34 : decode cX7_move 34 = .ok (.iload_n 2, 1) := by decide +kernel
theorem dX7_move_35 : decode cX7_move 35 = .ok (.iconst 1, 1) := by decide +kernel
theorem dX7_move_36 : decode cX7_move 36 = .ok (.if_icmp .ne 12, 3) := by decide +kernel
theorem dX7_move_39 : decode cX7_move 39 = .ok (.aload_n 0, 1) := by decide +kernel
theorem dX7_move_40 : decode cX7_move 40 = .ok (.getfield 66, 3) := by decide +kernel
theorem dX7_move_43 : decode cX7_move 43 = .ok (.iload_n 1, 1) := by decide +kernel
theorem dX7_move_44 : decode cX7_move 44 = .ok (.iaload, 1) := by decide +kernel
theorem dX7_move_45 : decode cX7_move 45 = .ok (.goto 32, 3) := by decide +kernel
theorem dX7_move_48 : decode cX7_move 48 = .ok (.iload_n 2, 1) := by decide +kernel
theorem dX7_move_49 : decode cX7_move 49 = .ok (.iconst 2, 1) := by decide +kernel
theorem dX7_move_50 : decode cX7_move 50 = .ok (.if_icmp .ne 12, 3) := by decide +kernel
theorem dX7_move_53 : decode cX7_move 53 = .ok (.aload_n 0, 1) := by decide +kernel
theorem dX7_move_54 : decode cX7_move 54 = .ok (.getfield 69, 3) := by decide +kernel
theorem dX7_move_57 : decode cX7_move 57 = .ok (.iload_n 1, 1) := by decide +kernel
theorem dX7_move_58 : decode cX7_move 58 = .ok (.iaload, 1) := by decide +kernel
theorem dX7_move_59 : decode cX7_move 59 = .ok (.goto 18, 3) := by decide +kernel
theorem dX7_move_62 : decode cX7_move 62 = .ok (.iload_n 2, 1) := by decide +kernel
theorem dX7_move_63 : decode cX7_move 63 = .ok (.iconst 3, 1) := by decide +kernel
theorem dX7_move_64 : decode cX7_move 64 = .ok (.if_icmp .ne 12, 3) := by decide +kernel
theorem dX7_move_67 : decode cX7_move 67 = .ok (.aload_n 0, 1) := by decide +kernel
theorem dX7_move_68 : decode cX7_move 68 = .ok (.getfield 72, 3) := by decide +kernel
theorem dX7_move_71 : decode cX7_move 71 = .ok (.iload_n 1, 1) := by decide +kernel
theorem dX7_move_72 : decode cX7_move 72 = .ok (.iaload, 1) := by decide +kernel
theorem dX7_move_73 : decode cX7_move 73 = .ok (.goto 4, 3) := by decide +kernel
theorem dX7_move_76 : decode cX7_move 76 = .ok (.iconst (-1), 1) := by decide +kernel
theorem dX7_move_77 : decode cX7_move 77 = .ok (.ireturn, 1) := by decide +kernel
theorem dX7_keep_0 : decode cX7_keep 0 = .ok (.aload_n 0, 1) := by decide +kernel
theorem dX7_keep_1 : decode cX7_keep 1 = .ok (.getfield 78, 3) := by decide +kernel
theorem dX7_keep_4 : decode cX7_keep 4 = .ok (.iconst 5, 1) := by decide +kernel
theorem dX7_keep_5 : decode cX7_keep 5 = .ok (.iload_n 1, 1) := by decide +kernel
theorem dX7_keep_6 : decode cX7_keep 6 = .ok (.imul, 1) := by decide +kernel
theorem dX7_keep_7 : decode cX7_keep 7 = .ok (.iload_n 2, 1) := by decide +kernel
theorem dX7_keep_8 : decode cX7_keep 8 = .ok (.iastore, 1) := by decide +kernel
theorem dX7_keep_9 : decode cX7_keep 9 = .ok (.aload_n 0, 1) := by decide +kernel
theorem dX7_keep_10 : decode cX7_keep 10 = .ok (.getfield 78, 3) := by decide +kernel
theorem dX7_keep_13 : decode cX7_keep 13 = .ok (.iconst 5, 1) := by decide +kernel
theorem dX7_keep_14 : decode cX7_keep 14 = .ok (.iload_n 1, 1) := by decide +kernel
theorem dX7_keep_15 : decode cX7_keep 15 = .ok (.imul, 1) := by decide +kernel
theorem dX7_keep_16 : decode cX7_keep 16 = .ok (.iconst 1, 1) := by decide +kernel
theorem dX7_keep_17 : decode cX7_keep 17 = .ok (.iadd, 1) := by decide +kernel
theorem dX7_keep_18 : decode cX7_keep 18 = .ok (.iload_n 3, 1) := by decide +kernel
theorem dX7_keep_19 : decode cX7_keep 19 = .ok (.iastore, 1) := by decide +kernel
theorem dX7_keep_20 : decode cX7_keep 20 = .ok (.aload_n 0, 1) := by decide +kernel
theorem dX7_keep_21 : decode cX7_keep 21 = .ok (.getfield 78, 3) := by decide +kernel
theorem dX7_keep_24 : decode cX7_keep 24 = .ok (.iconst 5, 1) := by decide +kernel
theorem dX7_keep_25 : decode cX7_keep 25 = .ok (.iload_n 1, 1) := by decide +kernel
theorem dX7_keep_26 : decode cX7_keep 26 = .ok (.imul, 1) := by decide +kernel
theorem dX7_keep_27 : decode cX7_keep 27 = .ok (.iconst 2, 1) := by decide +kernel
theorem dX7_keep_28 : decode cX7_keep 28 = .ok (.iadd, 1) := by decide +kernel
theorem dX7_keep_29 : decode cX7_keep 29 = .ok (.iload 4, 2) := by decide +kernel
theorem dX7_keep_31 : decode cX7_keep 31 = .ok (.iastore, 1) := by decide +kernel
theorem dX7_keep_32 : decode cX7_keep 32 = .ok (.aload_n 0, 1) := by decide +kernel
theorem dX7_keep_33 : decode cX7_keep 33 = .ok (.getfield 78, 3) := by decide +kernel
theorem dX7_keep_36 : decode cX7_keep 36 = .ok (.iconst 5, 1) := by decide +kernel
theorem dX7_keep_37 : decode cX7_keep 37 = .ok (.iload_n 1, 1) := by decide +kernel
theorem dX7_keep_38 : decode cX7_keep 38 = .ok (.imul, 1) := by decide +kernel
theorem dX7_keep_39 : decode cX7_keep 39 = .ok (.iconst 3, 1) := by decide +kernel
theorem dX7_keep_40 : decode cX7_keep 40 = .ok (.iadd, 1) := by decide +kernel
theorem dX7_keep_41 : decode cX7_keep 41 = .ok (.iload 5, 2) := by decide +kernel
theorem dX7_keep_43 : decode cX7_keep 43 = .ok (.iastore, 1) := by decide +kernel
theorem dX7_keep_44 : decode cX7_keep 44 = .ok (.aload_n 0, 1) := by decide +kernel
theorem dX7_keep_45 : decode cX7_keep 45 = .ok (.getfield 78, 3) := by decide +kernel
theorem dX7_keep_48 : decode cX7_keep 48 = .ok (.iconst 5, 1) := by decide +kernel
theorem dX7_keep_49 : decode cX7_keep 49 = .ok (.iload_n 1, 1) := by decide +kernel
theorem dX7_keep_50 : decode cX7_keep 50 = .ok (.imul, 1) := by decide +kernel
theorem dX7_keep_51 : decode cX7_keep 51 = .ok (.iconst 4, 1) := by decide +kernel
theorem dX7_keep_52 : decode cX7_keep 52 = .ok (.iadd, 1) := by decide +kernel
theorem dX7_keep_53 : decode cX7_keep 53 = .ok (.iload 6, 2) := by decide +kernel
theorem dX7_keep_55 : decode cX7_keep 55 = .ok (.iastore, 1) := by decide +kernel
theorem dX7_keep_56 : decode cX7_keep 56 = .ok (.return_, 1) := by decide +kernel
theorem dX7_line_0 : decode cX7_line 0 = .ok (.aload_n 0, 1) := by decide +kernel
theorem dX7_line_1 : decode cX7_line 1 = .ok (.iload_n 1, 1) := by decide +kernel
theorem dX7_line_2 : decode cX7_line 2 = .ok (.iload_n 2, 1) := by decide +kernel
theorem dX7_line_3 : decode cX7_line 3 = .ok (.iload_n 3, 1) := by decide +kernel
theorem dX7_line_4 : decode cX7_line 4 = .ok (.iload 4, 2) := by decide +kernel
theorem dX7_line_6 : decode cX7_line 6 = .ok (.iload 5, 2) := by decide +kernel
theorem dX7_line_8 : decode cX7_line 8 = .ok (.invokevirtual 190, 3) := by decide +kernel
theorem dX7_line_11 : decode cX7_line 11 = .ok (.ifCond .ne 5, 3) := by decide +kernel
theorem dX7_line_14 : decode cX7_line 14 = .ok (.iconst 0, 1) := by decide +kernel
theorem dX7_line_15 : decode cX7_line 15 = .ok (.ireturn, 1) := by decide +kernel
theorem dX7_line_16 : decode cX7_line 16 = .ok (.aload_n 0, 1) := by decide +kernel
theorem dX7_line_17 : decode cX7_line 17 = .ok (.iload_n 1, 1) := by decide +kernel
theorem dX7_line_18 : decode cX7_line 18 = .ok (.iload_n 2, 1) := by decide +kernel
theorem dX7_line_19 : decode cX7_line 19 = .ok (.iload_n 3, 1) := by decide +kernel
theorem dX7_line_20 : decode cX7_line 20 = .ok (.iload 4, 2) := by decide +kernel
theorem dX7_line_22 : decode cX7_line 22 = .ok (.iload 5, 2) := by decide +kernel
theorem dX7_line_24 : decode cX7_line 24 = .ok (.invokevirtual 123, 3) := by decide +kernel
theorem dX7_line_27 : decode cX7_line 27 = .ok (.istore 6, 2) := by decide +kernel
theorem dX7_line_29 : decode cX7_line 29 = .ok (.aload_n 0, 1) := by decide +kernel
theorem dX7_line_30 : decode cX7_line 30 = .ok (.iconst 0, 1) := by decide +kernel
theorem dX7_line_31 : decode cX7_line 31 = .ok (.iload_n 1, 1) := by decide +kernel
theorem dX7_line_32 : decode cX7_line 32 = .ok (.iload_n 2, 1) := by decide +kernel
theorem dX7_line_33 : decode cX7_line 33 = .ok (.iload_n 3, 1) := by decide +kernel
theorem dX7_line_34 : decode cX7_line 34 = .ok (.iload 4, 2) := by decide +kernel
theorem dX7_line_36 : decode cX7_line 36 = .ok (.iload 5, 2) := by decide +kernel
theorem dX7_line_38 : decode cX7_line 38 = .ok (.invokevirtual 199, 3) := by decide +kernel
theorem dX7_line_41 : decode cX7_line 41 = .ok (.iload 6, 2) := by decide +kernel
theorem dX7_line_43 : decode cX7_line 43 = .ok (.iconst (-1), 1) := by decide +kernel
theorem dX7_line_44 : decode cX7_line 44 = .ok (.if_icmp .ne 7, 3) := by decide +kernel
theorem dX7_line_47 : decode cX7_line 47 = .ok (.iconst 0, 1) := by decide +kernel
theorem dX7_line_48 : decode cX7_line 48 = .ok (.goto 5, 3) := by decide +kernel
theorem dX7_line_51 : decode cX7_line 51 = .ok (.iload 6, 2) := by decide +kernel
theorem dX7_line_53 : decode cX7_line 53 = .ok (.istore 7, 2) := by decide +kernel
theorem dX7_line_55 : decode cX7_line 55 = .ok (.iconst 0, 1) := by decide +kernel
theorem dX7_line_56 : decode cX7_line 56 = .ok (.istore 8, 2) := by decide +kernel
theorem dX7_line_58 : decode cX7_line 58 = .ok (.iload 8, 2) := by decide +kernel
theorem dX7_line_60 : decode cX7_line 60 = .ok (.iload 7, 2) := by decide +kernel
theorem dX7_line_62 : decode cX7_line 62 = .ok (.if_icmp .ge 135, 3) := by decide +kernel
theorem dX7_line_65 : decode cX7_line 65 = .ok (.aload_n 0, 1) := by decide +kernel
theorem dX7_line_66 : decode cX7_line 66 = .ok (.getfield 78, 3) := by decide +kernel
theorem dX7_line_69 : decode cX7_line 69 = .ok (.iconst 5, 1) := by decide +kernel
theorem dX7_line_70 : decode cX7_line 70 = .ok (.iload 8, 2) := by decide +kernel
theorem dX7_line_72 : decode cX7_line 72 = .ok (.imul, 1) := by decide +kernel
theorem dX7_line_73 : decode cX7_line 73 = .ok (.iconst 4, 1) := by decide +kernel
theorem dX7_line_74 : decode cX7_line 74 = .ok (.iadd, 1) := by decide +kernel
theorem dX7_line_75 : decode cX7_line 75 = .ok (.iaload, 1) := by decide +kernel
theorem dX7_line_76 : decode cX7_line 76 = .ok (.istore 9, 2) := by decide +kernel
theorem dX7_line_78 : decode cX7_line 78 = .ok (.aload_n 0, 1) := by decide +kernel
theorem dX7_line_79 : decode cX7_line 79 = .ok (.aload_n 0, 1) := by decide +kernel
theorem dX7_line_80 : decode cX7_line 80 = .ok (.getfield 78, 3) := by decide +kernel
theorem dX7_line_83 : decode cX7_line 83 = .ok (.iconst 5, 1) := by decide +kernel
theorem dX7_line_84 : decode cX7_line 84 = .ok (.iload 8, 2) := by decide +kernel
theorem dX7_line_86 : decode cX7_line 86 = .ok (.imul, 1) := by decide +kernel
theorem dX7_line_87 : decode cX7_line 87 = .ok (.iaload, 1) := by decide +kernel
theorem dX7_line_88 : decode cX7_line 88 = .ok (.aload_n 0, 1) := by decide +kernel
theorem dX7_line_89 : decode cX7_line 89 = .ok (.getfield 78, 3) := by decide +kernel
theorem dX7_line_92 : decode cX7_line 92 = .ok (.iconst 5, 1) := by decide +kernel
theorem dX7_line_93 : decode cX7_line 93 = .ok (.iload 8, 2) := by decide +kernel
theorem dX7_line_95 : decode cX7_line 95 = .ok (.imul, 1) := by decide +kernel
theorem dX7_line_96 : decode cX7_line 96 = .ok (.iconst 1, 1) := by decide +kernel
theorem dX7_line_97 : decode cX7_line 97 = .ok (.iadd, 1) := by decide +kernel
theorem dX7_line_98 : decode cX7_line 98 = .ok (.iaload, 1) := by decide +kernel
theorem dX7_line_99 : decode cX7_line 99 = .ok (.aload_n 0, 1) := by decide +kernel
theorem dX7_line_100 : decode cX7_line 100 = .ok (.getfield 78, 3) := by decide +kernel
theorem dX7_line_103 : decode cX7_line 103 = .ok (.iconst 5, 1) := by decide +kernel
theorem dX7_line_104 : decode cX7_line 104 = .ok (.iload 8, 2) := by decide +kernel
theorem dX7_line_106 : decode cX7_line 106 = .ok (.imul, 1) := by decide +kernel
theorem dX7_line_107 : decode cX7_line 107 = .ok (.iconst 2, 1) := by decide +kernel
theorem dX7_line_108 : decode cX7_line 108 = .ok (.iadd, 1) := by decide +kernel
theorem dX7_line_109 : decode cX7_line 109 = .ok (.iaload, 1) := by decide +kernel
theorem dX7_line_110 : decode cX7_line 110 = .ok (.aload_n 0, 1) := by decide +kernel
theorem dX7_line_111 : decode cX7_line 111 = .ok (.getfield 78, 3) := by decide +kernel
theorem dX7_line_114 : decode cX7_line 114 = .ok (.iconst 5, 1) := by decide +kernel
theorem dX7_line_115 : decode cX7_line 115 = .ok (.iload 8, 2) := by decide +kernel
theorem dX7_line_117 : decode cX7_line 117 = .ok (.imul, 1) := by decide +kernel
theorem dX7_line_118 : decode cX7_line 118 = .ok (.iconst 3, 1) := by decide +kernel
theorem dX7_line_119 : decode cX7_line 119 = .ok (.iadd, 1) := by decide +kernel
theorem dX7_line_120 : decode cX7_line 120 = .ok (.iaload, 1) := by decide +kernel
theorem dX7_line_121 : decode cX7_line 121 = .ok (.iload 9, 2) := by decide +kernel
theorem dX7_line_123 : decode cX7_line 123 = .ok (.invokevirtual 138, 3) := by decide +kernel
theorem dX7_line_126 : decode cX7_line 126 = .ok (.iconst 0, 1) := by decide +kernel
theorem dX7_line_127 : decode cX7_line 127 = .ok (.istore 10, 2) := by decide +kernel
theorem dX7_line_129 : decode cX7_line 129 = .ok (.aload_n 0, 1) := by decide +kernel
theorem dX7_line_130 : decode cX7_line 130 = .ok (.iload 10, 2) := by decide +kernel
theorem dX7_line_132 : decode cX7_line 132 = .ok (.iload 9, 2) := by decide +kernel
theorem dX7_line_134 : decode cX7_line 134 = .ok (.iload 6, 2) := by decide +kernel
theorem dX7_line_136 : decode cX7_line 136 = .ok (.iload 8, 2) := by decide +kernel
theorem dX7_line_138 : decode cX7_line 138 = .ok (.isub, 1) := by decide +kernel
theorem dX7_line_139 : decode cX7_line 139 = .ok (.invokevirtual 196, 3) := by decide +kernel
theorem dX7_line_142 : decode cX7_line 142 = .ok (.ifCond .ne 9, 3) := by decide +kernel
theorem dX7_line_145 : decode cX7_line 145 = .ok (.iinc 10 1, 3) := by decide +kernel
theorem dX7_line_148 : decode cX7_line 148 = .ok (.goto (-19), 3) := by decide +kernel
theorem dX7_line_151 : decode cX7_line 151 = .ok (.aload_n 0, 1) := by decide +kernel
theorem dX7_line_152 : decode cX7_line 152 = .ok (.iload 8, 2) := by decide +kernel
theorem dX7_line_154 : decode cX7_line 154 = .ok (.iconst 1, 1) := by decide +kernel
theorem dX7_line_155 : decode cX7_line 155 = .ok (.iadd, 1) := by decide +kernel
theorem dX7_line_156 : decode cX7_line 156 = .ok (.aload_n 0, 1) := by decide +kernel
theorem dX7_line_157 : decode cX7_line 157 = .ok (.getfield 51, 3) := by decide +kernel
theorem dX7_line_160 : decode cX7_line 160 = .ok (.iload 10, 2) := by decide +kernel
theorem dX7_line_162 : decode cX7_line 162 = .ok (.iaload, 1) := by decide +kernel
theorem dX7_line_163 : decode cX7_line 163 = .ok (.aload_n 0, 1) := by decide +kernel
theorem dX7_line_164 : decode cX7_line 164 = .ok (.getfield 54, 3) := by decide +kernel
theorem dX7_line_167 : decode cX7_line 167 = .ok (.iload 10, 2) := by decide +kernel
theorem dX7_line_169 : decode cX7_line 169 = .ok (.iaload, 1) := by decide +kernel
theorem dX7_line_170 : decode cX7_line 170 = .ok (.aload_n 0, 1) := by decide +kernel
theorem dX7_line_171 : decode cX7_line 171 = .ok (.getfield 57, 3) := by decide +kernel
theorem dX7_line_174 : decode cX7_line 174 = .ok (.iload 10, 2) := by decide +kernel
theorem dX7_line_176 : decode cX7_line 176 = .ok (.iaload, 1) := by decide +kernel
theorem dX7_line_177 : decode cX7_line 177 = .ok (.aload_n 0, 1) := by decide +kernel
theorem dX7_line_178 : decode cX7_line 178 = .ok (.getfield 60, 3) := by decide +kernel
theorem dX7_line_181 : decode cX7_line 181 = .ok (.iload 10, 2) := by decide +kernel
theorem dX7_line_183 : decode cX7_line 183 = .ok (.iaload, 1) := by decide +kernel
theorem dX7_line_184 : decode cX7_line 184 = .ok (.iconst 1, 1) := by decide +kernel
theorem dX7_line_185 : decode cX7_line 185 = .ok (.iload 9, 2) := by decide +kernel
theorem dX7_line_187 : decode cX7_line 187 = .ok (.isub, 1) := by decide +kernel
theorem dX7_line_188 : decode cX7_line 188 = .ok (.invokevirtual 199, 3) := by decide +kernel
theorem dX7_line_191 : decode cX7_line 191 = .ok (.iinc 8 1, 3) := by decide +kernel
theorem dX7_line_194 : decode cX7_line 194 = .ok (.goto (-136), 3) := by decide +kernel
theorem dX7_line_197 : decode cX7_line 197 = .ok (.aload_n 0, 1) := by decide +kernel
theorem dX7_line_198 : decode cX7_line 198 = .ok (.iload 7, 2) := by decide +kernel
theorem dX7_line_200 : decode cX7_line 200 = .ok (.putfield 75, 3) := by decide +kernel
theorem dX7_line_203 : decode cX7_line 203 = .ok (.iload 7, 2) := by decide +kernel
theorem dX7_line_205 : decode cX7_line 205 = .ok (.ireturn, 1) := by decide +kernel
theorem dX7_ply_0 : decode cX7_ply 0 = .ok (.aload_n 0, 1) := by decide +kernel
theorem dX7_ply_1 : decode cX7_ply 1 = .ok (.iconst 0, 1) := by decide +kernel
theorem dX7_ply_2 : decode cX7_ply 2 = .ok (.putfield 81, 3) := by decide +kernel
theorem dX7_ply_5 : decode cX7_ply 5 = .ok (.iload_n 1, 1) := by decide +kernel
theorem dX7_ply_6 : decode cX7_ply 6 = .ok (.iconst 0, 1) := by decide +kernel
theorem dX7_ply_7 : decode cX7_ply 7 = .ok (.aload_n 0, 1) := by decide +kernel
theorem dX7_ply_8 : decode cX7_ply 8 = .ok (.getfield 75, 3) := by decide +kernel
theorem dX7_ply_11 : decode cX7_ply 11 = .ok (.invokestatic 84, 3) := by decide +kernel
theorem dX7_ply_14 : decode cX7_ply 14 = .ok (.ifCond .eq 25, 3) := by decide +kernel
theorem dX7_ply_17 : decode cX7_ply 17 = .ok (.iload_n 2, 1) := by decide +kernel
theorem dX7_ply_18 : decode cX7_ply 18 = .ok (.iconst 0, 1) := by decide +kernel
theorem dX7_ply_19 : decode cX7_ply 19 = .ok (.iconst 4, 1) := by decide +kernel
theorem dX7_ply_20 : decode cX7_ply 20 = .ok (.invokestatic 84, 3) := by decide +kernel
theorem dX7_ply_23 : decode cX7_ply 23 = .ok (.ifCond .eq 16, 3) := by decide +kernel
theorem dX7_ply_26 : decode cX7_ply 26 = .ok (.aload_n 0, 1) := by decide +kernel
theorem dX7_ply_27 : decode cX7_ply 27 = .ok (.getfield 78, 3) := by decide +kernel
theorem dX7_ply_30 : decode cX7_ply 30 = .ok (.iconst 5, 1) := by decide +kernel
theorem dX7_ply_31 : decode cX7_ply 31 = .ok (.iload_n 1, 1) := by decide +kernel
theorem dX7_ply_32 : decode cX7_ply 32 = .ok (.imul, 1) := by decide +kernel
theorem dX7_ply_33 : decode cX7_ply 33 = .ok (.iload_n 2, 1) := by decide +kernel
theorem dX7_ply_34 : decode cX7_ply 34 = .ok (.iadd, 1) := by decide +kernel
theorem dX7_ply_35 : decode cX7_ply 35 = .ok (.iaload, 1) := by decide +kernel
theorem dX7_ply_36 : decode cX7_ply 36 = .ok (.goto 4, 3) := by decide +kernel
theorem dX7_ply_39 : decode cX7_ply 39 = .ok (.iconst (-1), 1) := by decide +kernel
theorem dX7_ply_40 : decode cX7_ply 40 = .ok (.ireturn, 1) := by decide +kernel
theorem dX7_number_0 : decode cX7_number 0 = .ok (.aload_n 0, 1) := by decide +kernel
theorem dX7_number_1 : decode cX7_number 1 = .ok (.iload_n 1, 1) := by decide +kernel
theorem dX7_number_2 : decode cX7_number 2 = .ok (.iload_n 2, 1) := by decide +kernel
theorem dX7_number_3 : decode cX7_number 3 = .ok (.iload_n 3, 1) := by decide +kernel
theorem dX7_number_4 : decode cX7_number 4 = .ok (.iload 4, 2) := by decide +kernel
theorem dX7_number_6 : decode cX7_number 6 = .ok (.iload 5, 2) := by decide +kernel
theorem dX7_number_8 : decode cX7_number 8 = .ok (.invokevirtual 190, 3) := by decide +kernel
theorem dX7_number_11 : decode cX7_number 11 = .ok (.ifCond .ne 5, 3) := by decide +kernel
theorem dX7_number_14 : decode cX7_number 14 = .ok (.iconst 0, 1) := by decide +kernel
theorem dX7_number_15 : decode cX7_number 15 = .ok (.ireturn, 1) := by decide +kernel
theorem dX7_number_16 : decode cX7_number 16 = .ok (.aload_n 0, 1) := by decide +kernel
theorem dX7_number_17 : decode cX7_number 17 = .ok (.iload_n 1, 1) := by decide +kernel
theorem dX7_number_18 : decode cX7_number 18 = .ok (.aload_n 0, 1) := by decide +kernel
theorem dX7_number_19 : decode cX7_number 19 = .ok (.iload_n 1, 1) := by decide +kernel
theorem dX7_number_20 : decode cX7_number 20 = .ok (.iload_n 2, 1) := by decide +kernel
theorem dX7_number_21 : decode cX7_number 21 = .ok (.iload_n 3, 1) := by decide +kernel
theorem dX7_number_22 : decode cX7_number 22 = .ok (.iload 4, 2) := by decide +kernel
theorem dX7_number_24 : decode cX7_number 24 = .ok (.iload 5, 2) := by decide +kernel
theorem dX7_number_26 : decode cX7_number 26 = .ok (.invokevirtual 173, 3) := by decide +kernel
theorem dX7_number_29 : decode cX7_number 29 = .ok (.invokevirtual 202, 3) := by decide +kernel
theorem dX7_number_32 : decode cX7_number 32 = .ok (.ireturn, 1) := by decide +kernel
theorem dX7_position_0 : decode cX7_position 0 = .ok (.aload_n 0, 1) := by decide +kernel
theorem dX7_position_1 : decode cX7_position 1 = .ok (.aload_n 0, 1) := by decide +kernel
theorem dX7_position_2 : decode cX7_position 2 = .ok (.iload_n 1, 1) := by decide +kernel
theorem dX7_position_3 : decode cX7_position 3 = .ok (.invokevirtual 179, 3) := by decide +kernel
theorem dX7_position_6 : decode cX7_position 6 = .ok (.invokevirtual 186, 3) := by decide +kernel
theorem dX7_position_9 : decode cX7_position 9 = .ok (.ifCond .ne 5, 3) := by decide +kernel
theorem dX7_position_12 : decode cX7_position 12 = .ok (.iconst 0, 1) := by decide +kernel
theorem dX7_position_13 : decode cX7_position 13 = .ok (.ireturn, 1) := by decide +kernel
theorem dX7_position_14 : decode cX7_position 14 = .ok (.iload_n 2, 1) := by decide +kernel
theorem dX7_position_15 : decode cX7_position 15 = .ok (.iconst 0, 1) := by decide +kernel
theorem dX7_position_16 : decode cX7_position 16 = .ok (.aload_n 0, 1) := by decide +kernel
theorem dX7_position_17 : decode cX7_position 17 = .ok (.getfield 33, 3) := by decide +kernel
theorem dX7_position_20 : decode cX7_position 20 = .ok (.iload_n 1, 1) := by decide +kernel
theorem dX7_position_21 : decode cX7_position 21 = .ok (.iaload, 1) := by decide +kernel
theorem dX7_position_22 : decode cX7_position 22 = .ok (.iconst 1, 1) := by decide +kernel
theorem dX7_position_23 : decode cX7_position 23 = .ok (.isub, 1) := by decide +kernel
theorem dX7_position_24 : decode cX7_position 24 = .ok (.invokestatic 84, 3) := by decide +kernel
theorem dX7_position_27 : decode cX7_position 27 = .ok (.ifCond .ne 5, 3) := by decide +kernel
theorem dX7_position_30 : decode cX7_position 30 = .ok (.iconst (-1), 1) := by decide +kernel
theorem dX7_position_31 : decode cX7_position 31 = .ok (.ireturn, 1) := by decide +kernel
theorem dX7_position_32 : decode cX7_position 32 = .ok (.iconst 0, 1) := by decide +kernel
theorem dX7_position_33 : decode cX7_position 33 = .ok (.istore 4, 2) := by decide +kernel
theorem dX7_position_35 : decode cX7_position 35 = .ok (.iconst 2, 1) := by decide +kernel
theorem dX7_position_36 : decode cX7_position 36 = .ok (.aload_n 0, 1) := by decide +kernel
theorem dX7_position_37 : decode cX7_position 37 = .ok (.getfield 13, 3) := by decide +kernel
theorem dX7_position_40 : decode cX7_position 40 = .ok (.imul, 1) := by decide +kernel
theorem dX7_position_41 : decode cX7_position 41 = .ok (.aload_n 0, 1) := by decide +kernel
theorem dX7_position_42 : decode cX7_position 42 = .ok (.getfield 13, 3) := by decide +kernel
theorem dX7_position_45 : decode cX7_position 45 = .ok (.imul, 1) := by decide +kernel
theorem dX7_position_46 : decode cX7_position 46 = .ok (.aload_n 0, 1) := by decide +kernel
theorem dX7_position_47 : decode cX7_position 47 = .ok (.getfield 13, 3) := by decide +kernel
theorem dX7_position_50 : decode cX7_position 50 = .ok (.imul, 1) := by decide +kernel
theorem dX7_position_51 : decode cX7_position 51 = .ok (.iconst 1, 1) := by decide +kernel
theorem dX7_position_52 : decode cX7_position 52 = .ok (.isub, 1) := by decide +kernel
theorem dX7_position_53 : decode cX7_position 53 = .ok (.iconst 5, 1) := by decide +kernel
theorem dX7_position_54 : decode cX7_position 54 = .ok (.ishr, 1) := by decide +kernel
theorem dX7_position_55 : decode cX7_position 55 = .ok (.istore 5, 2) := by decide +kernel
theorem dX7_position_57 : decode cX7_position 57 = .ok (.iload 4, 2) := by decide +kernel
theorem dX7_position_59 : decode cX7_position 59 = .ok (.iload 5, 2) := by decide +kernel
theorem dX7_position_61 : decode cX7_position 61 = .ok (.if_icmp .ge 47, 3) := by decide +kernel
theorem dX7_position_64 : decode cX7_position 64 = .ok (.iload 4, 2) := by decide +kernel
theorem dX7_position_66 : decode cX7_position 66 = .ok (.iload 5, 2) := by decide +kernel
theorem dX7_position_68 : decode cX7_position 68 = .ok (.iadd, 1) := by decide +kernel
theorem dX7_position_69 : decode cX7_position 69 = .ok (.iconst 1, 1) := by decide +kernel
theorem dX7_position_70 : decode cX7_position 70 = .ok (.iadd, 1) := by decide +kernel
theorem dX7_position_71 : decode cX7_position 71 = .ok (.iconst 2, 1) := by decide +kernel
theorem dX7_position_72 : decode cX7_position 72 = .ok (.idiv, 1) := by decide +kernel
theorem dX7_position_73 : decode cX7_position 73 = .ok (.istore 6, 2) := by decide +kernel
theorem dX7_position_75 : decode cX7_position 75 = .ok (.aload_n 0, 1) := by decide +kernel
theorem dX7_position_76 : decode cX7_position 76 = .ok (.getfield 30, 3) := by decide +kernel
theorem dX7_position_79 : decode cX7_position 79 = .ok (.sipush 16384, 3) := by decide +kernel
theorem dX7_position_82 : decode cX7_position 82 = .ok (.iload_n 1, 1) := by decide +kernel
theorem dX7_position_83 : decode cX7_position 83 = .ok (.imul, 1) := by decide +kernel
theorem dX7_position_84 : decode cX7_position 84 = .ok (.iload 6, 2) := by decide +kernel
theorem dX7_position_86 : decode cX7_position 86 = .ok (.iadd, 1) := by decide +kernel
theorem dX7_position_87 : decode cX7_position 87 = .ok (.iaload, 1) := by decide +kernel
theorem dX7_position_88 : decode cX7_position 88 = .ok (.iload_n 2, 1) := by decide +kernel
theorem dX7_position_89 : decode cX7_position 89 = .ok (.if_icmp .gt 10, 3) := by decide +kernel
theorem dX7_position_92 : decode cX7_position 92 = .ok (.iload 6, 2) := by decide +kernel
theorem dX7_position_94 : decode cX7_position 94 = .ok (.istore 4, 2) := by decide +kernel
theorem dX7_position_96 : decode cX7_position 96 = .ok (.goto 9, 3) := by decide +kernel
theorem dX7_position_99 : decode cX7_position 99 = .ok (.iload 6, 2) := by decide +kernel
theorem dX7_position_101 : decode cX7_position 101 = .ok (.iconst 1, 1) := by decide +kernel
theorem dX7_position_102 : decode cX7_position 102 = .ok (.isub, 1) := by decide +kernel
theorem dX7_position_103 : decode cX7_position 103 = .ok (.istore 5, 2) := by decide +kernel
theorem dX7_position_105 : decode cX7_position 105 = .ok (.goto (-48), 3) := by decide +kernel
theorem dX7_position_108 : decode cX7_position 108 = .ok (.iload_n 2, 1) := by decide +kernel
theorem dX7_position_109 : decode cX7_position 109 = .ok (.aload_n 0, 1) := by decide +kernel
theorem dX7_position_110 : decode cX7_position 110 = .ok (.getfield 30, 3) := by decide +kernel
theorem dX7_position_113 : decode cX7_position 113 = .ok (.sipush 16384, 3) := by decide +kernel
theorem dX7_position_116 : decode cX7_position 116 = .ok (.iload_n 1, 1) := by decide +kernel
theorem dX7_position_117 : decode cX7_position 117 = .ok (.imul, 1) := by decide +kernel
theorem dX7_position_118 : decode cX7_position 118 = .ok (.iload 4, 2) := by decide +kernel
theorem dX7_position_120 : decode cX7_position 120 = .ok (.iadd, 1) := by decide +kernel
theorem dX7_position_121 : decode cX7_position 121 = .ok (.iaload, 1) := by decide +kernel
theorem dX7_position_122 : decode cX7_position 122 = .ok (.isub, 1) := by decide +kernel
theorem dX7_position_123 : decode cX7_position 123 = .ok (.istore 6, 2) := by decide +kernel
theorem dX7_position_125 : decode cX7_position 125 = .ok (.bipush 32, 2) := by decide +kernel
theorem dX7_position_127 : decode cX7_position 127 = .ok (.iload 4, 2) := by decide +kernel
theorem dX7_position_129 : decode cX7_position 129 = .ok (.imul, 1) := by decide +kernel
theorem dX7_position_130 : decode cX7_position 130 = .ok (.istore 7, 2) := by decide +kernel
theorem dX7_position_132 : decode cX7_position 132 = .ok (.iload 6, 2) := by decide +kernel
theorem dX7_position_134 : decode cX7_position 134 = .ok (.ifCond .gt 13, 3) := by decide +kernel
theorem dX7_position_137 : decode cX7_position 137 = .ok (.aload_n 0, 1) := by decide +kernel
theorem dX7_position_138 : decode cX7_position 138 = .ok (.iload_n 1, 1) := by decide +kernel
theorem dX7_position_139 : decode cX7_position 139 = .ok (.iload 7, 2) := by decide +kernel
theorem dX7_position_141 : decode cX7_position 141 = .ok (.invokevirtual 176, 3) := by decide +kernel
theorem dX7_position_144 : decode cX7_position 144 = .ok (.ifCond .ne 29, 3) := by decide +kernel
theorem dX7_position_147 : decode cX7_position 147 = .ok (.iload 6, 2) := by decide +kernel
theorem dX7_position_149 : decode cX7_position 149 = .ok (.aload_n 0, 1) := by decide +kernel
theorem dX7_position_150 : decode cX7_position 150 = .ok (.iload_n 1, 1) := by decide +kernel
theorem dX7_position_151 : decode cX7_position 151 = .ok (.iload 7, 2) := by decide +kernel
theorem dX7_position_153 : decode cX7_position 153 = .ok (.invokevirtual 176, 3) := by decide +kernel
theorem dX7_position_156 : decode cX7_position 156 = .ok (.ifCond .eq 7, 3) := by decide +kernel
theorem dX7_position_159 : decode cX7_position 159 = .ok (.iconst 1, 1) := by decide +kernel
theorem dX7_position_160 : decode cX7_position 160 = .ok (.goto 4, 3) := by decide +kernel
theorem dX7_position_163 : decode cX7_position 163 = .ok (.iconst 0, 1) := by decide +kernel
theorem dX7_position_164 : decode cX7_position 164 = .ok (.isub, 1) := by decide +kernel
theorem dX7_position_165 : decode cX7_position 165 = .ok (.istore 6, 2) := by decide +kernel
theorem dX7_position_167 : decode cX7_position 167 = .ok (.iinc 7 1, 3) := by decide +kernel
theorem dX7_position_170 : decode cX7_position 170 = .ok (.goto (-38), 3) := by decide +kernel
theorem dX7_position_173 : decode cX7_position 173 = .ok (.iload_n 3, 1) := by decide +kernel
theorem dX7_position_174 : decode cX7_position 174 = .ok (.tableswitch 94 0 4 #[34, 49, 64, 74, 79], 34) := by decide +kernel
theorem dX7_position_208 : decode cX7_position 208 = .ok (.iload 7, 2) := by decide +kernel
theorem dX7_position_210 : decode cX7_position 210 = .ok (.iconst 2, 1) := by decide +kernel
theorem dX7_position_211 : decode cX7_position 211 = .ok (.idiv, 1) := by decide +kernel
theorem dX7_position_212 : decode cX7_position 212 = .ok (.aload_n 0, 1) := by decide +kernel
theorem dX7_position_213 : decode cX7_position 213 = .ok (.getfield 13, 3) := by decide +kernel
theorem dX7_position_216 : decode cX7_position 216 = .ok (.idiv, 1) := by decide +kernel
theorem dX7_position_217 : decode cX7_position 217 = .ok (.aload_n 0, 1) := by decide +kernel
theorem dX7_position_218 : decode cX7_position 218 = .ok (.getfield 13, 3) := by decide +kernel
theorem dX7_position_221 : decode cX7_position 221 = .ok (.idiv, 1) := by decide +kernel
theorem dX7_position_222 : decode cX7_position 222 = .ok (.ireturn, 1) := by decide +kernel
theorem dX7_position_223 : decode cX7_position 223 = .ok (.iload 7, 2) := by decide +kernel
theorem dX7_position_225 : decode cX7_position 225 = .ok (.iconst 2, 1) := by decide +kernel
theorem dX7_position_226 : decode cX7_position 226 = .ok (.idiv, 1) := by decide +kernel
theorem dX7_position_227 : decode cX7_position 227 = .ok (.aload_n 0, 1) := by decide +kernel
theorem dX7_position_228 : decode cX7_position 228 = .ok (.getfield 13, 3) := by decide +kernel
theorem dX7_position_231 : decode cX7_position 231 = .ok (.idiv, 1) := by decide +kernel
theorem dX7_position_232 : decode cX7_position 232 = .ok (.aload_n 0, 1) := by decide +kernel
theorem dX7_position_233 : decode cX7_position 233 = .ok (.getfield 13, 3) := by decide +kernel
theorem dX7_position_236 : decode cX7_position 236 = .ok (.irem, 1) := by decide +kernel
theorem dX7_position_237 : decode cX7_position 237 = .ok (.ireturn, 1) := by decide +kernel
theorem dX7_position_238 : decode cX7_position 238 = .ok (.iload 7, 2) := by decide +kernel
theorem dX7_position_240 : decode cX7_position 240 = .ok (.iconst 2, 1) := by decide +kernel
theorem dX7_position_241 : decode cX7_position 241 = .ok (.idiv, 1) := by decide +kernel
theorem dX7_position_242 : decode cX7_position 242 = .ok (.aload_n 0, 1) := by decide +kernel
theorem dX7_position_243 : decode cX7_position 243 = .ok (.getfield 13, 3) := by decide +kernel
theorem dX7_position_246 : decode cX7_position 246 = .ok (.irem, 1) := by decide +kernel
theorem dX7_position_247 : decode cX7_position 247 = .ok (.ireturn, 1) := by decide +kernel
theorem dX7_position_248 : decode cX7_position 248 = .ok (.iload 7, 2) := by decide +kernel
theorem dX7_position_250 : decode cX7_position 250 = .ok (.iconst 1, 1) := by decide +kernel
theorem dX7_position_251 : decode cX7_position 251 = .ok (.iand, 1) := by decide +kernel
theorem dX7_position_252 : decode cX7_position 252 = .ok (.ireturn, 1) := by decide +kernel
theorem dX7_position_253 : decode cX7_position 253 = .ok (.aload_n 0, 1) := by decide +kernel
theorem dX7_position_254 : decode cX7_position 254 = .ok (.getfield 21, 3) := by decide +kernel
theorem dX7_position_257 : decode cX7_position 257 = .ok (.ldc 118, 2) := by decide +kernel
theorem dX7_position_259 : decode cX7_position 259 = .ok (.iload_n 1, 1) := by decide +kernel
theorem dX7_position_260 : decode cX7_position 260 = .ok (.imul, 1) := by decide +kernel
theorem dX7_position_261 : decode cX7_position 261 = .ok (.iload 7, 2) := by decide +kernel
theorem dX7_position_263 : decode cX7_position 263 = .ok (.iadd, 1) := by decide +kernel
theorem dX7_position_264 : decode cX7_position 264 = .ok (.baload, 1) := by decide +kernel
theorem dX7_position_265 : decode cX7_position 265 = .ok (.iconst 1, 1) := by decide +kernel
theorem dX7_position_266 : decode cX7_position 266 = .ok (.isub, 1) := by decide +kernel
theorem dX7_position_267 : decode cX7_position 267 = .ok (.ireturn, 1) := by decide +kernel
theorem dX7_position_268 : decode cX7_position 268 = .ok (.iconst (-1), 1) := by decide +kernel
theorem dX7_position_269 : decode cX7_position 269 = .ok (.ireturn, 1) := by decide +kernel
theorem dX7_isSqueezed_0 : decode cX7_isSqueezed 0 = .ok (.iload_n 2, 1) := by decide +kernel
theorem dX7_isSqueezed_1 : decode cX7_isSqueezed 1 = .ok (.iconst 1, 1) := by decide +kernel
theorem dX7_isSqueezed_2 : decode cX7_isSqueezed 2 = .ok (.iand, 1) := by decide +kernel
theorem dX7_isSqueezed_3 : decode cX7_isSqueezed 3 = .ok (.istore_n 3, 1) := by decide +kernel
theorem dX7_isSqueezed_4 : decode cX7_isSqueezed 4 = .ok (.iload_n 2, 1) := by decide +kernel
theorem dX7_isSqueezed_5 : decode cX7_isSqueezed 5 = .ok (.iconst 2, 1) := by decide +kernel
theorem dX7_isSqueezed_6 : decode cX7_isSqueezed 6 = .ok (.idiv, 1) := by decide +kernel
theorem dX7_isSqueezed_7 : decode cX7_isSqueezed 7 = .ok (.aload_n 0, 1) := by decide +kernel
theorem dX7_isSqueezed_8 : decode cX7_isSqueezed 8 = .ok (.getfield 13, 3) := by decide +kernel
theorem dX7_isSqueezed_11 : decode cX7_isSqueezed 11 = .ok (.idiv, 1) := by decide +kernel
theorem dX7_isSqueezed_12 : decode cX7_isSqueezed 12 = .ok (.aload_n 0, 1) := by decide +kernel
theorem dX7_isSqueezed_13 : decode cX7_isSqueezed 13 = .ok (.getfield 13, 3) := by decide +kernel
theorem dX7_isSqueezed_16 : decode cX7_isSqueezed 16 = .ok (.idiv, 1) := by decide +kernel
theorem dX7_isSqueezed_17 : decode cX7_isSqueezed 17 = .ok (.istore 4, 2) := by decide +kernel
theorem dX7_isSqueezed_19 : decode cX7_isSqueezed 19 = .ok (.iload_n 2, 1) := by decide +kernel
theorem dX7_isSqueezed_20 : decode cX7_isSqueezed 20 = .ok (.iconst 2, 1) := by decide +kernel
theorem dX7_isSqueezed_21 : decode cX7_isSqueezed 21 = .ok (.idiv, 1) := by decide +kernel
theorem dX7_isSqueezed_22 : decode cX7_isSqueezed 22 = .ok (.aload_n 0, 1) := by decide +kernel
theorem dX7_isSqueezed_23 : decode cX7_isSqueezed 23 = .ok (.getfield 13, 3) := by decide +kernel
theorem dX7_isSqueezed_26 : decode cX7_isSqueezed 26 = .ok (.idiv, 1) := by decide +kernel
theorem dX7_isSqueezed_27 : decode cX7_isSqueezed 27 = .ok (.aload_n 0, 1) := by decide +kernel
theorem dX7_isSqueezed_28 : decode cX7_isSqueezed 28 = .ok (.getfield 13, 3) := by decide +kernel
theorem dX7_isSqueezed_31 : decode cX7_isSqueezed 31 = .ok (.irem, 1) := by decide +kernel
theorem dX7_isSqueezed_32 : decode cX7_isSqueezed 32 = .ok (.istore 5, 2) := by decide +kernel
theorem dX7_isSqueezed_34 : decode cX7_isSqueezed 34 = .ok (.iload_n 2, 1) := by decide +kernel
theorem dX7_isSqueezed_35 : decode cX7_isSqueezed 35 = .ok (.iconst 2, 1) := by decide +kernel
theorem dX7_isSqueezed_36 : decode cX7_isSqueezed 36 = .ok (.idiv, 1) := by decide +kernel
theorem dX7_isSqueezed_37 : decode cX7_isSqueezed 37 = .ok (.aload_n 0, 1) := by decide +kernel
theorem dX7_isSqueezed_38 : decode cX7_isSqueezed 38 = .ok (.getfield 13, 3) := by decide +kernel
theorem dX7_isSqueezed_41 : decode cX7_isSqueezed 41 = .ok (.irem, 1) := by decide +kernel
theorem dX7_isSqueezed_42 : decode cX7_isSqueezed 42 = .ok (.istore 6, 2) := by decide +kernel
theorem dX7_isSqueezed_44 : decode cX7_isSqueezed 44 = .ok (.aload_n 0, 1) := by decide +kernel
theorem dX7_isSqueezed_45 : decode cX7_isSqueezed 45 = .ok (.iload_n 1, 1) := by decide +kernel
theorem dX7_isSqueezed_46 : decode cX7_isSqueezed 46 = .ok (.iload 4, 2) := by decide +kernel
theorem dX7_isSqueezed_48 : decode cX7_isSqueezed 48 = .ok (.iload 5, 2) := by decide +kernel
theorem dX7_isSqueezed_50 : decode cX7_isSqueezed 50 = .ok (.iload 6, 2) := by decide +kernel
theorem dX7_isSqueezed_52 : decode cX7_isSqueezed 52 = .ok (.iconst 1, 1) := by decide +kernel
theorem dX7_isSqueezed_53 : decode cX7_isSqueezed 53 = .ok (.iload_n 3, 1) := by decide +kernel
theorem dX7_isSqueezed_54 : decode cX7_isSqueezed 54 = .ok (.isub, 1) := by decide +kernel
theorem dX7_isSqueezed_55 : decode cX7_isSqueezed 55 = .ok (.invokevirtual 107, 3) := by decide +kernel
theorem dX7_isSqueezed_58 : decode cX7_isSqueezed 58 = .ok (.ifCond .ne 5, 3) := by decide +kernel
theorem dX7_isSqueezed_61 : decode cX7_isSqueezed 61 = .ok (.iconst 0, 1) := by decide +kernel
theorem dX7_isSqueezed_62 : decode cX7_isSqueezed 62 = .ok (.ireturn, 1) := by decide +kernel
theorem dX7_isSqueezed_63 : decode cX7_isSqueezed 63 = .ok (.aload_n 0, 1) := by decide +kernel
theorem dX7_isSqueezed_64 : decode cX7_isSqueezed 64 = .ok (.getfield 21, 3) := by decide +kernel
theorem dX7_isSqueezed_67 : decode cX7_isSqueezed 67 = .ok (.ldc 118, 2) := by decide +kernel
theorem dX7_isSqueezed_69 : decode cX7_isSqueezed 69 = .ok (.iload_n 1, 1) := by decide +kernel
theorem dX7_isSqueezed_70 : decode cX7_isSqueezed 70 = .ok (.imul, 1) := by decide +kernel
theorem dX7_isSqueezed_71 : decode cX7_isSqueezed 71 = .ok (.iload_n 2, 1) := by decide +kernel
theorem dX7_isSqueezed_72 : decode cX7_isSqueezed 72 = .ok (.iadd, 1) := by decide +kernel
theorem dX7_isSqueezed_73 : decode cX7_isSqueezed 73 = .ok (.baload, 1) := by decide +kernel
theorem dX7_isSqueezed_74 : decode cX7_isSqueezed 74 = .ok (.ifCond .le 7, 3) := by decide +kernel
theorem dX7_isSqueezed_77 : decode cX7_isSqueezed 77 = .ok (.iconst 1, 1) := by decide +kernel
theorem dX7_isSqueezed_78 : decode cX7_isSqueezed 78 = .ok (.goto 4, 3) := by decide +kernel
theorem dX7_isSqueezed_81 : decode cX7_isSqueezed 81 = .ok (.iconst 0, 1) := by decide +kernel
theorem dX7_isSqueezed_82 : decode cX7_isSqueezed 82 = .ok (.istore 7, 2) := by decide +kernel
theorem dX7_isSqueezed_84 : decode cX7_isSqueezed 84 = .ok (.aload_n 0, 1) := by decide +kernel
theorem dX7_isSqueezed_85 : decode cX7_isSqueezed 85 = .ok (.getfield 21, 3) := by decide +kernel
theorem dX7_isSqueezed_88 : decode cX7_isSqueezed 88 = .ok (.ldc 118, 2) := by decide +kernel
theorem dX7_isSqueezed_90 : decode cX7_isSqueezed 90 = .ok (.iload_n 1, 1) := by decide +kernel
theorem dX7_isSqueezed_91 : decode cX7_isSqueezed 91 = .ok (.imul, 1) := by decide +kernel
theorem dX7_isSqueezed_92 : decode cX7_isSqueezed 92 = .ok (.iload_n 2, 1) := by decide +kernel
theorem dX7_isSqueezed_93 : decode cX7_isSqueezed 93 = .ok (.iconst 1, 1) := by decide +kernel
theorem dX7_isSqueezed_94 : decode cX7_isSqueezed 94 = .ok (.ixor, 1) := by decide +kernel
theorem dX7_isSqueezed_95 : decode cX7_isSqueezed 95 = .ok (.iadd, 1) := by decide +kernel
theorem dX7_isSqueezed_96 : decode cX7_isSqueezed 96 = .ok (.baload, 1) := by decide +kernel
theorem dX7_isSqueezed_97 : decode cX7_isSqueezed 97 = .ok (.ifCond .le 7, 3) := by decide +kernel
theorem dX7_isSqueezed_100 : decode cX7_isSqueezed 100 = .ok (.iconst 1, 1) := by decide +kernel
theorem dX7_isSqueezed_101 : decode cX7_isSqueezed 101 = .ok (.goto 4, 3) := by decide +kernel
theorem dX7_isSqueezed_104 : decode cX7_isSqueezed 104 = .ok (.iconst 0, 1) := by decide +kernel
theorem dX7_isSqueezed_105 : decode cX7_isSqueezed 105 = .ok (.istore 8, 2) := by decide +kernel
theorem dX7_isSqueezed_107 : decode cX7_isSqueezed 107 = .ok (.iload_n 3, 1) := by decide +kernel
theorem dX7_isSqueezed_108 : decode cX7_isSqueezed 108 = .ok (.ifCond .ne 21, 3) := by decide +kernel
theorem dX7_isSqueezed_111 : decode cX7_isSqueezed 111 = .ok (.iload 7, 2) := by decide +kernel
theorem dX7_isSqueezed_113 : decode cX7_isSqueezed 113 = .ok (.ifCond .ne 12, 3) := by decide +kernel
theorem dX7_isSqueezed_116 : decode cX7_isSqueezed 116 = .ok (.iload 8, 2) := by decide +kernel
theorem dX7_isSqueezed_118 : decode cX7_isSqueezed 118 = .ok (.ifCond .eq 7, 3) := by decide +kernel
theorem dX7_isSqueezed_121 : decode cX7_isSqueezed 121 = .ok (.iconst 1, 1) := by decide +kernel
theorem dX7_isSqueezed_122 : decode cX7_isSqueezed 122 = .ok (.goto 22, 3) := by decide +kernel
theorem dX7_isSqueezed_125 : decode cX7_isSqueezed 125 = .ok (.iconst 0, 1) := by decide +kernel
theorem dX7_isSqueezed_126 : decode cX7_isSqueezed 126 = .ok (.goto 18, 3) := by decide +kernel
theorem dX7_isSqueezed_129 : decode cX7_isSqueezed 129 = .ok (.iload 7, 2) := by decide +kernel
theorem dX7_isSqueezed_131 : decode cX7_isSqueezed 131 = .ok (.ifCond .eq 12, 3) := by decide +kernel
theorem dX7_isSqueezed_134 : decode cX7_isSqueezed 134 = .ok (.iload 8, 2) := by decide +kernel
theorem dX7_isSqueezed_136 : decode cX7_isSqueezed 136 = .ok (.ifCond .ne 7, 3) := by decide +kernel
theorem dX7_isSqueezed_139 : decode cX7_isSqueezed 139 = .ok (.iconst 1, 1) := by decide +kernel
theorem dX7_isSqueezed_140 : decode cX7_isSqueezed 140 = .ok (.goto 4, 3) := by decide +kernel
theorem dX7_isSqueezed_143 : decode cX7_isSqueezed 143 = .ok (.iconst 0, 1) := by decide +kernel
theorem dX7_isSqueezed_144 : decode cX7_isSqueezed 144 = .ok (.ireturn, 1) := by decide +kernel
theorem dX7_count_0 : decode cX7_count 0 = .ok (.aload_n 0, 1) := by decide +kernel
theorem dX7_count_1 : decode cX7_count 1 = .ok (.aload_n 0, 1) := by decide +kernel
theorem dX7_count_2 : decode cX7_count 2 = .ok (.iload_n 1, 1) := by decide +kernel
theorem dX7_count_3 : decode cX7_count 3 = .ok (.invokevirtual 179, 3) := by decide +kernel
theorem dX7_count_6 : decode cX7_count 6 = .ok (.ifCond .eq 16, 3) := by decide +kernel
theorem dX7_count_9 : decode cX7_count 9 = .ok (.iload_n 2, 1) := by decide +kernel
theorem dX7_count_10 : decode cX7_count 10 = .ok (.iconst 0, 1) := by decide +kernel
theorem dX7_count_11 : decode cX7_count 11 = .ok (.iconst 1, 1) := by decide +kernel
theorem dX7_count_12 : decode cX7_count 12 = .ok (.invokestatic 84, 3) := by decide +kernel
theorem dX7_count_15 : decode cX7_count 15 = .ok (.ifCond .eq 7, 3) := by decide +kernel
theorem dX7_count_18 : decode cX7_count 18 = .ok (.iconst 1, 1) := by decide +kernel
theorem dX7_count_19 : decode cX7_count 19 = .ok (.goto 4, 3) := by decide +kernel
theorem dX7_count_22 : decode cX7_count 22 = .ok (.iconst 0, 1) := by decide +kernel
theorem dX7_count_23 : decode cX7_count 23 = .ok (.invokevirtual 186, 3) := by decide +kernel
theorem dX7_count_26 : decode cX7_count 26 = .ok (.ifCond .ne 5, 3) := by decide +kernel
theorem dX7_count_29 : decode cX7_count 29 = .ok (.iconst 0, 1) := by decide +kernel
theorem dX7_count_30 : decode cX7_count 30 = .ok (.ireturn, 1) := by decide +kernel
theorem dX7_count_31 : decode cX7_count 31 = .ok (.iconst 2, 1) := by decide +kernel
theorem dX7_count_32 : decode cX7_count 32 = .ok (.aload_n 0, 1) := by decide +kernel
theorem dX7_count_33 : decode cX7_count 33 = .ok (.getfield 13, 3) := by decide +kernel
theorem dX7_count_36 : decode cX7_count 36 = .ok (.imul, 1) := by decide +kernel
theorem dX7_count_37 : decode cX7_count 37 = .ok (.aload_n 0, 1) := by decide +kernel
theorem dX7_count_38 : decode cX7_count 38 = .ok (.getfield 13, 3) := by decide +kernel
theorem dX7_count_41 : decode cX7_count 41 = .ok (.imul, 1) := by decide +kernel
theorem dX7_count_42 : decode cX7_count 42 = .ok (.aload_n 0, 1) := by decide +kernel
theorem dX7_count_43 : decode cX7_count 43 = .ok (.getfield 13, 3) := by decide +kernel
theorem dX7_count_46 : decode cX7_count 46 = .ok (.imul, 1) := by decide +kernel
theorem dX7_count_47 : decode cX7_count 47 = .ok (.istore 4, 2) := by decide +kernel
theorem dX7_count_49 : decode cX7_count 49 = .ok (.iconst 0, 1) := by decide +kernel
theorem dX7_count_50 : decode cX7_count 50 = .ok (.istore 5, 2) := by decide +kernel
theorem dX7_count_52 : decode cX7_count 52 = .ok (.iload_n 2, 1) := by decide +kernel
theorem dX7_count_53 : decode cX7_count 53 = .ok (.istore 6, 2) := by decide +kernel
theorem dX7_count_55 : decode cX7_count 55 = .ok (.iload 6, 2) := by decide +kernel
theorem dX7_count_57 : decode cX7_count 57 = .ok (.iload 4, 2) := by decide +kernel
theorem dX7_count_59 : decode cX7_count 59 = .ok (.if_icmp .ge 86, 3) := by decide +kernel
theorem dX7_count_62 : decode cX7_count 62 = .ok (.aload_n 0, 1) := by decide +kernel
theorem dX7_count_63 : decode cX7_count 63 = .ok (.iload_n 1, 1) := by decide +kernel
theorem dX7_count_64 : decode cX7_count 64 = .ok (.iload 6, 2) := by decide +kernel
theorem dX7_count_66 : decode cX7_count 66 = .ok (.invokevirtual 176, 3) := by decide +kernel
theorem dX7_count_69 : decode cX7_count 69 = .ok (.ifCond .eq 70, 3) := by decide +kernel
theorem dX7_count_72 : decode cX7_count 72 = .ok (.iload_n 3, 1) := by decide +kernel
theorem dX7_count_73 : decode cX7_count 73 = .ok (.bipush (-2), 2) := by decide +kernel
theorem dX7_count_75 : decode cX7_count 75 = .ok (.if_icmp .eq 42, 3) := by decide +kernel
theorem dX7_count_78 : decode cX7_count 78 = .ok (.iload_n 3, 1) := by decide +kernel
theorem dX7_count_79 : decode cX7_count 79 = .ok (.bipush (-3), 2) := by decide +kernel
theorem dX7_count_81 : decode cX7_count 81 = .ok (.if_icmp .ne 13, 3) := by decide +kernel
theorem dX7_count_84 : decode cX7_count 84 = .ok (.aload_n 0, 1) := by decide +kernel
theorem dX7_count_85 : decode cX7_count 85 = .ok (.iload_n 1, 1) := by decide +kernel
theorem dX7_count_86 : decode cX7_count 86 = .ok (.iload 6, 2) := by decide +kernel
theorem dX7_count_88 : decode cX7_count 88 = .ok (.invokevirtual 205, 3) := by decide +kernel
theorem dX7_count_91 : decode cX7_count 91 = .ok (.ifCond .ne 26, 3) := by decide +kernel
theorem dX7_count_94 : decode cX7_count 94 = .ok (.iload_n 3, 1) := by decide +kernel
theorem dX7_count_95 : decode cX7_count 95 = .ok (.iconst (-1), 1) := by decide +kernel
theorem dX7_count_96 : decode cX7_count 96 = .ok (.if_icmp .lt 25, 3) := by decide +kernel
theorem dX7_count_99 : decode cX7_count 99 = .ok (.aload_n 0, 1) := by decide +kernel
theorem dX7_count_100 : decode cX7_count 100 = .ok (.getfield 21, 3) := by decide +kernel
theorem dX7_count_103 : decode cX7_count 103 = .ok (.ldc 118, 2) := by decide +kernel
theorem dX7_count_105 : decode cX7_count 105 = .ok (.iload_n 1, 1) := by decide +kernel
theorem dX7_count_106 : decode cX7_count 106 = .ok (.imul, 1) := by decide +kernel
theorem dX7_count_107 : decode cX7_count 107 = .ok (.iload 6, 2) := by decide +kernel
theorem dX7_count_109 : decode cX7_count 109 = .ok (.iadd, 1) := by decide +kernel
theorem dX7_count_110 : decode cX7_count 110 = .ok (.baload, 1) := by decide +kernel
theorem dX7_count_111 : decode cX7_count 111 = .ok (.iconst 1, 1) := by decide +kernel
theorem dX7_count_112 : decode cX7_count 112 = .ok (.isub, 1) := by decide +kernel
theorem dX7_count_113 : decode cX7_count 113 = .ok (.iload_n 3, 1) := by decide +kernel
theorem dX7_count_114 : decode cX7_count 114 = .ok (.if_icmp .ne 7, 3) := by decide +kernel
theorem dX7_count_117 : decode cX7_count 117 = .ok (.iconst 1, 1) := by decide +kernel
theorem dX7_count_118 : decode cX7_count 118 = .ok (.goto 4, 3) := by decide +kernel
theorem dX7_count_121 : decode cX7_count 121 = .ok (.iconst 0, 1) := by decide +kernel
theorem dX7_count_122 : decode cX7_count 122 = .ok (.istore 7, 2) := by decide +kernel
theorem dX7_count_124 : decode cX7_count 124 = .ok (.iload 5, 2) := by decide +kernel
theorem dX7_count_126 : decode cX7_count 126 = .ok (.iload 7, 2) := by decide +kernel
theorem dX7_count_128 : decode cX7_count 128 = .ok (.ifCond .eq 7, 3) := by decide +kernel
theorem dX7_count_131 : decode cX7_count 131 = .ok (.iconst 1, 1) := by decide +kernel
theorem dX7_count_132 : decode cX7_count 132 = .ok (.goto 4, 3) := by decide +kernel
theorem dX7_count_135 : decode cX7_count 135 = .ok (.iconst 0, 1) := by decide +kernel
theorem dX7_count_136 : decode cX7_count 136 = .ok (.iadd, 1) := by decide +kernel
theorem dX7_count_137 : decode cX7_count 137 = .ok (.istore 5, 2) := by decide +kernel
theorem dX7_count_139 : decode cX7_count 139 = .ok (.iinc 6 2, 3) := by decide +kernel
theorem dX7_count_142 : decode cX7_count 142 = .ok (.goto (-87), 3) := by decide +kernel
theorem dX7_count_145 : decode cX7_count 145 = .ok (.iload 5, 2) := by decide +kernel
theorem dX7_count_147 : decode cX7_count 147 = .ok (.ireturn, 1) := by decide +kernel
theorem dX7_longest_0 : decode cX7_longest 0 = .ok (.aload_n 0, 1) := by decide +kernel
theorem dX7_longest_1 : decode cX7_longest 1 = .ok (.aload_n 0, 1) := by decide +kernel
theorem dX7_longest_2 : decode cX7_longest 2 = .ok (.iload_n 1, 1) := by decide +kernel
theorem dX7_longest_3 : decode cX7_longest 3 = .ok (.invokevirtual 179, 3) := by decide +kernel
theorem dX7_longest_6 : decode cX7_longest 6 = .ok (.ifCond .eq 16, 3) := by decide +kernel
theorem dX7_longest_9 : decode cX7_longest 9 = .ok (.iload_n 2, 1) := by decide +kernel
theorem dX7_longest_10 : decode cX7_longest 10 = .ok (.iconst 0, 1) := by decide +kernel
theorem dX7_longest_11 : decode cX7_longest 11 = .ok (.iconst 1, 1) := by decide +kernel
theorem dX7_longest_12 : decode cX7_longest 12 = .ok (.invokestatic 84, 3) := by decide +kernel
theorem dX7_longest_15 : decode cX7_longest 15 = .ok (.ifCond .eq 7, 3) := by decide +kernel
theorem dX7_longest_18 : decode cX7_longest 18 = .ok (.iconst 1, 1) := by decide +kernel
theorem dX7_longest_19 : decode cX7_longest 19 = .ok (.goto 4, 3) := by decide +kernel
theorem dX7_longest_22 : decode cX7_longest 22 = .ok (.iconst 0, 1) := by decide +kernel
theorem dX7_longest_23 : decode cX7_longest 23 = .ok (.invokevirtual 186, 3) := by decide +kernel
theorem dX7_longest_26 : decode cX7_longest 26 = .ok (.ifCond .ne 5, 3) := by decide +kernel
theorem dX7_longest_29 : decode cX7_longest 29 = .ok (.iconst 0, 1) := by decide +kernel
theorem dX7_longest_30 : decode cX7_longest 30 = .ok (.ireturn, 1) := by decide +kernel
theorem dX7_longest_31 : decode cX7_longest 31 = .ok (.iconst 2, 1) := by decide +kernel
theorem dX7_longest_32 : decode cX7_longest 32 = .ok (.aload_n 0, 1) := by decide +kernel
theorem dX7_longest_33 : decode cX7_longest 33 = .ok (.getfield 13, 3) := by decide +kernel
theorem dX7_longest_36 : decode cX7_longest 36 = .ok (.imul, 1) := by decide +kernel
theorem dX7_longest_37 : decode cX7_longest 37 = .ok (.aload_n 0, 1) := by decide +kernel
theorem dX7_longest_38 : decode cX7_longest 38 = .ok (.getfield 13, 3) := by decide +kernel
theorem dX7_longest_41 : decode cX7_longest 41 = .ok (.imul, 1) := by decide +kernel
theorem dX7_longest_42 : decode cX7_longest 42 = .ok (.aload_n 0, 1) := by decide +kernel
theorem dX7_longest_43 : decode cX7_longest 43 = .ok (.getfield 13, 3) := by decide +kernel
theorem dX7_longest_46 : decode cX7_longest 46 = .ok (.imul, 1) := by decide +kernel
theorem dX7_longest_47 : decode cX7_longest 47 = .ok (.istore 4, 2) := by decide +kernel
theorem dX7_longest_49 : decode cX7_longest 49 = .ok (.iconst (-1), 1) := by decide +kernel
theorem dX7_longest_50 : decode cX7_longest 50 = .ok (.istore 5, 2) := by decide +kernel
theorem dX7_longest_52 : decode cX7_longest 52 = .ok (.iconst (-1), 1) := by decide +kernel
theorem dX7_longest_53 : decode cX7_longest 53 = .ok (.istore 6, 2) := by decide +kernel
theorem dX7_longest_55 : decode cX7_longest 55 = .ok (.iload_n 2, 1) := by decide +kernel
theorem dX7_longest_56 : decode cX7_longest 56 = .ok (.istore 7, 2) := by decide +kernel
theorem dX7_longest_58 : decode cX7_longest 58 = .ok (.iload 7, 2) := by decide +kernel
theorem dX7_longest_60 : decode cX7_longest 60 = .ok (.iload 4, 2) := by decide +kernel
theorem dX7_longest_62 : decode cX7_longest 62 = .ok (.if_icmp .ge 58, 3) := by decide +kernel
theorem dX7_longest_65 : decode cX7_longest 65 = .ok (.aload_n 0, 1) := by decide +kernel
theorem dX7_longest_66 : decode cX7_longest 66 = .ok (.iload_n 1, 1) := by decide +kernel
theorem dX7_longest_67 : decode cX7_longest 67 = .ok (.iload 7, 2) := by decide +kernel
theorem dX7_longest_69 : decode cX7_longest 69 = .ok (.invokevirtual 176, 3) := by decide +kernel
theorem dX7_longest_72 : decode cX7_longest 72 = .ok (.ifCond .eq 42, 3) := by decide +kernel
theorem dX7_longest_75 : decode cX7_longest 75 = .ok (.aload_n 0, 1) := by decide +kernel
theorem dX7_longest_76 : decode cX7_longest 76 = .ok (.getfield 21, 3) := by decide +kernel
theorem dX7_longest_79 : decode cX7_longest 79 = .ok (.ldc 118, 2) := by decide +kernel
theorem dX7_longest_81 : decode cX7_longest 81 = .ok (.iload_n 1, 1) := by decide +kernel
theorem dX7_longest_82 : decode cX7_longest 82 = .ok (.imul, 1) := by decide +kernel
theorem dX7_longest_83 : decode cX7_longest 83 = .ok (.iload 7, 2) := by decide +kernel
theorem dX7_longest_85 : decode cX7_longest 85 = .ok (.iadd, 1) := by decide +kernel
theorem dX7_longest_86 : decode cX7_longest 86 = .ok (.baload, 1) := by decide +kernel
theorem dX7_longest_87 : decode cX7_longest 87 = .ok (.iconst 1, 1) := by decide +kernel
theorem dX7_longest_88 : decode cX7_longest 88 = .ok (.isub, 1) := by decide +kernel
theorem dX7_longest_89 : decode cX7_longest 89 = .ok (.iload 5, 2) := by decide +kernel
theorem dX7_longest_91 : decode cX7_longest 91 = .ok (.if_icmp .le 23, 3) := by decide +kernel
theorem dX7_longest_94 : decode cX7_longest 94 = .ok (.aload_n 0, 1) := by decide +kernel
theorem dX7_longest_95 : decode cX7_longest 95 = .ok (.getfield 21, 3) := by decide +kernel
theorem dX7_longest_98 : decode cX7_longest 98 = .ok (.ldc 118, 2) := by decide +kernel
theorem dX7_longest_100 : decode cX7_longest 100 = .ok (.iload_n 1, 1) := by decide +kernel
theorem dX7_longest_101 : decode cX7_longest 101 = .ok (.imul, 1) := by decide +kernel
theorem dX7_longest_102 : decode cX7_longest 102 = .ok (.iload 7, 2) := by decide +kernel
theorem dX7_longest_104 : decode cX7_longest 104 = .ok (.iadd, 1) := by decide +kernel
theorem dX7_longest_105 : decode cX7_longest 105 = .ok (.baload, 1) := by decide +kernel
theorem dX7_longest_106 : decode cX7_longest 106 = .ok (.iconst 1, 1) := by decide +kernel
theorem dX7_longest_107 : decode cX7_longest 107 = .ok (.isub, 1) := by decide +kernel
theorem dX7_longest_108 : decode cX7_longest 108 = .ok (.istore 5, 2) := by decide +kernel
theorem dX7_longest_110 : decode cX7_longest 110 = .ok (.iload 7, 2) := by decide +kernel
theorem dX7_longest_112 : decode cX7_longest 112 = .ok (.istore 6, 2) := by decide +kernel
theorem dX7_longest_114 : decode cX7_longest 114 = .ok (.iinc 7 2, 3) := by decide +kernel
theorem dX7_longest_117 : decode cX7_longest 117 = .ok (.goto (-59), 3) := by decide +kernel
theorem dX7_longest_120 : decode cX7_longest 120 = .ok (.iload_n 3, 1) := by decide +kernel
theorem dX7_longest_121 : decode cX7_longest 121 = .ok (.ifCond .ne 8, 3) := by decide +kernel
theorem dX7_longest_124 : decode cX7_longest 124 = .ok (.iload 5, 2) := by decide +kernel
theorem dX7_longest_126 : decode cX7_longest 126 = .ok (.goto 25, 3) := by decide +kernel
theorem dX7_longest_129 : decode cX7_longest 129 = .ok (.iload_n 3, 1) := by decide +kernel
theorem dX7_longest_130 : decode cX7_longest 130 = .ok (.iconst 1, 1) := by decide +kernel
theorem dX7_longest_131 : decode cX7_longest 131 = .ok (.if_icmp .ne 19, 3) := by decide +kernel
theorem dX7_longest_134 : decode cX7_longest 134 = .ok (.iload 6, 2) := by decide +kernel
theorem dX7_longest_136 : decode cX7_longest 136 = .ok (.iconst (-1), 1) := by decide +kernel
theorem dX7_longest_137 : decode cX7_longest 137 = .ok (.if_icmp .eq 13, 3) := by decide +kernel
theorem dX7_longest_140 : decode cX7_longest 140 = .ok (.aload_n 0, 1) := by decide +kernel
theorem dX7_longest_141 : decode cX7_longest 141 = .ok (.iload_n 1, 1) := by decide +kernel
theorem dX7_longest_142 : decode cX7_longest 142 = .ok (.iload 6, 2) := by decide +kernel
theorem dX7_longest_144 : decode cX7_longest 144 = .ok (.invokevirtual 202, 3) := by decide +kernel
theorem dX7_longest_147 : decode cX7_longest 147 = .ok (.goto 4, 3) := by decide +kernel
theorem dX7_longest_150 : decode cX7_longest 150 = .ok (.iconst (-1), 1) := by decide +kernel
theorem dX7_longest_151 : decode cX7_longest 151 = .ok (.ireturn, 1) := by decide +kernel
theorem dX7_feed_0 : decode cX7_feed 0 = .ok (.aload_n 0, 1) := by decide +kernel
theorem dX7_feed_1 : decode cX7_feed 1 = .ok (.iconst 0, 1) := by decide +kernel
theorem dX7_feed_2 : decode cX7_feed 2 = .ok (.putfield 81, 3) := by decide +kernel
theorem dX7_feed_5 : decode cX7_feed 5 = .ok (.aload_n 0, 1) := by decide +kernel
theorem dX7_feed_6 : decode cX7_feed 6 = .ok (.getfield 208, 3) := by decide +kernel
theorem dX7_feed_9 : decode cX7_feed 9 = .ok (.bipush 20, 2) := by decide +kernel
theorem dX7_feed_11 : decode cX7_feed 11 = .ok (.iadd, 1) := by decide +kernel
theorem dX7_feed_12 : decode cX7_feed 12 = .ok (.bipush 40, 2) := by decide +kernel
theorem dX7_feed_14 : decode cX7_feed 14 = .ok (.if_icmp .le 5, 3) := by decide +kernel
theorem dX7_feed_17 : decode cX7_feed 17 = .ok (.iconst (-1), 1) := by decide +kernel
theorem dX7_feed_18 : decode cX7_feed 18 = .ok (.ireturn, 1) := by decide +kernel
theorem dX7_feed_19 : decode cX7_feed 19 = .ok (.aload_n 0, 1) := by decide +kernel
theorem dX7_feed_20 : decode cX7_feed 20 = .ok (.iload_n 1, 1) := by decide +kernel
theorem dX7_feed_21 : decode cX7_feed 21 = .ok (.invokevirtual 211, 3) := by decide +kernel
theorem dX7_feed_24 : decode cX7_feed 24 = .ok (.aload_n 0, 1) := by decide +kernel
theorem dX7_feed_25 : decode cX7_feed 25 = .ok (.iload_n 2, 1) := by decide +kernel
theorem dX7_feed_26 : decode cX7_feed 26 = .ok (.invokevirtual 211, 3) := by decide +kernel
theorem dX7_feed_29 : decode cX7_feed 29 = .ok (.aload_n 0, 1) := by decide +kernel
theorem dX7_feed_30 : decode cX7_feed 30 = .ok (.iload_n 3, 1) := by decide +kernel
theorem dX7_feed_31 : decode cX7_feed 31 = .ok (.invokevirtual 211, 3) := by decide +kernel
theorem dX7_feed_34 : decode cX7_feed 34 = .ok (.aload_n 0, 1) := by decide +kernel
theorem dX7_feed_35 : decode cX7_feed 35 = .ok (.iload 4, 2) := by decide +kernel
theorem dX7_feed_37 : decode cX7_feed 37 = .ok (.invokevirtual 211, 3) := by decide +kernel
theorem dX7_feed_40 : decode cX7_feed 40 = .ok (.aload_n 0, 1) := by decide +kernel
theorem dX7_feed_41 : decode cX7_feed 41 = .ok (.iload 5, 2) := by decide +kernel
theorem dX7_feed_43 : decode cX7_feed 43 = .ok (.invokevirtual 211, 3) := by decide +kernel
theorem dX7_feed_46 : decode cX7_feed 46 = .ok (.aload_n 0, 1) := by decide +kernel
theorem dX7_feed_47 : decode cX7_feed 47 = .ok (.getfield 208, 3) := by decide +kernel
theorem dX7_feed_50 : decode cX7_feed 50 = .ok (.ireturn, 1) := by decide +kernel
theorem dX7_four_0 : decode cX7_four 0 = .ok (.bipush 24, 2) := by decide +kernel
theorem dX7_four_2 : decode cX7_four 2 = .ok (.istore_n 2, 1) := by decide +kernel
theorem dX7_four_3 : decode cX7_four 3 = .ok (.iload_n 2, 1) := by decide +kernel
theorem dX7_four_4 : decode cX7_four 4 = .ok (.ifCond .lt 32, 3) := by decide +kernel
theorem dX7_four_7 : decode cX7_four 7 = .ok (.aload_n 0, 1) := by decide +kernel
theorem dX7_four_8 : decode cX7_four 8 = .ok (.getfield 36, 3) := by decide +kernel
theorem dX7_four_11 : decode cX7_four 11 = .ok (.aload_n 0, 1) := by decide +kernel
theorem dX7_four_12 : decode cX7_four 12 = .ok (.getfield 208, 3) := by decide +kernel
theorem dX7_four_15 : decode cX7_four 15 = .ok (.iload_n 1, 1) := by decide +kernel
theorem dX7_four_16 : decode cX7_four 16 = .ok (.iload_n 2, 1) := by decide +kernel
theorem dX7_four_17 : decode cX7_four 17 = .ok (.ishr, 1) := by decide +kernel
theorem dX7_four_18 : decode cX7_four 18 = .ok (.i2b, 1) := by decide +kernel
theorem dX7_four_19 : decode cX7_four 19 = .ok (.bastore, 1) := by decide +kernel
theorem dX7_four_20 : decode cX7_four 20 = .ok (.aload_n 0, 1) := by decide +kernel
theorem dX7_four_21 : decode cX7_four 21 = .ok (.dup, 1) := by decide +kernel
theorem dX7_four_22 : decode cX7_four 22 = .ok (.getfield 208, 3) := by decide +kernel
theorem dX7_four_25 : decode cX7_four 25 = .ok (.iconst 1, 1) := by decide +kernel
theorem dX7_four_26 : decode cX7_four 26 = .ok (.iadd, 1) := by decide +kernel
theorem dX7_four_27 : decode cX7_four 27 = .ok (.putfield 208, 3) := by decide +kernel
theorem dX7_four_30 : decode cX7_four 30 = .ok (.iinc 2 (-8), 3) := by decide +kernel
theorem dX7_four_33 : decode cX7_four 33 = .ok (.goto (-30), 3) := by decide +kernel
theorem dX7_four_36 : decode cX7_four 36 = .ok (.return_, 1) := by decide +kernel
theorem dX7_squareAt_0 : decode cX7_squareAt 0 = .ok (.aload_n 0, 1) := by decide +kernel
theorem dX7_squareAt_1 : decode cX7_squareAt 1 = .ok (.getfield 36, 3) := by decide +kernel
theorem dX7_squareAt_4 : decode cX7_squareAt 4 = .ok (.iload_n 1, 1) := by decide +kernel
theorem dX7_squareAt_5 : decode cX7_squareAt 5 = .ok (.baload, 1) := by decide +kernel
theorem dX7_squareAt_6 : decode cX7_squareAt 6 = .ok (.bipush 97, 2) := by decide +kernel
theorem dX7_squareAt_8 : decode cX7_squareAt 8 = .ok (.isub, 1) := by decide +kernel
theorem dX7_squareAt_9 : decode cX7_squareAt 9 = .ok (.istore_n 2, 1) := by decide +kernel
theorem dX7_squareAt_10 : decode cX7_squareAt 10 = .ok (.aload_n 0, 1) := by decide +kernel
theorem dX7_squareAt_11 : decode cX7_squareAt 11 = .ok (.getfield 36, 3) := by decide +kernel
theorem dX7_squareAt_14 : decode cX7_squareAt 14 = .ok (.iload_n 1, 1) := by decide +kernel
theorem dX7_squareAt_15 : decode cX7_squareAt 15 = .ok (.iconst 1, 1) := by decide +kernel
theorem dX7_squareAt_16 : decode cX7_squareAt 16 = .ok (.iadd, 1) := by decide +kernel
theorem dX7_squareAt_17 : decode cX7_squareAt 17 = .ok (.baload, 1) := by decide +kernel
theorem dX7_squareAt_18 : decode cX7_squareAt 18 = .ok (.bipush 49, 2) := by decide +kernel
theorem dX7_squareAt_20 : decode cX7_squareAt 20 = .ok (.isub, 1) := by decide +kernel
theorem dX7_squareAt_21 : decode cX7_squareAt 21 = .ok (.istore_n 3, 1) := by decide +kernel
theorem dX7_squareAt_22 : decode cX7_squareAt 22 = .ok (.iload_n 2, 1) := by decide +kernel
theorem dX7_squareAt_23 : decode cX7_squareAt 23 = .ok (.iconst 0, 1) := by decide +kernel
theorem dX7_squareAt_24 : decode cX7_squareAt 24 = .ok (.aload_n 0, 1) := by decide +kernel
theorem dX7_squareAt_25 : decode cX7_squareAt 25 = .ok (.getfield 7, 3) := by decide +kernel
theorem dX7_squareAt_28 : decode cX7_squareAt 28 = .ok (.iconst 1, 1) := by decide +kernel
theorem dX7_squareAt_29 : decode cX7_squareAt 29 = .ok (.isub, 1) := by decide +kernel
theorem dX7_squareAt_30 : decode cX7_squareAt 30 = .ok (.invokestatic 84, 3) := by decide +kernel
theorem dX7_squareAt_33 : decode cX7_squareAt 33 = .ok (.ifCond .eq 28, 3) := by decide +kernel
theorem dX7_squareAt_36 : decode cX7_squareAt 36 = .ok (.iload_n 3, 1) := by decide +kernel
theorem dX7_squareAt_37 : decode cX7_squareAt 37 = .ok (.iconst 0, 1) := by decide +kernel
theorem dX7_squareAt_38 : decode cX7_squareAt 38 = .ok (.aload_n 0, 1) := by decide +kernel
theorem dX7_squareAt_39 : decode cX7_squareAt 39 = .ok (.getfield 7, 3) := by decide +kernel
theorem dX7_squareAt_42 : decode cX7_squareAt 42 = .ok (.iconst 1, 1) := by decide +kernel
theorem dX7_squareAt_43 : decode cX7_squareAt 43 = .ok (.isub, 1) := by decide +kernel
theorem dX7_squareAt_44 : decode cX7_squareAt 44 = .ok (.invokestatic 84, 3) := by decide +kernel
theorem dX7_squareAt_47 : decode cX7_squareAt 47 = .ok (.ifCond .eq 14, 3) := by decide +kernel
theorem dX7_squareAt_50 : decode cX7_squareAt 50 = .ok (.aload_n 0, 1) := by decide +kernel
theorem dX7_squareAt_51 : decode cX7_squareAt 51 = .ok (.getfield 7, 3) := by decide +kernel
theorem dX7_squareAt_54 : decode cX7_squareAt 54 = .ok (.iload_n 3, 1) := by decide +kernel
theorem dX7_squareAt_55 : decode cX7_squareAt 55 = .ok (.imul, 1) := by decide +kernel
theorem dX7_squareAt_56 : decode cX7_squareAt 56 = .ok (.iload_n 2, 1) := by decide +kernel
theorem dX7_squareAt_57 : decode cX7_squareAt 57 = .ok (.iadd, 1) := by decide +kernel
theorem dX7_squareAt_58 : decode cX7_squareAt 58 = .ok (.goto 4, 3) := by decide +kernel
theorem dX7_squareAt_61 : decode cX7_squareAt 61 = .ok (.iconst (-1), 1) := by decide +kernel
theorem dX7_squareAt_62 : decode cX7_squareAt 62 = .ok (.ireturn, 1) := by decide +kernel
theorem dX7_read_0 : decode cX7_read 0 = .ok (.aload_n 0, 1) := by decide +kernel
theorem dX7_read_1 : decode cX7_read 1 = .ok (.iconst 0, 1) := by decide +kernel
theorem dX7_read_2 : decode cX7_read 2 = .ok (.putfield 81, 3) := by decide +kernel
theorem dX7_read_5 : decode cX7_read 5 = .ok (.iload_n 1, 1) := by decide +kernel
theorem dX7_read_6 : decode cX7_read 6 = .ok (.iconst 0, 1) := by decide +kernel
theorem dX7_read_7 : decode cX7_read 7 = .ok (.aload_n 0, 1) := by decide +kernel
theorem dX7_read_8 : decode cX7_read 8 = .ok (.getfield 208, 3) := by decide +kernel
theorem dX7_read_11 : decode cX7_read 11 = .ok (.invokestatic 84, 3) := by decide +kernel
theorem dX7_read_14 : decode cX7_read 14 = .ok (.ifCond .ne 6, 3) := by decide +kernel
theorem dX7_read_17 : decode cX7_read 17 = .ok (.bipush (-2), 2) := by decide +kernel
theorem dX7_read_19 : decode cX7_read 19 = .ok (.ireturn, 1) := by decide +kernel
theorem dX7_read_20 : decode cX7_read 20 = .ok (.aload_n 0, 1) := by decide +kernel
theorem dX7_read_21 : decode cX7_read 21 = .ok (.iconst 0, 1) := by decide +kernel
theorem dX7_read_22 : decode cX7_read 22 = .ok (.putfield 208, 3) := by decide +kernel
theorem dX7_read_25 : decode cX7_read 25 = .ok (.iload_n 1, 1) := by decide +kernel
theorem dX7_read_26 : decode cX7_read 26 = .ok (.bipush 13, 2) := by decide +kernel
theorem dX7_read_28 : decode cX7_read 28 = .ok (.if_icmp .ne 61, 3) := by decide +kernel
theorem dX7_read_31 : decode cX7_read 31 = .ok (.aload_n 0, 1) := by decide +kernel
theorem dX7_read_32 : decode cX7_read 32 = .ok (.getfield 36, 3) := by decide +kernel
theorem dX7_read_35 : decode cX7_read 35 = .ok (.iconst 0, 1) := by decide +kernel
theorem dX7_read_36 : decode cX7_read 36 = .ok (.baload, 1) := by decide +kernel
theorem dX7_read_37 : decode cX7_read 37 = .ok (.bipush 75, 2) := by decide +kernel
theorem dX7_read_39 : decode cX7_read 39 = .ok (.if_icmp .ne 50, 3) := by decide +kernel
theorem dX7_read_42 : decode cX7_read 42 = .ok (.aload_n 0, 1) := by decide +kernel
theorem dX7_read_43 : decode cX7_read 43 = .ok (.getfield 36, 3) := by decide +kernel
theorem dX7_read_46 : decode cX7_read 46 = .ok (.iconst 3, 1) := by decide +kernel
theorem dX7_read_47 : decode cX7_read 47 = .ok (.baload, 1) := by decide +kernel
theorem dX7_read_48 : decode cX7_read 48 = .ok (.bipush 32, 2) := by decide +kernel
theorem dX7_read_50 : decode cX7_read 50 = .ok (.if_icmp .ne 39, 3) := by decide +kernel
theorem dX7_read_53 : decode cX7_read 53 = .ok (.aload_n 0, 1) := by decide +kernel
theorem dX7_read_54 : decode cX7_read 54 = .ok (.getfield 36, 3) := by decide +kernel
theorem dX7_read_57 : decode cX7_read 57 = .ok (.bipush 7, 2) := by decide +kernel
theorem dX7_read_59 : decode cX7_read 59 = .ok (.baload, 1) := by decide +kernel
theorem dX7_read_60 : decode cX7_read 60 = .ok (.bipush 32, 2) := by decide +kernel
theorem dX7_read_62 : decode cX7_read 62 = .ok (.if_icmp .ne 27, 3) := by decide +kernel
theorem dX7_read_65 : decode cX7_read 65 = .ok (.aload_n 0, 1) := by decide +kernel
theorem dX7_read_66 : decode cX7_read 66 = .ok (.getfield 36, 3) := by decide +kernel
theorem dX7_read_69 : decode cX7_read 69 = .ok (.bipush 8, 2) := by decide +kernel
theorem dX7_read_71 : decode cX7_read 71 = .ok (.baload, 1) := by decide +kernel
theorem dX7_read_72 : decode cX7_read 72 = .ok (.bipush 107, 2) := by decide +kernel
theorem dX7_read_74 : decode cX7_read 74 = .ok (.if_icmp .ne 15, 3) := by decide +kernel
theorem dX7_read_77 : decode cX7_read 77 = .ok (.aload_n 0, 1) := by decide +kernel
theorem dX7_read_78 : decode cX7_read 78 = .ok (.getfield 36, 3) := by decide +kernel
theorem dX7_read_81 : decode cX7_read 81 = .ok (.bipush 11, 2) := by decide +kernel
theorem dX7_read_83 : decode cX7_read 83 = .ok (.baload, 1) := by decide +kernel
theorem dX7_read_84 : decode cX7_read 84 = .ok (.bipush 32, 2) := by decide +kernel
theorem dX7_read_86 : decode cX7_read 86 = .ok (.if_icmp .eq 5, 3) := by decide +kernel
theorem dX7_read_89 : decode cX7_read 89 = .ok (.iconst (-1), 1) := by decide +kernel
theorem dX7_read_90 : decode cX7_read 90 = .ok (.ireturn, 1) := by decide +kernel
theorem dX7_read_91 : decode cX7_read 91 = .ok (.aload_n 0, 1) := by decide +kernel
theorem dX7_read_92 : decode cX7_read 92 = .ok (.getfield 36, 3) := by decide +kernel
theorem dX7_read_95 : decode cX7_read 95 = .ok (.iconst 4, 1) := by decide +kernel
theorem dX7_read_96 : decode cX7_read 96 = .ok (.baload, 1) := by decide +kernel
theorem dX7_read_97 : decode cX7_read 97 = .ok (.bipush 81, 2) := by decide +kernel
theorem dX7_read_99 : decode cX7_read 99 = .ok (.if_icmp .ne 7, 3) := by decide +kernel
theorem dX7_read_102 : decode cX7_read 102 = .ok (.iconst 0, 1) := by decide +kernel
theorem dX7_read_103 : decode cX7_read 103 = .ok (.goto 34, 3) := by decide +kernel
theorem dX7_read_106 : decode cX7_read 106 = .ok (.aload_n 0, 1) := by decide +kernel
theorem dX7_read_107 : decode cX7_read 107 = .ok (.getfield 36, 3) := by decide +kernel
theorem dX7_read_110 : decode cX7_read 110 = .ok (.iconst 4, 1) := by decide +kernel
theorem dX7_read_111 : decode cX7_read 111 = .ok (.baload, 1) := by decide +kernel
theorem dX7_read_112 : decode cX7_read 112 = .ok (.bipush 82, 2) := by decide +kernel
theorem dX7_read_114 : decode cX7_read 114 = .ok (.if_icmp .ne 7, 3) := by decide +kernel
theorem dX7_read_117 : decode cX7_read 117 = .ok (.iconst 1, 1) := by decide +kernel
theorem dX7_read_118 : decode cX7_read 118 = .ok (.goto 19, 3) := by decide +kernel
theorem dX7_read_121 : decode cX7_read 121 = .ok (.aload_n 0, 1) := by decide +kernel
theorem dX7_read_122 : decode cX7_read 122 = .ok (.getfield 36, 3) := by decide +kernel
theorem dX7_read_125 : decode cX7_read 125 = .ok (.iconst 4, 1) := by decide +kernel
theorem dX7_read_126 : decode cX7_read 126 = .ok (.baload, 1) := by decide +kernel
theorem dX7_read_127 : decode cX7_read 127 = .ok (.bipush 80, 2) := by decide +kernel
theorem dX7_read_129 : decode cX7_read 129 = .ok (.if_icmp .ne 7, 3) := by decide +kernel
theorem dX7_read_132 : decode cX7_read 132 = .ok (.iconst 2, 1) := by decide +kernel
theorem dX7_read_133 : decode cX7_read 133 = .ok (.goto 4, 3) := by decide +kernel
theorem dX7_read_136 : decode cX7_read 136 = .ok (.iconst (-1), 1) := by decide +kernel
theorem dX7_read_137 : decode cX7_read 137 = .ok (.istore_n 2, 1) := by decide +kernel
theorem dX7_read_138 : decode cX7_read 138 = .ok (.aload_n 0, 1) := by decide +kernel
theorem dX7_read_139 : decode cX7_read 139 = .ok (.getfield 36, 3) := by decide +kernel
theorem dX7_read_142 : decode cX7_read 142 = .ok (.bipush 12, 2) := by decide +kernel
theorem dX7_read_144 : decode cX7_read 144 = .ok (.baload, 1) := by decide +kernel
theorem dX7_read_145 : decode cX7_read 145 = .ok (.bipush 119, 2) := by decide +kernel
theorem dX7_read_147 : decode cX7_read 147 = .ok (.if_icmp .ne 7, 3) := by decide +kernel
theorem dX7_read_150 : decode cX7_read 150 = .ok (.iconst 0, 1) := by decide +kernel
theorem dX7_read_151 : decode cX7_read 151 = .ok (.goto 20, 3) := by decide +kernel
theorem dX7_read_154 : decode cX7_read 154 = .ok (.aload_n 0, 1) := by decide +kernel
theorem dX7_read_155 : decode cX7_read 155 = .ok (.getfield 36, 3) := by decide +kernel
theorem dX7_read_158 : decode cX7_read 158 = .ok (.bipush 12, 2) := by decide +kernel
theorem dX7_read_160 : decode cX7_read 160 = .ok (.baload, 1) := by decide +kernel
theorem dX7_read_161 : decode cX7_read 161 = .ok (.bipush 98, 2) := by decide +kernel
theorem dX7_read_163 : decode cX7_read 163 = .ok (.if_icmp .ne 7, 3) := by decide +kernel
theorem dX7_read_166 : decode cX7_read 166 = .ok (.iconst 1, 1) := by decide +kernel
theorem dX7_read_167 : decode cX7_read 167 = .ok (.goto 4, 3) := by decide +kernel
theorem dX7_read_170 : decode cX7_read 170 = .ok (.iconst (-1), 1) := by decide +kernel
theorem dX7_read_171 : decode cX7_read 171 = .ok (.istore_n 3, 1) := by decide +kernel
theorem dX7_read_172 : decode cX7_read 172 = .ok (.aload_n 0, 1) := by decide +kernel
theorem dX7_read_173 : decode cX7_read 173 = .ok (.iconst 1, 1) := by decide +kernel
theorem dX7_read_174 : decode cX7_read 174 = .ok (.invokevirtual 214, 3) := by decide +kernel
theorem dX7_read_177 : decode cX7_read 177 = .ok (.istore 4, 2) := by decide +kernel
theorem dX7_read_179 : decode cX7_read 179 = .ok (.aload_n 0, 1) := by decide +kernel
theorem dX7_read_180 : decode cX7_read 180 = .ok (.iconst 5, 1) := by decide +kernel
theorem dX7_read_181 : decode cX7_read 181 = .ok (.invokevirtual 214, 3) := by decide +kernel
theorem dX7_read_184 : decode cX7_read 184 = .ok (.istore 5, 2) := by decide +kernel
theorem dX7_read_186 : decode cX7_read 186 = .ok (.aload_n 0, 1) := by decide +kernel
theorem dX7_read_187 : decode cX7_read 187 = .ok (.bipush 9, 2) := by decide +kernel
theorem dX7_read_189 : decode cX7_read 189 = .ok (.invokevirtual 214, 3) := by decide +kernel
theorem dX7_read_192 : decode cX7_read 192 = .ok (.istore 6, 2) := by decide +kernel
theorem dX7_read_194 : decode cX7_read 194 = .ok (.aload_n 0, 1) := by decide +kernel
theorem dX7_read_195 : decode cX7_read 195 = .ok (.iload_n 2, 1) := by decide +kernel
theorem dX7_read_196 : decode cX7_read 196 = .ok (.iload 4, 2) := by decide +kernel
theorem dX7_read_198 : decode cX7_read 198 = .ok (.iload 6, 2) := by decide +kernel
theorem dX7_read_200 : decode cX7_read 200 = .ok (.iload 5, 2) := by decide +kernel
theorem dX7_read_202 : decode cX7_read 202 = .ok (.iload_n 3, 1) := by decide +kernel
theorem dX7_read_203 : decode cX7_read 203 = .ok (.invokevirtual 183, 3) := by decide +kernel
theorem dX7_read_206 : decode cX7_read 206 = .ok (.ifCond .eq 18, 3) := by decide +kernel
theorem dX7_read_209 : decode cX7_read 209 = .ok (.aload_n 0, 1) := by decide +kernel
theorem dX7_read_210 : decode cX7_read 210 = .ok (.iload_n 2, 1) := by decide +kernel
theorem dX7_read_211 : decode cX7_read 211 = .ok (.iload 4, 2) := by decide +kernel
theorem dX7_read_213 : decode cX7_read 213 = .ok (.iload 6, 2) := by decide +kernel
theorem dX7_read_215 : decode cX7_read 215 = .ok (.iload 5, 2) := by decide +kernel
theorem dX7_read_217 : decode cX7_read 217 = .ok (.iload_n 3, 1) := by decide +kernel
theorem dX7_read_218 : decode cX7_read 218 = .ok (.invokevirtual 107, 3) := by decide +kernel
theorem dX7_read_221 : decode cX7_read 221 = .ok (.ifCond .ne 5, 3) := by decide +kernel
theorem dX7_read_224 : decode cX7_read 224 = .ok (.iconst (-1), 1) := by decide +kernel
theorem dX7_read_225 : decode cX7_read 225 = .ok (.ireturn, 1) := by decide +kernel
theorem dX7_read_226 : decode cX7_read 226 = .ok (.aload_n 0, 1) := by decide +kernel
theorem dX7_read_227 : decode cX7_read 227 = .ok (.iload 4, 2) := by decide +kernel
theorem dX7_read_229 : decode cX7_read 229 = .ok (.iload 6, 2) := by decide +kernel
theorem dX7_read_231 : decode cX7_read 231 = .ok (.iload 5, 2) := by decide +kernel
theorem dX7_read_233 : decode cX7_read 233 = .ok (.iload_n 3, 1) := by decide +kernel
theorem dX7_read_234 : decode cX7_read 234 = .ok (.invokevirtual 119, 3) := by decide +kernel
theorem dX7_read_237 : decode cX7_read 237 = .ok (.iconst 2, 1) := by decide +kernel
theorem dX7_read_238 : decode cX7_read 238 = .ok (.aload_n 0, 1) := by decide +kernel
theorem dX7_read_239 : decode cX7_read 239 = .ok (.getfield 13, 3) := by decide +kernel
theorem dX7_read_242 : decode cX7_read 242 = .ok (.imul, 1) := by decide +kernel
theorem dX7_read_243 : decode cX7_read 243 = .ok (.aload_n 0, 1) := by decide +kernel
theorem dX7_read_244 : decode cX7_read 244 = .ok (.getfield 13, 3) := by decide +kernel
theorem dX7_read_247 : decode cX7_read 247 = .ok (.imul, 1) := by decide +kernel
theorem dX7_read_248 : decode cX7_read 248 = .ok (.aload_n 0, 1) := by decide +kernel
theorem dX7_read_249 : decode cX7_read 249 = .ok (.getfield 13, 3) := by decide +kernel
theorem dX7_read_252 : decode cX7_read 252 = .ok (.imul, 1) := by decide +kernel
theorem dX7_read_253 : decode cX7_read 253 = .ok (.iload_n 2, 1) := by decide +kernel
theorem dX7_read_254 : decode cX7_read 254 = .ok (.imul, 1) := by decide +kernel
theorem dX7_read_255 : decode cX7_read 255 = .ok (.iadd, 1) := by decide +kernel
theorem dX7_read_256 : decode cX7_read 256 = .ok (.ireturn, 1) := by decide +kernel
theorem dX7_tell_0 : decode cX7_tell 0 = .ok (.aload_n 0, 1) := by decide +kernel
theorem dX7_tell_1 : decode cX7_tell 1 = .ok (.getfield 39, 3) := by decide +kernel
theorem dX7_tell_4 : decode cX7_tell 4 = .ok (.aload_n 0, 1) := by decide +kernel
theorem dX7_tell_5 : decode cX7_tell 5 = .ok (.getfield 217, 3) := by decide +kernel
theorem dX7_tell_8 : decode cX7_tell 8 = .ok (.iload_n 1, 1) := by decide +kernel
theorem dX7_tell_9 : decode cX7_tell 9 = .ok (.i2b, 1) := by decide +kernel
theorem dX7_tell_10 : decode cX7_tell 10 = .ok (.bastore, 1) := by decide +kernel
theorem dX7_tell_11 : decode cX7_tell 11 = .ok (.aload_n 0, 1) := by decide +kernel
theorem dX7_tell_12 : decode cX7_tell 12 = .ok (.dup, 1) := by decide +kernel
theorem dX7_tell_13 : decode cX7_tell 13 = .ok (.getfield 217, 3) := by decide +kernel
theorem dX7_tell_16 : decode cX7_tell 16 = .ok (.iconst 1, 1) := by decide +kernel
theorem dX7_tell_17 : decode cX7_tell 17 = .ok (.iadd, 1) := by decide +kernel
theorem dX7_tell_18 : decode cX7_tell 18 = .ok (.putfield 217, 3) := by decide +kernel
theorem dX7_tell_21 : decode cX7_tell 21 = .ok (.return_, 1) := by decide +kernel
theorem dX7_tellSquare_0 : decode cX7_tellSquare 0 = .ok (.aload_n 0, 1) := by decide +kernel
theorem dX7_tellSquare_1 : decode cX7_tellSquare 1 = .ok (.bipush 97, 2) := by decide +kernel
theorem dX7_tellSquare_3 : decode cX7_tellSquare 3 = .ok (.iload_n 1, 1) := by decide +kernel
theorem dX7_tellSquare_4 : decode cX7_tellSquare 4 = .ok (.aload_n 0, 1) := by decide +kernel
theorem dX7_tellSquare_5 : decode cX7_tellSquare 5 = .ok (.getfield 7, 3) := by decide +kernel
theorem dX7_tellSquare_8 : decode cX7_tellSquare 8 = .ok (.irem, 1) := by decide +kernel
theorem dX7_tellSquare_9 : decode cX7_tellSquare 9 = .ok (.iadd, 1) := by decide +kernel
theorem dX7_tellSquare_10 : decode cX7_tellSquare 10 = .ok (.invokevirtual 220, 3) := by decide +kernel
theorem dX7_tellSquare_13 : decode cX7_tellSquare 13 = .ok (.aload_n 0, 1) := by decide +kernel
theorem dX7_tellSquare_14 : decode cX7_tellSquare 14 = .ok (.bipush 49, 2) := by decide +kernel
theorem dX7_tellSquare_16 : decode cX7_tellSquare 16 = .ok (.iload_n 1, 1) := by decide +kernel
theorem dX7_tellSquare_17 : decode cX7_tellSquare 17 = .ok (.aload_n 0, 1) := by decide +kernel
theorem dX7_tellSquare_18 : decode cX7_tellSquare 18 = .ok (.getfield 7, 3) := by decide +kernel
theorem dX7_tellSquare_21 : decode cX7_tellSquare 21 = .ok (.idiv, 1) := by decide +kernel
theorem dX7_tellSquare_22 : decode cX7_tellSquare 22 = .ok (.iadd, 1) := by decide +kernel
theorem dX7_tellSquare_23 : decode cX7_tellSquare 23 = .ok (.invokevirtual 220, 3) := by decide +kernel
theorem dX7_tellSquare_26 : decode cX7_tellSquare 26 = .ok (.return_, 1) := by decide +kernel
theorem dX7_show_0 : decode cX7_show 0 = .ok (.aload_n 0, 1) := by decide +kernel
theorem dX7_show_1 : decode cX7_show 1 = .ok (.iconst 0, 1) := by decide +kernel
theorem dX7_show_2 : decode cX7_show 2 = .ok (.putfield 81, 3) := by decide +kernel
theorem dX7_show_5 : decode cX7_show 5 = .ok (.aload_n 0, 1) := by decide +kernel
theorem dX7_show_6 : decode cX7_show 6 = .ok (.iload_n 1, 1) := by decide +kernel
theorem dX7_show_7 : decode cX7_show 7 = .ok (.iload_n 2, 1) := by decide +kernel
theorem dX7_show_8 : decode cX7_show 8 = .ok (.iload_n 3, 1) := by decide +kernel
theorem dX7_show_9 : decode cX7_show 9 = .ok (.iload 4, 2) := by decide +kernel
theorem dX7_show_11 : decode cX7_show 11 = .ok (.iload 5, 2) := by decide +kernel
theorem dX7_show_13 : decode cX7_show 13 = .ok (.invokevirtual 183, 3) := by decide +kernel
theorem dX7_show_16 : decode cX7_show 16 = .ok (.ifCond .eq 17, 3) := by decide +kernel
theorem dX7_show_19 : decode cX7_show 19 = .ok (.aload_n 0, 1) := by decide +kernel
theorem dX7_show_20 : decode cX7_show 20 = .ok (.iload_n 1, 1) := by decide +kernel
theorem dX7_show_21 : decode cX7_show 21 = .ok (.iload_n 2, 1) := by decide +kernel
theorem dX7_show_22 : decode cX7_show 22 = .ok (.iload_n 3, 1) := by decide +kernel
theorem dX7_show_23 : decode cX7_show 23 = .ok (.iload 4, 2) := by decide +kernel
theorem dX7_show_25 : decode cX7_show 25 = .ok (.iload 5, 2) := by decide +kernel
theorem dX7_show_27 : decode cX7_show 27 = .ok (.invokevirtual 107, 3) := by decide +kernel
theorem dX7_show_30 : decode cX7_show 30 = .ok (.ifCond .ne 5, 3) := by decide +kernel
theorem dX7_show_33 : decode cX7_show 33 = .ok (.iconst (-1), 1) := by decide +kernel
theorem dX7_show_34 : decode cX7_show 34 = .ok (.ireturn, 1) := by decide +kernel
theorem dX7_show_35 : decode cX7_show 35 = .ok (.aload_n 0, 1) := by decide +kernel
theorem dX7_show_36 : decode cX7_show 36 = .ok (.iconst 0, 1) := by decide +kernel
theorem dX7_show_37 : decode cX7_show 37 = .ok (.putfield 217, 3) := by decide +kernel
theorem dX7_show_40 : decode cX7_show 40 = .ok (.aload_n 0, 1) := by decide +kernel
theorem dX7_show_41 : decode cX7_show 41 = .ok (.bipush 75, 2) := by decide +kernel
theorem dX7_show_43 : decode cX7_show 43 = .ok (.invokevirtual 220, 3) := by decide +kernel
theorem dX7_show_46 : decode cX7_show 46 = .ok (.aload_n 0, 1) := by decide +kernel
theorem dX7_show_47 : decode cX7_show 47 = .ok (.iload_n 2, 1) := by decide +kernel
theorem dX7_show_48 : decode cX7_show 48 = .ok (.invokevirtual 223, 3) := by decide +kernel
theorem dX7_show_51 : decode cX7_show 51 = .ok (.aload_n 0, 1) := by decide +kernel
theorem dX7_show_52 : decode cX7_show 52 = .ok (.bipush 32, 2) := by decide +kernel
theorem dX7_show_54 : decode cX7_show 54 = .ok (.invokevirtual 220, 3) := by decide +kernel
theorem dX7_show_57 : decode cX7_show 57 = .ok (.aload_n 0, 1) := by decide +kernel
theorem dX7_show_58 : decode cX7_show 58 = .ok (.iload_n 1, 1) := by decide +kernel
theorem dX7_show_59 : decode cX7_show 59 = .ok (.ifCond .ne 8, 3) := by decide +kernel
theorem dX7_show_62 : decode cX7_show 62 = .ok (.bipush 81, 2) := by decide +kernel
theorem dX7_show_64 : decode cX7_show 64 = .ok (.goto 15, 3) := by decide +kernel
theorem dX7_show_67 : decode cX7_show 67 = .ok (.iload_n 1, 1) := by decide +kernel
theorem dX7_show_68 : decode cX7_show 68 = .ok (.iconst 1, 1) := by decide +kernel
theorem dX7_show_69 : decode cX7_show 69 = .ok (.if_icmp .ne 8, 3) := by decide +kernel
theorem dX7_show_72 : decode cX7_show 72 = .ok (.bipush 82, 2) := by decide +kernel
theorem dX7_show_74 : decode cX7_show 74 = .ok (.goto 5, 3) := by decide +kernel
theorem dX7_show_77 : decode cX7_show 77 = .ok (.bipush 80, 2) := by decide +kernel
theorem dX7_show_79 : decode cX7_show 79 = .ok (.invokevirtual 220, 3) := by decide +kernel
theorem dX7_show_82 : decode cX7_show 82 = .ok (.aload_n 0, 1) := by decide +kernel
theorem dX7_show_83 : decode cX7_show 83 = .ok (.iload 4, 2) := by decide +kernel
theorem dX7_show_85 : decode cX7_show 85 = .ok (.invokevirtual 223, 3) := by decide +kernel
theorem dX7_show_88 : decode cX7_show 88 = .ok (.aload_n 0, 1) := by decide +kernel
theorem dX7_show_89 : decode cX7_show 89 = .ok (.bipush 32, 2) := by decide +kernel
theorem dX7_show_91 : decode cX7_show 91 = .ok (.invokevirtual 220, 3) := by decide +kernel
theorem dX7_show_94 : decode cX7_show 94 = .ok (.aload_n 0, 1) := by decide +kernel
theorem dX7_show_95 : decode cX7_show 95 = .ok (.bipush 107, 2) := by decide +kernel
theorem dX7_show_97 : decode cX7_show 97 = .ok (.invokevirtual 220, 3) := by decide +kernel
theorem dX7_show_100 : decode cX7_show 100 = .ok (.aload_n 0, 1) := by decide +kernel
theorem dX7_show_101 : decode cX7_show 101 = .ok (.iload_n 3, 1) := by decide +kernel
theorem dX7_show_102 : decode cX7_show 102 = .ok (.invokevirtual 223, 3) := by decide +kernel
theorem dX7_show_105 : decode cX7_show 105 = .ok (.aload_n 0, 1) := by decide +kernel
theorem dX7_show_106 : decode cX7_show 106 = .ok (.bipush 32, 2) := by decide +kernel
theorem dX7_show_108 : decode cX7_show 108 = .ok (.invokevirtual 220, 3) := by decide +kernel
theorem dX7_show_111 : decode cX7_show 111 = .ok (.aload_n 0, 1) := by decide +kernel
theorem dX7_show_112 : decode cX7_show 112 = .ok (.iload 5, 2) := by decide +kernel
theorem dX7_show_114 : decode cX7_show 114 = .ok (.ifCond .ne 8, 3) := by decide +kernel
theorem dX7_show_117 : decode cX7_show 117 = .ok (.bipush 119, 2) := by decide +kernel
theorem dX7_show_119 : decode cX7_show 119 = .ok (.goto 5, 3) := by decide +kernel
theorem dX7_show_122 : decode cX7_show 122 = .ok (.bipush 98, 2) := by decide +kernel
theorem dX7_show_124 : decode cX7_show 124 = .ok (.invokevirtual 220, 3) := by decide +kernel
theorem dX7_show_127 : decode cX7_show 127 = .ok (.aload_n 0, 1) := by decide +kernel
theorem dX7_show_128 : decode cX7_show 128 = .ok (.getfield 217, 3) := by decide +kernel
theorem dX7_show_131 : decode cX7_show 131 = .ok (.ireturn, 1) := by decide +kernel
theorem dX7_out_0 : decode cX7_out 0 = .ok (.aload_n 0, 1) := by decide +kernel
theorem dX7_out_1 : decode cX7_out 1 = .ok (.iconst 0, 1) := by decide +kernel
theorem dX7_out_2 : decode cX7_out 2 = .ok (.putfield 81, 3) := by decide +kernel
theorem dX7_out_5 : decode cX7_out 5 = .ok (.iload_n 1, 1) := by decide +kernel
theorem dX7_out_6 : decode cX7_out 6 = .ok (.iconst 0, 1) := by decide +kernel
theorem dX7_out_7 : decode cX7_out 7 = .ok (.aload_n 0, 1) := by decide +kernel
theorem dX7_out_8 : decode cX7_out 8 = .ok (.getfield 217, 3) := by decide +kernel
theorem dX7_out_11 : decode cX7_out 11 = .ok (.iconst 1, 1) := by decide +kernel
theorem dX7_out_12 : decode cX7_out 12 = .ok (.isub, 1) := by decide +kernel
theorem dX7_out_13 : decode cX7_out 13 = .ok (.invokestatic 84, 3) := by decide +kernel
theorem dX7_out_16 : decode cX7_out 16 = .ok (.ifCond .eq 16, 3) := by decide +kernel
theorem dX7_out_19 : decode cX7_out 19 = .ok (.aload_n 0, 1) := by decide +kernel
theorem dX7_out_20 : decode cX7_out 20 = .ok (.getfield 39, 3) := by decide +kernel
theorem dX7_out_23 : decode cX7_out 23 = .ok (.iload_n 1, 1) := by decide +kernel
theorem dX7_out_24 : decode cX7_out 24 = .ok (.baload, 1) := by decide +kernel
theorem dX7_out_25 : decode cX7_out 25 = .ok (.sipush 255, 3) := by decide +kernel
theorem dX7_out_28 : decode cX7_out 28 = .ok (.iand, 1) := by decide +kernel
theorem dX7_out_29 : decode cX7_out 29 = .ok (.goto 4, 3) := by decide +kernel
theorem dX7_out_32 : decode cX7_out 32 = .ok (.iconst (-1), 1) := by decide +kernel
theorem dX7_out_33 : decode cX7_out 33 = .ok (.ireturn, 1) := by decide +kernel
theorem dX6_init_0 : decode cX6_init 0 = .ok (.aload_n 0, 1) := by decide +kernel
theorem dX6_init_1 : decode cX6_init 1 = .ok (.invokespecial 1, 3) := by decide +kernel
theorem dX6_init_4 : decode cX6_init 4 = .ok (.aload_n 0, 1) := by decide +kernel
theorem dX6_init_5 : decode cX6_init 5 = .ok (.bipush 9, 2) := by decide +kernel
theorem dX6_init_7 : decode cX6_init 7 = .ok (.anewarray 9, 3) := by decide +kernel
theorem dX6_init_10 : decode cX6_init 10 = .ok (.putfield 11, 3) := by decide +kernel
theorem dX6_init_13 : decode cX6_init 13 = .ok (.aload_n 0, 1) := by decide +kernel
theorem dX6_init_14 : decode cX6_init 14 = .ok (.iconst 3, 1) := by decide +kernel
theorem dX6_init_15 : decode cX6_init 15 = .ok (.newarray .boolean, 2) := by decide +kernel
theorem dX6_init_17 : decode cX6_init 17 = .ok (.putfield 15, 3) := by decide +kernel
theorem dX6_init_20 : decode cX6_init 20 = .ok (.aload_n 0, 1) := by decide +kernel
theorem dX6_init_21 : decode cX6_init 21 = .ok (.new 19, 3) := by decide +kernel
theorem dX6_init_24 : decode cX6_init 24 = .ok (.dup, 1) := by decide +kernel
theorem dX6_init_25 : decode cX6_init 25 = .ok (.invokespecial 21, 3) := by decide +kernel
theorem dX6_init_28 : decode cX6_init 28 = .ok (.putfield 22, 3) := by decide +kernel
theorem dX6_init_31 : decode cX6_init 31 = .ok (.aload_n 0, 1) := by decide +kernel
theorem dX6_init_32 : decode cX6_init 32 = .ok (.new 26, 3) := by decide +kernel
theorem dX6_init_35 : decode cX6_init 35 = .ok (.dup, 1) := by decide +kernel
theorem dX6_init_36 : decode cX6_init 36 = .ok (.invokespecial 28, 3) := by decide +kernel
theorem dX6_init_39 : decode cX6_init 39 = .ok (.putfield 29, 3) := by decide +kernel
theorem dX6_init_42 : decode cX6_init 42 = .ok (.aload_n 0, 1) := by decide +kernel
theorem dX6_init_43 : decode cX6_init 43 = .ok (.new 19, 3) := by decide +kernel
theorem dX6_init_46 : decode cX6_init 46 = .ok (.dup, 1) := by decide +kernel
theorem dX6_init_47 : decode cX6_init 47 = .ok (.invokespecial 21, 3) := by decide +kernel
theorem dX6_init_50 : decode cX6_init 50 = .ok (.putfield 33, 3) := by decide +kernel
theorem dX6_init_53 : decode cX6_init 53 = .ok (.aload_n 0, 1) := by decide +kernel
theorem dX6_init_54 : decode cX6_init 54 = .ok (.new 26, 3) := by decide +kernel
theorem dX6_init_57 : decode cX6_init 57 = .ok (.dup, 1) := by decide +kernel
theorem dX6_init_58 : decode cX6_init 58 = .ok (.invokespecial 28, 3) := by decide +kernel
theorem dX6_init_61 : decode cX6_init 61 = .ok (.putfield 36, 3) := by decide +kernel
theorem dX6_init_64 : decode cX6_init 64 = .ok (.aload_n 0, 1) := by decide +kernel
theorem dX6_init_65 : decode cX6_init 65 = .ok (.sipush 635, 3) := by decide +kernel
theorem dX6_init_68 : decode cX6_init 68 = .ok (.newarray .int, 2) := by decide +kernel
theorem dX6_init_70 : decode cX6_init 70 = .ok (.putfield 39, 3) := by decide +kernel
theorem dX6_init_73 : decode cX6_init 73 = .ok (.aload_n 0, 1) := by decide +kernel
theorem dX6_init_74 : decode cX6_init 74 = .ok (.bipush 40, 2) := by decide +kernel
theorem dX6_init_76 : decode cX6_init 76 = .ok (.newarray .int, 2) := by decide +kernel
theorem dX6_init_78 : decode cX6_init 78 = .ok (.putfield 43, 3) := by decide +kernel
theorem dX6_init_81 : decode cX6_init 81 = .ok (.aload_n 0, 1) := by decide +kernel
theorem dX6_init_82 : decode cX6_init 82 = .ok (.bipush 13, 2) := by decide +kernel
theorem dX6_init_84 : decode cX6_init 84 = .ok (.newarray .int, 2) := by decide +kernel
theorem dX6_init_86 : decode cX6_init 86 = .ok (.putfield 46, 3) := by decide +kernel
theorem dX6_init_89 : decode cX6_init 89 = .ok (.aload_n 0, 1) := by decide +kernel
theorem dX6_init_90 : decode cX6_init 90 = .ok (.new 9, 3) := by decide +kernel
theorem dX6_init_93 : decode cX6_init 93 = .ok (.dup, 1) := by decide +kernel
theorem dX6_init_94 : decode cX6_init 94 = .ok (.bipush 8, 2) := by decide +kernel
theorem dX6_init_96 : decode cX6_init 96 = .ok (.invokespecial 49, 3) := by decide +kernel
theorem dX6_init_99 : decode cX6_init 99 = .ok (.putfield 52, 3) := by decide +kernel
theorem dX6_init_102 : decode cX6_init 102 = .ok (.aload_n 0, 1) := by decide +kernel
theorem dX6_init_103 : decode cX6_init 103 = .ok (.getfield 11, 3) := by decide +kernel
theorem dX6_init_106 : decode cX6_init 106 = .ok (.bipush 8, 2) := by decide +kernel
theorem dX6_init_108 : decode cX6_init 108 = .ok (.aload_n 0, 1) := by decide +kernel
theorem dX6_init_109 : decode cX6_init 109 = .ok (.getfield 52, 3) := by decide +kernel
theorem dX6_init_112 : decode cX6_init 112 = .ok (.aastore, 1) := by decide +kernel
theorem dX6_init_113 : decode cX6_init 113 = .ok (.return_, 1) := by decide +kernel
theorem dX6_board_0 : decode cX6_board 0 = .ok (.iload_n 1, 1) := by decide +kernel
theorem dX6_board_1 : decode cX6_board 1 = .ok (.iconst 4, 1) := by decide +kernel
theorem dX6_board_2 : decode cX6_board 2 = .ok (.if_icmp .lt 9, 3) := by decide +kernel
theorem dX6_board_5 : decode cX6_board 5 = .ok (.iload_n 1, 1) := by decide +kernel
theorem dX6_board_6 : decode cX6_board 6 = .ok (.bipush 8, 2) := by decide +kernel
theorem dX6_board_8 : decode cX6_board 8 = .ok (.if_icmp .le 5, 3) := by decide +kernel
theorem dX6_board_11 : decode cX6_board 11 = .ok (.iconst 0, 1) := by decide +kernel
theorem dX6_board_12 : decode cX6_board 12 = .ok (.ireturn, 1) := by decide +kernel
theorem dX6_board_13 : decode cX6_board 13 = .ok (.aload_n 0, 1) := by decide +kernel
theorem dX6_board_14 : decode cX6_board 14 = .ok (.getfield 11, 3) := by decide +kernel
theorem dX6_board_17 : decode cX6_board 17 = .ok (.iload_n 1, 1) := by decide +kernel
theorem dX6_board_18 : decode cX6_board 18 = .ok (.aaload, 1) := by decide +kernel
theorem dX6_board_19 : decode cX6_board 19 = .ok (.ifnonnull 17, 3) := by decide +kernel
theorem dX6_board_22 : decode cX6_board 22 = .ok (.aload_n 0, 1) := by decide +kernel
theorem dX6_board_23 : decode cX6_board 23 = .ok (.getfield 11, 3) := by decide +kernel
theorem dX6_board_26 : decode cX6_board 26 = .ok (.iload_n 1, 1) := by decide +kernel
theorem dX6_board_27 : decode cX6_board 27 = .ok (.new 9, 3) := by decide +kernel
theorem dX6_board_30 : decode cX6_board 30 = .ok (.dup, 1) := by decide +kernel
theorem dX6_board_31 : decode cX6_board 31 = .ok (.iload_n 1, 1) := by decide +kernel
theorem dX6_board_32 : decode cX6_board 32 = .ok (.invokespecial 49, 3) := by decide +kernel
theorem dX6_board_35 : decode cX6_board 35 = .ok (.aastore, 1) := by decide +kernel
theorem dX6_board_36 : decode cX6_board 36 = .ok (.aload_n 0, 1) := by decide +kernel
theorem dX6_board_37 : decode cX6_board 37 = .ok (.aload_n 0, 1) := by decide +kernel
theorem dX6_board_38 : decode cX6_board 38 = .ok (.getfield 11, 3) := by decide +kernel
theorem dX6_board_41 : decode cX6_board 41 = .ok (.iload_n 1, 1) := by decide +kernel
theorem dX6_board_42 : decode cX6_board 42 = .ok (.aaload, 1) := by decide +kernel
theorem dX6_board_43 : decode cX6_board 43 = .ok (.putfield 52, 3) := by decide +kernel
theorem dX6_board_46 : decode cX6_board 46 = .ok (.iconst 0, 1) := by decide +kernel
theorem dX6_board_47 : decode cX6_board 47 = .ok (.istore_n 2, 1) := by decide +kernel
theorem dX6_board_48 : decode cX6_board 48 = .ok (.iload_n 2, 1) := by decide +kernel
theorem dX6_board_49 : decode cX6_board 49 = .ok (.iconst 3, 1) := by decide +kernel
theorem dX6_board_50 : decode cX6_board 50 = .ok (.if_icmp .ge 16, 3) := by decide +kernel
theorem dX6_board_53 : decode cX6_board 53 = .ok (.aload_n 0, 1) := by decide +kernel
theorem dX6_board_54 : decode cX6_board 54 = .ok (.getfield 15, 3) := by decide +kernel
theorem dX6_board_57 : decode cX6_board 57 = .ok (.iload_n 2, 1) := by decide +kernel
theorem dX6_board_58 : decode cX6_board 58 = .ok (.iconst 0, 1) := by decide +kernel
theorem dX6_board_59 : decode cX6_board 59 = .ok (.bastore, 1) := by decide +kernel
theorem dX6_board_60 : decode cX6_board 60 = .ok (.iinc 2 1, 3) := by decide +kernel
theorem dX6_board_63 : decode cX6_board 63 = .ok (.goto (-15), 3) := by decide +kernel
theorem dX6_board_66 : decode cX6_board 66 = .ok (.aload_n 0, 1) := by decide +kernel
theorem dX6_board_67 : decode cX6_board 67 = .ok (.iconst 0, 1) := by decide +kernel
theorem dX6_board_68 : decode cX6_board 68 = .ok (.putfield 56, 3) := by decide +kernel
theorem dX6_board_71 : decode cX6_board 71 = .ok (.iconst 1, 1) := by decide +kernel
theorem dX6_board_72 : decode cX6_board 72 = .ok (.ireturn, 1) := by decide +kernel
theorem dX6_make_0 : decode cX6_make 0 = .ok (.iload_n 1, 1) := by decide +kernel
theorem dX6_make_1 : decode cX6_make 1 = .ok (.ifCond .lt 8, 3) := by decide +kernel
theorem dX6_make_4 : decode cX6_make 4 = .ok (.iload_n 1, 1) := by decide +kernel
theorem dX6_make_5 : decode cX6_make 5 = .ok (.iconst 2, 1) := by decide +kernel
theorem dX6_make_6 : decode cX6_make 6 = .ok (.if_icmp .le 5, 3) := by decide +kernel
theorem dX6_make_9 : decode cX6_make 9 = .ok (.iconst (-1), 1) := by decide +kernel
theorem dX6_make_10 : decode cX6_make 10 = .ok (.ireturn, 1) := by decide +kernel
theorem dX6_make_11 : decode cX6_make 11 = .ok (.iload_n 1, 1) := by decide +kernel
theorem dX6_make_12 : decode cX6_make 12 = .ok (.iconst 2, 1) := by decide +kernel
theorem dX6_make_13 : decode cX6_make 13 = .ok (.if_icmp .ne 35, 3) := by decide +kernel
theorem dX6_make_16 : decode cX6_make 16 = .ok (.aload_n 0, 1) := by decide +kernel
theorem dX6_make_17 : decode cX6_make 17 = .ok (.getfield 52, 3) := by decide +kernel
theorem dX6_make_20 : decode cX6_make 20 = .ok (.iconst 0, 1) := by decide +kernel
theorem dX6_make_21 : decode cX6_make 21 = .ok (.invokevirtual 60, 3) := by decide +kernel
theorem dX6_make_24 : decode cX6_make 24 = .ok (.pop, 1) := by decide +kernel
theorem dX6_make_25 : decode cX6_make 25 = .ok (.aload_n 0, 1) := by decide +kernel
theorem dX6_make_26 : decode cX6_make 26 = .ok (.getfield 52, 3) := by decide +kernel
theorem dX6_make_29 : decode cX6_make 29 = .ok (.iconst 1, 1) := by decide +kernel
theorem dX6_make_30 : decode cX6_make 30 = .ok (.invokevirtual 60, 3) := by decide +kernel
theorem dX6_make_33 : decode cX6_make 33 = .ok (.pop, 1) := by decide +kernel
theorem dX6_make_34 : decode cX6_make 34 = .ok (.aload_n 0, 1) := by decide +kernel
theorem dX6_make_35 : decode cX6_make 35 = .ok (.getfield 15, 3) := by decide +kernel
theorem dX6_make_38 : decode cX6_make 38 = .ok (.iconst 0, 1) := by decide +kernel
theorem dX6_make_39 : decode cX6_make 39 = .ok (.iconst 1, 1) := by decide +kernel
theorem dX6_make_40 : decode cX6_make 40 = .ok (.bastore, 1) := by decide +kernel
theorem dX6_make_41 : decode cX6_make 41 = .ok (.aload_n 0, 1) := by decide +kernel
theorem dX6_make_42 : decode cX6_make 42 = .ok (.getfield 15, 3) := by decide +kernel
theorem dX6_make_45 : decode cX6_make 45 = .ok (.iconst 1, 1) := by decide +kernel
theorem dX6_make_46 : decode cX6_make 46 = .ok (.iconst 1, 1) := by decide +kernel
theorem dX6_make_47 : decode cX6_make 47 = .ok (.bastore, 1) := by decide +kernel
theorem dX6_make_48 : decode cX6_make 48 = .ok (.aload_n 0, 1) := by decide +kernel
theorem dX6_make_49 : decode cX6_make 49 = .ok (.getfield 15, 3) := by decide +kernel
theorem dX6_make_52 : decode cX6_make 52 = .ok (.iload_n 1, 1) := by decide +kernel
theorem dX6_make_53 : decode cX6_make 53 = .ok (.iconst 1, 1) := by decide +kernel
theorem dX6_make_54 : decode cX6_make 54 = .ok (.bastore, 1) := by decide +kernel
theorem dX6_make_55 : decode cX6_make 55 = .ok (.aload_n 0, 1) := by decide +kernel
theorem dX6_make_56 : decode cX6_make 56 = .ok (.getfield 52, 3) := by decide +kernel
theorem dX6_make_59 : decode cX6_make 59 = .ok (.iload_n 1, 1) := by decide +kernel
theorem dX6_make_60 : decode cX6_make 60 = .ok (.invokevirtual 60, 3) := by decide +kernel
theorem dX6_make_63 : decode cX6_make 63 = .ok (.invokevirtual 64, 3) := by decide +kernel
theorem dX6_make_66 : decode cX6_make 66 = .ok (.ireturn, 1) := by decide +kernel
theorem dX6_isLegal_0 : decode cX6_isLegal 0 = .ok (.aload_n 0, 1) := by decide +kernel
theorem dX6_isLegal_1 : decode cX6_isLegal 1 = .ok (.getfield 52, 3) := by decide +kernel
theorem dX6_isLegal_4 : decode cX6_isLegal 4 = .ok (.iload_n 1, 1) := by decide +kernel
theorem dX6_isLegal_5 : decode cX6_isLegal 5 = .ok (.iload_n 2, 1) := by decide +kernel
theorem dX6_isLegal_6 : decode cX6_isLegal 6 = .ok (.iload_n 3, 1) := by decide +kernel
theorem dX6_isLegal_7 : decode cX6_isLegal 7 = .ok (.iload 4, 2) := by decide +kernel
theorem dX6_isLegal_9 : decode cX6_isLegal 9 = .ok (.iload 5, 2) := by decide +kernel
theorem dX6_isLegal_11 : decode cX6_isLegal 11 = .ok (.invokevirtual 70, 3) := by decide +kernel
theorem dX6_isLegal_14 : decode cX6_isLegal 14 = .ok (.ireturn, 1) := by decide +kernel
theorem dX6_moves_0 : decode cX6_moves 0 = .ok (.aload_n 0, 1) := by decide +kernel
theorem dX6_moves_1 : decode cX6_moves 1 = .ok (.getfield 52, 3) := by decide +kernel
theorem dX6_moves_4 : decode cX6_moves 4 = .ok (.iload_n 1, 1) := by decide +kernel
theorem dX6_moves_5 : decode cX6_moves 5 = .ok (.iload_n 2, 1) := by decide +kernel
theorem dX6_moves_6 : decode cX6_moves 6 = .ok (.iload_n 3, 1) := by decide +kernel
theorem dX6_moves_7 : decode cX6_moves 7 = .ok (.iload 4, 2) := by decide +kernel
theorem dX6_moves_9 : decode cX6_moves 9 = .ok (.iload 5, 2) := by decide +kernel
theorem dX6_moves_11 : decode cX6_moves 11 = .ok (.invokevirtual 70, 3) := by decide +kernel
theorem dX6_moves_14 : decode cX6_moves 14 = .ok (.ifCond .ne 5, 3) := by decide +kernel
theorem dX6_moves_17 : decode cX6_moves 17 = .ok (.iconst (-1), 1) := by decide +kernel
theorem dX6_moves_18 : decode cX6_moves 18 = .ok (.ireturn, 1) := by decide +kernel
theorem dX6_moves_19 : decode cX6_moves 19 = .ok (.iload 5, 2) := by decide +kernel
theorem dX6_moves_21 : decode cX6_moves 21 = .ok (.iconst 1, 1) := by decide +kernel
theorem dX6_moves_22 : decode cX6_moves 22 = .ok (.if_icmp .ne 19, 3) := by decide +kernel
theorem dX6_moves_25 : decode cX6_moves 25 = .ok (.aload_n 0, 1) := by decide +kernel
theorem dX6_moves_26 : decode cX6_moves 26 = .ok (.getfield 52, 3) := by decide +kernel
theorem dX6_moves_29 : decode cX6_moves 29 = .ok (.iload_n 1, 1) := by decide +kernel
theorem dX6_moves_30 : decode cX6_moves 30 = .ok (.iload_n 2, 1) := by decide +kernel
theorem dX6_moves_31 : decode cX6_moves 31 = .ok (.iload_n 3, 1) := by decide +kernel
theorem dX6_moves_32 : decode cX6_moves 32 = .ok (.iload 4, 2) := by decide +kernel
theorem dX6_moves_34 : decode cX6_moves 34 = .ok (.invokevirtual 74, 3) := by decide +kernel
theorem dX6_moves_37 : decode cX6_moves 37 = .ok (.invokestatic 78, 3) := by decide +kernel
theorem dX6_moves_40 : decode cX6_moves 40 = .ok (.ireturn, 1) := by decide +kernel
theorem dX6_moves_41 : decode cX6_moves 41 = .ok (.aload_n 0, 1) := by decide +kernel
theorem dX6_moves_42 : decode cX6_moves 42 = .ok (.getfield 52, 3) := by decide +kernel
theorem dX6_moves_45 : decode cX6_moves 45 = .ok (.iload_n 1, 1) := by decide +kernel
theorem dX6_moves_46 : decode cX6_moves 46 = .ok (.iload_n 2, 1) := by decide +kernel
theorem dX6_moves_47 : decode cX6_moves 47 = .ok (.iload_n 3, 1) := by decide +kernel
theorem dX6_moves_48 : decode cX6_moves 48 = .ok (.iload 4, 2) := by decide +kernel
theorem dX6_moves_50 : decode cX6_moves 50 = .ok (.invokevirtual 84, 3) := by decide +kernel
theorem dX6_moves_53 : decode cX6_moves 53 = .ok (.invokestatic 78, 3) := by decide +kernel
theorem dX6_moves_56 : decode cX6_moves 56 = .ok (.istore 6, 2) := by decide +kernel
theorem dX6_moves_58 : decode cX6_moves 58 = .ok (.iload_n 1, 1) := by decide +kernel
theorem dX6_moves_59 : decode cX6_moves 59 = .ok (.iconst 2, 1) := by decide +kernel
theorem dX6_moves_60 : decode cX6_moves 60 = .ok (.if_icmp .ne 27, 3) := by decide +kernel
theorem dX6_moves_63 : decode cX6_moves 63 = .ok (.aload_n 0, 1) := by decide +kernel
theorem dX6_moves_64 : decode cX6_moves 64 = .ok (.getfield 52, 3) := by decide +kernel
theorem dX6_moves_67 : decode cX6_moves 67 = .ok (.iload 4, 2) := by decide +kernel
theorem dX6_moves_69 : decode cX6_moves 69 = .ok (.aload_n 0, 1) := by decide +kernel
theorem dX6_moves_70 : decode cX6_moves 70 = .ok (.getfield 52, 3) := by decide +kernel
theorem dX6_moves_73 : decode cX6_moves 73 = .ok (.getfield 87, 3) := by decide +kernel
theorem dX6_moves_76 : decode cX6_moves 76 = .ok (.iadd, 1) := by decide +kernel
theorem dX6_moves_77 : decode cX6_moves 77 = .ok (.invokevirtual 90, 3) := by decide +kernel
theorem dX6_moves_80 : decode cX6_moves 80 = .ok (.ifCond .eq 7, 3) := by decide +kernel
theorem dX6_moves_83 : decode cX6_moves 83 = .ok (.iconst 4, 1) := by decide +kernel
theorem dX6_moves_84 : decode cX6_moves 84 = .ok (.goto 4, 3) := by decide +kernel
theorem dX6_moves_87 : decode cX6_moves 87 = .ok (.iconst 1, 1) := by decide +kernel
theorem dX6_moves_88 : decode cX6_moves 88 = .ok (.istore 7, 2) := by decide +kernel
theorem dX6_moves_90 : decode cX6_moves 90 = .ok (.aload_n 0, 1) := by decide +kernel
theorem dX6_moves_91 : decode cX6_moves 91 = .ok (.getfield 52, 3) := by decide +kernel
theorem dX6_moves_94 : decode cX6_moves 94 = .ok (.iload_n 2, 1) := by decide +kernel
theorem dX6_moves_95 : decode cX6_moves 95 = .ok (.iload_n 3, 1) := by decide +kernel
theorem dX6_moves_96 : decode cX6_moves 96 = .ok (.iload 4, 2) := by decide +kernel
theorem dX6_moves_98 : decode cX6_moves 98 = .ok (.invokevirtual 94, 3) := by decide +kernel
theorem dX6_moves_101 : decode cX6_moves 101 = .ok (.invokestatic 78, 3) := by decide +kernel
theorem dX6_moves_104 : decode cX6_moves 104 = .ok (.iload 7, 2) := by decide +kernel
theorem dX6_moves_106 : decode cX6_moves 106 = .ok (.iload 6, 2) := by decide +kernel
theorem dX6_moves_108 : decode cX6_moves 108 = .ok (.imul, 1) := by decide +kernel
theorem dX6_moves_109 : decode cX6_moves 109 = .ok (.iadd, 1) := by decide +kernel
theorem dX6_moves_110 : decode cX6_moves 110 = .ok (.ireturn, 1) := by decide +kernel
theorem dX6_distance_0 : decode cX6_distance 0 = .ok (.aload_n 0, 1) := by decide +kernel
theorem dX6_distance_1 : decode cX6_distance 1 = .ok (.iload_n 1, 1) := by decide +kernel
theorem dX6_distance_2 : decode cX6_distance 2 = .ok (.iload_n 2, 1) := by decide +kernel
theorem dX6_distance_3 : decode cX6_distance 3 = .ok (.iload_n 3, 1) := by decide +kernel
theorem dX6_distance_4 : decode cX6_distance 4 = .ok (.iload 4, 2) := by decide +kernel
theorem dX6_distance_6 : decode cX6_distance 6 = .ok (.iload 5, 2) := by decide +kernel
theorem dX6_distance_8 : decode cX6_distance 8 = .ok (.invokevirtual 98, 3) := by decide +kernel
theorem dX6_distance_11 : decode cX6_distance 11 = .ok (.iload_n 2, 1) := by decide +kernel
theorem dX6_distance_12 : decode cX6_distance 12 = .ok (.iload_n 3, 1) := by decide +kernel
theorem dX6_distance_13 : decode cX6_distance 13 = .ok (.iload 4, 2) := by decide +kernel
theorem dX6_distance_15 : decode cX6_distance 15 = .ok (.iload 5, 2) := by decide +kernel
theorem dX6_distance_17 : decode cX6_distance 17 = .ok (.invokevirtual 102, 3) := by decide +kernel
theorem dX6_distance_20 : decode cX6_distance 20 = .ok (.ireturn, 1) := by decide +kernel
theorem dX6_best_0 : decode cX6_best 0 = .ok (.aload_n 0, 1) := by decide +kernel
theorem dX6_best_1 : decode cX6_best 1 = .ok (.iload_n 1, 1) := by decide +kernel
theorem dX6_best_2 : decode cX6_best 2 = .ok (.iload_n 2, 1) := by decide +kernel
theorem dX6_best_3 : decode cX6_best 3 = .ok (.iload_n 3, 1) := by decide +kernel
theorem dX6_best_4 : decode cX6_best 4 = .ok (.iload 4, 2) := by decide +kernel
theorem dX6_best_6 : decode cX6_best 6 = .ok (.iload 5, 2) := by decide +kernel
theorem dX6_best_8 : decode cX6_best 8 = .ok (.invokevirtual 98, 3) := by decide +kernel
theorem dX6_best_11 : decode cX6_best 11 = .ok (.iload_n 2, 1) := by decide +kernel
theorem dX6_best_12 : decode cX6_best 12 = .ok (.iload_n 3, 1) := by decide +kernel
theorem dX6_best_13 : decode cX6_best 13 = .ok (.iload 4, 2) := by decide +kernel
theorem dX6_best_15 : decode cX6_best 15 = .ok (.iload 5, 2) := by decide +kernel
theorem dX6_best_17 : decode cX6_best 17 = .ok (.invokevirtual 102, 3) := by decide +kernel
theorem dX6_best_20 : decode cX6_best 20 = .ok (.istore 6, 2) := by decide +kernel
theorem dX6_best_22 : decode cX6_best 22 = .ok (.aload_n 0, 1) := by decide +kernel
theorem dX6_best_23 : decode cX6_best 23 = .ok (.getfield 29, 3) := by decide +kernel
theorem dX6_best_26 : decode cX6_best 26 = .ok (.iload_n 1, 1) := by decide +kernel
theorem dX6_best_27 : decode cX6_best 27 = .ok (.iload_n 2, 1) := by decide +kernel
theorem dX6_best_28 : decode cX6_best 28 = .ok (.iload_n 3, 1) := by decide +kernel
theorem dX6_best_29 : decode cX6_best 29 = .ok (.iload 4, 2) := by decide +kernel
theorem dX6_best_31 : decode cX6_best 31 = .ok (.iload 5, 2) := by decide +kernel
theorem dX6_best_33 : decode cX6_best 33 = .ok (.invokevirtual 106, 3) := by decide +kernel
theorem dX6_best_36 : decode cX6_best 36 = .ok (.aload_n 0, 1) := by decide +kernel
theorem dX6_best_37 : decode cX6_best 37 = .ok (.aload_n 0, 1) := by decide +kernel
theorem dX6_best_38 : decode cX6_best 38 = .ok (.getfield 22, 3) := by decide +kernel
theorem dX6_best_41 : decode cX6_best 41 = .ok (.aload_n 0, 1) := by decide +kernel
theorem dX6_best_42 : decode cX6_best 42 = .ok (.getfield 29, 3) := by decide +kernel
theorem dX6_best_45 : decode cX6_best 45 = .ok (.invokevirtual 110, 3) := by decide +kernel
theorem dX6_best_48 : decode cX6_best 48 = .ok (.aload_n 0, 1) := by decide +kernel
theorem dX6_best_49 : decode cX6_best 49 = .ok (.getfield 22, 3) := by decide +kernel
theorem dX6_best_52 : decode cX6_best 52 = .ok (.iload 6, 2) := by decide +kernel
theorem dX6_best_54 : decode cX6_best 54 = .ok (.invokestatic 114, 3) := by decide +kernel
theorem dX6_best_57 : decode cX6_best 57 = .ok (.invokevirtual 118, 3) := by decide +kernel
theorem dX6_best_60 : decode cX6_best 60 = .ok (.aload_n 0, 1) := by decide +kernel
theorem dX6_best_61 : decode cX6_best 61 = .ok (.getfield 22, 3) := by decide +kernel
theorem dX6_best_64 : decode cX6_best 64 = .ok (.getfield 121, 3) := by decide +kernel
theorem dX6_best_67 : decode cX6_best 67 = .ok (.ireturn, 1) := by decide +kernel
theorem dX6_move_0 : decode cX6_move 0 = .ok (.aload_n 0, 1) := by decide +kernel
theorem dX6_move_1 : decode cX6_move 1 = .ok (.getfield 22, 3) := by decide +kernel
theorem dX6_move_4 : decode cX6_move 4 = .ok (.iload_n 1, 1) := by decide +kernel
theorem dX6_move_5 : decode cX6_move 5 = .ok (.iload_n 2, 1) := by decide +kernel
theorem dX6_move_6 : decode cX6_move 6 = .ok (.invokevirtual 123, 3) := by decide +kernel
theorem dX6_move_9 : decode cX6_move 9 = .ok (.ireturn, 1) := by decide +kernel
theorem dX6_line_0 : decode cX6_line 0 = .ok (.aload_n 0, 1) := by decide +kernel
theorem dX6_line_1 : decode cX6_line 1 = .ok (.iload_n 1, 1) := by decide +kernel
theorem dX6_line_2 : decode cX6_line 2 = .ok (.iload_n 2, 1) := by decide +kernel
theorem dX6_line_3 : decode cX6_line 3 = .ok (.iload_n 3, 1) := by decide +kernel
theorem dX6_line_4 : decode cX6_line 4 = .ok (.iload 4, 2) := by decide +kernel
theorem dX6_line_6 : decode cX6_line 6 = .ok (.iload 5, 2) := by decide +kernel
theorem dX6_line_8 : decode cX6_line 8 = .ok (.invokevirtual 98, 3) := by decide +kernel
theorem dX6_line_11 : decode cX6_line 11 = .ok (.iload_n 2, 1) := by decide +kernel
theorem dX6_line_12 : decode cX6_line 12 = .ok (.iload_n 3, 1) := by decide +kernel
theorem dX6_line_13 : decode cX6_line 13 = .ok (.iload 4, 2) := by decide +kernel
theorem dX6_line_15 : decode cX6_line 15 = .ok (.iload 5, 2) := by decide +kernel
theorem dX6_line_17 : decode cX6_line 17 = .ok (.invokevirtual 102, 3) := by decide +kernel
theorem dX6_line_20 : decode cX6_line 20 = .ok (.istore 6, 2) := by decide +kernel
theorem dX6_line_22 : decode cX6_line 22 = .ok (.aload_n 0, 1) := by decide +kernel
theorem dX6_line_23 : decode cX6_line 23 = .ok (.getfield 36, 3) := by decide +kernel
theorem dX6_line_26 : decode cX6_line 26 = .ok (.iload_n 1, 1) := by decide +kernel
theorem dX6_line_27 : decode cX6_line 27 = .ok (.iload_n 2, 1) := by decide +kernel
theorem dX6_line_28 : decode cX6_line 28 = .ok (.iload_n 3, 1) := by decide +kernel
theorem dX6_line_29 : decode cX6_line 29 = .ok (.iload 4, 2) := by decide +kernel
theorem dX6_line_31 : decode cX6_line 31 = .ok (.iload 5, 2) := by decide +kernel
theorem dX6_line_33 : decode cX6_line 33 = .ok (.invokevirtual 106, 3) := by decide +kernel
theorem dX6_line_36 : decode cX6_line 36 = .ok (.aload_n 0, 1) := by decide +kernel
theorem dX6_line_37 : decode cX6_line 37 = .ok (.iconst 0, 1) := by decide +kernel
theorem dX6_line_38 : decode cX6_line 38 = .ok (.putfield 56, 3) := by decide +kernel
theorem dX6_line_41 : decode cX6_line 41 = .ok (.aload_n 0, 1) := by decide +kernel
theorem dX6_line_42 : decode cX6_line 42 = .ok (.aload_n 0, 1) := by decide +kernel
theorem dX6_line_43 : decode cX6_line 43 = .ok (.getfield 36, 3) := by decide +kernel
theorem dX6_line_46 : decode cX6_line 46 = .ok (.invokevirtual 127, 3) := by decide +kernel
theorem dX6_line_49 : decode cX6_line 49 = .ok (.iload 6, 2) := by decide +kernel
theorem dX6_line_51 : decode cX6_line 51 = .ok (.istore 7, 2) := by decide +kernel
theorem dX6_line_53 : decode cX6_line 53 = .ok (.iload 7, 2) := by decide +kernel
theorem dX6_line_55 : decode cX6_line 55 = .ok (.ifCond .le 65, 3) := by decide +kernel
theorem dX6_line_58 : decode cX6_line 58 = .ok (.aload_n 0, 1) := by decide +kernel
theorem dX6_line_59 : decode cX6_line 59 = .ok (.aload_n 0, 1) := by decide +kernel
theorem dX6_line_60 : decode cX6_line 60 = .ok (.getfield 33, 3) := by decide +kernel
theorem dX6_line_63 : decode cX6_line 63 = .ok (.aload_n 0, 1) := by decide +kernel
theorem dX6_line_64 : decode cX6_line 64 = .ok (.getfield 36, 3) := by decide +kernel
theorem dX6_line_67 : decode cX6_line 67 = .ok (.invokevirtual 110, 3) := by decide +kernel
theorem dX6_line_70 : decode cX6_line 70 = .ok (.aload_n 0, 1) := by decide +kernel
theorem dX6_line_71 : decode cX6_line 71 = .ok (.getfield 33, 3) := by decide +kernel
theorem dX6_line_74 : decode cX6_line 74 = .ok (.iload 7, 2) := by decide +kernel
theorem dX6_line_76 : decode cX6_line 76 = .ok (.invokestatic 114, 3) := by decide +kernel
theorem dX6_line_79 : decode cX6_line 79 = .ok (.invokevirtual 118, 3) := by decide +kernel
theorem dX6_line_82 : decode cX6_line 82 = .ok (.aload_n 0, 1) := by decide +kernel
theorem dX6_line_83 : decode cX6_line 83 = .ok (.getfield 33, 3) := by decide +kernel
theorem dX6_line_86 : decode cX6_line 86 = .ok (.getfield 121, 3) := by decide +kernel
theorem dX6_line_89 : decode cX6_line 89 = .ok (.ifCond .ne 6, 3) := by decide +kernel
theorem dX6_line_92 : decode cX6_line 92 = .ok (.goto 28, 3) := by decide +kernel
theorem dX6_line_95 : decode cX6_line 95 = .ok (.aload_n 0, 1) := by decide +kernel
theorem dX6_line_96 : decode cX6_line 96 = .ok (.getfield 36, 3) := by decide +kernel
theorem dX6_line_99 : decode cX6_line 99 = .ok (.aload_n 0, 1) := by decide +kernel
theorem dX6_line_100 : decode cX6_line 100 = .ok (.getfield 33, 3) := by decide +kernel
theorem dX6_line_103 : decode cX6_line 103 = .ok (.invokevirtual 131, 3) := by decide +kernel
theorem dX6_line_106 : decode cX6_line 106 = .ok (.aload_n 0, 1) := by decide +kernel
theorem dX6_line_107 : decode cX6_line 107 = .ok (.aload_n 0, 1) := by decide +kernel
theorem dX6_line_108 : decode cX6_line 108 = .ok (.getfield 36, 3) := by decide +kernel
theorem dX6_line_111 : decode cX6_line 111 = .ok (.invokevirtual 127, 3) := by decide +kernel
theorem dX6_line_114 : decode cX6_line 114 = .ok (.iinc 7 (-1), 3) := by decide +kernel
theorem dX6_line_117 : decode cX6_line 117 = .ok (.goto (-64), 3) := by decide +kernel
theorem dX6_line_120 : decode cX6_line 120 = .ok (.aload_n 0, 1) := by decide +kernel
theorem dX6_line_121 : decode cX6_line 121 = .ok (.getfield 56, 3) := by decide +kernel
theorem dX6_line_124 : decode cX6_line 124 = .ok (.iconst 1, 1) := by decide +kernel
theorem dX6_line_125 : decode cX6_line 125 = .ok (.isub, 1) := by decide +kernel
theorem dX6_line_126 : decode cX6_line 126 = .ok (.ireturn, 1) := by decide +kernel
theorem dX6_ply_0 : decode cX6_ply 0 = .ok (.iload_n 1, 1) := by decide +kernel
theorem dX6_ply_1 : decode cX6_ply 1 = .ok (.ifCond .lt 20, 3) := by decide +kernel
theorem dX6_ply_4 : decode cX6_ply 4 = .ok (.iload_n 1, 1) := by decide +kernel
theorem dX6_ply_5 : decode cX6_ply 5 = .ok (.aload_n 0, 1) := by decide +kernel
theorem dX6_ply_6 : decode cX6_ply 6 = .ok (.getfield 56, 3) := by decide +kernel
theorem dX6_ply_9 : decode cX6_ply 9 = .ok (.if_icmp .ge 12, 3) := by decide +kernel
theorem dX6_ply_12 : decode cX6_ply 12 = .ok (.iload_n 2, 1) := by decide +kernel
theorem dX6_ply_13 : decode cX6_ply 13 = .ok (.ifCond .lt 8, 3) := by decide +kernel
theorem dX6_ply_16 : decode cX6_ply 16 = .ok (.iload_n 2, 1) := by decide +kernel
theorem dX6_ply_17 : decode cX6_ply 17 = .ok (.iconst 5, 1) := by decide +kernel
theorem dX6_ply_18 : decode cX6_ply 18 = .ok (.if_icmp .lt 5, 3) := by decide +kernel
theorem dX6_ply_21 : decode cX6_ply 21 = .ok (.iconst (-1), 1) := by decide +kernel
theorem dX6_ply_22 : decode cX6_ply 22 = .ok (.ireturn, 1) := by decide +kernel
theorem dX6_ply_23 : decode cX6_ply 23 = .ok (.aload_n 0, 1) := by decide +kernel
theorem dX6_ply_24 : decode cX6_ply 24 = .ok (.getfield 39, 3) := by decide +kernel
theorem dX6_ply_27 : decode cX6_ply 27 = .ok (.iload_n 1, 1) := by decide +kernel
theorem dX6_ply_28 : decode cX6_ply 28 = .ok (.iconst 5, 1) := by decide +kernel
theorem dX6_ply_29 : decode cX6_ply 29 = .ok (.imul, 1) := by decide +kernel
theorem dX6_ply_30 : decode cX6_ply 30 = .ok (.iload_n 2, 1) := by decide +kernel
theorem dX6_ply_31 : decode cX6_ply 31 = .ok (.iadd, 1) := by decide +kernel
theorem dX6_ply_32 : decode cX6_ply 32 = .ok (.iaload, 1) := by decide +kernel
theorem dX6_ply_33 : decode cX6_ply 33 = .ok (.ireturn, 1) := by decide +kernel
theorem dX6_number_0 : decode cX6_number 0 = .ok (.aload_n 0, 1) := by decide +kernel
theorem dX6_number_1 : decode cX6_number 1 = .ok (.iload_n 1, 1) := by decide +kernel
theorem dX6_number_2 : decode cX6_number 2 = .ok (.iload_n 2, 1) := by decide +kernel
theorem dX6_number_3 : decode cX6_number 3 = .ok (.iload_n 3, 1) := by decide +kernel
theorem dX6_number_4 : decode cX6_number 4 = .ok (.iload 4, 2) := by decide +kernel
theorem dX6_number_6 : decode cX6_number 6 = .ok (.iload 5, 2) := by decide +kernel
theorem dX6_number_8 : decode cX6_number 8 = .ok (.invokevirtual 98, 3) := by decide +kernel
theorem dX6_number_11 : decode cX6_number 11 = .ok (.iload_n 2, 1) := by decide +kernel
theorem dX6_number_12 : decode cX6_number 12 = .ok (.iload_n 3, 1) := by decide +kernel
theorem dX6_number_13 : decode cX6_number 13 = .ok (.iload 4, 2) := by decide +kernel
theorem dX6_number_15 : decode cX6_number 15 = .ok (.iload 5, 2) := by decide +kernel
theorem dX6_number_17 : decode cX6_number 17 = .ok (.invokevirtual 135, 3) := by decide +kernel
theorem dX6_number_20 : decode cX6_number 20 = .ok (.ireturn, 1) := by decide +kernel
theorem dX6_position_0 : decode cX6_position 0 = .ok (.aload_n 0, 1) := by decide +kernel
theorem dX6_position_1 : decode cX6_position 1 = .ok (.iload_n 1, 1) := by decide +kernel
theorem dX6_position_2 : decode cX6_position 2 = .ok (.invokevirtual 138, 3) := by decide +kernel
theorem dX6_position_5 : decode cX6_position 5 = .ok (.astore 4, 2) := by decide +kernel
theorem dX6_position_7 : decode cX6_position 7 = .ok (.aload 4, 2) := by decide +kernel
theorem dX6_position_9 : decode cX6_position 9 = .ok (.iload_n 2, 1) := by decide +kernel
theorem dX6_position_10 : decode cX6_position 10 = .ok (.invokevirtual 141, 3) := by decide +kernel
theorem dX6_position_13 : decode cX6_position 13 = .ok (.istore 5, 2) := by decide +kernel
theorem dX6_position_15 : decode cX6_position 15 = .ok (.iload 5, 2) := by decide +kernel
theorem dX6_position_17 : decode cX6_position 17 = .ok (.iconst (-1), 1) := by decide +kernel
theorem dX6_position_18 : decode cX6_position 18 = .ok (.if_icmp .ne 7, 3) := by decide +kernel
theorem dX6_position_21 : decode cX6_position 21 = .ok (.iconst (-1), 1) := by decide +kernel
theorem dX6_position_22 : decode cX6_position 22 = .ok (.goto 11, 3) := by decide +kernel
theorem dX6_position_25 : decode cX6_position 25 = .ok (.aload 4, 2) := by decide +kernel
theorem dX6_position_27 : decode cX6_position 27 = .ok (.iload 5, 2) := by decide +kernel
theorem dX6_position_29 : decode cX6_position 29 = .ok (.iload_n 3, 1) := by decide +kernel
theorem dX6_position_30 : decode cX6_position 30 = .ok (.invokevirtual 144, 3) := by decide +kernel
theorem dX6_position_33 : decode cX6_position 33 = .ok (.ireturn, 1) := by decide +kernel
theorem dX6_count_0 : decode cX6_count 0 = .ok (.aload_n 0, 1) := by decide +kernel
theorem dX6_count_1 : decode cX6_count 1 = .ok (.iload_n 1, 1) := by decide +kernel
theorem dX6_count_2 : decode cX6_count 2 = .ok (.iload_n 2, 1) := by decide +kernel
theorem dX6_count_3 : decode cX6_count 3 = .ok (.invokevirtual 145, 3) := by decide +kernel
theorem dX6_count_6 : decode cX6_count 6 = .ok (.astore 4, 2) := by decide +kernel
theorem dX6_count_8 : decode cX6_count 8 = .ok (.iload_n 3, 1) := by decide +kernel
theorem dX6_count_9 : decode cX6_count 9 = .ok (.tableswitch 49 (-3) (-1) #[43, 35, 27], 27) := by decide +kernel
theorem dX6_count_36 : decode cX6_count 36 = .ok (.aload 4, 2) := by decide +kernel
theorem dX6_count_38 : decode cX6_count 38 = .ok (.getfield 149, 3) := by decide +kernel
theorem dX6_count_41 : decode cX6_count 41 = .ok (.iload_n 2, 1) := by decide +kernel
theorem dX6_count_42 : decode cX6_count 42 = .ok (.iaload, 1) := by decide +kernel
theorem dX6_count_43 : decode cX6_count 43 = .ok (.ireturn, 1) := by decide +kernel
theorem dX6_count_44 : decode cX6_count 44 = .ok (.aload 4, 2) := by decide +kernel
theorem dX6_count_46 : decode cX6_count 46 = .ok (.getfield 152, 3) := by decide +kernel
theorem dX6_count_49 : decode cX6_count 49 = .ok (.iload_n 2, 1) := by decide +kernel
theorem dX6_count_50 : decode cX6_count 50 = .ok (.iaload, 1) := by decide +kernel
theorem dX6_count_51 : decode cX6_count 51 = .ok (.ireturn, 1) := by decide +kernel
theorem dX6_count_52 : decode cX6_count 52 = .ok (.aload 4, 2) := by decide +kernel
theorem dX6_count_54 : decode cX6_count 54 = .ok (.getfield 155, 3) := by decide +kernel
theorem dX6_count_57 : decode cX6_count 57 = .ok (.ireturn, 1) := by decide +kernel
theorem dX6_count_58 : decode cX6_count 58 = .ok (.aload 4, 2) := by decide +kernel
theorem dX6_count_60 : decode cX6_count 60 = .ok (.iload_n 2, 1) := by decide +kernel
theorem dX6_count_61 : decode cX6_count 61 = .ok (.iload_n 3, 1) := by decide +kernel
theorem dX6_count_62 : decode cX6_count 62 = .ok (.invokevirtual 158, 3) := by decide +kernel
theorem dX6_count_65 : decode cX6_count 65 = .ok (.ireturn, 1) := by decide +kernel
theorem dX6_longest_0 : decode cX6_longest 0 = .ok (.aload_n 0, 1) := by decide +kernel
theorem dX6_longest_1 : decode cX6_longest 1 = .ok (.iload_n 1, 1) := by decide +kernel
theorem dX6_longest_2 : decode cX6_longest 2 = .ok (.iload_n 2, 1) := by decide +kernel
theorem dX6_longest_3 : decode cX6_longest 3 = .ok (.invokevirtual 145, 3) := by decide +kernel
theorem dX6_longest_6 : decode cX6_longest 6 = .ok (.astore 4, 2) := by decide +kernel
theorem dX6_longest_8 : decode cX6_longest 8 = .ok (.iload_n 3, 1) := by decide +kernel
theorem dX6_longest_9 : decode cX6_longest 9 = .ok (.ifCond .ne 11, 3) := by decide +kernel
theorem dX6_longest_12 : decode cX6_longest 12 = .ok (.aload 4, 2) := by decide +kernel
theorem dX6_longest_14 : decode cX6_longest 14 = .ok (.getfield 161, 3) := by decide +kernel
theorem dX6_longest_17 : decode cX6_longest 17 = .ok (.iload_n 2, 1) := by decide +kernel
theorem dX6_longest_18 : decode cX6_longest 18 = .ok (.iaload, 1) := by decide +kernel
theorem dX6_longest_19 : decode cX6_longest 19 = .ok (.ireturn, 1) := by decide +kernel
theorem dX6_longest_20 : decode cX6_longest 20 = .ok (.iload_n 3, 1) := by decide +kernel
theorem dX6_longest_21 : decode cX6_longest 21 = .ok (.iconst 1, 1) := by decide +kernel
theorem dX6_longest_22 : decode cX6_longest 22 = .ok (.if_icmp .ne 13, 3) := by decide +kernel
theorem dX6_longest_25 : decode cX6_longest 25 = .ok (.aload 4, 2) := by decide +kernel
theorem dX6_longest_27 : decode cX6_longest 27 = .ok (.getfield 164, 3) := by decide +kernel
theorem dX6_longest_30 : decode cX6_longest 30 = .ok (.iload_n 2, 1) := by decide +kernel
theorem dX6_longest_31 : decode cX6_longest 31 = .ok (.iaload, 1) := by decide +kernel
theorem dX6_longest_32 : decode cX6_longest 32 = .ok (.goto 4, 3) := by decide +kernel
theorem dX6_longest_35 : decode cX6_longest 35 = .ok (.iconst (-1), 1) := by decide +kernel
theorem dX6_longest_36 : decode cX6_longest 36 = .ok (.ireturn, 1) := by decide +kernel
theorem dX6_feed_0 : decode cX6_feed 0 = .ok (.aload_n 0, 1) := by decide +kernel
theorem dX6_feed_1 : decode cX6_feed 1 = .ok (.getfield 167, 3) := by decide +kernel
theorem dX6_feed_4 : decode cX6_feed 4 = .ok (.bipush 20, 2) := by decide +kernel
theorem dX6_feed_6 : decode cX6_feed 6 = .ok (.iadd, 1) := by decide +kernel
theorem dX6_feed_7 : decode cX6_feed 7 = .ok (.bipush 40, 2) := by decide +kernel
theorem dX6_feed_9 : decode cX6_feed 9 = .ok (.if_icmp .le 5, 3) := by decide +kernel
theorem dX6_feed_12 : decode cX6_feed 12 = .ok (.iconst (-1), 1) := by decide +kernel
theorem dX6_feed_13 : decode cX6_feed 13 = .ok (.ireturn, 1) := by decide +kernel
theorem dX6_feed_14 : decode cX6_feed 14 = .ok (.aload_n 0, 1) := by decide +kernel
theorem dX6_feed_15 : decode cX6_feed 15 = .ok (.iload_n 1, 1) := by decide +kernel
theorem dX6_feed_16 : decode cX6_feed 16 = .ok (.invokevirtual 170, 3) := by decide +kernel
theorem dX6_feed_19 : decode cX6_feed 19 = .ok (.aload_n 0, 1) := by decide +kernel
theorem dX6_feed_20 : decode cX6_feed 20 = .ok (.iload_n 2, 1) := by decide +kernel
theorem dX6_feed_21 : decode cX6_feed 21 = .ok (.invokevirtual 170, 3) := by decide +kernel
theorem dX6_feed_24 : decode cX6_feed 24 = .ok (.aload_n 0, 1) := by decide +kernel
theorem dX6_feed_25 : decode cX6_feed 25 = .ok (.iload_n 3, 1) := by decide +kernel
theorem dX6_feed_26 : decode cX6_feed 26 = .ok (.invokevirtual 170, 3) := by decide +kernel
theorem dX6_feed_29 : decode cX6_feed 29 = .ok (.aload_n 0, 1) := by decide +kernel
theorem dX6_feed_30 : decode cX6_feed 30 = .ok (.iload 4, 2) := by decide +kernel
theorem dX6_feed_32 : decode cX6_feed 32 = .ok (.invokevirtual 170, 3) := by decide +kernel
theorem dX6_feed_35 : decode cX6_feed 35 = .ok (.aload_n 0, 1) := by decide +kernel
theorem dX6_feed_36 : decode cX6_feed 36 = .ok (.iload 5, 2) := by decide +kernel
theorem dX6_feed_38 : decode cX6_feed 38 = .ok (.invokevirtual 170, 3) := by decide +kernel
theorem dX6_feed_41 : decode cX6_feed 41 = .ok (.aload_n 0, 1) := by decide +kernel
theorem dX6_feed_42 : decode cX6_feed 42 = .ok (.getfield 167, 3) := by decide +kernel
theorem dX6_feed_45 : decode cX6_feed 45 = .ok (.ireturn, 1) := by decide +kernel
theorem dX6_read_0 : decode cX6_read 0 = .ok (.iload_n 1, 1) := by decide +kernel
theorem dX6_read_1 : decode cX6_read 1 = .ok (.ifCond .lt 11, 3) := by decide +kernel
theorem dX6_read_4 : decode cX6_read 4 = .ok (.iload_n 1, 1) := by decide +kernel
theorem dX6_read_5 : decode cX6_read 5 = .ok (.aload_n 0, 1) := by decide +kernel
theorem dX6_read_6 : decode cX6_read 6 = .ok (.getfield 167, 3) := by decide +kernel
theorem dX6_read_9 : decode cX6_read 9 = .ok (.if_icmp .le 6, 3) := by decide +kernel
theorem dX6_read_12 : decode cX6_read 12 = .ok (.bipush (-2), 2) := by decide +kernel
theorem dX6_read_14 : decode cX6_read 14 = .ok (.ireturn, 1) := by decide +kernel
theorem dX6_read_15 : decode cX6_read 15 = .ok (.aload_n 0, 1) := by decide +kernel
theorem dX6_read_16 : decode cX6_read 16 = .ok (.iconst 0, 1) := by decide +kernel
theorem dX6_read_17 : decode cX6_read 17 = .ok (.putfield 167, 3) := by decide +kernel
theorem dX6_read_20 : decode cX6_read 20 = .ok (.iload_n 1, 1) := by decide +kernel
theorem dX6_read_21 : decode cX6_read 21 = .ok (.bipush 13, 2) := by decide +kernel
theorem dX6_read_23 : decode cX6_read 23 = .ok (.if_icmp .ne 10, 3) := by decide +kernel
theorem dX6_read_26 : decode cX6_read 26 = .ok (.aload_n 0, 1) := by decide +kernel
theorem dX6_read_27 : decode cX6_read 27 = .ok (.invokevirtual 173, 3) := by decide +kernel
theorem dX6_read_30 : decode cX6_read 30 = .ok (.goto 4, 3) := by decide +kernel
theorem dX6_read_33 : decode cX6_read 33 = .ok (.iconst (-1), 1) := by decide +kernel
theorem dX6_read_34 : decode cX6_read 34 = .ok (.ireturn, 1) := by decide +kernel
theorem dX6_show_0 : decode cX6_show 0 = .ok (.aload_n 0, 1) := by decide +kernel
theorem dX6_show_1 : decode cX6_show 1 = .ok (.getfield 52, 3) := by decide +kernel
theorem dX6_show_4 : decode cX6_show 4 = .ok (.iload_n 1, 1) := by decide +kernel
theorem dX6_show_5 : decode cX6_show 5 = .ok (.iload_n 2, 1) := by decide +kernel
theorem dX6_show_6 : decode cX6_show 6 = .ok (.iload_n 3, 1) := by decide +kernel
theorem dX6_show_7 : decode cX6_show 7 = .ok (.iload 4, 2) := by decide +kernel
theorem dX6_show_9 : decode cX6_show 9 = .ok (.iload 5, 2) := by decide +kernel
theorem dX6_show_11 : decode cX6_show 11 = .ok (.invokevirtual 70, 3) := by decide +kernel
theorem dX6_show_14 : decode cX6_show 14 = .ok (.ifCond .ne 5, 3) := by decide +kernel
theorem dX6_show_17 : decode cX6_show 17 = .ok (.iconst (-1), 1) := by decide +kernel
theorem dX6_show_18 : decode cX6_show 18 = .ok (.ireturn, 1) := by decide +kernel
theorem dX6_show_19 : decode cX6_show 19 = .ok (.aload_n 0, 1) := by decide +kernel
theorem dX6_show_20 : decode cX6_show 20 = .ok (.iconst 0, 1) := by decide +kernel
theorem dX6_show_21 : decode cX6_show 21 = .ok (.bipush 75, 2) := by decide +kernel
theorem dX6_show_23 : decode cX6_show 23 = .ok (.iload_n 2, 1) := by decide +kernel
theorem dX6_show_24 : decode cX6_show 24 = .ok (.invokevirtual 176, 3) := by decide +kernel
theorem dX6_show_27 : decode cX6_show 27 = .ok (.aload_n 0, 1) := by decide +kernel
theorem dX6_show_28 : decode cX6_show 28 = .ok (.iconst 4, 1) := by decide +kernel
theorem dX6_show_29 : decode cX6_show 29 = .ok (.getstatic 180, 3) := by decide +kernel
theorem dX6_show_32 : decode cX6_show 32 = .ok (.iload_n 1, 1) := by decide +kernel
theorem dX6_show_33 : decode cX6_show 33 = .ok (.caload, 1) := by decide +kernel
theorem dX6_show_34 : decode cX6_show 34 = .ok (.iload 4, 2) := by decide +kernel
theorem dX6_show_36 : decode cX6_show 36 = .ok (.invokevirtual 176, 3) := by decide +kernel
theorem dX6_show_39 : decode cX6_show 39 = .ok (.aload_n 0, 1) := by decide +kernel
theorem dX6_show_40 : decode cX6_show 40 = .ok (.bipush 8, 2) := by decide +kernel
theorem dX6_show_42 : decode cX6_show 42 = .ok (.bipush 107, 2) := by decide +kernel
theorem dX6_show_44 : decode cX6_show 44 = .ok (.iload_n 3, 1) := by decide +kernel
theorem dX6_show_45 : decode cX6_show 45 = .ok (.invokevirtual 176, 3) := by decide +kernel
theorem dX6_show_48 : decode cX6_show 48 = .ok (.aload_n 0, 1) := by decide +kernel
theorem dX6_show_49 : decode cX6_show 49 = .ok (.getfield 46, 3) := by decide +kernel
theorem dX6_show_52 : decode cX6_show 52 = .ok (.bipush 12, 2) := by decide +kernel
theorem dX6_show_54 : decode cX6_show 54 = .ok (.getstatic 184, 3) := by decide +kernel
theorem dX6_show_57 : decode cX6_show 57 = .ok (.iload 5, 2) := by decide +kernel
theorem dX6_show_59 : decode cX6_show 59 = .ok (.caload, 1) := by decide +kernel
theorem dX6_show_60 : decode cX6_show 60 = .ok (.iastore, 1) := by decide +kernel
theorem dX6_show_61 : decode cX6_show 61 = .ok (.aload_n 0, 1) := by decide +kernel
theorem dX6_show_62 : decode cX6_show 62 = .ok (.bipush 13, 2) := by decide +kernel
theorem dX6_show_64 : decode cX6_show 64 = .ok (.putfield 187, 3) := by decide +kernel
theorem dX6_show_67 : decode cX6_show 67 = .ok (.aload_n 0, 1) := by decide +kernel
theorem dX6_show_68 : decode cX6_show 68 = .ok (.getfield 187, 3) := by decide +kernel
theorem dX6_show_71 : decode cX6_show 71 = .ok (.ireturn, 1) := by decide +kernel
theorem dX6_out_0 : decode cX6_out 0 = .ok (.iload_n 1, 1) := by decide +kernel
theorem dX6_out_1 : decode cX6_out 1 = .ok (.ifCond .lt 11, 3) := by decide +kernel
theorem dX6_out_4 : decode cX6_out 4 = .ok (.iload_n 1, 1) := by decide +kernel
theorem dX6_out_5 : decode cX6_out 5 = .ok (.aload_n 0, 1) := by decide +kernel
theorem dX6_out_6 : decode cX6_out 6 = .ok (.getfield 187, 3) := by decide +kernel
theorem dX6_out_9 : decode cX6_out 9 = .ok (.if_icmp .lt 7, 3) := by decide +kernel
theorem dX6_out_12 : decode cX6_out 12 = .ok (.iconst (-1), 1) := by decide +kernel
theorem dX6_out_13 : decode cX6_out 13 = .ok (.goto 9, 3) := by decide +kernel
theorem dX6_out_16 : decode cX6_out 16 = .ok (.aload_n 0, 1) := by decide +kernel
theorem dX6_out_17 : decode cX6_out 17 = .ok (.getfield 46, 3) := by decide +kernel
theorem dX6_out_20 : decode cX6_out 20 = .ok (.iload_n 1, 1) := by decide +kernel
theorem dX6_out_21 : decode cX6_out 21 = .ok (.iaload, 1) := by decide +kernel
theorem dX6_out_22 : decode cX6_out 22 = .ok (.ireturn, 1) := by decide +kernel
theorem dX6_demandMade_0 : decode cX6_demandMade 0 = .ok (.iload_n 1, 1) := by decide +kernel
theorem dX6_demandMade_1 : decode cX6_demandMade 1 = .ok (.ifCond .lt 17, 3) := by decide +kernel
theorem dX6_demandMade_4 : decode cX6_demandMade 4 = .ok (.iload_n 1, 1) := by decide +kernel
theorem dX6_demandMade_5 : decode cX6_demandMade 5 = .ok (.iconst 2, 1) := by decide +kernel
theorem dX6_demandMade_6 : decode cX6_demandMade 6 = .ok (.if_icmp .gt 12, 3) := by decide +kernel
theorem dX6_demandMade_9 : decode cX6_demandMade 9 = .ok (.aload_n 0, 1) := by decide +kernel
theorem dX6_demandMade_10 : decode cX6_demandMade 10 = .ok (.getfield 15, 3) := by decide +kernel
theorem dX6_demandMade_13 : decode cX6_demandMade 13 = .ok (.iload_n 1, 1) := by decide +kernel
theorem dX6_demandMade_14 : decode cX6_demandMade 14 = .ok (.baload, 1) := by decide +kernel
theorem dX6_demandMade_15 : decode cX6_demandMade 15 = .ok (.ifCond .ne 7, 3) := by decide +kernel
theorem dX6_demandMade_18 : decode cX6_demandMade 18 = .ok (.aconst_null, 1) := by decide +kernel
theorem dX6_demandMade_19 : decode cX6_demandMade 19 = .ok (.goto 12, 3) := by decide +kernel
theorem dX6_demandMade_22 : decode cX6_demandMade 22 = .ok (.aload_n 0, 1) := by decide +kernel
theorem dX6_demandMade_23 : decode cX6_demandMade 23 = .ok (.getfield 52, 3) := by decide +kernel
theorem dX6_demandMade_26 : decode cX6_demandMade 26 = .ok (.getfield 190, 3) := by decide +kernel
theorem dX6_demandMade_29 : decode cX6_demandMade 29 = .ok (.iload_n 1, 1) := by decide +kernel
theorem dX6_demandMade_30 : decode cX6_demandMade 30 = .ok (.aaload, 1) := by decide +kernel
theorem dX6_demandMade_31 : decode cX6_demandMade 31 = .ok (.astore_n 2, 1) := by decide +kernel
theorem dX6_demandMade_32 : decode cX6_demandMade 32 = .ok (.aload_n 2, 1) := by decide +kernel
theorem dX6_demandMade_33 : decode cX6_demandMade 33 = .ok (.ifnonnull 13, 3) := by decide +kernel
theorem dX6_demandMade_36 : decode cX6_demandMade 36 = .ok (.new 194, 3) := by decide +kernel
theorem dX6_demandMade_39 : decode cX6_demandMade 39 = .ok (.dup, 1) := by decide +kernel
theorem dX6_demandMade_40 : decode cX6_demandMade 40 = .ok (.ldc 196, 2) := by decide +kernel
theorem dX6_demandMade_42 : decode cX6_demandMade 42 = .ok (.invokespecial 198, 3) := by decide +kernel
theorem dX6_demandMade_45 : decode cX6_demandMade 45 = .ok (.athrow, 1) := by decide +kernel
theorem dX6_demandMade_46 : decode cX6_demandMade 46 = .ok (.aload_n 2, 1) := by decide +kernel
theorem dX6_demandMade_47 : decode cX6_demandMade 47 = .ok (.areturn, 1) := by decide +kernel
theorem dX6_demandTurn_0 : decode cX6_demandTurn 0 = .ok (.iload_n 2, 1) := by decide +kernel
theorem dX6_demandTurn_1 : decode cX6_demandTurn 1 = .ok (.ifCond .eq 18, 3) := by decide +kernel
theorem dX6_demandTurn_4 : decode cX6_demandTurn 4 = .ok (.iload_n 2, 1) := by decide +kernel
theorem dX6_demandTurn_5 : decode cX6_demandTurn 5 = .ok (.iconst 1, 1) := by decide +kernel
theorem dX6_demandTurn_6 : decode cX6_demandTurn 6 = .ok (.if_icmp .eq 13, 3) := by decide +kernel
theorem dX6_demandTurn_9 : decode cX6_demandTurn 9 = .ok (.new 194, 3) := by decide +kernel
theorem dX6_demandTurn_12 : decode cX6_demandTurn 12 = .ok (.dup, 1) := by decide +kernel
theorem dX6_demandTurn_13 : decode cX6_demandTurn 13 = .ok (.ldc 201, 2) := by decide +kernel
theorem dX6_demandTurn_15 : decode cX6_demandTurn 15 = .ok (.invokespecial 198, 3) := by decide +kernel
theorem dX6_demandTurn_18 : decode cX6_demandTurn 18 = .ok (.athrow, 1) := by decide +kernel
theorem dX6_demandTurn_19 : decode cX6_demandTurn 19 = .ok (.aload_n 0, 1) := by decide +kernel
theorem dX6_demandTurn_20 : decode cX6_demandTurn 20 = .ok (.iload_n 1, 1) := by decide +kernel
theorem dX6_demandTurn_21 : decode cX6_demandTurn 21 = .ok (.invokevirtual 138, 3) := by decide +kernel
theorem dX6_demandTurn_24 : decode cX6_demandTurn 24 = .ok (.areturn, 1) := by decide +kernel
theorem dX6_demandTable_0 : decode cX6_demandTable 0 = .ok (.aload_n 0, 1) := by decide +kernel
theorem dX6_demandTable_1 : decode cX6_demandTable 1 = .ok (.getfield 52, 3) := by decide +kernel
theorem dX6_demandTable_4 : decode cX6_demandTable 4 = .ok (.iload_n 1, 1) := by decide +kernel
theorem dX6_demandTable_5 : decode cX6_demandTable 5 = .ok (.iload_n 2, 1) := by decide +kernel
theorem dX6_demandTable_6 : decode cX6_demandTable 6 = .ok (.iload_n 3, 1) := by decide +kernel
theorem dX6_demandTable_7 : decode cX6_demandTable 7 = .ok (.iload 4, 2) := by decide +kernel
theorem dX6_demandTable_9 : decode cX6_demandTable 9 = .ok (.iload 5, 2) := by decide +kernel
theorem dX6_demandTable_11 : decode cX6_demandTable 11 = .ok (.invokevirtual 70, 3) := by decide +kernel
theorem dX6_demandTable_14 : decode cX6_demandTable 14 = .ok (.ifCond .ne 13, 3) := by decide +kernel
theorem dX6_demandTable_17 : decode cX6_demandTable 17 = .ok (.new 194, 3) := by decide +kernel
theorem dX6_demandTable_20 : decode cX6_demandTable 20 = .ok (.dup, 1) := by decide +kernel
theorem dX6_demandTable_21 : decode cX6_demandTable 21 = .ok (.ldc 203, 2) := by decide +kernel
theorem dX6_demandTable_23 : decode cX6_demandTable 23 = .ok (.invokespecial 198, 3) := by decide +kernel
theorem dX6_demandTable_26 : decode cX6_demandTable 26 = .ok (.athrow, 1) := by decide +kernel
theorem dX6_demandTable_27 : decode cX6_demandTable 27 = .ok (.aload_n 0, 1) := by decide +kernel
theorem dX6_demandTable_28 : decode cX6_demandTable 28 = .ok (.iload_n 1, 1) := by decide +kernel
theorem dX6_demandTable_29 : decode cX6_demandTable 29 = .ok (.invokevirtual 138, 3) := by decide +kernel
theorem dX6_demandTable_32 : decode cX6_demandTable 32 = .ok (.areturn, 1) := by decide +kernel
theorem dX6_goalAfter_0 : decode cX6_goalAfter 0 = .ok (.iload_n 0, 1) := by decide +kernel
theorem dX6_goalAfter_1 : decode cX6_goalAfter 1 = .ok (.iconst (-1), 1) := by decide +kernel
theorem dX6_goalAfter_2 : decode cX6_goalAfter 2 = .ok (.if_icmp .ne 7, 3) := by decide +kernel
theorem dX6_goalAfter_5 : decode cX6_goalAfter 5 = .ok (.iconst (-1), 1) := by decide +kernel
theorem dX6_goalAfter_6 : decode cX6_goalAfter 6 = .ok (.goto 6, 3) := by decide +kernel
theorem dX6_goalAfter_9 : decode cX6_goalAfter 9 = .ok (.iload_n 0, 1) := by decide +kernel
theorem dX6_goalAfter_10 : decode cX6_goalAfter 10 = .ok (.iconst 1, 1) := by decide +kernel
theorem dX6_goalAfter_11 : decode cX6_goalAfter 11 = .ok (.isub, 1) := by decide +kernel
theorem dX6_goalAfter_12 : decode cX6_goalAfter 12 = .ok (.ireturn, 1) := by decide +kernel
theorem dX6_gather_0 : decode cX6_gather 0 = .ok (.aload_n 1, 1) := by decide +kernel
theorem dX6_gather_1 : decode cX6_gather 1 = .ok (.iconst 0, 1) := by decide +kernel
theorem dX6_gather_2 : decode cX6_gather 2 = .ok (.putfield 121, 3) := by decide +kernel
theorem dX6_gather_5 : decode cX6_gather 5 = .ok (.aload_n 2, 1) := by decide +kernel
theorem dX6_gather_6 : decode cX6_gather 6 = .ok (.getfield 205, 3) := by decide +kernel
theorem dX6_gather_9 : decode cX6_gather 9 = .ok (.iconst 1, 1) := by decide +kernel
theorem dX6_gather_10 : decode cX6_gather 10 = .ok (.if_icmp .ne 12, 3) := by decide +kernel
theorem dX6_gather_13 : decode cX6_gather 13 = .ok (.aload_n 0, 1) := by decide +kernel
theorem dX6_gather_14 : decode cX6_gather 14 = .ok (.aload_n 1, 1) := by decide +kernel
theorem dX6_gather_15 : decode cX6_gather 15 = .ok (.aload_n 2, 1) := by decide +kernel
theorem dX6_gather_16 : decode cX6_gather 16 = .ok (.invokevirtual 208, 3) := by decide +kernel
theorem dX6_gather_19 : decode cX6_gather 19 = .ok (.goto 41, 3) := by decide +kernel
theorem dX6_gather_22 : decode cX6_gather 22 = .ok (.aload_n 2, 1) := by decide +kernel
theorem dX6_gather_23 : decode cX6_gather 23 = .ok (.getfield 211, 3) := by decide +kernel
theorem dX6_gather_26 : decode cX6_gather 26 = .ok (.aload_n 2, 1) := by decide +kernel
theorem dX6_gather_27 : decode cX6_gather 27 = .ok (.getfield 214, 3) := by decide +kernel
theorem dX6_gather_30 : decode cX6_gather 30 = .ok (.if_icmp .ge 18, 3) := by decide +kernel
theorem dX6_gather_33 : decode cX6_gather 33 = .ok (.aload_n 0, 1) := by decide +kernel
theorem dX6_gather_34 : decode cX6_gather 34 = .ok (.aload_n 1, 1) := by decide +kernel
theorem dX6_gather_35 : decode cX6_gather 35 = .ok (.aload_n 2, 1) := by decide +kernel
theorem dX6_gather_36 : decode cX6_gather 36 = .ok (.invokevirtual 217, 3) := by decide +kernel
theorem dX6_gather_39 : decode cX6_gather 39 = .ok (.aload_n 0, 1) := by decide +kernel
theorem dX6_gather_40 : decode cX6_gather 40 = .ok (.aload_n 1, 1) := by decide +kernel
theorem dX6_gather_41 : decode cX6_gather 41 = .ok (.aload_n 2, 1) := by decide +kernel
theorem dX6_gather_42 : decode cX6_gather 42 = .ok (.invokevirtual 220, 3) := by decide +kernel
theorem dX6_gather_45 : decode cX6_gather 45 = .ok (.goto 15, 3) := by decide +kernel
theorem dX6_gather_48 : decode cX6_gather 48 = .ok (.aload_n 0, 1) := by decide +kernel
theorem dX6_gather_49 : decode cX6_gather 49 = .ok (.aload_n 1, 1) := by decide +kernel
theorem dX6_gather_50 : decode cX6_gather 50 = .ok (.aload_n 2, 1) := by decide +kernel
theorem dX6_gather_51 : decode cX6_gather 51 = .ok (.invokevirtual 220, 3) := by decide +kernel
theorem dX6_gather_54 : decode cX6_gather 54 = .ok (.aload_n 0, 1) := by decide +kernel
theorem dX6_gather_55 : decode cX6_gather 55 = .ok (.aload_n 1, 1) := by decide +kernel
theorem dX6_gather_56 : decode cX6_gather 56 = .ok (.aload_n 2, 1) := by decide +kernel
theorem dX6_gather_57 : decode cX6_gather 57 = .ok (.invokevirtual 217, 3) := by decide +kernel
theorem dX6_gather_60 : decode cX6_gather 60 = .ok (.return_, 1) := by decide +kernel
theorem dX6_gatherBlack_0 : decode cX6_gatherBlack 0 = .ok (.aload_n 0, 1) := by decide +kernel
theorem dX6_gatherBlack_1 : decode cX6_gatherBlack 1 = .ok (.getfield 52, 3) := by decide +kernel
theorem dX6_gatherBlack_4 : decode cX6_gatherBlack 4 = .ok (.aload_n 2, 1) := by decide +kernel
theorem dX6_gatherBlack_5 : decode cX6_gatherBlack 5 = .ok (.getfield 223, 3) := by decide +kernel
theorem dX6_gatherBlack_8 : decode cX6_gatherBlack 8 = .ok (.aload_n 2, 1) := by decide +kernel
theorem dX6_gatherBlack_9 : decode cX6_gatherBlack 9 = .ok (.getfield 211, 3) := by decide +kernel
theorem dX6_gatherBlack_12 : decode cX6_gatherBlack 12 = .ok (.aload_n 2, 1) := by decide +kernel
theorem dX6_gatherBlack_13 : decode cX6_gatherBlack 13 = .ok (.getfield 226, 3) := by decide +kernel
theorem dX6_gatherBlack_16 : decode cX6_gatherBlack 16 = .ok (.aload_n 2, 1) := by decide +kernel
theorem dX6_gatherBlack_17 : decode cX6_gatherBlack 17 = .ok (.getfield 214, 3) := by decide +kernel
theorem dX6_gatherBlack_20 : decode cX6_gatherBlack 20 = .ok (.invokevirtual 74, 3) := by decide +kernel
theorem dX6_gatherBlack_23 : decode cX6_gatherBlack 23 = .ok (.lstore_n 3, 1) := by decide +kernel
theorem dX6_gatherBlack_24 : decode cX6_gatherBlack 24 = .ok (.lload_n 3, 1) := by decide +kernel
theorem dX6_gatherBlack_25 : decode cX6_gatherBlack 25 = .ok (.lstore 5, 2) := by decide +kernel
theorem dX6_gatherBlack_27 : decode cX6_gatherBlack 27 = .ok (.lload 5, 2) := by decide +kernel
theorem dX6_gatherBlack_29 : decode cX6_gatherBlack 29 = .ok (.lconst 0, 1) := by decide +kernel
theorem dX6_gatherBlack_30 : decode cX6_gatherBlack 30 = .ok (.lcmp, 1) := by decide +kernel
theorem dX6_gatherBlack_31 : decode cX6_gatherBlack 31 = .ok (.ifCond .eq 69, 3) := by decide +kernel
theorem dX6_gatherBlack_34 : decode cX6_gatherBlack 34 = .ok (.lload 5, 2) := by decide +kernel
theorem dX6_gatherBlack_36 : decode cX6_gatherBlack 36 = .ok (.invokestatic 229, 3) := by decide +kernel
theorem dX6_gatherBlack_39 : decode cX6_gatherBlack 39 = .ok (.istore 7, 2) := by decide +kernel
theorem dX6_gatherBlack_41 : decode cX6_gatherBlack 41 = .ok (.iload 7, 2) := by decide +kernel
theorem dX6_gatherBlack_43 : decode cX6_gatherBlack 43 = .ok (.aload_n 2, 1) := by decide +kernel
theorem dX6_gatherBlack_44 : decode cX6_gatherBlack 44 = .ok (.getfield 214, 3) := by decide +kernel
theorem dX6_gatherBlack_47 : decode cX6_gatherBlack 47 = .ok (.if_icmp .ne 7, 3) := by decide +kernel
theorem dX6_gatherBlack_50 : decode cX6_gatherBlack 50 = .ok (.iconst (-1), 1) := by decide +kernel
theorem dX6_gatherBlack_51 : decode cX6_gatherBlack 51 = .ok (.goto 22, 3) := by decide +kernel
theorem dX6_gatherBlack_54 : decode cX6_gatherBlack 54 = .ok (.aload_n 0, 1) := by decide +kernel
theorem dX6_gatherBlack_55 : decode cX6_gatherBlack 55 = .ok (.aload_n 2, 1) := by decide +kernel
theorem dX6_gatherBlack_56 : decode cX6_gatherBlack 56 = .ok (.getfield 223, 3) := by decide +kernel
theorem dX6_gatherBlack_59 : decode cX6_gatherBlack 59 = .ok (.aload_n 2, 1) := by decide +kernel
theorem dX6_gatherBlack_60 : decode cX6_gatherBlack 60 = .ok (.getfield 211, 3) := by decide +kernel
theorem dX6_gatherBlack_63 : decode cX6_gatherBlack 63 = .ok (.iload 7, 2) := by decide +kernel
theorem dX6_gatherBlack_65 : decode cX6_gatherBlack 65 = .ok (.aload_n 2, 1) := by decide +kernel
theorem dX6_gatherBlack_66 : decode cX6_gatherBlack 66 = .ok (.getfield 214, 3) := by decide +kernel
theorem dX6_gatherBlack_69 : decode cX6_gatherBlack 69 = .ok (.iconst 0, 1) := by decide +kernel
theorem dX6_gatherBlack_70 : decode cX6_gatherBlack 70 = .ok (.invokevirtual 232, 3) := by decide +kernel
theorem dX6_gatherBlack_73 : decode cX6_gatherBlack 73 = .ok (.istore 8, 2) := by decide +kernel
theorem dX6_gatherBlack_75 : decode cX6_gatherBlack 75 = .ok (.aload_n 1, 1) := by decide +kernel
theorem dX6_gatherBlack_76 : decode cX6_gatherBlack 76 = .ok (.aload_n 2, 1) := by decide +kernel
theorem dX6_gatherBlack_77 : decode cX6_gatherBlack 77 = .ok (.getfield 226, 3) := by decide +kernel
theorem dX6_gatherBlack_80 : decode cX6_gatherBlack 80 = .ok (.iload 7, 2) := by decide +kernel
theorem dX6_gatherBlack_82 : decode cX6_gatherBlack 82 = .ok (.iconst (-1), 1) := by decide +kernel
theorem dX6_gatherBlack_83 : decode cX6_gatherBlack 83 = .ok (.iload 8, 2) := by decide +kernel
theorem dX6_gatherBlack_85 : decode cX6_gatherBlack 85 = .ok (.invokevirtual 236, 3) := by decide +kernel
theorem dX6_gatherBlack_88 : decode cX6_gatherBlack 88 = .ok (.lload 5, 2) := by decide +kernel
theorem dX6_gatherBlack_90 : decode cX6_gatherBlack 90 = .ok (.lload 5, 2) := by decide +kernel
theorem dX6_gatherBlack_92 : decode cX6_gatherBlack 92 = .ok (.lconst 1, 1) := by decide +kernel
theorem dX6_gatherBlack_93 : decode cX6_gatherBlack 93 = .ok (.lsub, 1) := by decide +kernel
theorem dX6_gatherBlack_94 : decode cX6_gatherBlack 94 = .ok (.land, 1) := by decide +kernel
theorem dX6_gatherBlack_95 : decode cX6_gatherBlack 95 = .ok (.lstore 5, 2) := by decide +kernel
theorem dX6_gatherBlack_97 : decode cX6_gatherBlack 97 = .ok (.goto (-70), 3) := by decide +kernel
theorem dX6_gatherBlack_100 : decode cX6_gatherBlack 100 = .ok (.return_, 1) := by decide +kernel
theorem dX6_gatherKing_0 : decode cX6_gatherKing 0 = .ok (.aload_n 0, 1) := by decide +kernel
theorem dX6_gatherKing_1 : decode cX6_gatherKing 1 = .ok (.getfield 52, 3) := by decide +kernel
theorem dX6_gatherKing_4 : decode cX6_gatherKing 4 = .ok (.aload_n 2, 1) := by decide +kernel
theorem dX6_gatherKing_5 : decode cX6_gatherKing 5 = .ok (.getfield 211, 3) := by decide +kernel
theorem dX6_gatherKing_8 : decode cX6_gatherKing 8 = .ok (.aload_n 2, 1) := by decide +kernel
theorem dX6_gatherKing_9 : decode cX6_gatherKing 9 = .ok (.getfield 226, 3) := by decide +kernel
theorem dX6_gatherKing_12 : decode cX6_gatherKing 12 = .ok (.aload_n 2, 1) := by decide +kernel
theorem dX6_gatherKing_13 : decode cX6_gatherKing 13 = .ok (.getfield 214, 3) := by decide +kernel
theorem dX6_gatherKing_16 : decode cX6_gatherKing 16 = .ok (.invokevirtual 94, 3) := by decide +kernel
theorem dX6_gatherKing_19 : decode cX6_gatherKing 19 = .ok (.lstore_n 3, 1) := by decide +kernel
theorem dX6_gatherKing_20 : decode cX6_gatherKing 20 = .ok (.lload_n 3, 1) := by decide +kernel
theorem dX6_gatherKing_21 : decode cX6_gatherKing 21 = .ok (.lstore 5, 2) := by decide +kernel
theorem dX6_gatherKing_23 : decode cX6_gatherKing 23 = .ok (.lload 5, 2) := by decide +kernel
theorem dX6_gatherKing_25 : decode cX6_gatherKing 25 = .ok (.lconst 0, 1) := by decide +kernel
theorem dX6_gatherKing_26 : decode cX6_gatherKing 26 = .ok (.lcmp, 1) := by decide +kernel
theorem dX6_gatherKing_27 : decode cX6_gatherKing 27 = .ok (.ifCond .eq 52, 3) := by decide +kernel
theorem dX6_gatherKing_30 : decode cX6_gatherKing 30 = .ok (.lload 5, 2) := by decide +kernel
theorem dX6_gatherKing_32 : decode cX6_gatherKing 32 = .ok (.invokestatic 229, 3) := by decide +kernel
theorem dX6_gatherKing_35 : decode cX6_gatherKing 35 = .ok (.istore 7, 2) := by decide +kernel
theorem dX6_gatherKing_37 : decode cX6_gatherKing 37 = .ok (.aload_n 1, 1) := by decide +kernel
theorem dX6_gatherKing_38 : decode cX6_gatherKing 38 = .ok (.aload_n 2, 1) := by decide +kernel
theorem dX6_gatherKing_39 : decode cX6_gatherKing 39 = .ok (.getfield 211, 3) := by decide +kernel
theorem dX6_gatherKing_42 : decode cX6_gatherKing 42 = .ok (.iload 7, 2) := by decide +kernel
theorem dX6_gatherKing_44 : decode cX6_gatherKing 44 = .ok (.iconst (-1), 1) := by decide +kernel
theorem dX6_gatherKing_45 : decode cX6_gatherKing 45 = .ok (.aload_n 0, 1) := by decide +kernel
theorem dX6_gatherKing_46 : decode cX6_gatherKing 46 = .ok (.aload_n 2, 1) := by decide +kernel
theorem dX6_gatherKing_47 : decode cX6_gatherKing 47 = .ok (.getfield 223, 3) := by decide +kernel
theorem dX6_gatherKing_50 : decode cX6_gatherKing 50 = .ok (.iload 7, 2) := by decide +kernel
theorem dX6_gatherKing_52 : decode cX6_gatherKing 52 = .ok (.aload_n 2, 1) := by decide +kernel
theorem dX6_gatherKing_53 : decode cX6_gatherKing 53 = .ok (.getfield 226, 3) := by decide +kernel
theorem dX6_gatherKing_56 : decode cX6_gatherKing 56 = .ok (.aload_n 2, 1) := by decide +kernel
theorem dX6_gatherKing_57 : decode cX6_gatherKing 57 = .ok (.getfield 214, 3) := by decide +kernel
theorem dX6_gatherKing_60 : decode cX6_gatherKing 60 = .ok (.iconst 1, 1) := by decide +kernel
theorem dX6_gatherKing_61 : decode cX6_gatherKing 61 = .ok (.invokevirtual 232, 3) := by decide +kernel
theorem dX6_gatherKing_64 : decode cX6_gatherKing 64 = .ok (.invokevirtual 236, 3) := by decide +kernel
theorem dX6_gatherKing_67 : decode cX6_gatherKing 67 = .ok (.lload 5, 2) := by decide +kernel
theorem dX6_gatherKing_69 : decode cX6_gatherKing 69 = .ok (.lload 5, 2) := by decide +kernel
theorem dX6_gatherKing_71 : decode cX6_gatherKing 71 = .ok (.lconst 1, 1) := by decide +kernel
theorem dX6_gatherKing_72 : decode cX6_gatherKing 72 = .ok (.lsub, 1) := by decide +kernel
theorem dX6_gatherKing_73 : decode cX6_gatherKing 73 = .ok (.land, 1) := by decide +kernel
theorem dX6_gatherKing_74 : decode cX6_gatherKing 74 = .ok (.lstore 5, 2) := by decide +kernel
theorem dX6_gatherKing_76 : decode cX6_gatherKing 76 = .ok (.goto (-53), 3) := by decide +kernel
theorem dX6_gatherKing_79 : decode cX6_gatherKing 79 = .ok (.return_, 1) := by decide +kernel
theorem dX6_gatherMan_0 : decode cX6_gatherMan 0 = .ok (.aload_n 0, 1) := by decide +kernel
theorem dX6_gatherMan_1 : decode cX6_gatherMan 1 = .ok (.getfield 52, 3) := by decide +kernel
theorem dX6_gatherMan_4 : decode cX6_gatherMan 4 = .ok (.aload_n 2, 1) := by decide +kernel
theorem dX6_gatherMan_5 : decode cX6_gatherMan 5 = .ok (.getfield 223, 3) := by decide +kernel
theorem dX6_gatherMan_8 : decode cX6_gatherMan 8 = .ok (.aload_n 2, 1) := by decide +kernel
theorem dX6_gatherMan_9 : decode cX6_gatherMan 9 = .ok (.getfield 211, 3) := by decide +kernel
theorem dX6_gatherMan_12 : decode cX6_gatherMan 12 = .ok (.aload_n 2, 1) := by decide +kernel
theorem dX6_gatherMan_13 : decode cX6_gatherMan 13 = .ok (.getfield 226, 3) := by decide +kernel
theorem dX6_gatherMan_16 : decode cX6_gatherMan 16 = .ok (.aload_n 2, 1) := by decide +kernel
theorem dX6_gatherMan_17 : decode cX6_gatherMan 17 = .ok (.getfield 214, 3) := by decide +kernel
theorem dX6_gatherMan_20 : decode cX6_gatherMan 20 = .ok (.invokevirtual 84, 3) := by decide +kernel
theorem dX6_gatherMan_23 : decode cX6_gatherMan 23 = .ok (.lstore_n 3, 1) := by decide +kernel
theorem dX6_gatherMan_24 : decode cX6_gatherMan 24 = .ok (.lload_n 3, 1) := by decide +kernel
theorem dX6_gatherMan_25 : decode cX6_gatherMan 25 = .ok (.lstore 5, 2) := by decide +kernel
theorem dX6_gatherMan_27 : decode cX6_gatherMan 27 = .ok (.lload 5, 2) := by decide +kernel
theorem dX6_gatherMan_29 : decode cX6_gatherMan 29 = .ok (.lconst 0, 1) := by decide +kernel
theorem dX6_gatherMan_30 : decode cX6_gatherMan 30 = .ok (.lcmp, 1) := by decide +kernel
theorem dX6_gatherMan_31 : decode cX6_gatherMan 31 = .ok (.ifCond .eq 83, 3) := by decide +kernel
theorem dX6_gatherMan_34 : decode cX6_gatherMan 34 = .ok (.lload 5, 2) := by decide +kernel
theorem dX6_gatherMan_36 : decode cX6_gatherMan 36 = .ok (.invokestatic 229, 3) := by decide +kernel
theorem dX6_gatherMan_39 : decode cX6_gatherMan 39 = .ok (.istore 7, 2) := by decide +kernel
theorem dX6_gatherMan_41 : decode cX6_gatherMan 41 = .ok (.aload_n 2, 1) := by decide +kernel
theorem dX6_gatherMan_42 : decode cX6_gatherMan 42 = .ok (.getfield 223, 3) := by decide +kernel
theorem dX6_gatherMan_45 : decode cX6_gatherMan 45 = .ok (.iconst 2, 1) := by decide +kernel
theorem dX6_gatherMan_46 : decode cX6_gatherMan 46 = .ok (.if_icmp .ne 26, 3) := by decide +kernel
theorem dX6_gatherMan_49 : decode cX6_gatherMan 49 = .ok (.aload_n 0, 1) := by decide +kernel
theorem dX6_gatherMan_50 : decode cX6_gatherMan 50 = .ok (.getfield 52, 3) := by decide +kernel
theorem dX6_gatherMan_53 : decode cX6_gatherMan 53 = .ok (.iload 7, 2) := by decide +kernel
theorem dX6_gatherMan_55 : decode cX6_gatherMan 55 = .ok (.invokevirtual 90, 3) := by decide +kernel
theorem dX6_gatherMan_58 : decode cX6_gatherMan 58 = .ok (.ifCond .eq 14, 3) := by decide +kernel
theorem dX6_gatherMan_61 : decode cX6_gatherMan 61 = .ok (.aload_n 0, 1) := by decide +kernel
theorem dX6_gatherMan_62 : decode cX6_gatherMan 62 = .ok (.aload_n 1, 1) := by decide +kernel
theorem dX6_gatherMan_63 : decode cX6_gatherMan 63 = .ok (.aload_n 2, 1) := by decide +kernel
theorem dX6_gatherMan_64 : decode cX6_gatherMan 64 = .ok (.iload 7, 2) := by decide +kernel
theorem dX6_gatherMan_66 : decode cX6_gatherMan 66 = .ok (.invokevirtual 240, 3) := by decide +kernel
theorem dX6_gatherMan_69 : decode cX6_gatherMan 69 = .ok (.goto 33, 3) := by decide +kernel
theorem dX6_gatherMan_72 : decode cX6_gatherMan 72 = .ok (.aload_n 1, 1) := by decide +kernel
theorem dX6_gatherMan_73 : decode cX6_gatherMan 73 = .ok (.aload_n 2, 1) := by decide +kernel
theorem dX6_gatherMan_74 : decode cX6_gatherMan 74 = .ok (.getfield 214, 3) := by decide +kernel
theorem dX6_gatherMan_77 : decode cX6_gatherMan 77 = .ok (.iload 7, 2) := by decide +kernel
theorem dX6_gatherMan_79 : decode cX6_gatherMan 79 = .ok (.iconst (-1), 1) := by decide +kernel
theorem dX6_gatherMan_80 : decode cX6_gatherMan 80 = .ok (.aload_n 0, 1) := by decide +kernel
theorem dX6_gatherMan_81 : decode cX6_gatherMan 81 = .ok (.aload_n 2, 1) := by decide +kernel
theorem dX6_gatherMan_82 : decode cX6_gatherMan 82 = .ok (.getfield 223, 3) := by decide +kernel
theorem dX6_gatherMan_85 : decode cX6_gatherMan 85 = .ok (.aload_n 2, 1) := by decide +kernel
theorem dX6_gatherMan_86 : decode cX6_gatherMan 86 = .ok (.getfield 211, 3) := by decide +kernel
theorem dX6_gatherMan_89 : decode cX6_gatherMan 89 = .ok (.aload_n 2, 1) := by decide +kernel
theorem dX6_gatherMan_90 : decode cX6_gatherMan 90 = .ok (.getfield 226, 3) := by decide +kernel
theorem dX6_gatherMan_93 : decode cX6_gatherMan 93 = .ok (.iload 7, 2) := by decide +kernel
theorem dX6_gatherMan_95 : decode cX6_gatherMan 95 = .ok (.iconst 1, 1) := by decide +kernel
theorem dX6_gatherMan_96 : decode cX6_gatherMan 96 = .ok (.invokevirtual 232, 3) := by decide +kernel
theorem dX6_gatherMan_99 : decode cX6_gatherMan 99 = .ok (.invokevirtual 236, 3) := by decide +kernel
theorem dX6_gatherMan_102 : decode cX6_gatherMan 102 = .ok (.lload 5, 2) := by decide +kernel
theorem dX6_gatherMan_104 : decode cX6_gatherMan 104 = .ok (.lload 5, 2) := by decide +kernel
theorem dX6_gatherMan_106 : decode cX6_gatherMan 106 = .ok (.lconst 1, 1) := by decide +kernel
theorem dX6_gatherMan_107 : decode cX6_gatherMan 107 = .ok (.lsub, 1) := by decide +kernel
theorem dX6_gatherMan_108 : decode cX6_gatherMan 108 = .ok (.land, 1) := by decide +kernel
theorem dX6_gatherMan_109 : decode cX6_gatherMan 109 = .ok (.lstore 5, 2) := by decide +kernel
theorem dX6_gatherMan_111 : decode cX6_gatherMan 111 = .ok (.goto (-84), 3) := by decide +kernel
theorem dX6_gatherMan_114 : decode cX6_gatherMan 114 = .ok (.return_, 1) := by decide +kernel
theorem dX6_gatherPromotions_0 : decode cX6_gatherPromotions 0 = .ok (.iconst 0, 1) := by decide +kernel
theorem dX6_gatherPromotions_1 : decode cX6_gatherPromotions 1 = .ok (.istore 4, 2) := by decide +kernel
theorem dX6_gatherPromotions_3 : decode cX6_gatherPromotions 3 = .ok (.iload 4, 2) := by decide +kernel
theorem dX6_gatherPromotions_5 : decode cX6_gatherPromotions 5 = .ok (.iconst 4, 1) := by decide +kernel
theorem dX6_gatherPromotions_6 : decode cX6_gatherPromotions 6 = .ok (.if_icmp .ge 58, 3) := by decide +kernel
theorem dX6_gatherPromotions_9 : decode cX6_gatherPromotions 9 = .ok (.iload 4, 2) := by decide +kernel
theorem dX6_gatherPromotions_11 : decode cX6_gatherPromotions 11 = .ok (.iconst 1, 1) := by decide +kernel
theorem dX6_gatherPromotions_12 : decode cX6_gatherPromotions 12 = .ok (.if_icmp .gt 7, 3) := by decide +kernel
theorem dX6_gatherPromotions_15 : decode cX6_gatherPromotions 15 = .ok (.iconst 1, 1) := by decide +kernel
theorem dX6_gatherPromotions_16 : decode cX6_gatherPromotions 16 = .ok (.goto 4, 3) := by decide +kernel
theorem dX6_gatherPromotions_19 : decode cX6_gatherPromotions 19 = .ok (.iconst 0, 1) := by decide +kernel
theorem dX6_gatherPromotions_20 : decode cX6_gatherPromotions 20 = .ok (.istore 5, 2) := by decide +kernel
theorem dX6_gatherPromotions_22 : decode cX6_gatherPromotions 22 = .ok (.aload_n 1, 1) := by decide +kernel
theorem dX6_gatherPromotions_23 : decode cX6_gatherPromotions 23 = .ok (.aload_n 2, 1) := by decide +kernel
theorem dX6_gatherPromotions_24 : decode cX6_gatherPromotions 24 = .ok (.getfield 214, 3) := by decide +kernel
theorem dX6_gatherPromotions_27 : decode cX6_gatherPromotions 27 = .ok (.iload_n 3, 1) := by decide +kernel
theorem dX6_gatherPromotions_28 : decode cX6_gatherPromotions 28 = .ok (.iload 4, 2) := by decide +kernel
theorem dX6_gatherPromotions_30 : decode cX6_gatherPromotions 30 = .ok (.iload 5, 2) := by decide +kernel
theorem dX6_gatherPromotions_32 : decode cX6_gatherPromotions 32 = .ok (.ifCond .eq 22, 3) := by decide +kernel
theorem dX6_gatherPromotions_35 : decode cX6_gatherPromotions 35 = .ok (.aload_n 0, 1) := by decide +kernel
theorem dX6_gatherPromotions_36 : decode cX6_gatherPromotions 36 = .ok (.iload 4, 2) := by decide +kernel
theorem dX6_gatherPromotions_38 : decode cX6_gatherPromotions 38 = .ok (.aload_n 2, 1) := by decide +kernel
theorem dX6_gatherPromotions_39 : decode cX6_gatherPromotions 39 = .ok (.getfield 211, 3) := by decide +kernel
theorem dX6_gatherPromotions_42 : decode cX6_gatherPromotions 42 = .ok (.aload_n 2, 1) := by decide +kernel
theorem dX6_gatherPromotions_43 : decode cX6_gatherPromotions 43 = .ok (.getfield 226, 3) := by decide +kernel
theorem dX6_gatherPromotions_46 : decode cX6_gatherPromotions 46 = .ok (.iload_n 3, 1) := by decide +kernel
theorem dX6_gatherPromotions_47 : decode cX6_gatherPromotions 47 = .ok (.iconst 1, 1) := by decide +kernel
theorem dX6_gatherPromotions_48 : decode cX6_gatherPromotions 48 = .ok (.invokevirtual 232, 3) := by decide +kernel
theorem dX6_gatherPromotions_51 : decode cX6_gatherPromotions 51 = .ok (.goto 4, 3) := by decide +kernel
theorem dX6_gatherPromotions_54 : decode cX6_gatherPromotions 54 = .ok (.iconst (-1), 1) := by decide +kernel
theorem dX6_gatherPromotions_55 : decode cX6_gatherPromotions 55 = .ok (.invokevirtual 236, 3) := by decide +kernel
theorem dX6_gatherPromotions_58 : decode cX6_gatherPromotions 58 = .ok (.iinc 4 1, 3) := by decide +kernel
theorem dX6_gatherPromotions_61 : decode cX6_gatherPromotions 61 = .ok (.goto (-58), 3) := by decide +kernel
theorem dX6_gatherPromotions_64 : decode cX6_gatherPromotions 64 = .ok (.return_, 1) := by decide +kernel
theorem dX6_lookUp_0 : decode cX6_lookUp 0 = .ok (.aload_n 0, 1) := by decide +kernel
theorem dX6_lookUp_1 : decode cX6_lookUp 1 = .ok (.getfield 52, 3) := by decide +kernel
theorem dX6_lookUp_4 : decode cX6_lookUp 4 = .ok (.getfield 190, 3) := by decide +kernel
