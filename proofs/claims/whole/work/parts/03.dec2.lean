theorem dX6_lookUp_7 : decode cX6_lookUp 7 = .ok (.iload_n 1, 1) := by decide +kernel
theorem dX6_lookUp_8 : decode cX6_lookUp 8 = .ok (.aaload, 1) := by decide +kernel
theorem dX6_lookUp_9 : decode cX6_lookUp 9 = .ok (.astore 6, 2) := by decide +kernel
theorem dX6_lookUp_11 : decode cX6_lookUp 11 = .ok (.aload 6, 2) := by decide +kernel
theorem dX6_lookUp_13 : decode cX6_lookUp 13 = .ok (.ifnonnull 7, 3) := by decide +kernel
theorem dX6_lookUp_16 : decode cX6_lookUp 16 = .ok (.iconst (-1), 1) := by decide +kernel
theorem dX6_lookUp_17 : decode cX6_lookUp 17 = .ok (.goto 14, 3) := by decide +kernel
theorem dX6_lookUp_20 : decode cX6_lookUp 20 = .ok (.aload 6, 2) := by decide +kernel
theorem dX6_lookUp_22 : decode cX6_lookUp 22 = .ok (.iload_n 2, 1) := by decide +kernel
theorem dX6_lookUp_23 : decode cX6_lookUp 23 = .ok (.iload_n 3, 1) := by decide +kernel
theorem dX6_lookUp_24 : decode cX6_lookUp 24 = .ok (.iload 4, 2) := by decide +kernel
theorem dX6_lookUp_26 : decode cX6_lookUp 26 = .ok (.iload 5, 2) := by decide +kernel
theorem dX6_lookUp_28 : decode cX6_lookUp 28 = .ok (.invokevirtual 102, 3) := by decide +kernel
theorem dX6_lookUp_31 : decode cX6_lookUp 31 = .ok (.ireturn, 1) := by decide +kernel
theorem dX6_addToLine_0 : decode cX6_addToLine 0 = .ok (.aload_n 0, 1) := by decide +kernel
theorem dX6_addToLine_1 : decode cX6_addToLine 1 = .ok (.getfield 56, 3) := by decide +kernel
theorem dX6_addToLine_4 : decode cX6_addToLine 4 = .ok (.iconst 5, 1) := by decide +kernel
theorem dX6_addToLine_5 : decode cX6_addToLine 5 = .ok (.imul, 1) := by decide +kernel
theorem dX6_addToLine_6 : decode cX6_addToLine 6 = .ok (.istore_n 2, 1) := by decide +kernel
theorem dX6_addToLine_7 : decode cX6_addToLine 7 = .ok (.iload_n 2, 1) := by decide +kernel
theorem dX6_addToLine_8 : decode cX6_addToLine 8 = .ok (.iconst 5, 1) := by decide +kernel
theorem dX6_addToLine_9 : decode cX6_addToLine 9 = .ok (.iadd, 1) := by decide +kernel
theorem dX6_addToLine_10 : decode cX6_addToLine 10 = .ok (.aload_n 0, 1) := by decide +kernel
theorem dX6_addToLine_11 : decode cX6_addToLine 11 = .ok (.getfield 39, 3) := by decide +kernel
theorem dX6_addToLine_14 : decode cX6_addToLine 14 = .ok (.arraylength, 1) := by decide +kernel
theorem dX6_addToLine_15 : decode cX6_addToLine 15 = .ok (.if_icmp .le 4, 3) := by decide +kernel
theorem dX6_addToLine_18 : decode cX6_addToLine 18 = .ok (.return_, 1) := by decide +kernel
theorem dX6_addToLine_19 : decode cX6_addToLine 19 = .ok (.aload_n 0, 1) := by decide +kernel
theorem dX6_addToLine_20 : decode cX6_addToLine 20 = .ok (.getfield 39, 3) := by decide +kernel
theorem dX6_addToLine_23 : decode cX6_addToLine 23 = .ok (.iload_n 2, 1) := by decide +kernel
theorem dX6_addToLine_24 : decode cX6_addToLine 24 = .ok (.aload_n 1, 1) := by decide +kernel
theorem dX6_addToLine_25 : decode cX6_addToLine 25 = .ok (.getfield 223, 3) := by decide +kernel
theorem dX6_addToLine_28 : decode cX6_addToLine 28 = .ok (.iastore, 1) := by decide +kernel
theorem dX6_addToLine_29 : decode cX6_addToLine 29 = .ok (.aload_n 0, 1) := by decide +kernel
theorem dX6_addToLine_30 : decode cX6_addToLine 30 = .ok (.getfield 39, 3) := by decide +kernel
theorem dX6_addToLine_33 : decode cX6_addToLine 33 = .ok (.iload_n 2, 1) := by decide +kernel
theorem dX6_addToLine_34 : decode cX6_addToLine 34 = .ok (.iconst 1, 1) := by decide +kernel
theorem dX6_addToLine_35 : decode cX6_addToLine 35 = .ok (.iadd, 1) := by decide +kernel
theorem dX6_addToLine_36 : decode cX6_addToLine 36 = .ok (.aload_n 1, 1) := by decide +kernel
theorem dX6_addToLine_37 : decode cX6_addToLine 37 = .ok (.getfield 211, 3) := by decide +kernel
theorem dX6_addToLine_40 : decode cX6_addToLine 40 = .ok (.iastore, 1) := by decide +kernel
theorem dX6_addToLine_41 : decode cX6_addToLine 41 = .ok (.aload_n 0, 1) := by decide +kernel
theorem dX6_addToLine_42 : decode cX6_addToLine 42 = .ok (.getfield 39, 3) := by decide +kernel
theorem dX6_addToLine_45 : decode cX6_addToLine 45 = .ok (.iload_n 2, 1) := by decide +kernel
theorem dX6_addToLine_46 : decode cX6_addToLine 46 = .ok (.iconst 2, 1) := by decide +kernel
theorem dX6_addToLine_47 : decode cX6_addToLine 47 = .ok (.iadd, 1) := by decide +kernel
theorem dX6_addToLine_48 : decode cX6_addToLine 48 = .ok (.aload_n 1, 1) := by decide +kernel
theorem dX6_addToLine_49 : decode cX6_addToLine 49 = .ok (.getfield 226, 3) := by decide +kernel
theorem dX6_addToLine_52 : decode cX6_addToLine 52 = .ok (.iastore, 1) := by decide +kernel
theorem dX6_addToLine_53 : decode cX6_addToLine 53 = .ok (.aload_n 0, 1) := by decide +kernel
theorem dX6_addToLine_54 : decode cX6_addToLine 54 = .ok (.getfield 39, 3) := by decide +kernel
theorem dX6_addToLine_57 : decode cX6_addToLine 57 = .ok (.iload_n 2, 1) := by decide +kernel
theorem dX6_addToLine_58 : decode cX6_addToLine 58 = .ok (.iconst 3, 1) := by decide +kernel
theorem dX6_addToLine_59 : decode cX6_addToLine 59 = .ok (.iadd, 1) := by decide +kernel
theorem dX6_addToLine_60 : decode cX6_addToLine 60 = .ok (.aload_n 1, 1) := by decide +kernel
theorem dX6_addToLine_61 : decode cX6_addToLine 61 = .ok (.getfield 214, 3) := by decide +kernel
theorem dX6_addToLine_64 : decode cX6_addToLine 64 = .ok (.iastore, 1) := by decide +kernel
theorem dX6_addToLine_65 : decode cX6_addToLine 65 = .ok (.aload_n 0, 1) := by decide +kernel
theorem dX6_addToLine_66 : decode cX6_addToLine 66 = .ok (.getfield 39, 3) := by decide +kernel
theorem dX6_addToLine_69 : decode cX6_addToLine 69 = .ok (.iload_n 2, 1) := by decide +kernel
theorem dX6_addToLine_70 : decode cX6_addToLine 70 = .ok (.iconst 4, 1) := by decide +kernel
theorem dX6_addToLine_71 : decode cX6_addToLine 71 = .ok (.iadd, 1) := by decide +kernel
theorem dX6_addToLine_72 : decode cX6_addToLine 72 = .ok (.aload_n 1, 1) := by decide +kernel
theorem dX6_addToLine_73 : decode cX6_addToLine 73 = .ok (.getfield 205, 3) := by decide +kernel
theorem dX6_addToLine_76 : decode cX6_addToLine 76 = .ok (.iastore, 1) := by decide +kernel
theorem dX6_addToLine_77 : decode cX6_addToLine 77 = .ok (.aload_n 0, 1) := by decide +kernel
theorem dX6_addToLine_78 : decode cX6_addToLine 78 = .ok (.dup, 1) := by decide +kernel
theorem dX6_addToLine_79 : decode cX6_addToLine 79 = .ok (.getfield 56, 3) := by decide +kernel
theorem dX6_addToLine_82 : decode cX6_addToLine 82 = .ok (.iconst 1, 1) := by decide +kernel
theorem dX6_addToLine_83 : decode cX6_addToLine 83 = .ok (.iadd, 1) := by decide +kernel
theorem dX6_addToLine_84 : decode cX6_addToLine 84 = .ok (.putfield 56, 3) := by decide +kernel
theorem dX6_addToLine_87 : decode cX6_addToLine 87 = .ok (.return_, 1) := by decide +kernel
theorem dX6_addToTape_0 : decode cX6_addToTape 0 = .ok (.bipush 24, 2) := by decide +kernel
theorem dX6_addToTape_2 : decode cX6_addToTape 2 = .ok (.istore_n 2, 1) := by decide +kernel
theorem dX6_addToTape_3 : decode cX6_addToTape 3 = .ok (.iload_n 2, 1) := by decide +kernel
theorem dX6_addToTape_4 : decode cX6_addToTape 4 = .ok (.ifCond .lt 35, 3) := by decide +kernel
theorem dX6_addToTape_7 : decode cX6_addToTape 7 = .ok (.aload_n 0, 1) := by decide +kernel
theorem dX6_addToTape_8 : decode cX6_addToTape 8 = .ok (.getfield 43, 3) := by decide +kernel
theorem dX6_addToTape_11 : decode cX6_addToTape 11 = .ok (.aload_n 0, 1) := by decide +kernel
theorem dX6_addToTape_12 : decode cX6_addToTape 12 = .ok (.getfield 167, 3) := by decide +kernel
theorem dX6_addToTape_15 : decode cX6_addToTape 15 = .ok (.iload_n 1, 1) := by decide +kernel
theorem dX6_addToTape_16 : decode cX6_addToTape 16 = .ok (.iload_n 2, 1) := by decide +kernel
theorem dX6_addToTape_17 : decode cX6_addToTape 17 = .ok (.iushr, 1) := by decide +kernel
theorem dX6_addToTape_18 : decode cX6_addToTape 18 = .ok (.sipush 255, 3) := by decide +kernel
theorem dX6_addToTape_21 : decode cX6_addToTape 21 = .ok (.iand, 1) := by decide +kernel
theorem dX6_addToTape_22 : decode cX6_addToTape 22 = .ok (.iastore, 1) := by decide +kernel
theorem dX6_addToTape_23 : decode cX6_addToTape 23 = .ok (.aload_n 0, 1) := by decide +kernel
theorem dX6_addToTape_24 : decode cX6_addToTape 24 = .ok (.dup, 1) := by decide +kernel
theorem dX6_addToTape_25 : decode cX6_addToTape 25 = .ok (.getfield 167, 3) := by decide +kernel
theorem dX6_addToTape_28 : decode cX6_addToTape 28 = .ok (.iconst 1, 1) := by decide +kernel
theorem dX6_addToTape_29 : decode cX6_addToTape 29 = .ok (.iadd, 1) := by decide +kernel
theorem dX6_addToTape_30 : decode cX6_addToTape 30 = .ok (.putfield 167, 3) := by decide +kernel
theorem dX6_addToTape_33 : decode cX6_addToTape 33 = .ok (.iinc 2 (-8), 3) := by decide +kernel
theorem dX6_addToTape_36 : decode cX6_addToTape 36 = .ok (.goto (-33), 3) := by decide +kernel
theorem dX6_addToTape_39 : decode cX6_addToTape 39 = .ok (.return_, 1) := by decide +kernel
theorem dX6_keyOfText_0 : decode cX6_keyOfText 0 = .ok (.getstatic 180, 3) := by decide +kernel
theorem dX6_keyOfText_3 : decode cX6_keyOfText 3 = .ok (.aload_n 0, 1) := by decide +kernel
theorem dX6_keyOfText_4 : decode cX6_keyOfText 4 = .ok (.getfield 43, 3) := by decide +kernel
theorem dX6_keyOfText_7 : decode cX6_keyOfText 7 = .ok (.iconst 4, 1) := by decide +kernel
theorem dX6_keyOfText_8 : decode cX6_keyOfText 8 = .ok (.iaload, 1) := by decide +kernel
theorem dX6_keyOfText_9 : decode cX6_keyOfText 9 = .ok (.invokestatic 244, 3) := by decide +kernel
theorem dX6_keyOfText_12 : decode cX6_keyOfText 12 = .ok (.istore_n 1, 1) := by decide +kernel
theorem dX6_keyOfText_13 : decode cX6_keyOfText 13 = .ok (.getstatic 184, 3) := by decide +kernel
theorem dX6_keyOfText_16 : decode cX6_keyOfText 16 = .ok (.aload_n 0, 1) := by decide +kernel
theorem dX6_keyOfText_17 : decode cX6_keyOfText 17 = .ok (.getfield 43, 3) := by decide +kernel
theorem dX6_keyOfText_20 : decode cX6_keyOfText 20 = .ok (.bipush 12, 2) := by decide +kernel
theorem dX6_keyOfText_22 : decode cX6_keyOfText 22 = .ok (.iaload, 1) := by decide +kernel
theorem dX6_keyOfText_23 : decode cX6_keyOfText 23 = .ok (.invokestatic 244, 3) := by decide +kernel
theorem dX6_keyOfText_26 : decode cX6_keyOfText 26 = .ok (.istore_n 2, 1) := by decide +kernel
theorem dX6_keyOfText_27 : decode cX6_keyOfText 27 = .ok (.aload_n 0, 1) := by decide +kernel
theorem dX6_keyOfText_28 : decode cX6_keyOfText 28 = .ok (.iconst 1, 1) := by decide +kernel
theorem dX6_keyOfText_29 : decode cX6_keyOfText 29 = .ok (.invokevirtual 248, 3) := by decide +kernel
theorem dX6_keyOfText_32 : decode cX6_keyOfText 32 = .ok (.istore_n 3, 1) := by decide +kernel
theorem dX6_keyOfText_33 : decode cX6_keyOfText 33 = .ok (.aload_n 0, 1) := by decide +kernel
theorem dX6_keyOfText_34 : decode cX6_keyOfText 34 = .ok (.iconst 5, 1) := by decide +kernel
theorem dX6_keyOfText_35 : decode cX6_keyOfText 35 = .ok (.invokevirtual 248, 3) := by decide +kernel
theorem dX6_keyOfText_38 : decode cX6_keyOfText 38 = .ok (.istore 4, 2) := by decide +kernel
theorem dX6_keyOfText_40 : decode cX6_keyOfText 40 = .ok (.aload_n 0, 1) := by decide +kernel
theorem dX6_keyOfText_41 : decode cX6_keyOfText 41 = .ok (.bipush 9, 2) := by decide +kernel
theorem dX6_keyOfText_43 : decode cX6_keyOfText 43 = .ok (.invokevirtual 248, 3) := by decide +kernel
theorem dX6_keyOfText_46 : decode cX6_keyOfText 46 = .ok (.istore 5, 2) := by decide +kernel
theorem dX6_keyOfText_48 : decode cX6_keyOfText 48 = .ok (.aload_n 0, 1) := by decide +kernel
theorem dX6_keyOfText_49 : decode cX6_keyOfText 49 = .ok (.getfield 43, 3) := by decide +kernel
theorem dX6_keyOfText_52 : decode cX6_keyOfText 52 = .ok (.iconst 0, 1) := by decide +kernel
theorem dX6_keyOfText_53 : decode cX6_keyOfText 53 = .ok (.iaload, 1) := by decide +kernel
theorem dX6_keyOfText_54 : decode cX6_keyOfText 54 = .ok (.bipush 75, 2) := by decide +kernel
theorem dX6_keyOfText_56 : decode cX6_keyOfText 56 = .ok (.if_icmp .ne 54, 3) := by decide +kernel
theorem dX6_keyOfText_59 : decode cX6_keyOfText 59 = .ok (.aload_n 0, 1) := by decide +kernel
theorem dX6_keyOfText_60 : decode cX6_keyOfText 60 = .ok (.getfield 43, 3) := by decide +kernel
theorem dX6_keyOfText_63 : decode cX6_keyOfText 63 = .ok (.iconst 3, 1) := by decide +kernel
theorem dX6_keyOfText_64 : decode cX6_keyOfText 64 = .ok (.iaload, 1) := by decide +kernel
theorem dX6_keyOfText_65 : decode cX6_keyOfText 65 = .ok (.bipush 32, 2) := by decide +kernel
theorem dX6_keyOfText_67 : decode cX6_keyOfText 67 = .ok (.if_icmp .ne 43, 3) := by decide +kernel
theorem dX6_keyOfText_70 : decode cX6_keyOfText 70 = .ok (.aload_n 0, 1) := by decide +kernel
theorem dX6_keyOfText_71 : decode cX6_keyOfText 71 = .ok (.getfield 43, 3) := by decide +kernel
theorem dX6_keyOfText_74 : decode cX6_keyOfText 74 = .ok (.bipush 7, 2) := by decide +kernel
theorem dX6_keyOfText_76 : decode cX6_keyOfText 76 = .ok (.iaload, 1) := by decide +kernel
theorem dX6_keyOfText_77 : decode cX6_keyOfText 77 = .ok (.bipush 32, 2) := by decide +kernel
theorem dX6_keyOfText_79 : decode cX6_keyOfText 79 = .ok (.if_icmp .ne 31, 3) := by decide +kernel
theorem dX6_keyOfText_82 : decode cX6_keyOfText 82 = .ok (.aload_n 0, 1) := by decide +kernel
theorem dX6_keyOfText_83 : decode cX6_keyOfText 83 = .ok (.getfield 43, 3) := by decide +kernel
theorem dX6_keyOfText_86 : decode cX6_keyOfText 86 = .ok (.bipush 8, 2) := by decide +kernel
theorem dX6_keyOfText_88 : decode cX6_keyOfText 88 = .ok (.iaload, 1) := by decide +kernel
theorem dX6_keyOfText_89 : decode cX6_keyOfText 89 = .ok (.bipush 107, 2) := by decide +kernel
theorem dX6_keyOfText_91 : decode cX6_keyOfText 91 = .ok (.if_icmp .ne 19, 3) := by decide +kernel
theorem dX6_keyOfText_94 : decode cX6_keyOfText 94 = .ok (.aload_n 0, 1) := by decide +kernel
theorem dX6_keyOfText_95 : decode cX6_keyOfText 95 = .ok (.getfield 43, 3) := by decide +kernel
theorem dX6_keyOfText_98 : decode cX6_keyOfText 98 = .ok (.bipush 11, 2) := by decide +kernel
theorem dX6_keyOfText_100 : decode cX6_keyOfText 100 = .ok (.iaload, 1) := by decide +kernel
theorem dX6_keyOfText_101 : decode cX6_keyOfText 101 = .ok (.bipush 32, 2) := by decide +kernel
theorem dX6_keyOfText_103 : decode cX6_keyOfText 103 = .ok (.if_icmp .ne 7, 3) := by decide +kernel
theorem dX6_keyOfText_106 : decode cX6_keyOfText 106 = .ok (.iconst 1, 1) := by decide +kernel
theorem dX6_keyOfText_107 : decode cX6_keyOfText 107 = .ok (.goto 4, 3) := by decide +kernel
theorem dX6_keyOfText_110 : decode cX6_keyOfText 110 = .ok (.iconst 0, 1) := by decide +kernel
theorem dX6_keyOfText_111 : decode cX6_keyOfText 111 = .ok (.istore 6, 2) := by decide +kernel
theorem dX6_keyOfText_113 : decode cX6_keyOfText 113 = .ok (.iload 6, 2) := by decide +kernel
theorem dX6_keyOfText_115 : decode cX6_keyOfText 115 = .ok (.ifCond .eq 20, 3) := by decide +kernel
theorem dX6_keyOfText_118 : decode cX6_keyOfText 118 = .ok (.aload_n 0, 1) := by decide +kernel
theorem dX6_keyOfText_119 : decode cX6_keyOfText 119 = .ok (.getfield 52, 3) := by decide +kernel
theorem dX6_keyOfText_122 : decode cX6_keyOfText 122 = .ok (.iload_n 1, 1) := by decide +kernel
theorem dX6_keyOfText_123 : decode cX6_keyOfText 123 = .ok (.iload_n 3, 1) := by decide +kernel
theorem dX6_keyOfText_124 : decode cX6_keyOfText 124 = .ok (.iload 5, 2) := by decide +kernel
theorem dX6_keyOfText_126 : decode cX6_keyOfText 126 = .ok (.iload 4, 2) := by decide +kernel
theorem dX6_keyOfText_128 : decode cX6_keyOfText 128 = .ok (.iload_n 2, 1) := by decide +kernel
theorem dX6_keyOfText_129 : decode cX6_keyOfText 129 = .ok (.invokevirtual 70, 3) := by decide +kernel
theorem dX6_keyOfText_132 : decode cX6_keyOfText 132 = .ok (.ifCond .ne 5, 3) := by decide +kernel
theorem dX6_keyOfText_135 : decode cX6_keyOfText 135 = .ok (.iconst (-1), 1) := by decide +kernel
theorem dX6_keyOfText_136 : decode cX6_keyOfText 136 = .ok (.ireturn, 1) := by decide +kernel
theorem dX6_keyOfText_137 : decode cX6_keyOfText 137 = .ok (.aload_n 0, 1) := by decide +kernel
theorem dX6_keyOfText_138 : decode cX6_keyOfText 138 = .ok (.getfield 52, 3) := by decide +kernel
theorem dX6_keyOfText_141 : decode cX6_keyOfText 141 = .ok (.getfield 251, 3) := by decide +kernel
theorem dX6_keyOfText_144 : decode cX6_keyOfText 144 = .ok (.istore 7, 2) := by decide +kernel
theorem dX6_keyOfText_146 : decode cX6_keyOfText 146 = .ok (.iconst 2, 1) := by decide +kernel
theorem dX6_keyOfText_147 : decode cX6_keyOfText 147 = .ok (.iload_n 1, 1) := by decide +kernel
theorem dX6_keyOfText_148 : decode cX6_keyOfText 148 = .ok (.iload 7, 2) := by decide +kernel
theorem dX6_keyOfText_150 : decode cX6_keyOfText 150 = .ok (.imul, 1) := by decide +kernel
theorem dX6_keyOfText_151 : decode cX6_keyOfText 151 = .ok (.iload_n 3, 1) := by decide +kernel
theorem dX6_keyOfText_152 : decode cX6_keyOfText 152 = .ok (.iadd, 1) := by decide +kernel
theorem dX6_keyOfText_153 : decode cX6_keyOfText 153 = .ok (.iload 7, 2) := by decide +kernel
theorem dX6_keyOfText_155 : decode cX6_keyOfText 155 = .ok (.imul, 1) := by decide +kernel
theorem dX6_keyOfText_156 : decode cX6_keyOfText 156 = .ok (.iload 5, 2) := by decide +kernel
theorem dX6_keyOfText_158 : decode cX6_keyOfText 158 = .ok (.iadd, 1) := by decide +kernel
theorem dX6_keyOfText_159 : decode cX6_keyOfText 159 = .ok (.iload 7, 2) := by decide +kernel
theorem dX6_keyOfText_161 : decode cX6_keyOfText 161 = .ok (.imul, 1) := by decide +kernel
theorem dX6_keyOfText_162 : decode cX6_keyOfText 162 = .ok (.iload 4, 2) := by decide +kernel
theorem dX6_keyOfText_164 : decode cX6_keyOfText 164 = .ok (.iadd, 1) := by decide +kernel
theorem dX6_keyOfText_165 : decode cX6_keyOfText 165 = .ok (.imul, 1) := by decide +kernel
theorem dX6_keyOfText_166 : decode cX6_keyOfText 166 = .ok (.iload_n 2, 1) := by decide +kernel
theorem dX6_keyOfText_167 : decode cX6_keyOfText 167 = .ok (.iadd, 1) := by decide +kernel
theorem dX6_keyOfText_168 : decode cX6_keyOfText 168 = .ok (.ireturn, 1) := by decide +kernel
theorem dX6_letterAt_0 : decode cX6_letterAt 0 = .ok (.iconst 0, 1) := by decide +kernel
theorem dX6_letterAt_1 : decode cX6_letterAt 1 = .ok (.istore_n 2, 1) := by decide +kernel
theorem dX6_letterAt_2 : decode cX6_letterAt 2 = .ok (.iload_n 2, 1) := by decide +kernel
theorem dX6_letterAt_3 : decode cX6_letterAt 3 = .ok (.aload_n 0, 1) := by decide +kernel
theorem dX6_letterAt_4 : decode cX6_letterAt 4 = .ok (.arraylength, 1) := by decide +kernel
theorem dX6_letterAt_5 : decode cX6_letterAt 5 = .ok (.if_icmp .ge 18, 3) := by decide +kernel
theorem dX6_letterAt_8 : decode cX6_letterAt 8 = .ok (.aload_n 0, 1) := by decide +kernel
theorem dX6_letterAt_9 : decode cX6_letterAt 9 = .ok (.iload_n 2, 1) := by decide +kernel
theorem dX6_letterAt_10 : decode cX6_letterAt 10 = .ok (.caload, 1) := by decide +kernel
theorem dX6_letterAt_11 : decode cX6_letterAt 11 = .ok (.iload_n 1, 1) := by decide +kernel
theorem dX6_letterAt_12 : decode cX6_letterAt 12 = .ok (.if_icmp .ne 5, 3) := by decide +kernel
theorem dX6_letterAt_15 : decode cX6_letterAt 15 = .ok (.iload_n 2, 1) := by decide +kernel
theorem dX6_letterAt_16 : decode cX6_letterAt 16 = .ok (.ireturn, 1) := by decide +kernel
theorem dX6_letterAt_17 : decode cX6_letterAt 17 = .ok (.iinc 2 1, 3) := by decide +kernel
theorem dX6_letterAt_20 : decode cX6_letterAt 20 = .ok (.goto (-18), 3) := by decide +kernel
theorem dX6_letterAt_23 : decode cX6_letterAt 23 = .ok (.iconst (-1), 1) := by decide +kernel
theorem dX6_letterAt_24 : decode cX6_letterAt 24 = .ok (.ireturn, 1) := by decide +kernel
theorem dX6_squareOfText_0 : decode cX6_squareOfText 0 = .ok (.aload_n 0, 1) := by decide +kernel
theorem dX6_squareOfText_1 : decode cX6_squareOfText 1 = .ok (.getfield 43, 3) := by decide +kernel
theorem dX6_squareOfText_4 : decode cX6_squareOfText 4 = .ok (.iload_n 1, 1) := by decide +kernel
theorem dX6_squareOfText_5 : decode cX6_squareOfText 5 = .ok (.iaload, 1) := by decide +kernel
theorem dX6_squareOfText_6 : decode cX6_squareOfText 6 = .ok (.bipush 97, 2) := by decide +kernel
theorem dX6_squareOfText_8 : decode cX6_squareOfText 8 = .ok (.isub, 1) := by decide +kernel
theorem dX6_squareOfText_9 : decode cX6_squareOfText 9 = .ok (.istore_n 2, 1) := by decide +kernel
theorem dX6_squareOfText_10 : decode cX6_squareOfText 10 = .ok (.aload_n 0, 1) := by decide +kernel
theorem dX6_squareOfText_11 : decode cX6_squareOfText 11 = .ok (.getfield 43, 3) := by decide +kernel
theorem dX6_squareOfText_14 : decode cX6_squareOfText 14 = .ok (.iload_n 1, 1) := by decide +kernel
theorem dX6_squareOfText_15 : decode cX6_squareOfText 15 = .ok (.iconst 1, 1) := by decide +kernel
theorem dX6_squareOfText_16 : decode cX6_squareOfText 16 = .ok (.iadd, 1) := by decide +kernel
theorem dX6_squareOfText_17 : decode cX6_squareOfText 17 = .ok (.iaload, 1) := by decide +kernel
theorem dX6_squareOfText_18 : decode cX6_squareOfText 18 = .ok (.bipush 49, 2) := by decide +kernel
theorem dX6_squareOfText_20 : decode cX6_squareOfText 20 = .ok (.isub, 1) := by decide +kernel
theorem dX6_squareOfText_21 : decode cX6_squareOfText 21 = .ok (.istore_n 3, 1) := by decide +kernel
theorem dX6_squareOfText_22 : decode cX6_squareOfText 22 = .ok (.iload_n 2, 1) := by decide +kernel
theorem dX6_squareOfText_23 : decode cX6_squareOfText 23 = .ok (.ifCond .lt 33, 3) := by decide +kernel
theorem dX6_squareOfText_26 : decode cX6_squareOfText 26 = .ok (.iload_n 2, 1) := by decide +kernel
theorem dX6_squareOfText_27 : decode cX6_squareOfText 27 = .ok (.aload_n 0, 1) := by decide +kernel
theorem dX6_squareOfText_28 : decode cX6_squareOfText 28 = .ok (.getfield 52, 3) := by decide +kernel
theorem dX6_squareOfText_31 : decode cX6_squareOfText 31 = .ok (.getfield 87, 3) := by decide +kernel
theorem dX6_squareOfText_34 : decode cX6_squareOfText 34 = .ok (.if_icmp .ge 22, 3) := by decide +kernel
theorem dX6_squareOfText_37 : decode cX6_squareOfText 37 = .ok (.iload_n 3, 1) := by decide +kernel
theorem dX6_squareOfText_38 : decode cX6_squareOfText 38 = .ok (.ifCond .lt 18, 3) := by decide +kernel
theorem dX6_squareOfText_41 : decode cX6_squareOfText 41 = .ok (.iload_n 3, 1) := by decide +kernel
theorem dX6_squareOfText_42 : decode cX6_squareOfText 42 = .ok (.aload_n 0, 1) := by decide +kernel
theorem dX6_squareOfText_43 : decode cX6_squareOfText 43 = .ok (.getfield 52, 3) := by decide +kernel
theorem dX6_squareOfText_46 : decode cX6_squareOfText 46 = .ok (.getfield 87, 3) := by decide +kernel
theorem dX6_squareOfText_49 : decode cX6_squareOfText 49 = .ok (.if_icmp .ge 7, 3) := by decide +kernel
theorem dX6_squareOfText_52 : decode cX6_squareOfText 52 = .ok (.iconst 1, 1) := by decide +kernel
theorem dX6_squareOfText_53 : decode cX6_squareOfText 53 = .ok (.goto 4, 3) := by decide +kernel
theorem dX6_squareOfText_56 : decode cX6_squareOfText 56 = .ok (.iconst 0, 1) := by decide +kernel
theorem dX6_squareOfText_57 : decode cX6_squareOfText 57 = .ok (.istore 4, 2) := by decide +kernel
theorem dX6_squareOfText_59 : decode cX6_squareOfText 59 = .ok (.iload 4, 2) := by decide +kernel
theorem dX6_squareOfText_61 : decode cX6_squareOfText 61 = .ok (.ifCond .eq 17, 3) := by decide +kernel
theorem dX6_squareOfText_64 : decode cX6_squareOfText 64 = .ok (.aload_n 0, 1) := by decide +kernel
theorem dX6_squareOfText_65 : decode cX6_squareOfText 65 = .ok (.getfield 52, 3) := by decide +kernel
theorem dX6_squareOfText_68 : decode cX6_squareOfText 68 = .ok (.getfield 87, 3) := by decide +kernel
theorem dX6_squareOfText_71 : decode cX6_squareOfText 71 = .ok (.iload_n 3, 1) := by decide +kernel
theorem dX6_squareOfText_72 : decode cX6_squareOfText 72 = .ok (.imul, 1) := by decide +kernel
theorem dX6_squareOfText_73 : decode cX6_squareOfText 73 = .ok (.iload_n 2, 1) := by decide +kernel
theorem dX6_squareOfText_74 : decode cX6_squareOfText 74 = .ok (.iadd, 1) := by decide +kernel
theorem dX6_squareOfText_75 : decode cX6_squareOfText 75 = .ok (.goto 4, 3) := by decide +kernel
theorem dX6_squareOfText_78 : decode cX6_squareOfText 78 = .ok (.iconst (-1), 1) := by decide +kernel
theorem dX6_squareOfText_79 : decode cX6_squareOfText 79 = .ok (.ireturn, 1) := by decide +kernel
theorem dX6_showSquare_0 : decode cX6_showSquare 0 = .ok (.aload_n 0, 1) := by decide +kernel
theorem dX6_showSquare_1 : decode cX6_showSquare 1 = .ok (.getfield 46, 3) := by decide +kernel
theorem dX6_showSquare_4 : decode cX6_showSquare 4 = .ok (.iload_n 1, 1) := by decide +kernel
theorem dX6_showSquare_5 : decode cX6_showSquare 5 = .ok (.iload_n 2, 1) := by decide +kernel
theorem dX6_showSquare_6 : decode cX6_showSquare 6 = .ok (.iastore, 1) := by decide +kernel
theorem dX6_showSquare_7 : decode cX6_showSquare 7 = .ok (.aload_n 0, 1) := by decide +kernel
theorem dX6_showSquare_8 : decode cX6_showSquare 8 = .ok (.getfield 46, 3) := by decide +kernel
theorem dX6_showSquare_11 : decode cX6_showSquare 11 = .ok (.iload_n 1, 1) := by decide +kernel
theorem dX6_showSquare_12 : decode cX6_showSquare 12 = .ok (.iconst 1, 1) := by decide +kernel
theorem dX6_showSquare_13 : decode cX6_showSquare 13 = .ok (.iadd, 1) := by decide +kernel
theorem dX6_showSquare_14 : decode cX6_showSquare 14 = .ok (.bipush 97, 2) := by decide +kernel
theorem dX6_showSquare_16 : decode cX6_showSquare 16 = .ok (.aload_n 0, 1) := by decide +kernel
theorem dX6_showSquare_17 : decode cX6_showSquare 17 = .ok (.getfield 52, 3) := by decide +kernel
theorem dX6_showSquare_20 : decode cX6_showSquare 20 = .ok (.getfield 254, 3) := by decide +kernel
theorem dX6_showSquare_23 : decode cX6_showSquare 23 = .ok (.iload_n 3, 1) := by decide +kernel
theorem dX6_showSquare_24 : decode cX6_showSquare 24 = .ok (.iaload, 1) := by decide +kernel
theorem dX6_showSquare_25 : decode cX6_showSquare 25 = .ok (.iadd, 1) := by decide +kernel
theorem dX6_showSquare_26 : decode cX6_showSquare 26 = .ok (.iastore, 1) := by decide +kernel
theorem dX6_showSquare_27 : decode cX6_showSquare 27 = .ok (.aload_n 0, 1) := by decide +kernel
theorem dX6_showSquare_28 : decode cX6_showSquare 28 = .ok (.getfield 46, 3) := by decide +kernel
theorem dX6_showSquare_31 : decode cX6_showSquare 31 = .ok (.iload_n 1, 1) := by decide +kernel
theorem dX6_showSquare_32 : decode cX6_showSquare 32 = .ok (.iconst 2, 1) := by decide +kernel
theorem dX6_showSquare_33 : decode cX6_showSquare 33 = .ok (.iadd, 1) := by decide +kernel
theorem dX6_showSquare_34 : decode cX6_showSquare 34 = .ok (.bipush 49, 2) := by decide +kernel
theorem dX6_showSquare_36 : decode cX6_showSquare 36 = .ok (.aload_n 0, 1) := by decide +kernel
theorem dX6_showSquare_37 : decode cX6_showSquare 37 = .ok (.getfield 52, 3) := by decide +kernel
theorem dX6_showSquare_40 : decode cX6_showSquare 40 = .ok (.getfield 257, 3) := by decide +kernel
theorem dX6_showSquare_43 : decode cX6_showSquare 43 = .ok (.iload_n 3, 1) := by decide +kernel
theorem dX6_showSquare_44 : decode cX6_showSquare 44 = .ok (.iaload, 1) := by decide +kernel
theorem dX6_showSquare_45 : decode cX6_showSquare 45 = .ok (.iadd, 1) := by decide +kernel
theorem dX6_showSquare_46 : decode cX6_showSquare 46 = .ok (.iastore, 1) := by decide +kernel
theorem dX6_showSquare_47 : decode cX6_showSquare 47 = .ok (.aload_n 0, 1) := by decide +kernel
theorem dX6_showSquare_48 : decode cX6_showSquare 48 = .ok (.getfield 46, 3) := by decide +kernel
theorem dX6_showSquare_51 : decode cX6_showSquare 51 = .ok (.iload_n 1, 1) := by decide +kernel
theorem dX6_showSquare_52 : decode cX6_showSquare 52 = .ok (.iconst 3, 1) := by decide +kernel
theorem dX6_showSquare_53 : decode cX6_showSquare 53 = .ok (.iadd, 1) := by decide +kernel
theorem dX6_showSquare_54 : decode cX6_showSquare 54 = .ok (.bipush 32, 2) := by decide +kernel
theorem dX6_showSquare_56 : decode cX6_showSquare 56 = .ok (.iastore, 1) := by decide +kernel
theorem dX6_showSquare_57 : decode cX6_showSquare 57 = .ok (.return_, 1) := by decide +kernel
theorem dX6_bit_0 : decode cX6_bit 0 = .ok (.lconst 1, 1) := by decide +kernel
theorem dX6_bit_1 : decode cX6_bit 1 = .ok (.iload_n 0, 1) := by decide +kernel
theorem dX6_bit_2 : decode cX6_bit 2 = .ok (.lshl, 1) := by decide +kernel
theorem dX6_bit_3 : decode cX6_bit 3 = .ok (.lreturn, 1) := by decide +kernel
theorem dX6_has_0 : decode cX6_has 0 = .ok (.lload_n 0, 1) := by decide +kernel
theorem dX6_has_1 : decode cX6_has 1 = .ok (.iload_n 2, 1) := by decide +kernel
theorem dX6_has_2 : decode cX6_has 2 = .ok (.lushr, 1) := by decide +kernel
theorem dX6_has_3 : decode cX6_has 3 = .ok (.lconst 1, 1) := by decide +kernel
theorem dX6_has_4 : decode cX6_has 4 = .ok (.land, 1) := by decide +kernel
theorem dX6_has_5 : decode cX6_has 5 = .ok (.lconst 0, 1) := by decide +kernel
theorem dX6_has_6 : decode cX6_has 6 = .ok (.lcmp, 1) := by decide +kernel
theorem dX6_has_7 : decode cX6_has 7 = .ok (.ifCond .eq 7, 3) := by decide +kernel
theorem dX6_has_10 : decode cX6_has 10 = .ok (.iconst 1, 1) := by decide +kernel
theorem dX6_has_11 : decode cX6_has 11 = .ok (.goto 4, 3) := by decide +kernel
theorem dX6_has_14 : decode cX6_has 14 = .ok (.iconst 0, 1) := by decide +kernel
theorem dX6_has_15 : decode cX6_has 15 = .ok (.ireturn, 1) := by decide +kernel
theorem dX6_lowest_0 : decode cX6_lowest 0 = .ok (.lload_n 0, 1) := by decide +kernel
theorem dX6_lowest_1 : decode cX6_lowest 1 = .ok (.lload_n 0, 1) := by decide +kernel
theorem dX6_lowest_2 : decode cX6_lowest 2 = .ok (.lneg, 1) := by decide +kernel
theorem dX6_lowest_3 : decode cX6_lowest 3 = .ok (.land, 1) := by decide +kernel
theorem dX6_lowest_4 : decode cX6_lowest 4 = .ok (.lconst 1, 1) := by decide +kernel
theorem dX6_lowest_5 : decode cX6_lowest 5 = .ok (.lsub, 1) := by decide +kernel
theorem dX6_lowest_6 : decode cX6_lowest 6 = .ok (.invokestatic 78, 3) := by decide +kernel
theorem dX6_lowest_9 : decode cX6_lowest 9 = .ok (.ireturn, 1) := by decide +kernel
theorem dX0_init_0 : decode cX0_init 0 = .ok (.aload_n 0, 1) := by decide +kernel
theorem dX0_init_1 : decode cX0_init 1 = .ok (.invokespecial 3, 3) := by decide +kernel
theorem dX0_init_4 : decode cX0_init 4 = .ok (.aload_n 0, 1) := by decide +kernel
theorem dX0_init_5 : decode cX0_init 5 = .ok (.iconst 3, 1) := by decide +kernel
theorem dX0_init_6 : decode cX0_init 6 = .ok (.anewarray 9, 3) := by decide +kernel
theorem dX0_init_9 : decode cX0_init 9 = .ok (.putfield 11, 3) := by decide +kernel
theorem dX0_init_12 : decode cX0_init 12 = .ok (.aload_n 0, 1) := by decide +kernel
theorem dX0_init_13 : decode cX0_init 13 = .ok (.iload_n 1, 1) := by decide +kernel
theorem dX0_init_14 : decode cX0_init 14 = .ok (.putfield 17, 3) := by decide +kernel
theorem dX0_init_17 : decode cX0_init 17 = .ok (.aload_n 0, 1) := by decide +kernel
theorem dX0_init_18 : decode cX0_init 18 = .ok (.iload_n 1, 1) := by decide +kernel
theorem dX0_init_19 : decode cX0_init 19 = .ok (.iload_n 1, 1) := by decide +kernel
theorem dX0_init_20 : decode cX0_init 20 = .ok (.imul, 1) := by decide +kernel
theorem dX0_init_21 : decode cX0_init 21 = .ok (.putfield 21, 3) := by decide +kernel
theorem dX0_init_24 : decode cX0_init 24 = .ok (.aload_n 0, 1) := by decide +kernel
theorem dX0_init_25 : decode cX0_init 25 = .ok (.aload_n 0, 1) := by decide +kernel
theorem dX0_init_26 : decode cX0_init 26 = .ok (.getfield 21, 3) := by decide +kernel
theorem dX0_init_29 : decode cX0_init 29 = .ok (.newarray .int, 2) := by decide +kernel
theorem dX0_init_31 : decode cX0_init 31 = .ok (.putfield 24, 3) := by decide +kernel
theorem dX0_init_34 : decode cX0_init 34 = .ok (.aload_n 0, 1) := by decide +kernel
theorem dX0_init_35 : decode cX0_init 35 = .ok (.aload_n 0, 1) := by decide +kernel
theorem dX0_init_36 : decode cX0_init 36 = .ok (.getfield 21, 3) := by decide +kernel
theorem dX0_init_39 : decode cX0_init 39 = .ok (.newarray .int, 2) := by decide +kernel
theorem dX0_init_41 : decode cX0_init 41 = .ok (.putfield 28, 3) := by decide +kernel
theorem dX0_init_44 : decode cX0_init 44 = .ok (.aload_n 0, 1) := by decide +kernel
theorem dX0_init_45 : decode cX0_init 45 = .ok (.aload_n 0, 1) := by decide +kernel
theorem dX0_init_46 : decode cX0_init 46 = .ok (.getfield 21, 3) := by decide +kernel
theorem dX0_init_49 : decode cX0_init 49 = .ok (.newarray .long, 2) := by decide +kernel
theorem dX0_init_51 : decode cX0_init 51 = .ok (.putfield 31, 3) := by decide +kernel
theorem dX0_init_54 : decode cX0_init 54 = .ok (.aload_n 0, 1) := by decide +kernel
theorem dX0_init_55 : decode cX0_init 55 = .ok (.iconst 3, 1) := by decide +kernel
theorem dX0_init_56 : decode cX0_init 56 = .ok (.aload_n 0, 1) := by decide +kernel
theorem dX0_init_57 : decode cX0_init 57 = .ok (.getfield 21, 3) := by decide +kernel
theorem dX0_init_60 : decode cX0_init 60 = .ok (.multianewarray 35 2, 4) := by decide +kernel
theorem dX0_init_64 : decode cX0_init 64 = .ok (.putfield 37, 3) := by decide +kernel
theorem dX0_init_67 : decode cX0_init 67 = .ok (.aload_n 0, 1) := by decide +kernel
theorem dX0_init_68 : decode cX0_init 68 = .ok (.aload_n 0, 1) := by decide +kernel
theorem dX0_init_69 : decode cX0_init 69 = .ok (.getfield 21, 3) := by decide +kernel
theorem dX0_init_72 : decode cX0_init 72 = .ok (.aload_n 0, 1) := by decide +kernel
theorem dX0_init_73 : decode cX0_init 73 = .ok (.getfield 21, 3) := by decide +kernel
theorem dX0_init_76 : decode cX0_init 76 = .ok (.imul, 1) := by decide +kernel
theorem dX0_init_77 : decode cX0_init 77 = .ok (.newarray .long, 2) := by decide +kernel
theorem dX0_init_79 : decode cX0_init 79 = .ok (.putfield 40, 3) := by decide +kernel
theorem dX0_init_82 : decode cX0_init 82 = .ok (.aload_n 0, 1) := by decide +kernel
theorem dX0_init_83 : decode cX0_init 83 = .ok (.bipush 8, 2) := by decide +kernel
theorem dX0_init_85 : decode cX0_init 85 = .ok (.aload_n 0, 1) := by decide +kernel
theorem dX0_init_86 : decode cX0_init 86 = .ok (.getfield 21, 3) := by decide +kernel
theorem dX0_init_89 : decode cX0_init 89 = .ok (.imul, 1) := by decide +kernel
theorem dX0_init_90 : decode cX0_init 90 = .ok (.newarray .int, 2) := by decide +kernel
theorem dX0_init_92 : decode cX0_init 92 = .ok (.putfield 43, 3) := by decide +kernel
theorem dX0_init_95 : decode cX0_init 95 = .ok (.iconst 0, 1) := by decide +kernel
theorem dX0_init_96 : decode cX0_init 96 = .ok (.istore_n 2, 1) := by decide +kernel
theorem dX0_init_97 : decode cX0_init 97 = .ok (.iload_n 2, 1) := by decide +kernel
theorem dX0_init_98 : decode cX0_init 98 = .ok (.iload_n 1, 1) := by decide +kernel
theorem dX0_init_99 : decode cX0_init 99 = .ok (.if_icmp .ge 34, 3) := by decide +kernel
theorem dX0_init_102 : decode cX0_init 102 = .ok (.iconst 0, 1) := by decide +kernel
theorem dX0_init_103 : decode cX0_init 103 = .ok (.istore_n 3, 1) := by decide +kernel
theorem dX0_init_104 : decode cX0_init 104 = .ok (.iload_n 3, 1) := by decide +kernel
theorem dX0_init_105 : decode cX0_init 105 = .ok (.iload_n 1, 1) := by decide +kernel
theorem dX0_init_106 : decode cX0_init 106 = .ok (.if_icmp .ge 21, 3) := by decide +kernel
theorem dX0_init_109 : decode cX0_init 109 = .ok (.aload_n 0, 1) := by decide +kernel
theorem dX0_init_110 : decode cX0_init 110 = .ok (.aload_n 0, 1) := by decide +kernel
theorem dX0_init_111 : decode cX0_init 111 = .ok (.iload_n 2, 1) := by decide +kernel
theorem dX0_init_112 : decode cX0_init 112 = .ok (.iload_n 3, 1) := by decide +kernel
theorem dX0_init_113 : decode cX0_init 113 = .ok (.invokevirtual 46, 3) := by decide +kernel
theorem dX0_init_116 : decode cX0_init 116 = .ok (.iload_n 2, 1) := by decide +kernel
theorem dX0_init_117 : decode cX0_init 117 = .ok (.iload_n 3, 1) := by decide +kernel
theorem dX0_init_118 : decode cX0_init 118 = .ok (.invokevirtual 50, 3) := by decide +kernel
theorem dX0_init_121 : decode cX0_init 121 = .ok (.iinc 3 1, 3) := by decide +kernel
theorem dX0_init_124 : decode cX0_init 124 = .ok (.goto (-20), 3) := by decide +kernel
theorem dX0_init_127 : decode cX0_init 127 = .ok (.iinc 2 1, 3) := by decide +kernel
theorem dX0_init_130 : decode cX0_init 130 = .ok (.goto (-33), 3) := by decide +kernel
theorem dX0_init_133 : decode cX0_init 133 = .ok (.return_, 1) := by decide +kernel
theorem dX0_enter_0 : decode cX0_enter 0 = .ok (.aload_n 0, 1) := by decide +kernel
theorem dX0_enter_1 : decode cX0_enter 1 = .ok (.getfield 24, 3) := by decide +kernel
theorem dX0_enter_4 : decode cX0_enter 4 = .ok (.iload_n 1, 1) := by decide +kernel
theorem dX0_enter_5 : decode cX0_enter 5 = .ok (.iload_n 2, 1) := by decide +kernel
theorem dX0_enter_6 : decode cX0_enter 6 = .ok (.iastore, 1) := by decide +kernel
theorem dX0_enter_7 : decode cX0_enter 7 = .ok (.aload_n 0, 1) := by decide +kernel
theorem dX0_enter_8 : decode cX0_enter 8 = .ok (.getfield 28, 3) := by decide +kernel
theorem dX0_enter_11 : decode cX0_enter 11 = .ok (.iload_n 1, 1) := by decide +kernel
theorem dX0_enter_12 : decode cX0_enter 12 = .ok (.iload_n 3, 1) := by decide +kernel
theorem dX0_enter_13 : decode cX0_enter 13 = .ok (.iastore, 1) := by decide +kernel
theorem dX0_enter_14 : decode cX0_enter 14 = .ok (.aload_n 0, 1) := by decide +kernel
theorem dX0_enter_15 : decode cX0_enter 15 = .ok (.iload_n 1, 1) := by decide +kernel
theorem dX0_enter_16 : decode cX0_enter 16 = .ok (.invokevirtual 54, 3) := by decide +kernel
theorem dX0_enter_19 : decode cX0_enter 19 = .ok (.iconst 0, 1) := by decide +kernel
theorem dX0_enter_20 : decode cX0_enter 20 = .ok (.istore 4, 2) := by decide +kernel
theorem dX0_enter_22 : decode cX0_enter 22 = .ok (.iload 4, 2) := by decide +kernel
theorem dX0_enter_24 : decode cX0_enter 24 = .ok (.bipush 8, 2) := by decide +kernel
theorem dX0_enter_26 : decode cX0_enter 26 = .ok (.if_icmp .ge 31, 3) := by decide +kernel
theorem dX0_enter_29 : decode cX0_enter 29 = .ok (.aload_n 0, 1) := by decide +kernel
theorem dX0_enter_30 : decode cX0_enter 30 = .ok (.getfield 43, 3) := by decide +kernel
theorem dX0_enter_33 : decode cX0_enter 33 = .ok (.iload 4, 2) := by decide +kernel
theorem dX0_enter_35 : decode cX0_enter 35 = .ok (.aload_n 0, 1) := by decide +kernel
theorem dX0_enter_36 : decode cX0_enter 36 = .ok (.getfield 21, 3) := by decide +kernel
theorem dX0_enter_39 : decode cX0_enter 39 = .ok (.imul, 1) := by decide +kernel
theorem dX0_enter_40 : decode cX0_enter 40 = .ok (.iload_n 1, 1) := by decide +kernel
theorem dX0_enter_41 : decode cX0_enter 41 = .ok (.iadd, 1) := by decide +kernel
theorem dX0_enter_42 : decode cX0_enter 42 = .ok (.aload_n 0, 1) := by decide +kernel
theorem dX0_enter_43 : decode cX0_enter 43 = .ok (.iload 4, 2) := by decide +kernel
theorem dX0_enter_45 : decode cX0_enter 45 = .ok (.iload_n 2, 1) := by decide +kernel
theorem dX0_enter_46 : decode cX0_enter 46 = .ok (.iload_n 3, 1) := by decide +kernel
theorem dX0_enter_47 : decode cX0_enter 47 = .ok (.invokevirtual 58, 3) := by decide +kernel
theorem dX0_enter_50 : decode cX0_enter 50 = .ok (.iastore, 1) := by decide +kernel
theorem dX0_enter_51 : decode cX0_enter 51 = .ok (.iinc 4 1, 3) := by decide +kernel
theorem dX0_enter_54 : decode cX0_enter 54 = .ok (.goto (-32), 3) := by decide +kernel
theorem dX0_enter_57 : decode cX0_enter 57 = .ok (.return_, 1) := by decide +kernel
theorem dX0_lookAround_0 : decode cX0_lookAround 0 = .ok (.iconst (-1), 1) := by decide +kernel
theorem dX0_lookAround_1 : decode cX0_lookAround 1 = .ok (.istore_n 2, 1) := by decide +kernel
theorem dX0_lookAround_2 : decode cX0_lookAround 2 = .ok (.iload_n 2, 1) := by decide +kernel
theorem dX0_lookAround_3 : decode cX0_lookAround 3 = .ok (.iconst 1, 1) := by decide +kernel
theorem dX0_lookAround_4 : decode cX0_lookAround 4 = .ok (.if_icmp .gt 141, 3) := by decide +kernel
theorem dX0_lookAround_7 : decode cX0_lookAround 7 = .ok (.iconst (-1), 1) := by decide +kernel
theorem dX0_lookAround_8 : decode cX0_lookAround 8 = .ok (.istore_n 3, 1) := by decide +kernel
theorem dX0_lookAround_9 : decode cX0_lookAround 9 = .ok (.iload_n 3, 1) := by decide +kernel
theorem dX0_lookAround_10 : decode cX0_lookAround 10 = .ok (.iconst 1, 1) := by decide +kernel
theorem dX0_lookAround_11 : decode cX0_lookAround 11 = .ok (.if_icmp .gt 128, 3) := by decide +kernel
theorem dX0_lookAround_14 : decode cX0_lookAround 14 = .ok (.aload_n 0, 1) := by decide +kernel
theorem dX0_lookAround_15 : decode cX0_lookAround 15 = .ok (.aload_n 0, 1) := by decide +kernel
theorem dX0_lookAround_16 : decode cX0_lookAround 16 = .ok (.getfield 24, 3) := by decide +kernel
theorem dX0_lookAround_19 : decode cX0_lookAround 19 = .ok (.iload_n 1, 1) := by decide +kernel
theorem dX0_lookAround_20 : decode cX0_lookAround 20 = .ok (.iaload, 1) := by decide +kernel
theorem dX0_lookAround_21 : decode cX0_lookAround 21 = .ok (.iload_n 2, 1) := by decide +kernel
theorem dX0_lookAround_22 : decode cX0_lookAround 22 = .ok (.iadd, 1) := by decide +kernel
theorem dX0_lookAround_23 : decode cX0_lookAround 23 = .ok (.aload_n 0, 1) := by decide +kernel
theorem dX0_lookAround_24 : decode cX0_lookAround 24 = .ok (.getfield 28, 3) := by decide +kernel
theorem dX0_lookAround_27 : decode cX0_lookAround 27 = .ok (.iload_n 1, 1) := by decide +kernel
theorem dX0_lookAround_28 : decode cX0_lookAround 28 = .ok (.iaload, 1) := by decide +kernel
theorem dX0_lookAround_29 : decode cX0_lookAround 29 = .ok (.iload_n 3, 1) := by decide +kernel
theorem dX0_lookAround_30 : decode cX0_lookAround 30 = .ok (.iadd, 1) := by decide +kernel
theorem dX0_lookAround_31 : decode cX0_lookAround 31 = .ok (.invokevirtual 46, 3) := by decide +kernel
theorem dX0_lookAround_34 : decode cX0_lookAround 34 = .ok (.istore 4, 2) := by decide +kernel
theorem dX0_lookAround_36 : decode cX0_lookAround 36 = .ok (.iload 4, 2) := by decide +kernel
theorem dX0_lookAround_38 : decode cX0_lookAround 38 = .ok (.iconst (-1), 1) := by decide +kernel
theorem dX0_lookAround_39 : decode cX0_lookAround 39 = .ok (.if_icmp .eq 94, 3) := by decide +kernel
theorem dX0_lookAround_42 : decode cX0_lookAround 42 = .ok (.iload 4, 2) := by decide +kernel
theorem dX0_lookAround_44 : decode cX0_lookAround 44 = .ok (.iload_n 1, 1) := by decide +kernel
theorem dX0_lookAround_45 : decode cX0_lookAround 45 = .ok (.if_icmp .ne 6, 3) := by decide +kernel
theorem dX0_lookAround_48 : decode cX0_lookAround 48 = .ok (.goto 85, 3) := by decide +kernel
theorem dX0_lookAround_51 : decode cX0_lookAround 51 = .ok (.aload_n 0, 1) := by decide +kernel
theorem dX0_lookAround_52 : decode cX0_lookAround 52 = .ok (.getfield 31, 3) := by decide +kernel
theorem dX0_lookAround_55 : decode cX0_lookAround 55 = .ok (.iload_n 1, 1) := by decide +kernel
theorem dX0_lookAround_56 : decode cX0_lookAround 56 = .ok (.dup2, 1) := by decide +kernel
theorem dX0_lookAround_57 : decode cX0_lookAround 57 = .ok (.laload, 1) := by decide +kernel
theorem dX0_lookAround_58 : decode cX0_lookAround 58 = .ok (.iload 4, 2) := by decide +kernel
theorem dX0_lookAround_60 : decode cX0_lookAround 60 = .ok (.invokestatic 62, 3) := by decide +kernel
theorem dX0_lookAround_63 : decode cX0_lookAround 63 = .ok (.lor, 1) := by decide +kernel
theorem dX0_lookAround_64 : decode cX0_lookAround 64 = .ok (.lastore, 1) := by decide +kernel
theorem dX0_lookAround_65 : decode cX0_lookAround 65 = .ok (.aload_n 0, 1) := by decide +kernel
theorem dX0_lookAround_66 : decode cX0_lookAround 66 = .ok (.iload_n 1, 1) := by decide +kernel
theorem dX0_lookAround_67 : decode cX0_lookAround 67 = .ok (.iload_n 2, 1) := by decide +kernel
theorem dX0_lookAround_68 : decode cX0_lookAround 68 = .ok (.iload_n 3, 1) := by decide +kernel
theorem dX0_lookAround_69 : decode cX0_lookAround 69 = .ok (.invokevirtual 66, 3) := by decide +kernel
theorem dX0_lookAround_72 : decode cX0_lookAround 72 = .ok (.lstore 5, 2) := by decide +kernel
theorem dX0_lookAround_74 : decode cX0_lookAround 74 = .ok (.aload_n 0, 1) := by decide +kernel
theorem dX0_lookAround_75 : decode cX0_lookAround 75 = .ok (.getfield 37, 3) := by decide +kernel
theorem dX0_lookAround_78 : decode cX0_lookAround 78 = .ok (.iconst 0, 1) := by decide +kernel
theorem dX0_lookAround_79 : decode cX0_lookAround 79 = .ok (.aaload, 1) := by decide +kernel
theorem dX0_lookAround_80 : decode cX0_lookAround 80 = .ok (.iload_n 1, 1) := by decide +kernel
theorem dX0_lookAround_81 : decode cX0_lookAround 81 = .ok (.dup2, 1) := by decide +kernel
theorem dX0_lookAround_82 : decode cX0_lookAround 82 = .ok (.laload, 1) := by decide +kernel
theorem dX0_lookAround_83 : decode cX0_lookAround 83 = .ok (.lload 5, 2) := by decide +kernel
theorem dX0_lookAround_85 : decode cX0_lookAround 85 = .ok (.lor, 1) := by decide +kernel
theorem dX0_lookAround_86 : decode cX0_lookAround 86 = .ok (.lastore, 1) := by decide +kernel
theorem dX0_lookAround_87 : decode cX0_lookAround 87 = .ok (.iload_n 2, 1) := by decide +kernel
theorem dX0_lookAround_88 : decode cX0_lookAround 88 = .ok (.ifCond .eq 7, 3) := by decide +kernel
theorem dX0_lookAround_91 : decode cX0_lookAround 91 = .ok (.iload_n 3, 1) := by decide +kernel
theorem dX0_lookAround_92 : decode cX0_lookAround 92 = .ok (.ifCond .ne 16, 3) := by decide +kernel
theorem dX0_lookAround_95 : decode cX0_lookAround 95 = .ok (.aload_n 0, 1) := by decide +kernel
theorem dX0_lookAround_96 : decode cX0_lookAround 96 = .ok (.getfield 37, 3) := by decide +kernel
theorem dX0_lookAround_99 : decode cX0_lookAround 99 = .ok (.iconst 1, 1) := by decide +kernel
theorem dX0_lookAround_100 : decode cX0_lookAround 100 = .ok (.aaload, 1) := by decide +kernel
theorem dX0_lookAround_101 : decode cX0_lookAround 101 = .ok (.iload_n 1, 1) := by decide +kernel
theorem dX0_lookAround_102 : decode cX0_lookAround 102 = .ok (.dup2, 1) := by decide +kernel
theorem dX0_lookAround_103 : decode cX0_lookAround 103 = .ok (.laload, 1) := by decide +kernel
theorem dX0_lookAround_104 : decode cX0_lookAround 104 = .ok (.lload 5, 2) := by decide +kernel
theorem dX0_lookAround_106 : decode cX0_lookAround 106 = .ok (.lor, 1) := by decide +kernel
theorem dX0_lookAround_107 : decode cX0_lookAround 107 = .ok (.lastore, 1) := by decide +kernel
theorem dX0_lookAround_108 : decode cX0_lookAround 108 = .ok (.iload_n 2, 1) := by decide +kernel
theorem dX0_lookAround_109 : decode cX0_lookAround 109 = .ok (.iconst 1, 1) := by decide +kernel
theorem dX0_lookAround_110 : decode cX0_lookAround 110 = .ok (.if_icmp .ne 23, 3) := by decide +kernel
theorem dX0_lookAround_113 : decode cX0_lookAround 113 = .ok (.iload_n 3, 1) := by decide +kernel
theorem dX0_lookAround_114 : decode cX0_lookAround 114 = .ok (.ifCond .eq 19, 3) := by decide +kernel
theorem dX0_lookAround_117 : decode cX0_lookAround 117 = .ok (.aload_n 0, 1) := by decide +kernel
theorem dX0_lookAround_118 : decode cX0_lookAround 118 = .ok (.getfield 37, 3) := by decide +kernel
theorem dX0_lookAround_121 : decode cX0_lookAround 121 = .ok (.iconst 2, 1) := by decide +kernel
theorem dX0_lookAround_122 : decode cX0_lookAround 122 = .ok (.aaload, 1) := by decide +kernel
theorem dX0_lookAround_123 : decode cX0_lookAround 123 = .ok (.iload_n 1, 1) := by decide +kernel
theorem dX0_lookAround_124 : decode cX0_lookAround 124 = .ok (.dup2, 1) := by decide +kernel
theorem dX0_lookAround_125 : decode cX0_lookAround 125 = .ok (.laload, 1) := by decide +kernel
theorem dX0_lookAround_126 : decode cX0_lookAround 126 = .ok (.iload 4, 2) := by decide +kernel
theorem dX0_lookAround_128 : decode cX0_lookAround 128 = .ok (.invokestatic 62, 3) := by decide +kernel
theorem dX0_lookAround_131 : decode cX0_lookAround 131 = .ok (.lor, 1) := by decide +kernel
theorem dX0_lookAround_132 : decode cX0_lookAround 132 = .ok (.lastore, 1) := by decide +kernel
theorem dX0_lookAround_133 : decode cX0_lookAround 133 = .ok (.iinc 3 1, 3) := by decide +kernel
theorem dX0_lookAround_136 : decode cX0_lookAround 136 = .ok (.goto (-127), 3) := by decide +kernel
theorem dX0_lookAround_139 : decode cX0_lookAround 139 = .ok (.iinc 2 1, 3) := by decide +kernel
theorem dX0_lookAround_142 : decode cX0_lookAround 142 = .ok (.goto (-140), 3) := by decide +kernel
theorem dX0_lookAround_145 : decode cX0_lookAround 145 = .ok (.return_, 1) := by decide +kernel
theorem dX0_lookAlong_0 : decode cX0_lookAlong 0 = .ok (.lconst 0, 1) := by decide +kernel
theorem dX0_lookAlong_1 : decode cX0_lookAlong 1 = .ok (.lstore 4, 2) := by decide +kernel
theorem dX0_lookAlong_3 : decode cX0_lookAlong 3 = .ok (.aload_n 0, 1) := by decide +kernel
theorem dX0_lookAlong_4 : decode cX0_lookAlong 4 = .ok (.getfield 17, 3) := by decide +kernel
theorem dX0_lookAlong_7 : decode cX0_lookAlong 7 = .ok (.iconst 1, 1) := by decide +kernel
theorem dX0_lookAlong_8 : decode cX0_lookAlong 8 = .ok (.isub, 1) := by decide +kernel
theorem dX0_lookAlong_9 : decode cX0_lookAlong 9 = .ok (.istore 6, 2) := by decide +kernel
theorem dX0_lookAlong_11 : decode cX0_lookAlong 11 = .ok (.iload 6, 2) := by decide +kernel
theorem dX0_lookAlong_13 : decode cX0_lookAlong 13 = .ok (.ifCond .le 69, 3) := by decide +kernel
theorem dX0_lookAlong_16 : decode cX0_lookAlong 16 = .ok (.aload_n 0, 1) := by decide +kernel
theorem dX0_lookAlong_17 : decode cX0_lookAlong 17 = .ok (.aload_n 0, 1) := by decide +kernel
theorem dX0_lookAlong_18 : decode cX0_lookAlong 18 = .ok (.getfield 24, 3) := by decide +kernel
theorem dX0_lookAlong_21 : decode cX0_lookAlong 21 = .ok (.iload_n 1, 1) := by decide +kernel
theorem dX0_lookAlong_22 : decode cX0_lookAlong 22 = .ok (.iaload, 1) := by decide +kernel
theorem dX0_lookAlong_23 : decode cX0_lookAlong 23 = .ok (.iload 6, 2) := by decide +kernel
theorem dX0_lookAlong_25 : decode cX0_lookAlong 25 = .ok (.iload_n 2, 1) := by decide +kernel
theorem dX0_lookAlong_26 : decode cX0_lookAlong 26 = .ok (.imul, 1) := by decide +kernel
theorem dX0_lookAlong_27 : decode cX0_lookAlong 27 = .ok (.iadd, 1) := by decide +kernel
theorem dX0_lookAlong_28 : decode cX0_lookAlong 28 = .ok (.aload_n 0, 1) := by decide +kernel
theorem dX0_lookAlong_29 : decode cX0_lookAlong 29 = .ok (.getfield 28, 3) := by decide +kernel
theorem dX0_lookAlong_32 : decode cX0_lookAlong 32 = .ok (.iload_n 1, 1) := by decide +kernel
theorem dX0_lookAlong_33 : decode cX0_lookAlong 33 = .ok (.iaload, 1) := by decide +kernel
theorem dX0_lookAlong_34 : decode cX0_lookAlong 34 = .ok (.iload 6, 2) := by decide +kernel
theorem dX0_lookAlong_36 : decode cX0_lookAlong 36 = .ok (.iload_n 3, 1) := by decide +kernel
theorem dX0_lookAlong_37 : decode cX0_lookAlong 37 = .ok (.imul, 1) := by decide +kernel
theorem dX0_lookAlong_38 : decode cX0_lookAlong 38 = .ok (.iadd, 1) := by decide +kernel
theorem dX0_lookAlong_39 : decode cX0_lookAlong 39 = .ok (.invokevirtual 46, 3) := by decide +kernel
theorem dX0_lookAlong_42 : decode cX0_lookAlong 42 = .ok (.istore 7, 2) := by decide +kernel
theorem dX0_lookAlong_44 : decode cX0_lookAlong 44 = .ok (.iload 7, 2) := by decide +kernel
theorem dX0_lookAlong_46 : decode cX0_lookAlong 46 = .ok (.iconst (-1), 1) := by decide +kernel
theorem dX0_lookAlong_47 : decode cX0_lookAlong 47 = .ok (.if_icmp .eq 29, 3) := by decide +kernel
theorem dX0_lookAlong_50 : decode cX0_lookAlong 50 = .ok (.aload_n 0, 1) := by decide +kernel
theorem dX0_lookAlong_51 : decode cX0_lookAlong 51 = .ok (.getfield 40, 3) := by decide +kernel
theorem dX0_lookAlong_54 : decode cX0_lookAlong 54 = .ok (.iload_n 1, 1) := by decide +kernel
theorem dX0_lookAlong_55 : decode cX0_lookAlong 55 = .ok (.aload_n 0, 1) := by decide +kernel
theorem dX0_lookAlong_56 : decode cX0_lookAlong 56 = .ok (.getfield 21, 3) := by decide +kernel
theorem dX0_lookAlong_59 : decode cX0_lookAlong 59 = .ok (.imul, 1) := by decide +kernel
theorem dX0_lookAlong_60 : decode cX0_lookAlong 60 = .ok (.iload 7, 2) := by decide +kernel
theorem dX0_lookAlong_62 : decode cX0_lookAlong 62 = .ok (.iadd, 1) := by decide +kernel
theorem dX0_lookAlong_63 : decode cX0_lookAlong 63 = .ok (.lload 4, 2) := by decide +kernel
theorem dX0_lookAlong_65 : decode cX0_lookAlong 65 = .ok (.lastore, 1) := by decide +kernel
theorem dX0_lookAlong_66 : decode cX0_lookAlong 66 = .ok (.lload 4, 2) := by decide +kernel
theorem dX0_lookAlong_68 : decode cX0_lookAlong 68 = .ok (.iload 7, 2) := by decide +kernel
theorem dX0_lookAlong_70 : decode cX0_lookAlong 70 = .ok (.invokestatic 62, 3) := by decide +kernel
theorem dX0_lookAlong_73 : decode cX0_lookAlong 73 = .ok (.lor, 1) := by decide +kernel
theorem dX0_lookAlong_74 : decode cX0_lookAlong 74 = .ok (.lstore 4, 2) := by decide +kernel
theorem dX0_lookAlong_76 : decode cX0_lookAlong 76 = .ok (.iinc 6 (-1), 3) := by decide +kernel
theorem dX0_lookAlong_79 : decode cX0_lookAlong 79 = .ok (.goto (-68), 3) := by decide +kernel
theorem dX0_lookAlong_82 : decode cX0_lookAlong 82 = .ok (.lload 4, 2) := by decide +kernel
theorem dX0_lookAlong_84 : decode cX0_lookAlong 84 = .ok (.lreturn, 1) := by decide +kernel
theorem dX0_imageOf_0 : decode cX0_imageOf 0 = .ok (.iload_n 1, 1) := by decide +kernel
theorem dX0_imageOf_1 : decode cX0_imageOf 1 = .ok (.iconst 4, 1) := by decide +kernel
theorem dX0_imageOf_2 : decode cX0_imageOf 2 = .ok (.iand, 1) := by decide +kernel
theorem dX0_imageOf_3 : decode cX0_imageOf 3 = .ok (.ifCond .eq 7, 3) := by decide +kernel
theorem dX0_imageOf_6 : decode cX0_imageOf 6 = .ok (.iconst 1, 1) := by decide +kernel
theorem dX0_imageOf_7 : decode cX0_imageOf 7 = .ok (.goto 4, 3) := by decide +kernel
theorem dX0_imageOf_10 : decode cX0_imageOf 10 = .ok (.iconst 0, 1) := by decide +kernel
theorem dX0_imageOf_11 : decode cX0_imageOf 11 = .ok (.istore 4, 2) := by decide +kernel
theorem dX0_imageOf_13 : decode cX0_imageOf 13 = .ok (.iload 4, 2) := by decide +kernel
theorem dX0_imageOf_15 : decode cX0_imageOf 15 = .ok (.ifCond .eq 7, 3) := by decide +kernel
theorem dX0_imageOf_18 : decode cX0_imageOf 18 = .ok (.iload_n 3, 1) := by decide +kernel
theorem dX0_imageOf_19 : decode cX0_imageOf 19 = .ok (.goto 4, 3) := by decide +kernel
theorem dX0_imageOf_22 : decode cX0_imageOf 22 = .ok (.iload_n 2, 1) := by decide +kernel
theorem dX0_imageOf_23 : decode cX0_imageOf 23 = .ok (.istore 5, 2) := by decide +kernel
theorem dX0_imageOf_25 : decode cX0_imageOf 25 = .ok (.iload 4, 2) := by decide +kernel
theorem dX0_imageOf_27 : decode cX0_imageOf 27 = .ok (.ifCond .eq 7, 3) := by decide +kernel
theorem dX0_imageOf_30 : decode cX0_imageOf 30 = .ok (.iload_n 2, 1) := by decide +kernel
theorem dX0_imageOf_31 : decode cX0_imageOf 31 = .ok (.goto 4, 3) := by decide +kernel
theorem dX0_imageOf_34 : decode cX0_imageOf 34 = .ok (.iload_n 3, 1) := by decide +kernel
theorem dX0_imageOf_35 : decode cX0_imageOf 35 = .ok (.istore 6, 2) := by decide +kernel
theorem dX0_imageOf_37 : decode cX0_imageOf 37 = .ok (.aload_n 0, 1) := by decide +kernel
theorem dX0_imageOf_38 : decode cX0_imageOf 38 = .ok (.iload_n 1, 1) := by decide +kernel
theorem dX0_imageOf_39 : decode cX0_imageOf 39 = .ok (.iconst 2, 1) := by decide +kernel
theorem dX0_imageOf_40 : decode cX0_imageOf 40 = .ok (.iand, 1) := by decide +kernel
theorem dX0_imageOf_41 : decode cX0_imageOf 41 = .ok (.ifCond .eq 15, 3) := by decide +kernel
theorem dX0_imageOf_44 : decode cX0_imageOf 44 = .ok (.aload_n 0, 1) := by decide +kernel
theorem dX0_imageOf_45 : decode cX0_imageOf 45 = .ok (.getfield 17, 3) := by decide +kernel
theorem dX0_imageOf_48 : decode cX0_imageOf 48 = .ok (.iconst 1, 1) := by decide +kernel
theorem dX0_imageOf_49 : decode cX0_imageOf 49 = .ok (.isub, 1) := by decide +kernel
theorem dX0_imageOf_50 : decode cX0_imageOf 50 = .ok (.iload 5, 2) := by decide +kernel
theorem dX0_imageOf_52 : decode cX0_imageOf 52 = .ok (.isub, 1) := by decide +kernel
theorem dX0_imageOf_53 : decode cX0_imageOf 53 = .ok (.goto 5, 3) := by decide +kernel
theorem dX0_imageOf_56 : decode cX0_imageOf 56 = .ok (.iload 5, 2) := by decide +kernel
theorem dX0_imageOf_58 : decode cX0_imageOf 58 = .ok (.iload_n 1, 1) := by decide +kernel
theorem dX0_imageOf_59 : decode cX0_imageOf 59 = .ok (.iconst 1, 1) := by decide +kernel
theorem dX0_imageOf_60 : decode cX0_imageOf 60 = .ok (.iand, 1) := by decide +kernel
theorem dX0_imageOf_61 : decode cX0_imageOf 61 = .ok (.ifCond .eq 15, 3) := by decide +kernel
theorem dX0_imageOf_64 : decode cX0_imageOf 64 = .ok (.aload_n 0, 1) := by decide +kernel
theorem dX0_imageOf_65 : decode cX0_imageOf 65 = .ok (.getfield 17, 3) := by decide +kernel
theorem dX0_imageOf_68 : decode cX0_imageOf 68 = .ok (.iconst 1, 1) := by decide +kernel
theorem dX0_imageOf_69 : decode cX0_imageOf 69 = .ok (.isub, 1) := by decide +kernel
theorem dX0_imageOf_70 : decode cX0_imageOf 70 = .ok (.iload 6, 2) := by decide +kernel
theorem dX0_imageOf_72 : decode cX0_imageOf 72 = .ok (.isub, 1) := by decide +kernel
theorem dX0_imageOf_73 : decode cX0_imageOf 73 = .ok (.goto 5, 3) := by decide +kernel
theorem dX0_imageOf_76 : decode cX0_imageOf 76 = .ok (.iload 6, 2) := by decide +kernel
theorem dX0_imageOf_78 : decode cX0_imageOf 78 = .ok (.invokevirtual 46, 3) := by decide +kernel
theorem dX0_imageOf_81 : decode cX0_imageOf 81 = .ok (.ireturn, 1) := by decide +kernel
theorem dX0_squareAt_0 : decode cX0_squareAt 0 = .ok (.iload_n 1, 1) := by decide +kernel
theorem dX0_squareAt_1 : decode cX0_squareAt 1 = .ok (.ifCond .lt 23, 3) := by decide +kernel
theorem dX0_squareAt_4 : decode cX0_squareAt 4 = .ok (.iload_n 1, 1) := by decide +kernel
theorem dX0_squareAt_5 : decode cX0_squareAt 5 = .ok (.aload_n 0, 1) := by decide +kernel
theorem dX0_squareAt_6 : decode cX0_squareAt 6 = .ok (.getfield 17, 3) := by decide +kernel
theorem dX0_squareAt_9 : decode cX0_squareAt 9 = .ok (.if_icmp .ge 15, 3) := by decide +kernel
theorem dX0_squareAt_12 : decode cX0_squareAt 12 = .ok (.iload_n 2, 1) := by decide +kernel
theorem dX0_squareAt_13 : decode cX0_squareAt 13 = .ok (.ifCond .lt 11, 3) := by decide +kernel
theorem dX0_squareAt_16 : decode cX0_squareAt 16 = .ok (.iload_n 2, 1) := by decide +kernel
theorem dX0_squareAt_17 : decode cX0_squareAt 17 = .ok (.aload_n 0, 1) := by decide +kernel
theorem dX0_squareAt_18 : decode cX0_squareAt 18 = .ok (.getfield 17, 3) := by decide +kernel
theorem dX0_squareAt_21 : decode cX0_squareAt 21 = .ok (.if_icmp .lt 7, 3) := by decide +kernel
theorem dX0_squareAt_24 : decode cX0_squareAt 24 = .ok (.iconst (-1), 1) := by decide +kernel
theorem dX0_squareAt_25 : decode cX0_squareAt 25 = .ok (.goto 11, 3) := by decide +kernel
theorem dX0_squareAt_28 : decode cX0_squareAt 28 = .ok (.aload_n 0, 1) := by decide +kernel
theorem dX0_squareAt_29 : decode cX0_squareAt 29 = .ok (.getfield 17, 3) := by decide +kernel
theorem dX0_squareAt_32 : decode cX0_squareAt 32 = .ok (.iload_n 1, 1) := by decide +kernel
theorem dX0_squareAt_33 : decode cX0_squareAt 33 = .ok (.imul, 1) := by decide +kernel
theorem dX0_squareAt_34 : decode cX0_squareAt 34 = .ok (.iload_n 2, 1) := by decide +kernel
theorem dX0_squareAt_35 : decode cX0_squareAt 35 = .ok (.iadd, 1) := by decide +kernel
theorem dX0_squareAt_36 : decode cX0_squareAt 36 = .ok (.ireturn, 1) := by decide +kernel
theorem dX0_isLastRank_0 : decode cX0_isLastRank 0 = .ok (.iload_n 1, 1) := by decide +kernel
theorem dX0_isLastRank_1 : decode cX0_isLastRank 1 = .ok (.aload_n 0, 1) := by decide +kernel
theorem dX0_isLastRank_2 : decode cX0_isLastRank 2 = .ok (.getfield 21, 3) := by decide +kernel
theorem dX0_isLastRank_5 : decode cX0_isLastRank 5 = .ok (.aload_n 0, 1) := by decide +kernel
theorem dX0_isLastRank_6 : decode cX0_isLastRank 6 = .ok (.getfield 17, 3) := by decide +kernel
theorem dX0_isLastRank_9 : decode cX0_isLastRank 9 = .ok (.isub, 1) := by decide +kernel
theorem dX0_isLastRank_10 : decode cX0_isLastRank 10 = .ok (.if_icmp .lt 7, 3) := by decide +kernel
theorem dX0_isLastRank_13 : decode cX0_isLastRank 13 = .ok (.iconst 1, 1) := by decide +kernel
theorem dX0_isLastRank_14 : decode cX0_isLastRank 14 = .ok (.goto 4, 3) := by decide +kernel
theorem dX0_isLastRank_17 : decode cX0_isLastRank 17 = .ok (.iconst 0, 1) := by decide +kernel
theorem dX0_isLastRank_18 : decode cX0_isLastRank 18 = .ok (.ireturn, 1) := by decide +kernel
theorem dX0_areNext_0 : decode cX0_areNext 0 = .ok (.aload_n 0, 1) := by decide +kernel
theorem dX0_areNext_1 : decode cX0_areNext 1 = .ok (.getfield 31, 3) := by decide +kernel
theorem dX0_areNext_4 : decode cX0_areNext 4 = .ok (.iload_n 1, 1) := by decide +kernel
theorem dX0_areNext_5 : decode cX0_areNext 5 = .ok (.laload, 1) := by decide +kernel
theorem dX0_areNext_6 : decode cX0_areNext 6 = .ok (.iload_n 2, 1) := by decide +kernel
theorem dX0_areNext_7 : decode cX0_areNext 7 = .ok (.invokestatic 70, 3) := by decide +kernel
theorem dX0_areNext_10 : decode cX0_areNext 10 = .ok (.ireturn, 1) := by decide +kernel
theorem dX0_holds_0 : decode cX0_holds 0 = .ok (.iload_n 1, 1) := by decide +kernel
theorem dX0_holds_1 : decode cX0_holds 1 = .ok (.ifCond .lt 15, 3) := by decide +kernel
theorem dX0_holds_4 : decode cX0_holds 4 = .ok (.iload_n 1, 1) := by decide +kernel
theorem dX0_holds_5 : decode cX0_holds 5 = .ok (.aload_n 0, 1) := by decide +kernel
theorem dX0_holds_6 : decode cX0_holds 6 = .ok (.getfield 21, 3) := by decide +kernel
theorem dX0_holds_9 : decode cX0_holds 9 = .ok (.if_icmp .ge 7, 3) := by decide +kernel
theorem dX0_holds_12 : decode cX0_holds 12 = .ok (.iconst 1, 1) := by decide +kernel
theorem dX0_holds_13 : decode cX0_holds 13 = .ok (.goto 4, 3) := by decide +kernel
theorem dX0_holds_16 : decode cX0_holds 16 = .ok (.iconst 0, 1) := by decide +kernel
theorem dX0_holds_17 : decode cX0_holds 17 = .ok (.ireturn, 1) := by decide +kernel
theorem dX0_allows_0 : decode cX0_allows 0 = .ok (.iload_n 1, 1) := by decide +kernel
theorem dX0_allows_1 : decode cX0_allows 1 = .ok (.ifCond .lt 19, 3) := by decide +kernel
theorem dX0_allows_4 : decode cX0_allows 4 = .ok (.iload_n 1, 1) := by decide +kernel
theorem dX0_allows_5 : decode cX0_allows 5 = .ok (.iconst 2, 1) := by decide +kernel
theorem dX0_allows_6 : decode cX0_allows 6 = .ok (.if_icmp .gt 14, 3) := by decide +kernel
theorem dX0_allows_9 : decode cX0_allows 9 = .ok (.iload 5, 2) := by decide +kernel
theorem dX0_allows_11 : decode cX0_allows 11 = .ok (.ifCond .lt 9, 3) := by decide +kernel
theorem dX0_allows_14 : decode cX0_allows 14 = .ok (.iload 5, 2) := by decide +kernel
theorem dX0_allows_16 : decode cX0_allows 16 = .ok (.iconst 1, 1) := by decide +kernel
theorem dX0_allows_17 : decode cX0_allows 17 = .ok (.if_icmp .le 5, 3) := by decide +kernel
theorem dX0_allows_20 : decode cX0_allows 20 = .ok (.iconst 0, 1) := by decide +kernel
theorem dX0_allows_21 : decode cX0_allows 21 = .ok (.ireturn, 1) := by decide +kernel
theorem dX0_allows_22 : decode cX0_allows 22 = .ok (.aload_n 0, 1) := by decide +kernel
theorem dX0_allows_23 : decode cX0_allows 23 = .ok (.iload_n 2, 1) := by decide +kernel
theorem dX0_allows_24 : decode cX0_allows 24 = .ok (.invokevirtual 74, 3) := by decide +kernel
theorem dX0_allows_27 : decode cX0_allows 27 = .ok (.ifCond .eq 20, 3) := by decide +kernel
theorem dX0_allows_30 : decode cX0_allows 30 = .ok (.aload_n 0, 1) := by decide +kernel
theorem dX0_allows_31 : decode cX0_allows 31 = .ok (.iload_n 3, 1) := by decide +kernel
theorem dX0_allows_32 : decode cX0_allows 32 = .ok (.invokevirtual 74, 3) := by decide +kernel
theorem dX0_allows_35 : decode cX0_allows 35 = .ok (.ifCond .eq 12, 3) := by decide +kernel
theorem dX0_allows_38 : decode cX0_allows 38 = .ok (.aload_n 0, 1) := by decide +kernel
theorem dX0_allows_39 : decode cX0_allows 39 = .ok (.iload 4, 2) := by decide +kernel
theorem dX0_allows_41 : decode cX0_allows 41 = .ok (.invokevirtual 74, 3) := by decide +kernel
theorem dX0_allows_44 : decode cX0_allows 44 = .ok (.ifCond .ne 5, 3) := by decide +kernel
theorem dX0_allows_47 : decode cX0_allows 47 = .ok (.iconst 0, 1) := by decide +kernel
theorem dX0_allows_48 : decode cX0_allows 48 = .ok (.ireturn, 1) := by decide +kernel
theorem dX0_allows_49 : decode cX0_allows 49 = .ok (.iload_n 2, 1) := by decide +kernel
theorem dX0_allows_50 : decode cX0_allows 50 = .ok (.iload_n 3, 1) := by decide +kernel
theorem dX0_allows_51 : decode cX0_allows 51 = .ok (.if_icmp .eq 24, 3) := by decide +kernel
theorem dX0_allows_54 : decode cX0_allows 54 = .ok (.iload_n 2, 1) := by decide +kernel
theorem dX0_allows_55 : decode cX0_allows 55 = .ok (.iload 4, 2) := by decide +kernel
theorem dX0_allows_57 : decode cX0_allows 57 = .ok (.if_icmp .eq 18, 3) := by decide +kernel
theorem dX0_allows_60 : decode cX0_allows 60 = .ok (.iload_n 3, 1) := by decide +kernel
theorem dX0_allows_61 : decode cX0_allows 61 = .ok (.iload 4, 2) := by decide +kernel
theorem dX0_allows_63 : decode cX0_allows 63 = .ok (.if_icmp .eq 12, 3) := by decide +kernel
theorem dX0_allows_66 : decode cX0_allows 66 = .ok (.aload_n 0, 1) := by decide +kernel
theorem dX0_allows_67 : decode cX0_allows 67 = .ok (.iload_n 2, 1) := by decide +kernel
theorem dX0_allows_68 : decode cX0_allows 68 = .ok (.iload_n 3, 1) := by decide +kernel
theorem dX0_allows_69 : decode cX0_allows 69 = .ok (.invokevirtual 78, 3) := by decide +kernel
theorem dX0_allows_72 : decode cX0_allows 72 = .ok (.ifCond .eq 5, 3) := by decide +kernel
theorem dX0_allows_75 : decode cX0_allows 75 = .ok (.iconst 0, 1) := by decide +kernel
theorem dX0_allows_76 : decode cX0_allows 76 = .ok (.ireturn, 1) := by decide +kernel
theorem dX0_allows_77 : decode cX0_allows 77 = .ok (.iload_n 1, 1) := by decide +kernel
theorem dX0_allows_78 : decode cX0_allows 78 = .ok (.iconst 2, 1) := by decide +kernel
theorem dX0_allows_79 : decode cX0_allows 79 = .ok (.if_icmp .ne 23, 3) := by decide +kernel
theorem dX0_allows_82 : decode cX0_allows 82 = .ok (.iload 4, 2) := by decide +kernel
theorem dX0_allows_84 : decode cX0_allows 84 = .ok (.aload_n 0, 1) := by decide +kernel
theorem dX0_allows_85 : decode cX0_allows 85 = .ok (.getfield 17, 3) := by decide +kernel
theorem dX0_allows_88 : decode cX0_allows 88 = .ok (.if_icmp .lt 12, 3) := by decide +kernel
theorem dX0_allows_91 : decode cX0_allows 91 = .ok (.aload_n 0, 1) := by decide +kernel
theorem dX0_allows_92 : decode cX0_allows 92 = .ok (.iload 4, 2) := by decide +kernel
theorem dX0_allows_94 : decode cX0_allows 94 = .ok (.invokevirtual 82, 3) := by decide +kernel
theorem dX0_allows_97 : decode cX0_allows 97 = .ok (.ifCond .eq 5, 3) := by decide +kernel
theorem dX0_allows_100 : decode cX0_allows 100 = .ok (.iconst 0, 1) := by decide +kernel
theorem dX0_allows_101 : decode cX0_allows 101 = .ok (.ireturn, 1) := by decide +kernel
theorem dX0_allows_102 : decode cX0_allows 102 = .ok (.iload 5, 2) := by decide +kernel
theorem dX0_allows_104 : decode cX0_allows 104 = .ok (.iconst 1, 1) := by decide +kernel
theorem dX0_allows_105 : decode cX0_allows 105 = .ok (.if_icmp .eq 15, 3) := by decide +kernel
theorem dX0_allows_108 : decode cX0_allows 108 = .ok (.aload_n 0, 1) := by decide +kernel
theorem dX0_allows_109 : decode cX0_allows 109 = .ok (.iload_n 1, 1) := by decide +kernel
theorem dX0_allows_110 : decode cX0_allows 110 = .ok (.iload_n 2, 1) := by decide +kernel
theorem dX0_allows_111 : decode cX0_allows 111 = .ok (.iload_n 3, 1) := by decide +kernel
theorem dX0_allows_112 : decode cX0_allows 112 = .ok (.iload 4, 2) := by decide +kernel
theorem dX0_allows_114 : decode cX0_allows 114 = .ok (.invokevirtual 85, 3) := by decide +kernel
theorem dX0_allows_117 : decode cX0_allows 117 = .ok (.ifCond .ne 7, 3) := by decide +kernel
theorem dX0_allows_120 : decode cX0_allows 120 = .ok (.iconst 1, 1) := by decide +kernel
theorem dX0_allows_121 : decode cX0_allows 121 = .ok (.goto 4, 3) := by decide +kernel
theorem dX0_allows_124 : decode cX0_allows 124 = .ok (.iconst 0, 1) := by decide +kernel
theorem dX0_allows_125 : decode cX0_allows 125 = .ok (.ireturn, 1) := by decide +kernel
theorem dX0_attacks_0 : decode cX0_attacks 0 = .ok (.aload_n 0, 1) := by decide +kernel
theorem dX0_attacks_1 : decode cX0_attacks 1 = .ok (.iload_n 1, 1) := by decide +kernel
theorem dX0_attacks_2 : decode cX0_attacks 2 = .ok (.iload_n 2, 1) := by decide +kernel
theorem dX0_attacks_3 : decode cX0_attacks 3 = .ok (.iload 4, 2) := by decide +kernel
theorem dX0_attacks_5 : decode cX0_attacks 5 = .ok (.invokevirtual 89, 3) := by decide +kernel
theorem dX0_attacks_8 : decode cX0_attacks 8 = .ok (.iload_n 3, 1) := by decide +kernel
theorem dX0_attacks_9 : decode cX0_attacks 9 = .ok (.invokestatic 70, 3) := by decide +kernel
theorem dX0_attacks_12 : decode cX0_attacks 12 = .ok (.ireturn, 1) := by decide +kernel
theorem dX0_sight_0 : decode cX0_sight 0 = .ok (.aload_n 0, 1) := by decide +kernel
theorem dX0_sight_1 : decode cX0_sight 1 = .ok (.getfield 37, 3) := by decide +kernel
theorem dX0_sight_4 : decode cX0_sight 4 = .ok (.iload_n 1, 1) := by decide +kernel
theorem dX0_sight_5 : decode cX0_sight 5 = .ok (.aaload, 1) := by decide +kernel
theorem dX0_sight_6 : decode cX0_sight 6 = .ok (.iload_n 3, 1) := by decide +kernel
theorem dX0_sight_7 : decode cX0_sight 7 = .ok (.laload, 1) := by decide +kernel
theorem dX0_sight_8 : decode cX0_sight 8 = .ok (.aload_n 0, 1) := by decide +kernel
theorem dX0_sight_9 : decode cX0_sight 9 = .ok (.getfield 40, 3) := by decide +kernel
theorem dX0_sight_12 : decode cX0_sight 12 = .ok (.iload_n 3, 1) := by decide +kernel
theorem dX0_sight_13 : decode cX0_sight 13 = .ok (.aload_n 0, 1) := by decide +kernel
theorem dX0_sight_14 : decode cX0_sight 14 = .ok (.getfield 21, 3) := by decide +kernel
theorem dX0_sight_17 : decode cX0_sight 17 = .ok (.imul, 1) := by decide +kernel
theorem dX0_sight_18 : decode cX0_sight 18 = .ok (.iload_n 2, 1) := by decide +kernel
theorem dX0_sight_19 : decode cX0_sight 19 = .ok (.iadd, 1) := by decide +kernel
theorem dX0_sight_20 : decode cX0_sight 20 = .ok (.laload, 1) := by decide +kernel
theorem dX0_sight_21 : decode cX0_sight 21 = .ok (.ldc2_w 92, 3) := by decide +kernel
theorem dX0_sight_24 : decode cX0_sight 24 = .ok (.lxor, 1) := by decide +kernel
theorem dX0_sight_25 : decode cX0_sight 25 = .ok (.land, 1) := by decide +kernel
theorem dX0_sight_26 : decode cX0_sight 26 = .ok (.lreturn, 1) := by decide +kernel
theorem dX0_whiteTargets_0 : decode cX0_whiteTargets 0 = .ok (.aload_n 0, 1) := by decide +kernel
theorem dX0_whiteTargets_1 : decode cX0_whiteTargets 1 = .ok (.getfield 31, 3) := by decide +kernel
theorem dX0_whiteTargets_4 : decode cX0_whiteTargets 4 = .ok (.iload_n 1, 1) := by decide +kernel
theorem dX0_whiteTargets_5 : decode cX0_whiteTargets 5 = .ok (.laload, 1) := by decide +kernel
theorem dX0_whiteTargets_6 : decode cX0_whiteTargets 6 = .ok (.aload_n 0, 1) := by decide +kernel
theorem dX0_whiteTargets_7 : decode cX0_whiteTargets 7 = .ok (.getfield 31, 3) := by decide +kernel
theorem dX0_whiteTargets_10 : decode cX0_whiteTargets 10 = .ok (.iload_n 2, 1) := by decide +kernel
theorem dX0_whiteTargets_11 : decode cX0_whiteTargets 11 = .ok (.laload, 1) := by decide +kernel
theorem dX0_whiteTargets_12 : decode cX0_whiteTargets 12 = .ok (.ldc2_w 92, 3) := by decide +kernel
theorem dX0_whiteTargets_15 : decode cX0_whiteTargets 15 = .ok (.lxor, 1) := by decide +kernel
theorem dX0_whiteTargets_16 : decode cX0_whiteTargets 16 = .ok (.land, 1) := by decide +kernel
theorem dX0_whiteTargets_17 : decode cX0_whiteTargets 17 = .ok (.iload_n 2, 1) := by decide +kernel
theorem dX0_whiteTargets_18 : decode cX0_whiteTargets 18 = .ok (.invokestatic 62, 3) := by decide +kernel
theorem dX0_whiteTargets_21 : decode cX0_whiteTargets 21 = .ok (.ldc2_w 92, 3) := by decide +kernel
theorem dX0_whiteTargets_24 : decode cX0_whiteTargets 24 = .ok (.lxor, 1) := by decide +kernel
theorem dX0_whiteTargets_25 : decode cX0_whiteTargets 25 = .ok (.land, 1) := by decide +kernel
theorem dX0_whiteTargets_26 : decode cX0_whiteTargets 26 = .ok (.iload_n 3, 1) := by decide +kernel
theorem dX0_whiteTargets_27 : decode cX0_whiteTargets 27 = .ok (.invokestatic 62, 3) := by decide +kernel
theorem dX0_whiteTargets_30 : decode cX0_whiteTargets 30 = .ok (.ldc2_w 92, 3) := by decide +kernel
theorem dX0_whiteTargets_33 : decode cX0_whiteTargets 33 = .ok (.lxor, 1) := by decide +kernel
theorem dX0_whiteTargets_34 : decode cX0_whiteTargets 34 = .ok (.land, 1) := by decide +kernel
theorem dX0_whiteTargets_35 : decode cX0_whiteTargets 35 = .ok (.lreturn, 1) := by decide +kernel
theorem dX0_blackTargets_0 : decode cX0_blackTargets 0 = .ok (.aload_n 0, 1) := by decide +kernel
theorem dX0_blackTargets_1 : decode cX0_blackTargets 1 = .ok (.getfield 31, 3) := by decide +kernel
theorem dX0_blackTargets_4 : decode cX0_blackTargets 4 = .ok (.iload_n 3, 1) := by decide +kernel
theorem dX0_blackTargets_5 : decode cX0_blackTargets 5 = .ok (.laload, 1) := by decide +kernel
theorem dX0_blackTargets_6 : decode cX0_blackTargets 6 = .ok (.aload_n 0, 1) := by decide +kernel
theorem dX0_blackTargets_7 : decode cX0_blackTargets 7 = .ok (.getfield 31, 3) := by decide +kernel
theorem dX0_blackTargets_10 : decode cX0_blackTargets 10 = .ok (.iload_n 2, 1) := by decide +kernel
theorem dX0_blackTargets_11 : decode cX0_blackTargets 11 = .ok (.laload, 1) := by decide +kernel
theorem dX0_blackTargets_12 : decode cX0_blackTargets 12 = .ok (.ldc2_w 92, 3) := by decide +kernel
theorem dX0_blackTargets_15 : decode cX0_blackTargets 15 = .ok (.lxor, 1) := by decide +kernel
theorem dX0_blackTargets_16 : decode cX0_blackTargets 16 = .ok (.land, 1) := by decide +kernel
theorem dX0_blackTargets_17 : decode cX0_blackTargets 17 = .ok (.aload_n 0, 1) := by decide +kernel
theorem dX0_blackTargets_18 : decode cX0_blackTargets 18 = .ok (.iload_n 1, 1) := by decide +kernel
theorem dX0_blackTargets_19 : decode cX0_blackTargets 19 = .ok (.iload_n 2, 1) := by decide +kernel
theorem dX0_blackTargets_20 : decode cX0_blackTargets 20 = .ok (.iload 4, 2) := by decide +kernel
theorem dX0_blackTargets_22 : decode cX0_blackTargets 22 = .ok (.invokevirtual 89, 3) := by decide +kernel
theorem dX0_blackTargets_25 : decode cX0_blackTargets 25 = .ok (.ldc2_w 92, 3) := by decide +kernel
theorem dX0_blackTargets_28 : decode cX0_blackTargets 28 = .ok (.lxor, 1) := by decide +kernel
theorem dX0_blackTargets_29 : decode cX0_blackTargets 29 = .ok (.land, 1) := by decide +kernel
theorem dX0_blackTargets_30 : decode cX0_blackTargets 30 = .ok (.lreturn, 1) := by decide +kernel
theorem dX0_manTargets_0 : decode cX0_manTargets 0 = .ok (.iload_n 1, 1) := by decide +kernel
theorem dX0_manTargets_1 : decode cX0_manTargets 1 = .ok (.iconst 2, 1) := by decide +kernel
theorem dX0_manTargets_2 : decode cX0_manTargets 2 = .ok (.if_icmp .ne 14, 3) := by decide +kernel
theorem dX0_manTargets_5 : decode cX0_manTargets 5 = .ok (.aload_n 0, 1) := by decide +kernel
theorem dX0_manTargets_6 : decode cX0_manTargets 6 = .ok (.iload_n 2, 1) := by decide +kernel
theorem dX0_manTargets_7 : decode cX0_manTargets 7 = .ok (.iload_n 3, 1) := by decide +kernel
theorem dX0_manTargets_8 : decode cX0_manTargets 8 = .ok (.iload 4, 2) := by decide +kernel
theorem dX0_manTargets_10 : decode cX0_manTargets 10 = .ok (.invokevirtual 94, 3) := by decide +kernel
theorem dX0_manTargets_13 : decode cX0_manTargets 13 = .ok (.goto 12, 3) := by decide +kernel
theorem dX0_manTargets_16 : decode cX0_manTargets 16 = .ok (.aload_n 0, 1) := by decide +kernel
theorem dX0_manTargets_17 : decode cX0_manTargets 17 = .ok (.iload_n 1, 1) := by decide +kernel
theorem dX0_manTargets_18 : decode cX0_manTargets 18 = .ok (.iload_n 2, 1) := by decide +kernel
theorem dX0_manTargets_19 : decode cX0_manTargets 19 = .ok (.iload_n 3, 1) := by decide +kernel
theorem dX0_manTargets_20 : decode cX0_manTargets 20 = .ok (.iload 4, 2) := by decide +kernel
theorem dX0_manTargets_22 : decode cX0_manTargets 22 = .ok (.invokevirtual 97, 3) := by decide +kernel
theorem dX0_manTargets_25 : decode cX0_manTargets 25 = .ok (.lreturn, 1) := by decide +kernel
theorem dX0_glides_0 : decode cX0_glides 0 = .ok (.aload_n 0, 1) := by decide +kernel
theorem dX0_glides_1 : decode cX0_glides 1 = .ok (.iload_n 1, 1) := by decide +kernel
theorem dX0_glides_2 : decode cX0_glides 2 = .ok (.iload_n 2, 1) := by decide +kernel
theorem dX0_glides_3 : decode cX0_glides 3 = .ok (.iload 4, 2) := by decide +kernel
theorem dX0_glides_5 : decode cX0_glides 5 = .ok (.invokevirtual 89, 3) := by decide +kernel
theorem dX0_glides_8 : decode cX0_glides 8 = .ok (.aload_n 0, 1) := by decide +kernel
theorem dX0_glides_9 : decode cX0_glides 9 = .ok (.getfield 40, 3) := by decide +kernel
theorem dX0_glides_12 : decode cX0_glides 12 = .ok (.iload 4, 2) := by decide +kernel
theorem dX0_glides_14 : decode cX0_glides 14 = .ok (.aload_n 0, 1) := by decide +kernel
theorem dX0_glides_15 : decode cX0_glides 15 = .ok (.getfield 21, 3) := by decide +kernel
theorem dX0_glides_18 : decode cX0_glides 18 = .ok (.imul, 1) := by decide +kernel
theorem dX0_glides_19 : decode cX0_glides 19 = .ok (.iload_n 3, 1) := by decide +kernel
theorem dX0_glides_20 : decode cX0_glides 20 = .ok (.iadd, 1) := by decide +kernel
theorem dX0_glides_21 : decode cX0_glides 21 = .ok (.laload, 1) := by decide +kernel
theorem dX0_glides_22 : decode cX0_glides 22 = .ok (.ldc2_w 92, 3) := by decide +kernel
theorem dX0_glides_25 : decode cX0_glides 25 = .ok (.lxor, 1) := by decide +kernel
theorem dX0_glides_26 : decode cX0_glides 26 = .ok (.land, 1) := by decide +kernel
theorem dX0_glides_27 : decode cX0_glides 27 = .ok (.iload_n 2, 1) := by decide +kernel
theorem dX0_glides_28 : decode cX0_glides 28 = .ok (.invokestatic 62, 3) := by decide +kernel
theorem dX0_glides_31 : decode cX0_glides 31 = .ok (.ldc2_w 92, 3) := by decide +kernel
theorem dX0_glides_34 : decode cX0_glides 34 = .ok (.lxor, 1) := by decide +kernel
theorem dX0_glides_35 : decode cX0_glides 35 = .ok (.land, 1) := by decide +kernel
theorem dX0_glides_36 : decode cX0_glides 36 = .ok (.iload_n 3, 1) := by decide +kernel
theorem dX0_glides_37 : decode cX0_glides 37 = .ok (.invokestatic 62, 3) := by decide +kernel
theorem dX0_glides_40 : decode cX0_glides 40 = .ok (.ldc2_w 92, 3) := by decide +kernel
theorem dX0_glides_43 : decode cX0_glides 43 = .ok (.lxor, 1) := by decide +kernel
theorem dX0_glides_44 : decode cX0_glides 44 = .ok (.land, 1) := by decide +kernel
theorem dX0_glides_45 : decode cX0_glides 45 = .ok (.lreturn, 1) := by decide +kernel
theorem dX0_pawnTargets_0 : decode cX0_pawnTargets 0 = .ok (.iload_n 3, 1) := by decide +kernel
theorem dX0_pawnTargets_1 : decode cX0_pawnTargets 1 = .ok (.aload_n 0, 1) := by decide +kernel
theorem dX0_pawnTargets_2 : decode cX0_pawnTargets 2 = .ok (.getfield 17, 3) := by decide +kernel
theorem dX0_pawnTargets_5 : decode cX0_pawnTargets 5 = .ok (.iadd, 1) := by decide +kernel
theorem dX0_pawnTargets_6 : decode cX0_pawnTargets 6 = .ok (.istore 4, 2) := by decide +kernel
theorem dX0_pawnTargets_8 : decode cX0_pawnTargets 8 = .ok (.iload 4, 2) := by decide +kernel
theorem dX0_pawnTargets_10 : decode cX0_pawnTargets 10 = .ok (.iload_n 1, 1) := by decide +kernel
theorem dX0_pawnTargets_11 : decode cX0_pawnTargets 11 = .ok (.if_icmp .eq 9, 3) := by decide +kernel
theorem dX0_pawnTargets_14 : decode cX0_pawnTargets 14 = .ok (.iload 4, 2) := by decide +kernel
theorem dX0_pawnTargets_16 : decode cX0_pawnTargets 16 = .ok (.iload_n 2, 1) := by decide +kernel
theorem dX0_pawnTargets_17 : decode cX0_pawnTargets 17 = .ok (.if_icmp .ne 5, 3) := by decide +kernel
theorem dX0_pawnTargets_20 : decode cX0_pawnTargets 20 = .ok (.lconst 0, 1) := by decide +kernel
theorem dX0_pawnTargets_21 : decode cX0_pawnTargets 21 = .ok (.lreturn, 1) := by decide +kernel
theorem dX0_pawnTargets_22 : decode cX0_pawnTargets 22 = .ok (.iload 4, 2) := by decide +kernel
theorem dX0_pawnTargets_24 : decode cX0_pawnTargets 24 = .ok (.aload_n 0, 1) := by decide +kernel
theorem dX0_pawnTargets_25 : decode cX0_pawnTargets 25 = .ok (.getfield 17, 3) := by decide +kernel
theorem dX0_pawnTargets_28 : decode cX0_pawnTargets 28 = .ok (.iadd, 1) := by decide +kernel
theorem dX0_pawnTargets_29 : decode cX0_pawnTargets 29 = .ok (.istore 5, 2) := by decide +kernel
theorem dX0_pawnTargets_31 : decode cX0_pawnTargets 31 = .ok (.iload_n 3, 1) := by decide +kernel
theorem dX0_pawnTargets_32 : decode cX0_pawnTargets 32 = .ok (.iconst 2, 1) := by decide +kernel
theorem dX0_pawnTargets_33 : decode cX0_pawnTargets 33 = .ok (.aload_n 0, 1) := by decide +kernel
theorem dX0_pawnTargets_34 : decode cX0_pawnTargets 34 = .ok (.getfield 17, 3) := by decide +kernel
theorem dX0_pawnTargets_37 : decode cX0_pawnTargets 37 = .ok (.imul, 1) := by decide +kernel
theorem dX0_pawnTargets_38 : decode cX0_pawnTargets 38 = .ok (.if_icmp .ge 28, 3) := by decide +kernel
theorem dX0_pawnTargets_41 : decode cX0_pawnTargets 41 = .ok (.aload_n 0, 1) := by decide +kernel
theorem dX0_pawnTargets_42 : decode cX0_pawnTargets 42 = .ok (.iload 5, 2) := by decide +kernel
theorem dX0_pawnTargets_44 : decode cX0_pawnTargets 44 = .ok (.invokevirtual 82, 3) := by decide +kernel
theorem dX0_pawnTargets_47 : decode cX0_pawnTargets 47 = .ok (.ifCond .ne 19, 3) := by decide +kernel
theorem dX0_pawnTargets_50 : decode cX0_pawnTargets 50 = .ok (.iload 5, 2) := by decide +kernel
theorem dX0_pawnTargets_52 : decode cX0_pawnTargets 52 = .ok (.iload_n 1, 1) := by decide +kernel
theorem dX0_pawnTargets_53 : decode cX0_pawnTargets 53 = .ok (.if_icmp .eq 13, 3) := by decide +kernel
theorem dX0_pawnTargets_56 : decode cX0_pawnTargets 56 = .ok (.iload 5, 2) := by decide +kernel
theorem dX0_pawnTargets_58 : decode cX0_pawnTargets 58 = .ok (.iload_n 2, 1) := by decide +kernel
theorem dX0_pawnTargets_59 : decode cX0_pawnTargets 59 = .ok (.if_icmp .eq 7, 3) := by decide +kernel
theorem dX0_pawnTargets_62 : decode cX0_pawnTargets 62 = .ok (.iconst 1, 1) := by decide +kernel
theorem dX0_pawnTargets_63 : decode cX0_pawnTargets 63 = .ok (.goto 4, 3) := by decide +kernel
theorem dX0_pawnTargets_66 : decode cX0_pawnTargets 66 = .ok (.iconst 0, 1) := by decide +kernel
theorem dX0_pawnTargets_67 : decode cX0_pawnTargets 67 = .ok (.istore 6, 2) := by decide +kernel
theorem dX0_pawnTargets_69 : decode cX0_pawnTargets 69 = .ok (.iload 6, 2) := by decide +kernel
theorem dX0_pawnTargets_71 : decode cX0_pawnTargets 71 = .ok (.ifCond .eq 17, 3) := by decide +kernel
theorem dX0_pawnTargets_74 : decode cX0_pawnTargets 74 = .ok (.iload 4, 2) := by decide +kernel
theorem dX0_pawnTargets_76 : decode cX0_pawnTargets 76 = .ok (.invokestatic 62, 3) := by decide +kernel
theorem dX0_pawnTargets_79 : decode cX0_pawnTargets 79 = .ok (.iload 5, 2) := by decide +kernel
theorem dX0_pawnTargets_81 : decode cX0_pawnTargets 81 = .ok (.invokestatic 62, 3) := by decide +kernel
theorem dX0_pawnTargets_84 : decode cX0_pawnTargets 84 = .ok (.lor, 1) := by decide +kernel
theorem dX0_pawnTargets_85 : decode cX0_pawnTargets 85 = .ok (.goto 8, 3) := by decide +kernel
theorem dX0_pawnTargets_88 : decode cX0_pawnTargets 88 = .ok (.iload 4, 2) := by decide +kernel
theorem dX0_pawnTargets_90 : decode cX0_pawnTargets 90 = .ok (.invokestatic 62, 3) := by decide +kernel
theorem dX0_pawnTargets_93 : decode cX0_pawnTargets 93 = .ok (.lreturn, 1) := by decide +kernel
theorem dX0_pawnSources_0 : decode cX0_pawnSources 0 = .ok (.iload_n 3, 1) := by decide +kernel
theorem dX0_pawnSources_1 : decode cX0_pawnSources 1 = .ok (.aload_n 0, 1) := by decide +kernel
theorem dX0_pawnSources_2 : decode cX0_pawnSources 2 = .ok (.getfield 17, 3) := by decide +kernel
theorem dX0_pawnSources_5 : decode cX0_pawnSources 5 = .ok (.isub, 1) := by decide +kernel
theorem dX0_pawnSources_6 : decode cX0_pawnSources 6 = .ok (.istore 4, 2) := by decide +kernel
theorem dX0_pawnSources_8 : decode cX0_pawnSources 8 = .ok (.iload 4, 2) := by decide +kernel
theorem dX0_pawnSources_10 : decode cX0_pawnSources 10 = .ok (.aload_n 0, 1) := by decide +kernel
theorem dX0_pawnSources_11 : decode cX0_pawnSources 11 = .ok (.getfield 17, 3) := by decide +kernel
theorem dX0_pawnSources_14 : decode cX0_pawnSources 14 = .ok (.if_icmp .lt 15, 3) := by decide +kernel
theorem dX0_pawnSources_17 : decode cX0_pawnSources 17 = .ok (.iload 4, 2) := by decide +kernel
theorem dX0_pawnSources_19 : decode cX0_pawnSources 19 = .ok (.iload_n 1, 1) := by decide +kernel
theorem dX0_pawnSources_20 : decode cX0_pawnSources 20 = .ok (.if_icmp .eq 9, 3) := by decide +kernel
theorem dX0_pawnSources_23 : decode cX0_pawnSources 23 = .ok (.iload 4, 2) := by decide +kernel
theorem dX0_pawnSources_25 : decode cX0_pawnSources 25 = .ok (.iload_n 2, 1) := by decide +kernel
theorem dX0_pawnSources_26 : decode cX0_pawnSources 26 = .ok (.if_icmp .ne 5, 3) := by decide +kernel
theorem dX0_pawnSources_29 : decode cX0_pawnSources 29 = .ok (.lconst 0, 1) := by decide +kernel
theorem dX0_pawnSources_30 : decode cX0_pawnSources 30 = .ok (.lreturn, 1) := by decide +kernel
theorem dX0_pawnSources_31 : decode cX0_pawnSources 31 = .ok (.iload 4, 2) := by decide +kernel
theorem dX0_pawnSources_33 : decode cX0_pawnSources 33 = .ok (.aload_n 0, 1) := by decide +kernel
theorem dX0_pawnSources_34 : decode cX0_pawnSources 34 = .ok (.getfield 17, 3) := by decide +kernel
theorem dX0_pawnSources_37 : decode cX0_pawnSources 37 = .ok (.isub, 1) := by decide +kernel
theorem dX0_pawnSources_38 : decode cX0_pawnSources 38 = .ok (.istore 5, 2) := by decide +kernel
theorem dX0_pawnSources_40 : decode cX0_pawnSources 40 = .ok (.iload 5, 2) := by decide +kernel
theorem dX0_pawnSources_42 : decode cX0_pawnSources 42 = .ok (.aload_n 0, 1) := by decide +kernel
theorem dX0_pawnSources_43 : decode cX0_pawnSources 43 = .ok (.getfield 17, 3) := by decide +kernel
theorem dX0_pawnSources_46 : decode cX0_pawnSources 46 = .ok (.if_icmp .lt 30, 3) := by decide +kernel
theorem dX0_pawnSources_49 : decode cX0_pawnSources 49 = .ok (.iload 5, 2) := by decide +kernel
theorem dX0_pawnSources_51 : decode cX0_pawnSources 51 = .ok (.iconst 2, 1) := by decide +kernel
theorem dX0_pawnSources_52 : decode cX0_pawnSources 52 = .ok (.aload_n 0, 1) := by decide +kernel
theorem dX0_pawnSources_53 : decode cX0_pawnSources 53 = .ok (.getfield 17, 3) := by decide +kernel
theorem dX0_pawnSources_56 : decode cX0_pawnSources 56 = .ok (.imul, 1) := by decide +kernel
theorem dX0_pawnSources_57 : decode cX0_pawnSources 57 = .ok (.if_icmp .ge 19, 3) := by decide +kernel
theorem dX0_pawnSources_60 : decode cX0_pawnSources 60 = .ok (.iload 5, 2) := by decide +kernel
theorem dX0_pawnSources_62 : decode cX0_pawnSources 62 = .ok (.iload_n 1, 1) := by decide +kernel
theorem dX0_pawnSources_63 : decode cX0_pawnSources 63 = .ok (.if_icmp .eq 13, 3) := by decide +kernel
theorem dX0_pawnSources_66 : decode cX0_pawnSources 66 = .ok (.iload 5, 2) := by decide +kernel
theorem dX0_pawnSources_68 : decode cX0_pawnSources 68 = .ok (.iload_n 2, 1) := by decide +kernel
theorem dX0_pawnSources_69 : decode cX0_pawnSources 69 = .ok (.if_icmp .eq 7, 3) := by decide +kernel
theorem dX0_pawnSources_72 : decode cX0_pawnSources 72 = .ok (.iconst 1, 1) := by decide +kernel
theorem dX0_pawnSources_73 : decode cX0_pawnSources 73 = .ok (.goto 4, 3) := by decide +kernel
theorem dX0_pawnSources_76 : decode cX0_pawnSources 76 = .ok (.iconst 0, 1) := by decide +kernel
theorem dX0_pawnSources_77 : decode cX0_pawnSources 77 = .ok (.istore 6, 2) := by decide +kernel
theorem dX0_pawnSources_79 : decode cX0_pawnSources 79 = .ok (.iload 6, 2) := by decide +kernel
theorem dX0_pawnSources_81 : decode cX0_pawnSources 81 = .ok (.ifCond .eq 17, 3) := by decide +kernel
theorem dX0_pawnSources_84 : decode cX0_pawnSources 84 = .ok (.iload 4, 2) := by decide +kernel
theorem dX0_pawnSources_86 : decode cX0_pawnSources 86 = .ok (.invokestatic 62, 3) := by decide +kernel
theorem dX0_pawnSources_89 : decode cX0_pawnSources 89 = .ok (.iload 5, 2) := by decide +kernel
theorem dX0_pawnSources_91 : decode cX0_pawnSources 91 = .ok (.invokestatic 62, 3) := by decide +kernel
theorem dX0_pawnSources_94 : decode cX0_pawnSources 94 = .ok (.lor, 1) := by decide +kernel
theorem dX0_pawnSources_95 : decode cX0_pawnSources 95 = .ok (.goto 8, 3) := by decide +kernel
theorem dX0_pawnSources_98 : decode cX0_pawnSources 98 = .ok (.iload 4, 2) := by decide +kernel
theorem dX0_pawnSources_100 : decode cX0_pawnSources 100 = .ok (.invokestatic 62, 3) := by decide +kernel
theorem dX0_pawnSources_103 : decode cX0_pawnSources 103 = .ok (.lreturn, 1) := by decide +kernel
theorem dX0_blackSources_0 : decode cX0_blackSources 0 = .ok (.aload_n 0, 1) := by decide +kernel
theorem dX0_blackSources_1 : decode cX0_blackSources 1 = .ok (.getfield 31, 3) := by decide +kernel
theorem dX0_blackSources_4 : decode cX0_blackSources 4 = .ok (.iload_n 2, 1) := by decide +kernel
theorem dX0_blackSources_5 : decode cX0_blackSources 5 = .ok (.laload, 1) := by decide +kernel
theorem dX0_blackSources_6 : decode cX0_blackSources 6 = .ok (.aload_n 0, 1) := by decide +kernel
theorem dX0_blackSources_7 : decode cX0_blackSources 7 = .ok (.getfield 31, 3) := by decide +kernel
theorem dX0_blackSources_10 : decode cX0_blackSources 10 = .ok (.iload_n 1, 1) := by decide +kernel
theorem dX0_blackSources_11 : decode cX0_blackSources 11 = .ok (.laload, 1) := by decide +kernel
theorem dX0_blackSources_12 : decode cX0_blackSources 12 = .ok (.ldc2_w 92, 3) := by decide +kernel
theorem dX0_blackSources_15 : decode cX0_blackSources 15 = .ok (.lxor, 1) := by decide +kernel
theorem dX0_blackSources_16 : decode cX0_blackSources 16 = .ok (.land, 1) := by decide +kernel
theorem dX0_blackSources_17 : decode cX0_blackSources 17 = .ok (.iload_n 1, 1) := by decide +kernel
theorem dX0_blackSources_18 : decode cX0_blackSources 18 = .ok (.invokestatic 62, 3) := by decide +kernel
theorem dX0_blackSources_21 : decode cX0_blackSources 21 = .ok (.ldc2_w 92, 3) := by decide +kernel
theorem dX0_blackSources_24 : decode cX0_blackSources 24 = .ok (.lxor, 1) := by decide +kernel
theorem dX0_blackSources_25 : decode cX0_blackSources 25 = .ok (.land, 1) := by decide +kernel
theorem dX0_blackSources_26 : decode cX0_blackSources 26 = .ok (.iload_n 3, 1) := by decide +kernel
theorem dX0_blackSources_27 : decode cX0_blackSources 27 = .ok (.invokestatic 62, 3) := by decide +kernel
theorem dX0_blackSources_30 : decode cX0_blackSources 30 = .ok (.ldc2_w 92, 3) := by decide +kernel
theorem dX0_blackSources_33 : decode cX0_blackSources 33 = .ok (.lxor, 1) := by decide +kernel
theorem dX0_blackSources_34 : decode cX0_blackSources 34 = .ok (.land, 1) := by decide +kernel
theorem dX0_blackSources_35 : decode cX0_blackSources 35 = .ok (.lreturn, 1) := by decide +kernel
theorem dX0_prepare_0 : decode cX0_prepare 0 = .ok (.aload_n 0, 1) := by decide +kernel
theorem dX0_prepare_1 : decode cX0_prepare 1 = .ok (.getfield 11, 3) := by decide +kernel
theorem dX0_prepare_4 : decode cX0_prepare 4 = .ok (.iload_n 1, 1) := by decide +kernel
theorem dX0_prepare_5 : decode cX0_prepare 5 = .ok (.aaload, 1) := by decide +kernel
theorem dX0_prepare_6 : decode cX0_prepare 6 = .ok (.astore_n 2, 1) := by decide +kernel
theorem dX0_prepare_7 : decode cX0_prepare 7 = .ok (.aload_n 2, 1) := by decide +kernel
theorem dX0_prepare_8 : decode cX0_prepare 8 = .ok (.ifnonnull 53, 3) := by decide +kernel
theorem dX0_prepare_11 : decode cX0_prepare 11 = .ok (.new 9, 3) := by decide +kernel
theorem dX0_prepare_14 : decode cX0_prepare 14 = .ok (.dup, 1) := by decide +kernel
theorem dX0_prepare_15 : decode cX0_prepare 15 = .ok (.aload_n 0, 1) := by decide +kernel
theorem dX0_prepare_16 : decode cX0_prepare 16 = .ok (.iload_n 1, 1) := by decide +kernel
theorem dX0_prepare_17 : decode cX0_prepare 17 = .ok (.aload_n 0, 1) := by decide +kernel
theorem dX0_prepare_18 : decode cX0_prepare 18 = .ok (.iload_n 1, 1) := by decide +kernel
theorem dX0_prepare_19 : decode cX0_prepare 19 = .ok (.invokevirtual 101, 3) := by decide +kernel
theorem dX0_prepare_22 : decode cX0_prepare 22 = .ok (.invokespecial 105, 3) := by decide +kernel
theorem dX0_prepare_25 : decode cX0_prepare 25 = .ok (.astore_n 2, 1) := by decide +kernel
theorem dX0_prepare_26 : decode cX0_prepare 26 = .ok (.new 108, 3) := by decide +kernel
theorem dX0_prepare_29 : decode cX0_prepare 29 = .ok (.dup, 1) := by decide +kernel
theorem dX0_prepare_30 : decode cX0_prepare 30 = .ok (.aload_n 0, 1) := by decide +kernel
theorem dX0_prepare_31 : decode cX0_prepare 31 = .ok (.aload_n 2, 1) := by decide +kernel
theorem dX0_prepare_32 : decode cX0_prepare 32 = .ok (.invokespecial 110, 3) := by decide +kernel
theorem dX0_prepare_35 : decode cX0_prepare 35 = .ok (.aload_n 0, 1) := by decide +kernel
theorem dX0_prepare_36 : decode cX0_prepare 36 = .ok (.getfield 11, 3) := by decide +kernel
theorem dX0_prepare_39 : decode cX0_prepare 39 = .ok (.iconst 0, 1) := by decide +kernel
theorem dX0_prepare_40 : decode cX0_prepare 40 = .ok (.aaload, 1) := by decide +kernel
theorem dX0_prepare_41 : decode cX0_prepare 41 = .ok (.aload_n 0, 1) := by decide +kernel
theorem dX0_prepare_42 : decode cX0_prepare 42 = .ok (.getfield 11, 3) := by decide +kernel
theorem dX0_prepare_45 : decode cX0_prepare 45 = .ok (.iconst 1, 1) := by decide +kernel
theorem dX0_prepare_46 : decode cX0_prepare 46 = .ok (.aaload, 1) := by decide +kernel
theorem dX0_prepare_47 : decode cX0_prepare 47 = .ok (.invokevirtual 113, 3) := by decide +kernel
theorem dX0_prepare_50 : decode cX0_prepare 50 = .ok (.aload_n 2, 1) := by decide +kernel
theorem dX0_prepare_51 : decode cX0_prepare 51 = .ok (.invokevirtual 117, 3) := by decide +kernel
theorem dX0_prepare_54 : decode cX0_prepare 54 = .ok (.aload_n 0, 1) := by decide +kernel
theorem dX0_prepare_55 : decode cX0_prepare 55 = .ok (.getfield 11, 3) := by decide +kernel
theorem dX0_prepare_58 : decode cX0_prepare 58 = .ok (.iload_n 1, 1) := by decide +kernel
theorem dX0_prepare_59 : decode cX0_prepare 59 = .ok (.aload_n 2, 1) := by decide +kernel
theorem dX0_prepare_60 : decode cX0_prepare 60 = .ok (.aastore, 1) := by decide +kernel
theorem dX0_prepare_61 : decode cX0_prepare 61 = .ok (.aload_n 2, 1) := by decide +kernel
theorem dX0_prepare_62 : decode cX0_prepare 62 = .ok (.areturn, 1) := by decide +kernel
theorem dX0_pairsFor_0 : decode cX0_pairsFor 0 = .ok (.iload_n 1, 1) := by decide +kernel
theorem dX0_pairsFor_1 : decode cX0_pairsFor 1 = .ok (.iconst 2, 1) := by decide +kernel
theorem dX0_pairsFor_2 : decode cX0_pairsFor 2 = .ok (.if_icmp .ne 35, 3) := by decide +kernel
theorem dX0_pairsFor_5 : decode cX0_pairsFor 5 = .ok (.aload_n 0, 1) := by decide +kernel
theorem dX0_pairsFor_6 : decode cX0_pairsFor 6 = .ok (.aload_n 0, 1) := by decide +kernel
theorem dX0_pairsFor_7 : decode cX0_pairsFor 7 = .ok (.getfield 120, 3) := by decide +kernel
theorem dX0_pairsFor_10 : decode cX0_pairsFor 10 = .ok (.ifnonnull 15, 3) := by decide +kernel
theorem dX0_pairsFor_13 : decode cX0_pairsFor 13 = .ok (.new 124, 3) := by decide +kernel
theorem dX0_pairsFor_16 : decode cX0_pairsFor 16 = .ok (.dup, 1) := by decide +kernel
theorem dX0_pairsFor_17 : decode cX0_pairsFor 17 = .ok (.aload_n 0, 1) := by decide +kernel
theorem dX0_pairsFor_18 : decode cX0_pairsFor 18 = .ok (.iconst 2, 1) := by decide +kernel
theorem dX0_pairsFor_19 : decode cX0_pairsFor 19 = .ok (.invokespecial 126, 3) := by decide +kernel
theorem dX0_pairsFor_22 : decode cX0_pairsFor 22 = .ok (.goto 7, 3) := by decide +kernel
theorem dX0_pairsFor_25 : decode cX0_pairsFor 25 = .ok (.aload_n 0, 1) := by decide +kernel
theorem dX0_pairsFor_26 : decode cX0_pairsFor 26 = .ok (.getfield 120, 3) := by decide +kernel
theorem dX0_pairsFor_29 : decode cX0_pairsFor 29 = .ok (.putfield 120, 3) := by decide +kernel
theorem dX0_pairsFor_32 : decode cX0_pairsFor 32 = .ok (.aload_n 0, 1) := by decide +kernel
theorem dX0_pairsFor_33 : decode cX0_pairsFor 33 = .ok (.getfield 120, 3) := by decide +kernel
theorem dX0_pairsFor_36 : decode cX0_pairsFor 36 = .ok (.areturn, 1) := by decide +kernel
theorem dX0_pairsFor_37 : decode cX0_pairsFor 37 = .ok (.aload_n 0, 1) := by decide +kernel
theorem dX0_pairsFor_38 : decode cX0_pairsFor 38 = .ok (.aload_n 0, 1) := by decide +kernel
theorem dX0_pairsFor_39 : decode cX0_pairsFor 39 = .ok (.getfield 129, 3) := by decide +kernel
theorem dX0_pairsFor_42 : decode cX0_pairsFor 42 = .ok (.ifnonnull 16, 3) := by decide +kernel
theorem dX0_pairsFor_45 : decode cX0_pairsFor 45 = .ok (.new 124, 3) := by decide +kernel
theorem dX0_pairsFor_48 : decode cX0_pairsFor 48 = .ok (.dup, 1) := by decide +kernel
theorem dX0_pairsFor_49 : decode cX0_pairsFor 49 = .ok (.aload_n 0, 1) := by decide +kernel
theorem dX0_pairsFor_50 : decode cX0_pairsFor 50 = .ok (.bipush 8, 2) := by decide +kernel
theorem dX0_pairsFor_52 : decode cX0_pairsFor 52 = .ok (.invokespecial 126, 3) := by decide +kernel
theorem dX0_pairsFor_55 : decode cX0_pairsFor 55 = .ok (.goto 7, 3) := by decide +kernel
theorem dX0_pairsFor_58 : decode cX0_pairsFor 58 = .ok (.aload_n 0, 1) := by decide +kernel
theorem dX0_pairsFor_59 : decode cX0_pairsFor 59 = .ok (.getfield 129, 3) := by decide +kernel
theorem dX0_pairsFor_62 : decode cX0_pairsFor 62 = .ok (.putfield 129, 3) := by decide +kernel
theorem dX0_pairsFor_65 : decode cX0_pairsFor 65 = .ok (.aload_n 0, 1) := by decide +kernel
theorem dX0_pairsFor_66 : decode cX0_pairsFor 66 = .ok (.getfield 129, 3) := by decide +kernel
theorem dX0_pairsFor_69 : decode cX0_pairsFor 69 = .ok (.areturn, 1) := by decide +kernel
theorem dX1_init_0 : decode cX1_init 0 = .ok (.aload_n 0, 1) := by decide +kernel
theorem dX1_init_1 : decode cX1_init 1 = .ok (.invokespecial 3, 3) := by decide +kernel
theorem dX1_init_4 : decode cX1_init 4 = .ok (.aload_n 0, 1) := by decide +kernel
theorem dX1_init_5 : decode cX1_init 5 = .ok (.sipush 144, 3) := by decide +kernel
theorem dX1_init_8 : decode cX1_init 8 = .ok (.newarray .int, 2) := by decide +kernel
theorem dX1_init_10 : decode cX1_init 10 = .ok (.putfield 11, 3) := by decide +kernel
theorem dX1_init_13 : decode cX1_init 13 = .ok (.return_, 1) := by decide +kernel
theorem dX1_add_0 : decode cX1_add 0 = .ok (.aload_n 0, 1) := by decide +kernel
theorem dX1_add_1 : decode cX1_add 1 = .ok (.getfield 15, 3) := by decide +kernel
theorem dX1_add_4 : decode cX1_add 4 = .ok (.bipush 36, 2) := by decide +kernel
theorem dX1_add_6 : decode cX1_add 6 = .ok (.if_icmp .lt 4, 3) := by decide +kernel
theorem dX1_add_9 : decode cX1_add 9 = .ok (.return_, 1) := by decide +kernel
theorem dX1_add_10 : decode cX1_add 10 = .ok (.aload_n 0, 1) := by decide +kernel
theorem dX1_add_11 : decode cX1_add 11 = .ok (.getfield 15, 3) := by decide +kernel
theorem dX1_add_14 : decode cX1_add 14 = .ok (.iconst 4, 1) := by decide +kernel
theorem dX1_add_15 : decode cX1_add 15 = .ok (.imul, 1) := by decide +kernel
theorem dX1_add_16 : decode cX1_add 16 = .ok (.istore 5, 2) := by decide +kernel
theorem dX1_add_18 : decode cX1_add 18 = .ok (.aload_n 0, 1) := by decide +kernel
theorem dX1_add_19 : decode cX1_add 19 = .ok (.getfield 11, 3) := by decide +kernel
theorem dX1_add_22 : decode cX1_add 22 = .ok (.iload 5, 2) := by decide +kernel
theorem dX1_add_24 : decode cX1_add 24 = .ok (.iconst 0, 1) := by decide +kernel
theorem dX1_add_25 : decode cX1_add 25 = .ok (.iadd, 1) := by decide +kernel
theorem dX1_add_26 : decode cX1_add 26 = .ok (.iload_n 1, 1) := by decide +kernel
theorem dX1_add_27 : decode cX1_add 27 = .ok (.iastore, 1) := by decide +kernel
theorem dX1_add_28 : decode cX1_add 28 = .ok (.aload_n 0, 1) := by decide +kernel
theorem dX1_add_29 : decode cX1_add 29 = .ok (.getfield 11, 3) := by decide +kernel
theorem dX1_add_32 : decode cX1_add 32 = .ok (.iload 5, 2) := by decide +kernel
theorem dX1_add_34 : decode cX1_add 34 = .ok (.iconst 1, 1) := by decide +kernel
theorem dX1_add_35 : decode cX1_add 35 = .ok (.iadd, 1) := by decide +kernel
theorem dX1_add_36 : decode cX1_add 36 = .ok (.iload_n 2, 1) := by decide +kernel
theorem dX1_add_37 : decode cX1_add 37 = .ok (.iastore, 1) := by decide +kernel
theorem dX1_add_38 : decode cX1_add 38 = .ok (.aload_n 0, 1) := by decide +kernel
theorem dX1_add_39 : decode cX1_add 39 = .ok (.getfield 11, 3) := by decide +kernel
theorem dX1_add_42 : decode cX1_add 42 = .ok (.iload 5, 2) := by decide +kernel
theorem dX1_add_44 : decode cX1_add 44 = .ok (.iconst 2, 1) := by decide +kernel
theorem dX1_add_45 : decode cX1_add 45 = .ok (.iadd, 1) := by decide +kernel
theorem dX1_add_46 : decode cX1_add 46 = .ok (.iload_n 3, 1) := by decide +kernel
theorem dX1_add_47 : decode cX1_add 47 = .ok (.iastore, 1) := by decide +kernel
theorem dX1_add_48 : decode cX1_add 48 = .ok (.aload_n 0, 1) := by decide +kernel
theorem dX1_add_49 : decode cX1_add 49 = .ok (.getfield 11, 3) := by decide +kernel
theorem dX1_add_52 : decode cX1_add 52 = .ok (.iload 5, 2) := by decide +kernel
theorem dX1_add_54 : decode cX1_add 54 = .ok (.iconst 3, 1) := by decide +kernel
theorem dX1_add_55 : decode cX1_add 55 = .ok (.iadd, 1) := by decide +kernel
theorem dX1_add_56 : decode cX1_add 56 = .ok (.iload 4, 2) := by decide +kernel
theorem dX1_add_58 : decode cX1_add 58 = .ok (.iastore, 1) := by decide +kernel
theorem dX1_add_59 : decode cX1_add 59 = .ok (.aload_n 0, 1) := by decide +kernel
theorem dX1_add_60 : decode cX1_add 60 = .ok (.dup, 1) := by decide +kernel
theorem dX1_add_61 : decode cX1_add 61 = .ok (.getfield 15, 3) := by decide +kernel
theorem dX1_add_64 : decode cX1_add 64 = .ok (.iconst 1, 1) := by decide +kernel
theorem dX1_add_65 : decode cX1_add 65 = .ok (.iadd, 1) := by decide +kernel
theorem dX1_add_66 : decode cX1_add 66 = .ok (.putfield 15, 3) := by decide +kernel
theorem dX1_add_69 : decode cX1_add 69 = .ok (.return_, 1) := by decide +kernel
theorem dX1_keep_0 : decode cX1_keep 0 = .ok (.aload_n 0, 1) := by decide +kernel
theorem dX1_keep_1 : decode cX1_keep 1 = .ok (.getfield 15, 3) := by decide +kernel
theorem dX1_keep_4 : decode cX1_keep 4 = .ok (.istore_n 2, 1) := by decide +kernel
theorem dX1_keep_5 : decode cX1_keep 5 = .ok (.aload_n 0, 1) := by decide +kernel
theorem dX1_keep_6 : decode cX1_keep 6 = .ok (.iconst 0, 1) := by decide +kernel
theorem dX1_keep_7 : decode cX1_keep 7 = .ok (.putfield 15, 3) := by decide +kernel
theorem dX1_keep_10 : decode cX1_keep 10 = .ok (.iconst 0, 1) := by decide +kernel
theorem dX1_keep_11 : decode cX1_keep 11 = .ok (.istore_n 3, 1) := by decide +kernel
theorem dX1_keep_12 : decode cX1_keep 12 = .ok (.iload_n 3, 1) := by decide +kernel
theorem dX1_keep_13 : decode cX1_keep 13 = .ok (.iload_n 2, 1) := by decide +kernel
theorem dX1_keep_14 : decode cX1_keep 14 = .ok (.if_icmp .ge 59, 3) := by decide +kernel
theorem dX1_keep_17 : decode cX1_keep 17 = .ok (.iload_n 3, 1) := by decide +kernel
theorem dX1_keep_18 : decode cX1_keep 18 = .ok (.iconst 4, 1) := by decide +kernel
theorem dX1_keep_19 : decode cX1_keep 19 = .ok (.imul, 1) := by decide +kernel
theorem dX1_keep_20 : decode cX1_keep 20 = .ok (.istore 4, 2) := by decide +kernel
theorem dX1_keep_22 : decode cX1_keep 22 = .ok (.aload_n 0, 1) := by decide +kernel
theorem dX1_keep_23 : decode cX1_keep 23 = .ok (.getfield 11, 3) := by decide +kernel
theorem dX1_keep_26 : decode cX1_keep 26 = .ok (.iload 4, 2) := by decide +kernel
theorem dX1_keep_28 : decode cX1_keep 28 = .ok (.iconst 3, 1) := by decide +kernel
theorem dX1_keep_29 : decode cX1_keep 29 = .ok (.iadd, 1) := by decide +kernel
theorem dX1_keep_30 : decode cX1_keep 30 = .ok (.iaload, 1) := by decide +kernel
theorem dX1_keep_31 : decode cX1_keep 31 = .ok (.iload_n 1, 1) := by decide +kernel
theorem dX1_keep_32 : decode cX1_keep 32 = .ok (.if_icmp .ne 35, 3) := by decide +kernel
theorem dX1_keep_35 : decode cX1_keep 35 = .ok (.aload_n 0, 1) := by decide +kernel
theorem dX1_keep_36 : decode cX1_keep 36 = .ok (.aload_n 0, 1) := by decide +kernel
theorem dX1_keep_37 : decode cX1_keep 37 = .ok (.getfield 11, 3) := by decide +kernel
theorem dX1_keep_40 : decode cX1_keep 40 = .ok (.iload 4, 2) := by decide +kernel
theorem dX1_keep_42 : decode cX1_keep 42 = .ok (.iconst 0, 1) := by decide +kernel
theorem dX1_keep_43 : decode cX1_keep 43 = .ok (.iadd, 1) := by decide +kernel
theorem dX1_keep_44 : decode cX1_keep 44 = .ok (.iaload, 1) := by decide +kernel
theorem dX1_keep_45 : decode cX1_keep 45 = .ok (.aload_n 0, 1) := by decide +kernel
theorem dX1_keep_46 : decode cX1_keep 46 = .ok (.getfield 11, 3) := by decide +kernel
theorem dX1_keep_49 : decode cX1_keep 49 = .ok (.iload 4, 2) := by decide +kernel
theorem dX1_keep_51 : decode cX1_keep 51 = .ok (.iconst 1, 1) := by decide +kernel
theorem dX1_keep_52 : decode cX1_keep 52 = .ok (.iadd, 1) := by decide +kernel
theorem dX1_keep_53 : decode cX1_keep 53 = .ok (.iaload, 1) := by decide +kernel
theorem dX1_keep_54 : decode cX1_keep 54 = .ok (.aload_n 0, 1) := by decide +kernel
theorem dX1_keep_55 : decode cX1_keep 55 = .ok (.getfield 11, 3) := by decide +kernel
theorem dX1_keep_58 : decode cX1_keep 58 = .ok (.iload 4, 2) := by decide +kernel
theorem dX1_keep_60 : decode cX1_keep 60 = .ok (.iconst 2, 1) := by decide +kernel
theorem dX1_keep_61 : decode cX1_keep 61 = .ok (.iadd, 1) := by decide +kernel
theorem dX1_keep_62 : decode cX1_keep 62 = .ok (.iaload, 1) := by decide +kernel
theorem dX1_keep_63 : decode cX1_keep 63 = .ok (.iload_n 1, 1) := by decide +kernel
theorem dX1_keep_64 : decode cX1_keep 64 = .ok (.invokevirtual 19, 3) := by decide +kernel
theorem dX1_keep_67 : decode cX1_keep 67 = .ok (.iinc 3 1, 3) := by decide +kernel
theorem dX1_keep_70 : decode cX1_keep 70 = .ok (.goto (-58), 3) := by decide +kernel
theorem dX1_keep_73 : decode cX1_keep 73 = .ok (.return_, 1) := by decide +kernel
theorem dX1_tell_0 : decode cX1_tell 0 = .ok (.iload_n 1, 1) := by decide +kernel
theorem dX1_tell_1 : decode cX1_tell 1 = .ok (.ifCond .lt 20, 3) := by decide +kernel
theorem dX1_tell_4 : decode cX1_tell 4 = .ok (.iload_n 1, 1) := by decide +kernel
theorem dX1_tell_5 : decode cX1_tell 5 = .ok (.aload_n 0, 1) := by decide +kernel
theorem dX1_tell_6 : decode cX1_tell 6 = .ok (.getfield 15, 3) := by decide +kernel
theorem dX1_tell_9 : decode cX1_tell 9 = .ok (.if_icmp .ge 12, 3) := by decide +kernel
theorem dX1_tell_12 : decode cX1_tell 12 = .ok (.iload_n 2, 1) := by decide +kernel
theorem dX1_tell_13 : decode cX1_tell 13 = .ok (.ifCond .lt 8, 3) := by decide +kernel
theorem dX1_tell_16 : decode cX1_tell 16 = .ok (.iload_n 2, 1) := by decide +kernel
theorem dX1_tell_17 : decode cX1_tell 17 = .ok (.iconst 4, 1) := by decide +kernel
theorem dX1_tell_18 : decode cX1_tell 18 = .ok (.if_icmp .lt 7, 3) := by decide +kernel
theorem dX1_tell_21 : decode cX1_tell 21 = .ok (.iconst (-1), 1) := by decide +kernel
theorem dX1_tell_22 : decode cX1_tell 22 = .ok (.goto 13, 3) := by decide +kernel
theorem dX1_tell_25 : decode cX1_tell 25 = .ok (.aload_n 0, 1) := by decide +kernel
theorem dX1_tell_26 : decode cX1_tell 26 = .ok (.getfield 11, 3) := by decide +kernel
theorem dX1_tell_29 : decode cX1_tell 29 = .ok (.iload_n 1, 1) := by decide +kernel
theorem dX1_tell_30 : decode cX1_tell 30 = .ok (.iconst 4, 1) := by decide +kernel
theorem dX1_tell_31 : decode cX1_tell 31 = .ok (.imul, 1) := by decide +kernel
theorem dX1_tell_32 : decode cX1_tell 32 = .ok (.iload_n 2, 1) := by decide +kernel
theorem dX1_tell_33 : decode cX1_tell 33 = .ok (.iadd, 1) := by decide +kernel
theorem dX1_tell_34 : decode cX1_tell 34 = .ok (.iaload, 1) := by decide +kernel
theorem dX1_tell_35 : decode cX1_tell 35 = .ok (.ireturn, 1) := by decide +kernel
theorem dX2_init_0 : decode cX2_init 0 = .ok (.aload_n 0, 1) := by decide +kernel
theorem dX2_init_1 : decode cX2_init 1 = .ok (.invokespecial 3, 3) := by decide +kernel
theorem dX2_init_4 : decode cX2_init 4 = .ok (.aload_n 0, 1) := by decide +kernel
theorem dX2_init_5 : decode cX2_init 5 = .ok (.aload_n 1, 1) := by decide +kernel
theorem dX2_init_6 : decode cX2_init 6 = .ok (.getfield 9, 3) := by decide +kernel
theorem dX2_init_9 : decode cX2_init 9 = .ok (.putfield 15, 3) := by decide +kernel
theorem dX2_init_12 : decode cX2_init 12 = .ok (.aload_n 0, 1) := by decide +kernel
theorem dX2_init_13 : decode cX2_init 13 = .ok (.aload_n 1, 1) := by decide +kernel
theorem dX2_init_14 : decode cX2_init 14 = .ok (.getfield 18, 3) := by decide +kernel
theorem dX2_init_17 : decode cX2_init 17 = .ok (.putfield 22, 3) := by decide +kernel
theorem dX2_init_20 : decode cX2_init 20 = .ok (.aload_n 0, 1) := by decide +kernel
theorem dX2_init_21 : decode cX2_init 21 = .ok (.aload_n 0, 1) := by decide +kernel
theorem dX2_init_22 : decode cX2_init 22 = .ok (.getfield 15, 3) := by decide +kernel
theorem dX2_init_25 : decode cX2_init 25 = .ok (.aload_n 0, 1) := by decide +kernel
theorem dX2_init_26 : decode cX2_init 26 = .ok (.getfield 15, 3) := by decide +kernel
theorem dX2_init_29 : decode cX2_init 29 = .ok (.imul, 1) := by decide +kernel
theorem dX2_init_30 : decode cX2_init 30 = .ok (.newarray .int, 2) := by decide +kernel
theorem dX2_init_32 : decode cX2_init 32 = .ok (.putfield 23, 3) := by decide +kernel
theorem dX2_init_35 : decode cX2_init 35 = .ok (.aload_n 0, 1) := by decide +kernel
theorem dX2_init_36 : decode cX2_init 36 = .ok (.aload_n 0, 1) := by decide +kernel
theorem dX2_init_37 : decode cX2_init 37 = .ok (.getfield 15, 3) := by decide +kernel
theorem dX2_init_40 : decode cX2_init 40 = .ok (.aload_n 0, 1) := by decide +kernel
theorem dX2_init_41 : decode cX2_init 41 = .ok (.getfield 15, 3) := by decide +kernel
theorem dX2_init_44 : decode cX2_init 44 = .ok (.imul, 1) := by decide +kernel
theorem dX2_init_45 : decode cX2_init 45 = .ok (.newarray .int, 2) := by decide +kernel
theorem dX2_init_47 : decode cX2_init 47 = .ok (.putfield 26, 3) := by decide +kernel
theorem dX2_init_50 : decode cX2_init 50 = .ok (.aload_n 0, 1) := by decide +kernel
theorem dX2_init_51 : decode cX2_init 51 = .ok (.aload_n 0, 1) := by decide +kernel
theorem dX2_init_52 : decode cX2_init 52 = .ok (.getfield 15, 3) := by decide +kernel
theorem dX2_init_55 : decode cX2_init 55 = .ok (.aload_n 0, 1) := by decide +kernel
theorem dX2_init_56 : decode cX2_init 56 = .ok (.getfield 15, 3) := by decide +kernel
theorem dX2_init_59 : decode cX2_init 59 = .ok (.imul, 1) := by decide +kernel
theorem dX2_init_60 : decode cX2_init 60 = .ok (.newarray .int, 2) := by decide +kernel
theorem dX2_init_62 : decode cX2_init 62 = .ok (.putfield 29, 3) := by decide +kernel
theorem dX2_init_65 : decode cX2_init 65 = .ok (.aload_n 0, 1) := by decide +kernel
theorem dX2_init_66 : decode cX2_init 66 = .ok (.aload_n 0, 1) := by decide +kernel
theorem dX2_init_67 : decode cX2_init 67 = .ok (.getfield 15, 3) := by decide +kernel
theorem dX2_init_70 : decode cX2_init 70 = .ok (.aload_n 0, 1) := by decide +kernel
theorem dX2_init_71 : decode cX2_init 71 = .ok (.getfield 15, 3) := by decide +kernel
theorem dX2_init_74 : decode cX2_init 74 = .ok (.imul, 1) := by decide +kernel
theorem dX2_init_75 : decode cX2_init 75 = .ok (.newarray .int, 2) := by decide +kernel
theorem dX2_init_77 : decode cX2_init 77 = .ok (.putfield 32, 3) := by decide +kernel
theorem dX2_init_80 : decode cX2_init 80 = .ok (.aload_n 0, 1) := by decide +kernel
theorem dX2_init_81 : decode cX2_init 81 = .ok (.aload_n 0, 1) := by decide +kernel
theorem dX2_init_82 : decode cX2_init 82 = .ok (.getfield 15, 3) := by decide +kernel
theorem dX2_init_85 : decode cX2_init 85 = .ok (.aload_n 0, 1) := by decide +kernel
theorem dX2_init_86 : decode cX2_init 86 = .ok (.getfield 15, 3) := by decide +kernel
theorem dX2_init_89 : decode cX2_init 89 = .ok (.imul, 1) := by decide +kernel
theorem dX2_init_90 : decode cX2_init 90 = .ok (.newarray .int, 2) := by decide +kernel
theorem dX2_init_92 : decode cX2_init 92 = .ok (.putfield 35, 3) := by decide +kernel
theorem dX2_init_95 : decode cX2_init 95 = .ok (.aload_n 0, 1) := by decide +kernel
theorem dX2_init_96 : decode cX2_init 96 = .ok (.getfield 23, 3) := by decide +kernel
theorem dX2_init_99 : decode cX2_init 99 = .ok (.iconst (-1), 1) := by decide +kernel
theorem dX2_init_100 : decode cX2_init 100 = .ok (.invokestatic 38, 3) := by decide +kernel
theorem dX2_init_103 : decode cX2_init 103 = .ok (.iconst 0, 1) := by decide +kernel
theorem dX2_init_104 : decode cX2_init 104 = .ok (.istore_n 3, 1) := by decide +kernel
theorem dX2_init_105 : decode cX2_init 105 = .ok (.iload_n 3, 1) := by decide +kernel
theorem dX2_init_106 : decode cX2_init 106 = .ok (.aload_n 0, 1) := by decide +kernel
theorem dX2_init_107 : decode cX2_init 107 = .ok (.getfield 15, 3) := by decide +kernel
theorem dX2_init_110 : decode cX2_init 110 = .ok (.if_icmp .ge 51, 3) := by decide +kernel
theorem dX2_init_113 : decode cX2_init 113 = .ok (.iconst 0, 1) := by decide +kernel
theorem dX2_init_114 : decode cX2_init 114 = .ok (.istore 4, 2) := by decide +kernel
theorem dX2_init_116 : decode cX2_init 116 = .ok (.iload 4, 2) := by decide +kernel
theorem dX2_init_118 : decode cX2_init 118 = .ok (.aload_n 0, 1) := by decide +kernel
theorem dX2_init_119 : decode cX2_init 119 = .ok (.getfield 15, 3) := by decide +kernel
theorem dX2_init_122 : decode cX2_init 122 = .ok (.if_icmp .ge 33, 3) := by decide +kernel
theorem dX2_init_125 : decode cX2_init 125 = .ok (.iload_n 3, 1) := by decide +kernel
theorem dX2_init_126 : decode cX2_init 126 = .ok (.iload 4, 2) := by decide +kernel
theorem dX2_init_128 : decode cX2_init 128 = .ok (.if_icmp .eq 21, 3) := by decide +kernel
theorem dX2_init_131 : decode cX2_init 131 = .ok (.aload_n 1, 1) := by decide +kernel
theorem dX2_init_132 : decode cX2_init 132 = .ok (.iload_n 3, 1) := by decide +kernel
theorem dX2_init_133 : decode cX2_init 133 = .ok (.iload 4, 2) := by decide +kernel
theorem dX2_init_135 : decode cX2_init 135 = .ok (.invokevirtual 44, 3) := by decide +kernel
theorem dX2_init_138 : decode cX2_init 138 = .ok (.ifCond .ne 11, 3) := by decide +kernel
theorem dX2_init_141 : decode cX2_init 141 = .ok (.aload_n 0, 1) := by decide +kernel
theorem dX2_init_142 : decode cX2_init 142 = .ok (.iload_n 3, 1) := by decide +kernel
theorem dX2_init_143 : decode cX2_init 143 = .ok (.iload 4, 2) := by decide +kernel
theorem dX2_init_145 : decode cX2_init 145 = .ok (.iload_n 2, 1) := by decide +kernel
theorem dX2_init_146 : decode cX2_init 146 = .ok (.invokevirtual 48, 3) := by decide +kernel
theorem dX2_init_149 : decode cX2_init 149 = .ok (.iinc 4 1, 3) := by decide +kernel
theorem dX2_init_152 : decode cX2_init 152 = .ok (.goto (-36), 3) := by decide +kernel
theorem dX2_init_155 : decode cX2_init 155 = .ok (.iinc 3 1, 3) := by decide +kernel
theorem dX2_init_158 : decode cX2_init 158 = .ok (.goto (-53), 3) := by decide +kernel
theorem dX2_init_161 : decode cX2_init 161 = .ok (.return_, 1) := by decide +kernel
theorem dX2_enter_0 : decode cX2_enter 0 = .ok (.iload_n 1, 1) := by decide +kernel
theorem dX2_enter_1 : decode cX2_enter 1 = .ok (.aload_n 0, 1) := by decide +kernel
theorem dX2_enter_2 : decode cX2_enter 2 = .ok (.getfield 15, 3) := by decide +kernel
theorem dX2_enter_5 : decode cX2_enter 5 = .ok (.imul, 1) := by decide +kernel
theorem dX2_enter_6 : decode cX2_enter 6 = .ok (.iload_n 2, 1) := by decide +kernel
theorem dX2_enter_7 : decode cX2_enter 7 = .ok (.iadd, 1) := by decide +kernel
theorem dX2_enter_8 : decode cX2_enter 8 = .ok (.istore 4, 2) := by decide +kernel
theorem dX2_enter_10 : decode cX2_enter 10 = .ok (.iload 4, 2) := by decide +kernel
theorem dX2_enter_12 : decode cX2_enter 12 = .ok (.istore 5, 2) := by decide +kernel
theorem dX2_enter_14 : decode cX2_enter 14 = .ok (.iconst 0, 1) := by decide +kernel
theorem dX2_enter_15 : decode cX2_enter 15 = .ok (.istore 6, 2) := by decide +kernel
theorem dX2_enter_17 : decode cX2_enter 17 = .ok (.iload 6, 2) := by decide +kernel
theorem dX2_enter_19 : decode cX2_enter 19 = .ok (.iload_n 3, 1) := by decide +kernel
theorem dX2_enter_20 : decode cX2_enter 20 = .ok (.aload_n 0, 1) := by decide +kernel
theorem dX2_enter_21 : decode cX2_enter 21 = .ok (.getfield 15, 3) := by decide +kernel
theorem dX2_enter_24 : decode cX2_enter 24 = .ok (.imul, 1) := by decide +kernel
theorem dX2_enter_25 : decode cX2_enter 25 = .ok (.if_icmp .ge 77, 3) := by decide +kernel
theorem dX2_enter_28 : decode cX2_enter 28 = .ok (.aload_n 0, 1) := by decide +kernel
theorem dX2_enter_29 : decode cX2_enter 29 = .ok (.getfield 22, 3) := by decide +kernel
theorem dX2_enter_32 : decode cX2_enter 32 = .ok (.iload 6, 2) := by decide +kernel
theorem dX2_enter_34 : decode cX2_enter 34 = .ok (.iload_n 1, 1) := by decide +kernel
theorem dX2_enter_35 : decode cX2_enter 35 = .ok (.iadd, 1) := by decide +kernel
theorem dX2_enter_36 : decode cX2_enter 36 = .ok (.iaload, 1) := by decide +kernel
theorem dX2_enter_37 : decode cX2_enter 37 = .ok (.aload_n 0, 1) := by decide +kernel
theorem dX2_enter_38 : decode cX2_enter 38 = .ok (.getfield 15, 3) := by decide +kernel
theorem dX2_enter_41 : decode cX2_enter 41 = .ok (.imul, 1) := by decide +kernel
theorem dX2_enter_42 : decode cX2_enter 42 = .ok (.aload_n 0, 1) := by decide +kernel
theorem dX2_enter_43 : decode cX2_enter 43 = .ok (.getfield 22, 3) := by decide +kernel
theorem dX2_enter_46 : decode cX2_enter 46 = .ok (.iload 6, 2) := by decide +kernel
theorem dX2_enter_48 : decode cX2_enter 48 = .ok (.iload_n 2, 1) := by decide +kernel
theorem dX2_enter_49 : decode cX2_enter 49 = .ok (.iadd, 1) := by decide +kernel
theorem dX2_enter_50 : decode cX2_enter 50 = .ok (.iaload, 1) := by decide +kernel
theorem dX2_enter_51 : decode cX2_enter 51 = .ok (.iadd, 1) := by decide +kernel
theorem dX2_enter_52 : decode cX2_enter 52 = .ok (.istore 7, 2) := by decide +kernel
theorem dX2_enter_54 : decode cX2_enter 54 = .ok (.iload 7, 2) := by decide +kernel
theorem dX2_enter_56 : decode cX2_enter 56 = .ok (.iload 5, 2) := by decide +kernel
theorem dX2_enter_58 : decode cX2_enter 58 = .ok (.if_icmp .ge 12, 3) := by decide +kernel
theorem dX2_enter_61 : decode cX2_enter 61 = .ok (.aload_n 0, 1) := by decide +kernel
theorem dX2_enter_62 : decode cX2_enter 62 = .ok (.getfield 26, 3) := by decide +kernel
theorem dX2_enter_65 : decode cX2_enter 65 = .ok (.iload 4, 2) := by decide +kernel
theorem dX2_enter_67 : decode cX2_enter 67 = .ok (.iload 6, 2) := by decide +kernel
theorem dX2_enter_69 : decode cX2_enter 69 = .ok (.iastore, 1) := by decide +kernel
theorem dX2_enter_70 : decode cX2_enter 70 = .ok (.iload 7, 2) := by decide +kernel
theorem dX2_enter_72 : decode cX2_enter 72 = .ok (.iload 5, 2) := by decide +kernel
theorem dX2_enter_74 : decode cX2_enter 74 = .ok (.if_icmp .gt 16, 3) := by decide +kernel
theorem dX2_enter_77 : decode cX2_enter 77 = .ok (.aload_n 0, 1) := by decide +kernel
theorem dX2_enter_78 : decode cX2_enter 78 = .ok (.getfield 29, 3) := by decide +kernel
theorem dX2_enter_81 : decode cX2_enter 81 = .ok (.iload 4, 2) := by decide +kernel
theorem dX2_enter_83 : decode cX2_enter 83 = .ok (.iload 6, 2) := by decide +kernel
theorem dX2_enter_85 : decode cX2_enter 85 = .ok (.iastore, 1) := by decide +kernel
theorem dX2_enter_86 : decode cX2_enter 86 = .ok (.iload 7, 2) := by decide +kernel
theorem dX2_enter_88 : decode cX2_enter 88 = .ok (.istore 5, 2) := by decide +kernel
theorem dX2_enter_90 : decode cX2_enter 90 = .ok (.iload 6, 2) := by decide +kernel
theorem dX2_enter_92 : decode cX2_enter 92 = .ok (.aload_n 0, 1) := by decide +kernel
theorem dX2_enter_93 : decode cX2_enter 93 = .ok (.getfield 15, 3) := by decide +kernel
theorem dX2_enter_96 : decode cX2_enter 96 = .ok (.iadd, 1) := by decide +kernel
theorem dX2_enter_97 : decode cX2_enter 97 = .ok (.istore 6, 2) := by decide +kernel
theorem dX2_enter_99 : decode cX2_enter 99 = .ok (.goto (-82), 3) := by decide +kernel
theorem dX2_enter_102 : decode cX2_enter 102 = .ok (.iload 5, 2) := by decide +kernel
theorem dX2_enter_104 : decode cX2_enter 104 = .ok (.iload 4, 2) := by decide +kernel
theorem dX2_enter_106 : decode cX2_enter 106 = .ok (.if_icmp .ne 47, 3) := by decide +kernel
theorem dX2_enter_109 : decode cX2_enter 109 = .ok (.aload_n 0, 1) := by decide +kernel
theorem dX2_enter_110 : decode cX2_enter 110 = .ok (.getfield 32, 3) := by decide +kernel
theorem dX2_enter_113 : decode cX2_enter 113 = .ok (.aload_n 0, 1) := by decide +kernel
theorem dX2_enter_114 : decode cX2_enter 114 = .ok (.getfield 52, 3) := by decide +kernel
theorem dX2_enter_117 : decode cX2_enter 117 = .ok (.iload_n 1, 1) := by decide +kernel
theorem dX2_enter_118 : decode cX2_enter 118 = .ok (.iastore, 1) := by decide +kernel
theorem dX2_enter_119 : decode cX2_enter 119 = .ok (.aload_n 0, 1) := by decide +kernel
theorem dX2_enter_120 : decode cX2_enter 120 = .ok (.getfield 35, 3) := by decide +kernel
theorem dX2_enter_123 : decode cX2_enter 123 = .ok (.aload_n 0, 1) := by decide +kernel
theorem dX2_enter_124 : decode cX2_enter 124 = .ok (.getfield 52, 3) := by decide +kernel
theorem dX2_enter_127 : decode cX2_enter 127 = .ok (.iload_n 2, 1) := by decide +kernel
theorem dX2_enter_128 : decode cX2_enter 128 = .ok (.iastore, 1) := by decide +kernel
theorem dX2_enter_129 : decode cX2_enter 129 = .ok (.aload_n 0, 1) := by decide +kernel
theorem dX2_enter_130 : decode cX2_enter 130 = .ok (.getfield 23, 3) := by decide +kernel
theorem dX2_enter_133 : decode cX2_enter 133 = .ok (.iload 4, 2) := by decide +kernel
theorem dX2_enter_135 : decode cX2_enter 135 = .ok (.aload_n 0, 1) := by decide +kernel
theorem dX2_enter_136 : decode cX2_enter 136 = .ok (.getfield 52, 3) := by decide +kernel
theorem dX2_enter_139 : decode cX2_enter 139 = .ok (.iastore, 1) := by decide +kernel
theorem dX2_enter_140 : decode cX2_enter 140 = .ok (.aload_n 0, 1) := by decide +kernel
theorem dX2_enter_141 : decode cX2_enter 141 = .ok (.dup, 1) := by decide +kernel
theorem dX2_enter_142 : decode cX2_enter 142 = .ok (.getfield 52, 3) := by decide +kernel
theorem dX2_enter_145 : decode cX2_enter 145 = .ok (.iconst 1, 1) := by decide +kernel
theorem dX2_enter_146 : decode cX2_enter 146 = .ok (.iadd, 1) := by decide +kernel
theorem dX2_enter_147 : decode cX2_enter 147 = .ok (.putfield 52, 3) := by decide +kernel
theorem dX2_enter_150 : decode cX2_enter 150 = .ok (.goto 17, 3) := by decide +kernel
theorem dX2_enter_153 : decode cX2_enter 153 = .ok (.aload_n 0, 1) := by decide +kernel
theorem dX2_enter_154 : decode cX2_enter 154 = .ok (.getfield 23, 3) := by decide +kernel
theorem dX2_enter_157 : decode cX2_enter 157 = .ok (.iload 4, 2) := by decide +kernel
theorem dX2_enter_159 : decode cX2_enter 159 = .ok (.aload_n 0, 1) := by decide +kernel
theorem dX2_enter_160 : decode cX2_enter 160 = .ok (.getfield 23, 3) := by decide +kernel
theorem dX2_enter_163 : decode cX2_enter 163 = .ok (.iload 5, 2) := by decide +kernel
theorem dX2_enter_165 : decode cX2_enter 165 = .ok (.iaload, 1) := by decide +kernel
theorem dX2_enter_166 : decode cX2_enter 166 = .ok (.iastore, 1) := by decide +kernel
theorem dX2_enter_167 : decode cX2_enter 167 = .ok (.return_, 1) := by decide +kernel
theorem dX2_cellOf_0 : decode cX2_cellOf 0 = .ok (.iload_n 1, 1) := by decide +kernel
theorem dX2_cellOf_1 : decode cX2_cellOf 1 = .ok (.aload_n 0, 1) := by decide +kernel
theorem dX2_cellOf_2 : decode cX2_cellOf 2 = .ok (.getfield 15, 3) := by decide +kernel
theorem dX2_cellOf_5 : decode cX2_cellOf 5 = .ok (.imul, 1) := by decide +kernel
theorem dX2_cellOf_6 : decode cX2_cellOf 6 = .ok (.iload_n 2, 1) := by decide +kernel
theorem dX2_cellOf_7 : decode cX2_cellOf 7 = .ok (.iadd, 1) := by decide +kernel
theorem dX2_cellOf_8 : decode cX2_cellOf 8 = .ok (.istore 5, 2) := by decide +kernel
theorem dX2_cellOf_10 : decode cX2_cellOf 10 = .ok (.aload_n 0, 1) := by decide +kernel
theorem dX2_cellOf_11 : decode cX2_cellOf 11 = .ok (.getfield 23, 3) := by decide +kernel
theorem dX2_cellOf_14 : decode cX2_cellOf 14 = .ok (.iload 5, 2) := by decide +kernel
theorem dX2_cellOf_16 : decode cX2_cellOf 16 = .ok (.iaload, 1) := by decide +kernel
theorem dX2_cellOf_17 : decode cX2_cellOf 17 = .ok (.iconst (-1), 1) := by decide +kernel
theorem dX2_cellOf_18 : decode cX2_cellOf 18 = .ok (.if_icmp .ne 5, 3) := by decide +kernel
theorem dX2_cellOf_21 : decode cX2_cellOf 21 = .ok (.iconst (-1), 1) := by decide +kernel
theorem dX2_cellOf_22 : decode cX2_cellOf 22 = .ok (.ireturn, 1) := by decide +kernel
theorem dX2_cellOf_23 : decode cX2_cellOf 23 = .ok (.aload_n 0, 1) := by decide +kernel
theorem dX2_cellOf_24 : decode cX2_cellOf 24 = .ok (.getfield 22, 3) := by decide +kernel
theorem dX2_cellOf_27 : decode cX2_cellOf 27 = .ok (.aload_n 0, 1) := by decide +kernel
theorem dX2_cellOf_28 : decode cX2_cellOf 28 = .ok (.getfield 26, 3) := by decide +kernel
theorem dX2_cellOf_31 : decode cX2_cellOf 31 = .ok (.iload 5, 2) := by decide +kernel
theorem dX2_cellOf_33 : decode cX2_cellOf 33 = .ok (.iaload, 1) := by decide +kernel
theorem dX2_cellOf_34 : decode cX2_cellOf 34 = .ok (.iload_n 3, 1) := by decide +kernel
theorem dX2_cellOf_35 : decode cX2_cellOf 35 = .ok (.iadd, 1) := by decide +kernel
theorem dX2_cellOf_36 : decode cX2_cellOf 36 = .ok (.iaload, 1) := by decide +kernel
theorem dX2_cellOf_37 : decode cX2_cellOf 37 = .ok (.istore 6, 2) := by decide +kernel
theorem dX2_cellOf_39 : decode cX2_cellOf 39 = .ok (.aload_n 0, 1) := by decide +kernel
theorem dX2_cellOf_40 : decode cX2_cellOf 40 = .ok (.getfield 22, 3) := by decide +kernel
theorem dX2_cellOf_43 : decode cX2_cellOf 43 = .ok (.aload_n 0, 1) := by decide +kernel
theorem dX2_cellOf_44 : decode cX2_cellOf 44 = .ok (.getfield 29, 3) := by decide +kernel
theorem dX2_cellOf_47 : decode cX2_cellOf 47 = .ok (.iload 5, 2) := by decide +kernel
theorem dX2_cellOf_49 : decode cX2_cellOf 49 = .ok (.iaload, 1) := by decide +kernel
theorem dX2_cellOf_50 : decode cX2_cellOf 50 = .ok (.iload_n 3, 1) := by decide +kernel
theorem dX2_cellOf_51 : decode cX2_cellOf 51 = .ok (.iadd, 1) := by decide +kernel
theorem dX2_cellOf_52 : decode cX2_cellOf 52 = .ok (.iaload, 1) := by decide +kernel
theorem dX2_cellOf_53 : decode cX2_cellOf 53 = .ok (.istore 7, 2) := by decide +kernel
theorem dX2_cellOf_55 : decode cX2_cellOf 55 = .ok (.aload_n 0, 1) := by decide +kernel
theorem dX2_cellOf_56 : decode cX2_cellOf 56 = .ok (.getfield 23, 3) := by decide +kernel
theorem dX2_cellOf_59 : decode cX2_cellOf 59 = .ok (.iload 5, 2) := by decide +kernel
theorem dX2_cellOf_61 : decode cX2_cellOf 61 = .ok (.iaload, 1) := by decide +kernel
theorem dX2_cellOf_62 : decode cX2_cellOf 62 = .ok (.iload 6, 2) := by decide +kernel
theorem dX2_cellOf_64 : decode cX2_cellOf 64 = .ok (.iload 7, 2) := by decide +kernel
theorem dX2_cellOf_66 : decode cX2_cellOf 66 = .ok (.if_icmp .ge 8, 3) := by decide +kernel
theorem dX2_cellOf_69 : decode cX2_cellOf 69 = .ok (.iload 6, 2) := by decide +kernel
theorem dX2_cellOf_71 : decode cX2_cellOf 71 = .ok (.goto 5, 3) := by decide +kernel
theorem dX2_cellOf_74 : decode cX2_cellOf 74 = .ok (.iload 7, 2) := by decide +kernel
theorem dX2_cellOf_76 : decode cX2_cellOf 76 = .ok (.iload 4, 2) := by decide +kernel
theorem dX2_cellOf_78 : decode cX2_cellOf 78 = .ok (.invokestatic 55, 3) := by decide +kernel
theorem dX2_cellOf_81 : decode cX2_cellOf 81 = .ok (.ireturn, 1) := by decide +kernel
theorem dX3_init_0 : decode cX3_init 0 = .ok (.aload_n 0, 1) := by decide +kernel
theorem dX3_init_1 : decode cX3_init 1 = .ok (.invokespecial 3, 3) := by decide +kernel
theorem dX3_init_4 : decode cX3_init 4 = .ok (.aload_n 0, 1) := by decide +kernel
theorem dX3_init_5 : decode cX3_init 5 = .ok (.bipush 127, 2) := by decide +kernel
theorem dX3_init_7 : decode cX3_init 7 = .ok (.newarray .int, 2) := by decide +kernel
theorem dX3_init_9 : decode cX3_init 9 = .ok (.putfield 9, 3) := by decide +kernel
theorem dX3_init_12 : decode cX3_init 12 = .ok (.aload_n 0, 1) := by decide +kernel
theorem dX3_init_13 : decode cX3_init 13 = .ok (.aload_n 1, 1) := by decide +kernel
theorem dX3_init_14 : decode cX3_init 14 = .ok (.putfield 15, 3) := by decide +kernel
theorem dX3_init_17 : decode cX3_init 17 = .ok (.aload_n 0, 1) := by decide +kernel
theorem dX3_init_18 : decode cX3_init 18 = .ok (.aload_n 2, 1) := by decide +kernel
theorem dX3_init_19 : decode cX3_init 19 = .ok (.putfield 19, 3) := by decide +kernel
theorem dX3_init_22 : decode cX3_init 22 = .ok (.aload_n 0, 1) := by decide +kernel
theorem dX3_init_23 : decode cX3_init 23 = .ok (.aload_n 2, 1) := by decide +kernel
theorem dX3_init_24 : decode cX3_init 24 = .ok (.getfield 23, 3) := by decide +kernel
theorem dX3_init_27 : decode cX3_init 27 = .ok (.putfield 29, 3) := by decide +kernel
theorem dX3_init_30 : decode cX3_init 30 = .ok (.aload_n 0, 1) := by decide +kernel
theorem dX3_init_31 : decode cX3_init 31 = .ok (.aload_n 2, 1) := by decide +kernel
theorem dX3_init_32 : decode cX3_init 32 = .ok (.getfield 30, 3) := by decide +kernel
theorem dX3_init_35 : decode cX3_init 35 = .ok (.putfield 34, 3) := by decide +kernel
theorem dX3_init_38 : decode cX3_init 38 = .ok (.aload_n 0, 1) := by decide +kernel
theorem dX3_init_39 : decode cX3_init 39 = .ok (.aload_n 2, 1) := by decide +kernel
theorem dX3_init_40 : decode cX3_init 40 = .ok (.getfield 35, 3) := by decide +kernel
theorem dX3_init_43 : decode cX3_init 43 = .ok (.putfield 39, 3) := by decide +kernel
theorem dX3_init_46 : decode cX3_init 46 = .ok (.aload_n 0, 1) := by decide +kernel
theorem dX3_init_47 : decode cX3_init 47 = .ok (.aload_n 2, 1) := by decide +kernel
theorem dX3_init_48 : decode cX3_init 48 = .ok (.invokevirtual 40, 3) := by decide +kernel
theorem dX3_init_51 : decode cX3_init 51 = .ok (.newarray .int, 2) := by decide +kernel
theorem dX3_init_53 : decode cX3_init 53 = .ok (.putfield 44, 3) := by decide +kernel
theorem dX3_init_56 : decode cX3_init 56 = .ok (.aload_n 0, 1) := by decide +kernel
theorem dX3_init_57 : decode cX3_init 57 = .ok (.getfield 39, 3) := by decide +kernel
theorem dX3_init_60 : decode cX3_init 60 = .ok (.iconst 2, 1) := by decide +kernel
theorem dX3_init_61 : decode cX3_init 61 = .ok (.if_icmp .ne 18, 3) := by decide +kernel
theorem dX3_init_64 : decode cX3_init 64 = .ok (.aload_n 0, 1) := by decide +kernel
theorem dX3_init_65 : decode cX3_init 65 = .ok (.getfield 29, 3) := by decide +kernel
theorem dX3_init_68 : decode cX3_init 68 = .ok (.getfield 47, 3) := by decide +kernel
theorem dX3_init_71 : decode cX3_init 71 = .ok (.aload_n 1, 1) := by decide +kernel
theorem dX3_init_72 : decode cX3_init 72 = .ok (.getfield 51, 3) := by decide +kernel
theorem dX3_init_75 : decode cX3_init 75 = .ok (.imul, 1) := by decide +kernel
theorem dX3_init_76 : decode cX3_init 76 = .ok (.goto 4, 3) := by decide +kernel
theorem dX3_init_79 : decode cX3_init 79 = .ok (.iconst 0, 1) := by decide +kernel
theorem dX3_init_80 : decode cX3_init 80 = .ok (.istore_n 3, 1) := by decide +kernel
theorem dX3_init_81 : decode cX3_init 81 = .ok (.aload_n 0, 1) := by decide +kernel
theorem dX3_init_82 : decode cX3_init 82 = .ok (.iload_n 3, 1) := by decide +kernel
theorem dX3_init_83 : decode cX3_init 83 = .ok (.newarray .int, 2) := by decide +kernel
theorem dX3_init_85 : decode cX3_init 85 = .ok (.putfield 56, 3) := by decide +kernel
theorem dX3_init_88 : decode cX3_init 88 = .ok (.aload_n 0, 1) := by decide +kernel
theorem dX3_init_89 : decode cX3_init 89 = .ok (.iload_n 3, 1) := by decide +kernel
theorem dX3_init_90 : decode cX3_init 90 = .ok (.newarray .int, 2) := by decide +kernel
theorem dX3_init_92 : decode cX3_init 92 = .ok (.putfield 59, 3) := by decide +kernel
theorem dX3_init_95 : decode cX3_init 95 = .ok (.aload_n 0, 1) := by decide +kernel
theorem dX3_init_96 : decode cX3_init 96 = .ok (.getfield 9, 3) := by decide +kernel
theorem dX3_init_99 : decode cX3_init 99 = .ok (.iconst (-1), 1) := by decide +kernel
theorem dX3_init_100 : decode cX3_init 100 = .ok (.invokestatic 62, 3) := by decide +kernel
theorem dX3_init_103 : decode cX3_init 103 = .ok (.return_, 1) := by decide +kernel
theorem dX3_work_0 : decode cX3_work 0 = .ok (.aload_n 0, 1) := by decide +kernel
theorem dX3_work_1 : decode cX3_work 1 = .ok (.invokevirtual 68, 3) := by decide +kernel
theorem dX3_work_4 : decode cX3_work 4 = .ok (.aload_n 0, 1) := by decide +kernel
theorem dX3_work_5 : decode cX3_work 5 = .ok (.getfield 39, 3) := by decide +kernel
theorem dX3_work_8 : decode cX3_work 8 = .ok (.iconst 2, 1) := by decide +kernel
theorem dX3_work_9 : decode cX3_work 9 = .ok (.if_icmp .ne 17, 3) := by decide +kernel
theorem dX3_work_12 : decode cX3_work 12 = .ok (.aload_n 1, 1) := by decide +kernel
theorem dX3_work_13 : decode cX3_work 13 = .ok (.ifnull 13, 3) := by decide +kernel
theorem dX3_work_16 : decode cX3_work 16 = .ok (.aload_n 2, 1) := by decide +kernel
theorem dX3_work_17 : decode cX3_work 17 = .ok (.ifnull 9, 3) := by decide +kernel
theorem dX3_work_20 : decode cX3_work 20 = .ok (.aload_n 0, 1) := by decide +kernel
theorem dX3_work_21 : decode cX3_work 21 = .ok (.aload_n 1, 1) := by decide +kernel
theorem dX3_work_22 : decode cX3_work 22 = .ok (.aload_n 2, 1) := by decide +kernel
theorem dX3_work_23 : decode cX3_work 23 = .ok (.invokevirtual 71, 3) := by decide +kernel
theorem dX3_work_26 : decode cX3_work 26 = .ok (.iconst 0, 1) := by decide +kernel
theorem dX3_work_27 : decode cX3_work 27 = .ok (.istore_n 3, 1) := by decide +kernel
theorem dX3_work_28 : decode cX3_work 28 = .ok (.iconst 0, 1) := by decide +kernel
theorem dX3_work_29 : decode cX3_work 29 = .ok (.istore 4, 2) := by decide +kernel
theorem dX3_work_31 : decode cX3_work 31 = .ok (.iload 4, 2) := by decide +kernel
theorem dX3_work_33 : decode cX3_work 33 = .ok (.bipush 126, 2) := by decide +kernel
theorem dX3_work_35 : decode cX3_work 35 = .ok (.if_icmp .ge 47, 3) := by decide +kernel
theorem dX3_work_38 : decode cX3_work 38 = .ok (.aload_n 0, 1) := by decide +kernel
theorem dX3_work_39 : decode cX3_work 39 = .ok (.iload 4, 2) := by decide +kernel
theorem dX3_work_41 : decode cX3_work 41 = .ok (.invokevirtual 75, 3) := by decide +kernel
theorem dX3_work_44 : decode cX3_work 44 = .ok (.aload_n 0, 1) := by decide +kernel
theorem dX3_work_45 : decode cX3_work 45 = .ok (.getfield 79, 3) := by decide +kernel
theorem dX3_work_48 : decode cX3_work 48 = .ok (.istore 5, 2) := by decide +kernel
theorem dX3_work_50 : decode cX3_work 50 = .ok (.iload_n 3, 1) := by decide +kernel
theorem dX3_work_51 : decode cX3_work 51 = .ok (.iload 5, 2) := by decide +kernel
theorem dX3_work_53 : decode cX3_work 53 = .ok (.if_icmp .ge 23, 3) := by decide +kernel
theorem dX3_work_56 : decode cX3_work 56 = .ok (.aload_n 0, 1) := by decide +kernel
theorem dX3_work_57 : decode cX3_work 57 = .ok (.aload_n 0, 1) := by decide +kernel
theorem dX3_work_58 : decode cX3_work 58 = .ok (.getfield 44, 3) := by decide +kernel
theorem dX3_work_61 : decode cX3_work 61 = .ok (.iload_n 3, 1) := by decide +kernel
theorem dX3_work_62 : decode cX3_work 62 = .ok (.iaload, 1) := by decide +kernel
theorem dX3_work_63 : decode cX3_work 63 = .ok (.iload 4, 2) := by decide +kernel
theorem dX3_work_65 : decode cX3_work 65 = .ok (.iconst 1, 1) := by decide +kernel
theorem dX3_work_66 : decode cX3_work 66 = .ok (.iadd, 1) := by decide +kernel
theorem dX3_work_67 : decode cX3_work 67 = .ok (.invokevirtual 82, 3) := by decide +kernel
theorem dX3_work_70 : decode cX3_work 70 = .ok (.iinc 3 1, 3) := by decide +kernel
theorem dX3_work_73 : decode cX3_work 73 = .ok (.goto (-23), 3) := by decide +kernel
theorem dX3_work_76 : decode cX3_work 76 = .ok (.iinc 4 1, 3) := by decide +kernel
theorem dX3_work_79 : decode cX3_work 79 = .ok (.goto (-48), 3) := by decide +kernel
theorem dX3_work_82 : decode cX3_work 82 = .ok (.return_, 1) := by decide +kernel
theorem dX3_findMates_0 : decode cX3_findMates 0 = .ok (.iconst 1, 1) := by decide +kernel
theorem dX3_findMates_1 : decode cX3_findMates 1 = .ok (.istore_n 1, 1) := by decide +kernel
theorem dX3_findMates_2 : decode cX3_findMates 2 = .ok (.iload_n 1, 1) := by decide +kernel
theorem dX3_findMates_3 : decode cX3_findMates 3 = .ok (.aload_n 0, 1) := by decide +kernel
theorem dX3_findMates_4 : decode cX3_findMates 4 = .ok (.getfield 34, 3) := by decide +kernel
theorem dX3_findMates_7 : decode cX3_findMates 7 = .ok (.arraylength, 1) := by decide +kernel
theorem dX3_findMates_8 : decode cX3_findMates 8 = .ok (.if_icmp .ge 33, 3) := by decide +kernel
theorem dX3_findMates_11 : decode cX3_findMates 11 = .ok (.aload_n 0, 1) := by decide +kernel
theorem dX3_findMates_12 : decode cX3_findMates 12 = .ok (.getfield 34, 3) := by decide +kernel
theorem dX3_findMates_15 : decode cX3_findMates 15 = .ok (.iload_n 1, 1) := by decide +kernel
theorem dX3_findMates_16 : decode cX3_findMates 16 = .ok (.baload, 1) := by decide +kernel
theorem dX3_findMates_17 : decode cX3_findMates 17 = .ok (.iconst (-1), 1) := by decide +kernel
theorem dX3_findMates_18 : decode cX3_findMates 18 = .ok (.if_icmp .ne 17, 3) := by decide +kernel
theorem dX3_findMates_21 : decode cX3_findMates 21 = .ok (.aload_n 0, 1) := by decide +kernel
theorem dX3_findMates_22 : decode cX3_findMates 22 = .ok (.iload_n 1, 1) := by decide +kernel
theorem dX3_findMates_23 : decode cX3_findMates 23 = .ok (.invokevirtual 86, 3) := by decide +kernel
theorem dX3_findMates_26 : decode cX3_findMates 26 = .ok (.ifCond .eq 9, 3) := by decide +kernel
theorem dX3_findMates_29 : decode cX3_findMates 29 = .ok (.aload_n 0, 1) := by decide +kernel
theorem dX3_findMates_30 : decode cX3_findMates 30 = .ok (.iload_n 1, 1) := by decide +kernel
theorem dX3_findMates_31 : decode cX3_findMates 31 = .ok (.iconst 0, 1) := by decide +kernel
theorem dX3_findMates_32 : decode cX3_findMates 32 = .ok (.invokevirtual 90, 3) := by decide +kernel
theorem dX3_findMates_35 : decode cX3_findMates 35 = .ok (.iinc 1 2, 3) := by decide +kernel
theorem dX3_findMates_38 : decode cX3_findMates 38 = .ok (.goto (-36), 3) := by decide +kernel
theorem dX3_findMates_41 : decode cX3_findMates 41 = .ok (.return_, 1) := by decide +kernel
theorem dX3_isMate_0 : decode cX3_isMate 0 = .ok (.aload_n 0, 1) := by decide +kernel
theorem dX3_isMate_1 : decode cX3_isMate 1 = .ok (.getfield 29, 3) := by decide +kernel
theorem dX3_isMate_4 : decode cX3_isMate 4 = .ok (.getfield 93, 3) := by decide +kernel
theorem dX3_isMate_7 : decode cX3_isMate 7 = .ok (.iload_n 1, 1) := by decide +kernel
theorem dX3_isMate_8 : decode cX3_isMate 8 = .ok (.invokestatic 96, 3) := by decide +kernel
theorem dX3_isMate_11 : decode cX3_isMate 11 = .ok (.iaload, 1) := by decide +kernel
theorem dX3_isMate_12 : decode cX3_isMate 12 = .ok (.istore_n 2, 1) := by decide +kernel
theorem dX3_isMate_13 : decode cX3_isMate 13 = .ok (.aload_n 0, 1) := by decide +kernel
theorem dX3_isMate_14 : decode cX3_isMate 14 = .ok (.getfield 29, 3) := by decide +kernel
theorem dX3_isMate_17 : decode cX3_isMate 17 = .ok (.getfield 100, 3) := by decide +kernel
theorem dX3_isMate_20 : decode cX3_isMate 20 = .ok (.iload_n 1, 1) := by decide +kernel
theorem dX3_isMate_21 : decode cX3_isMate 21 = .ok (.invokestatic 96, 3) := by decide +kernel
theorem dX3_isMate_24 : decode cX3_isMate 24 = .ok (.iaload, 1) := by decide +kernel
theorem dX3_isMate_25 : decode cX3_isMate 25 = .ok (.istore_n 3, 1) := by decide +kernel
theorem dX3_isMate_26 : decode cX3_isMate 26 = .ok (.iload_n 1, 1) := by decide +kernel
theorem dX3_isMate_27 : decode cX3_isMate 27 = .ok (.invokestatic 103, 3) := by decide +kernel
theorem dX3_isMate_30 : decode cX3_isMate 30 = .ok (.istore 4, 2) := by decide +kernel
theorem dX3_isMate_32 : decode cX3_isMate 32 = .ok (.aload_n 0, 1) := by decide +kernel
theorem dX3_isMate_33 : decode cX3_isMate 33 = .ok (.getfield 15, 3) := by decide +kernel
theorem dX3_isMate_36 : decode cX3_isMate 36 = .ok (.aload_n 0, 1) := by decide +kernel
theorem dX3_isMate_37 : decode cX3_isMate 37 = .ok (.getfield 39, 3) := by decide +kernel
theorem dX3_isMate_40 : decode cX3_isMate 40 = .ok (.iload_n 2, 1) := by decide +kernel
theorem dX3_isMate_41 : decode cX3_isMate 41 = .ok (.iload_n 3, 1) := by decide +kernel
theorem dX3_isMate_42 : decode cX3_isMate 42 = .ok (.iload 4, 2) := by decide +kernel
theorem dX3_isMate_44 : decode cX3_isMate 44 = .ok (.invokevirtual 106, 3) := by decide +kernel
theorem dX3_isMate_47 : decode cX3_isMate 47 = .ok (.ifCond .eq 27, 3) := by decide +kernel
theorem dX3_isMate_50 : decode cX3_isMate 50 = .ok (.aload_n 0, 1) := by decide +kernel
theorem dX3_isMate_51 : decode cX3_isMate 51 = .ok (.getfield 15, 3) := by decide +kernel
theorem dX3_isMate_54 : decode cX3_isMate 54 = .ok (.aload_n 0, 1) := by decide +kernel
theorem dX3_isMate_55 : decode cX3_isMate 55 = .ok (.getfield 39, 3) := by decide +kernel
theorem dX3_isMate_58 : decode cX3_isMate 58 = .ok (.iload_n 2, 1) := by decide +kernel
theorem dX3_isMate_59 : decode cX3_isMate 59 = .ok (.iload_n 3, 1) := by decide +kernel
theorem dX3_isMate_60 : decode cX3_isMate 60 = .ok (.iload 4, 2) := by decide +kernel
theorem dX3_isMate_62 : decode cX3_isMate 62 = .ok (.invokevirtual 110, 3) := by decide +kernel
theorem dX3_isMate_65 : decode cX3_isMate 65 = .ok (.lconst 0, 1) := by decide +kernel
theorem dX3_isMate_66 : decode cX3_isMate 66 = .ok (.lcmp, 1) := by decide +kernel
theorem dX3_isMate_67 : decode cX3_isMate 67 = .ok (.ifCond .ne 7, 3) := by decide +kernel
theorem dX3_isMate_70 : decode cX3_isMate 70 = .ok (.iconst 1, 1) := by decide +kernel
theorem dX3_isMate_71 : decode cX3_isMate 71 = .ok (.goto 4, 3) := by decide +kernel
theorem dX3_isMate_74 : decode cX3_isMate 74 = .ok (.iconst 0, 1) := by decide +kernel
theorem dX3_isMate_75 : decode cX3_isMate 75 = .ok (.ireturn, 1) := by decide +kernel
theorem dX3_findPromotions_0 : decode cX3_findPromotions 0 = .ok (.iconst 0, 1) := by decide +kernel
theorem dX3_findPromotions_1 : decode cX3_findPromotions 1 = .ok (.istore_n 3, 1) := by decide +kernel
theorem dX3_findPromotions_2 : decode cX3_findPromotions 2 = .ok (.iload_n 3, 1) := by decide +kernel
theorem dX3_findPromotions_3 : decode cX3_findPromotions 3 = .ok (.aload_n 0, 1) := by decide +kernel
theorem dX3_findPromotions_4 : decode cX3_findPromotions 4 = .ok (.getfield 29, 3) := by decide +kernel
theorem dX3_findPromotions_7 : decode cX3_findPromotions 7 = .ok (.getfield 47, 3) := by decide +kernel
theorem dX3_findPromotions_10 : decode cX3_findPromotions 10 = .ok (.if_icmp .ge 147, 3) := by decide +kernel
theorem dX3_findPromotions_13 : decode cX3_findPromotions 13 = .ok (.aload_n 0, 1) := by decide +kernel
theorem dX3_findPromotions_14 : decode cX3_findPromotions 14 = .ok (.getfield 29, 3) := by decide +kernel
theorem dX3_findPromotions_17 : decode cX3_findPromotions 17 = .ok (.getfield 93, 3) := by decide +kernel
theorem dX3_findPromotions_20 : decode cX3_findPromotions 20 = .ok (.iload_n 3, 1) := by decide +kernel
theorem dX3_findPromotions_21 : decode cX3_findPromotions 21 = .ok (.iaload, 1) := by decide +kernel
theorem dX3_findPromotions_22 : decode cX3_findPromotions 22 = .ok (.istore 4, 2) := by decide +kernel
theorem dX3_findPromotions_24 : decode cX3_findPromotions 24 = .ok (.aload_n 0, 1) := by decide +kernel
theorem dX3_findPromotions_25 : decode cX3_findPromotions 25 = .ok (.getfield 29, 3) := by decide +kernel
theorem dX3_findPromotions_28 : decode cX3_findPromotions 28 = .ok (.getfield 100, 3) := by decide +kernel
theorem dX3_findPromotions_31 : decode cX3_findPromotions 31 = .ok (.iload_n 3, 1) := by decide +kernel
theorem dX3_findPromotions_32 : decode cX3_findPromotions 32 = .ok (.iaload, 1) := by decide +kernel
theorem dX3_findPromotions_33 : decode cX3_findPromotions 33 = .ok (.istore 5, 2) := by decide +kernel
theorem dX3_findPromotions_35 : decode cX3_findPromotions 35 = .ok (.aload_n 0, 1) := by decide +kernel
theorem dX3_findPromotions_36 : decode cX3_findPromotions 36 = .ok (.getfield 15, 3) := by decide +kernel
theorem dX3_findPromotions_39 : decode cX3_findPromotions 39 = .ok (.getfield 114, 3) := by decide +kernel
theorem dX3_findPromotions_42 : decode cX3_findPromotions 42 = .ok (.aload_n 0, 1) := by decide +kernel
theorem dX3_findPromotions_43 : decode cX3_findPromotions 43 = .ok (.getfield 15, 3) := by decide +kernel
theorem dX3_findPromotions_46 : decode cX3_findPromotions 46 = .ok (.getfield 51, 3) := by decide +kernel
theorem dX3_findPromotions_49 : decode cX3_findPromotions 49 = .ok (.isub, 1) := by decide +kernel
theorem dX3_findPromotions_50 : decode cX3_findPromotions 50 = .ok (.istore 6, 2) := by decide +kernel
theorem dX3_findPromotions_52 : decode cX3_findPromotions 52 = .ok (.iload 6, 2) := by decide +kernel
theorem dX3_findPromotions_54 : decode cX3_findPromotions 54 = .ok (.aload_n 0, 1) := by decide +kernel
theorem dX3_findPromotions_55 : decode cX3_findPromotions 55 = .ok (.getfield 15, 3) := by decide +kernel
theorem dX3_findPromotions_58 : decode cX3_findPromotions 58 = .ok (.getfield 114, 3) := by decide +kernel
theorem dX3_findPromotions_61 : decode cX3_findPromotions 61 = .ok (.if_icmp .ge 90, 3) := by decide +kernel
theorem dX3_findPromotions_64 : decode cX3_findPromotions 64 = .ok (.iload_n 3, 1) := by decide +kernel
theorem dX3_findPromotions_65 : decode cX3_findPromotions 65 = .ok (.iload 6, 2) := by decide +kernel
theorem dX3_findPromotions_67 : decode cX3_findPromotions 67 = .ok (.aload_n 0, 1) := by decide +kernel
theorem dX3_findPromotions_68 : decode cX3_findPromotions 68 = .ok (.getfield 15, 3) := by decide +kernel
theorem dX3_findPromotions_71 : decode cX3_findPromotions 71 = .ok (.getfield 51, 3) := by decide +kernel
theorem dX3_findPromotions_74 : decode cX3_findPromotions 74 = .ok (.isub, 1) := by decide +kernel
theorem dX3_findPromotions_75 : decode cX3_findPromotions 75 = .ok (.iconst 0, 1) := by decide +kernel
theorem dX3_findPromotions_76 : decode cX3_findPromotions 76 = .ok (.invokestatic 117, 3) := by decide +kernel
theorem dX3_findPromotions_79 : decode cX3_findPromotions 79 = .ok (.istore 7, 2) := by decide +kernel
theorem dX3_findPromotions_81 : decode cX3_findPromotions 81 = .ok (.aload_n 0, 1) := by decide +kernel
theorem dX3_findPromotions_82 : decode cX3_findPromotions 82 = .ok (.getfield 34, 3) := by decide +kernel
theorem dX3_findPromotions_85 : decode cX3_findPromotions 85 = .ok (.iload 7, 2) := by decide +kernel
theorem dX3_findPromotions_87 : decode cX3_findPromotions 87 = .ok (.baload, 1) := by decide +kernel
theorem dX3_findPromotions_88 : decode cX3_findPromotions 88 = .ok (.iconst (-1), 1) := by decide +kernel
theorem dX3_findPromotions_89 : decode cX3_findPromotions 89 = .ok (.if_icmp .ne 56, 3) := by decide +kernel
theorem dX3_findPromotions_92 : decode cX3_findPromotions 92 = .ok (.iload 6, 2) := by decide +kernel
theorem dX3_findPromotions_94 : decode cX3_findPromotions 94 = .ok (.iload 4, 2) := by decide +kernel
theorem dX3_findPromotions_96 : decode cX3_findPromotions 96 = .ok (.if_icmp .eq 49, 3) := by decide +kernel
theorem dX3_findPromotions_99 : decode cX3_findPromotions 99 = .ok (.iload 6, 2) := by decide +kernel
theorem dX3_findPromotions_101 : decode cX3_findPromotions 101 = .ok (.iload 5, 2) := by decide +kernel
theorem dX3_findPromotions_103 : decode cX3_findPromotions 103 = .ok (.if_icmp .eq 42, 3) := by decide +kernel
theorem dX3_findPromotions_106 : decode cX3_findPromotions 106 = .ok (.aload_n 1, 1) := by decide +kernel
theorem dX3_findPromotions_107 : decode cX3_findPromotions 107 = .ok (.iload 4, 2) := by decide +kernel
theorem dX3_findPromotions_109 : decode cX3_findPromotions 109 = .ok (.iload 5, 2) := by decide +kernel
theorem dX3_findPromotions_111 : decode cX3_findPromotions 111 = .ok (.iload 6, 2) := by decide +kernel
theorem dX3_findPromotions_113 : decode cX3_findPromotions 113 = .ok (.iconst 1, 1) := by decide +kernel
theorem dX3_findPromotions_114 : decode cX3_findPromotions 114 = .ok (.invokevirtual 121, 3) := by decide +kernel
theorem dX3_findPromotions_117 : decode cX3_findPromotions 117 = .ok (.istore 8, 2) := by decide +kernel
theorem dX3_findPromotions_119 : decode cX3_findPromotions 119 = .ok (.aload_n 2, 1) := by decide +kernel
theorem dX3_findPromotions_120 : decode cX3_findPromotions 120 = .ok (.iload 4, 2) := by decide +kernel
theorem dX3_findPromotions_122 : decode cX3_findPromotions 122 = .ok (.iload 5, 2) := by decide +kernel
theorem dX3_findPromotions_124 : decode cX3_findPromotions 124 = .ok (.iload 6, 2) := by decide +kernel
theorem dX3_findPromotions_126 : decode cX3_findPromotions 126 = .ok (.iconst 1, 1) := by decide +kernel
theorem dX3_findPromotions_127 : decode cX3_findPromotions 127 = .ok (.invokevirtual 121, 3) := by decide +kernel
theorem dX3_findPromotions_130 : decode cX3_findPromotions 130 = .ok (.istore 9, 2) := by decide +kernel
theorem dX3_findPromotions_132 : decode cX3_findPromotions 132 = .ok (.aload_n 0, 1) := by decide +kernel
theorem dX3_findPromotions_133 : decode cX3_findPromotions 133 = .ok (.iload 7, 2) := by decide +kernel
theorem dX3_findPromotions_135 : decode cX3_findPromotions 135 = .ok (.iload 8, 2) := by decide +kernel
theorem dX3_findPromotions_137 : decode cX3_findPromotions 137 = .ok (.iload 9, 2) := by decide +kernel
theorem dX3_findPromotions_139 : decode cX3_findPromotions 139 = .ok (.invokestatic 125, 3) := by decide +kernel
theorem dX3_findPromotions_142 : decode cX3_findPromotions 142 = .ok (.invokevirtual 129, 3) := by decide +kernel
theorem dX3_findPromotions_145 : decode cX3_findPromotions 145 = .ok (.iinc 6 1, 3) := by decide +kernel
theorem dX3_findPromotions_148 : decode cX3_findPromotions 148 = .ok (.goto (-96), 3) := by decide +kernel
theorem dX3_findPromotions_151 : decode cX3_findPromotions 151 = .ok (.iinc 3 1, 3) := by decide +kernel
theorem dX3_findPromotions_154 : decode cX3_findPromotions 154 = .ok (.goto (-152), 3) := by decide +kernel
theorem dX3_findPromotions_157 : decode cX3_findPromotions 157 = .ok (.return_, 1) := by decide +kernel
theorem dX3_lesserDistance_0 : decode cX3_lesserDistance 0 = .ok (.iload_n 0, 1) := by decide +kernel
theorem dX3_lesserDistance_1 : decode cX3_lesserDistance 1 = .ok (.iconst (-1), 1) := by decide +kernel
theorem dX3_lesserDistance_2 : decode cX3_lesserDistance 2 = .ok (.if_icmp .eq 8, 3) := by decide +kernel
theorem dX3_lesserDistance_5 : decode cX3_lesserDistance 5 = .ok (.iload_n 1, 1) := by decide +kernel
theorem dX3_lesserDistance_6 : decode cX3_lesserDistance 6 = .ok (.iconst (-1), 1) := by decide +kernel
theorem dX3_lesserDistance_7 : decode cX3_lesserDistance 7 = .ok (.if_icmp .ne 9, 3) := by decide +kernel
theorem dX3_lesserDistance_10 : decode cX3_lesserDistance 10 = .ok (.iload_n 0, 1) := by decide +kernel
theorem dX3_lesserDistance_11 : decode cX3_lesserDistance 11 = .ok (.iload_n 1, 1) := by decide +kernel
theorem dX3_lesserDistance_12 : decode cX3_lesserDistance 12 = .ok (.invokestatic 132, 3) := by decide +kernel
theorem dX3_lesserDistance_15 : decode cX3_lesserDistance 15 = .ok (.ireturn, 1) := by decide +kernel
theorem dX3_lesserDistance_16 : decode cX3_lesserDistance 16 = .ok (.iload_n 0, 1) := by decide +kernel
theorem dX3_lesserDistance_17 : decode cX3_lesserDistance 17 = .ok (.iload_n 1, 1) := by decide +kernel
theorem dX3_lesserDistance_18 : decode cX3_lesserDistance 18 = .ok (.invokestatic 137, 3) := by decide +kernel
theorem dX3_lesserDistance_21 : decode cX3_lesserDistance 21 = .ok (.ireturn, 1) := by decide +kernel
theorem dX3_chainPromotion_0 : decode cX3_chainPromotion 0 = .ok (.iload_n 2, 1) := by decide +kernel
theorem dX3_chainPromotion_1 : decode cX3_chainPromotion 1 = .ok (.iconst (-1), 1) := by decide +kernel
theorem dX3_chainPromotion_2 : decode cX3_chainPromotion 2 = .ok (.if_icmp .eq 21, 3) := by decide +kernel
theorem dX3_chainPromotion_5 : decode cX3_chainPromotion 5 = .ok (.iload_n 2, 1) := by decide +kernel
theorem dX3_chainPromotion_6 : decode cX3_chainPromotion 6 = .ok (.bipush 126, 2) := by decide +kernel
theorem dX3_chainPromotion_8 : decode cX3_chainPromotion 8 = .ok (.if_icmp .ge 15, 3) := by decide +kernel
theorem dX3_chainPromotion_11 : decode cX3_chainPromotion 11 = .ok (.aload_n 0, 1) := by decide +kernel
theorem dX3_chainPromotion_12 : decode cX3_chainPromotion 12 = .ok (.getfield 140, 3) := by decide +kernel
theorem dX3_chainPromotion_15 : decode cX3_chainPromotion 15 = .ok (.aload_n 0, 1) := by decide +kernel
theorem dX3_chainPromotion_16 : decode cX3_chainPromotion 16 = .ok (.getfield 59, 3) := by decide +kernel
theorem dX3_chainPromotion_19 : decode cX3_chainPromotion 19 = .ok (.arraylength, 1) := by decide +kernel
theorem dX3_chainPromotion_20 : decode cX3_chainPromotion 20 = .ok (.if_icmp .lt 4, 3) := by decide +kernel
theorem dX3_chainPromotion_23 : decode cX3_chainPromotion 23 = .ok (.return_, 1) := by decide +kernel
theorem dX3_chainPromotion_24 : decode cX3_chainPromotion 24 = .ok (.aload_n 0, 1) := by decide +kernel
theorem dX3_chainPromotion_25 : decode cX3_chainPromotion 25 = .ok (.getfield 59, 3) := by decide +kernel
theorem dX3_chainPromotion_28 : decode cX3_chainPromotion 28 = .ok (.aload_n 0, 1) := by decide +kernel
theorem dX3_chainPromotion_29 : decode cX3_chainPromotion 29 = .ok (.getfield 140, 3) := by decide +kernel
theorem dX3_chainPromotion_32 : decode cX3_chainPromotion 32 = .ok (.iload_n 1, 1) := by decide +kernel
theorem dX3_chainPromotion_33 : decode cX3_chainPromotion 33 = .ok (.iastore, 1) := by decide +kernel
theorem dX3_chainPromotion_34 : decode cX3_chainPromotion 34 = .ok (.aload_n 0, 1) := by decide +kernel
theorem dX3_chainPromotion_35 : decode cX3_chainPromotion 35 = .ok (.getfield 56, 3) := by decide +kernel
theorem dX3_chainPromotion_38 : decode cX3_chainPromotion 38 = .ok (.aload_n 0, 1) := by decide +kernel
theorem dX3_chainPromotion_39 : decode cX3_chainPromotion 39 = .ok (.getfield 140, 3) := by decide +kernel
theorem dX3_chainPromotion_42 : decode cX3_chainPromotion 42 = .ok (.aload_n 0, 1) := by decide +kernel
theorem dX3_chainPromotion_43 : decode cX3_chainPromotion 43 = .ok (.getfield 9, 3) := by decide +kernel
theorem dX3_chainPromotion_46 : decode cX3_chainPromotion 46 = .ok (.iload_n 2, 1) := by decide +kernel
theorem dX3_chainPromotion_47 : decode cX3_chainPromotion 47 = .ok (.iconst 1, 1) := by decide +kernel
theorem dX3_chainPromotion_48 : decode cX3_chainPromotion 48 = .ok (.iadd, 1) := by decide +kernel
theorem dX3_chainPromotion_49 : decode cX3_chainPromotion 49 = .ok (.iaload, 1) := by decide +kernel
theorem dX3_chainPromotion_50 : decode cX3_chainPromotion 50 = .ok (.iastore, 1) := by decide +kernel
theorem dX3_chainPromotion_51 : decode cX3_chainPromotion 51 = .ok (.aload_n 0, 1) := by decide +kernel
theorem dX3_chainPromotion_52 : decode cX3_chainPromotion 52 = .ok (.getfield 9, 3) := by decide +kernel
theorem dX3_chainPromotion_55 : decode cX3_chainPromotion 55 = .ok (.iload_n 2, 1) := by decide +kernel
theorem dX3_chainPromotion_56 : decode cX3_chainPromotion 56 = .ok (.iconst 1, 1) := by decide +kernel
theorem dX3_chainPromotion_57 : decode cX3_chainPromotion 57 = .ok (.iadd, 1) := by decide +kernel
theorem dX3_chainPromotion_58 : decode cX3_chainPromotion 58 = .ok (.aload_n 0, 1) := by decide +kernel
theorem dX3_chainPromotion_59 : decode cX3_chainPromotion 59 = .ok (.getfield 140, 3) := by decide +kernel
theorem dX3_chainPromotion_62 : decode cX3_chainPromotion 62 = .ok (.iastore, 1) := by decide +kernel
theorem dX3_chainPromotion_63 : decode cX3_chainPromotion 63 = .ok (.aload_n 0, 1) := by decide +kernel
theorem dX3_chainPromotion_64 : decode cX3_chainPromotion 64 = .ok (.dup, 1) := by decide +kernel
theorem dX3_chainPromotion_65 : decode cX3_chainPromotion 65 = .ok (.getfield 140, 3) := by decide +kernel
theorem dX3_chainPromotion_68 : decode cX3_chainPromotion 68 = .ok (.iconst 1, 1) := by decide +kernel
theorem dX3_chainPromotion_69 : decode cX3_chainPromotion 69 = .ok (.iadd, 1) := by decide +kernel
theorem dX3_chainPromotion_70 : decode cX3_chainPromotion 70 = .ok (.putfield 140, 3) := by decide +kernel
theorem dX3_chainPromotion_73 : decode cX3_chainPromotion 73 = .ok (.return_, 1) := by decide +kernel
theorem dX3_settlePromotions_0 : decode cX3_settlePromotions 0 = .ok (.aload_n 0, 1) := by decide +kernel
theorem dX3_settlePromotions_1 : decode cX3_settlePromotions 1 = .ok (.getfield 9, 3) := by decide +kernel
theorem dX3_settlePromotions_4 : decode cX3_settlePromotions 4 = .ok (.iload_n 1, 1) := by decide +kernel
theorem dX3_settlePromotions_5 : decode cX3_settlePromotions 5 = .ok (.iaload, 1) := by decide +kernel
theorem dX3_settlePromotions_6 : decode cX3_settlePromotions 6 = .ok (.istore_n 2, 1) := by decide +kernel
theorem dX3_settlePromotions_7 : decode cX3_settlePromotions 7 = .ok (.aload_n 0, 1) := by decide +kernel
theorem dX3_settlePromotions_8 : decode cX3_settlePromotions 8 = .ok (.getfield 140, 3) := by decide +kernel
theorem dX3_settlePromotions_11 : decode cX3_settlePromotions 11 = .ok (.istore_n 3, 1) := by decide +kernel
theorem dX3_settlePromotions_12 : decode cX3_settlePromotions 12 = .ok (.iload_n 3, 1) := by decide +kernel
theorem dX3_settlePromotions_13 : decode cX3_settlePromotions 13 = .ok (.ifCond .le 32, 3) := by decide +kernel
theorem dX3_settlePromotions_16 : decode cX3_settlePromotions 16 = .ok (.iload_n 2, 1) := by decide +kernel
theorem dX3_settlePromotions_17 : decode cX3_settlePromotions 17 = .ok (.iconst (-1), 1) := by decide +kernel
theorem dX3_settlePromotions_18 : decode cX3_settlePromotions 18 = .ok (.if_icmp .eq 27, 3) := by decide +kernel
theorem dX3_settlePromotions_21 : decode cX3_settlePromotions 21 = .ok (.aload_n 0, 1) := by decide +kernel
theorem dX3_settlePromotions_22 : decode cX3_settlePromotions 22 = .ok (.aload_n 0, 1) := by decide +kernel
theorem dX3_settlePromotions_23 : decode cX3_settlePromotions 23 = .ok (.getfield 59, 3) := by decide +kernel
theorem dX3_settlePromotions_26 : decode cX3_settlePromotions 26 = .ok (.iload_n 2, 1) := by decide +kernel
theorem dX3_settlePromotions_27 : decode cX3_settlePromotions 27 = .ok (.iaload, 1) := by decide +kernel
theorem dX3_settlePromotions_28 : decode cX3_settlePromotions 28 = .ok (.iload_n 1, 1) := by decide +kernel
theorem dX3_settlePromotions_29 : decode cX3_settlePromotions 29 = .ok (.invokevirtual 90, 3) := by decide +kernel
theorem dX3_settlePromotions_32 : decode cX3_settlePromotions 32 = .ok (.aload_n 0, 1) := by decide +kernel
theorem dX3_settlePromotions_33 : decode cX3_settlePromotions 33 = .ok (.getfield 56, 3) := by decide +kernel
theorem dX3_settlePromotions_36 : decode cX3_settlePromotions 36 = .ok (.iload_n 2, 1) := by decide +kernel
theorem dX3_settlePromotions_37 : decode cX3_settlePromotions 37 = .ok (.iaload, 1) := by decide +kernel
theorem dX3_settlePromotions_38 : decode cX3_settlePromotions 38 = .ok (.istore_n 2, 1) := by decide +kernel
theorem dX3_settlePromotions_39 : decode cX3_settlePromotions 39 = .ok (.iinc 3 (-1), 3) := by decide +kernel
theorem dX3_settlePromotions_42 : decode cX3_settlePromotions 42 = .ok (.goto (-30), 3) := by decide +kernel
theorem dX3_settlePromotions_45 : decode cX3_settlePromotions 45 = .ok (.return_, 1) := by decide +kernel
theorem dX3_settle_0 : decode cX3_settle 0 = .ok (.iload_n 1, 1) := by decide +kernel
theorem dX3_settle_1 : decode cX3_settle 1 = .ok (.iconst (-1), 1) := by decide +kernel
theorem dX3_settle_2 : decode cX3_settle 2 = .ok (.if_icmp .eq 53, 3) := by decide +kernel
theorem dX3_settle_5 : decode cX3_settle 5 = .ok (.aload_n 0, 1) := by decide +kernel
theorem dX3_settle_6 : decode cX3_settle 6 = .ok (.getfield 34, 3) := by decide +kernel
theorem dX3_settle_9 : decode cX3_settle 9 = .ok (.iload_n 1, 1) := by decide +kernel
theorem dX3_settle_10 : decode cX3_settle 10 = .ok (.baload, 1) := by decide +kernel
theorem dX3_settle_11 : decode cX3_settle 11 = .ok (.iconst (-1), 1) := by decide +kernel
theorem dX3_settle_12 : decode cX3_settle 12 = .ok (.if_icmp .ne 43, 3) := by decide +kernel
theorem dX3_settle_15 : decode cX3_settle 15 = .ok (.aload_n 0, 1) := by decide +kernel
theorem dX3_settle_16 : decode cX3_settle 16 = .ok (.getfield 79, 3) := by decide +kernel
theorem dX3_settle_19 : decode cX3_settle 19 = .ok (.aload_n 0, 1) := by decide +kernel
theorem dX3_settle_20 : decode cX3_settle 20 = .ok (.getfield 44, 3) := by decide +kernel
theorem dX3_settle_23 : decode cX3_settle 23 = .ok (.arraylength, 1) := by decide +kernel
theorem dX3_settle_24 : decode cX3_settle 24 = .ok (.if_icmp .ge 31, 3) := by decide +kernel
theorem dX3_settle_27 : decode cX3_settle 27 = .ok (.aload_n 0, 1) := by decide +kernel
theorem dX3_settle_28 : decode cX3_settle 28 = .ok (.getfield 34, 3) := by decide +kernel
theorem dX3_settle_31 : decode cX3_settle 31 = .ok (.iload_n 1, 1) := by decide +kernel
theorem dX3_settle_32 : decode cX3_settle 32 = .ok (.iload_n 2, 1) := by decide +kernel
theorem dX3_settle_33 : decode cX3_settle 33 = .ok (.i2b, 1) := by decide +kernel
theorem dX3_settle_34 : decode cX3_settle 34 = .ok (.bastore, 1) := by decide +kernel
theorem dX3_settle_35 : decode cX3_settle 35 = .ok (.aload_n 0, 1) := by decide +kernel
theorem dX3_settle_36 : decode cX3_settle 36 = .ok (.getfield 44, 3) := by decide +kernel
theorem dX3_settle_39 : decode cX3_settle 39 = .ok (.aload_n 0, 1) := by decide +kernel
theorem dX3_settle_40 : decode cX3_settle 40 = .ok (.getfield 79, 3) := by decide +kernel
theorem dX3_settle_43 : decode cX3_settle 43 = .ok (.iload_n 1, 1) := by decide +kernel
theorem dX3_settle_44 : decode cX3_settle 44 = .ok (.iastore, 1) := by decide +kernel
theorem dX3_settle_45 : decode cX3_settle 45 = .ok (.aload_n 0, 1) := by decide +kernel
theorem dX3_settle_46 : decode cX3_settle 46 = .ok (.dup, 1) := by decide +kernel
theorem dX3_settle_47 : decode cX3_settle 47 = .ok (.getfield 79, 3) := by decide +kernel
theorem dX3_settle_50 : decode cX3_settle 50 = .ok (.iconst 1, 1) := by decide +kernel
theorem dX3_settle_51 : decode cX3_settle 51 = .ok (.iadd, 1) := by decide +kernel
theorem dX3_settle_52 : decode cX3_settle 52 = .ok (.putfield 79, 3) := by decide +kernel
theorem dX3_settle_55 : decode cX3_settle 55 = .ok (.return_, 1) := by decide +kernel
theorem dX3_goBackFrom_0 : decode cX3_goBackFrom 0 = .ok (.aload_n 0, 1) := by decide +kernel
theorem dX3_goBackFrom_1 : decode cX3_goBackFrom 1 = .ok (.getfield 29, 3) := by decide +kernel
theorem dX3_goBackFrom_4 : decode cX3_goBackFrom 4 = .ok (.getfield 93, 3) := by decide +kernel
theorem dX3_goBackFrom_7 : decode cX3_goBackFrom 7 = .ok (.iload_n 1, 1) := by decide +kernel
theorem dX3_goBackFrom_8 : decode cX3_goBackFrom 8 = .ok (.invokestatic 96, 3) := by decide +kernel
theorem dX3_goBackFrom_11 : decode cX3_goBackFrom 11 = .ok (.iaload, 1) := by decide +kernel
theorem dX3_goBackFrom_12 : decode cX3_goBackFrom 12 = .ok (.istore_n 3, 1) := by decide +kernel
theorem dX3_goBackFrom_13 : decode cX3_goBackFrom 13 = .ok (.aload_n 0, 1) := by decide +kernel
theorem dX3_goBackFrom_14 : decode cX3_goBackFrom 14 = .ok (.getfield 29, 3) := by decide +kernel
theorem dX3_goBackFrom_17 : decode cX3_goBackFrom 17 = .ok (.getfield 100, 3) := by decide +kernel
theorem dX3_goBackFrom_20 : decode cX3_goBackFrom 20 = .ok (.iload_n 1, 1) := by decide +kernel
theorem dX3_goBackFrom_21 : decode cX3_goBackFrom 21 = .ok (.invokestatic 96, 3) := by decide +kernel
theorem dX3_goBackFrom_24 : decode cX3_goBackFrom 24 = .ok (.iaload, 1) := by decide +kernel
theorem dX3_goBackFrom_25 : decode cX3_goBackFrom 25 = .ok (.istore 4, 2) := by decide +kernel
theorem dX3_goBackFrom_27 : decode cX3_goBackFrom 27 = .ok (.iload_n 1, 1) := by decide +kernel
theorem dX3_goBackFrom_28 : decode cX3_goBackFrom 28 = .ok (.invokestatic 103, 3) := by decide +kernel
theorem dX3_goBackFrom_31 : decode cX3_goBackFrom 31 = .ok (.istore 5, 2) := by decide +kernel
theorem dX3_goBackFrom_33 : decode cX3_goBackFrom 33 = .ok (.iload_n 1, 1) := by decide +kernel
theorem dX3_goBackFrom_34 : decode cX3_goBackFrom 34 = .ok (.invokestatic 143, 3) := by decide +kernel
theorem dX3_goBackFrom_37 : decode cX3_goBackFrom 37 = .ok (.iconst 1, 1) := by decide +kernel
theorem dX3_goBackFrom_38 : decode cX3_goBackFrom 38 = .ok (.if_icmp .ne 26, 3) := by decide +kernel
theorem dX3_goBackFrom_41 : decode cX3_goBackFrom 41 = .ok (.aload_n 0, 1) := by decide +kernel
theorem dX3_goBackFrom_42 : decode cX3_goBackFrom 42 = .ok (.iload_n 3, 1) := by decide +kernel
theorem dX3_goBackFrom_43 : decode cX3_goBackFrom 43 = .ok (.iload 4, 2) := by decide +kernel
theorem dX3_goBackFrom_45 : decode cX3_goBackFrom 45 = .ok (.iload 5, 2) := by decide +kernel
theorem dX3_goBackFrom_47 : decode cX3_goBackFrom 47 = .ok (.iload_n 2, 1) := by decide +kernel
theorem dX3_goBackFrom_48 : decode cX3_goBackFrom 48 = .ok (.invokevirtual 146, 3) := by decide +kernel
theorem dX3_goBackFrom_51 : decode cX3_goBackFrom 51 = .ok (.aload_n 0, 1) := by decide +kernel
theorem dX3_goBackFrom_52 : decode cX3_goBackFrom 52 = .ok (.iload_n 3, 1) := by decide +kernel
theorem dX3_goBackFrom_53 : decode cX3_goBackFrom 53 = .ok (.iload 4, 2) := by decide +kernel
theorem dX3_goBackFrom_55 : decode cX3_goBackFrom 55 = .ok (.iload 5, 2) := by decide +kernel
theorem dX3_goBackFrom_57 : decode cX3_goBackFrom 57 = .ok (.iload_n 2, 1) := by decide +kernel
theorem dX3_goBackFrom_58 : decode cX3_goBackFrom 58 = .ok (.invokevirtual 150, 3) := by decide +kernel
theorem dX3_goBackFrom_61 : decode cX3_goBackFrom 61 = .ok (.goto 13, 3) := by decide +kernel
theorem dX3_goBackFrom_64 : decode cX3_goBackFrom 64 = .ok (.aload_n 0, 1) := by decide +kernel
theorem dX3_goBackFrom_65 : decode cX3_goBackFrom 65 = .ok (.iload_n 3, 1) := by decide +kernel
theorem dX3_goBackFrom_66 : decode cX3_goBackFrom 66 = .ok (.iload 4, 2) := by decide +kernel
theorem dX3_goBackFrom_68 : decode cX3_goBackFrom 68 = .ok (.iload 5, 2) := by decide +kernel
theorem dX3_goBackFrom_70 : decode cX3_goBackFrom 70 = .ok (.iload_n 2, 1) := by decide +kernel
theorem dX3_goBackFrom_71 : decode cX3_goBackFrom 71 = .ok (.invokevirtual 153, 3) := by decide +kernel
theorem dX3_goBackFrom_74 : decode cX3_goBackFrom 74 = .ok (.return_, 1) := by decide +kernel
theorem dX3_takeKingBack_0 : decode cX3_takeKingBack 0 = .ok (.aload_n 0, 1) := by decide +kernel
theorem dX3_takeKingBack_1 : decode cX3_takeKingBack 1 = .ok (.getfield 15, 3) := by decide +kernel
theorem dX3_takeKingBack_4 : decode cX3_takeKingBack 4 = .ok (.iload_n 1, 1) := by decide +kernel
theorem dX3_takeKingBack_5 : decode cX3_takeKingBack 5 = .ok (.iload_n 2, 1) := by decide +kernel
theorem dX3_takeKingBack_6 : decode cX3_takeKingBack 6 = .ok (.iload_n 3, 1) := by decide +kernel
theorem dX3_takeKingBack_7 : decode cX3_takeKingBack 7 = .ok (.invokevirtual 156, 3) := by decide +kernel
theorem dX3_takeKingBack_10 : decode cX3_takeKingBack 10 = .ok (.lstore 5, 2) := by decide +kernel
theorem dX3_takeKingBack_12 : decode cX3_takeKingBack 12 = .ok (.lload 5, 2) := by decide +kernel
theorem dX3_takeKingBack_14 : decode cX3_takeKingBack 14 = .ok (.lconst 0, 1) := by decide +kernel
theorem dX3_takeKingBack_15 : decode cX3_takeKingBack 15 = .ok (.lcmp, 1) := by decide +kernel
theorem dX3_takeKingBack_16 : decode cX3_takeKingBack 16 = .ok (.ifCond .eq 36, 3) := by decide +kernel
theorem dX3_takeKingBack_19 : decode cX3_takeKingBack 19 = .ok (.aload_n 0, 1) := by decide +kernel
theorem dX3_takeKingBack_20 : decode cX3_takeKingBack 20 = .ok (.aload_n 0, 1) := by decide +kernel
theorem dX3_takeKingBack_21 : decode cX3_takeKingBack 21 = .ok (.getfield 29, 3) := by decide +kernel
theorem dX3_takeKingBack_24 : decode cX3_takeKingBack 24 = .ok (.lload 5, 2) := by decide +kernel
theorem dX3_takeKingBack_26 : decode cX3_takeKingBack 26 = .ok (.invokestatic 160, 3) := by decide +kernel
theorem dX3_takeKingBack_29 : decode cX3_takeKingBack 29 = .ok (.iload_n 2, 1) := by decide +kernel
theorem dX3_takeKingBack_30 : decode cX3_takeKingBack 30 = .ok (.iload_n 3, 1) := by decide +kernel
theorem dX3_takeKingBack_31 : decode cX3_takeKingBack 31 = .ok (.iconst 0, 1) := by decide +kernel
theorem dX3_takeKingBack_32 : decode cX3_takeKingBack 32 = .ok (.invokevirtual 164, 3) := by decide +kernel
theorem dX3_takeKingBack_35 : decode cX3_takeKingBack 35 = .ok (.iload 4, 2) := by decide +kernel
theorem dX3_takeKingBack_37 : decode cX3_takeKingBack 37 = .ok (.invokevirtual 90, 3) := by decide +kernel
theorem dX3_takeKingBack_40 : decode cX3_takeKingBack 40 = .ok (.lload 5, 2) := by decide +kernel
theorem dX3_takeKingBack_42 : decode cX3_takeKingBack 42 = .ok (.lload 5, 2) := by decide +kernel
theorem dX3_takeKingBack_44 : decode cX3_takeKingBack 44 = .ok (.lconst 1, 1) := by decide +kernel
theorem dX3_takeKingBack_45 : decode cX3_takeKingBack 45 = .ok (.lsub, 1) := by decide +kernel
theorem dX3_takeKingBack_46 : decode cX3_takeKingBack 46 = .ok (.land, 1) := by decide +kernel
theorem dX3_takeKingBack_47 : decode cX3_takeKingBack 47 = .ok (.lstore 5, 2) := by decide +kernel
theorem dX3_takeKingBack_49 : decode cX3_takeKingBack 49 = .ok (.goto (-37), 3) := by decide +kernel
theorem dX3_takeKingBack_52 : decode cX3_takeKingBack 52 = .ok (.return_, 1) := by decide +kernel
theorem dX3_takeManBack_0 : decode cX3_takeManBack 0 = .ok (.aload_n 0, 1) := by decide +kernel
theorem dX3_takeManBack_1 : decode cX3_takeManBack 1 = .ok (.getfield 39, 3) := by decide +kernel
theorem dX3_takeManBack_4 : decode cX3_takeManBack 4 = .ok (.iconst 2, 1) := by decide +kernel
theorem dX3_takeManBack_5 : decode cX3_takeManBack 5 = .ok (.if_icmp .ne 16, 3) := by decide +kernel
theorem dX3_takeManBack_8 : decode cX3_takeManBack 8 = .ok (.aload_n 0, 1) := by decide +kernel
theorem dX3_takeManBack_9 : decode cX3_takeManBack 9 = .ok (.getfield 15, 3) := by decide +kernel
theorem dX3_takeManBack_12 : decode cX3_takeManBack 12 = .ok (.iload_n 1, 1) := by decide +kernel
theorem dX3_takeManBack_13 : decode cX3_takeManBack 13 = .ok (.iload_n 2, 1) := by decide +kernel
theorem dX3_takeManBack_14 : decode cX3_takeManBack 14 = .ok (.iload_n 3, 1) := by decide +kernel
theorem dX3_takeManBack_15 : decode cX3_takeManBack 15 = .ok (.invokevirtual 167, 3) := by decide +kernel
theorem dX3_takeManBack_18 : decode cX3_takeManBack 18 = .ok (.goto 17, 3) := by decide +kernel
theorem dX3_takeManBack_21 : decode cX3_takeManBack 21 = .ok (.aload_n 0, 1) := by decide +kernel
theorem dX3_takeManBack_22 : decode cX3_takeManBack 22 = .ok (.getfield 15, 3) := by decide +kernel
theorem dX3_takeManBack_25 : decode cX3_takeManBack 25 = .ok (.aload_n 0, 1) := by decide +kernel
theorem dX3_takeManBack_26 : decode cX3_takeManBack 26 = .ok (.getfield 39, 3) := by decide +kernel
theorem dX3_takeManBack_29 : decode cX3_takeManBack 29 = .ok (.iload_n 1, 1) := by decide +kernel
theorem dX3_takeManBack_30 : decode cX3_takeManBack 30 = .ok (.iload_n 2, 1) := by decide +kernel
theorem dX3_takeManBack_31 : decode cX3_takeManBack 31 = .ok (.iload_n 3, 1) := by decide +kernel
theorem dX3_takeManBack_32 : decode cX3_takeManBack 32 = .ok (.invokevirtual 170, 3) := by decide +kernel
theorem dX3_takeManBack_35 : decode cX3_takeManBack 35 = .ok (.lstore 5, 2) := by decide +kernel
theorem dX3_takeManBack_37 : decode cX3_takeManBack 37 = .ok (.lload 5, 2) := by decide +kernel
theorem dX3_takeManBack_39 : decode cX3_takeManBack 39 = .ok (.lstore 7, 2) := by decide +kernel
theorem dX3_takeManBack_41 : decode cX3_takeManBack 41 = .ok (.lload 7, 2) := by decide +kernel
theorem dX3_takeManBack_43 : decode cX3_takeManBack 43 = .ok (.lconst 0, 1) := by decide +kernel
theorem dX3_takeManBack_44 : decode cX3_takeManBack 44 = .ok (.lcmp, 1) := by decide +kernel
theorem dX3_takeManBack_45 : decode cX3_takeManBack 45 = .ok (.ifCond .eq 36, 3) := by decide +kernel
theorem dX3_takeManBack_48 : decode cX3_takeManBack 48 = .ok (.aload_n 0, 1) := by decide +kernel
theorem dX3_takeManBack_49 : decode cX3_takeManBack 49 = .ok (.aload_n 0, 1) := by decide +kernel
theorem dX3_takeManBack_50 : decode cX3_takeManBack 50 = .ok (.getfield 29, 3) := by decide +kernel
theorem dX3_takeManBack_53 : decode cX3_takeManBack 53 = .ok (.iload_n 1, 1) := by decide +kernel
theorem dX3_takeManBack_54 : decode cX3_takeManBack 54 = .ok (.iload_n 2, 1) := by decide +kernel
theorem dX3_takeManBack_55 : decode cX3_takeManBack 55 = .ok (.lload 7, 2) := by decide +kernel
theorem dX3_takeManBack_57 : decode cX3_takeManBack 57 = .ok (.invokestatic 160, 3) := by decide +kernel
theorem dX3_takeManBack_60 : decode cX3_takeManBack 60 = .ok (.iconst 0, 1) := by decide +kernel
theorem dX3_takeManBack_61 : decode cX3_takeManBack 61 = .ok (.invokevirtual 164, 3) := by decide +kernel
theorem dX3_takeManBack_64 : decode cX3_takeManBack 64 = .ok (.iload 4, 2) := by decide +kernel
theorem dX3_takeManBack_66 : decode cX3_takeManBack 66 = .ok (.invokevirtual 90, 3) := by decide +kernel
theorem dX3_takeManBack_69 : decode cX3_takeManBack 69 = .ok (.lload 7, 2) := by decide +kernel
theorem dX3_takeManBack_71 : decode cX3_takeManBack 71 = .ok (.lload 7, 2) := by decide +kernel
theorem dX3_takeManBack_73 : decode cX3_takeManBack 73 = .ok (.lconst 1, 1) := by decide +kernel
theorem dX3_takeManBack_74 : decode cX3_takeManBack 74 = .ok (.lsub, 1) := by decide +kernel
theorem dX3_takeManBack_75 : decode cX3_takeManBack 75 = .ok (.land, 1) := by decide +kernel
theorem dX3_takeManBack_76 : decode cX3_takeManBack 76 = .ok (.lstore 7, 2) := by decide +kernel
theorem dX3_takeManBack_78 : decode cX3_takeManBack 78 = .ok (.goto (-37), 3) := by decide +kernel
theorem dX3_takeManBack_81 : decode cX3_takeManBack 81 = .ok (.return_, 1) := by decide +kernel
theorem dX3_takeBlackBack_0 : decode cX3_takeBlackBack 0 = .ok (.aload_n 0, 1) := by decide +kernel
theorem dX3_takeBlackBack_1 : decode cX3_takeBlackBack 1 = .ok (.getfield 15, 3) := by decide +kernel
theorem dX3_takeBlackBack_4 : decode cX3_takeBlackBack 4 = .ok (.iload_n 1, 1) := by decide +kernel
theorem dX3_takeBlackBack_5 : decode cX3_takeBlackBack 5 = .ok (.iload_n 2, 1) := by decide +kernel
theorem dX3_takeBlackBack_6 : decode cX3_takeBlackBack 6 = .ok (.iload_n 3, 1) := by decide +kernel
theorem dX3_takeBlackBack_7 : decode cX3_takeBlackBack 7 = .ok (.invokevirtual 173, 3) := by decide +kernel
theorem dX3_takeBlackBack_10 : decode cX3_takeBlackBack 10 = .ok (.lstore 5, 2) := by decide +kernel
theorem dX3_takeBlackBack_12 : decode cX3_takeBlackBack 12 = .ok (.lload 5, 2) := by decide +kernel
theorem dX3_takeBlackBack_14 : decode cX3_takeBlackBack 14 = .ok (.lconst 0, 1) := by decide +kernel
theorem dX3_takeBlackBack_15 : decode cX3_takeBlackBack 15 = .ok (.lcmp, 1) := by decide +kernel
theorem dX3_takeBlackBack_16 : decode cX3_takeBlackBack 16 = .ok (.ifCond .eq 72, 3) := by decide +kernel
theorem dX3_takeBlackBack_19 : decode cX3_takeBlackBack 19 = .ok (.lload 5, 2) := by decide +kernel
theorem dX3_takeBlackBack_21 : decode cX3_takeBlackBack 21 = .ok (.invokestatic 160, 3) := by decide +kernel
theorem dX3_takeBlackBack_24 : decode cX3_takeBlackBack 24 = .ok (.istore 7, 2) := by decide +kernel
theorem dX3_takeBlackBack_26 : decode cX3_takeBlackBack 26 = .ok (.aload_n 0, 1) := by decide +kernel
theorem dX3_takeBlackBack_27 : decode cX3_takeBlackBack 27 = .ok (.getfield 29, 3) := by decide +kernel
theorem dX3_takeBlackBack_30 : decode cX3_takeBlackBack 30 = .ok (.iload_n 1, 1) := by decide +kernel
theorem dX3_takeBlackBack_31 : decode cX3_takeBlackBack 31 = .ok (.iload 7, 2) := by decide +kernel
theorem dX3_takeBlackBack_33 : decode cX3_takeBlackBack 33 = .ok (.iload_n 3, 1) := by decide +kernel
theorem dX3_takeBlackBack_34 : decode cX3_takeBlackBack 34 = .ok (.iconst 1, 1) := by decide +kernel
theorem dX3_takeBlackBack_35 : decode cX3_takeBlackBack 35 = .ok (.invokevirtual 164, 3) := by decide +kernel
theorem dX3_takeBlackBack_38 : decode cX3_takeBlackBack 38 = .ok (.istore 8, 2) := by decide +kernel
theorem dX3_takeBlackBack_40 : decode cX3_takeBlackBack 40 = .ok (.iload 8, 2) := by decide +kernel
theorem dX3_takeBlackBack_42 : decode cX3_takeBlackBack 42 = .ok (.iconst (-1), 1) := by decide +kernel
theorem dX3_takeBlackBack_43 : decode cX3_takeBlackBack 43 = .ok (.if_icmp .eq 33, 3) := by decide +kernel
theorem dX3_takeBlackBack_46 : decode cX3_takeBlackBack 46 = .ok (.aload_n 0, 1) := by decide +kernel
theorem dX3_takeBlackBack_47 : decode cX3_takeBlackBack 47 = .ok (.getfield 34, 3) := by decide +kernel
theorem dX3_takeBlackBack_50 : decode cX3_takeBlackBack 50 = .ok (.iload 8, 2) := by decide +kernel
theorem dX3_takeBlackBack_52 : decode cX3_takeBlackBack 52 = .ok (.baload, 1) := by decide +kernel
theorem dX3_takeBlackBack_53 : decode cX3_takeBlackBack 53 = .ok (.iconst (-1), 1) := by decide +kernel
theorem dX3_takeBlackBack_54 : decode cX3_takeBlackBack 54 = .ok (.if_icmp .ne 22, 3) := by decide +kernel
