theorem dX7_init_0 : decode cX7_init 0 = .ok (.aload_n 0, 1) := by decide +kernel
theorem dX7_init_1 : decode cX7_init 1 = .ok (.invokespecial 1, 3) := by decide +kernel
theorem dX7_init_4 : decode cX7_init 4 = .ok (.aload_n 0, 1) := by decide +kernel
theorem dX7_init_5 : decode cX7_init 5 = .ok (.bipush 8, 2) := by decide +kernel
theorem dX7_init_7 : decode cX7_init 7 = .ok (.putfield 7, 3) := by decide +kernel
theorem dX7_init_10 : decode cX7_init 10 = .ok (.aload_n 0, 1) := by decide +kernel
theorem dX7_init_11 : decode cX7_init 11 = .ok (.bipush 64, 2) := by decide +kernel
theorem dX7_init_13 : decode cX7_init 13 = .ok (.putfield 13, 3) := by decide +kernel
theorem dX7_init_16 : decode cX7_init 16 = .ok (.aload_n 0, 1) := by decide +kernel
theorem dX7_init_17 : decode cX7_init 17 = .ok (.iconst 3, 1) := by decide +kernel
theorem dX7_init_18 : decode cX7_init 18 = .ok (.newarray .boolean, 2) := by decide +kernel
theorem dX7_init_20 : decode cX7_init 20 = .ok (.putfield 16, 3) := by decide +kernel
theorem dX7_init_23 : decode cX7_init 23 = .ok (.aload_n 0, 1) := by decide +kernel
theorem dX7_init_24 : decode cX7_init 24 = .ok (.ldc 20, 2) := by decide +kernel
theorem dX7_init_26 : decode cX7_init 26 = .ok (.newarray .byte, 2) := by decide +kernel
theorem dX7_init_28 : decode cX7_init 28 = .ok (.putfield 21, 3) := by decide +kernel
theorem dX7_init_31 : decode cX7_init 31 = .ok (.aload_n 0, 1) := by decide +kernel
theorem dX7_init_32 : decode cX7_init 32 = .ok (.ldc 25, 2) := by decide +kernel
theorem dX7_init_34 : decode cX7_init 34 = .ok (.newarray .int, 2) := by decide +kernel
theorem dX7_init_36 : decode cX7_init 36 = .ok (.putfield 26, 3) := by decide +kernel
theorem dX7_init_39 : decode cX7_init 39 = .ok (.aload_n 0, 1) := by decide +kernel
theorem dX7_init_40 : decode cX7_init 40 = .ok (.ldc 25, 2) := by decide +kernel
theorem dX7_init_42 : decode cX7_init 42 = .ok (.newarray .int, 2) := by decide +kernel
theorem dX7_init_44 : decode cX7_init 44 = .ok (.putfield 30, 3) := by decide +kernel
theorem dX7_init_47 : decode cX7_init 47 = .ok (.aload_n 0, 1) := by decide +kernel
theorem dX7_init_48 : decode cX7_init 48 = .ok (.iconst 3, 1) := by decide +kernel
theorem dX7_init_49 : decode cX7_init 49 = .ok (.newarray .int, 2) := by decide +kernel
theorem dX7_init_51 : decode cX7_init 51 = .ok (.putfield 33, 3) := by decide +kernel
theorem dX7_init_54 : decode cX7_init 54 = .ok (.aload_n 0, 1) := by decide +kernel
theorem dX7_init_55 : decode cX7_init 55 = .ok (.bipush 40, 2) := by decide +kernel
theorem dX7_init_57 : decode cX7_init 57 = .ok (.newarray .byte, 2) := by decide +kernel
theorem dX7_init_59 : decode cX7_init 59 = .ok (.putfield 36, 3) := by decide +kernel
theorem dX7_init_62 : decode cX7_init 62 = .ok (.aload_n 0, 1) := by decide +kernel
theorem dX7_init_63 : decode cX7_init 63 = .ok (.bipush 20, 2) := by decide +kernel
theorem dX7_init_65 : decode cX7_init 65 = .ok (.newarray .byte, 2) := by decide +kernel
theorem dX7_init_67 : decode cX7_init 67 = .ok (.putfield 39, 3) := by decide +kernel
theorem dX7_init_70 : decode cX7_init 70 = .ok (.aload_n 0, 1) := by decide +kernel
theorem dX7_init_71 : decode cX7_init 71 = .ok (.bipush 48, 2) := by decide +kernel
theorem dX7_init_73 : decode cX7_init 73 = .ok (.newarray .int, 2) := by decide +kernel
theorem dX7_init_75 : decode cX7_init 75 = .ok (.putfield 42, 3) := by decide +kernel
theorem dX7_init_78 : decode cX7_init 78 = .ok (.aload_n 0, 1) := by decide +kernel
theorem dX7_init_79 : decode cX7_init 79 = .ok (.bipush 48, 2) := by decide +kernel
theorem dX7_init_81 : decode cX7_init 81 = .ok (.newarray .int, 2) := by decide +kernel
theorem dX7_init_83 : decode cX7_init 83 = .ok (.putfield 45, 3) := by decide +kernel
theorem dX7_init_86 : decode cX7_init 86 = .ok (.aload_n 0, 1) := by decide +kernel
theorem dX7_init_87 : decode cX7_init 87 = .ok (.bipush 48, 2) := by decide +kernel
theorem dX7_init_89 : decode cX7_init 89 = .ok (.newarray .int, 2) := by decide +kernel
theorem dX7_init_91 : decode cX7_init 91 = .ok (.putfield 48, 3) := by decide +kernel
theorem dX7_init_94 : decode cX7_init 94 = .ok (.aload_n 0, 1) := by decide +kernel
theorem dX7_init_95 : decode cX7_init 95 = .ok (.bipush 48, 2) := by decide +kernel
theorem dX7_init_97 : decode cX7_init 97 = .ok (.newarray .int, 2) := by decide +kernel
theorem dX7_init_99 : decode cX7_init 99 = .ok (.putfield 51, 3) := by decide +kernel
theorem dX7_init_102 : decode cX7_init 102 = .ok (.aload_n 0, 1) := by decide +kernel
theorem dX7_init_103 : decode cX7_init 103 = .ok (.bipush 48, 2) := by decide +kernel
theorem dX7_init_105 : decode cX7_init 105 = .ok (.newarray .int, 2) := by decide +kernel
theorem dX7_init_107 : decode cX7_init 107 = .ok (.putfield 54, 3) := by decide +kernel
theorem dX7_init_110 : decode cX7_init 110 = .ok (.aload_n 0, 1) := by decide +kernel
theorem dX7_init_111 : decode cX7_init 111 = .ok (.bipush 48, 2) := by decide +kernel
theorem dX7_init_113 : decode cX7_init 113 = .ok (.newarray .int, 2) := by decide +kernel
theorem dX7_init_115 : decode cX7_init 115 = .ok (.putfield 57, 3) := by decide +kernel
theorem dX7_init_118 : decode cX7_init 118 = .ok (.aload_n 0, 1) := by decide +kernel
theorem dX7_init_119 : decode cX7_init 119 = .ok (.bipush 48, 2) := by decide +kernel
theorem dX7_init_121 : decode cX7_init 121 = .ok (.newarray .int, 2) := by decide +kernel
theorem dX7_init_123 : decode cX7_init 123 = .ok (.putfield 60, 3) := by decide +kernel
theorem dX7_init_126 : decode cX7_init 126 = .ok (.aload_n 0, 1) := by decide +kernel
theorem dX7_init_127 : decode cX7_init 127 = .ok (.bipush 48, 2) := by decide +kernel
theorem dX7_init_129 : decode cX7_init 129 = .ok (.newarray .int, 2) := by decide +kernel
theorem dX7_init_131 : decode cX7_init 131 = .ok (.putfield 63, 3) := by decide +kernel
theorem dX7_init_134 : decode cX7_init 134 = .ok (.aload_n 0, 1) := by decide +kernel
theorem dX7_init_135 : decode cX7_init 135 = .ok (.bipush 48, 2) := by decide +kernel
theorem dX7_init_137 : decode cX7_init 137 = .ok (.newarray .int, 2) := by decide +kernel
theorem dX7_init_139 : decode cX7_init 139 = .ok (.putfield 66, 3) := by decide +kernel
theorem dX7_init_142 : decode cX7_init 142 = .ok (.aload_n 0, 1) := by decide +kernel
theorem dX7_init_143 : decode cX7_init 143 = .ok (.bipush 48, 2) := by decide +kernel
theorem dX7_init_145 : decode cX7_init 145 = .ok (.newarray .int, 2) := by decide +kernel
theorem dX7_init_147 : decode cX7_init 147 = .ok (.putfield 69, 3) := by decide +kernel
theorem dX7_init_150 : decode cX7_init 150 = .ok (.aload_n 0, 1) := by decide +kernel
theorem dX7_init_151 : decode cX7_init 151 = .ok (.bipush 48, 2) := by decide +kernel
theorem dX7_init_153 : decode cX7_init 153 = .ok (.newarray .int, 2) := by decide +kernel
theorem dX7_init_155 : decode cX7_init 155 = .ok (.putfield 72, 3) := by decide +kernel
theorem dX7_init_158 : decode cX7_init 158 = .ok (.aload_n 0, 1) := by decide +kernel
theorem dX7_init_159 : decode cX7_init 159 = .ok (.iconst (-1), 1) := by decide +kernel
theorem dX7_init_160 : decode cX7_init 160 = .ok (.putfield 75, 3) := by decide +kernel
theorem dX7_init_163 : decode cX7_init 163 = .ok (.aload_n 0, 1) := by decide +kernel
theorem dX7_init_164 : decode cX7_init 164 = .ok (.sipush 640, 3) := by decide +kernel
theorem dX7_init_167 : decode cX7_init 167 = .ok (.newarray .int, 2) := by decide +kernel
theorem dX7_init_169 : decode cX7_init 169 = .ok (.putfield 78, 3) := by decide +kernel
theorem dX7_init_172 : decode cX7_init 172 = .ok (.return_, 1) := by decide +kernel
theorem dX7_thrown_0 : decode cX7_thrown 0 = .ok (.aload_n 0, 1) := by decide +kernel
theorem dX7_thrown_1 : decode cX7_thrown 1 = .ok (.getfield 81, 3) := by decide +kernel
theorem dX7_thrown_4 : decode cX7_thrown 4 = .ok (.ireturn, 1) := by decide +kernel
theorem dX7_in_0 : decode cX7_in 0 = .ok (.iload_n 0, 1) := by decide +kernel
theorem dX7_in_1 : decode cX7_in 1 = .ok (.iload_n 1, 1) := by decide +kernel
theorem dX7_in_2 : decode cX7_in 2 = .ok (.if_icmp .lt 12, 3) := by decide +kernel
theorem dX7_in_5 : decode cX7_in 5 = .ok (.iload_n 0, 1) := by decide +kernel
theorem dX7_in_6 : decode cX7_in 6 = .ok (.iload_n 2, 1) := by decide +kernel
theorem dX7_in_7 : decode cX7_in 7 = .ok (.if_icmp .gt 7, 3) := by decide +kernel
theorem dX7_in_10 : decode cX7_in 10 = .ok (.iconst 1, 1) := by decide +kernel
theorem dX7_in_11 : decode cX7_in 11 = .ok (.goto 4, 3) := by decide +kernel
theorem dX7_in_14 : decode cX7_in 14 = .ok (.iconst 0, 1) := by decide +kernel
theorem dX7_in_15 : decode cX7_in 15 = .ok (.ireturn, 1) := by decide +kernel
theorem dX7_isNext_0 : decode cX7_isNext 0 = .ok (.iload_n 1, 1) := by decide +kernel
theorem dX7_isNext_1 : decode cX7_isNext 1 = .ok (.aload_n 0, 1) := by decide +kernel
theorem dX7_isNext_2 : decode cX7_isNext 2 = .ok (.getfield 7, 3) := by decide +kernel
theorem dX7_isNext_5 : decode cX7_isNext 5 = .ok (.irem, 1) := by decide +kernel
theorem dX7_isNext_6 : decode cX7_isNext 6 = .ok (.iload_n 2, 1) := by decide +kernel
theorem dX7_isNext_7 : decode cX7_isNext 7 = .ok (.aload_n 0, 1) := by decide +kernel
theorem dX7_isNext_8 : decode cX7_isNext 8 = .ok (.getfield 7, 3) := by decide +kernel
theorem dX7_isNext_11 : decode cX7_isNext 11 = .ok (.irem, 1) := by decide +kernel
theorem dX7_isNext_12 : decode cX7_isNext 12 = .ok (.isub, 1) := by decide +kernel
theorem dX7_isNext_13 : decode cX7_isNext 13 = .ok (.istore_n 3, 1) := by decide +kernel
theorem dX7_isNext_14 : decode cX7_isNext 14 = .ok (.iload_n 1, 1) := by decide +kernel
theorem dX7_isNext_15 : decode cX7_isNext 15 = .ok (.aload_n 0, 1) := by decide +kernel
theorem dX7_isNext_16 : decode cX7_isNext 16 = .ok (.getfield 7, 3) := by decide +kernel
theorem dX7_isNext_19 : decode cX7_isNext 19 = .ok (.idiv, 1) := by decide +kernel
theorem dX7_isNext_20 : decode cX7_isNext 20 = .ok (.iload_n 2, 1) := by decide +kernel
theorem dX7_isNext_21 : decode cX7_isNext 21 = .ok (.aload_n 0, 1) := by decide +kernel
theorem dX7_isNext_22 : decode cX7_isNext 22 = .ok (.getfield 7, 3) := by decide +kernel
theorem dX7_isNext_25 : decode cX7_isNext 25 = .ok (.idiv, 1) := by decide +kernel
theorem dX7_isNext_26 : decode cX7_isNext 26 = .ok (.isub, 1) := by decide +kernel
theorem dX7_isNext_27 : decode cX7_isNext 27 = .ok (.istore 4, 2) := by decide +kernel
theorem dX7_isNext_29 : decode cX7_isNext 29 = .ok (.iload_n 1, 1) := by decide +kernel
theorem dX7_isNext_30 : decode cX7_isNext 30 = .ok (.iload_n 2, 1) := by decide +kernel
theorem dX7_isNext_31 : decode cX7_isNext 31 = .ok (.if_icmp .eq 26, 3) := by decide +kernel
theorem dX7_isNext_34 : decode cX7_isNext 34 = .ok (.iload_n 3, 1) := by decide +kernel
theorem dX7_isNext_35 : decode cX7_isNext 35 = .ok (.iconst (-1), 1) := by decide +kernel
theorem dX7_isNext_36 : decode cX7_isNext 36 = .ok (.iconst 1, 1) := by decide +kernel
theorem dX7_isNext_37 : decode cX7_isNext 37 = .ok (.invokestatic 84, 3) := by decide +kernel
theorem dX7_isNext_40 : decode cX7_isNext 40 = .ok (.ifCond .eq 17, 3) := by decide +kernel
theorem dX7_isNext_43 : decode cX7_isNext 43 = .ok (.iload 4, 2) := by decide +kernel
theorem dX7_isNext_45 : decode cX7_isNext 45 = .ok (.iconst (-1), 1) := by decide +kernel
theorem dX7_isNext_46 : decode cX7_isNext 46 = .ok (.iconst 1, 1) := by decide +kernel
theorem dX7_isNext_47 : decode cX7_isNext 47 = .ok (.invokestatic 84, 3) := by decide +kernel
theorem dX7_isNext_50 : decode cX7_isNext 50 = .ok (.ifCond .eq 7, 3) := by decide +kernel
theorem dX7_isNext_53 : decode cX7_isNext 53 = .ok (.iconst 1, 1) := by decide +kernel
theorem dX7_isNext_54 : decode cX7_isNext 54 = .ok (.goto 4, 3) := by decide +kernel
theorem dX7_isNext_57 : decode cX7_isNext 57 = .ok (.iconst 0, 1) := by decide +kernel
theorem dX7_isNext_58 : decode cX7_isNext 58 = .ok (.ireturn, 1) := by decide +kernel
theorem dX7_off_0 : decode cX7_off 0 = .ok (.iload_n 1, 1) := by decide +kernel
theorem dX7_off_1 : decode cX7_off 1 = .ok (.aload_n 0, 1) := by decide +kernel
theorem dX7_off_2 : decode cX7_off 2 = .ok (.getfield 7, 3) := by decide +kernel
theorem dX7_off_5 : decode cX7_off 5 = .ok (.irem, 1) := by decide +kernel
theorem dX7_off_6 : decode cX7_off 6 = .ok (.iload_n 2, 1) := by decide +kernel
theorem dX7_off_7 : decode cX7_off 7 = .ok (.iadd, 1) := by decide +kernel
theorem dX7_off_8 : decode cX7_off 8 = .ok (.istore 4, 2) := by decide +kernel
theorem dX7_off_10 : decode cX7_off 10 = .ok (.iload_n 1, 1) := by decide +kernel
theorem dX7_off_11 : decode cX7_off 11 = .ok (.aload_n 0, 1) := by decide +kernel
theorem dX7_off_12 : decode cX7_off 12 = .ok (.getfield 7, 3) := by decide +kernel
theorem dX7_off_15 : decode cX7_off 15 = .ok (.idiv, 1) := by decide +kernel
theorem dX7_off_16 : decode cX7_off 16 = .ok (.iload_n 3, 1) := by decide +kernel
theorem dX7_off_17 : decode cX7_off 17 = .ok (.iadd, 1) := by decide +kernel
theorem dX7_off_18 : decode cX7_off 18 = .ok (.istore 5, 2) := by decide +kernel
theorem dX7_off_20 : decode cX7_off 20 = .ok (.iload 4, 2) := by decide +kernel
theorem dX7_off_22 : decode cX7_off 22 = .ok (.iconst 0, 1) := by decide +kernel
theorem dX7_off_23 : decode cX7_off 23 = .ok (.aload_n 0, 1) := by decide +kernel
theorem dX7_off_24 : decode cX7_off 24 = .ok (.getfield 7, 3) := by decide +kernel
theorem dX7_off_27 : decode cX7_off 27 = .ok (.iconst 1, 1) := by decide +kernel
theorem dX7_off_28 : decode cX7_off 28 = .ok (.isub, 1) := by decide +kernel
theorem dX7_off_29 : decode cX7_off 29 = .ok (.invokestatic 84, 3) := by decide +kernel
theorem dX7_off_32 : decode cX7_off 32 = .ok (.ifCond .eq 31, 3) := by decide +kernel
theorem dX7_off_35 : decode cX7_off 35 = .ok (.iload 5, 2) := by decide +kernel
theorem dX7_off_37 : decode cX7_off 37 = .ok (.iconst 0, 1) := by decide +kernel
theorem dX7_off_38 : decode cX7_off 38 = .ok (.aload_n 0, 1) := by decide +kernel
theorem dX7_off_39 : decode cX7_off 39 = .ok (.getfield 7, 3) := by decide +kernel
theorem dX7_off_42 : decode cX7_off 42 = .ok (.iconst 1, 1) := by decide +kernel
theorem dX7_off_43 : decode cX7_off 43 = .ok (.isub, 1) := by decide +kernel
theorem dX7_off_44 : decode cX7_off 44 = .ok (.invokestatic 84, 3) := by decide +kernel
theorem dX7_off_47 : decode cX7_off 47 = .ok (.ifCond .eq 16, 3) := by decide +kernel
theorem dX7_off_50 : decode cX7_off 50 = .ok (.aload_n 0, 1) := by decide +kernel
theorem dX7_off_51 : decode cX7_off 51 = .ok (.getfield 7, 3) := by decide +kernel
theorem dX7_off_54 : decode cX7_off 54 = .ok (.iload 5, 2) := by decide +kernel
theorem dX7_off_56 : decode cX7_off 56 = .ok (.imul, 1) := by decide +kernel
theorem dX7_off_57 : decode cX7_off 57 = .ok (.iload 4, 2) := by decide +kernel
theorem dX7_off_59 : decode cX7_off 59 = .ok (.iadd, 1) := by decide +kernel
theorem dX7_off_60 : decode cX7_off 60 = .ok (.goto 4, 3) := by decide +kernel
theorem dX7_off_63 : decode cX7_off 63 = .ok (.iconst (-1), 1) := by decide +kernel
theorem dX7_off_64 : decode cX7_off 64 = .ok (.ireturn, 1) := by decide +kernel
theorem dX7_sign_0 : decode cX7_sign 0 = .ok (.iload_n 0, 1) := by decide +kernel
theorem dX7_sign_1 : decode cX7_sign 1 = .ok (.ifCond .le 7, 3) := by decide +kernel
theorem dX7_sign_4 : decode cX7_sign 4 = .ok (.iconst 1, 1) := by decide +kernel
theorem dX7_sign_5 : decode cX7_sign 5 = .ok (.goto 12, 3) := by decide +kernel
theorem dX7_sign_8 : decode cX7_sign 8 = .ok (.iload_n 0, 1) := by decide +kernel
theorem dX7_sign_9 : decode cX7_sign 9 = .ok (.ifCond .ge 7, 3) := by decide +kernel
theorem dX7_sign_12 : decode cX7_sign 12 = .ok (.iconst (-1), 1) := by decide +kernel
theorem dX7_sign_13 : decode cX7_sign 13 = .ok (.goto 4, 3) := by decide +kernel
theorem dX7_sign_16 : decode cX7_sign 16 = .ok (.iconst 0, 1) := by decide +kernel
theorem dX7_sign_17 : decode cX7_sign 17 = .ok (.ireturn, 1) := by decide +kernel
theorem dX7_attacks_0 : decode cX7_attacks 0 = .ok (.iload 5, 2) := by decide +kernel
theorem dX7_attacks_2 : decode cX7_attacks 2 = .ok (.aload_n 0, 1) := by decide +kernel
theorem dX7_attacks_3 : decode cX7_attacks 3 = .ok (.getfield 7, 3) := by decide +kernel
theorem dX7_attacks_6 : decode cX7_attacks 6 = .ok (.irem, 1) := by decide +kernel
theorem dX7_attacks_7 : decode cX7_attacks 7 = .ok (.iload 4, 2) := by decide +kernel
theorem dX7_attacks_9 : decode cX7_attacks 9 = .ok (.aload_n 0, 1) := by decide +kernel
theorem dX7_attacks_10 : decode cX7_attacks 10 = .ok (.getfield 7, 3) := by decide +kernel
theorem dX7_attacks_13 : decode cX7_attacks 13 = .ok (.irem, 1) := by decide +kernel
theorem dX7_attacks_14 : decode cX7_attacks 14 = .ok (.isub, 1) := by decide +kernel
theorem dX7_attacks_15 : decode cX7_attacks 15 = .ok (.istore 6, 2) := by decide +kernel
theorem dX7_attacks_17 : decode cX7_attacks 17 = .ok (.iload 5, 2) := by decide +kernel
theorem dX7_attacks_19 : decode cX7_attacks 19 = .ok (.aload_n 0, 1) := by decide +kernel
theorem dX7_attacks_20 : decode cX7_attacks 20 = .ok (.getfield 7, 3) := by decide +kernel
theorem dX7_attacks_23 : decode cX7_attacks 23 = .ok (.idiv, 1) := by decide +kernel
theorem dX7_attacks_24 : decode cX7_attacks 24 = .ok (.iload 4, 2) := by decide +kernel
theorem dX7_attacks_26 : decode cX7_attacks 26 = .ok (.aload_n 0, 1) := by decide +kernel
theorem dX7_attacks_27 : decode cX7_attacks 27 = .ok (.getfield 7, 3) := by decide +kernel
theorem dX7_attacks_30 : decode cX7_attacks 30 = .ok (.idiv, 1) := by decide +kernel
theorem dX7_attacks_31 : decode cX7_attacks 31 = .ok (.isub, 1) := by decide +kernel
theorem dX7_attacks_32 : decode cX7_attacks 32 = .ok (.istore 7, 2) := by decide +kernel
theorem dX7_attacks_34 : decode cX7_attacks 34 = .ok (.iload_n 1, 1) := by decide +kernel
theorem dX7_attacks_35 : decode cX7_attacks 35 = .ok (.iconst 2, 1) := by decide +kernel
theorem dX7_attacks_36 : decode cX7_attacks 36 = .ok (.if_icmp .ne 27, 3) := by decide +kernel
theorem dX7_attacks_39 : decode cX7_attacks 39 = .ok (.iload 7, 2) := by decide +kernel
theorem dX7_attacks_41 : decode cX7_attacks 41 = .ok (.iconst 1, 1) := by decide +kernel
theorem dX7_attacks_42 : decode cX7_attacks 42 = .ok (.if_icmp .ne 19, 3) := by decide +kernel
theorem dX7_attacks_45 : decode cX7_attacks 45 = .ok (.iload 6, 2) := by decide +kernel
theorem dX7_attacks_47 : decode cX7_attacks 47 = .ok (.iconst 1, 1) := by decide +kernel
theorem dX7_attacks_48 : decode cX7_attacks 48 = .ok (.if_icmp .eq 9, 3) := by decide +kernel
theorem dX7_attacks_51 : decode cX7_attacks 51 = .ok (.iload 6, 2) := by decide +kernel
theorem dX7_attacks_53 : decode cX7_attacks 53 = .ok (.iconst (-1), 1) := by decide +kernel
theorem dX7_attacks_54 : decode cX7_attacks 54 = .ok (.if_icmp .ne 7, 3) := by decide +kernel
theorem dX7_attacks_57 : decode cX7_attacks 57 = .ok (.iconst 1, 1) := by decide +kernel
theorem dX7_attacks_58 : decode cX7_attacks 58 = .ok (.goto 4, 3) := by decide +kernel
theorem dX7_attacks_61 : decode cX7_attacks 61 = .ok (.iconst 0, 1) := by decide +kernel
theorem dX7_attacks_62 : decode cX7_attacks 62 = .ok (.ireturn, 1) := by decide +kernel
theorem dX7_attacks_63 : decode cX7_attacks 63 = .ok (.iload 5, 2) := by decide +kernel
theorem dX7_attacks_65 : decode cX7_attacks 65 = .ok (.iload 4, 2) := by decide +kernel
theorem dX7_attacks_67 : decode cX7_attacks 67 = .ok (.if_icmp .eq 33, 3) := by decide +kernel
theorem dX7_attacks_70 : decode cX7_attacks 70 = .ok (.iload 6, 2) := by decide +kernel
theorem dX7_attacks_72 : decode cX7_attacks 72 = .ok (.ifCond .eq 30, 3) := by decide +kernel
theorem dX7_attacks_75 : decode cX7_attacks 75 = .ok (.iload 7, 2) := by decide +kernel
theorem dX7_attacks_77 : decode cX7_attacks 77 = .ok (.ifCond .eq 25, 3) := by decide +kernel
theorem dX7_attacks_80 : decode cX7_attacks 80 = .ok (.iload_n 1, 1) := by decide +kernel
theorem dX7_attacks_81 : decode cX7_attacks 81 = .ok (.iconst 1, 1) := by decide +kernel
theorem dX7_attacks_82 : decode cX7_attacks 82 = .ok (.if_icmp .eq 18, 3) := by decide +kernel
theorem dX7_attacks_85 : decode cX7_attacks 85 = .ok (.iload 6, 2) := by decide +kernel
theorem dX7_attacks_87 : decode cX7_attacks 87 = .ok (.iload 7, 2) := by decide +kernel
theorem dX7_attacks_89 : decode cX7_attacks 89 = .ok (.if_icmp .eq 13, 3) := by decide +kernel
theorem dX7_attacks_92 : decode cX7_attacks 92 = .ok (.iload 6, 2) := by decide +kernel
theorem dX7_attacks_94 : decode cX7_attacks 94 = .ok (.iload 7, 2) := by decide +kernel
theorem dX7_attacks_96 : decode cX7_attacks 96 = .ok (.ineg, 1) := by decide +kernel
theorem dX7_attacks_97 : decode cX7_attacks 97 = .ok (.if_icmp .eq 5, 3) := by decide +kernel
theorem dX7_attacks_100 : decode cX7_attacks 100 = .ok (.iconst 0, 1) := by decide +kernel
theorem dX7_attacks_101 : decode cX7_attacks 101 = .ok (.ireturn, 1) := by decide +kernel
theorem dX7_attacks_102 : decode cX7_attacks 102 = .ok (.aload_n 0, 1) := by decide +kernel
theorem dX7_attacks_103 : decode cX7_attacks 103 = .ok (.iload 4, 2) := by decide +kernel
theorem dX7_attacks_105 : decode cX7_attacks 105 = .ok (.iload 6, 2) := by decide +kernel
theorem dX7_attacks_107 : decode cX7_attacks 107 = .ok (.invokestatic 88, 3) := by decide +kernel
theorem dX7_attacks_110 : decode cX7_attacks 110 = .ok (.iload 7, 2) := by decide +kernel
theorem dX7_attacks_112 : decode cX7_attacks 112 = .ok (.invokestatic 88, 3) := by decide +kernel
theorem dX7_attacks_115 : decode cX7_attacks 115 = .ok (.invokevirtual 92, 3) := by decide +kernel
theorem dX7_attacks_118 : decode cX7_attacks 118 = .ok (.istore 8, 2) := by decide +kernel
theorem dX7_attacks_120 : decode cX7_attacks 120 = .ok (.iload 8, 2) := by decide +kernel
theorem dX7_attacks_122 : decode cX7_attacks 122 = .ok (.iload 5, 2) := by decide +kernel
theorem dX7_attacks_124 : decode cX7_attacks 124 = .ok (.if_icmp .eq 38, 3) := by decide +kernel
theorem dX7_attacks_127 : decode cX7_attacks 127 = .ok (.iload 8, 2) := by decide +kernel
theorem dX7_attacks_129 : decode cX7_attacks 129 = .ok (.iload_n 2, 1) := by decide +kernel
theorem dX7_attacks_130 : decode cX7_attacks 130 = .ok (.if_icmp .eq 9, 3) := by decide +kernel
theorem dX7_attacks_133 : decode cX7_attacks 133 = .ok (.iload 8, 2) := by decide +kernel
theorem dX7_attacks_135 : decode cX7_attacks 135 = .ok (.iload_n 3, 1) := by decide +kernel
theorem dX7_attacks_136 : decode cX7_attacks 136 = .ok (.if_icmp .ne 5, 3) := by decide +kernel
theorem dX7_attacks_139 : decode cX7_attacks 139 = .ok (.iconst 0, 1) := by decide +kernel
theorem dX7_attacks_140 : decode cX7_attacks 140 = .ok (.ireturn, 1) := by decide +kernel
theorem dX7_attacks_141 : decode cX7_attacks 141 = .ok (.aload_n 0, 1) := by decide +kernel
theorem dX7_attacks_142 : decode cX7_attacks 142 = .ok (.iload 8, 2) := by decide +kernel
theorem dX7_attacks_144 : decode cX7_attacks 144 = .ok (.iload 6, 2) := by decide +kernel
theorem dX7_attacks_146 : decode cX7_attacks 146 = .ok (.invokestatic 88, 3) := by decide +kernel
theorem dX7_attacks_149 : decode cX7_attacks 149 = .ok (.iload 7, 2) := by decide +kernel
theorem dX7_attacks_151 : decode cX7_attacks 151 = .ok (.invokestatic 88, 3) := by decide +kernel
theorem dX7_attacks_154 : decode cX7_attacks 154 = .ok (.invokevirtual 92, 3) := by decide +kernel
theorem dX7_attacks_157 : decode cX7_attacks 157 = .ok (.istore 8, 2) := by decide +kernel
theorem dX7_attacks_159 : decode cX7_attacks 159 = .ok (.goto (-39), 3) := by decide +kernel
theorem dX7_attacks_162 : decode cX7_attacks 162 = .ok (.iconst 1, 1) := by decide +kernel
theorem dX7_attacks_163 : decode cX7_attacks 163 = .ok (.ireturn, 1) := by decide +kernel
theorem dX7_legal_0 : decode cX7_legal 0 = .ok (.iload_n 2, 1) := by decide +kernel
theorem dX7_legal_1 : decode cX7_legal 1 = .ok (.iload_n 3, 1) := by decide +kernel
theorem dX7_legal_2 : decode cX7_legal 2 = .ok (.if_icmp .eq 24, 3) := by decide +kernel
theorem dX7_legal_5 : decode cX7_legal 5 = .ok (.iload_n 2, 1) := by decide +kernel
theorem dX7_legal_6 : decode cX7_legal 6 = .ok (.iload 4, 2) := by decide +kernel
theorem dX7_legal_8 : decode cX7_legal 8 = .ok (.if_icmp .eq 18, 3) := by decide +kernel
theorem dX7_legal_11 : decode cX7_legal 11 = .ok (.iload_n 3, 1) := by decide +kernel
theorem dX7_legal_12 : decode cX7_legal 12 = .ok (.iload 4, 2) := by decide +kernel
theorem dX7_legal_14 : decode cX7_legal 14 = .ok (.if_icmp .eq 12, 3) := by decide +kernel
theorem dX7_legal_17 : decode cX7_legal 17 = .ok (.aload_n 0, 1) := by decide +kernel
theorem dX7_legal_18 : decode cX7_legal 18 = .ok (.iload_n 2, 1) := by decide +kernel
theorem dX7_legal_19 : decode cX7_legal 19 = .ok (.iload_n 3, 1) := by decide +kernel
theorem dX7_legal_20 : decode cX7_legal 20 = .ok (.invokevirtual 96, 3) := by decide +kernel
theorem dX7_legal_23 : decode cX7_legal 23 = .ok (.ifCond .eq 5, 3) := by decide +kernel
theorem dX7_legal_26 : decode cX7_legal 26 = .ok (.iconst 0, 1) := by decide +kernel
theorem dX7_legal_27 : decode cX7_legal 27 = .ok (.ireturn, 1) := by decide +kernel
theorem dX7_legal_28 : decode cX7_legal 28 = .ok (.iload_n 1, 1) := by decide +kernel
theorem dX7_legal_29 : decode cX7_legal 29 = .ok (.iconst 2, 1) := by decide +kernel
theorem dX7_legal_30 : decode cX7_legal 30 = .ok (.if_icmp .ne 25, 3) := by decide +kernel
theorem dX7_legal_33 : decode cX7_legal 33 = .ok (.iload 4, 2) := by decide +kernel
theorem dX7_legal_35 : decode cX7_legal 35 = .ok (.aload_n 0, 1) := by decide +kernel
theorem dX7_legal_36 : decode cX7_legal 36 = .ok (.getfield 7, 3) := by decide +kernel
theorem dX7_legal_39 : decode cX7_legal 39 = .ok (.idiv, 1) := by decide +kernel
theorem dX7_legal_40 : decode cX7_legal 40 = .ok (.iconst 1, 1) := by decide +kernel
theorem dX7_legal_41 : decode cX7_legal 41 = .ok (.aload_n 0, 1) := by decide +kernel
theorem dX7_legal_42 : decode cX7_legal 42 = .ok (.getfield 7, 3) := by decide +kernel
theorem dX7_legal_45 : decode cX7_legal 45 = .ok (.iconst 2, 1) := by decide +kernel
theorem dX7_legal_46 : decode cX7_legal 46 = .ok (.isub, 1) := by decide +kernel
theorem dX7_legal_47 : decode cX7_legal 47 = .ok (.invokestatic 84, 3) := by decide +kernel
theorem dX7_legal_50 : decode cX7_legal 50 = .ok (.ifCond .ne 5, 3) := by decide +kernel
theorem dX7_legal_53 : decode cX7_legal 53 = .ok (.iconst 0, 1) := by decide +kernel
theorem dX7_legal_54 : decode cX7_legal 54 = .ok (.ireturn, 1) := by decide +kernel
theorem dX7_legal_55 : decode cX7_legal 55 = .ok (.iload 5, 2) := by decide +kernel
theorem dX7_legal_57 : decode cX7_legal 57 = .ok (.iconst 1, 1) := by decide +kernel
theorem dX7_legal_58 : decode cX7_legal 58 = .ok (.if_icmp .eq 16, 3) := by decide +kernel
theorem dX7_legal_61 : decode cX7_legal 61 = .ok (.aload_n 0, 1) := by decide +kernel
theorem dX7_legal_62 : decode cX7_legal 62 = .ok (.iload_n 1, 1) := by decide +kernel
theorem dX7_legal_63 : decode cX7_legal 63 = .ok (.iload_n 2, 1) := by decide +kernel
theorem dX7_legal_64 : decode cX7_legal 64 = .ok (.iload_n 3, 1) := by decide +kernel
theorem dX7_legal_65 : decode cX7_legal 65 = .ok (.iload 4, 2) := by decide +kernel
theorem dX7_legal_67 : decode cX7_legal 67 = .ok (.iload_n 3, 1) := by decide +kernel
theorem dX7_legal_68 : decode cX7_legal 68 = .ok (.invokevirtual 100, 3) := by decide +kernel
theorem dX7_legal_71 : decode cX7_legal 71 = .ok (.ifCond .ne 7, 3) := by decide +kernel
theorem dX7_legal_74 : decode cX7_legal 74 = .ok (.iconst 1, 1) := by decide +kernel
theorem dX7_legal_75 : decode cX7_legal 75 = .ok (.goto 4, 3) := by decide +kernel
theorem dX7_legal_78 : decode cX7_legal 78 = .ok (.iconst 0, 1) := by decide +kernel
theorem dX7_legal_79 : decode cX7_legal 79 = .ok (.ireturn, 1) := by decide +kernel
theorem dX7_areNumbers_0 : decode cX7_areNumbers 0 = .ok (.iload_n 1, 1) := by decide +kernel
theorem dX7_areNumbers_1 : decode cX7_areNumbers 1 = .ok (.iconst 0, 1) := by decide +kernel
theorem dX7_areNumbers_2 : decode cX7_areNumbers 2 = .ok (.iconst 2, 1) := by decide +kernel
theorem dX7_areNumbers_3 : decode cX7_areNumbers 3 = .ok (.invokestatic 84, 3) := by decide +kernel
theorem dX7_areNumbers_6 : decode cX7_areNumbers 6 = .ok (.ifCond .eq 60, 3) := by decide +kernel
theorem dX7_areNumbers_9 : decode cX7_areNumbers 9 = .ok (.iload_n 2, 1) := by decide +kernel
theorem dX7_areNumbers_10 : decode cX7_areNumbers 10 = .ok (.iconst 0, 1) := by decide +kernel
theorem dX7_areNumbers_11 : decode cX7_areNumbers 11 = .ok (.aload_n 0, 1) := by decide +kernel
theorem dX7_areNumbers_12 : decode cX7_areNumbers 12 = .ok (.getfield 13, 3) := by decide +kernel
theorem dX7_areNumbers_15 : decode cX7_areNumbers 15 = .ok (.iconst 1, 1) := by decide +kernel
theorem dX7_areNumbers_16 : decode cX7_areNumbers 16 = .ok (.isub, 1) := by decide +kernel
theorem dX7_areNumbers_17 : decode cX7_areNumbers 17 = .ok (.invokestatic 84, 3) := by decide +kernel
theorem dX7_areNumbers_20 : decode cX7_areNumbers 20 = .ok (.ifCond .eq 46, 3) := by decide +kernel
theorem dX7_areNumbers_23 : decode cX7_areNumbers 23 = .ok (.iload_n 3, 1) := by decide +kernel
theorem dX7_areNumbers_24 : decode cX7_areNumbers 24 = .ok (.iconst 0, 1) := by decide +kernel
theorem dX7_areNumbers_25 : decode cX7_areNumbers 25 = .ok (.aload_n 0, 1) := by decide +kernel
theorem dX7_areNumbers_26 : decode cX7_areNumbers 26 = .ok (.getfield 13, 3) := by decide +kernel
theorem dX7_areNumbers_29 : decode cX7_areNumbers 29 = .ok (.iconst 1, 1) := by decide +kernel
theorem dX7_areNumbers_30 : decode cX7_areNumbers 30 = .ok (.isub, 1) := by decide +kernel
theorem dX7_areNumbers_31 : decode cX7_areNumbers 31 = .ok (.invokestatic 84, 3) := by decide +kernel
theorem dX7_areNumbers_34 : decode cX7_areNumbers 34 = .ok (.ifCond .eq 32, 3) := by decide +kernel
theorem dX7_areNumbers_37 : decode cX7_areNumbers 37 = .ok (.iload 4, 2) := by decide +kernel
theorem dX7_areNumbers_39 : decode cX7_areNumbers 39 = .ok (.iconst 0, 1) := by decide +kernel
theorem dX7_areNumbers_40 : decode cX7_areNumbers 40 = .ok (.aload_n 0, 1) := by decide +kernel
theorem dX7_areNumbers_41 : decode cX7_areNumbers 41 = .ok (.getfield 13, 3) := by decide +kernel
theorem dX7_areNumbers_44 : decode cX7_areNumbers 44 = .ok (.iconst 1, 1) := by decide +kernel
theorem dX7_areNumbers_45 : decode cX7_areNumbers 45 = .ok (.isub, 1) := by decide +kernel
theorem dX7_areNumbers_46 : decode cX7_areNumbers 46 = .ok (.invokestatic 84, 3) := by decide +kernel
theorem dX7_areNumbers_49 : decode cX7_areNumbers 49 = .ok (.ifCond .eq 17, 3) := by decide +kernel
theorem dX7_areNumbers_52 : decode cX7_areNumbers 52 = .ok (.iload 5, 2) := by decide +kernel
theorem dX7_areNumbers_54 : decode cX7_areNumbers 54 = .ok (.iconst 0, 1) := by decide +kernel
theorem dX7_areNumbers_55 : decode cX7_areNumbers 55 = .ok (.iconst 1, 1) := by decide +kernel
theorem dX7_areNumbers_56 : decode cX7_areNumbers 56 = .ok (.invokestatic 84, 3) := by decide +kernel
theorem dX7_areNumbers_59 : decode cX7_areNumbers 59 = .ok (.ifCond .eq 7, 3) := by decide +kernel
theorem dX7_areNumbers_62 : decode cX7_areNumbers 62 = .ok (.iconst 1, 1) := by decide +kernel
theorem dX7_areNumbers_63 : decode cX7_areNumbers 63 = .ok (.goto 4, 3) := by decide +kernel
theorem dX7_areNumbers_66 : decode cX7_areNumbers 66 = .ok (.iconst 0, 1) := by decide +kernel
theorem dX7_areNumbers_67 : decode cX7_areNumbers 67 = .ok (.ireturn, 1) := by decide +kernel
theorem dX7_key_0 : decode cX7_key 0 = .ok (.iconst 2, 1) := by decide +kernel
theorem dX7_key_1 : decode cX7_key 1 = .ok (.iload_n 1, 1) := by decide +kernel
theorem dX7_key_2 : decode cX7_key 2 = .ok (.aload_n 0, 1) := by decide +kernel
theorem dX7_key_3 : decode cX7_key 3 = .ok (.getfield 13, 3) := by decide +kernel
theorem dX7_key_6 : decode cX7_key 6 = .ok (.imul, 1) := by decide +kernel
theorem dX7_key_7 : decode cX7_key 7 = .ok (.iload_n 2, 1) := by decide +kernel
theorem dX7_key_8 : decode cX7_key 8 = .ok (.iadd, 1) := by decide +kernel
theorem dX7_key_9 : decode cX7_key 9 = .ok (.aload_n 0, 1) := by decide +kernel
theorem dX7_key_10 : decode cX7_key 10 = .ok (.getfield 13, 3) := by decide +kernel
theorem dX7_key_13 : decode cX7_key 13 = .ok (.imul, 1) := by decide +kernel
theorem dX7_key_14 : decode cX7_key 14 = .ok (.iload_n 3, 1) := by decide +kernel
theorem dX7_key_15 : decode cX7_key 15 = .ok (.iadd, 1) := by decide +kernel
theorem dX7_key_16 : decode cX7_key 16 = .ok (.imul, 1) := by decide +kernel
theorem dX7_key_17 : decode cX7_key 17 = .ok (.iload 4, 2) := by decide +kernel
theorem dX7_key_19 : decode cX7_key 19 = .ok (.iadd, 1) := by decide +kernel
theorem dX7_key_20 : decode cX7_key 20 = .ok (.ireturn, 1) := by decide +kernel
theorem dX7_add_0 : decode cX7_add 0 = .ok (.aload_n 0, 1) := by decide +kernel
theorem dX7_add_1 : decode cX7_add 1 = .ok (.getfield 104, 3) := by decide +kernel
theorem dX7_add_4 : decode cX7_add 4 = .ok (.istore 8, 2) := by decide +kernel
theorem dX7_add_6 : decode cX7_add 6 = .ok (.iload 8, 2) := by decide +kernel
theorem dX7_add_8 : decode cX7_add 8 = .ok (.ifCond .le 160, 3) := by decide +kernel
theorem dX7_add_11 : decode cX7_add 11 = .ok (.aload_n 0, 1) := by decide +kernel
theorem dX7_add_12 : decode cX7_add 12 = .ok (.getfield 42, 3) := by decide +kernel
theorem dX7_add_15 : decode cX7_add 15 = .ok (.iload 8, 2) := by decide +kernel
theorem dX7_add_17 : decode cX7_add 17 = .ok (.iconst 1, 1) := by decide +kernel
theorem dX7_add_18 : decode cX7_add 18 = .ok (.isub, 1) := by decide +kernel
theorem dX7_add_19 : decode cX7_add 19 = .ok (.iaload, 1) := by decide +kernel
theorem dX7_add_20 : decode cX7_add 20 = .ok (.iload_n 1, 1) := by decide +kernel
theorem dX7_add_21 : decode cX7_add 21 = .ok (.if_icmp .gt 29, 3) := by decide +kernel
theorem dX7_add_24 : decode cX7_add 24 = .ok (.aload_n 0, 1) := by decide +kernel
theorem dX7_add_25 : decode cX7_add 25 = .ok (.getfield 42, 3) := by decide +kernel
theorem dX7_add_28 : decode cX7_add 28 = .ok (.iload 8, 2) := by decide +kernel
theorem dX7_add_30 : decode cX7_add 30 = .ok (.iconst 1, 1) := by decide +kernel
theorem dX7_add_31 : decode cX7_add 31 = .ok (.isub, 1) := by decide +kernel
theorem dX7_add_32 : decode cX7_add 32 = .ok (.iaload, 1) := by decide +kernel
theorem dX7_add_33 : decode cX7_add 33 = .ok (.iload_n 1, 1) := by decide +kernel
theorem dX7_add_34 : decode cX7_add 34 = .ok (.if_icmp .ne 134, 3) := by decide +kernel
theorem dX7_add_37 : decode cX7_add 37 = .ok (.aload_n 0, 1) := by decide +kernel
theorem dX7_add_38 : decode cX7_add 38 = .ok (.getfield 45, 3) := by decide +kernel
theorem dX7_add_41 : decode cX7_add 41 = .ok (.iload 8, 2) := by decide +kernel
theorem dX7_add_43 : decode cX7_add 43 = .ok (.iconst 1, 1) := by decide +kernel
theorem dX7_add_44 : decode cX7_add 44 = .ok (.isub, 1) := by decide +kernel
theorem dX7_add_45 : decode cX7_add 45 = .ok (.iaload, 1) := by decide +kernel
theorem dX7_add_46 : decode cX7_add 46 = .ok (.iload_n 2, 1) := by decide +kernel
theorem dX7_add_47 : decode cX7_add 47 = .ok (.if_icmp .le 121, 3) := by decide +kernel
theorem dX7_add_50 : decode cX7_add 50 = .ok (.aload_n 0, 1) := by decide +kernel
theorem dX7_add_51 : decode cX7_add 51 = .ok (.getfield 42, 3) := by decide +kernel
theorem dX7_add_54 : decode cX7_add 54 = .ok (.iload 8, 2) := by decide +kernel
theorem dX7_add_56 : decode cX7_add 56 = .ok (.aload_n 0, 1) := by decide +kernel
theorem dX7_add_57 : decode cX7_add 57 = .ok (.getfield 42, 3) := by decide +kernel
theorem dX7_add_60 : decode cX7_add 60 = .ok (.iload 8, 2) := by decide +kernel
theorem dX7_add_62 : decode cX7_add 62 = .ok (.iconst 1, 1) := by decide +kernel
theorem dX7_add_63 : decode cX7_add 63 = .ok (.isub, 1) := by decide +kernel
theorem dX7_add_64 : decode cX7_add 64 = .ok (.iaload, 1) := by decide +kernel
theorem dX7_add_65 : decode cX7_add 65 = .ok (.iastore, 1) := by decide +kernel
theorem dX7_add_66 : decode cX7_add 66 = .ok (.aload_n 0, 1) := by decide +kernel
theorem dX7_add_67 : decode cX7_add 67 = .ok (.getfield 45, 3) := by decide +kernel
theorem dX7_add_70 : decode cX7_add 70 = .ok (.iload 8, 2) := by decide +kernel
theorem dX7_add_72 : decode cX7_add 72 = .ok (.aload_n 0, 1) := by decide +kernel
theorem dX7_add_73 : decode cX7_add 73 = .ok (.getfield 45, 3) := by decide +kernel
theorem dX7_add_76 : decode cX7_add 76 = .ok (.iload 8, 2) := by decide +kernel
theorem dX7_add_78 : decode cX7_add 78 = .ok (.iconst 1, 1) := by decide +kernel
theorem dX7_add_79 : decode cX7_add 79 = .ok (.isub, 1) := by decide +kernel
theorem dX7_add_80 : decode cX7_add 80 = .ok (.iaload, 1) := by decide +kernel
theorem dX7_add_81 : decode cX7_add 81 = .ok (.iastore, 1) := by decide +kernel
theorem dX7_add_82 : decode cX7_add 82 = .ok (.aload_n 0, 1) := by decide +kernel
theorem dX7_add_83 : decode cX7_add 83 = .ok (.getfield 48, 3) := by decide +kernel
theorem dX7_add_86 : decode cX7_add 86 = .ok (.iload 8, 2) := by decide +kernel
theorem dX7_add_88 : decode cX7_add 88 = .ok (.aload_n 0, 1) := by decide +kernel
theorem dX7_add_89 : decode cX7_add 89 = .ok (.getfield 48, 3) := by decide +kernel
theorem dX7_add_92 : decode cX7_add 92 = .ok (.iload 8, 2) := by decide +kernel
theorem dX7_add_94 : decode cX7_add 94 = .ok (.iconst 1, 1) := by decide +kernel
theorem dX7_add_95 : decode cX7_add 95 = .ok (.isub, 1) := by decide +kernel
theorem dX7_add_96 : decode cX7_add 96 = .ok (.iaload, 1) := by decide +kernel
theorem dX7_add_97 : decode cX7_add 97 = .ok (.iastore, 1) := by decide +kernel
theorem dX7_add_98 : decode cX7_add 98 = .ok (.aload_n 0, 1) := by decide +kernel
theorem dX7_add_99 : decode cX7_add 99 = .ok (.getfield 51, 3) := by decide +kernel
theorem dX7_add_102 : decode cX7_add 102 = .ok (.iload 8, 2) := by decide +kernel
theorem dX7_add_104 : decode cX7_add 104 = .ok (.aload_n 0, 1) := by decide +kernel
theorem dX7_add_105 : decode cX7_add 105 = .ok (.getfield 51, 3) := by decide +kernel
theorem dX7_add_108 : decode cX7_add 108 = .ok (.iload 8, 2) := by decide +kernel
theorem dX7_add_110 : decode cX7_add 110 = .ok (.iconst 1, 1) := by decide +kernel
theorem dX7_add_111 : decode cX7_add 111 = .ok (.isub, 1) := by decide +kernel
theorem dX7_add_112 : decode cX7_add 112 = .ok (.iaload, 1) := by decide +kernel
theorem dX7_add_113 : decode cX7_add 113 = .ok (.iastore, 1) := by decide +kernel
theorem dX7_add_114 : decode cX7_add 114 = .ok (.aload_n 0, 1) := by decide +kernel
theorem dX7_add_115 : decode cX7_add 115 = .ok (.getfield 54, 3) := by decide +kernel
theorem dX7_add_118 : decode cX7_add 118 = .ok (.iload 8, 2) := by decide +kernel
theorem dX7_add_120 : decode cX7_add 120 = .ok (.aload_n 0, 1) := by decide +kernel
theorem dX7_add_121 : decode cX7_add 121 = .ok (.getfield 54, 3) := by decide +kernel
theorem dX7_add_124 : decode cX7_add 124 = .ok (.iload 8, 2) := by decide +kernel
theorem dX7_add_126 : decode cX7_add 126 = .ok (.iconst 1, 1) := by decide +kernel
theorem dX7_add_127 : decode cX7_add 127 = .ok (.isub, 1) := by decide +kernel
theorem dX7_add_128 : decode cX7_add 128 = .ok (.iaload, 1) := by decide +kernel
theorem dX7_add_129 : decode cX7_add 129 = .ok (.iastore, 1) := by decide +kernel
theorem dX7_add_130 : decode cX7_add 130 = .ok (.aload_n 0, 1) := by decide +kernel
theorem dX7_add_131 : decode cX7_add 131 = .ok (.getfield 57, 3) := by decide +kernel
theorem dX7_add_134 : decode cX7_add 134 = .ok (.iload 8, 2) := by decide +kernel
theorem dX7_add_136 : decode cX7_add 136 = .ok (.aload_n 0, 1) := by decide +kernel
theorem dX7_add_137 : decode cX7_add 137 = .ok (.getfield 57, 3) := by decide +kernel
theorem dX7_add_140 : decode cX7_add 140 = .ok (.iload 8, 2) := by decide +kernel
theorem dX7_add_142 : decode cX7_add 142 = .ok (.iconst 1, 1) := by decide +kernel
theorem dX7_add_143 : decode cX7_add 143 = .ok (.isub, 1) := by decide +kernel
theorem dX7_add_144 : decode cX7_add 144 = .ok (.iaload, 1) := by decide +kernel
theorem dX7_add_145 : decode cX7_add 145 = .ok (.iastore, 1) := by decide +kernel
theorem dX7_add_146 : decode cX7_add 146 = .ok (.aload_n 0, 1) := by decide +kernel
theorem dX7_add_147 : decode cX7_add 147 = .ok (.getfield 60, 3) := by decide +kernel
theorem dX7_add_150 : decode cX7_add 150 = .ok (.iload 8, 2) := by decide +kernel
theorem dX7_add_152 : decode cX7_add 152 = .ok (.aload_n 0, 1) := by decide +kernel
theorem dX7_add_153 : decode cX7_add 153 = .ok (.getfield 60, 3) := by decide +kernel
theorem dX7_add_156 : decode cX7_add 156 = .ok (.iload 8, 2) := by decide +kernel
theorem dX7_add_158 : decode cX7_add 158 = .ok (.iconst 1, 1) := by decide +kernel
theorem dX7_add_159 : decode cX7_add 159 = .ok (.isub, 1) := by decide +kernel
theorem dX7_add_160 : decode cX7_add 160 = .ok (.iaload, 1) := by decide +kernel
theorem dX7_add_161 : decode cX7_add 161 = .ok (.iastore, 1) := by decide +kernel
theorem dX7_add_162 : decode cX7_add 162 = .ok (.iinc 8 (-1), 3) := by decide +kernel
theorem dX7_add_165 : decode cX7_add 165 = .ok (.goto (-159), 3) := by decide +kernel
theorem dX7_add_168 : decode cX7_add 168 = .ok (.aload_n 0, 1) := by decide +kernel
theorem dX7_add_169 : decode cX7_add 169 = .ok (.getfield 42, 3) := by decide +kernel
theorem dX7_add_172 : decode cX7_add 172 = .ok (.iload 8, 2) := by decide +kernel
theorem dX7_add_174 : decode cX7_add 174 = .ok (.iload_n 1, 1) := by decide +kernel
theorem dX7_add_175 : decode cX7_add 175 = .ok (.iastore, 1) := by decide +kernel
theorem dX7_add_176 : decode cX7_add 176 = .ok (.aload_n 0, 1) := by decide +kernel
theorem dX7_add_177 : decode cX7_add 177 = .ok (.getfield 45, 3) := by decide +kernel
theorem dX7_add_180 : decode cX7_add 180 = .ok (.iload 8, 2) := by decide +kernel
theorem dX7_add_182 : decode cX7_add 182 = .ok (.iload_n 2, 1) := by decide +kernel
theorem dX7_add_183 : decode cX7_add 183 = .ok (.iastore, 1) := by decide +kernel
theorem dX7_add_184 : decode cX7_add 184 = .ok (.aload_n 0, 1) := by decide +kernel
theorem dX7_add_185 : decode cX7_add 185 = .ok (.getfield 48, 3) := by decide +kernel
theorem dX7_add_188 : decode cX7_add 188 = .ok (.iload 8, 2) := by decide +kernel
theorem dX7_add_190 : decode cX7_add 190 = .ok (.iload_n 3, 1) := by decide +kernel
theorem dX7_add_191 : decode cX7_add 191 = .ok (.iastore, 1) := by decide +kernel
theorem dX7_add_192 : decode cX7_add 192 = .ok (.aload_n 0, 1) := by decide +kernel
theorem dX7_add_193 : decode cX7_add 193 = .ok (.getfield 51, 3) := by decide +kernel
theorem dX7_add_196 : decode cX7_add 196 = .ok (.iload 8, 2) := by decide +kernel
theorem dX7_add_198 : decode cX7_add 198 = .ok (.iload 4, 2) := by decide +kernel
theorem dX7_add_200 : decode cX7_add 200 = .ok (.iastore, 1) := by decide +kernel
theorem dX7_add_201 : decode cX7_add 201 = .ok (.aload_n 0, 1) := by decide +kernel
theorem dX7_add_202 : decode cX7_add 202 = .ok (.getfield 54, 3) := by decide +kernel
theorem dX7_add_205 : decode cX7_add 205 = .ok (.iload 8, 2) := by decide +kernel
theorem dX7_add_207 : decode cX7_add 207 = .ok (.iload 5, 2) := by decide +kernel
theorem dX7_add_209 : decode cX7_add 209 = .ok (.iastore, 1) := by decide +kernel
theorem dX7_add_210 : decode cX7_add 210 = .ok (.aload_n 0, 1) := by decide +kernel
theorem dX7_add_211 : decode cX7_add 211 = .ok (.getfield 57, 3) := by decide +kernel
theorem dX7_add_214 : decode cX7_add 214 = .ok (.iload 8, 2) := by decide +kernel
theorem dX7_add_216 : decode cX7_add 216 = .ok (.iload 6, 2) := by decide +kernel
theorem dX7_add_218 : decode cX7_add 218 = .ok (.iastore, 1) := by decide +kernel
theorem dX7_add_219 : decode cX7_add 219 = .ok (.aload_n 0, 1) := by decide +kernel
theorem dX7_add_220 : decode cX7_add 220 = .ok (.getfield 60, 3) := by decide +kernel
theorem dX7_add_223 : decode cX7_add 223 = .ok (.iload 8, 2) := by decide +kernel
theorem dX7_add_225 : decode cX7_add 225 = .ok (.iload 7, 2) := by decide +kernel
theorem dX7_add_227 : decode cX7_add 227 = .ok (.iastore, 1) := by decide +kernel
theorem dX7_add_228 : decode cX7_add 228 = .ok (.aload_n 0, 1) := by decide +kernel
theorem dX7_add_229 : decode cX7_add 229 = .ok (.dup, 1) := by decide +kernel
theorem dX7_add_230 : decode cX7_add 230 = .ok (.getfield 104, 3) := by decide +kernel
theorem dX7_add_233 : decode cX7_add 233 = .ok (.iconst 1, 1) := by decide +kernel
theorem dX7_add_234 : decode cX7_add 234 = .ok (.iadd, 1) := by decide +kernel
theorem dX7_add_235 : decode cX7_add 235 = .ok (.putfield 104, 3) := by decide +kernel
theorem dX7_add_238 : decode cX7_add 238 = .ok (.return_, 1) := by decide +kernel
theorem dX7_find_0 : decode cX7_find 0 = .ok (.aload_n 0, 1) := by decide +kernel
theorem dX7_find_1 : decode cX7_find 1 = .ok (.iconst 0, 1) := by decide +kernel
theorem dX7_find_2 : decode cX7_find 2 = .ok (.putfield 104, 3) := by decide +kernel
theorem dX7_find_5 : decode cX7_find 5 = .ok (.iload 5, 2) := by decide +kernel
theorem dX7_find_7 : decode cX7_find 7 = .ok (.ifCond .ne 7, 3) := by decide +kernel
theorem dX7_find_10 : decode cX7_find 10 = .ok (.iload_n 2, 1) := by decide +kernel
theorem dX7_find_11 : decode cX7_find 11 = .ok (.goto 4, 3) := by decide +kernel
theorem dX7_find_14 : decode cX7_find 14 = .ok (.iload_n 3, 1) := by decide +kernel
theorem dX7_find_15 : decode cX7_find 15 = .ok (.istore 6, 2) := by decide +kernel
theorem dX7_find_17 : decode cX7_find 17 = .ok (.iconst (-1), 1) := by decide +kernel
theorem dX7_find_18 : decode cX7_find 18 = .ok (.istore 7, 2) := by decide +kernel
theorem dX7_find_20 : decode cX7_find 20 = .ok (.iload 7, 2) := by decide +kernel
theorem dX7_find_22 : decode cX7_find 22 = .ok (.iconst 1, 1) := by decide +kernel
theorem dX7_find_23 : decode cX7_find 23 = .ok (.if_icmp .gt 188, 3) := by decide +kernel
theorem dX7_find_26 : decode cX7_find 26 = .ok (.iconst (-1), 1) := by decide +kernel
theorem dX7_find_27 : decode cX7_find 27 = .ok (.istore 8, 2) := by decide +kernel
theorem dX7_find_29 : decode cX7_find 29 = .ok (.iload 8, 2) := by decide +kernel
theorem dX7_find_31 : decode cX7_find 31 = .ok (.iconst 1, 1) := by decide +kernel
theorem dX7_find_32 : decode cX7_find 32 = .ok (.if_icmp .gt 173, 3) := by decide +kernel
theorem dX7_find_35 : decode cX7_find 35 = .ok (.iload 7, 2) := by decide +kernel
theorem dX7_find_37 : decode cX7_find 37 = .ok (.ifCond .ne 12, 3) := by decide +kernel
theorem dX7_find_40 : decode cX7_find 40 = .ok (.iload 8, 2) := by decide +kernel
theorem dX7_find_42 : decode cX7_find 42 = .ok (.ifCond .ne 7, 3) := by decide +kernel
theorem dX7_find_45 : decode cX7_find 45 = .ok (.iconst (-1), 1) := by decide +kernel
theorem dX7_find_46 : decode cX7_find 46 = .ok (.goto 13, 3) := by decide +kernel
theorem dX7_find_49 : decode cX7_find 49 = .ok (.aload_n 0, 1) := by decide +kernel
theorem dX7_find_50 : decode cX7_find 50 = .ok (.iload 6, 2) := by decide +kernel
theorem dX7_find_52 : decode cX7_find 52 = .ok (.iload 7, 2) := by decide +kernel
theorem dX7_find_54 : decode cX7_find 54 = .ok (.iload 8, 2) := by decide +kernel
theorem dX7_find_56 : decode cX7_find 56 = .ok (.invokevirtual 92, 3) := by decide +kernel
theorem dX7_find_59 : decode cX7_find 59 = .ok (.istore 9, 2) := by decide +kernel
theorem dX7_find_61 : decode cX7_find 61 = .ok (.iload 9, 2) := by decide +kernel
theorem dX7_find_63 : decode cX7_find 63 = .ok (.iconst (-1), 1) := by decide +kernel
theorem dX7_find_64 : decode cX7_find 64 = .ok (.if_icmp .eq 135, 3) := by decide +kernel
theorem dX7_find_67 : decode cX7_find 67 = .ok (.iload 9, 2) := by decide +kernel
theorem dX7_find_69 : decode cX7_find 69 = .ok (.iload_n 2, 1) := by decide +kernel
theorem dX7_find_70 : decode cX7_find 70 = .ok (.if_icmp .eq 129, 3) := by decide +kernel
theorem dX7_find_73 : decode cX7_find 73 = .ok (.iload 9, 2) := by decide +kernel
theorem dX7_find_75 : decode cX7_find 75 = .ok (.iload_n 3, 1) := by decide +kernel
theorem dX7_find_76 : decode cX7_find 76 = .ok (.if_icmp .ne 6, 3) := by decide +kernel
theorem dX7_find_79 : decode cX7_find 79 = .ok (.goto 120, 3) := by decide +kernel
theorem dX7_find_82 : decode cX7_find 82 = .ok (.iload 5, 2) := by decide +kernel
theorem dX7_find_84 : decode cX7_find 84 = .ok (.ifCond .ne 38, 3) := by decide +kernel
theorem dX7_find_87 : decode cX7_find 87 = .ok (.iload 9, 2) := by decide +kernel
theorem dX7_find_89 : decode cX7_find 89 = .ok (.iload 4, 2) := by decide +kernel
theorem dX7_find_91 : decode cX7_find 91 = .ok (.if_icmp .eq 31, 3) := by decide +kernel
theorem dX7_find_94 : decode cX7_find 94 = .ok (.aload_n 0, 1) := by decide +kernel
theorem dX7_find_95 : decode cX7_find 95 = .ok (.iload_n 1, 1) := by decide +kernel
theorem dX7_find_96 : decode cX7_find 96 = .ok (.iload 9, 2) := by decide +kernel
theorem dX7_find_98 : decode cX7_find 98 = .ok (.iload_n 3, 1) := by decide +kernel
theorem dX7_find_99 : decode cX7_find 99 = .ok (.iload 4, 2) := by decide +kernel
theorem dX7_find_101 : decode cX7_find 101 = .ok (.iconst 1, 1) := by decide +kernel
theorem dX7_find_102 : decode cX7_find 102 = .ok (.invokevirtual 107, 3) := by decide +kernel
theorem dX7_find_105 : decode cX7_find 105 = .ok (.ifCond .eq 17, 3) := by decide +kernel
theorem dX7_find_108 : decode cX7_find 108 = .ok (.aload_n 0, 1) := by decide +kernel
theorem dX7_find_109 : decode cX7_find 109 = .ok (.iload_n 2, 1) := by decide +kernel
theorem dX7_find_110 : decode cX7_find 110 = .ok (.iload 9, 2) := by decide +kernel
theorem dX7_find_112 : decode cX7_find 112 = .ok (.iconst (-1), 1) := by decide +kernel
theorem dX7_find_113 : decode cX7_find 113 = .ok (.iload_n 1, 1) := by decide +kernel
theorem dX7_find_114 : decode cX7_find 114 = .ok (.iload 9, 2) := by decide +kernel
theorem dX7_find_116 : decode cX7_find 116 = .ok (.iload_n 3, 1) := by decide +kernel
theorem dX7_find_117 : decode cX7_find 117 = .ok (.iload 4, 2) := by decide +kernel
theorem dX7_find_119 : decode cX7_find 119 = .ok (.invokevirtual 110, 3) := by decide +kernel
theorem dX7_find_122 : decode cX7_find 122 = .ok (.iload 5, 2) := by decide +kernel
theorem dX7_find_124 : decode cX7_find 124 = .ok (.iconst 1, 1) := by decide +kernel
theorem dX7_find_125 : decode cX7_find 125 = .ok (.if_icmp .ne 33, 3) := by decide +kernel
theorem dX7_find_128 : decode cX7_find 128 = .ok (.iload 9, 2) := by decide +kernel
theorem dX7_find_130 : decode cX7_find 130 = .ok (.iload 4, 2) := by decide +kernel
theorem dX7_find_132 : decode cX7_find 132 = .ok (.if_icmp .ne 26, 3) := by decide +kernel
theorem dX7_find_135 : decode cX7_find 135 = .ok (.aload_n 0, 1) := by decide +kernel
theorem dX7_find_136 : decode cX7_find 136 = .ok (.iload 9, 2) := by decide +kernel
theorem dX7_find_138 : decode cX7_find 138 = .ok (.iload_n 2, 1) := by decide +kernel
theorem dX7_find_139 : decode cX7_find 139 = .ok (.invokevirtual 96, 3) := by decide +kernel
theorem dX7_find_142 : decode cX7_find 142 = .ok (.ifCond .ne 16, 3) := by decide +kernel
theorem dX7_find_145 : decode cX7_find 145 = .ok (.aload_n 0, 1) := by decide +kernel
theorem dX7_find_146 : decode cX7_find 146 = .ok (.iload_n 3, 1) := by decide +kernel
theorem dX7_find_147 : decode cX7_find 147 = .ok (.iload 9, 2) := by decide +kernel
theorem dX7_find_149 : decode cX7_find 149 = .ok (.iconst (-1), 1) := by decide +kernel
theorem dX7_find_150 : decode cX7_find 150 = .ok (.iconst (-1), 1) := by decide +kernel
theorem dX7_find_151 : decode cX7_find 151 = .ok (.iload_n 2, 1) := by decide +kernel
theorem dX7_find_152 : decode cX7_find 152 = .ok (.iload 9, 2) := by decide +kernel
theorem dX7_find_154 : decode cX7_find 154 = .ok (.iconst (-1), 1) := by decide +kernel
theorem dX7_find_155 : decode cX7_find 155 = .ok (.invokevirtual 110, 3) := by decide +kernel
theorem dX7_find_158 : decode cX7_find 158 = .ok (.iload 5, 2) := by decide +kernel
theorem dX7_find_160 : decode cX7_find 160 = .ok (.iconst 1, 1) := by decide +kernel
theorem dX7_find_161 : decode cX7_find 161 = .ok (.if_icmp .ne 38, 3) := by decide +kernel
theorem dX7_find_164 : decode cX7_find 164 = .ok (.iload 9, 2) := by decide +kernel
theorem dX7_find_166 : decode cX7_find 166 = .ok (.iload 4, 2) := by decide +kernel
theorem dX7_find_168 : decode cX7_find 168 = .ok (.if_icmp .eq 31, 3) := by decide +kernel
theorem dX7_find_171 : decode cX7_find 171 = .ok (.aload_n 0, 1) := by decide +kernel
theorem dX7_find_172 : decode cX7_find 172 = .ok (.iload_n 1, 1) := by decide +kernel
theorem dX7_find_173 : decode cX7_find 173 = .ok (.iload_n 2, 1) := by decide +kernel
theorem dX7_find_174 : decode cX7_find 174 = .ok (.iload 9, 2) := by decide +kernel
theorem dX7_find_176 : decode cX7_find 176 = .ok (.iload 4, 2) := by decide +kernel
theorem dX7_find_178 : decode cX7_find 178 = .ok (.iconst 0, 1) := by decide +kernel
theorem dX7_find_179 : decode cX7_find 179 = .ok (.invokevirtual 107, 3) := by decide +kernel
theorem dX7_find_182 : decode cX7_find 182 = .ok (.ifCond .eq 17, 3) := by decide +kernel
theorem dX7_find_185 : decode cX7_find 185 = .ok (.aload_n 0, 1) := by decide +kernel
theorem dX7_find_186 : decode cX7_find 186 = .ok (.iload_n 3, 1) := by decide +kernel
theorem dX7_find_187 : decode cX7_find 187 = .ok (.iload 9, 2) := by decide +kernel
theorem dX7_find_189 : decode cX7_find 189 = .ok (.iconst (-1), 1) := by decide +kernel
theorem dX7_find_190 : decode cX7_find 190 = .ok (.iload_n 1, 1) := by decide +kernel
theorem dX7_find_191 : decode cX7_find 191 = .ok (.iload_n 2, 1) := by decide +kernel
theorem dX7_find_192 : decode cX7_find 192 = .ok (.iload 9, 2) := by decide +kernel
theorem dX7_find_194 : decode cX7_find 194 = .ok (.iload 4, 2) := by decide +kernel
theorem dX7_find_196 : decode cX7_find 196 = .ok (.invokevirtual 110, 3) := by decide +kernel
theorem dX7_find_199 : decode cX7_find 199 = .ok (.iinc 8 1, 3) := by decide +kernel
theorem dX7_find_202 : decode cX7_find 202 = .ok (.goto (-173), 3) := by decide +kernel
theorem dX7_find_205 : decode cX7_find 205 = .ok (.iinc 7 1, 3) := by decide +kernel
theorem dX7_find_208 : decode cX7_find 208 = .ok (.goto (-188), 3) := by decide +kernel
theorem dX7_find_211 : decode cX7_find 211 = .ok (.iload 5, 2) := by decide +kernel
theorem dX7_find_213 : decode cX7_find 213 = .ok (.ifCond .ne 66, 3) := by decide +kernel
theorem dX7_find_216 : decode cX7_find 216 = .ok (.iload_n 1, 1) := by decide +kernel
theorem dX7_find_217 : decode cX7_find 217 = .ok (.iconst 2, 1) := by decide +kernel
theorem dX7_find_218 : decode cX7_find 218 = .ok (.if_icmp .ge 61, 3) := by decide +kernel
theorem dX7_find_221 : decode cX7_find 221 = .ok (.iconst 0, 1) := by decide +kernel
theorem dX7_find_222 : decode cX7_find 222 = .ok (.istore 7, 2) := by decide +kernel
theorem dX7_find_224 : decode cX7_find 224 = .ok (.iload 7, 2) := by decide +kernel
theorem dX7_find_226 : decode cX7_find 226 = .ok (.aload_n 0, 1) := by decide +kernel
theorem dX7_find_227 : decode cX7_find 227 = .ok (.getfield 13, 3) := by decide +kernel
theorem dX7_find_230 : decode cX7_find 230 = .ok (.if_icmp .ge 49, 3) := by decide +kernel
theorem dX7_find_233 : decode cX7_find 233 = .ok (.iload 7, 2) := by decide +kernel
theorem dX7_find_235 : decode cX7_find 235 = .ok (.iload_n 2, 1) := by decide +kernel
theorem dX7_find_236 : decode cX7_find 236 = .ok (.if_icmp .eq 37, 3) := by decide +kernel
theorem dX7_find_239 : decode cX7_find 239 = .ok (.iload 7, 2) := by decide +kernel
theorem dX7_find_241 : decode cX7_find 241 = .ok (.iload_n 3, 1) := by decide +kernel
theorem dX7_find_242 : decode cX7_find 242 = .ok (.if_icmp .eq 31, 3) := by decide +kernel
theorem dX7_find_245 : decode cX7_find 245 = .ok (.aload_n 0, 1) := by decide +kernel
theorem dX7_find_246 : decode cX7_find 246 = .ok (.iload_n 1, 1) := by decide +kernel
theorem dX7_find_247 : decode cX7_find 247 = .ok (.iload_n 2, 1) := by decide +kernel
theorem dX7_find_248 : decode cX7_find 248 = .ok (.iload_n 3, 1) := by decide +kernel
theorem dX7_find_249 : decode cX7_find 249 = .ok (.iload 4, 2) := by decide +kernel
theorem dX7_find_251 : decode cX7_find 251 = .ok (.iload 7, 2) := by decide +kernel
theorem dX7_find_253 : decode cX7_find 253 = .ok (.invokevirtual 100, 3) := by decide +kernel
theorem dX7_find_256 : decode cX7_find 256 = .ok (.ifCond .eq 17, 3) := by decide +kernel
theorem dX7_find_259 : decode cX7_find 259 = .ok (.aload_n 0, 1) := by decide +kernel
theorem dX7_find_260 : decode cX7_find 260 = .ok (.iload 4, 2) := by decide +kernel
theorem dX7_find_262 : decode cX7_find 262 = .ok (.iload 7, 2) := by decide +kernel
theorem dX7_find_264 : decode cX7_find 264 = .ok (.iconst (-1), 1) := by decide +kernel
theorem dX7_find_265 : decode cX7_find 265 = .ok (.iload_n 1, 1) := by decide +kernel
theorem dX7_find_266 : decode cX7_find 266 = .ok (.iload_n 2, 1) := by decide +kernel
theorem dX7_find_267 : decode cX7_find 267 = .ok (.iload_n 3, 1) := by decide +kernel
theorem dX7_find_268 : decode cX7_find 268 = .ok (.iload 7, 2) := by decide +kernel
theorem dX7_find_270 : decode cX7_find 270 = .ok (.invokevirtual 110, 3) := by decide +kernel
theorem dX7_find_273 : decode cX7_find 273 = .ok (.iinc 7 1, 3) := by decide +kernel
theorem dX7_find_276 : decode cX7_find 276 = .ok (.goto (-52), 3) := by decide +kernel
theorem dX7_find_279 : decode cX7_find 279 = .ok (.iload 5, 2) := by decide +kernel
theorem dX7_find_281 : decode cX7_find 281 = .ok (.ifCond .ne 16, 3) := by decide +kernel
theorem dX7_find_284 : decode cX7_find 284 = .ok (.iload_n 1, 1) := by decide +kernel
theorem dX7_find_285 : decode cX7_find 285 = .ok (.iconst 2, 1) := by decide +kernel
theorem dX7_find_286 : decode cX7_find 286 = .ok (.if_icmp .ne 11, 3) := by decide +kernel
theorem dX7_find_289 : decode cX7_find 289 = .ok (.aload_n 0, 1) := by decide +kernel
theorem dX7_find_290 : decode cX7_find 290 = .ok (.iload_n 2, 1) := by decide +kernel
theorem dX7_find_291 : decode cX7_find 291 = .ok (.iload_n 3, 1) := by decide +kernel
theorem dX7_find_292 : decode cX7_find 292 = .ok (.iload 4, 2) := by decide +kernel
theorem dX7_find_294 : decode cX7_find 294 = .ok (.invokevirtual 114, 3) := by decide +kernel
theorem dX7_find_297 : decode cX7_find 297 = .ok (.return_, 1) := by decide +kernel
theorem dX7_pawnMoves_0 : decode cX7_pawnMoves 0 = .ok (.iload_n 3, 1) := by decide +kernel
theorem dX7_pawnMoves_1 : decode cX7_pawnMoves 1 = .ok (.aload_n 0, 1) := by decide +kernel
theorem dX7_pawnMoves_2 : decode cX7_pawnMoves 2 = .ok (.getfield 7, 3) := by decide +kernel
theorem dX7_pawnMoves_5 : decode cX7_pawnMoves 5 = .ok (.iadd, 1) := by decide +kernel
theorem dX7_pawnMoves_6 : decode cX7_pawnMoves 6 = .ok (.istore 4, 2) := by decide +kernel
theorem dX7_pawnMoves_8 : decode cX7_pawnMoves 8 = .ok (.iload 4, 2) := by decide +kernel
theorem dX7_pawnMoves_10 : decode cX7_pawnMoves 10 = .ok (.iload_n 1, 1) := by decide +kernel
theorem dX7_pawnMoves_11 : decode cX7_pawnMoves 11 = .ok (.if_icmp .eq 9, 3) := by decide +kernel
theorem dX7_pawnMoves_14 : decode cX7_pawnMoves 14 = .ok (.iload 4, 2) := by decide +kernel
theorem dX7_pawnMoves_16 : decode cX7_pawnMoves 16 = .ok (.iload_n 2, 1) := by decide +kernel
theorem dX7_pawnMoves_17 : decode cX7_pawnMoves 17 = .ok (.if_icmp .ne 4, 3) := by decide +kernel
theorem dX7_pawnMoves_20 : decode cX7_pawnMoves 20 = .ok (.return_, 1) := by decide +kernel
theorem dX7_pawnMoves_21 : decode cX7_pawnMoves 21 = .ok (.iload 4, 2) := by decide +kernel
theorem dX7_pawnMoves_23 : decode cX7_pawnMoves 23 = .ok (.aload_n 0, 1) := by decide +kernel
theorem dX7_pawnMoves_24 : decode cX7_pawnMoves 24 = .ok (.getfield 7, 3) := by decide +kernel
theorem dX7_pawnMoves_27 : decode cX7_pawnMoves 27 = .ok (.idiv, 1) := by decide +kernel
theorem dX7_pawnMoves_28 : decode cX7_pawnMoves 28 = .ok (.aload_n 0, 1) := by decide +kernel
theorem dX7_pawnMoves_29 : decode cX7_pawnMoves 29 = .ok (.getfield 7, 3) := by decide +kernel
theorem dX7_pawnMoves_32 : decode cX7_pawnMoves 32 = .ok (.iconst 1, 1) := by decide +kernel
theorem dX7_pawnMoves_33 : decode cX7_pawnMoves 33 = .ok (.isub, 1) := by decide +kernel
theorem dX7_pawnMoves_34 : decode cX7_pawnMoves 34 = .ok (.if_icmp .ne 44, 3) := by decide +kernel
theorem dX7_pawnMoves_37 : decode cX7_pawnMoves 37 = .ok (.iconst 0, 1) := by decide +kernel
theorem dX7_pawnMoves_38 : decode cX7_pawnMoves 38 = .ok (.istore 5, 2) := by decide +kernel
theorem dX7_pawnMoves_40 : decode cX7_pawnMoves 40 = .ok (.iload 5, 2) := by decide +kernel
theorem dX7_pawnMoves_42 : decode cX7_pawnMoves 42 = .ok (.iconst 4, 1) := by decide +kernel
theorem dX7_pawnMoves_43 : decode cX7_pawnMoves 43 = .ok (.if_icmp .ge 34, 3) := by decide +kernel
theorem dX7_pawnMoves_46 : decode cX7_pawnMoves 46 = .ok (.aload_n 0, 1) := by decide +kernel
theorem dX7_pawnMoves_47 : decode cX7_pawnMoves 47 = .ok (.iload_n 3, 1) := by decide +kernel
theorem dX7_pawnMoves_48 : decode cX7_pawnMoves 48 = .ok (.iload 4, 2) := by decide +kernel
theorem dX7_pawnMoves_50 : decode cX7_pawnMoves 50 = .ok (.iload 5, 2) := by decide +kernel
theorem dX7_pawnMoves_52 : decode cX7_pawnMoves 52 = .ok (.iload 5, 2) := by decide +kernel
theorem dX7_pawnMoves_54 : decode cX7_pawnMoves 54 = .ok (.iconst 2, 1) := by decide +kernel
theorem dX7_pawnMoves_55 : decode cX7_pawnMoves 55 = .ok (.if_icmp .ge 8, 3) := by decide +kernel
theorem dX7_pawnMoves_58 : decode cX7_pawnMoves 58 = .ok (.iload 5, 2) := by decide +kernel
theorem dX7_pawnMoves_60 : decode cX7_pawnMoves 60 = .ok (.goto 4, 3) := by decide +kernel
theorem dX7_pawnMoves_63 : decode cX7_pawnMoves 63 = .ok (.iconst (-1), 1) := by decide +kernel
theorem dX7_pawnMoves_64 : decode cX7_pawnMoves 64 = .ok (.iload_n 1, 1) := by decide +kernel
theorem dX7_pawnMoves_65 : decode cX7_pawnMoves 65 = .ok (.iload_n 2, 1) := by decide +kernel
theorem dX7_pawnMoves_66 : decode cX7_pawnMoves 66 = .ok (.iload 4, 2) := by decide +kernel
theorem dX7_pawnMoves_68 : decode cX7_pawnMoves 68 = .ok (.invokevirtual 110, 3) := by decide +kernel
theorem dX7_pawnMoves_71 : decode cX7_pawnMoves 71 = .ok (.iinc 5 1, 3) := by decide +kernel
theorem dX7_pawnMoves_74 : decode cX7_pawnMoves 74 = .ok (.goto (-34), 3) := by decide +kernel
theorem dX7_pawnMoves_77 : decode cX7_pawnMoves 77 = .ok (.return_, 1) := by decide +kernel
theorem dX7_pawnMoves_78 : decode cX7_pawnMoves 78 = .ok (.aload_n 0, 1) := by decide +kernel
theorem dX7_pawnMoves_79 : decode cX7_pawnMoves 79 = .ok (.iload_n 3, 1) := by decide +kernel
theorem dX7_pawnMoves_80 : decode cX7_pawnMoves 80 = .ok (.iload 4, 2) := by decide +kernel
theorem dX7_pawnMoves_82 : decode cX7_pawnMoves 82 = .ok (.iconst (-1), 1) := by decide +kernel
theorem dX7_pawnMoves_83 : decode cX7_pawnMoves 83 = .ok (.iconst 2, 1) := by decide +kernel
theorem dX7_pawnMoves_84 : decode cX7_pawnMoves 84 = .ok (.iload_n 1, 1) := by decide +kernel
theorem dX7_pawnMoves_85 : decode cX7_pawnMoves 85 = .ok (.iload_n 2, 1) := by decide +kernel
theorem dX7_pawnMoves_86 : decode cX7_pawnMoves 86 = .ok (.iload 4, 2) := by decide +kernel
theorem dX7_pawnMoves_88 : decode cX7_pawnMoves 88 = .ok (.invokevirtual 110, 3) := by decide +kernel
theorem dX7_pawnMoves_91 : decode cX7_pawnMoves 91 = .ok (.iload 4, 2) := by decide +kernel
theorem dX7_pawnMoves_93 : decode cX7_pawnMoves 93 = .ok (.aload_n 0, 1) := by decide +kernel
theorem dX7_pawnMoves_94 : decode cX7_pawnMoves 94 = .ok (.getfield 7, 3) := by decide +kernel
theorem dX7_pawnMoves_97 : decode cX7_pawnMoves 97 = .ok (.iadd, 1) := by decide +kernel
theorem dX7_pawnMoves_98 : decode cX7_pawnMoves 98 = .ok (.istore 5, 2) := by decide +kernel
theorem dX7_pawnMoves_100 : decode cX7_pawnMoves 100 = .ok (.iload_n 3, 1) := by decide +kernel
theorem dX7_pawnMoves_101 : decode cX7_pawnMoves 101 = .ok (.aload_n 0, 1) := by decide +kernel
theorem dX7_pawnMoves_102 : decode cX7_pawnMoves 102 = .ok (.getfield 7, 3) := by decide +kernel
theorem dX7_pawnMoves_105 : decode cX7_pawnMoves 105 = .ok (.idiv, 1) := by decide +kernel
theorem dX7_pawnMoves_106 : decode cX7_pawnMoves 106 = .ok (.iconst 1, 1) := by decide +kernel
theorem dX7_pawnMoves_107 : decode cX7_pawnMoves 107 = .ok (.if_icmp .ne 44, 3) := by decide +kernel
theorem dX7_pawnMoves_110 : decode cX7_pawnMoves 110 = .ok (.iload 5, 2) := by decide +kernel
theorem dX7_pawnMoves_112 : decode cX7_pawnMoves 112 = .ok (.aload_n 0, 1) := by decide +kernel
theorem dX7_pawnMoves_113 : decode cX7_pawnMoves 113 = .ok (.getfield 7, 3) := by decide +kernel
theorem dX7_pawnMoves_116 : decode cX7_pawnMoves 116 = .ok (.idiv, 1) := by decide +kernel
theorem dX7_pawnMoves_117 : decode cX7_pawnMoves 117 = .ok (.aload_n 0, 1) := by decide +kernel
theorem dX7_pawnMoves_118 : decode cX7_pawnMoves 118 = .ok (.getfield 7, 3) := by decide +kernel
theorem dX7_pawnMoves_121 : decode cX7_pawnMoves 121 = .ok (.iconst 1, 1) := by decide +kernel
theorem dX7_pawnMoves_122 : decode cX7_pawnMoves 122 = .ok (.isub, 1) := by decide +kernel
theorem dX7_pawnMoves_123 : decode cX7_pawnMoves 123 = .ok (.if_icmp .ge 28, 3) := by decide +kernel
theorem dX7_pawnMoves_126 : decode cX7_pawnMoves 126 = .ok (.iload 5, 2) := by decide +kernel
theorem dX7_pawnMoves_128 : decode cX7_pawnMoves 128 = .ok (.iload_n 1, 1) := by decide +kernel
theorem dX7_pawnMoves_129 : decode cX7_pawnMoves 129 = .ok (.if_icmp .eq 22, 3) := by decide +kernel
theorem dX7_pawnMoves_132 : decode cX7_pawnMoves 132 = .ok (.iload 5, 2) := by decide +kernel
theorem dX7_pawnMoves_134 : decode cX7_pawnMoves 134 = .ok (.iload_n 2, 1) := by decide +kernel
theorem dX7_pawnMoves_135 : decode cX7_pawnMoves 135 = .ok (.if_icmp .eq 16, 3) := by decide +kernel
theorem dX7_pawnMoves_138 : decode cX7_pawnMoves 138 = .ok (.aload_n 0, 1) := by decide +kernel
theorem dX7_pawnMoves_139 : decode cX7_pawnMoves 139 = .ok (.iload_n 3, 1) := by decide +kernel
theorem dX7_pawnMoves_140 : decode cX7_pawnMoves 140 = .ok (.iload 5, 2) := by decide +kernel
theorem dX7_pawnMoves_142 : decode cX7_pawnMoves 142 = .ok (.iconst (-1), 1) := by decide +kernel
theorem dX7_pawnMoves_143 : decode cX7_pawnMoves 143 = .ok (.iconst 2, 1) := by decide +kernel
theorem dX7_pawnMoves_144 : decode cX7_pawnMoves 144 = .ok (.iload_n 1, 1) := by decide +kernel
theorem dX7_pawnMoves_145 : decode cX7_pawnMoves 145 = .ok (.iload_n 2, 1) := by decide +kernel
theorem dX7_pawnMoves_146 : decode cX7_pawnMoves 146 = .ok (.iload 5, 2) := by decide +kernel
theorem dX7_pawnMoves_148 : decode cX7_pawnMoves 148 = .ok (.invokevirtual 110, 3) := by decide +kernel
theorem dX7_pawnMoves_151 : decode cX7_pawnMoves 151 = .ok (.return_, 1) := by decide +kernel
theorem dX7_distanceOf_0 : decode cX7_distanceOf 0 = .ok (.iload_n 1, 1) := by decide +kernel
theorem dX7_distanceOf_1 : decode cX7_distanceOf 1 = .ok (.iconst (-1), 1) := by decide +kernel
theorem dX7_distanceOf_2 : decode cX7_distanceOf 2 = .ok (.if_icmp .ne 7, 3) := by decide +kernel
theorem dX7_distanceOf_5 : decode cX7_distanceOf 5 = .ok (.iconst (-1), 1) := by decide +kernel
theorem dX7_distanceOf_6 : decode cX7_distanceOf 6 = .ok (.goto 25, 3) := by decide +kernel
theorem dX7_distanceOf_9 : decode cX7_distanceOf 9 = .ok (.aload_n 0, 1) := by decide +kernel
theorem dX7_distanceOf_10 : decode cX7_distanceOf 10 = .ok (.getfield 21, 3) := by decide +kernel
theorem dX7_distanceOf_13 : decode cX7_distanceOf 13 = .ok (.ldc 118, 2) := by decide +kernel
theorem dX7_distanceOf_15 : decode cX7_distanceOf 15 = .ok (.iload_n 1, 1) := by decide +kernel
theorem dX7_distanceOf_16 : decode cX7_distanceOf 16 = .ok (.imul, 1) := by decide +kernel
theorem dX7_distanceOf_17 : decode cX7_distanceOf 17 = .ok (.aload_n 0, 1) := by decide +kernel
theorem dX7_distanceOf_18 : decode cX7_distanceOf 18 = .ok (.iload_n 2, 1) := by decide +kernel
theorem dX7_distanceOf_19 : decode cX7_distanceOf 19 = .ok (.iload_n 3, 1) := by decide +kernel
theorem dX7_distanceOf_20 : decode cX7_distanceOf 20 = .ok (.iload 4, 2) := by decide +kernel
theorem dX7_distanceOf_22 : decode cX7_distanceOf 22 = .ok (.iload 5, 2) := by decide +kernel
theorem dX7_distanceOf_24 : decode cX7_distanceOf 24 = .ok (.invokevirtual 119, 3) := by decide +kernel
theorem dX7_distanceOf_27 : decode cX7_distanceOf 27 = .ok (.iadd, 1) := by decide +kernel
theorem dX7_distanceOf_28 : decode cX7_distanceOf 28 = .ok (.baload, 1) := by decide +kernel
theorem dX7_distanceOf_29 : decode cX7_distanceOf 29 = .ok (.iconst 1, 1) := by decide +kernel
theorem dX7_distanceOf_30 : decode cX7_distanceOf 30 = .ok (.isub, 1) := by decide +kernel
theorem dX7_distanceOf_31 : decode cX7_distanceOf 31 = .ok (.ireturn, 1) := by decide +kernel
theorem dX7_after_0 : decode cX7_after 0 = .ok (.aload_n 0, 1) := by decide +kernel
theorem dX7_after_1 : decode cX7_after 1 = .ok (.aload_n 0, 1) := by decide +kernel
theorem dX7_after_2 : decode cX7_after 2 = .ok (.getfield 51, 3) := by decide +kernel
theorem dX7_after_5 : decode cX7_after 5 = .ok (.iload_n 1, 1) := by decide +kernel
theorem dX7_after_6 : decode cX7_after 6 = .ok (.iaload, 1) := by decide +kernel
theorem dX7_after_7 : decode cX7_after 7 = .ok (.aload_n 0, 1) := by decide +kernel
theorem dX7_after_8 : decode cX7_after 8 = .ok (.getfield 54, 3) := by decide +kernel
theorem dX7_after_11 : decode cX7_after 11 = .ok (.iload_n 1, 1) := by decide +kernel
theorem dX7_after_12 : decode cX7_after 12 = .ok (.iaload, 1) := by decide +kernel
theorem dX7_after_13 : decode cX7_after 13 = .ok (.aload_n 0, 1) := by decide +kernel
theorem dX7_after_14 : decode cX7_after 14 = .ok (.getfield 57, 3) := by decide +kernel
theorem dX7_after_17 : decode cX7_after 17 = .ok (.iload_n 1, 1) := by decide +kernel
theorem dX7_after_18 : decode cX7_after 18 = .ok (.iaload, 1) := by decide +kernel
theorem dX7_after_19 : decode cX7_after 19 = .ok (.aload_n 0, 1) := by decide +kernel
theorem dX7_after_20 : decode cX7_after 20 = .ok (.getfield 60, 3) := by decide +kernel
theorem dX7_after_23 : decode cX7_after 23 = .ok (.iload_n 1, 1) := by decide +kernel
theorem dX7_after_24 : decode cX7_after 24 = .ok (.iaload, 1) := by decide +kernel
theorem dX7_after_25 : decode cX7_after 25 = .ok (.iconst 1, 1) := by decide +kernel
theorem dX7_after_26 : decode cX7_after 26 = .ok (.iload_n 2, 1) := by decide +kernel
theorem dX7_after_27 : decode cX7_after 27 = .ok (.isub, 1) := by decide +kernel
theorem dX7_after_28 : decode cX7_after 28 = .ok (.invokevirtual 123, 3) := by decide +kernel
theorem dX7_after_31 : decode cX7_after 31 = .ok (.ireturn, 1) := by decide +kernel
theorem dX7_board_0 : decode cX7_board 0 = .ok (.aload_n 0, 1) := by decide +kernel
theorem dX7_board_1 : decode cX7_board 1 = .ok (.iconst 0, 1) := by decide +kernel
theorem dX7_board_2 : decode cX7_board 2 = .ok (.putfield 81, 3) := by decide +kernel
theorem dX7_board_5 : decode cX7_board 5 = .ok (.iload_n 1, 1) := by decide +kernel
theorem dX7_board_6 : decode cX7_board 6 = .ok (.iconst 4, 1) := by decide +kernel
theorem dX7_board_7 : decode cX7_board 7 = .ok (.bipush 8, 2) := by decide +kernel
theorem dX7_board_9 : decode cX7_board 9 = .ok (.invokestatic 84, 3) := by decide +kernel
theorem dX7_board_12 : decode cX7_board 12 = .ok (.ifCond .ne 5, 3) := by decide +kernel
theorem dX7_board_15 : decode cX7_board 15 = .ok (.iconst 0, 1) := by decide +kernel
theorem dX7_board_16 : decode cX7_board 16 = .ok (.ireturn, 1) := by decide +kernel
theorem dX7_board_17 : decode cX7_board 17 = .ok (.aload_n 0, 1) := by decide +kernel
theorem dX7_board_18 : decode cX7_board 18 = .ok (.iload_n 1, 1) := by decide +kernel
theorem dX7_board_19 : decode cX7_board 19 = .ok (.putfield 7, 3) := by decide +kernel
theorem dX7_board_22 : decode cX7_board 22 = .ok (.aload_n 0, 1) := by decide +kernel
theorem dX7_board_23 : decode cX7_board 23 = .ok (.iload_n 1, 1) := by decide +kernel
theorem dX7_board_24 : decode cX7_board 24 = .ok (.iload_n 1, 1) := by decide +kernel
theorem dX7_board_25 : decode cX7_board 25 = .ok (.imul, 1) := by decide +kernel
theorem dX7_board_26 : decode cX7_board 26 = .ok (.putfield 13, 3) := by decide +kernel
theorem dX7_board_29 : decode cX7_board 29 = .ok (.iconst 0, 1) := by decide +kernel
theorem dX7_board_30 : decode cX7_board 30 = .ok (.istore_n 2, 1) := by decide +kernel
theorem dX7_board_31 : decode cX7_board 31 = .ok (.iload_n 2, 1) := by decide +kernel
theorem dX7_board_32 : decode cX7_board 32 = .ok (.iconst 3, 1) := by decide +kernel
theorem dX7_board_33 : decode cX7_board 33 = .ok (.if_icmp .ge 16, 3) := by decide +kernel
theorem dX7_board_36 : decode cX7_board 36 = .ok (.aload_n 0, 1) := by decide +kernel
theorem dX7_board_37 : decode cX7_board 37 = .ok (.getfield 16, 3) := by decide +kernel
theorem dX7_board_40 : decode cX7_board 40 = .ok (.iload_n 2, 1) := by decide +kernel
theorem dX7_board_41 : decode cX7_board 41 = .ok (.iconst 0, 1) := by decide +kernel
theorem dX7_board_42 : decode cX7_board 42 = .ok (.bastore, 1) := by decide +kernel
theorem dX7_board_43 : decode cX7_board 43 = .ok (.iinc 2 1, 3) := by decide +kernel
theorem dX7_board_46 : decode cX7_board 46 = .ok (.goto (-15), 3) := by decide +kernel
theorem dX7_board_49 : decode cX7_board 49 = .ok (.aload_n 0, 1) := by decide +kernel
theorem dX7_board_50 : decode cX7_board 50 = .ok (.iconst (-1), 1) := by decide +kernel
theorem dX7_board_51 : decode cX7_board 51 = .ok (.putfield 75, 3) := by decide +kernel
theorem dX7_board_54 : decode cX7_board 54 = .ok (.iconst 1, 1) := by decide +kernel
theorem dX7_board_55 : decode cX7_board 55 = .ok (.ireturn, 1) := by decide +kernel
theorem dX7_make_0 : decode cX7_make 0 = .ok (.aload_n 0, 1) := by decide +kernel
theorem dX7_make_1 : decode cX7_make 1 = .ok (.iconst 0, 1) := by decide +kernel
theorem dX7_make_2 : decode cX7_make 2 = .ok (.putfield 81, 3) := by decide +kernel
theorem dX7_make_5 : decode cX7_make 5 = .ok (.iload_n 1, 1) := by decide +kernel
theorem dX7_make_6 : decode cX7_make 6 = .ok (.iconst 0, 1) := by decide +kernel
theorem dX7_make_7 : decode cX7_make 7 = .ok (.iconst 2, 1) := by decide +kernel
theorem dX7_make_8 : decode cX7_make 8 = .ok (.invokestatic 84, 3) := by decide +kernel
theorem dX7_make_11 : decode cX7_make 11 = .ok (.ifCond .ne 5, 3) := by decide +kernel
theorem dX7_make_14 : decode cX7_make 14 = .ok (.iconst (-1), 1) := by decide +kernel
theorem dX7_make_15 : decode cX7_make 15 = .ok (.ireturn, 1) := by decide +kernel
theorem dX7_make_16 : decode cX7_make 16 = .ok (.iload_n 1, 1) := by decide +kernel
theorem dX7_make_17 : decode cX7_make 17 = .ok (.iconst 2, 1) := by decide +kernel
theorem dX7_make_18 : decode cX7_make 18 = .ok (.if_icmp .ne 7, 3) := by decide +kernel
theorem dX7_make_21 : decode cX7_make 21 = .ok (.iconst 0, 1) := by decide +kernel
theorem dX7_make_22 : decode cX7_make 22 = .ok (.goto 4, 3) := by decide +kernel
theorem dX7_make_25 : decode cX7_make 25 = .ok (.iload_n 1, 1) := by decide +kernel
theorem dX7_make_26 : decode cX7_make 26 = .ok (.istore_n 2, 1) := by decide +kernel
theorem dX7_make_27 : decode cX7_make 27 = .ok (.iload_n 2, 1) := by decide +kernel
theorem dX7_make_28 : decode cX7_make 28 = .ok (.iload_n 1, 1) := by decide +kernel
theorem dX7_make_29 : decode cX7_make 29 = .ok (.if_icmp .gt 35, 3) := by decide +kernel
theorem dX7_make_32 : decode cX7_make 32 = .ok (.aload_n 0, 1) := by decide +kernel
theorem dX7_make_33 : decode cX7_make 33 = .ok (.getfield 16, 3) := by decide +kernel
theorem dX7_make_36 : decode cX7_make 36 = .ok (.iload_n 2, 1) := by decide +kernel
theorem dX7_make_37 : decode cX7_make 37 = .ok (.baload, 1) := by decide +kernel
theorem dX7_make_38 : decode cX7_make 38 = .ok (.ifCond .ne 20, 3) := by decide +kernel
theorem dX7_make_41 : decode cX7_make 41 = .ok (.aload_n 0, 1) := by decide +kernel
theorem dX7_make_42 : decode cX7_make 42 = .ok (.iload_n 2, 1) := by decide +kernel
theorem dX7_make_43 : decode cX7_make 43 = .ok (.invokevirtual 127, 3) := by decide +kernel
theorem dX7_make_46 : decode cX7_make 46 = .ok (.aload_n 0, 1) := by decide +kernel
theorem dX7_make_47 : decode cX7_make 47 = .ok (.iload_n 2, 1) := by decide +kernel
theorem dX7_make_48 : decode cX7_make 48 = .ok (.invokevirtual 131, 3) := by decide +kernel
theorem dX7_make_51 : decode cX7_make 51 = .ok (.aload_n 0, 1) := by decide +kernel
theorem dX7_make_52 : decode cX7_make 52 = .ok (.getfield 16, 3) := by decide +kernel
theorem dX7_make_55 : decode cX7_make 55 = .ok (.iload_n 2, 1) := by decide +kernel
theorem dX7_make_56 : decode cX7_make 56 = .ok (.iconst 1, 1) := by decide +kernel
theorem dX7_make_57 : decode cX7_make 57 = .ok (.bastore, 1) := by decide +kernel
theorem dX7_make_58 : decode cX7_make 58 = .ok (.iinc 2 1, 3) := by decide +kernel
theorem dX7_make_61 : decode cX7_make 61 = .ok (.goto (-34), 3) := by decide +kernel
theorem dX7_make_64 : decode cX7_make 64 = .ok (.aload_n 0, 1) := by decide +kernel
theorem dX7_make_65 : decode cX7_make 65 = .ok (.getfield 33, 3) := by decide +kernel
theorem dX7_make_68 : decode cX7_make 68 = .ok (.iload_n 1, 1) := by decide +kernel
theorem dX7_make_69 : decode cX7_make 69 = .ok (.iaload, 1) := by decide +kernel
theorem dX7_make_70 : decode cX7_make 70 = .ok (.ireturn, 1) := by decide +kernel
theorem dX7_decide_0 : decode cX7_decide 0 = .ok (.aload_n 0, 1) := by decide +kernel
theorem dX7_decide_1 : decode cX7_decide 1 = .ok (.getfield 21, 3) := by decide +kernel
theorem dX7_decide_4 : decode cX7_decide 4 = .ok (.ldc 118, 2) := by decide +kernel
theorem dX7_decide_6 : decode cX7_decide 6 = .ok (.iload_n 1, 1) := by decide +kernel
theorem dX7_decide_7 : decode cX7_decide 7 = .ok (.imul, 1) := by decide +kernel
theorem dX7_decide_8 : decode cX7_decide 8 = .ok (.aload_n 0, 1) := by decide +kernel
theorem dX7_decide_9 : decode cX7_decide 9 = .ok (.iload_n 2, 1) := by decide +kernel
theorem dX7_decide_10 : decode cX7_decide 10 = .ok (.iload_n 3, 1) := by decide +kernel
theorem dX7_decide_11 : decode cX7_decide 11 = .ok (.iload 4, 2) := by decide +kernel
theorem dX7_decide_13 : decode cX7_decide 13 = .ok (.iload 5, 2) := by decide +kernel
theorem dX7_decide_15 : decode cX7_decide 15 = .ok (.invokevirtual 119, 3) := by decide +kernel
theorem dX7_decide_18 : decode cX7_decide 18 = .ok (.iadd, 1) := by decide +kernel
theorem dX7_decide_19 : decode cX7_decide 19 = .ok (.iload 6, 2) := by decide +kernel
theorem dX7_decide_21 : decode cX7_decide 21 = .ok (.iconst 1, 1) := by decide +kernel
theorem dX7_decide_22 : decode cX7_decide 22 = .ok (.iadd, 1) := by decide +kernel
theorem dX7_decide_23 : decode cX7_decide 23 = .ok (.i2b, 1) := by decide +kernel
theorem dX7_decide_24 : decode cX7_decide 24 = .ok (.bastore, 1) := by decide +kernel
theorem dX7_decide_25 : decode cX7_decide 25 = .ok (.aload_n 0, 1) := by decide +kernel
theorem dX7_decide_26 : decode cX7_decide 26 = .ok (.iconst 1, 1) := by decide +kernel
theorem dX7_decide_27 : decode cX7_decide 27 = .ok (.putfield 134, 3) := by decide +kernel
theorem dX7_decide_30 : decode cX7_decide 30 = .ok (.return_, 1) := by decide +kernel
theorem dX7_isOpen_0 : decode cX7_isOpen 0 = .ok (.aload_n 0, 1) := by decide +kernel
theorem dX7_isOpen_1 : decode cX7_isOpen 1 = .ok (.iload_n 1, 1) := by decide +kernel
theorem dX7_isOpen_2 : decode cX7_isOpen 2 = .ok (.iload_n 2, 1) := by decide +kernel
theorem dX7_isOpen_3 : decode cX7_isOpen 3 = .ok (.iload_n 3, 1) := by decide +kernel
theorem dX7_isOpen_4 : decode cX7_isOpen 4 = .ok (.iload 4, 2) := by decide +kernel
theorem dX7_isOpen_6 : decode cX7_isOpen 6 = .ok (.iload 5, 2) := by decide +kernel
theorem dX7_isOpen_8 : decode cX7_isOpen 8 = .ok (.invokevirtual 107, 3) := by decide +kernel
theorem dX7_isOpen_11 : decode cX7_isOpen 11 = .ok (.ifCond .eq 30, 3) := by decide +kernel
theorem dX7_isOpen_14 : decode cX7_isOpen 14 = .ok (.aload_n 0, 1) := by decide +kernel
theorem dX7_isOpen_15 : decode cX7_isOpen 15 = .ok (.getfield 21, 3) := by decide +kernel
theorem dX7_isOpen_18 : decode cX7_isOpen 18 = .ok (.ldc 118, 2) := by decide +kernel
theorem dX7_isOpen_20 : decode cX7_isOpen 20 = .ok (.iload_n 1, 1) := by decide +kernel
theorem dX7_isOpen_21 : decode cX7_isOpen 21 = .ok (.imul, 1) := by decide +kernel
theorem dX7_isOpen_22 : decode cX7_isOpen 22 = .ok (.aload_n 0, 1) := by decide +kernel
theorem dX7_isOpen_23 : decode cX7_isOpen 23 = .ok (.iload_n 2, 1) := by decide +kernel
theorem dX7_isOpen_24 : decode cX7_isOpen 24 = .ok (.iload_n 3, 1) := by decide +kernel
theorem dX7_isOpen_25 : decode cX7_isOpen 25 = .ok (.iload 4, 2) := by decide +kernel
theorem dX7_isOpen_27 : decode cX7_isOpen 27 = .ok (.iload 5, 2) := by decide +kernel
theorem dX7_isOpen_29 : decode cX7_isOpen 29 = .ok (.invokevirtual 119, 3) := by decide +kernel
theorem dX7_isOpen_32 : decode cX7_isOpen 32 = .ok (.iadd, 1) := by decide +kernel
theorem dX7_isOpen_33 : decode cX7_isOpen 33 = .ok (.baload, 1) := by decide +kernel
theorem dX7_isOpen_34 : decode cX7_isOpen 34 = .ok (.ifCond .ne 7, 3) := by decide +kernel
theorem dX7_isOpen_37 : decode cX7_isOpen 37 = .ok (.iconst 1, 1) := by decide +kernel
theorem dX7_isOpen_38 : decode cX7_isOpen 38 = .ok (.goto 4, 3) := by decide +kernel
theorem dX7_isOpen_41 : decode cX7_isOpen 41 = .ok (.iconst 0, 1) := by decide +kernel
theorem dX7_isOpen_42 : decode cX7_isOpen 42 = .ok (.ireturn, 1) := by decide +kernel
theorem dX7_layers_0 : decode cX7_layers 0 = .ok (.iconst 2, 1) := by decide +kernel
theorem dX7_layers_1 : decode cX7_layers 1 = .ok (.aload_n 0, 1) := by decide +kernel
theorem dX7_layers_2 : decode cX7_layers 2 = .ok (.getfield 13, 3) := by decide +kernel
theorem dX7_layers_5 : decode cX7_layers 5 = .ok (.imul, 1) := by decide +kernel
theorem dX7_layers_6 : decode cX7_layers 6 = .ok (.aload_n 0, 1) := by decide +kernel
theorem dX7_layers_7 : decode cX7_layers 7 = .ok (.getfield 13, 3) := by decide +kernel
theorem dX7_layers_10 : decode cX7_layers 10 = .ok (.imul, 1) := by decide +kernel
theorem dX7_layers_11 : decode cX7_layers 11 = .ok (.aload_n 0, 1) := by decide +kernel
theorem dX7_layers_12 : decode cX7_layers 12 = .ok (.getfield 13, 3) := by decide +kernel
theorem dX7_layers_15 : decode cX7_layers 15 = .ok (.imul, 1) := by decide +kernel
theorem dX7_layers_16 : decode cX7_layers 16 = .ok (.istore_n 2, 1) := by decide +kernel
theorem dX7_layers_17 : decode cX7_layers 17 = .ok (.iconst 0, 1) := by decide +kernel
theorem dX7_layers_18 : decode cX7_layers 18 = .ok (.istore_n 3, 1) := by decide +kernel
theorem dX7_layers_19 : decode cX7_layers 19 = .ok (.iload_n 3, 1) := by decide +kernel
theorem dX7_layers_20 : decode cX7_layers 20 = .ok (.iload_n 2, 1) := by decide +kernel
theorem dX7_layers_21 : decode cX7_layers 21 = .ok (.if_icmp .ge 21, 3) := by decide +kernel
theorem dX7_layers_24 : decode cX7_layers 24 = .ok (.aload_n 0, 1) := by decide +kernel
theorem dX7_layers_25 : decode cX7_layers 25 = .ok (.getfield 21, 3) := by decide +kernel
theorem dX7_layers_28 : decode cX7_layers 28 = .ok (.ldc 118, 2) := by decide +kernel
theorem dX7_layers_30 : decode cX7_layers 30 = .ok (.iload_n 1, 1) := by decide +kernel
theorem dX7_layers_31 : decode cX7_layers 31 = .ok (.imul, 1) := by decide +kernel
theorem dX7_layers_32 : decode cX7_layers 32 = .ok (.iload_n 3, 1) := by decide +kernel
theorem dX7_layers_33 : decode cX7_layers 33 = .ok (.iadd, 1) := by decide +kernel
theorem dX7_layers_34 : decode cX7_layers 34 = .ok (.iconst 0, 1) := by decide +kernel
theorem dX7_layers_35 : decode cX7_layers 35 = .ok (.bastore, 1) := by decide +kernel
theorem dX7_layers_36 : decode cX7_layers 36 = .ok (.iinc 3 1, 3) := by decide +kernel
theorem dX7_layers_39 : decode cX7_layers 39 = .ok (.goto (-20), 3) := by decide +kernel
theorem dX7_layers_42 : decode cX7_layers 42 = .ok (.iconst 0, 1) := by decide +kernel
theorem dX7_layers_43 : decode cX7_layers 43 = .ok (.istore_n 3, 1) := by decide +kernel
theorem dX7_layers_44 : decode cX7_layers 44 = .ok (.iload_n 3, 1) := by decide +kernel
theorem dX7_layers_45 : decode cX7_layers 45 = .ok (.aload_n 0, 1) := by decide +kernel
theorem dX7_layers_46 : decode cX7_layers 46 = .ok (.getfield 13, 3) := by decide +kernel
theorem dX7_layers_49 : decode cX7_layers 49 = .ok (.if_icmp .ge 104, 3) := by decide +kernel
theorem dX7_layers_52 : decode cX7_layers 52 = .ok (.iconst 0, 1) := by decide +kernel
theorem dX7_layers_53 : decode cX7_layers 53 = .ok (.istore 4, 2) := by decide +kernel
theorem dX7_layers_55 : decode cX7_layers 55 = .ok (.iload 4, 2) := by decide +kernel
theorem dX7_layers_57 : decode cX7_layers 57 = .ok (.aload_n 0, 1) := by decide +kernel
theorem dX7_layers_58 : decode cX7_layers 58 = .ok (.getfield 13, 3) := by decide +kernel
theorem dX7_layers_61 : decode cX7_layers 61 = .ok (.if_icmp .ge 86, 3) := by decide +kernel
theorem dX7_layers_64 : decode cX7_layers 64 = .ok (.iconst 0, 1) := by decide +kernel
theorem dX7_layers_65 : decode cX7_layers 65 = .ok (.istore 5, 2) := by decide +kernel
theorem dX7_layers_67 : decode cX7_layers 67 = .ok (.iload 5, 2) := by decide +kernel
theorem dX7_layers_69 : decode cX7_layers 69 = .ok (.aload_n 0, 1) := by decide +kernel
theorem dX7_layers_70 : decode cX7_layers 70 = .ok (.getfield 13, 3) := by decide +kernel
theorem dX7_layers_73 : decode cX7_layers 73 = .ok (.if_icmp .ge 68, 3) := by decide +kernel
theorem dX7_layers_76 : decode cX7_layers 76 = .ok (.aload_n 0, 1) := by decide +kernel
theorem dX7_layers_77 : decode cX7_layers 77 = .ok (.iload_n 1, 1) := by decide +kernel
theorem dX7_layers_78 : decode cX7_layers 78 = .ok (.iload_n 3, 1) := by decide +kernel
theorem dX7_layers_79 : decode cX7_layers 79 = .ok (.iload 4, 2) := by decide +kernel
theorem dX7_layers_81 : decode cX7_layers 81 = .ok (.iload 5, 2) := by decide +kernel
theorem dX7_layers_83 : decode cX7_layers 83 = .ok (.iconst 1, 1) := by decide +kernel
theorem dX7_layers_84 : decode cX7_layers 84 = .ok (.invokevirtual 107, 3) := by decide +kernel
theorem dX7_layers_87 : decode cX7_layers 87 = .ok (.ifCond .eq 48, 3) := by decide +kernel
theorem dX7_layers_90 : decode cX7_layers 90 = .ok (.aload_n 0, 1) := by decide +kernel
theorem dX7_layers_91 : decode cX7_layers 91 = .ok (.iload_n 1, 1) := by decide +kernel
theorem dX7_layers_92 : decode cX7_layers 92 = .ok (.iload_n 3, 1) := by decide +kernel
theorem dX7_layers_93 : decode cX7_layers 93 = .ok (.iload 4, 2) := by decide +kernel
theorem dX7_layers_95 : decode cX7_layers 95 = .ok (.iload 5, 2) := by decide +kernel
theorem dX7_layers_97 : decode cX7_layers 97 = .ok (.iload 4, 2) := by decide +kernel
theorem dX7_layers_99 : decode cX7_layers 99 = .ok (.invokevirtual 100, 3) := by decide +kernel
theorem dX7_layers_102 : decode cX7_layers 102 = .ok (.ifCond .eq 33, 3) := by decide +kernel
theorem dX7_layers_105 : decode cX7_layers 105 = .ok (.aload_n 0, 1) := by decide +kernel
theorem dX7_layers_106 : decode cX7_layers 106 = .ok (.iload_n 1, 1) := by decide +kernel
theorem dX7_layers_107 : decode cX7_layers 107 = .ok (.iload_n 3, 1) := by decide +kernel
theorem dX7_layers_108 : decode cX7_layers 108 = .ok (.iload 4, 2) := by decide +kernel
theorem dX7_layers_110 : decode cX7_layers 110 = .ok (.iload 5, 2) := by decide +kernel
theorem dX7_layers_112 : decode cX7_layers 112 = .ok (.iconst 1, 1) := by decide +kernel
theorem dX7_layers_113 : decode cX7_layers 113 = .ok (.invokevirtual 138, 3) := by decide +kernel
theorem dX7_layers_116 : decode cX7_layers 116 = .ok (.aload_n 0, 1) := by decide +kernel
theorem dX7_layers_117 : decode cX7_layers 117 = .ok (.getfield 104, 3) := by decide +kernel
theorem dX7_layers_120 : decode cX7_layers 120 = .ok (.ifCond .ne 15, 3) := by decide +kernel
theorem dX7_layers_123 : decode cX7_layers 123 = .ok (.aload_n 0, 1) := by decide +kernel
theorem dX7_layers_124 : decode cX7_layers 124 = .ok (.iload_n 1, 1) := by decide +kernel
theorem dX7_layers_125 : decode cX7_layers 125 = .ok (.iload_n 3, 1) := by decide +kernel
theorem dX7_layers_126 : decode cX7_layers 126 = .ok (.iload 4, 2) := by decide +kernel
theorem dX7_layers_128 : decode cX7_layers 128 = .ok (.iload 5, 2) := by decide +kernel
theorem dX7_layers_130 : decode cX7_layers 130 = .ok (.iconst 1, 1) := by decide +kernel
theorem dX7_layers_131 : decode cX7_layers 131 = .ok (.iconst 0, 1) := by decide +kernel
theorem dX7_layers_132 : decode cX7_layers 132 = .ok (.invokevirtual 142, 3) := by decide +kernel
theorem dX7_layers_135 : decode cX7_layers 135 = .ok (.iinc 5 1, 3) := by decide +kernel
theorem dX7_layers_138 : decode cX7_layers 138 = .ok (.goto (-71), 3) := by decide +kernel
theorem dX7_layers_141 : decode cX7_layers 141 = .ok (.iinc 4 1, 3) := by decide +kernel
theorem dX7_layers_144 : decode cX7_layers 144 = .ok (.goto (-89), 3) := by decide +kernel
theorem dX7_layers_147 : decode cX7_layers 147 = .ok (.iinc 3 1, 3) := by decide +kernel
theorem dX7_layers_150 : decode cX7_layers 150 = .ok (.goto (-106), 3) := by decide +kernel
theorem dX7_layers_153 : decode cX7_layers 153 = .ok (.iconst 0, 1) := by decide +kernel
theorem dX7_layers_154 : decode cX7_layers 154 = .ok (.istore_n 3, 1) := by decide +kernel
theorem dX7_layers_155 : decode cX7_layers 155 = .ok (.iconst 1, 1) := by decide +kernel
theorem dX7_layers_156 : decode cX7_layers 156 = .ok (.istore 4, 2) := by decide +kernel
theorem dX7_layers_158 : decode cX7_layers 158 = .ok (.iload_n 3, 1) := by decide +kernel
theorem dX7_layers_159 : decode cX7_layers 159 = .ok (.iconst 2, 1) := by decide +kernel
theorem dX7_layers_160 : decode cX7_layers 160 = .ok (.if_icmp .lt 15, 3) := by decide +kernel
theorem dX7_layers_163 : decode cX7_layers 163 = .ok (.iload 4, 2) := by decide +kernel
theorem dX7_layers_165 : decode cX7_layers 165 = .ok (.bipush 100, 2) := by decide +kernel
theorem dX7_layers_167 : decode cX7_layers 167 = .ok (.if_icmp .ge 60, 3) := by decide +kernel
theorem dX7_layers_170 : decode cX7_layers 170 = .ok (.iload_n 1, 1) := by decide +kernel
theorem dX7_layers_171 : decode cX7_layers 171 = .ok (.iconst 2, 1) := by decide +kernel
theorem dX7_layers_172 : decode cX7_layers 172 = .ok (.if_icmp .ne 55, 3) := by decide +kernel
theorem dX7_layers_175 : decode cX7_layers 175 = .ok (.aload_n 0, 1) := by decide +kernel
theorem dX7_layers_176 : decode cX7_layers 176 = .ok (.iconst 0, 1) := by decide +kernel
theorem dX7_layers_177 : decode cX7_layers 177 = .ok (.putfield 134, 3) := by decide +kernel
theorem dX7_layers_180 : decode cX7_layers 180 = .ok (.aload_n 0, 1) := by decide +kernel
theorem dX7_layers_181 : decode cX7_layers 181 = .ok (.iload_n 1, 1) := by decide +kernel
theorem dX7_layers_182 : decode cX7_layers 182 = .ok (.iload 4, 2) := by decide +kernel
theorem dX7_layers_184 : decode cX7_layers 184 = .ok (.invokevirtual 146, 3) := by decide +kernel
theorem dX7_layers_187 : decode cX7_layers 187 = .ok (.iload_n 1, 1) := by decide +kernel
theorem dX7_layers_188 : decode cX7_layers 188 = .ok (.iconst 2, 1) := by decide +kernel
theorem dX7_layers_189 : decode cX7_layers 189 = .ok (.if_icmp .ne 17, 3) := by decide +kernel
theorem dX7_layers_192 : decode cX7_layers 192 = .ok (.iload 4, 2) := by decide +kernel
theorem dX7_layers_194 : decode cX7_layers 194 = .ok (.iconst 2, 1) := by decide +kernel
theorem dX7_layers_195 : decode cX7_layers 195 = .ok (.irem, 1) := by decide +kernel
theorem dX7_layers_196 : decode cX7_layers 196 = .ok (.iconst 1, 1) := by decide +kernel
theorem dX7_layers_197 : decode cX7_layers 197 = .ok (.if_icmp .ne 9, 3) := by decide +kernel
theorem dX7_layers_200 : decode cX7_layers 200 = .ok (.aload_n 0, 1) := by decide +kernel
theorem dX7_layers_201 : decode cX7_layers 201 = .ok (.iload 4, 2) := by decide +kernel
theorem dX7_layers_203 : decode cX7_layers 203 = .ok (.invokevirtual 150, 3) := by decide +kernel
theorem dX7_layers_206 : decode cX7_layers 206 = .ok (.aload_n 0, 1) := by decide +kernel
theorem dX7_layers_207 : decode cX7_layers 207 = .ok (.getfield 134, 3) := by decide +kernel
theorem dX7_layers_210 : decode cX7_layers 210 = .ok (.ifCond .eq 7, 3) := by decide +kernel
theorem dX7_layers_213 : decode cX7_layers 213 = .ok (.iconst 0, 1) := by decide +kernel
theorem dX7_layers_214 : decode cX7_layers 214 = .ok (.goto 6, 3) := by decide +kernel
theorem dX7_layers_217 : decode cX7_layers 217 = .ok (.iload_n 3, 1) := by decide +kernel
theorem dX7_layers_218 : decode cX7_layers 218 = .ok (.iconst 1, 1) := by decide +kernel
theorem dX7_layers_219 : decode cX7_layers 219 = .ok (.iadd, 1) := by decide +kernel
theorem dX7_layers_220 : decode cX7_layers 220 = .ok (.istore_n 3, 1) := by decide +kernel
theorem dX7_layers_221 : decode cX7_layers 221 = .ok (.iinc 4 1, 3) := by decide +kernel
theorem dX7_layers_224 : decode cX7_layers 224 = .ok (.goto (-66), 3) := by decide +kernel
theorem dX7_layers_227 : decode cX7_layers 227 = .ok (.return_, 1) := by decide +kernel
theorem dX7_layer_0 : decode cX7_layer 0 = .ok (.iload_n 2, 1) := by decide +kernel
theorem dX7_layer_1 : decode cX7_layer 1 = .ok (.iconst 2, 1) := by decide +kernel
theorem dX7_layer_2 : decode cX7_layer 2 = .ok (.irem, 1) := by decide +kernel
theorem dX7_layer_3 : decode cX7_layer 3 = .ok (.istore_n 3, 1) := by decide +kernel
theorem dX7_layer_4 : decode cX7_layer 4 = .ok (.iconst 0, 1) := by decide +kernel
theorem dX7_layer_5 : decode cX7_layer 5 = .ok (.istore 4, 2) := by decide +kernel
theorem dX7_layer_7 : decode cX7_layer 7 = .ok (.iload 4, 2) := by decide +kernel
theorem dX7_layer_9 : decode cX7_layer 9 = .ok (.aload_n 0, 1) := by decide +kernel
theorem dX7_layer_10 : decode cX7_layer 10 = .ok (.getfield 13, 3) := by decide +kernel
theorem dX7_layer_13 : decode cX7_layer 13 = .ok (.if_icmp .ge 102, 3) := by decide +kernel
theorem dX7_layer_16 : decode cX7_layer 16 = .ok (.iconst 0, 1) := by decide +kernel
theorem dX7_layer_17 : decode cX7_layer 17 = .ok (.istore 5, 2) := by decide +kernel
theorem dX7_layer_19 : decode cX7_layer 19 = .ok (.iload 5, 2) := by decide +kernel
theorem dX7_layer_21 : decode cX7_layer 21 = .ok (.aload_n 0, 1) := by decide +kernel
theorem dX7_layer_22 : decode cX7_layer 22 = .ok (.getfield 13, 3) := by decide +kernel
theorem dX7_layer_25 : decode cX7_layer 25 = .ok (.if_icmp .ge 84, 3) := by decide +kernel
theorem dX7_layer_28 : decode cX7_layer 28 = .ok (.iconst 0, 1) := by decide +kernel
theorem dX7_layer_29 : decode cX7_layer 29 = .ok (.istore 6, 2) := by decide +kernel
theorem dX7_layer_31 : decode cX7_layer 31 = .ok (.iload 6, 2) := by decide +kernel
theorem dX7_layer_33 : decode cX7_layer 33 = .ok (.aload_n 0, 1) := by decide +kernel
theorem dX7_layer_34 : decode cX7_layer 34 = .ok (.getfield 13, 3) := by decide +kernel
theorem dX7_layer_37 : decode cX7_layer 37 = .ok (.if_icmp .ge 66, 3) := by decide +kernel
theorem dX7_layer_40 : decode cX7_layer 40 = .ok (.aload_n 0, 1) := by decide +kernel
theorem dX7_layer_41 : decode cX7_layer 41 = .ok (.getfield 21, 3) := by decide +kernel
theorem dX7_layer_44 : decode cX7_layer 44 = .ok (.ldc 118, 2) := by decide +kernel
theorem dX7_layer_46 : decode cX7_layer 46 = .ok (.iload_n 1, 1) := by decide +kernel
theorem dX7_layer_47 : decode cX7_layer 47 = .ok (.imul, 1) := by decide +kernel
theorem dX7_layer_48 : decode cX7_layer 48 = .ok (.aload_n 0, 1) := by decide +kernel
theorem dX7_layer_49 : decode cX7_layer 49 = .ok (.iload 4, 2) := by decide +kernel
theorem dX7_layer_51 : decode cX7_layer 51 = .ok (.iload 5, 2) := by decide +kernel
theorem dX7_layer_53 : decode cX7_layer 53 = .ok (.iload 6, 2) := by decide +kernel
theorem dX7_layer_55 : decode cX7_layer 55 = .ok (.iload_n 3, 1) := by decide +kernel
theorem dX7_layer_56 : decode cX7_layer 56 = .ok (.invokevirtual 119, 3) := by decide +kernel
theorem dX7_layer_59 : decode cX7_layer 59 = .ok (.iadd, 1) := by decide +kernel
theorem dX7_layer_60 : decode cX7_layer 60 = .ok (.baload, 1) := by decide +kernel
theorem dX7_layer_61 : decode cX7_layer 61 = .ok (.iload_n 2, 1) := by decide +kernel
theorem dX7_layer_62 : decode cX7_layer 62 = .ok (.if_icmp .ne 35, 3) := by decide +kernel
theorem dX7_layer_65 : decode cX7_layer 65 = .ok (.iload_n 3, 1) := by decide +kernel
theorem dX7_layer_66 : decode cX7_layer 66 = .ok (.iconst 1, 1) := by decide +kernel
theorem dX7_layer_67 : decode cX7_layer 67 = .ok (.if_icmp .ne 18, 3) := by decide +kernel
theorem dX7_layer_70 : decode cX7_layer 70 = .ok (.aload_n 0, 1) := by decide +kernel
theorem dX7_layer_71 : decode cX7_layer 71 = .ok (.iload_n 1, 1) := by decide +kernel
theorem dX7_layer_72 : decode cX7_layer 72 = .ok (.iload 4, 2) := by decide +kernel
theorem dX7_layer_74 : decode cX7_layer 74 = .ok (.iload 5, 2) := by decide +kernel
theorem dX7_layer_76 : decode cX7_layer 76 = .ok (.iload 6, 2) := by decide +kernel
theorem dX7_layer_78 : decode cX7_layer 78 = .ok (.iload_n 2, 1) := by decide +kernel
theorem dX7_layer_79 : decode cX7_layer 79 = .ok (.invokevirtual 153, 3) := by decide +kernel
theorem dX7_layer_82 : decode cX7_layer 82 = .ok (.goto 15, 3) := by decide +kernel
theorem dX7_layer_85 : decode cX7_layer 85 = .ok (.aload_n 0, 1) := by decide +kernel
theorem dX7_layer_86 : decode cX7_layer 86 = .ok (.iload_n 1, 1) := by decide +kernel
theorem dX7_layer_87 : decode cX7_layer 87 = .ok (.iload 4, 2) := by decide +kernel
theorem dX7_layer_89 : decode cX7_layer 89 = .ok (.iload 5, 2) := by decide +kernel
theorem dX7_layer_91 : decode cX7_layer 91 = .ok (.iload 6, 2) := by decide +kernel
theorem dX7_layer_93 : decode cX7_layer 93 = .ok (.iload_n 2, 1) := by decide +kernel
theorem dX7_layer_94 : decode cX7_layer 94 = .ok (.invokevirtual 156, 3) := by decide +kernel
theorem dX7_layer_97 : decode cX7_layer 97 = .ok (.iinc 6 1, 3) := by decide +kernel
theorem dX7_layer_100 : decode cX7_layer 100 = .ok (.goto (-69), 3) := by decide +kernel
theorem dX7_layer_103 : decode cX7_layer 103 = .ok (.iinc 5 1, 3) := by decide +kernel
theorem dX7_layer_106 : decode cX7_layer 106 = .ok (.goto (-87), 3) := by decide +kernel
theorem dX7_layer_109 : decode cX7_layer 109 = .ok (.iinc 4 1, 3) := by decide +kernel
theorem dX7_layer_112 : decode cX7_layer 112 = .ok (.goto (-105), 3) := by decide +kernel
theorem dX7_layer_115 : decode cX7_layer 115 = .ok (.return_, 1) := by decide +kernel
theorem dX7_backWhite_0 : decode cX7_backWhite 0 = .ok (.iconst (-1), 1) := by decide +kernel
theorem dX7_backWhite_1 : decode cX7_backWhite 1 = .ok (.istore 6, 2) := by decide +kernel
theorem dX7_backWhite_3 : decode cX7_backWhite 3 = .ok (.iload 6, 2) := by decide +kernel
theorem dX7_backWhite_5 : decode cX7_backWhite 5 = .ok (.iconst 1, 1) := by decide +kernel
theorem dX7_backWhite_6 : decode cX7_backWhite 6 = .ok (.if_icmp .gt 181, 3) := by decide +kernel
theorem dX7_backWhite_9 : decode cX7_backWhite 9 = .ok (.iconst (-1), 1) := by decide +kernel
theorem dX7_backWhite_10 : decode cX7_backWhite 10 = .ok (.istore 7, 2) := by decide +kernel
theorem dX7_backWhite_12 : decode cX7_backWhite 12 = .ok (.iload 7, 2) := by decide +kernel
theorem dX7_backWhite_14 : decode cX7_backWhite 14 = .ok (.iconst 1, 1) := by decide +kernel
theorem dX7_backWhite_15 : decode cX7_backWhite 15 = .ok (.if_icmp .gt 166, 3) := by decide +kernel
theorem dX7_backWhite_18 : decode cX7_backWhite 18 = .ok (.iload 6, 2) := by decide +kernel
theorem dX7_backWhite_20 : decode cX7_backWhite 20 = .ok (.ifCond .ne 12, 3) := by decide +kernel
theorem dX7_backWhite_23 : decode cX7_backWhite 23 = .ok (.iload 7, 2) := by decide +kernel
theorem dX7_backWhite_25 : decode cX7_backWhite 25 = .ok (.ifCond .ne 7, 3) := by decide +kernel
theorem dX7_backWhite_28 : decode cX7_backWhite 28 = .ok (.iconst (-1), 1) := by decide +kernel
theorem dX7_backWhite_29 : decode cX7_backWhite 29 = .ok (.goto 12, 3) := by decide +kernel
theorem dX7_backWhite_32 : decode cX7_backWhite 32 = .ok (.aload_n 0, 1) := by decide +kernel
theorem dX7_backWhite_33 : decode cX7_backWhite 33 = .ok (.iload_n 2, 1) := by decide +kernel
theorem dX7_backWhite_34 : decode cX7_backWhite 34 = .ok (.iload 6, 2) := by decide +kernel
theorem dX7_backWhite_36 : decode cX7_backWhite 36 = .ok (.iload 7, 2) := by decide +kernel
theorem dX7_backWhite_38 : decode cX7_backWhite 38 = .ok (.invokevirtual 92, 3) := by decide +kernel
theorem dX7_backWhite_41 : decode cX7_backWhite 41 = .ok (.istore 8, 2) := by decide +kernel
theorem dX7_backWhite_43 : decode cX7_backWhite 43 = .ok (.iload 8, 2) := by decide +kernel
theorem dX7_backWhite_45 : decode cX7_backWhite 45 = .ok (.iconst (-1), 1) := by decide +kernel
theorem dX7_backWhite_46 : decode cX7_backWhite 46 = .ok (.if_icmp .eq 30, 3) := by decide +kernel
theorem dX7_backWhite_49 : decode cX7_backWhite 49 = .ok (.aload_n 0, 1) := by decide +kernel
theorem dX7_backWhite_50 : decode cX7_backWhite 50 = .ok (.iload_n 1, 1) := by decide +kernel
theorem dX7_backWhite_51 : decode cX7_backWhite 51 = .ok (.iload 8, 2) := by decide +kernel
theorem dX7_backWhite_53 : decode cX7_backWhite 53 = .ok (.iload_n 3, 1) := by decide +kernel
theorem dX7_backWhite_54 : decode cX7_backWhite 54 = .ok (.iload 4, 2) := by decide +kernel
theorem dX7_backWhite_56 : decode cX7_backWhite 56 = .ok (.iconst 0, 1) := by decide +kernel
theorem dX7_backWhite_57 : decode cX7_backWhite 57 = .ok (.invokevirtual 159, 3) := by decide +kernel
theorem dX7_backWhite_60 : decode cX7_backWhite 60 = .ok (.ifCond .eq 16, 3) := by decide +kernel
theorem dX7_backWhite_63 : decode cX7_backWhite 63 = .ok (.aload_n 0, 1) := by decide +kernel
theorem dX7_backWhite_64 : decode cX7_backWhite 64 = .ok (.iload_n 1, 1) := by decide +kernel
theorem dX7_backWhite_65 : decode cX7_backWhite 65 = .ok (.iload 8, 2) := by decide +kernel
theorem dX7_backWhite_67 : decode cX7_backWhite 67 = .ok (.iload_n 3, 1) := by decide +kernel
theorem dX7_backWhite_68 : decode cX7_backWhite 68 = .ok (.iload 4, 2) := by decide +kernel
theorem dX7_backWhite_70 : decode cX7_backWhite 70 = .ok (.iconst 0, 1) := by decide +kernel
theorem dX7_backWhite_71 : decode cX7_backWhite 71 = .ok (.iload 5, 2) := by decide +kernel
theorem dX7_backWhite_73 : decode cX7_backWhite 73 = .ok (.invokevirtual 142, 3) := by decide +kernel
theorem dX7_backWhite_76 : decode cX7_backWhite 76 = .ok (.iload_n 1, 1) := by decide +kernel
theorem dX7_backWhite_77 : decode cX7_backWhite 77 = .ok (.iconst 2, 1) := by decide +kernel
theorem dX7_backWhite_78 : decode cX7_backWhite 78 = .ok (.if_icmp .ge 97, 3) := by decide +kernel
theorem dX7_backWhite_81 : decode cX7_backWhite 81 = .ok (.iload 6, 2) := by decide +kernel
theorem dX7_backWhite_83 : decode cX7_backWhite 83 = .ok (.ifCond .ne 8, 3) := by decide +kernel
theorem dX7_backWhite_86 : decode cX7_backWhite 86 = .ok (.iload 7, 2) := by decide +kernel
theorem dX7_backWhite_88 : decode cX7_backWhite 88 = .ok (.ifCond .eq 87, 3) := by decide +kernel
theorem dX7_backWhite_91 : decode cX7_backWhite 91 = .ok (.iload_n 1, 1) := by decide +kernel
theorem dX7_backWhite_92 : decode cX7_backWhite 92 = .ok (.ifCond .eq 13, 3) := by decide +kernel
theorem dX7_backWhite_95 : decode cX7_backWhite 95 = .ok (.iload 6, 2) := by decide +kernel
theorem dX7_backWhite_97 : decode cX7_backWhite 97 = .ok (.ifCond .eq 8, 3) := by decide +kernel
theorem dX7_backWhite_100 : decode cX7_backWhite 100 = .ok (.iload 7, 2) := by decide +kernel
theorem dX7_backWhite_102 : decode cX7_backWhite 102 = .ok (.ifCond .ne 73, 3) := by decide +kernel
theorem dX7_backWhite_105 : decode cX7_backWhite 105 = .ok (.aload_n 0, 1) := by decide +kernel
theorem dX7_backWhite_106 : decode cX7_backWhite 106 = .ok (.iload 4, 2) := by decide +kernel
theorem dX7_backWhite_108 : decode cX7_backWhite 108 = .ok (.iload 6, 2) := by decide +kernel
theorem dX7_backWhite_110 : decode cX7_backWhite 110 = .ok (.iload 7, 2) := by decide +kernel
theorem dX7_backWhite_112 : decode cX7_backWhite 112 = .ok (.invokevirtual 92, 3) := by decide +kernel
theorem dX7_backWhite_115 : decode cX7_backWhite 115 = .ok (.istore 9, 2) := by decide +kernel
theorem dX7_backWhite_117 : decode cX7_backWhite 117 = .ok (.iload 9, 2) := by decide +kernel
theorem dX7_backWhite_119 : decode cX7_backWhite 119 = .ok (.iconst (-1), 1) := by decide +kernel
theorem dX7_backWhite_120 : decode cX7_backWhite 120 = .ok (.if_icmp .eq 55, 3) := by decide +kernel
theorem dX7_backWhite_123 : decode cX7_backWhite 123 = .ok (.iload 9, 2) := by decide +kernel
theorem dX7_backWhite_125 : decode cX7_backWhite 125 = .ok (.iload_n 2, 1) := by decide +kernel
theorem dX7_backWhite_126 : decode cX7_backWhite 126 = .ok (.if_icmp .eq 49, 3) := by decide +kernel
theorem dX7_backWhite_129 : decode cX7_backWhite 129 = .ok (.iload 9, 2) := by decide +kernel
theorem dX7_backWhite_131 : decode cX7_backWhite 131 = .ok (.iload_n 3, 1) := by decide +kernel
theorem dX7_backWhite_132 : decode cX7_backWhite 132 = .ok (.if_icmp .eq 43, 3) := by decide +kernel
theorem dX7_backWhite_135 : decode cX7_backWhite 135 = .ok (.aload_n 0, 1) := by decide +kernel
theorem dX7_backWhite_136 : decode cX7_backWhite 136 = .ok (.iload_n 1, 1) := by decide +kernel
theorem dX7_backWhite_137 : decode cX7_backWhite 137 = .ok (.iload_n 2, 1) := by decide +kernel
theorem dX7_backWhite_138 : decode cX7_backWhite 138 = .ok (.iload_n 3, 1) := by decide +kernel
theorem dX7_backWhite_139 : decode cX7_backWhite 139 = .ok (.iload 9, 2) := by decide +kernel
theorem dX7_backWhite_141 : decode cX7_backWhite 141 = .ok (.iconst 0, 1) := by decide +kernel
theorem dX7_backWhite_142 : decode cX7_backWhite 142 = .ok (.invokevirtual 159, 3) := by decide +kernel
theorem dX7_backWhite_145 : decode cX7_backWhite 145 = .ok (.ifCond .eq 15, 3) := by decide +kernel
theorem dX7_backWhite_148 : decode cX7_backWhite 148 = .ok (.aload_n 0, 1) := by decide +kernel
theorem dX7_backWhite_149 : decode cX7_backWhite 149 = .ok (.iload_n 1, 1) := by decide +kernel
theorem dX7_backWhite_150 : decode cX7_backWhite 150 = .ok (.iload_n 2, 1) := by decide +kernel
theorem dX7_backWhite_151 : decode cX7_backWhite 151 = .ok (.iload_n 3, 1) := by decide +kernel
theorem dX7_backWhite_152 : decode cX7_backWhite 152 = .ok (.iload 9, 2) := by decide +kernel
theorem dX7_backWhite_154 : decode cX7_backWhite 154 = .ok (.iconst 0, 1) := by decide +kernel
theorem dX7_backWhite_155 : decode cX7_backWhite 155 = .ok (.iload 5, 2) := by decide +kernel
theorem dX7_backWhite_157 : decode cX7_backWhite 157 = .ok (.invokevirtual 142, 3) := by decide +kernel
theorem dX7_backWhite_160 : decode cX7_backWhite 160 = .ok (.aload_n 0, 1) := by decide +kernel
theorem dX7_backWhite_161 : decode cX7_backWhite 161 = .ok (.iload 9, 2) := by decide +kernel
theorem dX7_backWhite_163 : decode cX7_backWhite 163 = .ok (.iload 6, 2) := by decide +kernel
theorem dX7_backWhite_165 : decode cX7_backWhite 165 = .ok (.iload 7, 2) := by decide +kernel
theorem dX7_backWhite_167 : decode cX7_backWhite 167 = .ok (.invokevirtual 92, 3) := by decide +kernel
theorem dX7_backWhite_170 : decode cX7_backWhite 170 = .ok (.istore 9, 2) := by decide +kernel
theorem dX7_backWhite_172 : decode cX7_backWhite 172 = .ok (.goto (-55), 3) := by decide +kernel
theorem dX7_backWhite_175 : decode cX7_backWhite 175 = .ok (.iinc 7 1, 3) := by decide +kernel
theorem dX7_backWhite_178 : decode cX7_backWhite 178 = .ok (.goto (-166), 3) := by decide +kernel
theorem dX7_backWhite_181 : decode cX7_backWhite 181 = .ok (.iinc 6 1, 3) := by decide +kernel
theorem dX7_backWhite_184 : decode cX7_backWhite 184 = .ok (.goto (-181), 3) := by decide +kernel
theorem dX7_backWhite_187 : decode cX7_backWhite 187 = .ok (.iload_n 1, 1) := by decide +kernel
theorem dX7_backWhite_188 : decode cX7_backWhite 188 = .ok (.iconst 2, 1) := by decide +kernel
theorem dX7_backWhite_189 : decode cX7_backWhite 189 = .ok (.if_icmp .ne 117, 3) := by decide +kernel
theorem dX7_backWhite_192 : decode cX7_backWhite 192 = .ok (.iload 4, 2) := by decide +kernel
theorem dX7_backWhite_194 : decode cX7_backWhite 194 = .ok (.aload_n 0, 1) := by decide +kernel
theorem dX7_backWhite_195 : decode cX7_backWhite 195 = .ok (.getfield 7, 3) := by decide +kernel
theorem dX7_backWhite_198 : decode cX7_backWhite 198 = .ok (.isub, 1) := by decide +kernel
theorem dX7_backWhite_199 : decode cX7_backWhite 199 = .ok (.istore 6, 2) := by decide +kernel
theorem dX7_backWhite_201 : decode cX7_backWhite 201 = .ok (.iload 6, 2) := by decide +kernel
theorem dX7_backWhite_203 : decode cX7_backWhite 203 = .ok (.ifCond .lt 19, 3) := by decide +kernel
theorem dX7_backWhite_206 : decode cX7_backWhite 206 = .ok (.iload 6, 2) := by decide +kernel
theorem dX7_backWhite_208 : decode cX7_backWhite 208 = .ok (.iload_n 2, 1) := by decide +kernel
theorem dX7_backWhite_209 : decode cX7_backWhite 209 = .ok (.if_icmp .eq 13, 3) := by decide +kernel
theorem dX7_backWhite_212 : decode cX7_backWhite 212 = .ok (.iload 6, 2) := by decide +kernel
theorem dX7_backWhite_214 : decode cX7_backWhite 214 = .ok (.iload_n 3, 1) := by decide +kernel
theorem dX7_backWhite_215 : decode cX7_backWhite 215 = .ok (.if_icmp .eq 7, 3) := by decide +kernel
theorem dX7_backWhite_218 : decode cX7_backWhite 218 = .ok (.iconst 1, 1) := by decide +kernel
theorem dX7_backWhite_219 : decode cX7_backWhite 219 = .ok (.goto 4, 3) := by decide +kernel
theorem dX7_backWhite_222 : decode cX7_backWhite 222 = .ok (.iconst 0, 1) := by decide +kernel
theorem dX7_backWhite_223 : decode cX7_backWhite 223 = .ok (.istore 7, 2) := by decide +kernel
theorem dX7_backWhite_225 : decode cX7_backWhite 225 = .ok (.iload 7, 2) := by decide +kernel
theorem dX7_backWhite_227 : decode cX7_backWhite 227 = .ok (.ifCond .eq 28, 3) := by decide +kernel
theorem dX7_backWhite_230 : decode cX7_backWhite 230 = .ok (.aload_n 0, 1) := by decide +kernel
theorem dX7_backWhite_231 : decode cX7_backWhite 231 = .ok (.iload_n 1, 1) := by decide +kernel
theorem dX7_backWhite_232 : decode cX7_backWhite 232 = .ok (.iload_n 2, 1) := by decide +kernel
theorem dX7_backWhite_233 : decode cX7_backWhite 233 = .ok (.iload_n 3, 1) := by decide +kernel
theorem dX7_backWhite_234 : decode cX7_backWhite 234 = .ok (.iload 6, 2) := by decide +kernel
theorem dX7_backWhite_236 : decode cX7_backWhite 236 = .ok (.iconst 0, 1) := by decide +kernel
theorem dX7_backWhite_237 : decode cX7_backWhite 237 = .ok (.invokevirtual 159, 3) := by decide +kernel
theorem dX7_backWhite_240 : decode cX7_backWhite 240 = .ok (.ifCond .eq 15, 3) := by decide +kernel
theorem dX7_backWhite_243 : decode cX7_backWhite 243 = .ok (.aload_n 0, 1) := by decide +kernel
theorem dX7_backWhite_244 : decode cX7_backWhite 244 = .ok (.iload_n 1, 1) := by decide +kernel
theorem dX7_backWhite_245 : decode cX7_backWhite 245 = .ok (.iload_n 2, 1) := by decide +kernel
theorem dX7_backWhite_246 : decode cX7_backWhite 246 = .ok (.iload_n 3, 1) := by decide +kernel
theorem dX7_backWhite_247 : decode cX7_backWhite 247 = .ok (.iload 6, 2) := by decide +kernel
theorem dX7_backWhite_249 : decode cX7_backWhite 249 = .ok (.iconst 0, 1) := by decide +kernel
theorem dX7_backWhite_250 : decode cX7_backWhite 250 = .ok (.iload 5, 2) := by decide +kernel
theorem dX7_backWhite_252 : decode cX7_backWhite 252 = .ok (.invokevirtual 142, 3) := by decide +kernel
theorem dX7_backWhite_255 : decode cX7_backWhite 255 = .ok (.iload 7, 2) := by decide +kernel
theorem dX7_backWhite_257 : decode cX7_backWhite 257 = .ok (.ifCond .eq 49, 3) := by decide +kernel
theorem dX7_backWhite_260 : decode cX7_backWhite 260 = .ok (.iload 4, 2) := by decide +kernel
theorem dX7_backWhite_262 : decode cX7_backWhite 262 = .ok (.aload_n 0, 1) := by decide +kernel
theorem dX7_backWhite_263 : decode cX7_backWhite 263 = .ok (.getfield 7, 3) := by decide +kernel
theorem dX7_backWhite_266 : decode cX7_backWhite 266 = .ok (.idiv, 1) := by decide +kernel
theorem dX7_backWhite_267 : decode cX7_backWhite 267 = .ok (.iconst 3, 1) := by decide +kernel
theorem dX7_backWhite_268 : decode cX7_backWhite 268 = .ok (.if_icmp .ne 38, 3) := by decide +kernel
theorem dX7_backWhite_271 : decode cX7_backWhite 271 = .ok (.aload_n 0, 1) := by decide +kernel
theorem dX7_backWhite_272 : decode cX7_backWhite 272 = .ok (.iload_n 1, 1) := by decide +kernel
theorem dX7_backWhite_273 : decode cX7_backWhite 273 = .ok (.iload_n 2, 1) := by decide +kernel
theorem dX7_backWhite_274 : decode cX7_backWhite 274 = .ok (.iload_n 3, 1) := by decide +kernel
theorem dX7_backWhite_275 : decode cX7_backWhite 275 = .ok (.iload 6, 2) := by decide +kernel
theorem dX7_backWhite_277 : decode cX7_backWhite 277 = .ok (.aload_n 0, 1) := by decide +kernel
theorem dX7_backWhite_278 : decode cX7_backWhite 278 = .ok (.getfield 7, 3) := by decide +kernel
theorem dX7_backWhite_281 : decode cX7_backWhite 281 = .ok (.isub, 1) := by decide +kernel
theorem dX7_backWhite_282 : decode cX7_backWhite 282 = .ok (.iconst 0, 1) := by decide +kernel
theorem dX7_backWhite_283 : decode cX7_backWhite 283 = .ok (.invokevirtual 159, 3) := by decide +kernel
theorem dX7_backWhite_286 : decode cX7_backWhite 286 = .ok (.ifCond .eq 20, 3) := by decide +kernel
theorem dX7_backWhite_289 : decode cX7_backWhite 289 = .ok (.aload_n 0, 1) := by decide +kernel
theorem dX7_backWhite_290 : decode cX7_backWhite 290 = .ok (.iload_n 1, 1) := by decide +kernel
theorem dX7_backWhite_291 : decode cX7_backWhite 291 = .ok (.iload_n 2, 1) := by decide +kernel
theorem dX7_backWhite_292 : decode cX7_backWhite 292 = .ok (.iload_n 3, 1) := by decide +kernel
theorem dX7_backWhite_293 : decode cX7_backWhite 293 = .ok (.iload 6, 2) := by decide +kernel
theorem dX7_backWhite_295 : decode cX7_backWhite 295 = .ok (.aload_n 0, 1) := by decide +kernel
theorem dX7_backWhite_296 : decode cX7_backWhite 296 = .ok (.getfield 7, 3) := by decide +kernel
theorem dX7_backWhite_299 : decode cX7_backWhite 299 = .ok (.isub, 1) := by decide +kernel
theorem dX7_backWhite_300 : decode cX7_backWhite 300 = .ok (.iconst 0, 1) := by decide +kernel
theorem dX7_backWhite_301 : decode cX7_backWhite 301 = .ok (.iload 5, 2) := by decide +kernel
theorem dX7_backWhite_303 : decode cX7_backWhite 303 = .ok (.invokevirtual 142, 3) := by decide +kernel
theorem dX7_backWhite_306 : decode cX7_backWhite 306 = .ok (.return_, 1) := by decide +kernel
theorem dX7_backBlack_0 : decode cX7_backBlack 0 = .ok (.iconst (-1), 1) := by decide +kernel
theorem dX7_backBlack_1 : decode cX7_backBlack 1 = .ok (.istore 6, 2) := by decide +kernel
theorem dX7_backBlack_3 : decode cX7_backBlack 3 = .ok (.iload 6, 2) := by decide +kernel
theorem dX7_backBlack_5 : decode cX7_backBlack 5 = .ok (.iconst 1, 1) := by decide +kernel
theorem dX7_backBlack_6 : decode cX7_backBlack 6 = .ok (.if_icmp .gt 95, 3) := by decide +kernel
theorem dX7_backBlack_9 : decode cX7_backBlack 9 = .ok (.iconst (-1), 1) := by decide +kernel
theorem dX7_backBlack_10 : decode cX7_backBlack 10 = .ok (.istore 7, 2) := by decide +kernel
theorem dX7_backBlack_12 : decode cX7_backBlack 12 = .ok (.iload 7, 2) := by decide +kernel
theorem dX7_backBlack_14 : decode cX7_backBlack 14 = .ok (.iconst 1, 1) := by decide +kernel
theorem dX7_backBlack_15 : decode cX7_backBlack 15 = .ok (.if_icmp .gt 80, 3) := by decide +kernel
theorem dX7_backBlack_18 : decode cX7_backBlack 18 = .ok (.iload 6, 2) := by decide +kernel
theorem dX7_backBlack_20 : decode cX7_backBlack 20 = .ok (.ifCond .ne 12, 3) := by decide +kernel
theorem dX7_backBlack_23 : decode cX7_backBlack 23 = .ok (.iload 7, 2) := by decide +kernel
theorem dX7_backBlack_25 : decode cX7_backBlack 25 = .ok (.ifCond .ne 7, 3) := by decide +kernel
theorem dX7_backBlack_28 : decode cX7_backBlack 28 = .ok (.iconst (-1), 1) := by decide +kernel
theorem dX7_backBlack_29 : decode cX7_backBlack 29 = .ok (.goto 12, 3) := by decide +kernel
theorem dX7_backBlack_32 : decode cX7_backBlack 32 = .ok (.aload_n 0, 1) := by decide +kernel
theorem dX7_backBlack_33 : decode cX7_backBlack 33 = .ok (.iload_n 3, 1) := by decide +kernel
theorem dX7_backBlack_34 : decode cX7_backBlack 34 = .ok (.iload 6, 2) := by decide +kernel
theorem dX7_backBlack_36 : decode cX7_backBlack 36 = .ok (.iload 7, 2) := by decide +kernel
theorem dX7_backBlack_38 : decode cX7_backBlack 38 = .ok (.invokevirtual 92, 3) := by decide +kernel
theorem dX7_backBlack_41 : decode cX7_backBlack 41 = .ok (.istore 8, 2) := by decide +kernel
theorem dX7_backBlack_43 : decode cX7_backBlack 43 = .ok (.iload 8, 2) := by decide +kernel
theorem dX7_backBlack_45 : decode cX7_backBlack 45 = .ok (.iconst (-1), 1) := by decide +kernel
theorem dX7_backBlack_46 : decode cX7_backBlack 46 = .ok (.if_icmp .eq 43, 3) := by decide +kernel
theorem dX7_backBlack_49 : decode cX7_backBlack 49 = .ok (.aload_n 0, 1) := by decide +kernel
theorem dX7_backBlack_50 : decode cX7_backBlack 50 = .ok (.iload_n 1, 1) := by decide +kernel
theorem dX7_backBlack_51 : decode cX7_backBlack 51 = .ok (.iload_n 2, 1) := by decide +kernel
theorem dX7_backBlack_52 : decode cX7_backBlack 52 = .ok (.iload 8, 2) := by decide +kernel
theorem dX7_backBlack_54 : decode cX7_backBlack 54 = .ok (.iload 4, 2) := by decide +kernel
theorem dX7_backBlack_56 : decode cX7_backBlack 56 = .ok (.iconst 1, 1) := by decide +kernel
theorem dX7_backBlack_57 : decode cX7_backBlack 57 = .ok (.invokevirtual 159, 3) := by decide +kernel
theorem dX7_backBlack_60 : decode cX7_backBlack 60 = .ok (.ifCond .eq 29, 3) := by decide +kernel
theorem dX7_backBlack_63 : decode cX7_backBlack 63 = .ok (.aload_n 0, 1) := by decide +kernel
theorem dX7_backBlack_64 : decode cX7_backBlack 64 = .ok (.iload_n 1, 1) := by decide +kernel
theorem dX7_backBlack_65 : decode cX7_backBlack 65 = .ok (.iload_n 2, 1) := by decide +kernel
theorem dX7_backBlack_66 : decode cX7_backBlack 66 = .ok (.iload 8, 2) := by decide +kernel
theorem dX7_backBlack_68 : decode cX7_backBlack 68 = .ok (.iload 4, 2) := by decide +kernel
theorem dX7_backBlack_70 : decode cX7_backBlack 70 = .ok (.invokevirtual 162, 3) := by decide +kernel
theorem dX7_backBlack_73 : decode cX7_backBlack 73 = .ok (.ifCond .eq 16, 3) := by decide +kernel
theorem dX7_backBlack_76 : decode cX7_backBlack 76 = .ok (.aload_n 0, 1) := by decide +kernel
theorem dX7_backBlack_77 : decode cX7_backBlack 77 = .ok (.iload_n 1, 1) := by decide +kernel
theorem dX7_backBlack_78 : decode cX7_backBlack 78 = .ok (.iload_n 2, 1) := by decide +kernel
theorem dX7_backBlack_79 : decode cX7_backBlack 79 = .ok (.iload 8, 2) := by decide +kernel
theorem dX7_backBlack_81 : decode cX7_backBlack 81 = .ok (.iload 4, 2) := by decide +kernel
theorem dX7_backBlack_83 : decode cX7_backBlack 83 = .ok (.iconst 1, 1) := by decide +kernel
theorem dX7_backBlack_84 : decode cX7_backBlack 84 = .ok (.iload 5, 2) := by decide +kernel
theorem dX7_backBlack_86 : decode cX7_backBlack 86 = .ok (.invokevirtual 142, 3) := by decide +kernel
theorem dX7_backBlack_89 : decode cX7_backBlack 89 = .ok (.iinc 7 1, 3) := by decide +kernel
theorem dX7_backBlack_92 : decode cX7_backBlack 92 = .ok (.goto (-80), 3) := by decide +kernel
theorem dX7_backBlack_95 : decode cX7_backBlack 95 = .ok (.iinc 6 1, 3) := by decide +kernel
theorem dX7_backBlack_98 : decode cX7_backBlack 98 = .ok (.goto (-95), 3) := by decide +kernel
theorem dX7_backBlack_101 : decode cX7_backBlack 101 = .ok (.return_, 1) := by decide +kernel
theorem dX7_allDecided_0 : decode cX7_allDecided 0 = .ok (.aload_n 0, 1) := by decide +kernel
theorem dX7_allDecided_1 : decode cX7_allDecided 1 = .ok (.iload_n 1, 1) := by decide +kernel
theorem dX7_allDecided_2 : decode cX7_allDecided 2 = .ok (.iload_n 2, 1) := by decide +kernel
theorem dX7_allDecided_3 : decode cX7_allDecided 3 = .ok (.iload_n 3, 1) := by decide +kernel
theorem dX7_allDecided_4 : decode cX7_allDecided 4 = .ok (.iload 4, 2) := by decide +kernel
theorem dX7_allDecided_6 : decode cX7_allDecided 6 = .ok (.iconst 1, 1) := by decide +kernel
theorem dX7_allDecided_7 : decode cX7_allDecided 7 = .ok (.invokevirtual 138, 3) := by decide +kernel
theorem dX7_allDecided_10 : decode cX7_allDecided 10 = .ok (.iconst 0, 1) := by decide +kernel
theorem dX7_allDecided_11 : decode cX7_allDecided 11 = .ok (.istore 5, 2) := by decide +kernel
theorem dX7_allDecided_13 : decode cX7_allDecided 13 = .ok (.iload 5, 2) := by decide +kernel
theorem dX7_allDecided_15 : decode cX7_allDecided 15 = .ok (.aload_n 0, 1) := by decide +kernel
theorem dX7_allDecided_16 : decode cX7_allDecided 16 = .ok (.getfield 104, 3) := by decide +kernel
theorem dX7_allDecided_19 : decode cX7_allDecided 19 = .ok (.if_icmp .ge 22, 3) := by decide +kernel
theorem dX7_allDecided_22 : decode cX7_allDecided 22 = .ok (.aload_n 0, 1) := by decide +kernel
theorem dX7_allDecided_23 : decode cX7_allDecided 23 = .ok (.iload 5, 2) := by decide +kernel
theorem dX7_allDecided_25 : decode cX7_allDecided 25 = .ok (.iconst 1, 1) := by decide +kernel
theorem dX7_allDecided_26 : decode cX7_allDecided 26 = .ok (.invokevirtual 166, 3) := by decide +kernel
theorem dX7_allDecided_29 : decode cX7_allDecided 29 = .ok (.iconst (-1), 1) := by decide +kernel
theorem dX7_allDecided_30 : decode cX7_allDecided 30 = .ok (.if_icmp .ne 5, 3) := by decide +kernel
theorem dX7_allDecided_33 : decode cX7_allDecided 33 = .ok (.iconst 0, 1) := by decide +kernel
theorem dX7_allDecided_34 : decode cX7_allDecided 34 = .ok (.ireturn, 1) := by decide +kernel
theorem dX7_allDecided_35 : decode cX7_allDecided 35 = .ok (.iinc 5 1, 3) := by decide +kernel
theorem dX7_allDecided_38 : decode cX7_allDecided 38 = .ok (.goto (-25), 3) := by decide +kernel
theorem dX7_allDecided_41 : decode cX7_allDecided 41 = .ok (.aload_n 0, 1) := by decide +kernel
theorem dX7_allDecided_42 : decode cX7_allDecided 42 = .ok (.getfield 104, 3) := by decide +kernel
theorem dX7_allDecided_45 : decode cX7_allDecided 45 = .ok (.ifCond .le 7, 3) := by decide +kernel
theorem dX7_allDecided_48 : decode cX7_allDecided 48 = .ok (.iconst 1, 1) := by decide +kernel
theorem dX7_allDecided_49 : decode cX7_allDecided 49 = .ok (.goto 4, 3) := by decide +kernel
theorem dX7_allDecided_52 : decode cX7_allDecided 52 = .ok (.iconst 0, 1) := by decide +kernel
theorem dX7_allDecided_53 : decode cX7_allDecided 53 = .ok (.ireturn, 1) := by decide +kernel
theorem dX7_promotions_0 : decode cX7_promotions 0 = .ok (.iconst 0, 1) := by decide +kernel
theorem dX7_promotions_1 : decode cX7_promotions 1 = .ok (.istore_n 2, 1) := by decide +kernel
theorem dX7_promotions_2 : decode cX7_promotions 2 = .ok (.iload_n 2, 1) := by decide +kernel
theorem dX7_promotions_3 : decode cX7_promotions 3 = .ok (.aload_n 0, 1) := by decide +kernel
theorem dX7_promotions_4 : decode cX7_promotions 4 = .ok (.getfield 13, 3) := by decide +kernel
theorem dX7_promotions_7 : decode cX7_promotions 7 = .ok (.if_icmp .ge 138, 3) := by decide +kernel
theorem dX7_promotions_10 : decode cX7_promotions 10 = .ok (.iconst 0, 1) := by decide +kernel
theorem dX7_promotions_11 : decode cX7_promotions 11 = .ok (.istore_n 3, 1) := by decide +kernel
theorem dX7_promotions_12 : decode cX7_promotions 12 = .ok (.iload_n 3, 1) := by decide +kernel
theorem dX7_promotions_13 : decode cX7_promotions 13 = .ok (.aload_n 0, 1) := by decide +kernel
theorem dX7_promotions_14 : decode cX7_promotions 14 = .ok (.getfield 13, 3) := by decide +kernel
theorem dX7_promotions_17 : decode cX7_promotions 17 = .ok (.if_icmp .ge 122, 3) := by decide +kernel
theorem dX7_promotions_20 : decode cX7_promotions 20 = .ok (.aload_n 0, 1) := by decide +kernel
theorem dX7_promotions_21 : decode cX7_promotions 21 = .ok (.getfield 13, 3) := by decide +kernel
theorem dX7_promotions_24 : decode cX7_promotions 24 = .ok (.iconst 2, 1) := by decide +kernel
theorem dX7_promotions_25 : decode cX7_promotions 25 = .ok (.aload_n 0, 1) := by decide +kernel
theorem dX7_promotions_26 : decode cX7_promotions 26 = .ok (.getfield 7, 3) := by decide +kernel
theorem dX7_promotions_29 : decode cX7_promotions 29 = .ok (.imul, 1) := by decide +kernel
theorem dX7_promotions_30 : decode cX7_promotions 30 = .ok (.isub, 1) := by decide +kernel
theorem dX7_promotions_31 : decode cX7_promotions 31 = .ok (.istore 4, 2) := by decide +kernel
theorem dX7_promotions_33 : decode cX7_promotions 33 = .ok (.iload 4, 2) := by decide +kernel
theorem dX7_promotions_35 : decode cX7_promotions 35 = .ok (.aload_n 0, 1) := by decide +kernel
theorem dX7_promotions_36 : decode cX7_promotions 36 = .ok (.getfield 13, 3) := by decide +kernel
theorem dX7_promotions_39 : decode cX7_promotions 39 = .ok (.aload_n 0, 1) := by decide +kernel
theorem dX7_promotions_40 : decode cX7_promotions 40 = .ok (.getfield 7, 3) := by decide +kernel
theorem dX7_promotions_43 : decode cX7_promotions 43 = .ok (.isub, 1) := by decide +kernel
theorem dX7_promotions_44 : decode cX7_promotions 44 = .ok (.if_icmp .ge 89, 3) := by decide +kernel
theorem dX7_promotions_47 : decode cX7_promotions 47 = .ok (.iload 4, 2) := by decide +kernel
theorem dX7_promotions_49 : decode cX7_promotions 49 = .ok (.aload_n 0, 1) := by decide +kernel
theorem dX7_promotions_50 : decode cX7_promotions 50 = .ok (.getfield 7, 3) := by decide +kernel
theorem dX7_promotions_53 : decode cX7_promotions 53 = .ok (.iadd, 1) := by decide +kernel
theorem dX7_promotions_54 : decode cX7_promotions 54 = .ok (.istore 5, 2) := by decide +kernel
theorem dX7_promotions_56 : decode cX7_promotions 56 = .ok (.iload 5, 2) := by decide +kernel
theorem dX7_promotions_58 : decode cX7_promotions 58 = .ok (.iload_n 2, 1) := by decide +kernel
theorem dX7_promotions_59 : decode cX7_promotions 59 = .ok (.if_icmp .eq 68, 3) := by decide +kernel
theorem dX7_promotions_62 : decode cX7_promotions 62 = .ok (.iload 5, 2) := by decide +kernel
theorem dX7_promotions_64 : decode cX7_promotions 64 = .ok (.iload_n 3, 1) := by decide +kernel
theorem dX7_promotions_65 : decode cX7_promotions 65 = .ok (.if_icmp .eq 62, 3) := by decide +kernel
theorem dX7_promotions_68 : decode cX7_promotions 68 = .ok (.aload_n 0, 1) := by decide +kernel
theorem dX7_promotions_69 : decode cX7_promotions 69 = .ok (.iconst 2, 1) := by decide +kernel
theorem dX7_promotions_70 : decode cX7_promotions 70 = .ok (.iload_n 2, 1) := by decide +kernel
theorem dX7_promotions_71 : decode cX7_promotions 71 = .ok (.iload_n 3, 1) := by decide +kernel
theorem dX7_promotions_72 : decode cX7_promotions 72 = .ok (.iload 4, 2) := by decide +kernel
theorem dX7_promotions_74 : decode cX7_promotions 74 = .ok (.iconst 0, 1) := by decide +kernel
theorem dX7_promotions_75 : decode cX7_promotions 75 = .ok (.invokevirtual 159, 3) := by decide +kernel
theorem dX7_promotions_78 : decode cX7_promotions 78 = .ok (.ifCond .ne 6, 3) := by decide +kernel
theorem dX7_promotions_81 : decode cX7_promotions 81 = .ok (.goto 46, 3) := by decide +kernel
theorem dX7_promotions_84 : decode cX7_promotions 84 = .ok (.aload_n 0, 1) := by decide +kernel
theorem dX7_promotions_85 : decode cX7_promotions 85 = .ok (.iconst 0, 1) := by decide +kernel
theorem dX7_promotions_86 : decode cX7_promotions 86 = .ok (.iload_n 2, 1) := by decide +kernel
theorem dX7_promotions_87 : decode cX7_promotions 87 = .ok (.iload_n 3, 1) := by decide +kernel
theorem dX7_promotions_88 : decode cX7_promotions 88 = .ok (.iload 5, 2) := by decide +kernel
theorem dX7_promotions_90 : decode cX7_promotions 90 = .ok (.iconst 1, 1) := by decide +kernel
theorem dX7_promotions_91 : decode cX7_promotions 91 = .ok (.invokevirtual 123, 3) := by decide +kernel
theorem dX7_promotions_94 : decode cX7_promotions 94 = .ok (.iload_n 1, 1) := by decide +kernel
theorem dX7_promotions_95 : decode cX7_promotions 95 = .ok (.iconst 1, 1) := by decide +kernel
theorem dX7_promotions_96 : decode cX7_promotions 96 = .ok (.isub, 1) := by decide +kernel
theorem dX7_promotions_97 : decode cX7_promotions 97 = .ok (.if_icmp .eq 19, 3) := by decide +kernel
theorem dX7_promotions_100 : decode cX7_promotions 100 = .ok (.aload_n 0, 1) := by decide +kernel
theorem dX7_promotions_101 : decode cX7_promotions 101 = .ok (.iconst 1, 1) := by decide +kernel
theorem dX7_promotions_102 : decode cX7_promotions 102 = .ok (.iload_n 2, 1) := by decide +kernel
theorem dX7_promotions_103 : decode cX7_promotions 103 = .ok (.iload_n 3, 1) := by decide +kernel
theorem dX7_promotions_104 : decode cX7_promotions 104 = .ok (.iload 5, 2) := by decide +kernel
theorem dX7_promotions_106 : decode cX7_promotions 106 = .ok (.iconst 1, 1) := by decide +kernel
theorem dX7_promotions_107 : decode cX7_promotions 107 = .ok (.invokevirtual 123, 3) := by decide +kernel
theorem dX7_promotions_110 : decode cX7_promotions 110 = .ok (.iload_n 1, 1) := by decide +kernel
theorem dX7_promotions_111 : decode cX7_promotions 111 = .ok (.iconst 1, 1) := by decide +kernel
theorem dX7_promotions_112 : decode cX7_promotions 112 = .ok (.isub, 1) := by decide +kernel
theorem dX7_promotions_113 : decode cX7_promotions 113 = .ok (.if_icmp .ne 14, 3) := by decide +kernel
theorem dX7_promotions_116 : decode cX7_promotions 116 = .ok (.aload_n 0, 1) := by decide +kernel
theorem dX7_promotions_117 : decode cX7_promotions 117 = .ok (.iconst 2, 1) := by decide +kernel
theorem dX7_promotions_118 : decode cX7_promotions 118 = .ok (.iload_n 2, 1) := by decide +kernel
theorem dX7_promotions_119 : decode cX7_promotions 119 = .ok (.iload_n 3, 1) := by decide +kernel
theorem dX7_promotions_120 : decode cX7_promotions 120 = .ok (.iload 4, 2) := by decide +kernel
theorem dX7_promotions_122 : decode cX7_promotions 122 = .ok (.iconst 0, 1) := by decide +kernel
theorem dX7_promotions_123 : decode cX7_promotions 123 = .ok (.iload_n 1, 1) := by decide +kernel
theorem dX7_promotions_124 : decode cX7_promotions 124 = .ok (.invokevirtual 142, 3) := by decide +kernel
theorem dX7_promotions_127 : decode cX7_promotions 127 = .ok (.iinc 4 1, 3) := by decide +kernel
theorem dX7_promotions_130 : decode cX7_promotions 130 = .ok (.goto (-97), 3) := by decide +kernel
theorem dX7_promotions_133 : decode cX7_promotions 133 = .ok (.iinc 3 1, 3) := by decide +kernel
theorem dX7_promotions_136 : decode cX7_promotions 136 = .ok (.goto (-124), 3) := by decide +kernel
theorem dX7_promotions_139 : decode cX7_promotions 139 = .ok (.iinc 2 1, 3) := by decide +kernel
theorem dX7_promotions_142 : decode cX7_promotions 142 = .ok (.goto (-140), 3) := by decide +kernel
theorem dX7_promotions_145 : decode cX7_promotions 145 = .ok (.return_, 1) := by decide +kernel
theorem dX7_image_0 : decode cX7_image 0 = .ok (.iload_n 1, 1) := by decide +kernel
theorem dX7_image_1 : decode cX7_image 1 = .ok (.aload_n 0, 1) := by decide +kernel
theorem dX7_image_2 : decode cX7_image 2 = .ok (.getfield 7, 3) := by decide +kernel
theorem dX7_image_5 : decode cX7_image 5 = .ok (.irem, 1) := by decide +kernel
theorem dX7_image_6 : decode cX7_image 6 = .ok (.istore_n 3, 1) := by decide +kernel
theorem dX7_image_7 : decode cX7_image 7 = .ok (.iload_n 1, 1) := by decide +kernel
theorem dX7_image_8 : decode cX7_image 8 = .ok (.aload_n 0, 1) := by decide +kernel
theorem dX7_image_9 : decode cX7_image 9 = .ok (.getfield 7, 3) := by decide +kernel
theorem dX7_image_12 : decode cX7_image 12 = .ok (.idiv, 1) := by decide +kernel
theorem dX7_image_13 : decode cX7_image 13 = .ok (.istore 4, 2) := by decide +kernel
theorem dX7_image_15 : decode cX7_image 15 = .ok (.iload_n 2, 1) := by decide +kernel
theorem dX7_image_16 : decode cX7_image 16 = .ok (.iconst 4, 1) := by decide +kernel
theorem dX7_image_17 : decode cX7_image 17 = .ok (.iand, 1) := by decide +kernel
theorem dX7_image_18 : decode cX7_image 18 = .ok (.ifCond .eq 13, 3) := by decide +kernel
theorem dX7_image_21 : decode cX7_image 21 = .ok (.iload_n 3, 1) := by decide +kernel
theorem dX7_image_22 : decode cX7_image 22 = .ok (.istore 5, 2) := by decide +kernel
theorem dX7_image_24 : decode cX7_image 24 = .ok (.iload 4, 2) := by decide +kernel
theorem dX7_image_26 : decode cX7_image 26 = .ok (.istore_n 3, 1) := by decide +kernel
theorem dX7_image_27 : decode cX7_image 27 = .ok (.iload 5, 2) := by decide +kernel
theorem dX7_image_29 : decode cX7_image 29 = .ok (.istore 4, 2) := by decide +kernel
theorem dX7_image_31 : decode cX7_image 31 = .ok (.iload_n 2, 1) := by decide +kernel
theorem dX7_image_32 : decode cX7_image 32 = .ok (.iconst 1, 1) := by decide +kernel
theorem dX7_image_33 : decode cX7_image 33 = .ok (.iand, 1) := by decide +kernel
theorem dX7_image_34 : decode cX7_image 34 = .ok (.ifCond .eq 14, 3) := by decide +kernel
theorem dX7_image_37 : decode cX7_image 37 = .ok (.aload_n 0, 1) := by decide +kernel
theorem dX7_image_38 : decode cX7_image 38 = .ok (.getfield 7, 3) := by decide +kernel
theorem dX7_image_41 : decode cX7_image 41 = .ok (.iconst 1, 1) := by decide +kernel
theorem dX7_image_42 : decode cX7_image 42 = .ok (.isub, 1) := by decide +kernel
theorem dX7_image_43 : decode cX7_image 43 = .ok (.iload_n 3, 1) := by decide +kernel
theorem dX7_image_44 : decode cX7_image 44 = .ok (.isub, 1) := by decide +kernel
theorem dX7_image_45 : decode cX7_image 45 = .ok (.goto 4, 3) := by decide +kernel
theorem dX7_image_48 : decode cX7_image 48 = .ok (.iload_n 3, 1) := by decide +kernel
theorem dX7_image_49 : decode cX7_image 49 = .ok (.istore_n 3, 1) := by decide +kernel
theorem dX7_image_50 : decode cX7_image 50 = .ok (.iload_n 2, 1) := by decide +kernel
theorem dX7_image_51 : decode cX7_image 51 = .ok (.iconst 2, 1) := by decide +kernel
theorem dX7_image_52 : decode cX7_image 52 = .ok (.iand, 1) := by decide +kernel
theorem dX7_image_53 : decode cX7_image 53 = .ok (.ifCond .eq 15, 3) := by decide +kernel
theorem dX7_image_56 : decode cX7_image 56 = .ok (.aload_n 0, 1) := by decide +kernel
theorem dX7_image_57 : decode cX7_image 57 = .ok (.getfield 7, 3) := by decide +kernel
theorem dX7_image_60 : decode cX7_image 60 = .ok (.iconst 1, 1) := by decide +kernel
theorem dX7_image_61 : decode cX7_image 61 = .ok (.isub, 1) := by decide +kernel
theorem dX7_image_62 : decode cX7_image 62 = .ok (.iload 4, 2) := by decide +kernel
theorem dX7_image_64 : decode cX7_image 64 = .ok (.isub, 1) := by decide +kernel
theorem dX7_image_65 : decode cX7_image 65 = .ok (.goto 5, 3) := by decide +kernel
theorem dX7_image_68 : decode cX7_image 68 = .ok (.iload 4, 2) := by decide +kernel
theorem dX7_image_70 : decode cX7_image 70 = .ok (.istore 4, 2) := by decide +kernel
theorem dX7_image_72 : decode cX7_image 72 = .ok (.aload_n 0, 1) := by decide +kernel
theorem dX7_image_73 : decode cX7_image 73 = .ok (.getfield 7, 3) := by decide +kernel
theorem dX7_image_76 : decode cX7_image 76 = .ok (.iload 4, 2) := by decide +kernel
theorem dX7_image_78 : decode cX7_image 78 = .ok (.imul, 1) := by decide +kernel
theorem dX7_image_79 : decode cX7_image 79 = .ok (.iload_n 3, 1) := by decide +kernel
theorem dX7_image_80 : decode cX7_image 80 = .ok (.iadd, 1) := by decide +kernel
theorem dX7_image_81 : decode cX7_image 81 = .ok (.ireturn, 1) := by decide +kernel
theorem dX7_least_0 : decode cX7_least 0 = .ok (.aload_n 0, 1) := by decide +kernel
theorem dX7_least_1 : decode cX7_least 1 = .ok (.iload_n 2, 1) := by decide +kernel
theorem dX7_least_2 : decode cX7_least 2 = .ok (.iload_n 3, 1) := by decide +kernel
theorem dX7_least_3 : decode cX7_least 3 = .ok (.iload 4, 2) := by decide +kernel
theorem dX7_least_5 : decode cX7_least 5 = .ok (.iload 5, 2) := by decide +kernel
theorem dX7_least_7 : decode cX7_least 7 = .ok (.invokevirtual 119, 3) := by decide +kernel
theorem dX7_least_10 : decode cX7_least 10 = .ok (.istore 6, 2) := by decide +kernel
theorem dX7_least_12 : decode cX7_least 12 = .ok (.iconst 1, 1) := by decide +kernel
theorem dX7_least_13 : decode cX7_least 13 = .ok (.istore 7, 2) := by decide +kernel
theorem dX7_least_15 : decode cX7_least 15 = .ok (.iload 7, 2) := by decide +kernel
theorem dX7_least_17 : decode cX7_least 17 = .ok (.iload_n 1, 1) := by decide +kernel
theorem dX7_least_18 : decode cX7_least 18 = .ok (.iconst 2, 1) := by decide +kernel
theorem dX7_least_19 : decode cX7_least 19 = .ok (.if_icmp .ne 7, 3) := by decide +kernel
theorem dX7_least_22 : decode cX7_least 22 = .ok (.iconst 2, 1) := by decide +kernel
theorem dX7_least_23 : decode cX7_least 23 = .ok (.goto 5, 3) := by decide +kernel
theorem dX7_least_26 : decode cX7_least 26 = .ok (.bipush 8, 2) := by decide +kernel
theorem dX7_least_28 : decode cX7_least 28 = .ok (.if_icmp .ge 55, 3) := by decide +kernel
theorem dX7_least_31 : decode cX7_least 31 = .ok (.aload_n 0, 1) := by decide +kernel
theorem dX7_least_32 : decode cX7_least 32 = .ok (.aload_n 0, 1) := by decide +kernel
theorem dX7_least_33 : decode cX7_least 33 = .ok (.iload_n 2, 1) := by decide +kernel
theorem dX7_least_34 : decode cX7_least 34 = .ok (.iload 7, 2) := by decide +kernel
theorem dX7_least_36 : decode cX7_least 36 = .ok (.invokevirtual 170, 3) := by decide +kernel
theorem dX7_least_39 : decode cX7_least 39 = .ok (.aload_n 0, 1) := by decide +kernel
theorem dX7_least_40 : decode cX7_least 40 = .ok (.iload_n 3, 1) := by decide +kernel
theorem dX7_least_41 : decode cX7_least 41 = .ok (.iload 7, 2) := by decide +kernel
theorem dX7_least_43 : decode cX7_least 43 = .ok (.invokevirtual 170, 3) := by decide +kernel
theorem dX7_least_46 : decode cX7_least 46 = .ok (.aload_n 0, 1) := by decide +kernel
theorem dX7_least_47 : decode cX7_least 47 = .ok (.iload 4, 2) := by decide +kernel
theorem dX7_least_49 : decode cX7_least 49 = .ok (.iload 7, 2) := by decide +kernel
theorem dX7_least_51 : decode cX7_least 51 = .ok (.invokevirtual 170, 3) := by decide +kernel
theorem dX7_least_54 : decode cX7_least 54 = .ok (.iload 5, 2) := by decide +kernel
theorem dX7_least_56 : decode cX7_least 56 = .ok (.invokevirtual 119, 3) := by decide +kernel
theorem dX7_least_59 : decode cX7_least 59 = .ok (.istore 8, 2) := by decide +kernel
theorem dX7_least_61 : decode cX7_least 61 = .ok (.iload 8, 2) := by decide +kernel
theorem dX7_least_63 : decode cX7_least 63 = .ok (.iload 6, 2) := by decide +kernel
theorem dX7_least_65 : decode cX7_least 65 = .ok (.if_icmp .ge 8, 3) := by decide +kernel
theorem dX7_least_68 : decode cX7_least 68 = .ok (.iload 8, 2) := by decide +kernel
theorem dX7_least_70 : decode cX7_least 70 = .ok (.goto 5, 3) := by decide +kernel
theorem dX7_least_73 : decode cX7_least 73 = .ok (.iload 6, 2) := by decide +kernel
theorem dX7_least_75 : decode cX7_least 75 = .ok (.istore 6, 2) := by decide +kernel
theorem dX7_least_77 : decode cX7_least 77 = .ok (.iinc 7 1, 3) := by decide +kernel
theorem dX7_least_80 : decode cX7_least 80 = .ok (.goto (-65), 3) := by decide +kernel
theorem dX7_least_83 : decode cX7_least 83 = .ok (.iload 6, 2) := by decide +kernel
theorem dX7_least_85 : decode cX7_least 85 = .ok (.ireturn, 1) := by decide +kernel
theorem dX7_numbers_0 : decode cX7_numbers 0 = .ok (.iconst 0, 1) := by decide +kernel
theorem dX7_numbers_1 : decode cX7_numbers 1 = .ok (.istore_n 2, 1) := by decide +kernel
theorem dX7_numbers_2 : decode cX7_numbers 2 = .ok (.iload_n 2, 1) := by decide +kernel
theorem dX7_numbers_3 : decode cX7_numbers 3 = .ok (.sipush 16384, 3) := by decide +kernel
theorem dX7_numbers_6 : decode cX7_numbers 6 = .ok (.if_icmp .ge 22, 3) := by decide +kernel
theorem dX7_numbers_9 : decode cX7_numbers 9 = .ok (.aload_n 0, 1) := by decide +kernel
theorem dX7_numbers_10 : decode cX7_numbers 10 = .ok (.getfield 26, 3) := by decide +kernel
theorem dX7_numbers_13 : decode cX7_numbers 13 = .ok (.sipush 16384, 3) := by decide +kernel
theorem dX7_numbers_16 : decode cX7_numbers 16 = .ok (.iload_n 1, 1) := by decide +kernel
theorem dX7_numbers_17 : decode cX7_numbers 17 = .ok (.imul, 1) := by decide +kernel
theorem dX7_numbers_18 : decode cX7_numbers 18 = .ok (.iload_n 2, 1) := by decide +kernel
theorem dX7_numbers_19 : decode cX7_numbers 19 = .ok (.iadd, 1) := by decide +kernel
theorem dX7_numbers_20 : decode cX7_numbers 20 = .ok (.iconst 0, 1) := by decide +kernel
theorem dX7_numbers_21 : decode cX7_numbers 21 = .ok (.iastore, 1) := by decide +kernel
theorem dX7_numbers_22 : decode cX7_numbers 22 = .ok (.iinc 2 1, 3) := by decide +kernel
theorem dX7_numbers_25 : decode cX7_numbers 25 = .ok (.goto (-23), 3) := by decide +kernel
theorem dX7_numbers_28 : decode cX7_numbers 28 = .ok (.iconst 0, 1) := by decide +kernel
theorem dX7_numbers_29 : decode cX7_numbers 29 = .ok (.istore_n 2, 1) := by decide +kernel
theorem dX7_numbers_30 : decode cX7_numbers 30 = .ok (.iconst 2, 1) := by decide +kernel
theorem dX7_numbers_31 : decode cX7_numbers 31 = .ok (.aload_n 0, 1) := by decide +kernel
theorem dX7_numbers_32 : decode cX7_numbers 32 = .ok (.getfield 13, 3) := by decide +kernel
theorem dX7_numbers_35 : decode cX7_numbers 35 = .ok (.imul, 1) := by decide +kernel
theorem dX7_numbers_36 : decode cX7_numbers 36 = .ok (.aload_n 0, 1) := by decide +kernel
theorem dX7_numbers_37 : decode cX7_numbers 37 = .ok (.getfield 13, 3) := by decide +kernel
theorem dX7_numbers_40 : decode cX7_numbers 40 = .ok (.imul, 1) := by decide +kernel
theorem dX7_numbers_41 : decode cX7_numbers 41 = .ok (.aload_n 0, 1) := by decide +kernel
theorem dX7_numbers_42 : decode cX7_numbers 42 = .ok (.getfield 13, 3) := by decide +kernel
theorem dX7_numbers_45 : decode cX7_numbers 45 = .ok (.imul, 1) := by decide +kernel
theorem dX7_numbers_46 : decode cX7_numbers 46 = .ok (.istore_n 3, 1) := by decide +kernel
theorem dX7_numbers_47 : decode cX7_numbers 47 = .ok (.iconst 0, 1) := by decide +kernel
theorem dX7_numbers_48 : decode cX7_numbers 48 = .ok (.istore 4, 2) := by decide +kernel
theorem dX7_numbers_50 : decode cX7_numbers 50 = .ok (.iload 4, 2) := by decide +kernel
theorem dX7_numbers_52 : decode cX7_numbers 52 = .ok (.iload_n 3, 1) := by decide +kernel
theorem dX7_numbers_53 : decode cX7_numbers 53 = .ok (.if_icmp .ge 144, 3) := by decide +kernel
theorem dX7_numbers_56 : decode cX7_numbers 56 = .ok (.iload 4, 2) := by decide +kernel
theorem dX7_numbers_58 : decode cX7_numbers 58 = .ok (.bipush 31, 2) := by decide +kernel
theorem dX7_numbers_60 : decode cX7_numbers 60 = .ok (.iand, 1) := by decide +kernel
theorem dX7_numbers_61 : decode cX7_numbers 61 = .ok (.ifCond .ne 19, 3) := by decide +kernel
theorem dX7_numbers_64 : decode cX7_numbers 64 = .ok (.aload_n 0, 1) := by decide +kernel
theorem dX7_numbers_65 : decode cX7_numbers 65 = .ok (.getfield 30, 3) := by decide +kernel
theorem dX7_numbers_68 : decode cX7_numbers 68 = .ok (.sipush 16384, 3) := by decide +kernel
theorem dX7_numbers_71 : decode cX7_numbers 71 = .ok (.iload_n 1, 1) := by decide +kernel
theorem dX7_numbers_72 : decode cX7_numbers 72 = .ok (.imul, 1) := by decide +kernel
theorem dX7_numbers_73 : decode cX7_numbers 73 = .ok (.iload 4, 2) := by decide +kernel
theorem dX7_numbers_75 : decode cX7_numbers 75 = .ok (.iconst 5, 1) := by decide +kernel
theorem dX7_numbers_76 : decode cX7_numbers 76 = .ok (.ishr, 1) := by decide +kernel
theorem dX7_numbers_77 : decode cX7_numbers 77 = .ok (.iadd, 1) := by decide +kernel
theorem dX7_numbers_78 : decode cX7_numbers 78 = .ok (.iload_n 2, 1) := by decide +kernel
theorem dX7_numbers_79 : decode cX7_numbers 79 = .ok (.iastore, 1) := by decide +kernel
theorem dX7_numbers_80 : decode cX7_numbers 80 = .ok (.iload 4, 2) := by decide +kernel
theorem dX7_numbers_82 : decode cX7_numbers 82 = .ok (.iconst 1, 1) := by decide +kernel
theorem dX7_numbers_83 : decode cX7_numbers 83 = .ok (.iand, 1) := by decide +kernel
theorem dX7_numbers_84 : decode cX7_numbers 84 = .ok (.istore 5, 2) := by decide +kernel
theorem dX7_numbers_86 : decode cX7_numbers 86 = .ok (.iload 4, 2) := by decide +kernel
theorem dX7_numbers_88 : decode cX7_numbers 88 = .ok (.iconst 2, 1) := by decide +kernel
theorem dX7_numbers_89 : decode cX7_numbers 89 = .ok (.idiv, 1) := by decide +kernel
theorem dX7_numbers_90 : decode cX7_numbers 90 = .ok (.aload_n 0, 1) := by decide +kernel
theorem dX7_numbers_91 : decode cX7_numbers 91 = .ok (.getfield 13, 3) := by decide +kernel
theorem dX7_numbers_94 : decode cX7_numbers 94 = .ok (.irem, 1) := by decide +kernel
theorem dX7_numbers_95 : decode cX7_numbers 95 = .ok (.istore 6, 2) := by decide +kernel
theorem dX7_numbers_97 : decode cX7_numbers 97 = .ok (.iload 4, 2) := by decide +kernel
theorem dX7_numbers_99 : decode cX7_numbers 99 = .ok (.iconst 2, 1) := by decide +kernel
theorem dX7_numbers_100 : decode cX7_numbers 100 = .ok (.idiv, 1) := by decide +kernel
theorem dX7_numbers_101 : decode cX7_numbers 101 = .ok (.aload_n 0, 1) := by decide +kernel
theorem dX7_numbers_102 : decode cX7_numbers 102 = .ok (.getfield 13, 3) := by decide +kernel
theorem dX7_numbers_105 : decode cX7_numbers 105 = .ok (.idiv, 1) := by decide +kernel
theorem dX7_numbers_106 : decode cX7_numbers 106 = .ok (.aload_n 0, 1) := by decide +kernel
theorem dX7_numbers_107 : decode cX7_numbers 107 = .ok (.getfield 13, 3) := by decide +kernel
theorem dX7_numbers_110 : decode cX7_numbers 110 = .ok (.irem, 1) := by decide +kernel
theorem dX7_numbers_111 : decode cX7_numbers 111 = .ok (.istore 7, 2) := by decide +kernel
theorem dX7_numbers_113 : decode cX7_numbers 113 = .ok (.iload 4, 2) := by decide +kernel
theorem dX7_numbers_115 : decode cX7_numbers 115 = .ok (.iconst 2, 1) := by decide +kernel
theorem dX7_numbers_116 : decode cX7_numbers 116 = .ok (.idiv, 1) := by decide +kernel
theorem dX7_numbers_117 : decode cX7_numbers 117 = .ok (.aload_n 0, 1) := by decide +kernel
theorem dX7_numbers_118 : decode cX7_numbers 118 = .ok (.getfield 13, 3) := by decide +kernel
theorem dX7_numbers_121 : decode cX7_numbers 121 = .ok (.idiv, 1) := by decide +kernel
theorem dX7_numbers_122 : decode cX7_numbers 122 = .ok (.aload_n 0, 1) := by decide +kernel
theorem dX7_numbers_123 : decode cX7_numbers 123 = .ok (.getfield 13, 3) := by decide +kernel
theorem dX7_numbers_126 : decode cX7_numbers 126 = .ok (.idiv, 1) := by decide +kernel
theorem dX7_numbers_127 : decode cX7_numbers 127 = .ok (.istore 8, 2) := by decide +kernel
theorem dX7_numbers_129 : decode cX7_numbers 129 = .ok (.aload_n 0, 1) := by decide +kernel
theorem dX7_numbers_130 : decode cX7_numbers 130 = .ok (.iload_n 1, 1) := by decide +kernel
theorem dX7_numbers_131 : decode cX7_numbers 131 = .ok (.iload 8, 2) := by decide +kernel
theorem dX7_numbers_133 : decode cX7_numbers 133 = .ok (.iload 7, 2) := by decide +kernel
theorem dX7_numbers_135 : decode cX7_numbers 135 = .ok (.iload 6, 2) := by decide +kernel
theorem dX7_numbers_137 : decode cX7_numbers 137 = .ok (.iload 5, 2) := by decide +kernel
theorem dX7_numbers_139 : decode cX7_numbers 139 = .ok (.invokevirtual 107, 3) := by decide +kernel
theorem dX7_numbers_142 : decode cX7_numbers 142 = .ok (.ifCond .eq 49, 3) := by decide +kernel
theorem dX7_numbers_145 : decode cX7_numbers 145 = .ok (.aload_n 0, 1) := by decide +kernel
theorem dX7_numbers_146 : decode cX7_numbers 146 = .ok (.iload_n 1, 1) := by decide +kernel
theorem dX7_numbers_147 : decode cX7_numbers 147 = .ok (.iload 8, 2) := by decide +kernel
theorem dX7_numbers_149 : decode cX7_numbers 149 = .ok (.iload 7, 2) := by decide +kernel
theorem dX7_numbers_151 : decode cX7_numbers 151 = .ok (.iload 6, 2) := by decide +kernel
theorem dX7_numbers_153 : decode cX7_numbers 153 = .ok (.iload 5, 2) := by decide +kernel
theorem dX7_numbers_155 : decode cX7_numbers 155 = .ok (.invokevirtual 173, 3) := by decide +kernel
theorem dX7_numbers_158 : decode cX7_numbers 158 = .ok (.iload 4, 2) := by decide +kernel
theorem dX7_numbers_160 : decode cX7_numbers 160 = .ok (.if_icmp .ne 31, 3) := by decide +kernel
theorem dX7_numbers_163 : decode cX7_numbers 163 = .ok (.aload_n 0, 1) := by decide +kernel
theorem dX7_numbers_164 : decode cX7_numbers 164 = .ok (.getfield 26, 3) := by decide +kernel
theorem dX7_numbers_167 : decode cX7_numbers 167 = .ok (.sipush 16384, 3) := by decide +kernel
theorem dX7_numbers_170 : decode cX7_numbers 170 = .ok (.iload_n 1, 1) := by decide +kernel
theorem dX7_numbers_171 : decode cX7_numbers 171 = .ok (.imul, 1) := by decide +kernel
theorem dX7_numbers_172 : decode cX7_numbers 172 = .ok (.iload 4, 2) := by decide +kernel
theorem dX7_numbers_174 : decode cX7_numbers 174 = .ok (.iconst 5, 1) := by decide +kernel
theorem dX7_numbers_175 : decode cX7_numbers 175 = .ok (.ishr, 1) := by decide +kernel
theorem dX7_numbers_176 : decode cX7_numbers 176 = .ok (.iadd, 1) := by decide +kernel
theorem dX7_numbers_177 : decode cX7_numbers 177 = .ok (.dup2, 1) := by decide +kernel
theorem dX7_numbers_178 : decode cX7_numbers 178 = .ok (.iaload, 1) := by decide +kernel
theorem dX7_numbers_179 : decode cX7_numbers 179 = .ok (.iconst 1, 1) := by decide +kernel
theorem dX7_numbers_180 : decode cX7_numbers 180 = .ok (.iload 4, 2) := by decide +kernel
theorem dX7_numbers_182 : decode cX7_numbers 182 = .ok (.bipush 31, 2) := by decide +kernel
theorem dX7_numbers_184 : decode cX7_numbers 184 = .ok (.iand, 1) := by decide +kernel
theorem dX7_numbers_185 : decode cX7_numbers 185 = .ok (.ishl, 1) := by decide +kernel
theorem dX7_numbers_186 : decode cX7_numbers 186 = .ok (.ior, 1) := by decide +kernel
theorem dX7_numbers_187 : decode cX7_numbers 187 = .ok (.iastore, 1) := by decide +kernel
theorem dX7_numbers_188 : decode cX7_numbers 188 = .ok (.iinc 2 1, 3) := by decide +kernel
theorem dX7_numbers_191 : decode cX7_numbers 191 = .ok (.iinc 4 1, 3) := by decide +kernel
theorem dX7_numbers_194 : decode cX7_numbers 194 = .ok (.goto (-144), 3) := by decide +kernel
theorem dX7_numbers_197 : decode cX7_numbers 197 = .ok (.aload_n 0, 1) := by decide +kernel
theorem dX7_numbers_198 : decode cX7_numbers 198 = .ok (.getfield 33, 3) := by decide +kernel
theorem dX7_numbers_201 : decode cX7_numbers 201 = .ok (.iload_n 1, 1) := by decide +kernel
theorem dX7_numbers_202 : decode cX7_numbers 202 = .ok (.iload_n 2, 1) := by decide +kernel
theorem dX7_numbers_203 : decode cX7_numbers 203 = .ok (.iastore, 1) := by decide +kernel
theorem dX7_numbers_204 : decode cX7_numbers 204 = .ok (.return_, 1) := by decide +kernel
theorem dX7_isCanon_0 : decode cX7_isCanon 0 = .ok (.aload_n 0, 1) := by decide +kernel
theorem dX7_isCanon_1 : decode cX7_isCanon 1 = .ok (.getfield 26, 3) := by decide +kernel
theorem dX7_isCanon_4 : decode cX7_isCanon 4 = .ok (.sipush 16384, 3) := by decide +kernel
theorem dX7_isCanon_7 : decode cX7_isCanon 7 = .ok (.iload_n 1, 1) := by decide +kernel
theorem dX7_isCanon_8 : decode cX7_isCanon 8 = .ok (.imul, 1) := by decide +kernel
theorem dX7_isCanon_9 : decode cX7_isCanon 9 = .ok (.iload_n 2, 1) := by decide +kernel
theorem dX7_isCanon_10 : decode cX7_isCanon 10 = .ok (.iconst 5, 1) := by decide +kernel
theorem dX7_isCanon_11 : decode cX7_isCanon 11 = .ok (.ishr, 1) := by decide +kernel
theorem dX7_isCanon_12 : decode cX7_isCanon 12 = .ok (.iadd, 1) := by decide +kernel
theorem dX7_isCanon_13 : decode cX7_isCanon 13 = .ok (.iaload, 1) := by decide +kernel
theorem dX7_isCanon_14 : decode cX7_isCanon 14 = .ok (.iload_n 2, 1) := by decide +kernel
theorem dX7_isCanon_15 : decode cX7_isCanon 15 = .ok (.bipush 31, 2) := by decide +kernel
theorem dX7_isCanon_17 : decode cX7_isCanon 17 = .ok (.iand, 1) := by decide +kernel
theorem dX7_isCanon_18 : decode cX7_isCanon 18 = .ok (.ishr, 1) := by decide +kernel
theorem dX7_isCanon_19 : decode cX7_isCanon 19 = .ok (.iconst 1, 1) := by decide +kernel
theorem dX7_isCanon_20 : decode cX7_isCanon 20 = .ok (.iand, 1) := by decide +kernel
theorem dX7_isCanon_21 : decode cX7_isCanon 21 = .ok (.ifCond .eq 7, 3) := by decide +kernel
theorem dX7_isCanon_24 : decode cX7_isCanon 24 = .ok (.iconst 1, 1) := by decide +kernel
theorem dX7_isCanon_25 : decode cX7_isCanon 25 = .ok (.goto 4, 3) := by decide +kernel
theorem dX7_isCanon_28 : decode cX7_isCanon 28 = .ok (.iconst 0, 1) := by decide +kernel
theorem dX7_isCanon_29 : decode cX7_isCanon 29 = .ok (.ireturn, 1) := by decide +kernel
theorem dX7_numberOf_0 : decode cX7_numberOf 0 = .ok (.aload_n 0, 1) := by decide +kernel
theorem dX7_numberOf_1 : decode cX7_numberOf 1 = .ok (.getfield 30, 3) := by decide +kernel
theorem dX7_numberOf_4 : decode cX7_numberOf 4 = .ok (.sipush 16384, 3) := by decide +kernel
theorem dX7_numberOf_7 : decode cX7_numberOf 7 = .ok (.iload_n 1, 1) := by decide +kernel
theorem dX7_numberOf_8 : decode cX7_numberOf 8 = .ok (.imul, 1) := by decide +kernel
theorem dX7_numberOf_9 : decode cX7_numberOf 9 = .ok (.iload_n 2, 1) := by decide +kernel
theorem dX7_numberOf_10 : decode cX7_numberOf 10 = .ok (.iconst 5, 1) := by decide +kernel
theorem dX7_numberOf_11 : decode cX7_numberOf 11 = .ok (.ishr, 1) := by decide +kernel
theorem dX7_numberOf_12 : decode cX7_numberOf 12 = .ok (.iadd, 1) := by decide +kernel
theorem dX7_numberOf_13 : decode cX7_numberOf 13 = .ok (.iaload, 1) := by decide +kernel
theorem dX7_numberOf_14 : decode cX7_numberOf 14 = .ok (.istore_n 3, 1) := by decide +kernel
theorem dX7_numberOf_15 : decode cX7_numberOf 15 = .ok (.iload_n 2, 1) := by decide +kernel
theorem dX7_numberOf_16 : decode cX7_numberOf 16 = .ok (.bipush (-32), 2) := by decide +kernel
theorem dX7_numberOf_18 : decode cX7_numberOf 18 = .ok (.iand, 1) := by decide +kernel
theorem dX7_numberOf_19 : decode cX7_numberOf 19 = .ok (.istore 4, 2) := by decide +kernel
theorem dX7_numberOf_21 : decode cX7_numberOf 21 = .ok (.iload 4, 2) := by decide +kernel
theorem dX7_numberOf_23 : decode cX7_numberOf 23 = .ok (.iload_n 2, 1) := by decide +kernel
theorem dX7_numberOf_24 : decode cX7_numberOf 24 = .ok (.if_icmp .ge 27, 3) := by decide +kernel
theorem dX7_numberOf_27 : decode cX7_numberOf 27 = .ok (.iload_n 3, 1) := by decide +kernel
theorem dX7_numberOf_28 : decode cX7_numberOf 28 = .ok (.aload_n 0, 1) := by decide +kernel
theorem dX7_numberOf_29 : decode cX7_numberOf 29 = .ok (.iload_n 1, 1) := by decide +kernel
theorem dX7_numberOf_30 : decode cX7_numberOf 30 = .ok (.iload 4, 2) := by decide +kernel
theorem dX7_numberOf_32 : decode cX7_numberOf 32 = .ok (.invokevirtual 176, 3) := by decide +kernel
theorem dX7_numberOf_35 : decode cX7_numberOf 35 = .ok (.ifCond .eq 7, 3) := by decide +kernel
theorem dX7_numberOf_38 : decode cX7_numberOf 38 = .ok (.iconst 1, 1) := by decide +kernel
theorem dX7_numberOf_39 : decode cX7_numberOf 39 = .ok (.goto 4, 3) := by decide +kernel
theorem dX7_numberOf_42 : decode cX7_numberOf 42 = .ok (.iconst 0, 1) := by decide +kernel
theorem dX7_numberOf_43 : decode cX7_numberOf 43 = .ok (.iadd, 1) := by decide +kernel
theorem dX7_numberOf_44 : decode cX7_numberOf 44 = .ok (.istore_n 3, 1) := by decide +kernel
theorem dX7_numberOf_45 : decode cX7_numberOf 45 = .ok (.iinc 4 1, 3) := by decide +kernel
theorem dX7_numberOf_48 : decode cX7_numberOf 48 = .ok (.goto (-27), 3) := by decide +kernel
theorem dX7_numberOf_51 : decode cX7_numberOf 51 = .ok (.iload_n 3, 1) := by decide +kernel
theorem dX7_numberOf_52 : decode cX7_numberOf 52 = .ok (.ireturn, 1) := by decide +kernel
theorem dX7_isMade_0 : decode cX7_isMade 0 = .ok (.iload_n 1, 1) := by decide +kernel
theorem dX7_isMade_1 : decode cX7_isMade 1 = .ok (.iconst 0, 1) := by decide +kernel
theorem dX7_isMade_2 : decode cX7_isMade 2 = .ok (.iconst 2, 1) := by decide +kernel
theorem dX7_isMade_3 : decode cX7_isMade 3 = .ok (.invokestatic 84, 3) := by decide +kernel
theorem dX7_isMade_6 : decode cX7_isMade 6 = .ok (.ifCond .eq 16, 3) := by decide +kernel
theorem dX7_isMade_9 : decode cX7_isMade 9 = .ok (.aload_n 0, 1) := by decide +kernel
theorem dX7_isMade_10 : decode cX7_isMade 10 = .ok (.getfield 16, 3) := by decide +kernel
theorem dX7_isMade_13 : decode cX7_isMade 13 = .ok (.iload_n 1, 1) := by decide +kernel
theorem dX7_isMade_14 : decode cX7_isMade 14 = .ok (.baload, 1) := by decide +kernel
theorem dX7_isMade_15 : decode cX7_isMade 15 = .ok (.ifCond .eq 7, 3) := by decide +kernel
theorem dX7_isMade_18 : decode cX7_isMade 18 = .ok (.iconst 1, 1) := by decide +kernel
theorem dX7_isMade_19 : decode cX7_isMade 19 = .ok (.goto 4, 3) := by decide +kernel
theorem dX7_isMade_22 : decode cX7_isMade 22 = .ok (.iconst 0, 1) := by decide +kernel
theorem dX7_isMade_23 : decode cX7_isMade 23 = .ok (.ireturn, 1) := by decide +kernel
theorem dX7_may_0 : decode cX7_may 0 = .ok (.aload_n 0, 1) := by decide +kernel
theorem dX7_may_1 : decode cX7_may 1 = .ok (.iload_n 1, 1) := by decide +kernel
theorem dX7_may_2 : decode cX7_may 2 = .ok (.ifCond .eq 7, 3) := by decide +kernel
theorem dX7_may_5 : decode cX7_may 5 = .ok (.iconst 0, 1) := by decide +kernel
theorem dX7_may_6 : decode cX7_may 6 = .ok (.goto 4, 3) := by decide +kernel
theorem dX7_may_9 : decode cX7_may 9 = .ok (.iconst 1, 1) := by decide +kernel
theorem dX7_may_10 : decode cX7_may 10 = .ok (.putfield 81, 3) := by decide +kernel
theorem dX7_may_13 : decode cX7_may 13 = .ok (.iload_n 1, 1) := by decide +kernel
theorem dX7_may_14 : decode cX7_may 14 = .ok (.ireturn, 1) := by decide +kernel
theorem dX7_mayAsk_0 : decode cX7_mayAsk 0 = .ok (.aload_n 0, 1) := by decide +kernel
theorem dX7_mayAsk_1 : decode cX7_mayAsk 1 = .ok (.aload_n 0, 1) := by decide +kernel
theorem dX7_mayAsk_2 : decode cX7_mayAsk 2 = .ok (.iload_n 1, 1) := by decide +kernel
theorem dX7_mayAsk_3 : decode cX7_mayAsk 3 = .ok (.invokevirtual 179, 3) := by decide +kernel
theorem dX7_mayAsk_6 : decode cX7_mayAsk 6 = .ok (.ifCond .eq 35, 3) := by decide +kernel
theorem dX7_mayAsk_9 : decode cX7_mayAsk 9 = .ok (.aload_n 0, 1) := by decide +kernel
theorem dX7_mayAsk_10 : decode cX7_mayAsk 10 = .ok (.iload_n 1, 1) := by decide +kernel
theorem dX7_mayAsk_11 : decode cX7_mayAsk 11 = .ok (.iload_n 2, 1) := by decide +kernel
theorem dX7_mayAsk_12 : decode cX7_mayAsk 12 = .ok (.iload_n 3, 1) := by decide +kernel
theorem dX7_mayAsk_13 : decode cX7_mayAsk 13 = .ok (.iload 4, 2) := by decide +kernel
theorem dX7_mayAsk_15 : decode cX7_mayAsk 15 = .ok (.iload 5, 2) := by decide +kernel
theorem dX7_mayAsk_17 : decode cX7_mayAsk 17 = .ok (.invokevirtual 183, 3) := by decide +kernel
theorem dX7_mayAsk_20 : decode cX7_mayAsk 20 = .ok (.ifCond .eq 21, 3) := by decide +kernel
theorem dX7_mayAsk_23 : decode cX7_mayAsk 23 = .ok (.aload_n 0, 1) := by decide +kernel
theorem dX7_mayAsk_24 : decode cX7_mayAsk 24 = .ok (.iload_n 1, 1) := by decide +kernel
theorem dX7_mayAsk_25 : decode cX7_mayAsk 25 = .ok (.iload_n 2, 1) := by decide +kernel
theorem dX7_mayAsk_26 : decode cX7_mayAsk 26 = .ok (.iload_n 3, 1) := by decide +kernel
theorem dX7_mayAsk_27 : decode cX7_mayAsk 27 = .ok (.iload 4, 2) := by decide +kernel
theorem dX7_mayAsk_29 : decode cX7_mayAsk 29 = .ok (.iload 5, 2) := by decide +kernel
theorem dX7_mayAsk_31 : decode cX7_mayAsk 31 = .ok (.invokevirtual 107, 3) := by decide +kernel
theorem dX7_mayAsk_34 : decode cX7_mayAsk 34 = .ok (.ifCond .eq 7, 3) := by decide +kernel
theorem dX7_mayAsk_37 : decode cX7_mayAsk 37 = .ok (.iconst 1, 1) := by decide +kernel
theorem dX7_mayAsk_38 : decode cX7_mayAsk 38 = .ok (.goto 4, 3) := by decide +kernel
theorem dX7_mayAsk_41 : decode cX7_mayAsk 41 = .ok (.iconst 0, 1) := by decide +kernel
theorem dX7_mayAsk_42 : decode cX7_mayAsk 42 = .ok (.invokevirtual 186, 3) := by decide +kernel
theorem dX7_mayAsk_45 : decode cX7_mayAsk 45 = .ok (.ireturn, 1) := by decide +kernel
theorem dX7_isLegal_0 : decode cX7_isLegal 0 = .ok (.aload_n 0, 1) := by decide +kernel
theorem dX7_isLegal_1 : decode cX7_isLegal 1 = .ok (.iconst 0, 1) := by decide +kernel
theorem dX7_isLegal_2 : decode cX7_isLegal 2 = .ok (.putfield 81, 3) := by decide +kernel
theorem dX7_isLegal_5 : decode cX7_isLegal 5 = .ok (.aload_n 0, 1) := by decide +kernel
theorem dX7_isLegal_6 : decode cX7_isLegal 6 = .ok (.iload_n 1, 1) := by decide +kernel
theorem dX7_isLegal_7 : decode cX7_isLegal 7 = .ok (.iload_n 2, 1) := by decide +kernel
theorem dX7_isLegal_8 : decode cX7_isLegal 8 = .ok (.iload_n 3, 1) := by decide +kernel
theorem dX7_isLegal_9 : decode cX7_isLegal 9 = .ok (.iload 4, 2) := by decide +kernel
theorem dX7_isLegal_11 : decode cX7_isLegal 11 = .ok (.iload 5, 2) := by decide +kernel
theorem dX7_isLegal_13 : decode cX7_isLegal 13 = .ok (.invokevirtual 183, 3) := by decide +kernel
theorem dX7_isLegal_16 : decode cX7_isLegal 16 = .ok (.ifCond .eq 21, 3) := by decide +kernel
theorem dX7_isLegal_19 : decode cX7_isLegal 19 = .ok (.aload_n 0, 1) := by decide +kernel
theorem dX7_isLegal_20 : decode cX7_isLegal 20 = .ok (.iload_n 1, 1) := by decide +kernel
theorem dX7_isLegal_21 : decode cX7_isLegal 21 = .ok (.iload_n 2, 1) := by decide +kernel
theorem dX7_isLegal_22 : decode cX7_isLegal 22 = .ok (.iload_n 3, 1) := by decide +kernel
theorem dX7_isLegal_23 : decode cX7_isLegal 23 = .ok (.iload 4, 2) := by decide +kernel
theorem dX7_isLegal_25 : decode cX7_isLegal 25 = .ok (.iload 5, 2) := by decide +kernel
theorem dX7_isLegal_27 : decode cX7_isLegal 27 = .ok (.invokevirtual 107, 3) := by decide +kernel
theorem dX7_isLegal_30 : decode cX7_isLegal 30 = .ok (.ifCond .eq 7, 3) := by decide +kernel
theorem dX7_isLegal_33 : decode cX7_isLegal 33 = .ok (.iconst 1, 1) := by decide +kernel
theorem dX7_isLegal_34 : decode cX7_isLegal 34 = .ok (.goto 4, 3) := by decide +kernel
theorem dX7_isLegal_37 : decode cX7_isLegal 37 = .ok (.iconst 0, 1) := by decide +kernel
theorem dX7_isLegal_38 : decode cX7_isLegal 38 = .ok (.ireturn, 1) := by decide +kernel
theorem dX7_moves_0 : decode cX7_moves 0 = .ok (.aload_n 0, 1) := by decide +kernel
theorem dX7_moves_1 : decode cX7_moves 1 = .ok (.iconst 0, 1) := by decide +kernel
theorem dX7_moves_2 : decode cX7_moves 2 = .ok (.putfield 81, 3) := by decide +kernel
theorem dX7_moves_5 : decode cX7_moves 5 = .ok (.aload_n 0, 1) := by decide +kernel
theorem dX7_moves_6 : decode cX7_moves 6 = .ok (.iload_n 1, 1) := by decide +kernel
theorem dX7_moves_7 : decode cX7_moves 7 = .ok (.iload_n 2, 1) := by decide +kernel
theorem dX7_moves_8 : decode cX7_moves 8 = .ok (.iload_n 3, 1) := by decide +kernel
theorem dX7_moves_9 : decode cX7_moves 9 = .ok (.iload 4, 2) := by decide +kernel
theorem dX7_moves_11 : decode cX7_moves 11 = .ok (.iload 5, 2) := by decide +kernel
theorem dX7_moves_13 : decode cX7_moves 13 = .ok (.invokevirtual 183, 3) := by decide +kernel
theorem dX7_moves_16 : decode cX7_moves 16 = .ok (.ifCond .eq 17, 3) := by decide +kernel
theorem dX7_moves_19 : decode cX7_moves 19 = .ok (.aload_n 0, 1) := by decide +kernel
theorem dX7_moves_20 : decode cX7_moves 20 = .ok (.iload_n 1, 1) := by decide +kernel
theorem dX7_moves_21 : decode cX7_moves 21 = .ok (.iload_n 2, 1) := by decide +kernel
theorem dX7_moves_22 : decode cX7_moves 22 = .ok (.iload_n 3, 1) := by decide +kernel
theorem dX7_moves_23 : decode cX7_moves 23 = .ok (.iload 4, 2) := by decide +kernel
theorem dX7_moves_25 : decode cX7_moves 25 = .ok (.iload 5, 2) := by decide +kernel
theorem dX7_moves_27 : decode cX7_moves 27 = .ok (.invokevirtual 107, 3) := by decide +kernel
theorem dX7_moves_30 : decode cX7_moves 30 = .ok (.ifCond .ne 5, 3) := by decide +kernel
theorem dX7_moves_33 : decode cX7_moves 33 = .ok (.iconst (-1), 1) := by decide +kernel
theorem dX7_moves_34 : decode cX7_moves 34 = .ok (.ireturn, 1) := by decide +kernel
theorem dX7_moves_35 : decode cX7_moves 35 = .ok (.aload_n 0, 1) := by decide +kernel
theorem dX7_moves_36 : decode cX7_moves 36 = .ok (.iload_n 1, 1) := by decide +kernel
theorem dX7_moves_37 : decode cX7_moves 37 = .ok (.iload_n 2, 1) := by decide +kernel
theorem dX7_moves_38 : decode cX7_moves 38 = .ok (.iload_n 3, 1) := by decide +kernel
theorem dX7_moves_39 : decode cX7_moves 39 = .ok (.iload 4, 2) := by decide +kernel
theorem dX7_moves_41 : decode cX7_moves 41 = .ok (.iload 5, 2) := by decide +kernel
theorem dX7_moves_43 : decode cX7_moves 43 = .ok (.invokevirtual 138, 3) := by decide +kernel
theorem dX7_moves_46 : decode cX7_moves 46 = .ok (.aload_n 0, 1) := by decide +kernel
theorem dX7_moves_47 : decode cX7_moves 47 = .ok (.getfield 104, 3) := by decide +kernel
theorem dX7_moves_50 : decode cX7_moves 50 = .ok (.ireturn, 1) := by decide +kernel
theorem dX7_distance_0 : decode cX7_distance 0 = .ok (.aload_n 0, 1) := by decide +kernel
theorem dX7_distance_1 : decode cX7_distance 1 = .ok (.iload_n 1, 1) := by decide +kernel
theorem dX7_distance_2 : decode cX7_distance 2 = .ok (.iload_n 2, 1) := by decide +kernel
theorem dX7_distance_3 : decode cX7_distance 3 = .ok (.iload_n 3, 1) := by decide +kernel
theorem dX7_distance_4 : decode cX7_distance 4 = .ok (.iload 4, 2) := by decide +kernel
theorem dX7_distance_6 : decode cX7_distance 6 = .ok (.iload 5, 2) := by decide +kernel
theorem dX7_distance_8 : decode cX7_distance 8 = .ok (.invokevirtual 190, 3) := by decide +kernel
theorem dX7_distance_11 : decode cX7_distance 11 = .ok (.ifCond .eq 17, 3) := by decide +kernel
theorem dX7_distance_14 : decode cX7_distance 14 = .ok (.aload_n 0, 1) := by decide +kernel
theorem dX7_distance_15 : decode cX7_distance 15 = .ok (.iload_n 1, 1) := by decide +kernel
theorem dX7_distance_16 : decode cX7_distance 16 = .ok (.iload_n 2, 1) := by decide +kernel
theorem dX7_distance_17 : decode cX7_distance 17 = .ok (.iload_n 3, 1) := by decide +kernel
theorem dX7_distance_18 : decode cX7_distance 18 = .ok (.iload 4, 2) := by decide +kernel
theorem dX7_distance_20 : decode cX7_distance 20 = .ok (.iload 5, 2) := by decide +kernel
theorem dX7_distance_22 : decode cX7_distance 22 = .ok (.invokevirtual 123, 3) := by decide +kernel
theorem dX7_distance_25 : decode cX7_distance 25 = .ok (.goto 4, 3) := by decide +kernel
theorem dX7_distance_28 : decode cX7_distance 28 = .ok (.iconst 0, 1) := by decide +kernel
theorem dX7_distance_29 : decode cX7_distance 29 = .ok (.ireturn, 1) := by decide +kernel
theorem dX7_isBest_0 : decode cX7_isBest 0 = .ok (.aload_n 0, 1) := by decide +kernel
theorem dX7_isBest_1 : decode cX7_isBest 1 = .ok (.iload_n 1, 1) := by decide +kernel
theorem dX7_isBest_2 : decode cX7_isBest 2 = .ok (.iload_n 2, 1) := by decide +kernel
theorem dX7_isBest_3 : decode cX7_isBest 3 = .ok (.invokevirtual 166, 3) := by decide +kernel
theorem dX7_isBest_6 : decode cX7_isBest 6 = .ok (.istore 4, 2) := by decide +kernel
theorem dX7_isBest_8 : decode cX7_isBest 8 = .ok (.iload_n 3, 1) := by decide +kernel
theorem dX7_isBest_9 : decode cX7_isBest 9 = .ok (.iconst (-1), 1) := by decide +kernel
theorem dX7_isBest_10 : decode cX7_isBest 10 = .ok (.if_icmp .ne 15, 3) := by decide +kernel
theorem dX7_isBest_13 : decode cX7_isBest 13 = .ok (.iload 4, 2) := by decide +kernel
theorem dX7_isBest_15 : decode cX7_isBest 15 = .ok (.iconst (-1), 1) := by decide +kernel
theorem dX7_isBest_16 : decode cX7_isBest 16 = .ok (.if_icmp .ne 7, 3) := by decide +kernel
theorem dX7_isBest_19 : decode cX7_isBest 19 = .ok (.iconst 1, 1) := by decide +kernel
theorem dX7_isBest_20 : decode cX7_isBest 20 = .ok (.goto 4, 3) := by decide +kernel
theorem dX7_isBest_23 : decode cX7_isBest 23 = .ok (.iconst 0, 1) := by decide +kernel
theorem dX7_isBest_24 : decode cX7_isBest 24 = .ok (.ireturn, 1) := by decide +kernel
theorem dX7_isBest_25 : decode cX7_isBest 25 = .ok (.iload 4, 2) := by decide +kernel
theorem dX7_isBest_27 : decode cX7_isBest 27 = .ok (.iload_n 3, 1) := by decide +kernel
theorem dX7_isBest_28 : decode cX7_isBest 28 = .ok (.iconst 1, 1) := by decide +kernel
theorem dX7_isBest_29 : decode cX7_isBest 29 = .ok (.isub, 1) := by decide +kernel
theorem dX7_isBest_30 : decode cX7_isBest 30 = .ok (.if_icmp .ne 7, 3) := by decide +kernel
theorem dX7_isBest_33 : decode cX7_isBest 33 = .ok (.iconst 1, 1) := by decide +kernel
theorem dX7_isBest_34 : decode cX7_isBest 34 = .ok (.goto 4, 3) := by decide +kernel
theorem dX7_isBest_37 : decode cX7_isBest 37 = .ok (.iconst 0, 1) := by decide +kernel
theorem dX7_isBest_38 : decode cX7_isBest 38 = .ok (.ireturn, 1) := by decide +kernel
theorem dX7_best_0 : decode cX7_best 0 = .ok (.aload_n 0, 1) := by decide +kernel
theorem dX7_best_1 : decode cX7_best 1 = .ok (.iload_n 1, 1) := by decide +kernel
theorem dX7_best_2 : decode cX7_best 2 = .ok (.iload_n 2, 1) := by decide +kernel
theorem dX7_best_3 : decode cX7_best 3 = .ok (.iload_n 3, 1) := by decide +kernel
theorem dX7_best_4 : decode cX7_best 4 = .ok (.iload 4, 2) := by decide +kernel
theorem dX7_best_6 : decode cX7_best 6 = .ok (.iload 5, 2) := by decide +kernel
theorem dX7_best_8 : decode cX7_best 8 = .ok (.invokevirtual 190, 3) := by decide +kernel
theorem dX7_best_11 : decode cX7_best 11 = .ok (.ifCond .ne 5, 3) := by decide +kernel
theorem dX7_best_14 : decode cX7_best 14 = .ok (.iconst 0, 1) := by decide +kernel
theorem dX7_best_15 : decode cX7_best 15 = .ok (.ireturn, 1) := by decide +kernel
theorem dX7_best_16 : decode cX7_best 16 = .ok (.aload_n 0, 1) := by decide +kernel
theorem dX7_best_17 : decode cX7_best 17 = .ok (.iload_n 1, 1) := by decide +kernel
theorem dX7_best_18 : decode cX7_best 18 = .ok (.iload_n 2, 1) := by decide +kernel
theorem dX7_best_19 : decode cX7_best 19 = .ok (.iload_n 3, 1) := by decide +kernel
theorem dX7_best_20 : decode cX7_best 20 = .ok (.iload 4, 2) := by decide +kernel
theorem dX7_best_22 : decode cX7_best 22 = .ok (.iload 5, 2) := by decide +kernel
theorem dX7_best_24 : decode cX7_best 24 = .ok (.invokevirtual 123, 3) := by decide +kernel
theorem dX7_best_27 : decode cX7_best 27 = .ok (.istore 6, 2) := by decide +kernel
theorem dX7_best_29 : decode cX7_best 29 = .ok (.aload_n 0, 1) := by decide +kernel
theorem dX7_best_30 : decode cX7_best 30 = .ok (.iload_n 1, 1) := by decide +kernel
theorem dX7_best_31 : decode cX7_best 31 = .ok (.iload_n 2, 1) := by decide +kernel
theorem dX7_best_32 : decode cX7_best 32 = .ok (.iload_n 3, 1) := by decide +kernel
theorem dX7_best_33 : decode cX7_best 33 = .ok (.iload 4, 2) := by decide +kernel
theorem dX7_best_35 : decode cX7_best 35 = .ok (.iload 5, 2) := by decide +kernel
theorem dX7_best_37 : decode cX7_best 37 = .ok (.invokevirtual 138, 3) := by decide +kernel
theorem dX7_best_40 : decode cX7_best 40 = .ok (.aload_n 0, 1) := by decide +kernel
theorem dX7_best_41 : decode cX7_best 41 = .ok (.iconst 0, 1) := by decide +kernel
theorem dX7_best_42 : decode cX7_best 42 = .ok (.putfield 193, 3) := by decide +kernel
theorem dX7_best_45 : decode cX7_best 45 = .ok (.iconst 0, 1) := by decide +kernel
