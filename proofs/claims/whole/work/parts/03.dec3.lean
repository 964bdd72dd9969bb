theorem dX3_takeBlackBack_57 : decode cX3_takeBlackBack 57 = .ok (.aload_n 0, 1) := by decide +kernel
theorem dX3_takeBlackBack_58 : decode cX3_takeBlackBack 58 = .ok (.iload_n 1, 1) := by decide +kernel
theorem dX3_takeBlackBack_59 : decode cX3_takeBlackBack 59 = .ok (.iload 7, 2) := by decide +kernel
theorem dX3_takeBlackBack_61 : decode cX3_takeBlackBack 61 = .ok (.iload_n 3, 1) := by decide +kernel
theorem dX3_takeBlackBack_62 : decode cX3_takeBlackBack 62 = .ok (.invokevirtual 176, 3) := by decide +kernel
theorem dX3_takeBlackBack_65 : decode cX3_takeBlackBack 65 = .ok (.ifCond .eq 11, 3) := by decide +kernel
theorem dX3_takeBlackBack_68 : decode cX3_takeBlackBack 68 = .ok (.aload_n 0, 1) := by decide +kernel
theorem dX3_takeBlackBack_69 : decode cX3_takeBlackBack 69 = .ok (.iload 8, 2) := by decide +kernel
theorem dX3_takeBlackBack_71 : decode cX3_takeBlackBack 71 = .ok (.iload 4, 2) := by decide +kernel
theorem dX3_takeBlackBack_73 : decode cX3_takeBlackBack 73 = .ok (.invokevirtual 90, 3) := by decide +kernel
theorem dX3_takeBlackBack_76 : decode cX3_takeBlackBack 76 = .ok (.lload 5, 2) := by decide +kernel
theorem dX3_takeBlackBack_78 : decode cX3_takeBlackBack 78 = .ok (.lload 5, 2) := by decide +kernel
theorem dX3_takeBlackBack_80 : decode cX3_takeBlackBack 80 = .ok (.lconst 1, 1) := by decide +kernel
theorem dX3_takeBlackBack_81 : decode cX3_takeBlackBack 81 = .ok (.lsub, 1) := by decide +kernel
theorem dX3_takeBlackBack_82 : decode cX3_takeBlackBack 82 = .ok (.land, 1) := by decide +kernel
theorem dX3_takeBlackBack_83 : decode cX3_takeBlackBack 83 = .ok (.lstore 5, 2) := by decide +kernel
theorem dX3_takeBlackBack_85 : decode cX3_takeBlackBack 85 = .ok (.goto (-73), 3) := by decide +kernel
theorem dX3_takeBlackBack_88 : decode cX3_takeBlackBack 88 = .ok (.return_, 1) := by decide +kernel
theorem dX3_isLost_0 : decode cX3_isLost 0 = .ok (.aload_n 0, 1) := by decide +kernel
theorem dX3_isLost_1 : decode cX3_isLost 1 = .ok (.getfield 15, 3) := by decide +kernel
theorem dX3_isLost_4 : decode cX3_isLost 4 = .ok (.aload_n 0, 1) := by decide +kernel
theorem dX3_isLost_5 : decode cX3_isLost 5 = .ok (.getfield 39, 3) := by decide +kernel
theorem dX3_isLost_8 : decode cX3_isLost 8 = .ok (.iload_n 1, 1) := by decide +kernel
theorem dX3_isLost_9 : decode cX3_isLost 9 = .ok (.iload_n 2, 1) := by decide +kernel
theorem dX3_isLost_10 : decode cX3_isLost 10 = .ok (.iload_n 3, 1) := by decide +kernel
theorem dX3_isLost_11 : decode cX3_isLost 11 = .ok (.invokevirtual 110, 3) := by decide +kernel
theorem dX3_isLost_14 : decode cX3_isLost 14 = .ok (.lstore 4, 2) := by decide +kernel
theorem dX3_isLost_16 : decode cX3_isLost 16 = .ok (.lload 4, 2) := by decide +kernel
theorem dX3_isLost_18 : decode cX3_isLost 18 = .ok (.iload_n 3, 1) := by decide +kernel
theorem dX3_isLost_19 : decode cX3_isLost 19 = .ok (.invokestatic 180, 3) := by decide +kernel
theorem dX3_isLost_22 : decode cX3_isLost 22 = .ok (.ifCond .eq 5, 3) := by decide +kernel
theorem dX3_isLost_25 : decode cX3_isLost 25 = .ok (.iconst 0, 1) := by decide +kernel
theorem dX3_isLost_26 : decode cX3_isLost 26 = .ok (.ireturn, 1) := by decide +kernel
theorem dX3_isLost_27 : decode cX3_isLost 27 = .ok (.lload 4, 2) := by decide +kernel
theorem dX3_isLost_29 : decode cX3_isLost 29 = .ok (.lstore 6, 2) := by decide +kernel
theorem dX3_isLost_31 : decode cX3_isLost 31 = .ok (.lload 6, 2) := by decide +kernel
theorem dX3_isLost_33 : decode cX3_isLost 33 = .ok (.lconst 0, 1) := by decide +kernel
theorem dX3_isLost_34 : decode cX3_isLost 34 = .ok (.lcmp, 1) := by decide +kernel
theorem dX3_isLost_35 : decode cX3_isLost 35 = .ok (.ifCond .eq 50, 3) := by decide +kernel
theorem dX3_isLost_38 : decode cX3_isLost 38 = .ok (.aload_n 0, 1) := by decide +kernel
theorem dX3_isLost_39 : decode cX3_isLost 39 = .ok (.getfield 29, 3) := by decide +kernel
theorem dX3_isLost_42 : decode cX3_isLost 42 = .ok (.iload_n 1, 1) := by decide +kernel
theorem dX3_isLost_43 : decode cX3_isLost 43 = .ok (.lload 6, 2) := by decide +kernel
theorem dX3_isLost_45 : decode cX3_isLost 45 = .ok (.invokestatic 160, 3) := by decide +kernel
theorem dX3_isLost_48 : decode cX3_isLost 48 = .ok (.iload_n 3, 1) := by decide +kernel
theorem dX3_isLost_49 : decode cX3_isLost 49 = .ok (.iconst 0, 1) := by decide +kernel
theorem dX3_isLost_50 : decode cX3_isLost 50 = .ok (.invokevirtual 164, 3) := by decide +kernel
theorem dX3_isLost_53 : decode cX3_isLost 53 = .ok (.istore 8, 2) := by decide +kernel
theorem dX3_isLost_55 : decode cX3_isLost 55 = .ok (.iload 8, 2) := by decide +kernel
theorem dX3_isLost_57 : decode cX3_isLost 57 = .ok (.iconst (-1), 1) := by decide +kernel
theorem dX3_isLost_58 : decode cX3_isLost 58 = .ok (.if_icmp .eq 13, 3) := by decide +kernel
theorem dX3_isLost_61 : decode cX3_isLost 61 = .ok (.aload_n 0, 1) := by decide +kernel
theorem dX3_isLost_62 : decode cX3_isLost 62 = .ok (.getfield 34, 3) := by decide +kernel
theorem dX3_isLost_65 : decode cX3_isLost 65 = .ok (.iload 8, 2) := by decide +kernel
theorem dX3_isLost_67 : decode cX3_isLost 67 = .ok (.baload, 1) := by decide +kernel
theorem dX3_isLost_68 : decode cX3_isLost 68 = .ok (.ifCond .ge 5, 3) := by decide +kernel
theorem dX3_isLost_71 : decode cX3_isLost 71 = .ok (.iconst 0, 1) := by decide +kernel
theorem dX3_isLost_72 : decode cX3_isLost 72 = .ok (.ireturn, 1) := by decide +kernel
theorem dX3_isLost_73 : decode cX3_isLost 73 = .ok (.lload 6, 2) := by decide +kernel
theorem dX3_isLost_75 : decode cX3_isLost 75 = .ok (.lload 6, 2) := by decide +kernel
theorem dX3_isLost_77 : decode cX3_isLost 77 = .ok (.lconst 1, 1) := by decide +kernel
theorem dX3_isLost_78 : decode cX3_isLost 78 = .ok (.lsub, 1) := by decide +kernel
theorem dX3_isLost_79 : decode cX3_isLost 79 = .ok (.land, 1) := by decide +kernel
theorem dX3_isLost_80 : decode cX3_isLost 80 = .ok (.lstore 6, 2) := by decide +kernel
theorem dX3_isLost_82 : decode cX3_isLost 82 = .ok (.goto (-51), 3) := by decide +kernel
theorem dX3_isLost_85 : decode cX3_isLost 85 = .ok (.iconst 1, 1) := by decide +kernel
theorem dX3_isLost_86 : decode cX3_isLost 86 = .ok (.ireturn, 1) := by decide +kernel
theorem dX4_init_0 : decode cX4_init 0 = .ok (.aload_n 0, 1) := by decide +kernel
theorem dX4_init_1 : decode cX4_init 1 = .ok (.invokespecial 3, 3) := by decide +kernel
theorem dX4_init_4 : decode cX4_init 4 = .ok (.return_, 1) := by decide +kernel
theorem dX4_set_0 : decode cX4_set 0 = .ok (.aload_n 0, 1) := by decide +kernel
theorem dX4_set_1 : decode cX4_set 1 = .ok (.iload_n 1, 1) := by decide +kernel
theorem dX4_set_2 : decode cX4_set 2 = .ok (.putfield 9, 3) := by decide +kernel
theorem dX4_set_5 : decode cX4_set 5 = .ok (.aload_n 0, 1) := by decide +kernel
theorem dX4_set_6 : decode cX4_set 6 = .ok (.iload_n 2, 1) := by decide +kernel
theorem dX4_set_7 : decode cX4_set 7 = .ok (.putfield 15, 3) := by decide +kernel
theorem dX4_set_10 : decode cX4_set 10 = .ok (.aload_n 0, 1) := by decide +kernel
theorem dX4_set_11 : decode cX4_set 11 = .ok (.iload_n 3, 1) := by decide +kernel
theorem dX4_set_12 : decode cX4_set 12 = .ok (.putfield 18, 3) := by decide +kernel
theorem dX4_set_15 : decode cX4_set 15 = .ok (.aload_n 0, 1) := by decide +kernel
theorem dX4_set_16 : decode cX4_set 16 = .ok (.iload 4, 2) := by decide +kernel
theorem dX4_set_18 : decode cX4_set 18 = .ok (.putfield 21, 3) := by decide +kernel
theorem dX4_set_21 : decode cX4_set 21 = .ok (.aload_n 0, 1) := by decide +kernel
theorem dX4_set_22 : decode cX4_set 22 = .ok (.iload 5, 2) := by decide +kernel
theorem dX4_set_24 : decode cX4_set 24 = .ok (.putfield 24, 3) := by decide +kernel
theorem dX4_set_27 : decode cX4_set 27 = .ok (.return_, 1) := by decide +kernel
theorem dX4_play_0 : decode cX4_play 0 = .ok (.aload_n 1, 1) := by decide +kernel
theorem dX4_play_1 : decode cX4_play 1 = .ok (.iconst 0, 1) := by decide +kernel
theorem dX4_play_2 : decode cX4_play 2 = .ok (.iconst 1, 1) := by decide +kernel
theorem dX4_play_3 : decode cX4_play 3 = .ok (.invokevirtual 29, 3) := by decide +kernel
theorem dX4_play_6 : decode cX4_play 6 = .ok (.istore_n 2, 1) := by decide +kernel
theorem dX4_play_7 : decode cX4_play 7 = .ok (.aload_n 1, 1) := by decide +kernel
theorem dX4_play_8 : decode cX4_play 8 = .ok (.iconst 0, 1) := by decide +kernel
theorem dX4_play_9 : decode cX4_play 9 = .ok (.iconst 2, 1) := by decide +kernel
theorem dX4_play_10 : decode cX4_play 10 = .ok (.invokevirtual 29, 3) := by decide +kernel
theorem dX4_play_13 : decode cX4_play 13 = .ok (.istore_n 3, 1) := by decide +kernel
theorem dX4_play_14 : decode cX4_play 14 = .ok (.aload_n 0, 1) := by decide +kernel
theorem dX4_play_15 : decode cX4_play 15 = .ok (.getfield 24, 3) := by decide +kernel
theorem dX4_play_18 : decode cX4_play 18 = .ok (.iconst 1, 1) := by decide +kernel
theorem dX4_play_19 : decode cX4_play 19 = .ok (.if_icmp .ne 11, 3) := by decide +kernel
theorem dX4_play_22 : decode cX4_play 22 = .ok (.aload_n 0, 1) := by decide +kernel
theorem dX4_play_23 : decode cX4_play 23 = .ok (.iload_n 2, 1) := by decide +kernel
theorem dX4_play_24 : decode cX4_play 24 = .ok (.putfield 18, 3) := by decide +kernel
theorem dX4_play_27 : decode cX4_play 27 = .ok (.goto 46, 3) := by decide +kernel
theorem dX4_play_30 : decode cX4_play 30 = .ok (.aload_n 1, 1) := by decide +kernel
theorem dX4_play_31 : decode cX4_play 31 = .ok (.iconst 0, 1) := by decide +kernel
theorem dX4_play_32 : decode cX4_play 32 = .ok (.iconst 0, 1) := by decide +kernel
theorem dX4_play_33 : decode cX4_play 33 = .ok (.invokevirtual 29, 3) := by decide +kernel
theorem dX4_play_36 : decode cX4_play 36 = .ok (.aload_n 0, 1) := by decide +kernel
theorem dX4_play_37 : decode cX4_play 37 = .ok (.getfield 15, 3) := by decide +kernel
theorem dX4_play_40 : decode cX4_play 40 = .ok (.if_icmp .ne 11, 3) := by decide +kernel
theorem dX4_play_43 : decode cX4_play 43 = .ok (.aload_n 0, 1) := by decide +kernel
theorem dX4_play_44 : decode cX4_play 44 = .ok (.iload_n 2, 1) := by decide +kernel
theorem dX4_play_45 : decode cX4_play 45 = .ok (.putfield 15, 3) := by decide +kernel
theorem dX4_play_48 : decode cX4_play 48 = .ok (.goto 25, 3) := by decide +kernel
theorem dX4_play_51 : decode cX4_play 51 = .ok (.aload_n 0, 1) := by decide +kernel
theorem dX4_play_52 : decode cX4_play 52 = .ok (.iload_n 2, 1) := by decide +kernel
theorem dX4_play_53 : decode cX4_play 53 = .ok (.putfield 21, 3) := by decide +kernel
theorem dX4_play_56 : decode cX4_play 56 = .ok (.aload_n 0, 1) := by decide +kernel
theorem dX4_play_57 : decode cX4_play 57 = .ok (.iload_n 3, 1) := by decide +kernel
theorem dX4_play_58 : decode cX4_play 58 = .ok (.iconst (-1), 1) := by decide +kernel
theorem dX4_play_59 : decode cX4_play 59 = .ok (.if_icmp .ne 10, 3) := by decide +kernel
theorem dX4_play_62 : decode cX4_play 62 = .ok (.aload_n 0, 1) := by decide +kernel
theorem dX4_play_63 : decode cX4_play 63 = .ok (.getfield 9, 3) := by decide +kernel
theorem dX4_play_66 : decode cX4_play 66 = .ok (.goto 4, 3) := by decide +kernel
theorem dX4_play_69 : decode cX4_play 69 = .ok (.iload_n 3, 1) := by decide +kernel
theorem dX4_play_70 : decode cX4_play 70 = .ok (.putfield 9, 3) := by decide +kernel
theorem dX4_play_73 : decode cX4_play 73 = .ok (.aload_n 0, 1) := by decide +kernel
theorem dX4_play_74 : decode cX4_play 74 = .ok (.iconst 1, 1) := by decide +kernel
theorem dX4_play_75 : decode cX4_play 75 = .ok (.aload_n 0, 1) := by decide +kernel
theorem dX4_play_76 : decode cX4_play 76 = .ok (.getfield 24, 3) := by decide +kernel
theorem dX4_play_79 : decode cX4_play 79 = .ok (.isub, 1) := by decide +kernel
theorem dX4_play_80 : decode cX4_play 80 = .ok (.putfield 24, 3) := by decide +kernel
theorem dX4_play_83 : decode cX4_play 83 = .ok (.return_, 1) := by decide +kernel
theorem dX5_init_0 : decode cX5_init 0 = .ok (.aload_n 0, 1) := by decide +kernel
theorem dX5_init_1 : decode cX5_init 1 = .ok (.invokespecial 3, 3) := by decide +kernel
theorem dX5_init_4 : decode cX5_init 4 = .ok (.aload_n 0, 1) := by decide +kernel
theorem dX5_init_5 : decode cX5_init 5 = .ok (.iconst 2, 1) := by decide +kernel
theorem dX5_init_6 : decode cX5_init 6 = .ok (.newarray .int, 2) := by decide +kernel
theorem dX5_init_8 : decode cX5_init 8 = .ok (.putfield 9, 3) := by decide +kernel
theorem dX5_init_11 : decode cX5_init 11 = .ok (.aload_n 0, 1) := by decide +kernel
theorem dX5_init_12 : decode cX5_init 12 = .ok (.iconst 2, 1) := by decide +kernel
theorem dX5_init_13 : decode cX5_init 13 = .ok (.newarray .int, 2) := by decide +kernel
theorem dX5_init_15 : decode cX5_init 15 = .ok (.putfield 15, 3) := by decide +kernel
theorem dX5_init_18 : decode cX5_init 18 = .ok (.aload_n 0, 1) := by decide +kernel
theorem dX5_init_19 : decode cX5_init 19 = .ok (.iconst 2, 1) := by decide +kernel
theorem dX5_init_20 : decode cX5_init 20 = .ok (.newarray .int, 2) := by decide +kernel
theorem dX5_init_22 : decode cX5_init 22 = .ok (.dup, 1) := by decide +kernel
theorem dX5_init_23 : decode cX5_init 23 = .ok (.iconst 0, 1) := by decide +kernel
theorem dX5_init_24 : decode cX5_init 24 = .ok (.iconst (-1), 1) := by decide +kernel
theorem dX5_init_25 : decode cX5_init 25 = .ok (.iastore, 1) := by decide +kernel
theorem dX5_init_26 : decode cX5_init 26 = .ok (.dup, 1) := by decide +kernel
theorem dX5_init_27 : decode cX5_init 27 = .ok (.iconst 1, 1) := by decide +kernel
theorem dX5_init_28 : decode cX5_init 28 = .ok (.iconst (-1), 1) := by decide +kernel
theorem dX5_init_29 : decode cX5_init 29 = .ok (.iastore, 1) := by decide +kernel
theorem dX5_init_30 : decode cX5_init 30 = .ok (.putfield 18, 3) := by decide +kernel
theorem dX5_init_33 : decode cX5_init 33 = .ok (.aload_n 0, 1) := by decide +kernel
theorem dX5_init_34 : decode cX5_init 34 = .ok (.iconst 2, 1) := by decide +kernel
theorem dX5_init_35 : decode cX5_init 35 = .ok (.newarray .int, 2) := by decide +kernel
theorem dX5_init_37 : decode cX5_init 37 = .ok (.dup, 1) := by decide +kernel
theorem dX5_init_38 : decode cX5_init 38 = .ok (.iconst 0, 1) := by decide +kernel
theorem dX5_init_39 : decode cX5_init 39 = .ok (.iconst (-1), 1) := by decide +kernel
theorem dX5_init_40 : decode cX5_init 40 = .ok (.iastore, 1) := by decide +kernel
theorem dX5_init_41 : decode cX5_init 41 = .ok (.dup, 1) := by decide +kernel
theorem dX5_init_42 : decode cX5_init 42 = .ok (.iconst 1, 1) := by decide +kernel
theorem dX5_init_43 : decode cX5_init 43 = .ok (.iconst (-1), 1) := by decide +kernel
theorem dX5_init_44 : decode cX5_init 44 = .ok (.iastore, 1) := by decide +kernel
theorem dX5_init_45 : decode cX5_init 45 = .ok (.putfield 21, 3) := by decide +kernel
theorem dX5_init_48 : decode cX5_init 48 = .ok (.aload_n 0, 1) := by decide +kernel
theorem dX5_init_49 : decode cX5_init 49 = .ok (.sipush 254, 3) := by decide +kernel
theorem dX5_init_52 : decode cX5_init 52 = .ok (.newarray .int, 2) := by decide +kernel
theorem dX5_init_54 : decode cX5_init 54 = .ok (.putfield 24, 3) := by decide +kernel
theorem dX5_init_57 : decode cX5_init 57 = .ok (.aload_n 0, 1) := by decide +kernel
theorem dX5_init_58 : decode cX5_init 58 = .ok (.aload_n 1, 1) := by decide +kernel
theorem dX5_init_59 : decode cX5_init 59 = .ok (.putfield 27, 3) := by decide +kernel
theorem dX5_init_62 : decode cX5_init 62 = .ok (.aload_n 0, 1) := by decide +kernel
theorem dX5_init_63 : decode cX5_init 63 = .ok (.iload_n 2, 1) := by decide +kernel
theorem dX5_init_64 : decode cX5_init 64 = .ok (.putfield 31, 3) := by decide +kernel
theorem dX5_init_67 : decode cX5_init 67 = .ok (.aload_n 0, 1) := by decide +kernel
theorem dX5_init_68 : decode cX5_init 68 = .ok (.aload_n 3, 1) := by decide +kernel
theorem dX5_init_69 : decode cX5_init 69 = .ok (.putfield 35, 3) := by decide +kernel
theorem dX5_init_72 : decode cX5_init 72 = .ok (.aload_n 0, 1) := by decide +kernel
theorem dX5_init_73 : decode cX5_init 73 = .ok (.aload_n 3, 1) := by decide +kernel
theorem dX5_init_74 : decode cX5_init 74 = .ok (.getfield 39, 3) := by decide +kernel
theorem dX5_init_77 : decode cX5_init 77 = .ok (.sipush 128, 3) := by decide +kernel
theorem dX5_init_80 : decode cX5_init 80 = .ok (.imul, 1) := by decide +kernel
theorem dX5_init_81 : decode cX5_init 81 = .ok (.newarray .byte, 2) := by decide +kernel
theorem dX5_init_83 : decode cX5_init 83 = .ok (.putfield 44, 3) := by decide +kernel
theorem dX5_init_86 : decode cX5_init 86 = .ok (.aload_n 0, 1) := by decide +kernel
theorem dX5_init_87 : decode cX5_init 87 = .ok (.getfield 44, 3) := by decide +kernel
theorem dX5_init_90 : decode cX5_init 90 = .ok (.bipush (-2), 2) := by decide +kernel
theorem dX5_init_92 : decode cX5_init 92 = .ok (.invokestatic 48, 3) := by decide +kernel
theorem dX5_init_95 : decode cX5_init 95 = .ok (.aload_n 0, 1) := by decide +kernel
theorem dX5_init_96 : decode cX5_init 96 = .ok (.aload_n 3, 1) := by decide +kernel
theorem dX5_init_97 : decode cX5_init 97 = .ok (.getfield 39, 3) := by decide +kernel
theorem dX5_init_100 : decode cX5_init 100 = .ok (.iconst 1, 1) := by decide +kernel
theorem dX5_init_101 : decode cX5_init 101 = .ok (.iadd, 1) := by decide +kernel
theorem dX5_init_102 : decode cX5_init 102 = .ok (.newarray .int, 2) := by decide +kernel
theorem dX5_init_104 : decode cX5_init 104 = .ok (.putfield 54, 3) := by decide +kernel
theorem dX5_init_107 : decode cX5_init 107 = .ok (.iconst 0, 1) := by decide +kernel
theorem dX5_init_108 : decode cX5_init 108 = .ok (.istore 4, 2) := by decide +kernel
theorem dX5_init_110 : decode cX5_init 110 = .ok (.iload 4, 2) := by decide +kernel
theorem dX5_init_112 : decode cX5_init 112 = .ok (.aload_n 3, 1) := by decide +kernel
theorem dX5_init_113 : decode cX5_init 113 = .ok (.getfield 39, 3) := by decide +kernel
theorem dX5_init_116 : decode cX5_init 116 = .ok (.if_icmp .ge 32, 3) := by decide +kernel
theorem dX5_init_119 : decode cX5_init 119 = .ok (.aload_n 0, 1) := by decide +kernel
theorem dX5_init_120 : decode cX5_init 120 = .ok (.getfield 54, 3) := by decide +kernel
theorem dX5_init_123 : decode cX5_init 123 = .ok (.iload 4, 2) := by decide +kernel
theorem dX5_init_125 : decode cX5_init 125 = .ok (.iconst 1, 1) := by decide +kernel
theorem dX5_init_126 : decode cX5_init 126 = .ok (.iadd, 1) := by decide +kernel
theorem dX5_init_127 : decode cX5_init 127 = .ok (.aload_n 0, 1) := by decide +kernel
theorem dX5_init_128 : decode cX5_init 128 = .ok (.getfield 54, 3) := by decide +kernel
theorem dX5_init_131 : decode cX5_init 131 = .ok (.iload 4, 2) := by decide +kernel
theorem dX5_init_133 : decode cX5_init 133 = .ok (.iaload, 1) := by decide +kernel
theorem dX5_init_134 : decode cX5_init 134 = .ok (.aload_n 0, 1) := by decide +kernel
theorem dX5_init_135 : decode cX5_init 135 = .ok (.iload 4, 2) := by decide +kernel
theorem dX5_init_137 : decode cX5_init 137 = .ok (.invokevirtual 57, 3) := by decide +kernel
theorem dX5_init_140 : decode cX5_init 140 = .ok (.iadd, 1) := by decide +kernel
theorem dX5_init_141 : decode cX5_init 141 = .ok (.iastore, 1) := by decide +kernel
theorem dX5_init_142 : decode cX5_init 142 = .ok (.iinc 4 1, 3) := by decide +kernel
theorem dX5_init_145 : decode cX5_init 145 = .ok (.goto (-35), 3) := by decide +kernel
theorem dX5_init_148 : decode cX5_init 148 = .ok (.return_, 1) := by decide +kernel
theorem dX5_lay_0 : decode cX5_lay 0 = .ok (.aload_n 0, 1) := by decide +kernel
theorem dX5_lay_1 : decode cX5_lay 1 = .ok (.getfield 35, 3) := by decide +kernel
theorem dX5_lay_4 : decode cX5_lay 4 = .ok (.getfield 61, 3) := by decide +kernel
theorem dX5_lay_7 : decode cX5_lay 7 = .ok (.iload_n 1, 1) := by decide +kernel
theorem dX5_lay_8 : decode cX5_lay 8 = .ok (.iaload, 1) := by decide +kernel
theorem dX5_lay_9 : decode cX5_lay 9 = .ok (.istore_n 2, 1) := by decide +kernel
theorem dX5_lay_10 : decode cX5_lay 10 = .ok (.aload_n 0, 1) := by decide +kernel
theorem dX5_lay_11 : decode cX5_lay 11 = .ok (.getfield 35, 3) := by decide +kernel
theorem dX5_lay_14 : decode cX5_lay 14 = .ok (.getfield 64, 3) := by decide +kernel
theorem dX5_lay_17 : decode cX5_lay 17 = .ok (.iload_n 1, 1) := by decide +kernel
theorem dX5_lay_18 : decode cX5_lay 18 = .ok (.iaload, 1) := by decide +kernel
theorem dX5_lay_19 : decode cX5_lay 19 = .ok (.istore_n 3, 1) := by decide +kernel
theorem dX5_lay_20 : decode cX5_lay 20 = .ok (.iconst 0, 1) := by decide +kernel
theorem dX5_lay_21 : decode cX5_lay 21 = .ok (.istore 4, 2) := by decide +kernel
theorem dX5_lay_23 : decode cX5_lay 23 = .ok (.iconst 0, 1) := by decide +kernel
theorem dX5_lay_24 : decode cX5_lay 24 = .ok (.istore 5, 2) := by decide +kernel
theorem dX5_lay_26 : decode cX5_lay 26 = .ok (.iload 5, 2) := by decide +kernel
theorem dX5_lay_28 : decode cX5_lay 28 = .ok (.aload_n 0, 1) := by decide +kernel
theorem dX5_lay_29 : decode cX5_lay 29 = .ok (.getfield 27, 3) := by decide +kernel
theorem dX5_lay_32 : decode cX5_lay 32 = .ok (.getfield 67, 3) := by decide +kernel
theorem dX5_lay_35 : decode cX5_lay 35 = .ok (.if_icmp .ge 114, 3) := by decide +kernel
theorem dX5_lay_38 : decode cX5_lay 38 = .ok (.iload_n 1, 1) := by decide +kernel
theorem dX5_lay_39 : decode cX5_lay 39 = .ok (.iload 5, 2) := by decide +kernel
theorem dX5_lay_41 : decode cX5_lay 41 = .ok (.iconst 1, 1) := by decide +kernel
theorem dX5_lay_42 : decode cX5_lay 42 = .ok (.invokestatic 72, 3) := by decide +kernel
theorem dX5_lay_45 : decode cX5_lay 45 = .ok (.istore 6, 2) := by decide +kernel
theorem dX5_lay_47 : decode cX5_lay 47 = .ok (.aload_n 0, 1) := by decide +kernel
theorem dX5_lay_48 : decode cX5_lay 48 = .ok (.getfield 35, 3) := by decide +kernel
theorem dX5_lay_51 : decode cX5_lay 51 = .ok (.iload_n 2, 1) := by decide +kernel
theorem dX5_lay_52 : decode cX5_lay 52 = .ok (.iload_n 3, 1) := by decide +kernel
theorem dX5_lay_53 : decode cX5_lay 53 = .ok (.iload 5, 2) := by decide +kernel
theorem dX5_lay_55 : decode cX5_lay 55 = .ok (.iconst 1, 1) := by decide +kernel
theorem dX5_lay_56 : decode cX5_lay 56 = .ok (.invokevirtual 76, 3) := by decide +kernel
theorem dX5_lay_59 : decode cX5_lay 59 = .ok (.iload 6, 2) := by decide +kernel
theorem dX5_lay_61 : decode cX5_lay 61 = .ok (.if_icmp .ne 7, 3) := by decide +kernel
theorem dX5_lay_64 : decode cX5_lay 64 = .ok (.iconst 1, 1) := by decide +kernel
theorem dX5_lay_65 : decode cX5_lay 65 = .ok (.goto 4, 3) := by decide +kernel
theorem dX5_lay_68 : decode cX5_lay 68 = .ok (.iconst 0, 1) := by decide +kernel
theorem dX5_lay_69 : decode cX5_lay 69 = .ok (.istore 7, 2) := by decide +kernel
theorem dX5_lay_71 : decode cX5_lay 71 = .ok (.iload 7, 2) := by decide +kernel
theorem dX5_lay_73 : decode cX5_lay 73 = .ok (.ifCond .eq 70, 3) := by decide +kernel
theorem dX5_lay_76 : decode cX5_lay 76 = .ok (.aload_n 0, 1) := by decide +kernel
theorem dX5_lay_77 : decode cX5_lay 77 = .ok (.getfield 27, 3) := by decide +kernel
theorem dX5_lay_80 : decode cX5_lay 80 = .ok (.aload_n 0, 1) := by decide +kernel
theorem dX5_lay_81 : decode cX5_lay 81 = .ok (.getfield 31, 3) := by decide +kernel
theorem dX5_lay_84 : decode cX5_lay 84 = .ok (.iload_n 2, 1) := by decide +kernel
theorem dX5_lay_85 : decode cX5_lay 85 = .ok (.iload_n 3, 1) := by decide +kernel
theorem dX5_lay_86 : decode cX5_lay 86 = .ok (.iload 5, 2) := by decide +kernel
theorem dX5_lay_88 : decode cX5_lay 88 = .ok (.iconst 1, 1) := by decide +kernel
theorem dX5_lay_89 : decode cX5_lay 89 = .ok (.invokevirtual 80, 3) := by decide +kernel
theorem dX5_lay_92 : decode cX5_lay 92 = .ok (.ifCond .ne 6, 3) := by decide +kernel
theorem dX5_lay_95 : decode cX5_lay 95 = .ok (.goto 48, 3) := by decide +kernel
theorem dX5_lay_98 : decode cX5_lay 98 = .ok (.aload_n 0, 1) := by decide +kernel
theorem dX5_lay_99 : decode cX5_lay 99 = .ok (.getfield 44, 3) := by decide +kernel
theorem dX5_lay_102 : decode cX5_lay 102 = .ok (.iload 6, 2) := by decide +kernel
theorem dX5_lay_104 : decode cX5_lay 104 = .ok (.iconst (-1), 1) := by decide +kernel
theorem dX5_lay_105 : decode cX5_lay 105 = .ok (.bastore, 1) := by decide +kernel
theorem dX5_lay_106 : decode cX5_lay 106 = .ok (.iinc 4 1, 3) := by decide +kernel
theorem dX5_lay_109 : decode cX5_lay 109 = .ok (.aload_n 0, 1) := by decide +kernel
theorem dX5_lay_110 : decode cX5_lay 110 = .ok (.getfield 27, 3) := by decide +kernel
theorem dX5_lay_113 : decode cX5_lay 113 = .ok (.aload_n 0, 1) := by decide +kernel
theorem dX5_lay_114 : decode cX5_lay 114 = .ok (.getfield 31, 3) := by decide +kernel
theorem dX5_lay_117 : decode cX5_lay 117 = .ok (.iload_n 2, 1) := by decide +kernel
theorem dX5_lay_118 : decode cX5_lay 118 = .ok (.iload_n 3, 1) := by decide +kernel
theorem dX5_lay_119 : decode cX5_lay 119 = .ok (.iload 5, 2) := by decide +kernel
theorem dX5_lay_121 : decode cX5_lay 121 = .ok (.invokevirtual 84, 3) := by decide +kernel
theorem dX5_lay_124 : decode cX5_lay 124 = .ok (.ifCond .ne 19, 3) := by decide +kernel
theorem dX5_lay_127 : decode cX5_lay 127 = .ok (.aload_n 0, 1) := by decide +kernel
theorem dX5_lay_128 : decode cX5_lay 128 = .ok (.getfield 44, 3) := by decide +kernel
theorem dX5_lay_131 : decode cX5_lay 131 = .ok (.iload_n 1, 1) := by decide +kernel
theorem dX5_lay_132 : decode cX5_lay 132 = .ok (.iload 5, 2) := by decide +kernel
theorem dX5_lay_134 : decode cX5_lay 134 = .ok (.iconst 0, 1) := by decide +kernel
theorem dX5_lay_135 : decode cX5_lay 135 = .ok (.invokestatic 72, 3) := by decide +kernel
theorem dX5_lay_138 : decode cX5_lay 138 = .ok (.iconst (-1), 1) := by decide +kernel
theorem dX5_lay_139 : decode cX5_lay 139 = .ok (.bastore, 1) := by decide +kernel
theorem dX5_lay_140 : decode cX5_lay 140 = .ok (.iinc 4 1, 3) := by decide +kernel
theorem dX5_lay_143 : decode cX5_lay 143 = .ok (.iinc 5 1, 3) := by decide +kernel
theorem dX5_lay_146 : decode cX5_lay 146 = .ok (.goto (-120), 3) := by decide +kernel
theorem dX5_lay_149 : decode cX5_lay 149 = .ok (.iload 4, 2) := by decide +kernel
theorem dX5_lay_151 : decode cX5_lay 151 = .ok (.ireturn, 1) := by decide +kernel
theorem dX5_cellAt_0 : decode cX5_cellAt 0 = .ok (.iload_n 0, 1) := by decide +kernel
theorem dX5_cellAt_1 : decode cX5_cellAt 1 = .ok (.bipush 8, 2) := by decide +kernel
theorem dX5_cellAt_3 : decode cX5_cellAt 3 = .ok (.imul, 1) := by decide +kernel
theorem dX5_cellAt_4 : decode cX5_cellAt 4 = .ok (.bipush 8, 2) := by decide +kernel
theorem dX5_cellAt_6 : decode cX5_cellAt 6 = .ok (.imul, 1) := by decide +kernel
theorem dX5_cellAt_7 : decode cX5_cellAt 7 = .ok (.iload_n 1, 1) := by decide +kernel
theorem dX5_cellAt_8 : decode cX5_cellAt 8 = .ok (.iadd, 1) := by decide +kernel
theorem dX5_cellAt_9 : decode cX5_cellAt 9 = .ok (.iconst 2, 1) := by decide +kernel
theorem dX5_cellAt_10 : decode cX5_cellAt 10 = .ok (.imul, 1) := by decide +kernel
theorem dX5_cellAt_11 : decode cX5_cellAt 11 = .ok (.iload_n 2, 1) := by decide +kernel
theorem dX5_cellAt_12 : decode cX5_cellAt 12 = .ok (.iadd, 1) := by decide +kernel
theorem dX5_cellAt_13 : decode cX5_cellAt 13 = .ok (.ireturn, 1) := by decide +kernel
theorem dX5_pairOf_0 : decode cX5_pairOf 0 = .ok (.iload_n 0, 1) := by decide +kernel
theorem dX5_pairOf_1 : decode cX5_pairOf 1 = .ok (.sipush 128, 3) := by decide +kernel
theorem dX5_pairOf_4 : decode cX5_pairOf 4 = .ok (.idiv, 1) := by decide +kernel
theorem dX5_pairOf_5 : decode cX5_pairOf 5 = .ok (.ireturn, 1) := by decide +kernel
theorem dX5_manOf_0 : decode cX5_manOf 0 = .ok (.iload_n 0, 1) := by decide +kernel
theorem dX5_manOf_1 : decode cX5_manOf 1 = .ok (.sipush 128, 3) := by decide +kernel
theorem dX5_manOf_4 : decode cX5_manOf 4 = .ok (.irem, 1) := by decide +kernel
theorem dX5_manOf_5 : decode cX5_manOf 5 = .ok (.iconst 2, 1) := by decide +kernel
theorem dX5_manOf_6 : decode cX5_manOf 6 = .ok (.idiv, 1) := by decide +kernel
theorem dX5_manOf_7 : decode cX5_manOf 7 = .ok (.ireturn, 1) := by decide +kernel
theorem dX5_turnOf_0 : decode cX5_turnOf 0 = .ok (.iload_n 0, 1) := by decide +kernel
theorem dX5_turnOf_1 : decode cX5_turnOf 1 = .ok (.iconst 1, 1) := by decide +kernel
theorem dX5_turnOf_2 : decode cX5_turnOf 2 = .ok (.iand, 1) := by decide +kernel
theorem dX5_turnOf_3 : decode cX5_turnOf 3 = .ok (.ireturn, 1) := by decide +kernel
theorem dX5_sumUp_0 : decode cX5_sumUp 0 = .ok (.iconst 0, 1) := by decide +kernel
theorem dX5_sumUp_1 : decode cX5_sumUp 1 = .ok (.istore_n 1, 1) := by decide +kernel
theorem dX5_sumUp_2 : decode cX5_sumUp 2 = .ok (.iconst 0, 1) := by decide +kernel
theorem dX5_sumUp_3 : decode cX5_sumUp 3 = .ok (.istore_n 2, 1) := by decide +kernel
theorem dX5_sumUp_4 : decode cX5_sumUp 4 = .ok (.iload_n 2, 1) := by decide +kernel
theorem dX5_sumUp_5 : decode cX5_sumUp 5 = .ok (.aload_n 0, 1) := by decide +kernel
theorem dX5_sumUp_6 : decode cX5_sumUp 6 = .ok (.getfield 44, 3) := by decide +kernel
theorem dX5_sumUp_9 : decode cX5_sumUp 9 = .ok (.arraylength, 1) := by decide +kernel
theorem dX5_sumUp_10 : decode cX5_sumUp 10 = .ok (.if_icmp .ge 29, 3) := by decide +kernel
theorem dX5_sumUp_13 : decode cX5_sumUp 13 = .ok (.aload_n 0, 1) := by decide +kernel
theorem dX5_sumUp_14 : decode cX5_sumUp 14 = .ok (.getfield 44, 3) := by decide +kernel
theorem dX5_sumUp_17 : decode cX5_sumUp 17 = .ok (.iload_n 2, 1) := by decide +kernel
theorem dX5_sumUp_18 : decode cX5_sumUp 18 = .ok (.baload, 1) := by decide +kernel
theorem dX5_sumUp_19 : decode cX5_sumUp 19 = .ok (.bipush (-2), 2) := by decide +kernel
theorem dX5_sumUp_21 : decode cX5_sumUp 21 = .ok (.if_icmp .eq 12, 3) := by decide +kernel
theorem dX5_sumUp_24 : decode cX5_sumUp 24 = .ok (.aload_n 0, 1) := by decide +kernel
theorem dX5_sumUp_25 : decode cX5_sumUp 25 = .ok (.iload_n 2, 1) := by decide +kernel
theorem dX5_sumUp_26 : decode cX5_sumUp 26 = .ok (.iload_n 1, 1) := by decide +kernel
theorem dX5_sumUp_27 : decode cX5_sumUp 27 = .ok (.invokevirtual 88, 3) := by decide +kernel
theorem dX5_sumUp_30 : decode cX5_sumUp 30 = .ok (.iinc 1 1, 3) := by decide +kernel
theorem dX5_sumUp_33 : decode cX5_sumUp 33 = .ok (.iinc 2 1, 3) := by decide +kernel
theorem dX5_sumUp_36 : decode cX5_sumUp 36 = .ok (.goto (-32), 3) := by decide +kernel
theorem dX5_sumUp_39 : decode cX5_sumUp 39 = .ok (.return_, 1) := by decide +kernel
theorem dX5_sumUpCell_0 : decode cX5_sumUpCell 0 = .ok (.iload_n 1, 1) := by decide +kernel
theorem dX5_sumUpCell_1 : decode cX5_sumUpCell 1 = .ok (.invokestatic 92, 3) := by decide +kernel
theorem dX5_sumUpCell_4 : decode cX5_sumUpCell 4 = .ok (.istore_n 3, 1) := by decide +kernel
theorem dX5_sumUpCell_5 : decode cX5_sumUpCell 5 = .ok (.aload_n 0, 1) := by decide +kernel
theorem dX5_sumUpCell_6 : decode cX5_sumUpCell 6 = .ok (.getfield 44, 3) := by decide +kernel
theorem dX5_sumUpCell_9 : decode cX5_sumUpCell 9 = .ok (.iload_n 1, 1) := by decide +kernel
theorem dX5_sumUpCell_10 : decode cX5_sumUpCell 10 = .ok (.baload, 1) := by decide +kernel
theorem dX5_sumUpCell_11 : decode cX5_sumUpCell 11 = .ok (.istore 4, 2) := by decide +kernel
theorem dX5_sumUpCell_13 : decode cX5_sumUpCell 13 = .ok (.aload_n 0, 1) := by decide +kernel
theorem dX5_sumUpCell_14 : decode cX5_sumUpCell 14 = .ok (.getfield 15, 3) := by decide +kernel
theorem dX5_sumUpCell_17 : decode cX5_sumUpCell 17 = .ok (.iload_n 3, 1) := by decide +kernel
theorem dX5_sumUpCell_18 : decode cX5_sumUpCell 18 = .ok (.dup2, 1) := by decide +kernel
theorem dX5_sumUpCell_19 : decode cX5_sumUpCell 19 = .ok (.iaload, 1) := by decide +kernel
theorem dX5_sumUpCell_20 : decode cX5_sumUpCell 20 = .ok (.iconst 1, 1) := by decide +kernel
theorem dX5_sumUpCell_21 : decode cX5_sumUpCell 21 = .ok (.iadd, 1) := by decide +kernel
theorem dX5_sumUpCell_22 : decode cX5_sumUpCell 22 = .ok (.iastore, 1) := by decide +kernel
theorem dX5_sumUpCell_23 : decode cX5_sumUpCell 23 = .ok (.iload 4, 2) := by decide +kernel
theorem dX5_sumUpCell_25 : decode cX5_sumUpCell 25 = .ok (.iconst (-1), 1) := by decide +kernel
theorem dX5_sumUpCell_26 : decode cX5_sumUpCell 26 = .ok (.if_icmp .ne 43, 3) := by decide +kernel
theorem dX5_sumUpCell_29 : decode cX5_sumUpCell 29 = .ok (.aload_n 0, 1) := by decide +kernel
theorem dX5_sumUpCell_30 : decode cX5_sumUpCell 30 = .ok (.getfield 9, 3) := by decide +kernel
theorem dX5_sumUpCell_33 : decode cX5_sumUpCell 33 = .ok (.iload_n 3, 1) := by decide +kernel
theorem dX5_sumUpCell_34 : decode cX5_sumUpCell 34 = .ok (.dup2, 1) := by decide +kernel
theorem dX5_sumUpCell_35 : decode cX5_sumUpCell 35 = .ok (.iaload, 1) := by decide +kernel
theorem dX5_sumUpCell_36 : decode cX5_sumUpCell 36 = .ok (.iconst 1, 1) := by decide +kernel
theorem dX5_sumUpCell_37 : decode cX5_sumUpCell 37 = .ok (.iadd, 1) := by decide +kernel
theorem dX5_sumUpCell_38 : decode cX5_sumUpCell 38 = .ok (.iastore, 1) := by decide +kernel
theorem dX5_sumUpCell_39 : decode cX5_sumUpCell 39 = .ok (.aload_n 0, 1) := by decide +kernel
theorem dX5_sumUpCell_40 : decode cX5_sumUpCell 40 = .ok (.dup, 1) := by decide +kernel
theorem dX5_sumUpCell_41 : decode cX5_sumUpCell 41 = .ok (.getfield 95, 3) := by decide +kernel
theorem dX5_sumUpCell_44 : decode cX5_sumUpCell 44 = .ok (.iload_n 3, 1) := by decide +kernel
theorem dX5_sumUpCell_45 : decode cX5_sumUpCell 45 = .ok (.ifCond .ne 18, 3) := by decide +kernel
theorem dX5_sumUpCell_48 : decode cX5_sumUpCell 48 = .ok (.aload_n 0, 1) := by decide +kernel
theorem dX5_sumUpCell_49 : decode cX5_sumUpCell 49 = .ok (.getfield 44, 3) := by decide +kernel
theorem dX5_sumUpCell_52 : decode cX5_sumUpCell 52 = .ok (.iload_n 1, 1) := by decide +kernel
theorem dX5_sumUpCell_53 : decode cX5_sumUpCell 53 = .ok (.iconst 1, 1) := by decide +kernel
theorem dX5_sumUpCell_54 : decode cX5_sumUpCell 54 = .ok (.iadd, 1) := by decide +kernel
theorem dX5_sumUpCell_55 : decode cX5_sumUpCell 55 = .ok (.baload, 1) := by decide +kernel
theorem dX5_sumUpCell_56 : decode cX5_sumUpCell 56 = .ok (.ifCond .lt 7, 3) := by decide +kernel
theorem dX5_sumUpCell_59 : decode cX5_sumUpCell 59 = .ok (.iconst 1, 1) := by decide +kernel
theorem dX5_sumUpCell_60 : decode cX5_sumUpCell 60 = .ok (.goto 4, 3) := by decide +kernel
theorem dX5_sumUpCell_63 : decode cX5_sumUpCell 63 = .ok (.iconst 0, 1) := by decide +kernel
theorem dX5_sumUpCell_64 : decode cX5_sumUpCell 64 = .ok (.iadd, 1) := by decide +kernel
theorem dX5_sumUpCell_65 : decode cX5_sumUpCell 65 = .ok (.putfield 95, 3) := by decide +kernel
theorem dX5_sumUpCell_68 : decode cX5_sumUpCell 68 = .ok (.return_, 1) := by decide +kernel
theorem dX5_sumUpCell_69 : decode cX5_sumUpCell 69 = .ok (.aload_n 0, 1) := by decide +kernel
theorem dX5_sumUpCell_70 : decode cX5_sumUpCell 70 = .ok (.getfield 24, 3) := by decide +kernel
theorem dX5_sumUpCell_73 : decode cX5_sumUpCell 73 = .ok (.iconst 2, 1) := by decide +kernel
theorem dX5_sumUpCell_74 : decode cX5_sumUpCell 74 = .ok (.iload 4, 2) := by decide +kernel
theorem dX5_sumUpCell_76 : decode cX5_sumUpCell 76 = .ok (.imul, 1) := by decide +kernel
theorem dX5_sumUpCell_77 : decode cX5_sumUpCell 77 = .ok (.iload_n 3, 1) := by decide +kernel
theorem dX5_sumUpCell_78 : decode cX5_sumUpCell 78 = .ok (.iadd, 1) := by decide +kernel
theorem dX5_sumUpCell_79 : decode cX5_sumUpCell 79 = .ok (.dup2, 1) := by decide +kernel
theorem dX5_sumUpCell_80 : decode cX5_sumUpCell 80 = .ok (.iaload, 1) := by decide +kernel
theorem dX5_sumUpCell_81 : decode cX5_sumUpCell 81 = .ok (.iconst 1, 1) := by decide +kernel
theorem dX5_sumUpCell_82 : decode cX5_sumUpCell 82 = .ok (.iadd, 1) := by decide +kernel
theorem dX5_sumUpCell_83 : decode cX5_sumUpCell 83 = .ok (.iastore, 1) := by decide +kernel
theorem dX5_sumUpCell_84 : decode cX5_sumUpCell 84 = .ok (.iload 4, 2) := by decide +kernel
theorem dX5_sumUpCell_86 : decode cX5_sumUpCell 86 = .ok (.aload_n 0, 1) := by decide +kernel
theorem dX5_sumUpCell_87 : decode cX5_sumUpCell 87 = .ok (.getfield 18, 3) := by decide +kernel
theorem dX5_sumUpCell_90 : decode cX5_sumUpCell 90 = .ok (.iload_n 3, 1) := by decide +kernel
theorem dX5_sumUpCell_91 : decode cX5_sumUpCell 91 = .ok (.iaload, 1) := by decide +kernel
theorem dX5_sumUpCell_92 : decode cX5_sumUpCell 92 = .ok (.if_icmp .le 18, 3) := by decide +kernel
theorem dX5_sumUpCell_95 : decode cX5_sumUpCell 95 = .ok (.aload_n 0, 1) := by decide +kernel
theorem dX5_sumUpCell_96 : decode cX5_sumUpCell 96 = .ok (.getfield 18, 3) := by decide +kernel
theorem dX5_sumUpCell_99 : decode cX5_sumUpCell 99 = .ok (.iload_n 3, 1) := by decide +kernel
theorem dX5_sumUpCell_100 : decode cX5_sumUpCell 100 = .ok (.iload 4, 2) := by decide +kernel
theorem dX5_sumUpCell_102 : decode cX5_sumUpCell 102 = .ok (.iastore, 1) := by decide +kernel
theorem dX5_sumUpCell_103 : decode cX5_sumUpCell 103 = .ok (.aload_n 0, 1) := by decide +kernel
theorem dX5_sumUpCell_104 : decode cX5_sumUpCell 104 = .ok (.getfield 21, 3) := by decide +kernel
theorem dX5_sumUpCell_107 : decode cX5_sumUpCell 107 = .ok (.iload_n 3, 1) := by decide +kernel
theorem dX5_sumUpCell_108 : decode cX5_sumUpCell 108 = .ok (.iload_n 2, 1) := by decide +kernel
theorem dX5_sumUpCell_109 : decode cX5_sumUpCell 109 = .ok (.iastore, 1) := by decide +kernel
theorem dX5_sumUpCell_110 : decode cX5_sumUpCell 110 = .ok (.return_, 1) := by decide +kernel
theorem dX5_size_0 : decode cX5_size 0 = .ok (.aload_n 0, 1) := by decide +kernel
theorem dX5_size_1 : decode cX5_size 1 = .ok (.getfield 54, 3) := by decide +kernel
theorem dX5_size_4 : decode cX5_size 4 = .ok (.aload_n 0, 1) := by decide +kernel
theorem dX5_size_5 : decode cX5_size 5 = .ok (.getfield 35, 3) := by decide +kernel
theorem dX5_size_8 : decode cX5_size 8 = .ok (.getfield 39, 3) := by decide +kernel
theorem dX5_size_11 : decode cX5_size 11 = .ok (.iaload, 1) := by decide +kernel
theorem dX5_size_12 : decode cX5_size 12 = .ok (.ireturn, 1) := by decide +kernel
theorem dX5_howManyAt_0 : decode cX5_howManyAt 0 = .ok (.iload_n 2, 1) := by decide +kernel
theorem dX5_howManyAt_1 : decode cX5_howManyAt 1 = .ok (.ifCond .lt 9, 3) := by decide +kernel
theorem dX5_howManyAt_4 : decode cX5_howManyAt 4 = .ok (.iload_n 2, 1) := by decide +kernel
theorem dX5_howManyAt_5 : decode cX5_howManyAt 5 = .ok (.bipush 126, 2) := by decide +kernel
theorem dX5_howManyAt_7 : decode cX5_howManyAt 7 = .ok (.if_icmp .le 7, 3) := by decide +kernel
theorem dX5_howManyAt_10 : decode cX5_howManyAt 10 = .ok (.iconst 0, 1) := by decide +kernel
theorem dX5_howManyAt_11 : decode cX5_howManyAt 11 = .ok (.goto 13, 3) := by decide +kernel
theorem dX5_howManyAt_14 : decode cX5_howManyAt 14 = .ok (.aload_n 0, 1) := by decide +kernel
theorem dX5_howManyAt_15 : decode cX5_howManyAt 15 = .ok (.getfield 24, 3) := by decide +kernel
theorem dX5_howManyAt_18 : decode cX5_howManyAt 18 = .ok (.iconst 2, 1) := by decide +kernel
theorem dX5_howManyAt_19 : decode cX5_howManyAt 19 = .ok (.iload_n 2, 1) := by decide +kernel
theorem dX5_howManyAt_20 : decode cX5_howManyAt 20 = .ok (.imul, 1) := by decide +kernel
theorem dX5_howManyAt_21 : decode cX5_howManyAt 21 = .ok (.iload_n 1, 1) := by decide +kernel
theorem dX5_howManyAt_22 : decode cX5_howManyAt 22 = .ok (.iadd, 1) := by decide +kernel
theorem dX5_howManyAt_23 : decode cX5_howManyAt 23 = .ok (.iaload, 1) := by decide +kernel
theorem dX5_howManyAt_24 : decode cX5_howManyAt 24 = .ok (.ireturn, 1) := by decide +kernel
theorem dX5_look_0 : decode cX5_look 0 = .ok (.aload_n 0, 1) := by decide +kernel
theorem dX5_look_1 : decode cX5_look 1 = .ok (.getfield 35, 3) := by decide +kernel
theorem dX5_look_4 : decode cX5_look 4 = .ok (.iload_n 1, 1) := by decide +kernel
theorem dX5_look_5 : decode cX5_look 5 = .ok (.iload_n 2, 1) := by decide +kernel
theorem dX5_look_6 : decode cX5_look 6 = .ok (.iload_n 3, 1) := by decide +kernel
theorem dX5_look_7 : decode cX5_look 7 = .ok (.iload 4, 2) := by decide +kernel
theorem dX5_look_9 : decode cX5_look 9 = .ok (.invokevirtual 76, 3) := by decide +kernel
theorem dX5_look_12 : decode cX5_look 12 = .ok (.istore 5, 2) := by decide +kernel
theorem dX5_look_14 : decode cX5_look 14 = .ok (.iload 5, 2) := by decide +kernel
theorem dX5_look_16 : decode cX5_look 16 = .ok (.iconst (-1), 1) := by decide +kernel
theorem dX5_look_17 : decode cX5_look 17 = .ok (.if_icmp .eq 13, 3) := by decide +kernel
theorem dX5_look_20 : decode cX5_look 20 = .ok (.aload_n 0, 1) := by decide +kernel
theorem dX5_look_21 : decode cX5_look 21 = .ok (.getfield 44, 3) := by decide +kernel
theorem dX5_look_24 : decode cX5_look 24 = .ok (.iload 5, 2) := by decide +kernel
theorem dX5_look_26 : decode cX5_look 26 = .ok (.baload, 1) := by decide +kernel
theorem dX5_look_27 : decode cX5_look 27 = .ok (.ifCond .ge 7, 3) := by decide +kernel
theorem dX5_look_30 : decode cX5_look 30 = .ok (.iconst (-1), 1) := by decide +kernel
theorem dX5_look_31 : decode cX5_look 31 = .ok (.goto 10, 3) := by decide +kernel
theorem dX5_look_34 : decode cX5_look 34 = .ok (.aload_n 0, 1) := by decide +kernel
theorem dX5_look_35 : decode cX5_look 35 = .ok (.getfield 44, 3) := by decide +kernel
theorem dX5_look_38 : decode cX5_look 38 = .ok (.iload 5, 2) := by decide +kernel
theorem dX5_look_40 : decode cX5_look 40 = .ok (.baload, 1) := by decide +kernel
theorem dX5_look_41 : decode cX5_look 41 = .ok (.ireturn, 1) := by decide +kernel
theorem dX5_numberOf_0 : decode cX5_numberOf 0 = .ok (.aload_n 0, 1) := by decide +kernel
theorem dX5_numberOf_1 : decode cX5_numberOf 1 = .ok (.getfield 35, 3) := by decide +kernel
theorem dX5_numberOf_4 : decode cX5_numberOf 4 = .ok (.iload_n 1, 1) := by decide +kernel
theorem dX5_numberOf_5 : decode cX5_numberOf 5 = .ok (.iload_n 2, 1) := by decide +kernel
theorem dX5_numberOf_6 : decode cX5_numberOf 6 = .ok (.iload_n 3, 1) := by decide +kernel
theorem dX5_numberOf_7 : decode cX5_numberOf 7 = .ok (.iload 4, 2) := by decide +kernel
theorem dX5_numberOf_9 : decode cX5_numberOf 9 = .ok (.invokevirtual 76, 3) := by decide +kernel
theorem dX5_numberOf_12 : decode cX5_numberOf 12 = .ok (.istore 5, 2) := by decide +kernel
theorem dX5_numberOf_14 : decode cX5_numberOf 14 = .ok (.iload 5, 2) := by decide +kernel
theorem dX5_numberOf_16 : decode cX5_numberOf 16 = .ok (.iconst (-1), 1) := by decide +kernel
theorem dX5_numberOf_17 : decode cX5_numberOf 17 = .ok (.if_icmp .ne 5, 3) := by decide +kernel
theorem dX5_numberOf_20 : decode cX5_numberOf 20 = .ok (.iconst (-1), 1) := by decide +kernel
theorem dX5_numberOf_21 : decode cX5_numberOf 21 = .ok (.ireturn, 1) := by decide +kernel
theorem dX5_numberOf_22 : decode cX5_numberOf 22 = .ok (.aload_n 0, 1) := by decide +kernel
theorem dX5_numberOf_23 : decode cX5_numberOf 23 = .ok (.getfield 54, 3) := by decide +kernel
theorem dX5_numberOf_26 : decode cX5_numberOf 26 = .ok (.iload 5, 2) := by decide +kernel
theorem dX5_numberOf_28 : decode cX5_numberOf 28 = .ok (.invokestatic 98, 3) := by decide +kernel
theorem dX5_numberOf_31 : decode cX5_numberOf 31 = .ok (.iaload, 1) := by decide +kernel
theorem dX5_numberOf_32 : decode cX5_numberOf 32 = .ok (.istore 6, 2) := by decide +kernel
theorem dX5_numberOf_34 : decode cX5_numberOf 34 = .ok (.iload 5, 2) := by decide +kernel
theorem dX5_numberOf_36 : decode cX5_numberOf 36 = .ok (.invokestatic 98, 3) := by decide +kernel
theorem dX5_numberOf_39 : decode cX5_numberOf 39 = .ok (.sipush 128, 3) := by decide +kernel
theorem dX5_numberOf_42 : decode cX5_numberOf 42 = .ok (.imul, 1) := by decide +kernel
theorem dX5_numberOf_43 : decode cX5_numberOf 43 = .ok (.istore 7, 2) := by decide +kernel
theorem dX5_numberOf_45 : decode cX5_numberOf 45 = .ok (.iload 7, 2) := by decide +kernel
theorem dX5_numberOf_47 : decode cX5_numberOf 47 = .ok (.iload 5, 2) := by decide +kernel
theorem dX5_numberOf_49 : decode cX5_numberOf 49 = .ok (.if_icmp .ge 31, 3) := by decide +kernel
theorem dX5_numberOf_52 : decode cX5_numberOf 52 = .ok (.iload 6, 2) := by decide +kernel
theorem dX5_numberOf_54 : decode cX5_numberOf 54 = .ok (.aload_n 0, 1) := by decide +kernel
theorem dX5_numberOf_55 : decode cX5_numberOf 55 = .ok (.getfield 44, 3) := by decide +kernel
theorem dX5_numberOf_58 : decode cX5_numberOf 58 = .ok (.iload 7, 2) := by decide +kernel
theorem dX5_numberOf_60 : decode cX5_numberOf 60 = .ok (.baload, 1) := by decide +kernel
theorem dX5_numberOf_61 : decode cX5_numberOf 61 = .ok (.bipush (-2), 2) := by decide +kernel
theorem dX5_numberOf_63 : decode cX5_numberOf 63 = .ok (.if_icmp .eq 7, 3) := by decide +kernel
theorem dX5_numberOf_66 : decode cX5_numberOf 66 = .ok (.iconst 1, 1) := by decide +kernel
theorem dX5_numberOf_67 : decode cX5_numberOf 67 = .ok (.goto 4, 3) := by decide +kernel
theorem dX5_numberOf_70 : decode cX5_numberOf 70 = .ok (.iconst 0, 1) := by decide +kernel
theorem dX5_numberOf_71 : decode cX5_numberOf 71 = .ok (.iadd, 1) := by decide +kernel
theorem dX5_numberOf_72 : decode cX5_numberOf 72 = .ok (.istore 6, 2) := by decide +kernel
theorem dX5_numberOf_74 : decode cX5_numberOf 74 = .ok (.iinc 7 1, 3) := by decide +kernel
theorem dX5_numberOf_77 : decode cX5_numberOf 77 = .ok (.goto (-32), 3) := by decide +kernel
theorem dX5_numberOf_80 : decode cX5_numberOf 80 = .ok (.iload 6, 2) := by decide +kernel
theorem dX5_numberOf_82 : decode cX5_numberOf 82 = .ok (.ireturn, 1) := by decide +kernel
theorem dX5_cellNumbered_0 : decode cX5_cellNumbered 0 = .ok (.iload_n 1, 1) := by decide +kernel
theorem dX5_cellNumbered_1 : decode cX5_cellNumbered 1 = .ok (.ifCond .lt 11, 3) := by decide +kernel
theorem dX5_cellNumbered_4 : decode cX5_cellNumbered 4 = .ok (.iload_n 1, 1) := by decide +kernel
theorem dX5_cellNumbered_5 : decode cX5_cellNumbered 5 = .ok (.aload_n 0, 1) := by decide +kernel
theorem dX5_cellNumbered_6 : decode cX5_cellNumbered 6 = .ok (.invokevirtual 101, 3) := by decide +kernel
theorem dX5_cellNumbered_9 : decode cX5_cellNumbered 9 = .ok (.if_icmp .lt 5, 3) := by decide +kernel
theorem dX5_cellNumbered_12 : decode cX5_cellNumbered 12 = .ok (.iconst (-1), 1) := by decide +kernel
theorem dX5_cellNumbered_13 : decode cX5_cellNumbered 13 = .ok (.ireturn, 1) := by decide +kernel
theorem dX5_cellNumbered_14 : decode cX5_cellNumbered 14 = .ok (.aload_n 0, 1) := by decide +kernel
theorem dX5_cellNumbered_15 : decode cX5_cellNumbered 15 = .ok (.iload_n 1, 1) := by decide +kernel
theorem dX5_cellNumbered_16 : decode cX5_cellNumbered 16 = .ok (.invokevirtual 104, 3) := by decide +kernel
theorem dX5_cellNumbered_19 : decode cX5_cellNumbered 19 = .ok (.istore_n 2, 1) := by decide +kernel
theorem dX5_cellNumbered_20 : decode cX5_cellNumbered 20 = .ok (.iload_n 1, 1) := by decide +kernel
theorem dX5_cellNumbered_21 : decode cX5_cellNumbered 21 = .ok (.aload_n 0, 1) := by decide +kernel
theorem dX5_cellNumbered_22 : decode cX5_cellNumbered 22 = .ok (.getfield 54, 3) := by decide +kernel
theorem dX5_cellNumbered_25 : decode cX5_cellNumbered 25 = .ok (.iload_n 2, 1) := by decide +kernel
theorem dX5_cellNumbered_26 : decode cX5_cellNumbered 26 = .ok (.iaload, 1) := by decide +kernel
theorem dX5_cellNumbered_27 : decode cX5_cellNumbered 27 = .ok (.isub, 1) := by decide +kernel
theorem dX5_cellNumbered_28 : decode cX5_cellNumbered 28 = .ok (.istore_n 3, 1) := by decide +kernel
theorem dX5_cellNumbered_29 : decode cX5_cellNumbered 29 = .ok (.iload_n 2, 1) := by decide +kernel
theorem dX5_cellNumbered_30 : decode cX5_cellNumbered 30 = .ok (.sipush 128, 3) := by decide +kernel
theorem dX5_cellNumbered_33 : decode cX5_cellNumbered 33 = .ok (.imul, 1) := by decide +kernel
theorem dX5_cellNumbered_34 : decode cX5_cellNumbered 34 = .ok (.istore 4, 2) := by decide +kernel
theorem dX5_cellNumbered_36 : decode cX5_cellNumbered 36 = .ok (.iload 4, 2) := by decide +kernel
theorem dX5_cellNumbered_38 : decode cX5_cellNumbered 38 = .ok (.iload_n 2, 1) := by decide +kernel
theorem dX5_cellNumbered_39 : decode cX5_cellNumbered 39 = .ok (.iconst 1, 1) := by decide +kernel
theorem dX5_cellNumbered_40 : decode cX5_cellNumbered 40 = .ok (.iadd, 1) := by decide +kernel
theorem dX5_cellNumbered_41 : decode cX5_cellNumbered 41 = .ok (.sipush 128, 3) := by decide +kernel
theorem dX5_cellNumbered_44 : decode cX5_cellNumbered 44 = .ok (.imul, 1) := by decide +kernel
theorem dX5_cellNumbered_45 : decode cX5_cellNumbered 45 = .ok (.if_icmp .ge 36, 3) := by decide +kernel
theorem dX5_cellNumbered_48 : decode cX5_cellNumbered 48 = .ok (.iload_n 3, 1) := by decide +kernel
theorem dX5_cellNumbered_49 : decode cX5_cellNumbered 49 = .ok (.aload_n 0, 1) := by decide +kernel
theorem dX5_cellNumbered_50 : decode cX5_cellNumbered 50 = .ok (.getfield 44, 3) := by decide +kernel
theorem dX5_cellNumbered_53 : decode cX5_cellNumbered 53 = .ok (.iload 4, 2) := by decide +kernel
theorem dX5_cellNumbered_55 : decode cX5_cellNumbered 55 = .ok (.baload, 1) := by decide +kernel
theorem dX5_cellNumbered_56 : decode cX5_cellNumbered 56 = .ok (.bipush (-2), 2) := by decide +kernel
theorem dX5_cellNumbered_58 : decode cX5_cellNumbered 58 = .ok (.if_icmp .eq 7, 3) := by decide +kernel
theorem dX5_cellNumbered_61 : decode cX5_cellNumbered 61 = .ok (.iconst 1, 1) := by decide +kernel
theorem dX5_cellNumbered_62 : decode cX5_cellNumbered 62 = .ok (.goto 4, 3) := by decide +kernel
theorem dX5_cellNumbered_65 : decode cX5_cellNumbered 65 = .ok (.iconst 0, 1) := by decide +kernel
theorem dX5_cellNumbered_66 : decode cX5_cellNumbered 66 = .ok (.isub, 1) := by decide +kernel
theorem dX5_cellNumbered_67 : decode cX5_cellNumbered 67 = .ok (.istore_n 3, 1) := by decide +kernel
theorem dX5_cellNumbered_68 : decode cX5_cellNumbered 68 = .ok (.iload_n 3, 1) := by decide +kernel
theorem dX5_cellNumbered_69 : decode cX5_cellNumbered 69 = .ok (.ifCond .ge 6, 3) := by decide +kernel
theorem dX5_cellNumbered_72 : decode cX5_cellNumbered 72 = .ok (.iload 4, 2) := by decide +kernel
theorem dX5_cellNumbered_74 : decode cX5_cellNumbered 74 = .ok (.ireturn, 1) := by decide +kernel
theorem dX5_cellNumbered_75 : decode cX5_cellNumbered 75 = .ok (.iinc 4 1, 3) := by decide +kernel
theorem dX5_cellNumbered_78 : decode cX5_cellNumbered 78 = .ok (.goto (-42), 3) := by decide +kernel
theorem dX5_cellNumbered_81 : decode cX5_cellNumbered 81 = .ok (.iconst (-1), 1) := by decide +kernel
theorem dX5_cellNumbered_82 : decode cX5_cellNumbered 82 = .ok (.ireturn, 1) := by decide +kernel
theorem dX5_pairWith_0 : decode cX5_pairWith 0 = .ok (.aload_n 0, 1) := by decide +kernel
theorem dX5_pairWith_1 : decode cX5_pairWith 1 = .ok (.getfield 35, 3) := by decide +kernel
theorem dX5_pairWith_4 : decode cX5_pairWith 4 = .ok (.getfield 39, 3) := by decide +kernel
theorem dX5_pairWith_7 : decode cX5_pairWith 7 = .ok (.iconst 1, 1) := by decide +kernel
theorem dX5_pairWith_8 : decode cX5_pairWith 8 = .ok (.isub, 1) := by decide +kernel
theorem dX5_pairWith_9 : decode cX5_pairWith 9 = .ok (.istore_n 2, 1) := by decide +kernel
theorem dX5_pairWith_10 : decode cX5_pairWith 10 = .ok (.iload_n 2, 1) := by decide +kernel
theorem dX5_pairWith_11 : decode cX5_pairWith 11 = .ok (.ifCond .le 21, 3) := by decide +kernel
theorem dX5_pairWith_14 : decode cX5_pairWith 14 = .ok (.aload_n 0, 1) := by decide +kernel
theorem dX5_pairWith_15 : decode cX5_pairWith 15 = .ok (.getfield 54, 3) := by decide +kernel
theorem dX5_pairWith_18 : decode cX5_pairWith 18 = .ok (.iload_n 2, 1) := by decide +kernel
theorem dX5_pairWith_19 : decode cX5_pairWith 19 = .ok (.iaload, 1) := by decide +kernel
theorem dX5_pairWith_20 : decode cX5_pairWith 20 = .ok (.iload_n 1, 1) := by decide +kernel
theorem dX5_pairWith_21 : decode cX5_pairWith 21 = .ok (.if_icmp .gt 5, 3) := by decide +kernel
theorem dX5_pairWith_24 : decode cX5_pairWith 24 = .ok (.iload_n 2, 1) := by decide +kernel
theorem dX5_pairWith_25 : decode cX5_pairWith 25 = .ok (.ireturn, 1) := by decide +kernel
theorem dX5_pairWith_26 : decode cX5_pairWith 26 = .ok (.iinc 2 (-1), 3) := by decide +kernel
theorem dX5_pairWith_29 : decode cX5_pairWith 29 = .ok (.goto (-19), 3) := by decide +kernel
theorem dX5_pairWith_32 : decode cX5_pairWith 32 = .ok (.iconst 0, 1) := by decide +kernel
theorem dX5_pairWith_33 : decode cX5_pairWith 33 = .ok (.ireturn, 1) := by decide +kernel
theorem dX5_tell_0 : decode cX5_tell 0 = .ok (.iload_n 2, 1) := by decide +kernel
theorem dX5_tell_1 : decode cX5_tell 1 = .ok (.tableswitch 78 0 4 #[35, 48, 61, 66, 71], 35) := by decide +kernel
theorem dX5_tell_36 : decode cX5_tell 36 = .ok (.aload_n 0, 1) := by decide +kernel
theorem dX5_tell_37 : decode cX5_tell 37 = .ok (.getfield 35, 3) := by decide +kernel
theorem dX5_tell_40 : decode cX5_tell 40 = .ok (.getfield 61, 3) := by decide +kernel
theorem dX5_tell_43 : decode cX5_tell 43 = .ok (.iload_n 1, 1) := by decide +kernel
theorem dX5_tell_44 : decode cX5_tell 44 = .ok (.invokestatic 98, 3) := by decide +kernel
theorem dX5_tell_47 : decode cX5_tell 47 = .ok (.iaload, 1) := by decide +kernel
theorem dX5_tell_48 : decode cX5_tell 48 = .ok (.ireturn, 1) := by decide +kernel
theorem dX5_tell_49 : decode cX5_tell 49 = .ok (.aload_n 0, 1) := by decide +kernel
theorem dX5_tell_50 : decode cX5_tell 50 = .ok (.getfield 35, 3) := by decide +kernel
theorem dX5_tell_53 : decode cX5_tell 53 = .ok (.getfield 64, 3) := by decide +kernel
theorem dX5_tell_56 : decode cX5_tell 56 = .ok (.iload_n 1, 1) := by decide +kernel
theorem dX5_tell_57 : decode cX5_tell 57 = .ok (.invokestatic 98, 3) := by decide +kernel
theorem dX5_tell_60 : decode cX5_tell 60 = .ok (.iaload, 1) := by decide +kernel
theorem dX5_tell_61 : decode cX5_tell 61 = .ok (.ireturn, 1) := by decide +kernel
theorem dX5_tell_62 : decode cX5_tell 62 = .ok (.iload_n 1, 1) := by decide +kernel
theorem dX5_tell_63 : decode cX5_tell 63 = .ok (.invokestatic 107, 3) := by decide +kernel
theorem dX5_tell_66 : decode cX5_tell 66 = .ok (.ireturn, 1) := by decide +kernel
theorem dX5_tell_67 : decode cX5_tell 67 = .ok (.iload_n 1, 1) := by decide +kernel
theorem dX5_tell_68 : decode cX5_tell 68 = .ok (.invokestatic 92, 3) := by decide +kernel
theorem dX5_tell_71 : decode cX5_tell 71 = .ok (.ireturn, 1) := by decide +kernel
theorem dX5_tell_72 : decode cX5_tell 72 = .ok (.aload_n 0, 1) := by decide +kernel
theorem dX5_tell_73 : decode cX5_tell 73 = .ok (.getfield 44, 3) := by decide +kernel
theorem dX5_tell_76 : decode cX5_tell 76 = .ok (.iload_n 1, 1) := by decide +kernel
theorem dX5_tell_77 : decode cX5_tell 77 = .ok (.baload, 1) := by decide +kernel
theorem dX5_tell_78 : decode cX5_tell 78 = .ok (.ireturn, 1) := by decide +kernel
theorem dX5_tell_79 : decode cX5_tell 79 = .ok (.iconst (-1), 1) := by decide +kernel
theorem dX5_tell_80 : decode cX5_tell 80 = .ok (.ireturn, 1) := by decide +kernel
theorem dL_distance_0 : decode cL_distance 0 = .ok (.aload 6, 2) := by decide +kernel
theorem dL_distance_2 : decode cL_distance 2 = .ok (.iconst 0, 1) := by decide +kernel
theorem dL_distance_3 : decode cL_distance 3 = .ok (.aload_n 0, 1) := by decide +kernel
theorem dL_distance_4 : decode cL_distance 4 = .ok (.iload_n 1, 1) := by decide +kernel
theorem dL_distance_5 : decode cL_distance 5 = .ok (.iload_n 2, 1) := by decide +kernel
theorem dL_distance_6 : decode cL_distance 6 = .ok (.iload_n 3, 1) := by decide +kernel
theorem dL_distance_7 : decode cL_distance 7 = .ok (.iload 4, 2) := by decide +kernel
theorem dL_distance_9 : decode cL_distance 9 = .ok (.iload 5, 2) := by decide +kernel
theorem dL_distance_11 : decode cL_distance 11 = .ok (.invokevirtual 7, 3) := by decide +kernel
theorem dL_distance_14 : decode cL_distance 14 = .ok (.i2l, 1) := by decide +kernel
theorem dL_distance_15 : decode cL_distance 15 = .ok (.lastore, 1) := by decide +kernel
theorem dL_distance_16 : decode cL_distance 16 = .ok (.goto 7, 3) := by decide +kernel
theorem dL_distance_19 : decode cL_distance 19 = .ok (.astore 7, 2) := by decide +kernel
theorem dL_distance_21 : decode cL_distance 21 = .ok (.iconst 1, 1) := by decide +kernel
theorem dL_distance_22 : decode cL_distance 22 = .ok (.ireturn, 1) := by decide +kernel
theorem dL_distance_23 : decode cL_distance 23 = .ok (.iconst 0, 1) := by decide +kernel
theorem dL_distance_24 : decode cL_distance 24 = .ok (.ireturn, 1) := by decide +kernel
theorem dL_best_0 : decode cL_best 0 = .ok (.aload 6, 2) := by decide +kernel
theorem dL_best_2 : decode cL_best 2 = .ok (.iconst 0, 1) := by decide +kernel
theorem dL_best_3 : decode cL_best 3 = .ok (.aload_n 0, 1) := by decide +kernel
theorem dL_best_4 : decode cL_best 4 = .ok (.iload_n 1, 1) := by decide +kernel
theorem dL_best_5 : decode cL_best 5 = .ok (.iload_n 2, 1) := by decide +kernel
theorem dL_best_6 : decode cL_best 6 = .ok (.iload_n 3, 1) := by decide +kernel
theorem dL_best_7 : decode cL_best 7 = .ok (.iload 4, 2) := by decide +kernel
theorem dL_best_9 : decode cL_best 9 = .ok (.iload 5, 2) := by decide +kernel
theorem dL_best_11 : decode cL_best 11 = .ok (.invokevirtual 15, 3) := by decide +kernel
theorem dL_best_14 : decode cL_best 14 = .ok (.i2l, 1) := by decide +kernel
theorem dL_best_15 : decode cL_best 15 = .ok (.lastore, 1) := by decide +kernel
theorem dL_best_16 : decode cL_best 16 = .ok (.goto 7, 3) := by decide +kernel
theorem dL_best_19 : decode cL_best 19 = .ok (.astore 7, 2) := by decide +kernel
theorem dL_best_21 : decode cL_best 21 = .ok (.iconst 1, 1) := by decide +kernel
theorem dL_best_22 : decode cL_best 22 = .ok (.ireturn, 1) := by decide +kernel
theorem dL_best_23 : decode cL_best 23 = .ok (.iconst 0, 1) := by decide +kernel
theorem dL_best_24 : decode cL_best 24 = .ok (.ireturn, 1) := by decide +kernel
theorem dL_line_0 : decode cL_line 0 = .ok (.aload 6, 2) := by decide +kernel
theorem dL_line_2 : decode cL_line 2 = .ok (.iconst 0, 1) := by decide +kernel
theorem dL_line_3 : decode cL_line 3 = .ok (.aload_n 0, 1) := by decide +kernel
theorem dL_line_4 : decode cL_line 4 = .ok (.iload_n 1, 1) := by decide +kernel
theorem dL_line_5 : decode cL_line 5 = .ok (.iload_n 2, 1) := by decide +kernel
theorem dL_line_6 : decode cL_line 6 = .ok (.iload_n 3, 1) := by decide +kernel
theorem dL_line_7 : decode cL_line 7 = .ok (.iload 4, 2) := by decide +kernel
theorem dL_line_9 : decode cL_line 9 = .ok (.iload 5, 2) := by decide +kernel
theorem dL_line_11 : decode cL_line 11 = .ok (.invokevirtual 18, 3) := by decide +kernel
theorem dL_line_14 : decode cL_line 14 = .ok (.i2l, 1) := by decide +kernel
theorem dL_line_15 : decode cL_line 15 = .ok (.lastore, 1) := by decide +kernel
theorem dL_line_16 : decode cL_line 16 = .ok (.goto 7, 3) := by decide +kernel
theorem dL_line_19 : decode cL_line 19 = .ok (.astore 7, 2) := by decide +kernel
theorem dL_line_21 : decode cL_line 21 = .ok (.iconst 1, 1) := by decide +kernel
theorem dL_line_22 : decode cL_line 22 = .ok (.ireturn, 1) := by decide +kernel
theorem dL_line_23 : decode cL_line 23 = .ok (.iconst 0, 1) := by decide +kernel
theorem dL_line_24 : decode cL_line 24 = .ok (.ireturn, 1) := by decide +kernel
theorem dL_number_0 : decode cL_number 0 = .ok (.aload 6, 2) := by decide +kernel
theorem dL_number_2 : decode cL_number 2 = .ok (.iconst 0, 1) := by decide +kernel
theorem dL_number_3 : decode cL_number 3 = .ok (.aload_n 0, 1) := by decide +kernel
theorem dL_number_4 : decode cL_number 4 = .ok (.iload_n 1, 1) := by decide +kernel
theorem dL_number_5 : decode cL_number 5 = .ok (.iload_n 2, 1) := by decide +kernel
theorem dL_number_6 : decode cL_number 6 = .ok (.iload_n 3, 1) := by decide +kernel
theorem dL_number_7 : decode cL_number 7 = .ok (.iload 4, 2) := by decide +kernel
theorem dL_number_9 : decode cL_number 9 = .ok (.iload 5, 2) := by decide +kernel
theorem dL_number_11 : decode cL_number 11 = .ok (.invokevirtual 21, 3) := by decide +kernel
theorem dL_number_14 : decode cL_number 14 = .ok (.i2l, 1) := by decide +kernel
theorem dL_number_15 : decode cL_number 15 = .ok (.lastore, 1) := by decide +kernel
theorem dL_number_16 : decode cL_number 16 = .ok (.goto 7, 3) := by decide +kernel
theorem dL_number_19 : decode cL_number 19 = .ok (.astore 7, 2) := by decide +kernel
theorem dL_number_21 : decode cL_number 21 = .ok (.iconst 1, 1) := by decide +kernel
theorem dL_number_22 : decode cL_number 22 = .ok (.ireturn, 1) := by decide +kernel
theorem dL_number_23 : decode cL_number 23 = .ok (.iconst 0, 1) := by decide +kernel
theorem dL_number_24 : decode cL_number 24 = .ok (.ireturn, 1) := by decide +kernel
theorem dL_position_0 : decode cL_position 0 = .ok (.aload 4, 2) := by decide +kernel
theorem dL_position_2 : decode cL_position 2 = .ok (.iconst 0, 1) := by decide +kernel
theorem dL_position_3 : decode cL_position 3 = .ok (.aload_n 0, 1) := by decide +kernel
theorem dL_position_4 : decode cL_position 4 = .ok (.iload_n 1, 1) := by decide +kernel
theorem dL_position_5 : decode cL_position 5 = .ok (.iload_n 2, 1) := by decide +kernel
theorem dL_position_6 : decode cL_position 6 = .ok (.iload_n 3, 1) := by decide +kernel
theorem dL_position_7 : decode cL_position 7 = .ok (.invokevirtual 24, 3) := by decide +kernel
theorem dL_position_10 : decode cL_position 10 = .ok (.i2l, 1) := by decide +kernel
theorem dL_position_11 : decode cL_position 11 = .ok (.lastore, 1) := by decide +kernel
theorem dL_position_12 : decode cL_position 12 = .ok (.goto 7, 3) := by decide +kernel
theorem dL_position_15 : decode cL_position 15 = .ok (.astore 5, 2) := by decide +kernel
theorem dL_position_17 : decode cL_position 17 = .ok (.iconst 1, 1) := by decide +kernel
theorem dL_position_18 : decode cL_position 18 = .ok (.ireturn, 1) := by decide +kernel
theorem dL_position_19 : decode cL_position 19 = .ok (.iconst 0, 1) := by decide +kernel
theorem dL_position_20 : decode cL_position 20 = .ok (.ireturn, 1) := by decide +kernel
theorem dL_count_0 : decode cL_count 0 = .ok (.aload 4, 2) := by decide +kernel
theorem dL_count_2 : decode cL_count 2 = .ok (.iconst 0, 1) := by decide +kernel
theorem dL_count_3 : decode cL_count 3 = .ok (.aload_n 0, 1) := by decide +kernel
theorem dL_count_4 : decode cL_count 4 = .ok (.iload_n 1, 1) := by decide +kernel
theorem dL_count_5 : decode cL_count 5 = .ok (.iload_n 2, 1) := by decide +kernel
theorem dL_count_6 : decode cL_count 6 = .ok (.iload_n 3, 1) := by decide +kernel
theorem dL_count_7 : decode cL_count 7 = .ok (.invokevirtual 28, 3) := by decide +kernel
theorem dL_count_10 : decode cL_count 10 = .ok (.i2l, 1) := by decide +kernel
theorem dL_count_11 : decode cL_count 11 = .ok (.lastore, 1) := by decide +kernel
theorem dL_count_12 : decode cL_count 12 = .ok (.goto 7, 3) := by decide +kernel
theorem dL_count_15 : decode cL_count 15 = .ok (.astore 5, 2) := by decide +kernel
theorem dL_count_17 : decode cL_count 17 = .ok (.iconst 1, 1) := by decide +kernel
theorem dL_count_18 : decode cL_count 18 = .ok (.ireturn, 1) := by decide +kernel
theorem dL_count_19 : decode cL_count 19 = .ok (.iconst 0, 1) := by decide +kernel
theorem dL_count_20 : decode cL_count 20 = .ok (.ireturn, 1) := by decide +kernel
theorem dL_longest_0 : decode cL_longest 0 = .ok (.aload 4, 2) := by decide +kernel
theorem dL_longest_2 : decode cL_longest 2 = .ok (.iconst 0, 1) := by decide +kernel
theorem dL_longest_3 : decode cL_longest 3 = .ok (.aload_n 0, 1) := by decide +kernel
theorem dL_longest_4 : decode cL_longest 4 = .ok (.iload_n 1, 1) := by decide +kernel
theorem dL_longest_5 : decode cL_longest 5 = .ok (.iload_n 2, 1) := by decide +kernel
theorem dL_longest_6 : decode cL_longest 6 = .ok (.iload_n 3, 1) := by decide +kernel
theorem dL_longest_7 : decode cL_longest 7 = .ok (.invokevirtual 31, 3) := by decide +kernel
theorem dL_longest_10 : decode cL_longest 10 = .ok (.i2l, 1) := by decide +kernel
theorem dL_longest_11 : decode cL_longest 11 = .ok (.lastore, 1) := by decide +kernel
theorem dL_longest_12 : decode cL_longest 12 = .ok (.goto 7, 3) := by decide +kernel
theorem dL_longest_15 : decode cL_longest 15 = .ok (.astore 5, 2) := by decide +kernel
theorem dL_longest_17 : decode cL_longest 17 = .ok (.iconst 1, 1) := by decide +kernel
theorem dL_longest_18 : decode cL_longest 18 = .ok (.ireturn, 1) := by decide +kernel
theorem dL_longest_19 : decode cL_longest 19 = .ok (.iconst 0, 1) := by decide +kernel
theorem dL_longest_20 : decode cL_longest 20 = .ok (.ireturn, 1) := by decide +kernel
theorem dL_law_0 : decode cL_law 0 = .ok (.new 8, 3) := by decide +kernel
theorem dL_law_3 : decode cL_law 3 = .ok (.dup, 1) := by decide +kernel
theorem dL_law_4 : decode cL_law 4 = .ok (.invokespecial 34, 3) := by decide +kernel
theorem dL_law_7 : decode cL_law 7 = .ok (.astore_n 1, 1) := by decide +kernel
theorem dL_law_8 : decode cL_law 8 = .ok (.new 35, 3) := by decide +kernel
theorem dL_law_11 : decode cL_law 11 = .ok (.dup, 1) := by decide +kernel
theorem dL_law_12 : decode cL_law 12 = .ok (.invokespecial 37, 3) := by decide +kernel
theorem dL_law_15 : decode cL_law 15 = .ok (.astore_n 2, 1) := by decide +kernel
theorem dL_law_16 : decode cL_law 16 = .ok (.iconst 1, 1) := by decide +kernel
theorem dL_law_17 : decode cL_law 17 = .ok (.newarray .long, 2) := by decide +kernel
theorem dL_law_19 : decode cL_law 19 = .ok (.astore_n 3, 1) := by decide +kernel
theorem dL_law_20 : decode cL_law 20 = .ok (.iconst 0, 1) := by decide +kernel
theorem dL_law_21 : decode cL_law 21 = .ok (.istore 4, 2) := by decide +kernel
theorem dL_law_23 : decode cL_law 23 = .ok (.iload 4, 2) := by decide +kernel
theorem dL_law_25 : decode cL_law 25 = .ok (.aload_n 0, 1) := by decide +kernel
theorem dL_law_26 : decode cL_law 26 = .ok (.arraylength, 1) := by decide +kernel
theorem dL_law_27 : decode cL_law 27 = .ok (.bipush 6, 2) := by decide +kernel
theorem dL_law_29 : decode cL_law 29 = .ok (.isub, 1) := by decide +kernel
theorem dL_law_30 : decode cL_law 30 = .ok (.if_icmp .gt 1222, 3) := by decide +kernel
theorem dL_law_33 : decode cL_law 33 = .ok (.aload_n 0, 1) := by decide +kernel
theorem dL_law_34 : decode cL_law 34 = .ok (.iload 4, 2) := by decide +kernel
theorem dL_law_36 : decode cL_law 36 = .ok (.iaload, 1) := by decide +kernel
theorem dL_law_37 : decode cL_law 37 = .ok (.bipush 31, 2) := by decide +kernel
theorem dL_law_39 : decode cL_law 39 = .ok (.iand, 1) := by decide +kernel
theorem dL_law_40 : decode cL_law 40 = .ok (.tableswitch 1206 0 16 #[84, 109, 134, 207, 280, 384, 488, 525, 629, 666, 770, 850, 930, 1010, 1083, 1108, 1181], 84) := by decide +kernel
theorem dL_law_124 : decode cL_law 124 = .ok (.aload_n 1, 1) := by decide +kernel
theorem dL_law_125 : decode cL_law 125 = .ok (.aload_n 0, 1) := by decide +kernel
theorem dL_law_126 : decode cL_law 126 = .ok (.iload 4, 2) := by decide +kernel
theorem dL_law_128 : decode cL_law 128 = .ok (.iconst 1, 1) := by decide +kernel
theorem dL_law_129 : decode cL_law 129 = .ok (.iadd, 1) := by decide +kernel
theorem dL_law_130 : decode cL_law 130 = .ok (.iaload, 1) := by decide +kernel
theorem dL_law_131 : decode cL_law 131 = .ok (.invokevirtual 38, 3) := by decide +kernel
theorem dL_law_134 : decode cL_law 134 = .ok (.aload_n 2, 1) := by decide +kernel
theorem dL_law_135 : decode cL_law 135 = .ok (.aload_n 0, 1) := by decide +kernel
theorem dL_law_136 : decode cL_law 136 = .ok (.iload 4, 2) := by decide +kernel
theorem dL_law_138 : decode cL_law 138 = .ok (.iconst 1, 1) := by decide +kernel
theorem dL_law_139 : decode cL_law 139 = .ok (.iadd, 1) := by decide +kernel
theorem dL_law_140 : decode cL_law 140 = .ok (.iaload, 1) := by decide +kernel
theorem dL_law_141 : decode cL_law 141 = .ok (.invokevirtual 42, 3) := by decide +kernel
theorem dL_law_144 : decode cL_law 144 = .ok (.if_icmp .eq 1102, 3) := by decide +kernel
theorem dL_law_147 : decode cL_law 147 = .ok (.iconst 0, 1) := by decide +kernel
theorem dL_law_148 : decode cL_law 148 = .ok (.ireturn, 1) := by decide +kernel
theorem dL_law_149 : decode cL_law 149 = .ok (.aload_n 1, 1) := by decide +kernel
theorem dL_law_150 : decode cL_law 150 = .ok (.aload_n 0, 1) := by decide +kernel
theorem dL_law_151 : decode cL_law 151 = .ok (.iload 4, 2) := by decide +kernel
theorem dL_law_153 : decode cL_law 153 = .ok (.iconst 1, 1) := by decide +kernel
theorem dL_law_154 : decode cL_law 154 = .ok (.iadd, 1) := by decide +kernel
theorem dL_law_155 : decode cL_law 155 = .ok (.iaload, 1) := by decide +kernel
theorem dL_law_156 : decode cL_law 156 = .ok (.invokevirtual 43, 3) := by decide +kernel
theorem dL_law_159 : decode cL_law 159 = .ok (.aload_n 2, 1) := by decide +kernel
theorem dL_law_160 : decode cL_law 160 = .ok (.aload_n 0, 1) := by decide +kernel
theorem dL_law_161 : decode cL_law 161 = .ok (.iload 4, 2) := by decide +kernel
theorem dL_law_163 : decode cL_law 163 = .ok (.iconst 1, 1) := by decide +kernel
theorem dL_law_164 : decode cL_law 164 = .ok (.iadd, 1) := by decide +kernel
theorem dL_law_165 : decode cL_law 165 = .ok (.iaload, 1) := by decide +kernel
theorem dL_law_166 : decode cL_law 166 = .ok (.invokevirtual 47, 3) := by decide +kernel
theorem dL_law_169 : decode cL_law 169 = .ok (.if_icmp .eq 1077, 3) := by decide +kernel
theorem dL_law_172 : decode cL_law 172 = .ok (.iconst 0, 1) := by decide +kernel
theorem dL_law_173 : decode cL_law 173 = .ok (.ireturn, 1) := by decide +kernel
theorem dL_law_174 : decode cL_law 174 = .ok (.aload_n 1, 1) := by decide +kernel
theorem dL_law_175 : decode cL_law 175 = .ok (.aload_n 0, 1) := by decide +kernel
theorem dL_law_176 : decode cL_law 176 = .ok (.iload 4, 2) := by decide +kernel
theorem dL_law_178 : decode cL_law 178 = .ok (.iconst 1, 1) := by decide +kernel
theorem dL_law_179 : decode cL_law 179 = .ok (.iadd, 1) := by decide +kernel
theorem dL_law_180 : decode cL_law 180 = .ok (.iaload, 1) := by decide +kernel
theorem dL_law_181 : decode cL_law 181 = .ok (.aload_n 0, 1) := by decide +kernel
theorem dL_law_182 : decode cL_law 182 = .ok (.iload 4, 2) := by decide +kernel
theorem dL_law_184 : decode cL_law 184 = .ok (.iconst 2, 1) := by decide +kernel
theorem dL_law_185 : decode cL_law 185 = .ok (.iadd, 1) := by decide +kernel
theorem dL_law_186 : decode cL_law 186 = .ok (.iaload, 1) := by decide +kernel
theorem dL_law_187 : decode cL_law 187 = .ok (.aload_n 0, 1) := by decide +kernel
theorem dL_law_188 : decode cL_law 188 = .ok (.iload 4, 2) := by decide +kernel
theorem dL_law_190 : decode cL_law 190 = .ok (.iconst 3, 1) := by decide +kernel
theorem dL_law_191 : decode cL_law 191 = .ok (.iadd, 1) := by decide +kernel
theorem dL_law_192 : decode cL_law 192 = .ok (.iaload, 1) := by decide +kernel
theorem dL_law_193 : decode cL_law 193 = .ok (.aload_n 0, 1) := by decide +kernel
theorem dL_law_194 : decode cL_law 194 = .ok (.iload 4, 2) := by decide +kernel
theorem dL_law_196 : decode cL_law 196 = .ok (.iconst 4, 1) := by decide +kernel
theorem dL_law_197 : decode cL_law 197 = .ok (.iadd, 1) := by decide +kernel
theorem dL_law_198 : decode cL_law 198 = .ok (.iaload, 1) := by decide +kernel
theorem dL_law_199 : decode cL_law 199 = .ok (.aload_n 0, 1) := by decide +kernel
theorem dL_law_200 : decode cL_law 200 = .ok (.iload 4, 2) := by decide +kernel
theorem dL_law_202 : decode cL_law 202 = .ok (.iconst 5, 1) := by decide +kernel
theorem dL_law_203 : decode cL_law 203 = .ok (.iadd, 1) := by decide +kernel
theorem dL_law_204 : decode cL_law 204 = .ok (.iaload, 1) := by decide +kernel
theorem dL_law_205 : decode cL_law 205 = .ok (.invokevirtual 48, 3) := by decide +kernel
theorem dL_law_208 : decode cL_law 208 = .ok (.aload_n 2, 1) := by decide +kernel
theorem dL_law_209 : decode cL_law 209 = .ok (.aload_n 0, 1) := by decide +kernel
theorem dL_law_210 : decode cL_law 210 = .ok (.iload 4, 2) := by decide +kernel
theorem dL_law_212 : decode cL_law 212 = .ok (.iconst 1, 1) := by decide +kernel
theorem dL_law_213 : decode cL_law 213 = .ok (.iadd, 1) := by decide +kernel
theorem dL_law_214 : decode cL_law 214 = .ok (.iaload, 1) := by decide +kernel
theorem dL_law_215 : decode cL_law 215 = .ok (.aload_n 0, 1) := by decide +kernel
theorem dL_law_216 : decode cL_law 216 = .ok (.iload 4, 2) := by decide +kernel
theorem dL_law_218 : decode cL_law 218 = .ok (.iconst 2, 1) := by decide +kernel
theorem dL_law_219 : decode cL_law 219 = .ok (.iadd, 1) := by decide +kernel
theorem dL_law_220 : decode cL_law 220 = .ok (.iaload, 1) := by decide +kernel
theorem dL_law_221 : decode cL_law 221 = .ok (.aload_n 0, 1) := by decide +kernel
theorem dL_law_222 : decode cL_law 222 = .ok (.iload 4, 2) := by decide +kernel
theorem dL_law_224 : decode cL_law 224 = .ok (.iconst 3, 1) := by decide +kernel
theorem dL_law_225 : decode cL_law 225 = .ok (.iadd, 1) := by decide +kernel
theorem dL_law_226 : decode cL_law 226 = .ok (.iaload, 1) := by decide +kernel
theorem dL_law_227 : decode cL_law 227 = .ok (.aload_n 0, 1) := by decide +kernel
theorem dL_law_228 : decode cL_law 228 = .ok (.iload 4, 2) := by decide +kernel
theorem dL_law_230 : decode cL_law 230 = .ok (.iconst 4, 1) := by decide +kernel
theorem dL_law_231 : decode cL_law 231 = .ok (.iadd, 1) := by decide +kernel
theorem dL_law_232 : decode cL_law 232 = .ok (.iaload, 1) := by decide +kernel
theorem dL_law_233 : decode cL_law 233 = .ok (.aload_n 0, 1) := by decide +kernel
theorem dL_law_234 : decode cL_law 234 = .ok (.iload 4, 2) := by decide +kernel
theorem dL_law_236 : decode cL_law 236 = .ok (.iconst 5, 1) := by decide +kernel
theorem dL_law_237 : decode cL_law 237 = .ok (.iadd, 1) := by decide +kernel
theorem dL_law_238 : decode cL_law 238 = .ok (.iaload, 1) := by decide +kernel
theorem dL_law_239 : decode cL_law 239 = .ok (.invokevirtual 52, 3) := by decide +kernel
theorem dL_law_242 : decode cL_law 242 = .ok (.if_icmp .eq 1004, 3) := by decide +kernel
theorem dL_law_245 : decode cL_law 245 = .ok (.iconst 0, 1) := by decide +kernel
theorem dL_law_246 : decode cL_law 246 = .ok (.ireturn, 1) := by decide +kernel
theorem dL_law_247 : decode cL_law 247 = .ok (.aload_n 1, 1) := by decide +kernel
theorem dL_law_248 : decode cL_law 248 = .ok (.aload_n 0, 1) := by decide +kernel
theorem dL_law_249 : decode cL_law 249 = .ok (.iload 4, 2) := by decide +kernel
theorem dL_law_251 : decode cL_law 251 = .ok (.iconst 1, 1) := by decide +kernel
theorem dL_law_252 : decode cL_law 252 = .ok (.iadd, 1) := by decide +kernel
theorem dL_law_253 : decode cL_law 253 = .ok (.iaload, 1) := by decide +kernel
theorem dL_law_254 : decode cL_law 254 = .ok (.aload_n 0, 1) := by decide +kernel
theorem dL_law_255 : decode cL_law 255 = .ok (.iload 4, 2) := by decide +kernel
theorem dL_law_257 : decode cL_law 257 = .ok (.iconst 2, 1) := by decide +kernel
theorem dL_law_258 : decode cL_law 258 = .ok (.iadd, 1) := by decide +kernel
theorem dL_law_259 : decode cL_law 259 = .ok (.iaload, 1) := by decide +kernel
theorem dL_law_260 : decode cL_law 260 = .ok (.aload_n 0, 1) := by decide +kernel
theorem dL_law_261 : decode cL_law 261 = .ok (.iload 4, 2) := by decide +kernel
theorem dL_law_263 : decode cL_law 263 = .ok (.iconst 3, 1) := by decide +kernel
theorem dL_law_264 : decode cL_law 264 = .ok (.iadd, 1) := by decide +kernel
theorem dL_law_265 : decode cL_law 265 = .ok (.iaload, 1) := by decide +kernel
theorem dL_law_266 : decode cL_law 266 = .ok (.aload_n 0, 1) := by decide +kernel
theorem dL_law_267 : decode cL_law 267 = .ok (.iload 4, 2) := by decide +kernel
theorem dL_law_269 : decode cL_law 269 = .ok (.iconst 4, 1) := by decide +kernel
theorem dL_law_270 : decode cL_law 270 = .ok (.iadd, 1) := by decide +kernel
theorem dL_law_271 : decode cL_law 271 = .ok (.iaload, 1) := by decide +kernel
theorem dL_law_272 : decode cL_law 272 = .ok (.aload_n 0, 1) := by decide +kernel
theorem dL_law_273 : decode cL_law 273 = .ok (.iload 4, 2) := by decide +kernel
theorem dL_law_275 : decode cL_law 275 = .ok (.iconst 5, 1) := by decide +kernel
theorem dL_law_276 : decode cL_law 276 = .ok (.iadd, 1) := by decide +kernel
theorem dL_law_277 : decode cL_law 277 = .ok (.iaload, 1) := by decide +kernel
theorem dL_law_278 : decode cL_law 278 = .ok (.invokevirtual 53, 3) := by decide +kernel
theorem dL_law_281 : decode cL_law 281 = .ok (.aload_n 2, 1) := by decide +kernel
theorem dL_law_282 : decode cL_law 282 = .ok (.aload_n 0, 1) := by decide +kernel
theorem dL_law_283 : decode cL_law 283 = .ok (.iload 4, 2) := by decide +kernel
theorem dL_law_285 : decode cL_law 285 = .ok (.iconst 1, 1) := by decide +kernel
theorem dL_law_286 : decode cL_law 286 = .ok (.iadd, 1) := by decide +kernel
theorem dL_law_287 : decode cL_law 287 = .ok (.iaload, 1) := by decide +kernel
theorem dL_law_288 : decode cL_law 288 = .ok (.aload_n 0, 1) := by decide +kernel
theorem dL_law_289 : decode cL_law 289 = .ok (.iload 4, 2) := by decide +kernel
theorem dL_law_291 : decode cL_law 291 = .ok (.iconst 2, 1) := by decide +kernel
theorem dL_law_292 : decode cL_law 292 = .ok (.iadd, 1) := by decide +kernel
theorem dL_law_293 : decode cL_law 293 = .ok (.iaload, 1) := by decide +kernel
theorem dL_law_294 : decode cL_law 294 = .ok (.aload_n 0, 1) := by decide +kernel
theorem dL_law_295 : decode cL_law 295 = .ok (.iload 4, 2) := by decide +kernel
theorem dL_law_297 : decode cL_law 297 = .ok (.iconst 3, 1) := by decide +kernel
theorem dL_law_298 : decode cL_law 298 = .ok (.iadd, 1) := by decide +kernel
theorem dL_law_299 : decode cL_law 299 = .ok (.iaload, 1) := by decide +kernel
theorem dL_law_300 : decode cL_law 300 = .ok (.aload_n 0, 1) := by decide +kernel
theorem dL_law_301 : decode cL_law 301 = .ok (.iload 4, 2) := by decide +kernel
theorem dL_law_303 : decode cL_law 303 = .ok (.iconst 4, 1) := by decide +kernel
theorem dL_law_304 : decode cL_law 304 = .ok (.iadd, 1) := by decide +kernel
theorem dL_law_305 : decode cL_law 305 = .ok (.iaload, 1) := by decide +kernel
theorem dL_law_306 : decode cL_law 306 = .ok (.aload_n 0, 1) := by decide +kernel
theorem dL_law_307 : decode cL_law 307 = .ok (.iload 4, 2) := by decide +kernel
theorem dL_law_309 : decode cL_law 309 = .ok (.iconst 5, 1) := by decide +kernel
theorem dL_law_310 : decode cL_law 310 = .ok (.iadd, 1) := by decide +kernel
theorem dL_law_311 : decode cL_law 311 = .ok (.iaload, 1) := by decide +kernel
theorem dL_law_312 : decode cL_law 312 = .ok (.invokevirtual 56, 3) := by decide +kernel
theorem dL_law_315 : decode cL_law 315 = .ok (.if_icmp .eq 931, 3) := by decide +kernel
theorem dL_law_318 : decode cL_law 318 = .ok (.iconst 0, 1) := by decide +kernel
theorem dL_law_319 : decode cL_law 319 = .ok (.ireturn, 1) := by decide +kernel
theorem dL_law_320 : decode cL_law 320 = .ok (.aload_n 1, 1) := by decide +kernel
theorem dL_law_321 : decode cL_law 321 = .ok (.aload_n 0, 1) := by decide +kernel
theorem dL_law_322 : decode cL_law 322 = .ok (.iload 4, 2) := by decide +kernel
theorem dL_law_324 : decode cL_law 324 = .ok (.iconst 1, 1) := by decide +kernel
theorem dL_law_325 : decode cL_law 325 = .ok (.iadd, 1) := by decide +kernel
theorem dL_law_326 : decode cL_law 326 = .ok (.iaload, 1) := by decide +kernel
theorem dL_law_327 : decode cL_law 327 = .ok (.aload_n 0, 1) := by decide +kernel
theorem dL_law_328 : decode cL_law 328 = .ok (.iload 4, 2) := by decide +kernel
theorem dL_law_330 : decode cL_law 330 = .ok (.iconst 2, 1) := by decide +kernel
theorem dL_law_331 : decode cL_law 331 = .ok (.iadd, 1) := by decide +kernel
theorem dL_law_332 : decode cL_law 332 = .ok (.iaload, 1) := by decide +kernel
theorem dL_law_333 : decode cL_law 333 = .ok (.aload_n 0, 1) := by decide +kernel
theorem dL_law_334 : decode cL_law 334 = .ok (.iload 4, 2) := by decide +kernel
theorem dL_law_336 : decode cL_law 336 = .ok (.iconst 3, 1) := by decide +kernel
theorem dL_law_337 : decode cL_law 337 = .ok (.iadd, 1) := by decide +kernel
theorem dL_law_338 : decode cL_law 338 = .ok (.iaload, 1) := by decide +kernel
theorem dL_law_339 : decode cL_law 339 = .ok (.aload_n 0, 1) := by decide +kernel
theorem dL_law_340 : decode cL_law 340 = .ok (.iload 4, 2) := by decide +kernel
theorem dL_law_342 : decode cL_law 342 = .ok (.iconst 4, 1) := by decide +kernel
theorem dL_law_343 : decode cL_law 343 = .ok (.iadd, 1) := by decide +kernel
theorem dL_law_344 : decode cL_law 344 = .ok (.iaload, 1) := by decide +kernel
theorem dL_law_345 : decode cL_law 345 = .ok (.aload_n 0, 1) := by decide +kernel
theorem dL_law_346 : decode cL_law 346 = .ok (.iload 4, 2) := by decide +kernel
theorem dL_law_348 : decode cL_law 348 = .ok (.iconst 5, 1) := by decide +kernel
theorem dL_law_349 : decode cL_law 349 = .ok (.iadd, 1) := by decide +kernel
theorem dL_law_350 : decode cL_law 350 = .ok (.iaload, 1) := by decide +kernel
theorem dL_law_351 : decode cL_law 351 = .ok (.aload_n 3, 1) := by decide +kernel
theorem dL_law_352 : decode cL_law 352 = .ok (.invokestatic 57, 3) := by decide +kernel
theorem dL_law_355 : decode cL_law 355 = .ok (.istore 5, 2) := by decide +kernel
theorem dL_law_357 : decode cL_law 357 = .ok (.aload_n 2, 1) := by decide +kernel
theorem dL_law_358 : decode cL_law 358 = .ok (.aload_n 0, 1) := by decide +kernel
theorem dL_law_359 : decode cL_law 359 = .ok (.iload 4, 2) := by decide +kernel
theorem dL_law_361 : decode cL_law 361 = .ok (.iconst 1, 1) := by decide +kernel
theorem dL_law_362 : decode cL_law 362 = .ok (.iadd, 1) := by decide +kernel
theorem dL_law_363 : decode cL_law 363 = .ok (.iaload, 1) := by decide +kernel
theorem dL_law_364 : decode cL_law 364 = .ok (.aload_n 0, 1) := by decide +kernel
theorem dL_law_365 : decode cL_law 365 = .ok (.iload 4, 2) := by decide +kernel
theorem dL_law_367 : decode cL_law 367 = .ok (.iconst 2, 1) := by decide +kernel
theorem dL_law_368 : decode cL_law 368 = .ok (.iadd, 1) := by decide +kernel
theorem dL_law_369 : decode cL_law 369 = .ok (.iaload, 1) := by decide +kernel
theorem dL_law_370 : decode cL_law 370 = .ok (.aload_n 0, 1) := by decide +kernel
theorem dL_law_371 : decode cL_law 371 = .ok (.iload 4, 2) := by decide +kernel
theorem dL_law_373 : decode cL_law 373 = .ok (.iconst 3, 1) := by decide +kernel
theorem dL_law_374 : decode cL_law 374 = .ok (.iadd, 1) := by decide +kernel
theorem dL_law_375 : decode cL_law 375 = .ok (.iaload, 1) := by decide +kernel
theorem dL_law_376 : decode cL_law 376 = .ok (.aload_n 0, 1) := by decide +kernel
theorem dL_law_377 : decode cL_law 377 = .ok (.iload 4, 2) := by decide +kernel
theorem dL_law_379 : decode cL_law 379 = .ok (.iconst 4, 1) := by decide +kernel
theorem dL_law_380 : decode cL_law 380 = .ok (.iadd, 1) := by decide +kernel
theorem dL_law_381 : decode cL_law 381 = .ok (.iaload, 1) := by decide +kernel
theorem dL_law_382 : decode cL_law 382 = .ok (.aload_n 0, 1) := by decide +kernel
theorem dL_law_383 : decode cL_law 383 = .ok (.iload 4, 2) := by decide +kernel
theorem dL_law_385 : decode cL_law 385 = .ok (.iconst 5, 1) := by decide +kernel
theorem dL_law_386 : decode cL_law 386 = .ok (.iadd, 1) := by decide +kernel
theorem dL_law_387 : decode cL_law 387 = .ok (.iaload, 1) := by decide +kernel
theorem dL_law_388 : decode cL_law 388 = .ok (.invokevirtual 62, 3) := by decide +kernel
theorem dL_law_391 : decode cL_law 391 = .ok (.istore 6, 2) := by decide +kernel
theorem dL_law_393 : decode cL_law 393 = .ok (.aload_n 2, 1) := by decide +kernel
theorem dL_law_394 : decode cL_law 394 = .ok (.invokevirtual 63, 3) := by decide +kernel
theorem dL_law_397 : decode cL_law 397 = .ok (.iload 5, 2) := by decide +kernel
theorem dL_law_399 : decode cL_law 399 = .ok (.if_icmp .eq 5, 3) := by decide +kernel
theorem dL_law_402 : decode cL_law 402 = .ok (.iconst 0, 1) := by decide +kernel
theorem dL_law_403 : decode cL_law 403 = .ok (.ireturn, 1) := by decide +kernel
theorem dL_law_404 : decode cL_law 404 = .ok (.iload 5, 2) := by decide +kernel
theorem dL_law_406 : decode cL_law 406 = .ok (.ifCond .ne 15, 3) := by decide +kernel
theorem dL_law_409 : decode cL_law 409 = .ok (.aload_n 3, 1) := by decide +kernel
theorem dL_law_410 : decode cL_law 410 = .ok (.iconst 0, 1) := by decide +kernel
theorem dL_law_411 : decode cL_law 411 = .ok (.laload, 1) := by decide +kernel
theorem dL_law_412 : decode cL_law 412 = .ok (.iload 6, 2) := by decide +kernel
theorem dL_law_414 : decode cL_law 414 = .ok (.i2l, 1) := by decide +kernel
theorem dL_law_415 : decode cL_law 415 = .ok (.lcmp, 1) := by decide +kernel
theorem dL_law_416 : decode cL_law 416 = .ok (.ifCond .eq 5, 3) := by decide +kernel
theorem dL_law_419 : decode cL_law 419 = .ok (.iconst 0, 1) := by decide +kernel
theorem dL_law_420 : decode cL_law 420 = .ok (.ireturn, 1) := by decide +kernel
theorem dL_law_421 : decode cL_law 421 = .ok (.goto 825, 3) := by decide +kernel
theorem dL_law_424 : decode cL_law 424 = .ok (.aload_n 1, 1) := by decide +kernel
theorem dL_law_425 : decode cL_law 425 = .ok (.aload_n 0, 1) := by decide +kernel
theorem dL_law_426 : decode cL_law 426 = .ok (.iload 4, 2) := by decide +kernel
theorem dL_law_428 : decode cL_law 428 = .ok (.iconst 1, 1) := by decide +kernel
theorem dL_law_429 : decode cL_law 429 = .ok (.iadd, 1) := by decide +kernel
theorem dL_law_430 : decode cL_law 430 = .ok (.iaload, 1) := by decide +kernel
theorem dL_law_431 : decode cL_law 431 = .ok (.aload_n 0, 1) := by decide +kernel
theorem dL_law_432 : decode cL_law 432 = .ok (.iload 4, 2) := by decide +kernel
theorem dL_law_434 : decode cL_law 434 = .ok (.iconst 2, 1) := by decide +kernel
theorem dL_law_435 : decode cL_law 435 = .ok (.iadd, 1) := by decide +kernel
theorem dL_law_436 : decode cL_law 436 = .ok (.iaload, 1) := by decide +kernel
theorem dL_law_437 : decode cL_law 437 = .ok (.aload_n 0, 1) := by decide +kernel
theorem dL_law_438 : decode cL_law 438 = .ok (.iload 4, 2) := by decide +kernel
theorem dL_law_440 : decode cL_law 440 = .ok (.iconst 3, 1) := by decide +kernel
theorem dL_law_441 : decode cL_law 441 = .ok (.iadd, 1) := by decide +kernel
theorem dL_law_442 : decode cL_law 442 = .ok (.iaload, 1) := by decide +kernel
theorem dL_law_443 : decode cL_law 443 = .ok (.aload_n 0, 1) := by decide +kernel
theorem dL_law_444 : decode cL_law 444 = .ok (.iload 4, 2) := by decide +kernel
theorem dL_law_446 : decode cL_law 446 = .ok (.iconst 4, 1) := by decide +kernel
theorem dL_law_447 : decode cL_law 447 = .ok (.iadd, 1) := by decide +kernel
theorem dL_law_448 : decode cL_law 448 = .ok (.iaload, 1) := by decide +kernel
theorem dL_law_449 : decode cL_law 449 = .ok (.aload_n 0, 1) := by decide +kernel
theorem dL_law_450 : decode cL_law 450 = .ok (.iload 4, 2) := by decide +kernel
theorem dL_law_452 : decode cL_law 452 = .ok (.iconst 5, 1) := by decide +kernel
theorem dL_law_453 : decode cL_law 453 = .ok (.iadd, 1) := by decide +kernel
theorem dL_law_454 : decode cL_law 454 = .ok (.iaload, 1) := by decide +kernel
theorem dL_law_455 : decode cL_law 455 = .ok (.aload_n 3, 1) := by decide +kernel
theorem dL_law_456 : decode cL_law 456 = .ok (.invokestatic 67, 3) := by decide +kernel
theorem dL_law_459 : decode cL_law 459 = .ok (.istore 5, 2) := by decide +kernel
theorem dL_law_461 : decode cL_law 461 = .ok (.aload_n 2, 1) := by decide +kernel
theorem dL_law_462 : decode cL_law 462 = .ok (.aload_n 0, 1) := by decide +kernel
theorem dL_law_463 : decode cL_law 463 = .ok (.iload 4, 2) := by decide +kernel
theorem dL_law_465 : decode cL_law 465 = .ok (.iconst 1, 1) := by decide +kernel
theorem dL_law_466 : decode cL_law 466 = .ok (.iadd, 1) := by decide +kernel
theorem dL_law_467 : decode cL_law 467 = .ok (.iaload, 1) := by decide +kernel
theorem dL_law_468 : decode cL_law 468 = .ok (.aload_n 0, 1) := by decide +kernel
theorem dL_law_469 : decode cL_law 469 = .ok (.iload 4, 2) := by decide +kernel
theorem dL_law_471 : decode cL_law 471 = .ok (.iconst 2, 1) := by decide +kernel
theorem dL_law_472 : decode cL_law 472 = .ok (.iadd, 1) := by decide +kernel
theorem dL_law_473 : decode cL_law 473 = .ok (.iaload, 1) := by decide +kernel
theorem dL_law_474 : decode cL_law 474 = .ok (.aload_n 0, 1) := by decide +kernel
theorem dL_law_475 : decode cL_law 475 = .ok (.iload 4, 2) := by decide +kernel
theorem dL_law_477 : decode cL_law 477 = .ok (.iconst 3, 1) := by decide +kernel
theorem dL_law_478 : decode cL_law 478 = .ok (.iadd, 1) := by decide +kernel
theorem dL_law_479 : decode cL_law 479 = .ok (.iaload, 1) := by decide +kernel
theorem dL_law_480 : decode cL_law 480 = .ok (.aload_n 0, 1) := by decide +kernel
theorem dL_law_481 : decode cL_law 481 = .ok (.iload 4, 2) := by decide +kernel
theorem dL_law_483 : decode cL_law 483 = .ok (.iconst 4, 1) := by decide +kernel
theorem dL_law_484 : decode cL_law 484 = .ok (.iadd, 1) := by decide +kernel
theorem dL_law_485 : decode cL_law 485 = .ok (.iaload, 1) := by decide +kernel
theorem dL_law_486 : decode cL_law 486 = .ok (.aload_n 0, 1) := by decide +kernel
theorem dL_law_487 : decode cL_law 487 = .ok (.iload 4, 2) := by decide +kernel
theorem dL_law_489 : decode cL_law 489 = .ok (.iconst 5, 1) := by decide +kernel
theorem dL_law_490 : decode cL_law 490 = .ok (.iadd, 1) := by decide +kernel
theorem dL_law_491 : decode cL_law 491 = .ok (.iaload, 1) := by decide +kernel
theorem dL_law_492 : decode cL_law 492 = .ok (.invokevirtual 69, 3) := by decide +kernel
theorem dL_law_495 : decode cL_law 495 = .ok (.istore 6, 2) := by decide +kernel
theorem dL_law_497 : decode cL_law 497 = .ok (.aload_n 2, 1) := by decide +kernel
theorem dL_law_498 : decode cL_law 498 = .ok (.invokevirtual 63, 3) := by decide +kernel
theorem dL_law_501 : decode cL_law 501 = .ok (.iload 5, 2) := by decide +kernel
theorem dL_law_503 : decode cL_law 503 = .ok (.if_icmp .eq 5, 3) := by decide +kernel
theorem dL_law_506 : decode cL_law 506 = .ok (.iconst 0, 1) := by decide +kernel
theorem dL_law_507 : decode cL_law 507 = .ok (.ireturn, 1) := by decide +kernel
theorem dL_law_508 : decode cL_law 508 = .ok (.iload 5, 2) := by decide +kernel
theorem dL_law_510 : decode cL_law 510 = .ok (.ifCond .ne 15, 3) := by decide +kernel
theorem dL_law_513 : decode cL_law 513 = .ok (.aload_n 3, 1) := by decide +kernel
theorem dL_law_514 : decode cL_law 514 = .ok (.iconst 0, 1) := by decide +kernel
theorem dL_law_515 : decode cL_law 515 = .ok (.laload, 1) := by decide +kernel
theorem dL_law_516 : decode cL_law 516 = .ok (.iload 6, 2) := by decide +kernel
theorem dL_law_518 : decode cL_law 518 = .ok (.i2l, 1) := by decide +kernel
theorem dL_law_519 : decode cL_law 519 = .ok (.lcmp, 1) := by decide +kernel
theorem dL_law_520 : decode cL_law 520 = .ok (.ifCond .eq 5, 3) := by decide +kernel
theorem dL_law_523 : decode cL_law 523 = .ok (.iconst 0, 1) := by decide +kernel
theorem dL_law_524 : decode cL_law 524 = .ok (.ireturn, 1) := by decide +kernel
theorem dL_law_525 : decode cL_law 525 = .ok (.goto 721, 3) := by decide +kernel
theorem dL_law_528 : decode cL_law 528 = .ok (.aload_n 1, 1) := by decide +kernel
theorem dL_law_529 : decode cL_law 529 = .ok (.aload_n 0, 1) := by decide +kernel
theorem dL_law_530 : decode cL_law 530 = .ok (.iload 4, 2) := by decide +kernel
theorem dL_law_532 : decode cL_law 532 = .ok (.iconst 1, 1) := by decide +kernel
theorem dL_law_533 : decode cL_law 533 = .ok (.iadd, 1) := by decide +kernel
theorem dL_law_534 : decode cL_law 534 = .ok (.iaload, 1) := by decide +kernel
theorem dL_law_535 : decode cL_law 535 = .ok (.aload_n 0, 1) := by decide +kernel
theorem dL_law_536 : decode cL_law 536 = .ok (.iload 4, 2) := by decide +kernel
theorem dL_law_538 : decode cL_law 538 = .ok (.iconst 2, 1) := by decide +kernel
theorem dL_law_539 : decode cL_law 539 = .ok (.iadd, 1) := by decide +kernel
theorem dL_law_540 : decode cL_law 540 = .ok (.iaload, 1) := by decide +kernel
theorem dL_law_541 : decode cL_law 541 = .ok (.invokevirtual 70, 3) := by decide +kernel
theorem dL_law_544 : decode cL_law 544 = .ok (.aload_n 2, 1) := by decide +kernel
theorem dL_law_545 : decode cL_law 545 = .ok (.aload_n 0, 1) := by decide +kernel
theorem dL_law_546 : decode cL_law 546 = .ok (.iload 4, 2) := by decide +kernel
theorem dL_law_548 : decode cL_law 548 = .ok (.iconst 1, 1) := by decide +kernel
theorem dL_law_549 : decode cL_law 549 = .ok (.iadd, 1) := by decide +kernel
theorem dL_law_550 : decode cL_law 550 = .ok (.iaload, 1) := by decide +kernel
theorem dL_law_551 : decode cL_law 551 = .ok (.aload_n 0, 1) := by decide +kernel
theorem dL_law_552 : decode cL_law 552 = .ok (.iload 4, 2) := by decide +kernel
theorem dL_law_554 : decode cL_law 554 = .ok (.iconst 2, 1) := by decide +kernel
theorem dL_law_555 : decode cL_law 555 = .ok (.iadd, 1) := by decide +kernel
theorem dL_law_556 : decode cL_law 556 = .ok (.iaload, 1) := by decide +kernel
theorem dL_law_557 : decode cL_law 557 = .ok (.invokevirtual 74, 3) := by decide +kernel
theorem dL_law_560 : decode cL_law 560 = .ok (.if_icmp .eq 686, 3) := by decide +kernel
theorem dL_law_563 : decode cL_law 563 = .ok (.iconst 0, 1) := by decide +kernel
theorem dL_law_564 : decode cL_law 564 = .ok (.ireturn, 1) := by decide +kernel
theorem dL_law_565 : decode cL_law 565 = .ok (.aload_n 1, 1) := by decide +kernel
theorem dL_law_566 : decode cL_law 566 = .ok (.aload_n 0, 1) := by decide +kernel
theorem dL_law_567 : decode cL_law 567 = .ok (.iload 4, 2) := by decide +kernel
theorem dL_law_569 : decode cL_law 569 = .ok (.iconst 1, 1) := by decide +kernel
theorem dL_law_570 : decode cL_law 570 = .ok (.iadd, 1) := by decide +kernel
theorem dL_law_571 : decode cL_law 571 = .ok (.iaload, 1) := by decide +kernel
theorem dL_law_572 : decode cL_law 572 = .ok (.aload_n 0, 1) := by decide +kernel
theorem dL_law_573 : decode cL_law 573 = .ok (.iload 4, 2) := by decide +kernel
theorem dL_law_575 : decode cL_law 575 = .ok (.iconst 2, 1) := by decide +kernel
theorem dL_law_576 : decode cL_law 576 = .ok (.iadd, 1) := by decide +kernel
theorem dL_law_577 : decode cL_law 577 = .ok (.iaload, 1) := by decide +kernel
theorem dL_law_578 : decode cL_law 578 = .ok (.aload_n 0, 1) := by decide +kernel
theorem dL_law_579 : decode cL_law 579 = .ok (.iload 4, 2) := by decide +kernel
theorem dL_law_581 : decode cL_law 581 = .ok (.iconst 3, 1) := by decide +kernel
theorem dL_law_582 : decode cL_law 582 = .ok (.iadd, 1) := by decide +kernel
theorem dL_law_583 : decode cL_law 583 = .ok (.iaload, 1) := by decide +kernel
theorem dL_law_584 : decode cL_law 584 = .ok (.aload_n 0, 1) := by decide +kernel
theorem dL_law_585 : decode cL_law 585 = .ok (.iload 4, 2) := by decide +kernel
theorem dL_law_587 : decode cL_law 587 = .ok (.iconst 4, 1) := by decide +kernel
theorem dL_law_588 : decode cL_law 588 = .ok (.iadd, 1) := by decide +kernel
theorem dL_law_589 : decode cL_law 589 = .ok (.iaload, 1) := by decide +kernel
theorem dL_law_590 : decode cL_law 590 = .ok (.aload_n 0, 1) := by decide +kernel
theorem dL_law_591 : decode cL_law 591 = .ok (.iload 4, 2) := by decide +kernel
theorem dL_law_593 : decode cL_law 593 = .ok (.iconst 5, 1) := by decide +kernel
theorem dL_law_594 : decode cL_law 594 = .ok (.iadd, 1) := by decide +kernel
theorem dL_law_595 : decode cL_law 595 = .ok (.iaload, 1) := by decide +kernel
theorem dL_law_596 : decode cL_law 596 = .ok (.aload_n 3, 1) := by decide +kernel
theorem dL_law_597 : decode cL_law 597 = .ok (.invokestatic 75, 3) := by decide +kernel
theorem dL_law_600 : decode cL_law 600 = .ok (.istore 5, 2) := by decide +kernel
theorem dL_law_602 : decode cL_law 602 = .ok (.aload_n 2, 1) := by decide +kernel
theorem dL_law_603 : decode cL_law 603 = .ok (.aload_n 0, 1) := by decide +kernel
theorem dL_law_604 : decode cL_law 604 = .ok (.iload 4, 2) := by decide +kernel
theorem dL_law_606 : decode cL_law 606 = .ok (.iconst 1, 1) := by decide +kernel
theorem dL_law_607 : decode cL_law 607 = .ok (.iadd, 1) := by decide +kernel
theorem dL_law_608 : decode cL_law 608 = .ok (.iaload, 1) := by decide +kernel
theorem dL_law_609 : decode cL_law 609 = .ok (.aload_n 0, 1) := by decide +kernel
theorem dL_law_610 : decode cL_law 610 = .ok (.iload 4, 2) := by decide +kernel
theorem dL_law_612 : decode cL_law 612 = .ok (.iconst 2, 1) := by decide +kernel
theorem dL_law_613 : decode cL_law 613 = .ok (.iadd, 1) := by decide +kernel
theorem dL_law_614 : decode cL_law 614 = .ok (.iaload, 1) := by decide +kernel
theorem dL_law_615 : decode cL_law 615 = .ok (.aload_n 0, 1) := by decide +kernel
theorem dL_law_616 : decode cL_law 616 = .ok (.iload 4, 2) := by decide +kernel
theorem dL_law_618 : decode cL_law 618 = .ok (.iconst 3, 1) := by decide +kernel
theorem dL_law_619 : decode cL_law 619 = .ok (.iadd, 1) := by decide +kernel
theorem dL_law_620 : decode cL_law 620 = .ok (.iaload, 1) := by decide +kernel
theorem dL_law_621 : decode cL_law 621 = .ok (.aload_n 0, 1) := by decide +kernel
theorem dL_law_622 : decode cL_law 622 = .ok (.iload 4, 2) := by decide +kernel
theorem dL_law_624 : decode cL_law 624 = .ok (.iconst 4, 1) := by decide +kernel
theorem dL_law_625 : decode cL_law 625 = .ok (.iadd, 1) := by decide +kernel
theorem dL_law_626 : decode cL_law 626 = .ok (.iaload, 1) := by decide +kernel
theorem dL_law_627 : decode cL_law 627 = .ok (.aload_n 0, 1) := by decide +kernel
theorem dL_law_628 : decode cL_law 628 = .ok (.iload 4, 2) := by decide +kernel
theorem dL_law_630 : decode cL_law 630 = .ok (.iconst 5, 1) := by decide +kernel
theorem dL_law_631 : decode cL_law 631 = .ok (.iadd, 1) := by decide +kernel
theorem dL_law_632 : decode cL_law 632 = .ok (.iaload, 1) := by decide +kernel
theorem dL_law_633 : decode cL_law 633 = .ok (.invokevirtual 77, 3) := by decide +kernel
theorem dL_law_636 : decode cL_law 636 = .ok (.istore 6, 2) := by decide +kernel
theorem dL_law_638 : decode cL_law 638 = .ok (.aload_n 2, 1) := by decide +kernel
theorem dL_law_639 : decode cL_law 639 = .ok (.invokevirtual 63, 3) := by decide +kernel
theorem dL_law_642 : decode cL_law 642 = .ok (.iload 5, 2) := by decide +kernel
theorem dL_law_644 : decode cL_law 644 = .ok (.if_icmp .eq 5, 3) := by decide +kernel
theorem dL_law_647 : decode cL_law 647 = .ok (.iconst 0, 1) := by decide +kernel
theorem dL_law_648 : decode cL_law 648 = .ok (.ireturn, 1) := by decide +kernel
theorem dL_law_649 : decode cL_law 649 = .ok (.iload 5, 2) := by decide +kernel
theorem dL_law_651 : decode cL_law 651 = .ok (.ifCond .ne 15, 3) := by decide +kernel
theorem dL_law_654 : decode cL_law 654 = .ok (.aload_n 3, 1) := by decide +kernel
theorem dL_law_655 : decode cL_law 655 = .ok (.iconst 0, 1) := by decide +kernel
theorem dL_law_656 : decode cL_law 656 = .ok (.laload, 1) := by decide +kernel
theorem dL_law_657 : decode cL_law 657 = .ok (.iload 6, 2) := by decide +kernel
theorem dL_law_659 : decode cL_law 659 = .ok (.i2l, 1) := by decide +kernel
theorem dL_law_660 : decode cL_law 660 = .ok (.lcmp, 1) := by decide +kernel
theorem dL_law_661 : decode cL_law 661 = .ok (.ifCond .eq 5, 3) := by decide +kernel
theorem dL_law_664 : decode cL_law 664 = .ok (.iconst 0, 1) := by decide +kernel
theorem dL_law_665 : decode cL_law 665 = .ok (.ireturn, 1) := by decide +kernel
theorem dL_law_666 : decode cL_law 666 = .ok (.goto 580, 3) := by decide +kernel
theorem dL_law_669 : decode cL_law 669 = .ok (.aload_n 1, 1) := by decide +kernel
theorem dL_law_670 : decode cL_law 670 = .ok (.aload_n 0, 1) := by decide +kernel
theorem dL_law_671 : decode cL_law 671 = .ok (.iload 4, 2) := by decide +kernel
theorem dL_law_673 : decode cL_law 673 = .ok (.iconst 1, 1) := by decide +kernel
theorem dL_law_674 : decode cL_law 674 = .ok (.iadd, 1) := by decide +kernel
theorem dL_law_675 : decode cL_law 675 = .ok (.iaload, 1) := by decide +kernel
theorem dL_law_676 : decode cL_law 676 = .ok (.aload_n 0, 1) := by decide +kernel
theorem dL_law_677 : decode cL_law 677 = .ok (.iload 4, 2) := by decide +kernel
theorem dL_law_679 : decode cL_law 679 = .ok (.iconst 2, 1) := by decide +kernel
theorem dL_law_680 : decode cL_law 680 = .ok (.iadd, 1) := by decide +kernel
theorem dL_law_681 : decode cL_law 681 = .ok (.iaload, 1) := by decide +kernel
theorem dL_law_682 : decode cL_law 682 = .ok (.invokevirtual 78, 3) := by decide +kernel
theorem dL_law_685 : decode cL_law 685 = .ok (.aload_n 2, 1) := by decide +kernel
theorem dL_law_686 : decode cL_law 686 = .ok (.aload_n 0, 1) := by decide +kernel
theorem dL_law_687 : decode cL_law 687 = .ok (.iload 4, 2) := by decide +kernel
theorem dL_law_689 : decode cL_law 689 = .ok (.iconst 1, 1) := by decide +kernel
theorem dL_law_690 : decode cL_law 690 = .ok (.iadd, 1) := by decide +kernel
theorem dL_law_691 : decode cL_law 691 = .ok (.iaload, 1) := by decide +kernel
theorem dL_law_692 : decode cL_law 692 = .ok (.aload_n 0, 1) := by decide +kernel
theorem dL_law_693 : decode cL_law 693 = .ok (.iload 4, 2) := by decide +kernel
theorem dL_law_695 : decode cL_law 695 = .ok (.iconst 2, 1) := by decide +kernel
theorem dL_law_696 : decode cL_law 696 = .ok (.iadd, 1) := by decide +kernel
theorem dL_law_697 : decode cL_law 697 = .ok (.iaload, 1) := by decide +kernel
theorem dL_law_698 : decode cL_law 698 = .ok (.invokevirtual 81, 3) := by decide +kernel
theorem dL_law_701 : decode cL_law 701 = .ok (.if_icmp .eq 545, 3) := by decide +kernel
theorem dL_law_704 : decode cL_law 704 = .ok (.iconst 0, 1) := by decide +kernel
theorem dL_law_705 : decode cL_law 705 = .ok (.ireturn, 1) := by decide +kernel
theorem dL_law_706 : decode cL_law 706 = .ok (.aload_n 1, 1) := by decide +kernel
theorem dL_law_707 : decode cL_law 707 = .ok (.aload_n 0, 1) := by decide +kernel
theorem dL_law_708 : decode cL_law 708 = .ok (.iload 4, 2) := by decide +kernel
theorem dL_law_710 : decode cL_law 710 = .ok (.iconst 1, 1) := by decide +kernel
theorem dL_law_711 : decode cL_law 711 = .ok (.iadd, 1) := by decide +kernel
theorem dL_law_712 : decode cL_law 712 = .ok (.iaload, 1) := by decide +kernel
theorem dL_law_713 : decode cL_law 713 = .ok (.aload_n 0, 1) := by decide +kernel
theorem dL_law_714 : decode cL_law 714 = .ok (.iload 4, 2) := by decide +kernel
theorem dL_law_716 : decode cL_law 716 = .ok (.iconst 2, 1) := by decide +kernel
theorem dL_law_717 : decode cL_law 717 = .ok (.iadd, 1) := by decide +kernel
theorem dL_law_718 : decode cL_law 718 = .ok (.iaload, 1) := by decide +kernel
theorem dL_law_719 : decode cL_law 719 = .ok (.aload_n 0, 1) := by decide +kernel
theorem dL_law_720 : decode cL_law 720 = .ok (.iload 4, 2) := by decide +kernel
theorem dL_law_722 : decode cL_law 722 = .ok (.iconst 3, 1) := by decide +kernel
theorem dL_law_723 : decode cL_law 723 = .ok (.iadd, 1) := by decide +kernel
theorem dL_law_724 : decode cL_law 724 = .ok (.iaload, 1) := by decide +kernel
theorem dL_law_725 : decode cL_law 725 = .ok (.aload_n 0, 1) := by decide +kernel
theorem dL_law_726 : decode cL_law 726 = .ok (.iload 4, 2) := by decide +kernel
theorem dL_law_728 : decode cL_law 728 = .ok (.iconst 4, 1) := by decide +kernel
theorem dL_law_729 : decode cL_law 729 = .ok (.iadd, 1) := by decide +kernel
theorem dL_law_730 : decode cL_law 730 = .ok (.iaload, 1) := by decide +kernel
theorem dL_law_731 : decode cL_law 731 = .ok (.aload_n 0, 1) := by decide +kernel
theorem dL_law_732 : decode cL_law 732 = .ok (.iload 4, 2) := by decide +kernel
theorem dL_law_734 : decode cL_law 734 = .ok (.iconst 5, 1) := by decide +kernel
theorem dL_law_735 : decode cL_law 735 = .ok (.iadd, 1) := by decide +kernel
theorem dL_law_736 : decode cL_law 736 = .ok (.iaload, 1) := by decide +kernel
theorem dL_law_737 : decode cL_law 737 = .ok (.aload_n 3, 1) := by decide +kernel
theorem dL_law_738 : decode cL_law 738 = .ok (.invokestatic 82, 3) := by decide +kernel
theorem dL_law_741 : decode cL_law 741 = .ok (.istore 5, 2) := by decide +kernel
theorem dL_law_743 : decode cL_law 743 = .ok (.aload_n 2, 1) := by decide +kernel
theorem dL_law_744 : decode cL_law 744 = .ok (.aload_n 0, 1) := by decide +kernel
theorem dL_law_745 : decode cL_law 745 = .ok (.iload 4, 2) := by decide +kernel
theorem dL_law_747 : decode cL_law 747 = .ok (.iconst 1, 1) := by decide +kernel
theorem dL_law_748 : decode cL_law 748 = .ok (.iadd, 1) := by decide +kernel
theorem dL_law_749 : decode cL_law 749 = .ok (.iaload, 1) := by decide +kernel
theorem dL_law_750 : decode cL_law 750 = .ok (.aload_n 0, 1) := by decide +kernel
theorem dL_law_751 : decode cL_law 751 = .ok (.iload 4, 2) := by decide +kernel
theorem dL_law_753 : decode cL_law 753 = .ok (.iconst 2, 1) := by decide +kernel
theorem dL_law_754 : decode cL_law 754 = .ok (.iadd, 1) := by decide +kernel
theorem dL_law_755 : decode cL_law 755 = .ok (.iaload, 1) := by decide +kernel
theorem dL_law_756 : decode cL_law 756 = .ok (.aload_n 0, 1) := by decide +kernel
theorem dL_law_757 : decode cL_law 757 = .ok (.iload 4, 2) := by decide +kernel
theorem dL_law_759 : decode cL_law 759 = .ok (.iconst 3, 1) := by decide +kernel
theorem dL_law_760 : decode cL_law 760 = .ok (.iadd, 1) := by decide +kernel
theorem dL_law_761 : decode cL_law 761 = .ok (.iaload, 1) := by decide +kernel
theorem dL_law_762 : decode cL_law 762 = .ok (.aload_n 0, 1) := by decide +kernel
theorem dL_law_763 : decode cL_law 763 = .ok (.iload 4, 2) := by decide +kernel
theorem dL_law_765 : decode cL_law 765 = .ok (.iconst 4, 1) := by decide +kernel
theorem dL_law_766 : decode cL_law 766 = .ok (.iadd, 1) := by decide +kernel
theorem dL_law_767 : decode cL_law 767 = .ok (.iaload, 1) := by decide +kernel
theorem dL_law_768 : decode cL_law 768 = .ok (.aload_n 0, 1) := by decide +kernel
theorem dL_law_769 : decode cL_law 769 = .ok (.iload 4, 2) := by decide +kernel
theorem dL_law_771 : decode cL_law 771 = .ok (.iconst 5, 1) := by decide +kernel
theorem dL_law_772 : decode cL_law 772 = .ok (.iadd, 1) := by decide +kernel
theorem dL_law_773 : decode cL_law 773 = .ok (.iaload, 1) := by decide +kernel
theorem dL_law_774 : decode cL_law 774 = .ok (.invokevirtual 84, 3) := by decide +kernel
theorem dL_law_777 : decode cL_law 777 = .ok (.istore 6, 2) := by decide +kernel
theorem dL_law_779 : decode cL_law 779 = .ok (.aload_n 2, 1) := by decide +kernel
theorem dL_law_780 : decode cL_law 780 = .ok (.invokevirtual 63, 3) := by decide +kernel
theorem dL_law_783 : decode cL_law 783 = .ok (.iload 5, 2) := by decide +kernel
theorem dL_law_785 : decode cL_law 785 = .ok (.if_icmp .eq 5, 3) := by decide +kernel
theorem dL_law_788 : decode cL_law 788 = .ok (.iconst 0, 1) := by decide +kernel
theorem dL_law_789 : decode cL_law 789 = .ok (.ireturn, 1) := by decide +kernel
theorem dL_law_790 : decode cL_law 790 = .ok (.iload 5, 2) := by decide +kernel
theorem dL_law_792 : decode cL_law 792 = .ok (.ifCond .ne 15, 3) := by decide +kernel
theorem dL_law_795 : decode cL_law 795 = .ok (.aload_n 3, 1) := by decide +kernel
theorem dL_law_796 : decode cL_law 796 = .ok (.iconst 0, 1) := by decide +kernel
theorem dL_law_797 : decode cL_law 797 = .ok (.laload, 1) := by decide +kernel
theorem dL_law_798 : decode cL_law 798 = .ok (.iload 6, 2) := by decide +kernel
theorem dL_law_800 : decode cL_law 800 = .ok (.i2l, 1) := by decide +kernel
theorem dL_law_801 : decode cL_law 801 = .ok (.lcmp, 1) := by decide +kernel
theorem dL_law_802 : decode cL_law 802 = .ok (.ifCond .eq 5, 3) := by decide +kernel
theorem dL_law_805 : decode cL_law 805 = .ok (.iconst 0, 1) := by decide +kernel
theorem dL_law_806 : decode cL_law 806 = .ok (.ireturn, 1) := by decide +kernel
theorem dL_law_807 : decode cL_law 807 = .ok (.goto 439, 3) := by decide +kernel
theorem dL_law_810 : decode cL_law 810 = .ok (.aload_n 1, 1) := by decide +kernel
theorem dL_law_811 : decode cL_law 811 = .ok (.aload_n 0, 1) := by decide +kernel
theorem dL_law_812 : decode cL_law 812 = .ok (.iload 4, 2) := by decide +kernel
theorem dL_law_814 : decode cL_law 814 = .ok (.iconst 1, 1) := by decide +kernel
theorem dL_law_815 : decode cL_law 815 = .ok (.iadd, 1) := by decide +kernel
theorem dL_law_816 : decode cL_law 816 = .ok (.iaload, 1) := by decide +kernel
theorem dL_law_817 : decode cL_law 817 = .ok (.aload_n 0, 1) := by decide +kernel
theorem dL_law_818 : decode cL_law 818 = .ok (.iload 4, 2) := by decide +kernel
theorem dL_law_820 : decode cL_law 820 = .ok (.iconst 2, 1) := by decide +kernel
theorem dL_law_821 : decode cL_law 821 = .ok (.iadd, 1) := by decide +kernel
theorem dL_law_822 : decode cL_law 822 = .ok (.iaload, 1) := by decide +kernel
theorem dL_law_823 : decode cL_law 823 = .ok (.aload_n 0, 1) := by decide +kernel
theorem dL_law_824 : decode cL_law 824 = .ok (.iload 4, 2) := by decide +kernel
theorem dL_law_826 : decode cL_law 826 = .ok (.iconst 3, 1) := by decide +kernel
theorem dL_law_827 : decode cL_law 827 = .ok (.iadd, 1) := by decide +kernel
theorem dL_law_828 : decode cL_law 828 = .ok (.iaload, 1) := by decide +kernel
theorem dL_law_829 : decode cL_law 829 = .ok (.aload_n 3, 1) := by decide +kernel
theorem dL_law_830 : decode cL_law 830 = .ok (.invokestatic 85, 3) := by decide +kernel
theorem dL_law_833 : decode cL_law 833 = .ok (.istore 5, 2) := by decide +kernel
theorem dL_law_835 : decode cL_law 835 = .ok (.aload_n 2, 1) := by decide +kernel
theorem dL_law_836 : decode cL_law 836 = .ok (.aload_n 0, 1) := by decide +kernel
theorem dL_law_837 : decode cL_law 837 = .ok (.iload 4, 2) := by decide +kernel
theorem dL_law_839 : decode cL_law 839 = .ok (.iconst 1, 1) := by decide +kernel
theorem dL_law_840 : decode cL_law 840 = .ok (.iadd, 1) := by decide +kernel
theorem dL_law_841 : decode cL_law 841 = .ok (.iaload, 1) := by decide +kernel
theorem dL_law_842 : decode cL_law 842 = .ok (.aload_n 0, 1) := by decide +kernel
theorem dL_law_843 : decode cL_law 843 = .ok (.iload 4, 2) := by decide +kernel
theorem dL_law_845 : decode cL_law 845 = .ok (.iconst 2, 1) := by decide +kernel
theorem dL_law_846 : decode cL_law 846 = .ok (.iadd, 1) := by decide +kernel
theorem dL_law_847 : decode cL_law 847 = .ok (.iaload, 1) := by decide +kernel
theorem dL_law_848 : decode cL_law 848 = .ok (.aload_n 0, 1) := by decide +kernel
theorem dL_law_849 : decode cL_law 849 = .ok (.iload 4, 2) := by decide +kernel
theorem dL_law_851 : decode cL_law 851 = .ok (.iconst 3, 1) := by decide +kernel
theorem dL_law_852 : decode cL_law 852 = .ok (.iadd, 1) := by decide +kernel
theorem dL_law_853 : decode cL_law 853 = .ok (.iaload, 1) := by decide +kernel
theorem dL_law_854 : decode cL_law 854 = .ok (.invokevirtual 88, 3) := by decide +kernel
theorem dL_law_857 : decode cL_law 857 = .ok (.istore 6, 2) := by decide +kernel
theorem dL_law_859 : decode cL_law 859 = .ok (.aload_n 2, 1) := by decide +kernel
theorem dL_law_860 : decode cL_law 860 = .ok (.invokevirtual 63, 3) := by decide +kernel
theorem dL_law_863 : decode cL_law 863 = .ok (.iload 5, 2) := by decide +kernel
theorem dL_law_865 : decode cL_law 865 = .ok (.if_icmp .eq 5, 3) := by decide +kernel
theorem dL_law_868 : decode cL_law 868 = .ok (.iconst 0, 1) := by decide +kernel
theorem dL_law_869 : decode cL_law 869 = .ok (.ireturn, 1) := by decide +kernel
theorem dL_law_870 : decode cL_law 870 = .ok (.iload 5, 2) := by decide +kernel
theorem dL_law_872 : decode cL_law 872 = .ok (.ifCond .ne 15, 3) := by decide +kernel
theorem dL_law_875 : decode cL_law 875 = .ok (.aload_n 3, 1) := by decide +kernel
theorem dL_law_876 : decode cL_law 876 = .ok (.iconst 0, 1) := by decide +kernel
theorem dL_law_877 : decode cL_law 877 = .ok (.laload, 1) := by decide +kernel
theorem dL_law_878 : decode cL_law 878 = .ok (.iload 6, 2) := by decide +kernel
theorem dL_law_880 : decode cL_law 880 = .ok (.i2l, 1) := by decide +kernel
theorem dL_law_881 : decode cL_law 881 = .ok (.lcmp, 1) := by decide +kernel
theorem dL_law_882 : decode cL_law 882 = .ok (.ifCond .eq 5, 3) := by decide +kernel
theorem dL_law_885 : decode cL_law 885 = .ok (.iconst 0, 1) := by decide +kernel
theorem dL_law_886 : decode cL_law 886 = .ok (.ireturn, 1) := by decide +kernel
theorem dL_law_887 : decode cL_law 887 = .ok (.goto 359, 3) := by decide +kernel
theorem dL_law_890 : decode cL_law 890 = .ok (.aload_n 1, 1) := by decide +kernel
theorem dL_law_891 : decode cL_law 891 = .ok (.aload_n 0, 1) := by decide +kernel
theorem dL_law_892 : decode cL_law 892 = .ok (.iload 4, 2) := by decide +kernel
theorem dL_law_894 : decode cL_law 894 = .ok (.iconst 1, 1) := by decide +kernel
theorem dL_law_895 : decode cL_law 895 = .ok (.iadd, 1) := by decide +kernel
theorem dL_law_896 : decode cL_law 896 = .ok (.iaload, 1) := by decide +kernel
theorem dL_law_897 : decode cL_law 897 = .ok (.aload_n 0, 1) := by decide +kernel
theorem dL_law_898 : decode cL_law 898 = .ok (.iload 4, 2) := by decide +kernel
theorem dL_law_900 : decode cL_law 900 = .ok (.iconst 2, 1) := by decide +kernel
theorem dL_law_901 : decode cL_law 901 = .ok (.iadd, 1) := by decide +kernel
theorem dL_law_902 : decode cL_law 902 = .ok (.iaload, 1) := by decide +kernel
theorem dL_law_903 : decode cL_law 903 = .ok (.aload_n 0, 1) := by decide +kernel
theorem dL_law_904 : decode cL_law 904 = .ok (.iload 4, 2) := by decide +kernel
theorem dL_law_906 : decode cL_law 906 = .ok (.iconst 3, 1) := by decide +kernel
theorem dL_law_907 : decode cL_law 907 = .ok (.iadd, 1) := by decide +kernel
theorem dL_law_908 : decode cL_law 908 = .ok (.iaload, 1) := by decide +kernel
theorem dL_law_909 : decode cL_law 909 = .ok (.aload_n 3, 1) := by decide +kernel
theorem dL_law_910 : decode cL_law 910 = .ok (.invokestatic 89, 3) := by decide +kernel
theorem dL_law_913 : decode cL_law 913 = .ok (.istore 5, 2) := by decide +kernel
theorem dL_law_915 : decode cL_law 915 = .ok (.aload_n 2, 1) := by decide +kernel
theorem dL_law_916 : decode cL_law 916 = .ok (.aload_n 0, 1) := by decide +kernel
theorem dL_law_917 : decode cL_law 917 = .ok (.iload 4, 2) := by decide +kernel
theorem dL_law_919 : decode cL_law 919 = .ok (.iconst 1, 1) := by decide +kernel
theorem dL_law_920 : decode cL_law 920 = .ok (.iadd, 1) := by decide +kernel
theorem dL_law_921 : decode cL_law 921 = .ok (.iaload, 1) := by decide +kernel
theorem dL_law_922 : decode cL_law 922 = .ok (.aload_n 0, 1) := by decide +kernel
theorem dL_law_923 : decode cL_law 923 = .ok (.iload 4, 2) := by decide +kernel
theorem dL_law_925 : decode cL_law 925 = .ok (.iconst 2, 1) := by decide +kernel
theorem dL_law_926 : decode cL_law 926 = .ok (.iadd, 1) := by decide +kernel
theorem dL_law_927 : decode cL_law 927 = .ok (.iaload, 1) := by decide +kernel
theorem dL_law_928 : decode cL_law 928 = .ok (.aload_n 0, 1) := by decide +kernel
theorem dL_law_929 : decode cL_law 929 = .ok (.iload 4, 2) := by decide +kernel
theorem dL_law_931 : decode cL_law 931 = .ok (.iconst 3, 1) := by decide +kernel
theorem dL_law_932 : decode cL_law 932 = .ok (.iadd, 1) := by decide +kernel
theorem dL_law_933 : decode cL_law 933 = .ok (.iaload, 1) := by decide +kernel
theorem dL_law_934 : decode cL_law 934 = .ok (.invokevirtual 91, 3) := by decide +kernel
theorem dL_law_937 : decode cL_law 937 = .ok (.istore 6, 2) := by decide +kernel
theorem dL_law_939 : decode cL_law 939 = .ok (.aload_n 2, 1) := by decide +kernel
theorem dL_law_940 : decode cL_law 940 = .ok (.invokevirtual 63, 3) := by decide +kernel
theorem dL_law_943 : decode cL_law 943 = .ok (.iload 5, 2) := by decide +kernel
theorem dL_law_945 : decode cL_law 945 = .ok (.if_icmp .eq 5, 3) := by decide +kernel
theorem dL_law_948 : decode cL_law 948 = .ok (.iconst 0, 1) := by decide +kernel
theorem dL_law_949 : decode cL_law 949 = .ok (.ireturn, 1) := by decide +kernel
theorem dL_law_950 : decode cL_law 950 = .ok (.iload 5, 2) := by decide +kernel
theorem dL_law_952 : decode cL_law 952 = .ok (.ifCond .ne 15, 3) := by decide +kernel
theorem dL_law_955 : decode cL_law 955 = .ok (.aload_n 3, 1) := by decide +kernel
theorem dL_law_956 : decode cL_law 956 = .ok (.iconst 0, 1) := by decide +kernel
theorem dL_law_957 : decode cL_law 957 = .ok (.laload, 1) := by decide +kernel
theorem dL_law_958 : decode cL_law 958 = .ok (.iload 6, 2) := by decide +kernel
theorem dL_law_960 : decode cL_law 960 = .ok (.i2l, 1) := by decide +kernel
theorem dL_law_961 : decode cL_law 961 = .ok (.lcmp, 1) := by decide +kernel
theorem dL_law_962 : decode cL_law 962 = .ok (.ifCond .eq 5, 3) := by decide +kernel
theorem dL_law_965 : decode cL_law 965 = .ok (.iconst 0, 1) := by decide +kernel
theorem dL_law_966 : decode cL_law 966 = .ok (.ireturn, 1) := by decide +kernel
theorem dL_law_967 : decode cL_law 967 = .ok (.goto 279, 3) := by decide +kernel
theorem dL_law_970 : decode cL_law 970 = .ok (.aload_n 1, 1) := by decide +kernel
theorem dL_law_971 : decode cL_law 971 = .ok (.aload_n 0, 1) := by decide +kernel
theorem dL_law_972 : decode cL_law 972 = .ok (.iload 4, 2) := by decide +kernel
theorem dL_law_974 : decode cL_law 974 = .ok (.iconst 1, 1) := by decide +kernel
theorem dL_law_975 : decode cL_law 975 = .ok (.iadd, 1) := by decide +kernel
theorem dL_law_976 : decode cL_law 976 = .ok (.iaload, 1) := by decide +kernel
theorem dL_law_977 : decode cL_law 977 = .ok (.aload_n 0, 1) := by decide +kernel
theorem dL_law_978 : decode cL_law 978 = .ok (.iload 4, 2) := by decide +kernel
theorem dL_law_980 : decode cL_law 980 = .ok (.iconst 2, 1) := by decide +kernel
theorem dL_law_981 : decode cL_law 981 = .ok (.iadd, 1) := by decide +kernel
theorem dL_law_982 : decode cL_law 982 = .ok (.iaload, 1) := by decide +kernel
theorem dL_law_983 : decode cL_law 983 = .ok (.aload_n 0, 1) := by decide +kernel
theorem dL_law_984 : decode cL_law 984 = .ok (.iload 4, 2) := by decide +kernel
theorem dL_law_986 : decode cL_law 986 = .ok (.iconst 3, 1) := by decide +kernel
theorem dL_law_987 : decode cL_law 987 = .ok (.iadd, 1) := by decide +kernel
theorem dL_law_988 : decode cL_law 988 = .ok (.iaload, 1) := by decide +kernel
theorem dL_law_989 : decode cL_law 989 = .ok (.aload_n 3, 1) := by decide +kernel
theorem dL_law_990 : decode cL_law 990 = .ok (.invokestatic 92, 3) := by decide +kernel
theorem dL_law_993 : decode cL_law 993 = .ok (.istore 5, 2) := by decide +kernel
theorem dL_law_995 : decode cL_law 995 = .ok (.aload_n 2, 1) := by decide +kernel
theorem dL_law_996 : decode cL_law 996 = .ok (.aload_n 0, 1) := by decide +kernel
theorem dL_law_997 : decode cL_law 997 = .ok (.iload 4, 2) := by decide +kernel
theorem dL_law_999 : decode cL_law 999 = .ok (.iconst 1, 1) := by decide +kernel
theorem dL_law_1000 : decode cL_law 1000 = .ok (.iadd, 1) := by decide +kernel
theorem dL_law_1001 : decode cL_law 1001 = .ok (.iaload, 1) := by decide +kernel
theorem dL_law_1002 : decode cL_law 1002 = .ok (.aload_n 0, 1) := by decide +kernel
theorem dL_law_1003 : decode cL_law 1003 = .ok (.iload 4, 2) := by decide +kernel
theorem dL_law_1005 : decode cL_law 1005 = .ok (.iconst 2, 1) := by decide +kernel
theorem dL_law_1006 : decode cL_law 1006 = .ok (.iadd, 1) := by decide +kernel
theorem dL_law_1007 : decode cL_law 1007 = .ok (.iaload, 1) := by decide +kernel
theorem dL_law_1008 : decode cL_law 1008 = .ok (.aload_n 0, 1) := by decide +kernel
theorem dL_law_1009 : decode cL_law 1009 = .ok (.iload 4, 2) := by decide +kernel
theorem dL_law_1011 : decode cL_law 1011 = .ok (.iconst 3, 1) := by decide +kernel
theorem dL_law_1012 : decode cL_law 1012 = .ok (.iadd, 1) := by decide +kernel
theorem dL_law_1013 : decode cL_law 1013 = .ok (.iaload, 1) := by decide +kernel
theorem dL_law_1014 : decode cL_law 1014 = .ok (.invokevirtual 94, 3) := by decide +kernel
theorem dL_law_1017 : decode cL_law 1017 = .ok (.istore 6, 2) := by decide +kernel
theorem dL_law_1019 : decode cL_law 1019 = .ok (.aload_n 2, 1) := by decide +kernel
theorem dL_law_1020 : decode cL_law 1020 = .ok (.invokevirtual 63, 3) := by decide +kernel
theorem dL_law_1023 : decode cL_law 1023 = .ok (.iload 5, 2) := by decide +kernel
theorem dL_law_1025 : decode cL_law 1025 = .ok (.if_icmp .eq 5, 3) := by decide +kernel
theorem dL_law_1028 : decode cL_law 1028 = .ok (.iconst 0, 1) := by decide +kernel
theorem dL_law_1029 : decode cL_law 1029 = .ok (.ireturn, 1) := by decide +kernel
theorem dL_law_1030 : decode cL_law 1030 = .ok (.iload 5, 2) := by decide +kernel
theorem dL_law_1032 : decode cL_law 1032 = .ok (.ifCond .ne 15, 3) := by decide +kernel
theorem dL_law_1035 : decode cL_law 1035 = .ok (.aload_n 3, 1) := by decide +kernel
theorem dL_law_1036 : decode cL_law 1036 = .ok (.iconst 0, 1) := by decide +kernel
theorem dL_law_1037 : decode cL_law 1037 = .ok (.laload, 1) := by decide +kernel
theorem dL_law_1038 : decode cL_law 1038 = .ok (.iload 6, 2) := by decide +kernel
theorem dL_law_1040 : decode cL_law 1040 = .ok (.i2l, 1) := by decide +kernel
theorem dL_law_1041 : decode cL_law 1041 = .ok (.lcmp, 1) := by decide +kernel
theorem dL_law_1042 : decode cL_law 1042 = .ok (.ifCond .eq 5, 3) := by decide +kernel
theorem dL_law_1045 : decode cL_law 1045 = .ok (.iconst 0, 1) := by decide +kernel
theorem dL_law_1046 : decode cL_law 1046 = .ok (.ireturn, 1) := by decide +kernel
theorem dL_law_1047 : decode cL_law 1047 = .ok (.goto 199, 3) := by decide +kernel
theorem dL_law_1050 : decode cL_law 1050 = .ok (.aload_n 1, 1) := by decide +kernel
theorem dL_law_1051 : decode cL_law 1051 = .ok (.aload_n 0, 1) := by decide +kernel
theorem dL_law_1052 : decode cL_law 1052 = .ok (.iload 4, 2) := by decide +kernel
theorem dL_law_1054 : decode cL_law 1054 = .ok (.iconst 1, 1) := by decide +kernel
theorem dL_law_1055 : decode cL_law 1055 = .ok (.iadd, 1) := by decide +kernel
theorem dL_law_1056 : decode cL_law 1056 = .ok (.iaload, 1) := by decide +kernel
theorem dL_law_1057 : decode cL_law 1057 = .ok (.aload_n 0, 1) := by decide +kernel
theorem dL_law_1058 : decode cL_law 1058 = .ok (.iload 4, 2) := by decide +kernel
theorem dL_law_1060 : decode cL_law 1060 = .ok (.iconst 2, 1) := by decide +kernel
theorem dL_law_1061 : decode cL_law 1061 = .ok (.iadd, 1) := by decide +kernel
theorem dL_law_1062 : decode cL_law 1062 = .ok (.iaload, 1) := by decide +kernel
theorem dL_law_1063 : decode cL_law 1063 = .ok (.aload_n 0, 1) := by decide +kernel
theorem dL_law_1064 : decode cL_law 1064 = .ok (.iload 4, 2) := by decide +kernel
theorem dL_law_1066 : decode cL_law 1066 = .ok (.iconst 3, 1) := by decide +kernel
theorem dL_law_1067 : decode cL_law 1067 = .ok (.iadd, 1) := by decide +kernel
theorem dL_law_1068 : decode cL_law 1068 = .ok (.iaload, 1) := by decide +kernel
theorem dL_law_1069 : decode cL_law 1069 = .ok (.aload_n 0, 1) := by decide +kernel
theorem dL_law_1070 : decode cL_law 1070 = .ok (.iload 4, 2) := by decide +kernel
theorem dL_law_1072 : decode cL_law 1072 = .ok (.iconst 4, 1) := by decide +kernel
theorem dL_law_1073 : decode cL_law 1073 = .ok (.iadd, 1) := by decide +kernel
theorem dL_law_1074 : decode cL_law 1074 = .ok (.iaload, 1) := by decide +kernel
theorem dL_law_1075 : decode cL_law 1075 = .ok (.aload_n 0, 1) := by decide +kernel
theorem dL_law_1076 : decode cL_law 1076 = .ok (.iload 4, 2) := by decide +kernel
theorem dL_law_1078 : decode cL_law 1078 = .ok (.iconst 5, 1) := by decide +kernel
theorem dL_law_1079 : decode cL_law 1079 = .ok (.iadd, 1) := by decide +kernel
theorem dL_law_1080 : decode cL_law 1080 = .ok (.iaload, 1) := by decide +kernel
theorem dL_law_1081 : decode cL_law 1081 = .ok (.invokevirtual 95, 3) := by decide +kernel
theorem dL_law_1084 : decode cL_law 1084 = .ok (.aload_n 2, 1) := by decide +kernel
theorem dL_law_1085 : decode cL_law 1085 = .ok (.aload_n 0, 1) := by decide +kernel
theorem dL_law_1086 : decode cL_law 1086 = .ok (.iload 4, 2) := by decide +kernel
theorem dL_law_1088 : decode cL_law 1088 = .ok (.iconst 1, 1) := by decide +kernel
theorem dL_law_1089 : decode cL_law 1089 = .ok (.iadd, 1) := by decide +kernel
theorem dL_law_1090 : decode cL_law 1090 = .ok (.iaload, 1) := by decide +kernel
theorem dL_law_1091 : decode cL_law 1091 = .ok (.aload_n 0, 1) := by decide +kernel
theorem dL_law_1092 : decode cL_law 1092 = .ok (.iload 4, 2) := by decide +kernel
theorem dL_law_1094 : decode cL_law 1094 = .ok (.iconst 2, 1) := by decide +kernel
theorem dL_law_1095 : decode cL_law 1095 = .ok (.iadd, 1) := by decide +kernel
theorem dL_law_1096 : decode cL_law 1096 = .ok (.iaload, 1) := by decide +kernel
theorem dL_law_1097 : decode cL_law 1097 = .ok (.aload_n 0, 1) := by decide +kernel
theorem dL_law_1098 : decode cL_law 1098 = .ok (.iload 4, 2) := by decide +kernel
theorem dL_law_1100 : decode cL_law 1100 = .ok (.iconst 3, 1) := by decide +kernel
theorem dL_law_1101 : decode cL_law 1101 = .ok (.iadd, 1) := by decide +kernel
theorem dL_law_1102 : decode cL_law 1102 = .ok (.iaload, 1) := by decide +kernel
theorem dL_law_1103 : decode cL_law 1103 = .ok (.aload_n 0, 1) := by decide +kernel
theorem dL_law_1104 : decode cL_law 1104 = .ok (.iload 4, 2) := by decide +kernel
theorem dL_law_1106 : decode cL_law 1106 = .ok (.iconst 4, 1) := by decide +kernel
theorem dL_law_1107 : decode cL_law 1107 = .ok (.iadd, 1) := by decide +kernel
theorem dL_law_1108 : decode cL_law 1108 = .ok (.iaload, 1) := by decide +kernel
theorem dL_law_1109 : decode cL_law 1109 = .ok (.aload_n 0, 1) := by decide +kernel
theorem dL_law_1110 : decode cL_law 1110 = .ok (.iload 4, 2) := by decide +kernel
theorem dL_law_1112 : decode cL_law 1112 = .ok (.iconst 5, 1) := by decide +kernel
theorem dL_law_1113 : decode cL_law 1113 = .ok (.iadd, 1) := by decide +kernel
theorem dL_law_1114 : decode cL_law 1114 = .ok (.iaload, 1) := by decide +kernel
theorem dL_law_1115 : decode cL_law 1115 = .ok (.invokevirtual 98, 3) := by decide +kernel
theorem dL_law_1118 : decode cL_law 1118 = .ok (.if_icmp .eq 128, 3) := by decide +kernel
theorem dL_law_1121 : decode cL_law 1121 = .ok (.iconst 0, 1) := by decide +kernel
theorem dL_law_1122 : decode cL_law 1122 = .ok (.ireturn, 1) := by decide +kernel
theorem dL_law_1123 : decode cL_law 1123 = .ok (.aload_n 1, 1) := by decide +kernel
theorem dL_law_1124 : decode cL_law 1124 = .ok (.aload_n 0, 1) := by decide +kernel
theorem dL_law_1125 : decode cL_law 1125 = .ok (.iload 4, 2) := by decide +kernel
theorem dL_law_1127 : decode cL_law 1127 = .ok (.iconst 1, 1) := by decide +kernel
theorem dL_law_1128 : decode cL_law 1128 = .ok (.iadd, 1) := by decide +kernel
theorem dL_law_1129 : decode cL_law 1129 = .ok (.iaload, 1) := by decide +kernel
theorem dL_law_1130 : decode cL_law 1130 = .ok (.invokevirtual 99, 3) := by decide +kernel
theorem dL_law_1133 : decode cL_law 1133 = .ok (.aload_n 2, 1) := by decide +kernel
theorem dL_law_1134 : decode cL_law 1134 = .ok (.aload_n 0, 1) := by decide +kernel
theorem dL_law_1135 : decode cL_law 1135 = .ok (.iload 4, 2) := by decide +kernel
theorem dL_law_1137 : decode cL_law 1137 = .ok (.iconst 1, 1) := by decide +kernel
theorem dL_law_1138 : decode cL_law 1138 = .ok (.iadd, 1) := by decide +kernel
theorem dL_law_1139 : decode cL_law 1139 = .ok (.iaload, 1) := by decide +kernel
theorem dL_law_1140 : decode cL_law 1140 = .ok (.invokevirtual 102, 3) := by decide +kernel
theorem dL_law_1143 : decode cL_law 1143 = .ok (.if_icmp .eq 103, 3) := by decide +kernel
theorem dL_law_1146 : decode cL_law 1146 = .ok (.iconst 0, 1) := by decide +kernel
theorem dL_law_1147 : decode cL_law 1147 = .ok (.ireturn, 1) := by decide +kernel
theorem dL_law_1148 : decode cL_law 1148 = .ok (.aload_n 1, 1) := by decide +kernel
theorem dL_law_1149 : decode cL_law 1149 = .ok (.aload_n 0, 1) := by decide +kernel
theorem dL_law_1150 : decode cL_law 1150 = .ok (.iload 4, 2) := by decide +kernel
theorem dL_law_1152 : decode cL_law 1152 = .ok (.iconst 1, 1) := by decide +kernel
theorem dL_law_1153 : decode cL_law 1153 = .ok (.iadd, 1) := by decide +kernel
theorem dL_law_1154 : decode cL_law 1154 = .ok (.iaload, 1) := by decide +kernel
theorem dL_law_1155 : decode cL_law 1155 = .ok (.aload_n 0, 1) := by decide +kernel
theorem dL_law_1156 : decode cL_law 1156 = .ok (.iload 4, 2) := by decide +kernel
theorem dL_law_1158 : decode cL_law 1158 = .ok (.iconst 2, 1) := by decide +kernel
theorem dL_law_1159 : decode cL_law 1159 = .ok (.iadd, 1) := by decide +kernel
theorem dL_law_1160 : decode cL_law 1160 = .ok (.iaload, 1) := by decide +kernel
theorem dL_law_1161 : decode cL_law 1161 = .ok (.aload_n 0, 1) := by decide +kernel
theorem dL_law_1162 : decode cL_law 1162 = .ok (.iload 4, 2) := by decide +kernel
theorem dL_law_1164 : decode cL_law 1164 = .ok (.iconst 3, 1) := by decide +kernel
theorem dL_law_1165 : decode cL_law 1165 = .ok (.iadd, 1) := by decide +kernel
theorem dL_law_1166 : decode cL_law 1166 = .ok (.iaload, 1) := by decide +kernel
theorem dL_law_1167 : decode cL_law 1167 = .ok (.aload_n 0, 1) := by decide +kernel
theorem dL_law_1168 : decode cL_law 1168 = .ok (.iload 4, 2) := by decide +kernel
theorem dL_law_1170 : decode cL_law 1170 = .ok (.iconst 4, 1) := by decide +kernel
theorem dL_law_1171 : decode cL_law 1171 = .ok (.iadd, 1) := by decide +kernel
theorem dL_law_1172 : decode cL_law 1172 = .ok (.iaload, 1) := by decide +kernel
theorem dL_law_1173 : decode cL_law 1173 = .ok (.aload_n 0, 1) := by decide +kernel
theorem dL_law_1174 : decode cL_law 1174 = .ok (.iload 4, 2) := by decide +kernel
theorem dL_law_1176 : decode cL_law 1176 = .ok (.iconst 5, 1) := by decide +kernel
theorem dL_law_1177 : decode cL_law 1177 = .ok (.iadd, 1) := by decide +kernel
theorem dL_law_1178 : decode cL_law 1178 = .ok (.iaload, 1) := by decide +kernel
theorem dL_law_1179 : decode cL_law 1179 = .ok (.invokevirtual 103, 3) := by decide +kernel
theorem dL_law_1182 : decode cL_law 1182 = .ok (.aload_n 2, 1) := by decide +kernel
theorem dL_law_1183 : decode cL_law 1183 = .ok (.aload_n 0, 1) := by decide +kernel
theorem dL_law_1184 : decode cL_law 1184 = .ok (.iload 4, 2) := by decide +kernel
theorem dL_law_1186 : decode cL_law 1186 = .ok (.iconst 1, 1) := by decide +kernel
theorem dL_law_1187 : decode cL_law 1187 = .ok (.iadd, 1) := by decide +kernel
theorem dL_law_1188 : decode cL_law 1188 = .ok (.iaload, 1) := by decide +kernel
theorem dL_law_1189 : decode cL_law 1189 = .ok (.aload_n 0, 1) := by decide +kernel
theorem dL_law_1190 : decode cL_law 1190 = .ok (.iload 4, 2) := by decide +kernel
theorem dL_law_1192 : decode cL_law 1192 = .ok (.iconst 2, 1) := by decide +kernel
theorem dL_law_1193 : decode cL_law 1193 = .ok (.iadd, 1) := by decide +kernel
theorem dL_law_1194 : decode cL_law 1194 = .ok (.iaload, 1) := by decide +kernel
theorem dL_law_1195 : decode cL_law 1195 = .ok (.aload_n 0, 1) := by decide +kernel
theorem dL_law_1196 : decode cL_law 1196 = .ok (.iload 4, 2) := by decide +kernel
theorem dL_law_1198 : decode cL_law 1198 = .ok (.iconst 3, 1) := by decide +kernel
theorem dL_law_1199 : decode cL_law 1199 = .ok (.iadd, 1) := by decide +kernel
theorem dL_law_1200 : decode cL_law 1200 = .ok (.iaload, 1) := by decide +kernel
theorem dL_law_1201 : decode cL_law 1201 = .ok (.aload_n 0, 1) := by decide +kernel
theorem dL_law_1202 : decode cL_law 1202 = .ok (.iload 4, 2) := by decide +kernel
theorem dL_law_1204 : decode cL_law 1204 = .ok (.iconst 4, 1) := by decide +kernel
theorem dL_law_1205 : decode cL_law 1205 = .ok (.iadd, 1) := by decide +kernel
theorem dL_law_1206 : decode cL_law 1206 = .ok (.iaload, 1) := by decide +kernel
theorem dL_law_1207 : decode cL_law 1207 = .ok (.aload_n 0, 1) := by decide +kernel
theorem dL_law_1208 : decode cL_law 1208 = .ok (.iload 4, 2) := by decide +kernel
theorem dL_law_1210 : decode cL_law 1210 = .ok (.iconst 5, 1) := by decide +kernel
theorem dL_law_1211 : decode cL_law 1211 = .ok (.iadd, 1) := by decide +kernel
theorem dL_law_1212 : decode cL_law 1212 = .ok (.iaload, 1) := by decide +kernel
theorem dL_law_1213 : decode cL_law 1213 = .ok (.invokevirtual 106, 3) := by decide +kernel
theorem dL_law_1216 : decode cL_law 1216 = .ok (.if_icmp .eq 30, 3) := by decide +kernel
theorem dL_law_1219 : decode cL_law 1219 = .ok (.iconst 0, 1) := by decide +kernel
theorem dL_law_1220 : decode cL_law 1220 = .ok (.ireturn, 1) := by decide +kernel
theorem dL_law_1221 : decode cL_law 1221 = .ok (.aload_n 1, 1) := by decide +kernel
theorem dL_law_1222 : decode cL_law 1222 = .ok (.aload_n 0, 1) := by decide +kernel
theorem dL_law_1223 : decode cL_law 1223 = .ok (.iload 4, 2) := by decide +kernel
theorem dL_law_1225 : decode cL_law 1225 = .ok (.iconst 1, 1) := by decide +kernel
theorem dL_law_1226 : decode cL_law 1226 = .ok (.iadd, 1) := by decide +kernel
theorem dL_law_1227 : decode cL_law 1227 = .ok (.iaload, 1) := by decide +kernel
theorem dL_law_1228 : decode cL_law 1228 = .ok (.invokevirtual 107, 3) := by decide +kernel
theorem dL_law_1231 : decode cL_law 1231 = .ok (.aload_n 2, 1) := by decide +kernel
theorem dL_law_1232 : decode cL_law 1232 = .ok (.aload_n 0, 1) := by decide +kernel
theorem dL_law_1233 : decode cL_law 1233 = .ok (.iload 4, 2) := by decide +kernel
theorem dL_law_1235 : decode cL_law 1235 = .ok (.iconst 1, 1) := by decide +kernel
theorem dL_law_1236 : decode cL_law 1236 = .ok (.iadd, 1) := by decide +kernel
theorem dL_law_1237 : decode cL_law 1237 = .ok (.iaload, 1) := by decide +kernel
theorem dL_law_1238 : decode cL_law 1238 = .ok (.invokevirtual 110, 3) := by decide +kernel
theorem dL_law_1241 : decode cL_law 1241 = .ok (.if_icmp .eq 5, 3) := by decide +kernel
theorem dL_law_1244 : decode cL_law 1244 = .ok (.iconst 0, 1) := by decide +kernel
theorem dL_law_1245 : decode cL_law 1245 = .ok (.ireturn, 1) := by decide +kernel
theorem dL_law_1246 : decode cL_law 1246 = .ok (.iinc 4 6, 3) := by decide +kernel
theorem dL_law_1249 : decode cL_law 1249 = .ok (.goto (-1226), 3) := by decide +kernel
theorem dL_law_1252 : decode cL_law 1252 = .ok (.iconst 1, 1) := by decide +kernel
theorem dL_law_1253 : decode cL_law 1253 = .ok (.ireturn, 1) := by decide +kernel
theorem dJ13_bitCount_95d88_0 : decode cJ13_bitCount_95d88 0 = .ok (.lload_n 0, 1) := by decide +kernel
theorem dJ13_bitCount_95d88_1 : decode cJ13_bitCount_95d88 1 = .ok (.lload_n 0, 1) := by decide +kernel
theorem dJ13_bitCount_95d88_2 : decode cJ13_bitCount_95d88 2 = .ok (.iconst 1, 1) := by decide +kernel
theorem dJ13_bitCount_95d88_3 : decode cJ13_bitCount_95d88 3 = .ok (.lushr, 1) := by decide +kernel
theorem dJ13_bitCount_95d88_4 : decode cJ13_bitCount_95d88 4 = .ok (.ldc2_w 314, 3) := by decide +kernel
theorem dJ13_bitCount_95d88_7 : decode cJ13_bitCount_95d88 7 = .ok (.land, 1) := by decide +kernel
theorem dJ13_bitCount_95d88_8 : decode cJ13_bitCount_95d88 8 = .ok (.lsub, 1) := by decide +kernel
theorem dJ13_bitCount_95d88_9 : decode cJ13_bitCount_95d88 9 = .ok (.lstore_n 0, 1) := by decide +kernel
theorem dJ13_bitCount_95d88_10 : decode cJ13_bitCount_95d88 10 = .ok (.lload_n 0, 1) := by decide +kernel
theorem dJ13_bitCount_95d88_11 : decode cJ13_bitCount_95d88 11 = .ok (.ldc2_w 316, 3) := by decide +kernel
theorem dJ13_bitCount_95d88_14 : decode cJ13_bitCount_95d88 14 = .ok (.land, 1) := by decide +kernel
theorem dJ13_bitCount_95d88_15 : decode cJ13_bitCount_95d88 15 = .ok (.lload_n 0, 1) := by decide +kernel
theorem dJ13_bitCount_95d88_16 : decode cJ13_bitCount_95d88 16 = .ok (.iconst 2, 1) := by decide +kernel
theorem dJ13_bitCount_95d88_17 : decode cJ13_bitCount_95d88 17 = .ok (.lushr, 1) := by decide +kernel
theorem dJ13_bitCount_95d88_18 : decode cJ13_bitCount_95d88 18 = .ok (.ldc2_w 316, 3) := by decide +kernel
theorem dJ13_bitCount_95d88_21 : decode cJ13_bitCount_95d88 21 = .ok (.land, 1) := by decide +kernel
theorem dJ13_bitCount_95d88_22 : decode cJ13_bitCount_95d88 22 = .ok (.ladd, 1) := by decide +kernel
theorem dJ13_bitCount_95d88_23 : decode cJ13_bitCount_95d88 23 = .ok (.lstore_n 0, 1) := by decide +kernel
theorem dJ13_bitCount_95d88_24 : decode cJ13_bitCount_95d88 24 = .ok (.lload_n 0, 1) := by decide +kernel
theorem dJ13_bitCount_95d88_25 : decode cJ13_bitCount_95d88 25 = .ok (.lload_n 0, 1) := by decide +kernel
theorem dJ13_bitCount_95d88_26 : decode cJ13_bitCount_95d88 26 = .ok (.iconst 4, 1) := by decide +kernel
theorem dJ13_bitCount_95d88_27 : decode cJ13_bitCount_95d88 27 = .ok (.lushr, 1) := by decide +kernel
theorem dJ13_bitCount_95d88_28 : decode cJ13_bitCount_95d88 28 = .ok (.ladd, 1) := by decide +kernel
theorem dJ13_bitCount_95d88_29 : decode cJ13_bitCount_95d88 29 = .ok (.ldc2_w 318, 3) := by decide +kernel
theorem dJ13_bitCount_95d88_32 : decode cJ13_bitCount_95d88 32 = .ok (.land, 1) := by decide +kernel
theorem dJ13_bitCount_95d88_33 : decode cJ13_bitCount_95d88 33 = .ok (.lstore_n 0, 1) := by decide +kernel
theorem dJ13_bitCount_95d88_34 : decode cJ13_bitCount_95d88 34 = .ok (.lload_n 0, 1) := by decide +kernel
theorem dJ13_bitCount_95d88_35 : decode cJ13_bitCount_95d88 35 = .ok (.lload_n 0, 1) := by decide +kernel
theorem dJ13_bitCount_95d88_36 : decode cJ13_bitCount_95d88 36 = .ok (.bipush 8, 2) := by decide +kernel
theorem dJ13_bitCount_95d88_38 : decode cJ13_bitCount_95d88 38 = .ok (.lushr, 1) := by decide +kernel
theorem dJ13_bitCount_95d88_39 : decode cJ13_bitCount_95d88 39 = .ok (.ladd, 1) := by decide +kernel
theorem dJ13_bitCount_95d88_40 : decode cJ13_bitCount_95d88 40 = .ok (.lstore_n 0, 1) := by decide +kernel
theorem dJ13_bitCount_95d88_41 : decode cJ13_bitCount_95d88 41 = .ok (.lload_n 0, 1) := by decide +kernel
theorem dJ13_bitCount_95d88_42 : decode cJ13_bitCount_95d88 42 = .ok (.lload_n 0, 1) := by decide +kernel
theorem dJ13_bitCount_95d88_43 : decode cJ13_bitCount_95d88 43 = .ok (.bipush 16, 2) := by decide +kernel
theorem dJ13_bitCount_95d88_45 : decode cJ13_bitCount_95d88 45 = .ok (.lushr, 1) := by decide +kernel
theorem dJ13_bitCount_95d88_46 : decode cJ13_bitCount_95d88 46 = .ok (.ladd, 1) := by decide +kernel
theorem dJ13_bitCount_95d88_47 : decode cJ13_bitCount_95d88 47 = .ok (.lstore_n 0, 1) := by decide +kernel
theorem dJ13_bitCount_95d88_48 : decode cJ13_bitCount_95d88 48 = .ok (.lload_n 0, 1) := by decide +kernel
theorem dJ13_bitCount_95d88_49 : decode cJ13_bitCount_95d88 49 = .ok (.lload_n 0, 1) := by decide +kernel
theorem dJ13_bitCount_95d88_50 : decode cJ13_bitCount_95d88 50 = .ok (.bipush 32, 2) := by decide +kernel
theorem dJ13_bitCount_95d88_52 : decode cJ13_bitCount_95d88 52 = .ok (.lushr, 1) := by decide +kernel
theorem dJ13_bitCount_95d88_53 : decode cJ13_bitCount_95d88 53 = .ok (.ladd, 1) := by decide +kernel
theorem dJ13_bitCount_95d88_54 : decode cJ13_bitCount_95d88 54 = .ok (.lstore_n 0, 1) := by decide +kernel
theorem dJ13_bitCount_95d88_55 : decode cJ13_bitCount_95d88 55 = .ok (.lload_n 0, 1) := by decide +kernel
theorem dJ13_bitCount_95d88_56 : decode cJ13_bitCount_95d88 56 = .ok (.l2i, 1) := by decide +kernel
theorem dJ13_bitCount_95d88_57 : decode cJ13_bitCount_95d88 57 = .ok (.bipush 127, 2) := by decide +kernel
theorem dJ13_bitCount_95d88_59 : decode cJ13_bitCount_95d88 59 = .ok (.iand, 1) := by decide +kernel
theorem dJ13_bitCount_95d88_60 : decode cJ13_bitCount_95d88 60 = .ok (.ireturn, 1) := by decide +kernel
theorem dJ9_max_7cf53_0 : decode cJ9_max_7cf53 0 = .ok (.iload_n 0, 1) := by decide +kernel
theorem dJ9_max_7cf53_1 : decode cJ9_max_7cf53 1 = .ok (.iload_n 1, 1) := by decide +kernel
theorem dJ9_max_7cf53_2 : decode cJ9_max_7cf53 2 = .ok (.if_icmp .lt 7, 3) := by decide +kernel
theorem dJ9_max_7cf53_5 : decode cJ9_max_7cf53 5 = .ok (.iload_n 0, 1) := by decide +kernel
theorem dJ9_max_7cf53_6 : decode cJ9_max_7cf53 6 = .ok (.goto 4, 3) := by decide +kernel
theorem dJ9_max_7cf53_9 : decode cJ9_max_7cf53 9 = .ok (.iload_n 1, 1) := by decide +kernel
theorem dJ9_max_7cf53_10 : decode cJ9_max_7cf53 10 = .ok (.ireturn, 1) := by decide +kernel
theorem dJ9_min_7cf53_0 : decode cJ9_min_7cf53 0 = .ok (.iload_n 0, 1) := by decide +kernel
theorem dJ9_min_7cf53_1 : decode cJ9_min_7cf53 1 = .ok (.iload_n 1, 1) := by decide +kernel
theorem dJ9_min_7cf53_2 : decode cJ9_min_7cf53 2 = .ok (.if_icmp .gt 7, 3) := by decide +kernel
theorem dJ9_min_7cf53_5 : decode cJ9_min_7cf53 5 = .ok (.iload_n 0, 1) := by decide +kernel
theorem dJ9_min_7cf53_6 : decode cJ9_min_7cf53 6 = .ok (.goto 4, 3) := by decide +kernel
theorem dJ9_min_7cf53_9 : decode cJ9_min_7cf53 9 = .ok (.iload_n 1, 1) := by decide +kernel
theorem dJ9_min_7cf53_10 : decode cJ9_min_7cf53 10 = .ok (.ireturn, 1) := by decide +kernel
theorem dJ7_fill_53178_0 : decode cJ7_fill_53178 0 = .ok (.iconst 0, 1) := by decide +kernel
theorem dJ7_fill_53178_1 : decode cJ7_fill_53178 1 = .ok (.istore_n 2, 1) := by decide +kernel
theorem dJ7_fill_53178_2 : decode cJ7_fill_53178 2 = .ok (.aload_n 0, 1) := by decide +kernel
theorem dJ7_fill_53178_3 : decode cJ7_fill_53178 3 = .ok (.arraylength, 1) := by decide +kernel
theorem dJ7_fill_53178_4 : decode cJ7_fill_53178 4 = .ok (.istore_n 3, 1) := by decide +kernel
theorem dJ7_fill_53178_5 : decode cJ7_fill_53178 5 = .ok (.iload_n 2, 1) := by decide +kernel
theorem dJ7_fill_53178_6 : decode cJ7_fill_53178 6 = .ok (.iload_n 3, 1) := by decide +kernel
theorem dJ7_fill_53178_7 : decode cJ7_fill_53178 7 = .ok (.if_icmp .ge 13, 3) := by decide +kernel
theorem dJ7_fill_53178_10 : decode cJ7_fill_53178 10 = .ok (.aload_n 0, 1) := by decide +kernel
theorem dJ7_fill_53178_11 : decode cJ7_fill_53178 11 = .ok (.iload_n 2, 1) := by decide +kernel
theorem dJ7_fill_53178_12 : decode cJ7_fill_53178 12 = .ok (.iload_n 1, 1) := by decide +kernel
theorem dJ7_fill_53178_13 : decode cJ7_fill_53178 13 = .ok (.iastore, 1) := by decide +kernel
theorem dJ7_fill_53178_14 : decode cJ7_fill_53178 14 = .ok (.iinc 2 1, 3) := by decide +kernel
theorem dJ7_fill_53178_17 : decode cJ7_fill_53178 17 = .ok (.goto (-12), 3) := by decide +kernel
theorem dJ7_fill_53178_20 : decode cJ7_fill_53178 20 = .ok (.return_, 1) := by decide +kernel
theorem dJ7_fill_031fb_0 : decode cJ7_fill_031fb 0 = .ok (.iconst 0, 1) := by decide +kernel
theorem dJ7_fill_031fb_1 : decode cJ7_fill_031fb 1 = .ok (.istore_n 2, 1) := by decide +kernel
theorem dJ7_fill_031fb_2 : decode cJ7_fill_031fb 2 = .ok (.aload_n 0, 1) := by decide +kernel
theorem dJ7_fill_031fb_3 : decode cJ7_fill_031fb 3 = .ok (.arraylength, 1) := by decide +kernel
theorem dJ7_fill_031fb_4 : decode cJ7_fill_031fb 4 = .ok (.istore_n 3, 1) := by decide +kernel
theorem dJ7_fill_031fb_5 : decode cJ7_fill_031fb 5 = .ok (.iload_n 2, 1) := by decide +kernel
theorem dJ7_fill_031fb_6 : decode cJ7_fill_031fb 6 = .ok (.iload_n 3, 1) := by decide +kernel
theorem dJ7_fill_031fb_7 : decode cJ7_fill_031fb 7 = .ok (.if_icmp .ge 13, 3) := by decide +kernel
theorem dJ7_fill_031fb_10 : decode cJ7_fill_031fb 10 = .ok (.aload_n 0, 1) := by decide +kernel
theorem dJ7_fill_031fb_11 : decode cJ7_fill_031fb 11 = .ok (.iload_n 2, 1) := by decide +kernel
theorem dJ7_fill_031fb_12 : decode cJ7_fill_031fb 12 = .ok (.iload_n 1, 1) := by decide +kernel
theorem dJ7_fill_031fb_13 : decode cJ7_fill_031fb 13 = .ok (.bastore, 1) := by decide +kernel
theorem dJ7_fill_031fb_14 : decode cJ7_fill_031fb 14 = .ok (.iinc 2 1, 3) := by decide +kernel
theorem dJ7_fill_031fb_17 : decode cJ7_fill_031fb 17 = .ok (.goto (-12), 3) := by decide +kernel
theorem dJ7_fill_031fb_20 : decode cJ7_fill_031fb 20 = .ok (.return_, 1) := by decide +kernel
