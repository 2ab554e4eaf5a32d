theorem dX7_init_0 : decode cX7_init 0 = .ok (.aload_n 0, 1) := by decide +kernel
theorem dX7_init_1 : decode cX7_init 1 = .ok (.invokespecial 1, 3) := by decide +kernel
theorem dX7_init_4 : decode cX7_init 4 = .ok (.aload_n 0, 1) := by decide +kernel
theorem dX7_init_5 : decode cX7_init 5 = .ok (.sipush 148, 3) := by decide +kernel
theorem dX7_init_8 : decode cX7_init 8 = .ok (.newarray .int, 2) := by decide +kernel
theorem dX7_init_10 : decode cX7_init 10 = .ok (.putfield 7, 3) := by decide +kernel
theorem dX7_init_13 : decode cX7_init 13 = .ok (.aload_n 0, 1) := by decide +kernel
theorem dX7_init_14 : decode cX7_init 14 = .ok (.sipush 148, 3) := by decide +kernel
theorem dX7_init_17 : decode cX7_init 17 = .ok (.newarray .int, 2) := by decide +kernel
theorem dX7_init_19 : decode cX7_init 19 = .ok (.putfield 13, 3) := by decide +kernel
theorem dX7_init_22 : decode cX7_init 22 = .ok (.aload_n 0, 1) := by decide +kernel
theorem dX7_init_23 : decode cX7_init 23 = .ok (.sipush 740, 3) := by decide +kernel
theorem dX7_init_26 : decode cX7_init 26 = .ok (.newarray .int, 2) := by decide +kernel
theorem dX7_init_28 : decode cX7_init 28 = .ok (.putfield 16, 3) := by decide +kernel
theorem dX7_init_31 : decode cX7_init 31 = .ok (.aload_n 0, 1) := by decide +kernel
theorem dX7_init_32 : decode cX7_init 32 = .ok (.iconst 4, 1) := by decide +kernel
theorem dX7_init_33 : decode cX7_init 33 = .ok (.newarray .int, 2) := by decide +kernel
theorem dX7_init_35 : decode cX7_init 35 = .ok (.putfield 19, 3) := by decide +kernel
theorem dX7_init_38 : decode cX7_init 38 = .ok (.aload_n 0, 1) := by decide +kernel
theorem dX7_init_39 : decode cX7_init 39 = .ok (.sipush 150, 3) := by decide +kernel
theorem dX7_init_42 : decode cX7_init 42 = .ok (.newarray .int, 2) := by decide +kernel
theorem dX7_init_44 : decode cX7_init 44 = .ok (.putfield 22, 3) := by decide +kernel
theorem dX7_init_47 : decode cX7_init 47 = .ok (.aload_n 0, 1) := by decide +kernel
theorem dX7_init_48 : decode cX7_init 48 = .ok (.sipush 164, 3) := by decide +kernel
theorem dX7_init_51 : decode cX7_init 51 = .ok (.newarray .long, 2) := by decide +kernel
theorem dX7_init_53 : decode cX7_init 53 = .ok (.putfield 25, 3) := by decide +kernel
theorem dX7_init_56 : decode cX7_init 56 = .ok (.aload_n 0, 1) := by decide +kernel
theorem dX7_init_57 : decode cX7_init 57 = .ok (.bipush 40, 2) := by decide +kernel
theorem dX7_init_59 : decode cX7_init 59 = .ok (.newarray .int, 2) := by decide +kernel
theorem dX7_init_61 : decode cX7_init 61 = .ok (.putfield 29, 3) := by decide +kernel
theorem dX7_init_64 : decode cX7_init 64 = .ok (.aload_n 0, 1) := by decide +kernel
theorem dX7_init_65 : decode cX7_init 65 = .ok (.sipush 164, 3) := by decide +kernel
theorem dX7_init_68 : decode cX7_init 68 = .ok (.newarray .int, 2) := by decide +kernel
theorem dX7_init_70 : decode cX7_init 70 = .ok (.putfield 32, 3) := by decide +kernel
theorem dX7_init_73 : decode cX7_init 73 = .ok (.aload_n 0, 1) := by decide +kernel
theorem dX7_init_74 : decode cX7_init 74 = .ok (.sipush 164, 3) := by decide +kernel
theorem dX7_init_77 : decode cX7_init 77 = .ok (.newarray .int, 2) := by decide +kernel
theorem dX7_init_79 : decode cX7_init 79 = .ok (.putfield 35, 3) := by decide +kernel
theorem dX7_init_82 : decode cX7_init 82 = .ok (.aload_n 0, 1) := by decide +kernel
theorem dX7_init_83 : decode cX7_init 83 = .ok (.sipush 164, 3) := by decide +kernel
theorem dX7_init_86 : decode cX7_init 86 = .ok (.newarray .int, 2) := by decide +kernel
theorem dX7_init_88 : decode cX7_init 88 = .ok (.putfield 38, 3) := by decide +kernel
theorem dX7_init_91 : decode cX7_init 91 = .ok (.aload_n 0, 1) := by decide +kernel
theorem dX7_init_92 : decode cX7_init 92 = .ok (.bipush 76, 2) := by decide +kernel
theorem dX7_init_94 : decode cX7_init 94 = .ok (.newarray .int, 2) := by decide +kernel
theorem dX7_init_96 : decode cX7_init 96 = .ok (.putfield 41, 3) := by decide +kernel
theorem dX7_init_99 : decode cX7_init 99 = .ok (.aload_n 0, 1) := by decide +kernel
theorem dX7_init_100 : decode cX7_init 100 = .ok (.sipush 152, 3) := by decide +kernel
theorem dX7_init_103 : decode cX7_init 103 = .ok (.newarray .int, 2) := by decide +kernel
theorem dX7_init_105 : decode cX7_init 105 = .ok (.putfield 44, 3) := by decide +kernel
theorem dX7_init_108 : decode cX7_init 108 = .ok (.aload_n 0, 1) := by decide +kernel
theorem dX7_init_109 : decode cX7_init 109 = .ok (.getfield 7, 3) := by decide +kernel
theorem dX7_init_112 : decode cX7_init 112 = .ok (.iconst 2, 1) := by decide +kernel
theorem dX7_init_113 : decode cX7_init 113 = .ok (.bipush 12, 2) := by decide +kernel
theorem dX7_init_115 : decode cX7_init 115 = .ok (.iastore, 1) := by decide +kernel
theorem dX7_init_116 : decode cX7_init 116 = .ok (.iconst 3, 1) := by decide +kernel
theorem dX7_init_117 : decode cX7_init 117 = .ok (.istore_n 1, 1) := by decide +kernel
theorem dX7_init_118 : decode cX7_init 118 = .ok (.iload_n 1, 1) := by decide +kernel
theorem dX7_init_119 : decode cX7_init 119 = .ok (.bipush 9, 2) := by decide +kernel
theorem dX7_init_121 : decode cX7_init 121 = .ok (.if_icmp .ge 17, 3) := by decide +kernel
theorem dX7_init_124 : decode cX7_init 124 = .ok (.aload_n 0, 1) := by decide +kernel
theorem dX7_init_125 : decode cX7_init 125 = .ok (.getfield 7, 3) := by decide +kernel
theorem dX7_init_128 : decode cX7_init 128 = .ok (.iload_n 1, 1) := by decide +kernel
theorem dX7_init_129 : decode cX7_init 129 = .ok (.bipush 15, 2) := by decide +kernel
theorem dX7_init_131 : decode cX7_init 131 = .ok (.iastore, 1) := by decide +kernel
theorem dX7_init_132 : decode cX7_init 132 = .ok (.iinc 1 1, 3) := by decide +kernel
theorem dX7_init_135 : decode cX7_init 135 = .ok (.goto (-17), 3) := by decide +kernel
theorem dX7_init_138 : decode cX7_init 138 = .ok (.return_, 1) := by decide +kernel
theorem dX7_bad_0 : decode cX7_bad 0 = .ok (.aload_n 0, 1) := by decide +kernel
theorem dX7_bad_1 : decode cX7_bad 1 = .ok (.getfield 19, 3) := by decide +kernel
theorem dX7_bad_4 : decode cX7_bad 4 = .ok (.iconst 0, 1) := by decide +kernel
theorem dX7_bad_5 : decode cX7_bad 5 = .ok (.dup2, 1) := by decide +kernel
theorem dX7_bad_6 : decode cX7_bad 6 = .ok (.iaload, 1) := by decide +kernel
theorem dX7_bad_7 : decode cX7_bad 7 = .ok (.iconst 1, 1) := by decide +kernel
theorem dX7_bad_8 : decode cX7_bad 8 = .ok (.iadd, 1) := by decide +kernel
theorem dX7_bad_9 : decode cX7_bad 9 = .ok (.iastore, 1) := by decide +kernel
theorem dX7_bad_10 : decode cX7_bad 10 = .ok (.bipush (-2), 2) := by decide +kernel
theorem dX7_bad_12 : decode cX7_bad 12 = .ok (.ireturn, 1) := by decide +kernel
theorem dX7_no_0 : decode cX7_no 0 = .ok (.aload_n 0, 1) := by decide +kernel
theorem dX7_no_1 : decode cX7_no 1 = .ok (.getfield 19, 3) := by decide +kernel
theorem dX7_no_4 : decode cX7_no 4 = .ok (.iconst 1, 1) := by decide +kernel
theorem dX7_no_5 : decode cX7_no 5 = .ok (.dup2, 1) := by decide +kernel
theorem dX7_no_6 : decode cX7_no 6 = .ok (.iaload, 1) := by decide +kernel
theorem dX7_no_7 : decode cX7_no 7 = .ok (.iconst 1, 1) := by decide +kernel
theorem dX7_no_8 : decode cX7_no 8 = .ok (.iadd, 1) := by decide +kernel
theorem dX7_no_9 : decode cX7_no 9 = .ok (.iastore, 1) := by decide +kernel
theorem dX7_no_10 : decode cX7_no 10 = .ok (.bipush (-3), 2) := by decide +kernel
theorem dX7_no_12 : decode cX7_no 12 = .ok (.ireturn, 1) := by decide +kernel
theorem dX7_full_0 : decode cX7_full 0 = .ok (.aload_n 0, 1) := by decide +kernel
theorem dX7_full_1 : decode cX7_full 1 = .ok (.getfield 19, 3) := by decide +kernel
theorem dX7_full_4 : decode cX7_full 4 = .ok (.iconst 2, 1) := by decide +kernel
theorem dX7_full_5 : decode cX7_full 5 = .ok (.dup2, 1) := by decide +kernel
theorem dX7_full_6 : decode cX7_full 6 = .ok (.iaload, 1) := by decide +kernel
theorem dX7_full_7 : decode cX7_full 7 = .ok (.iconst 1, 1) := by decide +kernel
theorem dX7_full_8 : decode cX7_full 8 = .ok (.iadd, 1) := by decide +kernel
theorem dX7_full_9 : decode cX7_full 9 = .ok (.iastore, 1) := by decide +kernel
theorem dX7_full_10 : decode cX7_full 10 = .ok (.bipush (-4), 2) := by decide +kernel
theorem dX7_full_12 : decode cX7_full 12 = .ok (.ireturn, 1) := by decide +kernel
theorem dX7_much_0 : decode cX7_much 0 = .ok (.aload_n 0, 1) := by decide +kernel
theorem dX7_much_1 : decode cX7_much 1 = .ok (.getfield 19, 3) := by decide +kernel
theorem dX7_much_4 : decode cX7_much 4 = .ok (.iconst 3, 1) := by decide +kernel
theorem dX7_much_5 : decode cX7_much 5 = .ok (.dup2, 1) := by decide +kernel
theorem dX7_much_6 : decode cX7_much 6 = .ok (.iaload, 1) := by decide +kernel
theorem dX7_much_7 : decode cX7_much 7 = .ok (.iconst 1, 1) := by decide +kernel
theorem dX7_much_8 : decode cX7_much 8 = .ok (.iadd, 1) := by decide +kernel
theorem dX7_much_9 : decode cX7_much 9 = .ok (.iastore, 1) := by decide +kernel
theorem dX7_much_10 : decode cX7_much 10 = .ok (.bipush (-5), 2) := by decide +kernel
theorem dX7_much_12 : decode cX7_much 12 = .ok (.ireturn, 1) := by decide +kernel
theorem dX7_within_0 : decode cX7_within 0 = .ok (.lload_n 0, 1) := by decide +kernel
theorem dX7_within_1 : decode cX7_within 1 = .ok (.lload_n 2, 1) := by decide +kernel
theorem dX7_within_2 : decode cX7_within 2 = .ok (.lcmp, 1) := by decide +kernel
theorem dX7_within_3 : decode cX7_within 3 = .ok (.ifCond .lt 14, 3) := by decide +kernel
theorem dX7_within_6 : decode cX7_within 6 = .ok (.lload_n 0, 1) := by decide +kernel
theorem dX7_within_7 : decode cX7_within 7 = .ok (.lload 4, 2) := by decide +kernel
theorem dX7_within_9 : decode cX7_within 9 = .ok (.lcmp, 1) := by decide +kernel
theorem dX7_within_10 : decode cX7_within 10 = .ok (.ifCond .gt 7, 3) := by decide +kernel
theorem dX7_within_13 : decode cX7_within 13 = .ok (.iconst 1, 1) := by decide +kernel
theorem dX7_within_14 : decode cX7_within 14 = .ok (.goto 4, 3) := by decide +kernel
theorem dX7_within_17 : decode cX7_within 17 = .ok (.iconst 0, 1) := by decide +kernel
theorem dX7_within_18 : decode cX7_within 18 = .ok (.ireturn, 1) := by decide +kernel
theorem dX7_has_0 : decode cX7_has 0 = .ok (.iload_n 0, 1) := by decide +kernel
theorem dX7_has_1 : decode cX7_has 1 = .ok (.iload_n 1, 1) := by decide +kernel
theorem dX7_has_2 : decode cX7_has 2 = .ok (.ishr, 1) := by decide +kernel
theorem dX7_has_3 : decode cX7_has 3 = .ok (.iconst 1, 1) := by decide +kernel
theorem dX7_has_4 : decode cX7_has 4 = .ok (.iand, 1) := by decide +kernel
theorem dX7_has_5 : decode cX7_has 5 = .ok (.iconst 1, 1) := by decide +kernel
theorem dX7_has_6 : decode cX7_has 6 = .ok (.if_icmp .ne 7, 3) := by decide +kernel
theorem dX7_has_9 : decode cX7_has 9 = .ok (.iconst 1, 1) := by decide +kernel
theorem dX7_has_10 : decode cX7_has 10 = .ok (.goto 4, 3) := by decide +kernel
theorem dX7_has_13 : decode cX7_has 13 = .ok (.iconst 0, 1) := by decide +kernel
theorem dX7_has_14 : decode cX7_has 14 = .ok (.ireturn, 1) := by decide +kernel
theorem dX7_isPhrase_0 : decode cX7_isPhrase 0 = .ok (.iload_n 1, 1) := by decide +kernel
theorem dX7_isPhrase_1 : decode cX7_isPhrase 1 = .ok (.i2l, 1) := by decide +kernel
theorem dX7_isPhrase_2 : decode cX7_isPhrase 2 = .ok (.lconst 0, 1) := by decide +kernel
theorem dX7_isPhrase_3 : decode cX7_isPhrase 3 = .ok (.aload_n 0, 1) := by decide +kernel
theorem dX7_isPhrase_4 : decode cX7_isPhrase 4 = .ok (.getfield 7, 3) := by decide +kernel
theorem dX7_isPhrase_7 : decode cX7_isPhrase 7 = .ok (.iconst 0, 1) := by decide +kernel
theorem dX7_isPhrase_8 : decode cX7_isPhrase 8 = .ok (.iaload, 1) := by decide +kernel
theorem dX7_isPhrase_9 : decode cX7_isPhrase 9 = .ok (.iconst 1, 1) := by decide +kernel
theorem dX7_isPhrase_10 : decode cX7_isPhrase 10 = .ok (.isub, 1) := by decide +kernel
theorem dX7_isPhrase_11 : decode cX7_isPhrase 11 = .ok (.i2l, 1) := by decide +kernel
theorem dX7_isPhrase_12 : decode cX7_isPhrase 12 = .ok (.invokestatic 47, 3) := by decide +kernel
theorem dX7_isPhrase_15 : decode cX7_isPhrase 15 = .ok (.ireturn, 1) := by decide +kernel
theorem dX7_laysAside_0 : decode cX7_laysAside 0 = .ok (.iconst 0, 1) := by decide +kernel
theorem dX7_laysAside_1 : decode cX7_laysAside 1 = .ok (.istore_n 1, 1) := by decide +kernel
theorem dX7_laysAside_2 : decode cX7_laysAside 2 = .ok (.iload_n 1, 1) := by decide +kernel
theorem dX7_laysAside_3 : decode cX7_laysAside 3 = .ok (.sipush 148, 3) := by decide +kernel
theorem dX7_laysAside_6 : decode cX7_laysAside 6 = .ok (.if_icmp .ge 21, 3) := by decide +kernel
theorem dX7_laysAside_9 : decode cX7_laysAside 9 = .ok (.aload_n 0, 1) := by decide +kernel
theorem dX7_laysAside_10 : decode cX7_laysAside 10 = .ok (.getfield 13, 3) := by decide +kernel
theorem dX7_laysAside_13 : decode cX7_laysAside 13 = .ok (.iload_n 1, 1) := by decide +kernel
theorem dX7_laysAside_14 : decode cX7_laysAside 14 = .ok (.aload_n 0, 1) := by decide +kernel
theorem dX7_laysAside_15 : decode cX7_laysAside 15 = .ok (.getfield 7, 3) := by decide +kernel
theorem dX7_laysAside_18 : decode cX7_laysAside 18 = .ok (.iload_n 1, 1) := by decide +kernel
theorem dX7_laysAside_19 : decode cX7_laysAside 19 = .ok (.iaload, 1) := by decide +kernel
theorem dX7_laysAside_20 : decode cX7_laysAside 20 = .ok (.iastore, 1) := by decide +kernel
theorem dX7_laysAside_21 : decode cX7_laysAside 21 = .ok (.iinc 1 1, 3) := by decide +kernel
theorem dX7_laysAside_24 : decode cX7_laysAside 24 = .ok (.goto (-22), 3) := by decide +kernel
theorem dX7_laysAside_27 : decode cX7_laysAside 27 = .ok (.return_, 1) := by decide +kernel
theorem dX7_leaves_0 : decode cX7_leaves 0 = .ok (.aload_n 0, 1) := by decide +kernel
theorem dX7_leaves_1 : decode cX7_leaves 1 = .ok (.getfield 51, 3) := by decide +kernel
theorem dX7_leaves_4 : decode cX7_leaves 4 = .ok (.iconst 5, 1) := by decide +kernel
theorem dX7_leaves_5 : decode cX7_leaves 5 = .ok (.if_icmp .ne 44, 3) := by decide +kernel
theorem dX7_leaves_8 : decode cX7_leaves 8 = .ok (.iconst 0, 1) := by decide +kernel
theorem dX7_leaves_9 : decode cX7_leaves 9 = .ok (.istore_n 1, 1) := by decide +kernel
theorem dX7_leaves_10 : decode cX7_leaves 10 = .ok (.iload_n 1, 1) := by decide +kernel
theorem dX7_leaves_11 : decode cX7_leaves 11 = .ok (.sipush 592, 3) := by decide +kernel
theorem dX7_leaves_14 : decode cX7_leaves 14 = .ok (.if_icmp .ge 25, 3) := by decide +kernel
theorem dX7_leaves_17 : decode cX7_leaves 17 = .ok (.aload_n 0, 1) := by decide +kernel
theorem dX7_leaves_18 : decode cX7_leaves 18 = .ok (.getfield 16, 3) := by decide +kernel
theorem dX7_leaves_21 : decode cX7_leaves 21 = .ok (.iload_n 1, 1) := by decide +kernel
theorem dX7_leaves_22 : decode cX7_leaves 22 = .ok (.aload_n 0, 1) := by decide +kernel
theorem dX7_leaves_23 : decode cX7_leaves 23 = .ok (.getfield 16, 3) := by decide +kernel
theorem dX7_leaves_26 : decode cX7_leaves 26 = .ok (.iload_n 1, 1) := by decide +kernel
theorem dX7_leaves_27 : decode cX7_leaves 27 = .ok (.sipush 148, 3) := by decide +kernel
theorem dX7_leaves_30 : decode cX7_leaves 30 = .ok (.iadd, 1) := by decide +kernel
theorem dX7_leaves_31 : decode cX7_leaves 31 = .ok (.iaload, 1) := by decide +kernel
theorem dX7_leaves_32 : decode cX7_leaves 32 = .ok (.iastore, 1) := by decide +kernel
theorem dX7_leaves_33 : decode cX7_leaves 33 = .ok (.iinc 1 1, 3) := by decide +kernel
theorem dX7_leaves_36 : decode cX7_leaves 36 = .ok (.goto (-26), 3) := by decide +kernel
theorem dX7_leaves_39 : decode cX7_leaves 39 = .ok (.aload_n 0, 1) := by decide +kernel
theorem dX7_leaves_40 : decode cX7_leaves 40 = .ok (.dup, 1) := by decide +kernel
theorem dX7_leaves_41 : decode cX7_leaves 41 = .ok (.getfield 51, 3) := by decide +kernel
theorem dX7_leaves_44 : decode cX7_leaves 44 = .ok (.iconst 1, 1) := by decide +kernel
theorem dX7_leaves_45 : decode cX7_leaves 45 = .ok (.isub, 1) := by decide +kernel
theorem dX7_leaves_46 : decode cX7_leaves 46 = .ok (.putfield 51, 3) := by decide +kernel
theorem dX7_leaves_49 : decode cX7_leaves 49 = .ok (.iconst 0, 1) := by decide +kernel
theorem dX7_leaves_50 : decode cX7_leaves 50 = .ok (.istore_n 1, 1) := by decide +kernel
theorem dX7_leaves_51 : decode cX7_leaves 51 = .ok (.iload_n 1, 1) := by decide +kernel
theorem dX7_leaves_52 : decode cX7_leaves 52 = .ok (.sipush 148, 3) := by decide +kernel
theorem dX7_leaves_55 : decode cX7_leaves 55 = .ok (.if_icmp .ge 30, 3) := by decide +kernel
theorem dX7_leaves_58 : decode cX7_leaves 58 = .ok (.aload_n 0, 1) := by decide +kernel
theorem dX7_leaves_59 : decode cX7_leaves 59 = .ok (.getfield 16, 3) := by decide +kernel
theorem dX7_leaves_62 : decode cX7_leaves 62 = .ok (.sipush 148, 3) := by decide +kernel
theorem dX7_leaves_65 : decode cX7_leaves 65 = .ok (.aload_n 0, 1) := by decide +kernel
theorem dX7_leaves_66 : decode cX7_leaves 66 = .ok (.getfield 51, 3) := by decide +kernel
theorem dX7_leaves_69 : decode cX7_leaves 69 = .ok (.imul, 1) := by decide +kernel
theorem dX7_leaves_70 : decode cX7_leaves 70 = .ok (.iload_n 1, 1) := by decide +kernel
theorem dX7_leaves_71 : decode cX7_leaves 71 = .ok (.iadd, 1) := by decide +kernel
theorem dX7_leaves_72 : decode cX7_leaves 72 = .ok (.aload_n 0, 1) := by decide +kernel
theorem dX7_leaves_73 : decode cX7_leaves 73 = .ok (.getfield 13, 3) := by decide +kernel
theorem dX7_leaves_76 : decode cX7_leaves 76 = .ok (.iload_n 1, 1) := by decide +kernel
theorem dX7_leaves_77 : decode cX7_leaves 77 = .ok (.iaload, 1) := by decide +kernel
theorem dX7_leaves_78 : decode cX7_leaves 78 = .ok (.iastore, 1) := by decide +kernel
theorem dX7_leaves_79 : decode cX7_leaves 79 = .ok (.iinc 1 1, 3) := by decide +kernel
theorem dX7_leaves_82 : decode cX7_leaves 82 = .ok (.goto (-31), 3) := by decide +kernel
theorem dX7_leaves_85 : decode cX7_leaves 85 = .ok (.aload_n 0, 1) := by decide +kernel
theorem dX7_leaves_86 : decode cX7_leaves 86 = .ok (.dup, 1) := by decide +kernel
theorem dX7_leaves_87 : decode cX7_leaves 87 = .ok (.getfield 51, 3) := by decide +kernel
theorem dX7_leaves_90 : decode cX7_leaves 90 = .ok (.iconst 1, 1) := by decide +kernel
theorem dX7_leaves_91 : decode cX7_leaves 91 = .ok (.iadd, 1) := by decide +kernel
theorem dX7_leaves_92 : decode cX7_leaves 92 = .ok (.putfield 51, 3) := by decide +kernel
theorem dX7_leaves_95 : decode cX7_leaves 95 = .ok (.return_, 1) := by decide +kernel
theorem dX7_back_0 : decode cX7_back 0 = .ok (.aload_n 0, 1) := by decide +kernel
theorem dX7_back_1 : decode cX7_back 1 = .ok (.getfield 51, 3) := by decide +kernel
theorem dX7_back_4 : decode cX7_back 4 = .ok (.ifCond .ne 8, 3) := by decide +kernel
theorem dX7_back_7 : decode cX7_back 7 = .ok (.aload_n 0, 1) := by decide +kernel
theorem dX7_back_8 : decode cX7_back 8 = .ok (.invokevirtual 55, 3) := by decide +kernel
theorem dX7_back_11 : decode cX7_back 11 = .ok (.ireturn, 1) := by decide +kernel
theorem dX7_back_12 : decode cX7_back 12 = .ok (.aload_n 0, 1) := by decide +kernel
theorem dX7_back_13 : decode cX7_back 13 = .ok (.dup, 1) := by decide +kernel
theorem dX7_back_14 : decode cX7_back 14 = .ok (.getfield 51, 3) := by decide +kernel
theorem dX7_back_17 : decode cX7_back 17 = .ok (.iconst 1, 1) := by decide +kernel
theorem dX7_back_18 : decode cX7_back 18 = .ok (.isub, 1) := by decide +kernel
theorem dX7_back_19 : decode cX7_back 19 = .ok (.putfield 51, 3) := by decide +kernel
theorem dX7_back_22 : decode cX7_back 22 = .ok (.iconst 0, 1) := by decide +kernel
theorem dX7_back_23 : decode cX7_back 23 = .ok (.istore_n 1, 1) := by decide +kernel
theorem dX7_back_24 : decode cX7_back 24 = .ok (.iload_n 1, 1) := by decide +kernel
theorem dX7_back_25 : decode cX7_back 25 = .ok (.sipush 148, 3) := by decide +kernel
theorem dX7_back_28 : decode cX7_back 28 = .ok (.if_icmp .ge 30, 3) := by decide +kernel
theorem dX7_back_31 : decode cX7_back 31 = .ok (.aload_n 0, 1) := by decide +kernel
theorem dX7_back_32 : decode cX7_back 32 = .ok (.getfield 7, 3) := by decide +kernel
theorem dX7_back_35 : decode cX7_back 35 = .ok (.iload_n 1, 1) := by decide +kernel
theorem dX7_back_36 : decode cX7_back 36 = .ok (.aload_n 0, 1) := by decide +kernel
theorem dX7_back_37 : decode cX7_back 37 = .ok (.getfield 16, 3) := by decide +kernel
theorem dX7_back_40 : decode cX7_back 40 = .ok (.sipush 148, 3) := by decide +kernel
theorem dX7_back_43 : decode cX7_back 43 = .ok (.aload_n 0, 1) := by decide +kernel
theorem dX7_back_44 : decode cX7_back 44 = .ok (.getfield 51, 3) := by decide +kernel
theorem dX7_back_47 : decode cX7_back 47 = .ok (.imul, 1) := by decide +kernel
theorem dX7_back_48 : decode cX7_back 48 = .ok (.iload_n 1, 1) := by decide +kernel
theorem dX7_back_49 : decode cX7_back 49 = .ok (.iadd, 1) := by decide +kernel
theorem dX7_back_50 : decode cX7_back 50 = .ok (.iaload, 1) := by decide +kernel
theorem dX7_back_51 : decode cX7_back 51 = .ok (.iastore, 1) := by decide +kernel
theorem dX7_back_52 : decode cX7_back 52 = .ok (.iinc 1 1, 3) := by decide +kernel
theorem dX7_back_55 : decode cX7_back 55 = .ok (.goto (-31), 3) := by decide +kernel
theorem dX7_back_58 : decode cX7_back 58 = .ok (.aload_n 0, 1) := by decide +kernel
theorem dX7_back_59 : decode cX7_back 59 = .ok (.getfield 51, 3) := by decide +kernel
theorem dX7_back_62 : decode cX7_back 62 = .ok (.ireturn, 1) := by decide +kernel
theorem dX7_answers_0 : decode cX7_answers 0 = .ok (.iload_n 1, 1) := by decide +kernel
theorem dX7_answers_1 : decode cX7_answers 1 = .ok (.ifCond .lt 9, 3) := by decide +kernel
theorem dX7_answers_4 : decode cX7_answers 4 = .ok (.aload_n 0, 1) := by decide +kernel
theorem dX7_answers_5 : decode cX7_answers 5 = .ok (.invokevirtual 59, 3) := by decide +kernel
theorem dX7_answers_8 : decode cX7_answers 8 = .ok (.iload_n 1, 1) := by decide +kernel
theorem dX7_answers_9 : decode cX7_answers 9 = .ok (.ireturn, 1) := by decide +kernel
theorem dX7_answers_10 : decode cX7_answers 10 = .ok (.iload_n 1, 1) := by decide +kernel
theorem dX7_answers_11 : decode cX7_answers 11 = .ok (.bipush (-3), 2) := by decide +kernel
theorem dX7_answers_13 : decode cX7_answers 13 = .ok (.if_icmp .ne 10, 3) := by decide +kernel
theorem dX7_answers_16 : decode cX7_answers 16 = .ok (.aload_n 0, 1) := by decide +kernel
theorem dX7_answers_17 : decode cX7_answers 17 = .ok (.invokevirtual 55, 3) := by decide +kernel
theorem dX7_answers_20 : decode cX7_answers 20 = .ok (.goto 20, 3) := by decide +kernel
theorem dX7_answers_23 : decode cX7_answers 23 = .ok (.iload_n 1, 1) := by decide +kernel
theorem dX7_answers_24 : decode cX7_answers 24 = .ok (.bipush (-4), 2) := by decide +kernel
theorem dX7_answers_26 : decode cX7_answers 26 = .ok (.if_icmp .ne 10, 3) := by decide +kernel
theorem dX7_answers_29 : decode cX7_answers 29 = .ok (.aload_n 0, 1) := by decide +kernel
theorem dX7_answers_30 : decode cX7_answers 30 = .ok (.invokevirtual 62, 3) := by decide +kernel
theorem dX7_answers_33 : decode cX7_answers 33 = .ok (.goto 7, 3) := by decide +kernel
theorem dX7_answers_36 : decode cX7_answers 36 = .ok (.aload_n 0, 1) := by decide +kernel
theorem dX7_answers_37 : decode cX7_answers 37 = .ok (.invokevirtual 65, 3) := by decide +kernel
theorem dX7_answers_40 : decode cX7_answers 40 = .ok (.ireturn, 1) := by decide +kernel
theorem dX7_sizeOf_0 : decode cX7_sizeOf 0 = .ok (.iconst 0, 1) := by decide +kernel
theorem dX7_sizeOf_1 : decode cX7_sizeOf 1 = .ok (.istore_n 1, 1) := by decide +kernel
theorem dX7_sizeOf_2 : decode cX7_sizeOf 2 = .ok (.iload_n 0, 1) := by decide +kernel
theorem dX7_sizeOf_3 : decode cX7_sizeOf 3 = .ok (.istore_n 2, 1) := by decide +kernel
theorem dX7_sizeOf_4 : decode cX7_sizeOf 4 = .ok (.iload_n 2, 1) := by decide +kernel
theorem dX7_sizeOf_5 : decode cX7_sizeOf 5 = .ok (.ifCond .le 14, 3) := by decide +kernel
theorem dX7_sizeOf_8 : decode cX7_sizeOf 8 = .ok (.iinc 1 1, 3) := by decide +kernel
theorem dX7_sizeOf_11 : decode cX7_sizeOf 11 = .ok (.iload_n 2, 1) := by decide +kernel
theorem dX7_sizeOf_12 : decode cX7_sizeOf 12 = .ok (.bipush 10, 2) := by decide +kernel
theorem dX7_sizeOf_14 : decode cX7_sizeOf 14 = .ok (.idiv, 1) := by decide +kernel
theorem dX7_sizeOf_15 : decode cX7_sizeOf 15 = .ok (.istore_n 2, 1) := by decide +kernel
theorem dX7_sizeOf_16 : decode cX7_sizeOf 16 = .ok (.goto (-12), 3) := by decide +kernel
theorem dX7_sizeOf_19 : decode cX7_sizeOf 19 = .ok (.iload_n 1, 1) := by decide +kernel
theorem dX7_sizeOf_20 : decode cX7_sizeOf 20 = .ok (.ireturn, 1) := by decide +kernel
theorem dX7_moraeOf_0 : decode cX7_moraeOf 0 = .ok (.iconst 0, 1) := by decide +kernel
theorem dX7_moraeOf_1 : decode cX7_moraeOf 1 = .ok (.istore_n 1, 1) := by decide +kernel
theorem dX7_moraeOf_2 : decode cX7_moraeOf 2 = .ok (.iload_n 0, 1) := by decide +kernel
theorem dX7_moraeOf_3 : decode cX7_moraeOf 3 = .ok (.istore_n 2, 1) := by decide +kernel
theorem dX7_moraeOf_4 : decode cX7_moraeOf 4 = .ok (.iload_n 2, 1) := by decide +kernel
theorem dX7_moraeOf_5 : decode cX7_moraeOf 5 = .ok (.ifCond .le 27, 3) := by decide +kernel
theorem dX7_moraeOf_8 : decode cX7_moraeOf 8 = .ok (.iload_n 1, 1) := by decide +kernel
theorem dX7_moraeOf_9 : decode cX7_moraeOf 9 = .ok (.iload_n 2, 1) := by decide +kernel
theorem dX7_moraeOf_10 : decode cX7_moraeOf 10 = .ok (.bipush 10, 2) := by decide +kernel
theorem dX7_moraeOf_12 : decode cX7_moraeOf 12 = .ok (.irem, 1) := by decide +kernel
theorem dX7_moraeOf_13 : decode cX7_moraeOf 13 = .ok (.iconst 4, 1) := by decide +kernel
theorem dX7_moraeOf_14 : decode cX7_moraeOf 14 = .ok (.if_icmp .le 7, 3) := by decide +kernel
theorem dX7_moraeOf_17 : decode cX7_moraeOf 17 = .ok (.iconst 2, 1) := by decide +kernel
theorem dX7_moraeOf_18 : decode cX7_moraeOf 18 = .ok (.goto 4, 3) := by decide +kernel
theorem dX7_moraeOf_21 : decode cX7_moraeOf 21 = .ok (.iconst 1, 1) := by decide +kernel
theorem dX7_moraeOf_22 : decode cX7_moraeOf 22 = .ok (.iadd, 1) := by decide +kernel
theorem dX7_moraeOf_23 : decode cX7_moraeOf 23 = .ok (.istore_n 1, 1) := by decide +kernel
theorem dX7_moraeOf_24 : decode cX7_moraeOf 24 = .ok (.iload_n 2, 1) := by decide +kernel
theorem dX7_moraeOf_25 : decode cX7_moraeOf 25 = .ok (.bipush 10, 2) := by decide +kernel
theorem dX7_moraeOf_27 : decode cX7_moraeOf 27 = .ok (.idiv, 1) := by decide +kernel
theorem dX7_moraeOf_28 : decode cX7_moraeOf 28 = .ok (.istore_n 2, 1) := by decide +kernel
theorem dX7_moraeOf_29 : decode cX7_moraeOf 29 = .ok (.goto (-25), 3) := by decide +kernel
theorem dX7_moraeOf_32 : decode cX7_moraeOf 32 = .ok (.iload_n 1, 1) := by decide +kernel
theorem dX7_moraeOf_33 : decode cX7_moraeOf 33 = .ok (.ireturn, 1) := by decide +kernel
theorem dX7_isCode_0 : decode cX7_isCode 0 = .ok (.iload_n 0, 1) := by decide +kernel
theorem dX7_isCode_1 : decode cX7_isCode 1 = .ok (.i2l, 1) := by decide +kernel
theorem dX7_isCode_2 : decode cX7_isCode 2 = .ok (.lconst 1, 1) := by decide +kernel
theorem dX7_isCode_3 : decode cX7_isCode 3 = .ok (.ldc2_w 68, 3) := by decide +kernel
theorem dX7_isCode_6 : decode cX7_isCode 6 = .ok (.invokestatic 47, 3) := by decide +kernel
theorem dX7_isCode_9 : decode cX7_isCode 9 = .ok (.istore_n 1, 1) := by decide +kernel
theorem dX7_isCode_10 : decode cX7_isCode 10 = .ok (.iload_n 0, 1) := by decide +kernel
theorem dX7_isCode_11 : decode cX7_isCode 11 = .ok (.istore_n 2, 1) := by decide +kernel
theorem dX7_isCode_12 : decode cX7_isCode 12 = .ok (.iload_n 2, 1) := by decide +kernel
theorem dX7_isCode_13 : decode cX7_isCode 13 = .ok (.ifCond .le 28, 3) := by decide +kernel
theorem dX7_isCode_16 : decode cX7_isCode 16 = .ok (.iload_n 1, 1) := by decide +kernel
theorem dX7_isCode_17 : decode cX7_isCode 17 = .ok (.ifCond .eq 24, 3) := by decide +kernel
theorem dX7_isCode_20 : decode cX7_isCode 20 = .ok (.iload_n 2, 1) := by decide +kernel
theorem dX7_isCode_21 : decode cX7_isCode 21 = .ok (.bipush 10, 2) := by decide +kernel
theorem dX7_isCode_23 : decode cX7_isCode 23 = .ok (.irem, 1) := by decide +kernel
theorem dX7_isCode_24 : decode cX7_isCode 24 = .ok (.i2l, 1) := by decide +kernel
theorem dX7_isCode_25 : decode cX7_isCode 25 = .ok (.lconst 1, 1) := by decide +kernel
theorem dX7_isCode_26 : decode cX7_isCode 26 = .ok (.ldc2_w 70, 3) := by decide +kernel
theorem dX7_isCode_29 : decode cX7_isCode 29 = .ok (.invokestatic 47, 3) := by decide +kernel
theorem dX7_isCode_32 : decode cX7_isCode 32 = .ok (.istore_n 1, 1) := by decide +kernel
theorem dX7_isCode_33 : decode cX7_isCode 33 = .ok (.iload_n 2, 1) := by decide +kernel
theorem dX7_isCode_34 : decode cX7_isCode 34 = .ok (.bipush 10, 2) := by decide +kernel
theorem dX7_isCode_36 : decode cX7_isCode 36 = .ok (.idiv, 1) := by decide +kernel
theorem dX7_isCode_37 : decode cX7_isCode 37 = .ok (.istore_n 2, 1) := by decide +kernel
theorem dX7_isCode_38 : decode cX7_isCode 38 = .ok (.goto (-26), 3) := by decide +kernel
theorem dX7_isCode_41 : decode cX7_isCode 41 = .ok (.iload_n 1, 1) := by decide +kernel
theorem dX7_isCode_42 : decode cX7_isCode 42 = .ok (.ireturn, 1) := by decide +kernel
theorem dX7_addsPhrase_0 : decode cX7_addsPhrase 0 = .ok (.iload_n 1, 1) := by decide +kernel
theorem dX7_addsPhrase_1 : decode cX7_addsPhrase 1 = .ok (.i2l, 1) := by decide +kernel
theorem dX7_addsPhrase_2 : decode cX7_addsPhrase 2 = .ok (.lconst 0, 1) := by decide +kernel
theorem dX7_addsPhrase_3 : decode cX7_addsPhrase 3 = .ok (.ldc2_w 72, 3) := by decide +kernel
theorem dX7_addsPhrase_6 : decode cX7_addsPhrase 6 = .ok (.invokestatic 47, 3) := by decide +kernel
theorem dX7_addsPhrase_9 : decode cX7_addsPhrase 9 = .ok (.ifCond .eq 10, 3) := by decide +kernel
theorem dX7_addsPhrase_12 : decode cX7_addsPhrase 12 = .ok (.iload_n 2, 1) := by decide +kernel
theorem dX7_addsPhrase_13 : decode cX7_addsPhrase 13 = .ok (.invokestatic 74, 3) := by decide +kernel
theorem dX7_addsPhrase_16 : decode cX7_addsPhrase 16 = .ok (.ifCond .ne 6, 3) := by decide +kernel
theorem dX7_addsPhrase_19 : decode cX7_addsPhrase 19 = .ok (.bipush (-2), 2) := by decide +kernel
theorem dX7_addsPhrase_21 : decode cX7_addsPhrase 21 = .ok (.ireturn, 1) := by decide +kernel
theorem dX7_addsPhrase_22 : decode cX7_addsPhrase 22 = .ok (.aload_n 0, 1) := by decide +kernel
theorem dX7_addsPhrase_23 : decode cX7_addsPhrase 23 = .ok (.getfield 7, 3) := by decide +kernel
theorem dX7_addsPhrase_26 : decode cX7_addsPhrase 26 = .ok (.iconst 0, 1) := by decide +kernel
theorem dX7_addsPhrase_27 : decode cX7_addsPhrase 27 = .ok (.iaload, 1) := by decide +kernel
theorem dX7_addsPhrase_28 : decode cX7_addsPhrase 28 = .ok (.istore_n 3, 1) := by decide +kernel
theorem dX7_addsPhrase_29 : decode cX7_addsPhrase 29 = .ok (.iconst 0, 1) := by decide +kernel
theorem dX7_addsPhrase_30 : decode cX7_addsPhrase 30 = .ok (.istore 4, 2) := by decide +kernel
theorem dX7_addsPhrase_32 : decode cX7_addsPhrase 32 = .ok (.iload 4, 2) := by decide +kernel
theorem dX7_addsPhrase_34 : decode cX7_addsPhrase 34 = .ok (.iload_n 3, 1) := by decide +kernel
theorem dX7_addsPhrase_35 : decode cX7_addsPhrase 35 = .ok (.if_icmp .ge 40, 3) := by decide +kernel
theorem dX7_addsPhrase_38 : decode cX7_addsPhrase 38 = .ok (.aload_n 0, 1) := by decide +kernel
theorem dX7_addsPhrase_39 : decode cX7_addsPhrase 39 = .ok (.getfield 7, 3) := by decide +kernel
theorem dX7_addsPhrase_42 : decode cX7_addsPhrase 42 = .ok (.bipush 9, 2) := by decide +kernel
theorem dX7_addsPhrase_44 : decode cX7_addsPhrase 44 = .ok (.iload 4, 2) := by decide +kernel
theorem dX7_addsPhrase_46 : decode cX7_addsPhrase 46 = .ok (.iadd, 1) := by decide +kernel
theorem dX7_addsPhrase_47 : decode cX7_addsPhrase 47 = .ok (.iaload, 1) := by decide +kernel
theorem dX7_addsPhrase_48 : decode cX7_addsPhrase 48 = .ok (.iload_n 1, 1) := by decide +kernel
theorem dX7_addsPhrase_49 : decode cX7_addsPhrase 49 = .ok (.if_icmp .ne 20, 3) := by decide +kernel
theorem dX7_addsPhrase_52 : decode cX7_addsPhrase 52 = .ok (.aload_n 0, 1) := by decide +kernel
theorem dX7_addsPhrase_53 : decode cX7_addsPhrase 53 = .ok (.getfield 7, 3) := by decide +kernel
theorem dX7_addsPhrase_56 : decode cX7_addsPhrase 56 = .ok (.bipush 21, 2) := by decide +kernel
theorem dX7_addsPhrase_58 : decode cX7_addsPhrase 58 = .ok (.iload 4, 2) := by decide +kernel
theorem dX7_addsPhrase_60 : decode cX7_addsPhrase 60 = .ok (.iadd, 1) := by decide +kernel
theorem dX7_addsPhrase_61 : decode cX7_addsPhrase 61 = .ok (.iaload, 1) := by decide +kernel
theorem dX7_addsPhrase_62 : decode cX7_addsPhrase 62 = .ok (.iload_n 2, 1) := by decide +kernel
theorem dX7_addsPhrase_63 : decode cX7_addsPhrase 63 = .ok (.if_icmp .ne 6, 3) := by decide +kernel
theorem dX7_addsPhrase_66 : decode cX7_addsPhrase 66 = .ok (.bipush (-3), 2) := by decide +kernel
theorem dX7_addsPhrase_68 : decode cX7_addsPhrase 68 = .ok (.ireturn, 1) := by decide +kernel
theorem dX7_addsPhrase_69 : decode cX7_addsPhrase 69 = .ok (.iinc 4 1, 3) := by decide +kernel
theorem dX7_addsPhrase_72 : decode cX7_addsPhrase 72 = .ok (.goto (-40), 3) := by decide +kernel
theorem dX7_addsPhrase_75 : decode cX7_addsPhrase 75 = .ok (.iload_n 3, 1) := by decide +kernel
theorem dX7_addsPhrase_76 : decode cX7_addsPhrase 76 = .ok (.bipush 12, 2) := by decide +kernel
theorem dX7_addsPhrase_78 : decode cX7_addsPhrase 78 = .ok (.if_icmp .ne 6, 3) := by decide +kernel
theorem dX7_addsPhrase_81 : decode cX7_addsPhrase 81 = .ok (.bipush (-4), 2) := by decide +kernel
theorem dX7_addsPhrase_83 : decode cX7_addsPhrase 83 = .ok (.ireturn, 1) := by decide +kernel
theorem dX7_addsPhrase_84 : decode cX7_addsPhrase 84 = .ok (.aload_n 0, 1) := by decide +kernel
theorem dX7_addsPhrase_85 : decode cX7_addsPhrase 85 = .ok (.getfield 7, 3) := by decide +kernel
theorem dX7_addsPhrase_88 : decode cX7_addsPhrase 88 = .ok (.bipush 9, 2) := by decide +kernel
theorem dX7_addsPhrase_90 : decode cX7_addsPhrase 90 = .ok (.iload_n 3, 1) := by decide +kernel
theorem dX7_addsPhrase_91 : decode cX7_addsPhrase 91 = .ok (.iadd, 1) := by decide +kernel
theorem dX7_addsPhrase_92 : decode cX7_addsPhrase 92 = .ok (.iload_n 1, 1) := by decide +kernel
theorem dX7_addsPhrase_93 : decode cX7_addsPhrase 93 = .ok (.iastore, 1) := by decide +kernel
theorem dX7_addsPhrase_94 : decode cX7_addsPhrase 94 = .ok (.aload_n 0, 1) := by decide +kernel
theorem dX7_addsPhrase_95 : decode cX7_addsPhrase 95 = .ok (.getfield 7, 3) := by decide +kernel
theorem dX7_addsPhrase_98 : decode cX7_addsPhrase 98 = .ok (.bipush 21, 2) := by decide +kernel
theorem dX7_addsPhrase_100 : decode cX7_addsPhrase 100 = .ok (.iload_n 3, 1) := by decide +kernel
theorem dX7_addsPhrase_101 : decode cX7_addsPhrase 101 = .ok (.iadd, 1) := by decide +kernel
theorem dX7_addsPhrase_102 : decode cX7_addsPhrase 102 = .ok (.iload_n 2, 1) := by decide +kernel
theorem dX7_addsPhrase_103 : decode cX7_addsPhrase 103 = .ok (.iastore, 1) := by decide +kernel
theorem dX7_addsPhrase_104 : decode cX7_addsPhrase 104 = .ok (.iconst 0, 1) := by decide +kernel
theorem dX7_addsPhrase_105 : decode cX7_addsPhrase 105 = .ok (.istore 4, 2) := by decide +kernel
theorem dX7_addsPhrase_107 : decode cX7_addsPhrase 107 = .ok (.iload 4, 2) := by decide +kernel
theorem dX7_addsPhrase_109 : decode cX7_addsPhrase 109 = .ok (.iconst 3, 1) := by decide +kernel
theorem dX7_addsPhrase_110 : decode cX7_addsPhrase 110 = .ok (.if_icmp .ge 25, 3) := by decide +kernel
theorem dX7_addsPhrase_113 : decode cX7_addsPhrase 113 = .ok (.aload_n 0, 1) := by decide +kernel
theorem dX7_addsPhrase_114 : decode cX7_addsPhrase 114 = .ok (.getfield 7, 3) := by decide +kernel
theorem dX7_addsPhrase_117 : decode cX7_addsPhrase 117 = .ok (.bipush 33, 2) := by decide +kernel
theorem dX7_addsPhrase_119 : decode cX7_addsPhrase 119 = .ok (.bipush 12, 2) := by decide +kernel
theorem dX7_addsPhrase_121 : decode cX7_addsPhrase 121 = .ok (.iload 4, 2) := by decide +kernel
theorem dX7_addsPhrase_123 : decode cX7_addsPhrase 123 = .ok (.imul, 1) := by decide +kernel
theorem dX7_addsPhrase_124 : decode cX7_addsPhrase 124 = .ok (.iadd, 1) := by decide +kernel
theorem dX7_addsPhrase_125 : decode cX7_addsPhrase 125 = .ok (.iload_n 3, 1) := by decide +kernel
theorem dX7_addsPhrase_126 : decode cX7_addsPhrase 126 = .ok (.iadd, 1) := by decide +kernel
theorem dX7_addsPhrase_127 : decode cX7_addsPhrase 127 = .ok (.iconst 0, 1) := by decide +kernel
theorem dX7_addsPhrase_128 : decode cX7_addsPhrase 128 = .ok (.iastore, 1) := by decide +kernel
theorem dX7_addsPhrase_129 : decode cX7_addsPhrase 129 = .ok (.iinc 4 1, 3) := by decide +kernel
theorem dX7_addsPhrase_132 : decode cX7_addsPhrase 132 = .ok (.goto (-25), 3) := by decide +kernel
theorem dX7_addsPhrase_135 : decode cX7_addsPhrase 135 = .ok (.aload_n 0, 1) := by decide +kernel
theorem dX7_addsPhrase_136 : decode cX7_addsPhrase 136 = .ok (.getfield 7, 3) := by decide +kernel
theorem dX7_addsPhrase_139 : decode cX7_addsPhrase 139 = .ok (.iconst 0, 1) := by decide +kernel
theorem dX7_addsPhrase_140 : decode cX7_addsPhrase 140 = .ok (.dup2, 1) := by decide +kernel
theorem dX7_addsPhrase_141 : decode cX7_addsPhrase 141 = .ok (.iaload, 1) := by decide +kernel
theorem dX7_addsPhrase_142 : decode cX7_addsPhrase 142 = .ok (.iconst 1, 1) := by decide +kernel
theorem dX7_addsPhrase_143 : decode cX7_addsPhrase 143 = .ok (.iadd, 1) := by decide +kernel
theorem dX7_addsPhrase_144 : decode cX7_addsPhrase 144 = .ok (.iastore, 1) := by decide +kernel
theorem dX7_addsPhrase_145 : decode cX7_addsPhrase 145 = .ok (.iload_n 3, 1) := by decide +kernel
theorem dX7_addsPhrase_146 : decode cX7_addsPhrase 146 = .ok (.ireturn, 1) := by decide +kernel
theorem dX7_dropsPhrase_0 : decode cX7_dropsPhrase 0 = .ok (.aload_n 0, 1) := by decide +kernel
theorem dX7_dropsPhrase_1 : decode cX7_dropsPhrase 1 = .ok (.iload_n 1, 1) := by decide +kernel
theorem dX7_dropsPhrase_2 : decode cX7_dropsPhrase 2 = .ok (.invokevirtual 78, 3) := by decide +kernel
theorem dX7_dropsPhrase_5 : decode cX7_dropsPhrase 5 = .ok (.ifCond .ne 6, 3) := by decide +kernel
theorem dX7_dropsPhrase_8 : decode cX7_dropsPhrase 8 = .ok (.bipush (-2), 2) := by decide +kernel
theorem dX7_dropsPhrase_10 : decode cX7_dropsPhrase 10 = .ok (.ireturn, 1) := by decide +kernel
theorem dX7_dropsPhrase_11 : decode cX7_dropsPhrase 11 = .ok (.aload_n 0, 1) := by decide +kernel
theorem dX7_dropsPhrase_12 : decode cX7_dropsPhrase 12 = .ok (.getfield 7, 3) := by decide +kernel
theorem dX7_dropsPhrase_15 : decode cX7_dropsPhrase 15 = .ok (.iconst 0, 1) := by decide +kernel
theorem dX7_dropsPhrase_16 : decode cX7_dropsPhrase 16 = .ok (.dup2, 1) := by decide +kernel
theorem dX7_dropsPhrase_17 : decode cX7_dropsPhrase 17 = .ok (.iaload, 1) := by decide +kernel
theorem dX7_dropsPhrase_18 : decode cX7_dropsPhrase 18 = .ok (.iconst 1, 1) := by decide +kernel
theorem dX7_dropsPhrase_19 : decode cX7_dropsPhrase 19 = .ok (.isub, 1) := by decide +kernel
theorem dX7_dropsPhrase_20 : decode cX7_dropsPhrase 20 = .ok (.iastore, 1) := by decide +kernel
theorem dX7_dropsPhrase_21 : decode cX7_dropsPhrase 21 = .ok (.iload_n 1, 1) := by decide +kernel
theorem dX7_dropsPhrase_22 : decode cX7_dropsPhrase 22 = .ok (.istore_n 2, 1) := by decide +kernel
theorem dX7_dropsPhrase_23 : decode cX7_dropsPhrase 23 = .ok (.iload_n 2, 1) := by decide +kernel
theorem dX7_dropsPhrase_24 : decode cX7_dropsPhrase 24 = .ok (.aload_n 0, 1) := by decide +kernel
theorem dX7_dropsPhrase_25 : decode cX7_dropsPhrase 25 = .ok (.getfield 7, 3) := by decide +kernel
theorem dX7_dropsPhrase_28 : decode cX7_dropsPhrase 28 = .ok (.iconst 0, 1) := by decide +kernel
theorem dX7_dropsPhrase_29 : decode cX7_dropsPhrase 29 = .ok (.iaload, 1) := by decide +kernel
theorem dX7_dropsPhrase_30 : decode cX7_dropsPhrase 30 = .ok (.if_icmp .ge 92, 3) := by decide +kernel
theorem dX7_dropsPhrase_33 : decode cX7_dropsPhrase 33 = .ok (.aload_n 0, 1) := by decide +kernel
theorem dX7_dropsPhrase_34 : decode cX7_dropsPhrase 34 = .ok (.getfield 7, 3) := by decide +kernel
theorem dX7_dropsPhrase_37 : decode cX7_dropsPhrase 37 = .ok (.bipush 9, 2) := by decide +kernel
theorem dX7_dropsPhrase_39 : decode cX7_dropsPhrase 39 = .ok (.iload_n 2, 1) := by decide +kernel
theorem dX7_dropsPhrase_40 : decode cX7_dropsPhrase 40 = .ok (.iadd, 1) := by decide +kernel
theorem dX7_dropsPhrase_41 : decode cX7_dropsPhrase 41 = .ok (.aload_n 0, 1) := by decide +kernel
theorem dX7_dropsPhrase_42 : decode cX7_dropsPhrase 42 = .ok (.getfield 7, 3) := by decide +kernel
theorem dX7_dropsPhrase_45 : decode cX7_dropsPhrase 45 = .ok (.bipush 9, 2) := by decide +kernel
theorem dX7_dropsPhrase_47 : decode cX7_dropsPhrase 47 = .ok (.iload_n 2, 1) := by decide +kernel
theorem dX7_dropsPhrase_48 : decode cX7_dropsPhrase 48 = .ok (.iadd, 1) := by decide +kernel
theorem dX7_dropsPhrase_49 : decode cX7_dropsPhrase 49 = .ok (.iconst 1, 1) := by decide +kernel
theorem dX7_dropsPhrase_50 : decode cX7_dropsPhrase 50 = .ok (.iadd, 1) := by decide +kernel
theorem dX7_dropsPhrase_51 : decode cX7_dropsPhrase 51 = .ok (.iaload, 1) := by decide +kernel
theorem dX7_dropsPhrase_52 : decode cX7_dropsPhrase 52 = .ok (.iastore, 1) := by decide +kernel
theorem dX7_dropsPhrase_53 : decode cX7_dropsPhrase 53 = .ok (.aload_n 0, 1) := by decide +kernel
theorem dX7_dropsPhrase_54 : decode cX7_dropsPhrase 54 = .ok (.getfield 7, 3) := by decide +kernel
theorem dX7_dropsPhrase_57 : decode cX7_dropsPhrase 57 = .ok (.bipush 21, 2) := by decide +kernel
theorem dX7_dropsPhrase_59 : decode cX7_dropsPhrase 59 = .ok (.iload_n 2, 1) := by decide +kernel
theorem dX7_dropsPhrase_60 : decode cX7_dropsPhrase 60 = .ok (.iadd, 1) := by decide +kernel
theorem dX7_dropsPhrase_61 : decode cX7_dropsPhrase 61 = .ok (.aload_n 0, 1) := by decide +kernel
theorem dX7_dropsPhrase_62 : decode cX7_dropsPhrase 62 = .ok (.getfield 7, 3) := by decide +kernel
theorem dX7_dropsPhrase_65 : decode cX7_dropsPhrase 65 = .ok (.bipush 21, 2) := by decide +kernel
theorem dX7_dropsPhrase_67 : decode cX7_dropsPhrase 67 = .ok (.iload_n 2, 1) := by decide +kernel
theorem dX7_dropsPhrase_68 : decode cX7_dropsPhrase 68 = .ok (.iadd, 1) := by decide +kernel
theorem dX7_dropsPhrase_69 : decode cX7_dropsPhrase 69 = .ok (.iconst 1, 1) := by decide +kernel
theorem dX7_dropsPhrase_70 : decode cX7_dropsPhrase 70 = .ok (.iadd, 1) := by decide +kernel
theorem dX7_dropsPhrase_71 : decode cX7_dropsPhrase 71 = .ok (.iaload, 1) := by decide +kernel
theorem dX7_dropsPhrase_72 : decode cX7_dropsPhrase 72 = .ok (.iastore, 1) := by decide +kernel
theorem dX7_dropsPhrase_73 : decode cX7_dropsPhrase 73 = .ok (.iconst 0, 1) := by decide +kernel
theorem dX7_dropsPhrase_74 : decode cX7_dropsPhrase 74 = .ok (.istore_n 3, 1) := by decide +kernel
theorem dX7_dropsPhrase_75 : decode cX7_dropsPhrase 75 = .ok (.iload_n 3, 1) := by decide +kernel
theorem dX7_dropsPhrase_76 : decode cX7_dropsPhrase 76 = .ok (.iconst 3, 1) := by decide +kernel
theorem dX7_dropsPhrase_77 : decode cX7_dropsPhrase 77 = .ok (.if_icmp .ge 39, 3) := by decide +kernel
theorem dX7_dropsPhrase_80 : decode cX7_dropsPhrase 80 = .ok (.aload_n 0, 1) := by decide +kernel
theorem dX7_dropsPhrase_81 : decode cX7_dropsPhrase 81 = .ok (.getfield 7, 3) := by decide +kernel
theorem dX7_dropsPhrase_84 : decode cX7_dropsPhrase 84 = .ok (.bipush 33, 2) := by decide +kernel
theorem dX7_dropsPhrase_86 : decode cX7_dropsPhrase 86 = .ok (.bipush 12, 2) := by decide +kernel
theorem dX7_dropsPhrase_88 : decode cX7_dropsPhrase 88 = .ok (.iload_n 3, 1) := by decide +kernel
theorem dX7_dropsPhrase_89 : decode cX7_dropsPhrase 89 = .ok (.imul, 1) := by decide +kernel
theorem dX7_dropsPhrase_90 : decode cX7_dropsPhrase 90 = .ok (.iadd, 1) := by decide +kernel
theorem dX7_dropsPhrase_91 : decode cX7_dropsPhrase 91 = .ok (.iload_n 2, 1) := by decide +kernel
theorem dX7_dropsPhrase_92 : decode cX7_dropsPhrase 92 = .ok (.iadd, 1) := by decide +kernel
theorem dX7_dropsPhrase_93 : decode cX7_dropsPhrase 93 = .ok (.aload_n 0, 1) := by decide +kernel
theorem dX7_dropsPhrase_94 : decode cX7_dropsPhrase 94 = .ok (.getfield 7, 3) := by decide +kernel
theorem dX7_dropsPhrase_97 : decode cX7_dropsPhrase 97 = .ok (.bipush 33, 2) := by decide +kernel
theorem dX7_dropsPhrase_99 : decode cX7_dropsPhrase 99 = .ok (.bipush 12, 2) := by decide +kernel
theorem dX7_dropsPhrase_101 : decode cX7_dropsPhrase 101 = .ok (.iload_n 3, 1) := by decide +kernel
theorem dX7_dropsPhrase_102 : decode cX7_dropsPhrase 102 = .ok (.imul, 1) := by decide +kernel
theorem dX7_dropsPhrase_103 : decode cX7_dropsPhrase 103 = .ok (.iadd, 1) := by decide +kernel
theorem dX7_dropsPhrase_104 : decode cX7_dropsPhrase 104 = .ok (.iload_n 2, 1) := by decide +kernel
theorem dX7_dropsPhrase_105 : decode cX7_dropsPhrase 105 = .ok (.iadd, 1) := by decide +kernel
theorem dX7_dropsPhrase_106 : decode cX7_dropsPhrase 106 = .ok (.iconst 1, 1) := by decide +kernel
theorem dX7_dropsPhrase_107 : decode cX7_dropsPhrase 107 = .ok (.iadd, 1) := by decide +kernel
theorem dX7_dropsPhrase_108 : decode cX7_dropsPhrase 108 = .ok (.iaload, 1) := by decide +kernel
theorem dX7_dropsPhrase_109 : decode cX7_dropsPhrase 109 = .ok (.iastore, 1) := by decide +kernel
theorem dX7_dropsPhrase_110 : decode cX7_dropsPhrase 110 = .ok (.iinc 3 1, 3) := by decide +kernel
theorem dX7_dropsPhrase_113 : decode cX7_dropsPhrase 113 = .ok (.goto (-38), 3) := by decide +kernel
theorem dX7_dropsPhrase_116 : decode cX7_dropsPhrase 116 = .ok (.iinc 2 1, 3) := by decide +kernel
theorem dX7_dropsPhrase_119 : decode cX7_dropsPhrase 119 = .ok (.goto (-96), 3) := by decide +kernel
theorem dX7_dropsPhrase_122 : decode cX7_dropsPhrase 122 = .ok (.aload_n 0, 1) := by decide +kernel
theorem dX7_dropsPhrase_123 : decode cX7_dropsPhrase 123 = .ok (.getfield 7, 3) := by decide +kernel
theorem dX7_dropsPhrase_126 : decode cX7_dropsPhrase 126 = .ok (.iconst 0, 1) := by decide +kernel
theorem dX7_dropsPhrase_127 : decode cX7_dropsPhrase 127 = .ok (.iaload, 1) := by decide +kernel
theorem dX7_dropsPhrase_128 : decode cX7_dropsPhrase 128 = .ok (.ireturn, 1) := by decide +kernel
theorem dX7_sets_0 : decode cX7_sets 0 = .ok (.iload_n 2, 1) := by decide +kernel
theorem dX7_sets_1 : decode cX7_sets 1 = .ok (.i2l, 1) := by decide +kernel
theorem dX7_sets_2 : decode cX7_sets 2 = .ok (.iload_n 3, 1) := by decide +kernel
theorem dX7_sets_3 : decode cX7_sets 3 = .ok (.i2l, 1) := by decide +kernel
theorem dX7_sets_4 : decode cX7_sets 4 = .ok (.iload 4, 2) := by decide +kernel
theorem dX7_sets_6 : decode cX7_sets 6 = .ok (.i2l, 1) := by decide +kernel
theorem dX7_sets_7 : decode cX7_sets 7 = .ok (.invokestatic 47, 3) := by decide +kernel
theorem dX7_sets_10 : decode cX7_sets 10 = .ok (.ifCond .ne 6, 3) := by decide +kernel
theorem dX7_sets_13 : decode cX7_sets 13 = .ok (.bipush (-2), 2) := by decide +kernel
theorem dX7_sets_15 : decode cX7_sets 15 = .ok (.ireturn, 1) := by decide +kernel
theorem dX7_sets_16 : decode cX7_sets 16 = .ok (.aload_n 0, 1) := by decide +kernel
theorem dX7_sets_17 : decode cX7_sets 17 = .ok (.getfield 7, 3) := by decide +kernel
theorem dX7_sets_20 : decode cX7_sets 20 = .ok (.iload_n 1, 1) := by decide +kernel
theorem dX7_sets_21 : decode cX7_sets 21 = .ok (.iaload, 1) := by decide +kernel
theorem dX7_sets_22 : decode cX7_sets 22 = .ok (.istore 5, 2) := by decide +kernel
theorem dX7_sets_24 : decode cX7_sets 24 = .ok (.aload_n 0, 1) := by decide +kernel
theorem dX7_sets_25 : decode cX7_sets 25 = .ok (.getfield 7, 3) := by decide +kernel
theorem dX7_sets_28 : decode cX7_sets 28 = .ok (.iload_n 1, 1) := by decide +kernel
theorem dX7_sets_29 : decode cX7_sets 29 = .ok (.iload_n 2, 1) := by decide +kernel
theorem dX7_sets_30 : decode cX7_sets 30 = .ok (.iastore, 1) := by decide +kernel
theorem dX7_sets_31 : decode cX7_sets 31 = .ok (.iload 5, 2) := by decide +kernel
theorem dX7_sets_33 : decode cX7_sets 33 = .ok (.ireturn, 1) := by decide +kernel
theorem dX7_setsFollows_0 : decode cX7_setsFollows 0 = .ok (.iload_n 1, 1) := by decide +kernel
theorem dX7_setsFollows_1 : decode cX7_setsFollows 1 = .ok (.i2l, 1) := by decide +kernel
theorem dX7_setsFollows_2 : decode cX7_setsFollows 2 = .ok (.lconst 0, 1) := by decide +kernel
theorem dX7_setsFollows_3 : decode cX7_setsFollows 3 = .ok (.ldc2_w 72, 3) := by decide +kernel
theorem dX7_setsFollows_6 : decode cX7_setsFollows 6 = .ok (.invokestatic 47, 3) := by decide +kernel
theorem dX7_setsFollows_9 : decode cX7_setsFollows 9 = .ok (.ifCond .eq 17, 3) := by decide +kernel
theorem dX7_setsFollows_12 : decode cX7_setsFollows 12 = .ok (.aload_n 0, 1) := by decide +kernel
theorem dX7_setsFollows_13 : decode cX7_setsFollows 13 = .ok (.iconst 5, 1) := by decide +kernel
theorem dX7_setsFollows_14 : decode cX7_setsFollows 14 = .ok (.iload_n 1, 1) := by decide +kernel
theorem dX7_setsFollows_15 : decode cX7_setsFollows 15 = .ok (.iadd, 1) := by decide +kernel
theorem dX7_setsFollows_16 : decode cX7_setsFollows 16 = .ok (.iload_n 2, 1) := by decide +kernel
theorem dX7_setsFollows_17 : decode cX7_setsFollows 17 = .ok (.iconst 0, 1) := by decide +kernel
theorem dX7_setsFollows_18 : decode cX7_setsFollows 18 = .ok (.bipush 15, 2) := by decide +kernel
theorem dX7_setsFollows_20 : decode cX7_setsFollows 20 = .ok (.invokevirtual 81, 3) := by decide +kernel
theorem dX7_setsFollows_23 : decode cX7_setsFollows 23 = .ok (.goto 5, 3) := by decide +kernel
theorem dX7_setsFollows_26 : decode cX7_setsFollows 26 = .ok (.bipush (-2), 2) := by decide +kernel
theorem dX7_setsFollows_28 : decode cX7_setsFollows 28 = .ok (.ireturn, 1) := by decide +kernel
theorem dX7_setsMark_0 : decode cX7_setsMark 0 = .ok (.iload_n 1, 1) := by decide +kernel
theorem dX7_setsMark_1 : decode cX7_setsMark 1 = .ok (.i2l, 1) := by decide +kernel
theorem dX7_setsMark_2 : decode cX7_setsMark 2 = .ok (.lconst 1, 1) := by decide +kernel
theorem dX7_setsMark_3 : decode cX7_setsMark 3 = .ok (.ldc2_w 85, 3) := by decide +kernel
theorem dX7_setsMark_6 : decode cX7_setsMark 6 = .ok (.invokestatic 47, 3) := by decide +kernel
theorem dX7_setsMark_9 : decode cX7_setsMark 9 = .ok (.ifCond .eq 17, 3) := by decide +kernel
theorem dX7_setsMark_12 : decode cX7_setsMark 12 = .ok (.aload_n 0, 1) := by decide +kernel
theorem dX7_setsMark_13 : decode cX7_setsMark 13 = .ok (.bipush 108, 2) := by decide +kernel
theorem dX7_setsMark_15 : decode cX7_setsMark 15 = .ok (.iload_n 1, 1) := by decide +kernel
theorem dX7_setsMark_16 : decode cX7_setsMark 16 = .ok (.iadd, 1) := by decide +kernel
theorem dX7_setsMark_17 : decode cX7_setsMark 17 = .ok (.iload_n 2, 1) := by decide +kernel
theorem dX7_setsMark_18 : decode cX7_setsMark 18 = .ok (.iconst 0, 1) := by decide +kernel
theorem dX7_setsMark_19 : decode cX7_setsMark 19 = .ok (.iconst 2, 1) := by decide +kernel
theorem dX7_setsMark_20 : decode cX7_setsMark 20 = .ok (.invokevirtual 81, 3) := by decide +kernel
theorem dX7_setsMark_23 : decode cX7_setsMark 23 = .ok (.goto 5, 3) := by decide +kernel
theorem dX7_setsMark_26 : decode cX7_setsMark 26 = .ok (.bipush (-2), 2) := by decide +kernel
theorem dX7_setsMark_28 : decode cX7_setsMark 28 = .ok (.ireturn, 1) := by decide +kernel
theorem dX7_phrase_0 : decode cX7_phrase 0 = .ok (.aload_n 0, 1) := by decide +kernel
theorem dX7_phrase_1 : decode cX7_phrase 1 = .ok (.invokevirtual 87, 3) := by decide +kernel
theorem dX7_phrase_4 : decode cX7_phrase 4 = .ok (.aload_n 0, 1) := by decide +kernel
theorem dX7_phrase_5 : decode cX7_phrase 5 = .ok (.aload_n 0, 1) := by decide +kernel
theorem dX7_phrase_6 : decode cX7_phrase 6 = .ok (.iload_n 1, 1) := by decide +kernel
theorem dX7_phrase_7 : decode cX7_phrase 7 = .ok (.iload_n 2, 1) := by decide +kernel
theorem dX7_phrase_8 : decode cX7_phrase 8 = .ok (.invokevirtual 90, 3) := by decide +kernel
theorem dX7_phrase_11 : decode cX7_phrase 11 = .ok (.invokevirtual 94, 3) := by decide +kernel
theorem dX7_phrase_14 : decode cX7_phrase 14 = .ok (.ireturn, 1) := by decide +kernel
theorem dX7_drops_0 : decode cX7_drops 0 = .ok (.aload_n 0, 1) := by decide +kernel
theorem dX7_drops_1 : decode cX7_drops 1 = .ok (.invokevirtual 87, 3) := by decide +kernel
theorem dX7_drops_4 : decode cX7_drops 4 = .ok (.aload_n 0, 1) := by decide +kernel
theorem dX7_drops_5 : decode cX7_drops 5 = .ok (.aload_n 0, 1) := by decide +kernel
theorem dX7_drops_6 : decode cX7_drops 6 = .ok (.iload_n 1, 1) := by decide +kernel
theorem dX7_drops_7 : decode cX7_drops 7 = .ok (.invokevirtual 98, 3) := by decide +kernel
theorem dX7_drops_10 : decode cX7_drops 10 = .ok (.invokevirtual 94, 3) := by decide +kernel
theorem dX7_drops_13 : decode cX7_drops 13 = .ok (.ireturn, 1) := by decide +kernel
theorem dX7_begins_0 : decode cX7_begins 0 = .ok (.aload_n 0, 1) := by decide +kernel
theorem dX7_begins_1 : decode cX7_begins 1 = .ok (.invokevirtual 87, 3) := by decide +kernel
theorem dX7_begins_4 : decode cX7_begins 4 = .ok (.aload_n 0, 1) := by decide +kernel
theorem dX7_begins_5 : decode cX7_begins 5 = .ok (.aload_n 0, 1) := by decide +kernel
theorem dX7_begins_6 : decode cX7_begins 6 = .ok (.iconst 3, 1) := by decide +kernel
theorem dX7_begins_7 : decode cX7_begins 7 = .ok (.iload_n 1, 1) := by decide +kernel
theorem dX7_begins_8 : decode cX7_begins 8 = .ok (.iconst 0, 1) := by decide +kernel
theorem dX7_begins_9 : decode cX7_begins 9 = .ok (.bipush 15, 2) := by decide +kernel
theorem dX7_begins_11 : decode cX7_begins 11 = .ok (.invokevirtual 81, 3) := by decide +kernel
theorem dX7_begins_14 : decode cX7_begins 14 = .ok (.invokevirtual 94, 3) := by decide +kernel
theorem dX7_begins_17 : decode cX7_begins 17 = .ok (.ireturn, 1) := by decide +kernel
theorem dX7_ends_0 : decode cX7_ends 0 = .ok (.aload_n 0, 1) := by decide +kernel
theorem dX7_ends_1 : decode cX7_ends 1 = .ok (.invokevirtual 87, 3) := by decide +kernel
theorem dX7_ends_4 : decode cX7_ends 4 = .ok (.aload_n 0, 1) := by decide +kernel
theorem dX7_ends_5 : decode cX7_ends 5 = .ok (.aload_n 0, 1) := by decide +kernel
theorem dX7_ends_6 : decode cX7_ends 6 = .ok (.iconst 4, 1) := by decide +kernel
theorem dX7_ends_7 : decode cX7_ends 7 = .ok (.iload_n 1, 1) := by decide +kernel
theorem dX7_ends_8 : decode cX7_ends 8 = .ok (.iconst 0, 1) := by decide +kernel
theorem dX7_ends_9 : decode cX7_ends 9 = .ok (.bipush 15, 2) := by decide +kernel
theorem dX7_ends_11 : decode cX7_ends 11 = .ok (.invokevirtual 81, 3) := by decide +kernel
theorem dX7_ends_14 : decode cX7_ends 14 = .ok (.invokevirtual 94, 3) := by decide +kernel
theorem dX7_ends_17 : decode cX7_ends 17 = .ok (.ireturn, 1) := by decide +kernel
theorem dX7_follows_0 : decode cX7_follows 0 = .ok (.aload_n 0, 1) := by decide +kernel
theorem dX7_follows_1 : decode cX7_follows 1 = .ok (.invokevirtual 87, 3) := by decide +kernel
theorem dX7_follows_4 : decode cX7_follows 4 = .ok (.aload_n 0, 1) := by decide +kernel
theorem dX7_follows_5 : decode cX7_follows 5 = .ok (.aload_n 0, 1) := by decide +kernel
theorem dX7_follows_6 : decode cX7_follows 6 = .ok (.iload_n 1, 1) := by decide +kernel
theorem dX7_follows_7 : decode cX7_follows 7 = .ok (.iload_n 2, 1) := by decide +kernel
theorem dX7_follows_8 : decode cX7_follows 8 = .ok (.invokevirtual 101, 3) := by decide +kernel
theorem dX7_follows_11 : decode cX7_follows 11 = .ok (.invokevirtual 94, 3) := by decide +kernel
theorem dX7_follows_14 : decode cX7_follows 14 = .ok (.ireturn, 1) := by decide +kernel
theorem dX7_metre_0 : decode cX7_metre 0 = .ok (.aload_n 0, 1) := by decide +kernel
theorem dX7_metre_1 : decode cX7_metre 1 = .ok (.invokevirtual 87, 3) := by decide +kernel
theorem dX7_metre_4 : decode cX7_metre 4 = .ok (.aload_n 0, 1) := by decide +kernel
theorem dX7_metre_5 : decode cX7_metre 5 = .ok (.aload_n 0, 1) := by decide +kernel
theorem dX7_metre_6 : decode cX7_metre 6 = .ok (.iconst 2, 1) := by decide +kernel
theorem dX7_metre_7 : decode cX7_metre 7 = .ok (.iload_n 1, 1) := by decide +kernel
theorem dX7_metre_8 : decode cX7_metre 8 = .ok (.iconst 1, 1) := by decide +kernel
theorem dX7_metre_9 : decode cX7_metre 9 = .ok (.bipush 40, 2) := by decide +kernel
theorem dX7_metre_11 : decode cX7_metre 11 = .ok (.invokevirtual 81, 3) := by decide +kernel
theorem dX7_metre_14 : decode cX7_metre 14 = .ok (.invokevirtual 94, 3) := by decide +kernel
theorem dX7_metre_17 : decode cX7_metre 17 = .ok (.ireturn, 1) := by decide +kernel
theorem dX7_marks_0 : decode cX7_marks 0 = .ok (.aload_n 0, 1) := by decide +kernel
theorem dX7_marks_1 : decode cX7_marks 1 = .ok (.invokevirtual 87, 3) := by decide +kernel
theorem dX7_marks_4 : decode cX7_marks 4 = .ok (.aload_n 0, 1) := by decide +kernel
theorem dX7_marks_5 : decode cX7_marks 5 = .ok (.aload_n 0, 1) := by decide +kernel
theorem dX7_marks_6 : decode cX7_marks 6 = .ok (.iload_n 1, 1) := by decide +kernel
theorem dX7_marks_7 : decode cX7_marks 7 = .ok (.iload_n 2, 1) := by decide +kernel
theorem dX7_marks_8 : decode cX7_marks 8 = .ok (.invokevirtual 104, 3) := by decide +kernel
theorem dX7_marks_11 : decode cX7_marks 11 = .ok (.invokevirtual 94, 3) := by decide +kernel
theorem dX7_marks_14 : decode cX7_marks 14 = .ok (.ireturn, 1) := by decide +kernel
theorem dX7_habitOf_0 : decode cX7_habitOf 0 = .ok (.aload_n 0, 1) := by decide +kernel
theorem dX7_habitOf_1 : decode cX7_habitOf 1 = .ok (.getfield 7, 3) := by decide +kernel
theorem dX7_habitOf_4 : decode cX7_habitOf 4 = .ok (.bipush 33, 2) := by decide +kernel
theorem dX7_habitOf_6 : decode cX7_habitOf 6 = .ok (.bipush 12, 2) := by decide +kernel
theorem dX7_habitOf_8 : decode cX7_habitOf 8 = .ok (.iload_n 1, 1) := by decide +kernel
theorem dX7_habitOf_9 : decode cX7_habitOf 9 = .ok (.imul, 1) := by decide +kernel
theorem dX7_habitOf_10 : decode cX7_habitOf 10 = .ok (.iadd, 1) := by decide +kernel
theorem dX7_habitOf_11 : decode cX7_habitOf 11 = .ok (.iload_n 2, 1) := by decide +kernel
theorem dX7_habitOf_12 : decode cX7_habitOf 12 = .ok (.iadd, 1) := by decide +kernel
theorem dX7_habitOf_13 : decode cX7_habitOf 13 = .ok (.iaload, 1) := by decide +kernel
theorem dX7_habitOf_14 : decode cX7_habitOf 14 = .ok (.ireturn, 1) := by decide +kernel
theorem dX7_tellPhrase_0 : decode cX7_tellPhrase 0 = .ok (.iload_n 2, 1) := by decide +kernel
theorem dX7_tellPhrase_1 : decode cX7_tellPhrase 1 = .ok (.tableswitch 77 0 3 #[31, 41, 54, 67], 31) := by decide +kernel
theorem dX7_tellPhrase_32 : decode cX7_tellPhrase 32 = .ok (.aload_n 0, 1) := by decide +kernel
theorem dX7_tellPhrase_33 : decode cX7_tellPhrase 33 = .ok (.getfield 7, 3) := by decide +kernel
theorem dX7_tellPhrase_36 : decode cX7_tellPhrase 36 = .ok (.bipush 9, 2) := by decide +kernel
theorem dX7_tellPhrase_38 : decode cX7_tellPhrase 38 = .ok (.iload_n 1, 1) := by decide +kernel
theorem dX7_tellPhrase_39 : decode cX7_tellPhrase 39 = .ok (.iadd, 1) := by decide +kernel
theorem dX7_tellPhrase_40 : decode cX7_tellPhrase 40 = .ok (.iaload, 1) := by decide +kernel
theorem dX7_tellPhrase_41 : decode cX7_tellPhrase 41 = .ok (.ireturn, 1) := by decide +kernel
theorem dX7_tellPhrase_42 : decode cX7_tellPhrase 42 = .ok (.aload_n 0, 1) := by decide +kernel
theorem dX7_tellPhrase_43 : decode cX7_tellPhrase 43 = .ok (.getfield 7, 3) := by decide +kernel
theorem dX7_tellPhrase_46 : decode cX7_tellPhrase 46 = .ok (.bipush 21, 2) := by decide +kernel
theorem dX7_tellPhrase_48 : decode cX7_tellPhrase 48 = .ok (.iload_n 1, 1) := by decide +kernel
theorem dX7_tellPhrase_49 : decode cX7_tellPhrase 49 = .ok (.iadd, 1) := by decide +kernel
theorem dX7_tellPhrase_50 : decode cX7_tellPhrase 50 = .ok (.iaload, 1) := by decide +kernel
theorem dX7_tellPhrase_51 : decode cX7_tellPhrase 51 = .ok (.invokestatic 107, 3) := by decide +kernel
theorem dX7_tellPhrase_54 : decode cX7_tellPhrase 54 = .ok (.ireturn, 1) := by decide +kernel
theorem dX7_tellPhrase_55 : decode cX7_tellPhrase 55 = .ok (.aload_n 0, 1) := by decide +kernel
theorem dX7_tellPhrase_56 : decode cX7_tellPhrase 56 = .ok (.getfield 7, 3) := by decide +kernel
theorem dX7_tellPhrase_59 : decode cX7_tellPhrase 59 = .ok (.bipush 21, 2) := by decide +kernel
theorem dX7_tellPhrase_61 : decode cX7_tellPhrase 61 = .ok (.iload_n 1, 1) := by decide +kernel
theorem dX7_tellPhrase_62 : decode cX7_tellPhrase 62 = .ok (.iadd, 1) := by decide +kernel
theorem dX7_tellPhrase_63 : decode cX7_tellPhrase 63 = .ok (.iaload, 1) := by decide +kernel
theorem dX7_tellPhrase_64 : decode cX7_tellPhrase 64 = .ok (.invokestatic 110, 3) := by decide +kernel
theorem dX7_tellPhrase_67 : decode cX7_tellPhrase 67 = .ok (.ireturn, 1) := by decide +kernel
theorem dX7_tellPhrase_68 : decode cX7_tellPhrase 68 = .ok (.aload_n 0, 1) := by decide +kernel
theorem dX7_tellPhrase_69 : decode cX7_tellPhrase 69 = .ok (.getfield 7, 3) := by decide +kernel
theorem dX7_tellPhrase_72 : decode cX7_tellPhrase 72 = .ok (.bipush 21, 2) := by decide +kernel
theorem dX7_tellPhrase_74 : decode cX7_tellPhrase 74 = .ok (.iload_n 1, 1) := by decide +kernel
theorem dX7_tellPhrase_75 : decode cX7_tellPhrase 75 = .ok (.iadd, 1) := by decide +kernel
theorem dX7_tellPhrase_76 : decode cX7_tellPhrase 76 = .ok (.iaload, 1) := by decide +kernel
theorem dX7_tellPhrase_77 : decode cX7_tellPhrase 77 = .ok (.ireturn, 1) := by decide +kernel
theorem dX7_tellPhrase_78 : decode cX7_tellPhrase 78 = .ok (.aload_n 0, 1) := by decide +kernel
theorem dX7_tellPhrase_79 : decode cX7_tellPhrase 79 = .ok (.iload_n 2, 1) := by decide +kernel
theorem dX7_tellPhrase_80 : decode cX7_tellPhrase 80 = .ok (.iconst 4, 1) := by decide +kernel
theorem dX7_tellPhrase_81 : decode cX7_tellPhrase 81 = .ok (.isub, 1) := by decide +kernel
theorem dX7_tellPhrase_82 : decode cX7_tellPhrase 82 = .ok (.iload_n 1, 1) := by decide +kernel
theorem dX7_tellPhrase_83 : decode cX7_tellPhrase 83 = .ok (.invokevirtual 113, 3) := by decide +kernel
theorem dX7_tellPhrase_86 : decode cX7_tellPhrase 86 = .ok (.ireturn, 1) := by decide +kernel
theorem dX7_of_0 : decode cX7_of 0 = .ok (.aload_n 0, 1) := by decide +kernel
theorem dX7_of_1 : decode cX7_of 1 = .ok (.iload_n 1, 1) := by decide +kernel
theorem dX7_of_2 : decode cX7_of 2 = .ok (.invokevirtual 78, 3) := by decide +kernel
theorem dX7_of_5 : decode cX7_of 5 = .ok (.ifCond .eq 24, 3) := by decide +kernel
theorem dX7_of_8 : decode cX7_of 8 = .ok (.iload_n 2, 1) := by decide +kernel
theorem dX7_of_9 : decode cX7_of 9 = .ok (.i2l, 1) := by decide +kernel
theorem dX7_of_10 : decode cX7_of 10 = .ok (.lconst 0, 1) := by decide +kernel
theorem dX7_of_11 : decode cX7_of 11 = .ok (.ldc2_w 116, 3) := by decide +kernel
theorem dX7_of_14 : decode cX7_of 14 = .ok (.invokestatic 47, 3) := by decide +kernel
theorem dX7_of_17 : decode cX7_of 17 = .ok (.ifCond .eq 12, 3) := by decide +kernel
theorem dX7_of_20 : decode cX7_of 20 = .ok (.aload_n 0, 1) := by decide +kernel
theorem dX7_of_21 : decode cX7_of 21 = .ok (.iload_n 1, 1) := by decide +kernel
theorem dX7_of_22 : decode cX7_of 22 = .ok (.iload_n 2, 1) := by decide +kernel
theorem dX7_of_23 : decode cX7_of 23 = .ok (.invokevirtual 118, 3) := by decide +kernel
theorem dX7_of_26 : decode cX7_of 26 = .ok (.goto 7, 3) := by decide +kernel
theorem dX7_of_29 : decode cX7_of 29 = .ok (.aload_n 0, 1) := by decide +kernel
theorem dX7_of_30 : decode cX7_of 30 = .ok (.invokevirtual 65, 3) := by decide +kernel
theorem dX7_of_33 : decode cX7_of 33 = .ok (.ireturn, 1) := by decide +kernel
theorem dX7_letter_0 : decode cX7_letter 0 = .ok (.iload_n 1, 1) := by decide +kernel
theorem dX7_letter_1 : decode cX7_letter 1 = .ok (.i2l, 1) := by decide +kernel
theorem dX7_letter_2 : decode cX7_letter 2 = .ok (.lconst 1, 1) := by decide +kernel
theorem dX7_letter_3 : decode cX7_letter 3 = .ok (.ldc2_w 70, 3) := by decide +kernel
theorem dX7_letter_6 : decode cX7_letter 6 = .ok (.invokestatic 47, 3) := by decide +kernel
theorem dX7_letter_9 : decode cX7_letter 9 = .ok (.ifCond .ne 8, 3) := by decide +kernel
theorem dX7_letter_12 : decode cX7_letter 12 = .ok (.aload_n 0, 1) := by decide +kernel
theorem dX7_letter_13 : decode cX7_letter 13 = .ok (.invokevirtual 65, 3) := by decide +kernel
theorem dX7_letter_16 : decode cX7_letter 16 = .ok (.ireturn, 1) := by decide +kernel
theorem dX7_letter_17 : decode cX7_letter 17 = .ok (.aload_n 0, 1) := by decide +kernel
theorem dX7_letter_18 : decode cX7_letter 18 = .ok (.getfield 7, 3) := by decide +kernel
theorem dX7_letter_21 : decode cX7_letter 21 = .ok (.iconst 1, 1) := by decide +kernel
theorem dX7_letter_22 : decode cX7_letter 22 = .ok (.iaload, 1) := by decide +kernel
theorem dX7_letter_23 : decode cX7_letter 23 = .ok (.bipush 40, 2) := by decide +kernel
theorem dX7_letter_25 : decode cX7_letter 25 = .ok (.if_icmp .ne 8, 3) := by decide +kernel
theorem dX7_letter_28 : decode cX7_letter 28 = .ok (.aload_n 0, 1) := by decide +kernel
theorem dX7_letter_29 : decode cX7_letter 29 = .ok (.invokevirtual 62, 3) := by decide +kernel
theorem dX7_letter_32 : decode cX7_letter 32 = .ok (.ireturn, 1) := by decide +kernel
theorem dX7_letter_33 : decode cX7_letter 33 = .ok (.aload_n 0, 1) := by decide +kernel
theorem dX7_letter_34 : decode cX7_letter 34 = .ok (.invokevirtual 87, 3) := by decide +kernel
theorem dX7_letter_37 : decode cX7_letter 37 = .ok (.aload_n 0, 1) := by decide +kernel
theorem dX7_letter_38 : decode cX7_letter 38 = .ok (.getfield 7, 3) := by decide +kernel
theorem dX7_letter_41 : decode cX7_letter 41 = .ok (.bipush 69, 2) := by decide +kernel
theorem dX7_letter_43 : decode cX7_letter 43 = .ok (.aload_n 0, 1) := by decide +kernel
theorem dX7_letter_44 : decode cX7_letter 44 = .ok (.getfield 7, 3) := by decide +kernel
theorem dX7_letter_47 : decode cX7_letter 47 = .ok (.iconst 1, 1) := by decide +kernel
theorem dX7_letter_48 : decode cX7_letter 48 = .ok (.iaload, 1) := by decide +kernel
theorem dX7_letter_49 : decode cX7_letter 49 = .ok (.iadd, 1) := by decide +kernel
theorem dX7_letter_50 : decode cX7_letter 50 = .ok (.iload_n 1, 1) := by decide +kernel
theorem dX7_letter_51 : decode cX7_letter 51 = .ok (.iastore, 1) := by decide +kernel
theorem dX7_letter_52 : decode cX7_letter 52 = .ok (.aload_n 0, 1) := by decide +kernel
theorem dX7_letter_53 : decode cX7_letter 53 = .ok (.getfield 7, 3) := by decide +kernel
theorem dX7_letter_56 : decode cX7_letter 56 = .ok (.iconst 1, 1) := by decide +kernel
theorem dX7_letter_57 : decode cX7_letter 57 = .ok (.dup2, 1) := by decide +kernel
theorem dX7_letter_58 : decode cX7_letter 58 = .ok (.iaload, 1) := by decide +kernel
theorem dX7_letter_59 : decode cX7_letter 59 = .ok (.iconst 1, 1) := by decide +kernel
theorem dX7_letter_60 : decode cX7_letter 60 = .ok (.iadd, 1) := by decide +kernel
theorem dX7_letter_61 : decode cX7_letter 61 = .ok (.iastore, 1) := by decide +kernel
theorem dX7_letter_62 : decode cX7_letter 62 = .ok (.aload_n 0, 1) := by decide +kernel
theorem dX7_letter_63 : decode cX7_letter 63 = .ok (.invokevirtual 59, 3) := by decide +kernel
theorem dX7_letter_66 : decode cX7_letter 66 = .ok (.aload_n 0, 1) := by decide +kernel
theorem dX7_letter_67 : decode cX7_letter 67 = .ok (.getfield 7, 3) := by decide +kernel
theorem dX7_letter_70 : decode cX7_letter 70 = .ok (.iconst 1, 1) := by decide +kernel
theorem dX7_letter_71 : decode cX7_letter 71 = .ok (.iaload, 1) := by decide +kernel
theorem dX7_letter_72 : decode cX7_letter 72 = .ok (.ireturn, 1) := by decide +kernel
theorem dX7_wipes_0 : decode cX7_wipes 0 = .ok (.aload_n 0, 1) := by decide +kernel
theorem dX7_wipes_1 : decode cX7_wipes 1 = .ok (.invokevirtual 87, 3) := by decide +kernel
theorem dX7_wipes_4 : decode cX7_wipes 4 = .ok (.aload_n 0, 1) := by decide +kernel
theorem dX7_wipes_5 : decode cX7_wipes 5 = .ok (.getfield 7, 3) := by decide +kernel
theorem dX7_wipes_8 : decode cX7_wipes 8 = .ok (.iconst 1, 1) := by decide +kernel
theorem dX7_wipes_9 : decode cX7_wipes 9 = .ok (.iaload, 1) := by decide +kernel
theorem dX7_wipes_10 : decode cX7_wipes 10 = .ok (.istore_n 1, 1) := by decide +kernel
theorem dX7_wipes_11 : decode cX7_wipes 11 = .ok (.aload_n 0, 1) := by decide +kernel
theorem dX7_wipes_12 : decode cX7_wipes 12 = .ok (.getfield 7, 3) := by decide +kernel
theorem dX7_wipes_15 : decode cX7_wipes 15 = .ok (.iconst 1, 1) := by decide +kernel
theorem dX7_wipes_16 : decode cX7_wipes 16 = .ok (.iconst 0, 1) := by decide +kernel
theorem dX7_wipes_17 : decode cX7_wipes 17 = .ok (.iastore, 1) := by decide +kernel
theorem dX7_wipes_18 : decode cX7_wipes 18 = .ok (.aload_n 0, 1) := by decide +kernel
theorem dX7_wipes_19 : decode cX7_wipes 19 = .ok (.invokevirtual 59, 3) := by decide +kernel
theorem dX7_wipes_22 : decode cX7_wipes 22 = .ok (.iload_n 1, 1) := by decide +kernel
theorem dX7_wipes_23 : decode cX7_wipes 23 = .ok (.ireturn, 1) := by decide +kernel
theorem dX7_lastPlace_0 : decode cX7_lastPlace 0 = .ok (.aload_n 0, 1) := by decide +kernel
theorem dX7_lastPlace_1 : decode cX7_lastPlace 1 = .ok (.getfield 121, 3) := by decide +kernel
theorem dX7_lastPlace_4 : decode cX7_lastPlace 4 = .ok (.ifCond .eq 12, 3) := by decide +kernel
theorem dX7_lastPlace_7 : decode cX7_lastPlace 7 = .ok (.aload_n 0, 1) := by decide +kernel
theorem dX7_lastPlace_8 : decode cX7_lastPlace 8 = .ok (.getfield 7, 3) := by decide +kernel
theorem dX7_lastPlace_11 : decode cX7_lastPlace 11 = .ok (.iconst 1, 1) := by decide +kernel
theorem dX7_lastPlace_12 : decode cX7_lastPlace 12 = .ok (.iaload, 1) := by decide +kernel
theorem dX7_lastPlace_13 : decode cX7_lastPlace 13 = .ok (.goto 9, 3) := by decide +kernel
theorem dX7_lastPlace_16 : decode cX7_lastPlace 16 = .ok (.aload_n 0, 1) := by decide +kernel
theorem dX7_lastPlace_17 : decode cX7_lastPlace 17 = .ok (.getfield 7, 3) := by decide +kernel
theorem dX7_lastPlace_20 : decode cX7_lastPlace 20 = .ok (.iconst 2, 1) := by decide +kernel
theorem dX7_lastPlace_21 : decode cX7_lastPlace 21 = .ok (.iaload, 1) := by decide +kernel
theorem dX7_lastPlace_22 : decode cX7_lastPlace 22 = .ok (.ireturn, 1) := by decide +kernel
theorem dX7_standsAhead_0 : decode cX7_standsAhead 0 = .ok (.iload_n 2, 1) := by decide +kernel
theorem dX7_standsAhead_1 : decode cX7_standsAhead 1 = .ok (.istore_n 3, 1) := by decide +kernel
theorem dX7_standsAhead_2 : decode cX7_standsAhead 2 = .ok (.iconst 1, 1) := by decide +kernel
theorem dX7_standsAhead_3 : decode cX7_standsAhead 3 = .ok (.istore 4, 2) := by decide +kernel
theorem dX7_standsAhead_5 : decode cX7_standsAhead 5 = .ok (.aload_n 0, 1) := by decide +kernel
theorem dX7_standsAhead_6 : decode cX7_standsAhead 6 = .ok (.getfield 7, 3) := by decide +kernel
theorem dX7_standsAhead_9 : decode cX7_standsAhead 9 = .ok (.bipush 21, 2) := by decide +kernel
theorem dX7_standsAhead_11 : decode cX7_standsAhead 11 = .ok (.iload_n 1, 1) := by decide +kernel
theorem dX7_standsAhead_12 : decode cX7_standsAhead 12 = .ok (.iadd, 1) := by decide +kernel
theorem dX7_standsAhead_13 : decode cX7_standsAhead 13 = .ok (.iaload, 1) := by decide +kernel
theorem dX7_standsAhead_14 : decode cX7_standsAhead 14 = .ok (.istore 5, 2) := by decide +kernel
theorem dX7_standsAhead_16 : decode cX7_standsAhead 16 = .ok (.iload 5, 2) := by decide +kernel
theorem dX7_standsAhead_18 : decode cX7_standsAhead 18 = .ok (.ifCond .le 45, 3) := by decide +kernel
theorem dX7_standsAhead_21 : decode cX7_standsAhead 21 = .ok (.iload 4, 2) := by decide +kernel
theorem dX7_standsAhead_23 : decode cX7_standsAhead 23 = .ok (.ifCond .eq 40, 3) := by decide +kernel
theorem dX7_standsAhead_26 : decode cX7_standsAhead 26 = .ok (.iinc 3 (-1), 3) := by decide +kernel
theorem dX7_standsAhead_29 : decode cX7_standsAhead 29 = .ok (.aload_n 0, 1) := by decide +kernel
theorem dX7_standsAhead_30 : decode cX7_standsAhead 30 = .ok (.getfield 7, 3) := by decide +kernel
theorem dX7_standsAhead_33 : decode cX7_standsAhead 33 = .ok (.bipush 69, 2) := by decide +kernel
theorem dX7_standsAhead_35 : decode cX7_standsAhead 35 = .ok (.iload_n 3, 1) := by decide +kernel
theorem dX7_standsAhead_36 : decode cX7_standsAhead 36 = .ok (.iadd, 1) := by decide +kernel
theorem dX7_standsAhead_37 : decode cX7_standsAhead 37 = .ok (.iaload, 1) := by decide +kernel
theorem dX7_standsAhead_38 : decode cX7_standsAhead 38 = .ok (.iload 5, 2) := by decide +kernel
theorem dX7_standsAhead_40 : decode cX7_standsAhead 40 = .ok (.bipush 10, 2) := by decide +kernel
theorem dX7_standsAhead_42 : decode cX7_standsAhead 42 = .ok (.irem, 1) := by decide +kernel
theorem dX7_standsAhead_43 : decode cX7_standsAhead 43 = .ok (.if_icmp .ne 7, 3) := by decide +kernel
theorem dX7_standsAhead_46 : decode cX7_standsAhead 46 = .ok (.iconst 1, 1) := by decide +kernel
theorem dX7_standsAhead_47 : decode cX7_standsAhead 47 = .ok (.goto 4, 3) := by decide +kernel
theorem dX7_standsAhead_50 : decode cX7_standsAhead 50 = .ok (.iconst 0, 1) := by decide +kernel
theorem dX7_standsAhead_51 : decode cX7_standsAhead 51 = .ok (.istore 4, 2) := by decide +kernel
theorem dX7_standsAhead_53 : decode cX7_standsAhead 53 = .ok (.iload 5, 2) := by decide +kernel
theorem dX7_standsAhead_55 : decode cX7_standsAhead 55 = .ok (.bipush 10, 2) := by decide +kernel
theorem dX7_standsAhead_57 : decode cX7_standsAhead 57 = .ok (.idiv, 1) := by decide +kernel
theorem dX7_standsAhead_58 : decode cX7_standsAhead 58 = .ok (.istore 5, 2) := by decide +kernel
theorem dX7_standsAhead_60 : decode cX7_standsAhead 60 = .ok (.goto (-44), 3) := by decide +kernel
theorem dX7_standsAhead_63 : decode cX7_standsAhead 63 = .ok (.iload 4, 2) := by decide +kernel
theorem dX7_standsAhead_65 : decode cX7_standsAhead 65 = .ok (.ireturn, 1) := by decide +kernel
theorem dX7_isMark_0 : decode cX7_isMark 0 = .ok (.iload_n 1, 1) := by decide +kernel
theorem dX7_isMark_1 : decode cX7_isMark 1 = .ok (.aload_n 0, 1) := by decide +kernel
theorem dX7_isMark_2 : decode cX7_isMark 2 = .ok (.getfield 7, 3) := by decide +kernel
theorem dX7_isMark_5 : decode cX7_isMark 5 = .ok (.iconst 2, 1) := by decide +kernel
theorem dX7_isMark_6 : decode cX7_isMark 6 = .ok (.iaload, 1) := by decide +kernel
theorem dX7_isMark_7 : decode cX7_isMark 7 = .ok (.if_icmp .ge 24, 3) := by decide +kernel
theorem dX7_isMark_10 : decode cX7_isMark 10 = .ok (.iload_n 1, 1) := by decide +kernel
theorem dX7_isMark_11 : decode cX7_isMark 11 = .ok (.ifCond .le 20, 3) := by decide +kernel
theorem dX7_isMark_14 : decode cX7_isMark 14 = .ok (.aload_n 0, 1) := by decide +kernel
theorem dX7_isMark_15 : decode cX7_isMark 15 = .ok (.getfield 7, 3) := by decide +kernel
theorem dX7_isMark_18 : decode cX7_isMark 18 = .ok (.bipush 108, 2) := by decide +kernel
theorem dX7_isMark_20 : decode cX7_isMark 20 = .ok (.iload_n 1, 1) := by decide +kernel
theorem dX7_isMark_21 : decode cX7_isMark 21 = .ok (.iadd, 1) := by decide +kernel
theorem dX7_isMark_22 : decode cX7_isMark 22 = .ok (.iaload, 1) := by decide +kernel
theorem dX7_isMark_23 : decode cX7_isMark 23 = .ok (.iload_n 2, 1) := by decide +kernel
theorem dX7_isMark_24 : decode cX7_isMark 24 = .ok (.if_icmp .ne 7, 3) := by decide +kernel
theorem dX7_isMark_27 : decode cX7_isMark 27 = .ok (.iconst 1, 1) := by decide +kernel
theorem dX7_isMark_28 : decode cX7_isMark 28 = .ok (.goto 4, 3) := by decide +kernel
theorem dX7_isMark_31 : decode cX7_isMark 31 = .ok (.iconst 0, 1) := by decide +kernel
theorem dX7_isMark_32 : decode cX7_isMark 32 = .ok (.ireturn, 1) := by decide +kernel
theorem dX7_leads_0 : decode cX7_leads 0 = .ok (.iload_n 2, 1) := by decide +kernel
theorem dX7_leads_1 : decode cX7_leads 1 = .ok (.aload_n 0, 1) := by decide +kernel
theorem dX7_leads_2 : decode cX7_leads 2 = .ok (.getfield 121, 3) := by decide +kernel
theorem dX7_leads_5 : decode cX7_leads 5 = .ok (.ifCond .eq 18, 3) := by decide +kernel
theorem dX7_leads_8 : decode cX7_leads 8 = .ok (.aload_n 0, 1) := by decide +kernel
theorem dX7_leads_9 : decode cX7_leads 9 = .ok (.getfield 7, 3) := by decide +kernel
theorem dX7_leads_12 : decode cX7_leads 12 = .ok (.bipush 21, 2) := by decide +kernel
theorem dX7_leads_14 : decode cX7_leads 14 = .ok (.iload_n 1, 1) := by decide +kernel
theorem dX7_leads_15 : decode cX7_leads 15 = .ok (.iadd, 1) := by decide +kernel
theorem dX7_leads_16 : decode cX7_leads 16 = .ok (.iaload, 1) := by decide +kernel
theorem dX7_leads_17 : decode cX7_leads 17 = .ok (.invokestatic 107, 3) := by decide +kernel
theorem dX7_leads_20 : decode cX7_leads 20 = .ok (.goto 15, 3) := by decide +kernel
theorem dX7_leads_23 : decode cX7_leads 23 = .ok (.aload_n 0, 1) := by decide +kernel
theorem dX7_leads_24 : decode cX7_leads 24 = .ok (.getfield 7, 3) := by decide +kernel
theorem dX7_leads_27 : decode cX7_leads 27 = .ok (.bipush 21, 2) := by decide +kernel
theorem dX7_leads_29 : decode cX7_leads 29 = .ok (.iload_n 1, 1) := by decide +kernel
theorem dX7_leads_30 : decode cX7_leads 30 = .ok (.iadd, 1) := by decide +kernel
theorem dX7_leads_31 : decode cX7_leads 31 = .ok (.iaload, 1) := by decide +kernel
theorem dX7_leads_32 : decode cX7_leads 32 = .ok (.invokestatic 110, 3) := by decide +kernel
theorem dX7_leads_35 : decode cX7_leads 35 = .ok (.iadd, 1) := by decide +kernel
theorem dX7_leads_36 : decode cX7_leads 36 = .ok (.istore_n 3, 1) := by decide +kernel
theorem dX7_leads_37 : decode cX7_leads 37 = .ok (.iload_n 3, 1) := by decide +kernel
theorem dX7_leads_38 : decode cX7_leads 38 = .ok (.aload_n 0, 1) := by decide +kernel
theorem dX7_leads_39 : decode cX7_leads 39 = .ok (.invokevirtual 125, 3) := by decide +kernel
theorem dX7_leads_42 : decode cX7_leads 42 = .ok (.if_icmp .le 5, 3) := by decide +kernel
theorem dX7_leads_45 : decode cX7_leads 45 = .ok (.iconst (-1), 1) := by decide +kernel
theorem dX7_leads_46 : decode cX7_leads 46 = .ok (.ireturn, 1) := by decide +kernel
theorem dX7_leads_47 : decode cX7_leads 47 = .ok (.aload_n 0, 1) := by decide +kernel
theorem dX7_leads_48 : decode cX7_leads 48 = .ok (.getfield 121, 3) := by decide +kernel
theorem dX7_leads_51 : decode cX7_leads 51 = .ok (.ifCond .eq 18, 3) := by decide +kernel
theorem dX7_leads_54 : decode cX7_leads 54 = .ok (.aload_n 0, 1) := by decide +kernel
theorem dX7_leads_55 : decode cX7_leads 55 = .ok (.iload_n 1, 1) := by decide +kernel
theorem dX7_leads_56 : decode cX7_leads 56 = .ok (.iload_n 3, 1) := by decide +kernel
theorem dX7_leads_57 : decode cX7_leads 57 = .ok (.invokevirtual 128, 3) := by decide +kernel
theorem dX7_leads_60 : decode cX7_leads 60 = .ok (.ifCond .eq 7, 3) := by decide +kernel
theorem dX7_leads_63 : decode cX7_leads 63 = .ok (.iload_n 3, 1) := by decide +kernel
theorem dX7_leads_64 : decode cX7_leads 64 = .ok (.goto 4, 3) := by decide +kernel
theorem dX7_leads_67 : decode cX7_leads 67 = .ok (.iconst (-1), 1) := by decide +kernel
theorem dX7_leads_68 : decode cX7_leads 68 = .ok (.ireturn, 1) := by decide +kernel
theorem dX7_leads_69 : decode cX7_leads 69 = .ok (.aload_n 0, 1) := by decide +kernel
theorem dX7_leads_70 : decode cX7_leads 70 = .ok (.iload_n 3, 1) := by decide +kernel
theorem dX7_leads_71 : decode cX7_leads 71 = .ok (.iconst 2, 1) := by decide +kernel
theorem dX7_leads_72 : decode cX7_leads 72 = .ok (.invokevirtual 132, 3) := by decide +kernel
theorem dX7_leads_75 : decode cX7_leads 75 = .ok (.ifCond .ne 7, 3) := by decide +kernel
theorem dX7_leads_78 : decode cX7_leads 78 = .ok (.iconst 1, 1) := by decide +kernel
theorem dX7_leads_79 : decode cX7_leads 79 = .ok (.goto 4, 3) := by decide +kernel
theorem dX7_leads_82 : decode cX7_leads 82 = .ok (.iconst 0, 1) := by decide +kernel
theorem dX7_leads_83 : decode cX7_leads 83 = .ok (.istore 4, 2) := by decide +kernel
theorem dX7_leads_85 : decode cX7_leads 85 = .ok (.iload_n 2, 1) := by decide +kernel
theorem dX7_leads_86 : decode cX7_leads 86 = .ok (.iconst 1, 1) := by decide +kernel
theorem dX7_leads_87 : decode cX7_leads 87 = .ok (.iadd, 1) := by decide +kernel
theorem dX7_leads_88 : decode cX7_leads 88 = .ok (.istore 5, 2) := by decide +kernel
theorem dX7_leads_90 : decode cX7_leads 90 = .ok (.iload 5, 2) := by decide +kernel
theorem dX7_leads_92 : decode cX7_leads 92 = .ok (.iload_n 3, 1) := by decide +kernel
theorem dX7_leads_93 : decode cX7_leads 93 = .ok (.if_icmp .ge 31, 3) := by decide +kernel
theorem dX7_leads_96 : decode cX7_leads 96 = .ok (.iload 4, 2) := by decide +kernel
theorem dX7_leads_98 : decode cX7_leads 98 = .ok (.ifCond .eq 17, 3) := by decide +kernel
theorem dX7_leads_101 : decode cX7_leads 101 = .ok (.aload_n 0, 1) := by decide +kernel
theorem dX7_leads_102 : decode cX7_leads 102 = .ok (.iload 5, 2) := by decide +kernel
theorem dX7_leads_104 : decode cX7_leads 104 = .ok (.iconst 1, 1) := by decide +kernel
theorem dX7_leads_105 : decode cX7_leads 105 = .ok (.invokevirtual 132, 3) := by decide +kernel
theorem dX7_leads_108 : decode cX7_leads 108 = .ok (.ifCond .ne 7, 3) := by decide +kernel
theorem dX7_leads_111 : decode cX7_leads 111 = .ok (.iconst 1, 1) := by decide +kernel
theorem dX7_leads_112 : decode cX7_leads 112 = .ok (.goto 4, 3) := by decide +kernel
theorem dX7_leads_115 : decode cX7_leads 115 = .ok (.iconst 0, 1) := by decide +kernel
theorem dX7_leads_116 : decode cX7_leads 116 = .ok (.istore 4, 2) := by decide +kernel
theorem dX7_leads_118 : decode cX7_leads 118 = .ok (.iinc 5 1, 3) := by decide +kernel
theorem dX7_leads_121 : decode cX7_leads 121 = .ok (.goto (-31), 3) := by decide +kernel
theorem dX7_leads_124 : decode cX7_leads 124 = .ok (.iload 4, 2) := by decide +kernel
theorem dX7_leads_126 : decode cX7_leads 126 = .ok (.ifCond .eq 7, 3) := by decide +kernel
theorem dX7_leads_129 : decode cX7_leads 129 = .ok (.iload_n 3, 1) := by decide +kernel
theorem dX7_leads_130 : decode cX7_leads 130 = .ok (.goto 4, 3) := by decide +kernel
theorem dX7_leads_133 : decode cX7_leads 133 = .ok (.iconst (-1), 1) := by decide +kernel
theorem dX7_leads_134 : decode cX7_leads 134 = .ok (.ireturn, 1) := by decide +kernel
theorem dX7_weightOf_0 : decode cX7_weightOf 0 = .ok (.iload_n 1, 1) := by decide +kernel
theorem dX7_weightOf_1 : decode cX7_weightOf 1 = .ok (.ifCond .ge 7, 3) := by decide +kernel
theorem dX7_weightOf_4 : decode cX7_weightOf 4 = .ok (.iconst 1, 1) := by decide +kernel
theorem dX7_weightOf_5 : decode cX7_weightOf 5 = .ok (.goto 11, 3) := by decide +kernel
theorem dX7_weightOf_8 : decode cX7_weightOf 8 = .ok (.aload_n 0, 1) := by decide +kernel
theorem dX7_weightOf_9 : decode cX7_weightOf 9 = .ok (.iload_n 1, 1) := by decide +kernel
theorem dX7_weightOf_10 : decode cX7_weightOf 10 = .ok (.iload_n 2, 1) := by decide +kernel
theorem dX7_weightOf_11 : decode cX7_weightOf 11 = .ok (.invokevirtual 113, 3) := by decide +kernel
theorem dX7_weightOf_14 : decode cX7_weightOf 14 = .ok (.iconst 1, 1) := by decide +kernel
theorem dX7_weightOf_15 : decode cX7_weightOf 15 = .ok (.iadd, 1) := by decide +kernel
theorem dX7_weightOf_16 : decode cX7_weightOf 16 = .ok (.ireturn, 1) := by decide +kernel
theorem dX7_more_0 : decode cX7_more 0 = .ok (.lload 5, 2) := by decide +kernel
theorem dX7_more_2 : decode cX7_more 2 = .ok (.lconst 0, 1) := by decide +kernel
theorem dX7_more_3 : decode cX7_more 3 = .ok (.lcmp, 1) := by decide +kernel
theorem dX7_more_4 : decode cX7_more 4 = .ok (.ifCond .le 34, 3) := by decide +kernel
theorem dX7_more_7 : decode cX7_more 7 = .ok (.lload_n 3, 1) := by decide +kernel
theorem dX7_more_8 : decode cX7_more 8 = .ok (.ldc2_w 135, 3) := by decide +kernel
theorem dX7_more_11 : decode cX7_more 11 = .ok (.lload 5, 2) := by decide +kernel
theorem dX7_more_13 : decode cX7_more 13 = .ok (.ldiv, 1) := by decide +kernel
theorem dX7_more_14 : decode cX7_more 14 = .ok (.lcmp, 1) := by decide +kernel
theorem dX7_more_15 : decode cX7_more 15 = .ok (.ifCond .gt 16, 3) := by decide +kernel
theorem dX7_more_18 : decode cX7_more 18 = .ok (.lload_n 3, 1) := by decide +kernel
theorem dX7_more_19 : decode cX7_more 19 = .ok (.lload 5, 2) := by decide +kernel
theorem dX7_more_21 : decode cX7_more 21 = .ok (.lmul, 1) := by decide +kernel
theorem dX7_more_22 : decode cX7_more 22 = .ok (.ldc2_w 135, 3) := by decide +kernel
theorem dX7_more_25 : decode cX7_more 25 = .ok (.lload_n 1, 1) := by decide +kernel
theorem dX7_more_26 : decode cX7_more 26 = .ok (.lsub, 1) := by decide +kernel
theorem dX7_more_27 : decode cX7_more 27 = .ok (.lcmp, 1) := by decide +kernel
theorem dX7_more_28 : decode cX7_more 28 = .ok (.ifCond .le 10, 3) := by decide +kernel
theorem dX7_more_31 : decode cX7_more 31 = .ok (.aload_n 0, 1) := by decide +kernel
theorem dX7_more_32 : decode cX7_more 32 = .ok (.iconst 1, 1) := by decide +kernel
theorem dX7_more_33 : decode cX7_more 33 = .ok (.putfield 137, 3) := by decide +kernel
theorem dX7_more_36 : decode cX7_more 36 = .ok (.lload_n 1, 1) := by decide +kernel
theorem dX7_more_37 : decode cX7_more 37 = .ok (.lreturn, 1) := by decide +kernel
theorem dX7_more_38 : decode cX7_more 38 = .ok (.lload_n 1, 1) := by decide +kernel
theorem dX7_more_39 : decode cX7_more 39 = .ok (.lload_n 3, 1) := by decide +kernel
theorem dX7_more_40 : decode cX7_more 40 = .ok (.lload 5, 2) := by decide +kernel
theorem dX7_more_42 : decode cX7_more 42 = .ok (.lmul, 1) := by decide +kernel
theorem dX7_more_43 : decode cX7_more 43 = .ok (.ladd, 1) := by decide +kernel
theorem dX7_more_44 : decode cX7_more 44 = .ok (.lreturn, 1) := by decide +kernel
theorem dX7_sumFrom_0 : decode cX7_sumFrom 0 = .ok (.lconst 0, 1) := by decide +kernel
theorem dX7_sumFrom_1 : decode cX7_sumFrom 1 = .ok (.lstore 4, 2) := by decide +kernel
theorem dX7_sumFrom_3 : decode cX7_sumFrom 3 = .ok (.iconst 0, 1) := by decide +kernel
theorem dX7_sumFrom_4 : decode cX7_sumFrom 4 = .ok (.istore 6, 2) := by decide +kernel
theorem dX7_sumFrom_6 : decode cX7_sumFrom 6 = .ok (.iload 6, 2) := by decide +kernel
theorem dX7_sumFrom_8 : decode cX7_sumFrom 8 = .ok (.aload_n 0, 1) := by decide +kernel
theorem dX7_sumFrom_9 : decode cX7_sumFrom 9 = .ok (.getfield 7, 3) := by decide +kernel
theorem dX7_sumFrom_12 : decode cX7_sumFrom 12 = .ok (.iconst 0, 1) := by decide +kernel
theorem dX7_sumFrom_13 : decode cX7_sumFrom 13 = .ok (.iaload, 1) := by decide +kernel
theorem dX7_sumFrom_14 : decode cX7_sumFrom 14 = .ok (.if_icmp .ge 81, 3) := by decide +kernel
theorem dX7_sumFrom_17 : decode cX7_sumFrom 17 = .ok (.iload_n 2, 1) := by decide +kernel
theorem dX7_sumFrom_18 : decode cX7_sumFrom 18 = .ok (.aload_n 0, 1) := by decide +kernel
theorem dX7_sumFrom_19 : decode cX7_sumFrom 19 = .ok (.getfield 7, 3) := by decide +kernel
theorem dX7_sumFrom_22 : decode cX7_sumFrom 22 = .ok (.bipush 9, 2) := by decide +kernel
theorem dX7_sumFrom_24 : decode cX7_sumFrom 24 = .ok (.iload 6, 2) := by decide +kernel
theorem dX7_sumFrom_26 : decode cX7_sumFrom 26 = .ok (.iadd, 1) := by decide +kernel
theorem dX7_sumFrom_27 : decode cX7_sumFrom 27 = .ok (.iaload, 1) := by decide +kernel
theorem dX7_sumFrom_28 : decode cX7_sumFrom 28 = .ok (.invokestatic 140, 3) := by decide +kernel
theorem dX7_sumFrom_31 : decode cX7_sumFrom 31 = .ok (.ifCond .eq 13, 3) := by decide +kernel
theorem dX7_sumFrom_34 : decode cX7_sumFrom 34 = .ok (.aload_n 0, 1) := by decide +kernel
theorem dX7_sumFrom_35 : decode cX7_sumFrom 35 = .ok (.iload 6, 2) := by decide +kernel
theorem dX7_sumFrom_37 : decode cX7_sumFrom 37 = .ok (.iload_n 1, 1) := by decide +kernel
theorem dX7_sumFrom_38 : decode cX7_sumFrom 38 = .ok (.invokevirtual 143, 3) := by decide +kernel
theorem dX7_sumFrom_41 : decode cX7_sumFrom 41 = .ok (.goto 4, 3) := by decide +kernel
theorem dX7_sumFrom_44 : decode cX7_sumFrom 44 = .ok (.iconst (-1), 1) := by decide +kernel
theorem dX7_sumFrom_45 : decode cX7_sumFrom 45 = .ok (.istore 7, 2) := by decide +kernel
theorem dX7_sumFrom_47 : decode cX7_sumFrom 47 = .ok (.iload 7, 2) := by decide +kernel
theorem dX7_sumFrom_49 : decode cX7_sumFrom 49 = .ok (.iconst (-1), 1) := by decide +kernel
theorem dX7_sumFrom_50 : decode cX7_sumFrom 50 = .ok (.if_icmp .eq 39, 3) := by decide +kernel
theorem dX7_sumFrom_53 : decode cX7_sumFrom 53 = .ok (.aload_n 0, 1) := by decide +kernel
theorem dX7_sumFrom_54 : decode cX7_sumFrom 54 = .ok (.lload 4, 2) := by decide +kernel
theorem dX7_sumFrom_56 : decode cX7_sumFrom 56 = .ok (.aload_n 0, 1) := by decide +kernel
theorem dX7_sumFrom_57 : decode cX7_sumFrom 57 = .ok (.iload_n 3, 1) := by decide +kernel
theorem dX7_sumFrom_58 : decode cX7_sumFrom 58 = .ok (.iload 6, 2) := by decide +kernel
theorem dX7_sumFrom_60 : decode cX7_sumFrom 60 = .ok (.invokevirtual 146, 3) := by decide +kernel
theorem dX7_sumFrom_63 : decode cX7_sumFrom 63 = .ok (.i2l, 1) := by decide +kernel
theorem dX7_sumFrom_64 : decode cX7_sumFrom 64 = .ok (.aload_n 0, 1) := by decide +kernel
theorem dX7_sumFrom_65 : decode cX7_sumFrom 65 = .ok (.getfield 25, 3) := by decide +kernel
theorem dX7_sumFrom_68 : decode cX7_sumFrom 68 = .ok (.iconst 4, 1) := by decide +kernel
theorem dX7_sumFrom_69 : decode cX7_sumFrom 69 = .ok (.iload 7, 2) := by decide +kernel
theorem dX7_sumFrom_71 : decode cX7_sumFrom 71 = .ok (.imul, 1) := by decide +kernel
theorem dX7_sumFrom_72 : decode cX7_sumFrom 72 = .ok (.aload_n 0, 1) := by decide +kernel
theorem dX7_sumFrom_73 : decode cX7_sumFrom 73 = .ok (.getfield 7, 3) := by decide +kernel
theorem dX7_sumFrom_76 : decode cX7_sumFrom 76 = .ok (.bipush 9, 2) := by decide +kernel
theorem dX7_sumFrom_78 : decode cX7_sumFrom 78 = .ok (.iload 6, 2) := by decide +kernel
theorem dX7_sumFrom_80 : decode cX7_sumFrom 80 = .ok (.iadd, 1) := by decide +kernel
theorem dX7_sumFrom_81 : decode cX7_sumFrom 81 = .ok (.iaload, 1) := by decide +kernel
theorem dX7_sumFrom_82 : decode cX7_sumFrom 82 = .ok (.iadd, 1) := by decide +kernel
theorem dX7_sumFrom_83 : decode cX7_sumFrom 83 = .ok (.laload, 1) := by decide +kernel
theorem dX7_sumFrom_84 : decode cX7_sumFrom 84 = .ok (.invokevirtual 149, 3) := by decide +kernel
theorem dX7_sumFrom_87 : decode cX7_sumFrom 87 = .ok (.lstore 4, 2) := by decide +kernel
theorem dX7_sumFrom_89 : decode cX7_sumFrom 89 = .ok (.iinc 6 1, 3) := by decide +kernel
theorem dX7_sumFrom_92 : decode cX7_sumFrom 92 = .ok (.goto (-86), 3) := by decide +kernel
theorem dX7_sumFrom_95 : decode cX7_sumFrom 95 = .ok (.lload 4, 2) := by decide +kernel
theorem dX7_sumFrom_97 : decode cX7_sumFrom 97 = .ok (.lreturn, 1) := by decide +kernel
theorem dX7_laysWays_0 : decode cX7_laysWays 0 = .ok (.aload_n 0, 1) := by decide +kernel
theorem dX7_laysWays_1 : decode cX7_laysWays 1 = .ok (.iload_n 1, 1) := by decide +kernel
theorem dX7_laysWays_2 : decode cX7_laysWays 2 = .ok (.putfield 121, 3) := by decide +kernel
theorem dX7_laysWays_5 : decode cX7_laysWays 5 = .ok (.aload_n 0, 1) := by decide +kernel
theorem dX7_laysWays_6 : decode cX7_laysWays 6 = .ok (.iconst 0, 1) := by decide +kernel
theorem dX7_laysWays_7 : decode cX7_laysWays 7 = .ok (.putfield 137, 3) := by decide +kernel
theorem dX7_laysWays_10 : decode cX7_laysWays 10 = .ok (.aload_n 0, 1) := by decide +kernel
theorem dX7_laysWays_11 : decode cX7_laysWays 11 = .ok (.invokevirtual 125, 3) := by decide +kernel
theorem dX7_laysWays_14 : decode cX7_laysWays 14 = .ok (.istore_n 3, 1) := by decide +kernel
theorem dX7_laysWays_15 : decode cX7_laysWays 15 = .ok (.iload_n 3, 1) := by decide +kernel
theorem dX7_laysWays_16 : decode cX7_laysWays 16 = .ok (.istore 4, 2) := by decide +kernel
theorem dX7_laysWays_18 : decode cX7_laysWays 18 = .ok (.iload 4, 2) := by decide +kernel
theorem dX7_laysWays_20 : decode cX7_laysWays 20 = .ok (.ifCond .le 103, 3) := by decide +kernel
theorem dX7_laysWays_23 : decode cX7_laysWays 23 = .ok (.iconst 0, 1) := by decide +kernel
theorem dX7_laysWays_24 : decode cX7_laysWays 24 = .ok (.istore 5, 2) := by decide +kernel
theorem dX7_laysWays_26 : decode cX7_laysWays 26 = .ok (.iload 5, 2) := by decide +kernel
theorem dX7_laysWays_28 : decode cX7_laysWays 28 = .ok (.iconst 4, 1) := by decide +kernel
theorem dX7_laysWays_29 : decode cX7_laysWays 29 = .ok (.if_icmp .ge 88, 3) := by decide +kernel
theorem dX7_laysWays_32 : decode cX7_laysWays 32 = .ok (.iload_n 1, 1) := by decide +kernel
theorem dX7_laysWays_33 : decode cX7_laysWays 33 = .ok (.ifCond .ne 17, 3) := by decide +kernel
theorem dX7_laysWays_36 : decode cX7_laysWays 36 = .ok (.aload_n 0, 1) := by decide +kernel
theorem dX7_laysWays_37 : decode cX7_laysWays 37 = .ok (.iload 4, 2) := by decide +kernel
theorem dX7_laysWays_39 : decode cX7_laysWays 39 = .ok (.iconst 2, 1) := by decide +kernel
theorem dX7_laysWays_40 : decode cX7_laysWays 40 = .ok (.invokevirtual 132, 3) := by decide +kernel
theorem dX7_laysWays_43 : decode cX7_laysWays 43 = .ok (.ifCond .eq 7, 3) := by decide +kernel
theorem dX7_laysWays_46 : decode cX7_laysWays 46 = .ok (.iconst 1, 1) := by decide +kernel
theorem dX7_laysWays_47 : decode cX7_laysWays 47 = .ok (.goto 4, 3) := by decide +kernel
theorem dX7_laysWays_50 : decode cX7_laysWays 50 = .ok (.iconst 0, 1) := by decide +kernel
theorem dX7_laysWays_51 : decode cX7_laysWays 51 = .ok (.istore 6, 2) := by decide +kernel
theorem dX7_laysWays_53 : decode cX7_laysWays 53 = .ok (.aload_n 0, 1) := by decide +kernel
theorem dX7_laysWays_54 : decode cX7_laysWays 54 = .ok (.getfield 25, 3) := by decide +kernel
theorem dX7_laysWays_57 : decode cX7_laysWays 57 = .ok (.iconst 4, 1) := by decide +kernel
theorem dX7_laysWays_58 : decode cX7_laysWays 58 = .ok (.iload 4, 2) := by decide +kernel
theorem dX7_laysWays_60 : decode cX7_laysWays 60 = .ok (.imul, 1) := by decide +kernel
theorem dX7_laysWays_61 : decode cX7_laysWays 61 = .ok (.iload 5, 2) := by decide +kernel
theorem dX7_laysWays_63 : decode cX7_laysWays 63 = .ok (.iadd, 1) := by decide +kernel
theorem dX7_laysWays_64 : decode cX7_laysWays 64 = .ok (.iload 4, 2) := by decide +kernel
theorem dX7_laysWays_66 : decode cX7_laysWays 66 = .ok (.iload_n 3, 1) := by decide +kernel
theorem dX7_laysWays_67 : decode cX7_laysWays 67 = .ok (.if_icmp .ne 18, 3) := by decide +kernel
theorem dX7_laysWays_70 : decode cX7_laysWays 70 = .ok (.aload_n 0, 1) := by decide +kernel
theorem dX7_laysWays_71 : decode cX7_laysWays 71 = .ok (.getfield 7, 3) := by decide +kernel
theorem dX7_laysWays_74 : decode cX7_laysWays 74 = .ok (.iconst 4, 1) := by decide +kernel
theorem dX7_laysWays_75 : decode cX7_laysWays 75 = .ok (.iaload, 1) := by decide +kernel
theorem dX7_laysWays_76 : decode cX7_laysWays 76 = .ok (.iload 5, 2) := by decide +kernel
theorem dX7_laysWays_78 : decode cX7_laysWays 78 = .ok (.ishr, 1) := by decide +kernel
theorem dX7_laysWays_79 : decode cX7_laysWays 79 = .ok (.iconst 1, 1) := by decide +kernel
theorem dX7_laysWays_80 : decode cX7_laysWays 80 = .ok (.iand, 1) := by decide +kernel
theorem dX7_laysWays_81 : decode cX7_laysWays 81 = .ok (.i2l, 1) := by decide +kernel
theorem dX7_laysWays_82 : decode cX7_laysWays 82 = .ok (.goto 28, 3) := by decide +kernel
theorem dX7_laysWays_85 : decode cX7_laysWays 85 = .ok (.iload 6, 2) := by decide +kernel
theorem dX7_laysWays_87 : decode cX7_laysWays 87 = .ok (.ifCond .eq 7, 3) := by decide +kernel
theorem dX7_laysWays_90 : decode cX7_laysWays 90 = .ok (.lconst 0, 1) := by decide +kernel
theorem dX7_laysWays_91 : decode cX7_laysWays 91 = .ok (.goto 19, 3) := by decide +kernel
theorem dX7_laysWays_94 : decode cX7_laysWays 94 = .ok (.aload_n 0, 1) := by decide +kernel
theorem dX7_laysWays_95 : decode cX7_laysWays 95 = .ok (.iload 4, 2) := by decide +kernel
theorem dX7_laysWays_97 : decode cX7_laysWays 97 = .ok (.aload_n 0, 1) := by decide +kernel
theorem dX7_laysWays_98 : decode cX7_laysWays 98 = .ok (.getfield 7, 3) := by decide +kernel
theorem dX7_laysWays_101 : decode cX7_laysWays 101 = .ok (.iconst 5, 1) := by decide +kernel
theorem dX7_laysWays_102 : decode cX7_laysWays 102 = .ok (.iload 5, 2) := by decide +kernel
theorem dX7_laysWays_104 : decode cX7_laysWays 104 = .ok (.iadd, 1) := by decide +kernel
theorem dX7_laysWays_105 : decode cX7_laysWays 105 = .ok (.iaload, 1) := by decide +kernel
theorem dX7_laysWays_106 : decode cX7_laysWays 106 = .ok (.iload_n 2, 1) := by decide +kernel
theorem dX7_laysWays_107 : decode cX7_laysWays 107 = .ok (.invokevirtual 153, 3) := by decide +kernel
theorem dX7_laysWays_110 : decode cX7_laysWays 110 = .ok (.lastore, 1) := by decide +kernel
theorem dX7_laysWays_111 : decode cX7_laysWays 111 = .ok (.iinc 5 1, 3) := by decide +kernel
theorem dX7_laysWays_114 : decode cX7_laysWays 114 = .ok (.goto (-88), 3) := by decide +kernel
theorem dX7_laysWays_117 : decode cX7_laysWays 117 = .ok (.iinc 4 (-1), 3) := by decide +kernel
theorem dX7_laysWays_120 : decode cX7_laysWays 120 = .ok (.goto (-102), 3) := by decide +kernel
theorem dX7_laysWays_123 : decode cX7_laysWays 123 = .ok (.aload_n 0, 1) := by decide +kernel
theorem dX7_laysWays_124 : decode cX7_laysWays 124 = .ok (.iconst 0, 1) := by decide +kernel
theorem dX7_laysWays_125 : decode cX7_laysWays 125 = .ok (.aload_n 0, 1) := by decide +kernel
theorem dX7_laysWays_126 : decode cX7_laysWays 126 = .ok (.getfield 7, 3) := by decide +kernel
theorem dX7_laysWays_129 : decode cX7_laysWays 129 = .ok (.iconst 3, 1) := by decide +kernel
theorem dX7_laysWays_130 : decode cX7_laysWays 130 = .ok (.iaload, 1) := by decide +kernel
theorem dX7_laysWays_131 : decode cX7_laysWays 131 = .ok (.iload_n 2, 1) := by decide +kernel
theorem dX7_laysWays_132 : decode cX7_laysWays 132 = .ok (.invokevirtual 153, 3) := by decide +kernel
theorem dX7_laysWays_135 : decode cX7_laysWays 135 = .ok (.lreturn, 1) := by decide +kernel
theorem dX7_waysOr_0 : decode cX7_waysOr 0 = .ok (.aload_n 0, 1) := by decide +kernel
theorem dX7_waysOr_1 : decode cX7_waysOr 1 = .ok (.iload_n 1, 1) := by decide +kernel
theorem dX7_waysOr_2 : decode cX7_waysOr 2 = .ok (.iload_n 2, 1) := by decide +kernel
theorem dX7_waysOr_3 : decode cX7_waysOr 3 = .ok (.invokevirtual 157, 3) := by decide +kernel
theorem dX7_waysOr_6 : decode cX7_waysOr 6 = .ok (.lstore_n 3, 1) := by decide +kernel
theorem dX7_waysOr_7 : decode cX7_waysOr 7 = .ok (.aload_n 0, 1) := by decide +kernel
theorem dX7_waysOr_8 : decode cX7_waysOr 8 = .ok (.getfield 137, 3) := by decide +kernel
theorem dX7_waysOr_11 : decode cX7_waysOr 11 = .ok (.ifCond .eq 9, 3) := by decide +kernel
theorem dX7_waysOr_14 : decode cX7_waysOr 14 = .ok (.ldc2_w 161, 3) := by decide +kernel
theorem dX7_waysOr_17 : decode cX7_waysOr 17 = .ok (.goto 4, 3) := by decide +kernel
theorem dX7_waysOr_20 : decode cX7_waysOr 20 = .ok (.lload_n 3, 1) := by decide +kernel
theorem dX7_waysOr_21 : decode cX7_waysOr 21 = .ok (.lreturn, 1) := by decide +kernel
theorem dX7_cuts_0 : decode cX7_cuts 0 = .ok (.aload_n 0, 1) := by decide +kernel
theorem dX7_cuts_1 : decode cX7_cuts 1 = .ok (.iconst 1, 1) := by decide +kernel
theorem dX7_cuts_2 : decode cX7_cuts 2 = .ok (.iconst (-1), 1) := by decide +kernel
theorem dX7_cuts_3 : decode cX7_cuts 3 = .ok (.invokevirtual 163, 3) := by decide +kernel
theorem dX7_cuts_6 : decode cX7_cuts 6 = .ok (.lstore_n 1, 1) := by decide +kernel
theorem dX7_cuts_7 : decode cX7_cuts 7 = .ok (.lload_n 1, 1) := by decide +kernel
theorem dX7_cuts_8 : decode cX7_cuts 8 = .ok (.ldc2_w 161, 3) := by decide +kernel
theorem dX7_cuts_11 : decode cX7_cuts 11 = .ok (.lcmp, 1) := by decide +kernel
theorem dX7_cuts_12 : decode cX7_cuts 12 = .ok (.ifCond .ne 11, 3) := by decide +kernel
theorem dX7_cuts_15 : decode cX7_cuts 15 = .ok (.aload_n 0, 1) := by decide +kernel
theorem dX7_cuts_16 : decode cX7_cuts 16 = .ok (.invokevirtual 166, 3) := by decide +kernel
theorem dX7_cuts_19 : decode cX7_cuts 19 = .ok (.i2l, 1) := by decide +kernel
theorem dX7_cuts_20 : decode cX7_cuts 20 = .ok (.goto 4, 3) := by decide +kernel
theorem dX7_cuts_23 : decode cX7_cuts 23 = .ok (.lload_n 1, 1) := by decide +kernel
theorem dX7_cuts_24 : decode cX7_cuts 24 = .ok (.lreturn, 1) := by decide +kernel
theorem dX7_made_0 : decode cX7_made 0 = .ok (.aload_n 0, 1) := by decide +kernel
theorem dX7_made_1 : decode cX7_made 1 = .ok (.iconst 0, 1) := by decide +kernel
theorem dX7_made_2 : decode cX7_made 2 = .ok (.iconst (-1), 1) := by decide +kernel
theorem dX7_made_3 : decode cX7_made 3 = .ok (.invokevirtual 163, 3) := by decide +kernel
theorem dX7_made_6 : decode cX7_made 6 = .ok (.lstore_n 1, 1) := by decide +kernel
theorem dX7_made_7 : decode cX7_made 7 = .ok (.lload_n 1, 1) := by decide +kernel
theorem dX7_made_8 : decode cX7_made 8 = .ok (.ldc2_w 161, 3) := by decide +kernel
theorem dX7_made_11 : decode cX7_made 11 = .ok (.lcmp, 1) := by decide +kernel
theorem dX7_made_12 : decode cX7_made 12 = .ok (.ifCond .ne 11, 3) := by decide +kernel
theorem dX7_made_15 : decode cX7_made 15 = .ok (.aload_n 0, 1) := by decide +kernel
theorem dX7_made_16 : decode cX7_made 16 = .ok (.invokevirtual 166, 3) := by decide +kernel
theorem dX7_made_19 : decode cX7_made 19 = .ok (.i2l, 1) := by decide +kernel
theorem dX7_made_20 : decode cX7_made 20 = .ok (.goto 4, 3) := by decide +kernel
theorem dX7_made_23 : decode cX7_made 23 = .ok (.lload_n 1, 1) := by decide +kernel
theorem dX7_made_24 : decode cX7_made 24 = .ok (.lreturn, 1) := by decide +kernel
theorem dX7_goes_0 : decode cX7_goes 0 = .ok (.aload_n 0, 1) := by decide +kernel
theorem dX7_goes_1 : decode cX7_goes 1 = .ok (.iconst 0, 1) := by decide +kernel
theorem dX7_goes_2 : decode cX7_goes 2 = .ok (.putfield 169, 3) := by decide +kernel
theorem dX7_goes_5 : decode cX7_goes 5 = .ok (.iconst 0, 1) := by decide +kernel
theorem dX7_goes_6 : decode cX7_goes 6 = .ok (.istore 4, 2) := by decide +kernel
theorem dX7_goes_8 : decode cX7_goes 8 = .ok (.aload_n 0, 1) := by decide +kernel
theorem dX7_goes_9 : decode cX7_goes 9 = .ok (.getfield 7, 3) := by decide +kernel
theorem dX7_goes_12 : decode cX7_goes 12 = .ok (.iconst 3, 1) := by decide +kernel
theorem dX7_goes_13 : decode cX7_goes 13 = .ok (.iaload, 1) := by decide +kernel
theorem dX7_goes_14 : decode cX7_goes 14 = .ok (.istore 5, 2) := by decide +kernel
theorem dX7_goes_16 : decode cX7_goes 16 = .ok (.lload_n 1, 1) := by decide +kernel
theorem dX7_goes_17 : decode cX7_goes 17 = .ok (.lstore 6, 2) := by decide +kernel
theorem dX7_goes_19 : decode cX7_goes 19 = .ok (.iload 4, 2) := by decide +kernel
theorem dX7_goes_21 : decode cX7_goes 21 = .ok (.aload_n 0, 1) := by decide +kernel
theorem dX7_goes_22 : decode cX7_goes 22 = .ok (.getfield 7, 3) := by decide +kernel
theorem dX7_goes_25 : decode cX7_goes 25 = .ok (.iconst 2, 1) := by decide +kernel
theorem dX7_goes_26 : decode cX7_goes 26 = .ok (.iaload, 1) := by decide +kernel
theorem dX7_goes_27 : decode cX7_goes 27 = .ok (.if_icmp .ge 202, 3) := by decide +kernel
theorem dX7_goes_30 : decode cX7_goes 30 = .ok (.iconst 0, 1) := by decide +kernel
theorem dX7_goes_31 : decode cX7_goes 31 = .ok (.istore 8, 2) := by decide +kernel
theorem dX7_goes_33 : decode cX7_goes 33 = .ok (.iconst 1, 1) := by decide +kernel
theorem dX7_goes_34 : decode cX7_goes 34 = .ok (.istore 9, 2) := by decide +kernel
theorem dX7_goes_36 : decode cX7_goes 36 = .ok (.iload 9, 2) := by decide +kernel
theorem dX7_goes_38 : decode cX7_goes 38 = .ok (.ifCond .eq 125, 3) := by decide +kernel
theorem dX7_goes_41 : decode cX7_goes 41 = .ok (.iload 5, 2) := by decide +kernel
theorem dX7_goes_43 : decode cX7_goes 43 = .ok (.aload_n 0, 1) := by decide +kernel
theorem dX7_goes_44 : decode cX7_goes 44 = .ok (.getfield 7, 3) := by decide +kernel
theorem dX7_goes_47 : decode cX7_goes 47 = .ok (.bipush 9, 2) := by decide +kernel
theorem dX7_goes_49 : decode cX7_goes 49 = .ok (.iload 8, 2) := by decide +kernel
theorem dX7_goes_51 : decode cX7_goes 51 = .ok (.iadd, 1) := by decide +kernel
theorem dX7_goes_52 : decode cX7_goes 52 = .ok (.iaload, 1) := by decide +kernel
theorem dX7_goes_53 : decode cX7_goes 53 = .ok (.invokestatic 140, 3) := by decide +kernel
theorem dX7_goes_56 : decode cX7_goes 56 = .ok (.ifCond .eq 14, 3) := by decide +kernel
theorem dX7_goes_59 : decode cX7_goes 59 = .ok (.aload_n 0, 1) := by decide +kernel
theorem dX7_goes_60 : decode cX7_goes 60 = .ok (.iload 8, 2) := by decide +kernel
theorem dX7_goes_62 : decode cX7_goes 62 = .ok (.iload 4, 2) := by decide +kernel
theorem dX7_goes_64 : decode cX7_goes 64 = .ok (.invokevirtual 143, 3) := by decide +kernel
theorem dX7_goes_67 : decode cX7_goes 67 = .ok (.goto 4, 3) := by decide +kernel
theorem dX7_goes_70 : decode cX7_goes 70 = .ok (.iconst (-1), 1) := by decide +kernel
theorem dX7_goes_71 : decode cX7_goes 71 = .ok (.istore 10, 2) := by decide +kernel
theorem dX7_goes_73 : decode cX7_goes 73 = .ok (.iload 10, 2) := by decide +kernel
theorem dX7_goes_75 : decode cX7_goes 75 = .ok (.iconst (-1), 1) := by decide +kernel
theorem dX7_goes_76 : decode cX7_goes 76 = .ok (.if_icmp .ne 7, 3) := by decide +kernel
theorem dX7_goes_79 : decode cX7_goes 79 = .ok (.lconst 0, 1) := by decide +kernel
theorem dX7_goes_80 : decode cX7_goes 80 = .ok (.goto 32, 3) := by decide +kernel
theorem dX7_goes_83 : decode cX7_goes 83 = .ok (.aload_n 0, 1) := by decide +kernel
theorem dX7_goes_84 : decode cX7_goes 84 = .ok (.iload_n 3, 1) := by decide +kernel
theorem dX7_goes_85 : decode cX7_goes 85 = .ok (.iload 8, 2) := by decide +kernel
theorem dX7_goes_87 : decode cX7_goes 87 = .ok (.invokevirtual 146, 3) := by decide +kernel
theorem dX7_goes_90 : decode cX7_goes 90 = .ok (.i2l, 1) := by decide +kernel
theorem dX7_goes_91 : decode cX7_goes 91 = .ok (.aload_n 0, 1) := by decide +kernel
theorem dX7_goes_92 : decode cX7_goes 92 = .ok (.getfield 25, 3) := by decide +kernel
theorem dX7_goes_95 : decode cX7_goes 95 = .ok (.iconst 4, 1) := by decide +kernel
theorem dX7_goes_96 : decode cX7_goes 96 = .ok (.iload 10, 2) := by decide +kernel
theorem dX7_goes_98 : decode cX7_goes 98 = .ok (.imul, 1) := by decide +kernel
theorem dX7_goes_99 : decode cX7_goes 99 = .ok (.aload_n 0, 1) := by decide +kernel
theorem dX7_goes_100 : decode cX7_goes 100 = .ok (.getfield 7, 3) := by decide +kernel
theorem dX7_goes_103 : decode cX7_goes 103 = .ok (.bipush 9, 2) := by decide +kernel
theorem dX7_goes_105 : decode cX7_goes 105 = .ok (.iload 8, 2) := by decide +kernel
theorem dX7_goes_107 : decode cX7_goes 107 = .ok (.iadd, 1) := by decide +kernel
theorem dX7_goes_108 : decode cX7_goes 108 = .ok (.iaload, 1) := by decide +kernel
theorem dX7_goes_109 : decode cX7_goes 109 = .ok (.iadd, 1) := by decide +kernel
theorem dX7_goes_110 : decode cX7_goes 110 = .ok (.laload, 1) := by decide +kernel
theorem dX7_goes_111 : decode cX7_goes 111 = .ok (.lmul, 1) := by decide +kernel
theorem dX7_goes_112 : decode cX7_goes 112 = .ok (.lstore 11, 2) := by decide +kernel
theorem dX7_goes_114 : decode cX7_goes 114 = .ok (.lload 6, 2) := by decide +kernel
theorem dX7_goes_116 : decode cX7_goes 116 = .ok (.lload 11, 2) := by decide +kernel
theorem dX7_goes_118 : decode cX7_goes 118 = .ok (.lcmp, 1) := by decide +kernel
theorem dX7_goes_119 : decode cX7_goes 119 = .ok (.ifCond .lt 7, 3) := by decide +kernel
theorem dX7_goes_122 : decode cX7_goes 122 = .ok (.iconst 1, 1) := by decide +kernel
theorem dX7_goes_123 : decode cX7_goes 123 = .ok (.goto 4, 3) := by decide +kernel
theorem dX7_goes_126 : decode cX7_goes 126 = .ok (.iconst 0, 1) := by decide +kernel
theorem dX7_goes_127 : decode cX7_goes 127 = .ok (.istore 9, 2) := by decide +kernel
theorem dX7_goes_129 : decode cX7_goes 129 = .ok (.lload 6, 2) := by decide +kernel
theorem dX7_goes_131 : decode cX7_goes 131 = .ok (.iload 9, 2) := by decide +kernel
theorem dX7_goes_133 : decode cX7_goes 133 = .ok (.ifCond .eq 8, 3) := by decide +kernel
theorem dX7_goes_136 : decode cX7_goes 136 = .ok (.lload 11, 2) := by decide +kernel
theorem dX7_goes_138 : decode cX7_goes 138 = .ok (.goto 4, 3) := by decide +kernel
theorem dX7_goes_141 : decode cX7_goes 141 = .ok (.lconst 0, 1) := by decide +kernel
theorem dX7_goes_142 : decode cX7_goes 142 = .ok (.lsub, 1) := by decide +kernel
theorem dX7_goes_143 : decode cX7_goes 143 = .ok (.lstore 6, 2) := by decide +kernel
theorem dX7_goes_145 : decode cX7_goes 145 = .ok (.iload 8, 2) := by decide +kernel
theorem dX7_goes_147 : decode cX7_goes 147 = .ok (.iload 9, 2) := by decide +kernel
theorem dX7_goes_149 : decode cX7_goes 149 = .ok (.ifCond .eq 7, 3) := by decide +kernel
theorem dX7_goes_152 : decode cX7_goes 152 = .ok (.iconst 1, 1) := by decide +kernel
theorem dX7_goes_153 : decode cX7_goes 153 = .ok (.goto 4, 3) := by decide +kernel
theorem dX7_goes_156 : decode cX7_goes 156 = .ok (.iconst 0, 1) := by decide +kernel
theorem dX7_goes_157 : decode cX7_goes 157 = .ok (.iadd, 1) := by decide +kernel
theorem dX7_goes_158 : decode cX7_goes 158 = .ok (.istore 8, 2) := by decide +kernel
theorem dX7_goes_160 : decode cX7_goes 160 = .ok (.goto (-124), 3) := by decide +kernel
theorem dX7_goes_163 : decode cX7_goes 163 = .ok (.aload_n 0, 1) := by decide +kernel
theorem dX7_goes_164 : decode cX7_goes 164 = .ok (.getfield 29, 3) := by decide +kernel
theorem dX7_goes_167 : decode cX7_goes 167 = .ok (.aload_n 0, 1) := by decide +kernel
theorem dX7_goes_168 : decode cX7_goes 168 = .ok (.getfield 169, 3) := by decide +kernel
theorem dX7_goes_171 : decode cX7_goes 171 = .ok (.iload 8, 2) := by decide +kernel
theorem dX7_goes_173 : decode cX7_goes 173 = .ok (.iastore, 1) := by decide +kernel
theorem dX7_goes_174 : decode cX7_goes 174 = .ok (.aload_n 0, 1) := by decide +kernel
theorem dX7_goes_175 : decode cX7_goes 175 = .ok (.dup, 1) := by decide +kernel
theorem dX7_goes_176 : decode cX7_goes 176 = .ok (.getfield 169, 3) := by decide +kernel
theorem dX7_goes_179 : decode cX7_goes 179 = .ok (.iconst 1, 1) := by decide +kernel
theorem dX7_goes_180 : decode cX7_goes 180 = .ok (.iadd, 1) := by decide +kernel
theorem dX7_goes_181 : decode cX7_goes 181 = .ok (.putfield 169, 3) := by decide +kernel
theorem dX7_goes_184 : decode cX7_goes 184 = .ok (.lload 6, 2) := by decide +kernel
theorem dX7_goes_186 : decode cX7_goes 186 = .ok (.aload_n 0, 1) := by decide +kernel
theorem dX7_goes_187 : decode cX7_goes 187 = .ok (.iload_n 3, 1) := by decide +kernel
theorem dX7_goes_188 : decode cX7_goes 188 = .ok (.iload 8, 2) := by decide +kernel
theorem dX7_goes_190 : decode cX7_goes 190 = .ok (.invokevirtual 146, 3) := by decide +kernel
theorem dX7_goes_193 : decode cX7_goes 193 = .ok (.i2l, 1) := by decide +kernel
theorem dX7_goes_194 : decode cX7_goes 194 = .ok (.ldiv, 1) := by decide +kernel
theorem dX7_goes_195 : decode cX7_goes 195 = .ok (.lstore 6, 2) := by decide +kernel
theorem dX7_goes_197 : decode cX7_goes 197 = .ok (.aload_n 0, 1) := by decide +kernel
theorem dX7_goes_198 : decode cX7_goes 198 = .ok (.iload 8, 2) := by decide +kernel
theorem dX7_goes_200 : decode cX7_goes 200 = .ok (.iload 4, 2) := by decide +kernel
theorem dX7_goes_202 : decode cX7_goes 202 = .ok (.invokevirtual 143, 3) := by decide +kernel
theorem dX7_goes_205 : decode cX7_goes 205 = .ok (.istore 4, 2) := by decide +kernel
theorem dX7_goes_207 : decode cX7_goes 207 = .ok (.aload_n 0, 1) := by decide +kernel
theorem dX7_goes_208 : decode cX7_goes 208 = .ok (.getfield 7, 3) := by decide +kernel
theorem dX7_goes_211 : decode cX7_goes 211 = .ok (.iconst 5, 1) := by decide +kernel
theorem dX7_goes_212 : decode cX7_goes 212 = .ok (.aload_n 0, 1) := by decide +kernel
theorem dX7_goes_213 : decode cX7_goes 213 = .ok (.getfield 7, 3) := by decide +kernel
theorem dX7_goes_216 : decode cX7_goes 216 = .ok (.bipush 9, 2) := by decide +kernel
theorem dX7_goes_218 : decode cX7_goes 218 = .ok (.iload 8, 2) := by decide +kernel
theorem dX7_goes_220 : decode cX7_goes 220 = .ok (.iadd, 1) := by decide +kernel
theorem dX7_goes_221 : decode cX7_goes 221 = .ok (.iaload, 1) := by decide +kernel
theorem dX7_goes_222 : decode cX7_goes 222 = .ok (.iadd, 1) := by decide +kernel
theorem dX7_goes_223 : decode cX7_goes 223 = .ok (.iaload, 1) := by decide +kernel
theorem dX7_goes_224 : decode cX7_goes 224 = .ok (.istore 5, 2) := by decide +kernel
theorem dX7_goes_226 : decode cX7_goes 226 = .ok (.goto (-207), 3) := by decide +kernel
theorem dX7_goes_229 : decode cX7_goes 229 = .ok (.return_, 1) := by decide +kernel
theorem dX7_tellRow_0 : decode cX7_tellRow 0 = .ok (.iload_n 1, 1) := by decide +kernel
theorem dX7_tellRow_1 : decode cX7_tellRow 1 = .ok (.iconst (-1), 1) := by decide +kernel
theorem dX7_tellRow_2 : decode cX7_tellRow 2 = .ok (.if_icmp .ne 10, 3) := by decide +kernel
theorem dX7_tellRow_5 : decode cX7_tellRow 5 = .ok (.aload_n 0, 1) := by decide +kernel
theorem dX7_tellRow_6 : decode cX7_tellRow 6 = .ok (.getfield 169, 3) := by decide +kernel
theorem dX7_tellRow_9 : decode cX7_tellRow 9 = .ok (.goto 22, 3) := by decide +kernel
theorem dX7_tellRow_12 : decode cX7_tellRow 12 = .ok (.iload_n 1, 1) := by decide +kernel
theorem dX7_tellRow_13 : decode cX7_tellRow 13 = .ok (.aload_n 0, 1) := by decide +kernel
theorem dX7_tellRow_14 : decode cX7_tellRow 14 = .ok (.getfield 169, 3) := by decide +kernel
theorem dX7_tellRow_17 : decode cX7_tellRow 17 = .ok (.if_icmp .ge 12, 3) := by decide +kernel
theorem dX7_tellRow_20 : decode cX7_tellRow 20 = .ok (.aload_n 0, 1) := by decide +kernel
theorem dX7_tellRow_21 : decode cX7_tellRow 21 = .ok (.getfield 29, 3) := by decide +kernel
theorem dX7_tellRow_24 : decode cX7_tellRow 24 = .ok (.iload_n 1, 1) := by decide +kernel
theorem dX7_tellRow_25 : decode cX7_tellRow 25 = .ok (.iaload, 1) := by decide +kernel
theorem dX7_tellRow_26 : decode cX7_tellRow 26 = .ok (.goto 5, 3) := by decide +kernel
theorem dX7_tellRow_29 : decode cX7_tellRow 29 = .ok (.bipush (-10), 2) := by decide +kernel
theorem dX7_tellRow_31 : decode cX7_tellRow 31 = .ok (.ireturn, 1) := by decide +kernel
theorem dX7_row_0 : decode cX7_row 0 = .ok (.lload_n 1, 1) := by decide +kernel
theorem dX7_row_1 : decode cX7_row 1 = .ok (.lconst 0, 1) := by decide +kernel
theorem dX7_row_2 : decode cX7_row 2 = .ok (.lcmp, 1) := by decide +kernel
theorem dX7_row_3 : decode cX7_row 3 = .ok (.ifCond .lt 8, 3) := by decide +kernel
theorem dX7_row_6 : decode cX7_row 6 = .ok (.iload_n 3, 1) := by decide +kernel
theorem dX7_row_7 : decode cX7_row 7 = .ok (.iconst (-1), 1) := by decide +kernel
theorem dX7_row_8 : decode cX7_row 8 = .ok (.if_icmp .ge 8, 3) := by decide +kernel
theorem dX7_row_11 : decode cX7_row 11 = .ok (.aload_n 0, 1) := by decide +kernel
theorem dX7_row_12 : decode cX7_row 12 = .ok (.invokevirtual 65, 3) := by decide +kernel
theorem dX7_row_15 : decode cX7_row 15 = .ok (.ireturn, 1) := by decide +kernel
theorem dX7_row_16 : decode cX7_row 16 = .ok (.aload_n 0, 1) := by decide +kernel
theorem dX7_row_17 : decode cX7_row 17 = .ok (.iconst 0, 1) := by decide +kernel
theorem dX7_row_18 : decode cX7_row 18 = .ok (.iconst (-1), 1) := by decide +kernel
theorem dX7_row_19 : decode cX7_row 19 = .ok (.invokevirtual 163, 3) := by decide +kernel
theorem dX7_row_22 : decode cX7_row 22 = .ok (.lstore 4, 2) := by decide +kernel
theorem dX7_row_24 : decode cX7_row 24 = .ok (.lload 4, 2) := by decide +kernel
theorem dX7_row_26 : decode cX7_row 26 = .ok (.ldc2_w 161, 3) := by decide +kernel
theorem dX7_row_29 : decode cX7_row 29 = .ok (.lcmp, 1) := by decide +kernel
theorem dX7_row_30 : decode cX7_row 30 = .ok (.ifCond .ne 8, 3) := by decide +kernel
theorem dX7_row_33 : decode cX7_row 33 = .ok (.aload_n 0, 1) := by decide +kernel
theorem dX7_row_34 : decode cX7_row 34 = .ok (.invokevirtual 166, 3) := by decide +kernel
theorem dX7_row_37 : decode cX7_row 37 = .ok (.ireturn, 1) := by decide +kernel
theorem dX7_row_38 : decode cX7_row 38 = .ok (.lload_n 1, 1) := by decide +kernel
theorem dX7_row_39 : decode cX7_row 39 = .ok (.lload 4, 2) := by decide +kernel
theorem dX7_row_41 : decode cX7_row 41 = .ok (.lcmp, 1) := by decide +kernel
theorem dX7_row_42 : decode cX7_row 42 = .ok (.ifCond .lt 8, 3) := by decide +kernel
theorem dX7_row_45 : decode cX7_row 45 = .ok (.aload_n 0, 1) := by decide +kernel
theorem dX7_row_46 : decode cX7_row 46 = .ok (.invokevirtual 55, 3) := by decide +kernel
theorem dX7_row_49 : decode cX7_row 49 = .ok (.ireturn, 1) := by decide +kernel
theorem dX7_row_50 : decode cX7_row 50 = .ok (.aload_n 0, 1) := by decide +kernel
theorem dX7_row_51 : decode cX7_row 51 = .ok (.lload_n 1, 1) := by decide +kernel
theorem dX7_row_52 : decode cX7_row 52 = .ok (.iconst (-1), 1) := by decide +kernel
theorem dX7_row_53 : decode cX7_row 53 = .ok (.invokevirtual 172, 3) := by decide +kernel
theorem dX7_row_56 : decode cX7_row 56 = .ok (.aload_n 0, 1) := by decide +kernel
theorem dX7_row_57 : decode cX7_row 57 = .ok (.iload_n 3, 1) := by decide +kernel
