theorem dX4_init_0 : decode cX4_init 0 = .ok (.aload_n 0, 1) := by decide +kernel
theorem dX4_init_1 : decode cX4_init 1 = .ok (.invokespecial 3, 3) := by decide +kernel
theorem dX4_init_4 : decode cX4_init 4 = .ok (.aload_n 0, 1) := by decide +kernel
theorem dX4_init_5 : decode cX4_init 5 = .ok (.bipush 12, 2) := by decide +kernel
theorem dX4_init_7 : decode cX4_init 7 = .ok (.newarray .int, 2) := by decide +kernel
theorem dX4_init_9 : decode cX4_init 9 = .ok (.putfield 9, 3) := by decide +kernel
theorem dX4_init_12 : decode cX4_init 12 = .ok (.aload_n 0, 1) := by decide +kernel
theorem dX4_init_13 : decode cX4_init 13 = .ok (.bipush 12, 2) := by decide +kernel
theorem dX4_init_15 : decode cX4_init 15 = .ok (.newarray .int, 2) := by decide +kernel
theorem dX4_init_17 : decode cX4_init 17 = .ok (.putfield 15, 3) := by decide +kernel
theorem dX4_init_20 : decode cX4_init 20 = .ok (.aload_n 0, 1) := by decide +kernel
theorem dX4_init_21 : decode cX4_init 21 = .ok (.bipush 12, 2) := by decide +kernel
theorem dX4_init_23 : decode cX4_init 23 = .ok (.newarray .int, 2) := by decide +kernel
theorem dX4_init_25 : decode cX4_init 25 = .ok (.putfield 18, 3) := by decide +kernel
theorem dX4_init_28 : decode cX4_init 28 = .ok (.aload_n 0, 1) := by decide +kernel
theorem dX4_init_29 : decode cX4_init 29 = .ok (.bipush 12, 2) := by decide +kernel
theorem dX4_init_31 : decode cX4_init 31 = .ok (.newarray .int, 2) := by decide +kernel
theorem dX4_init_33 : decode cX4_init 33 = .ok (.putfield 21, 3) := by decide +kernel
theorem dX4_init_36 : decode cX4_init 36 = .ok (.aload_n 0, 1) := by decide +kernel
theorem dX4_init_37 : decode cX4_init 37 = .ok (.bipush 36, 2) := by decide +kernel
theorem dX4_init_39 : decode cX4_init 39 = .ok (.newarray .int, 2) := by decide +kernel
theorem dX4_init_41 : decode cX4_init 41 = .ok (.putfield 24, 3) := by decide +kernel
theorem dX4_init_44 : decode cX4_init 44 = .ok (.aload_n 0, 1) := by decide +kernel
theorem dX4_init_45 : decode cX4_init 45 = .ok (.bipush 40, 2) := by decide +kernel
theorem dX4_init_47 : decode cX4_init 47 = .ok (.newarray .int, 2) := by decide +kernel
theorem dX4_init_49 : decode cX4_init 49 = .ok (.putfield 27, 3) := by decide +kernel
theorem dX4_init_52 : decode cX4_init 52 = .ok (.aload_n 0, 1) := by decide +kernel
theorem dX4_init_53 : decode cX4_init 53 = .ok (.bipush 40, 2) := by decide +kernel
theorem dX4_init_55 : decode cX4_init 55 = .ok (.newarray .int, 2) := by decide +kernel
theorem dX4_init_57 : decode cX4_init 57 = .ok (.putfield 30, 3) := by decide +kernel
theorem dX4_init_60 : decode cX4_init 60 = .ok (.aload_n 0, 1) := by decide +kernel
theorem dX4_init_61 : decode cX4_init 61 = .ok (.iconst 4, 1) := by decide +kernel
theorem dX4_init_62 : decode cX4_init 62 = .ok (.newarray .int, 2) := by decide +kernel
theorem dX4_init_64 : decode cX4_init 64 = .ok (.putfield 33, 3) := by decide +kernel
theorem dX4_init_67 : decode cX4_init 67 = .ok (.aload_n 0, 1) := by decide +kernel
theorem dX4_init_68 : decode cX4_init 68 = .ok (.bipush 12, 2) := by decide +kernel
theorem dX4_init_70 : decode cX4_init 70 = .ok (.putfield 36, 3) := by decide +kernel
theorem dX4_init_73 : decode cX4_init 73 = .ok (.aload_n 0, 1) := by decide +kernel
theorem dX4_init_74 : decode cX4_init 74 = .ok (.bipush 15, 2) := by decide +kernel
theorem dX4_init_76 : decode cX4_init 76 = .ok (.putfield 40, 3) := by decide +kernel
theorem dX4_init_79 : decode cX4_init 79 = .ok (.aload_n 0, 1) := by decide +kernel
theorem dX4_init_80 : decode cX4_init 80 = .ok (.bipush 15, 2) := by decide +kernel
theorem dX4_init_82 : decode cX4_init 82 = .ok (.putfield 43, 3) := by decide +kernel
theorem dX4_init_85 : decode cX4_init 85 = .ok (.aload_n 0, 1) := by decide +kernel
theorem dX4_init_86 : decode cX4_init 86 = .ok (.getfield 33, 3) := by decide +kernel
theorem dX4_init_89 : decode cX4_init 89 = .ok (.bipush 15, 2) := by decide +kernel
theorem dX4_init_91 : decode cX4_init 91 = .ok (.invokestatic 46, 3) := by decide +kernel
theorem dX4_init_94 : decode cX4_init 94 = .ok (.return_, 1) := by decide +kernel
theorem dX4_copyFrom_0 : decode cX4_copyFrom 0 = .ok (.aload_n 1, 1) := by decide +kernel
theorem dX4_copyFrom_1 : decode cX4_copyFrom 1 = .ok (.getfield 9, 3) := by decide +kernel
theorem dX4_copyFrom_4 : decode cX4_copyFrom 4 = .ok (.aload_n 0, 1) := by decide +kernel
theorem dX4_copyFrom_5 : decode cX4_copyFrom 5 = .ok (.getfield 9, 3) := by decide +kernel
theorem dX4_copyFrom_8 : decode cX4_copyFrom 8 = .ok (.invokestatic 52, 3) := by decide +kernel
theorem dX4_copyFrom_11 : decode cX4_copyFrom 11 = .ok (.aload_n 1, 1) := by decide +kernel
theorem dX4_copyFrom_12 : decode cX4_copyFrom 12 = .ok (.getfield 15, 3) := by decide +kernel
theorem dX4_copyFrom_15 : decode cX4_copyFrom 15 = .ok (.aload_n 0, 1) := by decide +kernel
theorem dX4_copyFrom_16 : decode cX4_copyFrom 16 = .ok (.getfield 15, 3) := by decide +kernel
theorem dX4_copyFrom_19 : decode cX4_copyFrom 19 = .ok (.invokestatic 52, 3) := by decide +kernel
theorem dX4_copyFrom_22 : decode cX4_copyFrom 22 = .ok (.aload_n 1, 1) := by decide +kernel
theorem dX4_copyFrom_23 : decode cX4_copyFrom 23 = .ok (.getfield 18, 3) := by decide +kernel
theorem dX4_copyFrom_26 : decode cX4_copyFrom 26 = .ok (.aload_n 0, 1) := by decide +kernel
theorem dX4_copyFrom_27 : decode cX4_copyFrom 27 = .ok (.getfield 18, 3) := by decide +kernel
theorem dX4_copyFrom_30 : decode cX4_copyFrom 30 = .ok (.invokestatic 52, 3) := by decide +kernel
theorem dX4_copyFrom_33 : decode cX4_copyFrom 33 = .ok (.aload_n 1, 1) := by decide +kernel
theorem dX4_copyFrom_34 : decode cX4_copyFrom 34 = .ok (.getfield 21, 3) := by decide +kernel
theorem dX4_copyFrom_37 : decode cX4_copyFrom 37 = .ok (.aload_n 0, 1) := by decide +kernel
theorem dX4_copyFrom_38 : decode cX4_copyFrom 38 = .ok (.getfield 21, 3) := by decide +kernel
theorem dX4_copyFrom_41 : decode cX4_copyFrom 41 = .ok (.invokestatic 52, 3) := by decide +kernel
theorem dX4_copyFrom_44 : decode cX4_copyFrom 44 = .ok (.aload_n 1, 1) := by decide +kernel
theorem dX4_copyFrom_45 : decode cX4_copyFrom 45 = .ok (.getfield 24, 3) := by decide +kernel
theorem dX4_copyFrom_48 : decode cX4_copyFrom 48 = .ok (.aload_n 0, 1) := by decide +kernel
theorem dX4_copyFrom_49 : decode cX4_copyFrom 49 = .ok (.getfield 24, 3) := by decide +kernel
theorem dX4_copyFrom_52 : decode cX4_copyFrom 52 = .ok (.invokestatic 52, 3) := by decide +kernel
theorem dX4_copyFrom_55 : decode cX4_copyFrom 55 = .ok (.aload_n 1, 1) := by decide +kernel
theorem dX4_copyFrom_56 : decode cX4_copyFrom 56 = .ok (.getfield 27, 3) := by decide +kernel
theorem dX4_copyFrom_59 : decode cX4_copyFrom 59 = .ok (.aload_n 0, 1) := by decide +kernel
theorem dX4_copyFrom_60 : decode cX4_copyFrom 60 = .ok (.getfield 27, 3) := by decide +kernel
theorem dX4_copyFrom_63 : decode cX4_copyFrom 63 = .ok (.invokestatic 52, 3) := by decide +kernel
theorem dX4_copyFrom_66 : decode cX4_copyFrom 66 = .ok (.aload_n 1, 1) := by decide +kernel
theorem dX4_copyFrom_67 : decode cX4_copyFrom 67 = .ok (.getfield 30, 3) := by decide +kernel
theorem dX4_copyFrom_70 : decode cX4_copyFrom 70 = .ok (.aload_n 0, 1) := by decide +kernel
theorem dX4_copyFrom_71 : decode cX4_copyFrom 71 = .ok (.getfield 30, 3) := by decide +kernel
theorem dX4_copyFrom_74 : decode cX4_copyFrom 74 = .ok (.invokestatic 52, 3) := by decide +kernel
theorem dX4_copyFrom_77 : decode cX4_copyFrom 77 = .ok (.aload_n 1, 1) := by decide +kernel
theorem dX4_copyFrom_78 : decode cX4_copyFrom 78 = .ok (.getfield 33, 3) := by decide +kernel
theorem dX4_copyFrom_81 : decode cX4_copyFrom 81 = .ok (.aload_n 0, 1) := by decide +kernel
theorem dX4_copyFrom_82 : decode cX4_copyFrom 82 = .ok (.getfield 33, 3) := by decide +kernel
theorem dX4_copyFrom_85 : decode cX4_copyFrom 85 = .ok (.invokestatic 52, 3) := by decide +kernel
theorem dX4_copyFrom_88 : decode cX4_copyFrom 88 = .ok (.aload_n 0, 1) := by decide +kernel
theorem dX4_copyFrom_89 : decode cX4_copyFrom 89 = .ok (.aload_n 1, 1) := by decide +kernel
theorem dX4_copyFrom_90 : decode cX4_copyFrom 90 = .ok (.getfield 56, 3) := by decide +kernel
theorem dX4_copyFrom_93 : decode cX4_copyFrom 93 = .ok (.putfield 56, 3) := by decide +kernel
theorem dX4_copyFrom_96 : decode cX4_copyFrom 96 = .ok (.aload_n 0, 1) := by decide +kernel
theorem dX4_copyFrom_97 : decode cX4_copyFrom 97 = .ok (.aload_n 1, 1) := by decide +kernel
theorem dX4_copyFrom_98 : decode cX4_copyFrom 98 = .ok (.getfield 59, 3) := by decide +kernel
theorem dX4_copyFrom_101 : decode cX4_copyFrom 101 = .ok (.putfield 59, 3) := by decide +kernel
theorem dX4_copyFrom_104 : decode cX4_copyFrom 104 = .ok (.aload_n 0, 1) := by decide +kernel
theorem dX4_copyFrom_105 : decode cX4_copyFrom 105 = .ok (.aload_n 1, 1) := by decide +kernel
theorem dX4_copyFrom_106 : decode cX4_copyFrom 106 = .ok (.getfield 36, 3) := by decide +kernel
theorem dX4_copyFrom_109 : decode cX4_copyFrom 109 = .ok (.putfield 36, 3) := by decide +kernel
theorem dX4_copyFrom_112 : decode cX4_copyFrom 112 = .ok (.aload_n 0, 1) := by decide +kernel
theorem dX4_copyFrom_113 : decode cX4_copyFrom 113 = .ok (.aload_n 1, 1) := by decide +kernel
theorem dX4_copyFrom_114 : decode cX4_copyFrom 114 = .ok (.getfield 40, 3) := by decide +kernel
theorem dX4_copyFrom_117 : decode cX4_copyFrom 117 = .ok (.putfield 40, 3) := by decide +kernel
theorem dX4_copyFrom_120 : decode cX4_copyFrom 120 = .ok (.aload_n 0, 1) := by decide +kernel
theorem dX4_copyFrom_121 : decode cX4_copyFrom 121 = .ok (.aload_n 1, 1) := by decide +kernel
theorem dX4_copyFrom_122 : decode cX4_copyFrom 122 = .ok (.getfield 43, 3) := by decide +kernel
theorem dX4_copyFrom_125 : decode cX4_copyFrom 125 = .ok (.putfield 43, 3) := by decide +kernel
theorem dX4_copyFrom_128 : decode cX4_copyFrom 128 = .ok (.return_, 1) := by decide +kernel
theorem dX4_copyRow_0 : decode cX4_copyRow 0 = .ok (.aload_n 0, 1) := by decide +kernel
theorem dX4_copyRow_1 : decode cX4_copyRow 1 = .ok (.iconst 0, 1) := by decide +kernel
theorem dX4_copyRow_2 : decode cX4_copyRow 2 = .ok (.aload_n 1, 1) := by decide +kernel
theorem dX4_copyRow_3 : decode cX4_copyRow 3 = .ok (.iconst 0, 1) := by decide +kernel
theorem dX4_copyRow_4 : decode cX4_copyRow 4 = .ok (.aload_n 0, 1) := by decide +kernel
theorem dX4_copyRow_5 : decode cX4_copyRow 5 = .ok (.arraylength, 1) := by decide +kernel
theorem dX4_copyRow_6 : decode cX4_copyRow 6 = .ok (.aload_n 1, 1) := by decide +kernel
theorem dX4_copyRow_7 : decode cX4_copyRow 7 = .ok (.arraylength, 1) := by decide +kernel
theorem dX4_copyRow_8 : decode cX4_copyRow 8 = .ok (.invokestatic 62, 3) := by decide +kernel
theorem dX4_copyRow_11 : decode cX4_copyRow 11 = .ok (.invokestatic 68, 3) := by decide +kernel
theorem dX4_copyRow_14 : decode cX4_copyRow 14 = .ok (.return_, 1) := by decide +kernel
theorem dX4_hasPhrase_0 : decode cX4_hasPhrase 0 = .ok (.iload_n 1, 1) := by decide +kernel
theorem dX4_hasPhrase_1 : decode cX4_hasPhrase 1 = .ok (.iconst 0, 1) := by decide +kernel
theorem dX4_hasPhrase_2 : decode cX4_hasPhrase 2 = .ok (.aload_n 0, 1) := by decide +kernel
theorem dX4_hasPhrase_3 : decode cX4_hasPhrase 3 = .ok (.getfield 56, 3) := by decide +kernel
theorem dX4_hasPhrase_6 : decode cX4_hasPhrase 6 = .ok (.iconst 1, 1) := by decide +kernel
theorem dX4_hasPhrase_7 : decode cX4_hasPhrase 7 = .ok (.isub, 1) := by decide +kernel
theorem dX4_hasPhrase_8 : decode cX4_hasPhrase 8 = .ok (.invokestatic 74, 3) := by decide +kernel
theorem dX4_hasPhrase_11 : decode cX4_hasPhrase 11 = .ok (.ireturn, 1) := by decide +kernel
theorem dX4_addPhrase_0 : decode cX4_addPhrase 0 = .ok (.iload_n 2, 1) := by decide +kernel
theorem dX4_addPhrase_1 : decode cX4_addPhrase 1 = .ok (.invokestatic 78, 3) := by decide +kernel
theorem dX4_addPhrase_4 : decode cX4_addPhrase 4 = .ok (.istore_n 3, 1) := by decide +kernel
theorem dX4_addPhrase_5 : decode cX4_addPhrase 5 = .ok (.iload_n 1, 1) := by decide +kernel
theorem dX4_addPhrase_6 : decode cX4_addPhrase 6 = .ok (.invokestatic 82, 3) := by decide +kernel
theorem dX4_addPhrase_9 : decode cX4_addPhrase 9 = .ok (.ifCond .eq 7, 3) := by decide +kernel
theorem dX4_addPhrase_12 : decode cX4_addPhrase 12 = .ok (.iload_n 3, 1) := by decide +kernel
theorem dX4_addPhrase_13 : decode cX4_addPhrase 13 = .ok (.ifCond .ne 6, 3) := by decide +kernel
theorem dX4_addPhrase_16 : decode cX4_addPhrase 16 = .ok (.bipush (-2), 2) := by decide +kernel
theorem dX4_addPhrase_18 : decode cX4_addPhrase 18 = .ok (.ireturn, 1) := by decide +kernel
theorem dX4_addPhrase_19 : decode cX4_addPhrase 19 = .ok (.iconst 0, 1) := by decide +kernel
theorem dX4_addPhrase_20 : decode cX4_addPhrase 20 = .ok (.istore 4, 2) := by decide +kernel
theorem dX4_addPhrase_22 : decode cX4_addPhrase 22 = .ok (.iload 4, 2) := by decide +kernel
theorem dX4_addPhrase_24 : decode cX4_addPhrase 24 = .ok (.aload_n 0, 1) := by decide +kernel
theorem dX4_addPhrase_25 : decode cX4_addPhrase 25 = .ok (.getfield 56, 3) := by decide +kernel
theorem dX4_addPhrase_28 : decode cX4_addPhrase 28 = .ok (.if_icmp .ge 34, 3) := by decide +kernel
theorem dX4_addPhrase_31 : decode cX4_addPhrase 31 = .ok (.aload_n 0, 1) := by decide +kernel
theorem dX4_addPhrase_32 : decode cX4_addPhrase 32 = .ok (.getfield 9, 3) := by decide +kernel
theorem dX4_addPhrase_35 : decode cX4_addPhrase 35 = .ok (.iload 4, 2) := by decide +kernel
theorem dX4_addPhrase_37 : decode cX4_addPhrase 37 = .ok (.iaload, 1) := by decide +kernel
theorem dX4_addPhrase_38 : decode cX4_addPhrase 38 = .ok (.iload_n 1, 1) := by decide +kernel
theorem dX4_addPhrase_39 : decode cX4_addPhrase 39 = .ok (.if_icmp .ne 17, 3) := by decide +kernel
theorem dX4_addPhrase_42 : decode cX4_addPhrase 42 = .ok (.aload_n 0, 1) := by decide +kernel
theorem dX4_addPhrase_43 : decode cX4_addPhrase 43 = .ok (.getfield 15, 3) := by decide +kernel
theorem dX4_addPhrase_46 : decode cX4_addPhrase 46 = .ok (.iload 4, 2) := by decide +kernel
theorem dX4_addPhrase_48 : decode cX4_addPhrase 48 = .ok (.iaload, 1) := by decide +kernel
theorem dX4_addPhrase_49 : decode cX4_addPhrase 49 = .ok (.iload_n 2, 1) := by decide +kernel
theorem dX4_addPhrase_50 : decode cX4_addPhrase 50 = .ok (.if_icmp .ne 6, 3) := by decide +kernel
theorem dX4_addPhrase_53 : decode cX4_addPhrase 53 = .ok (.bipush (-3), 2) := by decide +kernel
theorem dX4_addPhrase_55 : decode cX4_addPhrase 55 = .ok (.ireturn, 1) := by decide +kernel
theorem dX4_addPhrase_56 : decode cX4_addPhrase 56 = .ok (.iinc 4 1, 3) := by decide +kernel
theorem dX4_addPhrase_59 : decode cX4_addPhrase 59 = .ok (.goto (-37), 3) := by decide +kernel
theorem dX4_addPhrase_62 : decode cX4_addPhrase 62 = .ok (.aload_n 0, 1) := by decide +kernel
theorem dX4_addPhrase_63 : decode cX4_addPhrase 63 = .ok (.getfield 56, 3) := by decide +kernel
theorem dX4_addPhrase_66 : decode cX4_addPhrase 66 = .ok (.bipush 12, 2) := by decide +kernel
theorem dX4_addPhrase_68 : decode cX4_addPhrase 68 = .ok (.if_icmp .lt 6, 3) := by decide +kernel
theorem dX4_addPhrase_71 : decode cX4_addPhrase 71 = .ok (.bipush (-4), 2) := by decide +kernel
theorem dX4_addPhrase_73 : decode cX4_addPhrase 73 = .ok (.ireturn, 1) := by decide +kernel
theorem dX4_addPhrase_74 : decode cX4_addPhrase 74 = .ok (.aload_n 0, 1) := by decide +kernel
theorem dX4_addPhrase_75 : decode cX4_addPhrase 75 = .ok (.dup, 1) := by decide +kernel
theorem dX4_addPhrase_76 : decode cX4_addPhrase 76 = .ok (.getfield 56, 3) := by decide +kernel
theorem dX4_addPhrase_79 : decode cX4_addPhrase 79 = .ok (.dup_x1, 1) := by decide +kernel
theorem dX4_addPhrase_80 : decode cX4_addPhrase 80 = .ok (.iconst 1, 1) := by decide +kernel
theorem dX4_addPhrase_81 : decode cX4_addPhrase 81 = .ok (.iadd, 1) := by decide +kernel
theorem dX4_addPhrase_82 : decode cX4_addPhrase 82 = .ok (.putfield 56, 3) := by decide +kernel
theorem dX4_addPhrase_85 : decode cX4_addPhrase 85 = .ok (.istore 4, 2) := by decide +kernel
theorem dX4_addPhrase_87 : decode cX4_addPhrase 87 = .ok (.aload_n 0, 1) := by decide +kernel
theorem dX4_addPhrase_88 : decode cX4_addPhrase 88 = .ok (.getfield 9, 3) := by decide +kernel
theorem dX4_addPhrase_91 : decode cX4_addPhrase 91 = .ok (.iload 4, 2) := by decide +kernel
theorem dX4_addPhrase_93 : decode cX4_addPhrase 93 = .ok (.iload_n 1, 1) := by decide +kernel
theorem dX4_addPhrase_94 : decode cX4_addPhrase 94 = .ok (.iastore, 1) := by decide +kernel
theorem dX4_addPhrase_95 : decode cX4_addPhrase 95 = .ok (.aload_n 0, 1) := by decide +kernel
theorem dX4_addPhrase_96 : decode cX4_addPhrase 96 = .ok (.getfield 15, 3) := by decide +kernel
theorem dX4_addPhrase_99 : decode cX4_addPhrase 99 = .ok (.iload 4, 2) := by decide +kernel
theorem dX4_addPhrase_101 : decode cX4_addPhrase 101 = .ok (.iload_n 2, 1) := by decide +kernel
theorem dX4_addPhrase_102 : decode cX4_addPhrase 102 = .ok (.iastore, 1) := by decide +kernel
theorem dX4_addPhrase_103 : decode cX4_addPhrase 103 = .ok (.aload_n 0, 1) := by decide +kernel
theorem dX4_addPhrase_104 : decode cX4_addPhrase 104 = .ok (.getfield 18, 3) := by decide +kernel
theorem dX4_addPhrase_107 : decode cX4_addPhrase 107 = .ok (.iload 4, 2) := by decide +kernel
theorem dX4_addPhrase_109 : decode cX4_addPhrase 109 = .ok (.iload_n 3, 1) := by decide +kernel
theorem dX4_addPhrase_110 : decode cX4_addPhrase 110 = .ok (.iastore, 1) := by decide +kernel
theorem dX4_addPhrase_111 : decode cX4_addPhrase 111 = .ok (.aload_n 0, 1) := by decide +kernel
theorem dX4_addPhrase_112 : decode cX4_addPhrase 112 = .ok (.getfield 21, 3) := by decide +kernel
theorem dX4_addPhrase_115 : decode cX4_addPhrase 115 = .ok (.iload 4, 2) := by decide +kernel
theorem dX4_addPhrase_117 : decode cX4_addPhrase 117 = .ok (.iload_n 2, 1) := by decide +kernel
theorem dX4_addPhrase_118 : decode cX4_addPhrase 118 = .ok (.iload_n 3, 1) := by decide +kernel
theorem dX4_addPhrase_119 : decode cX4_addPhrase 119 = .ok (.invokestatic 86, 3) := by decide +kernel
theorem dX4_addPhrase_122 : decode cX4_addPhrase 122 = .ok (.iastore, 1) := by decide +kernel
theorem dX4_addPhrase_123 : decode cX4_addPhrase 123 = .ok (.iconst 0, 1) := by decide +kernel
theorem dX4_addPhrase_124 : decode cX4_addPhrase 124 = .ok (.istore 5, 2) := by decide +kernel
theorem dX4_addPhrase_126 : decode cX4_addPhrase 126 = .ok (.iload 5, 2) := by decide +kernel
theorem dX4_addPhrase_128 : decode cX4_addPhrase 128 = .ok (.iconst 3, 1) := by decide +kernel
theorem dX4_addPhrase_129 : decode cX4_addPhrase 129 = .ok (.if_icmp .ge 23, 3) := by decide +kernel
theorem dX4_addPhrase_132 : decode cX4_addPhrase 132 = .ok (.aload_n 0, 1) := by decide +kernel
theorem dX4_addPhrase_133 : decode cX4_addPhrase 133 = .ok (.getfield 24, 3) := by decide +kernel
theorem dX4_addPhrase_136 : decode cX4_addPhrase 136 = .ok (.iload 5, 2) := by decide +kernel
theorem dX4_addPhrase_138 : decode cX4_addPhrase 138 = .ok (.bipush 12, 2) := by decide +kernel
theorem dX4_addPhrase_140 : decode cX4_addPhrase 140 = .ok (.imul, 1) := by decide +kernel
theorem dX4_addPhrase_141 : decode cX4_addPhrase 141 = .ok (.iload 4, 2) := by decide +kernel
theorem dX4_addPhrase_143 : decode cX4_addPhrase 143 = .ok (.iadd, 1) := by decide +kernel
theorem dX4_addPhrase_144 : decode cX4_addPhrase 144 = .ok (.iconst 0, 1) := by decide +kernel
theorem dX4_addPhrase_145 : decode cX4_addPhrase 145 = .ok (.iastore, 1) := by decide +kernel
theorem dX4_addPhrase_146 : decode cX4_addPhrase 146 = .ok (.iinc 5 1, 3) := by decide +kernel
theorem dX4_addPhrase_149 : decode cX4_addPhrase 149 = .ok (.goto (-23), 3) := by decide +kernel
theorem dX4_addPhrase_152 : decode cX4_addPhrase 152 = .ok (.iload 4, 2) := by decide +kernel
theorem dX4_addPhrase_154 : decode cX4_addPhrase 154 = .ok (.ireturn, 1) := by decide +kernel
theorem dX4_dropPhrase_0 : decode cX4_dropPhrase 0 = .ok (.aload_n 0, 1) := by decide +kernel
theorem dX4_dropPhrase_1 : decode cX4_dropPhrase 1 = .ok (.iload_n 1, 1) := by decide +kernel
theorem dX4_dropPhrase_2 : decode cX4_dropPhrase 2 = .ok (.invokevirtual 89, 3) := by decide +kernel
theorem dX4_dropPhrase_5 : decode cX4_dropPhrase 5 = .ok (.ifCond .ne 6, 3) := by decide +kernel
theorem dX4_dropPhrase_8 : decode cX4_dropPhrase 8 = .ok (.bipush (-2), 2) := by decide +kernel
theorem dX4_dropPhrase_10 : decode cX4_dropPhrase 10 = .ok (.ireturn, 1) := by decide +kernel
theorem dX4_dropPhrase_11 : decode cX4_dropPhrase 11 = .ok (.aload_n 0, 1) := by decide +kernel
theorem dX4_dropPhrase_12 : decode cX4_dropPhrase 12 = .ok (.dup, 1) := by decide +kernel
theorem dX4_dropPhrase_13 : decode cX4_dropPhrase 13 = .ok (.getfield 56, 3) := by decide +kernel
theorem dX4_dropPhrase_16 : decode cX4_dropPhrase 16 = .ok (.iconst 1, 1) := by decide +kernel
theorem dX4_dropPhrase_17 : decode cX4_dropPhrase 17 = .ok (.isub, 1) := by decide +kernel
theorem dX4_dropPhrase_18 : decode cX4_dropPhrase 18 = .ok (.putfield 56, 3) := by decide +kernel
theorem dX4_dropPhrase_21 : decode cX4_dropPhrase 21 = .ok (.iload_n 1, 1) := by decide +kernel
theorem dX4_dropPhrase_22 : decode cX4_dropPhrase 22 = .ok (.istore_n 2, 1) := by decide +kernel
theorem dX4_dropPhrase_23 : decode cX4_dropPhrase 23 = .ok (.iload_n 2, 1) := by decide +kernel
theorem dX4_dropPhrase_24 : decode cX4_dropPhrase 24 = .ok (.aload_n 0, 1) := by decide +kernel
theorem dX4_dropPhrase_25 : decode cX4_dropPhrase 25 = .ok (.getfield 56, 3) := by decide +kernel
theorem dX4_dropPhrase_28 : decode cX4_dropPhrase 28 = .ok (.if_icmp .ge 17, 3) := by decide +kernel
theorem dX4_dropPhrase_31 : decode cX4_dropPhrase 31 = .ok (.aload_n 0, 1) := by decide +kernel
theorem dX4_dropPhrase_32 : decode cX4_dropPhrase 32 = .ok (.iload_n 2, 1) := by decide +kernel
theorem dX4_dropPhrase_33 : decode cX4_dropPhrase 33 = .ok (.iconst 1, 1) := by decide +kernel
theorem dX4_dropPhrase_34 : decode cX4_dropPhrase 34 = .ok (.iadd, 1) := by decide +kernel
theorem dX4_dropPhrase_35 : decode cX4_dropPhrase 35 = .ok (.iload_n 2, 1) := by decide +kernel
theorem dX4_dropPhrase_36 : decode cX4_dropPhrase 36 = .ok (.invokevirtual 92, 3) := by decide +kernel
theorem dX4_dropPhrase_39 : decode cX4_dropPhrase 39 = .ok (.iinc 2 1, 3) := by decide +kernel
theorem dX4_dropPhrase_42 : decode cX4_dropPhrase 42 = .ok (.goto (-19), 3) := by decide +kernel
theorem dX4_dropPhrase_45 : decode cX4_dropPhrase 45 = .ok (.aload_n 0, 1) := by decide +kernel
theorem dX4_dropPhrase_46 : decode cX4_dropPhrase 46 = .ok (.getfield 56, 3) := by decide +kernel
theorem dX4_dropPhrase_49 : decode cX4_dropPhrase 49 = .ok (.ireturn, 1) := by decide +kernel
theorem dX4_movePhrase_0 : decode cX4_movePhrase 0 = .ok (.aload_n 0, 1) := by decide +kernel
theorem dX4_movePhrase_1 : decode cX4_movePhrase 1 = .ok (.getfield 9, 3) := by decide +kernel
theorem dX4_movePhrase_4 : decode cX4_movePhrase 4 = .ok (.iload_n 2, 1) := by decide +kernel
theorem dX4_movePhrase_5 : decode cX4_movePhrase 5 = .ok (.aload_n 0, 1) := by decide +kernel
theorem dX4_movePhrase_6 : decode cX4_movePhrase 6 = .ok (.getfield 9, 3) := by decide +kernel
theorem dX4_movePhrase_9 : decode cX4_movePhrase 9 = .ok (.iload_n 1, 1) := by decide +kernel
theorem dX4_movePhrase_10 : decode cX4_movePhrase 10 = .ok (.iaload, 1) := by decide +kernel
theorem dX4_movePhrase_11 : decode cX4_movePhrase 11 = .ok (.iastore, 1) := by decide +kernel
theorem dX4_movePhrase_12 : decode cX4_movePhrase 12 = .ok (.aload_n 0, 1) := by decide +kernel
theorem dX4_movePhrase_13 : decode cX4_movePhrase 13 = .ok (.getfield 15, 3) := by decide +kernel
theorem dX4_movePhrase_16 : decode cX4_movePhrase 16 = .ok (.iload_n 2, 1) := by decide +kernel
theorem dX4_movePhrase_17 : decode cX4_movePhrase 17 = .ok (.aload_n 0, 1) := by decide +kernel
theorem dX4_movePhrase_18 : decode cX4_movePhrase 18 = .ok (.getfield 15, 3) := by decide +kernel
theorem dX4_movePhrase_21 : decode cX4_movePhrase 21 = .ok (.iload_n 1, 1) := by decide +kernel
theorem dX4_movePhrase_22 : decode cX4_movePhrase 22 = .ok (.iaload, 1) := by decide +kernel
theorem dX4_movePhrase_23 : decode cX4_movePhrase 23 = .ok (.iastore, 1) := by decide +kernel
theorem dX4_movePhrase_24 : decode cX4_movePhrase 24 = .ok (.aload_n 0, 1) := by decide +kernel
theorem dX4_movePhrase_25 : decode cX4_movePhrase 25 = .ok (.getfield 18, 3) := by decide +kernel
theorem dX4_movePhrase_28 : decode cX4_movePhrase 28 = .ok (.iload_n 2, 1) := by decide +kernel
theorem dX4_movePhrase_29 : decode cX4_movePhrase 29 = .ok (.aload_n 0, 1) := by decide +kernel
theorem dX4_movePhrase_30 : decode cX4_movePhrase 30 = .ok (.getfield 18, 3) := by decide +kernel
theorem dX4_movePhrase_33 : decode cX4_movePhrase 33 = .ok (.iload_n 1, 1) := by decide +kernel
theorem dX4_movePhrase_34 : decode cX4_movePhrase 34 = .ok (.iaload, 1) := by decide +kernel
theorem dX4_movePhrase_35 : decode cX4_movePhrase 35 = .ok (.iastore, 1) := by decide +kernel
theorem dX4_movePhrase_36 : decode cX4_movePhrase 36 = .ok (.aload_n 0, 1) := by decide +kernel
theorem dX4_movePhrase_37 : decode cX4_movePhrase 37 = .ok (.getfield 21, 3) := by decide +kernel
theorem dX4_movePhrase_40 : decode cX4_movePhrase 40 = .ok (.iload_n 2, 1) := by decide +kernel
theorem dX4_movePhrase_41 : decode cX4_movePhrase 41 = .ok (.aload_n 0, 1) := by decide +kernel
theorem dX4_movePhrase_42 : decode cX4_movePhrase 42 = .ok (.getfield 21, 3) := by decide +kernel
theorem dX4_movePhrase_45 : decode cX4_movePhrase 45 = .ok (.iload_n 1, 1) := by decide +kernel
theorem dX4_movePhrase_46 : decode cX4_movePhrase 46 = .ok (.iaload, 1) := by decide +kernel
theorem dX4_movePhrase_47 : decode cX4_movePhrase 47 = .ok (.iastore, 1) := by decide +kernel
theorem dX4_movePhrase_48 : decode cX4_movePhrase 48 = .ok (.iconst 0, 1) := by decide +kernel
theorem dX4_movePhrase_49 : decode cX4_movePhrase 49 = .ok (.istore_n 3, 1) := by decide +kernel
theorem dX4_movePhrase_50 : decode cX4_movePhrase 50 = .ok (.iload_n 3, 1) := by decide +kernel
theorem dX4_movePhrase_51 : decode cX4_movePhrase 51 = .ok (.iconst 3, 1) := by decide +kernel
theorem dX4_movePhrase_52 : decode cX4_movePhrase 52 = .ok (.if_icmp .ge 31, 3) := by decide +kernel
theorem dX4_movePhrase_55 : decode cX4_movePhrase 55 = .ok (.aload_n 0, 1) := by decide +kernel
theorem dX4_movePhrase_56 : decode cX4_movePhrase 56 = .ok (.getfield 24, 3) := by decide +kernel
theorem dX4_movePhrase_59 : decode cX4_movePhrase 59 = .ok (.iload_n 3, 1) := by decide +kernel
theorem dX4_movePhrase_60 : decode cX4_movePhrase 60 = .ok (.bipush 12, 2) := by decide +kernel
theorem dX4_movePhrase_62 : decode cX4_movePhrase 62 = .ok (.imul, 1) := by decide +kernel
theorem dX4_movePhrase_63 : decode cX4_movePhrase 63 = .ok (.iload_n 2, 1) := by decide +kernel
theorem dX4_movePhrase_64 : decode cX4_movePhrase 64 = .ok (.iadd, 1) := by decide +kernel
theorem dX4_movePhrase_65 : decode cX4_movePhrase 65 = .ok (.aload_n 0, 1) := by decide +kernel
theorem dX4_movePhrase_66 : decode cX4_movePhrase 66 = .ok (.getfield 24, 3) := by decide +kernel
theorem dX4_movePhrase_69 : decode cX4_movePhrase 69 = .ok (.iload_n 3, 1) := by decide +kernel
theorem dX4_movePhrase_70 : decode cX4_movePhrase 70 = .ok (.bipush 12, 2) := by decide +kernel
theorem dX4_movePhrase_72 : decode cX4_movePhrase 72 = .ok (.imul, 1) := by decide +kernel
theorem dX4_movePhrase_73 : decode cX4_movePhrase 73 = .ok (.iload_n 1, 1) := by decide +kernel
theorem dX4_movePhrase_74 : decode cX4_movePhrase 74 = .ok (.iadd, 1) := by decide +kernel
theorem dX4_movePhrase_75 : decode cX4_movePhrase 75 = .ok (.iaload, 1) := by decide +kernel
theorem dX4_movePhrase_76 : decode cX4_movePhrase 76 = .ok (.iastore, 1) := by decide +kernel
theorem dX4_movePhrase_77 : decode cX4_movePhrase 77 = .ok (.iinc 3 1, 3) := by decide +kernel
theorem dX4_movePhrase_80 : decode cX4_movePhrase 80 = .ok (.goto (-30), 3) := by decide +kernel
theorem dX4_movePhrase_83 : decode cX4_movePhrase 83 = .ok (.return_, 1) := by decide +kernel
theorem dX4_setBegins_0 : decode cX4_setBegins 0 = .ok (.iload_n 1, 1) := by decide +kernel
theorem dX4_setBegins_1 : decode cX4_setBegins 1 = .ok (.invokestatic 96, 3) := by decide +kernel
theorem dX4_setBegins_4 : decode cX4_setBegins 4 = .ok (.ifCond .ne 6, 3) := by decide +kernel
theorem dX4_setBegins_7 : decode cX4_setBegins 7 = .ok (.bipush (-2), 2) := by decide +kernel
theorem dX4_setBegins_9 : decode cX4_setBegins 9 = .ok (.ireturn, 1) := by decide +kernel
theorem dX4_setBegins_10 : decode cX4_setBegins 10 = .ok (.aload_n 0, 1) := by decide +kernel
theorem dX4_setBegins_11 : decode cX4_setBegins 11 = .ok (.getfield 40, 3) := by decide +kernel
theorem dX4_setBegins_14 : decode cX4_setBegins 14 = .ok (.istore_n 2, 1) := by decide +kernel
theorem dX4_setBegins_15 : decode cX4_setBegins 15 = .ok (.aload_n 0, 1) := by decide +kernel
theorem dX4_setBegins_16 : decode cX4_setBegins 16 = .ok (.iload_n 1, 1) := by decide +kernel
theorem dX4_setBegins_17 : decode cX4_setBegins 17 = .ok (.putfield 40, 3) := by decide +kernel
theorem dX4_setBegins_20 : decode cX4_setBegins 20 = .ok (.iload_n 2, 1) := by decide +kernel
theorem dX4_setBegins_21 : decode cX4_setBegins 21 = .ok (.ireturn, 1) := by decide +kernel
theorem dX4_setEnds_0 : decode cX4_setEnds 0 = .ok (.iload_n 1, 1) := by decide +kernel
theorem dX4_setEnds_1 : decode cX4_setEnds 1 = .ok (.invokestatic 96, 3) := by decide +kernel
theorem dX4_setEnds_4 : decode cX4_setEnds 4 = .ok (.ifCond .ne 6, 3) := by decide +kernel
theorem dX4_setEnds_7 : decode cX4_setEnds 7 = .ok (.bipush (-2), 2) := by decide +kernel
theorem dX4_setEnds_9 : decode cX4_setEnds 9 = .ok (.ireturn, 1) := by decide +kernel
theorem dX4_setEnds_10 : decode cX4_setEnds 10 = .ok (.aload_n 0, 1) := by decide +kernel
theorem dX4_setEnds_11 : decode cX4_setEnds 11 = .ok (.getfield 43, 3) := by decide +kernel
theorem dX4_setEnds_14 : decode cX4_setEnds 14 = .ok (.istore_n 2, 1) := by decide +kernel
theorem dX4_setEnds_15 : decode cX4_setEnds 15 = .ok (.aload_n 0, 1) := by decide +kernel
theorem dX4_setEnds_16 : decode cX4_setEnds 16 = .ok (.iload_n 1, 1) := by decide +kernel
theorem dX4_setEnds_17 : decode cX4_setEnds 17 = .ok (.putfield 43, 3) := by decide +kernel
theorem dX4_setEnds_20 : decode cX4_setEnds 20 = .ok (.iload_n 2, 1) := by decide +kernel
theorem dX4_setEnds_21 : decode cX4_setEnds 21 = .ok (.ireturn, 1) := by decide +kernel
theorem dX4_setFollows_0 : decode cX4_setFollows 0 = .ok (.iload_n 1, 1) := by decide +kernel
theorem dX4_setFollows_1 : decode cX4_setFollows 1 = .ok (.invokestatic 82, 3) := by decide +kernel
theorem dX4_setFollows_4 : decode cX4_setFollows 4 = .ok (.ifCond .eq 10, 3) := by decide +kernel
theorem dX4_setFollows_7 : decode cX4_setFollows 7 = .ok (.iload_n 2, 1) := by decide +kernel
theorem dX4_setFollows_8 : decode cX4_setFollows 8 = .ok (.invokestatic 96, 3) := by decide +kernel
theorem dX4_setFollows_11 : decode cX4_setFollows 11 = .ok (.ifCond .ne 6, 3) := by decide +kernel
theorem dX4_setFollows_14 : decode cX4_setFollows 14 = .ok (.bipush (-2), 2) := by decide +kernel
theorem dX4_setFollows_16 : decode cX4_setFollows 16 = .ok (.ireturn, 1) := by decide +kernel
theorem dX4_setFollows_17 : decode cX4_setFollows 17 = .ok (.aload_n 0, 1) := by decide +kernel
theorem dX4_setFollows_18 : decode cX4_setFollows 18 = .ok (.getfield 33, 3) := by decide +kernel
theorem dX4_setFollows_21 : decode cX4_setFollows 21 = .ok (.iload_n 1, 1) := by decide +kernel
theorem dX4_setFollows_22 : decode cX4_setFollows 22 = .ok (.iaload, 1) := by decide +kernel
theorem dX4_setFollows_23 : decode cX4_setFollows 23 = .ok (.istore_n 3, 1) := by decide +kernel
theorem dX4_setFollows_24 : decode cX4_setFollows 24 = .ok (.aload_n 0, 1) := by decide +kernel
theorem dX4_setFollows_25 : decode cX4_setFollows 25 = .ok (.getfield 33, 3) := by decide +kernel
theorem dX4_setFollows_28 : decode cX4_setFollows 28 = .ok (.iload_n 1, 1) := by decide +kernel
theorem dX4_setFollows_29 : decode cX4_setFollows 29 = .ok (.iload_n 2, 1) := by decide +kernel
theorem dX4_setFollows_30 : decode cX4_setFollows 30 = .ok (.iastore, 1) := by decide +kernel
theorem dX4_setFollows_31 : decode cX4_setFollows 31 = .ok (.iload_n 3, 1) := by decide +kernel
theorem dX4_setFollows_32 : decode cX4_setFollows 32 = .ok (.ireturn, 1) := by decide +kernel
theorem dX4_addLetter_0 : decode cX4_addLetter 0 = .ok (.iload_n 1, 1) := by decide +kernel
theorem dX4_addLetter_1 : decode cX4_addLetter 1 = .ok (.iconst 1, 1) := by decide +kernel
theorem dX4_addLetter_2 : decode cX4_addLetter 2 = .ok (.bipush 8, 2) := by decide +kernel
theorem dX4_addLetter_4 : decode cX4_addLetter 4 = .ok (.invokestatic 74, 3) := by decide +kernel
theorem dX4_addLetter_7 : decode cX4_addLetter 7 = .ok (.ifCond .ne 6, 3) := by decide +kernel
theorem dX4_addLetter_10 : decode cX4_addLetter 10 = .ok (.bipush (-2), 2) := by decide +kernel
theorem dX4_addLetter_12 : decode cX4_addLetter 12 = .ok (.ireturn, 1) := by decide +kernel
theorem dX4_addLetter_13 : decode cX4_addLetter 13 = .ok (.aload_n 0, 1) := by decide +kernel
theorem dX4_addLetter_14 : decode cX4_addLetter 14 = .ok (.getfield 59, 3) := by decide +kernel
theorem dX4_addLetter_17 : decode cX4_addLetter 17 = .ok (.bipush 40, 2) := by decide +kernel
theorem dX4_addLetter_19 : decode cX4_addLetter 19 = .ok (.if_icmp .lt 6, 3) := by decide +kernel
theorem dX4_addLetter_22 : decode cX4_addLetter 22 = .ok (.bipush (-4), 2) := by decide +kernel
theorem dX4_addLetter_24 : decode cX4_addLetter 24 = .ok (.ireturn, 1) := by decide +kernel
theorem dX4_addLetter_25 : decode cX4_addLetter 25 = .ok (.aload_n 0, 1) := by decide +kernel
theorem dX4_addLetter_26 : decode cX4_addLetter 26 = .ok (.getfield 27, 3) := by decide +kernel
theorem dX4_addLetter_29 : decode cX4_addLetter 29 = .ok (.aload_n 0, 1) := by decide +kernel
theorem dX4_addLetter_30 : decode cX4_addLetter 30 = .ok (.dup, 1) := by decide +kernel
theorem dX4_addLetter_31 : decode cX4_addLetter 31 = .ok (.getfield 59, 3) := by decide +kernel
theorem dX4_addLetter_34 : decode cX4_addLetter 34 = .ok (.dup_x1, 1) := by decide +kernel
theorem dX4_addLetter_35 : decode cX4_addLetter 35 = .ok (.iconst 1, 1) := by decide +kernel
theorem dX4_addLetter_36 : decode cX4_addLetter 36 = .ok (.iadd, 1) := by decide +kernel
theorem dX4_addLetter_37 : decode cX4_addLetter 37 = .ok (.putfield 59, 3) := by decide +kernel
theorem dX4_addLetter_40 : decode cX4_addLetter 40 = .ok (.iload_n 1, 1) := by decide +kernel
theorem dX4_addLetter_41 : decode cX4_addLetter 41 = .ok (.iastore, 1) := by decide +kernel
theorem dX4_addLetter_42 : decode cX4_addLetter 42 = .ok (.aload_n 0, 1) := by decide +kernel
theorem dX4_addLetter_43 : decode cX4_addLetter 43 = .ok (.getfield 59, 3) := by decide +kernel
theorem dX4_addLetter_46 : decode cX4_addLetter 46 = .ok (.ireturn, 1) := by decide +kernel
theorem dX4_wipeLine_0 : decode cX4_wipeLine 0 = .ok (.aload_n 0, 1) := by decide +kernel
theorem dX4_wipeLine_1 : decode cX4_wipeLine 1 = .ok (.getfield 59, 3) := by decide +kernel
theorem dX4_wipeLine_4 : decode cX4_wipeLine 4 = .ok (.istore_n 1, 1) := by decide +kernel
theorem dX4_wipeLine_5 : decode cX4_wipeLine 5 = .ok (.aload_n 0, 1) := by decide +kernel
theorem dX4_wipeLine_6 : decode cX4_wipeLine 6 = .ok (.iconst 0, 1) := by decide +kernel
theorem dX4_wipeLine_7 : decode cX4_wipeLine 7 = .ok (.putfield 59, 3) := by decide +kernel
theorem dX4_wipeLine_10 : decode cX4_wipeLine 10 = .ok (.iload_n 1, 1) := by decide +kernel
theorem dX4_wipeLine_11 : decode cX4_wipeLine 11 = .ok (.ireturn, 1) := by decide +kernel
theorem dX4_setLine_0 : decode cX4_setLine 0 = .ok (.aload_n 0, 1) := by decide +kernel
theorem dX4_setLine_1 : decode cX4_setLine 1 = .ok (.iload_n 2, 1) := by decide +kernel
theorem dX4_setLine_2 : decode cX4_setLine 2 = .ok (.bipush 40, 2) := by decide +kernel
theorem dX4_setLine_4 : decode cX4_setLine 4 = .ok (.invokestatic 62, 3) := by decide +kernel
theorem dX4_setLine_7 : decode cX4_setLine 7 = .ok (.putfield 59, 3) := by decide +kernel
theorem dX4_setLine_10 : decode cX4_setLine 10 = .ok (.aload_n 1, 1) := by decide +kernel
theorem dX4_setLine_11 : decode cX4_setLine 11 = .ok (.iconst 0, 1) := by decide +kernel
theorem dX4_setLine_12 : decode cX4_setLine 12 = .ok (.aload_n 0, 1) := by decide +kernel
theorem dX4_setLine_13 : decode cX4_setLine 13 = .ok (.getfield 27, 3) := by decide +kernel
theorem dX4_setLine_16 : decode cX4_setLine 16 = .ok (.iconst 0, 1) := by decide +kernel
theorem dX4_setLine_17 : decode cX4_setLine 17 = .ok (.aload_n 0, 1) := by decide +kernel
theorem dX4_setLine_18 : decode cX4_setLine 18 = .ok (.getfield 59, 3) := by decide +kernel
theorem dX4_setLine_21 : decode cX4_setLine 21 = .ok (.invokestatic 68, 3) := by decide +kernel
theorem dX4_setLine_24 : decode cX4_setLine 24 = .ok (.aload_n 0, 1) := by decide +kernel
theorem dX4_setLine_25 : decode cX4_setLine 25 = .ok (.getfield 59, 3) := by decide +kernel
theorem dX4_setLine_28 : decode cX4_setLine 28 = .ok (.ireturn, 1) := by decide +kernel
theorem dX4_setMetre_0 : decode cX4_setMetre 0 = .ok (.iload_n 1, 1) := by decide +kernel
theorem dX4_setMetre_1 : decode cX4_setMetre 1 = .ok (.iconst 1, 1) := by decide +kernel
theorem dX4_setMetre_2 : decode cX4_setMetre 2 = .ok (.bipush 40, 2) := by decide +kernel
theorem dX4_setMetre_4 : decode cX4_setMetre 4 = .ok (.invokestatic 74, 3) := by decide +kernel
theorem dX4_setMetre_7 : decode cX4_setMetre 7 = .ok (.ifCond .ne 6, 3) := by decide +kernel
theorem dX4_setMetre_10 : decode cX4_setMetre 10 = .ok (.bipush (-2), 2) := by decide +kernel
theorem dX4_setMetre_12 : decode cX4_setMetre 12 = .ok (.ireturn, 1) := by decide +kernel
theorem dX4_setMetre_13 : decode cX4_setMetre 13 = .ok (.aload_n 0, 1) := by decide +kernel
theorem dX4_setMetre_14 : decode cX4_setMetre 14 = .ok (.getfield 36, 3) := by decide +kernel
theorem dX4_setMetre_17 : decode cX4_setMetre 17 = .ok (.istore_n 2, 1) := by decide +kernel
theorem dX4_setMetre_18 : decode cX4_setMetre 18 = .ok (.aload_n 0, 1) := by decide +kernel
theorem dX4_setMetre_19 : decode cX4_setMetre 19 = .ok (.iload_n 1, 1) := by decide +kernel
theorem dX4_setMetre_20 : decode cX4_setMetre 20 = .ok (.putfield 36, 3) := by decide +kernel
theorem dX4_setMetre_23 : decode cX4_setMetre 23 = .ok (.iload_n 2, 1) := by decide +kernel
theorem dX4_setMetre_24 : decode cX4_setMetre 24 = .ok (.ireturn, 1) := by decide +kernel
theorem dX4_setMark_0 : decode cX4_setMark 0 = .ok (.iload_n 1, 1) := by decide +kernel
theorem dX4_setMark_1 : decode cX4_setMark 1 = .ok (.iconst 1, 1) := by decide +kernel
theorem dX4_setMark_2 : decode cX4_setMark 2 = .ok (.bipush 39, 2) := by decide +kernel
theorem dX4_setMark_4 : decode cX4_setMark 4 = .ok (.invokestatic 74, 3) := by decide +kernel
theorem dX4_setMark_7 : decode cX4_setMark 7 = .ok (.ifCond .eq 12, 3) := by decide +kernel
theorem dX4_setMark_10 : decode cX4_setMark 10 = .ok (.iload_n 2, 1) := by decide +kernel
theorem dX4_setMark_11 : decode cX4_setMark 11 = .ok (.iconst 0, 1) := by decide +kernel
theorem dX4_setMark_12 : decode cX4_setMark 12 = .ok (.iconst 2, 1) := by decide +kernel
theorem dX4_setMark_13 : decode cX4_setMark 13 = .ok (.invokestatic 74, 3) := by decide +kernel
theorem dX4_setMark_16 : decode cX4_setMark 16 = .ok (.ifCond .ne 6, 3) := by decide +kernel
theorem dX4_setMark_19 : decode cX4_setMark 19 = .ok (.bipush (-2), 2) := by decide +kernel
theorem dX4_setMark_21 : decode cX4_setMark 21 = .ok (.ireturn, 1) := by decide +kernel
theorem dX4_setMark_22 : decode cX4_setMark 22 = .ok (.aload_n 0, 1) := by decide +kernel
theorem dX4_setMark_23 : decode cX4_setMark 23 = .ok (.getfield 30, 3) := by decide +kernel
theorem dX4_setMark_26 : decode cX4_setMark 26 = .ok (.iload_n 1, 1) := by decide +kernel
theorem dX4_setMark_27 : decode cX4_setMark 27 = .ok (.iaload, 1) := by decide +kernel
theorem dX4_setMark_28 : decode cX4_setMark 28 = .ok (.istore_n 3, 1) := by decide +kernel
theorem dX4_setMark_29 : decode cX4_setMark 29 = .ok (.aload_n 0, 1) := by decide +kernel
theorem dX4_setMark_30 : decode cX4_setMark 30 = .ok (.getfield 30, 3) := by decide +kernel
theorem dX4_setMark_33 : decode cX4_setMark 33 = .ok (.iload_n 1, 1) := by decide +kernel
theorem dX4_setMark_34 : decode cX4_setMark 34 = .ok (.iload_n 2, 1) := by decide +kernel
theorem dX4_setMark_35 : decode cX4_setMark 35 = .ok (.iastore, 1) := by decide +kernel
theorem dX4_setMark_36 : decode cX4_setMark 36 = .ok (.iload_n 3, 1) := by decide +kernel
theorem dX4_setMark_37 : decode cX4_setMark 37 = .ok (.ireturn, 1) := by decide +kernel
theorem dX4_habitOf_0 : decode cX4_habitOf 0 = .ok (.iload_n 1, 1) := by decide +kernel
theorem dX4_habitOf_1 : decode cX4_habitOf 1 = .ok (.bipush 12, 2) := by decide +kernel
theorem dX4_habitOf_3 : decode cX4_habitOf 3 = .ok (.imul, 1) := by decide +kernel
theorem dX4_habitOf_4 : decode cX4_habitOf 4 = .ok (.iload_n 2, 1) := by decide +kernel
theorem dX4_habitOf_5 : decode cX4_habitOf 5 = .ok (.iadd, 1) := by decide +kernel
theorem dX4_habitOf_6 : decode cX4_habitOf 6 = .ok (.istore_n 3, 1) := by decide +kernel
theorem dX4_habitOf_7 : decode cX4_habitOf 7 = .ok (.iload_n 3, 1) := by decide +kernel
theorem dX4_habitOf_8 : decode cX4_habitOf 8 = .ok (.ifCond .lt 21, 3) := by decide +kernel
theorem dX4_habitOf_11 : decode cX4_habitOf 11 = .ok (.iload_n 3, 1) := by decide +kernel
theorem dX4_habitOf_12 : decode cX4_habitOf 12 = .ok (.aload_n 0, 1) := by decide +kernel
theorem dX4_habitOf_13 : decode cX4_habitOf 13 = .ok (.getfield 24, 3) := by decide +kernel
theorem dX4_habitOf_16 : decode cX4_habitOf 16 = .ok (.arraylength, 1) := by decide +kernel
theorem dX4_habitOf_17 : decode cX4_habitOf 17 = .ok (.if_icmp .ge 12, 3) := by decide +kernel
theorem dX4_habitOf_20 : decode cX4_habitOf 20 = .ok (.aload_n 0, 1) := by decide +kernel
theorem dX4_habitOf_21 : decode cX4_habitOf 21 = .ok (.getfield 24, 3) := by decide +kernel
theorem dX4_habitOf_24 : decode cX4_habitOf 24 = .ok (.iload_n 3, 1) := by decide +kernel
theorem dX4_habitOf_25 : decode cX4_habitOf 25 = .ok (.iaload, 1) := by decide +kernel
theorem dX4_habitOf_26 : decode cX4_habitOf 26 = .ok (.goto 4, 3) := by decide +kernel
theorem dX4_habitOf_29 : decode cX4_habitOf 29 = .ok (.iconst 0, 1) := by decide +kernel
theorem dX4_habitOf_30 : decode cX4_habitOf 30 = .ok (.ireturn, 1) := by decide +kernel
theorem dX4_raiseHabit_0 : decode cX4_raiseHabit 0 = .ok (.iload_n 1, 1) := by decide +kernel
theorem dX4_raiseHabit_1 : decode cX4_raiseHabit 1 = .ok (.bipush 12, 2) := by decide +kernel
theorem dX4_raiseHabit_3 : decode cX4_raiseHabit 3 = .ok (.imul, 1) := by decide +kernel
theorem dX4_raiseHabit_4 : decode cX4_raiseHabit 4 = .ok (.iload_n 2, 1) := by decide +kernel
theorem dX4_raiseHabit_5 : decode cX4_raiseHabit 5 = .ok (.iadd, 1) := by decide +kernel
theorem dX4_raiseHabit_6 : decode cX4_raiseHabit 6 = .ok (.istore_n 3, 1) := by decide +kernel
theorem dX4_raiseHabit_7 : decode cX4_raiseHabit 7 = .ok (.iload_n 3, 1) := by decide +kernel
theorem dX4_raiseHabit_8 : decode cX4_raiseHabit 8 = .ok (.ifCond .lt 22, 3) := by decide +kernel
theorem dX4_raiseHabit_11 : decode cX4_raiseHabit 11 = .ok (.iload_n 3, 1) := by decide +kernel
theorem dX4_raiseHabit_12 : decode cX4_raiseHabit 12 = .ok (.aload_n 0, 1) := by decide +kernel
theorem dX4_raiseHabit_13 : decode cX4_raiseHabit 13 = .ok (.getfield 24, 3) := by decide +kernel
theorem dX4_raiseHabit_16 : decode cX4_raiseHabit 16 = .ok (.arraylength, 1) := by decide +kernel
theorem dX4_raiseHabit_17 : decode cX4_raiseHabit 17 = .ok (.if_icmp .ge 13, 3) := by decide +kernel
theorem dX4_raiseHabit_20 : decode cX4_raiseHabit 20 = .ok (.aload_n 0, 1) := by decide +kernel
theorem dX4_raiseHabit_21 : decode cX4_raiseHabit 21 = .ok (.getfield 24, 3) := by decide +kernel
theorem dX4_raiseHabit_24 : decode cX4_raiseHabit 24 = .ok (.iload_n 3, 1) := by decide +kernel
theorem dX4_raiseHabit_25 : decode cX4_raiseHabit 25 = .ok (.dup2, 1) := by decide +kernel
theorem dX4_raiseHabit_26 : decode cX4_raiseHabit 26 = .ok (.iaload, 1) := by decide +kernel
theorem dX4_raiseHabit_27 : decode cX4_raiseHabit 27 = .ok (.iconst 1, 1) := by decide +kernel
theorem dX4_raiseHabit_28 : decode cX4_raiseHabit 28 = .ok (.iadd, 1) := by decide +kernel
theorem dX4_raiseHabit_29 : decode cX4_raiseHabit 29 = .ok (.iastore, 1) := by decide +kernel
theorem dX4_raiseHabit_30 : decode cX4_raiseHabit 30 = .ok (.return_, 1) := by decide +kernel
theorem dX4_factorOf_0 : decode cX4_factorOf 0 = .ok (.iload_n 1, 1) := by decide +kernel
theorem dX4_factorOf_1 : decode cX4_factorOf 1 = .ok (.iconst (-1), 1) := by decide +kernel
theorem dX4_factorOf_2 : decode cX4_factorOf 2 = .ok (.if_icmp .ne 7, 3) := by decide +kernel
theorem dX4_factorOf_5 : decode cX4_factorOf 5 = .ok (.lconst 1, 1) := by decide +kernel
theorem dX4_factorOf_6 : decode cX4_factorOf 6 = .ok (.goto 12, 3) := by decide +kernel
theorem dX4_factorOf_9 : decode cX4_factorOf 9 = .ok (.aload_n 0, 1) := by decide +kernel
theorem dX4_factorOf_10 : decode cX4_factorOf 10 = .ok (.iload_n 1, 1) := by decide +kernel
theorem dX4_factorOf_11 : decode cX4_factorOf 11 = .ok (.iload_n 2, 1) := by decide +kernel
theorem dX4_factorOf_12 : decode cX4_factorOf 12 = .ok (.invokevirtual 99, 3) := by decide +kernel
theorem dX4_factorOf_15 : decode cX4_factorOf 15 = .ok (.i2l, 1) := by decide +kernel
theorem dX4_factorOf_16 : decode cX4_factorOf 16 = .ok (.lconst 1, 1) := by decide +kernel
theorem dX4_factorOf_17 : decode cX4_factorOf 17 = .ok (.ladd, 1) := by decide +kernel
theorem dX4_factorOf_18 : decode cX4_factorOf 18 = .ok (.lreturn, 1) := by decide +kernel
theorem dX4_setAfter_0 : decode cX4_setAfter 0 = .ok (.iload_n 1, 1) := by decide +kernel
theorem dX4_setAfter_1 : decode cX4_setAfter 1 = .ok (.ifCond .ne 8, 3) := by decide +kernel
theorem dX4_setAfter_4 : decode cX4_setAfter 4 = .ok (.aload_n 0, 1) := by decide +kernel
theorem dX4_setAfter_5 : decode cX4_setAfter 5 = .ok (.getfield 40, 3) := by decide +kernel
theorem dX4_setAfter_8 : decode cX4_setAfter 8 = .ok (.ireturn, 1) := by decide +kernel
theorem dX4_setAfter_9 : decode cX4_setAfter 9 = .ok (.iload_n 2, 1) := by decide +kernel
theorem dX4_setAfter_10 : decode cX4_setAfter 10 = .ok (.ifCond .lt 17, 3) := by decide +kernel
theorem dX4_setAfter_13 : decode cX4_setAfter 13 = .ok (.iload_n 2, 1) := by decide +kernel
theorem dX4_setAfter_14 : decode cX4_setAfter 14 = .ok (.iconst 4, 1) := by decide +kernel
theorem dX4_setAfter_15 : decode cX4_setAfter 15 = .ok (.if_icmp .ge 12, 3) := by decide +kernel
theorem dX4_setAfter_18 : decode cX4_setAfter 18 = .ok (.aload_n 0, 1) := by decide +kernel
theorem dX4_setAfter_19 : decode cX4_setAfter 19 = .ok (.getfield 33, 3) := by decide +kernel
theorem dX4_setAfter_22 : decode cX4_setAfter 22 = .ok (.iload_n 2, 1) := by decide +kernel
theorem dX4_setAfter_23 : decode cX4_setAfter 23 = .ok (.iaload, 1) := by decide +kernel
theorem dX4_setAfter_24 : decode cX4_setAfter 24 = .ok (.goto 4, 3) := by decide +kernel
theorem dX4_setAfter_27 : decode cX4_setAfter 27 = .ok (.iconst 0, 1) := by decide +kernel
theorem dX4_setAfter_28 : decode cX4_setAfter 28 = .ok (.ireturn, 1) := by decide +kernel
theorem dX4_factOf_0 : decode cX4_factOf 0 = .ok (.iload_n 2, 1) := by decide +kernel
theorem dX4_factOf_1 : decode cX4_factOf 1 = .ok (.tableswitch 59 0 3 #[31, 38, 45, 52], 31) := by decide +kernel
theorem dX4_factOf_32 : decode cX4_factOf 32 = .ok (.aload_n 0, 1) := by decide +kernel
theorem dX4_factOf_33 : decode cX4_factOf 33 = .ok (.getfield 9, 3) := by decide +kernel
theorem dX4_factOf_36 : decode cX4_factOf 36 = .ok (.iload_n 1, 1) := by decide +kernel
theorem dX4_factOf_37 : decode cX4_factOf 37 = .ok (.iaload, 1) := by decide +kernel
theorem dX4_factOf_38 : decode cX4_factOf 38 = .ok (.ireturn, 1) := by decide +kernel
theorem dX4_factOf_39 : decode cX4_factOf 39 = .ok (.aload_n 0, 1) := by decide +kernel
theorem dX4_factOf_40 : decode cX4_factOf 40 = .ok (.getfield 18, 3) := by decide +kernel
theorem dX4_factOf_43 : decode cX4_factOf 43 = .ok (.iload_n 1, 1) := by decide +kernel
theorem dX4_factOf_44 : decode cX4_factOf 44 = .ok (.iaload, 1) := by decide +kernel
theorem dX4_factOf_45 : decode cX4_factOf 45 = .ok (.ireturn, 1) := by decide +kernel
theorem dX4_factOf_46 : decode cX4_factOf 46 = .ok (.aload_n 0, 1) := by decide +kernel
theorem dX4_factOf_47 : decode cX4_factOf 47 = .ok (.getfield 21, 3) := by decide +kernel
theorem dX4_factOf_50 : decode cX4_factOf 50 = .ok (.iload_n 1, 1) := by decide +kernel
theorem dX4_factOf_51 : decode cX4_factOf 51 = .ok (.iaload, 1) := by decide +kernel
theorem dX4_factOf_52 : decode cX4_factOf 52 = .ok (.ireturn, 1) := by decide +kernel
theorem dX4_factOf_53 : decode cX4_factOf 53 = .ok (.aload_n 0, 1) := by decide +kernel
theorem dX4_factOf_54 : decode cX4_factOf 54 = .ok (.getfield 15, 3) := by decide +kernel
theorem dX4_factOf_57 : decode cX4_factOf 57 = .ok (.iload_n 1, 1) := by decide +kernel
theorem dX4_factOf_58 : decode cX4_factOf 58 = .ok (.iaload, 1) := by decide +kernel
theorem dX4_factOf_59 : decode cX4_factOf 59 = .ok (.ireturn, 1) := by decide +kernel
theorem dX4_factOf_60 : decode cX4_factOf 60 = .ok (.aload_n 0, 1) := by decide +kernel
theorem dX4_factOf_61 : decode cX4_factOf 61 = .ok (.iload_n 2, 1) := by decide +kernel
theorem dX4_factOf_62 : decode cX4_factOf 62 = .ok (.iconst 4, 1) := by decide +kernel
theorem dX4_factOf_63 : decode cX4_factOf 63 = .ok (.isub, 1) := by decide +kernel
theorem dX4_factOf_64 : decode cX4_factOf 64 = .ok (.iload_n 1, 1) := by decide +kernel
theorem dX4_factOf_65 : decode cX4_factOf 65 = .ok (.invokevirtual 99, 3) := by decide +kernel
theorem dX4_factOf_68 : decode cX4_factOf 68 = .ok (.ireturn, 1) := by decide +kernel
theorem dX4_fixedPhrase_0 : decode cX4_fixedPhrase 0 = .ok (.iconst (-1), 1) := by decide +kernel
theorem dX4_fixedPhrase_1 : decode cX4_fixedPhrase 1 = .ok (.istore_n 3, 1) := by decide +kernel
theorem dX4_fixedPhrase_2 : decode cX4_fixedPhrase 2 = .ok (.iconst 0, 1) := by decide +kernel
theorem dX4_fixedPhrase_3 : decode cX4_fixedPhrase 3 = .ok (.istore 4, 2) := by decide +kernel
theorem dX4_fixedPhrase_5 : decode cX4_fixedPhrase 5 = .ok (.iload 4, 2) := by decide +kernel
theorem dX4_fixedPhrase_7 : decode cX4_fixedPhrase 7 = .ok (.aload_n 0, 1) := by decide +kernel
theorem dX4_fixedPhrase_8 : decode cX4_fixedPhrase 8 = .ok (.getfield 56, 3) := by decide +kernel
theorem dX4_fixedPhrase_11 : decode cX4_fixedPhrase 11 = .ok (.if_icmp .ge 40, 3) := by decide +kernel
theorem dX4_fixedPhrase_14 : decode cX4_fixedPhrase 14 = .ok (.aload_n 0, 1) := by decide +kernel
theorem dX4_fixedPhrase_15 : decode cX4_fixedPhrase 15 = .ok (.getfield 9, 3) := by decide +kernel
theorem dX4_fixedPhrase_18 : decode cX4_fixedPhrase 18 = .ok (.iload 4, 2) := by decide +kernel
theorem dX4_fixedPhrase_20 : decode cX4_fixedPhrase 20 = .ok (.iaload, 1) := by decide +kernel
theorem dX4_fixedPhrase_21 : decode cX4_fixedPhrase 21 = .ok (.iload_n 2, 1) := by decide +kernel
theorem dX4_fixedPhrase_22 : decode cX4_fixedPhrase 22 = .ok (.if_icmp .ne 23, 3) := by decide +kernel
theorem dX4_fixedPhrase_25 : decode cX4_fixedPhrase 25 = .ok (.aload_n 0, 1) := by decide +kernel
theorem dX4_fixedPhrase_26 : decode cX4_fixedPhrase 26 = .ok (.iload_n 1, 1) := by decide +kernel
theorem dX4_fixedPhrase_27 : decode cX4_fixedPhrase 27 = .ok (.iload 4, 2) := by decide +kernel
theorem dX4_fixedPhrase_29 : decode cX4_fixedPhrase 29 = .ok (.invokevirtual 99, 3) := by decide +kernel
theorem dX4_fixedPhrase_32 : decode cX4_fixedPhrase 32 = .ok (.ifCond .le 13, 3) := by decide +kernel
theorem dX4_fixedPhrase_35 : decode cX4_fixedPhrase 35 = .ok (.iload_n 3, 1) := by decide +kernel
theorem dX4_fixedPhrase_36 : decode cX4_fixedPhrase 36 = .ok (.iconst (-1), 1) := by decide +kernel
theorem dX4_fixedPhrase_37 : decode cX4_fixedPhrase 37 = .ok (.if_icmp .eq 5, 3) := by decide +kernel
theorem dX4_fixedPhrase_40 : decode cX4_fixedPhrase 40 = .ok (.iconst (-1), 1) := by decide +kernel
theorem dX4_fixedPhrase_41 : decode cX4_fixedPhrase 41 = .ok (.ireturn, 1) := by decide +kernel
theorem dX4_fixedPhrase_42 : decode cX4_fixedPhrase 42 = .ok (.iload 4, 2) := by decide +kernel
theorem dX4_fixedPhrase_44 : decode cX4_fixedPhrase 44 = .ok (.istore_n 3, 1) := by decide +kernel
theorem dX4_fixedPhrase_45 : decode cX4_fixedPhrase 45 = .ok (.iinc 4 1, 3) := by decide +kernel
theorem dX4_fixedPhrase_48 : decode cX4_fixedPhrase 48 = .ok (.goto (-43), 3) := by decide +kernel
theorem dX4_fixedPhrase_51 : decode cX4_fixedPhrase 51 = .ok (.iload_n 3, 1) := by decide +kernel
theorem dX4_fixedPhrase_52 : decode cX4_fixedPhrase 52 = .ok (.ireturn, 1) := by decide +kernel
theorem dX4_digestOn_0 : decode cX4_digestOn 0 = .ok (.lload_n 1, 1) := by decide +kernel
theorem dX4_digestOn_1 : decode cX4_digestOn 1 = .ok (.lstore_n 3, 1) := by decide +kernel
theorem dX4_digestOn_2 : decode cX4_digestOn 2 = .ok (.iconst 0, 1) := by decide +kernel
theorem dX4_digestOn_3 : decode cX4_digestOn 3 = .ok (.istore 5, 2) := by decide +kernel
theorem dX4_digestOn_5 : decode cX4_digestOn 5 = .ok (.iload 5, 2) := by decide +kernel
theorem dX4_digestOn_7 : decode cX4_digestOn 7 = .ok (.aload_n 0, 1) := by decide +kernel
theorem dX4_digestOn_8 : decode cX4_digestOn 8 = .ok (.getfield 56, 3) := by decide +kernel
theorem dX4_digestOn_11 : decode cX4_digestOn 11 = .ok (.if_icmp .ge 41, 3) := by decide +kernel
theorem dX4_digestOn_14 : decode cX4_digestOn 14 = .ok (.iconst 0, 1) := by decide +kernel
theorem dX4_digestOn_15 : decode cX4_digestOn 15 = .ok (.istore 6, 2) := by decide +kernel
theorem dX4_digestOn_17 : decode cX4_digestOn 17 = .ok (.iload 6, 2) := by decide +kernel
theorem dX4_digestOn_19 : decode cX4_digestOn 19 = .ok (.bipush 7, 2) := by decide +kernel
theorem dX4_digestOn_21 : decode cX4_digestOn 21 = .ok (.if_icmp .ge 25, 3) := by decide +kernel
theorem dX4_digestOn_24 : decode cX4_digestOn 24 = .ok (.ldc2_w 102, 3) := by decide +kernel
theorem dX4_digestOn_27 : decode cX4_digestOn 27 = .ok (.lload_n 3, 1) := by decide +kernel
theorem dX4_digestOn_28 : decode cX4_digestOn 28 = .ok (.lmul, 1) := by decide +kernel
theorem dX4_digestOn_29 : decode cX4_digestOn 29 = .ok (.aload_n 0, 1) := by decide +kernel
theorem dX4_digestOn_30 : decode cX4_digestOn 30 = .ok (.iload 5, 2) := by decide +kernel
theorem dX4_digestOn_32 : decode cX4_digestOn 32 = .ok (.iload 6, 2) := by decide +kernel
theorem dX4_digestOn_34 : decode cX4_digestOn 34 = .ok (.invokevirtual 104, 3) := by decide +kernel
theorem dX4_digestOn_37 : decode cX4_digestOn 37 = .ok (.i2l, 1) := by decide +kernel
theorem dX4_digestOn_38 : decode cX4_digestOn 38 = .ok (.ladd, 1) := by decide +kernel
theorem dX4_digestOn_39 : decode cX4_digestOn 39 = .ok (.lstore_n 3, 1) := by decide +kernel
theorem dX4_digestOn_40 : decode cX4_digestOn 40 = .ok (.iinc 6 1, 3) := by decide +kernel
theorem dX4_digestOn_43 : decode cX4_digestOn 43 = .ok (.goto (-26), 3) := by decide +kernel
theorem dX4_digestOn_46 : decode cX4_digestOn 46 = .ok (.iinc 5 1, 3) := by decide +kernel
theorem dX4_digestOn_49 : decode cX4_digestOn 49 = .ok (.goto (-44), 3) := by decide +kernel
theorem dX4_digestOn_52 : decode cX4_digestOn 52 = .ok (.iconst 0, 1) := by decide +kernel
theorem dX4_digestOn_53 : decode cX4_digestOn 53 = .ok (.istore 5, 2) := by decide +kernel
theorem dX4_digestOn_55 : decode cX4_digestOn 55 = .ok (.iload 5, 2) := by decide +kernel
theorem dX4_digestOn_57 : decode cX4_digestOn 57 = .ok (.aload_n 0, 1) := by decide +kernel
theorem dX4_digestOn_58 : decode cX4_digestOn 58 = .ok (.getfield 59, 3) := by decide +kernel
theorem dX4_digestOn_61 : decode cX4_digestOn 61 = .ok (.if_icmp .ge 24, 3) := by decide +kernel
theorem dX4_digestOn_64 : decode cX4_digestOn 64 = .ok (.ldc2_w 102, 3) := by decide +kernel
theorem dX4_digestOn_67 : decode cX4_digestOn 67 = .ok (.lload_n 3, 1) := by decide +kernel
theorem dX4_digestOn_68 : decode cX4_digestOn 68 = .ok (.lmul, 1) := by decide +kernel
theorem dX4_digestOn_69 : decode cX4_digestOn 69 = .ok (.aload_n 0, 1) := by decide +kernel
theorem dX4_digestOn_70 : decode cX4_digestOn 70 = .ok (.getfield 27, 3) := by decide +kernel
theorem dX4_digestOn_73 : decode cX4_digestOn 73 = .ok (.iload 5, 2) := by decide +kernel
theorem dX4_digestOn_75 : decode cX4_digestOn 75 = .ok (.iaload, 1) := by decide +kernel
theorem dX4_digestOn_76 : decode cX4_digestOn 76 = .ok (.i2l, 1) := by decide +kernel
theorem dX4_digestOn_77 : decode cX4_digestOn 77 = .ok (.ladd, 1) := by decide +kernel
theorem dX4_digestOn_78 : decode cX4_digestOn 78 = .ok (.lstore_n 3, 1) := by decide +kernel
theorem dX4_digestOn_79 : decode cX4_digestOn 79 = .ok (.iinc 5 1, 3) := by decide +kernel
theorem dX4_digestOn_82 : decode cX4_digestOn 82 = .ok (.goto (-27), 3) := by decide +kernel
theorem dX4_digestOn_85 : decode cX4_digestOn 85 = .ok (.iconst 1, 1) := by decide +kernel
theorem dX4_digestOn_86 : decode cX4_digestOn 86 = .ok (.istore 5, 2) := by decide +kernel
theorem dX4_digestOn_88 : decode cX4_digestOn 88 = .ok (.iload 5, 2) := by decide +kernel
theorem dX4_digestOn_90 : decode cX4_digestOn 90 = .ok (.bipush 40, 2) := by decide +kernel
theorem dX4_digestOn_92 : decode cX4_digestOn 92 = .ok (.if_icmp .ge 24, 3) := by decide +kernel
theorem dX4_digestOn_95 : decode cX4_digestOn 95 = .ok (.ldc2_w 102, 3) := by decide +kernel
theorem dX4_digestOn_98 : decode cX4_digestOn 98 = .ok (.lload_n 3, 1) := by decide +kernel
theorem dX4_digestOn_99 : decode cX4_digestOn 99 = .ok (.lmul, 1) := by decide +kernel
theorem dX4_digestOn_100 : decode cX4_digestOn 100 = .ok (.aload_n 0, 1) := by decide +kernel
theorem dX4_digestOn_101 : decode cX4_digestOn 101 = .ok (.getfield 30, 3) := by decide +kernel
theorem dX4_digestOn_104 : decode cX4_digestOn 104 = .ok (.iload 5, 2) := by decide +kernel
theorem dX4_digestOn_106 : decode cX4_digestOn 106 = .ok (.iaload, 1) := by decide +kernel
theorem dX4_digestOn_107 : decode cX4_digestOn 107 = .ok (.i2l, 1) := by decide +kernel
theorem dX4_digestOn_108 : decode cX4_digestOn 108 = .ok (.ladd, 1) := by decide +kernel
theorem dX4_digestOn_109 : decode cX4_digestOn 109 = .ok (.lstore_n 3, 1) := by decide +kernel
theorem dX4_digestOn_110 : decode cX4_digestOn 110 = .ok (.iinc 5 1, 3) := by decide +kernel
theorem dX4_digestOn_113 : decode cX4_digestOn 113 = .ok (.goto (-25), 3) := by decide +kernel
theorem dX4_digestOn_116 : decode cX4_digestOn 116 = .ok (.lload_n 3, 1) := by decide +kernel
theorem dX4_digestOn_117 : decode cX4_digestOn 117 = .ok (.lreturn, 1) := by decide +kernel
theorem dX6_init_0 : decode cX6_init 0 = .ok (.aload_n 0, 1) := by decide +kernel
theorem dX6_init_1 : decode cX6_init 1 = .ok (.invokespecial 1, 3) := by decide +kernel
theorem dX6_init_4 : decode cX6_init 4 = .ok (.new 7, 3) := by decide +kernel
theorem dX6_init_7 : decode cX6_init 7 = .ok (.dup, 1) := by decide +kernel
theorem dX6_init_8 : decode cX6_init 8 = .ok (.invokespecial 9, 3) := by decide +kernel
theorem dX6_init_11 : decode cX6_init 11 = .ok (.astore_n 1, 1) := by decide +kernel
theorem dX6_init_12 : decode cX6_init 12 = .ok (.new 10, 3) := by decide +kernel
theorem dX6_init_15 : decode cX6_init 15 = .ok (.dup, 1) := by decide +kernel
theorem dX6_init_16 : decode cX6_init 16 = .ok (.aload_n 1, 1) := by decide +kernel
theorem dX6_init_17 : decode cX6_init 17 = .ok (.invokespecial 12, 3) := by decide +kernel
theorem dX6_init_20 : decode cX6_init 20 = .ok (.astore_n 2, 1) := by decide +kernel
theorem dX6_init_21 : decode cX6_init 21 = .ok (.aload_n 0, 1) := by decide +kernel
theorem dX6_init_22 : decode cX6_init 22 = .ok (.aload_n 1, 1) := by decide +kernel
theorem dX6_init_23 : decode cX6_init 23 = .ok (.putfield 15, 3) := by decide +kernel
theorem dX6_init_26 : decode cX6_init 26 = .ok (.aload_n 0, 1) := by decide +kernel
theorem dX6_init_27 : decode cX6_init 27 = .ok (.aload_n 2, 1) := by decide +kernel
theorem dX6_init_28 : decode cX6_init 28 = .ok (.putfield 21, 3) := by decide +kernel
theorem dX6_init_31 : decode cX6_init 31 = .ok (.aload_n 0, 1) := by decide +kernel
theorem dX6_init_32 : decode cX6_init 32 = .ok (.new 25, 3) := by decide +kernel
theorem dX6_init_35 : decode cX6_init 35 = .ok (.dup, 1) := by decide +kernel
theorem dX6_init_36 : decode cX6_init 36 = .ok (.aload_n 1, 1) := by decide +kernel
theorem dX6_init_37 : decode cX6_init 37 = .ok (.aload_n 2, 1) := by decide +kernel
theorem dX6_init_38 : decode cX6_init 38 = .ok (.invokespecial 27, 3) := by decide +kernel
theorem dX6_init_41 : decode cX6_init 41 = .ok (.putfield 30, 3) := by decide +kernel
theorem dX6_init_44 : decode cX6_init 44 = .ok (.aload_n 0, 1) := by decide +kernel
theorem dX6_init_45 : decode cX6_init 45 = .ok (.new 34, 3) := by decide +kernel
theorem dX6_init_48 : decode cX6_init 48 = .ok (.dup, 1) := by decide +kernel
theorem dX6_init_49 : decode cX6_init 49 = .ok (.aload_n 1, 1) := by decide +kernel
theorem dX6_init_50 : decode cX6_init 50 = .ok (.aload_n 2, 1) := by decide +kernel
theorem dX6_init_51 : decode cX6_init 51 = .ok (.invokespecial 36, 3) := by decide +kernel
theorem dX6_init_54 : decode cX6_init 54 = .ok (.putfield 37, 3) := by decide +kernel
theorem dX6_init_57 : decode cX6_init 57 = .ok (.aload_n 0, 1) := by decide +kernel
theorem dX6_init_58 : decode cX6_init 58 = .ok (.new 41, 3) := by decide +kernel
theorem dX6_init_61 : decode cX6_init 61 = .ok (.dup, 1) := by decide +kernel
theorem dX6_init_62 : decode cX6_init 62 = .ok (.invokespecial 43, 3) := by decide +kernel
theorem dX6_init_65 : decode cX6_init 65 = .ok (.putfield 44, 3) := by decide +kernel
theorem dX6_init_68 : decode cX6_init 68 = .ok (.aload_n 0, 1) := by decide +kernel
theorem dX6_init_69 : decode cX6_init 69 = .ok (.new 48, 3) := by decide +kernel
theorem dX6_init_72 : decode cX6_init 72 = .ok (.dup, 1) := by decide +kernel
theorem dX6_init_73 : decode cX6_init 73 = .ok (.invokespecial 50, 3) := by decide +kernel
theorem dX6_init_76 : decode cX6_init 76 = .ok (.putfield 51, 3) := by decide +kernel
theorem dX6_init_79 : decode cX6_init 79 = .ok (.aload_n 0, 1) := by decide +kernel
theorem dX6_init_80 : decode cX6_init 80 = .ok (.iconst 4, 1) := by decide +kernel
theorem dX6_init_81 : decode cX6_init 81 = .ok (.newarray .int, 2) := by decide +kernel
theorem dX6_init_83 : decode cX6_init 83 = .ok (.putfield 55, 3) := by decide +kernel
theorem dX6_init_86 : decode cX6_init 86 = .ok (.return_, 1) := by decide +kernel
theorem dX6_phrase_0 : decode cX6_phrase 0 = .ok (.aload_n 0, 1) := by decide +kernel
theorem dX6_phrase_1 : decode cX6_phrase 1 = .ok (.getfield 44, 3) := by decide +kernel
theorem dX6_phrase_4 : decode cX6_phrase 4 = .ok (.aload_n 0, 1) := by decide +kernel
theorem dX6_phrase_5 : decode cX6_phrase 5 = .ok (.getfield 15, 3) := by decide +kernel
theorem dX6_phrase_8 : decode cX6_phrase 8 = .ok (.invokevirtual 59, 3) := by decide +kernel
theorem dX6_phrase_11 : decode cX6_phrase 11 = .ok (.aload_n 0, 1) := by decide +kernel
theorem dX6_phrase_12 : decode cX6_phrase 12 = .ok (.aload_n 0, 1) := by decide +kernel
theorem dX6_phrase_13 : decode cX6_phrase 13 = .ok (.getfield 15, 3) := by decide +kernel
theorem dX6_phrase_16 : decode cX6_phrase 16 = .ok (.iload_n 1, 1) := by decide +kernel
theorem dX6_phrase_17 : decode cX6_phrase 17 = .ok (.iload_n 2, 1) := by decide +kernel
theorem dX6_phrase_18 : decode cX6_phrase 18 = .ok (.invokevirtual 62, 3) := by decide +kernel
theorem dX6_phrase_21 : decode cX6_phrase 21 = .ok (.invokevirtual 66, 3) := by decide +kernel
theorem dX6_phrase_24 : decode cX6_phrase 24 = .ok (.ireturn, 1) := by decide +kernel
theorem dX6_drops_0 : decode cX6_drops 0 = .ok (.aload_n 0, 1) := by decide +kernel
theorem dX6_drops_1 : decode cX6_drops 1 = .ok (.getfield 44, 3) := by decide +kernel
theorem dX6_drops_4 : decode cX6_drops 4 = .ok (.aload_n 0, 1) := by decide +kernel
theorem dX6_drops_5 : decode cX6_drops 5 = .ok (.getfield 15, 3) := by decide +kernel
theorem dX6_drops_8 : decode cX6_drops 8 = .ok (.invokevirtual 59, 3) := by decide +kernel
theorem dX6_drops_11 : decode cX6_drops 11 = .ok (.aload_n 0, 1) := by decide +kernel
theorem dX6_drops_12 : decode cX6_drops 12 = .ok (.aload_n 0, 1) := by decide +kernel
theorem dX6_drops_13 : decode cX6_drops 13 = .ok (.getfield 15, 3) := by decide +kernel
theorem dX6_drops_16 : decode cX6_drops 16 = .ok (.iload_n 1, 1) := by decide +kernel
theorem dX6_drops_17 : decode cX6_drops 17 = .ok (.invokevirtual 70, 3) := by decide +kernel
theorem dX6_drops_20 : decode cX6_drops 20 = .ok (.invokevirtual 66, 3) := by decide +kernel
theorem dX6_drops_23 : decode cX6_drops 23 = .ok (.ireturn, 1) := by decide +kernel
theorem dX6_begins_0 : decode cX6_begins 0 = .ok (.aload_n 0, 1) := by decide +kernel
theorem dX6_begins_1 : decode cX6_begins 1 = .ok (.getfield 44, 3) := by decide +kernel
theorem dX6_begins_4 : decode cX6_begins 4 = .ok (.aload_n 0, 1) := by decide +kernel
theorem dX6_begins_5 : decode cX6_begins 5 = .ok (.getfield 15, 3) := by decide +kernel
theorem dX6_begins_8 : decode cX6_begins 8 = .ok (.invokevirtual 59, 3) := by decide +kernel
theorem dX6_begins_11 : decode cX6_begins 11 = .ok (.aload_n 0, 1) := by decide +kernel
theorem dX6_begins_12 : decode cX6_begins 12 = .ok (.aload_n 0, 1) := by decide +kernel
theorem dX6_begins_13 : decode cX6_begins 13 = .ok (.getfield 15, 3) := by decide +kernel
theorem dX6_begins_16 : decode cX6_begins 16 = .ok (.iload_n 1, 1) := by decide +kernel
theorem dX6_begins_17 : decode cX6_begins 17 = .ok (.invokevirtual 73, 3) := by decide +kernel
theorem dX6_begins_20 : decode cX6_begins 20 = .ok (.invokevirtual 66, 3) := by decide +kernel
theorem dX6_begins_23 : decode cX6_begins 23 = .ok (.ireturn, 1) := by decide +kernel
theorem dX6_ends_0 : decode cX6_ends 0 = .ok (.aload_n 0, 1) := by decide +kernel
theorem dX6_ends_1 : decode cX6_ends 1 = .ok (.getfield 44, 3) := by decide +kernel
theorem dX6_ends_4 : decode cX6_ends 4 = .ok (.aload_n 0, 1) := by decide +kernel
theorem dX6_ends_5 : decode cX6_ends 5 = .ok (.getfield 15, 3) := by decide +kernel
theorem dX6_ends_8 : decode cX6_ends 8 = .ok (.invokevirtual 59, 3) := by decide +kernel
theorem dX6_ends_11 : decode cX6_ends 11 = .ok (.aload_n 0, 1) := by decide +kernel
theorem dX6_ends_12 : decode cX6_ends 12 = .ok (.aload_n 0, 1) := by decide +kernel
theorem dX6_ends_13 : decode cX6_ends 13 = .ok (.getfield 15, 3) := by decide +kernel
theorem dX6_ends_16 : decode cX6_ends 16 = .ok (.iload_n 1, 1) := by decide +kernel
theorem dX6_ends_17 : decode cX6_ends 17 = .ok (.invokevirtual 76, 3) := by decide +kernel
theorem dX6_ends_20 : decode cX6_ends 20 = .ok (.invokevirtual 66, 3) := by decide +kernel
theorem dX6_ends_23 : decode cX6_ends 23 = .ok (.ireturn, 1) := by decide +kernel
theorem dX6_follows_0 : decode cX6_follows 0 = .ok (.aload_n 0, 1) := by decide +kernel
theorem dX6_follows_1 : decode cX6_follows 1 = .ok (.getfield 44, 3) := by decide +kernel
theorem dX6_follows_4 : decode cX6_follows 4 = .ok (.aload_n 0, 1) := by decide +kernel
theorem dX6_follows_5 : decode cX6_follows 5 = .ok (.getfield 15, 3) := by decide +kernel
theorem dX6_follows_8 : decode cX6_follows 8 = .ok (.invokevirtual 59, 3) := by decide +kernel
theorem dX6_follows_11 : decode cX6_follows 11 = .ok (.aload_n 0, 1) := by decide +kernel
theorem dX6_follows_12 : decode cX6_follows 12 = .ok (.aload_n 0, 1) := by decide +kernel
theorem dX6_follows_13 : decode cX6_follows 13 = .ok (.getfield 15, 3) := by decide +kernel
theorem dX6_follows_16 : decode cX6_follows 16 = .ok (.iload_n 1, 1) := by decide +kernel
theorem dX6_follows_17 : decode cX6_follows 17 = .ok (.iload_n 2, 1) := by decide +kernel
theorem dX6_follows_18 : decode cX6_follows 18 = .ok (.invokevirtual 79, 3) := by decide +kernel
theorem dX6_follows_21 : decode cX6_follows 21 = .ok (.invokevirtual 66, 3) := by decide +kernel
theorem dX6_follows_24 : decode cX6_follows 24 = .ok (.ireturn, 1) := by decide +kernel
theorem dX6_of_0 : decode cX6_of 0 = .ok (.aload_n 0, 1) := by decide +kernel
theorem dX6_of_1 : decode cX6_of 1 = .ok (.getfield 15, 3) := by decide +kernel
theorem dX6_of_4 : decode cX6_of 4 = .ok (.iload_n 1, 1) := by decide +kernel
theorem dX6_of_5 : decode cX6_of 5 = .ok (.invokevirtual 82, 3) := by decide +kernel
theorem dX6_of_8 : decode cX6_of 8 = .ok (.ifCond .eq 13, 3) := by decide +kernel
theorem dX6_of_11 : decode cX6_of 11 = .ok (.iload_n 2, 1) := by decide +kernel
theorem dX6_of_12 : decode cX6_of 12 = .ok (.iconst 0, 1) := by decide +kernel
theorem dX6_of_13 : decode cX6_of 13 = .ok (.bipush 6, 2) := by decide +kernel
theorem dX6_of_15 : decode cX6_of 15 = .ok (.invokestatic 86, 3) := by decide +kernel
theorem dX6_of_18 : decode cX6_of 18 = .ok (.ifCond .ne 10, 3) := by decide +kernel
theorem dX6_of_21 : decode cX6_of 21 = .ok (.aload_n 0, 1) := by decide +kernel
theorem dX6_of_22 : decode cX6_of 22 = .ok (.bipush (-2), 2) := by decide +kernel
theorem dX6_of_24 : decode cX6_of 24 = .ok (.invokevirtual 90, 3) := by decide +kernel
theorem dX6_of_27 : decode cX6_of 27 = .ok (.ireturn, 1) := by decide +kernel
theorem dX6_of_28 : decode cX6_of 28 = .ok (.aload_n 0, 1) := by decide +kernel
theorem dX6_of_29 : decode cX6_of 29 = .ok (.getfield 15, 3) := by decide +kernel
theorem dX6_of_32 : decode cX6_of 32 = .ok (.iload_n 1, 1) := by decide +kernel
theorem dX6_of_33 : decode cX6_of 33 = .ok (.iload_n 2, 1) := by decide +kernel
theorem dX6_of_34 : decode cX6_of 34 = .ok (.invokevirtual 93, 3) := by decide +kernel
theorem dX6_of_37 : decode cX6_of 37 = .ok (.ireturn, 1) := by decide +kernel
theorem dX6_letter_0 : decode cX6_letter 0 = .ok (.aload_n 0, 1) := by decide +kernel
theorem dX6_letter_1 : decode cX6_letter 1 = .ok (.getfield 44, 3) := by decide +kernel
theorem dX6_letter_4 : decode cX6_letter 4 = .ok (.aload_n 0, 1) := by decide +kernel
theorem dX6_letter_5 : decode cX6_letter 5 = .ok (.getfield 15, 3) := by decide +kernel
theorem dX6_letter_8 : decode cX6_letter 8 = .ok (.invokevirtual 59, 3) := by decide +kernel
theorem dX6_letter_11 : decode cX6_letter 11 = .ok (.aload_n 0, 1) := by decide +kernel
theorem dX6_letter_12 : decode cX6_letter 12 = .ok (.aload_n 0, 1) := by decide +kernel
theorem dX6_letter_13 : decode cX6_letter 13 = .ok (.getfield 15, 3) := by decide +kernel
theorem dX6_letter_16 : decode cX6_letter 16 = .ok (.iload_n 1, 1) := by decide +kernel
theorem dX6_letter_17 : decode cX6_letter 17 = .ok (.invokevirtual 96, 3) := by decide +kernel
theorem dX6_letter_20 : decode cX6_letter 20 = .ok (.invokevirtual 66, 3) := by decide +kernel
theorem dX6_letter_23 : decode cX6_letter 23 = .ok (.ireturn, 1) := by decide +kernel
theorem dX6_wipes_0 : decode cX6_wipes 0 = .ok (.aload_n 0, 1) := by decide +kernel
theorem dX6_wipes_1 : decode cX6_wipes 1 = .ok (.getfield 44, 3) := by decide +kernel
theorem dX6_wipes_4 : decode cX6_wipes 4 = .ok (.aload_n 0, 1) := by decide +kernel
theorem dX6_wipes_5 : decode cX6_wipes 5 = .ok (.getfield 15, 3) := by decide +kernel
theorem dX6_wipes_8 : decode cX6_wipes 8 = .ok (.invokevirtual 59, 3) := by decide +kernel
theorem dX6_wipes_11 : decode cX6_wipes 11 = .ok (.aload_n 0, 1) := by decide +kernel
theorem dX6_wipes_12 : decode cX6_wipes 12 = .ok (.aload_n 0, 1) := by decide +kernel
theorem dX6_wipes_13 : decode cX6_wipes 13 = .ok (.getfield 15, 3) := by decide +kernel
theorem dX6_wipes_16 : decode cX6_wipes 16 = .ok (.invokevirtual 99, 3) := by decide +kernel
theorem dX6_wipes_19 : decode cX6_wipes 19 = .ok (.invokevirtual 66, 3) := by decide +kernel
theorem dX6_wipes_22 : decode cX6_wipes 22 = .ok (.ireturn, 1) := by decide +kernel
theorem dX6_cuts_0 : decode cX6_cuts 0 = .ok (.aload_n 0, 1) := by decide +kernel
theorem dX6_cuts_1 : decode cX6_cuts 1 = .ok (.invokevirtual 103, 3) := by decide +kernel
theorem dX6_cuts_4 : decode cX6_cuts 4 = .ok (.lstore_n 1, 1) := by decide +kernel
theorem dX6_cuts_5 : decode cX6_cuts 5 = .ok (.lload_n 1, 1) := by decide +kernel
theorem dX6_cuts_6 : decode cX6_cuts 6 = .ok (.lconst 0, 1) := by decide +kernel
theorem dX6_cuts_7 : decode cX6_cuts 7 = .ok (.lcmp, 1) := by decide +kernel
theorem dX6_cuts_8 : decode cX6_cuts 8 = .ok (.ifCond .ge 13, 3) := by decide +kernel
theorem dX6_cuts_11 : decode cX6_cuts 11 = .ok (.aload_n 0, 1) := by decide +kernel
theorem dX6_cuts_12 : decode cX6_cuts 12 = .ok (.bipush (-5), 2) := by decide +kernel
theorem dX6_cuts_14 : decode cX6_cuts 14 = .ok (.invokevirtual 90, 3) := by decide +kernel
theorem dX6_cuts_17 : decode cX6_cuts 17 = .ok (.i2l, 1) := by decide +kernel
theorem dX6_cuts_18 : decode cX6_cuts 18 = .ok (.goto 4, 3) := by decide +kernel
theorem dX6_cuts_21 : decode cX6_cuts 21 = .ok (.lload_n 1, 1) := by decide +kernel
theorem dX6_cuts_22 : decode cX6_cuts 22 = .ok (.lreturn, 1) := by decide +kernel
theorem dX6_best_0 : decode cX6_best 0 = .ok (.iload_n 1, 1) := by decide +kernel
theorem dX6_best_1 : decode cX6_best 1 = .ok (.invokestatic 107, 3) := by decide +kernel
theorem dX6_best_4 : decode cX6_best 4 = .ok (.ifCond .eq 9, 3) := by decide +kernel
theorem dX6_best_7 : decode cX6_best 7 = .ok (.iload_n 2, 1) := by decide +kernel
theorem dX6_best_8 : decode cX6_best 8 = .ok (.bipush (-2), 2) := by decide +kernel
theorem dX6_best_10 : decode cX6_best 10 = .ok (.if_icmp .ge 10, 3) := by decide +kernel
theorem dX6_best_13 : decode cX6_best 13 = .ok (.aload_n 0, 1) := by decide +kernel
theorem dX6_best_14 : decode cX6_best 14 = .ok (.bipush (-2), 2) := by decide +kernel
theorem dX6_best_16 : decode cX6_best 16 = .ok (.invokevirtual 90, 3) := by decide +kernel
theorem dX6_best_19 : decode cX6_best 19 = .ok (.ireturn, 1) := by decide +kernel
theorem dX6_best_20 : decode cX6_best 20 = .ok (.aload_n 0, 1) := by decide +kernel
theorem dX6_best_21 : decode cX6_best 21 = .ok (.getfield 37, 3) := by decide +kernel
theorem dX6_best_24 : decode cX6_best 24 = .ok (.iload_n 1, 1) := by decide +kernel
theorem dX6_best_25 : decode cX6_best 25 = .ok (.invokevirtual 110, 3) := by decide +kernel
theorem dX6_best_28 : decode cX6_best 28 = .ok (.ifCond .ne 10, 3) := by decide +kernel
theorem dX6_best_31 : decode cX6_best 31 = .ok (.aload_n 0, 1) := by decide +kernel
theorem dX6_best_32 : decode cX6_best 32 = .ok (.bipush (-3), 2) := by decide +kernel
theorem dX6_best_34 : decode cX6_best 34 = .ok (.invokevirtual 90, 3) := by decide +kernel
theorem dX6_best_37 : decode cX6_best 37 = .ok (.ireturn, 1) := by decide +kernel
theorem dX6_best_38 : decode cX6_best 38 = .ok (.iload_n 2, 1) := by decide +kernel
theorem dX6_best_39 : decode cX6_best 39 = .ok (.bipush (-2), 2) := by decide +kernel
theorem dX6_best_41 : decode cX6_best 41 = .ok (.if_icmp .ne 11, 3) := by decide +kernel
theorem dX6_best_44 : decode cX6_best 44 = .ok (.aload_n 0, 1) := by decide +kernel
theorem dX6_best_45 : decode cX6_best 45 = .ok (.getfield 37, 3) := by decide +kernel
theorem dX6_best_48 : decode cX6_best 48 = .ok (.invokevirtual 113, 3) := by decide +kernel
theorem dX6_best_51 : decode cX6_best 51 = .ok (.ireturn, 1) := by decide +kernel
theorem dX6_best_52 : decode cX6_best 52 = .ok (.aload_n 0, 1) := by decide +kernel
theorem dX6_best_53 : decode cX6_best 53 = .ok (.getfield 37, 3) := by decide +kernel
theorem dX6_best_56 : decode cX6_best 56 = .ok (.getfield 116, 3) := by decide +kernel
theorem dX6_best_59 : decode cX6_best 59 = .ok (.aload_n 0, 1) := by decide +kernel
theorem dX6_best_60 : decode cX6_best 60 = .ok (.getfield 37, 3) := by decide +kernel
theorem dX6_best_63 : decode cX6_best 63 = .ok (.getfield 119, 3) := by decide +kernel
theorem dX6_best_66 : decode cX6_best 66 = .ok (.iload_n 2, 1) := by decide +kernel
theorem dX6_best_67 : decode cX6_best 67 = .ok (.invokestatic 123, 3) := by decide +kernel
theorem dX6_best_70 : decode cX6_best 70 = .ok (.ireturn, 1) := by decide +kernel
theorem dX6_sings_0 : decode cX6_sings 0 = .ok (.aload_n 0, 1) := by decide +kernel
theorem dX6_sings_1 : decode cX6_sings 1 = .ok (.getfield 44, 3) := by decide +kernel
theorem dX6_sings_4 : decode cX6_sings 4 = .ok (.aload_n 0, 1) := by decide +kernel
theorem dX6_sings_5 : decode cX6_sings 5 = .ok (.getfield 15, 3) := by decide +kernel
theorem dX6_sings_8 : decode cX6_sings 8 = .ok (.invokevirtual 59, 3) := by decide +kernel
theorem dX6_sings_11 : decode cX6_sings 11 = .ok (.aload_n 0, 1) := by decide +kernel
theorem dX6_sings_12 : decode cX6_sings 12 = .ok (.aload_n 0, 1) := by decide +kernel
theorem dX6_sings_13 : decode cX6_sings 13 = .ok (.iload_n 1, 1) := by decide +kernel
theorem dX6_sings_14 : decode cX6_sings 14 = .ok (.invokevirtual 127, 3) := by decide +kernel
theorem dX6_sings_17 : decode cX6_sings 17 = .ok (.invokevirtual 66, 3) := by decide +kernel
theorem dX6_sings_20 : decode cX6_sings 20 = .ok (.ireturn, 1) := by decide +kernel
theorem dX6_fixes_0 : decode cX6_fixes 0 = .ok (.iload_n 1, 1) := by decide +kernel
theorem dX6_fixes_1 : decode cX6_fixes 1 = .ok (.invokestatic 107, 3) := by decide +kernel
theorem dX6_fixes_4 : decode cX6_fixes 4 = .ok (.ifCond .eq 10, 3) := by decide +kernel
theorem dX6_fixes_7 : decode cX6_fixes 7 = .ok (.iload_n 2, 1) := by decide +kernel
theorem dX6_fixes_8 : decode cX6_fixes 8 = .ok (.invokestatic 130, 3) := by decide +kernel
theorem dX6_fixes_11 : decode cX6_fixes 11 = .ok (.ifCond .ne 10, 3) := by decide +kernel
theorem dX6_fixes_14 : decode cX6_fixes 14 = .ok (.aload_n 0, 1) := by decide +kernel
theorem dX6_fixes_15 : decode cX6_fixes 15 = .ok (.bipush (-2), 2) := by decide +kernel
theorem dX6_fixes_17 : decode cX6_fixes 17 = .ok (.invokevirtual 90, 3) := by decide +kernel
theorem dX6_fixes_20 : decode cX6_fixes 20 = .ok (.ireturn, 1) := by decide +kernel
theorem dX6_fixes_21 : decode cX6_fixes 21 = .ok (.aload_n 0, 1) := by decide +kernel
theorem dX6_fixes_22 : decode cX6_fixes 22 = .ok (.getfield 15, 3) := by decide +kernel
theorem dX6_fixes_25 : decode cX6_fixes 25 = .ok (.iload_n 1, 1) := by decide +kernel
theorem dX6_fixes_26 : decode cX6_fixes 26 = .ok (.iload_n 2, 1) := by decide +kernel
theorem dX6_fixes_27 : decode cX6_fixes 27 = .ok (.invokevirtual 133, 3) := by decide +kernel
theorem dX6_fixes_30 : decode cX6_fixes 30 = .ok (.ireturn, 1) := by decide +kernel
theorem dX6_metre_0 : decode cX6_metre 0 = .ok (.aload_n 0, 1) := by decide +kernel
theorem dX6_metre_1 : decode cX6_metre 1 = .ok (.getfield 44, 3) := by decide +kernel
theorem dX6_metre_4 : decode cX6_metre 4 = .ok (.aload_n 0, 1) := by decide +kernel
theorem dX6_metre_5 : decode cX6_metre 5 = .ok (.getfield 15, 3) := by decide +kernel
theorem dX6_metre_8 : decode cX6_metre 8 = .ok (.invokevirtual 59, 3) := by decide +kernel
theorem dX6_metre_11 : decode cX6_metre 11 = .ok (.aload_n 0, 1) := by decide +kernel
theorem dX6_metre_12 : decode cX6_metre 12 = .ok (.aload_n 0, 1) := by decide +kernel
theorem dX6_metre_13 : decode cX6_metre 13 = .ok (.getfield 15, 3) := by decide +kernel
theorem dX6_metre_16 : decode cX6_metre 16 = .ok (.iload_n 1, 1) := by decide +kernel
theorem dX6_metre_17 : decode cX6_metre 17 = .ok (.invokevirtual 136, 3) := by decide +kernel
theorem dX6_metre_20 : decode cX6_metre 20 = .ok (.invokevirtual 66, 3) := by decide +kernel
theorem dX6_metre_23 : decode cX6_metre 23 = .ok (.ireturn, 1) := by decide +kernel
theorem dX6_marks_0 : decode cX6_marks 0 = .ok (.aload_n 0, 1) := by decide +kernel
theorem dX6_marks_1 : decode cX6_marks 1 = .ok (.getfield 44, 3) := by decide +kernel
theorem dX6_marks_4 : decode cX6_marks 4 = .ok (.aload_n 0, 1) := by decide +kernel
theorem dX6_marks_5 : decode cX6_marks 5 = .ok (.getfield 15, 3) := by decide +kernel
theorem dX6_marks_8 : decode cX6_marks 8 = .ok (.invokevirtual 59, 3) := by decide +kernel
theorem dX6_marks_11 : decode cX6_marks 11 = .ok (.aload_n 0, 1) := by decide +kernel
theorem dX6_marks_12 : decode cX6_marks 12 = .ok (.aload_n 0, 1) := by decide +kernel
theorem dX6_marks_13 : decode cX6_marks 13 = .ok (.getfield 15, 3) := by decide +kernel
theorem dX6_marks_16 : decode cX6_marks 16 = .ok (.iload_n 1, 1) := by decide +kernel
theorem dX6_marks_17 : decode cX6_marks 17 = .ok (.iload_n 2, 1) := by decide +kernel
theorem dX6_marks_18 : decode cX6_marks 18 = .ok (.invokevirtual 139, 3) := by decide +kernel
theorem dX6_marks_21 : decode cX6_marks 21 = .ok (.invokevirtual 66, 3) := by decide +kernel
theorem dX6_marks_24 : decode cX6_marks 24 = .ok (.ireturn, 1) := by decide +kernel
theorem dX6_made_0 : decode cX6_made 0 = .ok (.aload_n 0, 1) := by decide +kernel
theorem dX6_made_1 : decode cX6_made 1 = .ok (.iconst (-1), 1) := by decide +kernel
theorem dX6_made_2 : decode cX6_made 2 = .ok (.invokevirtual 142, 3) := by decide +kernel
theorem dX6_made_5 : decode cX6_made 5 = .ok (.lstore_n 1, 1) := by decide +kernel
theorem dX6_made_6 : decode cX6_made 6 = .ok (.lload_n 1, 1) := by decide +kernel
theorem dX6_made_7 : decode cX6_made 7 = .ok (.lconst 0, 1) := by decide +kernel
theorem dX6_made_8 : decode cX6_made 8 = .ok (.lcmp, 1) := by decide +kernel
theorem dX6_made_9 : decode cX6_made 9 = .ok (.ifCond .ge 13, 3) := by decide +kernel
theorem dX6_made_12 : decode cX6_made 12 = .ok (.aload_n 0, 1) := by decide +kernel
theorem dX6_made_13 : decode cX6_made 13 = .ok (.bipush (-5), 2) := by decide +kernel
theorem dX6_made_15 : decode cX6_made 15 = .ok (.invokevirtual 90, 3) := by decide +kernel
theorem dX6_made_18 : decode cX6_made 18 = .ok (.i2l, 1) := by decide +kernel
theorem dX6_made_19 : decode cX6_made 19 = .ok (.goto 4, 3) := by decide +kernel
theorem dX6_made_22 : decode cX6_made 22 = .ok (.lload_n 1, 1) := by decide +kernel
theorem dX6_made_23 : decode cX6_made 23 = .ok (.lreturn, 1) := by decide +kernel
theorem dX6_row_0 : decode cX6_row 0 = .ok (.lload_n 1, 1) := by decide +kernel
theorem dX6_row_1 : decode cX6_row 1 = .ok (.lconst 0, 1) := by decide +kernel
theorem dX6_row_2 : decode cX6_row 2 = .ok (.lcmp, 1) := by decide +kernel
theorem dX6_row_3 : decode cX6_row 3 = .ok (.ifCond .lt 8, 3) := by decide +kernel
theorem dX6_row_6 : decode cX6_row 6 = .ok (.iload_n 3, 1) := by decide +kernel
theorem dX6_row_7 : decode cX6_row 7 = .ok (.iconst (-1), 1) := by decide +kernel
theorem dX6_row_8 : decode cX6_row 8 = .ok (.if_icmp .ge 10, 3) := by decide +kernel
theorem dX6_row_11 : decode cX6_row 11 = .ok (.aload_n 0, 1) := by decide +kernel
theorem dX6_row_12 : decode cX6_row 12 = .ok (.bipush (-2), 2) := by decide +kernel
theorem dX6_row_14 : decode cX6_row 14 = .ok (.invokevirtual 90, 3) := by decide +kernel
theorem dX6_row_17 : decode cX6_row 17 = .ok (.ireturn, 1) := by decide +kernel
theorem dX6_row_18 : decode cX6_row 18 = .ok (.aload_n 0, 1) := by decide +kernel
theorem dX6_row_19 : decode cX6_row 19 = .ok (.iconst (-1), 1) := by decide +kernel
theorem dX6_row_20 : decode cX6_row 20 = .ok (.invokevirtual 142, 3) := by decide +kernel
theorem dX6_row_23 : decode cX6_row 23 = .ok (.lstore 4, 2) := by decide +kernel
theorem dX6_row_25 : decode cX6_row 25 = .ok (.lload 4, 2) := by decide +kernel
theorem dX6_row_27 : decode cX6_row 27 = .ok (.lconst 0, 1) := by decide +kernel
theorem dX6_row_28 : decode cX6_row 28 = .ok (.lcmp, 1) := by decide +kernel
theorem dX6_row_29 : decode cX6_row 29 = .ok (.ifCond .ge 10, 3) := by decide +kernel
theorem dX6_row_32 : decode cX6_row 32 = .ok (.aload_n 0, 1) := by decide +kernel
theorem dX6_row_33 : decode cX6_row 33 = .ok (.bipush (-5), 2) := by decide +kernel
theorem dX6_row_35 : decode cX6_row 35 = .ok (.invokevirtual 90, 3) := by decide +kernel
theorem dX6_row_38 : decode cX6_row 38 = .ok (.ireturn, 1) := by decide +kernel
theorem dX6_row_39 : decode cX6_row 39 = .ok (.lload_n 1, 1) := by decide +kernel
theorem dX6_row_40 : decode cX6_row 40 = .ok (.lload 4, 2) := by decide +kernel
theorem dX6_row_42 : decode cX6_row 42 = .ok (.lcmp, 1) := by decide +kernel
theorem dX6_row_43 : decode cX6_row 43 = .ok (.ifCond .lt 10, 3) := by decide +kernel
theorem dX6_row_46 : decode cX6_row 46 = .ok (.aload_n 0, 1) := by decide +kernel
theorem dX6_row_47 : decode cX6_row 47 = .ok (.bipush (-3), 2) := by decide +kernel
theorem dX6_row_49 : decode cX6_row 49 = .ok (.invokevirtual 90, 3) := by decide +kernel
theorem dX6_row_52 : decode cX6_row 52 = .ok (.ireturn, 1) := by decide +kernel
theorem dX6_row_53 : decode cX6_row 53 = .ok (.aload_n 0, 1) := by decide +kernel
theorem dX6_row_54 : decode cX6_row 54 = .ok (.getfield 30, 3) := by decide +kernel
theorem dX6_row_57 : decode cX6_row 57 = .ok (.lload_n 1, 1) := by decide +kernel
theorem dX6_row_58 : decode cX6_row 58 = .ok (.invokevirtual 146, 3) := by decide +kernel
theorem dX6_row_61 : decode cX6_row 61 = .ok (.aload_n 0, 1) := by decide +kernel
theorem dX6_row_62 : decode cX6_row 62 = .ok (.getfield 30, 3) := by decide +kernel
theorem dX6_row_65 : decode cX6_row 65 = .ok (.getfield 150, 3) := by decide +kernel
theorem dX6_row_68 : decode cX6_row 68 = .ok (.aload_n 0, 1) := by decide +kernel
theorem dX6_row_69 : decode cX6_row 69 = .ok (.getfield 30, 3) := by decide +kernel
theorem dX6_row_72 : decode cX6_row 72 = .ok (.getfield 153, 3) := by decide +kernel
theorem dX6_row_75 : decode cX6_row 75 = .ok (.iload_n 3, 1) := by decide +kernel
theorem dX6_row_76 : decode cX6_row 76 = .ok (.invokestatic 123, 3) := by decide +kernel
theorem dX6_row_79 : decode cX6_row 79 = .ok (.ireturn, 1) := by decide +kernel
theorem dX6_weight_0 : decode cX6_weight 0 = .ok (.iload_n 1, 1) := by decide +kernel
theorem dX6_weight_1 : decode cX6_weight 1 = .ok (.invokestatic 107, 3) := by decide +kernel
theorem dX6_weight_4 : decode cX6_weight 4 = .ok (.ifCond .eq 19, 3) := by decide +kernel
theorem dX6_weight_7 : decode cX6_weight 7 = .ok (.iload_n 2, 1) := by decide +kernel
theorem dX6_weight_8 : decode cX6_weight 8 = .ok (.iconst (-1), 1) := by decide +kernel
theorem dX6_weight_9 : decode cX6_weight 9 = .ok (.if_icmp .eq 22, 3) := by decide +kernel
theorem dX6_weight_12 : decode cX6_weight 12 = .ok (.aload_n 0, 1) := by decide +kernel
theorem dX6_weight_13 : decode cX6_weight 13 = .ok (.getfield 15, 3) := by decide +kernel
theorem dX6_weight_16 : decode cX6_weight 16 = .ok (.iload_n 2, 1) := by decide +kernel
theorem dX6_weight_17 : decode cX6_weight 17 = .ok (.invokevirtual 82, 3) := by decide +kernel
theorem dX6_weight_20 : decode cX6_weight 20 = .ok (.ifCond .ne 11, 3) := by decide +kernel
theorem dX6_weight_23 : decode cX6_weight 23 = .ok (.aload_n 0, 1) := by decide +kernel
theorem dX6_weight_24 : decode cX6_weight 24 = .ok (.bipush (-2), 2) := by decide +kernel
theorem dX6_weight_26 : decode cX6_weight 26 = .ok (.invokevirtual 90, 3) := by decide +kernel
theorem dX6_weight_29 : decode cX6_weight 29 = .ok (.i2l, 1) := by decide +kernel
theorem dX6_weight_30 : decode cX6_weight 30 = .ok (.lreturn, 1) := by decide +kernel
theorem dX6_weight_31 : decode cX6_weight 31 = .ok (.aload_n 0, 1) := by decide +kernel
theorem dX6_weight_32 : decode cX6_weight 32 = .ok (.iload_n 1, 1) := by decide +kernel
theorem dX6_weight_33 : decode cX6_weight 33 = .ok (.invokevirtual 142, 3) := by decide +kernel
theorem dX6_weight_36 : decode cX6_weight 36 = .ok (.lstore_n 3, 1) := by decide +kernel
theorem dX6_weight_37 : decode cX6_weight 37 = .ok (.lload_n 3, 1) := by decide +kernel
theorem dX6_weight_38 : decode cX6_weight 38 = .ok (.lconst 0, 1) := by decide +kernel
theorem dX6_weight_39 : decode cX6_weight 39 = .ok (.lcmp, 1) := by decide +kernel
theorem dX6_weight_40 : decode cX6_weight 40 = .ok (.ifCond .ge 11, 3) := by decide +kernel
theorem dX6_weight_43 : decode cX6_weight 43 = .ok (.aload_n 0, 1) := by decide +kernel
theorem dX6_weight_44 : decode cX6_weight 44 = .ok (.bipush (-5), 2) := by decide +kernel
theorem dX6_weight_46 : decode cX6_weight 46 = .ok (.invokevirtual 90, 3) := by decide +kernel
theorem dX6_weight_49 : decode cX6_weight 49 = .ok (.i2l, 1) := by decide +kernel
theorem dX6_weight_50 : decode cX6_weight 50 = .ok (.lreturn, 1) := by decide +kernel
theorem dX6_weight_51 : decode cX6_weight 51 = .ok (.iload_n 2, 1) := by decide +kernel
theorem dX6_weight_52 : decode cX6_weight 52 = .ok (.iconst (-1), 1) := by decide +kernel
theorem dX6_weight_53 : decode cX6_weight 53 = .ok (.if_icmp .ne 7, 3) := by decide +kernel
theorem dX6_weight_56 : decode cX6_weight 56 = .ok (.lload_n 3, 1) := by decide +kernel
theorem dX6_weight_57 : decode cX6_weight 57 = .ok (.goto 13, 3) := by decide +kernel
theorem dX6_weight_60 : decode cX6_weight 60 = .ok (.aload_n 0, 1) := by decide +kernel
theorem dX6_weight_61 : decode cX6_weight 61 = .ok (.getfield 30, 3) := by decide +kernel
theorem dX6_weight_64 : decode cX6_weight 64 = .ok (.iconst 0, 1) := by decide +kernel
theorem dX6_weight_65 : decode cX6_weight 65 = .ok (.iconst 0, 1) := by decide +kernel
theorem dX6_weight_66 : decode cX6_weight 66 = .ok (.iload_n 2, 1) := by decide +kernel
theorem dX6_weight_67 : decode cX6_weight 67 = .ok (.invokevirtual 156, 3) := by decide +kernel
theorem dX6_weight_70 : decode cX6_weight 70 = .ok (.lreturn, 1) := by decide +kernel
theorem dX6_picks_0 : decode cX6_picks 0 = .ok (.iload_n 1, 1) := by decide +kernel
theorem dX6_picks_1 : decode cX6_picks 1 = .ok (.invokestatic 107, 3) := by decide +kernel
theorem dX6_picks_4 : decode cX6_picks 4 = .ok (.ifCond .eq 18, 3) := by decide +kernel
theorem dX6_picks_7 : decode cX6_picks 7 = .ok (.iload_n 2, 1) := by decide +kernel
theorem dX6_picks_8 : decode cX6_picks 8 = .ok (.iconst 0, 1) := by decide +kernel
theorem dX6_picks_9 : decode cX6_picks 9 = .ok (.ldc 160, 2) := by decide +kernel
theorem dX6_picks_11 : decode cX6_picks 11 = .ok (.invokestatic 86, 3) := by decide +kernel
theorem dX6_picks_14 : decode cX6_picks 14 = .ok (.ifCond .eq 8, 3) := by decide +kernel
theorem dX6_picks_17 : decode cX6_picks 17 = .ok (.iload_n 3, 1) := by decide +kernel
theorem dX6_picks_18 : decode cX6_picks 18 = .ok (.iconst (-1), 1) := by decide +kernel
theorem dX6_picks_19 : decode cX6_picks 19 = .ok (.if_icmp .ge 10, 3) := by decide +kernel
theorem dX6_picks_22 : decode cX6_picks 22 = .ok (.aload_n 0, 1) := by decide +kernel
theorem dX6_picks_23 : decode cX6_picks 23 = .ok (.bipush (-2), 2) := by decide +kernel
theorem dX6_picks_25 : decode cX6_picks 25 = .ok (.invokevirtual 90, 3) := by decide +kernel
theorem dX6_picks_28 : decode cX6_picks 28 = .ok (.ireturn, 1) := by decide +kernel
theorem dX6_picks_29 : decode cX6_picks 29 = .ok (.aload_n 0, 1) := by decide +kernel
theorem dX6_picks_30 : decode cX6_picks 30 = .ok (.iload_n 1, 1) := by decide +kernel
theorem dX6_picks_31 : decode cX6_picks 31 = .ok (.invokevirtual 142, 3) := by decide +kernel
theorem dX6_picks_34 : decode cX6_picks 34 = .ok (.lstore 4, 2) := by decide +kernel
theorem dX6_picks_36 : decode cX6_picks 36 = .ok (.lload 4, 2) := by decide +kernel
theorem dX6_picks_38 : decode cX6_picks 38 = .ok (.lconst 0, 1) := by decide +kernel
theorem dX6_picks_39 : decode cX6_picks 39 = .ok (.lcmp, 1) := by decide +kernel
theorem dX6_picks_40 : decode cX6_picks 40 = .ok (.ifCond .ge 10, 3) := by decide +kernel
theorem dX6_picks_43 : decode cX6_picks 43 = .ok (.aload_n 0, 1) := by decide +kernel
theorem dX6_picks_44 : decode cX6_picks 44 = .ok (.bipush (-5), 2) := by decide +kernel
theorem dX6_picks_46 : decode cX6_picks 46 = .ok (.invokevirtual 90, 3) := by decide +kernel
theorem dX6_picks_49 : decode cX6_picks 49 = .ok (.ireturn, 1) := by decide +kernel
theorem dX6_picks_50 : decode cX6_picks 50 = .ok (.lload 4, 2) := by decide +kernel
theorem dX6_picks_52 : decode cX6_picks 52 = .ok (.lconst 0, 1) := by decide +kernel
theorem dX6_picks_53 : decode cX6_picks 53 = .ok (.lcmp, 1) := by decide +kernel
theorem dX6_picks_54 : decode cX6_picks 54 = .ok (.ifCond .ne 10, 3) := by decide +kernel
theorem dX6_picks_57 : decode cX6_picks 57 = .ok (.aload_n 0, 1) := by decide +kernel
theorem dX6_picks_58 : decode cX6_picks 58 = .ok (.bipush (-3), 2) := by decide +kernel
theorem dX6_picks_60 : decode cX6_picks 60 = .ok (.invokevirtual 90, 3) := by decide +kernel
theorem dX6_picks_63 : decode cX6_picks 63 = .ok (.ireturn, 1) := by decide +kernel
theorem dX6_picks_64 : decode cX6_picks 64 = .ok (.iload_n 2, 1) := by decide +kernel
theorem dX6_picks_65 : decode cX6_picks 65 = .ok (.i2l, 1) := by decide +kernel
theorem dX6_picks_66 : decode cX6_picks 66 = .ok (.ldc2_w 161, 3) := by decide +kernel
theorem dX6_picks_69 : decode cX6_picks 69 = .ok (.lmul, 1) := by decide +kernel
theorem dX6_picks_70 : decode cX6_picks 70 = .ok (.ldc2_w 163, 3) := by decide +kernel
theorem dX6_picks_73 : decode cX6_picks 73 = .ok (.ladd, 1) := by decide +kernel
theorem dX6_picks_74 : decode cX6_picks 74 = .ok (.ldc2_w 165, 3) := by decide +kernel
theorem dX6_picks_77 : decode cX6_picks 77 = .ok (.lrem, 1) := by decide +kernel
theorem dX6_picks_78 : decode cX6_picks 78 = .ok (.lstore 6, 2) := by decide +kernel
theorem dX6_picks_80 : decode cX6_picks 80 = .ok (.aload_n 0, 1) := by decide +kernel
theorem dX6_picks_81 : decode cX6_picks 81 = .ok (.getfield 30, 3) := by decide +kernel
theorem dX6_picks_84 : decode cX6_picks 84 = .ok (.lload 6, 2) := by decide +kernel
theorem dX6_picks_86 : decode cX6_picks 86 = .ok (.lload 4, 2) := by decide +kernel
theorem dX6_picks_88 : decode cX6_picks 88 = .ok (.lrem, 1) := by decide +kernel
theorem dX6_picks_89 : decode cX6_picks 89 = .ok (.invokevirtual 146, 3) := by decide +kernel
theorem dX6_picks_92 : decode cX6_picks 92 = .ok (.aload_n 0, 1) := by decide +kernel
theorem dX6_picks_93 : decode cX6_picks 93 = .ok (.getfield 30, 3) := by decide +kernel
theorem dX6_picks_96 : decode cX6_picks 96 = .ok (.getfield 150, 3) := by decide +kernel
theorem dX6_picks_99 : decode cX6_picks 99 = .ok (.aload_n 0, 1) := by decide +kernel
theorem dX6_picks_100 : decode cX6_picks 100 = .ok (.getfield 30, 3) := by decide +kernel
theorem dX6_picks_103 : decode cX6_picks 103 = .ok (.getfield 153, 3) := by decide +kernel
theorem dX6_picks_106 : decode cX6_picks 106 = .ok (.iload_n 3, 1) := by decide +kernel
theorem dX6_picks_107 : decode cX6_picks 107 = .ok (.invokestatic 123, 3) := by decide +kernel
theorem dX6_picks_110 : decode cX6_picks 110 = .ok (.ireturn, 1) := by decide +kernel
theorem dX6_type_0 : decode cX6_type 0 = .ok (.aload_n 0, 1) := by decide +kernel
theorem dX6_type_1 : decode cX6_type 1 = .ok (.getfield 51, 3) := by decide +kernel
theorem dX6_type_4 : decode cX6_type 4 = .ok (.iload_n 1, 1) := by decide +kernel
theorem dX6_type_5 : decode cX6_type 5 = .ok (.invokevirtual 167, 3) := by decide +kernel
theorem dX6_type_8 : decode cX6_type 8 = .ok (.istore_n 2, 1) := by decide +kernel
theorem dX6_type_9 : decode cX6_type 9 = .ok (.iload_n 2, 1) := by decide +kernel
theorem dX6_type_10 : decode cX6_type 10 = .ok (.ifCond .ge 11, 3) := by decide +kernel
theorem dX6_type_13 : decode cX6_type 13 = .ok (.aload_n 0, 1) := by decide +kernel
theorem dX6_type_14 : decode cX6_type 14 = .ok (.iload_n 2, 1) := by decide +kernel
theorem dX6_type_15 : decode cX6_type 15 = .ok (.invokevirtual 90, 3) := by decide +kernel
theorem dX6_type_18 : decode cX6_type 18 = .ok (.goto 4, 3) := by decide +kernel
theorem dX6_type_21 : decode cX6_type 21 = .ok (.iload_n 2, 1) := by decide +kernel
theorem dX6_type_22 : decode cX6_type 22 = .ok (.ireturn, 1) := by decide +kernel
theorem dX6_clear_0 : decode cX6_clear 0 = .ok (.aload_n 0, 1) := by decide +kernel
theorem dX6_clear_1 : decode cX6_clear 1 = .ok (.getfield 51, 3) := by decide +kernel
theorem dX6_clear_4 : decode cX6_clear 4 = .ok (.invokevirtual 170, 3) := by decide +kernel
theorem dX6_clear_7 : decode cX6_clear 7 = .ok (.ireturn, 1) := by decide +kernel
theorem dX6_reads_0 : decode cX6_reads 0 = .ok (.aload_n 0, 1) := by decide +kernel
theorem dX6_reads_1 : decode cX6_reads 1 = .ok (.getfield 51, 3) := by decide +kernel
theorem dX6_reads_4 : decode cX6_reads 4 = .ok (.invokevirtual 173, 3) := by decide +kernel
theorem dX6_reads_7 : decode cX6_reads 7 = .ok (.istore_n 1, 1) := by decide +kernel
theorem dX6_reads_8 : decode cX6_reads 8 = .ok (.iload_n 1, 1) := by decide +kernel
theorem dX6_reads_9 : decode cX6_reads 9 = .ok (.iconst (-1), 1) := by decide +kernel
theorem dX6_reads_10 : decode cX6_reads 10 = .ok (.if_icmp .eq 8, 3) := by decide +kernel
theorem dX6_reads_13 : decode cX6_reads 13 = .ok (.bipush (-10), 2) := by decide +kernel
theorem dX6_reads_15 : decode cX6_reads 15 = .ok (.iload_n 1, 1) := by decide +kernel
theorem dX6_reads_16 : decode cX6_reads 16 = .ok (.isub, 1) := by decide +kernel
theorem dX6_reads_17 : decode cX6_reads 17 = .ok (.ireturn, 1) := by decide +kernel
theorem dX6_reads_18 : decode cX6_reads 18 = .ok (.aload_n 0, 1) := by decide +kernel
theorem dX6_reads_19 : decode cX6_reads 19 = .ok (.getfield 44, 3) := by decide +kernel
theorem dX6_reads_22 : decode cX6_reads 22 = .ok (.aload_n 0, 1) := by decide +kernel
theorem dX6_reads_23 : decode cX6_reads 23 = .ok (.getfield 15, 3) := by decide +kernel
theorem dX6_reads_26 : decode cX6_reads 26 = .ok (.invokevirtual 59, 3) := by decide +kernel
theorem dX6_reads_29 : decode cX6_reads 29 = .ok (.aload_n 0, 1) := by decide +kernel
theorem dX6_reads_30 : decode cX6_reads 30 = .ok (.getfield 51, 3) := by decide +kernel
theorem dX6_reads_33 : decode cX6_reads 33 = .ok (.invokevirtual 176, 3) := by decide +kernel
theorem dX6_reads_36 : decode cX6_reads 36 = .ok (.iconst 0, 1) := by decide +kernel
theorem dX6_reads_37 : decode cX6_reads 37 = .ok (.istore_n 2, 1) := by decide +kernel
theorem dX6_reads_38 : decode cX6_reads 38 = .ok (.iload_n 2, 1) := by decide +kernel
theorem dX6_reads_39 : decode cX6_reads 39 = .ok (.sipush 150, 3) := by decide +kernel
theorem dX6_reads_42 : decode cX6_reads 42 = .ok (.if_icmp .ge 43, 3) := by decide +kernel
theorem dX6_reads_45 : decode cX6_reads 45 = .ok (.aload_n 0, 1) := by decide +kernel
theorem dX6_reads_46 : decode cX6_reads 46 = .ok (.getfield 51, 3) := by decide +kernel
theorem dX6_reads_49 : decode cX6_reads 49 = .ok (.invokevirtual 179, 3) := by decide +kernel
theorem dX6_reads_52 : decode cX6_reads 52 = .ok (.ifCond .eq 33, 3) := by decide +kernel
theorem dX6_reads_55 : decode cX6_reads 55 = .ok (.aload_n 0, 1) := by decide +kernel
theorem dX6_reads_56 : decode cX6_reads 56 = .ok (.invokevirtual 183, 3) := by decide +kernel
theorem dX6_reads_59 : decode cX6_reads 59 = .ok (.ifCond .ge 20, 3) := by decide +kernel
theorem dX6_reads_62 : decode cX6_reads 62 = .ok (.aload_n 0, 1) := by decide +kernel
theorem dX6_reads_63 : decode cX6_reads 63 = .ok (.getfield 44, 3) := by decide +kernel
theorem dX6_reads_66 : decode cX6_reads 66 = .ok (.aload_n 0, 1) := by decide +kernel
theorem dX6_reads_67 : decode cX6_reads 67 = .ok (.getfield 15, 3) := by decide +kernel
theorem dX6_reads_70 : decode cX6_reads 70 = .ok (.invokevirtual 186, 3) := by decide +kernel
theorem dX6_reads_73 : decode cX6_reads 73 = .ok (.sipush (-1000), 3) := by decide +kernel
theorem dX6_reads_76 : decode cX6_reads 76 = .ok (.iload_n 2, 1) := by decide +kernel
theorem dX6_reads_77 : decode cX6_reads 77 = .ok (.isub, 1) := by decide +kernel
theorem dX6_reads_78 : decode cX6_reads 78 = .ok (.ireturn, 1) := by decide +kernel
theorem dX6_reads_79 : decode cX6_reads 79 = .ok (.iinc 2 1, 3) := by decide +kernel
theorem dX6_reads_82 : decode cX6_reads 82 = .ok (.goto (-44), 3) := by decide +kernel
theorem dX6_reads_85 : decode cX6_reads 85 = .ok (.aload_n 0, 1) := by decide +kernel
theorem dX6_reads_86 : decode cX6_reads 86 = .ok (.getfield 44, 3) := by decide +kernel
theorem dX6_reads_89 : decode cX6_reads 89 = .ok (.invokevirtual 189, 3) := by decide +kernel
theorem dX6_reads_92 : decode cX6_reads 92 = .ok (.iload_n 2, 1) := by decide +kernel
theorem dX6_reads_93 : decode cX6_reads 93 = .ok (.ireturn, 1) := by decide +kernel
theorem dX6_back_0 : decode cX6_back 0 = .ok (.aload_n 0, 1) := by decide +kernel
theorem dX6_back_1 : decode cX6_back 1 = .ok (.getfield 44, 3) := by decide +kernel
theorem dX6_back_4 : decode cX6_back 4 = .ok (.getfield 192, 3) := by decide +kernel
theorem dX6_back_7 : decode cX6_back 7 = .ok (.ifCond .ne 10, 3) := by decide +kernel
theorem dX6_back_10 : decode cX6_back 10 = .ok (.aload_n 0, 1) := by decide +kernel
theorem dX6_back_11 : decode cX6_back 11 = .ok (.bipush (-3), 2) := by decide +kernel
theorem dX6_back_13 : decode cX6_back 13 = .ok (.invokevirtual 90, 3) := by decide +kernel
theorem dX6_back_16 : decode cX6_back 16 = .ok (.ireturn, 1) := by decide +kernel
theorem dX6_back_17 : decode cX6_back 17 = .ok (.aload_n 0, 1) := by decide +kernel
theorem dX6_back_18 : decode cX6_back 18 = .ok (.getfield 44, 3) := by decide +kernel
theorem dX6_back_21 : decode cX6_back 21 = .ok (.aload_n 0, 1) := by decide +kernel
theorem dX6_back_22 : decode cX6_back 22 = .ok (.getfield 15, 3) := by decide +kernel
theorem dX6_back_25 : decode cX6_back 25 = .ok (.invokevirtual 195, 3) := by decide +kernel
theorem dX6_back_28 : decode cX6_back 28 = .ok (.aload_n 0, 1) := by decide +kernel
theorem dX6_back_29 : decode cX6_back 29 = .ok (.getfield 44, 3) := by decide +kernel
theorem dX6_back_32 : decode cX6_back 32 = .ok (.getfield 192, 3) := by decide +kernel
theorem dX6_back_35 : decode cX6_back 35 = .ok (.ireturn, 1) := by decide +kernel
theorem dX6_told_0 : decode cX6_told 0 = .ok (.iload_n 1, 1) := by decide +kernel
theorem dX6_told_1 : decode cX6_told 1 = .ok (.iconst 0, 1) := by decide +kernel
theorem dX6_told_2 : decode cX6_told 2 = .ok (.bipush 14, 2) := by decide +kernel
theorem dX6_told_4 : decode cX6_told 4 = .ok (.invokestatic 86, 3) := by decide +kernel
theorem dX6_told_7 : decode cX6_told 7 = .ok (.ifCond .eq 11, 3) := by decide +kernel
theorem dX6_told_10 : decode cX6_told 10 = .ok (.aload_n 0, 1) := by decide +kernel
theorem dX6_told_11 : decode cX6_told 11 = .ok (.iload_n 1, 1) := by decide +kernel
theorem dX6_told_12 : decode cX6_told 12 = .ok (.invokevirtual 198, 3) := by decide +kernel
theorem dX6_told_15 : decode cX6_told 15 = .ok (.goto 9, 3) := by decide +kernel
theorem dX6_told_18 : decode cX6_told 18 = .ok (.aload_n 0, 1) := by decide +kernel
theorem dX6_told_19 : decode cX6_told 19 = .ok (.bipush (-2), 2) := by decide +kernel
theorem dX6_told_21 : decode cX6_told 21 = .ok (.invokevirtual 90, 3) := by decide +kernel
theorem dX6_told_24 : decode cX6_told 24 = .ok (.ireturn, 1) := by decide +kernel
theorem dX6_digest_0 : decode cX6_digest 0 = .ok (.ldc2_w 201, 3) := by decide +kernel
theorem dX6_digest_3 : decode cX6_digest 3 = .ok (.lstore_n 1, 1) := by decide +kernel
theorem dX6_digest_4 : decode cX6_digest 4 = .ok (.iconst 0, 1) := by decide +kernel
theorem dX6_digest_5 : decode cX6_digest 5 = .ok (.istore_n 3, 1) := by decide +kernel
theorem dX6_digest_6 : decode cX6_digest 6 = .ok (.iload_n 3, 1) := by decide +kernel
theorem dX6_digest_7 : decode cX6_digest 7 = .ok (.bipush 15, 2) := by decide +kernel
theorem dX6_digest_9 : decode cX6_digest 9 = .ok (.if_icmp .ge 22, 3) := by decide +kernel
theorem dX6_digest_12 : decode cX6_digest 12 = .ok (.ldc2_w 203, 3) := by decide +kernel
theorem dX6_digest_15 : decode cX6_digest 15 = .ok (.lload_n 1, 1) := by decide +kernel
theorem dX6_digest_16 : decode cX6_digest 16 = .ok (.lmul, 1) := by decide +kernel
theorem dX6_digest_17 : decode cX6_digest 17 = .ok (.aload_n 0, 1) := by decide +kernel
theorem dX6_digest_18 : decode cX6_digest 18 = .ok (.iload_n 3, 1) := by decide +kernel
theorem dX6_digest_19 : decode cX6_digest 19 = .ok (.invokevirtual 198, 3) := by decide +kernel
theorem dX6_digest_22 : decode cX6_digest 22 = .ok (.i2l, 1) := by decide +kernel
theorem dX6_digest_23 : decode cX6_digest 23 = .ok (.ladd, 1) := by decide +kernel
theorem dX6_digest_24 : decode cX6_digest 24 = .ok (.lstore_n 1, 1) := by decide +kernel
theorem dX6_digest_25 : decode cX6_digest 25 = .ok (.iinc 3 1, 3) := by decide +kernel
theorem dX6_digest_28 : decode cX6_digest 28 = .ok (.goto (-22), 3) := by decide +kernel
theorem dX6_digest_31 : decode cX6_digest 31 = .ok (.aload_n 0, 1) := by decide +kernel
theorem dX6_digest_32 : decode cX6_digest 32 = .ok (.getfield 15, 3) := by decide +kernel
theorem dX6_digest_35 : decode cX6_digest 35 = .ok (.lload_n 1, 1) := by decide +kernel
theorem dX6_digest_36 : decode cX6_digest 36 = .ok (.invokevirtual 205, 3) := by decide +kernel
theorem dX6_digest_39 : decode cX6_digest 39 = .ok (.lstore_n 1, 1) := by decide +kernel
theorem dX6_digest_40 : decode cX6_digest 40 = .ok (.ldc2_w 203, 3) := by decide +kernel
theorem dX6_digest_43 : decode cX6_digest 43 = .ok (.lload_n 1, 1) := by decide +kernel
theorem dX6_digest_44 : decode cX6_digest 44 = .ok (.lmul, 1) := by decide +kernel
theorem dX6_digest_45 : decode cX6_digest 45 = .ok (.aload_n 0, 1) := by decide +kernel
theorem dX6_digest_46 : decode cX6_digest 46 = .ok (.invokevirtual 103, 3) := by decide +kernel
theorem dX6_digest_49 : decode cX6_digest 49 = .ok (.ladd, 1) := by decide +kernel
theorem dX6_digest_50 : decode cX6_digest 50 = .ok (.lstore_n 1, 1) := by decide +kernel
theorem dX6_digest_51 : decode cX6_digest 51 = .ok (.ldc2_w 203, 3) := by decide +kernel
theorem dX6_digest_54 : decode cX6_digest 54 = .ok (.lload_n 1, 1) := by decide +kernel
theorem dX6_digest_55 : decode cX6_digest 55 = .ok (.lmul, 1) := by decide +kernel
theorem dX6_digest_56 : decode cX6_digest 56 = .ok (.aload_n 0, 1) := by decide +kernel
theorem dX6_digest_57 : decode cX6_digest 57 = .ok (.iconst (-1), 1) := by decide +kernel
theorem dX6_digest_58 : decode cX6_digest 58 = .ok (.invokevirtual 142, 3) := by decide +kernel
theorem dX6_digest_61 : decode cX6_digest 61 = .ok (.ladd, 1) := by decide +kernel
theorem dX6_digest_62 : decode cX6_digest 62 = .ok (.lstore_n 1, 1) := by decide +kernel
theorem dX6_digest_63 : decode cX6_digest 63 = .ok (.iconst 0, 1) := by decide +kernel
theorem dX6_digest_64 : decode cX6_digest 64 = .ok (.istore_n 3, 1) := by decide +kernel
theorem dX6_digest_65 : decode cX6_digest 65 = .ok (.iload_n 3, 1) := by decide +kernel
theorem dX6_digest_66 : decode cX6_digest 66 = .ok (.iconst 3, 1) := by decide +kernel
theorem dX6_digest_67 : decode cX6_digest 67 = .ok (.if_icmp .ge 54, 3) := by decide +kernel
theorem dX6_digest_70 : decode cX6_digest 70 = .ok (.ldc2_w 203, 3) := by decide +kernel
theorem dX6_digest_73 : decode cX6_digest 73 = .ok (.lload_n 1, 1) := by decide +kernel
theorem dX6_digest_74 : decode cX6_digest 74 = .ok (.lmul, 1) := by decide +kernel
theorem dX6_digest_75 : decode cX6_digest 75 = .ok (.aload_n 0, 1) := by decide +kernel
theorem dX6_digest_76 : decode cX6_digest 76 = .ok (.iload_n 3, 1) := by decide +kernel
theorem dX6_digest_77 : decode cX6_digest 77 = .ok (.invokevirtual 142, 3) := by decide +kernel
theorem dX6_digest_80 : decode cX6_digest 80 = .ok (.ladd, 1) := by decide +kernel
theorem dX6_digest_81 : decode cX6_digest 81 = .ok (.lstore_n 1, 1) := by decide +kernel
theorem dX6_digest_82 : decode cX6_digest 82 = .ok (.iconst 0, 1) := by decide +kernel
theorem dX6_digest_83 : decode cX6_digest 83 = .ok (.istore 4, 2) := by decide +kernel
theorem dX6_digest_85 : decode cX6_digest 85 = .ok (.iload 4, 2) := by decide +kernel
theorem dX6_digest_87 : decode cX6_digest 87 = .ok (.iconst 4, 1) := by decide +kernel
theorem dX6_digest_88 : decode cX6_digest 88 = .ok (.if_icmp .ge 27, 3) := by decide +kernel
theorem dX6_digest_91 : decode cX6_digest 91 = .ok (.ldc2_w 203, 3) := by decide +kernel
theorem dX6_digest_94 : decode cX6_digest 94 = .ok (.lload_n 1, 1) := by decide +kernel
theorem dX6_digest_95 : decode cX6_digest 95 = .ok (.lmul, 1) := by decide +kernel
theorem dX6_digest_96 : decode cX6_digest 96 = .ok (.aload_n 0, 1) := by decide +kernel
theorem dX6_digest_97 : decode cX6_digest 97 = .ok (.getfield 15, 3) := by decide +kernel
theorem dX6_digest_100 : decode cX6_digest 100 = .ok (.iload_n 3, 1) := by decide +kernel
theorem dX6_digest_101 : decode cX6_digest 101 = .ok (.iload 4, 2) := by decide +kernel
theorem dX6_digest_103 : decode cX6_digest 103 = .ok (.invokevirtual 133, 3) := by decide +kernel
theorem dX6_digest_106 : decode cX6_digest 106 = .ok (.i2l, 1) := by decide +kernel
theorem dX6_digest_107 : decode cX6_digest 107 = .ok (.ladd, 1) := by decide +kernel
theorem dX6_digest_108 : decode cX6_digest 108 = .ok (.lstore_n 1, 1) := by decide +kernel
theorem dX6_digest_109 : decode cX6_digest 109 = .ok (.iinc 4 1, 3) := by decide +kernel
theorem dX6_digest_112 : decode cX6_digest 112 = .ok (.goto (-27), 3) := by decide +kernel
theorem dX6_digest_115 : decode cX6_digest 115 = .ok (.iinc 3 1, 3) := by decide +kernel
theorem dX6_digest_118 : decode cX6_digest 118 = .ok (.goto (-53), 3) := by decide +kernel
theorem dX6_digest_121 : decode cX6_digest 121 = .ok (.lload_n 1, 1) := by decide +kernel
theorem dX6_digest_122 : decode cX6_digest 122 = .ok (.lreturn, 1) := by decide +kernel
theorem dX6_within_0 : decode cX6_within 0 = .ok (.iload_n 0, 1) := by decide +kernel
theorem dX6_within_1 : decode cX6_within 1 = .ok (.iload_n 1, 1) := by decide +kernel
theorem dX6_within_2 : decode cX6_within 2 = .ok (.if_icmp .lt 12, 3) := by decide +kernel
theorem dX6_within_5 : decode cX6_within 5 = .ok (.iload_n 0, 1) := by decide +kernel
theorem dX6_within_6 : decode cX6_within 6 = .ok (.iload_n 2, 1) := by decide +kernel
theorem dX6_within_7 : decode cX6_within 7 = .ok (.if_icmp .gt 7, 3) := by decide +kernel
theorem dX6_within_10 : decode cX6_within 10 = .ok (.iconst 1, 1) := by decide +kernel
theorem dX6_within_11 : decode cX6_within 11 = .ok (.goto 4, 3) := by decide +kernel
theorem dX6_within_14 : decode cX6_within 14 = .ok (.iconst 0, 1) := by decide +kernel
theorem dX6_within_15 : decode cX6_within 15 = .ok (.ireturn, 1) := by decide +kernel
theorem dX6_isMaker_0 : decode cX6_isMaker 0 = .ok (.iload_n 0, 1) := by decide +kernel
theorem dX6_isMaker_1 : decode cX6_isMaker 1 = .ok (.iconst 0, 1) := by decide +kernel
theorem dX6_isMaker_2 : decode cX6_isMaker 2 = .ok (.iconst 2, 1) := by decide +kernel
theorem dX6_isMaker_3 : decode cX6_isMaker 3 = .ok (.invokestatic 86, 3) := by decide +kernel
theorem dX6_isMaker_6 : decode cX6_isMaker 6 = .ok (.ireturn, 1) := by decide +kernel
theorem dX6_isSlot_0 : decode cX6_isSlot 0 = .ok (.iload_n 0, 1) := by decide +kernel
theorem dX6_isSlot_1 : decode cX6_isSlot 1 = .ok (.iconst 0, 1) := by decide +kernel
theorem dX6_isSlot_2 : decode cX6_isSlot 2 = .ok (.iconst 3, 1) := by decide +kernel
theorem dX6_isSlot_3 : decode cX6_isSlot 3 = .ok (.invokestatic 86, 3) := by decide +kernel
theorem dX6_isSlot_6 : decode cX6_isSlot 6 = .ok (.ireturn, 1) := by decide +kernel
theorem dX6_isSet_0 : decode cX6_isSet 0 = .ok (.iload_n 0, 1) := by decide +kernel
theorem dX6_isSet_1 : decode cX6_isSet 1 = .ok (.iconst 0, 1) := by decide +kernel
theorem dX6_isSet_2 : decode cX6_isSet 2 = .ok (.bipush 15, 2) := by decide +kernel
theorem dX6_isSet_4 : decode cX6_isSet 4 = .ok (.invokestatic 86, 3) := by decide +kernel
theorem dX6_isSet_7 : decode cX6_isSet 7 = .ok (.ireturn, 1) := by decide +kernel
theorem dX6_holds_0 : decode cX6_holds 0 = .ok (.iload_n 0, 1) := by decide +kernel
theorem dX6_holds_1 : decode cX6_holds 1 = .ok (.iload_n 1, 1) := by decide +kernel
theorem dX6_holds_2 : decode cX6_holds 2 = .ok (.ishr, 1) := by decide +kernel
theorem dX6_holds_3 : decode cX6_holds 3 = .ok (.iconst 1, 1) := by decide +kernel
theorem dX6_holds_4 : decode cX6_holds 4 = .ok (.iand, 1) := by decide +kernel
theorem dX6_holds_5 : decode cX6_holds 5 = .ok (.iconst 1, 1) := by decide +kernel
theorem dX6_holds_6 : decode cX6_holds 6 = .ok (.if_icmp .ne 7, 3) := by decide +kernel
theorem dX6_holds_9 : decode cX6_holds 9 = .ok (.iconst 1, 1) := by decide +kernel
theorem dX6_holds_10 : decode cX6_holds 10 = .ok (.goto 4, 3) := by decide +kernel
theorem dX6_holds_13 : decode cX6_holds 13 = .ok (.iconst 0, 1) := by decide +kernel
theorem dX6_holds_14 : decode cX6_holds 14 = .ok (.ireturn, 1) := by decide +kernel
theorem dX6_lettersIn_0 : decode cX6_lettersIn 0 = .ok (.iconst 0, 1) := by decide +kernel
theorem dX6_lettersIn_1 : decode cX6_lettersIn 1 = .ok (.istore_n 1, 1) := by decide +kernel
theorem dX6_lettersIn_2 : decode cX6_lettersIn 2 = .ok (.iload_n 0, 1) := by decide +kernel
theorem dX6_lettersIn_3 : decode cX6_lettersIn 3 = .ok (.istore_n 2, 1) := by decide +kernel
theorem dX6_lettersIn_4 : decode cX6_lettersIn 4 = .ok (.iload_n 2, 1) := by decide +kernel
theorem dX6_lettersIn_5 : decode cX6_lettersIn 5 = .ok (.ifCond .le 35, 3) := by decide +kernel
theorem dX6_lettersIn_8 : decode cX6_lettersIn 8 = .ok (.iload_n 1, 1) := by decide +kernel
theorem dX6_lettersIn_9 : decode cX6_lettersIn 9 = .ok (.bipush 6, 2) := by decide +kernel
theorem dX6_lettersIn_11 : decode cX6_lettersIn 11 = .ok (.if_icmp .gt 29, 3) := by decide +kernel
theorem dX6_lettersIn_14 : decode cX6_lettersIn 14 = .ok (.iload_n 2, 1) := by decide +kernel
theorem dX6_lettersIn_15 : decode cX6_lettersIn 15 = .ok (.bipush 10, 2) := by decide +kernel
theorem dX6_lettersIn_17 : decode cX6_lettersIn 17 = .ok (.irem, 1) := by decide +kernel
theorem dX6_lettersIn_18 : decode cX6_lettersIn 18 = .ok (.iconst 1, 1) := by decide +kernel
theorem dX6_lettersIn_19 : decode cX6_lettersIn 19 = .ok (.bipush 8, 2) := by decide +kernel
theorem dX6_lettersIn_21 : decode cX6_lettersIn 21 = .ok (.invokestatic 86, 3) := by decide +kernel
theorem dX6_lettersIn_24 : decode cX6_lettersIn 24 = .ok (.ifCond .ne 5, 3) := by decide +kernel
theorem dX6_lettersIn_27 : decode cX6_lettersIn 27 = .ok (.iconst 0, 1) := by decide +kernel
theorem dX6_lettersIn_28 : decode cX6_lettersIn 28 = .ok (.ireturn, 1) := by decide +kernel
theorem dX6_lettersIn_29 : decode cX6_lettersIn 29 = .ok (.iinc 1 1, 3) := by decide +kernel
theorem dX6_lettersIn_32 : decode cX6_lettersIn 32 = .ok (.iload_n 2, 1) := by decide +kernel
theorem dX6_lettersIn_33 : decode cX6_lettersIn 33 = .ok (.bipush 10, 2) := by decide +kernel
theorem dX6_lettersIn_35 : decode cX6_lettersIn 35 = .ok (.idiv, 1) := by decide +kernel
theorem dX6_lettersIn_36 : decode cX6_lettersIn 36 = .ok (.istore_n 2, 1) := by decide +kernel
theorem dX6_lettersIn_37 : decode cX6_lettersIn 37 = .ok (.goto (-33), 3) := by decide +kernel
theorem dX6_lettersIn_40 : decode cX6_lettersIn 40 = .ok (.iload_n 1, 1) := by decide +kernel
theorem dX6_lettersIn_41 : decode cX6_lettersIn 41 = .ok (.bipush 6, 2) := by decide +kernel
theorem dX6_lettersIn_43 : decode cX6_lettersIn 43 = .ok (.if_icmp .gt 7, 3) := by decide +kernel
theorem dX6_lettersIn_46 : decode cX6_lettersIn 46 = .ok (.iload_n 1, 1) := by decide +kernel
theorem dX6_lettersIn_47 : decode cX6_lettersIn 47 = .ok (.goto 4, 3) := by decide +kernel
theorem dX6_lettersIn_50 : decode cX6_lettersIn 50 = .ok (.iconst 0, 1) := by decide +kernel
theorem dX6_lettersIn_51 : decode cX6_lettersIn 51 = .ok (.ireturn, 1) := by decide +kernel
theorem dX6_moraeIn_0 : decode cX6_moraeIn 0 = .ok (.iconst 0, 1) := by decide +kernel
theorem dX6_moraeIn_1 : decode cX6_moraeIn 1 = .ok (.istore_n 2, 1) := by decide +kernel
theorem dX6_moraeIn_2 : decode cX6_moraeIn 2 = .ok (.iload_n 0, 1) := by decide +kernel
theorem dX6_moraeIn_3 : decode cX6_moraeIn 3 = .ok (.istore_n 3, 1) := by decide +kernel
theorem dX6_moraeIn_4 : decode cX6_moraeIn 4 = .ok (.iconst 0, 1) := by decide +kernel
theorem dX6_moraeIn_5 : decode cX6_moraeIn 5 = .ok (.istore 4, 2) := by decide +kernel
theorem dX6_moraeIn_7 : decode cX6_moraeIn 7 = .ok (.iload 4, 2) := by decide +kernel
theorem dX6_moraeIn_9 : decode cX6_moraeIn 9 = .ok (.iload_n 1, 1) := by decide +kernel
theorem dX6_moraeIn_10 : decode cX6_moraeIn 10 = .ok (.if_icmp .ge 30, 3) := by decide +kernel
theorem dX6_moraeIn_13 : decode cX6_moraeIn 13 = .ok (.iload_n 2, 1) := by decide +kernel
theorem dX6_moraeIn_14 : decode cX6_moraeIn 14 = .ok (.iload_n 3, 1) := by decide +kernel
theorem dX6_moraeIn_15 : decode cX6_moraeIn 15 = .ok (.bipush 10, 2) := by decide +kernel
theorem dX6_moraeIn_17 : decode cX6_moraeIn 17 = .ok (.irem, 1) := by decide +kernel
theorem dX6_moraeIn_18 : decode cX6_moraeIn 18 = .ok (.iconst 5, 1) := by decide +kernel
theorem dX6_moraeIn_19 : decode cX6_moraeIn 19 = .ok (.if_icmp .lt 7, 3) := by decide +kernel
theorem dX6_moraeIn_22 : decode cX6_moraeIn 22 = .ok (.iconst 2, 1) := by decide +kernel
theorem dX6_moraeIn_23 : decode cX6_moraeIn 23 = .ok (.goto 4, 3) := by decide +kernel
theorem dX6_moraeIn_26 : decode cX6_moraeIn 26 = .ok (.iconst 1, 1) := by decide +kernel
theorem dX6_moraeIn_27 : decode cX6_moraeIn 27 = .ok (.iadd, 1) := by decide +kernel
theorem dX6_moraeIn_28 : decode cX6_moraeIn 28 = .ok (.istore_n 2, 1) := by decide +kernel
theorem dX6_moraeIn_29 : decode cX6_moraeIn 29 = .ok (.iload_n 3, 1) := by decide +kernel
theorem dX6_moraeIn_30 : decode cX6_moraeIn 30 = .ok (.bipush 10, 2) := by decide +kernel
theorem dX6_moraeIn_32 : decode cX6_moraeIn 32 = .ok (.idiv, 1) := by decide +kernel
theorem dX6_moraeIn_33 : decode cX6_moraeIn 33 = .ok (.istore_n 3, 1) := by decide +kernel
theorem dX6_moraeIn_34 : decode cX6_moraeIn 34 = .ok (.iinc 4 1, 3) := by decide +kernel
theorem dX6_moraeIn_37 : decode cX6_moraeIn 37 = .ok (.goto (-30), 3) := by decide +kernel
theorem dX6_moraeIn_40 : decode cX6_moraeIn 40 = .ok (.iload_n 2, 1) := by decide +kernel
theorem dX6_moraeIn_41 : decode cX6_moraeIn 41 = .ok (.ireturn, 1) := by decide +kernel
theorem dX6_partOf_0 : decode cX6_partOf 0 = .ok (.iload_n 2, 1) := by decide +kernel
theorem dX6_partOf_1 : decode cX6_partOf 1 = .ok (.iconst (-1), 1) := by decide +kernel
theorem dX6_partOf_2 : decode cX6_partOf 2 = .ok (.if_icmp .ne 5, 3) := by decide +kernel
theorem dX6_partOf_5 : decode cX6_partOf 5 = .ok (.iload_n 1, 1) := by decide +kernel
theorem dX6_partOf_6 : decode cX6_partOf 6 = .ok (.ireturn, 1) := by decide +kernel
theorem dX6_partOf_7 : decode cX6_partOf 7 = .ok (.iload_n 2, 1) := by decide +kernel
theorem dX6_partOf_8 : decode cX6_partOf 8 = .ok (.iconst 0, 1) := by decide +kernel
theorem dX6_partOf_9 : decode cX6_partOf 9 = .ok (.iload_n 1, 1) := by decide +kernel
theorem dX6_partOf_10 : decode cX6_partOf 10 = .ok (.iconst 1, 1) := by decide +kernel
theorem dX6_partOf_11 : decode cX6_partOf 11 = .ok (.isub, 1) := by decide +kernel
theorem dX6_partOf_12 : decode cX6_partOf 12 = .ok (.invokestatic 86, 3) := by decide +kernel
theorem dX6_partOf_15 : decode cX6_partOf 15 = .ok (.ifCond .eq 9, 3) := by decide +kernel
theorem dX6_partOf_18 : decode cX6_partOf 18 = .ok (.aload_n 0, 1) := by decide +kernel
theorem dX6_partOf_19 : decode cX6_partOf 19 = .ok (.iload_n 2, 1) := by decide +kernel
theorem dX6_partOf_20 : decode cX6_partOf 20 = .ok (.iaload, 1) := by decide +kernel
theorem dX6_partOf_21 : decode cX6_partOf 21 = .ok (.goto 5, 3) := by decide +kernel
theorem dX6_partOf_24 : decode cX6_partOf 24 = .ok (.bipush (-10), 2) := by decide +kernel
theorem dX6_partOf_26 : decode cX6_partOf 26 = .ok (.ireturn, 1) := by decide +kernel
theorem dX6_refusal_0 : decode cX6_refusal 0 = .ok (.iload_n 1, 1) := by decide +kernel
theorem dX6_refusal_1 : decode cX6_refusal 1 = .ok (.bipush (-2), 2) := by decide +kernel
theorem dX6_refusal_3 : decode cX6_refusal 3 = .ok (.if_icmp .ne 7, 3) := by decide +kernel
theorem dX6_refusal_6 : decode cX6_refusal 6 = .ok (.iconst 0, 1) := by decide +kernel
theorem dX6_refusal_7 : decode cX6_refusal 7 = .ok (.goto 24, 3) := by decide +kernel
theorem dX6_refusal_10 : decode cX6_refusal 10 = .ok (.iload_n 1, 1) := by decide +kernel
theorem dX6_refusal_11 : decode cX6_refusal 11 = .ok (.bipush (-3), 2) := by decide +kernel
theorem dX6_refusal_13 : decode cX6_refusal 13 = .ok (.if_icmp .ne 7, 3) := by decide +kernel
theorem dX6_refusal_16 : decode cX6_refusal 16 = .ok (.iconst 1, 1) := by decide +kernel
theorem dX6_refusal_17 : decode cX6_refusal 17 = .ok (.goto 14, 3) := by decide +kernel
theorem dX6_refusal_20 : decode cX6_refusal 20 = .ok (.iload_n 1, 1) := by decide +kernel
theorem dX6_refusal_21 : decode cX6_refusal 21 = .ok (.bipush (-4), 2) := by decide +kernel
theorem dX6_refusal_23 : decode cX6_refusal 23 = .ok (.if_icmp .ne 7, 3) := by decide +kernel
theorem dX6_refusal_26 : decode cX6_refusal 26 = .ok (.iconst 2, 1) := by decide +kernel
theorem dX6_refusal_27 : decode cX6_refusal 27 = .ok (.goto 4, 3) := by decide +kernel
theorem dX6_refusal_30 : decode cX6_refusal 30 = .ok (.iconst 3, 1) := by decide +kernel
theorem dX6_refusal_31 : decode cX6_refusal 31 = .ok (.istore_n 2, 1) := by decide +kernel
theorem dX6_refusal_32 : decode cX6_refusal 32 = .ok (.aload_n 0, 1) := by decide +kernel
theorem dX6_refusal_33 : decode cX6_refusal 33 = .ok (.getfield 55, 3) := by decide +kernel
theorem dX6_refusal_36 : decode cX6_refusal 36 = .ok (.iload_n 2, 1) := by decide +kernel
theorem dX6_refusal_37 : decode cX6_refusal 37 = .ok (.dup2, 1) := by decide +kernel
theorem dX6_refusal_38 : decode cX6_refusal 38 = .ok (.iaload, 1) := by decide +kernel
theorem dX6_refusal_39 : decode cX6_refusal 39 = .ok (.iconst 1, 1) := by decide +kernel
theorem dX6_refusal_40 : decode cX6_refusal 40 = .ok (.iadd, 1) := by decide +kernel
theorem dX6_refusal_41 : decode cX6_refusal 41 = .ok (.iastore, 1) := by decide +kernel
theorem dX6_refusal_42 : decode cX6_refusal 42 = .ok (.iload_n 1, 1) := by decide +kernel
theorem dX6_refusal_43 : decode cX6_refusal 43 = .ok (.ireturn, 1) := by decide +kernel
theorem dX6_settled_0 : decode cX6_settled 0 = .ok (.iload_n 1, 1) := by decide +kernel
theorem dX6_settled_1 : decode cX6_settled 1 = .ok (.ifCond .ge 9, 3) := by decide +kernel
theorem dX6_settled_4 : decode cX6_settled 4 = .ok (.aload_n 0, 1) := by decide +kernel
theorem dX6_settled_5 : decode cX6_settled 5 = .ok (.iload_n 1, 1) := by decide +kernel
theorem dX6_settled_6 : decode cX6_settled 6 = .ok (.invokevirtual 90, 3) := by decide +kernel
theorem dX6_settled_9 : decode cX6_settled 9 = .ok (.ireturn, 1) := by decide +kernel
theorem dX6_settled_10 : decode cX6_settled 10 = .ok (.aload_n 0, 1) := by decide +kernel
theorem dX6_settled_11 : decode cX6_settled 11 = .ok (.getfield 44, 3) := by decide +kernel
theorem dX6_settled_14 : decode cX6_settled 14 = .ok (.invokevirtual 189, 3) := by decide +kernel
theorem dX6_settled_17 : decode cX6_settled 17 = .ok (.iload_n 1, 1) := by decide +kernel
theorem dX6_settled_18 : decode cX6_settled 18 = .ok (.ireturn, 1) := by decide +kernel
theorem dX6_countCuts_0 : decode cX6_countCuts 0 = .ok (.aload_n 0, 1) := by decide +kernel
theorem dX6_countCuts_1 : decode cX6_countCuts 1 = .ok (.getfield 21, 3) := by decide +kernel
theorem dX6_countCuts_4 : decode cX6_countCuts 4 = .ok (.invokevirtual 209, 3) := by decide +kernel
theorem dX6_countCuts_7 : decode cX6_countCuts 7 = .ok (.aload_n 0, 1) := by decide +kernel
theorem dX6_countCuts_8 : decode cX6_countCuts 8 = .ok (.getfield 30, 3) := by decide +kernel
theorem dX6_countCuts_11 : decode cX6_countCuts 11 = .ok (.iconst (-1), 1) := by decide +kernel
theorem dX6_countCuts_12 : decode cX6_countCuts 12 = .ok (.invokevirtual 212, 3) := by decide +kernel
theorem dX6_countCuts_15 : decode cX6_countCuts 15 = .ok (.lreturn, 1) := by decide +kernel
theorem dX6_countMade_0 : decode cX6_countMade 0 = .ok (.aload_n 0, 1) := by decide +kernel
theorem dX6_countMade_1 : decode cX6_countMade 1 = .ok (.getfield 21, 3) := by decide +kernel
theorem dX6_countMade_4 : decode cX6_countMade 4 = .ok (.invokevirtual 215, 3) := by decide +kernel
theorem dX6_countMade_7 : decode cX6_countMade 7 = .ok (.aload_n 0, 1) := by decide +kernel
theorem dX6_countMade_8 : decode cX6_countMade 8 = .ok (.getfield 30, 3) := by decide +kernel
theorem dX6_countMade_11 : decode cX6_countMade 11 = .ok (.iload_n 1, 1) := by decide +kernel
theorem dX6_countMade_12 : decode cX6_countMade 12 = .ok (.invokevirtual 212, 3) := by decide +kernel
theorem dX6_countMade_15 : decode cX6_countMade 15 = .ok (.lreturn, 1) := by decide +kernel
theorem dX6_singBest_0 : decode cX6_singBest 0 = .ok (.iload_n 1, 1) := by decide +kernel
theorem dX6_singBest_1 : decode cX6_singBest 1 = .ok (.invokestatic 107, 3) := by decide +kernel
theorem dX6_singBest_4 : decode cX6_singBest 4 = .ok (.ifCond .ne 6, 3) := by decide +kernel
theorem dX6_singBest_7 : decode cX6_singBest 7 = .ok (.bipush (-2), 2) := by decide +kernel
theorem dX6_singBest_9 : decode cX6_singBest 9 = .ok (.ireturn, 1) := by decide +kernel
theorem dX6_singBest_10 : decode cX6_singBest 10 = .ok (.aload_n 0, 1) := by decide +kernel
theorem dX6_singBest_11 : decode cX6_singBest 11 = .ok (.getfield 37, 3) := by decide +kernel
theorem dX6_singBest_14 : decode cX6_singBest 14 = .ok (.iload_n 1, 1) := by decide +kernel
theorem dX6_singBest_15 : decode cX6_singBest 15 = .ok (.invokevirtual 110, 3) := by decide +kernel
theorem dX6_singBest_18 : decode cX6_singBest 18 = .ok (.ifCond .ne 6, 3) := by decide +kernel
theorem dX6_singBest_21 : decode cX6_singBest 21 = .ok (.bipush (-3), 2) := by decide +kernel
theorem dX6_singBest_23 : decode cX6_singBest 23 = .ok (.ireturn, 1) := by decide +kernel
theorem dX6_singBest_24 : decode cX6_singBest 24 = .ok (.iconst 0, 1) := by decide +kernel
theorem dX6_singBest_25 : decode cX6_singBest 25 = .ok (.istore_n 2, 1) := by decide +kernel
theorem dX6_singBest_26 : decode cX6_singBest 26 = .ok (.iload_n 2, 1) := by decide +kernel
theorem dX6_singBest_27 : decode cX6_singBest 27 = .ok (.aload_n 0, 1) := by decide +kernel
theorem dX6_singBest_28 : decode cX6_singBest 28 = .ok (.getfield 37, 3) := by decide +kernel
theorem dX6_singBest_31 : decode cX6_singBest 31 = .ok (.getfield 119, 3) := by decide +kernel
theorem dX6_singBest_34 : decode cX6_singBest 34 = .ok (.if_icmp .ge 26, 3) := by decide +kernel
theorem dX6_singBest_37 : decode cX6_singBest 37 = .ok (.aload_n 0, 1) := by decide +kernel
theorem dX6_singBest_38 : decode cX6_singBest 38 = .ok (.getfield 15, 3) := by decide +kernel
theorem dX6_singBest_41 : decode cX6_singBest 41 = .ok (.iload_n 1, 1) := by decide +kernel
theorem dX6_singBest_42 : decode cX6_singBest 42 = .ok (.aload_n 0, 1) := by decide +kernel
theorem dX6_singBest_43 : decode cX6_singBest 43 = .ok (.getfield 37, 3) := by decide +kernel
theorem dX6_singBest_46 : decode cX6_singBest 46 = .ok (.getfield 116, 3) := by decide +kernel
theorem dX6_singBest_49 : decode cX6_singBest 49 = .ok (.iload_n 2, 1) := by decide +kernel
theorem dX6_singBest_50 : decode cX6_singBest 50 = .ok (.iaload, 1) := by decide +kernel
theorem dX6_singBest_51 : decode cX6_singBest 51 = .ok (.invokevirtual 218, 3) := by decide +kernel
theorem dX6_singBest_54 : decode cX6_singBest 54 = .ok (.iinc 2 1, 3) := by decide +kernel
theorem dX6_singBest_57 : decode cX6_singBest 57 = .ok (.goto (-31), 3) := by decide +kernel
theorem dX6_singBest_60 : decode cX6_singBest 60 = .ok (.aload_n 0, 1) := by decide +kernel
theorem dX6_singBest_61 : decode cX6_singBest 61 = .ok (.getfield 37, 3) := by decide +kernel
theorem dX6_singBest_64 : decode cX6_singBest 64 = .ok (.getfield 119, 3) := by decide +kernel
theorem dX6_singBest_67 : decode cX6_singBest 67 = .ok (.ireturn, 1) := by decide +kernel
theorem dX6_doOrder_0 : decode cX6_doOrder 0 = .ok (.aload_n 0, 1) := by decide +kernel
theorem dX6_doOrder_1 : decode cX6_doOrder 1 = .ok (.getfield 51, 3) := by decide +kernel
theorem dX6_doOrder_4 : decode cX6_doOrder 4 = .ok (.getfield 222, 3) := by decide +kernel
theorem dX6_doOrder_7 : decode cX6_doOrder 7 = .ok (.iconst 0, 1) := by decide +kernel
theorem dX6_doOrder_8 : decode cX6_doOrder 8 = .ok (.iaload, 1) := by decide +kernel
theorem dX6_doOrder_9 : decode cX6_doOrder 9 = .ok (.istore_n 1, 1) := by decide +kernel
theorem dX6_doOrder_10 : decode cX6_doOrder 10 = .ok (.aload_n 0, 1) := by decide +kernel
theorem dX6_doOrder_11 : decode cX6_doOrder 11 = .ok (.getfield 51, 3) := by decide +kernel
theorem dX6_doOrder_14 : decode cX6_doOrder 14 = .ok (.getfield 222, 3) := by decide +kernel
theorem dX6_doOrder_17 : decode cX6_doOrder 17 = .ok (.iconst 1, 1) := by decide +kernel
theorem dX6_doOrder_18 : decode cX6_doOrder 18 = .ok (.iaload, 1) := by decide +kernel
theorem dX6_doOrder_19 : decode cX6_doOrder 19 = .ok (.istore_n 2, 1) := by decide +kernel
theorem dX6_doOrder_20 : decode cX6_doOrder 20 = .ok (.aload_n 0, 1) := by decide +kernel
theorem dX6_doOrder_21 : decode cX6_doOrder 21 = .ok (.getfield 51, 3) := by decide +kernel
theorem dX6_doOrder_24 : decode cX6_doOrder 24 = .ok (.getfield 225, 3) := by decide +kernel
theorem dX6_doOrder_27 : decode cX6_doOrder 27 = .ok (.tableswitch 205 98 120 #[143, 205, 205, 152, 105, 205, 205, 205, 205, 180, 121, 205, 205, 205, 205, 205, 205, 190, 171, 205, 205, 161, 196], 105) := by decide +kernel
theorem dX6_doOrder_132 : decode cX6_doOrder 132 = .ok (.aload_n 0, 1) := by decide +kernel
theorem dX6_doOrder_133 : decode cX6_doOrder 133 = .ok (.getfield 15, 3) := by decide +kernel
theorem dX6_doOrder_136 : decode cX6_doOrder 136 = .ok (.iload_n 1, 1) := by decide +kernel
theorem dX6_doOrder_137 : decode cX6_doOrder 137 = .ok (.aload_n 0, 1) := by decide +kernel
theorem dX6_doOrder_138 : decode cX6_doOrder 138 = .ok (.getfield 51, 3) := by decide +kernel
theorem dX6_doOrder_141 : decode cX6_doOrder 141 = .ok (.invokevirtual 228, 3) := by decide +kernel
theorem dX6_doOrder_144 : decode cX6_doOrder 144 = .ok (.invokevirtual 62, 3) := by decide +kernel
theorem dX6_doOrder_147 : decode cX6_doOrder 147 = .ok (.ireturn, 1) := by decide +kernel
theorem dX6_doOrder_148 : decode cX6_doOrder 148 = .ok (.aload_n 0, 1) := by decide +kernel
theorem dX6_doOrder_149 : decode cX6_doOrder 149 = .ok (.getfield 15, 3) := by decide +kernel
theorem dX6_doOrder_152 : decode cX6_doOrder 152 = .ok (.aload_n 0, 1) := by decide +kernel
theorem dX6_doOrder_153 : decode cX6_doOrder 153 = .ok (.getfield 51, 3) := by decide +kernel
theorem dX6_doOrder_156 : decode cX6_doOrder 156 = .ok (.getfield 231, 3) := by decide +kernel
theorem dX6_doOrder_159 : decode cX6_doOrder 159 = .ok (.aload_n 0, 1) := by decide +kernel
theorem dX6_doOrder_160 : decode cX6_doOrder 160 = .ok (.getfield 51, 3) := by decide +kernel
theorem dX6_doOrder_163 : decode cX6_doOrder 163 = .ok (.getfield 234, 3) := by decide +kernel
theorem dX6_doOrder_166 : decode cX6_doOrder 166 = .ok (.invokevirtual 237, 3) := by decide +kernel
theorem dX6_doOrder_169 : decode cX6_doOrder 169 = .ok (.ireturn, 1) := by decide +kernel
theorem dX6_doOrder_170 : decode cX6_doOrder 170 = .ok (.aload_n 0, 1) := by decide +kernel
theorem dX6_doOrder_171 : decode cX6_doOrder 171 = .ok (.getfield 15, 3) := by decide +kernel
theorem dX6_doOrder_174 : decode cX6_doOrder 174 = .ok (.iload_n 1, 1) := by decide +kernel
theorem dX6_doOrder_175 : decode cX6_doOrder 175 = .ok (.invokevirtual 73, 3) := by decide +kernel
theorem dX6_doOrder_178 : decode cX6_doOrder 178 = .ok (.ireturn, 1) := by decide +kernel
theorem dX6_doOrder_179 : decode cX6_doOrder 179 = .ok (.aload_n 0, 1) := by decide +kernel
theorem dX6_doOrder_180 : decode cX6_doOrder 180 = .ok (.getfield 15, 3) := by decide +kernel
theorem dX6_doOrder_183 : decode cX6_doOrder 183 = .ok (.iload_n 1, 1) := by decide +kernel
theorem dX6_doOrder_184 : decode cX6_doOrder 184 = .ok (.invokevirtual 76, 3) := by decide +kernel
theorem dX6_doOrder_187 : decode cX6_doOrder 187 = .ok (.ireturn, 1) := by decide +kernel
theorem dX6_doOrder_188 : decode cX6_doOrder 188 = .ok (.aload_n 0, 1) := by decide +kernel
theorem dX6_doOrder_189 : decode cX6_doOrder 189 = .ok (.getfield 15, 3) := by decide +kernel
theorem dX6_doOrder_192 : decode cX6_doOrder 192 = .ok (.iload_n 1, 1) := by decide +kernel
theorem dX6_doOrder_193 : decode cX6_doOrder 193 = .ok (.iload_n 2, 1) := by decide +kernel
theorem dX6_doOrder_194 : decode cX6_doOrder 194 = .ok (.invokevirtual 79, 3) := by decide +kernel
theorem dX6_doOrder_197 : decode cX6_doOrder 197 = .ok (.ireturn, 1) := by decide +kernel
theorem dX6_doOrder_198 : decode cX6_doOrder 198 = .ok (.aload_n 0, 1) := by decide +kernel
theorem dX6_doOrder_199 : decode cX6_doOrder 199 = .ok (.getfield 15, 3) := by decide +kernel
theorem dX6_doOrder_202 : decode cX6_doOrder 202 = .ok (.iload_n 1, 1) := by decide +kernel
theorem dX6_doOrder_203 : decode cX6_doOrder 203 = .ok (.invokevirtual 136, 3) := by decide +kernel
theorem dX6_doOrder_206 : decode cX6_doOrder 206 = .ok (.ireturn, 1) := by decide +kernel
theorem dX6_doOrder_207 : decode cX6_doOrder 207 = .ok (.aload_n 0, 1) := by decide +kernel
theorem dX6_doOrder_208 : decode cX6_doOrder 208 = .ok (.getfield 15, 3) := by decide +kernel
theorem dX6_doOrder_211 : decode cX6_doOrder 211 = .ok (.iload_n 1, 1) := by decide +kernel
theorem dX6_doOrder_212 : decode cX6_doOrder 212 = .ok (.iload_n 2, 1) := by decide +kernel
theorem dX6_doOrder_213 : decode cX6_doOrder 213 = .ok (.invokevirtual 139, 3) := by decide +kernel
theorem dX6_doOrder_216 : decode cX6_doOrder 216 = .ok (.ireturn, 1) := by decide +kernel
theorem dX6_doOrder_217 : decode cX6_doOrder 217 = .ok (.aload_n 0, 1) := by decide +kernel
theorem dX6_doOrder_218 : decode cX6_doOrder 218 = .ok (.iload_n 1, 1) := by decide +kernel
theorem dX6_doOrder_219 : decode cX6_doOrder 219 = .ok (.invokevirtual 127, 3) := by decide +kernel
theorem dX6_doOrder_222 : decode cX6_doOrder 222 = .ok (.ireturn, 1) := by decide +kernel
theorem dX6_doOrder_223 : decode cX6_doOrder 223 = .ok (.aload_n 0, 1) := by decide +kernel
theorem dX6_doOrder_224 : decode cX6_doOrder 224 = .ok (.getfield 15, 3) := by decide +kernel
theorem dX6_doOrder_227 : decode cX6_doOrder 227 = .ok (.iload_n 1, 1) := by decide +kernel
theorem dX6_doOrder_228 : decode cX6_doOrder 228 = .ok (.invokevirtual 70, 3) := by decide +kernel
theorem dX6_doOrder_231 : decode cX6_doOrder 231 = .ok (.ireturn, 1) := by decide +kernel
theorem dX6_doOrder_232 : decode cX6_doOrder 232 = .ok (.bipush (-2), 2) := by decide +kernel
theorem dX6_doOrder_234 : decode cX6_doOrder 234 = .ok (.ireturn, 1) := by decide +kernel
theorem dX6_factTold_0 : decode cX6_factTold 0 = .ok (.iload_n 1, 1) := by decide +kernel
theorem dX6_factTold_1 : decode cX6_factTold 1 = .ok (.iconst 0, 1) := by decide +kernel
theorem dX6_factTold_2 : decode cX6_factTold 2 = .ok (.aload_n 0, 1) := by decide +kernel
theorem dX6_factTold_3 : decode cX6_factTold 3 = .ok (.getfield 55, 3) := by decide +kernel
theorem dX6_factTold_6 : decode cX6_factTold 6 = .ok (.arraylength, 1) := by decide +kernel
theorem dX6_factTold_7 : decode cX6_factTold 7 = .ok (.iconst 1, 1) := by decide +kernel
theorem dX6_factTold_8 : decode cX6_factTold 8 = .ok (.isub, 1) := by decide +kernel
theorem dX6_factTold_9 : decode cX6_factTold 9 = .ok (.invokestatic 86, 3) := by decide +kernel
theorem dX6_factTold_12 : decode cX6_factTold 12 = .ok (.ifCond .eq 10, 3) := by decide +kernel
theorem dX6_factTold_15 : decode cX6_factTold 15 = .ok (.aload_n 0, 1) := by decide +kernel
theorem dX6_factTold_16 : decode cX6_factTold 16 = .ok (.getfield 55, 3) := by decide +kernel
theorem dX6_factTold_19 : decode cX6_factTold 19 = .ok (.iload_n 1, 1) := by decide +kernel
theorem dX6_factTold_20 : decode cX6_factTold 20 = .ok (.iaload, 1) := by decide +kernel
theorem dX6_factTold_21 : decode cX6_factTold 21 = .ok (.ireturn, 1) := by decide +kernel
theorem dX6_factTold_22 : decode cX6_factTold 22 = .ok (.iload_n 1, 1) := by decide +kernel
theorem dX6_factTold_23 : decode cX6_factTold 23 = .ok (.tableswitch 113 4 14 #[57, 65, 73, 81, 89, 97, 113, 113, 113, 113, 105], 57) := by decide +kernel
theorem dX6_factTold_80 : decode cX6_factTold 80 = .ok (.aload_n 0, 1) := by decide +kernel
theorem dX6_factTold_81 : decode cX6_factTold 81 = .ok (.getfield 51, 3) := by decide +kernel
theorem dX6_factTold_84 : decode cX6_factTold 84 = .ok (.getfield 241, 3) := by decide +kernel
theorem dX6_factTold_87 : decode cX6_factTold 87 = .ok (.ireturn, 1) := by decide +kernel
theorem dX6_factTold_88 : decode cX6_factTold 88 = .ok (.aload_n 0, 1) := by decide +kernel
theorem dX6_factTold_89 : decode cX6_factTold 89 = .ok (.getfield 15, 3) := by decide +kernel
theorem dX6_factTold_92 : decode cX6_factTold 92 = .ok (.getfield 244, 3) := by decide +kernel
theorem dX6_factTold_95 : decode cX6_factTold 95 = .ok (.ireturn, 1) := by decide +kernel
theorem dX6_factTold_96 : decode cX6_factTold 96 = .ok (.aload_n 0, 1) := by decide +kernel
theorem dX6_factTold_97 : decode cX6_factTold 97 = .ok (.getfield 15, 3) := by decide +kernel
theorem dX6_factTold_100 : decode cX6_factTold 100 = .ok (.getfield 247, 3) := by decide +kernel
theorem dX6_factTold_103 : decode cX6_factTold 103 = .ok (.ireturn, 1) := by decide +kernel
theorem dX6_factTold_104 : decode cX6_factTold 104 = .ok (.aload_n 0, 1) := by decide +kernel
theorem dX6_factTold_105 : decode cX6_factTold 105 = .ok (.getfield 15, 3) := by decide +kernel
theorem dX6_factTold_108 : decode cX6_factTold 108 = .ok (.getfield 250, 3) := by decide +kernel
theorem dX6_factTold_111 : decode cX6_factTold 111 = .ok (.ireturn, 1) := by decide +kernel
theorem dX6_factTold_112 : decode cX6_factTold 112 = .ok (.aload_n 0, 1) := by decide +kernel
theorem dX6_factTold_113 : decode cX6_factTold 113 = .ok (.getfield 15, 3) := by decide +kernel
theorem dX6_factTold_116 : decode cX6_factTold 116 = .ok (.getfield 253, 3) := by decide +kernel
theorem dX6_factTold_119 : decode cX6_factTold 119 = .ok (.ireturn, 1) := by decide +kernel
theorem dX6_factTold_120 : decode cX6_factTold 120 = .ok (.aload_n 0, 1) := by decide +kernel
theorem dX6_factTold_121 : decode cX6_factTold 121 = .ok (.getfield 15, 3) := by decide +kernel
theorem dX6_factTold_124 : decode cX6_factTold 124 = .ok (.getfield 256, 3) := by decide +kernel
theorem dX6_factTold_127 : decode cX6_factTold 127 = .ok (.ireturn, 1) := by decide +kernel
theorem dX6_factTold_128 : decode cX6_factTold 128 = .ok (.aload_n 0, 1) := by decide +kernel
theorem dX6_factTold_129 : decode cX6_factTold 129 = .ok (.getfield 44, 3) := by decide +kernel
theorem dX6_factTold_132 : decode cX6_factTold 132 = .ok (.getfield 192, 3) := by decide +kernel
theorem dX6_factTold_135 : decode cX6_factTold 135 = .ok (.ireturn, 1) := by decide +kernel
theorem dX6_factTold_136 : decode cX6_factTold 136 = .ok (.aload_n 0, 1) := by decide +kernel
theorem dX6_factTold_137 : decode cX6_factTold 137 = .ok (.getfield 15, 3) := by decide +kernel
theorem dX6_factTold_140 : decode cX6_factTold 140 = .ok (.iconst 1, 1) := by decide +kernel
theorem dX6_factTold_141 : decode cX6_factTold 141 = .ok (.iload_n 1, 1) := by decide +kernel
theorem dX6_factTold_142 : decode cX6_factTold 142 = .ok (.bipush 10, 2) := by decide +kernel
theorem dX6_factTold_144 : decode cX6_factTold 144 = .ok (.isub, 1) := by decide +kernel
theorem dX6_factTold_145 : decode cX6_factTold 145 = .ok (.invokevirtual 259, 3) := by decide +kernel
theorem dX6_factTold_148 : decode cX6_factTold 148 = .ok (.ireturn, 1) := by decide +kernel
