theorem dX0_init_0 : decode cX0_init 0 = .ok (.aload_n 0, 1) := by decide +kernel
theorem dX0_init_1 : decode cX0_init 1 = .ok (.invokespecial 3, 3) := by decide +kernel
theorem dX0_init_4 : decode cX0_init 4 = .ok (.aload_n 0, 1) := by decide +kernel
theorem dX0_init_5 : decode cX0_init 5 = .ok (.sipush 492, 3) := by decide +kernel
theorem dX0_init_8 : decode cX0_init 8 = .ok (.newarray .int, 2) := by decide +kernel
theorem dX0_init_10 : decode cX0_init 10 = .ok (.putfield 9, 3) := by decide +kernel
theorem dX0_init_13 : decode cX0_init 13 = .ok (.aload_n 0, 1) := by decide +kernel
theorem dX0_init_14 : decode cX0_init 14 = .ok (.bipush 7, 2) := by decide +kernel
theorem dX0_init_16 : decode cX0_init 16 = .ok (.newarray .int, 2) := by decide +kernel
theorem dX0_init_18 : decode cX0_init 18 = .ok (.putfield 15, 3) := by decide +kernel
theorem dX0_init_21 : decode cX0_init 21 = .ok (.aload_n 0, 1) := by decide +kernel
theorem dX0_init_22 : decode cX0_init 22 = .ok (.aload_n 1, 1) := by decide +kernel
theorem dX0_init_23 : decode cX0_init 23 = .ok (.putfield 18, 3) := by decide +kernel
theorem dX0_init_26 : decode cX0_init 26 = .ok (.return_, 1) := by decide +kernel
theorem dX0_landingOf_0 : decode cX0_landingOf 0 = .ok (.iload_n 1, 1) := by decide +kernel
theorem dX0_landingOf_1 : decode cX0_landingOf 1 = .ok (.bipush 12, 2) := by decide +kernel
theorem dX0_landingOf_3 : decode cX0_landingOf 3 = .ok (.imul, 1) := by decide +kernel
theorem dX0_landingOf_4 : decode cX0_landingOf 4 = .ok (.iload_n 2, 1) := by decide +kernel
theorem dX0_landingOf_5 : decode cX0_landingOf 5 = .ok (.iadd, 1) := by decide +kernel
theorem dX0_landingOf_6 : decode cX0_landingOf 6 = .ok (.istore_n 3, 1) := by decide +kernel
theorem dX0_landingOf_7 : decode cX0_landingOf 7 = .ok (.iload_n 3, 1) := by decide +kernel
theorem dX0_landingOf_8 : decode cX0_landingOf 8 = .ok (.ifCond .lt 21, 3) := by decide +kernel
theorem dX0_landingOf_11 : decode cX0_landingOf 11 = .ok (.iload_n 3, 1) := by decide +kernel
theorem dX0_landingOf_12 : decode cX0_landingOf 12 = .ok (.aload_n 0, 1) := by decide +kernel
theorem dX0_landingOf_13 : decode cX0_landingOf 13 = .ok (.getfield 9, 3) := by decide +kernel
theorem dX0_landingOf_16 : decode cX0_landingOf 16 = .ok (.arraylength, 1) := by decide +kernel
theorem dX0_landingOf_17 : decode cX0_landingOf 17 = .ok (.if_icmp .ge 12, 3) := by decide +kernel
theorem dX0_landingOf_20 : decode cX0_landingOf 20 = .ok (.aload_n 0, 1) := by decide +kernel
theorem dX0_landingOf_21 : decode cX0_landingOf 21 = .ok (.getfield 9, 3) := by decide +kernel
theorem dX0_landingOf_24 : decode cX0_landingOf 24 = .ok (.iload_n 3, 1) := by decide +kernel
theorem dX0_landingOf_25 : decode cX0_landingOf 25 = .ok (.iaload, 1) := by decide +kernel
theorem dX0_landingOf_26 : decode cX0_landingOf 26 = .ok (.goto 4, 3) := by decide +kernel
theorem dX0_landingOf_29 : decode cX0_landingOf 29 = .ok (.iconst 0, 1) := by decide +kernel
theorem dX0_landingOf_30 : decode cX0_landingOf 30 = .ok (.ireturn, 1) := by decide +kernel
theorem dX0_layLine_0 : decode cX0_layLine 0 = .ok (.aload_n 0, 1) := by decide +kernel
theorem dX0_layLine_1 : decode cX0_layLine 1 = .ok (.aload_n 0, 1) := by decide +kernel
theorem dX0_layLine_2 : decode cX0_layLine 2 = .ok (.getfield 18, 3) := by decide +kernel
theorem dX0_layLine_5 : decode cX0_layLine 5 = .ok (.getfield 22, 3) := by decide +kernel
theorem dX0_layLine_8 : decode cX0_layLine 8 = .ok (.putfield 28, 3) := by decide +kernel
theorem dX0_layLine_11 : decode cX0_layLine 11 = .ok (.iconst 0, 1) := by decide +kernel
theorem dX0_layLine_12 : decode cX0_layLine 12 = .ok (.istore_n 1, 1) := by decide +kernel
theorem dX0_layLine_13 : decode cX0_layLine 13 = .ok (.iload_n 1, 1) := by decide +kernel
theorem dX0_layLine_14 : decode cX0_layLine 14 = .ok (.aload_n 0, 1) := by decide +kernel
theorem dX0_layLine_15 : decode cX0_layLine 15 = .ok (.getfield 28, 3) := by decide +kernel
theorem dX0_layLine_18 : decode cX0_layLine 18 = .ok (.if_icmp .ge 91, 3) := by decide +kernel
theorem dX0_layLine_21 : decode cX0_layLine 21 = .ok (.aload_n 0, 1) := by decide +kernel
theorem dX0_layLine_22 : decode cX0_layLine 22 = .ok (.iload_n 1, 1) := by decide +kernel
theorem dX0_layLine_23 : decode cX0_layLine 23 = .ok (.invokevirtual 31, 3) := by decide +kernel
theorem dX0_layLine_26 : decode cX0_layLine 26 = .ok (.iconst 0, 1) := by decide +kernel
theorem dX0_layLine_27 : decode cX0_layLine 27 = .ok (.istore_n 2, 1) := by decide +kernel
theorem dX0_layLine_28 : decode cX0_layLine 28 = .ok (.iload_n 2, 1) := by decide +kernel
theorem dX0_layLine_29 : decode cX0_layLine 29 = .ok (.aload_n 0, 1) := by decide +kernel
theorem dX0_layLine_30 : decode cX0_layLine 30 = .ok (.getfield 18, 3) := by decide +kernel
theorem dX0_layLine_33 : decode cX0_layLine 33 = .ok (.getfield 35, 3) := by decide +kernel
theorem dX0_layLine_36 : decode cX0_layLine 36 = .ok (.if_icmp .ge 67, 3) := by decide +kernel
theorem dX0_layLine_39 : decode cX0_layLine 39 = .ok (.aload_n 0, 1) := by decide +kernel
theorem dX0_layLine_40 : decode cX0_layLine 40 = .ok (.getfield 18, 3) := by decide +kernel
theorem dX0_layLine_43 : decode cX0_layLine 43 = .ok (.getfield 38, 3) := by decide +kernel
theorem dX0_layLine_46 : decode cX0_layLine 46 = .ok (.iload_n 2, 1) := by decide +kernel
theorem dX0_layLine_47 : decode cX0_layLine 47 = .ok (.iaload, 1) := by decide +kernel
theorem dX0_layLine_48 : decode cX0_layLine 48 = .ok (.istore_n 3, 1) := by decide +kernel
theorem dX0_layLine_49 : decode cX0_layLine 49 = .ok (.aload_n 0, 1) := by decide +kernel
theorem dX0_layLine_50 : decode cX0_layLine 50 = .ok (.getfield 15, 3) := by decide +kernel
theorem dX0_layLine_53 : decode cX0_layLine 53 = .ok (.iload_n 3, 1) := by decide +kernel
theorem dX0_layLine_54 : decode cX0_layLine 54 = .ok (.iaload, 1) := by decide +kernel
theorem dX0_layLine_55 : decode cX0_layLine 55 = .ok (.aload_n 0, 1) := by decide +kernel
theorem dX0_layLine_56 : decode cX0_layLine 56 = .ok (.getfield 18, 3) := by decide +kernel
theorem dX0_layLine_59 : decode cX0_layLine 59 = .ok (.getfield 41, 3) := by decide +kernel
theorem dX0_layLine_62 : decode cX0_layLine 62 = .ok (.iload_n 2, 1) := by decide +kernel
theorem dX0_layLine_63 : decode cX0_layLine 63 = .ok (.iaload, 1) := by decide +kernel
theorem dX0_layLine_64 : decode cX0_layLine 64 = .ok (.if_icmp .ne 7, 3) := by decide +kernel
theorem dX0_layLine_67 : decode cX0_layLine 67 = .ok (.iconst 1, 1) := by decide +kernel
theorem dX0_layLine_68 : decode cX0_layLine 68 = .ok (.goto 4, 3) := by decide +kernel
theorem dX0_layLine_71 : decode cX0_layLine 71 = .ok (.iconst 0, 1) := by decide +kernel
theorem dX0_layLine_72 : decode cX0_layLine 72 = .ok (.istore 4, 2) := by decide +kernel
theorem dX0_layLine_74 : decode cX0_layLine 74 = .ok (.aload_n 0, 1) := by decide +kernel
theorem dX0_layLine_75 : decode cX0_layLine 75 = .ok (.getfield 9, 3) := by decide +kernel
theorem dX0_layLine_78 : decode cX0_layLine 78 = .ok (.iload_n 1, 1) := by decide +kernel
theorem dX0_layLine_79 : decode cX0_layLine 79 = .ok (.bipush 12, 2) := by decide +kernel
theorem dX0_layLine_81 : decode cX0_layLine 81 = .ok (.imul, 1) := by decide +kernel
theorem dX0_layLine_82 : decode cX0_layLine 82 = .ok (.iload_n 2, 1) := by decide +kernel
theorem dX0_layLine_83 : decode cX0_layLine 83 = .ok (.iadd, 1) := by decide +kernel
theorem dX0_layLine_84 : decode cX0_layLine 84 = .ok (.iload 4, 2) := by decide +kernel
theorem dX0_layLine_86 : decode cX0_layLine 86 = .ok (.ifCond .eq 9, 3) := by decide +kernel
theorem dX0_layLine_89 : decode cX0_layLine 89 = .ok (.iload_n 1, 1) := by decide +kernel
theorem dX0_layLine_90 : decode cX0_layLine 90 = .ok (.iload_n 3, 1) := by decide +kernel
theorem dX0_layLine_91 : decode cX0_layLine 91 = .ok (.iadd, 1) := by decide +kernel
theorem dX0_layLine_92 : decode cX0_layLine 92 = .ok (.goto 4, 3) := by decide +kernel
theorem dX0_layLine_95 : decode cX0_layLine 95 = .ok (.iconst 0, 1) := by decide +kernel
theorem dX0_layLine_96 : decode cX0_layLine 96 = .ok (.iastore, 1) := by decide +kernel
theorem dX0_layLine_97 : decode cX0_layLine 97 = .ok (.iinc 2 1, 3) := by decide +kernel
theorem dX0_layLine_100 : decode cX0_layLine 100 = .ok (.goto (-72), 3) := by decide +kernel
theorem dX0_layLine_103 : decode cX0_layLine 103 = .ok (.iinc 1 1, 3) := by decide +kernel
theorem dX0_layLine_106 : decode cX0_layLine 106 = .ok (.goto (-93), 3) := by decide +kernel
theorem dX0_layLine_109 : decode cX0_layLine 109 = .ok (.return_, 1) := by decide +kernel
theorem dX0_cutPieces_0 : decode cX0_cutPieces 0 = .ok (.iconst 0, 1) := by decide +kernel
theorem dX0_cutPieces_1 : decode cX0_cutPieces 1 = .ok (.istore_n 2, 1) := by decide +kernel
theorem dX0_cutPieces_2 : decode cX0_cutPieces 2 = .ok (.iconst 1, 1) := by decide +kernel
theorem dX0_cutPieces_3 : decode cX0_cutPieces 3 = .ok (.istore_n 3, 1) := by decide +kernel
theorem dX0_cutPieces_4 : decode cX0_cutPieces 4 = .ok (.iload_n 3, 1) := by decide +kernel
theorem dX0_cutPieces_5 : decode cX0_cutPieces 5 = .ok (.bipush 6, 2) := by decide +kernel
theorem dX0_cutPieces_7 : decode cX0_cutPieces 7 = .ok (.if_icmp .gt 52, 3) := by decide +kernel
theorem dX0_cutPieces_10 : decode cX0_cutPieces 10 = .ok (.iload_n 1, 1) := by decide +kernel
theorem dX0_cutPieces_11 : decode cX0_cutPieces 11 = .ok (.iload_n 3, 1) := by decide +kernel
theorem dX0_cutPieces_12 : decode cX0_cutPieces 12 = .ok (.iadd, 1) := by decide +kernel
theorem dX0_cutPieces_13 : decode cX0_cutPieces 13 = .ok (.iconst 1, 1) := by decide +kernel
theorem dX0_cutPieces_14 : decode cX0_cutPieces 14 = .ok (.isub, 1) := by decide +kernel
theorem dX0_cutPieces_15 : decode cX0_cutPieces 15 = .ok (.istore 4, 2) := by decide +kernel
theorem dX0_cutPieces_17 : decode cX0_cutPieces 17 = .ok (.iload 4, 2) := by decide +kernel
theorem dX0_cutPieces_19 : decode cX0_cutPieces 19 = .ok (.aload_n 0, 1) := by decide +kernel
theorem dX0_cutPieces_20 : decode cX0_cutPieces 20 = .ok (.getfield 28, 3) := by decide +kernel
theorem dX0_cutPieces_23 : decode cX0_cutPieces 23 = .ok (.if_icmp .ge 21, 3) := by decide +kernel
theorem dX0_cutPieces_26 : decode cX0_cutPieces 26 = .ok (.iload_n 2, 1) := by decide +kernel
theorem dX0_cutPieces_27 : decode cX0_cutPieces 27 = .ok (.bipush 10, 2) := by decide +kernel
theorem dX0_cutPieces_29 : decode cX0_cutPieces 29 = .ok (.imul, 1) := by decide +kernel
theorem dX0_cutPieces_30 : decode cX0_cutPieces 30 = .ok (.aload_n 0, 1) := by decide +kernel
theorem dX0_cutPieces_31 : decode cX0_cutPieces 31 = .ok (.getfield 18, 3) := by decide +kernel
theorem dX0_cutPieces_34 : decode cX0_cutPieces 34 = .ok (.getfield 44, 3) := by decide +kernel
theorem dX0_cutPieces_37 : decode cX0_cutPieces 37 = .ok (.iload 4, 2) := by decide +kernel
theorem dX0_cutPieces_39 : decode cX0_cutPieces 39 = .ok (.iaload, 1) := by decide +kernel
theorem dX0_cutPieces_40 : decode cX0_cutPieces 40 = .ok (.iadd, 1) := by decide +kernel
theorem dX0_cutPieces_41 : decode cX0_cutPieces 41 = .ok (.goto 4, 3) := by decide +kernel
theorem dX0_cutPieces_44 : decode cX0_cutPieces 44 = .ok (.iconst 0, 1) := by decide +kernel
theorem dX0_cutPieces_45 : decode cX0_cutPieces 45 = .ok (.istore_n 2, 1) := by decide +kernel
theorem dX0_cutPieces_46 : decode cX0_cutPieces 46 = .ok (.aload_n 0, 1) := by decide +kernel
theorem dX0_cutPieces_47 : decode cX0_cutPieces 47 = .ok (.getfield 15, 3) := by decide +kernel
theorem dX0_cutPieces_50 : decode cX0_cutPieces 50 = .ok (.iload_n 3, 1) := by decide +kernel
theorem dX0_cutPieces_51 : decode cX0_cutPieces 51 = .ok (.iload_n 2, 1) := by decide +kernel
theorem dX0_cutPieces_52 : decode cX0_cutPieces 52 = .ok (.iastore, 1) := by decide +kernel
theorem dX0_cutPieces_53 : decode cX0_cutPieces 53 = .ok (.iinc 3 1, 3) := by decide +kernel
theorem dX0_cutPieces_56 : decode cX0_cutPieces 56 = .ok (.goto (-52), 3) := by decide +kernel
theorem dX0_cutPieces_59 : decode cX0_cutPieces 59 = .ok (.return_, 1) := by decide +kernel
theorem dX0_layMetre_0 : decode cX0_layMetre 0 = .ok (.aload_n 0, 1) := by decide +kernel
theorem dX0_layMetre_1 : decode cX0_layMetre 1 = .ok (.aload_n 0, 1) := by decide +kernel
theorem dX0_layMetre_2 : decode cX0_layMetre 2 = .ok (.getfield 18, 3) := by decide +kernel
theorem dX0_layMetre_5 : decode cX0_layMetre 5 = .ok (.getfield 47, 3) := by decide +kernel
theorem dX0_layMetre_8 : decode cX0_layMetre 8 = .ok (.putfield 28, 3) := by decide +kernel
theorem dX0_layMetre_11 : decode cX0_layMetre 11 = .ok (.aload_n 0, 1) := by decide +kernel
theorem dX0_layMetre_12 : decode cX0_layMetre 12 = .ok (.getfield 28, 3) := by decide +kernel
theorem dX0_layMetre_15 : decode cX0_layMetre 15 = .ok (.istore_n 1, 1) := by decide +kernel
theorem dX0_layMetre_16 : decode cX0_layMetre 16 = .ok (.aload_n 0, 1) := by decide +kernel
theorem dX0_layMetre_17 : decode cX0_layMetre 17 = .ok (.getfield 28, 3) := by decide +kernel
theorem dX0_layMetre_20 : decode cX0_layMetre 20 = .ok (.iconst 1, 1) := by decide +kernel
theorem dX0_layMetre_21 : decode cX0_layMetre 21 = .ok (.isub, 1) := by decide +kernel
theorem dX0_layMetre_22 : decode cX0_layMetre 22 = .ok (.istore_n 2, 1) := by decide +kernel
theorem dX0_layMetre_23 : decode cX0_layMetre 23 = .ok (.iload_n 2, 1) := by decide +kernel
theorem dX0_layMetre_24 : decode cX0_layMetre 24 = .ok (.ifCond .lt 120, 3) := by decide +kernel
theorem dX0_layMetre_27 : decode cX0_layMetre 27 = .ok (.iload_n 2, 1) := by decide +kernel
theorem dX0_layMetre_28 : decode cX0_layMetre 28 = .ok (.iconst 1, 1) := by decide +kernel
theorem dX0_layMetre_29 : decode cX0_layMetre 29 = .ok (.iadd, 1) := by decide +kernel
theorem dX0_layMetre_30 : decode cX0_layMetre 30 = .ok (.aload_n 0, 1) := by decide +kernel
theorem dX0_layMetre_31 : decode cX0_layMetre 31 = .ok (.getfield 28, 3) := by decide +kernel
theorem dX0_layMetre_34 : decode cX0_layMetre 34 = .ok (.if_icmp .ge 22, 3) := by decide +kernel
theorem dX0_layMetre_37 : decode cX0_layMetre 37 = .ok (.aload_n 0, 1) := by decide +kernel
theorem dX0_layMetre_38 : decode cX0_layMetre 38 = .ok (.getfield 18, 3) := by decide +kernel
theorem dX0_layMetre_41 : decode cX0_layMetre 41 = .ok (.getfield 50, 3) := by decide +kernel
theorem dX0_layMetre_44 : decode cX0_layMetre 44 = .ok (.iload_n 2, 1) := by decide +kernel
theorem dX0_layMetre_45 : decode cX0_layMetre 45 = .ok (.iconst 1, 1) := by decide +kernel
theorem dX0_layMetre_46 : decode cX0_layMetre 46 = .ok (.iadd, 1) := by decide +kernel
theorem dX0_layMetre_47 : decode cX0_layMetre 47 = .ok (.iaload, 1) := by decide +kernel
theorem dX0_layMetre_48 : decode cX0_layMetre 48 = .ok (.iconst 1, 1) := by decide +kernel
theorem dX0_layMetre_49 : decode cX0_layMetre 49 = .ok (.if_icmp .ne 7, 3) := by decide +kernel
theorem dX0_layMetre_52 : decode cX0_layMetre 52 = .ok (.iload_n 2, 1) := by decide +kernel
theorem dX0_layMetre_53 : decode cX0_layMetre 53 = .ok (.iconst 1, 1) := by decide +kernel
theorem dX0_layMetre_54 : decode cX0_layMetre 54 = .ok (.iadd, 1) := by decide +kernel
theorem dX0_layMetre_55 : decode cX0_layMetre 55 = .ok (.istore_n 1, 1) := by decide +kernel
theorem dX0_layMetre_56 : decode cX0_layMetre 56 = .ok (.aload_n 0, 1) := by decide +kernel
theorem dX0_layMetre_57 : decode cX0_layMetre 57 = .ok (.getfield 18, 3) := by decide +kernel
theorem dX0_layMetre_60 : decode cX0_layMetre 60 = .ok (.getfield 50, 3) := by decide +kernel
theorem dX0_layMetre_63 : decode cX0_layMetre 63 = .ok (.iload_n 2, 1) := by decide +kernel
theorem dX0_layMetre_64 : decode cX0_layMetre 64 = .ok (.iaload, 1) := by decide +kernel
theorem dX0_layMetre_65 : decode cX0_layMetre 65 = .ok (.iconst 2, 1) := by decide +kernel
theorem dX0_layMetre_66 : decode cX0_layMetre 66 = .ok (.if_icmp .ne 7, 3) := by decide +kernel
theorem dX0_layMetre_69 : decode cX0_layMetre 69 = .ok (.iconst 1, 1) := by decide +kernel
theorem dX0_layMetre_70 : decode cX0_layMetre 70 = .ok (.goto 4, 3) := by decide +kernel
theorem dX0_layMetre_73 : decode cX0_layMetre 73 = .ok (.iconst 0, 1) := by decide +kernel
theorem dX0_layMetre_74 : decode cX0_layMetre 74 = .ok (.istore_n 3, 1) := by decide +kernel
theorem dX0_layMetre_75 : decode cX0_layMetre 75 = .ok (.iconst 0, 1) := by decide +kernel
theorem dX0_layMetre_76 : decode cX0_layMetre 76 = .ok (.istore 4, 2) := by decide +kernel
theorem dX0_layMetre_78 : decode cX0_layMetre 78 = .ok (.iload 4, 2) := by decide +kernel
theorem dX0_layMetre_80 : decode cX0_layMetre 80 = .ok (.aload_n 0, 1) := by decide +kernel
theorem dX0_layMetre_81 : decode cX0_layMetre 81 = .ok (.getfield 18, 3) := by decide +kernel
theorem dX0_layMetre_84 : decode cX0_layMetre 84 = .ok (.getfield 35, 3) := by decide +kernel
theorem dX0_layMetre_87 : decode cX0_layMetre 87 = .ok (.if_icmp .ge 51, 3) := by decide +kernel
theorem dX0_layMetre_90 : decode cX0_layMetre 90 = .ok (.iload_n 2, 1) := by decide +kernel
theorem dX0_layMetre_91 : decode cX0_layMetre 91 = .ok (.aload_n 0, 1) := by decide +kernel
theorem dX0_layMetre_92 : decode cX0_layMetre 92 = .ok (.getfield 18, 3) := by decide +kernel
theorem dX0_layMetre_95 : decode cX0_layMetre 95 = .ok (.getfield 53, 3) := by decide +kernel
theorem dX0_layMetre_98 : decode cX0_layMetre 98 = .ok (.iload 4, 2) := by decide +kernel
theorem dX0_layMetre_100 : decode cX0_layMetre 100 = .ok (.iaload, 1) := by decide +kernel
theorem dX0_layMetre_101 : decode cX0_layMetre 101 = .ok (.iadd, 1) := by decide +kernel
theorem dX0_layMetre_102 : decode cX0_layMetre 102 = .ok (.istore 5, 2) := by decide +kernel
theorem dX0_layMetre_104 : decode cX0_layMetre 104 = .ok (.aload_n 0, 1) := by decide +kernel
theorem dX0_layMetre_105 : decode cX0_layMetre 105 = .ok (.getfield 9, 3) := by decide +kernel
theorem dX0_layMetre_108 : decode cX0_layMetre 108 = .ok (.iload_n 2, 1) := by decide +kernel
theorem dX0_layMetre_109 : decode cX0_layMetre 109 = .ok (.bipush 12, 2) := by decide +kernel
theorem dX0_layMetre_111 : decode cX0_layMetre 111 = .ok (.imul, 1) := by decide +kernel
theorem dX0_layMetre_112 : decode cX0_layMetre 112 = .ok (.iload 4, 2) := by decide +kernel
theorem dX0_layMetre_114 : decode cX0_layMetre 114 = .ok (.iadd, 1) := by decide +kernel
theorem dX0_layMetre_115 : decode cX0_layMetre 115 = .ok (.iload_n 3, 1) := by decide +kernel
theorem dX0_layMetre_116 : decode cX0_layMetre 116 = .ok (.ifCond .ne 9, 3) := by decide +kernel
theorem dX0_layMetre_119 : decode cX0_layMetre 119 = .ok (.iload 5, 2) := by decide +kernel
theorem dX0_layMetre_121 : decode cX0_layMetre 121 = .ok (.iload_n 1, 1) := by decide +kernel
theorem dX0_layMetre_122 : decode cX0_layMetre 122 = .ok (.if_icmp .le 7, 3) := by decide +kernel
theorem dX0_layMetre_125 : decode cX0_layMetre 125 = .ok (.iconst 0, 1) := by decide +kernel
theorem dX0_layMetre_126 : decode cX0_layMetre 126 = .ok (.goto 5, 3) := by decide +kernel
theorem dX0_layMetre_129 : decode cX0_layMetre 129 = .ok (.iload 5, 2) := by decide +kernel
theorem dX0_layMetre_131 : decode cX0_layMetre 131 = .ok (.iastore, 1) := by decide +kernel
theorem dX0_layMetre_132 : decode cX0_layMetre 132 = .ok (.iinc 4 1, 3) := by decide +kernel
theorem dX0_layMetre_135 : decode cX0_layMetre 135 = .ok (.goto (-57), 3) := by decide +kernel
theorem dX0_layMetre_138 : decode cX0_layMetre 138 = .ok (.iinc 2 (-1), 3) := by decide +kernel
theorem dX0_layMetre_141 : decode cX0_layMetre 141 = .ok (.goto (-118), 3) := by decide +kernel
theorem dX0_layMetre_144 : decode cX0_layMetre 144 = .ok (.return_, 1) := by decide +kernel
theorem dX1_init_0 : decode cX1_init 0 = .ok (.aload_n 0, 1) := by decide +kernel
theorem dX1_init_1 : decode cX1_init 1 = .ok (.invokespecial 3, 3) := by decide +kernel
theorem dX1_init_4 : decode cX1_init 4 = .ok (.aload_n 0, 1) := by decide +kernel
theorem dX1_init_5 : decode cX1_init 5 = .ok (.sipush 164, 3) := by decide +kernel
theorem dX1_init_8 : decode cX1_init 8 = .ok (.newarray .int, 2) := by decide +kernel
theorem dX1_init_10 : decode cX1_init 10 = .ok (.putfield 9, 3) := by decide +kernel
theorem dX1_init_13 : decode cX1_init 13 = .ok (.aload_n 0, 1) := by decide +kernel
theorem dX1_init_14 : decode cX1_init 14 = .ok (.sipush 164, 3) := by decide +kernel
theorem dX1_init_17 : decode cX1_init 17 = .ok (.newarray .int, 2) := by decide +kernel
theorem dX1_init_19 : decode cX1_init 19 = .ok (.putfield 15, 3) := by decide +kernel
theorem dX1_init_22 : decode cX1_init 22 = .ok (.aload_n 0, 1) := by decide +kernel
theorem dX1_init_23 : decode cX1_init 23 = .ok (.sipush 164, 3) := by decide +kernel
theorem dX1_init_26 : decode cX1_init 26 = .ok (.newarray .int, 2) := by decide +kernel
theorem dX1_init_28 : decode cX1_init 28 = .ok (.putfield 18, 3) := by decide +kernel
theorem dX1_init_31 : decode cX1_init 31 = .ok (.aload_n 0, 1) := by decide +kernel
theorem dX1_init_32 : decode cX1_init 32 = .ok (.bipush 40, 2) := by decide +kernel
theorem dX1_init_34 : decode cX1_init 34 = .ok (.newarray .int, 2) := by decide +kernel
theorem dX1_init_36 : decode cX1_init 36 = .ok (.putfield 21, 3) := by decide +kernel
theorem dX1_init_39 : decode cX1_init 39 = .ok (.aload_n 0, 1) := by decide +kernel
theorem dX1_init_40 : decode cX1_init 40 = .ok (.aload_n 1, 1) := by decide +kernel
theorem dX1_init_41 : decode cX1_init 41 = .ok (.putfield 24, 3) := by decide +kernel
theorem dX1_init_44 : decode cX1_init 44 = .ok (.aload_n 0, 1) := by decide +kernel
theorem dX1_init_45 : decode cX1_init 45 = .ok (.aload_n 2, 1) := by decide +kernel
theorem dX1_init_46 : decode cX1_init 46 = .ok (.putfield 28, 3) := by decide +kernel
theorem dX1_init_49 : decode cX1_init 49 = .ok (.return_, 1) := by decide +kernel
theorem dX1_findBest_0 : decode cX1_findBest 0 = .ok (.aload_n 0, 1) := by decide +kernel
theorem dX1_findBest_1 : decode cX1_findBest 1 = .ok (.iload_n 1, 1) := by decide +kernel
theorem dX1_findBest_2 : decode cX1_findBest 2 = .ok (.putfield 32, 3) := by decide +kernel
theorem dX1_findBest_5 : decode cX1_findBest 5 = .ok (.aload_n 0, 1) := by decide +kernel
theorem dX1_findBest_6 : decode cX1_findBest 6 = .ok (.iconst 0, 1) := by decide +kernel
theorem dX1_findBest_7 : decode cX1_findBest 7 = .ok (.putfield 36, 3) := by decide +kernel
theorem dX1_findBest_10 : decode cX1_findBest 10 = .ok (.aload_n 0, 1) := by decide +kernel
theorem dX1_findBest_11 : decode cX1_findBest 11 = .ok (.getfield 28, 3) := by decide +kernel
theorem dX1_findBest_14 : decode cX1_findBest 14 = .ok (.invokevirtual 39, 3) := by decide +kernel
theorem dX1_findBest_17 : decode cX1_findBest 17 = .ok (.aload_n 0, 1) := by decide +kernel
theorem dX1_findBest_18 : decode cX1_findBest 18 = .ok (.getfield 28, 3) := by decide +kernel
theorem dX1_findBest_21 : decode cX1_findBest 21 = .ok (.getfield 44, 3) := by decide +kernel
theorem dX1_findBest_24 : decode cX1_findBest 24 = .ok (.iconst 1, 1) := by decide +kernel
theorem dX1_findBest_25 : decode cX1_findBest 25 = .ok (.if_icmp .ge 5, 3) := by decide +kernel
theorem dX1_findBest_28 : decode cX1_findBest 28 = .ok (.iconst 0, 1) := by decide +kernel
theorem dX1_findBest_29 : decode cX1_findBest 29 = .ok (.ireturn, 1) := by decide +kernel
theorem dX1_findBest_30 : decode cX1_findBest 30 = .ok (.iconst 0, 1) := by decide +kernel
theorem dX1_findBest_31 : decode cX1_findBest 31 = .ok (.istore_n 2, 1) := by decide +kernel
theorem dX1_findBest_32 : decode cX1_findBest 32 = .ok (.iload_n 2, 1) := by decide +kernel
theorem dX1_findBest_33 : decode cX1_findBest 33 = .ok (.iconst 4, 1) := by decide +kernel
theorem dX1_findBest_34 : decode cX1_findBest 34 = .ok (.if_icmp .ge 61, 3) := by decide +kernel
theorem dX1_findBest_37 : decode cX1_findBest 37 = .ok (.aload_n 0, 1) := by decide +kernel
theorem dX1_findBest_38 : decode cX1_findBest 38 = .ok (.getfield 9, 3) := by decide +kernel
theorem dX1_findBest_41 : decode cX1_findBest 41 = .ok (.aload_n 0, 1) := by decide +kernel
theorem dX1_findBest_42 : decode cX1_findBest 42 = .ok (.getfield 28, 3) := by decide +kernel
theorem dX1_findBest_45 : decode cX1_findBest 45 = .ok (.getfield 44, 3) := by decide +kernel
theorem dX1_findBest_48 : decode cX1_findBest 48 = .ok (.iconst 4, 1) := by decide +kernel
theorem dX1_findBest_49 : decode cX1_findBest 49 = .ok (.imul, 1) := by decide +kernel
theorem dX1_findBest_50 : decode cX1_findBest 50 = .ok (.iload_n 2, 1) := by decide +kernel
theorem dX1_findBest_51 : decode cX1_findBest 51 = .ok (.iadd, 1) := by decide +kernel
theorem dX1_findBest_52 : decode cX1_findBest 52 = .ok (.iconst 0, 1) := by decide +kernel
theorem dX1_findBest_53 : decode cX1_findBest 53 = .ok (.iastore, 1) := by decide +kernel
theorem dX1_findBest_54 : decode cX1_findBest 54 = .ok (.aload_n 0, 1) := by decide +kernel
theorem dX1_findBest_55 : decode cX1_findBest 55 = .ok (.getfield 15, 3) := by decide +kernel
theorem dX1_findBest_58 : decode cX1_findBest 58 = .ok (.aload_n 0, 1) := by decide +kernel
theorem dX1_findBest_59 : decode cX1_findBest 59 = .ok (.getfield 28, 3) := by decide +kernel
theorem dX1_findBest_62 : decode cX1_findBest 62 = .ok (.getfield 44, 3) := by decide +kernel
theorem dX1_findBest_65 : decode cX1_findBest 65 = .ok (.iconst 4, 1) := by decide +kernel
theorem dX1_findBest_66 : decode cX1_findBest 66 = .ok (.imul, 1) := by decide +kernel
theorem dX1_findBest_67 : decode cX1_findBest 67 = .ok (.iload_n 2, 1) := by decide +kernel
theorem dX1_findBest_68 : decode cX1_findBest 68 = .ok (.iadd, 1) := by decide +kernel
theorem dX1_findBest_69 : decode cX1_findBest 69 = .ok (.aload_n 0, 1) := by decide +kernel
theorem dX1_findBest_70 : decode cX1_findBest 70 = .ok (.getfield 24, 3) := by decide +kernel
theorem dX1_findBest_73 : decode cX1_findBest 73 = .ok (.getfield 47, 3) := by decide +kernel
theorem dX1_findBest_76 : decode cX1_findBest 76 = .ok (.iload_n 2, 1) := by decide +kernel
theorem dX1_findBest_77 : decode cX1_findBest 77 = .ok (.invokestatic 52, 3) := by decide +kernel
theorem dX1_findBest_80 : decode cX1_findBest 80 = .ok (.ifCond .eq 7, 3) := by decide +kernel
theorem dX1_findBest_83 : decode cX1_findBest 83 = .ok (.iconst 0, 1) := by decide +kernel
theorem dX1_findBest_84 : decode cX1_findBest 84 = .ok (.goto 4, 3) := by decide +kernel
theorem dX1_findBest_87 : decode cX1_findBest 87 = .ok (.iconst (-1), 1) := by decide +kernel
theorem dX1_findBest_88 : decode cX1_findBest 88 = .ok (.iastore, 1) := by decide +kernel
theorem dX1_findBest_89 : decode cX1_findBest 89 = .ok (.iinc 2 1, 3) := by decide +kernel
theorem dX1_findBest_92 : decode cX1_findBest 92 = .ok (.goto (-60), 3) := by decide +kernel
theorem dX1_findBest_95 : decode cX1_findBest 95 = .ok (.aload_n 0, 1) := by decide +kernel
theorem dX1_findBest_96 : decode cX1_findBest 96 = .ok (.getfield 28, 3) := by decide +kernel
theorem dX1_findBest_99 : decode cX1_findBest 99 = .ok (.getfield 44, 3) := by decide +kernel
theorem dX1_findBest_102 : decode cX1_findBest 102 = .ok (.iconst 1, 1) := by decide +kernel
theorem dX1_findBest_103 : decode cX1_findBest 103 = .ok (.isub, 1) := by decide +kernel
theorem dX1_findBest_104 : decode cX1_findBest 104 = .ok (.istore_n 2, 1) := by decide +kernel
theorem dX1_findBest_105 : decode cX1_findBest 105 = .ok (.iload_n 2, 1) := by decide +kernel
theorem dX1_findBest_106 : decode cX1_findBest 106 = .ok (.ifCond .lt 14, 3) := by decide +kernel
theorem dX1_findBest_109 : decode cX1_findBest 109 = .ok (.aload_n 0, 1) := by decide +kernel
theorem dX1_findBest_110 : decode cX1_findBest 110 = .ok (.iload_n 2, 1) := by decide +kernel
theorem dX1_findBest_111 : decode cX1_findBest 111 = .ok (.invokevirtual 56, 3) := by decide +kernel
theorem dX1_findBest_114 : decode cX1_findBest 114 = .ok (.iinc 2 (-1), 3) := by decide +kernel
theorem dX1_findBest_117 : decode cX1_findBest 117 = .ok (.goto (-12), 3) := by decide +kernel
theorem dX1_findBest_120 : decode cX1_findBest 120 = .ok (.aload_n 0, 1) := by decide +kernel
theorem dX1_findBest_121 : decode cX1_findBest 121 = .ok (.invokevirtual 60, 3) := by decide +kernel
theorem dX1_findBest_124 : decode cX1_findBest 124 = .ok (.aload_n 0, 1) := by decide +kernel
theorem dX1_findBest_125 : decode cX1_findBest 125 = .ok (.getfield 36, 3) := by decide +kernel
theorem dX1_findBest_128 : decode cX1_findBest 128 = .ok (.ifCond .le 7, 3) := by decide +kernel
theorem dX1_findBest_131 : decode cX1_findBest 131 = .ok (.iconst 1, 1) := by decide +kernel
theorem dX1_findBest_132 : decode cX1_findBest 132 = .ok (.goto 4, 3) := by decide +kernel
theorem dX1_findBest_135 : decode cX1_findBest 135 = .ok (.iconst 0, 1) := by decide +kernel
theorem dX1_findBest_136 : decode cX1_findBest 136 = .ok (.ireturn, 1) := by decide +kernel
theorem dX1_bestSum_0 : decode cX1_bestSum 0 = .ok (.aload_n 0, 1) := by decide +kernel
theorem dX1_bestSum_1 : decode cX1_bestSum 1 = .ok (.getfield 9, 3) := by decide +kernel
theorem dX1_bestSum_4 : decode cX1_bestSum 4 = .ok (.iconst 0, 1) := by decide +kernel
theorem dX1_bestSum_5 : decode cX1_bestSum 5 = .ok (.iaload, 1) := by decide +kernel
theorem dX1_bestSum_6 : decode cX1_bestSum 6 = .ok (.ireturn, 1) := by decide +kernel
theorem dX1_fillPlace_0 : decode cX1_fillPlace 0 = .ok (.iconst 0, 1) := by decide +kernel
theorem dX1_fillPlace_1 : decode cX1_fillPlace 1 = .ok (.istore_n 2, 1) := by decide +kernel
theorem dX1_fillPlace_2 : decode cX1_fillPlace 2 = .ok (.iload_n 2, 1) := by decide +kernel
theorem dX1_fillPlace_3 : decode cX1_fillPlace 3 = .ok (.iconst 4, 1) := by decide +kernel
theorem dX1_fillPlace_4 : decode cX1_fillPlace 4 = .ok (.if_icmp .ge 42, 3) := by decide +kernel
theorem dX1_fillPlace_7 : decode cX1_fillPlace 7 = .ok (.aload_n 0, 1) := by decide +kernel
theorem dX1_fillPlace_8 : decode cX1_fillPlace 8 = .ok (.getfield 9, 3) := by decide +kernel
theorem dX1_fillPlace_11 : decode cX1_fillPlace 11 = .ok (.iload_n 1, 1) := by decide +kernel
theorem dX1_fillPlace_12 : decode cX1_fillPlace 12 = .ok (.iconst 4, 1) := by decide +kernel
theorem dX1_fillPlace_13 : decode cX1_fillPlace 13 = .ok (.imul, 1) := by decide +kernel
theorem dX1_fillPlace_14 : decode cX1_fillPlace 14 = .ok (.iload_n 2, 1) := by decide +kernel
theorem dX1_fillPlace_15 : decode cX1_fillPlace 15 = .ok (.iadd, 1) := by decide +kernel
theorem dX1_fillPlace_16 : decode cX1_fillPlace 16 = .ok (.iconst 0, 1) := by decide +kernel
theorem dX1_fillPlace_17 : decode cX1_fillPlace 17 = .ok (.iastore, 1) := by decide +kernel
theorem dX1_fillPlace_18 : decode cX1_fillPlace 18 = .ok (.aload_n 0, 1) := by decide +kernel
theorem dX1_fillPlace_19 : decode cX1_fillPlace 19 = .ok (.getfield 15, 3) := by decide +kernel
theorem dX1_fillPlace_22 : decode cX1_fillPlace 22 = .ok (.iload_n 1, 1) := by decide +kernel
theorem dX1_fillPlace_23 : decode cX1_fillPlace 23 = .ok (.iconst 4, 1) := by decide +kernel
theorem dX1_fillPlace_24 : decode cX1_fillPlace 24 = .ok (.imul, 1) := by decide +kernel
theorem dX1_fillPlace_25 : decode cX1_fillPlace 25 = .ok (.iload_n 2, 1) := by decide +kernel
theorem dX1_fillPlace_26 : decode cX1_fillPlace 26 = .ok (.iadd, 1) := by decide +kernel
theorem dX1_fillPlace_27 : decode cX1_fillPlace 27 = .ok (.iconst (-1), 1) := by decide +kernel
theorem dX1_fillPlace_28 : decode cX1_fillPlace 28 = .ok (.iastore, 1) := by decide +kernel
theorem dX1_fillPlace_29 : decode cX1_fillPlace 29 = .ok (.aload_n 0, 1) := by decide +kernel
theorem dX1_fillPlace_30 : decode cX1_fillPlace 30 = .ok (.getfield 18, 3) := by decide +kernel
theorem dX1_fillPlace_33 : decode cX1_fillPlace 33 = .ok (.iload_n 1, 1) := by decide +kernel
theorem dX1_fillPlace_34 : decode cX1_fillPlace 34 = .ok (.iconst 4, 1) := by decide +kernel
theorem dX1_fillPlace_35 : decode cX1_fillPlace 35 = .ok (.imul, 1) := by decide +kernel
theorem dX1_fillPlace_36 : decode cX1_fillPlace 36 = .ok (.iload_n 2, 1) := by decide +kernel
theorem dX1_fillPlace_37 : decode cX1_fillPlace 37 = .ok (.iadd, 1) := by decide +kernel
theorem dX1_fillPlace_38 : decode cX1_fillPlace 38 = .ok (.iconst (-1), 1) := by decide +kernel
theorem dX1_fillPlace_39 : decode cX1_fillPlace 39 = .ok (.iastore, 1) := by decide +kernel
theorem dX1_fillPlace_40 : decode cX1_fillPlace 40 = .ok (.iinc 2 1, 3) := by decide +kernel
theorem dX1_fillPlace_43 : decode cX1_fillPlace 43 = .ok (.goto (-41), 3) := by decide +kernel
theorem dX1_fillPlace_46 : decode cX1_fillPlace 46 = .ok (.iconst 0, 1) := by decide +kernel
theorem dX1_fillPlace_47 : decode cX1_fillPlace 47 = .ok (.istore_n 2, 1) := by decide +kernel
theorem dX1_fillPlace_48 : decode cX1_fillPlace 48 = .ok (.iload_n 2, 1) := by decide +kernel
theorem dX1_fillPlace_49 : decode cX1_fillPlace 49 = .ok (.aload_n 0, 1) := by decide +kernel
theorem dX1_fillPlace_50 : decode cX1_fillPlace 50 = .ok (.getfield 24, 3) := by decide +kernel
theorem dX1_fillPlace_53 : decode cX1_fillPlace 53 = .ok (.getfield 63, 3) := by decide +kernel
theorem dX1_fillPlace_56 : decode cX1_fillPlace 56 = .ok (.if_icmp .ge 64, 3) := by decide +kernel
theorem dX1_fillPlace_59 : decode cX1_fillPlace 59 = .ok (.aload_n 0, 1) := by decide +kernel
theorem dX1_fillPlace_60 : decode cX1_fillPlace 60 = .ok (.getfield 28, 3) := by decide +kernel
theorem dX1_fillPlace_63 : decode cX1_fillPlace 63 = .ok (.iload_n 1, 1) := by decide +kernel
theorem dX1_fillPlace_64 : decode cX1_fillPlace 64 = .ok (.iload_n 2, 1) := by decide +kernel
theorem dX1_fillPlace_65 : decode cX1_fillPlace 65 = .ok (.invokevirtual 66, 3) := by decide +kernel
theorem dX1_fillPlace_68 : decode cX1_fillPlace 68 = .ok (.istore_n 3, 1) := by decide +kernel
theorem dX1_fillPlace_69 : decode cX1_fillPlace 69 = .ok (.iload_n 3, 1) := by decide +kernel
theorem dX1_fillPlace_70 : decode cX1_fillPlace 70 = .ok (.ifCond .le 44, 3) := by decide +kernel
theorem dX1_fillPlace_73 : decode cX1_fillPlace 73 = .ok (.aload_n 0, 1) := by decide +kernel
theorem dX1_fillPlace_74 : decode cX1_fillPlace 74 = .ok (.getfield 15, 3) := by decide +kernel
theorem dX1_fillPlace_77 : decode cX1_fillPlace 77 = .ok (.iload_n 3, 1) := by decide +kernel
theorem dX1_fillPlace_78 : decode cX1_fillPlace 78 = .ok (.iconst 4, 1) := by decide +kernel
theorem dX1_fillPlace_79 : decode cX1_fillPlace 79 = .ok (.imul, 1) := by decide +kernel
theorem dX1_fillPlace_80 : decode cX1_fillPlace 80 = .ok (.aload_n 0, 1) := by decide +kernel
theorem dX1_fillPlace_81 : decode cX1_fillPlace 81 = .ok (.getfield 24, 3) := by decide +kernel
theorem dX1_fillPlace_84 : decode cX1_fillPlace 84 = .ok (.getfield 70, 3) := by decide +kernel
theorem dX1_fillPlace_87 : decode cX1_fillPlace 87 = .ok (.iload_n 2, 1) := by decide +kernel
theorem dX1_fillPlace_88 : decode cX1_fillPlace 88 = .ok (.iaload, 1) := by decide +kernel
theorem dX1_fillPlace_89 : decode cX1_fillPlace 89 = .ok (.iadd, 1) := by decide +kernel
theorem dX1_fillPlace_90 : decode cX1_fillPlace 90 = .ok (.iaload, 1) := by decide +kernel
theorem dX1_fillPlace_91 : decode cX1_fillPlace 91 = .ok (.iconst (-1), 1) := by decide +kernel
theorem dX1_fillPlace_92 : decode cX1_fillPlace 92 = .ok (.if_icmp .eq 22, 3) := by decide +kernel
theorem dX1_fillPlace_95 : decode cX1_fillPlace 95 = .ok (.aload_n 0, 1) := by decide +kernel
theorem dX1_fillPlace_96 : decode cX1_fillPlace 96 = .ok (.iload_n 1, 1) := by decide +kernel
theorem dX1_fillPlace_97 : decode cX1_fillPlace 97 = .ok (.iload_n 2, 1) := by decide +kernel
theorem dX1_fillPlace_98 : decode cX1_fillPlace 98 = .ok (.iload_n 3, 1) := by decide +kernel
theorem dX1_fillPlace_99 : decode cX1_fillPlace 99 = .ok (.iconst 4, 1) := by decide +kernel
theorem dX1_fillPlace_100 : decode cX1_fillPlace 100 = .ok (.imul, 1) := by decide +kernel
theorem dX1_fillPlace_101 : decode cX1_fillPlace 101 = .ok (.aload_n 0, 1) := by decide +kernel
theorem dX1_fillPlace_102 : decode cX1_fillPlace 102 = .ok (.getfield 24, 3) := by decide +kernel
theorem dX1_fillPlace_105 : decode cX1_fillPlace 105 = .ok (.getfield 70, 3) := by decide +kernel
theorem dX1_fillPlace_108 : decode cX1_fillPlace 108 = .ok (.iload_n 2, 1) := by decide +kernel
theorem dX1_fillPlace_109 : decode cX1_fillPlace 109 = .ok (.iaload, 1) := by decide +kernel
theorem dX1_fillPlace_110 : decode cX1_fillPlace 110 = .ok (.iadd, 1) := by decide +kernel
theorem dX1_fillPlace_111 : decode cX1_fillPlace 111 = .ok (.invokevirtual 73, 3) := by decide +kernel
theorem dX1_fillPlace_114 : decode cX1_fillPlace 114 = .ok (.iinc 2 1, 3) := by decide +kernel
theorem dX1_fillPlace_117 : decode cX1_fillPlace 117 = .ok (.goto (-69), 3) := by decide +kernel
theorem dX1_fillPlace_120 : decode cX1_fillPlace 120 = .ok (.return_, 1) := by decide +kernel
theorem dX1_offerPhrase_0 : decode cX1_offerPhrase 0 = .ok (.aload_n 0, 1) := by decide +kernel
theorem dX1_offerPhrase_1 : decode cX1_offerPhrase 1 = .ok (.getfield 24, 3) := by decide +kernel
theorem dX1_offerPhrase_4 : decode cX1_offerPhrase 4 = .ok (.aload_n 0, 1) := by decide +kernel
theorem dX1_offerPhrase_5 : decode cX1_offerPhrase 5 = .ok (.getfield 32, 3) := by decide +kernel
theorem dX1_offerPhrase_8 : decode cX1_offerPhrase 8 = .ok (.iload_n 2, 1) := by decide +kernel
theorem dX1_offerPhrase_9 : decode cX1_offerPhrase 9 = .ok (.invokevirtual 77, 3) := by decide +kernel
theorem dX1_offerPhrase_12 : decode cX1_offerPhrase 12 = .ok (.aload_n 0, 1) := by decide +kernel
theorem dX1_offerPhrase_13 : decode cX1_offerPhrase 13 = .ok (.getfield 9, 3) := by decide +kernel
theorem dX1_offerPhrase_16 : decode cX1_offerPhrase 16 = .ok (.iload_n 3, 1) := by decide +kernel
theorem dX1_offerPhrase_17 : decode cX1_offerPhrase 17 = .ok (.iaload, 1) := by decide +kernel
theorem dX1_offerPhrase_18 : decode cX1_offerPhrase 18 = .ok (.iadd, 1) := by decide +kernel
theorem dX1_offerPhrase_19 : decode cX1_offerPhrase 19 = .ok (.istore 4, 2) := by decide +kernel
theorem dX1_offerPhrase_21 : decode cX1_offerPhrase 21 = .ok (.iconst 1, 1) := by decide +kernel
theorem dX1_offerPhrase_22 : decode cX1_offerPhrase 22 = .ok (.aload_n 0, 1) := by decide +kernel
theorem dX1_offerPhrase_23 : decode cX1_offerPhrase 23 = .ok (.getfield 15, 3) := by decide +kernel
theorem dX1_offerPhrase_26 : decode cX1_offerPhrase 26 = .ok (.iload_n 3, 1) := by decide +kernel
theorem dX1_offerPhrase_27 : decode cX1_offerPhrase 27 = .ok (.iaload, 1) := by decide +kernel
theorem dX1_offerPhrase_28 : decode cX1_offerPhrase 28 = .ok (.iadd, 1) := by decide +kernel
theorem dX1_offerPhrase_29 : decode cX1_offerPhrase 29 = .ok (.istore 5, 2) := by decide +kernel
theorem dX1_offerPhrase_31 : decode cX1_offerPhrase 31 = .ok (.iconst 0, 1) := by decide +kernel
theorem dX1_offerPhrase_32 : decode cX1_offerPhrase 32 = .ok (.istore 6, 2) := by decide +kernel
theorem dX1_offerPhrase_34 : decode cX1_offerPhrase 34 = .ok (.iload 6, 2) := by decide +kernel
theorem dX1_offerPhrase_36 : decode cX1_offerPhrase 36 = .ok (.iconst 4, 1) := by decide +kernel
theorem dX1_offerPhrase_37 : decode cX1_offerPhrase 37 = .ok (.if_icmp .ge 127, 3) := by decide +kernel
theorem dX1_offerPhrase_40 : decode cX1_offerPhrase 40 = .ok (.iload_n 1, 1) := by decide +kernel
theorem dX1_offerPhrase_41 : decode cX1_offerPhrase 41 = .ok (.iconst 4, 1) := by decide +kernel
theorem dX1_offerPhrase_42 : decode cX1_offerPhrase 42 = .ok (.imul, 1) := by decide +kernel
theorem dX1_offerPhrase_43 : decode cX1_offerPhrase 43 = .ok (.iload 6, 2) := by decide +kernel
theorem dX1_offerPhrase_45 : decode cX1_offerPhrase 45 = .ok (.iadd, 1) := by decide +kernel
theorem dX1_offerPhrase_46 : decode cX1_offerPhrase 46 = .ok (.istore 7, 2) := by decide +kernel
theorem dX1_offerPhrase_48 : decode cX1_offerPhrase 48 = .ok (.aload_n 0, 1) := by decide +kernel
theorem dX1_offerPhrase_49 : decode cX1_offerPhrase 49 = .ok (.getfield 15, 3) := by decide +kernel
theorem dX1_offerPhrase_52 : decode cX1_offerPhrase 52 = .ok (.iload 7, 2) := by decide +kernel
theorem dX1_offerPhrase_54 : decode cX1_offerPhrase 54 = .ok (.iaload, 1) := by decide +kernel
theorem dX1_offerPhrase_55 : decode cX1_offerPhrase 55 = .ok (.iconst (-1), 1) := by decide +kernel
theorem dX1_offerPhrase_56 : decode cX1_offerPhrase 56 = .ok (.if_icmp .eq 39, 3) := by decide +kernel
theorem dX1_offerPhrase_59 : decode cX1_offerPhrase 59 = .ok (.iload 4, 2) := by decide +kernel
theorem dX1_offerPhrase_61 : decode cX1_offerPhrase 61 = .ok (.aload_n 0, 1) := by decide +kernel
theorem dX1_offerPhrase_62 : decode cX1_offerPhrase 62 = .ok (.getfield 9, 3) := by decide +kernel
theorem dX1_offerPhrase_65 : decode cX1_offerPhrase 65 = .ok (.iload 7, 2) := by decide +kernel
theorem dX1_offerPhrase_67 : decode cX1_offerPhrase 67 = .ok (.iaload, 1) := by decide +kernel
theorem dX1_offerPhrase_68 : decode cX1_offerPhrase 68 = .ok (.if_icmp .gt 27, 3) := by decide +kernel
theorem dX1_offerPhrase_71 : decode cX1_offerPhrase 71 = .ok (.iload 4, 2) := by decide +kernel
theorem dX1_offerPhrase_73 : decode cX1_offerPhrase 73 = .ok (.aload_n 0, 1) := by decide +kernel
theorem dX1_offerPhrase_74 : decode cX1_offerPhrase 74 = .ok (.getfield 9, 3) := by decide +kernel
theorem dX1_offerPhrase_77 : decode cX1_offerPhrase 77 = .ok (.iload 7, 2) := by decide +kernel
theorem dX1_offerPhrase_79 : decode cX1_offerPhrase 79 = .ok (.iaload, 1) := by decide +kernel
theorem dX1_offerPhrase_80 : decode cX1_offerPhrase 80 = .ok (.if_icmp .ne 19, 3) := by decide +kernel
theorem dX1_offerPhrase_83 : decode cX1_offerPhrase 83 = .ok (.iload 5, 2) := by decide +kernel
theorem dX1_offerPhrase_85 : decode cX1_offerPhrase 85 = .ok (.aload_n 0, 1) := by decide +kernel
theorem dX1_offerPhrase_86 : decode cX1_offerPhrase 86 = .ok (.getfield 15, 3) := by decide +kernel
theorem dX1_offerPhrase_89 : decode cX1_offerPhrase 89 = .ok (.iload 7, 2) := by decide +kernel
theorem dX1_offerPhrase_91 : decode cX1_offerPhrase 91 = .ok (.iaload, 1) := by decide +kernel
theorem dX1_offerPhrase_92 : decode cX1_offerPhrase 92 = .ok (.if_icmp .ge 7, 3) := by decide +kernel
theorem dX1_offerPhrase_95 : decode cX1_offerPhrase 95 = .ok (.iconst 1, 1) := by decide +kernel
theorem dX1_offerPhrase_96 : decode cX1_offerPhrase 96 = .ok (.goto 4, 3) := by decide +kernel
theorem dX1_offerPhrase_99 : decode cX1_offerPhrase 99 = .ok (.iconst 0, 1) := by decide +kernel
theorem dX1_offerPhrase_100 : decode cX1_offerPhrase 100 = .ok (.istore 8, 2) := by decide +kernel
theorem dX1_offerPhrase_102 : decode cX1_offerPhrase 102 = .ok (.iload 8, 2) := by decide +kernel
theorem dX1_offerPhrase_104 : decode cX1_offerPhrase 104 = .ok (.ifCond .eq 54, 3) := by decide +kernel
theorem dX1_offerPhrase_107 : decode cX1_offerPhrase 107 = .ok (.aload_n 0, 1) := by decide +kernel
theorem dX1_offerPhrase_108 : decode cX1_offerPhrase 108 = .ok (.getfield 24, 3) := by decide +kernel
theorem dX1_offerPhrase_111 : decode cX1_offerPhrase 111 = .ok (.iload_n 1, 1) := by decide +kernel
theorem dX1_offerPhrase_112 : decode cX1_offerPhrase 112 = .ok (.iload 6, 2) := by decide +kernel
theorem dX1_offerPhrase_114 : decode cX1_offerPhrase 114 = .ok (.invokevirtual 80, 3) := by decide +kernel
theorem dX1_offerPhrase_117 : decode cX1_offerPhrase 117 = .ok (.aload_n 0, 1) := by decide +kernel
theorem dX1_offerPhrase_118 : decode cX1_offerPhrase 118 = .ok (.getfield 24, 3) := by decide +kernel
theorem dX1_offerPhrase_121 : decode cX1_offerPhrase 121 = .ok (.getfield 70, 3) := by decide +kernel
theorem dX1_offerPhrase_124 : decode cX1_offerPhrase 124 = .ok (.iload_n 2, 1) := by decide +kernel
theorem dX1_offerPhrase_125 : decode cX1_offerPhrase 125 = .ok (.iaload, 1) := by decide +kernel
theorem dX1_offerPhrase_126 : decode cX1_offerPhrase 126 = .ok (.invokestatic 52, 3) := by decide +kernel
theorem dX1_offerPhrase_129 : decode cX1_offerPhrase 129 = .ok (.ifCond .eq 29, 3) := by decide +kernel
theorem dX1_offerPhrase_132 : decode cX1_offerPhrase 132 = .ok (.aload_n 0, 1) := by decide +kernel
theorem dX1_offerPhrase_133 : decode cX1_offerPhrase 133 = .ok (.getfield 9, 3) := by decide +kernel
theorem dX1_offerPhrase_136 : decode cX1_offerPhrase 136 = .ok (.iload 7, 2) := by decide +kernel
theorem dX1_offerPhrase_138 : decode cX1_offerPhrase 138 = .ok (.iload 4, 2) := by decide +kernel
theorem dX1_offerPhrase_140 : decode cX1_offerPhrase 140 = .ok (.iastore, 1) := by decide +kernel
theorem dX1_offerPhrase_141 : decode cX1_offerPhrase 141 = .ok (.aload_n 0, 1) := by decide +kernel
theorem dX1_offerPhrase_142 : decode cX1_offerPhrase 142 = .ok (.getfield 15, 3) := by decide +kernel
theorem dX1_offerPhrase_145 : decode cX1_offerPhrase 145 = .ok (.iload 7, 2) := by decide +kernel
theorem dX1_offerPhrase_147 : decode cX1_offerPhrase 147 = .ok (.iload 5, 2) := by decide +kernel
theorem dX1_offerPhrase_149 : decode cX1_offerPhrase 149 = .ok (.iastore, 1) := by decide +kernel
theorem dX1_offerPhrase_150 : decode cX1_offerPhrase 150 = .ok (.aload_n 0, 1) := by decide +kernel
theorem dX1_offerPhrase_151 : decode cX1_offerPhrase 151 = .ok (.getfield 18, 3) := by decide +kernel
theorem dX1_offerPhrase_154 : decode cX1_offerPhrase 154 = .ok (.iload 7, 2) := by decide +kernel
theorem dX1_offerPhrase_156 : decode cX1_offerPhrase 156 = .ok (.iload_n 2, 1) := by decide +kernel
theorem dX1_offerPhrase_157 : decode cX1_offerPhrase 157 = .ok (.iastore, 1) := by decide +kernel
theorem dX1_offerPhrase_158 : decode cX1_offerPhrase 158 = .ok (.iinc 6 1, 3) := by decide +kernel
theorem dX1_offerPhrase_161 : decode cX1_offerPhrase 161 = .ok (.goto (-127), 3) := by decide +kernel
theorem dX1_offerPhrase_164 : decode cX1_offerPhrase 164 = .ok (.return_, 1) := by decide +kernel
theorem dX1_traceChosen_0 : decode cX1_traceChosen 0 = .ok (.iconst 0, 1) := by decide +kernel
theorem dX1_traceChosen_1 : decode cX1_traceChosen 1 = .ok (.istore_n 1, 1) := by decide +kernel
theorem dX1_traceChosen_2 : decode cX1_traceChosen 2 = .ok (.iconst 0, 1) := by decide +kernel
theorem dX1_traceChosen_3 : decode cX1_traceChosen 3 = .ok (.istore_n 2, 1) := by decide +kernel
theorem dX1_traceChosen_4 : decode cX1_traceChosen 4 = .ok (.iload_n 1, 1) := by decide +kernel
theorem dX1_traceChosen_5 : decode cX1_traceChosen 5 = .ok (.aload_n 0, 1) := by decide +kernel
theorem dX1_traceChosen_6 : decode cX1_traceChosen 6 = .ok (.getfield 28, 3) := by decide +kernel
theorem dX1_traceChosen_9 : decode cX1_traceChosen 9 = .ok (.getfield 44, 3) := by decide +kernel
theorem dX1_traceChosen_12 : decode cX1_traceChosen 12 = .ok (.if_icmp .ge 72, 3) := by decide +kernel
theorem dX1_traceChosen_15 : decode cX1_traceChosen 15 = .ok (.aload_n 0, 1) := by decide +kernel
theorem dX1_traceChosen_16 : decode cX1_traceChosen 16 = .ok (.getfield 36, 3) := by decide +kernel
theorem dX1_traceChosen_19 : decode cX1_traceChosen 19 = .ok (.aload_n 0, 1) := by decide +kernel
theorem dX1_traceChosen_20 : decode cX1_traceChosen 20 = .ok (.getfield 21, 3) := by decide +kernel
theorem dX1_traceChosen_23 : decode cX1_traceChosen 23 = .ok (.arraylength, 1) := by decide +kernel
theorem dX1_traceChosen_24 : decode cX1_traceChosen 24 = .ok (.if_icmp .ge 60, 3) := by decide +kernel
theorem dX1_traceChosen_27 : decode cX1_traceChosen 27 = .ok (.aload_n 0, 1) := by decide +kernel
theorem dX1_traceChosen_28 : decode cX1_traceChosen 28 = .ok (.getfield 18, 3) := by decide +kernel
theorem dX1_traceChosen_31 : decode cX1_traceChosen 31 = .ok (.iload_n 1, 1) := by decide +kernel
theorem dX1_traceChosen_32 : decode cX1_traceChosen 32 = .ok (.iconst 4, 1) := by decide +kernel
theorem dX1_traceChosen_33 : decode cX1_traceChosen 33 = .ok (.imul, 1) := by decide +kernel
theorem dX1_traceChosen_34 : decode cX1_traceChosen 34 = .ok (.iload_n 2, 1) := by decide +kernel
theorem dX1_traceChosen_35 : decode cX1_traceChosen 35 = .ok (.iadd, 1) := by decide +kernel
theorem dX1_traceChosen_36 : decode cX1_traceChosen 36 = .ok (.iaload, 1) := by decide +kernel
theorem dX1_traceChosen_37 : decode cX1_traceChosen 37 = .ok (.istore_n 3, 1) := by decide +kernel
theorem dX1_traceChosen_38 : decode cX1_traceChosen 38 = .ok (.iload_n 3, 1) := by decide +kernel
theorem dX1_traceChosen_39 : decode cX1_traceChosen 39 = .ok (.iconst (-1), 1) := by decide +kernel
theorem dX1_traceChosen_40 : decode cX1_traceChosen 40 = .ok (.if_icmp .ne 4, 3) := by decide +kernel
theorem dX1_traceChosen_43 : decode cX1_traceChosen 43 = .ok (.return_, 1) := by decide +kernel
theorem dX1_traceChosen_44 : decode cX1_traceChosen 44 = .ok (.aload_n 0, 1) := by decide +kernel
theorem dX1_traceChosen_45 : decode cX1_traceChosen 45 = .ok (.getfield 21, 3) := by decide +kernel
theorem dX1_traceChosen_48 : decode cX1_traceChosen 48 = .ok (.aload_n 0, 1) := by decide +kernel
theorem dX1_traceChosen_49 : decode cX1_traceChosen 49 = .ok (.dup, 1) := by decide +kernel
theorem dX1_traceChosen_50 : decode cX1_traceChosen 50 = .ok (.getfield 36, 3) := by decide +kernel
theorem dX1_traceChosen_53 : decode cX1_traceChosen 53 = .ok (.dup_x1, 1) := by decide +kernel
theorem dX1_traceChosen_54 : decode cX1_traceChosen 54 = .ok (.iconst 1, 1) := by decide +kernel
theorem dX1_traceChosen_55 : decode cX1_traceChosen 55 = .ok (.iadd, 1) := by decide +kernel
theorem dX1_traceChosen_56 : decode cX1_traceChosen 56 = .ok (.putfield 36, 3) := by decide +kernel
theorem dX1_traceChosen_59 : decode cX1_traceChosen 59 = .ok (.iload_n 3, 1) := by decide +kernel
theorem dX1_traceChosen_60 : decode cX1_traceChosen 60 = .ok (.iastore, 1) := by decide +kernel
theorem dX1_traceChosen_61 : decode cX1_traceChosen 61 = .ok (.aload_n 0, 1) := by decide +kernel
theorem dX1_traceChosen_62 : decode cX1_traceChosen 62 = .ok (.getfield 28, 3) := by decide +kernel
theorem dX1_traceChosen_65 : decode cX1_traceChosen 65 = .ok (.iload_n 1, 1) := by decide +kernel
theorem dX1_traceChosen_66 : decode cX1_traceChosen 66 = .ok (.iload_n 3, 1) := by decide +kernel
theorem dX1_traceChosen_67 : decode cX1_traceChosen 67 = .ok (.invokevirtual 66, 3) := by decide +kernel
theorem dX1_traceChosen_70 : decode cX1_traceChosen 70 = .ok (.istore_n 1, 1) := by decide +kernel
theorem dX1_traceChosen_71 : decode cX1_traceChosen 71 = .ok (.aload_n 0, 1) := by decide +kernel
theorem dX1_traceChosen_72 : decode cX1_traceChosen 72 = .ok (.getfield 24, 3) := by decide +kernel
theorem dX1_traceChosen_75 : decode cX1_traceChosen 75 = .ok (.getfield 70, 3) := by decide +kernel
theorem dX1_traceChosen_78 : decode cX1_traceChosen 78 = .ok (.iload_n 3, 1) := by decide +kernel
theorem dX1_traceChosen_79 : decode cX1_traceChosen 79 = .ok (.iaload, 1) := by decide +kernel
theorem dX1_traceChosen_80 : decode cX1_traceChosen 80 = .ok (.istore_n 2, 1) := by decide +kernel
theorem dX1_traceChosen_81 : decode cX1_traceChosen 81 = .ok (.goto (-77), 3) := by decide +kernel
theorem dX1_traceChosen_84 : decode cX1_traceChosen 84 = .ok (.return_, 1) := by decide +kernel
theorem dX2_init_0 : decode cX2_init 0 = .ok (.aload_n 0, 1) := by decide +kernel
theorem dX2_init_1 : decode cX2_init 1 = .ok (.invokespecial 3, 3) := by decide +kernel
theorem dX2_init_4 : decode cX2_init 4 = .ok (.aload_n 0, 1) := by decide +kernel
theorem dX2_init_5 : decode cX2_init 5 = .ok (.sipush 164, 3) := by decide +kernel
theorem dX2_init_8 : decode cX2_init 8 = .ok (.newarray .long, 2) := by decide +kernel
theorem dX2_init_10 : decode cX2_init 10 = .ok (.putfield 9, 3) := by decide +kernel
theorem dX2_init_13 : decode cX2_init 13 = .ok (.aload_n 0, 1) := by decide +kernel
theorem dX2_init_14 : decode cX2_init 14 = .ok (.iconst 4, 1) := by decide +kernel
theorem dX2_init_15 : decode cX2_init 15 = .ok (.newarray .long, 2) := by decide +kernel
theorem dX2_init_17 : decode cX2_init 17 = .ok (.putfield 15, 3) := by decide +kernel
theorem dX2_init_20 : decode cX2_init 20 = .ok (.aload_n 0, 1) := by decide +kernel
theorem dX2_init_21 : decode cX2_init 21 = .ok (.bipush 40, 2) := by decide +kernel
theorem dX2_init_23 : decode cX2_init 23 = .ok (.newarray .int, 2) := by decide +kernel
theorem dX2_init_25 : decode cX2_init 25 = .ok (.putfield 18, 3) := by decide +kernel
theorem dX2_init_28 : decode cX2_init 28 = .ok (.aload_n 0, 1) := by decide +kernel
theorem dX2_init_29 : decode cX2_init 29 = .ok (.aload_n 1, 1) := by decide +kernel
theorem dX2_init_30 : decode cX2_init 30 = .ok (.putfield 22, 3) := by decide +kernel
theorem dX2_init_33 : decode cX2_init 33 = .ok (.aload_n 0, 1) := by decide +kernel
theorem dX2_init_34 : decode cX2_init 34 = .ok (.aload_n 2, 1) := by decide +kernel
theorem dX2_init_35 : decode cX2_init 35 = .ok (.putfield 26, 3) := by decide +kernel
theorem dX2_init_38 : decode cX2_init 38 = .ok (.return_, 1) := by decide +kernel
theorem dX2_countAll_0 : decode cX2_countAll 0 = .ok (.aload_n 0, 1) := by decide +kernel
theorem dX2_countAll_1 : decode cX2_countAll 1 = .ok (.iload_n 1, 1) := by decide +kernel
theorem dX2_countAll_2 : decode cX2_countAll 2 = .ok (.putfield 30, 3) := by decide +kernel
theorem dX2_countAll_5 : decode cX2_countAll 5 = .ok (.aload_n 0, 1) := by decide +kernel
theorem dX2_countAll_6 : decode cX2_countAll 6 = .ok (.getfield 26, 3) := by decide +kernel
theorem dX2_countAll_9 : decode cX2_countAll 9 = .ok (.getfield 34, 3) := by decide +kernel
theorem dX2_countAll_12 : decode cX2_countAll 12 = .ok (.iconst 1, 1) := by decide +kernel
theorem dX2_countAll_13 : decode cX2_countAll 13 = .ok (.if_icmp .ge 5, 3) := by decide +kernel
theorem dX2_countAll_16 : decode cX2_countAll 16 = .ok (.lconst 0, 1) := by decide +kernel
theorem dX2_countAll_17 : decode cX2_countAll 17 = .ok (.lreturn, 1) := by decide +kernel
theorem dX2_countAll_18 : decode cX2_countAll 18 = .ok (.iconst 0, 1) := by decide +kernel
theorem dX2_countAll_19 : decode cX2_countAll 19 = .ok (.istore_n 2, 1) := by decide +kernel
theorem dX2_countAll_20 : decode cX2_countAll 20 = .ok (.iload_n 2, 1) := by decide +kernel
theorem dX2_countAll_21 : decode cX2_countAll 21 = .ok (.iconst 4, 1) := by decide +kernel
theorem dX2_countAll_22 : decode cX2_countAll 22 = .ok (.if_icmp .ge 44, 3) := by decide +kernel
theorem dX2_countAll_25 : decode cX2_countAll 25 = .ok (.aload_n 0, 1) := by decide +kernel
theorem dX2_countAll_26 : decode cX2_countAll 26 = .ok (.getfield 9, 3) := by decide +kernel
theorem dX2_countAll_29 : decode cX2_countAll 29 = .ok (.aload_n 0, 1) := by decide +kernel
theorem dX2_countAll_30 : decode cX2_countAll 30 = .ok (.getfield 26, 3) := by decide +kernel
theorem dX2_countAll_33 : decode cX2_countAll 33 = .ok (.getfield 34, 3) := by decide +kernel
theorem dX2_countAll_36 : decode cX2_countAll 36 = .ok (.iconst 4, 1) := by decide +kernel
theorem dX2_countAll_37 : decode cX2_countAll 37 = .ok (.imul, 1) := by decide +kernel
theorem dX2_countAll_38 : decode cX2_countAll 38 = .ok (.iload_n 2, 1) := by decide +kernel
theorem dX2_countAll_39 : decode cX2_countAll 39 = .ok (.iadd, 1) := by decide +kernel
theorem dX2_countAll_40 : decode cX2_countAll 40 = .ok (.aload_n 0, 1) := by decide +kernel
theorem dX2_countAll_41 : decode cX2_countAll 41 = .ok (.getfield 22, 3) := by decide +kernel
theorem dX2_countAll_44 : decode cX2_countAll 44 = .ok (.getfield 39, 3) := by decide +kernel
theorem dX2_countAll_47 : decode cX2_countAll 47 = .ok (.iload_n 2, 1) := by decide +kernel
theorem dX2_countAll_48 : decode cX2_countAll 48 = .ok (.invokestatic 44, 3) := by decide +kernel
theorem dX2_countAll_51 : decode cX2_countAll 51 = .ok (.ifCond .eq 7, 3) := by decide +kernel
theorem dX2_countAll_54 : decode cX2_countAll 54 = .ok (.lconst 1, 1) := by decide +kernel
theorem dX2_countAll_55 : decode cX2_countAll 55 = .ok (.goto 4, 3) := by decide +kernel
theorem dX2_countAll_58 : decode cX2_countAll 58 = .ok (.lconst 0, 1) := by decide +kernel
theorem dX2_countAll_59 : decode cX2_countAll 59 = .ok (.lastore, 1) := by decide +kernel
theorem dX2_countAll_60 : decode cX2_countAll 60 = .ok (.iinc 2 1, 3) := by decide +kernel
theorem dX2_countAll_63 : decode cX2_countAll 63 = .ok (.goto (-43), 3) := by decide +kernel
theorem dX2_countAll_66 : decode cX2_countAll 66 = .ok (.aload_n 0, 1) := by decide +kernel
theorem dX2_countAll_67 : decode cX2_countAll 67 = .ok (.getfield 26, 3) := by decide +kernel
theorem dX2_countAll_70 : decode cX2_countAll 70 = .ok (.getfield 34, 3) := by decide +kernel
theorem dX2_countAll_73 : decode cX2_countAll 73 = .ok (.iconst 1, 1) := by decide +kernel
theorem dX2_countAll_74 : decode cX2_countAll 74 = .ok (.isub, 1) := by decide +kernel
theorem dX2_countAll_75 : decode cX2_countAll 75 = .ok (.istore_n 2, 1) := by decide +kernel
theorem dX2_countAll_76 : decode cX2_countAll 76 = .ok (.iload_n 2, 1) := by decide +kernel
theorem dX2_countAll_77 : decode cX2_countAll 77 = .ok (.ifCond .lt 21, 3) := by decide +kernel
theorem dX2_countAll_80 : decode cX2_countAll 80 = .ok (.aload_n 0, 1) := by decide +kernel
theorem dX2_countAll_81 : decode cX2_countAll 81 = .ok (.iload_n 2, 1) := by decide +kernel
theorem dX2_countAll_82 : decode cX2_countAll 82 = .ok (.invokevirtual 48, 3) := by decide +kernel
theorem dX2_countAll_85 : decode cX2_countAll 85 = .ok (.ifCond .ne 7, 3) := by decide +kernel
theorem dX2_countAll_88 : decode cX2_countAll 88 = .ok (.ldc2_w 52, 3) := by decide +kernel
theorem dX2_countAll_91 : decode cX2_countAll 91 = .ok (.lreturn, 1) := by decide +kernel
theorem dX2_countAll_92 : decode cX2_countAll 92 = .ok (.iinc 2 (-1), 3) := by decide +kernel
theorem dX2_countAll_95 : decode cX2_countAll 95 = .ok (.goto (-19), 3) := by decide +kernel
theorem dX2_countAll_98 : decode cX2_countAll 98 = .ok (.aload_n 0, 1) := by decide +kernel
theorem dX2_countAll_99 : decode cX2_countAll 99 = .ok (.getfield 9, 3) := by decide +kernel
theorem dX2_countAll_102 : decode cX2_countAll 102 = .ok (.iconst 0, 1) := by decide +kernel
theorem dX2_countAll_103 : decode cX2_countAll 103 = .ok (.laload, 1) := by decide +kernel
theorem dX2_countAll_104 : decode cX2_countAll 104 = .ok (.lreturn, 1) := by decide +kernel
theorem dX2_fillPlace_0 : decode cX2_fillPlace 0 = .ok (.aload_n 0, 1) := by decide +kernel
theorem dX2_fillPlace_1 : decode cX2_fillPlace 1 = .ok (.iload_n 1, 1) := by decide +kernel
theorem dX2_fillPlace_2 : decode cX2_fillPlace 2 = .ok (.invokevirtual 54, 3) := by decide +kernel
theorem dX2_fillPlace_5 : decode cX2_fillPlace 5 = .ok (.iconst 0, 1) := by decide +kernel
theorem dX2_fillPlace_6 : decode cX2_fillPlace 6 = .ok (.istore_n 2, 1) := by decide +kernel
theorem dX2_fillPlace_7 : decode cX2_fillPlace 7 = .ok (.iload_n 2, 1) := by decide +kernel
theorem dX2_fillPlace_8 : decode cX2_fillPlace 8 = .ok (.iconst 4, 1) := by decide +kernel
theorem dX2_fillPlace_9 : decode cX2_fillPlace 9 = .ok (.if_icmp .ge 78, 3) := by decide +kernel
theorem dX2_fillPlace_12 : decode cX2_fillPlace 12 = .ok (.lconst 0, 1) := by decide +kernel
theorem dX2_fillPlace_13 : decode cX2_fillPlace 13 = .ok (.lstore_n 3, 1) := by decide +kernel
theorem dX2_fillPlace_14 : decode cX2_fillPlace 14 = .ok (.aload_n 0, 1) := by decide +kernel
theorem dX2_fillPlace_15 : decode cX2_fillPlace 15 = .ok (.getfield 22, 3) := by decide +kernel
theorem dX2_fillPlace_18 : decode cX2_fillPlace 18 = .ok (.iload_n 1, 1) := by decide +kernel
theorem dX2_fillPlace_19 : decode cX2_fillPlace 19 = .ok (.iload_n 2, 1) := by decide +kernel
theorem dX2_fillPlace_20 : decode cX2_fillPlace 20 = .ok (.invokevirtual 58, 3) := by decide +kernel
theorem dX2_fillPlace_23 : decode cX2_fillPlace 23 = .ok (.istore 5, 2) := by decide +kernel
theorem dX2_fillPlace_25 : decode cX2_fillPlace 25 = .ok (.iconst 0, 1) := by decide +kernel
theorem dX2_fillPlace_26 : decode cX2_fillPlace 26 = .ok (.istore 6, 2) := by decide +kernel
theorem dX2_fillPlace_28 : decode cX2_fillPlace 28 = .ok (.iload 6, 2) := by decide +kernel
theorem dX2_fillPlace_30 : decode cX2_fillPlace 30 = .ok (.iconst 4, 1) := by decide +kernel
theorem dX2_fillPlace_31 : decode cX2_fillPlace 31 = .ok (.if_icmp .ge 31, 3) := by decide +kernel
theorem dX2_fillPlace_34 : decode cX2_fillPlace 34 = .ok (.iload 5, 2) := by decide +kernel
theorem dX2_fillPlace_36 : decode cX2_fillPlace 36 = .ok (.iload 6, 2) := by decide +kernel
theorem dX2_fillPlace_38 : decode cX2_fillPlace 38 = .ok (.invokestatic 44, 3) := by decide +kernel
theorem dX2_fillPlace_41 : decode cX2_fillPlace 41 = .ok (.ifCond .eq 15, 3) := by decide +kernel
theorem dX2_fillPlace_44 : decode cX2_fillPlace 44 = .ok (.lload_n 3, 1) := by decide +kernel
theorem dX2_fillPlace_45 : decode cX2_fillPlace 45 = .ok (.aload_n 0, 1) := by decide +kernel
theorem dX2_fillPlace_46 : decode cX2_fillPlace 46 = .ok (.getfield 15, 3) := by decide +kernel
theorem dX2_fillPlace_49 : decode cX2_fillPlace 49 = .ok (.iload 6, 2) := by decide +kernel
theorem dX2_fillPlace_51 : decode cX2_fillPlace 51 = .ok (.laload, 1) := by decide +kernel
theorem dX2_fillPlace_52 : decode cX2_fillPlace 52 = .ok (.invokestatic 62, 3) := by decide +kernel
theorem dX2_fillPlace_55 : decode cX2_fillPlace 55 = .ok (.lstore_n 3, 1) := by decide +kernel
theorem dX2_fillPlace_56 : decode cX2_fillPlace 56 = .ok (.iinc 6 1, 3) := by decide +kernel
theorem dX2_fillPlace_59 : decode cX2_fillPlace 59 = .ok (.goto (-31), 3) := by decide +kernel
theorem dX2_fillPlace_62 : decode cX2_fillPlace 62 = .ok (.lload_n 3, 1) := by decide +kernel
theorem dX2_fillPlace_63 : decode cX2_fillPlace 63 = .ok (.lconst 0, 1) := by decide +kernel
theorem dX2_fillPlace_64 : decode cX2_fillPlace 64 = .ok (.lcmp, 1) := by decide +kernel
theorem dX2_fillPlace_65 : decode cX2_fillPlace 65 = .ok (.ifCond .ge 5, 3) := by decide +kernel
theorem dX2_fillPlace_68 : decode cX2_fillPlace 68 = .ok (.iconst 0, 1) := by decide +kernel
theorem dX2_fillPlace_69 : decode cX2_fillPlace 69 = .ok (.ireturn, 1) := by decide +kernel
theorem dX2_fillPlace_70 : decode cX2_fillPlace 70 = .ok (.aload_n 0, 1) := by decide +kernel
theorem dX2_fillPlace_71 : decode cX2_fillPlace 71 = .ok (.getfield 9, 3) := by decide +kernel
theorem dX2_fillPlace_74 : decode cX2_fillPlace 74 = .ok (.iload_n 1, 1) := by decide +kernel
theorem dX2_fillPlace_75 : decode cX2_fillPlace 75 = .ok (.iconst 4, 1) := by decide +kernel
theorem dX2_fillPlace_76 : decode cX2_fillPlace 76 = .ok (.imul, 1) := by decide +kernel
theorem dX2_fillPlace_77 : decode cX2_fillPlace 77 = .ok (.iload_n 2, 1) := by decide +kernel
theorem dX2_fillPlace_78 : decode cX2_fillPlace 78 = .ok (.iadd, 1) := by decide +kernel
theorem dX2_fillPlace_79 : decode cX2_fillPlace 79 = .ok (.lload_n 3, 1) := by decide +kernel
theorem dX2_fillPlace_80 : decode cX2_fillPlace 80 = .ok (.lastore, 1) := by decide +kernel
theorem dX2_fillPlace_81 : decode cX2_fillPlace 81 = .ok (.iinc 2 1, 3) := by decide +kernel
theorem dX2_fillPlace_84 : decode cX2_fillPlace 84 = .ok (.goto (-77), 3) := by decide +kernel
theorem dX2_fillPlace_87 : decode cX2_fillPlace 87 = .ok (.iconst 1, 1) := by decide +kernel
theorem dX2_fillPlace_88 : decode cX2_fillPlace 88 = .ok (.ireturn, 1) := by decide +kernel
theorem dX2_gatherBySlot_0 : decode cX2_gatherBySlot 0 = .ok (.aload_n 0, 1) := by decide +kernel
theorem dX2_gatherBySlot_1 : decode cX2_gatherBySlot 1 = .ok (.getfield 15, 3) := by decide +kernel
theorem dX2_gatherBySlot_4 : decode cX2_gatherBySlot 4 = .ok (.lconst 0, 1) := by decide +kernel
theorem dX2_gatherBySlot_5 : decode cX2_gatherBySlot 5 = .ok (.invokestatic 66, 3) := by decide +kernel
theorem dX2_gatherBySlot_8 : decode cX2_gatherBySlot 8 = .ok (.iconst 0, 1) := by decide +kernel
theorem dX2_gatherBySlot_9 : decode cX2_gatherBySlot 9 = .ok (.istore_n 2, 1) := by decide +kernel
theorem dX2_gatherBySlot_10 : decode cX2_gatherBySlot 10 = .ok (.iload_n 2, 1) := by decide +kernel
theorem dX2_gatherBySlot_11 : decode cX2_gatherBySlot 11 = .ok (.aload_n 0, 1) := by decide +kernel
theorem dX2_gatherBySlot_12 : decode cX2_gatherBySlot 12 = .ok (.getfield 22, 3) := by decide +kernel
theorem dX2_gatherBySlot_15 : decode cX2_gatherBySlot 15 = .ok (.getfield 72, 3) := by decide +kernel
theorem dX2_gatherBySlot_18 : decode cX2_gatherBySlot 18 = .ok (.if_icmp .ge 77, 3) := by decide +kernel
theorem dX2_gatherBySlot_21 : decode cX2_gatherBySlot 21 = .ok (.aload_n 0, 1) := by decide +kernel
theorem dX2_gatherBySlot_22 : decode cX2_gatherBySlot 22 = .ok (.getfield 26, 3) := by decide +kernel
theorem dX2_gatherBySlot_25 : decode cX2_gatherBySlot 25 = .ok (.iload_n 1, 1) := by decide +kernel
theorem dX2_gatherBySlot_26 : decode cX2_gatherBySlot 26 = .ok (.iload_n 2, 1) := by decide +kernel
theorem dX2_gatherBySlot_27 : decode cX2_gatherBySlot 27 = .ok (.invokevirtual 75, 3) := by decide +kernel
theorem dX2_gatherBySlot_30 : decode cX2_gatherBySlot 30 = .ok (.istore_n 3, 1) := by decide +kernel
theorem dX2_gatherBySlot_31 : decode cX2_gatherBySlot 31 = .ok (.iload_n 3, 1) := by decide +kernel
theorem dX2_gatherBySlot_32 : decode cX2_gatherBySlot 32 = .ok (.ifCond .le 57, 3) := by decide +kernel
theorem dX2_gatherBySlot_35 : decode cX2_gatherBySlot 35 = .ok (.aload_n 0, 1) := by decide +kernel
theorem dX2_gatherBySlot_36 : decode cX2_gatherBySlot 36 = .ok (.getfield 22, 3) := by decide +kernel
theorem dX2_gatherBySlot_39 : decode cX2_gatherBySlot 39 = .ok (.getfield 78, 3) := by decide +kernel
theorem dX2_gatherBySlot_42 : decode cX2_gatherBySlot 42 = .ok (.iload_n 2, 1) := by decide +kernel
theorem dX2_gatherBySlot_43 : decode cX2_gatherBySlot 43 = .ok (.iaload, 1) := by decide +kernel
theorem dX2_gatherBySlot_44 : decode cX2_gatherBySlot 44 = .ok (.istore 4, 2) := by decide +kernel
theorem dX2_gatherBySlot_46 : decode cX2_gatherBySlot 46 = .ok (.aload_n 0, 1) := by decide +kernel
theorem dX2_gatherBySlot_47 : decode cX2_gatherBySlot 47 = .ok (.getfield 15, 3) := by decide +kernel
theorem dX2_gatherBySlot_50 : decode cX2_gatherBySlot 50 = .ok (.iload 4, 2) := by decide +kernel
theorem dX2_gatherBySlot_52 : decode cX2_gatherBySlot 52 = .ok (.aload_n 0, 1) := by decide +kernel
theorem dX2_gatherBySlot_53 : decode cX2_gatherBySlot 53 = .ok (.getfield 15, 3) := by decide +kernel
theorem dX2_gatherBySlot_56 : decode cX2_gatherBySlot 56 = .ok (.iload 4, 2) := by decide +kernel
theorem dX2_gatherBySlot_58 : decode cX2_gatherBySlot 58 = .ok (.laload, 1) := by decide +kernel
theorem dX2_gatherBySlot_59 : decode cX2_gatherBySlot 59 = .ok (.aload_n 0, 1) := by decide +kernel
theorem dX2_gatherBySlot_60 : decode cX2_gatherBySlot 60 = .ok (.getfield 22, 3) := by decide +kernel
theorem dX2_gatherBySlot_63 : decode cX2_gatherBySlot 63 = .ok (.aload_n 0, 1) := by decide +kernel
theorem dX2_gatherBySlot_64 : decode cX2_gatherBySlot 64 = .ok (.getfield 30, 3) := by decide +kernel
theorem dX2_gatherBySlot_67 : decode cX2_gatherBySlot 67 = .ok (.iload_n 2, 1) := by decide +kernel
theorem dX2_gatherBySlot_68 : decode cX2_gatherBySlot 68 = .ok (.invokevirtual 81, 3) := by decide +kernel
theorem dX2_gatherBySlot_71 : decode cX2_gatherBySlot 71 = .ok (.aload_n 0, 1) := by decide +kernel
theorem dX2_gatherBySlot_72 : decode cX2_gatherBySlot 72 = .ok (.getfield 9, 3) := by decide +kernel
theorem dX2_gatherBySlot_75 : decode cX2_gatherBySlot 75 = .ok (.iload_n 3, 1) := by decide +kernel
theorem dX2_gatherBySlot_76 : decode cX2_gatherBySlot 76 = .ok (.iconst 4, 1) := by decide +kernel
theorem dX2_gatherBySlot_77 : decode cX2_gatherBySlot 77 = .ok (.imul, 1) := by decide +kernel
theorem dX2_gatherBySlot_78 : decode cX2_gatherBySlot 78 = .ok (.iload 4, 2) := by decide +kernel
theorem dX2_gatherBySlot_80 : decode cX2_gatherBySlot 80 = .ok (.iadd, 1) := by decide +kernel
theorem dX2_gatherBySlot_81 : decode cX2_gatherBySlot 81 = .ok (.laload, 1) := by decide +kernel
theorem dX2_gatherBySlot_82 : decode cX2_gatherBySlot 82 = .ok (.invokestatic 85, 3) := by decide +kernel
theorem dX2_gatherBySlot_85 : decode cX2_gatherBySlot 85 = .ok (.invokestatic 62, 3) := by decide +kernel
theorem dX2_gatherBySlot_88 : decode cX2_gatherBySlot 88 = .ok (.lastore, 1) := by decide +kernel
theorem dX2_gatherBySlot_89 : decode cX2_gatherBySlot 89 = .ok (.iinc 2 1, 3) := by decide +kernel
theorem dX2_gatherBySlot_92 : decode cX2_gatherBySlot 92 = .ok (.goto (-82), 3) := by decide +kernel
theorem dX2_gatherBySlot_95 : decode cX2_gatherBySlot 95 = .ok (.return_, 1) := by decide +kernel
theorem dX2_plus_0 : decode cX2_plus 0 = .ok (.lload_n 0, 1) := by decide +kernel
theorem dX2_plus_1 : decode cX2_plus 1 = .ok (.lconst 0, 1) := by decide +kernel
theorem dX2_plus_2 : decode cX2_plus 2 = .ok (.lcmp, 1) := by decide +kernel
theorem dX2_plus_3 : decode cX2_plus 3 = .ok (.ifCond .lt 9, 3) := by decide +kernel
theorem dX2_plus_6 : decode cX2_plus 6 = .ok (.lload_n 2, 1) := by decide +kernel
theorem dX2_plus_7 : decode cX2_plus 7 = .ok (.lconst 0, 1) := by decide +kernel
theorem dX2_plus_8 : decode cX2_plus 8 = .ok (.lcmp, 1) := by decide +kernel
theorem dX2_plus_9 : decode cX2_plus 9 = .ok (.ifCond .ge 7, 3) := by decide +kernel
theorem dX2_plus_12 : decode cX2_plus 12 = .ok (.ldc2_w 52, 3) := by decide +kernel
theorem dX2_plus_15 : decode cX2_plus 15 = .ok (.lreturn, 1) := by decide +kernel
theorem dX2_plus_16 : decode cX2_plus 16 = .ok (.lload_n 0, 1) := by decide +kernel
theorem dX2_plus_17 : decode cX2_plus 17 = .ok (.ldc2_w 88, 3) := by decide +kernel
theorem dX2_plus_20 : decode cX2_plus 20 = .ok (.lload_n 2, 1) := by decide +kernel
theorem dX2_plus_21 : decode cX2_plus 21 = .ok (.lsub, 1) := by decide +kernel
theorem dX2_plus_22 : decode cX2_plus 22 = .ok (.lcmp, 1) := by decide +kernel
theorem dX2_plus_23 : decode cX2_plus 23 = .ok (.ifCond .le 9, 3) := by decide +kernel
theorem dX2_plus_26 : decode cX2_plus 26 = .ok (.ldc2_w 52, 3) := by decide +kernel
theorem dX2_plus_29 : decode cX2_plus 29 = .ok (.goto 6, 3) := by decide +kernel
theorem dX2_plus_32 : decode cX2_plus 32 = .ok (.lload_n 0, 1) := by decide +kernel
theorem dX2_plus_33 : decode cX2_plus 33 = .ok (.lload_n 2, 1) := by decide +kernel
theorem dX2_plus_34 : decode cX2_plus 34 = .ok (.ladd, 1) := by decide +kernel
theorem dX2_plus_35 : decode cX2_plus 35 = .ok (.lreturn, 1) := by decide +kernel
theorem dX2_times_0 : decode cX2_times 0 = .ok (.lload_n 0, 1) := by decide +kernel
theorem dX2_times_1 : decode cX2_times 1 = .ok (.lconst 1, 1) := by decide +kernel
theorem dX2_times_2 : decode cX2_times 2 = .ok (.lcmp, 1) := by decide +kernel
theorem dX2_times_3 : decode cX2_times 3 = .ok (.ifCond .lt 9, 3) := by decide +kernel
theorem dX2_times_6 : decode cX2_times 6 = .ok (.lload_n 2, 1) := by decide +kernel
theorem dX2_times_7 : decode cX2_times 7 = .ok (.lconst 1, 1) := by decide +kernel
theorem dX2_times_8 : decode cX2_times 8 = .ok (.lcmp, 1) := by decide +kernel
theorem dX2_times_9 : decode cX2_times 9 = .ok (.ifCond .ge 5, 3) := by decide +kernel
theorem dX2_times_12 : decode cX2_times 12 = .ok (.lconst 0, 1) := by decide +kernel
theorem dX2_times_13 : decode cX2_times 13 = .ok (.lreturn, 1) := by decide +kernel
theorem dX2_times_14 : decode cX2_times 14 = .ok (.lload_n 2, 1) := by decide +kernel
theorem dX2_times_15 : decode cX2_times 15 = .ok (.ldc2_w 88, 3) := by decide +kernel
theorem dX2_times_18 : decode cX2_times 18 = .ok (.lload_n 0, 1) := by decide +kernel
theorem dX2_times_19 : decode cX2_times 19 = .ok (.ldiv, 1) := by decide +kernel
theorem dX2_times_20 : decode cX2_times 20 = .ok (.lcmp, 1) := by decide +kernel
theorem dX2_times_21 : decode cX2_times 21 = .ok (.ifCond .le 9, 3) := by decide +kernel
theorem dX2_times_24 : decode cX2_times 24 = .ok (.ldc2_w 52, 3) := by decide +kernel
theorem dX2_times_27 : decode cX2_times 27 = .ok (.goto 6, 3) := by decide +kernel
theorem dX2_times_30 : decode cX2_times 30 = .ok (.lload_n 0, 1) := by decide +kernel
theorem dX2_times_31 : decode cX2_times 31 = .ok (.lload_n 2, 1) := by decide +kernel
theorem dX2_times_32 : decode cX2_times 32 = .ok (.lmul, 1) := by decide +kernel
theorem dX2_times_33 : decode cX2_times 33 = .ok (.lreturn, 1) := by decide +kernel
theorem dX2_shareOf_0 : decode cX2_shareOf 0 = .ok (.aload_n 0, 1) := by decide +kernel
theorem dX2_shareOf_1 : decode cX2_shareOf 1 = .ok (.getfield 26, 3) := by decide +kernel
theorem dX2_shareOf_4 : decode cX2_shareOf 4 = .ok (.iload_n 1, 1) := by decide +kernel
theorem dX2_shareOf_5 : decode cX2_shareOf 5 = .ok (.iload_n 3, 1) := by decide +kernel
theorem dX2_shareOf_6 : decode cX2_shareOf 6 = .ok (.invokevirtual 75, 3) := by decide +kernel
theorem dX2_shareOf_9 : decode cX2_shareOf 9 = .ok (.istore 4, 2) := by decide +kernel
theorem dX2_shareOf_11 : decode cX2_shareOf 11 = .ok (.iload 4, 2) := by decide +kernel
theorem dX2_shareOf_13 : decode cX2_shareOf 13 = .ok (.iconst 1, 1) := by decide +kernel
theorem dX2_shareOf_14 : decode cX2_shareOf 14 = .ok (.if_icmp .lt 27, 3) := by decide +kernel
theorem dX2_shareOf_17 : decode cX2_shareOf 17 = .ok (.aload_n 0, 1) := by decide +kernel
theorem dX2_shareOf_18 : decode cX2_shareOf 18 = .ok (.getfield 22, 3) := by decide +kernel
theorem dX2_shareOf_21 : decode cX2_shareOf 21 = .ok (.iload_n 1, 1) := by decide +kernel
theorem dX2_shareOf_22 : decode cX2_shareOf 22 = .ok (.iload_n 2, 1) := by decide +kernel
theorem dX2_shareOf_23 : decode cX2_shareOf 23 = .ok (.invokevirtual 58, 3) := by decide +kernel
theorem dX2_shareOf_26 : decode cX2_shareOf 26 = .ok (.aload_n 0, 1) := by decide +kernel
theorem dX2_shareOf_27 : decode cX2_shareOf 27 = .ok (.getfield 22, 3) := by decide +kernel
theorem dX2_shareOf_30 : decode cX2_shareOf 30 = .ok (.getfield 78, 3) := by decide +kernel
theorem dX2_shareOf_33 : decode cX2_shareOf 33 = .ok (.iload_n 3, 1) := by decide +kernel
theorem dX2_shareOf_34 : decode cX2_shareOf 34 = .ok (.iaload, 1) := by decide +kernel
theorem dX2_shareOf_35 : decode cX2_shareOf 35 = .ok (.invokestatic 44, 3) := by decide +kernel
theorem dX2_shareOf_38 : decode cX2_shareOf 38 = .ok (.ifCond .ne 5, 3) := by decide +kernel
theorem dX2_shareOf_41 : decode cX2_shareOf 41 = .ok (.lconst 0, 1) := by decide +kernel
theorem dX2_shareOf_42 : decode cX2_shareOf 42 = .ok (.lreturn, 1) := by decide +kernel
theorem dX2_shareOf_43 : decode cX2_shareOf 43 = .ok (.aload_n 0, 1) := by decide +kernel
theorem dX2_shareOf_44 : decode cX2_shareOf 44 = .ok (.getfield 22, 3) := by decide +kernel
theorem dX2_shareOf_47 : decode cX2_shareOf 47 = .ok (.aload_n 0, 1) := by decide +kernel
theorem dX2_shareOf_48 : decode cX2_shareOf 48 = .ok (.getfield 30, 3) := by decide +kernel
theorem dX2_shareOf_51 : decode cX2_shareOf 51 = .ok (.iload_n 3, 1) := by decide +kernel
theorem dX2_shareOf_52 : decode cX2_shareOf 52 = .ok (.invokevirtual 81, 3) := by decide +kernel
theorem dX2_shareOf_55 : decode cX2_shareOf 55 = .ok (.aload_n 0, 1) := by decide +kernel
theorem dX2_shareOf_56 : decode cX2_shareOf 56 = .ok (.getfield 9, 3) := by decide +kernel
theorem dX2_shareOf_59 : decode cX2_shareOf 59 = .ok (.iload 4, 2) := by decide +kernel
theorem dX2_shareOf_61 : decode cX2_shareOf 61 = .ok (.iconst 4, 1) := by decide +kernel
theorem dX2_shareOf_62 : decode cX2_shareOf 62 = .ok (.imul, 1) := by decide +kernel
theorem dX2_shareOf_63 : decode cX2_shareOf 63 = .ok (.aload_n 0, 1) := by decide +kernel
theorem dX2_shareOf_64 : decode cX2_shareOf 64 = .ok (.getfield 22, 3) := by decide +kernel
theorem dX2_shareOf_67 : decode cX2_shareOf 67 = .ok (.getfield 78, 3) := by decide +kernel
theorem dX2_shareOf_70 : decode cX2_shareOf 70 = .ok (.iload_n 3, 1) := by decide +kernel
theorem dX2_shareOf_71 : decode cX2_shareOf 71 = .ok (.iaload, 1) := by decide +kernel
theorem dX2_shareOf_72 : decode cX2_shareOf 72 = .ok (.iadd, 1) := by decide +kernel
theorem dX2_shareOf_73 : decode cX2_shareOf 73 = .ok (.laload, 1) := by decide +kernel
theorem dX2_shareOf_74 : decode cX2_shareOf 74 = .ok (.invokestatic 85, 3) := by decide +kernel
theorem dX2_shareOf_77 : decode cX2_shareOf 77 = .ok (.lreturn, 1) := by decide +kernel
theorem dX2_findRow_0 : decode cX2_findRow 0 = .ok (.aload_n 0, 1) := by decide +kernel
theorem dX2_findRow_1 : decode cX2_findRow 1 = .ok (.lload_n 1, 1) := by decide +kernel
theorem dX2_findRow_2 : decode cX2_findRow 2 = .ok (.putfield 90, 3) := by decide +kernel
theorem dX2_findRow_5 : decode cX2_findRow 5 = .ok (.aload_n 0, 1) := by decide +kernel
theorem dX2_findRow_6 : decode cX2_findRow 6 = .ok (.iconst 0, 1) := by decide +kernel
theorem dX2_findRow_7 : decode cX2_findRow 7 = .ok (.putfield 94, 3) := by decide +kernel
theorem dX2_findRow_10 : decode cX2_findRow 10 = .ok (.iconst 0, 1) := by decide +kernel
theorem dX2_findRow_11 : decode cX2_findRow 11 = .ok (.istore_n 3, 1) := by decide +kernel
theorem dX2_findRow_12 : decode cX2_findRow 12 = .ok (.iconst 0, 1) := by decide +kernel
theorem dX2_findRow_13 : decode cX2_findRow 13 = .ok (.istore 4, 2) := by decide +kernel
theorem dX2_findRow_15 : decode cX2_findRow 15 = .ok (.iload_n 3, 1) := by decide +kernel
theorem dX2_findRow_16 : decode cX2_findRow 16 = .ok (.aload_n 0, 1) := by decide +kernel
theorem dX2_findRow_17 : decode cX2_findRow 17 = .ok (.getfield 26, 3) := by decide +kernel
theorem dX2_findRow_20 : decode cX2_findRow 20 = .ok (.getfield 34, 3) := by decide +kernel
theorem dX2_findRow_23 : decode cX2_findRow 23 = .ok (.if_icmp .ge 75, 3) := by decide +kernel
theorem dX2_findRow_26 : decode cX2_findRow 26 = .ok (.aload_n 0, 1) := by decide +kernel
theorem dX2_findRow_27 : decode cX2_findRow 27 = .ok (.getfield 94, 3) := by decide +kernel
theorem dX2_findRow_30 : decode cX2_findRow 30 = .ok (.aload_n 0, 1) := by decide +kernel
theorem dX2_findRow_31 : decode cX2_findRow 31 = .ok (.getfield 18, 3) := by decide +kernel
theorem dX2_findRow_34 : decode cX2_findRow 34 = .ok (.arraylength, 1) := by decide +kernel
theorem dX2_findRow_35 : decode cX2_findRow 35 = .ok (.if_icmp .ge 63, 3) := by decide +kernel
theorem dX2_findRow_38 : decode cX2_findRow 38 = .ok (.aload_n 0, 1) := by decide +kernel
theorem dX2_findRow_39 : decode cX2_findRow 39 = .ok (.iload_n 3, 1) := by decide +kernel
theorem dX2_findRow_40 : decode cX2_findRow 40 = .ok (.iload 4, 2) := by decide +kernel
theorem dX2_findRow_42 : decode cX2_findRow 42 = .ok (.invokevirtual 97, 3) := by decide +kernel
theorem dX2_findRow_45 : decode cX2_findRow 45 = .ok (.istore 5, 2) := by decide +kernel
theorem dX2_findRow_47 : decode cX2_findRow 47 = .ok (.iload 5, 2) := by decide +kernel
theorem dX2_findRow_49 : decode cX2_findRow 49 = .ok (.iconst (-1), 1) := by decide +kernel
theorem dX2_findRow_50 : decode cX2_findRow 50 = .ok (.if_icmp .ne 4, 3) := by decide +kernel
theorem dX2_findRow_53 : decode cX2_findRow 53 = .ok (.return_, 1) := by decide +kernel
theorem dX2_findRow_54 : decode cX2_findRow 54 = .ok (.aload_n 0, 1) := by decide +kernel
theorem dX2_findRow_55 : decode cX2_findRow 55 = .ok (.getfield 18, 3) := by decide +kernel
theorem dX2_findRow_58 : decode cX2_findRow 58 = .ok (.aload_n 0, 1) := by decide +kernel
theorem dX2_findRow_59 : decode cX2_findRow 59 = .ok (.dup, 1) := by decide +kernel
theorem dX2_findRow_60 : decode cX2_findRow 60 = .ok (.getfield 94, 3) := by decide +kernel
theorem dX2_findRow_63 : decode cX2_findRow 63 = .ok (.dup_x1, 1) := by decide +kernel
theorem dX2_findRow_64 : decode cX2_findRow 64 = .ok (.iconst 1, 1) := by decide +kernel
theorem dX2_findRow_65 : decode cX2_findRow 65 = .ok (.iadd, 1) := by decide +kernel
theorem dX2_findRow_66 : decode cX2_findRow 66 = .ok (.putfield 94, 3) := by decide +kernel
theorem dX2_findRow_69 : decode cX2_findRow 69 = .ok (.iload 5, 2) := by decide +kernel
theorem dX2_findRow_71 : decode cX2_findRow 71 = .ok (.iastore, 1) := by decide +kernel
theorem dX2_findRow_72 : decode cX2_findRow 72 = .ok (.aload_n 0, 1) := by decide +kernel
theorem dX2_findRow_73 : decode cX2_findRow 73 = .ok (.getfield 26, 3) := by decide +kernel
theorem dX2_findRow_76 : decode cX2_findRow 76 = .ok (.iload_n 3, 1) := by decide +kernel
theorem dX2_findRow_77 : decode cX2_findRow 77 = .ok (.iload 5, 2) := by decide +kernel
theorem dX2_findRow_79 : decode cX2_findRow 79 = .ok (.invokevirtual 75, 3) := by decide +kernel
theorem dX2_findRow_82 : decode cX2_findRow 82 = .ok (.istore_n 3, 1) := by decide +kernel
theorem dX2_findRow_83 : decode cX2_findRow 83 = .ok (.aload_n 0, 1) := by decide +kernel
theorem dX2_findRow_84 : decode cX2_findRow 84 = .ok (.getfield 22, 3) := by decide +kernel
theorem dX2_findRow_87 : decode cX2_findRow 87 = .ok (.getfield 78, 3) := by decide +kernel
theorem dX2_findRow_90 : decode cX2_findRow 90 = .ok (.iload 5, 2) := by decide +kernel
theorem dX2_findRow_92 : decode cX2_findRow 92 = .ok (.iaload, 1) := by decide +kernel
theorem dX2_findRow_93 : decode cX2_findRow 93 = .ok (.istore 4, 2) := by decide +kernel
theorem dX2_findRow_95 : decode cX2_findRow 95 = .ok (.goto (-80), 3) := by decide +kernel
theorem dX2_findRow_98 : decode cX2_findRow 98 = .ok (.return_, 1) := by decide +kernel
theorem dX2_nextPhrase_0 : decode cX2_nextPhrase 0 = .ok (.iconst 0, 1) := by decide +kernel
theorem dX2_nextPhrase_1 : decode cX2_nextPhrase 1 = .ok (.istore_n 3, 1) := by decide +kernel
theorem dX2_nextPhrase_2 : decode cX2_nextPhrase 2 = .ok (.iload_n 3, 1) := by decide +kernel
theorem dX2_nextPhrase_3 : decode cX2_nextPhrase 3 = .ok (.aload_n 0, 1) := by decide +kernel
theorem dX2_nextPhrase_4 : decode cX2_nextPhrase 4 = .ok (.getfield 22, 3) := by decide +kernel
theorem dX2_nextPhrase_7 : decode cX2_nextPhrase 7 = .ok (.getfield 72, 3) := by decide +kernel
theorem dX2_nextPhrase_10 : decode cX2_nextPhrase 10 = .ok (.if_icmp .ge 66, 3) := by decide +kernel
theorem dX2_nextPhrase_13 : decode cX2_nextPhrase 13 = .ok (.aload_n 0, 1) := by decide +kernel
theorem dX2_nextPhrase_14 : decode cX2_nextPhrase 14 = .ok (.iload_n 1, 1) := by decide +kernel
theorem dX2_nextPhrase_15 : decode cX2_nextPhrase 15 = .ok (.iload_n 2, 1) := by decide +kernel
theorem dX2_nextPhrase_16 : decode cX2_nextPhrase 16 = .ok (.iload_n 3, 1) := by decide +kernel
theorem dX2_nextPhrase_17 : decode cX2_nextPhrase 17 = .ok (.invokevirtual 100, 3) := by decide +kernel
theorem dX2_nextPhrase_20 : decode cX2_nextPhrase 20 = .ok (.lstore 4, 2) := by decide +kernel
theorem dX2_nextPhrase_22 : decode cX2_nextPhrase 22 = .ok (.aload_n 0, 1) := by decide +kernel
theorem dX2_nextPhrase_23 : decode cX2_nextPhrase 23 = .ok (.getfield 90, 3) := by decide +kernel
theorem dX2_nextPhrase_26 : decode cX2_nextPhrase 26 = .ok (.lload 4, 2) := by decide +kernel
theorem dX2_nextPhrase_28 : decode cX2_nextPhrase 28 = .ok (.lcmp, 1) := by decide +kernel
theorem dX2_nextPhrase_29 : decode cX2_nextPhrase 29 = .ok (.ifCond .ge 30, 3) := by decide +kernel
theorem dX2_nextPhrase_32 : decode cX2_nextPhrase 32 = .ok (.aload_n 0, 1) := by decide +kernel
theorem dX2_nextPhrase_33 : decode cX2_nextPhrase 33 = .ok (.dup, 1) := by decide +kernel
theorem dX2_nextPhrase_34 : decode cX2_nextPhrase 34 = .ok (.getfield 90, 3) := by decide +kernel
theorem dX2_nextPhrase_37 : decode cX2_nextPhrase 37 = .ok (.lconst 1, 1) := by decide +kernel
theorem dX2_nextPhrase_38 : decode cX2_nextPhrase 38 = .ok (.aload_n 0, 1) := by decide +kernel
theorem dX2_nextPhrase_39 : decode cX2_nextPhrase 39 = .ok (.getfield 22, 3) := by decide +kernel
theorem dX2_nextPhrase_42 : decode cX2_nextPhrase 42 = .ok (.aload_n 0, 1) := by decide +kernel
theorem dX2_nextPhrase_43 : decode cX2_nextPhrase 43 = .ok (.getfield 30, 3) := by decide +kernel
theorem dX2_nextPhrase_46 : decode cX2_nextPhrase 46 = .ok (.iload_n 3, 1) := by decide +kernel
theorem dX2_nextPhrase_47 : decode cX2_nextPhrase 47 = .ok (.invokevirtual 81, 3) := by decide +kernel
theorem dX2_nextPhrase_50 : decode cX2_nextPhrase 50 = .ok (.invokestatic 104, 3) := by decide +kernel
theorem dX2_nextPhrase_53 : decode cX2_nextPhrase 53 = .ok (.ldiv, 1) := by decide +kernel
theorem dX2_nextPhrase_54 : decode cX2_nextPhrase 54 = .ok (.putfield 90, 3) := by decide +kernel
theorem dX2_nextPhrase_57 : decode cX2_nextPhrase 57 = .ok (.iload_n 3, 1) := by decide +kernel
theorem dX2_nextPhrase_58 : decode cX2_nextPhrase 58 = .ok (.ireturn, 1) := by decide +kernel
theorem dX2_nextPhrase_59 : decode cX2_nextPhrase 59 = .ok (.aload_n 0, 1) := by decide +kernel
theorem dX2_nextPhrase_60 : decode cX2_nextPhrase 60 = .ok (.dup, 1) := by decide +kernel
theorem dX2_nextPhrase_61 : decode cX2_nextPhrase 61 = .ok (.getfield 90, 3) := by decide +kernel
theorem dX2_nextPhrase_64 : decode cX2_nextPhrase 64 = .ok (.lload 4, 2) := by decide +kernel
theorem dX2_nextPhrase_66 : decode cX2_nextPhrase 66 = .ok (.lsub, 1) := by decide +kernel
theorem dX2_nextPhrase_67 : decode cX2_nextPhrase 67 = .ok (.putfield 90, 3) := by decide +kernel
theorem dX2_nextPhrase_70 : decode cX2_nextPhrase 70 = .ok (.iinc 3 1, 3) := by decide +kernel
theorem dX2_nextPhrase_73 : decode cX2_nextPhrase 73 = .ok (.goto (-71), 3) := by decide +kernel
theorem dX2_nextPhrase_76 : decode cX2_nextPhrase 76 = .ok (.iconst (-1), 1) := by decide +kernel
theorem dX2_nextPhrase_77 : decode cX2_nextPhrase 77 = .ok (.ireturn, 1) := by decide +kernel
theorem dX3_init_0 : decode cX3_init 0 = .ok (.aload_n 0, 1) := by decide +kernel
theorem dX3_init_1 : decode cX3_init 1 = .ok (.invokespecial 3, 3) := by decide +kernel
theorem dX3_init_4 : decode cX3_init 4 = .ok (.aload_n 0, 1) := by decide +kernel
theorem dX3_init_5 : decode cX3_init 5 = .ok (.bipush 6, 2) := by decide +kernel
theorem dX3_init_7 : decode cX3_init 7 = .ok (.anewarray 9, 3) := by decide +kernel
theorem dX3_init_10 : decode cX3_init 10 = .ok (.putfield 11, 3) := by decide +kernel
theorem dX3_init_13 : decode cX3_init 13 = .ok (.iconst 0, 1) := by decide +kernel
theorem dX3_init_14 : decode cX3_init 14 = .ok (.istore_n 1, 1) := by decide +kernel
theorem dX3_init_15 : decode cX3_init 15 = .ok (.iload_n 1, 1) := by decide +kernel
theorem dX3_init_16 : decode cX3_init 16 = .ok (.aload_n 0, 1) := by decide +kernel
theorem dX3_init_17 : decode cX3_init 17 = .ok (.getfield 11, 3) := by decide +kernel
theorem dX3_init_20 : decode cX3_init 20 = .ok (.arraylength, 1) := by decide +kernel
theorem dX3_init_21 : decode cX3_init 21 = .ok (.if_icmp .ge 22, 3) := by decide +kernel
theorem dX3_init_24 : decode cX3_init 24 = .ok (.aload_n 0, 1) := by decide +kernel
theorem dX3_init_25 : decode cX3_init 25 = .ok (.getfield 11, 3) := by decide +kernel
theorem dX3_init_28 : decode cX3_init 28 = .ok (.iload_n 1, 1) := by decide +kernel
theorem dX3_init_29 : decode cX3_init 29 = .ok (.new 9, 3) := by decide +kernel
theorem dX3_init_32 : decode cX3_init 32 = .ok (.dup, 1) := by decide +kernel
theorem dX3_init_33 : decode cX3_init 33 = .ok (.invokespecial 17, 3) := by decide +kernel
theorem dX3_init_36 : decode cX3_init 36 = .ok (.aastore, 1) := by decide +kernel
theorem dX3_init_37 : decode cX3_init 37 = .ok (.iinc 1 1, 3) := by decide +kernel
theorem dX3_init_40 : decode cX3_init 40 = .ok (.goto (-25), 3) := by decide +kernel
theorem dX3_init_43 : decode cX3_init 43 = .ok (.return_, 1) := by decide +kernel
theorem dX3_stage_0 : decode cX3_stage 0 = .ok (.aload_n 0, 1) := by decide +kernel
theorem dX3_stage_1 : decode cX3_stage 1 = .ok (.getfield 11, 3) := by decide +kernel
theorem dX3_stage_4 : decode cX3_stage 4 = .ok (.aload_n 0, 1) := by decide +kernel
theorem dX3_stage_5 : decode cX3_stage 5 = .ok (.getfield 18, 3) := by decide +kernel
theorem dX3_stage_8 : decode cX3_stage 8 = .ok (.aaload, 1) := by decide +kernel
theorem dX3_stage_9 : decode cX3_stage 9 = .ok (.aload_n 1, 1) := by decide +kernel
theorem dX3_stage_10 : decode cX3_stage 10 = .ok (.invokevirtual 22, 3) := by decide +kernel
theorem dX3_stage_13 : decode cX3_stage 13 = .ok (.return_, 1) := by decide +kernel
theorem dX3_keepStaged_0 : decode cX3_keepStaged 0 = .ok (.aload_n 0, 1) := by decide +kernel
theorem dX3_keepStaged_1 : decode cX3_keepStaged 1 = .ok (.aload_n 0, 1) := by decide +kernel
theorem dX3_keepStaged_2 : decode cX3_keepStaged 2 = .ok (.getfield 18, 3) := by decide +kernel
theorem dX3_keepStaged_5 : decode cX3_keepStaged 5 = .ok (.iconst 1, 1) := by decide +kernel
theorem dX3_keepStaged_6 : decode cX3_keepStaged 6 = .ok (.iadd, 1) := by decide +kernel
theorem dX3_keepStaged_7 : decode cX3_keepStaged 7 = .ok (.aload_n 0, 1) := by decide +kernel
theorem dX3_keepStaged_8 : decode cX3_keepStaged 8 = .ok (.getfield 11, 3) := by decide +kernel
theorem dX3_keepStaged_11 : decode cX3_keepStaged 11 = .ok (.arraylength, 1) := by decide +kernel
theorem dX3_keepStaged_12 : decode cX3_keepStaged 12 = .ok (.if_icmp .ge 12, 3) := by decide +kernel
theorem dX3_keepStaged_15 : decode cX3_keepStaged 15 = .ok (.aload_n 0, 1) := by decide +kernel
theorem dX3_keepStaged_16 : decode cX3_keepStaged 16 = .ok (.getfield 18, 3) := by decide +kernel
theorem dX3_keepStaged_19 : decode cX3_keepStaged 19 = .ok (.iconst 1, 1) := by decide +kernel
theorem dX3_keepStaged_20 : decode cX3_keepStaged 20 = .ok (.iadd, 1) := by decide +kernel
theorem dX3_keepStaged_21 : decode cX3_keepStaged 21 = .ok (.goto 4, 3) := by decide +kernel
theorem dX3_keepStaged_24 : decode cX3_keepStaged 24 = .ok (.iconst 0, 1) := by decide +kernel
theorem dX3_keepStaged_25 : decode cX3_keepStaged 25 = .ok (.putfield 18, 3) := by decide +kernel
theorem dX3_keepStaged_28 : decode cX3_keepStaged 28 = .ok (.aload_n 0, 1) := by decide +kernel
theorem dX3_keepStaged_29 : decode cX3_keepStaged 29 = .ok (.aload_n 0, 1) := by decide +kernel
theorem dX3_keepStaged_30 : decode cX3_keepStaged 30 = .ok (.getfield 26, 3) := by decide +kernel
theorem dX3_keepStaged_33 : decode cX3_keepStaged 33 = .ok (.iconst 1, 1) := by decide +kernel
theorem dX3_keepStaged_34 : decode cX3_keepStaged 34 = .ok (.iadd, 1) := by decide +kernel
theorem dX3_keepStaged_35 : decode cX3_keepStaged 35 = .ok (.iconst 5, 1) := by decide +kernel
theorem dX3_keepStaged_36 : decode cX3_keepStaged 36 = .ok (.invokestatic 29, 3) := by decide +kernel
theorem dX3_keepStaged_39 : decode cX3_keepStaged 39 = .ok (.putfield 26, 3) := by decide +kernel
theorem dX3_keepStaged_42 : decode cX3_keepStaged 42 = .ok (.return_, 1) := by decide +kernel
theorem dX3_restoreStaged_0 : decode cX3_restoreStaged 0 = .ok (.aload_n 1, 1) := by decide +kernel
theorem dX3_restoreStaged_1 : decode cX3_restoreStaged 1 = .ok (.aload_n 0, 1) := by decide +kernel
theorem dX3_restoreStaged_2 : decode cX3_restoreStaged 2 = .ok (.getfield 11, 3) := by decide +kernel
theorem dX3_restoreStaged_5 : decode cX3_restoreStaged 5 = .ok (.aload_n 0, 1) := by decide +kernel
theorem dX3_restoreStaged_6 : decode cX3_restoreStaged 6 = .ok (.getfield 18, 3) := by decide +kernel
theorem dX3_restoreStaged_9 : decode cX3_restoreStaged 9 = .ok (.aaload, 1) := by decide +kernel
theorem dX3_restoreStaged_10 : decode cX3_restoreStaged 10 = .ok (.invokevirtual 22, 3) := by decide +kernel
theorem dX3_restoreStaged_13 : decode cX3_restoreStaged 13 = .ok (.return_, 1) := by decide +kernel
theorem dX3_restoreLast_0 : decode cX3_restoreLast 0 = .ok (.aload_n 0, 1) := by decide +kernel
theorem dX3_restoreLast_1 : decode cX3_restoreLast 1 = .ok (.getfield 26, 3) := by decide +kernel
theorem dX3_restoreLast_4 : decode cX3_restoreLast 4 = .ok (.ifCond .le 45, 3) := by decide +kernel
theorem dX3_restoreLast_7 : decode cX3_restoreLast 7 = .ok (.aload_n 0, 1) := by decide +kernel
theorem dX3_restoreLast_8 : decode cX3_restoreLast 8 = .ok (.dup, 1) := by decide +kernel
theorem dX3_restoreLast_9 : decode cX3_restoreLast 9 = .ok (.getfield 26, 3) := by decide +kernel
theorem dX3_restoreLast_12 : decode cX3_restoreLast 12 = .ok (.iconst 1, 1) := by decide +kernel
theorem dX3_restoreLast_13 : decode cX3_restoreLast 13 = .ok (.isub, 1) := by decide +kernel
theorem dX3_restoreLast_14 : decode cX3_restoreLast 14 = .ok (.putfield 26, 3) := by decide +kernel
theorem dX3_restoreLast_17 : decode cX3_restoreLast 17 = .ok (.aload_n 0, 1) := by decide +kernel
theorem dX3_restoreLast_18 : decode cX3_restoreLast 18 = .ok (.aload_n 0, 1) := by decide +kernel
theorem dX3_restoreLast_19 : decode cX3_restoreLast 19 = .ok (.getfield 18, 3) := by decide +kernel
theorem dX3_restoreLast_22 : decode cX3_restoreLast 22 = .ok (.ifCond .le 12, 3) := by decide +kernel
theorem dX3_restoreLast_25 : decode cX3_restoreLast 25 = .ok (.aload_n 0, 1) := by decide +kernel
theorem dX3_restoreLast_26 : decode cX3_restoreLast 26 = .ok (.getfield 18, 3) := by decide +kernel
theorem dX3_restoreLast_29 : decode cX3_restoreLast 29 = .ok (.iconst 1, 1) := by decide +kernel
theorem dX3_restoreLast_30 : decode cX3_restoreLast 30 = .ok (.isub, 1) := by decide +kernel
theorem dX3_restoreLast_31 : decode cX3_restoreLast 31 = .ok (.goto 10, 3) := by decide +kernel
theorem dX3_restoreLast_34 : decode cX3_restoreLast 34 = .ok (.aload_n 0, 1) := by decide +kernel
theorem dX3_restoreLast_35 : decode cX3_restoreLast 35 = .ok (.getfield 11, 3) := by decide +kernel
theorem dX3_restoreLast_38 : decode cX3_restoreLast 38 = .ok (.arraylength, 1) := by decide +kernel
theorem dX3_restoreLast_39 : decode cX3_restoreLast 39 = .ok (.iconst 1, 1) := by decide +kernel
theorem dX3_restoreLast_40 : decode cX3_restoreLast 40 = .ok (.isub, 1) := by decide +kernel
theorem dX3_restoreLast_41 : decode cX3_restoreLast 41 = .ok (.putfield 18, 3) := by decide +kernel
theorem dX3_restoreLast_44 : decode cX3_restoreLast 44 = .ok (.aload_n 0, 1) := by decide +kernel
theorem dX3_restoreLast_45 : decode cX3_restoreLast 45 = .ok (.aload_n 1, 1) := by decide +kernel
theorem dX3_restoreLast_46 : decode cX3_restoreLast 46 = .ok (.invokevirtual 35, 3) := by decide +kernel
theorem dX3_restoreLast_49 : decode cX3_restoreLast 49 = .ok (.return_, 1) := by decide +kernel
theorem dX5_init_0 : decode cX5_init 0 = .ok (.aload_n 0, 1) := by decide +kernel
theorem dX5_init_1 : decode cX5_init 1 = .ok (.invokespecial 3, 3) := by decide +kernel
theorem dX5_init_4 : decode cX5_init 4 = .ok (.aload_n 0, 1) := by decide +kernel
theorem dX5_init_5 : decode cX5_init 5 = .ok (.sipush 150, 3) := by decide +kernel
theorem dX5_init_8 : decode cX5_init 8 = .ok (.newarray .byte, 2) := by decide +kernel
theorem dX5_init_10 : decode cX5_init 10 = .ok (.putfield 9, 3) := by decide +kernel
theorem dX5_init_13 : decode cX5_init 13 = .ok (.aload_n 0, 1) := by decide +kernel
theorem dX5_init_14 : decode cX5_init 14 = .ok (.iconst 2, 1) := by decide +kernel
theorem dX5_init_15 : decode cX5_init 15 = .ok (.newarray .int, 2) := by decide +kernel
theorem dX5_init_17 : decode cX5_init 17 = .ok (.putfield 15, 3) := by decide +kernel
theorem dX5_init_20 : decode cX5_init 20 = .ok (.aload_n 0, 1) := by decide +kernel
theorem dX5_init_21 : decode cX5_init 21 = .ok (.bipush 40, 2) := by decide +kernel
theorem dX5_init_23 : decode cX5_init 23 = .ok (.newarray .int, 2) := by decide +kernel
theorem dX5_init_25 : decode cX5_init 25 = .ok (.putfield 19, 3) := by decide +kernel
theorem dX5_init_28 : decode cX5_init 28 = .ok (.return_, 1) := by decide +kernel
theorem dX5_addByte_0 : decode cX5_addByte 0 = .ok (.iload_n 1, 1) := by decide +kernel
theorem dX5_addByte_1 : decode cX5_addByte 1 = .ok (.iconst 0, 1) := by decide +kernel
theorem dX5_addByte_2 : decode cX5_addByte 2 = .ok (.bipush 127, 2) := by decide +kernel
theorem dX5_addByte_4 : decode cX5_addByte 4 = .ok (.invokestatic 22, 3) := by decide +kernel
theorem dX5_addByte_7 : decode cX5_addByte 7 = .ok (.ifCond .ne 6, 3) := by decide +kernel
theorem dX5_addByte_10 : decode cX5_addByte 10 = .ok (.bipush (-2), 2) := by decide +kernel
theorem dX5_addByte_12 : decode cX5_addByte 12 = .ok (.ireturn, 1) := by decide +kernel
theorem dX5_addByte_13 : decode cX5_addByte 13 = .ok (.aload_n 0, 1) := by decide +kernel
theorem dX5_addByte_14 : decode cX5_addByte 14 = .ok (.getfield 26, 3) := by decide +kernel
theorem dX5_addByte_17 : decode cX5_addByte 17 = .ok (.sipush 150, 3) := by decide +kernel
theorem dX5_addByte_20 : decode cX5_addByte 20 = .ok (.if_icmp .lt 6, 3) := by decide +kernel
theorem dX5_addByte_23 : decode cX5_addByte 23 = .ok (.bipush (-4), 2) := by decide +kernel
theorem dX5_addByte_25 : decode cX5_addByte 25 = .ok (.ireturn, 1) := by decide +kernel
theorem dX5_addByte_26 : decode cX5_addByte 26 = .ok (.aload_n 0, 1) := by decide +kernel
theorem dX5_addByte_27 : decode cX5_addByte 27 = .ok (.getfield 9, 3) := by decide +kernel
theorem dX5_addByte_30 : decode cX5_addByte 30 = .ok (.aload_n 0, 1) := by decide +kernel
theorem dX5_addByte_31 : decode cX5_addByte 31 = .ok (.dup, 1) := by decide +kernel
theorem dX5_addByte_32 : decode cX5_addByte 32 = .ok (.getfield 26, 3) := by decide +kernel
theorem dX5_addByte_35 : decode cX5_addByte 35 = .ok (.dup_x1, 1) := by decide +kernel
theorem dX5_addByte_36 : decode cX5_addByte 36 = .ok (.iconst 1, 1) := by decide +kernel
theorem dX5_addByte_37 : decode cX5_addByte 37 = .ok (.iadd, 1) := by decide +kernel
theorem dX5_addByte_38 : decode cX5_addByte 38 = .ok (.putfield 26, 3) := by decide +kernel
theorem dX5_addByte_41 : decode cX5_addByte 41 = .ok (.iload_n 1, 1) := by decide +kernel
theorem dX5_addByte_42 : decode cX5_addByte 42 = .ok (.i2b, 1) := by decide +kernel
theorem dX5_addByte_43 : decode cX5_addByte 43 = .ok (.bastore, 1) := by decide +kernel
theorem dX5_addByte_44 : decode cX5_addByte 44 = .ok (.aload_n 0, 1) := by decide +kernel
theorem dX5_addByte_45 : decode cX5_addByte 45 = .ok (.getfield 26, 3) := by decide +kernel
theorem dX5_addByte_48 : decode cX5_addByte 48 = .ok (.ireturn, 1) := by decide +kernel
theorem dX5_wipeBytes_0 : decode cX5_wipeBytes 0 = .ok (.aload_n 0, 1) := by decide +kernel
theorem dX5_wipeBytes_1 : decode cX5_wipeBytes 1 = .ok (.getfield 26, 3) := by decide +kernel
theorem dX5_wipeBytes_4 : decode cX5_wipeBytes 4 = .ok (.istore_n 1, 1) := by decide +kernel
theorem dX5_wipeBytes_5 : decode cX5_wipeBytes 5 = .ok (.aload_n 0, 1) := by decide +kernel
theorem dX5_wipeBytes_6 : decode cX5_wipeBytes 6 = .ok (.iconst 0, 1) := by decide +kernel
theorem dX5_wipeBytes_7 : decode cX5_wipeBytes 7 = .ok (.putfield 26, 3) := by decide +kernel
theorem dX5_wipeBytes_10 : decode cX5_wipeBytes 10 = .ok (.iload_n 1, 1) := by decide +kernel
theorem dX5_wipeBytes_11 : decode cX5_wipeBytes 11 = .ok (.ireturn, 1) := by decide +kernel
theorem dX5_rewind_0 : decode cX5_rewind 0 = .ok (.aload_n 0, 1) := by decide +kernel
theorem dX5_rewind_1 : decode cX5_rewind 1 = .ok (.iconst 0, 1) := by decide +kernel
theorem dX5_rewind_2 : decode cX5_rewind 2 = .ok (.putfield 30, 3) := by decide +kernel
theorem dX5_rewind_5 : decode cX5_rewind 5 = .ok (.aload_n 0, 1) := by decide +kernel
theorem dX5_rewind_6 : decode cX5_rewind 6 = .ok (.invokevirtual 33, 3) := by decide +kernel
theorem dX5_rewind_9 : decode cX5_rewind 9 = .ok (.return_, 1) := by decide +kernel
theorem dX5_findFault_0 : decode cX5_findFault 0 = .ok (.aload_n 0, 1) := by decide +kernel
theorem dX5_findFault_1 : decode cX5_findFault 1 = .ok (.invokevirtual 36, 3) := by decide +kernel
theorem dX5_findFault_4 : decode cX5_findFault 4 = .ok (.aload_n 0, 1) := by decide +kernel
theorem dX5_findFault_5 : decode cX5_findFault 5 = .ok (.getfield 30, 3) := by decide +kernel
theorem dX5_findFault_8 : decode cX5_findFault 8 = .ok (.aload_n 0, 1) := by decide +kernel
theorem dX5_findFault_9 : decode cX5_findFault 9 = .ok (.getfield 26, 3) := by decide +kernel
theorem dX5_findFault_12 : decode cX5_findFault 12 = .ok (.if_icmp .ge 7, 3) := by decide +kernel
theorem dX5_findFault_15 : decode cX5_findFault 15 = .ok (.iconst 1, 1) := by decide +kernel
theorem dX5_findFault_16 : decode cX5_findFault 16 = .ok (.goto 4, 3) := by decide +kernel
theorem dX5_findFault_19 : decode cX5_findFault 19 = .ok (.iconst 0, 1) := by decide +kernel
theorem dX5_findFault_20 : decode cX5_findFault 20 = .ok (.istore_n 1, 1) := by decide +kernel
theorem dX5_findFault_21 : decode cX5_findFault 21 = .ok (.iconst 0, 1) := by decide +kernel
theorem dX5_findFault_22 : decode cX5_findFault 22 = .ok (.istore_n 2, 1) := by decide +kernel
theorem dX5_findFault_23 : decode cX5_findFault 23 = .ok (.iload_n 1, 1) := by decide +kernel
theorem dX5_findFault_24 : decode cX5_findFault 24 = .ok (.ifCond .eq 32, 3) := by decide +kernel
theorem dX5_findFault_27 : decode cX5_findFault 27 = .ok (.aload_n 0, 1) := by decide +kernel
theorem dX5_findFault_28 : decode cX5_findFault 28 = .ok (.getfield 30, 3) := by decide +kernel
theorem dX5_findFault_31 : decode cX5_findFault 31 = .ok (.aload_n 0, 1) := by decide +kernel
theorem dX5_findFault_32 : decode cX5_findFault 32 = .ok (.getfield 26, 3) := by decide +kernel
theorem dX5_findFault_35 : decode cX5_findFault 35 = .ok (.if_icmp .ge 21, 3) := by decide +kernel
theorem dX5_findFault_38 : decode cX5_findFault 38 = .ok (.iload_n 2, 1) := by decide +kernel
theorem dX5_findFault_39 : decode cX5_findFault 39 = .ok (.sipush 150, 3) := by decide +kernel
theorem dX5_findFault_42 : decode cX5_findFault 42 = .ok (.if_icmp .ge 14, 3) := by decide +kernel
theorem dX5_findFault_45 : decode cX5_findFault 45 = .ok (.aload_n 0, 1) := by decide +kernel
theorem dX5_findFault_46 : decode cX5_findFault 46 = .ok (.invokevirtual 39, 3) := by decide +kernel
theorem dX5_findFault_49 : decode cX5_findFault 49 = .ok (.istore_n 1, 1) := by decide +kernel
theorem dX5_findFault_50 : decode cX5_findFault 50 = .ok (.iinc 2 1, 3) := by decide +kernel
theorem dX5_findFault_53 : decode cX5_findFault 53 = .ok (.goto (-30), 3) := by decide +kernel
theorem dX5_findFault_56 : decode cX5_findFault 56 = .ok (.iload_n 1, 1) := by decide +kernel
theorem dX5_findFault_57 : decode cX5_findFault 57 = .ok (.ifCond .eq 7, 3) := by decide +kernel
theorem dX5_findFault_60 : decode cX5_findFault 60 = .ok (.iconst (-1), 1) := by decide +kernel
theorem dX5_findFault_61 : decode cX5_findFault 61 = .ok (.goto 7, 3) := by decide +kernel
theorem dX5_findFault_64 : decode cX5_findFault 64 = .ok (.aload_n 0, 1) := by decide +kernel
theorem dX5_findFault_65 : decode cX5_findFault 65 = .ok (.getfield 30, 3) := by decide +kernel
theorem dX5_findFault_68 : decode cX5_findFault 68 = .ok (.ireturn, 1) := by decide +kernel
theorem dX5_readOrder_0 : decode cX5_readOrder 0 = .ok (.aload_n 0, 1) := by decide +kernel
theorem dX5_readOrder_1 : decode cX5_readOrder 1 = .ok (.aload_n 0, 1) := by decide +kernel
theorem dX5_readOrder_2 : decode cX5_readOrder 2 = .ok (.invokevirtual 43, 3) := by decide +kernel
theorem dX5_readOrder_5 : decode cX5_readOrder 5 = .ok (.putfield 47, 3) := by decide +kernel
theorem dX5_readOrder_8 : decode cX5_readOrder 8 = .ok (.aload_n 0, 1) := by decide +kernel
theorem dX5_readOrder_9 : decode cX5_readOrder 9 = .ok (.getfield 47, 3) := by decide +kernel
theorem dX5_readOrder_12 : decode cX5_readOrder 12 = .ok (.invokestatic 50, 3) := by decide +kernel
theorem dX5_readOrder_15 : decode cX5_readOrder 15 = .ok (.istore_n 1, 1) := by decide +kernel
theorem dX5_readOrder_16 : decode cX5_readOrder 16 = .ok (.iload_n 1, 1) := by decide +kernel
theorem dX5_readOrder_17 : decode cX5_readOrder 17 = .ok (.iconst (-1), 1) := by decide +kernel
theorem dX5_readOrder_18 : decode cX5_readOrder 18 = .ok (.if_icmp .ne 5, 3) := by decide +kernel
theorem dX5_readOrder_21 : decode cX5_readOrder 21 = .ok (.iconst 0, 1) := by decide +kernel
theorem dX5_readOrder_22 : decode cX5_readOrder 22 = .ok (.ireturn, 1) := by decide +kernel
theorem dX5_readOrder_23 : decode cX5_readOrder 23 = .ok (.aload_n 0, 1) := by decide +kernel
theorem dX5_readOrder_24 : decode cX5_readOrder 24 = .ok (.dup, 1) := by decide +kernel
theorem dX5_readOrder_25 : decode cX5_readOrder 25 = .ok (.getfield 30, 3) := by decide +kernel
theorem dX5_readOrder_28 : decode cX5_readOrder 28 = .ok (.iconst 1, 1) := by decide +kernel
theorem dX5_readOrder_29 : decode cX5_readOrder 29 = .ok (.iadd, 1) := by decide +kernel
theorem dX5_readOrder_30 : decode cX5_readOrder 30 = .ok (.putfield 30, 3) := by decide +kernel
theorem dX5_readOrder_33 : decode cX5_readOrder 33 = .ok (.iconst 0, 1) := by decide +kernel
theorem dX5_readOrder_34 : decode cX5_readOrder 34 = .ok (.istore_n 2, 1) := by decide +kernel
theorem dX5_readOrder_35 : decode cX5_readOrder 35 = .ok (.iload_n 2, 1) := by decide +kernel
theorem dX5_readOrder_36 : decode cX5_readOrder 36 = .ok (.iload_n 1, 1) := by decide +kernel
theorem dX5_readOrder_37 : decode cX5_readOrder 37 = .ok (.if_icmp .ge 19, 3) := by decide +kernel
theorem dX5_readOrder_40 : decode cX5_readOrder 40 = .ok (.aload_n 0, 1) := by decide +kernel
theorem dX5_readOrder_41 : decode cX5_readOrder 41 = .ok (.iload_n 2, 1) := by decide +kernel
theorem dX5_readOrder_42 : decode cX5_readOrder 42 = .ok (.invokevirtual 54, 3) := by decide +kernel
theorem dX5_readOrder_45 : decode cX5_readOrder 45 = .ok (.ifCond .ne 5, 3) := by decide +kernel
theorem dX5_readOrder_48 : decode cX5_readOrder 48 = .ok (.iconst 0, 1) := by decide +kernel
theorem dX5_readOrder_49 : decode cX5_readOrder 49 = .ok (.ireturn, 1) := by decide +kernel
theorem dX5_readOrder_50 : decode cX5_readOrder 50 = .ok (.iinc 2 1, 3) := by decide +kernel
theorem dX5_readOrder_53 : decode cX5_readOrder 53 = .ok (.goto (-18), 3) := by decide +kernel
theorem dX5_readOrder_56 : decode cX5_readOrder 56 = .ok (.aload_n 0, 1) := by decide +kernel
theorem dX5_readOrder_57 : decode cX5_readOrder 57 = .ok (.invokevirtual 58, 3) := by decide +kernel
theorem dX5_readOrder_60 : decode cX5_readOrder 60 = .ok (.ifCond .ne 5, 3) := by decide +kernel
theorem dX5_readOrder_63 : decode cX5_readOrder 63 = .ok (.iconst 0, 1) := by decide +kernel
theorem dX5_readOrder_64 : decode cX5_readOrder 64 = .ok (.ireturn, 1) := by decide +kernel
theorem dX5_readOrder_65 : decode cX5_readOrder 65 = .ok (.aload_n 0, 1) := by decide +kernel
theorem dX5_readOrder_66 : decode cX5_readOrder 66 = .ok (.invokevirtual 33, 3) := by decide +kernel
theorem dX5_readOrder_69 : decode cX5_readOrder 69 = .ok (.aload_n 0, 1) := by decide +kernel
theorem dX5_readOrder_70 : decode cX5_readOrder 70 = .ok (.invokevirtual 43, 3) := by decide +kernel
theorem dX5_readOrder_73 : decode cX5_readOrder 73 = .ok (.bipush 59, 2) := by decide +kernel
theorem dX5_readOrder_75 : decode cX5_readOrder 75 = .ok (.if_icmp .eq 5, 3) := by decide +kernel
theorem dX5_readOrder_78 : decode cX5_readOrder 78 = .ok (.iconst 0, 1) := by decide +kernel
theorem dX5_readOrder_79 : decode cX5_readOrder 79 = .ok (.ireturn, 1) := by decide +kernel
theorem dX5_readOrder_80 : decode cX5_readOrder 80 = .ok (.aload_n 0, 1) := by decide +kernel
theorem dX5_readOrder_81 : decode cX5_readOrder 81 = .ok (.dup, 1) := by decide +kernel
theorem dX5_readOrder_82 : decode cX5_readOrder 82 = .ok (.getfield 30, 3) := by decide +kernel
theorem dX5_readOrder_85 : decode cX5_readOrder 85 = .ok (.iconst 1, 1) := by decide +kernel
theorem dX5_readOrder_86 : decode cX5_readOrder 86 = .ok (.iadd, 1) := by decide +kernel
theorem dX5_readOrder_87 : decode cX5_readOrder 87 = .ok (.putfield 30, 3) := by decide +kernel
theorem dX5_readOrder_90 : decode cX5_readOrder 90 = .ok (.aload_n 0, 1) := by decide +kernel
theorem dX5_readOrder_91 : decode cX5_readOrder 91 = .ok (.invokevirtual 33, 3) := by decide +kernel
theorem dX5_readOrder_94 : decode cX5_readOrder 94 = .ok (.iconst 1, 1) := by decide +kernel
theorem dX5_readOrder_95 : decode cX5_readOrder 95 = .ok (.ireturn, 1) := by decide +kernel
theorem dX5_numbersOf_0 : decode cX5_numbersOf 0 = .ok (.iload_n 0, 1) := by decide +kernel
theorem dX5_numbersOf_1 : decode cX5_numbersOf 1 = .ok (.tableswitch 113 98 120 #[109, 113, 113, 109, 109, 113, 113, 113, 113, 111, 107, 113, 113, 113, 113, 113, 113, 109, 109, 113, 113, 111, 109], 107) := by decide +kernel
theorem dX5_numbersOf_108 : decode cX5_numbersOf 108 = .ok (.iconst 0, 1) := by decide +kernel
theorem dX5_numbersOf_109 : decode cX5_numbersOf 109 = .ok (.ireturn, 1) := by decide +kernel
theorem dX5_numbersOf_110 : decode cX5_numbersOf 110 = .ok (.iconst 1, 1) := by decide +kernel
theorem dX5_numbersOf_111 : decode cX5_numbersOf 111 = .ok (.ireturn, 1) := by decide +kernel
theorem dX5_numbersOf_112 : decode cX5_numbersOf 112 = .ok (.iconst 2, 1) := by decide +kernel
theorem dX5_numbersOf_113 : decode cX5_numbersOf 113 = .ok (.ireturn, 1) := by decide +kernel
theorem dX5_numbersOf_114 : decode cX5_numbersOf 114 = .ok (.iconst (-1), 1) := by decide +kernel
theorem dX5_numbersOf_115 : decode cX5_numbersOf 115 = .ok (.ireturn, 1) := by decide +kernel
theorem dX5_readNumber_0 : decode cX5_readNumber 0 = .ok (.aload_n 0, 1) := by decide +kernel
theorem dX5_readNumber_1 : decode cX5_readNumber 1 = .ok (.invokevirtual 33, 3) := by decide +kernel
theorem dX5_readNumber_4 : decode cX5_readNumber 4 = .ok (.aload_n 0, 1) := by decide +kernel
theorem dX5_readNumber_5 : decode cX5_readNumber 5 = .ok (.invokevirtual 43, 3) := by decide +kernel
theorem dX5_readNumber_8 : decode cX5_readNumber 8 = .ok (.invokestatic 61, 3) := by decide +kernel
theorem dX5_readNumber_11 : decode cX5_readNumber 11 = .ok (.ifCond .eq 18, 3) := by decide +kernel
theorem dX5_readNumber_14 : decode cX5_readNumber 14 = .ok (.iload_n 1, 1) := by decide +kernel
theorem dX5_readNumber_15 : decode cX5_readNumber 15 = .ok (.iconst 0, 1) := by decide +kernel
theorem dX5_readNumber_16 : decode cX5_readNumber 16 = .ok (.aload_n 0, 1) := by decide +kernel
theorem dX5_readNumber_17 : decode cX5_readNumber 17 = .ok (.getfield 15, 3) := by decide +kernel
theorem dX5_readNumber_20 : decode cX5_readNumber 20 = .ok (.arraylength, 1) := by decide +kernel
theorem dX5_readNumber_21 : decode cX5_readNumber 21 = .ok (.iconst 1, 1) := by decide +kernel
theorem dX5_readNumber_22 : decode cX5_readNumber 22 = .ok (.isub, 1) := by decide +kernel
theorem dX5_readNumber_23 : decode cX5_readNumber 23 = .ok (.invokestatic 22, 3) := by decide +kernel
theorem dX5_readNumber_26 : decode cX5_readNumber 26 = .ok (.ifCond .ne 5, 3) := by decide +kernel
theorem dX5_readNumber_29 : decode cX5_readNumber 29 = .ok (.iconst 0, 1) := by decide +kernel
theorem dX5_readNumber_30 : decode cX5_readNumber 30 = .ok (.ireturn, 1) := by decide +kernel
theorem dX5_readNumber_31 : decode cX5_readNumber 31 = .ok (.aload_n 0, 1) := by decide +kernel
theorem dX5_readNumber_32 : decode cX5_readNumber 32 = .ok (.invokevirtual 43, 3) := by decide +kernel
theorem dX5_readNumber_35 : decode cX5_readNumber 35 = .ok (.bipush 48, 2) := by decide +kernel
theorem dX5_readNumber_37 : decode cX5_readNumber 37 = .ok (.isub, 1) := by decide +kernel
theorem dX5_readNumber_38 : decode cX5_readNumber 38 = .ok (.istore_n 2, 1) := by decide +kernel
theorem dX5_readNumber_39 : decode cX5_readNumber 39 = .ok (.aload_n 0, 1) := by decide +kernel
theorem dX5_readNumber_40 : decode cX5_readNumber 40 = .ok (.dup, 1) := by decide +kernel
theorem dX5_readNumber_41 : decode cX5_readNumber 41 = .ok (.getfield 30, 3) := by decide +kernel
theorem dX5_readNumber_44 : decode cX5_readNumber 44 = .ok (.iconst 1, 1) := by decide +kernel
theorem dX5_readNumber_45 : decode cX5_readNumber 45 = .ok (.iadd, 1) := by decide +kernel
theorem dX5_readNumber_46 : decode cX5_readNumber 46 = .ok (.putfield 30, 3) := by decide +kernel
theorem dX5_readNumber_49 : decode cX5_readNumber 49 = .ok (.aload_n 0, 1) := by decide +kernel
theorem dX5_readNumber_50 : decode cX5_readNumber 50 = .ok (.invokevirtual 43, 3) := by decide +kernel
theorem dX5_readNumber_53 : decode cX5_readNumber 53 = .ok (.invokestatic 61, 3) := by decide +kernel
theorem dX5_readNumber_56 : decode cX5_readNumber 56 = .ok (.ifCond .eq 26, 3) := by decide +kernel
theorem dX5_readNumber_59 : decode cX5_readNumber 59 = .ok (.iload_n 2, 1) := by decide +kernel
theorem dX5_readNumber_60 : decode cX5_readNumber 60 = .ok (.bipush 10, 2) := by decide +kernel
theorem dX5_readNumber_62 : decode cX5_readNumber 62 = .ok (.imul, 1) := by decide +kernel
theorem dX5_readNumber_63 : decode cX5_readNumber 63 = .ok (.aload_n 0, 1) := by decide +kernel
theorem dX5_readNumber_64 : decode cX5_readNumber 64 = .ok (.invokevirtual 43, 3) := by decide +kernel
theorem dX5_readNumber_67 : decode cX5_readNumber 67 = .ok (.iadd, 1) := by decide +kernel
theorem dX5_readNumber_68 : decode cX5_readNumber 68 = .ok (.bipush 48, 2) := by decide +kernel
theorem dX5_readNumber_70 : decode cX5_readNumber 70 = .ok (.isub, 1) := by decide +kernel
theorem dX5_readNumber_71 : decode cX5_readNumber 71 = .ok (.istore_n 2, 1) := by decide +kernel
theorem dX5_readNumber_72 : decode cX5_readNumber 72 = .ok (.aload_n 0, 1) := by decide +kernel
theorem dX5_readNumber_73 : decode cX5_readNumber 73 = .ok (.dup, 1) := by decide +kernel
theorem dX5_readNumber_74 : decode cX5_readNumber 74 = .ok (.getfield 30, 3) := by decide +kernel
theorem dX5_readNumber_77 : decode cX5_readNumber 77 = .ok (.iconst 1, 1) := by decide +kernel
theorem dX5_readNumber_78 : decode cX5_readNumber 78 = .ok (.iadd, 1) := by decide +kernel
theorem dX5_readNumber_79 : decode cX5_readNumber 79 = .ok (.putfield 30, 3) := by decide +kernel
theorem dX5_readNumber_82 : decode cX5_readNumber 82 = .ok (.aload_n 0, 1) := by decide +kernel
theorem dX5_readNumber_83 : decode cX5_readNumber 83 = .ok (.getfield 15, 3) := by decide +kernel
theorem dX5_readNumber_86 : decode cX5_readNumber 86 = .ok (.iload_n 1, 1) := by decide +kernel
theorem dX5_readNumber_87 : decode cX5_readNumber 87 = .ok (.iload_n 2, 1) := by decide +kernel
theorem dX5_readNumber_88 : decode cX5_readNumber 88 = .ok (.iastore, 1) := by decide +kernel
theorem dX5_readNumber_89 : decode cX5_readNumber 89 = .ok (.aload_n 0, 1) := by decide +kernel
theorem dX5_readNumber_90 : decode cX5_readNumber 90 = .ok (.invokevirtual 43, 3) := by decide +kernel
theorem dX5_readNumber_93 : decode cX5_readNumber 93 = .ok (.invokestatic 61, 3) := by decide +kernel
theorem dX5_readNumber_96 : decode cX5_readNumber 96 = .ok (.ifCond .ne 7, 3) := by decide +kernel
theorem dX5_readNumber_99 : decode cX5_readNumber 99 = .ok (.iconst 1, 1) := by decide +kernel
theorem dX5_readNumber_100 : decode cX5_readNumber 100 = .ok (.goto 4, 3) := by decide +kernel
theorem dX5_readNumber_103 : decode cX5_readNumber 103 = .ok (.iconst 0, 1) := by decide +kernel
theorem dX5_readNumber_104 : decode cX5_readNumber 104 = .ok (.ireturn, 1) := by decide +kernel
theorem dX5_readLetters_0 : decode cX5_readLetters 0 = .ok (.aload_n 0, 1) := by decide +kernel
theorem dX5_readLetters_1 : decode cX5_readLetters 1 = .ok (.iconst 0, 1) := by decide +kernel
theorem dX5_readLetters_2 : decode cX5_readLetters 2 = .ok (.putfield 64, 3) := by decide +kernel
theorem dX5_readLetters_5 : decode cX5_readLetters 5 = .ok (.aload_n 0, 1) := by decide +kernel
theorem dX5_readLetters_6 : decode cX5_readLetters 6 = .ok (.getfield 47, 3) := by decide +kernel
theorem dX5_readLetters_9 : decode cX5_readLetters 9 = .ok (.bipush 102, 2) := by decide +kernel
theorem dX5_readLetters_11 : decode cX5_readLetters 11 = .ok (.if_icmp .eq 14, 3) := by decide +kernel
theorem dX5_readLetters_14 : decode cX5_readLetters 14 = .ok (.aload_n 0, 1) := by decide +kernel
theorem dX5_readLetters_15 : decode cX5_readLetters 15 = .ok (.getfield 47, 3) := by decide +kernel
theorem dX5_readLetters_18 : decode cX5_readLetters 18 = .ok (.bipush 108, 2) := by decide +kernel
theorem dX5_readLetters_20 : decode cX5_readLetters 20 = .ok (.if_icmp .eq 5, 3) := by decide +kernel
theorem dX5_readLetters_23 : decode cX5_readLetters 23 = .ok (.iconst 1, 1) := by decide +kernel
theorem dX5_readLetters_24 : decode cX5_readLetters 24 = .ok (.ireturn, 1) := by decide +kernel
theorem dX5_readLetters_25 : decode cX5_readLetters 25 = .ok (.aload_n 0, 1) := by decide +kernel
theorem dX5_readLetters_26 : decode cX5_readLetters 26 = .ok (.getfield 47, 3) := by decide +kernel
theorem dX5_readLetters_29 : decode cX5_readLetters 29 = .ok (.bipush 102, 2) := by decide +kernel
theorem dX5_readLetters_31 : decode cX5_readLetters 31 = .ok (.if_icmp .ne 7, 3) := by decide +kernel
theorem dX5_readLetters_34 : decode cX5_readLetters 34 = .ok (.iconst 1, 1) := by decide +kernel
theorem dX5_readLetters_35 : decode cX5_readLetters 35 = .ok (.goto 4, 3) := by decide +kernel
theorem dX5_readLetters_38 : decode cX5_readLetters 38 = .ok (.iconst 0, 1) := by decide +kernel
theorem dX5_readLetters_39 : decode cX5_readLetters 39 = .ok (.istore_n 1, 1) := by decide +kernel
theorem dX5_readLetters_40 : decode cX5_readLetters 40 = .ok (.aload_n 0, 1) := by decide +kernel
theorem dX5_readLetters_41 : decode cX5_readLetters 41 = .ok (.getfield 47, 3) := by decide +kernel
theorem dX5_readLetters_44 : decode cX5_readLetters 44 = .ok (.bipush 102, 2) := by decide +kernel
theorem dX5_readLetters_46 : decode cX5_readLetters 46 = .ok (.if_icmp .ne 8, 3) := by decide +kernel
theorem dX5_readLetters_49 : decode cX5_readLetters 49 = .ok (.bipush 6, 2) := by decide +kernel
theorem dX5_readLetters_51 : decode cX5_readLetters 51 = .ok (.goto 5, 3) := by decide +kernel
theorem dX5_readLetters_54 : decode cX5_readLetters 54 = .ok (.bipush 40, 2) := by decide +kernel
theorem dX5_readLetters_56 : decode cX5_readLetters 56 = .ok (.istore_n 2, 1) := by decide +kernel
theorem dX5_readLetters_57 : decode cX5_readLetters 57 = .ok (.aload_n 0, 1) := by decide +kernel
theorem dX5_readLetters_58 : decode cX5_readLetters 58 = .ok (.invokevirtual 33, 3) := by decide +kernel
theorem dX5_readLetters_61 : decode cX5_readLetters 61 = .ok (.aload_n 0, 1) := by decide +kernel
theorem dX5_readLetters_62 : decode cX5_readLetters 62 = .ok (.invokevirtual 43, 3) := by decide +kernel
theorem dX5_readLetters_65 : decode cX5_readLetters 65 = .ok (.bipush 97, 2) := by decide +kernel
theorem dX5_readLetters_67 : decode cX5_readLetters 67 = .ok (.bipush 104, 2) := by decide +kernel
theorem dX5_readLetters_69 : decode cX5_readLetters 69 = .ok (.invokestatic 22, 3) := by decide +kernel
theorem dX5_readLetters_72 : decode cX5_readLetters 72 = .ok (.ifCond .eq 49, 3) := by decide +kernel
theorem dX5_readLetters_75 : decode cX5_readLetters 75 = .ok (.aload_n 0, 1) := by decide +kernel
theorem dX5_readLetters_76 : decode cX5_readLetters 76 = .ok (.getfield 64, 3) := by decide +kernel
theorem dX5_readLetters_79 : decode cX5_readLetters 79 = .ok (.iload_n 2, 1) := by decide +kernel
theorem dX5_readLetters_80 : decode cX5_readLetters 80 = .ok (.if_icmp .ge 41, 3) := by decide +kernel
theorem dX5_readLetters_83 : decode cX5_readLetters 83 = .ok (.aload_n 0, 1) := by decide +kernel
theorem dX5_readLetters_84 : decode cX5_readLetters 84 = .ok (.getfield 19, 3) := by decide +kernel
theorem dX5_readLetters_87 : decode cX5_readLetters 87 = .ok (.aload_n 0, 1) := by decide +kernel
theorem dX5_readLetters_88 : decode cX5_readLetters 88 = .ok (.dup, 1) := by decide +kernel
theorem dX5_readLetters_89 : decode cX5_readLetters 89 = .ok (.getfield 64, 3) := by decide +kernel
theorem dX5_readLetters_92 : decode cX5_readLetters 92 = .ok (.dup_x1, 1) := by decide +kernel
theorem dX5_readLetters_93 : decode cX5_readLetters 93 = .ok (.iconst 1, 1) := by decide +kernel
theorem dX5_readLetters_94 : decode cX5_readLetters 94 = .ok (.iadd, 1) := by decide +kernel
theorem dX5_readLetters_95 : decode cX5_readLetters 95 = .ok (.putfield 64, 3) := by decide +kernel
theorem dX5_readLetters_98 : decode cX5_readLetters 98 = .ok (.aload_n 0, 1) := by decide +kernel
theorem dX5_readLetters_99 : decode cX5_readLetters 99 = .ok (.invokevirtual 43, 3) := by decide +kernel
theorem dX5_readLetters_102 : decode cX5_readLetters 102 = .ok (.bipush 97, 2) := by decide +kernel
theorem dX5_readLetters_104 : decode cX5_readLetters 104 = .ok (.isub, 1) := by decide +kernel
theorem dX5_readLetters_105 : decode cX5_readLetters 105 = .ok (.iconst 1, 1) := by decide +kernel
theorem dX5_readLetters_106 : decode cX5_readLetters 106 = .ok (.iadd, 1) := by decide +kernel
theorem dX5_readLetters_107 : decode cX5_readLetters 107 = .ok (.iastore, 1) := by decide +kernel
theorem dX5_readLetters_108 : decode cX5_readLetters 108 = .ok (.aload_n 0, 1) := by decide +kernel
theorem dX5_readLetters_109 : decode cX5_readLetters 109 = .ok (.dup, 1) := by decide +kernel
theorem dX5_readLetters_110 : decode cX5_readLetters 110 = .ok (.getfield 30, 3) := by decide +kernel
theorem dX5_readLetters_113 : decode cX5_readLetters 113 = .ok (.iconst 1, 1) := by decide +kernel
theorem dX5_readLetters_114 : decode cX5_readLetters 114 = .ok (.iadd, 1) := by decide +kernel
theorem dX5_readLetters_115 : decode cX5_readLetters 115 = .ok (.putfield 30, 3) := by decide +kernel
theorem dX5_readLetters_118 : decode cX5_readLetters 118 = .ok (.goto (-57), 3) := by decide +kernel
theorem dX5_readLetters_121 : decode cX5_readLetters 121 = .ok (.aload_n 0, 1) := by decide +kernel
theorem dX5_readLetters_122 : decode cX5_readLetters 122 = .ok (.getfield 64, 3) := by decide +kernel
theorem dX5_readLetters_125 : decode cX5_readLetters 125 = .ok (.iload_n 1, 1) := by decide +kernel
theorem dX5_readLetters_126 : decode cX5_readLetters 126 = .ok (.if_icmp .lt 7, 3) := by decide +kernel
theorem dX5_readLetters_129 : decode cX5_readLetters 129 = .ok (.iconst 1, 1) := by decide +kernel
theorem dX5_readLetters_130 : decode cX5_readLetters 130 = .ok (.goto 4, 3) := by decide +kernel
theorem dX5_readLetters_133 : decode cX5_readLetters 133 = .ok (.iconst 0, 1) := by decide +kernel
theorem dX5_readLetters_134 : decode cX5_readLetters 134 = .ok (.ireturn, 1) := by decide +kernel
theorem dX5_lettersAsCode_0 : decode cX5_lettersAsCode 0 = .ok (.iconst 0, 1) := by decide +kernel
theorem dX5_lettersAsCode_1 : decode cX5_lettersAsCode 1 = .ok (.istore_n 1, 1) := by decide +kernel
theorem dX5_lettersAsCode_2 : decode cX5_lettersAsCode 2 = .ok (.iconst 0, 1) := by decide +kernel
theorem dX5_lettersAsCode_3 : decode cX5_lettersAsCode 3 = .ok (.istore_n 2, 1) := by decide +kernel
theorem dX5_lettersAsCode_4 : decode cX5_lettersAsCode 4 = .ok (.iload_n 2, 1) := by decide +kernel
theorem dX5_lettersAsCode_5 : decode cX5_lettersAsCode 5 = .ok (.aload_n 0, 1) := by decide +kernel
theorem dX5_lettersAsCode_6 : decode cX5_lettersAsCode 6 = .ok (.getfield 64, 3) := by decide +kernel
theorem dX5_lettersAsCode_9 : decode cX5_lettersAsCode 9 = .ok (.if_icmp .ge 27, 3) := by decide +kernel
theorem dX5_lettersAsCode_12 : decode cX5_lettersAsCode 12 = .ok (.iload_n 2, 1) := by decide +kernel
theorem dX5_lettersAsCode_13 : decode cX5_lettersAsCode 13 = .ok (.bipush 6, 2) := by decide +kernel
theorem dX5_lettersAsCode_15 : decode cX5_lettersAsCode 15 = .ok (.if_icmp .ge 21, 3) := by decide +kernel
theorem dX5_lettersAsCode_18 : decode cX5_lettersAsCode 18 = .ok (.iload_n 1, 1) := by decide +kernel
theorem dX5_lettersAsCode_19 : decode cX5_lettersAsCode 19 = .ok (.bipush 10, 2) := by decide +kernel
theorem dX5_lettersAsCode_21 : decode cX5_lettersAsCode 21 = .ok (.imul, 1) := by decide +kernel
theorem dX5_lettersAsCode_22 : decode cX5_lettersAsCode 22 = .ok (.aload_n 0, 1) := by decide +kernel
theorem dX5_lettersAsCode_23 : decode cX5_lettersAsCode 23 = .ok (.getfield 19, 3) := by decide +kernel
theorem dX5_lettersAsCode_26 : decode cX5_lettersAsCode 26 = .ok (.iload_n 2, 1) := by decide +kernel
theorem dX5_lettersAsCode_27 : decode cX5_lettersAsCode 27 = .ok (.iaload, 1) := by decide +kernel
theorem dX5_lettersAsCode_28 : decode cX5_lettersAsCode 28 = .ok (.iadd, 1) := by decide +kernel
theorem dX5_lettersAsCode_29 : decode cX5_lettersAsCode 29 = .ok (.istore_n 1, 1) := by decide +kernel
theorem dX5_lettersAsCode_30 : decode cX5_lettersAsCode 30 = .ok (.iinc 2 1, 3) := by decide +kernel
theorem dX5_lettersAsCode_33 : decode cX5_lettersAsCode 33 = .ok (.goto (-29), 3) := by decide +kernel
theorem dX5_lettersAsCode_36 : decode cX5_lettersAsCode 36 = .ok (.iload_n 1, 1) := by decide +kernel
theorem dX5_lettersAsCode_37 : decode cX5_lettersAsCode 37 = .ok (.ireturn, 1) := by decide +kernel
theorem dX5_byteHere_0 : decode cX5_byteHere 0 = .ok (.aload_n 0, 1) := by decide +kernel
theorem dX5_byteHere_1 : decode cX5_byteHere 1 = .ok (.getfield 30, 3) := by decide +kernel
theorem dX5_byteHere_4 : decode cX5_byteHere 4 = .ok (.ifCond .lt 26, 3) := by decide +kernel
theorem dX5_byteHere_7 : decode cX5_byteHere 7 = .ok (.aload_n 0, 1) := by decide +kernel
theorem dX5_byteHere_8 : decode cX5_byteHere 8 = .ok (.getfield 30, 3) := by decide +kernel
theorem dX5_byteHere_11 : decode cX5_byteHere 11 = .ok (.aload_n 0, 1) := by decide +kernel
theorem dX5_byteHere_12 : decode cX5_byteHere 12 = .ok (.getfield 26, 3) := by decide +kernel
theorem dX5_byteHere_15 : decode cX5_byteHere 15 = .ok (.if_icmp .ge 15, 3) := by decide +kernel
theorem dX5_byteHere_18 : decode cX5_byteHere 18 = .ok (.aload_n 0, 1) := by decide +kernel
theorem dX5_byteHere_19 : decode cX5_byteHere 19 = .ok (.getfield 9, 3) := by decide +kernel
theorem dX5_byteHere_22 : decode cX5_byteHere 22 = .ok (.aload_n 0, 1) := by decide +kernel
theorem dX5_byteHere_23 : decode cX5_byteHere 23 = .ok (.getfield 30, 3) := by decide +kernel
theorem dX5_byteHere_26 : decode cX5_byteHere 26 = .ok (.baload, 1) := by decide +kernel
theorem dX5_byteHere_27 : decode cX5_byteHere 27 = .ok (.goto 4, 3) := by decide +kernel
theorem dX5_byteHere_30 : decode cX5_byteHere 30 = .ok (.iconst (-1), 1) := by decide +kernel
theorem dX5_byteHere_31 : decode cX5_byteHere 31 = .ok (.ireturn, 1) := by decide +kernel
theorem dX5_skipBlanks_0 : decode cX5_skipBlanks 0 = .ok (.aload_n 0, 1) := by decide +kernel
theorem dX5_skipBlanks_1 : decode cX5_skipBlanks 1 = .ok (.getfield 30, 3) := by decide +kernel
theorem dX5_skipBlanks_4 : decode cX5_skipBlanks 4 = .ok (.aload_n 0, 1) := by decide +kernel
theorem dX5_skipBlanks_5 : decode cX5_skipBlanks 5 = .ok (.getfield 26, 3) := by decide +kernel
theorem dX5_skipBlanks_8 : decode cX5_skipBlanks 8 = .ok (.if_icmp .ge 30, 3) := by decide +kernel
theorem dX5_skipBlanks_11 : decode cX5_skipBlanks 11 = .ok (.aload_n 0, 1) := by decide +kernel
theorem dX5_skipBlanks_12 : decode cX5_skipBlanks 12 = .ok (.getfield 9, 3) := by decide +kernel
theorem dX5_skipBlanks_15 : decode cX5_skipBlanks 15 = .ok (.aload_n 0, 1) := by decide +kernel
theorem dX5_skipBlanks_16 : decode cX5_skipBlanks 16 = .ok (.getfield 30, 3) := by decide +kernel
theorem dX5_skipBlanks_19 : decode cX5_skipBlanks 19 = .ok (.baload, 1) := by decide +kernel
theorem dX5_skipBlanks_20 : decode cX5_skipBlanks 20 = .ok (.bipush 32, 2) := by decide +kernel
theorem dX5_skipBlanks_22 : decode cX5_skipBlanks 22 = .ok (.if_icmp .ne 16, 3) := by decide +kernel
theorem dX5_skipBlanks_25 : decode cX5_skipBlanks 25 = .ok (.aload_n 0, 1) := by decide +kernel
theorem dX5_skipBlanks_26 : decode cX5_skipBlanks 26 = .ok (.dup, 1) := by decide +kernel
theorem dX5_skipBlanks_27 : decode cX5_skipBlanks 27 = .ok (.getfield 30, 3) := by decide +kernel
theorem dX5_skipBlanks_30 : decode cX5_skipBlanks 30 = .ok (.iconst 1, 1) := by decide +kernel
theorem dX5_skipBlanks_31 : decode cX5_skipBlanks 31 = .ok (.iadd, 1) := by decide +kernel
theorem dX5_skipBlanks_32 : decode cX5_skipBlanks 32 = .ok (.putfield 30, 3) := by decide +kernel
theorem dX5_skipBlanks_35 : decode cX5_skipBlanks 35 = .ok (.goto (-35), 3) := by decide +kernel
theorem dX5_skipBlanks_38 : decode cX5_skipBlanks 38 = .ok (.return_, 1) := by decide +kernel
theorem dX5_isFigure_0 : decode cX5_isFigure 0 = .ok (.iload_n 0, 1) := by decide +kernel
theorem dX5_isFigure_1 : decode cX5_isFigure 1 = .ok (.bipush 48, 2) := by decide +kernel
theorem dX5_isFigure_3 : decode cX5_isFigure 3 = .ok (.bipush 57, 2) := by decide +kernel
theorem dX5_isFigure_5 : decode cX5_isFigure 5 = .ok (.invokestatic 22, 3) := by decide +kernel
theorem dX5_isFigure_8 : decode cX5_isFigure 8 = .ok (.ireturn, 1) := by decide +kernel
theorem dJ9_max_f86c9_0 : decode cJ9_max_f86c9 0 = .ok (.lload_n 0, 1) := by decide +kernel
theorem dJ9_max_f86c9_1 : decode cJ9_max_f86c9 1 = .ok (.lload_n 2, 1) := by decide +kernel
theorem dJ9_max_f86c9_2 : decode cJ9_max_f86c9 2 = .ok (.lcmp, 1) := by decide +kernel
theorem dJ9_max_f86c9_3 : decode cJ9_max_f86c9 3 = .ok (.ifCond .lt 7, 3) := by decide +kernel
theorem dJ9_max_f86c9_6 : decode cJ9_max_f86c9 6 = .ok (.lload_n 0, 1) := by decide +kernel
theorem dJ9_max_f86c9_7 : decode cJ9_max_f86c9 7 = .ok (.goto 4, 3) := by decide +kernel
theorem dJ9_max_f86c9_10 : decode cJ9_max_f86c9 10 = .ok (.lload_n 2, 1) := by decide +kernel
theorem dJ9_max_f86c9_11 : decode cJ9_max_f86c9 11 = .ok (.lreturn, 1) := by decide +kernel
theorem dJ9_min_7cf53_0 : decode cJ9_min_7cf53 0 = .ok (.iload_n 0, 1) := by decide +kernel
theorem dJ9_min_7cf53_1 : decode cJ9_min_7cf53 1 = .ok (.iload_n 1, 1) := by decide +kernel
theorem dJ9_min_7cf53_2 : decode cJ9_min_7cf53 2 = .ok (.if_icmp .gt 7, 3) := by decide +kernel
theorem dJ9_min_7cf53_5 : decode cJ9_min_7cf53 5 = .ok (.iload_n 0, 1) := by decide +kernel
theorem dJ9_min_7cf53_6 : decode cJ9_min_7cf53 6 = .ok (.goto 4, 3) := by decide +kernel
theorem dJ9_min_7cf53_9 : decode cJ9_min_7cf53 9 = .ok (.iload_n 1, 1) := by decide +kernel
theorem dJ9_min_7cf53_10 : decode cJ9_min_7cf53 10 = .ok (.ireturn, 1) := by decide +kernel
theorem dJ7_fill_d0a16_0 : decode cJ7_fill_d0a16 0 = .ok (.iconst 0, 1) := by decide +kernel
theorem dJ7_fill_d0a16_1 : decode cJ7_fill_d0a16 1 = .ok (.istore_n 3, 1) := by decide +kernel
theorem dJ7_fill_d0a16_2 : decode cJ7_fill_d0a16 2 = .ok (.aload_n 0, 1) := by decide +kernel
theorem dJ7_fill_d0a16_3 : decode cJ7_fill_d0a16 3 = .ok (.arraylength, 1) := by decide +kernel
theorem dJ7_fill_d0a16_4 : decode cJ7_fill_d0a16 4 = .ok (.istore 4, 2) := by decide +kernel
theorem dJ7_fill_d0a16_6 : decode cJ7_fill_d0a16 6 = .ok (.iload_n 3, 1) := by decide +kernel
theorem dJ7_fill_d0a16_7 : decode cJ7_fill_d0a16 7 = .ok (.iload 4, 2) := by decide +kernel
theorem dJ7_fill_d0a16_9 : decode cJ7_fill_d0a16 9 = .ok (.if_icmp .ge 13, 3) := by decide +kernel
theorem dJ7_fill_d0a16_12 : decode cJ7_fill_d0a16 12 = .ok (.aload_n 0, 1) := by decide +kernel
theorem dJ7_fill_d0a16_13 : decode cJ7_fill_d0a16 13 = .ok (.iload_n 3, 1) := by decide +kernel
theorem dJ7_fill_d0a16_14 : decode cJ7_fill_d0a16 14 = .ok (.lload_n 1, 1) := by decide +kernel
theorem dJ7_fill_d0a16_15 : decode cJ7_fill_d0a16 15 = .ok (.lastore, 1) := by decide +kernel
theorem dJ7_fill_d0a16_16 : decode cJ7_fill_d0a16 16 = .ok (.iinc 3 1, 3) := by decide +kernel
theorem dJ7_fill_d0a16_19 : decode cJ7_fill_d0a16 19 = .ok (.goto (-13), 3) := by decide +kernel
theorem dJ7_fill_d0a16_22 : decode cJ7_fill_d0a16 22 = .ok (.return_, 1) := by decide +kernel
theorem dJ7_fill_53178_0 : decode cJ7_fill_53178 0 = .ok (.iconst 0, 1) := by decide +kernel
theorem dJ7_fill_53178_1 : decode cJ7_fill_53178 1 = .ok (.istore_n 2, 1) := by decide +kernel
theorem dJ7_fill_53178_2 : decode cJ7_fill_53178 2 = .ok (.aload_n 0, 1) := by decide +kernel
theorem dJ7_fill_53178_3 : decode cJ7_fill_53178 3 = .ok (.arraylength, 1) := by decide +kernel
theorem dJ7_fill_53178_4 : decode cJ7_fill_53178 4 = .ok (.istore_n 3, 1) := by decide +kernel
theorem dJ7_fill_53178_5 : decode cJ7_fill_53178 5 = .ok (.iload_n 2, 1) := by decide +kernel
theorem dJ7_fill_53178_6 : decode cJ7_fill_53178 6 = .ok (.iload_n 3, 1) := by decide +kernel
theorem dJ7_fill_53178_7 : decode cJ7_fill_53178 7 = .ok (.if_icmp .ge 13, 3) := by decide +kernel
theorem dJ7_fill_53178_10 : decode cJ7_fill_53178 10 = .ok (.aload_n 0, 1) := by decide +kernel
theorem dJ7_fill_53178_11 : decode cJ7_fill_53178 11 = .ok (.iload_n 2, 1) := by decide +kernel
theorem dJ7_fill_53178_12 : decode cJ7_fill_53178 12 = .ok (.iload_n 1, 1) := by decide +kernel
theorem dJ7_fill_53178_13 : decode cJ7_fill_53178 13 = .ok (.iastore, 1) := by decide +kernel
theorem dJ7_fill_53178_14 : decode cJ7_fill_53178 14 = .ok (.iinc 2 1, 3) := by decide +kernel
theorem dJ7_fill_53178_17 : decode cJ7_fill_53178 17 = .ok (.goto (-12), 3) := by decide +kernel
theorem dJ7_fill_53178_20 : decode cJ7_fill_53178 20 = .ok (.return_, 1) := by decide +kernel
